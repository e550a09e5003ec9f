/-! PURE: kingdom; a line, and all of them -/
section KG7
variable {sh : List (Nat × Nat)} {V V' V1 V2 W W' W1 W2 : Int → Int → Int} {S R : Int → Int} {τ : Nat → Int} {N p q n : Nat}
def lnT2 (μ3 : Mem) : Option (Int × Mem) :=
  bd (isk 12 μ3 101) fun _ =>
  bd2 (M_must 101 11 μ3) fun _ μ33 =>
  bd (getf 12 4 μ33 101) fun x34 =>
  bd (lda 20 μ33 x34 6) fun x35 =>
  bd (sta 20 μ33 x34 6 (w32 (x35 + 1))) fun μ36 =>
  some (0, μ36)
theorem eats_no (H : Sh sh) {x : Int} (h : ¬ (W 101 11 = 0 ∧ W 101 9 = x)) : M_eats 101 x (sh, setR W 102 S) = some (0, (sh, setR W 102 S)) := by
  unfold M_eats
  rw [bi101 H, is_ok H, bd2_mk, B_f h, if_pos rfl]
theorem eats_yes (H : Sh sh) {x : Int} (h : W 101 11 = 0 ∧ W 101 9 = x) (hn : M_next 101 (sh, setR W 102 S) = some (0, (sh, setR W' 102 S))) : M_eats 101 x (sh, setR W 102 S) = some (1, (sh, setR W' 102 S)) := by
  unfold M_eats
  rw [bi101 H, is_ok H, bd2_mk, B_t h, if_neg (by decide), bi101 H, hn, bd2_mk]
theorem body_ok (H : Sh sh) (h : CU V W τ N p) (D : DR V W) (L : LOk (W 105)) : ∃ y V1 W1, Rd_readLine 37 (sh, V) = some (y, (sh, V1)) ∧ M_readLine 101 (sh, setR W 102 S) = lnT2 (sh, setR W1 102 S) ∧ LR V W V1 W1 τ N (p + 1) := by
  obtain ⟨C, M, ⟨v1, v2⟩, Q, hp, w11, X, n12, n13⟩ := id h
  have wk := X.2.2.1
  have word : ∀ n : Nat, n < 9 → ∃ y, Rd_isWord 37 (-2 - (n : Int)) (sh, V) = some (y, (sh, V)) ∧ y = B (tK τ N p = n) := fun n hn => by
    obtain ⟨y, y1, y2⟩ := word_ok (n := n) H C hp Q hn
    exact ⟨y, y1, y2 n13⟩
  obtain ⟨y0, a0, b0⟩ := word 0 (by decide)
  obtain ⟨y1, a1, b1⟩ := word 1 (by decide)
  obtain ⟨y2, a2, b2⟩ := word 2 (by decide)
  obtain ⟨y3, a3, b3⟩ := word 3 (by decide)
  obtain ⟨y4, a4, b4⟩ := word 4 (by decide)
  obtain ⟨y6, a6, b6⟩ := word 6 (by decide)
  subst b0; subst b1; subst b2; subst b3; subst b4; subst b6
  have iso : ∀ x : Int, ¬ (W 101 11 = 0 ∧ W 101 9 = x) → M_is 101 x (sh, setR W 102 S) = some (0, (sh, setR W 102 S)) := fun x hx => by rw [is_ok H, B_f hx]
  have isy : ∀ x : Int, W 101 9 = x → M_is 101 x (sh, setR W 102 S) = some (1, (sh, setR W 102 S)) := fun x hx => by rw [is_ok H, B_t ⟨w11, hx⟩]
  unfold Rd_readLine M_readLine
  rw [ri37 H, a0, bd2_mk, bi101 H]
  by_cases k0 : tK τ N p = 0
  · obtain ⟨y, V1, W1, c1, c2, c3⟩ := towns_ok (S := S) H h D L
    rw [B_t k0, if_neg (by decide), ri37 H, c1, bd2_mk, isy 0 (by omega), bd2_mk, if_neg (by decide), bi101 H, c2, bd2_mk, bd_mk]
    exact ⟨0, V1, W1, rfl, rfl, c3⟩
  · rw [B_f k0, if_pos rfl, ri37 H, a1, bd2_mk, iso 0 (by omega), bd2_mk, if_pos rfl, bi101 H]
    by_cases k1 : tK τ N p = 1
    · obtain ⟨y, V1, W1, c1, c2, c3⟩ := home_ok (S := S) H h D L
      rw [B_t k1, if_neg (by decide), ri37 H, c1, bd2_mk, isy 1 (by omega), bd2_mk, if_neg (by decide), bi101 H, c2, bd2_mk, bd_mk]
      exact ⟨0, V1, W1, rfl, rfl, c3⟩
    · rw [B_f k1, if_pos rfl, ri37 H, a2, bd2_mk, iso 1 (by omega), bd2_mk, if_pos rfl, bi101 H]
      by_cases k2 : tK τ N p = 2
      · obtain ⟨y, V1, W1, c1, ⟨W2, g1, g2, g3⟩, c3⟩ := one_ok (S := S) (lo := 1) (hi := 360) (j := 2) H h D L (by decide) (by decide) (fun l x0 x1 => LOk_2 l x0 x1)
        rw [B_t k2, if_neg (by decide), c1, eats_yes H ⟨w11, by omega⟩ g2, bd2_mk, if_neg (by decide), g3, bd_mk]
        exact ⟨y, V1, W1, rfl, rfl, c3⟩
      · rw [B_f k2, if_pos rfl, ri37 H, a3, bd2_mk, eats_no H (by omega), bd2_mk, if_pos rfl, bi101 H]
        by_cases k3 : tK τ N p = 3
        · obtain ⟨y, V1, W1, c1, ⟨W2, g1, g2, g3⟩, c3⟩ := one_ok (S := S) (lo := 0) (hi := 100) (j := 3) H h D L (by decide) (by decide) (fun l x0 x1 => LOk_3 l x0 x1)
          rw [B_t k3, if_neg (by decide), c1, eats_yes H ⟨w11, by omega⟩ g2, bd2_mk, if_neg (by decide), g3, bd_mk]
          exact ⟨y, V1, W1, rfl, rfl, c3⟩
        · rw [B_f k3, if_pos rfl, ri37 H, a4, bd2_mk, eats_no H (by omega), bd2_mk, if_pos rfl, bi101 H]
          by_cases k4 : tK τ N p = 4
          · obtain ⟨y, V1, W1, c1, c2, c3⟩ := summer_ok (S := S) H h D L
            rw [B_t k4, if_neg (by decide), c1, isy 4 (by omega), bd2_mk, if_neg (by decide), bi101 H, c2, bd2_mk, bd_mk]
            exact ⟨y, V1, W1, rfl, rfl, c3⟩
          · rw [B_f k4, if_pos rfl, ri37 H, a6, bd2_mk, iso 4 (by omega), bd2_mk, if_pos rfl, bi101 H]
            by_cases k6 : tK τ N p = 6
            · obtain ⟨y, V1, W1, c1, c2, c3⟩ := road_ok (S := S) H h D L
              rw [B_t k6, if_neg (by decide), ri37 H, c1, bd2_mk, isy 6 (by omega), bd2_mk, if_neg (by decide), bi101 H, c2, bd2_mk, bd_mk]
              exact ⟨0, V1, W1, rfl, rfl, c3⟩
            · obtain ⟨V1, W1, c1, c2, c3, c4, c5⟩ := fail_CU (S := S) H h (x := 2) (by decide)
              rw [B_f k6, if_pos rfl, ri37 H, c1, bd2_mk, iso 6 (by omega), bd2_mk, if_pos rfl, bi101 H, c2, bd2_mk, bd_mk]
              exact ⟨0, V1, W1, rfl, rfl, FA_FD c3, KN_KD c4, Or.inr c5, fun w => absurd w c5.2.2.1⟩
theorem line_ok (H : Sh sh) (h : CU V W τ N p) (D : DR V W) (L : LOk (W 105)) : ∃ V' W', (∀ F : Mem → Option (Int × Mem), (bd2 (Rd_readLine 37 (sh, V)) fun _ μ7 =>
          bd (isk 3 μ7 37) fun _ =>
          bd2 (Rd_expectSign 37 μ7) fun _ μ9 =>
          bd (getf 3 0 μ9 37) fun x10 =>
          bd (getf 1 6 μ9 x10) fun x11 =>
          bd (putf 1 6 μ9 x10 (w32 (x11 + 1))) fun μ12 => F μ12) = F (sh, V')) ∧ M_readLine 101 (sh, setR W 102 S) = some (0, (sh, setR W' 102 S)) ∧ LR V W V' W' τ N (p + 1) := by
  obtain ⟨y, V1, W1, a1, a2, a3, a4, a5, a6⟩ := body_ok (S := S) H h D L
  obtain ⟨ys, V2, W2, b1, b2, b3, b4, b5, b6, b7⟩ := sign_St (S := S) H a5
  obtain ⟨C2, M2, -⟩ := St_base b5
  refine ⟨upV V2 38 6 (w32 (V2 38 6 + 1)), upV W2 105 6 (w32 (W2 105 6 + 1)), fun F => ?_, ?_, put_ok b5 (FD_trans a3 (FA_FD b3)) (KD_trans a4 (KN_KD b4)) (by decide) (by decide) (fun z => ?_)⟩
  · rw [a1, bd2_mk, ri37 H, b1, bd2_mk, rg37 H, C2.2.1, rg38 H, rp38 H]
  · rw [a2]; unfold lnT2
    rw [bi101 H, b2, bd2_mk, fr4 H M2, ml105 H (by decide) (by decide), ms105 H (by decide) (by decide)]
  · obtain ⟨D1, L1⟩ := a6 (b6 z)
    have D2 := DR_keep D1 b3 b4
    have e := D2.1 6 (by decide) (by decide)
    exact ⟨by rw [e], DR_up D2 (by decide) (by decide), LOk_6 (LOk_keep L1 b4)⟩
/-- a bad token, in the reference -/
theorem bad_M (H : Sh sh) (M : MRd W τ N) (hp : p ≤ N) (w11 : W 101 11 = 0) (X : Nxt W τ N p) (k : tK τ N p = 13) : ∃ W', M_readLine 101 (sh, setR W 102 S) = some (0, (sh, setR W' 102 S)) ∧ KD W W' ∧ W' 101 11 = 1 ∧ W' 101 12 = tA τ N p := by
  have wk := X.2.2.1
  obtain ⟨W1, f1, f2, f3, f4, f5, f6, f7, f8⟩ := fails_ok (S := S) (x := 2) H w11
  rw [if_pos (by omega)] at f6
  have iso : ∀ x : Int, x < 13 → M_is 101 x (sh, setR W 102 S) = some (0, (sh, setR W 102 S)) := fun x hx => by rw [is_ok H, B_f (by omega)]
  have M1 := KN_MRd f1 M
  unfold M_readLine
  rw [bi101 H, iso 0 (by decide), bd2_mk, if_pos rfl, bi101 H, iso 1 (by decide), bd2_mk, if_pos rfl, bi101 H, eats_no H (by omega), bd2_mk, if_pos rfl, bi101 H, eats_no H (by omega), bd2_mk, if_pos rfl, bi101 H, iso 4 (by decide), bd2_mk, if_pos rfl, bi101 H, iso 6 (by decide), bd2_mk, if_pos rfl, bi101 H, f8, bd2_mk, bd_mk, bi101 H, must_no H (by omega), bd2_mk, fr4 H M1, ml105 H (by decide) (by decide), ms105 H (by decide) (by decide)]
  exact ⟨_, rfl, KD_trans (KN_KD f1) KD_up, by rw [up_row (by decide)]; exact f6, by rw [up_row (by decide), f7]; exact X.1⟩
theorem St_mono {q' : Nat} (h : KSt V W τ N q) (hq : q' ≤ q) : KSt V W τ N q' := by
  rcases h with ⟨p, h1, h2⟩ | h
  · exact Or.inl ⟨p, by omega, h2⟩
  · exact Or.inr h
/-- all lines, both -/
theorem lines_ok (H : Sh sh) : ∀ (n l : Nat) (V W : Int → Int → Int), KSt V W τ N l → 1 ≤ n → (V 37 1 = 0 → N + 2 < n + l) → l ≤ 1000 → (V 37 1 = 0 → DR V W ∧ LOk (W 105)) → ∃ V' W', Rd_read_L39 n 37 l (sh, V) = some (0, (sh, V')) ∧ (∀ kk, M_kingdom_L53 kk n 101 (sh, setR W 102 S) = kk 101 (sh, setR W' 102 S)) ∧ FD V V' ∧ KD W W' ∧ V' 37 1 = W' 101 11 ∧ (V' 37 1 ≠ 0 → V' 37 2 = W' 101 12) ∧ (V' 37 1 = 0 → V' 37 2 = -1 ∧ DR V' W' ∧ LOk (W' 105)) := by
  intro n
  induction n with
  | zero => intro l V W _ h; omega
  | succ n ih =>
    intro l V W h _ hn hl1 hd
    rcases h with ⟨p, hq, C, M, ⟨v1, v2⟩, v6, hp, w11, Q⟩ | ⟨C, M, v1, w11, w12, p, v6, hp⟩
    · have hn := hn v1
      obtain ⟨D, L⟩ := hd v1
      obtain ⟨V1, F1, Q1, a1, a2, a3⟩ := advance_ok H C v6 hp
      have C1 := FA_CRd F1 C
      have D1 := DR_keep D F1 KN_refl
      have cN := C.1
      have wl : w32 ((l : Int) + 1) = ((l + 1 : Nat) : Int) := by rw [w32_id (by omega) (by omega)]; omega
      have kl := tK_le (τ := τ) (N := N) (p := p)
      rw [Rd_read_L39, rg37 H, C.2.2.2.1, if_neg (by omega), ri37 H, a3, bd2_mk, rg37 H]
      by_cases k13 : tK τ N p = 13
      · rw [if_pos ⟨k13, v1⟩] at a1 a2
        obtain ⟨W1, b1, b2, b3, b4⟩ := bad_M (S := S) H M hp w11 Q k13
        rw [if_neg (by omega)]
        refine ⟨V1, W1, rfl, fun kk => ?_, FA_FD F1, b2, by omega, fun _ => by omega, fun z => by omega⟩
        obtain ⟨n', hn'⟩ : ∃ n', n = n' + 1 := ⟨n - 1, by omega⟩
        rw [M_kingdom_L53, bg101 H, if_pos w11, bg101 H, Q.2.2.1, if_neg (by omega), bi101 H, b1, bd2_mk, hn', M_kingdom_L53, bg101 H, if_neg (by omega)]
      · rw [if_neg (fun z => k13 z.1)] at a1 a2
        rw [if_pos (by omega), rg37 H]
        by_cases k12 : tK τ N p = 12
        · rw [if_pos (Q1.2.2.1 k12)]
          refine ⟨V1, W, rfl, fun kk => ?_, FA_FD F1, KD_refl, by omega, fun z => absurd (by omega) z, fun _ => ⟨by omega, D1, L⟩⟩
          rw [M_kingdom_L53, bg101 H, if_pos w11, bg101 H, Q.2.2.1, if_pos (by omega)]
        · have k7 : V1 37 7 ≠ 0 := fun z => by
            obtain ⟨q1, q2, q3, q4, q5, q6⟩ := Q1
            by_cases g1 : tK τ N p ≤ 9
            · have := q4 g1; omega
            · by_cases g2 : tK τ N p = 10
              · have := (q5 g2).1; omega
              · have := q6 (by omega); omega
          have hcu : CU V1 W τ N p := ⟨C1, M, ⟨by omega, by omega⟩, Q1, hp, w11, Q, k12, k13⟩
          obtain ⟨V2, W2, b1, b2, b3, b4, b5, b6⟩ := line_ok (S := S) H hcu D1 L
          obtain ⟨V', W', c1, c2, c3, c4, c5, c6, c7⟩ := ih (l + 1) V2 W2 (St_mono b5 (by omega)) (by omega) (fun _ => by omega) (by omega) b6
          rw [if_neg k7, ri37 H, b1, wl]
          refine ⟨V', W', c1, fun kk => ?_, FD_trans (FA_FD F1) (FD_trans b3 c3), KD_trans b4 c4, c5, c6, c7⟩
          rw [M_kingdom_L53, bg101 H, if_pos w11, bg101 H, Q.2.2.1, if_neg (by omega), bi101 H, b2, bd2_mk]
          exact c2 kk
    · have mr : ∀ kk, M_kingdom_L53 kk (n + 1) 101 (sh, setR W 102 S) = kk 101 (sh, setR W 102 S) := fun kk => by
        rw [M_kingdom_L53, bg101 H, if_neg (by omega)]
      rw [Rd_read_L39, rg37 H, C.2.2.2.1]
      by_cases g : (N : Int) < l
      · rw [if_pos g]
        exact ⟨V, W, rfl, mr, FD_refl, KD_refl, by omega, fun _ => by omega, fun z => absurd z v1⟩
      · obtain ⟨V1, F1, Q1, a1, a2, a3⟩ := advance_ok H C v6 hp
        rw [if_neg (fun z => v1 z.2)] at a1 a2
        rw [if_neg g, ri37 H, a3, bd2_mk, rg37 H, if_neg (by omega)]
        exact ⟨V1, W, rfl, mr, FA_FD F1, KD_refl, by omega, fun _ => by omega, fun z => by omega⟩
end KG7
