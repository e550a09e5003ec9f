/-! PURE: forged, feed -/
section FORGED
variable {sh : List (Nat × Nat)} {V V' V1 V2 V2' : Int → Int → Int} {r t m s c i j d k x a b y D D' f p w bk v tb q : Int} {S S' R : Int → Int} {n : Nat} {ρ : Nat → Int}
/-- the numbers of a row are slips -/
def isSl (S : Int → Int) (ρ : Nat → Int) (N : Nat) : Prop := ∀ k, k < N → 0 ≤ ρ k ∧ ρ k < 2 * S 7
theorem slips_T (X : Cx sh V S D) (g0 : 0 ≤ w) (g1 : w < 4) {N : Nat} (hN : N ≤ 40) (hw : V (93 + 2 * w) 1 = N) (hρ : ∀ k : Nat, k < N → V (94 + 2 * w) k = ρ k) : ∀ (n z : Nat), z ≤ N → N - z < n → ((∀ k, z ≤ k → k < N → 0 ≤ ρ k ∧ ρ k < 2 * S 7) ∧ T_slipsRefusal_L43 n 0 w z (sh, V) = some (0, (sh, V))) ∨ (¬ (∀ k, z ≤ k → k < N → 0 ≤ ρ k ∧ ρ k < 2 * S 7) ∧ T_slipsRefusal_L43 n 0 w z (sh, V) = some (-3, (sh, V))) := by
  have H := X.1
  have P := X.2.1
  obtain ⟨r1, r2, r3, r4, r5, r6, r7⟩ := Cx_rng X
  intro n
  induction n with
  | zero => intro z _ h; omega
  | succ n ih =>
    intro z hz hn
    rw [T_slipsRefusal_L43, b06 X, b36w H P g0 g1, bnf H g0 g1, hw]
    by_cases h : (z : Int) < (N : Int)
    · rw [if_pos h, b06 X, b36w H P g0 g1, bni H g0 g1, Nu_smallAt_b H P g0 g1 (by omega) (by omega), hρ z (by omega)]
      unfold sm
      by_cases q : 0 ≤ ρ z ∧ ρ z < 48
      · rw [if_pos q, if_neg (c := ρ z < 0) (by omega), b04 X, b20 X, bi3 X, shr1 q.1 (by omega), x_hasRoad X]
        by_cases q' : ρ z < 2 * S 7
        · rw [B_t (by omega), if_neg (by decide), w32_id (by omega) (by omega)]
          rcases ih (z + 1) (by omega) (by omega) with ⟨e1, e2⟩ | ⟨e1, e2⟩
          · refine Or.inl ⟨fun k k0 k1 => ?_, e2⟩
            by_cases e : k = z
            · subst e; omega
            · exact e1 k (by omega) k1
          · exact Or.inr ⟨fun q => e1 (fun k k0 k1 => q k (by omega) k1), e2⟩
        · rw [B_f (by omega), if_pos rfl]
          exact Or.inr ⟨fun q2 => by have := q2 z (by omega) (by omega); omega, rfl⟩
      · rw [if_neg q, if_pos (by decide)]
        exact Or.inr ⟨fun q2 => by have := q2 z (by omega) (by omega); omega, rfl⟩
    · rw [if_neg h]
      exact Or.inl ⟨fun k k0 k1 => by omega, rfl⟩
theorem slips_M (H : Sh sh) (P : PM V) (h3 : 0 ≤ S 7) (h4 : S 7 ≤ 24) (g0 : 0 ≤ w) (g1 : w < 4) {N : Nat} (hN : N ≤ 40) (hw : V 129 w = N) (hρ : ∀ k : Nat, k < N → V 130 (40 * w + k) = ρ k) : ∀ (n z : Nat), z ≤ N → N - z < n → ((∀ k, z ≤ k → k < N → 0 ≤ ρ k ∧ ρ k < 2 * S 7) ∧ M_isSlips_L2 n 101 w z (sh, setR V 102 S) = some (1, (sh, setR V 102 S))) ∨ (¬ (∀ k, z ≤ k → k < N → 0 ≤ ρ k ∧ ρ k < 2 * S 7) ∧ M_isSlips_L2 n 101 w z (sh, setR V 102 S) = some (0, (sh, setR V 102 S))) := by
  intro n
  induction n with
  | zero => intro z _ h; omega
  | succ n ih =>
    intro z hz hn
    rw [M_isSlips_L2, bg101 H, q_101_50 P, ml129 H g0 g1, hw]
    by_cases h : (z : Int) < (N : Int)
    · rw [if_pos h, bg101 H, q_101_51 P, w32_id (x := 40 * w) (by omega) (by omega), w32_id (x := 40 * w + z) (by omega) (by omega), ml130 H (by omega) (by omega), hρ z (by omega), bg101 H, blp P H (by decide) (by decide), w32_id (x := 2 * S 7) (by omega) (by omega), w32_id (x := 2 * S 7 - 1) (by omega) (by omega), M_within_b]
      by_cases q : 0 ≤ ρ z ∧ ρ z < 2 * S 7
      · rw [B_t (by omega), if_neg (by decide), w32_id (by omega) (by omega)]
        rcases ih (z + 1) (by omega) (by omega) with ⟨e1, e2⟩ | ⟨e1, e2⟩
        · refine Or.inl ⟨fun k k0 k1 => ?_, e2⟩
          by_cases e : k = z
          · subst e; omega
          · exact e1 k (by omega) k1
        · exact Or.inr ⟨fun q => e1 (fun k k0 k1 => q k (by omega) k1), e2⟩
      · rw [B_f (by omega), if_pos rfl]
        exact Or.inr ⟨fun q2 => q (q2 z (by omega) (by omega)), rfl⟩
    · rw [if_neg h]
      exact Or.inl ⟨fun k k0 k1 => by omega, rfl⟩
/-- the first place that can't be, from z on; below: the slip below -/
def fgF (S : Int → Int) (ρ : Nat → Int) : Nat → Nat → Int → Int → Int
  | 0, _, _, _ => -1
  | m + 1, z, town, below => if sTail S (ρ z) = town ∧ ¬ (below ≠ -1 ∧ ρ z = sXor below) then fgF S ρ m (z + 1) (sHead S (ρ z)) (ρ z) else z
theorem fg_T (X : Cx sh V S D) (g0 : 0 ≤ w) (g1 : w < 4) {N : Nat} (hN : N ≤ 40) (hw : V (93 + 2 * w) 1 = N) (hρ : ∀ k : Nat, k < N → V (94 + 2 * w) k = ρ k) (hs : isSl S ρ N) : ∀ (n z : Nat) (t b : Int), z ≤ N → N - z < n → -1 ≤ b → b < 48 → T_forgedPlace_L16 n 0 (93 + 2 * w) t b z (sh, V) = some (fgF S ρ (N - z) z t b, (sh, V)) := by
  have H := X.1
  have P := X.2.1
  obtain ⟨r1, r2, r3, r4, r5, r6, r7⟩ := Cx_rng X
  intro n
  induction n with
  | zero => intro z _ _ _ h; omega
  | succ n ih =>
    intro z t b hz hn hb hb'
    rw [T_forgedPlace_L16, bnf H g0 g1, hw]
    by_cases h : (z : Int) < (N : Int)
    · obtain ⟨s1, s2⟩ := hs z (by omega)
      have es : sm (ρ z) = ρ z := by unfold sm; rw [if_pos (by omega)]
      have hi := ih (z + 1) (sHead S (ρ z)) (ρ z) (by omega) (by omega) (by omega) (by omega)
      rw [show N - (z + 1) = N - z - 1 by omega] at hi
      rw [if_pos h, bni H g0 g1, Nu_smallAt_b H P g0 g1 (by omega) (by omega), hρ z (by omega), es, b04 X, b20 X, bi3 X, x_startOf X s1 s2, show N - z = (N - z - 1) + 1 by omega, fgF]
      unfold T_forgedPlace_J65
      by_cases q : sTail S (ρ z) = t
      · rw [if_pos q]
        by_cases e : b = -1
        · rw [if_pos e, if_pos ⟨q, fun u => u.1 e⟩, b04 X, b20 X, bi3 X, x_endOf X s1 s2, w32_id (by omega) (by omega)]; exact hi
        · rw [if_neg e, xor1 (by omega) (by omega)]
          by_cases e' : ρ z = sXor b
          · unfold sXor at e'
            rw [if_pos e', if_neg (fun u => u.2 ⟨e, by unfold sXor; exact e'⟩)]
          · have e2 := e'
            unfold sXor at e2
            rw [if_neg e2, if_pos ⟨q, fun u => e' u.2⟩, b04 X, b20 X, bi3 X, x_endOf X s1 s2, w32_id (by omega) (by omega)]; exact hi
      · rw [if_neg q, if_neg (fun u => q u.1)]
    · rw [if_neg h, show N - z = 0 by omega]; rfl
theorem fg_M (H : Sh sh) (P : PM V) (h3 : 0 ≤ S 7) (h4 : S 7 ≤ 24) (g0 : 0 ≤ w) (g1 : w < 4) {N : Nat} (hN : N ≤ 40) (hw : V 129 w = N) (hρ : ∀ k : Nat, k < N → V 130 (40 * w + k) = ρ k) (hs : isSl S ρ N) : ∀ (n z : Nat) (t b : Int), z ≤ N → N - z < n → -1 ≤ b → b < 48 → M_firstForged_L12 n 101 w t b z (sh, setR V 102 S) = some (fgF S ρ (N - z) z t b, (sh, setR V 102 S)) := by
  intro n
  induction n with
  | zero => intro z _ _ _ h; omega
  | succ n ih =>
    intro z t b hz hn hb hb'
    rw [M_firstForged_L12, bg101 H, q_101_50 P, ml129 H g0 g1, hw]
    by_cases h : (z : Int) < (N : Int)
    · obtain ⟨s1, s2⟩ := hs z (by omega)
      have hi := ih (z + 1) (sHead S (ρ z)) (ρ z) (by omega) (by omega) (by omega) (by omega)
      rw [show N - (z + 1) = N - z - 1 by omega] at hi
      rw [if_pos h, bg101 H, q_101_51 P, w32_id (x := 40 * w) (by omega) (by omega), w32_id (x := 40 * w + z) (by omega) (by omega), ml130 H (by omega) (by omega), hρ z (by omega), w32_id (x := ρ z) (by omega) (by omega), bd_mk, bi101 H, M_tailOf_b H P s1 (by omega), show N - z = (N - z - 1) + 1 by omega, fgF]
      unfold M_firstForged_J64
      by_cases q : sTail S (ρ z) = t
      · rw [if_pos q]
        by_cases e : b = -1
        · rw [if_pos e, if_pos ⟨q, fun u => u.1 e⟩, bi101 H, M_headOf_b H P s1 (by omega), w32_id (by omega) (by omega)]; exact hi
        · rw [if_neg e, xor1 (by omega) (by omega)]
          by_cases e' : ρ z = sXor b
          · unfold sXor at e'
            rw [if_pos e', if_neg (fun u => u.2 ⟨e, by unfold sXor; exact e'⟩)]
          · have e2 := e'
            unfold sXor at e2
            rw [if_neg e2, if_pos ⟨q, fun u => e' u.2⟩, bi101 H, M_headOf_b H P s1 (by omega), w32_id (by omega) (by omega)]; exact hi
      · rw [if_neg q, if_neg (fun u => q u.1)]
    · rw [if_neg h, show N - z = 0 by omega]; rfl
theorem T_slipsRefusal_x (X : Cx sh V S D) (g0 : 0 ≤ w) (g1 : w < 4) {N : Nat} (hz : S 0 ≠ 0) (hm : V (93 + 2 * w) 2 = 0) (hN : N ≤ 40) (hw : V (93 + 2 * w) 1 = N) (hρ : ∀ k : Nat, k < N → V (94 + 2 * w) k = ρ k) : (isSl S ρ N ∧ T_slipsRefusal 0 w (sh, V) = some (0, (sh, V))) ∨ (¬ isSl S ρ N ∧ T_slipsRefusal 0 w (sh, V) = some (-3, (sh, V))) := by
  have H := X.1
  have P := X.2.1
  unfold T_slipsRefusal
  rw [T_isRow_b, B_t ⟨g0, g1⟩, if_neg (by decide), b04 X, b20 X, b30 X, if_neg hz, b06 X, b36w H P g0 g1, bnf H g0 g1, hm, if_pos rfl]
  rcases slips_T X g0 g1 hN hw hρ FU 0 (by omega) (by show _ < 1000000; omega) with ⟨e1, e2⟩ | ⟨e1, e2⟩
  · exact Or.inl ⟨fun k hk => e1 k (by omega) hk, e2⟩
  · exact Or.inr ⟨fun q => e1 (fun k _ hk => q k hk), e2⟩
theorem M_isSlips_x (H : Sh sh) (P : PM V) (h3 : 0 ≤ S 7) (h4 : S 7 ≤ 24) (g0 : 0 ≤ w) (g1 : w < 4) {N : Nat} (hN : N ≤ 40) (hw : V 129 w = N) (hρ : ∀ k : Nat, k < N → V 130 (40 * w + k) = ρ k) : (isSl S ρ N ∧ M_isSlips 101 w (sh, setR V 102 S) = some (1, (sh, setR V 102 S))) ∨ (¬ isSl S ρ N ∧ M_isSlips 101 w (sh, setR V 102 S) = some (0, (sh, setR V 102 S))) := by
  unfold M_isSlips
  rcases slips_M H P h3 h4 g0 g1 hN hw hρ FU 0 (by omega) (by show _ < 1000000; omega) with ⟨e1, e2⟩ | ⟨e1, e2⟩
  · exact Or.inl ⟨fun k hk => e1 k (by omega) hk, e2⟩
  · exact Or.inr ⟨fun q => e1 (fun k _ hk => q k hk), e2⟩
theorem T_slipsRefusal_no (X : Cx sh V S D) (h : ¬ (0 ≤ w ∧ w < 4)) : T_slipsRefusal 0 w (sh, V) = some (-2, (sh, V)) := by
  unfold T_slipsRefusal
  rw [T_isRow_b, B_f h, if_pos rfl]
theorem T_slipsRefusal_0 (X : Cx sh V S D) (h : 0 ≤ w ∧ w < 4) (hz : S 0 = 0) : T_slipsRefusal 0 w (sh, V) = some (-5, (sh, V)) := by
  unfold T_slipsRefusal
  rw [T_isRow_b, B_t h, if_neg (by decide), b04 X, b20 X, b30 X, if_pos hz]
theorem T_slipsRefusal_m (X : Cx sh V S D) (h : 0 ≤ w ∧ w < 4) (hz : S 0 ≠ 0) (hm : V (93 + 2 * w) 2 = 1) : T_slipsRefusal 0 w (sh, V) = some (-6, (sh, V)) := by
  unfold T_slipsRefusal
  rw [T_isRow_b, B_t h, if_neg (by decide), b04 X, b20 X, b30 X, if_neg hz, b06 X, b36w X.1 X.2.1 h.1 h.2, bnf X.1 h.1 h.2, hm, if_neg (by decide)]
theorem T_forgedPlace_x (X : Cx sh V S D) (g0 : 0 ≤ w) (g1 : w < 4) {N : Nat} (hN : N ≤ 40) (hw : V (93 + 2 * w) 1 = N) (hρ : ∀ k : Nat, k < N → V (94 + 2 * w) k = ρ k) (hs : isSl S ρ N) : T_forgedPlace 0 (93 + 2 * w) (sh, V) = some (fgF S ρ N 0 (S 1) (-1), (sh, V)) := by
  unfold T_forgedPlace
  rw [b04 X, b20 X, b31 X]
  exact fg_T X g0 g1 hN hw hρ hs FU 0 (S 1) (-1) (by omega) (by show _ < 1000000; omega) (by decide) (by decide)
theorem M_firstForged_x (H : Sh sh) (P : PM V) (h3 : 0 ≤ S 7) (h4 : S 7 ≤ 24) (g0 : 0 ≤ w) (g1 : w < 4) {N : Nat} (hN : N ≤ 40) (hw : V 129 w = N) (hρ : ∀ k : Nat, k < N → V 130 (40 * w + k) = ρ k) (hs : isSl S ρ N) : M_firstForged 101 w (sh, setR V 102 S) = some (fgF S ρ N 0 (S 1) (-1), (sh, setR V 102 S)) := by
  unfold M_firstForged
  rw [bg101 H, blp P H (by decide) (by decide)]
  exact fg_M H P h3 h4 g0 g1 hN hw hρ hs FU 0 (S 1) (-1) (by omega) (by show _ < 1000000; omega) (by decide) (by decide)
theorem ro_forged (X : Cx sh V S D) (P : PM V2) (hR : RW V V2) : RO sh V V2 S (T_forged 0 w (sh, V)) (M_forged 101 w (sh, setR V2 102 S)) := by
  have P1 := PM0 P
  have H := X.1
  obtain ⟨r1, r2, r3, r4, r5, r6, r7⟩ := Cx_rng X
  unfold T_forged M_forged
  rw [bp101 H, bit (by rw [k_0 H]), M_within_b]
  by_cases h : 0 ≤ w ∧ w < 4
  · rw [B_t (by omega : 0 ≤ w ∧ w ≤ 3), if_neg (c := (1 : Int) = 0) (by decide), bg101 H, blp P1 H (by decide) (by decide)]
    by_cases hz : S 0 = 0
    · rw [T_slipsRefusal_0 X h hz, bd2_mk, if_neg (by decide), if_pos hz]; exact ⟨_, rfl, rfl⟩
    · rw [if_neg hz, bg101 H, q_101_49 P1, ml128 H h.1 h.2, up_row (by decide)]
      rcases rw_row hR h.1 h.2 with ⟨e1, e2⟩ | ⟨e1, e2, N, hN, e3, e4, e5⟩
      · rw [T_slipsRefusal_m X h hz e2, bd2_mk, if_neg (by decide), if_pos e1]; exact ⟨_, rfl, rfl⟩
      · generalize hρ : (fun z : Nat => V2 130 (40 * w + z)) = ρ at e5
        have e4' : upV V2 101 0 0 129 w = N := by rw [up_row (by decide)]; exact e4
        have e5' : ∀ k : Nat, k < N → upV V2 101 0 0 130 (40 * w + k) = ρ k := fun k _ => by rw [up_row (by decide), ← hρ]
        rw [if_neg e1, bi101 H]
        rcases T_slipsRefusal_x X h.1 h.2 hz e2 hN e3 e5 with ⟨f1, f2⟩ | ⟨f1, f2⟩
        · rcases M_isSlips_x (S := S) H P1 r3 r4 h.1 h.2 hN e4' e5' with ⟨f3, f4⟩ | ⟨f3, f4⟩
          · rw [f2, f4, bd2_mk, bd2_mk, if_pos rfl, if_neg (by decide), b06 X, b36w H X.2.1 h.1 h.2, bit (by rw [k_0 H]), T_forgedPlace_x X h.1 h.2 hN e3 e5 f1, bd2_mk, bi101 H, M_firstForged_x H P1 r3 r4 h.1 h.2 hN e4' e5' f1, bd2_mk]
            exact ⟨_, rfl, rfl⟩
          · exact absurd f1 f3
        · rcases M_isSlips_x (S := S) H P1 r3 r4 h.1 h.2 hN e4' e5' with ⟨f3, f4⟩ | ⟨f3, f4⟩
          · exact absurd f3 f1
          · rw [f2, f4, bd2_mk, bd2_mk, if_neg (by decide), if_pos rfl]; exact ⟨_, rfl, rfl⟩
  · rw [T_slipsRefusal_no X h, bd2_mk, if_neg (by decide), B_f (by omega), if_pos rfl]; exact ⟨_, rfl, rfl⟩
end FORGED
