/-! PURE: change -/
section CHANGE
variable {sh : List (Nat × Nat)} {V V' V1 V2 V2' : Int → Int → Int} {r t m s c i j d k x a b y D D' f p w bk v tb q : Int} {S S' R : Int → Int} {n : Nat} {ρ : Nat → Int}
/-- the places of slips below z of i and j -/
def RG (i j z a : Int) : Prop := (189 + 40 * i ≤ a ∧ a < 189 + 40 * i + z) ∨ (189 + 40 * j ≤ a ∧ a < 189 + 40 * j + z) ∨ (429 + 40 * i ≤ a ∧ a < 429 + 40 * i + z) ∨ (429 + 40 * j ≤ a ∧ a < 429 + 40 * j + z) ∨ (669 + 40 * i ≤ a ∧ a < 669 + 40 * i + z) ∨ (669 + 40 * j ≤ a ∧ a < 669 + 40 * j + z)
def CH (S S' : Int → Int) (i j z : Int) : Prop := (∀ k, 0 ≤ k → k < z → (S' (189 + (40 * i + k)) = S (189 + (40 * j + k)) ∧ S' (189 + (40 * j + k)) = S (189 + (40 * i + k))) ∧ (S' (429 + (40 * i + k)) = S (429 + (40 * j + k)) ∧ S' (429 + (40 * j + k)) = S (429 + (40 * i + k))) ∧ (S' (669 + (40 * i + k)) = S (669 + (40 * j + k)) ∧ S' (669 + (40 * j + k)) = S (669 + (40 * i + k)))) ∧ ∀ a, ¬ RG i j z a → S' a = S a
theorem M_moves_eq (H : Sh sh) (P : PM V) (h0 : 0 ≤ a) (h1 : a < 240) (h2 : 0 ≤ b) (h3 : b < 240) : M_moves 101 a b (sh, setR V 102 S) = some (0, (sh, setR V 102 (up (up (up S (189 + b) (S (189 + a))) (429 + b) (S (429 + a))) (669 + b) (S (669 + a))))) := by
  unfold M_moves
  simp (disch := first | assumption | omega | (simp (disch := first | omega | decide) only [w32_id, upS_eq, upS_ne, PM_row, PM_fld]; first | assumption | omega)) only [Int.reduceEq, Int.reduceLT, Int.reduceLE, Int.reduceAdd, Int.reduceSub, Int.reduceNeg, Int.reduceMul, ↓bd_mk, ↓bd2_mk, ↓bg101, ↓bp101, ↓bi101, ↓bl102, ↓bs102, ↓blp, ↓bsp, ↓bdiv, ↓brem, ↓bokz, ↓M_slipAt_b, ↓M_within_b, ↓reduceIte, upS_eq, upS_ne, w32_id, w64_id, if_some2, B_0, B_1, okz_B, ite_not]
theorem M_moves_b (H : Sh sh) (P : PM V) (h0 : 0 ≤ a) (h1 : a < 240) (h2 : 0 ≤ b) (h3 : b < 240) {γ : Type} {fZ : Int → Mem → Option γ} : bd2 (M_moves 101 a b (sh, setR V 102 S)) fZ = fZ (0) (sh, setR V 102 (up (up (up S (189 + b) (S (189 + a))) (429 + b) (S (429 + a))) (669 + b) (S (669 + a)))) := by
  rw [M_moves_eq] <;> first | assumption | rfl
theorem chg_L {kk : Int → Int → Int → Mem → Option (Int × Mem)} (H : Sh sh) (P : PM V) (h0 : 0 ≤ i) (h1 : i < 6) (h2 : 0 ≤ j) (h3 : j < 6) (hn : i ≠ j) : ∀ (n z : Nat) (T : Int → Int), z ≤ 40 → 40 - z < n → CH S T i j z → ∃ T', M_changes_L2 kk n 101 i j z (sh, setR V 102 T) = kk 101 i j (sh, setR V 102 T') ∧ CH S T' i j 40 := by
  intro n
  induction n with
  | zero => intro z _ _ h; omega
  | succ n ih =>
    intro z T hz hn' C
    rw [M_changes_L2]
    by_cases h : (z : Int) < 40
    · obtain ⟨C1, C2⟩ := C
      have e1 := C2 (189 + (40 * i + z)) (by unfold RG; omega)
      have e2 := C2 (189 + (40 * j + z)) (by unfold RG; omega)
      have e3 := C2 (429 + (40 * i + z)) (by unfold RG; omega)
      have e4 := C2 (429 + (40 * j + z)) (by unfold RG; omega)
      have e5 := C2 (669 + (40 * i + z)) (by unfold RG; omega)
      have e6 := C2 (669 + (40 * j + z)) (by unfold RG; omega)
      have g : ∀ k, 0 ≤ k → k < ((z + 1 : Nat) : Int) → k ≠ z → k < z := fun k _ _ _ => by omega
      obtain ⟨T', q1, q2⟩ := ih (z + 1) (up (up (up (up (up (up T (189 + (40 * i + z)) (S (189 + (40 * j + z)))) (429 + (40 * i + z)) (S (429 + (40 * j + z)))) (669 + (40 * i + z)) (S (669 + (40 * j + z)))) (189 + (40 * j + z)) (S (189 + (40 * i + z)))) (429 + (40 * j + z)) (S (429 + (40 * i + z)))) (669 + (40 * j + z)) (S (669 + (40 * i + z)))) (by omega) (by omega) (by
        refine ⟨fun k g0 g1 => ?_, fun a ha => ?_⟩
        · by_cases e : k = z
          · subst e
            simp (disch := omega) only [upS_eq, upS_ne, and_self]
          · simp (disch := omega) only [upS_ne]
            exact C1 k g0 (g k g0 g1 e)
        · have ha' : ¬ RG i j z a := fun q => ha (by unfold RG at q ⊢; omega)
          unfold RG at ha
          rw [upS_ne (by omega), upS_ne (by omega), upS_ne (by omega), upS_ne (by omega), upS_ne (by omega), upS_ne (by omega)]
          exact C2 a ha')
      refine ⟨T', ?_, q2⟩
      rw [if_pos h, M_slipAt_b h0 h1 (by omega) (by omega), M_slipAt_b h2 h3 (by omega) (by omega), bg101 H, w32_id (x := 189 + (40 * i + z)) (by omega) (by omega), blp P H (by omega) (by omega), e1, bg101 H, w32_id (x := 429 + (40 * i + z)) (by omega) (by omega), blp P H (by omega) (by omega), e3, bg101 H, w32_id (x := 669 + (40 * i + z)) (by omega) (by omega), blp P H (by omega) (by omega), e5, bi101 H, M_moves_b H P (by omega) (by omega) (by omega) (by omega), e2, e4, e6, bg101 H, w32_id (x := 189 + (40 * j + z)) (by omega) (by omega), bsp P H (by omega) (by omega), bg101 H, w32_id (x := 429 + (40 * j + z)) (by omega) (by omega), bsp P H (by omega) (by omega), bg101 H, w32_id (x := 669 + (40 * j + z)) (by omega) (by omega), bsp P H (by omega) (by omega), w32_id (by omega) (by omega)]
      exact q1
    · have : z = 40 := by omega
      rw [if_neg h]
      exact ⟨T, rfl, by rw [this] at C; exact C⟩
theorem changes_ok (H : Sh sh) (P : PM V) (h0 : 0 ≤ i) (h1 : i < 6) (h2 : 0 ≤ j) (h3 : j < 6) (hn : i ≠ j) : ∃ T', M_changes 101 i j (sh, setR V 102 S) = some (0, (sh, setR V 102 (up (up T' (171 + i) (S (171 + j))) (171 + j) (S (171 + i))))) ∧ CH S T' i j 40 := by
  unfold M_changes
  obtain ⟨T', e1, e2⟩ := chg_L (S := S) (kk := fun x1 x2 x3 μ4 => bd (getf 12 1 μ4 x1) fun x5 => bd (lda 20 μ4 x5 (w32 (171 + x2))) fun x6 => bd (getf 12 1 μ4 x1) fun x7 => bd (getf 12 1 μ4 x1) fun x8 => bd (lda 20 μ4 x8 (w32 (171 + x3))) fun x9 => bd (sta 20 μ4 x7 (w32 (171 + x2)) x9) fun μ10 => bd (getf 12 1 μ10 x1) fun x11 => bd (sta 20 μ10 x11 (w32 (171 + x3)) x6) fun μ12 => some (0, μ12)) H P h0 h1 h2 h3 hn FU 0 S (by omega) (by decide) ⟨fun k _ _ => by omega, fun _ _ => rfl⟩
  refine ⟨T', ?_, e2⟩
  rw [show ((0 : Nat) : Int) = 0 from rfl] at e1
  have a1 := e2.2 (171 + i) (by unfold RG; omega)
  have a2 := e2.2 (171 + j) (by unfold RG; omega)
  rw [e1]
  rw [bg101 H, w32_id (x := 171 + i) (by omega) (by omega), blp P H (by omega) (by omega), bg101 H, bg101 H, w32_id (x := 171 + j) (by omega) (by omega), blp P H (by omega) (by omega), bsp P H (by omega) (by omega), bg101 H, bsp P H (by omega) (by omega), a1, a2]
theorem rc_change (X : Cx sh V S D) (PM' : PM V2) : RC sh V V2 S D (T_change 0 i j (sh, V)) (M_change 101 i j (sh, setR V2 102 S)) := by
  have P1 := PM0 PM'
  obtain ⟨H, P, C, O, T, hD⟩ := id X
  obtain ⟨r1, r2, r3, r4, r5, r6, r7⟩ := Cx_rng X
  unfold T_change M_change
  rw [bp101 H, b04 X, bi2 X, x_hasPair X, bi101 H, M_isOne_b H P1 r5 r6]
  by_cases h : 0 ≤ i ∧ i < S 152
  · rw [B_t h, if_neg (c := (1 : Int) = 0) (by decide), bi101 H, M_isOne_b H P1 r5 r6]
    by_cases g : 0 ≤ j ∧ j < S 152
    · rw [B_t g, if_neg (c := (1 : Int) = 0) (by decide)]
      by_cases e : i = j
      · rw [if_pos e, B_f (fun q => q.2.2 e), if_pos rfl]; exact RC_same X (by omega) _
      · rw [if_neg e, B_t ⟨h, g, e⟩, if_neg (by decide), b04 X, b21 X, b9 X h.1 h.2, bt0 X h.1 h.2, b04 X, b21 X, b9 X g.1 g.2, bt0 X g.1 g.2, bg101 H, w32_id (x := 153 + i) (by omega) (by omega), blp P1 H (by omega) (by omega), bg101 H, w32_id (x := 153 + j) (by omega) (by omega), blp P1 H (by omega) (by omega)]
        by_cases u : S (153 + i) = S (153 + j)
        · obtain ⟨T', e1, e2⟩ := changes_ok (S := S) H P1 h.1 (by omega : i < 6) g.1 (by omega : j < 6) e
          have ki : (kS sh (11 + 4 * i)).1 = 6 := by rw [kt_x X h.1 h.2]
          have kj : (kS sh (11 + 4 * j)).1 = 6 := by rw [kt_x X g.1 g.2]
          have ne : 11 + 4 * i ≠ 11 + 4 * j := by omega
          have ne' : 11 + 4 * j ≠ 11 + 4 * i := by omega
          obtain ⟨⟨fi0, fi1, fi2, fi3, fi4, fi5⟩, sli⟩ := td_x X h.1 h.2
          obtain ⟨⟨fj0, fj1, fj2, fj3, fj4, fj5⟩, slj⟩ := td_x X g.1 g.2
          rw [if_pos u, if_pos u, b04 X, b21 X, b9 X g.1 g.2, bit ki, bi101 H, e1, bd2_mk, bg101 H, w32_id (x := 171 + i) (by omega) (by omega), blp P1 H (by omega) (by omega)]
          unfold Tr_swapSlips
          rw [bgt ki, bgt ki, bgt ki, bgt ki, bgt kj, bpt ki, bgt kj, up_row ne', bpt ki, bgt kj, up_row ne', up_row ne', bpt ki, bgt kj, up_row ne', up_row ne', up_row ne', bpt ki, bpt kj, bpt kj, bpt kj, bpt kj, bd2_mk, bgt ki, up_row ne, up_row ne, up_row ne, up_row ne, up_col (by decide), up_col (by decide), up_col (by decide), up_eq, fj5, upS_ne (k := 171 + i) (by omega), upS_eq, fi5]
          generalize hZ : upV (upV (upV (upV (upV (upV (upV (upV V (11 + 4 * i) 5 (S (171 + j))) (11 + 4 * i) 6 (V (11 + 4 * j) 6)) (11 + 4 * i) 7 (V (11 + 4 * j) 7)) (11 + 4 * i) 8 (V (11 + 4 * j) 8)) (11 + 4 * j) 5 (S (171 + i))) (11 + 4 * j) 6 (V (11 + 4 * i) 6)) (11 + 4 * j) 7 (V (11 + 4 * i) 7)) (11 + 4 * j) 8 (V (11 + 4 * i) 8) = Z
          have fz : ∀ a k, a ≠ 11 + 4 * i → a ≠ 11 + 4 * j → Z a k = V a k := fun a k q1 q2 => by
            rw [← hZ, up_row q2, up_row q2, up_row q2, up_row q2, up_row q1, up_row q1, up_row q1, up_row q1]
          have zi : ∀ k, k < 5 → Z (11 + 4 * i) k = V (11 + 4 * i) k := fun k hk => by
            rw [← hZ, up_row ne, up_row ne, up_row ne, up_row ne, up_col (by omega), up_col (by omega), up_col (by omega), up_col (by omega)]
          have zj : ∀ k, k < 5 → Z (11 + 4 * j) k = V (11 + 4 * j) k := fun k hk => by
            rw [← hZ, up_col (by omega), up_col (by omega), up_col (by omega), up_col (by omega), up_row ne', up_row ne', up_row ne', up_row ne']
          have zi5 : Z (11 + 4 * i) 5 = S (171 + j) := by rw [← hZ, up_row ne, up_row ne, up_row ne, up_row ne, up_col (by decide), up_col (by decide), up_col (by decide), up_eq]
          have zi6 : Z (11 + 4 * i) 6 = V (11 + 4 * j) 6 := by rw [← hZ, up_row ne, up_row ne, up_row ne, up_row ne, up_col (by decide), up_col (by decide), up_eq]
          have zi7 : Z (11 + 4 * i) 7 = V (11 + 4 * j) 7 := by rw [← hZ, up_row ne, up_row ne, up_row ne, up_row ne, up_col (by decide), up_eq]
          have zi8 : Z (11 + 4 * i) 8 = V (11 + 4 * j) 8 := by rw [← hZ, up_row ne, up_row ne, up_row ne, up_row ne, up_eq]
          have zj5 : Z (11 + 4 * j) 5 = S (171 + i) := by rw [← hZ, up_col (by decide), up_col (by decide), up_col (by decide), up_eq]
          have zj6 : Z (11 + 4 * j) 6 = V (11 + 4 * i) 6 := by rw [← hZ, up_col (by decide), up_col (by decide), up_eq]
          have zj7 : Z (11 + 4 * j) 7 = V (11 + 4 * i) 7 := by rw [← hZ, up_col (by decide), up_eq]
          have zj8 : Z (11 + 4 * j) 8 = V (11 + 4 * i) 8 := by rw [← hZ, up_eq]
          have TZ : TP Z := by
            refine ⟨fun k k0 k1 => ?_, fun k l k0 k1 l0 l1 hkl => ?_⟩
            · by_cases q1 : k = i
              · rw [q1, zi6, zi7, zi8]; exact T.1 j g.1 (by omega)
              · by_cases q2 : k = j
                · rw [q2, zj6, zj7, zj8]; exact T.1 i h.1 (by omega)
                · rw [fz _ _ (by omega) (by omega), fz _ _ (by omega) (by omega), fz _ _ (by omega) (by omega)]; exact T.1 k k0 k1
            · have hc : ∀ k, 0 ≤ k → k < 6 → ∃ k', 0 ≤ k' ∧ k' < 6 ∧ Z (11 + 4 * k) 6 = V (11 + 4 * k') 6 ∧ ((k = i ∧ k' = j) ∨ (k = j ∧ k' = i) ∨ (k ≠ i ∧ k ≠ j ∧ k' = k)) := fun k k0 k1 => by
                by_cases q1 : k = i
                · exact ⟨j, g.1, by omega, by rw [q1]; exact zi6, Or.inl ⟨q1, rfl⟩⟩
                · by_cases q2 : k = j
                  · exact ⟨i, h.1, by omega, by rw [q2]; exact zj6, Or.inr (Or.inl ⟨q2, rfl⟩)⟩
                  · exact ⟨k, k0, k1, fz _ _ (by omega) (by omega), Or.inr (Or.inr ⟨q1, q2, rfl⟩)⟩
              obtain ⟨k', a0, a1, a2, a3⟩ := hc k k0 k1
              obtain ⟨l', b0, b1, b2, b3⟩ := hc l l0 l1
              rw [a2, b2]
              exact T.2 k' l' a0 a1 b0 b1 (by omega)
          have PZ : Pt Z := by rw [← hZ]; simp only [Pt_k H (a := 11 + 4 * i) (by rw [ki]; decide), Pt_k H (a := 11 + 4 * j) (by rw [kj]; decide)]; exact P
          have hO := O.2.2.2.1
          obtain ⟨ti1, ti2, ti3, ti4, ti5, ti6, ti7⟩ := hO i h.1 h.2
          obtain ⟨tj1, tj2, tj3, tj4, tj5, tj6, tj7⟩ := hO j g.1 g.2
          obtain ⟨C1, C2⟩ := e2
          have hS' : ∀ a, ¬ RG i j 40 a → a ≠ 171 + i → a ≠ 171 + j → up (up T' (171 + i) (S (171 + j))) (171 + j) (S (171 + i)) a = S a := fun a q1 q2 q3 => by rw [upS_ne q3, upS_ne q2]; exact C2 a q1
          have sI : up (up T' (171 + i) (S (171 + j))) (171 + j) (S (171 + i)) (171 + i) = S (171 + j) := by rw [upS_ne (by omega), upS_eq]
          have sJ : up (up T' (171 + i) (S (171 + j))) (171 + j) (S (171 + i)) (171 + j) = S (171 + i) := upS_eq
          have sR : ∀ a, 189 ≤ a → up (up T' (171 + i) (S (171 + j))) (171 + j) (S (171 + i)) a = T' a := fun a ha => by rw [upS_ne (by omega), upS_ne (by omega)]
          generalize up (up T' (171 + i) (S (171 + j))) (171 + j) (S (171 + i)) = Q at *
          obtain ⟨cI, cO⟩ := CW_of (I := fun z => z = i ∨ z = j) (D' := D) (S' := Q) (V' := Z) C O T (by omega) (fun a ha => hS' a (fun q => ha (by
              unfold RG at q
              by_cases q1 : (189 + 40 * i ≤ a ∧ a < 189 + 40 * i + 40) ∨ (429 + 40 * i ≤ a ∧ a < 429 + 40 * i + 40) ∨ (669 + 40 * i ≤ a ∧ a < 669 + 40 * i + 40)
              · exact Or.inr ⟨i, h.1, by omega, Or.inl rfl, by omega⟩
              · exact Or.inr ⟨j, g.1, by omega, Or.inr rfl, by omega⟩)) (fun q => ha (Or.inr ⟨i, h.1, by omega, Or.inl rfl, by omega⟩)) (fun q => ha (Or.inr ⟨j, g.1, by omega, Or.inr rfl, by omega⟩))) (fun a k ha => fz a k (fun q => ha (Or.inr (Or.inr (Or.inr (Or.inr ⟨i, h.1, by omega, Or.inl rfl, Or.inl q⟩))))) (fun q => ha (Or.inr (Or.inr (Or.inr (Or.inr ⟨j, g.1, by omega, Or.inr rfl, Or.inl q⟩)))))) (fun z hz z0 z1 => by
              have o0 : ∀ a, a < 153 → Q a = S a := fun a ha => hS' a (by unfold RG; omega) (by omega) (by omega)
              rcases hz with rfl | rfl
              · have hc := Tr_cells T g.1 (by omega : j < 6)
                have mne : ∀ b, (b = V (11 + 4 * j) 6 ∨ b = V (11 + 4 * j) 7 ∨ b = V (11 + 4 * j) 8) → ∀ k, Z b k = V b k := fun b hb k => by
                  obtain ⟨p, p0, p1, p2, p3, p4⟩ := T.1 j g.1 (by omega)
                  exact fz b k (by omega) (by omega)
                refine ⟨⟨⟨?_, ?_, ?_, ?_, ?_, ?_⟩, fun k k0 k1 => ?_⟩, ?_⟩
                · rw [zi 0 (by decide), fi0, hS' _ (by unfold RG; omega) (by omega) (by omega)]
                · rw [zi 1 (by decide), fi1, hS' _ (by unfold RG; omega) (by omega) (by omega)]
                · rw [zi 2 (by decide), fi2, hS' _ (by unfold RG; omega) (by omega) (by omega)]
                · rw [zi 3 (by decide), fi3, hS' _ (by unfold RG; omega) (by omega) (by omega)]
                · rw [zi 4 (by decide), fi4, hS' _ (by unfold RG; omega) (by omega) (by omega)]
                · rw [zi5, sI]
                · rw [sI] at k1
                  have := slj k k0 k1
                  have cc := C1 k k0 (by omega)
                  rw [zi6, zi7, zi8, mne _ (Or.inl rfl), mne _ (Or.inr (Or.inl rfl)), mne _ (Or.inr (Or.inr rfl)), sR _ (by omega), sR _ (by omega), sR _ (by omega), cc.1.1, cc.2.1.1, cc.2.2.1]
                  exact this
                · unfold TOk
                  rw [sI, hS' (159 + z) (by unfold RG; omega) (by omega) (by omega), hS' (153 + z) (by unfold RG; omega) (by omega) (by omega), o0 0 (by decide), o0 7 (by decide)]
                  refine ⟨tj1, tj2, ti3, ti4, ti5, ti6, fun k k0 k1 => ?_⟩
                  have cc := C1 k k0 (by omega)
                  rw [sR _ (by omega), sR _ (by omega), sR _ (by omega), cc.1.1, cc.2.1.1, cc.2.2.1]
                  exact tj7 k k0 k1
              · have hc := Tr_cells T h.1 (by omega : i < 6)
                have mne : ∀ b, (b = V (11 + 4 * i) 6 ∨ b = V (11 + 4 * i) 7 ∨ b = V (11 + 4 * i) 8) → ∀ k, Z b k = V b k := fun b hb k => by
                  obtain ⟨p, p0, p1, p2, p3, p4⟩ := T.1 i h.1 (by omega)
                  exact fz b k (by omega) (by omega)
                refine ⟨⟨⟨?_, ?_, ?_, ?_, ?_, ?_⟩, fun k k0 k1 => ?_⟩, ?_⟩
                · rw [zj 0 (by decide), fj0, hS' _ (by unfold RG; omega) (by omega) (by omega)]
                · rw [zj 1 (by decide), fj1, hS' _ (by unfold RG; omega) (by omega) (by omega)]
                · rw [zj 2 (by decide), fj2, hS' _ (by unfold RG; omega) (by omega) (by omega)]
                · rw [zj 3 (by decide), fj3, hS' _ (by unfold RG; omega) (by omega) (by omega)]
                · rw [zj 4 (by decide), fj4, hS' _ (by unfold RG; omega) (by omega) (by omega)]
                · rw [zj5, sJ]
                · rw [sJ] at k1
                  have := sli k k0 k1
                  have cc := C1 k k0 (by omega)
                  rw [zj6, zj7, zj8, mne _ (Or.inl rfl), mne _ (Or.inr (Or.inl rfl)), mne _ (Or.inr (Or.inr rfl)), sR _ (by omega), sR _ (by omega), sR _ (by omega), cc.1.2, cc.2.1.2, cc.2.2.2]
                  exact this
                · unfold TOk
                  rw [sJ, hS' (159 + z) (by unfold RG; omega) (by omega) (by omega), hS' (153 + z) (by unfold RG; omega) (by omega) (by omega), o0 0 (by decide), o0 7 (by decide)]
                  refine ⟨ti1, ti2, tj3, tj4, tj5, tj6, fun k k0 k1 => ?_⟩
                  have cc := C1 k k0 (by omega)
                  rw [sR _ (by omega), sR _ (by omega), sR _ (by omega), cc.1.2, cc.2.1.2, cc.2.2.2]
                  exact ti7 k k0 k1) (fun d g0 g1 => by rw [fz _ _ (by omega) (by omega), C.2.2.2.2.1 d g0 g1, hS' _ (by unfold RG; omega) (by omega) (by omega)]) (by
              rw [fz _ _ (by omega) (by omega), C.2.2.2.2.2, tre_congr (S' := Q) (S := S) (fun z hz => by rw [hS' _ (by unfold RG; omega) (by omega) (by omega), hS' _ (by unfold RG; omega) (by omega) (by omega)])]) (fun d g0 g1 => by rw [hS' _ (by unfold RG; omega) (by omega) (by omega)]; exact O.2.2.2.2.2 d g0 g1)
          refine ⟨_, Z, _, Q, rfl, rfl, cI, cO, TZ, PZ, fun a k ha => fz a k (by omega) (by omega), FM0, fun k hk => hS' k (by unfold RG; omega) (by omega) (by omega), fun E hE p => ⟨fun k k0 k1 => ?_, ?_⟩⟩
          · have n1 : Q 152 = S 152 := hS' 152 (by unfold RG; omega) (by omega) (by omega)
            rw [hS' _ (by unfold RG; omega) (by omega) (by omega)]; exact p.1 k k0 (by omega)
          · have n1 : Q 152 = S 152 := hS' 152 (by unfold RG; omega) (by omega) (by omega)
            rw [n1, psum_eq (S := S) _ (fun k hk => hS' _ (by unfold RG; omega) (by omega) (by omega))]
            have := p.2; omega
        · rw [if_neg u, if_neg u]; exact RC_same X (by omega) _
    · rw [B_f g, if_pos (c := (0 : Int) = 0) rfl, B_f (fun q => g q.2.1), if_pos (c := (0 : Int) = 0) rfl]; exact RC_same X (by omega) _
  · rw [B_f h, if_pos (c := (0 : Int) = 0) rfl, B_f (fun q => h q.1), if_pos (c := (0 : Int) = 0) rfl]; exact RC_same X (by omega) _
end CHANGE
