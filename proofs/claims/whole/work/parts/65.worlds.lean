/-! PURE: new worlds -/
section WORLDS
variable {sh : List (Nat × Nat)} {V V' V1 V2 V2' : Int → Int → Int} {r t s c i j k x a b y D D' f p v q h u o z m g w : Int} {S S' R : Int → Int} {n : Nat}
/-- a new cell's numbers -/
def nwV (V : Int → Int → Int) (b : Int) (c : Nat) : Int → Int → Int := fun a j => if a = b then (if tyOf c j = 2 then -1 else 0) else V a j
theorem nw_row {c : Nat} (h : a ≠ b) : nwV V b c a j = V a j := if_neg h
theorem nw_eq {c : Nat} : nwV V b c b j = if tyOf c j = 2 then -1 else 0 := if_pos rfl
theorem kA {l : List (Nat × Nat)} (h : 0 ≤ i) : kS (sh ++ l) ((sh.length : Int) + i) = kS l i := by
  unfold kS
  rw [if_neg (by omega), if_neg (by omega), List.getElem?_append_right (by omega)]
  congr 2; omega
theorem kB {l : List (Nat × Nat)} (h : a < (sh.length : Int)) : kS (sh ++ l) a = kS sh a := by
  unfold kS
  by_cases h0 : a < 0
  · rw [if_pos h0, if_pos h0]
  · rw [if_neg h0, if_neg h0, List.getElem?_append_left (by omega)]
theorem kL {q : Nat × Nat} (h : a = (sh.length : Int)) : kS (sh ++ [q]) a = q := by
  subst h
  have := kA (sh := sh) (l := [q]) (i := 0) (by decide)
  rw [Int.add_zero] at this; rw [this]; rfl
theorem newc_eq {c n : Nat} : newc c n (sh, V) = (sh ++ [(c, n)], nwV V sh.length c) := rfl
theorem nlen_eq : nlen (sh, V) = (sh.length : Int) := rfl
theorem len1 {q : Nat × Nat} : ((sh ++ [q]).length : Int) = (sh.length : Int) + 1 := by simp
theorem al_p {c c' n' : Nat} {α : Type} {g : Mem → Option α} (hk : (kS sh a).1 = c) (ha : a < (sh.length : Int)) : bd (putf c k (newc c' n' (sh, V)) a (nlen (sh, V))) g = g (sh ++ [(c', n')], upV (nwV V sh.length c') a k sh.length) := by
  rw [newc_eq, nlen_eq, putf_ok (by rw [kB ha]; exact hk), bd_mk]
theorem Tr_init_ok (L : Int) (hL : L = (sh.length : Int)) : ∃ V', Tr_init L (newc 6 9 (sh, V)) = some (0, (sh ++ [(6, 9), (20, 40), (20, 40), (20, 40)], V')) ∧ (V' L 6 = L + 1 ∧ V' L 7 = L + 2 ∧ V' L 8 = L + 3) ∧ (∀ j, 0 ≤ j → j < 6 → V' L j = 0) ∧ (∀ a j, L + 1 ≤ a → a ≤ L + 3 → V' a j = 0) ∧ ∀ a j, (a < L ∨ L + 4 ≤ a) → V' a j = V a j := by
  have t6 : ∀ j, 0 ≤ j → j < 6 → tyOf 6 j = 0 := fun j j0 j1 => by
    have : j = 0 ∨ j = 1 ∨ j = 2 ∨ j = 3 ∨ j = 4 ∨ j = 5 := by omega
    rcases this with rfl | rfl | rfl | rfl | rfl | rfl <;> rfl
  have t20 : ∀ j, tyOf 20 j = 0 := fun j => rfl
  refine ⟨upV (nwV (upV (nwV (upV (nwV (nwV V L 6) (L + 1) 20) L 6 (L + 1)) (L + 2) 20) L 7 (L + 2)) (L + 3) 20) L 8 (L + 3), ?_, ⟨?_, ?_, ?_⟩, fun j j0 j1 => ?_, fun a j h1 h2 => ?_, fun a j ha => ?_⟩
  · unfold Tr_init
    have k1 : kS (sh ++ [(6, 9)]) L = (6, 9) := kL hL
    have k2 : kS (sh ++ [(6, 9)] ++ [(20, 40)]) L = (6, 9) := by rw [kB (by rw [len1]; omega)]; exact k1
    have k3 : kS (sh ++ [(6, 9)] ++ [(20, 40)] ++ [(20, 40)]) L = (6, 9) := by rw [kB (by rw [len1, len1]; omega)]; exact k2
    rw [newc_eq, bit (by rw [k1]), al_p (by rw [k1]) (by rw [len1]; omega), al_p (by rw [k2]) (by rw [len1, len1]; omega), al_p (by rw [k3]) (by rw [len1, len1, len1]; omega)]
    simp only [len1]
    rw [← hL, show L + 1 + 1 = L + 2 by omega, show L + 2 + 1 = L + 3 by omega, List.append_assoc, List.append_assoc, List.append_assoc]
    rfl
  · rw [up_col (by decide), nw_row (by omega), up_col (by decide), nw_row (by omega), up_eq]
  · rw [up_col (by decide), nw_row (by omega), up_eq]
  · rw [up_eq]
  · rw [up_col (by omega), nw_row (by omega), up_col (by omega), nw_row (by omega), up_col (by omega), nw_row (by omega), nw_eq, t6 j j0 j1]; rfl
  · have : a = L + 1 ∨ a = L + 2 ∨ a = L + 3 := by omega
    rcases this with e | e | e
    · subst e; rw [up_row (by omega), nw_row (by omega), up_row (by omega), nw_row (by omega), up_row (by omega), nw_eq, t20]; rfl
    · subst e; rw [up_row (by omega), nw_row (by omega), up_row (by omega), nw_eq, t20]; rfl
    · subst e; rw [up_row (by omega), nw_eq, t20]; rfl
  · rw [up_row (by omega), nw_row (by omega), up_row (by omega), nw_row (by omega), up_row (by omega), nw_row (by omega), nw_row (by omega)]
/-- the shape of n travellers -/
def tlS : Nat → List (Nat × Nat)
  | 0 => []
  | n + 1 => [(6, 9), (20, 40), (20, 40), (20, 40)] ++ tlS n
theorem winit_L : ∀ (n z : Nat) (sh : List (Nat × Nat)) (U : Int → Int → Int), z ≤ 6 → 6 - z < n → (sh.length : Int) = w + 9 + 4 * z → kS sh w = (10, 6) → kS sh (w + 7) = (24, 6) → U w 1 = w + 7 → ∃ U', Wo_init_L35 n w z (sh, U) = some (0, (sh ++ tlS (6 - z), U')) ∧ (∀ i : Int, z ≤ i → i < 6 → U' (w + 7) i = w + 9 + 4 * i ∧ U' (w + 9 + 4 * i) 6 = w + 10 + 4 * i ∧ U' (w + 9 + 4 * i) 7 = w + 11 + 4 * i ∧ U' (w + 9 + 4 * i) 8 = w + 12 + 4 * i) ∧ ∀ a j : Int, (a < w + 9 + 4 * z ∨ w + 33 ≤ a) → (a = w + 7 → j < z) → U' a j = U a j := by
  intro n
  induction n with
  | zero => intro z _ _ _ h; omega
  | succ n ih =>
    intro z sh U hz hn hl kw k7 h1
    rw [Wo_init_L35]
    by_cases g : (z : Int) < 6
    · obtain ⟨T, t1, t2, t3, t4, t5⟩ := Tr_init_ok (sh := sh) (V := U) (nlen (sh, U)) rfl
      rw [nlen_eq] at t1 t2 t3 t4 t5
      have hlT : ((sh ++ [(6, 9), (20, 40), (20, 40), (20, 40)]).length : Int) = w + 9 + 4 * ((z + 1 : Nat) : Int) := by rw [List.length_append]; simp; omega
      have kw' : kS (sh ++ [(6, 9), (20, 40), (20, 40), (20, 40)]) w = (10, 6) := by rw [kB (by omega)]; exact kw
      have k7' : kS (sh ++ [(6, 9), (20, 40), (20, 40), (20, 40)]) (w + 7) = (24, 6) := by rw [kB (by omega)]; exact k7
      have kL' : kS (sh ++ [(6, 9), (20, 40), (20, 40), (20, 40)]) (sh.length : Int) = (6, 9) := by
        have := kA (sh := sh) (l := [(6, 9), (20, 40), (20, 40), (20, 40)]) (i := 0) (by decide)
        rw [Int.add_zero] at this; rw [this]; rfl
      obtain ⟨U', u1, u2, u3⟩ := ih (z + 1) (sh ++ [(6, 9), (20, 40), (20, 40), (20, 40)]) (upV T (w + 7) z sh.length) (by omega) (by omega) hlT kw' k7' (by rw [up_row (by omega), t5 _ _ (by omega)]; exact h1)
      refine ⟨U', ?_, fun i i0 i1 => ?_, fun a j ha hj => ?_⟩
      · rw [if_pos g, bgt (by rw [kw]), h1, nlen_eq, t1, bd2_mk, bit (by rw [kL']), sta_ok (by rw [k7']) (by omega) (by rw [k7']; show (z : Int) < 6; omega), bd_mk, w32_id (by omega) (by omega), show (z : Int) + 1 = ((z + 1 : Nat) : Int) by omega, u1, show 6 - z = (6 - (z + 1)) + 1 by omega]
        rw [tlS, List.append_assoc]
      · by_cases e : i = z
        · subst e
          rw [u3 _ _ (by omega) (by omega), up_eq, u3 _ _ (by omega) (by omega), u3 _ _ (by omega) (by omega), u3 _ _ (by omega) (by omega), up_row (by omega), up_row (by omega), up_row (by omega), ← hl]
          refine ⟨rfl, ?_, ?_, ?_⟩
          · rw [t2.1]; omega
          · rw [t2.2.1]; omega
          · rw [t2.2.2]; omega
        · exact u2 i (by omega) i1
      · rw [u3 a j (by omega) (by omega)]
        by_cases e : a = w + 7
        · rw [up_col (by omega)]; exact t5 _ _ (by omega)
        · rw [up_row e]; exact t5 _ _ (by omega)
    · have : z = 6 := by omega
      subst this
      rw [if_neg g]
      exact ⟨U, by simp [tlS], fun i i0 i1 => by omega, fun _ _ _ _ => rfl⟩
theorem Kg_init_ok (L : Int) (hL : L = (sh.length : Int)) : ∃ V', Kg_init L (newc 1 13 (sh, V)) = some (0, (sh ++ [(1, 13), (20, 24), (20, 24), (20, 24), (20, 24), (20, 24)], V')) ∧ (∀ q, 0 ≤ q → q < 5 → V' L (8 + q) = L + 1 + q) ∧ (V' L 0 = 0 ∧ V' L 1 = 0 ∧ V' L 2 = 360 ∧ V' L 3 = 50 ∧ V' L 4 = 90 ∧ V' L 5 = 269 ∧ V' L 6 = 0 ∧ V' L 7 = 0) ∧ (∀ a j, L + 1 ≤ a → a ≤ L + 5 → V' a j = 0) ∧ ∀ a j, (a < L ∨ L + 6 ≤ a) → V' a j = V a j := by
  have t20 : ∀ j, tyOf 20 j = 0 := fun j => rfl
  generalize hU : upV (nwV (upV (nwV (upV (nwV (upV (nwV (upV (nwV (nwV V L 1) (L + 1) 20) L 8 (L + 1)) (L + 2) 20) L 9 (L + 2)) (L + 3) 20) L 10 (L + 3)) (L + 4) 20) L 11 (L + 4)) (L + 5) 20) L 12 (L + 5) = U
  have U8 : ∀ q, 0 ≤ q → q < 5 → U L (8 + q) = L + 1 + q := fun q q0 q1 => by
    have : q = 0 ∨ q = 1 ∨ q = 2 ∨ q = 3 ∨ q = 4 := by omega
    rw [← hU]
    rcases this with rfl | rfl | rfl | rfl | rfl
    · rw [up_col (by decide), nw_row (by omega), up_col (by decide), nw_row (by omega), up_col (by decide), nw_row (by omega), up_col (by decide), nw_row (by omega), show (8 : Int) + 0 = 8 from rfl, up_eq]; omega
    · rw [up_col (by decide), nw_row (by omega), up_col (by decide), nw_row (by omega), up_col (by decide), nw_row (by omega), show (8 : Int) + 1 = 9 from rfl, up_eq]; omega
    · rw [up_col (by decide), nw_row (by omega), up_col (by decide), nw_row (by omega), show (8 : Int) + 2 = 10 from rfl, up_eq]; omega
    · rw [up_col (by decide), nw_row (by omega), show (8 : Int) + 3 = 11 from rfl, up_eq]; omega
    · rw [show (8 : Int) + 4 = 12 from rfl, up_eq]; omega
  have Ua : ∀ a j, L + 1 ≤ a → a ≤ L + 5 → U a j = 0 := fun a j h1 h2 => by
    have : a = L + 1 ∨ a = L + 2 ∨ a = L + 3 ∨ a = L + 4 ∨ a = L + 5 := by omega
    rw [← hU]
    rcases this with e | e | e | e | e
    · subst e; rw [up_row (by omega), nw_row (by omega), up_row (by omega), nw_row (by omega), up_row (by omega), nw_row (by omega), up_row (by omega), nw_row (by omega), up_row (by omega), nw_eq, t20]; rfl
    · subst e; rw [up_row (by omega), nw_row (by omega), up_row (by omega), nw_row (by omega), up_row (by omega), nw_row (by omega), up_row (by omega), nw_eq, t20]; rfl
    · subst e; rw [up_row (by omega), nw_row (by omega), up_row (by omega), nw_row (by omega), up_row (by omega), nw_eq, t20]; rfl
    · subst e; rw [up_row (by omega), nw_row (by omega), up_row (by omega), nw_eq, t20]; rfl
    · subst e; rw [up_row (by omega), nw_eq, t20]; rfl
  have Uf : ∀ a j, (a < L ∨ L + 6 ≤ a) → U a j = V a j := fun a j ha => by
    rw [← hU, up_row (by omega), nw_row (by omega), up_row (by omega), nw_row (by omega), up_row (by omega), nw_row (by omega), up_row (by omega), nw_row (by omega), up_row (by omega), nw_row (by omega), nw_row (by omega)]
  refine ⟨upV (upV (upV (upV (upV (upV (upV (upV U L 0 0) L 1 0) L 2 360) L 3 50) L 4 90) L 5 269) L 6 0) L 7 0, ?_, fun q q0 q1 => ?_, ⟨?_, ?_, ?_, ?_, ?_, ?_, ?_, ?_⟩, fun a j h1 h2 => ?_, fun a j ha => ?_⟩
  · unfold Kg_init Kg_clear
    have k1 : kS (sh ++ [(1, 13)]) L = (1, 13) := kL hL
    have k2 : kS (sh ++ [(1, 13)] ++ [(20, 24)]) L = (1, 13) := by rw [kB (by simp only [len1]; omega)]; exact k1
    have k3 : kS (sh ++ [(1, 13)] ++ [(20, 24)] ++ [(20, 24)]) L = (1, 13) := by rw [kB (by simp only [len1]; omega)]; exact k2
    have k4 : kS (sh ++ [(1, 13)] ++ [(20, 24)] ++ [(20, 24)] ++ [(20, 24)]) L = (1, 13) := by rw [kB (by simp only [len1]; omega)]; exact k3
    have k5 : kS (sh ++ [(1, 13)] ++ [(20, 24)] ++ [(20, 24)] ++ [(20, 24)] ++ [(20, 24)]) L = (1, 13) := by rw [kB (by simp only [len1]; omega)]; exact k4
    have k6 : kS (sh ++ [(1, 13)] ++ [(20, 24)] ++ [(20, 24)] ++ [(20, 24)] ++ [(20, 24)] ++ [(20, 24)]) L = (1, 13) := by rw [kB (by simp only [len1]; omega)]; exact k5
    rw [newc_eq, bit (by rw [k1]), al_p (by rw [k1]) (by simp only [len1]; omega), al_p (by rw [k2]) (by simp only [len1]; omega), al_p (by rw [k3]) (by simp only [len1]; omega), al_p (by rw [k4]) (by simp only [len1]; omega), al_p (by rw [k5]) (by simp only [len1]; omega), bit (by rw [k6])]
    simp only [len1]
    rw [← hL, show L + 1 + 1 = L + 2 by omega, show L + 2 + 1 = L + 3 by omega, show L + 3 + 1 = L + 4 by omega, show L + 4 + 1 = L + 5 by omega, hU]
    rw [bpt (by rw [k6]), bpt (by rw [k6]), bpt (by rw [k6]), bpt (by rw [k6]), bpt (by rw [k6]), bpt (by rw [k6]), bpt (by rw [k6]), bpt (by rw [k6]), bd2_mk]
    rw [List.append_assoc, List.append_assoc, List.append_assoc, List.append_assoc, List.append_assoc]
    rfl
  · rw [up_col (by omega), up_col (by omega), up_col (by omega), up_col (by omega), up_col (by omega), up_col (by omega), up_col (by omega), up_col (by omega)]; exact U8 q q0 q1
  · rw [up_col (by decide), up_col (by decide), up_col (by decide), up_col (by decide), up_col (by decide), up_col (by decide), up_col (by decide), up_eq]
  · rw [up_col (by decide), up_col (by decide), up_col (by decide), up_col (by decide), up_col (by decide), up_col (by decide), up_eq]
  · rw [up_col (by decide), up_col (by decide), up_col (by decide), up_col (by decide), up_col (by decide), up_eq]
  · rw [up_col (by decide), up_col (by decide), up_col (by decide), up_col (by decide), up_eq]
  · rw [up_col (by decide), up_col (by decide), up_col (by decide), up_eq]
  · rw [up_col (by decide), up_col (by decide), up_eq]
  · rw [up_col (by decide), up_eq]
  · rw [up_eq]
  · rw [up_row (by omega), up_row (by omega), up_row (by omega), up_row (by omega), up_row (by omega), up_row (by omega), up_row (by omega), up_row (by omega)]; exact Ua a j h1 h2
  · rw [up_row (by omega), up_row (by omega), up_row (by omega), up_row (by omega), up_row (by omega), up_row (by omega), up_row (by omega), up_row (by omega)]; exact Uf a j ha
/-- the shape of a world -/
def WSH : List (Nat × Nat) := [(10, 6), (1, 13), (20, 24), (20, 24), (20, 24), (20, 24), (20, 24), (24, 6), (20, 720)] ++ tlS 6
theorem ISh_new (hw : w = (sh.length : Int)) : ISh (sh ++ WSH) w := by
  have k : ∀ i, 0 ≤ i → kS (sh ++ WSH) (w + i) = kS WSH i := fun i i0 => by rw [hw]; exact kA i0
  refine ⟨?_, ?_, fun q q0 q1 => ?_, ?_, ?_, fun i i0 i1 => ?_⟩
  · have := k 0 (by decide); rw [Int.add_zero] at this; rw [this]; rfl
  · rw [k 1 (by decide)]; rfl
  · rw [Int.add_assoc, k _ (by omega)]
    have : q = 0 ∨ q = 1 ∨ q = 2 ∨ q = 3 ∨ q = 4 := by omega
    rcases this with rfl | rfl | rfl | rfl | rfl <;> rfl
  · rw [k 7 (by decide)]; rfl
  · rw [k 8 (by decide)]; rfl
  · rw [Int.add_assoc, k _ (by omega), Int.add_assoc, k _ (by omega), Int.add_assoc, k _ (by omega), Int.add_assoc, k _ (by omega)]
    have : i = 0 ∨ i = 1 ∨ i = 2 ∨ i = 3 ∨ i = 4 ∨ i = 5 := by omega
    rcases this with rfl | rfl | rfl | rfl | rfl | rfl <;> exact ⟨rfl, rfl, rfl, rfl⟩
theorem Wo_init_ok (w : Int) (hw : w = (sh.length : Int)) : ∃ V', Wo_init w (newc 10 6 (sh, V)) = some (0, (sh ++ WSH, V')) ∧ IP V' w ∧ (V' w 3 = 0 ∧ V' w 4 = 0 ∧ V' w 5 = 0 ∧ ∀ j, V' (w + 8) j = 0) ∧ (V' (w + 1) 0 = 0 ∧ V' (w + 1) 1 = 0 ∧ V' (w + 1) 2 = 360 ∧ V' (w + 1) 3 = 50 ∧ V' (w + 1) 4 = 90 ∧ V' (w + 1) 5 = 269 ∧ V' (w + 1) 6 = 0 ∧ V' (w + 1) 7 = 0) ∧ ∀ a j, (a < w ∨ w + 33 ≤ a) → V' a j = V a j := by
  have kw1 : kS (sh ++ [(10, 6)]) w = (10, 6) := kL hw
  obtain ⟨K, a1, a2, a3, a4, a5⟩ := Kg_init_ok (sh := sh ++ [(10, 6)]) (V := nwV V w 10) (w + 1) (by rw [len1]; omega)
  generalize hs2 : sh ++ [(10, 6)] ++ [(1, 13), (20, 24), (20, 24), (20, 24), (20, 24), (20, 24)] = s2 at a1
  have l2 : (s2.length : Int) = w + 7 := by rw [← hs2]; simp; omega
  have kw2 : kS s2 w = (10, 6) := by rw [← hs2, kB (by rw [len1]; omega)]; exact kw1
  generalize hU : upV (nwV (upV (nwV (upV K w 0 (w + 1)) (w + 7) 24) w 1 (w + 7)) (w + 8) 20) w 2 (w + 8) = U
  have kw3 : kS (s2 ++ [(24, 6)]) w = (10, 6) := by rw [kB (by omega)]; exact kw2
  have kw4 : kS (s2 ++ [(24, 6)] ++ [(20, 720)]) w = (10, 6) := by rw [kB (by rw [len1]; omega)]; exact kw3
  have k74 : kS (s2 ++ [(24, 6)] ++ [(20, 720)]) (w + 7) = (24, 6) := by rw [kB (by rw [len1]; omega)]; exact kL l2.symm
  have Uw0 : U w 0 = w + 1 := by rw [← hU, up_col (by decide), nw_row (by omega), up_col (by decide), nw_row (by omega), up_eq]
  have Uw1 : U w 1 = w + 7 := by rw [← hU, up_col (by decide), nw_row (by omega), up_eq]
  have Uw2 : U w 2 = w + 8 := by rw [← hU, up_eq]
  have Uw3 : ∀ j, j = 3 ∨ j = 4 ∨ j = 5 → U w j = 0 := fun j hj => by
    rw [← hU, up_col (by omega), nw_row (by omega), up_col (by omega), nw_row (by omega), up_col (by omega), a5 _ _ (by omega), nw_eq]
    rcases hj with rfl | rfl | rfl <;> rfl
  have Uf : ∀ a j, a ≠ w → a ≠ w + 7 → a ≠ w + 8 → U a j = K a j := fun a j h1 h2 h3 => by
    rw [← hU, up_row h1, nw_row h3, up_row h1, nw_row h2, up_row h1]
  have U8 : ∀ j, U (w + 8) j = 0 := fun j => by rw [← hU, up_row (by omega), nw_eq]; rfl
  obtain ⟨T, t1, t2, t3⟩ := winit_L (w := w) 7 0 (s2 ++ [(24, 6)] ++ [(20, 720)]) U (by omega) (by omega) (by rw [len1, len1]; omega) kw4 k74 Uw1
  have Tf : ∀ a j, a < w + 9 ∨ w + 33 ≤ a → a ≠ w + 7 → T a j = U a j := fun a j h1 h2 => t3 a j (by omega) (fun e => absurd e h2)
  have TK : ∀ a j, (a < w ∨ w + 33 ≤ a) ∨ (w < a ∧ a < w + 7) → T a j = K a j := fun a j ha => by rw [Tf a j (by omega) (by omega), Uf a j (by omega) (by omega) (by omega)]
  refine ⟨T, ?_, ⟨?_, ?_, ?_, fun q q0 q1 => ?_, fun i i0 i1 => ?_, fun i i0 i1 => ?_, fun i j i0 i1 j0 j1 hn => ?_⟩, ⟨?_, ?_, ?_, fun j => ?_⟩, ?_, fun a j ha => ?_⟩
  · unfold Wo_init
    rw [newc_eq, bit (by rw [kw1]), nlen_eq, len1, ← hw, a1, bd2_mk, bpt (by rw [kw2]), al_p (by rw [kw2]) (by omega), al_p (by rw [kw3]) (by rw [len1]; omega), len1, l2, show w + 7 + 1 = w + 8 by omega, hU]
    rw [show (0 : Int) = ((0 : Nat) : Int) from rfl, t1, ← hs2]
    simp only [List.append_assoc, List.cons_append, List.nil_append, WSH]
    rfl
  · rw [Tf _ _ (by omega) (by omega)]; exact Uw0
  · rw [Tf _ _ (by omega) (by omega)]; exact Uw1
  · rw [Tf _ _ (by omega) (by omega)]; exact Uw2
  · rw [TK _ _ (by omega), a2 q q0 q1]; omega
  · exact (t2 i (by omega) i1).1
  · exact ⟨i, i0, i1, (t2 i (by omega) i1).2⟩
  · rw [(t2 i (by omega) i1).2.1, (t2 j (by omega) j1).2.1]; omega
  · rw [Tf _ _ (by omega) (by omega)]; exact Uw3 _ (by decide)
  · rw [Tf _ _ (by omega) (by omega)]; exact Uw3 _ (by decide)
  · rw [Tf _ _ (by omega) (by omega)]; exact Uw3 _ (by decide)
  · rw [Tf _ _ (by omega) (by omega)]; exact U8 j
  · simp only [TK (w + 1) _ (by omega)]; exact a3
  · rw [TK _ _ (by omega), a5 _ _ (by omega), nw_row (by omega)]
end WORLDS
