/-! PURE: worlds that become others -/
section IMAGE
variable {sh : List (Nat × Nat)} {V V' V1 V2 V2' : Int → Int → Int} {r t s c i j k x a b y D D' f p v q h u o z m g w : Int} {S S' R : Int → Int} {n : Nat}
/-- the shape of a world at w -/
def ISh (sh : List (Nat × Nat)) (w : Int) : Prop := kS sh w = (10, 6) ∧ kS sh (w + 1) = (1, 13) ∧ (∀ q, 0 ≤ q → q < 5 → kS sh (w + 2 + q) = (20, 24)) ∧ kS sh (w + 7) = (24, 6) ∧ kS sh (w + 8) = (20, 720) ∧ ∀ i, 0 ≤ i → i < 6 → kS sh (w + 9 + 4 * i) = (6, 9) ∧ kS sh (w + 10 + 4 * i) = (20, 40) ∧ kS sh (w + 11 + 4 * i) = (20, 40) ∧ kS sh (w + 12 + 4 * i) = (20, 40)
/-- its pointers -/
def IP (V : Int → Int → Int) (w : Int) : Prop := V w 0 = w + 1 ∧ V w 1 = w + 7 ∧ V w 2 = w + 8 ∧ (∀ q, 0 ≤ q → q < 5 → V (w + 1) (8 + q) = w + 2 + q) ∧ (∀ i, 0 ≤ i → i < 6 → V (w + 7) i = w + 9 + 4 * i) ∧ (∀ i, 0 ≤ i → i < 6 → ∃ p, 0 ≤ p ∧ p < 6 ∧ V (w + 9 + 4 * i) 6 = w + 10 + 4 * p ∧ V (w + 9 + 4 * i) 7 = w + 11 + 4 * p ∧ V (w + 9 + 4 * i) 8 = w + 12 + 4 * p) ∧ ∀ i j, 0 ≤ i → i < 6 → 0 ≤ j → j < 6 → i ≠ j → V (w + 9 + 4 * i) 6 ≠ V (w + 9 + 4 * j) 6
/-- its numbers -/
def WC (V : Int → Int → Int) (w : Int) (S : Int → Int) : Prop := (∀ j, 0 ≤ j → j < 8 → V (w + 1) j = S j) ∧ (∀ q, 0 ≤ q → q < 5 → ∀ r, 0 ≤ r → r < S 7 → V (w + 2 + q) r = S (8 + 24 * q + r)) ∧ V w 3 = S 152 ∧ (0 ≤ V w 4 ∧ V w 4 < 16777216 ∧ ∀ r, 0 ≤ r → r < 24 → bitI (V w 4) r = if r < S 7 then S (128 + r) else 0) ∧ V w 5 = w32 (tre S (S 152).toNat) ∧ (∀ d, 0 ≤ d → d < 720 → V (w + 8) d = S (909 + d)) ∧ ∀ i, 0 ≤ i → i < S 152 → (V (w + 9 + 4 * i) 0 = S (153 + i) ∧ V (w + 9 + 4 * i) 1 = S (159 + i) ∧ V (w + 9 + 4 * i) 2 = S (165 + i) ∧ V (w + 9 + 4 * i) 3 = S (177 + i) ∧ V (w + 9 + 4 * i) 4 = S (183 + i) ∧ V (w + 9 + 4 * i) 5 = S (171 + i)) ∧ ∀ k, 0 ≤ k → k < S (171 + i) → V (V (w + 9 + 4 * i) 6) k = S (189 + (40 * i + k)) ∧ V (V (w + 9 + 4 * i) 7) k = S (429 + (40 * i + k)) ∧ V (V (w + 9 + 4 * i) 8) k = S (669 + (40 * i + k))
theorem WC_CW : WC V 2 S → CW V S := by
  rintro ⟨h1, h2, h3, h4, h5, h6, h7⟩
  refine ⟨⟨h1 0 (by decide) (by decide), h1 1 (by decide) (by decide), h1 2 (by decide) (by decide), h1 3 (by decide) (by decide), h1 4 (by decide) (by decide), h1 5 (by decide) (by decide), h1 6 (by decide) (by decide), h1 7 (by decide) (by decide), fun r r0 r1 => ⟨?_, ?_, ?_, ?_, ?_⟩⟩, h4, h3, fun i i0 i1 => ?_, h6, h5⟩
  · have := h2 0 (by decide) (by decide) r r0 r1; simpa using this
  · have := h2 1 (by decide) (by decide) r r0 r1; simpa using this
  · have := h2 2 (by decide) (by decide) r r0 r1; simpa using this
  · have := h2 3 (by decide) (by decide) r r0 r1; simpa using this
  · have := h2 4 (by decide) (by decide) r r0 r1; simpa using this
  · have := h7 i i0 i1
    rw [show (2 : Int) + 9 + 4 * i = 11 + 4 * i by omega] at this
    exact this
theorem CW_WC : CW V S → WC V 2 S := by
  rintro ⟨⟨k0, k1, k2, k3, k4, k5, k6, k7, kr⟩, h4, h3, h7, h6, h5⟩
  refine ⟨fun j j0 j1 => ?_, fun q q0 q1 r r0 r1 => ?_, h3, h4, h5, h6, fun i i0 i1 => ?_⟩
  · have : j = 0 ∨ j = 1 ∨ j = 2 ∨ j = 3 ∨ j = 4 ∨ j = 5 ∨ j = 6 ∨ j = 7 := by omega
    rcases this with rfl | rfl | rfl | rfl | rfl | rfl | rfl | rfl
    · exact k0
    · exact k1
    · exact k2
    · exact k3
    · exact k4
    · exact k5
    · exact k6
    · exact k7
  · obtain ⟨a1, a2, a3, a4, a5⟩ := kr r r0 r1
    have : q = 0 ∨ q = 1 ∨ q = 2 ∨ q = 3 ∨ q = 4 := by omega
    rcases this with rfl | rfl | rfl | rfl | rfl
    · simpa using a1
    · simpa using a2
    · simpa using a3
    · simpa using a4
    · simpa using a5
  · have := h7 i i0 i1
    unfold TD at this
    rw [show (2 : Int) + 9 + 4 * i = 11 + 4 * i by omega]
    exact this
theorem IP_2 (P : Pt V) (T : TP V) : IP V 2 := by
  refine ⟨q_2_0 P, q_2_1 P, q_2_2 P, fun q q0 q1 => ?_, fun i i0 i1 => ?_, fun i i0 i1 => ?_, fun i j i0 i1 j0 j1 hn => ?_⟩
  · have : q = 0 ∨ q = 1 ∨ q = 2 ∨ q = 3 ∨ q = 4 := by omega
    rcases this with rfl | rfl | rfl | rfl | rfl
    · exact q_3_8 P
    · exact q_3_9 P
    · exact q_3_10 P
    · exact q_3_11 P
    · exact q_3_12 P
  · have : i = 0 ∨ i = 1 ∨ i = 2 ∨ i = 3 ∨ i = 4 ∨ i = 5 := by omega
    rcases this with rfl | rfl | rfl | rfl | rfl | rfl
    · exact q_9_0 P
    · exact q_9_1 P
    · exact q_9_2 P
    · exact q_9_3 P
    · exact q_9_4 P
    · exact q_9_5 P
  · obtain ⟨p, p0, p1, p2, p3, p4⟩ := T.1 i i0 i1
    rw [show (2 : Int) + 9 + 4 * i = 11 + 4 * i by omega]
    exact ⟨p, p0, p1, by rw [p2]; omega, by rw [p3]; omega, by rw [p4]; omega⟩
  · have := T.2 i j i0 i1 j0 j1 hn
    rw [show (2 : Int) + 9 + 4 * i = 11 + 4 * i by omega, show (2 : Int) + 9 + 4 * j = 11 + 4 * j by omega]
    exact this
theorem TP_IP (h : IP V 2) : TP V := by
  obtain ⟨-, -, -, -, -, h6, h7⟩ := h
  refine ⟨fun i i0 i1 => ?_, fun i j i0 i1 j0 j1 hn => ?_⟩
  · obtain ⟨p, p0, p1, p2, p3, p4⟩ := h6 i i0 i1
    rw [show (2 : Int) + 9 + 4 * i = 11 + 4 * i by omega] at p2 p3 p4
    exact ⟨p, p0, p1, by omega, by omega, by omega⟩
  · have := h7 i j i0 i1 j0 j1 hn
    rw [show (2 : Int) + 9 + 4 * i = 11 + 4 * i by omega, show (2 : Int) + 9 + 4 * j = 11 + 4 * j by omega] at this
    exact this
theorem ISh_2 (H : Sh sh) : ISh sh 2 := by
  refine ⟨k_2 H, k_3 H, fun q q0 q1 => ?_, k_9 H, k_10 H, fun i i0 i1 => ?_⟩
  · have : q = 0 ∨ q = 1 ∨ q = 2 ∨ q = 3 ∨ q = 4 := by omega
    rcases this with rfl | rfl | rfl | rfl | rfl
    · exact k_4 H
    · exact k_5 H
    · exact k_6 H
    · exact k_7 H
    · exact k_8 H
  · have := kTr H i0 i1
    rw [show (2 : Int) + 9 + 4 * i = 11 + 4 * i by omega, show (2 : Int) + 10 + 4 * i = 12 + 4 * i by omega, show (2 : Int) + 11 + 4 * i = 13 + 4 * i by omega, show (2 : Int) + 12 + 4 * i = 14 + 4 * i by omega]
    exact this
/-- a traveller becomes another -/
theorem become_t {t1 m1 s1 c1 t2 m2 s2 c2 : Int} (k1 : kS sh t1 = (6, 9)) (a1 : kS sh m1 = (20, 40)) (a2 : kS sh s1 = (20, 40)) (a3 : kS sh c1 = (20, 40)) (k2 : kS sh t2 = (6, 9)) (b1 : kS sh m2 = (20, 40)) (b2 : kS sh s2 = (20, 40)) (b3 : kS sh c2 = (20, 40)) (p1 : V t1 6 = m1) (p2 : V t1 7 = s1) (p3 : V t1 8 = c1) (q1 : V t2 6 = m2) (q2 : V t2 7 = s2) (q3 : V t2 8 = c2) (ht : t1 ≠ t2) (hm : m2 ≠ m1 ∧ m2 ≠ s1 ∧ m2 ≠ c1) (hs : s2 ≠ m1 ∧ s2 ≠ s1 ∧ s2 ≠ c1) (hc : c2 ≠ m1 ∧ c2 ≠ s1 ∧ c2 ≠ c1) (hd : m2 ≠ s2 ∧ m2 ≠ c2 ∧ s2 ≠ c2) : ∃ V', Tr_become t2 t1 (sh, V) = some (0, (sh, V')) ∧ (∀ j, 0 ≤ j → j < 6 → V' t2 j = V t1 j) ∧ (∀ j, 6 ≤ j → V' t2 j = V t2 j) ∧ (∀ k, 0 ≤ k → k < 40 → V' m2 k = V m1 k ∧ V' s2 k = V s1 k ∧ V' c2 k = V c1 k) ∧ ∀ a j, a ≠ t2 → a ≠ m2 → a ≠ s2 → a ≠ c2 → V' a j = V a j := by
  have e1 : (kS sh t1).1 = 6 := by rw [k1]
  have e2 : (kS sh t2).1 = 6 := by rw [k2]
  have n1 : t2 ≠ m2 := fun e => by rw [e, b1] at k2; cases k2
  have n2 : t2 ≠ s2 := fun e => by rw [e, b2] at k2; cases k2
  have n3 : t2 ≠ c2 := fun e => by rw [e, b3] at k2; cases k2
  have n4 : t1 ≠ m2 := fun e => by rw [e, b1] at k1; cases k1
  have n5 : t1 ≠ s2 := fun e => by rw [e, b2] at k1; cases k1
  have n6 : t1 ≠ c2 := fun e => by rw [e, b3] at k1; cases k1
  have n7 : m1 ≠ t2 := fun e => by rw [← e, a1] at k2; cases k2
  have n8 : s1 ≠ t2 := fun e => by rw [← e, a2] at k2; cases k2
  have n9 : c1 ≠ t2 := fun e => by rw [← e, a3] at k2; cases k2
  generalize hU : upV (upV (upV (upV (upV (upV V t2 0 (V t1 0)) t2 1 (V t1 1)) t2 2 (V t1 2)) t2 3 (V t1 3)) t2 4 (V t1 4)) t2 5 (V t1 5) = U
  have fU : ∀ a j, a ≠ t2 → U a j = V a j := fun a j ha => by rw [← hU, up_row ha, up_row ha, up_row ha, up_row ha, up_row ha, up_row ha]
  have gU : ∀ j, 6 ≤ j → U t2 j = V t2 j := fun j hj => by rw [← hU, up_col (by omega), up_col (by omega), up_col (by omega), up_col (by omega), up_col (by omega), up_col (by omega)]
  refine ⟨cpV (cpV (cpV U m1 0 m2 0 40) s1 0 s2 0 40) c1 0 c2 0 40, ?_, fun j j0 j1 => ?_, fun j hj => ?_, fun k k0 k1' => ?_, fun a j h1 h2 h3 h4 => ?_⟩
  · unfold Tr_become
    have c1' : ∀ W : Int → Int → Int, ∀ A : Int, ∀ j, cpV W A 0 m2 0 40 t1 j = W t1 j := fun W A j => if_neg (fun e => n4 e.1)
    have c2' : ∀ W : Int → Int → Int, ∀ A : Int, ∀ j, cpV W A 0 s2 0 40 t1 j = W t1 j := fun W A j => if_neg (fun e => n5 e.1)
    have d1' : ∀ W : Int → Int → Int, ∀ A : Int, ∀ j, cpV W A 0 m2 0 40 t2 j = W t2 j := fun W A j => if_neg (fun e => n1 e.1)
    have d2' : ∀ W : Int → Int → Int, ∀ A : Int, ∀ j, cpV W A 0 s2 0 40 t2 j = W t2 j := fun W A j => if_neg (fun e => n2 e.1)
    rw [bgt e1, bpt e2, bgt e1, up_row ht, bpt e2, bgt e1, up_row ht, up_row ht, bpt e2, bgt e1, up_row ht, up_row ht, up_row ht, bpt e2, bgt e1, up_row ht, up_row ht, up_row ht, up_row ht, bpt e2, bgt e1, up_row ht, up_row ht, up_row ht, up_row ht, up_row ht, bpt e2, hU]
    rw [bgt e1, fU _ _ ht, p1, bgt e2, gU _ (by decide), q1, acopy_ok (by rw [a1]) (by rw [b1]) (by decide) (by decide) (by decide) (by rw [a1]; decide) (by rw [b1]; decide), bd_mk, bgt e1, c1', fU _ _ ht, p2, bgt e2, d1', gU _ (by decide), q2, acopy_ok (by rw [a2]) (by rw [b2]) (by decide) (by decide) (by decide) (by rw [a2]; decide) (by rw [b2]; decide), bd_mk, bgt e1, c2', c1', fU _ _ ht, p3, bgt e2, d2', d1', gU _ (by decide), q3, acopy_ok (by rw [a3]) (by rw [b3]) (by decide) (by decide) (by decide) (by rw [a3]; decide) (by rw [b3]; decide), bd_mk]
  · unfold cpV
    rw [if_neg (fun e => n3 e.1), if_neg (fun e => n2 e.1), if_neg (fun e => n1 e.1), ← hU]
    have : j = 0 ∨ j = 1 ∨ j = 2 ∨ j = 3 ∨ j = 4 ∨ j = 5 := by omega
    rcases this with rfl | rfl | rfl | rfl | rfl | rfl
    · rw [up_col (by decide), up_col (by decide), up_col (by decide), up_col (by decide), up_col (by decide), up_eq]
    · rw [up_col (by decide), up_col (by decide), up_col (by decide), up_col (by decide), up_eq]
    · rw [up_col (by decide), up_col (by decide), up_col (by decide), up_eq]
    · rw [up_col (by decide), up_col (by decide), up_eq]
    · rw [up_col (by decide), up_eq]
    · rw [up_eq]
  · unfold cpV
    rw [if_neg (fun e => n3 e.1), if_neg (fun e => n2 e.1), if_neg (fun e => n1 e.1)]; exact gU j hj
  · unfold cpV
    refine ⟨?_, ?_, ?_⟩
    · rw [if_neg (fun e => hd.2.1 e.1), if_neg (fun e => hd.1 e.1), if_pos ⟨rfl, by omega, by omega⟩, fU _ _ n7]; congr 1; omega
    · rw [if_neg (fun e => hd.2.2 e.1), if_pos ⟨rfl, by omega, by omega⟩, if_neg (fun e => hm.2.1 e.1.symm), fU _ _ n8]; congr 1; omega
    · rw [if_pos ⟨rfl, by omega, by omega⟩, if_neg (fun e => hs.2.2 e.1.symm), if_neg (fun e => hm.2.2 e.1.symm), fU _ _ n9]; congr 1; omega
  · unfold cpV
    rw [if_neg (fun e => h4 e.1), if_neg (fun e => h3 e.1), if_neg (fun e => h2 e.1)]; exact fU a j h1
/-- a land becomes another -/
theorem become_k (hw : ISh sh w) (hv : ISh sh v) (pw : IP V w) (pv : IP V v) (hd : w + 33 ≤ v ∨ v + 33 ≤ w) : ∃ V', Kg_become (w + 1) (v + 1) (sh, V) = some (0, (sh, V')) ∧ (∀ j, 0 ≤ j → j < 8 → V' (w + 1) j = V (v + 1) j) ∧ (∀ j, 8 ≤ j → V' (w + 1) j = V (w + 1) j) ∧ (∀ q, 0 ≤ q → q < 5 → ∀ r, 0 ≤ r → r < 24 → V' (w + 2 + q) r = V (v + 2 + q) r) ∧ ∀ a j, (a < w + 1 ∨ w + 6 < a) → V' a j = V a j := by
  obtain ⟨-, kw, kwa, -⟩ := hw
  obtain ⟨-, kv, kva, -⟩ := hv
  have e1 : (kS sh (w + 1)).1 = 1 := by rw [kw]
  have e2 : (kS sh (v + 1)).1 = 1 := by rw [kv]
  have ne : v + 1 ≠ w + 1 := by omega
  have pwq := pw.2.2.2.1
  have pvq := pv.2.2.2.1
  generalize hU : upV (upV (upV (upV (upV (upV (upV (upV V (w + 1) 0 (V (v + 1) 0)) (w + 1) 1 (V (v + 1) 1)) (w + 1) 2 (V (v + 1) 2)) (w + 1) 3 (V (v + 1) 3)) (w + 1) 4 (V (v + 1) 4)) (w + 1) 5 (V (v + 1) 5)) (w + 1) 6 (V (v + 1) 6)) (w + 1) 7 (V (v + 1) 7) = U
  have fU : ∀ a j, a ≠ w + 1 → U a j = V a j := fun a j ha => by rw [← hU, up_row ha, up_row ha, up_row ha, up_row ha, up_row ha, up_row ha, up_row ha, up_row ha]
  have gU : ∀ j, 8 ≤ j → U (w + 1) j = V (w + 1) j := fun j hj => by rw [← hU, up_col (by omega), up_col (by omega), up_col (by omega), up_col (by omega), up_col (by omega), up_col (by omega), up_col (by omega), up_col (by omega)]
  have cN : ∀ (W : Int → Int → Int) (A B : Int) (a j : Int), a ≠ B → cpV W A 0 B 0 24 a j = W a j := fun W A B a j ha => if_neg (fun e => ha e.1)
  have pv0 := pvq 0 (by decide) (by decide)
  have pv1 := pvq 1 (by decide) (by decide)
  have pv2 := pvq 2 (by decide) (by decide)
  have pv3 := pvq 3 (by decide) (by decide)
  have pv4 := pvq 4 (by decide) (by decide)
  have pw0 := pwq 0 (by decide) (by decide)
  have pw1 := pwq 1 (by decide) (by decide)
  have pw2 := pwq 2 (by decide) (by decide)
  have pw3 := pwq 3 (by decide) (by decide)
  have pw4 := pwq 4 (by decide) (by decide)
  have s8 : (8 : Int) + 0 = 8 := rfl
  have s9 : (8 : Int) + 1 = 9 := rfl
  have s10 : (8 : Int) + 2 = 10 := rfl
  have s11 : (8 : Int) + 3 = 11 := rfl
  have s12 : (8 : Int) + 4 = 12 := rfl
  rw [s8] at pv0 pw0
  rw [s9] at pv1 pw1
  rw [s10] at pv2 pw2
  rw [s11] at pv3 pw3
  rw [s12] at pv4 pw4
  have kk : ∀ q, 0 ≤ q → q < 5 → (kS sh (v + 2 + q)).1 = 20 ∧ (kS sh (w + 2 + q)).1 = 20 ∧ ((kS sh (v + 2 + q)).2 : Int) = 24 ∧ ((kS sh (w + 2 + q)).2 : Int) = 24 := fun q q0 q1 => by rw [kwa q q0 q1, kva q q0 q1]; exact ⟨rfl, rfl, rfl, rfl⟩
  have ac : ∀ (W : Int → Int → Int) (q : Int) (f : Mem → Option (Int × Mem)), 0 ≤ q → q < 5 → bd (acopy 20 (sh, W) (v + 2 + q) 0 (w + 2 + q) 0 24) f = f (sh, cpV W (v + 2 + q) 0 (w + 2 + q) 0 24) := fun W q f q0 q1 => by
    obtain ⟨k1, k2, k3, k4⟩ := kk q q0 q1
    rw [acopy_ok k1 k2 (by decide) (by decide) (by decide) (by rw [k3]; decide) (by rw [k4]; decide), bd_mk]
  refine ⟨cpV (cpV (cpV (cpV (cpV U (v + 2 + 0) 0 (w + 2 + 0) 0 24) (v + 2 + 1) 0 (w + 2 + 1) 0 24) (v + 2 + 2) 0 (w + 2 + 2) 0 24) (v + 2 + 3) 0 (w + 2 + 3) 0 24) (v + 2 + 4) 0 (w + 2 + 4) 0 24, ?_, fun j j0 j1 => ?_, fun j hj => ?_, fun q q0 q1 r r0 r1 => ?_, fun a j ha => ?_⟩
  · unfold Kg_become
    rw [bgt e2, bpt e1, bgt e2, up_row ne, bpt e1, bgt e2, up_row ne, up_row ne, bpt e1, bgt e2, up_row ne, up_row ne, up_row ne, bpt e1, bgt e2, up_row ne, up_row ne, up_row ne, up_row ne, bpt e1, bgt e2, up_row ne, up_row ne, up_row ne, up_row ne, up_row ne, bpt e1, bgt e2, up_row ne, up_row ne, up_row ne, up_row ne, up_row ne, up_row ne, bpt e1, bgt e2, up_row ne, up_row ne, up_row ne, up_row ne, up_row ne, up_row ne, up_row ne, bpt e1, hU]
    rw [bgt e2, fU _ _ ne, pv0, bgt e1, gU _ (by decide), pw0, ac _ _ _ (by decide) (by decide)]
    rw [bgt e2, cN _ _ _ _ _ (by omega), fU _ _ ne, pv1, bgt e1, cN _ _ _ _ _ (by omega), gU _ (by decide), pw1, ac _ _ _ (by decide) (by decide)]
    rw [bgt e2, cN _ _ _ _ _ (by omega), cN _ _ _ _ _ (by omega), fU _ _ ne, pv2, bgt e1, cN _ _ _ _ _ (by omega), cN _ _ _ _ _ (by omega), gU _ (by decide), pw2, ac _ _ _ (by decide) (by decide)]
    rw [bgt e2, cN _ _ _ _ _ (by omega), cN _ _ _ _ _ (by omega), cN _ _ _ _ _ (by omega), fU _ _ ne, pv3, bgt e1, cN _ _ _ _ _ (by omega), cN _ _ _ _ _ (by omega), cN _ _ _ _ _ (by omega), gU _ (by decide), pw3, ac _ _ _ (by decide) (by decide)]
    rw [bgt e2, cN _ _ _ _ _ (by omega), cN _ _ _ _ _ (by omega), cN _ _ _ _ _ (by omega), cN _ _ _ _ _ (by omega), fU _ _ ne, pv4, bgt e1, cN _ _ _ _ _ (by omega), cN _ _ _ _ _ (by omega), cN _ _ _ _ _ (by omega), cN _ _ _ _ _ (by omega), gU _ (by decide), pw4, ac _ _ _ (by decide) (by decide)]
  · rw [cN _ _ _ _ _ (by omega), cN _ _ _ _ _ (by omega), cN _ _ _ _ _ (by omega), cN _ _ _ _ _ (by omega), cN _ _ _ _ _ (by omega), ← hU]
    have : j = 0 ∨ j = 1 ∨ j = 2 ∨ j = 3 ∨ j = 4 ∨ j = 5 ∨ j = 6 ∨ j = 7 := by omega
    rcases this with rfl | rfl | rfl | rfl | rfl | rfl | rfl | rfl <;> simp (disch := decide) only [up_col, up_eq]
  · rw [cN _ _ _ _ _ (by omega), cN _ _ _ _ _ (by omega), cN _ _ _ _ _ (by omega), cN _ _ _ _ _ (by omega), cN _ _ _ _ _ (by omega)]; exact gU j hj
  · have at' : ∀ (W : Int → Int → Int) (A B : Int), cpV W A 0 B 0 24 B r = W A r := fun W A B => by
      unfold cpV; rw [if_pos ⟨rfl, by omega, by omega⟩]; congr 1; omega
    have : q = 0 ∨ q = 1 ∨ q = 2 ∨ q = 3 ∨ q = 4 := by omega
    rcases this with rfl | rfl | rfl | rfl | rfl
    · rw [cN _ _ _ _ _ (by omega), cN _ _ _ _ _ (by omega), cN _ _ _ _ _ (by omega), cN _ _ _ _ _ (by omega), at', fU _ _ (by omega)]
    · rw [cN _ _ _ _ _ (by omega), cN _ _ _ _ _ (by omega), cN _ _ _ _ _ (by omega), at', cN _ _ _ _ _ (by omega), fU _ _ (by omega)]
    · rw [cN _ _ _ _ _ (by omega), cN _ _ _ _ _ (by omega), at', cN _ _ _ _ _ (by omega), cN _ _ _ _ _ (by omega), fU _ _ (by omega)]
    · rw [cN _ _ _ _ _ (by omega), at', cN _ _ _ _ _ (by omega), cN _ _ _ _ _ (by omega), cN _ _ _ _ _ (by omega), fU _ _ (by omega)]
    · rw [at', cN _ _ _ _ _ (by omega), cN _ _ _ _ _ (by omega), cN _ _ _ _ _ (by omega), cN _ _ _ _ _ (by omega), fU _ _ (by omega)]
  · rw [cN _ _ _ _ _ (by omega), cN _ _ _ _ _ (by omega), cN _ _ _ _ _ (by omega), cN _ _ _ _ _ (by omega), cN _ _ _ _ _ (by omega)]; exact fU a j (by omega)
end IMAGE
