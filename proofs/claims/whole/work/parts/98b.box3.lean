/-! PURE: box; the class -/
section BOX3
variable {sh : List (Nat × Nat)} {V V' V1 V2 : Int → Int → Int} {i j k x a b D v2 : Int} {S : Int → Int} {n z m r q X h0 J : Nat} {g : Nat → Nat} {C : Nat → Bool}
def BFr (V V' : Int → Int → Int) : Prop := ∀ a j, a ≠ 91 → a ≠ 92 → V' a j = V a j
theorem BFr_refl : BFr V V := fun _ _ _ _ => rfl
theorem BFr_trans (h : BFr V V') (h' : BFr V' V1) : BFr V V1 := fun a j a1 a2 => (h' a j a1 a2).trans (h a j a1 a2)
theorem BFr_up (h : BFr V V') (q : a = 91 ∨ a = 92) : BFr V (upV V' a k x) := fun b j a1 a2 => by rw [up_row (by omega)]; exact h b j a1 a2
theorem BFr_Pt (h : BFr V V') (P : Pt V) : Pt V' := fun q hq => by
  have z : ∀ q ∈ ptC, q.1 ≠ 91 ∧ q.1 ≠ 92 := by decide
  rw [h _ _ (z q hq).1 (z q hq).2]; exact P q hq
theorem BFr_Cx (X0 : Cx sh V S D) (h : BFr V V') : Cx sh V' S D := Cx_lo X0 (fun a j ha => h a j (by omega) (by omega)) (BFr_Pt h X0.2.1)
theorem BFr_SF (h : BFr V V') : SF V V' := fun a j q => h a j (by omega) (by omega)
theorem BFr_WPt (h : BFr V V') (W : WPt V) : WPt V' := WPt_of W (fun t j ht g0 g1 => h t j (by omega) (by omega))
/-- a place among the sorted ones -/
theorem so_26 (hm : m < 24) (hr : (r : Int) < S 7) (hg : ∀ j, j < m → (g j : Int) < S 7) : ∀ (n k : Nat) (V : Int → Int → Int), Cx sh V S D → k < n → k ≤ m → (∀ j : Nat, j < k → V 91 j = g j) → (∀ j : Nat, k < j → j ≤ m → V 91 j = g (j - 1)) → (∀ j : Nat, k ≤ j → j < m → S (104 + (r : Int)) < S (104 + (g j : Int))) → ∃ (V' : Int → Int → Int) (k' : Nat), (∀ a j, a ≠ 91 → V' a j = V a j) ∧ k' ≤ k ∧ (∀ j : Nat, j < k' → V' 91 j = g j) ∧ (∀ j : Nat, k' < j → j ≤ m → V' 91 j = g (j - 1)) ∧ (∀ j : Nat, k' ≤ j → j < m → S (104 + (r : Int)) < S (104 + (g j : Int))) ∧ (k' = 0 ∨ S (104 + (g (k' - 1) : Int)) ≤ S (104 + (r : Int))) ∧ ∀ kk v2, Te_sortRoads_L26 kk n 90 2 v2 r k (sh, V) = kk 90 2 v2 r k' (sh, V') := by
  intro n
  induction n with
  | zero => intro k _ _ h; omega
  | succ n ih =>
    intro k V X hn hk A1 A2 A3
    have H := X.1
    have P := X.2.1
    have k90 : (kS sh 90).1 = 7 := by rw [k_90 H]
    by_cases k0 : 0 < k
    · have gk := hg (k - 1) (by omega)
      by_cases c : S (104 + (r : Int)) < S (104 + (g (k - 1) : Int))
      · have F : BFr V (upV V 91 k (g (k - 1))) := BFr_up BFr_refl (Or.inl rfl)
        obtain ⟨V', k', f1, f2, f3, f4, f5, f6, f7⟩ := ih (k - 1) _ (BFr_Cx X F) (by omega) (by omega) (fun j hj => by rw [up_col (by omega)]; exact A1 j (by omega)) (fun j j0 j1 => by
          by_cases e : j = k
          · rw [e, up_eq]
          · rw [up_col (by omega)]; exact A2 j (by omega) j1) (fun j j0 j1 => by
          by_cases e : j = k - 1
          · rw [e]; exact c
          · exact A3 j (by omega) j1)
        refine ⟨V', k', fun a j ha => by rw [f1 a j ha, up_row ha], by omega, f3, f4, f5, f6, fun kk v2 => ?_⟩
        rw [Te_sortRoads_L26, if_pos (by omega), b20 X, b3c X, bgt k90, q_90_0 P, w32_id (by omega) (by omega), show (k : Int) - 1 = ((k - 1 : Nat) : Int) by omega, blt (by rw [k_91 H]) (by omega) (by rw [k_91 H]; show _ < (24 : Int); omega), A1 (k - 1) (by omega), bl8 X (by omega) gk, b20 X, b3c X, bl8 X (by omega) hr, if_pos c, bgt k90, q_90_0 P, bgt k90, q_90_0 P, blt (by rw [k_91 H]) (by omega) (by rw [k_91 H]; show _ < (24 : Int); omega), A1 (k - 1) (by omega), bst (by rw [k_91 H]) (by omega) (by rw [k_91 H]; show _ < (24 : Int); omega), w32_id (by omega) (by omega), show (k : Int) + -1 = ((k - 1 : Nat) : Int) by omega]
        exact f7 kk v2
      · refine ⟨V, k, fun _ _ _ => rfl, by omega, A1, A2, A3, Or.inr (by omega), fun kk v2 => ?_⟩
        rw [Te_sortRoads_L26, if_pos (by omega), b20 X, b3c X, bgt k90, q_90_0 P, w32_id (by omega) (by omega), show (k : Int) - 1 = ((k - 1 : Nat) : Int) by omega, blt (by rw [k_91 H]) (by omega) (by rw [k_91 H]; show _ < (24 : Int); omega), A1 (k - 1) (by omega), bl8 X (by omega) gk, b20 X, b3c X, bl8 X (by omega) hr, if_neg c]
    · refine ⟨V, k, fun _ _ _ => rfl, by omega, A1, A2, A3, Or.inl (by omega), fun kk v2 => ?_⟩
      rw [Te_sortRoads_L26, if_neg (by omega)]
/-- roads below z are sorted -/
def srz (S : Int → Int) (g : Nat → Nat) (m z : Nat) : Prop := (∀ k, k < m → g k < z ∧ S (128 + g k) = 0) ∧ (∀ r, r < z → S (128 + r) = 0 → ∃ k, k < m ∧ g k = r) ∧ (∀ j k, j ≤ k → k < m → S (104 + g j) ≤ S (104 + g k)) ∧ m ≤ z
theorem so_4 : ∀ (n z m : Nat) (g : Nat → Nat) (V : Int → Int → Int), Cx sh V S D → (z : Int) ≤ S 7 → (S 7).toNat - z < n → srz S g m z → (∀ k : Nat, k < m → V 91 k = g k) → ∃ (V' : Int → Int → Int) (g' : Nat → Nat) (m' : Nat), BFr V V' ∧ srz S g' m' (S 7).toNat ∧ (∀ k : Nat, k < m' → V' 91 k = g' k) ∧ Te_sortRoads_L4 n 90 2 m z (sh, V) = some ((m' : Int), (sh, V')) := by
  intro n
  induction n with
  | zero => intro z _ _ _ _ _ h; omega
  | succ n ih =>
    intro z m g V X hz hn G A
    have H := X.1
    have P := X.2.1
    have k90 : (kS sh 90).1 = 7 := by rw [k_90 H]
    obtain ⟨r1, r2, r3, r4, r5, r6, r7⟩ := Cx_rng X
    obtain ⟨s1, s2, s3, s4⟩ := id G
    by_cases q : (z : Int) < S 7
    · by_cases o : S (128 + (z : Int)) = 0
      · obtain ⟨V1, k', f1, f2, f3, f4, f5, f6, f7⟩ := so_26 (S := S) (g := g) (r := z) (m := m) (by omega) q (fun j hj => by have := (s1 j hj).1; omega) FU m V X (by show _ < 1000000; omega) (by omega) A (fun j j0 j1 => by omega) (fun j j0 j1 => by omega)
        have F1 : BFr V V1 := fun a j a1 _ => f1 a j a1
        have F2 : BFr V (upV V1 91 k' z) := BFr_up F1 (Or.inl rfl)
        have X2 := BFr_Cx X F2
        have g1 : ∀ j, j < k' → (fun j => if j < k' then g j else if j = k' then z else g (j - 1)) j = g j := fun j hj => if_pos hj
        have g2 : (fun j => if j < k' then g j else if j = k' then z else g (j - 1)) k' = z := by show (if k' < k' then _ else _) = _; rw [if_neg (by omega), if_pos rfl]
        have g3 : ∀ j, k' < j → (fun j => if j < k' then g j else if j = k' then z else g (j - 1)) j = g (j - 1) := fun j hj => by show (if j < k' then _ else _) = _; rw [if_neg (by omega), if_neg (by omega)]
        generalize (fun j => if j < k' then g j else if j = k' then z else g (j - 1)) = G1 at g1 g2 g3
        have dz : ∀ j, j < k' → S (104 + (g j : Int)) ≤ S (104 + (z : Int)) := fun j hj => by
          rcases f6 with e | e
          · omega
          · exact Int.le_trans (s3 j (k' - 1) (by omega) (by omega)) e
        have G' : srz S G1 (m + 1) (z + 1) := by
          refine ⟨fun k hk => ?_, fun r hr ho => ?_, fun j k hjk hk => ?_, by omega⟩
          · by_cases e1 : k < k'
            · rw [g1 k e1]; exact ⟨by have := (s1 k (by omega)).1; omega, (s1 k (by omega)).2⟩
            · by_cases e2 : k = k'
              · rw [e2, g2]; exact ⟨by omega, o⟩
              · rw [g3 k (by omega)]; exact ⟨by have := (s1 (k - 1) (by omega)).1; omega, (s1 (k - 1) (by omega)).2⟩
          · by_cases e : r = z
            · exact ⟨k', by omega, by rw [g2, e]⟩
            · obtain ⟨k, k1, k2⟩ := s2 r (by omega) ho
              by_cases e1 : k < k'
              · exact ⟨k, by omega, by rw [g1 k e1]; exact k2⟩
              · exact ⟨k + 1, by omega, by rw [g3 (k + 1) (by omega)]; exact k2⟩
          · by_cases e1 : k < k'
            · rw [g1 k e1, g1 j (by omega)]; exact s3 j k hjk (by omega)
            · by_cases e2 : k = k'
              · rw [e2, g2]
                by_cases e3 : j = k'
                · rw [e3, g2]; exact Int.le_refl _
                · rw [g1 j (by omega)]; exact dz j (by omega)
              · rw [g3 k (by omega)]
                by_cases e3 : j < k'
                · rw [g1 j e3]; exact s3 j (k - 1) (by omega) (by omega)
                · by_cases e4 : j = k'
                  · rw [e4, g2]; have := f5 (k - 1) (by omega) (by omega); omega
                  · rw [g3 j (by omega)]; exact s3 (j - 1) (k - 1) (by omega) (by omega)
        obtain ⟨V', g', m', y1, y2, y3, y4⟩ := ih (z + 1) (m + 1) G1 _ X2 (by omega) (by omega) G' (fun k hk => by
          by_cases e1 : k < k'
          · rw [up_col (by omega), g1 k e1]; exact f3 k e1
          · by_cases e2 : k = k'
            · rw [e2, up_eq, g2]
            · rw [up_col (by omega), g3 k (by omega)]; exact f4 k (by omega) (by omega))
        refine ⟨V', g', m', BFr_trans F2 y1, y2, y3, ?_⟩
        rw [Te_sortRoads_L4, b20 X, b37 X, if_pos q, bi2 X, x_isOpen X (by omega) q, B_t o, if_neg (by decide), f7]
        unfold Te_sortRoads_J82
        rw [bgt k90, q_90_0 (BFr_Pt F1 P), bst (by rw [k_91 H]) (by omega) (by rw [k_91 H]; show _ < (24 : Int); omega), w32_id (by omega) (by omega), show (m : Int) + 1 = ((m + 1 : Nat) : Int) by omega]
        show Te_sortRoads_L4 n 90 2 ((m + 1 : Nat) : Int) (w32 ((z : Int) + 1)) _ = _
        rw [w32_id (by omega) (by omega), show (z : Int) + 1 = ((z + 1 : Nat) : Int) by omega]
        exact y4
      · obtain ⟨V', g', m', y1, y2, y3, y4⟩ := ih (z + 1) m g V X (by omega) (by omega) ⟨fun k hk => ⟨by have := (s1 k hk).1; omega, (s1 k hk).2⟩, fun r hr ho => s2 r (by
          by_cases e : r = z
          · rw [e] at ho; exact absurd ho o
          · omega) ho, s3, by omega⟩ A
        refine ⟨V', g', m', y1, y2, y3, ?_⟩
        rw [Te_sortRoads_L4, b20 X, b37 X, if_pos q, bi2 X, x_isOpen X (by omega) q, B_f o, if_pos rfl, w32_id (by omega) (by omega), show (z : Int) + 1 = ((z + 1 : Nat) : Int) by omega]
        exact y4
    · refine ⟨V, g, m, BFr_refl, by rw [show (S 7).toNat = z by omega]; exact G, A, ?_⟩
      rw [Te_sortRoads_L4, b20 X, b37 X, if_neg q]
/-- the groups are what C joins -/
def GI (V : Int → Int → Int) (S : Int → Int) (C : Nat → Bool) : Prop := ∀ a : Nat, (a : Int) < S 0 → ∃ gm : Nat, V 92 a = gm ∧ gm < 4096 ∧ ∀ b, gm.testBit b = true ↔ ((b : Int) < S 0 ∧ Cn S C a b)
theorem td_3 : ∀ (n z : Nat) (V : Int → Int → Int), Cx sh V S D → (z : Int) ≤ S 0 → (S 0).toNat - z < n → (∀ a : Nat, a < z → V 92 a = ((2 ^ a : Nat) : Int)) → ∃ (V' : Int → Int → Int), (∀ a j, a ≠ 92 → V' a j = V a j) ∧ (∀ a : Nat, (a : Int) < S 0 → V' 92 a = ((2 ^ a : Nat) : Int)) ∧ ∀ kk v2 v3, Te_treeDays_L3 kk n 90 3 v2 v3 z (sh, V) = kk 90 3 v2 v3 (sh, V') := by
  intro n
  induction n with
  | zero => intro z _ _ _ h; omega
  | succ n ih =>
    intro z V X hz hn A
    have H := X.1
    obtain ⟨r1, r2, r3, r4, r5, r6, r7⟩ := Cx_rng X
    by_cases q : (z : Int) < S 0
    · have F : BFr V (upV V 92 z ((2 ^ z : Nat) : Int)) := BFr_up BFr_refl (Or.inr rfl)
      obtain ⟨V', f1, f2, f3⟩ := ih (z + 1) _ (BFr_Cx X F) (by omega) (by omega) (fun a ha => by
        by_cases e : a = z
        · rw [e, up_eq]
        · rw [up_col (by omega)]; exact A a (by omega))
      refine ⟨V', fun a j ha => by rw [f1 a j ha, up_row ha], f2, fun kk v2 v3 => ?_⟩
      have es : shl32 1 (z : Int) = ((2 ^ z : Nat) : Int) := by rw [shl1 (by omega) (by omega)]; rfl
      rw [Te_treeDays_L3, b30 X, if_pos q, bgt (by rw [k_90 H]), q_90_1 X.2.1, es, bst (by rw [k_92 H]) (by omega) (by rw [k_92 H]; show _ < (12 : Int); omega), w32_id (by omega) (by omega), show (z : Int) + 1 = ((z + 1 : Nat) : Int) by omega]
      exact f3 kk v2 v3
    · refine ⟨V, fun _ _ _ => rfl, fun a ha => A a (by omega), fun kk v2 v3 => ?_⟩
      rw [Te_treeDays_L3, b30 X, if_neg q]
theorem GI_0 (A : ∀ a : Nat, (a : Int) < S 0 → V 92 a = ((2 ^ a : Nat) : Int)) (h12 : S 0 ≤ 12) : GI V S (fun _ => false) := fun a ha => by
  refine ⟨2 ^ a, A a ha, Nat.lt_of_lt_of_le (Nat.pow_lt_pow_right (a := 2) (by decide) (by omega : a < 12)) (by decide), fun b => ?_⟩
  have only : ∀ y z : Int, Cn S (fun _ => false) y z → z = y := fun y z h => h (fun w => w = y) (fun r hr => by cases hr) rfl
  rw [Nat.testBit_two_pow]
  constructor
  · intro e
    have e : a = b := by simpa using e
    subst e; exact ⟨ha, Cn_refl⟩
  · intro e
    have := only _ _ e.2
    simp; omega
theorem un_2 {mm : Nat} (hm : mm < 4096) : ∀ (n z : Nat) (V : Int → Int → Int), Cx sh V S D → (z : Int) ≤ S 0 → (S 0).toNat - z < n → ∃ (V' : Int → Int → Int), (∀ a j, a ≠ 92 → V' a j = V a j) ∧ (∀ a : Nat, V' 92 a = if (z ≤ a ∧ (a : Int) < S 0) ∧ mm.testBit a = true then (mm : Int) else V 92 a) ∧ Te_unite_L2 n 90 3 mm z (sh, V) = some (0, (sh, V')) := by
  intro n
  induction n with
  | zero => intro z _ _ _ h; omega
  | succ n ih =>
    intro z V X hz hn
    have H := X.1
    obtain ⟨r1, r2, r3, r4, r5, r6, r7⟩ := Cx_rng X
    by_cases q : (z : Int) < S 0
    · have wz : w32 ((z : Int) + 1) = ((z + 1 : Nat) : Int) := by rw [w32_id (by omega) (by omega)]; omega
      by_cases t : mm.testBit z = true
      · have F : BFr V (upV V 92 z mm) := BFr_up BFr_refl (Or.inr rfl)
        obtain ⟨V', f1, f2, f3⟩ := ih (z + 1) _ (BFr_Cx X F) (by omega) (by omega)
        refine ⟨V', fun a j ha => by rw [f1 a j ha, up_row ha], fun a => ?_, ?_⟩
        · rw [f2 a]
          by_cases e : a = z
          · subst e; rw [if_neg (by omega), up_eq, if_pos ⟨⟨by omega, q⟩, t⟩]
          · rw [up_col (by omega)]
            by_cases e2 : (z + 1 ≤ a ∧ (a : Int) < S 0) ∧ mm.testBit a = true
            · rw [if_pos e2, if_pos ⟨⟨by omega, e2.1.2⟩, e2.2⟩]
            · rw [if_neg e2, if_neg (fun g => e2 ⟨⟨by omega, g.1.2⟩, g.2⟩)]
        · rw [Te_unite_L2, b30 X, if_pos q, bit_eq_tb hm (by omega), if_pos t, if_neg (by decide), bgt (by rw [k_90 H]), q_90_1 X.2.1, bst (by rw [k_92 H]) (by omega) (by rw [k_92 H]; show _ < (12 : Int); omega), wz]
          exact f3
      · obtain ⟨V', f1, f2, f3⟩ := ih (z + 1) V X (by omega) (by omega)
        refine ⟨V', f1, fun a => ?_, ?_⟩
        · rw [f2 a]
          by_cases e2 : (z + 1 ≤ a ∧ (a : Int) < S 0) ∧ mm.testBit a = true
          · rw [if_pos e2, if_pos ⟨⟨by omega, e2.1.2⟩, e2.2⟩]
          · rw [if_neg e2, if_neg (fun g => e2 ⟨⟨by
              by_cases e : a = z
              · rw [e] at g; exact absurd g.2 t
              · omega, g.1.2⟩, g.2⟩)]
        · rw [Te_unite_L2, b30 X, if_pos q, bit_eq_tb hm (by omega), if_neg t, if_pos rfl, wz]
          exact f3
    · refine ⟨V, fun _ _ _ => rfl, fun a => by rw [if_neg (by omega)], ?_⟩
      rw [Te_unite_L2, b30 X, if_neg q]
/-- a road joins two groups -/
theorem GI_take (G : GI V S C) {e u v gu gv : Nat} (eu : (u : Int) = S (8 + e)) (ev : (v : Int) = S (32 + e)) (hu : (u : Int) < S 0) (hv : (v : Int) < S 0) (gu1 : V 92 u = gu) (gu2 : gu < 4096) (gu3 : ∀ b, gu.testBit b = true ↔ ((b : Int) < S 0 ∧ Cn S C u b)) (gv1 : V 92 v = gv) (gv2 : gv < 4096) (gv3 : ∀ b, gv.testBit b = true ↔ ((b : Int) < S 0 ∧ Cn S C v b)) (hV : ∀ a : Nat, V' 92 a = if (0 ≤ a ∧ (a : Int) < S 0) ∧ (gu ||| gv).testBit a = true then ((gu ||| gv : Nat) : Int) else V 92 a) : GI V' S (ad C e) := by
  have adm : ∀ {a b : Int}, Cn S C a b → Cn S (ad C e) a b := fun z => Cn_mono (fun r hr => by unfold ad; split <;> simp [hr]) z
  have ee : Cn S (ad C e) u v := by rw [eu, ev]; exact Cn_edge ad_self
  intro a ha
  by_cases t : (gu ||| gv).testBit a = true
  · refine ⟨gu ||| gv, by rw [hV a, if_pos ⟨⟨by omega, ha⟩, t⟩], Nat.or_lt_two_pow (n := 12) gu2 gv2, fun b => ?_⟩
    rw [Nat.testBit_or, Bool.or_eq_true, gu3, gv3] at t ⊢
    have au : Cn S (ad C e) a u := by
      rcases t with t | t
      · exact Cn_symm (adm t.2)
      · exact Cn_trans (Cn_symm (adm t.2)) (Cn_symm ee)
    constructor
    · rintro (z | z)
      · exact ⟨z.1, Cn_trans au (adm z.2)⟩
      · exact ⟨z.1, Cn_trans au (Cn_trans ee (adm z.2))⟩
    · intro z
      rcases Cn_ad z.2 with w | ⟨w1, w2⟩ | ⟨w1, w2⟩
      · rcases t with t | t
        · exact Or.inl ⟨z.1, Cn_trans t.2 w⟩
        · exact Or.inr ⟨z.1, Cn_trans t.2 w⟩
      · rw [← ev] at w2; exact Or.inr ⟨z.1, w2⟩
      · rw [← eu] at w2; exact Or.inl ⟨z.1, w2⟩
  · obtain ⟨gm, m1, m2, m3⟩ := G a ha
    refine ⟨gm, by rw [hV a, if_neg (fun g => t g.2)]; exact m1, m2, fun b => ?_⟩
    rw [m3 b]
    have nu : ¬ Cn S C u a := fun z => t (by rw [Nat.testBit_or, Bool.or_eq_true, gu3]; exact Or.inl ⟨ha, z⟩)
    have nv : ¬ Cn S C v a := fun z => t (by rw [Nat.testBit_or, Bool.or_eq_true, gv3]; exact Or.inr ⟨ha, z⟩)
    constructor
    · intro z; exact ⟨z.1, adm z.2⟩
    · intro z
      rcases Cn_ad z.2 with w | ⟨w1, w2⟩ | ⟨w1, w2⟩
      · exact ⟨z.1, w⟩
      · rw [← eu] at w1; exact absurd (Cn_symm w1) nu
      · rw [← ev] at w1; exact absurd (Cn_symm w1) nv
end BOX3
