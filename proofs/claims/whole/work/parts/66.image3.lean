/-! PURE: image and restore -/
section IMAGE3
variable {sh sh' : List (Nat × Nat)} {V V' V1 V2 V2' : Int → Int → Int} {r t s c i j k x a b y D D' f p v q h u o z m g w : Int} {S S' R : Int → Int} {n : Nat}
/-- two rows agree in a world's places -/
def Ag (S S' : Int → Int) : Prop := ∀ k, 0 ≤ k → k < 1629 → S' k = S k
theorem tre_ag (h : Ag S S') : ∀ n : Nat, n ≤ 6 → tre S' n = tre S n := by
  intro n
  induction n with
  | zero => intro _; rfl
  | succ n ih => intro hn; unfold tre; rw [ih (by omega), h _ (by omega) (by omega), h _ (by omega) (by omega)]
theorem WC_ag (A : Ag S S') (C : WC V w S) (h7 : S 7 ≤ 24) (hN : S 152 ≤ 6) (hm : ∀ i, 0 ≤ i → i < S 152 → S (171 + i) ≤ 40) : WC V w S' := by
  obtain ⟨c1, c2, c3, c4, c5, c6, c7⟩ := C
  have a7 := A 7 (by decide) (by decide)
  have a152 := A 152 (by decide) (by decide)
  refine ⟨fun j j0 j1 => by rw [A j j0 (by omega)]; exact c1 j j0 j1, fun q q0 q1 r r0 r1 => ?_, by rw [a152]; exact c3, ⟨c4.1, c4.2.1, fun r r0 r1 => ?_⟩, ?_, fun d d0 d1 => by rw [A _ (by omega) (by omega)]; exact c6 d d0 d1, fun i i0 i1 => ?_⟩
  · rw [a7] at r1; rw [A _ (by omega) (by omega)]; exact c2 q q0 q1 r r0 r1
  · rw [a7, A _ (by omega) (by omega)]; exact c4.2.2 r r0 r1
  · rw [a152, tre_ag A _ (by omega)]; exact c5
  · rw [a152] at i1
    have hmi := hm i i0 i1
    obtain ⟨d1, d2⟩ := c7 i i0 i1
    rw [A (153 + i) (by omega) (by omega), A (159 + i) (by omega) (by omega), A (165 + i) (by omega) (by omega), A (177 + i) (by omega) (by omega), A (183 + i) (by omega) (by omega), A (171 + i) (by omega) (by omega)]
    refine ⟨d1, fun k k0 k1 => ?_⟩
    rw [A _ (by omega) (by omega), A _ (by omega) (by omega), A _ (by omega) (by omega)]
    exact d2 k k0 k1
theorem SOk_ag (A : Ag S S') (O : SOk S D) : SOk S' D := by
  obtain ⟨⟨z1, z2, z3, z4, z5, z6, z7, z8, z9, z10, z11, z12, z13, z14⟩, o2, o3, o4, o5, o6⟩ := O
  have e : ∀ k, 0 ≤ k → k < 1629 → S' k = S k := A
  refine ⟨⟨?_, ?_, ?_, ?_, ?_, ?_, ?_, ?_, ?_, ?_, ?_, ?_, ?_, fun r r0 r1 => ?_⟩, ?_, ?_, fun i i0 i1 => ?_, fun r r0 r1 => ?_, fun d d0 d1 => ?_⟩
  · rw [e 0 (by decide) (by decide)]; exact z1
  · rw [e 0 (by decide) (by decide)]; exact z2
  · rw [e 7 (by decide) (by decide)]; exact z3
  · rw [e 7 (by decide) (by decide)]; exact z4
  · rw [e 2 (by decide) (by decide)]; exact z5
  · rw [e 2 (by decide) (by decide)]; exact z6
  · rw [e 3 (by decide) (by decide)]; exact z7
  · rw [e 3 (by decide) (by decide)]; exact z8
  · rw [e 4 (by decide) (by decide)]; exact z9
  · rw [e 4 (by decide) (by decide), e 5 (by decide) (by decide)]; exact z10
  · rw [e 5 (by decide) (by decide)]; exact z11
  · rw [e 0 (by decide) (by decide), e 7 (by decide) (by decide)]; exact z12
  · rw [e 0 (by decide) (by decide), e 1 (by decide) (by decide)]; exact z13
  · rw [e 7 (by decide) (by decide)] at r1
    rw [e (8 + r) (by omega) (by omega), e (32 + r) (by omega) (by omega), e (56 + r) (by omega) (by omega), e (80 + r) (by omega) (by omega), e (104 + r) (by omega) (by omega), e 0 (by decide) (by decide)]
    exact z14 r r0 r1
  · rw [e 152 (by decide) (by decide)]; exact o2
  · rw [e 152 (by decide) (by decide)]; exact o3
  · rw [e 152 (by decide) (by decide)] at i1
    have ti := o4 i i0 i1
    unfold TOk at ti ⊢
    rw [e (171 + i) (by omega) (by omega), e (159 + i) (by omega) (by omega), e (153 + i) (by omega) (by omega), e 0 (by decide) (by decide), e 7 (by decide) (by decide)]
    refine ⟨ti.1, ti.2.1, ti.2.2.1, ti.2.2.2.1, ti.2.2.2.2.1, ti.2.2.2.2.2.1, fun k k0 k1 => ?_⟩
    have h40 := ti.2.1
    rw [e (189 + (40 * i + k)) (by omega) (by omega), e (429 + (40 * i + k)) (by omega) (by omega), e (669 + (40 * i + k)) (by omega) (by omega)]
    exact ti.2.2.2.2.2.2 k k0 k1
  · rw [e 7 (by decide) (by decide)] at r1
    rw [e (128 + r) (by omega) (by omega)]; exact o5 r r0 r1
  · rw [e (909 + d) (by omega) (by omega)]; exact o6 d d0 d1
/-- image i's row -/
def rowI (S : Int → Int) (i : Int) : Int → Int := fun k => if 0 ≤ k ∧ k < 1629 then S (1629 * (i + 1) + k) else 0
theorem rowI_same (h : ∀ k, 1629 ≤ k → S' k = S k) (h0 : 0 ≤ i) : rowI S' i = rowI S i := by
  funext k; unfold rowI
  by_cases e : 0 ≤ k ∧ k < 1629
  · rw [if_pos e, if_pos e]; exact h _ (by omega)
  · rw [if_neg e, if_neg e]
/-- one image in both -/
def IM1 (sh : List (Nat × Nat)) (V V2 : Int → Int → Int) (S : Int → Int) (D i : Int) : Prop := (V 35 i = -1 ∧ V2 103 i = 0) ∨ (131 ≤ V 35 i ∧ V 35 i + 33 ≤ (sh.length : Int) ∧ ISh sh (V 35 i) ∧ IP V (V 35 i) ∧ V2 103 i = 1 ∧ WC V (V 35 i) (rowI S i) ∧ SOk (rowI S i) D)
/-- both -/
def IMr (sh : List (Nat × Nat)) (V V2 : Int → Int → Int) (S : Int → Int) (D : Int) : Prop := (∀ i, 0 ≤ i → i < 2 → IM1 sh V V2 S D i) ∧ (V 35 0 ≠ -1 → V 35 1 ≠ -1 → V 35 0 + 33 ≤ V 35 1 ∨ V 35 1 + 33 ≤ V 35 0)
theorem ISh_more (h : ISh sh w) (hl : w + 33 ≤ (sh.length : Int)) {e : List (Nat × Nat)} : ISh (sh ++ e) w := by
  obtain ⟨h1, h2, h3, h4, h5, h6⟩ := h
  refine ⟨by rw [kB (by omega)]; exact h1, by rw [kB (by omega)]; exact h2, fun q q0 q1 => by rw [kB (by omega)]; exact h3 q q0 q1, by rw [kB (by omega)]; exact h4, by rw [kB (by omega)]; exact h5, fun i i0 i1 => ?_⟩
  rw [kB (by omega), kB (by omega), kB (by omega), kB (by omega)]; exact h6 i i0 i1
theorem Sh_len (H : Sh sh) : 131 ≤ sh.length := by
  have h : sh[130]? = some (21, 160) := by rw [H 130 (by decide)]; rfl
  have := (List.getElem?_eq_some_iff.mp h).1
  omega
theorem Sh_more (H : Sh sh) {e : List (Nat × Nat)} : Sh (sh ++ e) := fun a ha => by
  rw [List.getElem?_append_left (by have := Sh_len H; omega)]; exact H a ha
theorem IP_of (h : IP V w) (q : ∀ a j, w ≤ a → a < w + 33 → V' a j = V a j) : IP V' w := by
  obtain ⟨h1, h2, h3, h4, h5, h6, h7⟩ := h
  refine ⟨by rw [q _ _ (by omega) (by omega)]; exact h1, by rw [q _ _ (by omega) (by omega)]; exact h2, by rw [q _ _ (by omega) (by omega)]; exact h3, fun k k0 k1 => by rw [q _ _ (by omega) (by omega)]; exact h4 k k0 k1, fun i i0 i1 => by rw [q _ _ (by omega) (by omega)]; exact h5 i i0 i1, fun i i0 i1 => ?_, fun i j i0 i1 j0 j1 hn => ?_⟩
  · rw [q _ _ (by omega) (by omega), q _ _ (by omega) (by omega), q _ _ (by omega) (by omega)]; exact h6 i i0 i1
  · rw [q _ _ (by omega) (by omega), q _ _ (by omega) (by omega)]; exact h7 i j i0 i1 j0 j1 hn
theorem WC_of (h : WC V w S) (P : IP V w) (hN : S 152 ≤ 6) (q : ∀ a j, w ≤ a → a < w + 33 → V' a j = V a j) : WC V' w S := by
  obtain ⟨c1, c2, c3, c4, c5, c6, c7⟩ := h
  refine ⟨fun j j0 j1 => by rw [q _ _ (by omega) (by omega)]; exact c1 j j0 j1, fun k k0 k1 r r0 r1 => by rw [q _ _ (by omega) (by omega)]; exact c2 k k0 k1 r r0 r1, by rw [q _ _ (by omega) (by omega)]; exact c3, by rw [q _ _ (by omega) (by omega)]; exact c4, by rw [q _ _ (by omega) (by omega)]; exact c5, fun d d0 d1 => by rw [q _ _ (by omega) (by omega)]; exact c6 d d0 d1, fun i i0 i1 => ?_⟩
  obtain ⟨p, p0, p1, p2, p3, p4⟩ := P.2.2.2.2.2.1 i i0 (by omega)
  have e : ∀ j, V' (w + 9 + 4 * i) j = V (w + 9 + 4 * i) j := fun j => q _ _ (by omega) (by omega)
  rw [e, e, e, e, e, e, e, e, e]
  have := c7 i i0 i1
  refine ⟨this.1, fun k k0 k1 => ?_⟩
  rw [q (V (w + 9 + 4 * i) 6) _ (by omega) (by omega), q (V (w + 9 + 4 * i) 7) _ (by omega) (by omega), q (V (w + 9 + 4 * i) 8) _ (by omega) (by omega)]
  exact this.2 k k0 k1
end IMAGE3
