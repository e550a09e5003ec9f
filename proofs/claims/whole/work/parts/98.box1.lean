/-! PURE: towns joined by roads (no memory here) -/
section BOX1
variable {S : Int → Int} {U U' C W X0 : Nat → Bool} {a b c h t x y : Int} {r n f k : Nat}
/-- b is reached from a by roads of U -/
def Cn (S : Int → Int) (U : Nat → Bool) (a b : Int) : Prop := ∀ Q : Int → Prop, (∀ r : Nat, U r = true → (Q (S (8 + r)) ↔ Q (S (32 + r)))) → Q a → Q b
theorem Cn_refl : Cn S U a a := fun _ _ q => q
theorem Cn_symm (h : Cn S U a b) : Cn S U b a := fun Q hQ q => Classical.byContradiction (fun n => h (fun z => ¬ Q z) (fun r hr => not_congr (hQ r hr)) n q)
theorem Cn_trans (h : Cn S U a b) (h' : Cn S U b c) : Cn S U a c := fun Q hQ q => h' Q hQ (h Q hQ q)
theorem Cn_edge (h : U r = true) : Cn S U (S (8 + r)) (S (32 + r)) := fun _ hQ q => (hQ r h).mp q
/-- what each road of U joins, U' joins -/
theorem Cn_sub (h : ∀ r, U r = true → Cn S U' (S (8 + r)) (S (32 + r))) (q : Cn S U a b) : Cn S U' a b := fun Q hQ z => q Q (fun r hr => ⟨fun w => h r hr Q hQ w, fun w => Cn_symm (h r hr) Q hQ w⟩) z
theorem Cn_mono (h : ∀ r, U r = true → U' r = true) (q : Cn S U a b) : Cn S U' a b := Cn_sub (fun r hr => Cn_edge (h r hr)) q
/-- one road more, one road less -/
def ad (U : Nat → Bool) (r : Nat) : Nat → Bool := fun k => if k = r then true else U k
def rm (U : Nat → Bool) (r : Nat) : Nat → Bool := fun k => if k = r then false else U k
def un (U W : Nat → Bool) : Nat → Bool := fun k => U k || W k
theorem ad_self : ad U r r = true := if_pos rfl
theorem ad_ne (h : k ≠ r) : ad U r k = U k := if_neg h
theorem rm_self : rm U r r = false := if_pos rfl
theorem rm_ne (h : k ≠ r) : rm U r k = U k := if_neg h
theorem Cn_ad (q : Cn S (ad U r) a b) : Cn S U a b ∨ (Cn S U a (S (8 + r)) ∧ Cn S U (S (32 + r)) b) ∨ (Cn S U a (S (32 + r)) ∧ Cn S U (S (8 + r)) b) := by
  refine q (fun z => Cn S U a z ∨ (Cn S U a (S (8 + r)) ∧ Cn S U (S (32 + r)) z) ∨ (Cn S U a (S (32 + r)) ∧ Cn S U (S (8 + r)) z)) (fun k hk => ?_) (Or.inl Cn_refl)
  by_cases e : k = r
  · subst e
    constructor
    · rintro (h | ⟨h1, h2⟩ | ⟨h1, h2⟩)
      · exact Or.inr (Or.inl ⟨h, Cn_refl⟩)
      · exact Or.inr (Or.inl ⟨h1, Cn_refl⟩)
      · exact Or.inl h1
    · rintro (h | ⟨h1, h2⟩ | ⟨h1, h2⟩)
      · exact Or.inr (Or.inr ⟨h, Cn_refl⟩)
      · exact Or.inl h1
      · exact Or.inr (Or.inr ⟨h1, Cn_refl⟩)
  · rw [ad_ne e] at hk
    have e1 := Cn_edge (S := S) hk
    constructor
    · rintro (h | ⟨h1, h2⟩ | ⟨h1, h2⟩)
      · exact Or.inl (Cn_trans h e1)
      · exact Or.inr (Or.inl ⟨h1, Cn_trans h2 e1⟩)
      · exact Or.inr (Or.inr ⟨h1, Cn_trans h2 e1⟩)
    · rintro (h | ⟨h1, h2⟩ | ⟨h1, h2⟩)
      · exact Or.inl (Cn_trans h (Cn_symm e1))
      · exact Or.inr (Or.inl ⟨h1, Cn_trans h2 (Cn_symm e1)⟩)
      · exact Or.inr (Or.inr ⟨h1, Cn_trans h2 (Cn_symm e1)⟩)
theorem Cn_rm (hr : U r = true) (q : Cn S U (S (8 + r)) b) : Cn S (rm U r) (S (8 + r)) b ∨ Cn S (rm U r) (S (32 + r)) b := by
  have : Cn S (ad (rm U r) r) (S (8 + r)) b := Cn_mono (fun k hk => by
    by_cases e : k = r
    · rw [e]; exact ad_self
    · rw [ad_ne e, rm_ne e]; exact hk) q
  rcases Cn_ad this with h | h | h
  · exact Or.inl h
  · exact Or.inr h.2
  · exact Or.inl h.2
/-- the days of the roads in U -/
def cst (S : Int → Int) (U : Nat → Bool) : Nat := sN (fun r => if U r = true then (S (104 + r)).toNat else 0) (S 7).toNat
/-- how many roads they are -/
def cnr (S : Int → Int) (U : Nat → Bool) : Nat := sN (fun r => if U r = true then 1 else 0) (S 7).toNat
/-- open roads alone -/
def opn (S : Int → Int) (U : Nat → Bool) : Prop := ∀ r, U r = true → r < (S 7).toNat ∧ S (128 + r) = 0
theorem sN_le {f g : Nat → Nat} : ∀ n, (∀ j, j < n → f j ≤ g j) → sN f n ≤ sN g n := by
  intro n
  induction n with
  | zero => intro _; exact Nat.le_refl _
  | succ n ih => intro h; have := ih (fun j hj => h j (by omega)); have := h n (by omega); rw [sN, sN]; omega
theorem cst_rm (hU : opn S U) (hr : U r = true) : cst S U = cst S (rm U r) + (S (104 + r)).toNat ∧ cnr S U = cnr S (rm U r) + 1 := by
  have hl := (hU r hr).1
  unfold cst cnr
  constructor
  · rw [sN_one (q := r) _ hl, if_pos hr]
    congr 1
    exact sN_congr _ (fun j _ => by
      show (if j = r then 0 else if _ then _ else _) = if _ then _ else _
      by_cases e : j = r
      · rw [if_pos e, e, rm_self, if_neg (by decide)]
      · rw [if_neg e, rm_ne e])
  · rw [sN_one (q := r) _ hl, if_pos hr]
    congr 1
    exact sN_congr _ (fun j _ => by
      show (if j = r then 0 else if _ then _ else _) = if _ then _ else _
      by_cases e : j = r
      · rw [if_pos e, e, rm_self, if_neg (by decide)]
      · rw [if_neg e, rm_ne e])
theorem cst_ad (hl : r < (S 7).toNat) (hr : U r = false) : cst S (ad U r) = cst S U + (S (104 + r)).toNat := by
  unfold cst
  rw [sN_one (q := r) _ hl, if_pos ad_self]
  congr 1
  exact sN_congr _ (fun j _ => by
    show (if j = r then 0 else if _ then _ else _) = if _ then _ else _
    by_cases e : j = r
    · rw [if_pos e, e, hr, if_neg (by decide)]
    · rw [if_neg e, ad_ne e])
theorem cst_un : cst S (un U W) ≤ cst S U + cst S W := by
  unfold cst
  rw [← sN_add]
  exact sN_le _ (fun j _ => by
    show (if (U j || W j) = true then _ else _) ≤ (if U j = true then _ else _) + (if W j = true then _ else _)
    by_cases h1 : U j = true
    · rw [if_pos (by rw [h1]; rfl), if_pos h1]; omega
    · by_cases h2 : W j = true
      · rw [if_pos (by rw [h2]; simp), if_pos h2]; omega
      · rw [if_neg (by simp [h1, h2])]; omega)
theorem opn_rm (h : opn S U) : opn S (rm U r) := fun k hk => by
  by_cases e : k = r
  · rw [e, rm_self] at hk; cases hk
  · rw [rm_ne e] at hk; exact h k hk
/-- the roads of U at what t reaches -/
noncomputable def prt (S : Int → Int) (U : Nat → Bool) (t : Int) : Nat → Bool := fun r => U r && @decide (Cn S U t (S (8 + r))) (Classical.propDecidable _)
theorem prt_iff : prt S U t r = true ↔ U r = true ∧ Cn S U t (S (8 + r)) := by
  unfold prt; simp
theorem Cn_prt (q : Cn S U t y) : Cn S (prt S U t) t y := by
  have : Cn S U t y → Cn S (prt S U t) t y := q (fun z => Cn S U t z → Cn S (prt S U t) t z) (fun r hr => by
    have e1 := Cn_edge (S := S) hr
    constructor
    · intro w g
      have g1 := Cn_trans g (Cn_symm e1)
      exact Cn_trans (w g1) (Cn_edge (prt_iff.mpr ⟨hr, g1⟩))
    · intro w g
      exact Cn_trans (w (Cn_trans g e1)) (Cn_symm (Cn_edge (prt_iff.mpr ⟨hr, g⟩)))) (fun _ => Cn_refl)
  exact this q
theorem prt_opn (h : opn S U) : opn S (prt S U t) := fun r hr => h r (prt_iff.mp hr).1
theorem prt_cnr : cnr S (prt S U t) ≤ cnr S U := by
  unfold cnr
  exact sN_le _ (fun j _ => by
    show (if prt S U t j = true then 1 else 0) ≤ if U j = true then 1 else 0
    by_cases e : prt S U t j = true
    · rw [if_pos e, if_pos (prt_iff.mp e).1]; exact Nat.le_refl _
    · rw [if_neg e]; omega)
theorem prt_cst1 : cst S (prt S U t) ≤ cst S U := by
  unfold cst
  exact sN_le _ (fun j _ => by
    show (if prt S U t j = true then _ else 0) ≤ if U j = true then _ else 0
    by_cases e : prt S U t j = true
    · rw [if_pos e, if_pos (prt_iff.mp e).1]; exact Nat.le_refl _
    · rw [if_neg e]; omega)
theorem prt_cst (hn : ¬ Cn S U t x) : cst S (prt S U t) + cst S (prt S U x) ≤ cst S U := by
  unfold cst
  rw [← sN_add]
  exact sN_le _ (fun j _ => by
    show (if prt S U t j = true then _ else 0) + (if prt S U x j = true then _ else 0) ≤ if U j = true then _ else 0
    by_cases e : prt S U t j = true
    · have e1 := prt_iff.mp e
      rw [if_pos e, if_pos e1.1, if_neg (fun g => hn (Cn_trans e1.2 (Cn_symm (prt_iff.mp g).2)))]; omega
    · rw [if_neg e]
      by_cases e2 : prt S U x j = true
      · rw [if_pos e2, if_pos (prt_iff.mp e2).1]; omega
      · rw [if_neg e2]; omega)
/-- towns as bits -/
theorem mk_bits (P : Nat → Prop) : ∀ n, ∃ m : Nat, m < 2 ^ n ∧ ∀ x, m.testBit x = true ↔ x < n ∧ P x := by
  intro n
  induction n with
  | zero => exact ⟨0, by simp, fun x => by simp⟩
  | succ n ih =>
    obtain ⟨m, h1, h2⟩ := ih
    by_cases p : P n
    · refine ⟨2 ^ n + m, by rw [Nat.pow_succ]; omega, fun x => ?_⟩
      by_cases e : x = n
      · subst e
        rw [Nat.testBit_two_pow_add_eq]
        have : m.testBit x = false := Nat.testBit_lt_two_pow h1
        rw [this]; simp [p]
      · by_cases l : x < n
        · rw [Nat.testBit_two_pow_add_gt l, h2 x]; constructor <;> intro q <;> exact ⟨by omega, q.2⟩
        · have h3 : 2 ^ n + m < 2 ^ x := by
            have : 2 ^ (n + 1) ≤ 2 ^ x := Nat.pow_le_pow_right (by decide) (by omega)
            rw [Nat.pow_succ] at this; omega
          rw [Nat.testBit_lt_two_pow h3]; constructor
          · intro q; cases q
          · intro q; omega
    · refine ⟨m, by rw [Nat.pow_succ]; omega, fun x => ?_⟩
      rw [h2 x]
      constructor
      · intro q; exact ⟨by omega, q.2⟩
      · intro q
        exact ⟨by
          by_cases e : x = n
          · rw [e] at q; exact absurd q.2 p
          · omega, q.2⟩
/-- all towns of T are reached from h -/
def Jn (S : Int → Int) (U : Nat → Bool) (T : Nat) (h : Int) : Prop := ∀ x : Nat, T.testBit x = true → Cn S U h x
/-- the least tree that joins: what both say -/
def isMin (S : Int → Int) (T : Nat) (h v : Int) : Prop := (v = -1 ∧ ¬ ∃ U, opn S U ∧ Jn S U T h) ∨ (0 ≤ v ∧ (∃ U, opn S U ∧ Jn S U T h ∧ (cst S U : Int) ≤ v) ∧ ∀ U, opn S U → Jn S U T h → v ≤ cst S U)
theorem isMin_eq {T : Nat} {v v' : Int} (h : isMin S T a v) (h' : isMin S T a v') : v = v' := by
  rcases h with ⟨h1, h2⟩ | ⟨h1, ⟨U, u1, u2, u3⟩, h3⟩
  · rcases h' with ⟨g1, g2⟩ | ⟨g1, ⟨W, w1, w2, w3⟩, g3⟩
    · omega
    · exact absurd ⟨W, w1, w2⟩ h2
  · rcases h' with ⟨g1, g2⟩ | ⟨g1, ⟨W, w1, w2, w3⟩, g3⟩
    · exact absurd ⟨U, u1, u2⟩ g2
    · have := h3 W w1 w2
      have := g3 U u1 u2
      omega
/-- the table of least trees: no set of roads is cheaper -/
theorem dw_least {Dd : Nat → Int → Int} {wt : Nat} (K : KOk S) (sb : Nat → Prop) (sub : ∀ T A, sb T → A ≠ 0 → (∀ x, A.testBit x = true → T.testBit x = true) → sb A) (d0 : ∀ t : Nat, sb (2 ^ t) → Dd (2 ^ t) t ≤ 0) (d1 : ∀ T, sb T → ∀ r : Nat, (r : Int) < S 7 → S (128 + (r : Int)) = 0 → Dd T (S (8 + (r : Int))) ≤ Dd T (S (32 + (r : Int))) + S (104 + (r : Int)) ∧ Dd T (S (32 + (r : Int))) ≤ Dd T (S (8 + (r : Int))) + S (104 + (r : Int))) (d2 : ∀ T A B (t : Int), sb T → A ≠ 0 → B ≠ 0 → (∀ x, T.testBit x = true ↔ (A.testBit x = true ∨ B.testBit x = true)) → (∀ x, ¬ (A.testBit x = true ∧ B.testBit x = true)) → 0 ≤ t → t < 12 → Dd T t ≤ Dd A t + Dd B t) : ∀ (n : Nat) (U : Nat → Bool) (T : Nat) (t : Int), cnr S U < n → opn S U → sb T → T ≠ 0 → T < 4096 → 0 ≤ t → t < 12 → Jn S U T t → Dd T t ≤ cst S U := by
  intro n
  induction n with
  | zero => intro U T t h; omega
  | succ n ih =>
    intro U T t hn hU hs hT hT2 t0 t1 hJ
    -- a road at t: x is its other end
    have step : ∀ (r : Nat) (x : Int), U r = true → 0 ≤ x → x < 12 → (∀ y, Cn S U t y → Cn S (rm U r) t y ∨ Cn S (rm U r) x y) → (∀ A, sb A → Dd A t ≤ Dd A x + S (104 + (r : Int))) → Dd T t ≤ cst S U := by
      intro r x hr x0 x1 hsp hrl
      obtain ⟨c1, c2⟩ := cst_rm hU hr
      have kr := K.2.2.2.2.2.2.2.2.2.2.2.2.2 (r : Int) (by omega) (by have := (hU r hr).1; omega)
      have hU' := opn_rm (r := r) hU
      have ec : (((S (104 + (r : Int))).toNat : Nat) : Int) = S (104 + (r : Int)) := by omega
      by_cases q : ∀ y : Nat, T.testBit y = true → Cn S (rm U r) t y
      · have := ih (rm U r) T t (by omega) hU' hs hT hT2 t0 t1 q
        omega
      · have hnx : ¬ Cn S (rm U r) t x := fun g => q (fun y hy => by
          rcases hsp y (hJ y hy) with z | z
          · exact z
          · exact Cn_trans g z)
        have pc := prt_cst hnx
        have p1 := prt_cnr (S := S) (U := rm U r) (t := t)
        have p2 := prt_cnr (S := S) (U := rm U r) (t := x)
        obtain ⟨A, a1, a2⟩ := mk_bits (fun y => T.testBit y = true ∧ Cn S (rm U r) t y) 12
        obtain ⟨Bb, b1, b2⟩ := mk_bits (fun y => T.testBit y = true ∧ ¬ Cn S (rm U r) t y) 12
        have hT12 : ∀ y, T.testBit y = true → y < 12 := fun y hy => Classical.byContradiction (fun g => by
          have : T.testBit y = false := Nat.testBit_lt_two_pow (Nat.lt_of_lt_of_le hT2 (Nat.pow_le_pow_right (n := 2) (by decide) (by omega : 12 ≤ y)))
          rw [this] at hy; cases hy)
        have hB0 : Bb ≠ 0 := fun g => q (fun y hy => Classical.byContradiction (fun z => by
          have := (b2 y).mpr ⟨hT12 y hy, hy, z⟩
          rw [g] at this; simp at this))
        have sB : sb Bb := sub T Bb hs hB0 (fun y hy => ((b2 y).mp hy).2.1)
        have JB : Jn S (prt S (rm U r) x) Bb x := fun y hy => by
          have z := ((b2 y).mp hy).2
          rcases hsp y (hJ y z.1) with w | w
          · exact absurd w z.2
          · exact Cn_prt w
        have iB := ih (prt S (rm U r) x) Bb x (by omega) (prt_opn hU') sB hB0 b1 x0 x1 JB
        have rB := hrl Bb sB
        by_cases hA : A = 0
        · have eT : Bb = T := Nat.eq_of_testBit_eq (fun y => by
            have : Bb.testBit y = true ↔ T.testBit y = true := ⟨fun g => ((b2 y).mp g).2.1, fun g => (b2 y).mpr ⟨hT12 y g, g, fun z => by
              have := (a2 y).mpr ⟨hT12 y g, g, z⟩
              rw [hA] at this; simp at this⟩⟩
            cases h1 : Bb.testBit y <;> cases h2 : T.testBit y <;> simp_all)
          rw [eT] at rB iB
          omega
        · have sA : sb A := sub T A hs hA (fun y hy => ((a2 y).mp hy).2.1)
          have iA := ih (prt S (rm U r) t) A t (by omega) (prt_opn hU') sA hA a1 t0 t1 (fun y hy => Cn_prt ((a2 y).mp hy).2.2)
          have := d2 T A Bb t hs hA hB0 (fun y => ⟨fun g => by
            by_cases z : Cn S (rm U r) t y
            · exact Or.inl ((a2 y).mpr ⟨hT12 y g, g, z⟩)
            · exact Or.inr ((b2 y).mpr ⟨hT12 y g, g, z⟩), fun g => by
            rcases g with g | g
            · exact ((a2 y).mp g).2.1
            · exact ((b2 y).mp g).2.1⟩) (fun y g => ((b2 y).mp g.2).2.2 ((a2 y).mp g.1).2.2) t0 t1
          omega
    by_cases e : ∃ r : Nat, U r = true ∧ (S (8 + (r : Int)) = t ∨ S (32 + (r : Int)) = t)
    · obtain ⟨r, hr, ht⟩ := e
      have hl := hU r hr
      have kr := K.2.2.2.2.2.2.2.2.2.2.2.2.2 (r : Int) (by omega) (by omega)
      have k0 := K.2.1
      rcases ht with ht | ht
      · exact step r (S (32 + (r : Int))) hr (by omega) (by omega) (fun y hy => by
          rw [← ht] at hy ⊢; exact Cn_rm hr hy) (fun A sA => by rw [← ht]; exact (d1 A sA r (by omega) hl.2).1)
      · exact step r (S (8 + (r : Int))) hr (by omega) (by omega) (fun y hy => by
          rw [← ht] at hy ⊢
          rcases Cn_rm hr (Cn_trans (Cn_edge hr) hy) with z | z
          · exact Or.inr z
          · exact Or.inl z) (fun A sA => by rw [← ht]; exact (d1 A sA r (by omega) hl.2).2)
    · have only : ∀ y : Int, Cn S U t y → y = t := fun y hy => hy (fun z => z = t) (fun r hr => ⟨fun z => absurd ⟨r, hr, Or.inl z⟩ e, fun z => absurd ⟨r, hr, Or.inr z⟩ e⟩) rfl
      have eT : T = 2 ^ t.toNat := Nat.eq_of_testBit_eq (fun y => by
        rw [Nat.testBit_two_pow]
        by_cases z : T.testBit y = true
        · have := only y (hJ y z)
          rw [z]; simp; omega
        · have zf : T.testBit y = false := by simpa using z
          rw [zf]
          symm
          simp only [decide_eq_false_iff_not]
          intro g
          obtain ⟨y', hy'⟩ := Nat.exists_testBit_of_ne_zero hT
          have := only y' (hJ y' hy')
          have : y' = y := by omega
          rw [this] at hy'; rw [hy'] at zf; cases zf)
      have := d0 t.toNat (by rw [← eT]; exact hs)
      rw [← eT, Int.toNat_of_nonneg t0] at this
      omega
end BOX1
