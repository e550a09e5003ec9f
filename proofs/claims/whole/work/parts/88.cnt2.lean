/-! PURE: the class's tables of rounds -/
section CNT2
variable {sh : List (Nat × Nat)} {V V' V1 V2 : Int → Int → Int} {r t i j k x a b c D v3 : Int} {S : Int → Int} {n h p z q m : Nat} {A B A' B' : Nat → Prop}
def vpl (S : Int → Int) (p : Nat) : Prop := (p : Int) < 2 * S 7 ∨ (48 ≤ p ∧ (p : Int) < 48 + S 0)
/-- the tables below h, and what of row h is there -/
def Ib (V : Int → Int → Int) (S : Int → Int) (c : Int) (h : Nat) (A B : Nat → Prop) : Prop := ∀ p, vpl S p → (∀ j : Nat, j < h → V 85 (21 * (p : Int) + j) = rC c (PS S p j) ∧ V 86 (21 * (p : Int) + j) = rC c (PB S p j)) ∧ (A p → V 85 (21 * (p : Int) + h) = rC c (PS S p h)) ∧ (B p → V 86 (21 * (p : Int) + h) = rC c (PB S p h))
theorem Ib_mono (I : Ib V S c h A B) (hA : ∀ p, vpl S p → A' p → A p) (hB : ∀ p, vpl S p → B' p → B p) : Ib V S c h A' B' := fun p hp => ⟨(I p hp).1, fun g => (I p hp).2.1 (hA p hp g), fun g => (I p hp).2.2 (hB p hp g)⟩
theorem Ib_85 (I : Ib V S c h A B) (hh : h ≤ 20) : Ib (upV V 85 (21 * (q : Int) + h) (rC c (PS S q h))) S c h (fun p => A p ∨ p = q) B := fun p hp => by
  obtain ⟨i1, i2, i3⟩ := I p hp
  refine ⟨fun j hj => ?_, fun g => ?_, fun g => ?_⟩
  · rw [up_col (by omega), up_row (by decide)]; exact i1 j hj
  · by_cases e : p = q
    · rw [e, up_eq]
    · rw [up_col (by omega)]; exact i2 (by rcases g with g | g; exact g; exact absurd g e)
  · rw [up_row (by decide)]; exact i3 g
theorem Ib_86 (I : Ib V S c h A B) (hh : h ≤ 20) : Ib (upV V 86 (21 * (q : Int) + h) (rC c (PB S q h))) S c h A (fun p => B p ∨ p = q) := fun p hp => by
  obtain ⟨i1, i2, i3⟩ := I p hp
  refine ⟨fun j hj => ?_, fun g => ?_, fun g => ?_⟩
  · rw [up_row (by decide), up_col (by omega)]; exact i1 j hj
  · rw [up_row (by decide)]; exact i2 g
  · by_cases e : p = q
    · rw [e, up_eq]
    · rw [up_col (by omega)]; exact i3 (by rcases g with g | g; exact g; exact absurd g e)
theorem p65 (hh : h ≤ 20) : ∀ (n z : Nat) (V : Int → Int → Int), Cx sh V S D → V 84 7 = c → (z : Int) ≤ 2 * S 7 → (2 * S 7).toNat - z < n → Ib V S c h (fun p => p < z) B → ∃ V', CF V V' ∧ Ib V' S c h (fun p => (p : Int) < 2 * S 7) B ∧ ∀ kk v3, Ct_prepare_L65 kk n 84 2 v3 h z (sh, V) = kk 84 2 v3 h (sh, V') := by
  intro n
  induction n with
  | zero => intro z _ _ _ _ h; omega
  | succ n ih =>
    intro z V X hc hz hn I
    obtain ⟨r1, r2, r3, r4, r5, r6, r7⟩ := Cx_rng X
    have w2 : w32 (2 * S 7) = 2 * S 7 := w32_id (by omega) (by omega)
    by_cases g : (z : Int) < 2 * S 7
    · have hv : vpl S z := Or.inl g
      have e := crnd_eq (S := S) (h := h) (p := z) X.1 X.2.1 hc (by omega) hh (fun j hj => ((I z hv).1 j hj).1) (fun j hj => ((I z hv).1 j hj).2)
      have F : CF V (upV V 85 (21 * (z : Int) + h) (rC c (PS S z h))) := CF_up CF_refl (Or.inl rfl)
      obtain ⟨V', f, i, kq⟩ := ih (z + 1) _ (CF_Cx X F) (by rw [up_row (by decide)]; exact hc) (by omega) (by omega) (Ib_mono (Ib_85 (q := z) I hh) (fun p _ hp => by omega) (fun p _ hp => hp))
      refine ⟨V', CF_trans F f, i, fun kk v3 => ?_⟩
      rw [Ct_prepare_L65, b20 X, b37 X, w2, if_pos g, bit (by rw [k_84 X.1]), e, bd2_mk, w32_id (x := (z : Int) + 1) (by omega) (by omega)]
      exact kq kk v3
    · refine ⟨V, CF_refl, Ib_mono I (fun p _ hp => by omega) (fun p _ hp => hp), fun kk v3 => ?_⟩
      rw [Ct_prepare_L65, b20 X, b37 X, w2, if_neg g]
theorem p96 (hh : h ≤ 20) : ∀ (n z : Nat) (V : Int → Int → Int), Cx sh V S D → V 84 7 = c → (z : Int) ≤ S 0 → (S 0).toNat - z < n → Ib V S c h (fun p => (p : Int) < 2 * S 7 ∨ (48 ≤ p ∧ p < 48 + z)) B → ∃ V', CF V V' ∧ Ib V' S c h (fun _ => True) B ∧ ∀ kk v3, Ct_prepare_L96 kk n 84 2 v3 h z (sh, V) = kk 84 2 v3 h (sh, V') := by
  intro n
  induction n with
  | zero => intro z _ _ _ _ h; omega
  | succ n ih =>
    intro z V X hc hz hn I
    obtain ⟨r1, r2, r3, r4, r5, r6, r7⟩ := Cx_rng X
    by_cases g : (z : Int) < S 0
    · have hv : vpl S (48 + z) := Or.inr ⟨by omega, by omega⟩
      have e := crnd_eq (S := S) (h := h) (p := 48 + z) X.1 X.2.1 hc (by omega) hh (fun j hj => ((I _ hv).1 j hj).1) (fun j hj => ((I _ hv).1 j hj).2)
      have F : CF V (upV V 85 (21 * ((48 + z : Nat) : Int) + h) (rC c (PS S (48 + z) h))) := CF_up CF_refl (Or.inl rfl)
      obtain ⟨V', f, i, kq⟩ := ih (z + 1) _ (CF_Cx X F) (by rw [up_row (by decide)]; exact hc) (by omega) (by omega) (Ib_mono (Ib_85 (q := 48 + z) I hh) (fun p _ hp => by omega) (fun p _ hp => hp))
      refine ⟨V', CF_trans F f, i, fun kk v3 => ?_⟩
      rw [Ct_prepare_L96, b20 X, b30 X, if_pos g, bit (by rw [k_84 X.1]), w32_id (x := 48 + (z : Int)) (by omega) (by omega), show (48 : Int) + z = ((48 + z : Nat) : Int) by omega, e, bd2_mk, w32_id (x := (z : Int) + 1) (by omega) (by omega)]
      exact kq kk v3
    · refine ⟨V, CF_refl, Ib_mono I (fun p hp _ => by unfold vpl at hp; omega) (fun p _ hp => hp), fun kk v3 => ?_⟩
      rw [Ct_prepare_L96, b20 X, b30 X, if_neg g]
theorem Ib_T1 (I : Ib V S c h (fun _ => True) B) (h7 : S 7 ≤ 24) : ∀ d : Nat, (d : Int) < 2 * S 7 → V 85 (21 * (d : Int) + h) = rC c (Gx S d h) := fun d hd => by
  rw [(I d (Or.inl hd)).2.1 trivial]; unfold PS; rw [if_pos (by omega)]
theorem p128 (hh : h ≤ 20) : ∀ (n z : Nat) (V : Int → Int → Int), Cx sh V S D → V 84 7 = c → (z : Int) ≤ 2 * S 7 → (2 * S 7).toNat - z < n → Ib V S c h (fun _ => True) (fun p => p < z) → ∃ V', CF V V' ∧ Ib V' S c h (fun _ => True) (fun p => (p : Int) < 2 * S 7) ∧ ∀ kk v3, Ct_prepare_L128 kk n 84 2 v3 h z (sh, V) = kk 84 2 v3 h (sh, V') := by
  intro n
  induction n with
  | zero => intro z _ _ _ _ h; omega
  | succ n ih =>
    intro z V X hc hz hn I
    obtain ⟨r1, r2, r3, r4, r5, r6, r7⟩ := Cx_rng X
    have w2 : w32 (2 * S 7) = 2 * S 7 := w32_id (by omega) (by omega)
    by_cases g : (z : Int) < 2 * S 7
    · have e := sbey_eq (t := sHead S z) (h := h) (p := z) X hc (by omega) hh (Ib_T1 I r4)
      have ep : By S (Gx S) (sHead S z) ((z / 2 : Nat) : Int) h = PB S z h := by unfold PB; rw [if_pos (by omega)]
      rw [ep] at e
      have F : CF V (upV V 86 (21 * (z : Int) + h) (rC c (PB S z h))) := CF_up CF_refl (Or.inr (Or.inl rfl))
      obtain ⟨V', f, i, kq⟩ := ih (z + 1) _ (CF_Cx X F) (by rw [up_row (by decide)]; exact hc) (by omega) (by omega) (Ib_mono (Ib_86 (q := z) I hh) (fun p _ hp => hp) (fun p _ hp => by omega))
      refine ⟨V', CF_trans F f, i, fun kk v3 => ?_⟩
      rw [Ct_prepare_L128, b20 X, b37 X, w2, if_pos g, b20 X, bi3 X, x_endOf X (by omega) g, bit (by rw [k_84 X.1]), e, bd2_mk, w32_id (x := (z : Int) + 1) (by omega) (by omega)]
      exact kq kk v3
    · refine ⟨V, CF_refl, Ib_mono I (fun p _ hp => hp) (fun p _ hp => by omega), fun kk v3 => ?_⟩
      rw [Ct_prepare_L128, b20 X, b37 X, w2, if_neg g]
theorem p169 (hh : h ≤ 20) : ∀ (n z : Nat) (V : Int → Int → Int), Cx sh V S D → V 84 7 = c → (z : Int) ≤ S 0 → (S 0).toNat - z < n → Ib V S c h (fun _ => True) (fun p => (p : Int) < 2 * S 7 ∨ (48 ≤ p ∧ p < 48 + z)) → ∃ V', CF V V' ∧ Ib V' S c h (fun _ => True) (fun _ => True) ∧ ∀ kk v3, Ct_prepare_L169 kk n 84 2 v3 h z (sh, V) = kk 84 2 v3 h (sh, V') := by
  intro n
  induction n with
  | zero => intro z _ _ _ _ h; omega
  | succ n ih =>
    intro z V X hc hz hn I
    obtain ⟨r1, r2, r3, r4, r5, r6, r7⟩ := Cx_rng X
    by_cases g : (z : Int) < S 0
    · have e := sbey_eq (t := (z : Int)) (h := h) (p := 48 + z) X hc (by omega) hh (Ib_T1 I r4)
      have ep : By S (Gx S) (z : Int) (((48 + z) / 2 : Nat) : Int) h = PB S (48 + z) h := by
        rw [By_far r4 (by omega)]; unfold PB; rw [if_neg (by omega), show 48 + z - 48 = z by omega]
      rw [ep] at e
      have F : CF V (upV V 86 (21 * ((48 + z : Nat) : Int) + h) (rC c (PB S (48 + z) h))) := CF_up CF_refl (Or.inr (Or.inl rfl))
      obtain ⟨V', f, i, kq⟩ := ih (z + 1) _ (CF_Cx X F) (by rw [up_row (by decide)]; exact hc) (by omega) (by omega) (Ib_mono (Ib_86 (q := 48 + z) I hh) (fun p _ hp => hp) (fun p _ hp => by omega))
      refine ⟨V', CF_trans F f, i, fun kk v3 => ?_⟩
      rw [Ct_prepare_L169, b20 X, b30 X, if_pos g, bit (by rw [k_84 X.1]), w32_id (x := 48 + (z : Int)) (by omega) (by omega), show (48 : Int) + z = ((48 + z : Nat) : Int) by omega, e, bd2_mk, w32_id (x := (z : Int) + 1) (by omega) (by omega)]
      exact kq kk v3
    · refine ⟨V, CF_refl, Ib_mono I (fun p _ hp => hp) (fun p hp _ => by unfold vpl at hp; omega), fun kk v3 => ?_⟩
      rw [Ct_prepare_L169, b20 X, b30 X, if_neg g]
abbrev Fl : Nat → Prop := fun _ => False
theorem p47 {N : Nat} (hN : N ≤ 40) : ∀ (n h : Nat) (V : Int → Int → Int), Cx sh V S D → V 84 7 = c → h ≤ N / 2 + 1 → N / 2 + 1 - h < n → Ib V S c h Fl Fl → ∃ V', CF V V' ∧ Ib V' S c (N / 2 + 1) Fl Fl ∧ Ct_prepare_L47 n 84 2 N h (sh, V) = some (0, (sh, V')) := by
  intro n
  induction n with
  | zero => intro h _ _ _ _ q; omega
  | succ n ih =>
    intro h V X hc hh hn I
    obtain ⟨r1, r2, r3, r4, r5, r6, r7⟩ := Cx_rng X
    have ed : (N : Int) / 2 = ((N / 2 : Nat) : Int) := by omega
    by_cases g : N / 2 < h
    · refine ⟨V, CF_refl, by rw [show N / 2 + 1 = h by omega]; exact I, ?_⟩
      rw [Ct_prepare_L47, bdiv (by omega) (by omega) (by decide) (by decide), ed, if_pos (by omega)]
    · have h20 : h ≤ 20 := by omega
      obtain ⟨W1, f1, i1, q1⟩ := p65 (B := Fl) h20 FU 0 V X hc (by omega) (by show _ < 1000000; omega) (Ib_mono I (fun p _ hp => by omega) (fun p _ hp => hp))
      have X1 := CF_Cx X f1
      have c1 : W1 84 7 = c := by rw [f1 _ _ (by decide) (by decide) (by decide)]; exact hc
      obtain ⟨W2, f2, i2, q2⟩ := p96 (B := Fl) h20 FU 0 W1 X1 c1 (by omega) (by show _ < 1000000; omega) (Ib_mono i1 (fun p _ hp => by omega) (fun p _ hp => hp))
      have X2 := CF_Cx X1 f2
      have c2 : W2 84 7 = c := by rw [f2 _ _ (by decide) (by decide) (by decide)]; exact c1
      obtain ⟨W3, f3, i3, q3⟩ := p128 h20 FU 0 W2 X2 c2 (by omega) (by show _ < 1000000; omega) (Ib_mono i2 (fun p _ hp => trivial) (fun p _ hp => by omega))
      have X3 := CF_Cx X2 f3
      have c3 : W3 84 7 = c := by rw [f3 _ _ (by decide) (by decide) (by decide)]; exact c2
      obtain ⟨W4, f4, i4, q4⟩ := p169 h20 FU 0 W3 X3 c3 (by omega) (by show _ < 1000000; omega) (Ib_mono i3 (fun p _ hp => trivial) (fun p _ hp => by omega))
      have X4 := CF_Cx X3 f4
      have c4 : W4 84 7 = c := by rw [f4 _ _ (by decide) (by decide) (by decide)]; exact c3
      obtain ⟨W5, f5, i5, q5⟩ := ih (h + 1) W4 X4 c4 (by omega) (by omega) (fun p hp => ⟨fun j hj => by
        by_cases e : j = h
        · rw [e]; exact ⟨(i4 p hp).2.1 trivial, (i4 p hp).2.2 trivial⟩
        · exact (i4 p hp).1 j (by omega), fun g => g.elim, fun g => g.elim⟩)
      refine ⟨W5, CF_trans f1 (CF_trans f2 (CF_trans f3 (CF_trans f4 f5))), i5, ?_⟩
      rw [show ((0 : Nat) : Int) = 0 from rfl] at q1 q2 q3 q4
      rw [Ct_prepare_L47, bdiv (by omega) (by omega) (by decide) (by decide), ed, if_neg (by omega), if_pos (by omega), q1, q2, q3, q4, w32_id (x := (h : Int) + 1) (by omega) (by omega)]
      exact q5
/-- the product row -/
theorem mul_i {kk : Int → Int → Int → Int → Mem → Option (Int × Mem)} (H : Sh sh) (P : Pt V) (hc : V 84 7 = c) {a : Nat → Nat} (hm : m < 48) (hh : h ≤ 20) (T1 : ∀ j : Nat, j ≤ h → V 85 (21 * (m : Int) + j) = rC c (Gx S m j)) (T2 : ∀ j : Nat, j ≤ h → V 87 j = rC c (a j)) : ∀ (n z : Nat), z ≤ h + 1 → h + 1 - z < n → Ct_multiply_L12 kk n 84 m h (rC c (sN (fun j => a j * Gx S m (h - j)) z)) z (sh, V) = kk 84 m h (rC c (cN a (Gx S m) h)) (sh, V) := by
  have k84 : (kS sh 84).1 = 0 := by rw [k_84 H]
  intro n
  induction n with
  | zero => intro z _ h; omega
  | succ n ih =>
    intro z hz hn
    rw [Ct_multiply_L12]
    by_cases q : (h : Int) < z
    · rw [if_pos q, show z = h + 1 by omega, cN_sm]
    · have := ih (z + 1) (by omega) (by omega)
      rw [sN] at this
      rw [if_neg q, bgt k84, q_84_2 P, blt (by rw [k_87 H]) (by omega) (by rw [k_87 H]; show _ < (21 : Int); omega), T2 z (by omega), bgt k84, q_84_0 P, w32_id (x := (m : Int) * 21) (by omega) (by omega), w32_id (x := (m : Int) * 21 + h) (by omega) (by omega), w32_id (x := (m : Int) * 21 + h - z) (by omega) (by omega), show (m : Int) * 21 + h - z = 21 * (m : Int) + ((h - z : Nat) : Int) by omega, blt (by rw [k_85 H]) (by omega) (by rw [k_85 H]; show _ < (1260 : Int); omega), T1 (h - z) (by omega), bit k84, Ct_plus_b H hc, w32_id (x := (z : Int) + 1) (by omega) (by omega)]
      exact this
theorem mul_o (H : Sh sh) {a : Nat → Nat} {g : Nat} (hm : m < 48) (hg : g ≤ 20) : ∀ (n w : Nat) (V : Int → Int → Int), Pt V → V 84 7 = c → w ≤ g + 1 → w < n → (∀ j : Nat, j ≤ g → V 85 (21 * (m : Int) + j) = rC c (Gx S m j)) → (∀ j : Nat, j < w → V 87 j = rC c (a j)) → (∀ j : Nat, w ≤ j → j ≤ g → V 87 j = rC c (cN a (Gx S m) j)) → ∃ V', Ct_multiply_L2 n 84 m ((w : Int) - 1) (sh, V) = some (0, (sh, V')) ∧ (∀ j : Nat, j ≤ g → V' 87 j = rC c (cN a (Gx S m) j)) ∧ ∀ a j, a ≠ 87 → V' a j = V a j := by
  have k84 : (kS sh 84).1 = 0 := by rw [k_84 H]
  intro n
  induction n with
  | zero => intro w _ _ _ _ h; omega
  | succ n ih =>
    intro w V P hc hw hn T1 T2 T3
    cases w with
    | zero =>
      refine ⟨V, ?_, fun j hj => T3 j (by omega) hj, fun _ _ _ => rfl⟩
      rw [Ct_multiply_L2, if_pos (by decide)]
    | succ w =>
      have e := fun kk => mul_i (kk := kk) (S := S) (a := a) (h := w) H P hc hm (by omega) (fun j hj => T1 j (by omega)) (fun j hj => T2 j (by omega)) FU 0 (by omega) (by show _ < 1000000; omega)
      rw [sN, rC_0, show ((0 : Nat) : Int) = 0 from rfl] at e
      obtain ⟨V', e1, e2, e3⟩ := ih w (upV V 87 w (rC c (cN a (Gx S m) w))) (by rw [Pt_k H (by rw [k_87 H]; decide)]; exact P) (by rw [up_row (by decide)]; exact hc) (by omega) (by omega) (fun j hj => by rw [up_row (by decide)]; exact T1 j hj) (fun j hj => by rw [up_col (by omega)]; exact T2 j (by omega)) (fun j j0 j1 => by
        by_cases q : j = w
        · rw [q, up_eq]
        · rw [up_col (by omega)]; exact T3 j (by omega) j1)
      refine ⟨V', ?_, e2, fun a j ha => by rw [e3 a j ha, up_row ha]⟩
      rw [Ct_multiply_L2, if_neg (by omega), show ((w + 1 : Nat) : Int) - 1 = w by omega, e, bgt k84, q_84_2 P, bst (by rw [k_87 H]) (by omega) (by rw [k_87 H]; show _ < (21 : Int); omega), w32_id (x := (w : Int) + -1) (by omega) (by omega), show (w : Int) + -1 = (w : Int) - 1 by omega]
      exact e1
theorem mul_ok (H : Sh sh) (P : Pt V) (hc : V 84 7 = c) {a : Nat → Nat} {g : Nat} (hm : m < 48) (hg : g ≤ 20) (T1 : ∀ j : Nat, j ≤ g → V 85 (21 * (m : Int) + j) = rC c (Gx S m j)) (T2 : ∀ j : Nat, j ≤ g → V 87 j = rC c (a j)) : ∃ V', Ct_multiply 84 m g (sh, V) = some (0, (sh, V')) ∧ (∀ j : Nat, j ≤ g → V' 87 j = rC c (cN a (Gx S m) j)) ∧ ∀ a j, a ≠ 87 → V' a j = V a j := by
  obtain ⟨V', e1, e2, e3⟩ := mul_o (S := S) (a := a) H hm hg FU (g + 1) V P hc (by omega) (by show _ < 1000000; omega) T1 (fun j hj => T2 j (by omega)) (fun j j0 j1 => by omega)
  refine ⟨V', ?_, e2, e3⟩
  unfold Ct_multiply
  rw [show ((g + 1 : Nat) : Int) - 1 = g by omega] at e1; exact e1
end CNT2
