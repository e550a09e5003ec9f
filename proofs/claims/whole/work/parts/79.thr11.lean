/-! PURE: through; frames of both -/
section THR11
variable {sh : List (Nat × Nat)} {V V' V1 V2 V2' V3 V4 : Int → Int → Int} {r t m s c i j d k x a b y D D' f p w bk v tb q e e' E o u wt bg mo Eb : Int} {S S' S'' R : Int → Int} {n : Nat} {ρ : Nat → Int}
/-- the class's cells that a tour changes -/
def TX (a j : Int) : Prop := (a = 67 ∧ (j = 0 ∨ j = 1 ∨ j = 2)) ∨ a = 68 ∨ a = 69 ∨ (72 ≤ a ∧ a ≤ 79) ∨ (a = 80 ∧ j < 6) ∨ (81 ≤ a ∧ a ≤ 83)
def TF (V V' : Int → Int → Int) : Prop := ∀ a j, ¬ TX a j → V' a j = V a j
theorem TF_refl : TF V V := fun _ _ _ => rfl
theorem TF_trans (h : TF V V') (h' : TF V' V1) : TF V V1 := fun a j q => (h' a j q).trans (h a j q)
theorem TF_Pt (h : TF V V') (P : Pt V) : Pt V' := fun q hq => by
  have z : ∀ q ∈ ptC, ¬ ((q.1 = 67 ∧ (q.2.1 = 0 ∨ q.2.1 = 1 ∨ q.2.1 = 2)) ∨ q.1 = 68 ∨ q.1 = 69 ∨ (72 ≤ q.1 ∧ q.1 ≤ 79) ∨ (q.1 = 80 ∧ q.2.1 < 6) ∨ (81 ≤ q.1 ∧ q.1 ≤ 83)) := by decide
  rw [h _ _ (z q hq)]; exact P q hq
theorem TF_WPt (h : TF V V') (W : WPt V) : WPt V' := WPt_of W (fun t j ht g0 g1 => h t j (by unfold TX; omega))
theorem TF_lo (h : TF V V') (ha : a < 67) : V' a j = V a j := h a j (by unfold TX; omega)
theorem TF_CK (h : TF V V') (K : CK V S) (h4 : S 7 ≤ 24) (hS : ∀ j, j < 128 → S' j = S j) : CK V' S' := CK_of K h4 hS (fun a j g0 g1 => TF_lo h (by omega))
theorem TF_CM (h : TF V V') (K : CM V S) (h4 : S 7 ≤ 24) (hS : ∀ j, j < 152 → S' j = S j) : CM V' S' := CM_of K h4 hS (TF_lo h (by omega))
theorem TF_up (h : TF V V') (q : TX a k) : TF V (upV V' a k x) := fun b j z => by
  unfold upV; rw [if_neg (fun g => z (by rw [g.1, g.2]; exact q))]; exact h b j z
theorem TF_set (h : TF V V') (h0 : 72 ≤ a) (h1 : a ≤ 79) : TF V (setR V' a R) := fun b j z => by
  rw [setR_ne (fun g => z (by unfold TX; omega))]; exact h b j z
/-- the reference's cells that a tour changes -/
def MX (a j : Int) : Prop := a = 112 ∨ a = 113 ∨ a = 114 ∨ (a = 101 ∧ (29 ≤ j ∧ j ≤ 31))
def MF (V V' : Int → Int → Int) : Prop := ∀ a j, ¬ MX a j → V' a j = V a j
theorem MF_refl : MF V V := fun _ _ _ => rfl
theorem MF_trans (h : MF V V') (h' : MF V' V1) : MF V V1 := fun a j q => (h' a j q).trans (h a j q)
theorem MF_PM (h : MF V V') (P : PM V) : PM V' := fun q hq => by
  have z : ∀ q ∈ ptM, ¬ (q.1 = 112 ∨ q.1 = 113 ∨ q.1 = 114 ∨ (q.1 = 101 ∧ (29 ≤ q.2.1 ∧ q.2.1 ≤ 31))) := by decide
  rw [h _ _ (z q hq)]; exact P q hq
theorem MF_up (h : MF V V') (q : MX a k) : MF V (upV V' a k x) := fun b j z => by
  unfold upV; rw [if_neg (fun g => z (by rw [g.1, g.2]; exact q))]; exact h b j z
theorem MF_set (h : MF V V') (h0 : 112 ≤ a) (h1 : a ≤ 114) : MF V (setR V' a R) := fun b j z => by
  rw [setR_ne (fun g => z (by unfold MX; omega))]; exact h b j z
theorem opM_congr (h : ∀ j, j < 152 → S' j = S j) : ∀ n : Nat, n ≤ 24 → opM S' t n = opM S t n := by
  intro n
  induction n with
  | zero => intro _; rfl
  | succ n ih => intro hn; unfold opM; rw [ih (by omega), h (128 + n) (by omega), h (8 + n) (by omega), h (32 + n) (by omega)]
/-- what the class's side keeps -/
def CQ (V V' : Int → Int → Int) (M O : Int) : Prop := TF V V' ∧ (∀ k, 0 ≤ k → k < O → V' 69 k = V 69 k) ∧ (∀ o j, 0 ≤ o → o < O → V' (72 + o) j = V (72 + o) j) ∧ ∀ a k, 81 ≤ a → a ≤ 83 → 0 ≤ k → k ≤ M → k < 40 → V' a k = V a k
theorem CQ_refl {M O : Int} : CQ V V M O := ⟨TF_refl, fun _ _ _ => rfl, fun _ _ _ _ => rfl, fun _ _ _ _ _ _ _ => rfl⟩
theorem CQ_trans {M O : Int} (h : CQ V V' M O) (h' : CQ V' V1 M O) : CQ V V1 M O := ⟨TF_trans h.1 h'.1, fun k g0 g1 => (h'.2.1 k g0 g1).trans (h.2.1 k g0 g1), fun o j g0 g1 => (h'.2.2.1 o j g0 g1).trans (h.2.2.1 o j g0 g1), fun a k g0 g1 g2 g3 g4 => (h'.2.2.2 a k g0 g1 g2 g3 g4).trans (h.2.2.2 a k g0 g1 g2 g3 g4)⟩
/-- what the reference's side keeps -/
def MQ2 (V V' : Int → Int → Int) (O : Int) : Prop := MF V V' ∧ (∀ k, 0 ≤ k → k < O → V' 112 k = V 112 k) ∧ ∀ k, k < 9 * O → V' 114 k = V 114 k
theorem MQ2_refl {O : Int} : MQ2 V V O := ⟨MF_refl, fun _ _ _ => rfl, fun _ _ => rfl⟩
theorem MQ2_trans {O : Int} (h : MQ2 V V' O) (h' : MQ2 V' V1 O) : MQ2 V V1 O := ⟨MF_trans h.1 h'.1, fun k g0 g1 => (h'.2.1 k g0 g1).trans (h.2.1 k g0 g1), fun k g => (h'.2.2 k g).trans (h.2.2 k g)⟩
/-- the walker is traveller i, but for his sums -/
def TW (sh : List (Nat × Nat)) (V : Int → Int → Int) (S : Int → Int) (i : Int) : Prop := ∃ a b, TrAt sh V 80 81 82 83 (pb S i a b) i
theorem TW_0 (T : TW sh V S i) (h0 : 0 ≤ i) (h6 : i < 6) : V 80 0 = S (153 + i) ∧ V 80 1 = S (159 + i) ∧ V 80 2 = S (165 + i) ∧ V 80 5 = S (171 + i) := by
  obtain ⟨a, b, T⟩ := T
  obtain ⟨f0, f1, f2, f3, f4, f5⟩ := T.2.1
  rw [pb_ne (by omega) (by omega)] at f0 f1 f2 f5
  exact ⟨f0, f1, f2, f5⟩
theorem TW_s (T : TW sh V S i) (h0 : 0 ≤ i) (h6 : i < 6) (k0 : 0 ≤ k) (k1 : k < S (171 + i)) : V 81 k = S (189 + (40 * i + k)) ∧ V 82 k = S (429 + (40 * i + k)) ∧ V 83 k = S (669 + (40 * i + k)) := by
  obtain ⟨a, b, T⟩ := T
  have := T.2.2 k k0 (by rw [pb_ne (by omega) (by omega)]; exact k1)
  rw [pb_ne (by omega) (by omega), pb_ne (by omega) (by omega), pb_ne (by omega) (by omega)] at this
  exact this
/-- a walker again -/
theorem TW_of (T : TW sh V S i) (h0 : 0 ≤ i) (h6 : i < 6) (hm : S (171 + i) ≤ 40) (hp : ∀ j, 6 ≤ j → V' 80 j = V 80 j) (e0 : V' 80 0 = V 80 0) (e1 : V' 80 1 = V 80 1) (e2 : V' 80 2 = V 80 2) (e5 : V' 80 5 = V 80 5) (hr : ∀ a k, 81 ≤ a → a ≤ 83 → 0 ≤ k → k ≤ S (171 + i) → k < 40 → V' a k = V a k) (hS : KQ S S' i) (hm0 : 0 ≤ S (171 + i)) : TW sh V' S' i := by
  have t0 := TW_0 T h0 h6
  have ts := fun k k0 k1 => TW_s (k := k) T h0 h6 k0 k1
  obtain ⟨a, b, T⟩ := T
  obtain ⟨k1, k2, k3, k4, k5, k6⟩ := T.1
  have l : ∀ j, j < 189 → S' j = S j := fun j hj => KQ_low hS h0 hm0 hj
  refine ⟨V' 80 3, V' 80 4, ⟨k1, k2, k3, by rw [hp _ (by decide)]; exact k4, by rw [hp _ (by decide)]; exact k5, by rw [hp _ (by decide)]; exact k6⟩, ⟨?_, ?_, ?_, ?_, ?_, ?_⟩, fun k g0 g1 => ?_⟩
  · rw [pb_ne (by omega) (by omega), l _ (by omega), e0]; exact t0.1
  · rw [pb_ne (by omega) (by omega), l _ (by omega), e1]; exact t0.2.1
  · rw [pb_ne (by omega) (by omega), l _ (by omega), e2]; exact t0.2.2.1
  · unfold pb; rw [if_pos rfl]
  · unfold pb; rw [if_neg (by omega), if_pos rfl]
  · rw [pb_ne (by omega) (by omega), l _ (by omega), e5]; exact t0.2.2.2
  · rw [pb_ne (by omega) (by omega), l _ (by omega)] at g1
    rw [pb_ne (by omega) (by omega), pb_ne (by omega) (by omega), pb_ne (by omega) (by omega), hr 81 k (by decide) (by decide) g0 (by omega) (by omega), hr 82 k (by decide) (by decide) g0 (by omega) (by omega), hr 83 k (by decide) (by decide) g0 (by omega) (by omega)]
    have z := KQ_slip hS h0 h6 hm0 h0 h6 g0 g1 (by omega)
    rw [z.1, z.2.1, z.2.2]; exact ts k g0 g1
end THR11
