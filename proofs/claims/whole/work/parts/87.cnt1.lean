/-! PURE: the class counts rounds -/
section CNT1
variable {sh : List (Nat × Nat)} {V V' V1 V2 : Int → Int → Int} {r t i j k x a b c D : Int} {S : Int → Int} {n h p z : Nat}
/-- rounds of a place, and what lies beyond it; places from 48 on are towns -/
def PS (S : Int → Int) (p : Nat) : Nat → Nat := if p < 48 then Gx S p else Ux S ((p - 48 : Nat) : Int)
def PB (S : Int → Int) (p : Nat) : Nat → Nat := if p < 48 then By S (Gx S) (sHead S p) ((p / 2 : Nat) : Int) else By S (Gx S) ((p - 48 : Nat) : Int) (-1)
theorem PS_0 : PS S p 0 = 1 := by unfold PS; split <;> rfl
theorem PS_s : PS S p (h + 1) = cN (PB S p) (PS S p) h := by
  unfold PS PB
  by_cases e : p < 48
  · rw [if_pos e, if_pos e]; exact Gx_s
  · rw [if_neg e, if_neg e]; exact Ux_s
theorem By_far {G : Nat → Nat → Nat} {k : Nat} (h7 : S 7 ≤ 24) (hx : 24 ≤ x) : By S G t x k = By S G t (-1) k := by
  unfold By
  exact sN_congr _ (fun r hr => by
    show (if _ then _ else _) = if _ then _ else _
    by_cases q : S (128 + (r : Int)) = 0 ∧ (S (8 + (r : Int)) = t ∨ S (32 + (r : Int)) = t)
    · rw [if_pos ⟨by omega, q⟩, if_pos ⟨by omega, q⟩]
    · rw [if_neg (fun g => q g.2), if_neg (fun g => q g.2)])
/-- the counter's cells alone -/
def CF (V V' : Int → Int → Int) : Prop := ∀ a j, a ≠ 85 → a ≠ 86 → a ≠ 87 → V' a j = V a j
theorem CF_refl : CF V V := fun _ _ _ _ _ => rfl
theorem CF_trans (h : CF V V') (h' : CF V' V1) : CF V V1 := fun a j a1 a2 a3 => (h' a j a1 a2 a3).trans (h a j a1 a2 a3)
theorem CF_up (h : CF V V') (q : a = 85 ∨ a = 86 ∨ a = 87) : CF V (upV V' a k x) := fun b j a1 a2 a3 => by rw [up_row (by omega)]; exact h b j a1 a2 a3
theorem CF_Pt (h : CF V V') (P : Pt V) : Pt V' := fun q hq => by
  have z : ∀ q ∈ ptC, q.1 ≠ 85 ∧ q.1 ≠ 86 ∧ q.1 ≠ 87 := by decide
  rw [h _ _ (z q hq).1 (z q hq).2.1 (z q hq).2.2]; exact P q hq
theorem CF_Cx (X : Cx sh V S D) (h : CF V V') : Cx sh V' S D := Cx_lo X (fun a j ha => h a j (by omega) (by omega) (by omega)) (CF_Pt h X.2.1)
theorem cr_L {kk : Int → Int → Int → Int → Mem → Option (Int × Mem)} (H : Sh sh) (P : Pt V) (hc : V 84 7 = c) (hp : p < 60) (hh : h ≤ 20) (T1 : ∀ j : Nat, j < h → V 85 (21 * (p : Int) + j) = rC c (PS S p j)) (T2 : ∀ j : Nat, j < h → V 86 (21 * (p : Int) + j) = rC c (PB S p j)) {q0 : Nat} : ∀ (n z : Nat), z ≤ h → h - z < n → Ct_countRounds_L13 kk n 84 p h (rC c (q0 + sN (fun j => PB S p j * PS S p (h - 1 - j)) z)) z (sh, V) = kk 84 p h (rC c (q0 + sN (fun j => PB S p j * PS S p (h - 1 - j)) h)) (sh, V) := by
  have k84 : (kS sh 84).1 = 0 := by rw [k_84 H]
  intro n
  induction n with
  | zero => intro z _ h; omega
  | succ n ih =>
    intro z hz hn
    rw [Ct_countRounds_L13]
    by_cases q : (z : Int) < h
    · rw [if_pos q, bgt k84, q_84_1 P, w32_id (x := (p : Int) * 21) (by omega) (by omega), w32_id (x := (p : Int) * 21 + z) (by omega) (by omega), w32_id (x := (p : Int) * 21 + h) (by omega) (by omega), w32_id (x := (p : Int) * 21 + h - 1) (by omega) (by omega), w32_id (x := (p : Int) * 21 + h - 1 - z) (by omega) (by omega), w32_id (x := (z : Int) + 1) (by omega) (by omega)]
      rw [show (p : Int) * 21 + z = 21 * (p : Int) + (z : Nat) by omega, show (p : Int) * 21 + h - 1 - z = 21 * (p : Int) + ((h - 1 - z : Nat) : Int) by omega, blt (by rw [k_86 H]) (by omega) (by rw [k_86 H]; show _ < (1260 : Int); omega), T2 z (by omega), bgt k84, q_84_0 P, blt (by rw [k_85 H]) (by omega) (by rw [k_85 H]; show _ < (1260 : Int); omega), T1 (h - 1 - z) (by omega), bit k84, Ct_plus_b H hc]
      have := ih (z + 1) (by omega) (by omega)
      rw [sN, ← Nat.add_assoc] at this
      exact this
    · rw [if_neg q, show z = h by omega]
theorem crnd_eq (H : Sh sh) (P : Pt V) (hc : V 84 7 = c) (hp : p < 60) (hh : h ≤ 20) (T1 : ∀ j : Nat, j < h → V 85 (21 * (p : Int) + j) = rC c (PS S p j)) (T2 : ∀ j : Nat, j < h → V 86 (21 * (p : Int) + j) = rC c (PB S p j)) : Ct_countRounds 84 p h (sh, V) = some (0, (sh, upV V 85 (21 * (p : Int) + h) (rC c (PS S p h)))) := by
  have k84 : (kS sh 84).1 = 0 := by rw [k_84 H]
  have fin : ∀ x, (bd (getf 0 0 (sh, V) 84) fun x13 => bd (sta 21 (sh, V) x13 (w32 ((w32 ((p : Int) * 21)) + h)) x) fun μ14 => some ((0 : Int), μ14)) = some (0, (sh, upV V 85 (21 * (p : Int) + h) x)) := fun x => by
    rw [bgt k84, q_84_0 P, w32_id (x := (p : Int) * 21) (by omega) (by omega), w32_id (x := (p : Int) * 21 + h) (by omega) (by omega), show (p : Int) * 21 + h = 21 * (p : Int) + h by omega, bst (by rw [k_85 H]) (by omega) (by rw [k_85 H]; show _ < (1260 : Int); omega)]
  unfold Ct_countRounds
  by_cases e : h = 0
  · rw [if_pos (by omega)]
    have := fun kk => cr_L (kk := kk) (S := S) (q0 := 1) H P hc hp hh T1 T2 FU 0 (by omega) (by show _ < 1000000; omega)
    rw [show rC c (1 + sN (fun j => PB S p j * PS S p (h - 1 - j)) 0) = 1 from rC_1] at this
    rw [show ((0 : Nat) : Int) = 0 from rfl] at this
    rw [this, fin]
    subst e
    rw [sN, PS_0]
  · rw [if_neg (by omega)]
    have := fun kk => cr_L (kk := kk) (S := S) (q0 := 0) H P hc hp hh T1 T2 FU 0 (by omega) (by show _ < 1000000; omega)
    rw [show rC c (0 + sN (fun j => PB S p j * PS S p (h - 1 - j)) 0) = 0 from rC_0] at this
    rw [show ((0 : Nat) : Int) = 0 from rfl] at this
    rw [this, fin]
    obtain ⟨g, rfl⟩ : ∃ g, h = g + 1 := ⟨h - 1, by omega⟩
    rw [PS_s, cN_sm, Nat.zero_add]; rfl
theorem crnd_b (H : Sh sh) (P : Pt V) (hc : V 84 7 = c) (hp : p < 60) (hh : h ≤ 20) (T1 : ∀ j : Nat, j < h → V 85 (21 * (p : Int) + j) = rC c (PS S p j)) (T2 : ∀ j : Nat, j < h → V 86 (21 * (p : Int) + j) = rC c (PB S p j)) {γ : Type} {fZ : Int → Mem → Option γ} : bd2 (Ct_countRounds 84 p h (sh, V)) fZ = fZ (0) (sh, upV V 85 (21 * (p : Int) + h) (rC c (PS S p h))) := by
  rw [crnd_eq] <;> first | assumption | rfl
theorem sb_L {kk : Int → Int → Int → Int → Mem → Option (Int × Mem)} (X : Cx sh V S D) (hc : V 84 7 = c) (hp : p < 60) (hh : h ≤ 20) (T1 : ∀ d : Nat, (d : Int) < 2 * S 7 → V 85 (21 * (d : Int) + h) = rC c (Gx S d h)) : ∀ (n z : Nat), (z : Int) ≤ S 7 → (S 7).toNat - z < n → Ct_sumBeyond_L6 kk n 84 2 p t h (rC c (sN (fun r => if rdo S t ((p / 2 : Nat) : Int) r then Gx S (sDart S r t).toNat h else 0) z)) z (sh, V) = kk 84 p h (rC c (By S (Gx S) t ((p / 2 : Nat) : Int) h)) (sh, V) := by
  have H := X.1
  have P := X.2.1
  have k84 : (kS sh 84).1 = 0 := by rw [k_84 H]
  obtain ⟨r1, r2, r3, r4, r5, r6, r7⟩ := Cx_rng X
  have pl : ∀ (s b : Nat) (F : Int → Mem → Option (Int × Mem)), bd2 (Ct_plus 84 (rC c s) 1 (rC c b) (sh, V)) F = F (rC c (s + b)) (sh, V) := fun s b F => by
    have := Ct_plus_b (s := s) (a := 1) (b := b) (fZ := F) H hc
    rw [rC_1, Nat.one_mul] at this; exact this
  intro n
  induction n with
  | zero => intro z _ h; omega
  | succ n ih =>
    intro z hz hn
    rw [Ct_sumBeyond_L6, b20 X, b37 X]
    by_cases q : (z : Int) < S 7
    · have hi := ih (z + 1) (by omega) (by omega)
      rw [sN] at hi
      have e2 : shr32 (p : Int) 1 = ((p / 2 : Nat) : Int) := by rw [shr1 (by omega) (by omega)]; omega
      rw [if_pos q, e2, w32_id (x := (z : Int) + 1) (by omega) (by omega)]
      by_cases g1 : (z : Int) = ((p / 2 : Nat) : Int)
      · rw [if_pos g1]
        rw [if_neg (fun g => g.1 g1), Nat.add_zero] at hi; exact hi
      · rw [if_neg g1, bi2 X, x_isOpen X (by omega) q]
        by_cases g2 : S (128 + (z : Int)) = 0
        · rw [B_t g2, if_neg (by decide), b20 X, bi3 X, x_leads X (by omega) q]
          by_cases g3 : S (8 + (z : Int)) = t ∨ S (32 + (z : Int)) = t
          · obtain ⟨d1, d2, d3⟩ := drt_of X.2.2.2.1.1 (t := t) (r := z) q g2 g3
            have d0 := d1.1
            rw [B_t g3, if_neg (by decide), bgt k84, q_84_0 P, b20 X, bi3 X, x_markOf X (by omega) q, ← d3, w32_id (x := (((sDart S z t).toNat : Nat) : Int) * 21) (by omega) (by omega), w32_id (x := (((sDart S z t).toNat : Nat) : Int) * 21 + h) (by omega) (by omega), show (((sDart S z t).toNat : Nat) : Int) * 21 + h = 21 * (((sDart S z t).toNat : Nat) : Int) + h by omega, blt (by rw [k_85 H]) (by omega) (by rw [k_85 H]; show _ < (1260 : Int); omega), T1 _ d0, bit k84]
            rw [pl]
            rw [if_pos ⟨g1, g2, g3⟩] at hi; exact hi
          · rw [B_f g3, if_pos rfl]
            rw [if_neg (fun g => g3 g.2.2), Nat.add_zero] at hi; exact hi
        · rw [B_f g2, if_pos rfl]
          rw [if_neg (fun g => g2 g.2.1), Nat.add_zero] at hi; exact hi
    · rw [if_neg q, show z = (S 7).toNat by omega]; rfl
theorem sbey_eq (X : Cx sh V S D) (hc : V 84 7 = c) (hp : p < 60) (hh : h ≤ 20) (T1 : ∀ d : Nat, (d : Int) < 2 * S 7 → V 85 (21 * (d : Int) + h) = rC c (Gx S d h)) : Ct_sumBeyond 84 2 p t h (sh, V) = some (0, (sh, upV V 86 (21 * (p : Int) + h) (rC c (By S (Gx S) t ((p / 2 : Nat) : Int) h)))) := by
  have H := X.1
  have P := X.2.1
  have k84 : (kS sh 84).1 = 0 := by rw [k_84 H]
  obtain ⟨r1, r2, r3, r4, r5, r6, r7⟩ := Cx_rng X
  have := fun kk => sb_L (kk := kk) (t := t) X hc hp hh T1 FU 0 (by omega) (by show _ < 1000000; omega)
  rw [sN, rC_0, show ((0 : Nat) : Int) = 0 from rfl] at this
  unfold Ct_sumBeyond
  rw [this, bgt k84, q_84_1 P, w32_id (x := (p : Int) * 21) (by omega) (by omega), w32_id (x := (p : Int) * 21 + h) (by omega) (by omega), show (p : Int) * 21 + h = 21 * (p : Int) + h by omega, bst (by rw [k_86 H]) (by omega) (by rw [k_86 H]; show _ < (1260 : Int); omega)]
theorem sbey_b (X : Cx sh V S D) (hc : V 84 7 = c) (hp : p < 60) (hh : h ≤ 20) (T1 : ∀ d : Nat, (d : Int) < 2 * S 7 → V 85 (21 * (d : Int) + h) = rC c (Gx S d h)) {γ : Type} {fZ : Int → Mem → Option γ} : bd2 (Ct_sumBeyond 84 2 p t h (sh, V)) fZ = fZ (0) (sh, upV V 86 (21 * (p : Int) + h) (rC c (By S (Gx S) t ((p / 2 : Nat) : Int) h))) := by
  rw [sbey_eq] <;> first | assumption | rfl
end CNT1
