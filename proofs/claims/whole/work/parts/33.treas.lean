/-! PURE: treasury -/
section TREAS
variable {sh : List (Nat × Nat)} {V V' : Int → Int → Int} {r t m s c i j d k x a b y D f p : Int} {S S' : Int → Int} {n : Nat}
/-- slips of the first n travellers; late slips among the first k of traveller i -/
def cSl (S : Int → Int) : Nat → Int
  | 0 => 0
  | n + 1 => cSl S n + S (171 + n)
def cLt (S : Int → Int) (i : Int) : Nat → Int
  | 0 => 0
  | k + 1 => cLt S i k + B (S 2 < S (159 + i) - S (429 + (40 * i + k)))
def cLs (S : Int → Int) : Nat → Int
  | 0 => 0
  | n + 1 => cLs S n + cLt S n (S (171 + n)).toNat
def aTreas (S : Int → Int) (k : Int) : Int := if k = 0 then w32 (tre S (S 152).toNat) else if k = 1 then cSl S (S 152).toNat else if k = 2 then cLs S (S 152).toNat else -1
theorem cSl_rng (h : ∀ i : Nat, i < n → 0 ≤ S (171 + i) ∧ S (171 + i) ≤ 40) : 0 ≤ cSl S n ∧ cSl S n ≤ 40 * n := by
  induction n with
  | zero => simp [cSl]
  | succ n ih =>
    have := ih (fun i hi => h i (by omega))
    have := h n (by omega)
    rw [cSl]; omega
theorem cLt_rng (k : Nat) : 0 ≤ cLt S i k ∧ cLt S i k ≤ k := by
  induction k with
  | zero => simp [cLt]
  | succ k ih =>
    have : B (S 2 < S (159 + i) - S (429 + (40 * i + k))) = 0 ∨ B (S 2 < S (159 + i) - S (429 + (40 * i + k))) = 1 := by unfold B; split <;> simp
    rw [cLt]; omega
theorem cLs_rng (h : ∀ i : Nat, i < n → 0 ≤ S (171 + i) ∧ S (171 + i) ≤ 40) : 0 ≤ cLs S n ∧ cLs S n ≤ 40 * n := by
  induction n with
  | zero => simp [cLs]
  | succ n ih =>
    have := ih (fun i hi => h i (by omega))
    have := h n (by omega)
    have := cLt_rng (S := S) (i := n) (S (171 + n)).toNat
    rw [cLs]; omega
theorem allSlips_L (H : Sh sh) (P : Pt V) (C : CW V S) (O : SOk S D) : ∀ (n z : Nat), z ≤ (S 152).toNat → (S 152).toNat - z < n → Wo_allSlips_L4 n 2 (cSl S z) (z : Int) (sh, V) = some (cSl S (S 152).toNat, (sh, V)) := by
  obtain ⟨c1, c2, c3, c4, c5, c6⟩ := C
  obtain ⟨KO, o2, o3, o4, o5, o6⟩ := O
  intro n
  induction n with
  | zero => intro z _ h; omega
  | succ n ih =>
    intro z hz hn
    rw [Wo_allSlips_L4, bgt (by rw [k_2 H]), c3]
    by_cases h : (z : Int) < S 152
    · have kt : (kS sh (11 + 4 * (z : Int))).1 = 6 := by rw [(kTr H (by omega) (by omega)).1]
      have hr := cSl_rng (S := S) (n := z) (fun i hi => ⟨(o4 i (by omega) (by omega)).1, (o4 i (by omega) (by omega)).2.1⟩)
      have ho := o4 z (by omega) h
      have h1 := ho.1
      have h2 := ho.2.1
      rw [if_pos h, bgt (by rw [k_2 H]), q_2_1 P, blt (by rw [k_9 H]) (by omega) (by rw [k_9 H]; show (z : Int) < 6; omega), qPeople H P (by omega) (by omega), bgt kt, (c4 z (by omega) h).1.2.2.2.2.2, bd_mk, w32_id (by omega) (by omega), w32_id (by omega) (by omega)]
      exact ih (z + 1) (by omega) (by omega)
    · have : z = (S 152).toNat := by omega
      rw [if_neg h, this]
theorem Kg_isLate_eq (H : Sh sh) (K : CK V S) (kt : kS sh t = (6, 9)) (ks : kS sh s = (20, 40)) (hs : V t 7 = s) (h0 : 0 ≤ k) (h1 : k < 40) (u3 : 0 ≤ V s k) (u4 : V s k < 2000000000) (u5 : 0 ≤ d) (u6 : d < 2000000000) : Kg_isLate 3 t k d (sh, V) = some (B (S 2 < d - V s k), (sh, V)) := by
  obtain ⟨-, -, k2, k3, -⟩ := K
  unfold Kg_isLate
  rw [bgt (by rw [kt]), hs, blt (by rw [ks]) h0 (by rw [ks]; exact h1), bgt (by rw [k_3 H]), k2, w32_id (by omega) (by omega)]
  simp only [if_some2, if_B]
theorem Kg_isLate_b (H : Sh sh) (K : CK V S) (kt : kS sh t = (6, 9)) (ks : kS sh s = (20, 40)) (hs : V t 7 = s) (h0 : 0 ≤ k) (h1 : k < 40) (u3 : 0 ≤ V s k) (u4 : V s k < 2000000000) (u5 : 0 ≤ d) (u6 : d < 2000000000) {γ : Type} {fZ : Int → Mem → Option γ} : bd2 (Kg_isLate 3 t k d (sh, V)) fZ = fZ (B (S 2 < d - V s k)) (sh, V) := by
  rw [Kg_isLate_eq] <;> first | assumption | rfl
theorem B_01 {q : Prop} [Decidable q] : B q = 0 ∨ B q = 1 := by unfold B; split <;> simp
theorem late_L22 {kk : Int → Int → Int → Mem → Option (Int × Mem)} {v2 b : Int} (H : Sh sh) (P : Pt V) (C : CW V S) (O : SOk S D) (T : TP V) (hD : D < 1900000000) (h0 : 0 ≤ i) (h1 : i < S 152) (hb : 0 ≤ b ∧ b ≤ 100000) : ∀ (n z : Nat), z ≤ (S (171 + i)).toNat → (S (171 + i)).toNat - z < n → Wo_lateSlips_L22 kk n 2 (b + cLt S i z) v2 (11 + 4 * i) (z : Int) (sh, V) = kk 2 (b + cLt S i (S (171 + i)).toNat) v2 (sh, V) := by
  obtain ⟨c1, c2, c3, c4, c5, c6⟩ := C
  obtain ⟨KO, o2, o3, o4, o5, o6⟩ := O
  obtain ⟨t1, t2, t3, t4, t5, t6, t7⟩ := o4 i h0 h1
  obtain ⟨⟨f0, f1, f2, f3, f4, f5⟩, sl⟩ := c4 i h0 h1
  have kt := (kTr H h0 (by omega : i < 6)).1
  have kt1 : (kS sh (11 + 4 * i)).1 = 6 := by rw [kt]
  obtain ⟨p, p0, p1, p2, p3, p4⟩ := T.1 i h0 (by omega)
  obtain ⟨-, k2, k3, k4⟩ := kTr H p0 p1
  intro n
  induction n with
  | zero => intro z _ h; omega
  | succ n ih =>
    intro z hz hn
    rw [Wo_lateSlips_L22, bgt kt1, f5]
    by_cases h : (z : Int) < S (171 + i)
    · obtain ⟨w1, w2, w3, w4, w5, w6⟩ := t7 z (by omega) h
      obtain ⟨s1, s2, s3⟩ := sl z (by omega) h
      have hl := cLt_rng (S := S) (i := i) z
      have hB : B (S 2 < S (159 + i) - S (429 + (40 * i + z))) = 0 ∨ B (S 2 < S (159 + i) - S (429 + (40 * i + z))) = 1 := B_01
      rw [if_pos h, bgt (by rw [k_2 H]), q_2_0 P, bgt kt1, f1, bit (by rw [k_3 H]), Kg_isLate_b (s := V (11 + 4 * i) 7) H c1 kt (by rw [p3]; exact k3) rfl (by omega) (by omega) (by rw [s2]; exact w3) (by rw [s2]; omega) t3 (by omega), s2]
      have hi := ih (z + 1) (by omega) (by omega)
      rw [cLt] at hi
      rcases hB with q | q
      · rw [q] at hi ⊢
        rw [if_pos rfl, bd_mk, w32_id (x := (z : Int) + 1) (by omega) (by omega), w32_id (by omega) (by omega), Int.add_assoc]
        exact hi
      · rw [q] at hi ⊢
        rw [if_neg (by decide), bd_mk, w32_id (x := (z : Int) + 1) (by omega) (by omega), w32_id (by omega) (by omega), Int.add_assoc]
        exact hi
    · have : z = (S (171 + i)).toNat := by omega
      rw [if_neg h, this]
theorem late_L4 (H : Sh sh) (P : Pt V) (C : CW V S) (O : SOk S D) (T : TP V) (hD : D < 1900000000) : ∀ (n z : Nat), z ≤ (S 152).toNat → (S 152).toNat - z < n → Wo_lateSlips_L4 n 2 (cLs S z) (z : Int) (sh, V) = some (cLs S (S 152).toNat, (sh, V)) := by
  have C' := C
  have O' := O
  obtain ⟨c1, c2, c3, c4, c5, c6⟩ := C
  obtain ⟨KO, o2, o3, o4, o5, o6⟩ := O
  intro n
  induction n with
  | zero => intro z _ h; omega
  | succ n ih =>
    intro z hz hn
    rw [Wo_lateSlips_L4, bgt (by rw [k_2 H]), c3]
    by_cases h : (z : Int) < S 152
    · have hr := cLs_rng (S := S) (n := z) (fun i hi => ⟨(o4 i (by omega) (by omega)).1, (o4 i (by omega) (by omega)).2.1⟩)
      have ho := o4 z (by omega) h
      have h1 := ho.1
      have h2 := ho.2.1
      rw [if_pos h, bgt (by rw [k_2 H]), q_2_1 P, blt (by rw [k_9 H]) (by omega) (by rw [k_9 H]; show (z : Int) < 6; omega), qPeople H P (by omega) (by omega)]
      have hl := late_L22 (kk := fun x4 x5 x6 μ7 => Wo_lateSlips_L4 n x4 x5 (w32 (x6 + 1)) μ7) (v2 := z) (b := cLs S z) H P C' O' T hD (by omega : 0 ≤ (z : Int)) h (by omega) FU 0 (by omega) (by show _ < 1000000; omega)
      rw [cLt, Int.add_zero] at hl
      rw [show ((0 : Nat) : Int) = 0 from rfl] at hl
      rw [hl, w32_id (by omega) (by omega)]
      exact ih (z + 1) (by omega) (by omega)
    · have : z = (S 152).toNat := by omega
      rw [if_neg h, this]
theorem T_treasury_eq (H : Sh sh) (P : Pt V) (C : CW V S) (O : SOk S D) (T : TP V) (hD : D < 1900000000) : T_treasury 0 k (sh, V) = some (aTreas S k, (sh, V)) := by
  have c6 := C.2.2.2.2.2
  have o3 := O.2.2.1
  unfold T_treasury aTreas
  by_cases h0 : k = 0
  · rw [if_pos h0, if_pos h0, bgt (by rw [k_0 H]), q_0_4 P, bgt (by rw [k_2 H]), c6]
  · rw [if_neg h0, if_neg h0]
    by_cases h1 : k = 1
    · rw [if_pos h1, if_pos h1, bgt (by rw [k_0 H]), q_0_4 P, bit (by rw [k_2 H])]
      unfold Wo_allSlips
      have := allSlips_L H P C O FU 0 (by omega) (by show _ < 1000000; omega)
      rw [cSl, show ((0 : Nat) : Int) = 0 from rfl] at this
      rw [this, bd2_mk]
    · rw [if_neg h1, if_neg h1]
      by_cases h2 : k = 2
      · rw [if_pos h2, if_pos h2, bgt (by rw [k_0 H]), q_0_4 P, bit (by rw [k_2 H])]
        unfold Wo_lateSlips
        have := late_L4 H P C O T hD FU 0 (by omega) (by show _ < 1000000; omega)
        rw [cLs, show ((0 : Nat) : Int) = 0 from rfl] at this
        rw [this, bd2_mk]
      · rw [if_neg h2, if_neg h2]
theorem T_treasury_b (H : Sh sh) (P : Pt V) (C : CW V S) (O : SOk S D) (T : TP V) (hD : D < 1900000000) {γ : Type} {fZ : Int → Mem → Option γ} : bd2 (T_treasury 0 k (sh, V)) fZ = fZ (aTreas S k) (sh, V) := by
  rw [T_treasury_eq] <;> first | assumption | rfl
end TREAS
