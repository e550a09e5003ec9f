/-! PURE: purses stay small; images' rows stay -/
section PURSES
variable {sh : List (Nat × Nat)} {V V' V1 V2 V2' : Int → Int → Int} {r t m s c i j d k x a b y D D' f p w bk v tb q e e' E : Int} {S S' S'' R : Int → Int} {n : Nat} {ρ : Nat → Int}
def psum (S : Int → Int) : Nat → Int
  | 0 => 0
  | n + 1 => psum S n + S (165 + n)
/-- no purse below 0; all together small -/
def PO (S : Int → Int) (E : Int) : Prop := (∀ i, 0 ≤ i → i < S 152 → 0 ≤ S (165 + i)) ∧ psum S (S 152).toNat ≤ 1000000 * S 152 + E
/-- a call keeps that, and the images' rows -/
def PK (S S' : Int → Int) (e : Int) : Prop := (∀ k, 1629 ≤ k → S' k = S k) ∧ ∀ E, E + e < 1000000000 → PO S E → PO S' (E + e)
theorem PO_mono (h : PO S E) (q : E ≤ y) : PO S y := ⟨h.1, by have := h.2; omega⟩
theorem PK_refl (h : 0 ≤ e) : PK S S e := ⟨fun _ _ => rfl, fun E _ q => PO_mono q (by omega)⟩
theorem PK_mono (h : PK S S' e) (h0 : 0 ≤ e) (q : e ≤ e') : PK S S' e' := ⟨h.1, fun E g p => PO_mono (h.2 E (by omega) p) (by omega)⟩
theorem PK_trans (h : PK S S' e) (h' : PK S' S'' e') (h0 : 0 ≤ e') : PK S S'' (e + e') := ⟨fun k q => (h'.1 k q).trans (h.1 k q), fun E g p => by
  have := h'.2 (E + e) (by omega) (h.2 E (by omega) p)
  rw [show E + (e + e') = E + e + e' by omega]; exact this⟩
theorem psum_eq : ∀ n : Nat, (∀ k : Nat, k < n → S' (165 + k) = S (165 + k)) → psum S' n = psum S n := by
  intro n
  induction n with
  | zero => intro _; rfl
  | succ n ih => intro h; rw [psum, psum, ih (fun k hk => h k (by omega)), h n (by omega)]
theorem psum_one {z : Nat} : ∀ n : Nat, z < n → (∀ k : Nat, k < n → k ≠ z → S' (165 + k) = S (165 + k)) → psum S' n = psum S n + (S' (165 + z) - S (165 + z)) := by
  intro n
  induction n with
  | zero => intro h; omega
  | succ n ih =>
    intro hz h
    rw [psum, psum]
    by_cases q : z = n
    · subst q
      rw [psum_eq z (fun k hk => h k (by omega) (by omega))]; omega
    · rw [ih (by omega) (fun k hk hn => h k (by omega) hn), h n (by omega) (by omega)]; omega
theorem psum_ge {z : Nat} : ∀ n : Nat, z < n → (∀ k : Nat, k < n → 0 ≤ S (165 + k)) → 0 ≤ S (165 + z) ∧ S (165 + z) ≤ psum S n := by
  intro n
  induction n with
  | zero => intro h; omega
  | succ n ih =>
    intro hz h
    have hn : ∀ m : Nat, m ≤ n → 0 ≤ psum S m := by
      intro m
      induction m with
      | zero => intro _; exact Int.le_refl 0
      | succ m im => intro hm; rw [psum]; have := im (by omega); have := h m (by omega); omega
    rw [psum]
    have h1 := h n (by omega)
    by_cases q : z = n
    · subst q; have := hn z (by omega); omega
    · have := ih (by omega) (fun k hk => h k (by omega)); omega
/-- one purse's most -/
theorem PO_le (h : PO S E) (hN : S 152 ≤ 6) (h0 : 0 ≤ i) (h1 : i < S 152) : 0 ≤ S (165 + i) ∧ S (165 + i) ≤ 6000000 + E := by
  obtain ⟨z, rfl⟩ := Int.eq_ofNat_of_zero_le h0
  have := psum_ge (S := S) (z := z) (S 152).toNat (by omega) (fun k hk => h.1 k (by omega) (by omega))
  have := h.2
  omega
/-- one purse changes -/
theorem PO_one (h : PO S E) (h0 : 0 ≤ i) (h1 : i < S 152) (hN : S' 152 = S 152) (hs : ∀ k, 0 ≤ k → k < S 152 → k ≠ i → S' (165 + k) = S (165 + k)) (hp : 0 ≤ S' (165 + i)) (hp' : S' (165 + i) ≤ S (165 + i) + e) : PO S' (E + e) := by
  obtain ⟨z, rfl⟩ := Int.eq_ofNat_of_zero_le h0
  refine ⟨fun k k0 k1 => ?_, ?_⟩
  · by_cases q : k = z
    · rw [q]; exact hp
    · rw [hs k k0 (by omega) q]; exact h.1 k k0 (by omega)
  · rw [hN, psum_one (S := S) (z := z) _ (by omega) (fun k hk hn => hs k (by omega) (by omega) (by omega))]
    have := h.2
    omega
theorem PK_go (W : WI S D i) (hN : S 152 ≤ 6) (h1 : i < S 152) (hr : rfW S i v = 0) : PK S (goS S i v) 999 := by
  obtain ⟨K, T, h0, h6⟩ := W
  obtain ⟨hv, hr'⟩ := rfW_0 hr
  have hd : 0 ≤ S (159 + i) := T.2.2.1
  have fr : ∀ k, 0 ≤ k → k < 6 → k ≠ i → goS S i v (165 + k) = S (165 + k) := fun k k0 k1 hk => goS_fr h0 h6 T hr' (XS_other k0 k1 hk (Or.inr (Or.inr (Or.inl rfl))))
  have hi := (sStep_up (p := 0) h0 h6 hv.1 (by have := K.2.2.2.1; omega) T.1 T.2.1 (fun q => (sRefuse_m hr' T.2.1) q)).2
  have hA := sAmt_rng K T hv.1 hv.2
  refine ⟨fun k hk => ?_, fun E hE p => ?_⟩
  · unfold goS sBook
    split
    · rw [upS_ne (by omega)]; exact sStep_high h0 h6 T hr' (by omega)
    · exact sStep_high h0 h6 T hr' (by omega)
  · have hb := PO_le p hN h0 h1
    rw [← goS_low (by omega) hd] at hi
    refine PO_one p h0 h1 (goS_fr h0 h6 T hr' (XS_low (by decide))) (fun k k0 k1 hk => fr k k0 (by omega) hk) ?_ ?_
    · rw [hi]
      rcases sBk_01 S i v with g | g
      · rw [if_pos g]
        have hpur : sAmt S i v ≤ S (165 + i) := by
          unfold sAmt; rw [if_pos g]
          unfold sRefuse at hr'
          rw [if_pos g] at hr'
          by_cases u : S (165 + i) < sToll S v (S (159 + i))
          · rw [if_pos u] at hr'
            split at hr'
            · split at hr' <;> omega
            · omega
          · omega
        rw [w32_id (by omega) (by omega)]; omega
      · rw [if_neg (by omega), w32_id (by omega) (by omega)]; omega
    · rw [hi]
      rcases sBk_01 S i v with g | g
      · rw [if_pos g, w32_id (by omega) (by omega)]; omega
      · rw [if_neg (by omega), w32_id (by omega) (by omega)]; omega
end PURSES
