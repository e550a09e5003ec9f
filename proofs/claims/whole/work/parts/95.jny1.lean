/-! PURE: journey; the class looks for a road -/
section JNY1
variable {sh : List (Nat × Nat)} {V V' V1 V2 : Int → Int → Int} {t i j k x a b D v3 : Int} {S : Int → Int} {n h p z q m s M N NN H0 e l l2 r st : Nat} {f w g : Nat → Nat}
/-- what the counter has -/
def CSt (sh : List (Nat × Nat)) (S : Int → Int) (D : Int) (w : Nat → Nat) (M NN : Nat) (V : Int → Int → Int) (f : Nat → Nat) (H : Nat) : Prop := Cx sh V S D ∧ (V 84 7 = 1 ∧ V 84 5 = M ∧ V 84 6 = H) ∧ (∀ k : Nat, k < H → V 89 k = f k) ∧ (∀ k : Nat, k < M → V 88 k = w k) ∧ Ib V S 1 NN Fl Fl
theorem CSt_87 (C : CSt sh S D w M NN V f H0) (h : ∀ a j, a ≠ 87 → V' a j = V a j) : CSt sh S D w M NN V' f H0 := by
  obtain ⟨X, ⟨c1, c2, c3⟩, c4, c5, c6⟩ := C
  refine ⟨KF_Cx X (KF_87 h), ⟨by rw [h _ _ (by decide)]; exact c1, by rw [h _ _ (by decide)]; exact c2, by rw [h _ _ (by decide)]; exact c3⟩, fun k hk => by rw [h _ _ (by decide)]; exact c4 k hk, fun k hk => by rw [h _ _ (by decide)]; exact c5 k hk, fun p hp => ⟨fun j hj => ?_, fun g => g.elim, fun g => g.elim⟩⟩
  rw [h _ _ (by decide), h _ _ (by decide)]; exact (c6 p hp).1 j hj
theorem CSt_89 (C : CSt sh S D w M NN V f H0) (h : ∀ a j, a ≠ 89 → ¬ (a = 84 ∧ j = 6) → V' a j = V a j) (h6 : V' 84 6 = q) (hf : ∀ k : Nat, k < q → V' 89 k = g k) : CSt sh S D w M NN V' g q := by
  obtain ⟨X, ⟨c1, c2, c3⟩, c4, c5, c6⟩ := C
  refine ⟨KF_Cx X (fun a j a1 a2 => h a j (by omega) (by omega)), ⟨by rw [h _ _ (by decide) (by decide)]; exact c1, by rw [h _ _ (by decide) (by decide)]; exact c2, h6⟩, hf, fun k hk => by rw [h _ _ (by decide) (by omega)]; exact c5 k hk, fun p hp => ⟨fun j hj => ?_, fun g => g.elim, fun g => g.elim⟩⟩
  rw [h _ _ (by decide) (by omega), h _ _ (by decide) (by omega)]; exact (c6 p hp).1 j hj
theorem hold_ok (C : CSt sh S D w M NN V f H0) (hH0 : H0 < 40 ∨ (bkw f H0 e ∧ H0 ≤ 40)) (he : e < 48) : ∃ V', Ct_hold 84 e (sh, V) = some (0, (sh, V')) ∧ CSt sh S D w M NN V' (hF f H0 e) (hH f H0 e) ∧ KF V V' := by
  obtain ⟨X, ⟨c1, c2, c3⟩, c4, c5, c6⟩ := id C
  have H := X.1
  have P := X.2.1
  have k84 : (kS sh 84).1 = 0 := by rw [k_84 H]
  have hle : H0 ≤ 40 := by omega
  have push : ¬ bkw f H0 e → ∃ V', Ct_hold_J37 84 e (sh, V) = some (0, (sh, V')) ∧ CSt sh S D w M NN V' (hF f H0 e) (hH f H0 e) ∧ KF V V' := fun b => by
    have hl : H0 < 40 := by omega
    refine ⟨upV (upV V 89 H0 e) 84 6 ((H0 : Int) + 1), ?_, ?_, KF_up (KF_up KF_refl (by omega)) (by omega)⟩
    · unfold Ct_hold_J37
      rw [bgt k84, c3, if_pos (by omega), bgt k84, q_84_4 P, bgt k84, c3, bst (by rw [k_89 H]) (by omega) (by rw [k_89 H]; show _ < (40 : Int); omega), bgt k84, up_row (by decide), c3, w32_id (by omega) (by omega), bpt k84]
    · unfold hF hH
      rw [if_neg b, if_neg b]
      refine CSt_89 C (fun a j a1 a2 => by unfold upV; rw [if_neg a2, if_neg (fun g => a1 g.1)]) (by rw [up_eq]; omega) (fun k hk => ?_)
      rw [up_row (by decide)]
      by_cases z : k = H0
      · rw [if_pos z, z, up_eq]
      · rw [if_neg z, up_col (by omega)]; exact c4 k (by omega)
  unfold Ct_hold
  rw [bgt k84, c3]
  by_cases h1 : 0 < H0
  · rw [if_pos (by omega), bgt k84, q_84_4 P, bgt k84, c3, w32_id (by omega) (by omega), show (H0 : Int) - 1 = ((H0 - 1 : Nat) : Int) by omega, blt (by rw [k_89 H]) (by omega) (by rw [k_89 H]; show _ < (40 : Int); omega), c4 (H0 - 1) (by omega), xor_xr he]
    by_cases h2 : f (H0 - 1) = xr e
    · have b : bkw f H0 e := ⟨h1, h2⟩
      rw [if_pos (by rw [h2]), bgt k84, c3, w32_id (by omega) (by omega), bpt k84]
      refine ⟨_, rfl, ?_, KF_up KF_refl (by omega)⟩
      unfold hF hH
      rw [if_pos b, if_pos b]
      exact CSt_89 C (fun a j a1 a2 => by unfold upV; rw [if_neg a2]) (by rw [up_eq]; omega) (fun k hk => by rw [up_row (by decide)]; exact c4 k (by omega))
    · rw [if_neg (by omega)]; exact push (fun b => h2 b.2)
  · rw [if_neg (by omega)]; exact push (fun b => h1 b.1)
/-- a going taken back -/
theorem hold_undo (hf : ∀ k, k + 1 < H0 → f (k + 1) ≠ xr (f k)) : hH (hF f H0 e) (hH f H0 e) (xr e) = H0 ∧ (∀ k, k < H0 → hF (hF f H0 e) (hH f H0 e) (xr e) k = f k) ∧ (hH f H0 e < 40 ∨ (bkw (hF f H0 e) (hH f H0 e) (xr e) ∧ hH f H0 e ≤ 40) ∨ 40 ≤ H0) := by
  by_cases b : bkw f H0 e
  · have e1 : hF f H0 e = f := if_pos b
    have e2 : hH f H0 e = H0 - 1 := if_pos b
    rw [e1, e2]
    have nb : ¬ bkw f (H0 - 1) (xr e) := fun c => by
      have := hf (H0 - 1 - 1) (by omega)
      rw [show H0 - 1 - 1 + 1 = H0 - 1 by omega, b.2, c.2, xr_xr] at this
      exact this rfl
    unfold hH hF
    rw [if_neg nb, if_neg nb]
    refine ⟨by omega, fun k hk => ?_, by omega⟩
    by_cases z : k = H0 - 1
    · rw [if_pos z, z, b.2]
    · rw [if_neg z]
  · have e1 : hF f H0 e = fun k => if k = H0 then e else f k := if_neg b
    have e2 : hH f H0 e = H0 + 1 := if_neg b
    rw [e1, e2]
    have nb : bkw (fun k => if k = H0 then e else f k) (H0 + 1) (xr e) := ⟨by omega, by rw [show H0 + 1 - 1 = H0 by omega, xr_xr]; exact if_pos rfl⟩
    unfold hH hF
    rw [if_pos nb, if_pos nb]
    exact ⟨by omega, fun k hk => if_neg (by omega), by omega⟩
/-- how many journeys go on by road r -/
noncomputable def Wr (S : Int → Int) (w : Nat → Nat) (M : Nat) (t : Int) (ws : List Nat) (m r : Nat) : Nat := @ite _ (rdo S t (-1) r) (Classical.propDecidable _) (@ite _ (allO S w 0 M) (Classical.propDecidable _) (WS S (sHead S (sDart S r t)) (nxt (sDart S r t).toNat ws) m) 0) 0
theorem Wr_no {ws : List Nat} (h : ¬ rdo S t (-1) r) : Wr S w M t ws m r = 0 := by unfold Wr; rw [if_neg h]
/-- one going tried by the class -/
theorem ctry (C : CSt sh S D w M NN V f H0) (I : HI S f H0 t) (Q : SPx f w H0 M s) (J : WI2 S w M) (hH0 : H0 < 40) (hM : M ≤ 40) (hNN : NN ≤ 21) (hst : m / 2 < NN) (hr : (r : Int) < S 7) (hd : rdo S t (-1) r) : ∃ V1 V2, Ct_hold 84 (sDart S r t) (sh, V) = some (0, (sh, V1)) ∧ Ct_countFrom 84 2 (sHead S (sDart S r t)) m (sh, V1) = some (rC 1 (Wr S w M t (wyL f w H0 M s) m r), (sh, V2)) ∧ CSt sh S D w M NN V1 (hF f H0 (sDart S r t).toNat) (hH f H0 (sDart S r t).toNat) ∧ CSt sh S D w M NN V2 (hF f H0 (sDart S r t).toNat) (hH f H0 (sDart S r t).toNat) ∧ KF V V1 ∧ KF V1 V2 := by
  have X := C.1
  obtain ⟨r1, r2, r3, r4, r5, r6, r7⟩ := Cx_rng X
  obtain ⟨d1, d2, d3⟩ := drt_of X.2.2.2.1.1 (r := r) hr hd.2.1 hd.2.2
  have I' := HI_hold I d1
  obtain ⟨s', Q', ew⟩ := hold_nxt (e := (sDart S r t).toNat) Q J.2 I.2.1
  obtain ⟨V1, h1, h2, h3⟩ := hold_ok (e := (sDart S r t).toNat) C (Or.inl hH0) (by have := d1.1; omega)
  have kd := X.2.2.2.1.1.2.2.2.2.2.2.2.2.2.2.2.2.2 (r : Int) (by omega) hr
  have ht : 0 ≤ sHead S (sDart S r t) ∧ sHead S (sDart S r t) < S 0 := by
    have hh : sHead S (sDart S r t) = S (8 + (r : Int)) ∨ sHead S (sDart S r t) = S (32 + (r : Int)) := by
      unfold sHead sDart
      by_cases q : S (8 + (r : Int)) = t
      · rw [if_pos q, if_pos (by omega), show 2 * (r : Int) / 2 = r by omega]; exact Or.inr rfl
      · rw [if_neg q, if_neg (by omega), show (2 * (r : Int) + 1) / 2 = r by omega]; exact Or.inl rfl
    rcases hh with q | q <;> rw [q] <;> omega
  obtain ⟨X1, ⟨c1, c2, c3⟩, c4, c5, c6⟩ := id h2
  have hl : hH f H0 (sDart S r t).toNat ≤ 40 := by unfold hH; split <;> omega
  have inst : ∀ k, Decidable (allO S w k M) := fun k => Classical.propDecidable _
  obtain ⟨V2, g1, g2⟩ := cf_ok (t := sHead S (sDart S r t)) (st := m) X1 c1 c2 c3 hM hl c6 hNN hst ht.1 ht.2 (fun k hk => ⟨c4 k hk, (I'.1 k hk).1⟩) (fun k hk => ⟨c5 k hk, (J.1 k hk).1⟩) Q'
  refine ⟨V1, V2, by rw [← d3]; exact h1, ?_, h2, CSt_87 h2 g2, h3, KF_87 g2⟩
  rw [g1, ew]
  apply some_c
  have al := allO_iff I' Q'
  unfold Wr
  rw [if_pos hd]
  by_cases q : allO S w 0 M
  · rw [if_pos (al.mpr q), if_pos q]
  · rw [if_neg (fun z => q (al.mp z)), if_neg q]
theorem cap_lt {y : Nat} (hl : l < 2147483648) : ((l : Int) < rC 1 y ↔ l < y) ∧ (y ≤ l → rC 1 y = y) := by
  unfold rC rhoN
  rw [if_neg (by decide)]
  constructor
  · constructor <;> intro h <;> omega
  · intro h; rw [Nat.min_eq_right (by omega)]
/-- a road that isn't the one -/
theorem cskip (C : CSt sh S D w M NN V f H0) (I : HI S f H0 t) (Q : SPx f w H0 M s) (J : WI2 S w M) (hH0 : H0 < 40) (hM : M ≤ 40) (hNN : NN ≤ 21) (hst : m / 2 < NN) (hp : p + 1 + m = N) (hN : N ≤ 40) (hl : l < 2147483648) (hr : (z : Int) < S 7) (hw : Wr S w M t (wyL f w H0 M s) m z ≤ l) : ∃ V', CSt sh S D w M NN V' f H0 ∧ KF V V' ∧ ∀ kk, Ct_roadOf_L42 kk (n + 1) 84 2 N i l t p (-1) z (sh, V) = Ct_roadOf_L42 kk n 84 2 N i ((l - Wr S w M t (wyL f w H0 M s) m z : Nat) : Int) t p (-1) ((z + 1 : Nat) : Int) (sh, V') := by
  have X := C.1
  have H := X.1
  have k84 : (kS sh 84).1 = 0 := by rw [k_84 H]
  obtain ⟨r1, r2, r3, r4, r5, r6, r7⟩ := Cx_rng X
  have wz : w32 ((z : Int) + 1) = ((z + 1 : Nat) : Int) := by rw [w32_id (by omega) (by omega)]; omega
  by_cases hd : rdo S t (-1) z
  · obtain ⟨V1, V2, e1, e2, C1, C2, K1, K2⟩ := ctry C I Q J hH0 hM hNN hst hr hd
    obtain ⟨d1, d2, d3⟩ := drt_of X.2.2.2.1.1 (r := z) hr hd.2.1 hd.2.2
    have un := hold_undo (f := f) (H0 := H0) (e := (sDart S z t).toNat) I.2.1
    have xl := xr_lt (S := S) (m := (sDart S z t).toNat) d1.1
    obtain ⟨V3, e3, C3, K3⟩ := hold_ok (e := xr (sDart S z t).toNat) C2 (by have := un.2.2; omega) (by omega)
    refine ⟨V3, ?_, KF_trans K1 (KF_trans K2 K3), fun kk => ?_⟩
    · obtain ⟨x0, ⟨x1, x2, x3⟩, x4, x5, x6⟩ := C3
      rw [un.1] at x3 x4
      exact ⟨x0, ⟨x1, x2, x3⟩, fun k hk => by rw [x4 k hk, un.2.1 k hk], x5, x6⟩
    · have X1 := C1.1
      have X2 := C2.1
      have cl := cap_lt (y := Wr S w M t (wyL f w H0 M s) m z) hl
      have dl : sDart S z t < 2 * S 7 := by rw [← d3]; exact d1.1
      rw [Ct_roadOf_L42, b20 X, b37 X, if_pos hr, if_pos rfl, bi2 X, x_isOpen X (by omega) hr, B_t hd.2.1, if_neg (by decide), b20 X, bi3 X, x_leads X (by omega) hr, B_t hd.2.2, if_neg (by decide), b20 X, bi3 X, x_markOf X (by omega) hr, bit k84, e1, bd2_mk, b20 X1, bi3 X1, x_endOf X1 (by omega) dl, bit k84, w32_id (x := (N : Int) - p) (by omega) (by omega), w32_id (x := (N : Int) - p - 1) (by omega) (by omega), show (N : Int) - p - 1 = m by omega, e2, bd2_mk]
      simp only [cmp_lt]
      rw [if_neg (fun g => by have := cl.1.mp g; omega), cl.2 hw, w64_id (by omega) (by omega), bd_mk, bit k84, ← d3, xor_xr (by have := d1.1; omega), e3, bd2_mk, wz, show (l : Int) - (Wr S w M t (wyL f w H0 M s) m z : Nat) = ((l - Wr S w M t (wyL f w H0 M s) m z : Nat) : Int) by omega]
  · refine ⟨V, C, KF_refl, fun kk => ?_⟩
    rw [Wr_no hd, Nat.sub_zero, Ct_roadOf_L42, b20 X, b37 X, if_pos hr, if_pos rfl, bi2 X, x_isOpen X (by omega) hr]
    by_cases g2 : S (128 + (z : Int)) = 0
    · rw [B_t g2, if_neg (by decide), b20 X, bi3 X, x_leads X (by omega) hr]
      by_cases g3 : S (8 + (z : Int)) = t ∨ S (32 + (z : Int)) = t
      · exact absurd ⟨by omega, g2, g3⟩ hd
      · rw [B_f g3, if_pos rfl, wz]
    · rw [B_f g2, if_pos rfl, wz]
/-- the road is found -/
theorem cfind (hH0 : H0 < 40) (hM : M ≤ 40) (hNN : NN ≤ 21) (hst : m / 2 < NN) (hp : p + 1 + m = N) (hN : N ≤ 40) (I : HI S f H0 t) (Q : SPx f w H0 M s) (J : WI2 S w M) (hr : (r : Int) < S 7) (hl2 : l2 < Wr S w M t (wyL f w H0 M s) m r) : ∀ (n z l : Nat) (V : Int → Int → Int), CSt sh S D w M NN V f H0 → z ≤ r → r - z + 1 < n → l < 2147483648 → l + sN (Wr S w M t (wyL f w H0 M s) m) z = l2 + sN (Wr S w M t (wyL f w H0 M s) m) r → ∃ V', CSt sh S D w M NN V' (hF f H0 (sDart S r t).toNat) (hH f H0 (sDart S r t).toNat) ∧ KF V V' ∧ ∀ kk, Ct_roadOf_L42 kk n 84 2 N i l t p (-1) z (sh, V) = kk 84 2 N i l2 t p r (sh, V') := by
  intro n
  induction n with
  | zero => intro z _ _ _ _ h; omega
  | succ n ih =>
    intro z l V C hz hn hl el
    have X := C.1
    have H := X.1
    have k84 : (kS sh 84).1 = 0 := by rw [k_84 H]
    obtain ⟨r1, r2, r3, r4, r5, r6, r7⟩ := Cx_rng X
    by_cases q : z = r
    · subst q
      have el' : l = l2 := by omega
      subst el'
      have hd : rdo S t (-1) z := Classical.byContradiction (fun g => by rw [Wr_no g] at hl2; omega)
      obtain ⟨V1, V2, e1, e2, C1, C2, K1, K2⟩ := ctry C I Q J hH0 hM hNN hst hr hd
      obtain ⟨d1, d2, d3⟩ := drt_of X.2.2.2.1.1 (r := z) hr hd.2.1 hd.2.2
      refine ⟨V2, C2, KF_trans K1 K2, fun kk => ?_⟩
      have X1 := C1.1
      have X2 := C2.1
      have cl := cap_lt (y := Wr S w M t (wyL f w H0 M s) m z) hl
      have dl : sDart S z t < 2 * S 7 := by rw [← d3]; exact d1.1
      obtain ⟨n', rfl⟩ : ∃ n', n = n' + 1 := ⟨n - 1, by omega⟩
      rw [Ct_roadOf_L42, b20 X, b37 X, if_pos hr, if_pos rfl, bi2 X, x_isOpen X (by omega) hr, B_t hd.2.1, if_neg (by decide), b20 X, bi3 X, x_leads X (by omega) hr, B_t hd.2.2, if_neg (by decide), b20 X, bi3 X, x_markOf X (by omega) hr, bit k84, e1, bd2_mk, b20 X1, bi3 X1, x_endOf X1 (by omega) dl, bit k84, w32_id (x := (N : Int) - p) (by omega) (by omega), w32_id (x := (N : Int) - p - 1) (by omega) (by omega), show (N : Int) - p - 1 = m by omega, e2, bd2_mk]
      simp only [cmp_lt]
      rw [if_pos (cl.1.mpr hl2), Ct_roadOf_L42, b20 X2, b37 X2]
      split
      · rw [if_neg (by omega)]
      · rfl
    · have hm1 := sN_mono (W := Wr S w M t (wyL f w H0 M s) m) r (z + 1) (by omega)
      rw [sN] at hm1
      obtain ⟨V1, C1, K1, e1⟩ := cskip (n := n) (i := i) (l := l) C I Q J hH0 hM hNN hst hp hN hl (z := z) (by omega) (by omega)
      obtain ⟨V2, C2, K2, e2⟩ := ih (z + 1) (l - Wr S w M t (wyL f w H0 M s) m z) V1 C1 (by omega) (by omega) (by omega) (by rw [sN]; omega)
      exact ⟨V2, C2, KF_trans K1 K2, fun kk => by rw [e1 kk]; exact e2 kk⟩
/-- there is none -/
theorem cnone (hH0 : H0 < 40) (hM : M ≤ 40) (hNN : NN ≤ 21) (hst : m / 2 < NN) (hp : p + 1 + m = N) (hN : N ≤ 40) (I : HI S f H0 t) (Q : SPx f w H0 M s) (J : WI2 S w M) : ∀ (n z l : Nat) (V : Int → Int → Int), CSt sh S D w M NN V f H0 → (z : Int) ≤ S 7 → (S 7).toNat - z < n → l < 2147483648 → sN (Wr S w M t (wyL f w H0 M s) m) (S 7).toNat ≤ l + sN (Wr S w M t (wyL f w H0 M s) m) z → ∃ V' l', CSt sh S D w M NN V' f H0 ∧ KF V V' ∧ ∀ kk, Ct_roadOf_L42 kk n 84 2 N i l t p (-1) z (sh, V) = kk 84 2 N i l' t p (-1) (sh, V') := by
  intro n
  induction n with
  | zero => intro z _ _ _ _ h; omega
  | succ n ih =>
    intro z l V C hz hn hl el
    have X := C.1
    by_cases q : (z : Int) < S 7
    · have hm1 := sN_mono (W := Wr S w M t (wyL f w H0 M s) m) (S 7).toNat (z + 1) (by omega)
      rw [sN] at hm1
      obtain ⟨V1, C1, K1, e1⟩ := cskip (n := n) (i := i) (l := l) C I Q J hH0 hM hNN hst hp hN hl (z := z) q (by omega)
      obtain ⟨V2, l', C2, K2, e2⟩ := ih (z + 1) (l - Wr S w M t (wyL f w H0 M s) m z) V1 C1 (by omega) (by omega) (by omega) (by rw [sN]; omega)
      exact ⟨V2, l', C2, KF_trans K1 K2, fun kk => by rw [e1 kk]; exact e2 kk⟩
    · refine ⟨V, l, C, KF_refl, fun kk => ?_⟩
      rw [Ct_roadOf_L42, b20 X, b37 X, if_neg q]
end JNY1
