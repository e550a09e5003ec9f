/-! PURE: kingdom; the reference's tokens -/
section KG2
variable {sh : List (Nat × Nat)} {W W' W1 : Int → Int → Int} {S : Int → Int} {τ : Nat → Int} {N p a e k n m : Nat}
def MRd (W : Int → Int → Int) (τ : Nat → Int) (N : Nat) : Prop := PM W ∧ N ≤ 700 ∧ W 101 8 = N ∧ ∀ k : Nat, k < N → W 104 k = τ k % 256 ∧ -128 ≤ τ k ∧ τ k < 128
def MFd (j : Int) : Prop := 6 ≤ j ∧ j ≤ 12 ∧ j ≠ 8
def KN (W W' : Int → Int → Int) : Prop := ∀ a j, ¬ (a = 101 ∧ MFd j) → W' a j = W a j
theorem KN_refl : KN W W := fun _ _ _ => rfl
theorem KN_trans (h : KN W W') (h' : KN W' W1) : KN W W1 := fun a j q => (h' a j q).trans (h a j q)
theorem KN_up {j x : Int} (h : KN W W') (q : MFd j) : KN W (upV W' 101 j x) := fun b i z => by
  by_cases e : b = 101
  · subst e
    by_cases e2 : i = j
    · subst e2; exact absurd ⟨rfl, q⟩ z
    · rw [up_col e2]; exact h _ _ z
  · rw [up_row e]; exact h _ _ z
theorem KN_FM (h : KN W W') : FM W W' := fun a j q => h a j (fun z => q (by unfold MSc; unfold MFd at z; omega))
theorem KN_MRd (h : KN W W') (C : MRd W τ N) : MRd W' τ N := ⟨PM_fm C.1 (KN_FM h), C.2.1, by rw [h _ _ (by unfold MFd; omega)]; exact C.2.2.1, fun k hk => by rw [h _ _ (by omega)]; exact C.2.2.2 k hk⟩
/-- what stands at k -/
theorem see_ok (H : Sh sh) (C : MRd W τ N) : M_see 101 (k : Int) (sh, setR W 102 S) = some (if k < N then τ k % 256 else -1, (sh, setR W 102 S)) := by
  have c2 := C.2.1
  unfold M_see
  rw [bg101 H, C.2.2.1]
  by_cases q : k < N
  · rw [if_pos (by omega), if_pos q, bg101 H, q_101_3 C.1, ml104 H (by omega) (by omega), (C.2.2.2 k q).1]
  · rw [if_neg (by omega), if_neg q]
theorem small_q {x : Int} {μ : Mem} : M_isSmall x μ = some (if 97 ≤ x ∧ x ≤ 122 then 1 else 0, μ) := by
  unfold M_isSmall
  by_cases h : x < 97
  · rw [if_pos h, if_neg (by omega)]
  · rw [if_neg h]
    by_cases h2 : 122 < x
    · rw [if_pos h2, if_neg (by omega)]
    · rw [if_neg h2, if_pos (by omega)]
theorem digit_q {x : Int} {μ : Mem} : M_isDigit x μ = some (if 48 ≤ x ∧ x ≤ 57 then 1 else 0, μ) := by
  unfold M_isDigit
  by_cases h : x < 48
  · rw [if_pos h, if_neg (by omega)]
  · rw [if_neg h]
    by_cases h2 : 57 < x
    · rw [if_pos h2, if_neg (by omega)]
    · rw [if_neg h2, if_pos (by omega)]
theorem see_l (C : MRd W τ N) : (97 ≤ (if k < N then τ k % 256 else -1) ∧ (if k < N then τ k % 256 else -1) ≤ 122) ↔ k < N ∧ ltr τ k = true := by
  unfold ltr
  by_cases q : k < N
  · have := C.2.2.2 k q
    rw [if_pos q]; simp; omega
  · rw [if_neg q]; constructor
    · intro h; omega
    · intro h; exact absurd h.1 q
theorem see_d (C : MRd W τ N) : (48 ≤ (if k < N then τ k % 256 else -1) ∧ (if k < N then τ k % 256 else -1) ≤ 57) ↔ k < N ∧ dgt τ k = true := by
  unfold dgt
  by_cases q : k < N
  · have := C.2.2.2 k q
    rw [if_pos q]; simp; omega
  · rw [if_neg q]; constructor
    · intro h; omega
    · intro h; exact absurd h.1 q
theorem see_b (C : MRd W τ N) : ((if k < N then τ k % 256 else -1) = 10 ∨ (if k < N then τ k % 256 else -1) = 32) ↔ k < N ∧ blnk τ k = true := by
  unfold blnk
  by_cases q : k < N
  · have := C.2.2.2 k q
    rw [if_pos q]; simp; omega
  · rw [if_neg q]; constructor
    · intro h; omega
    · intro h; exact absurd h.1 q
theorem nx_8 (H : Sh sh) {kk : Int → Mem → Option (Int × Mem)} : ∀ (n p : Nat) (W : Int → Int → Int), MRd W τ N → W 101 6 = p → p ≤ N → N - p < n → M_next_L8 kk n 101 (sh, setR W 102 S) = kk 101 (sh, setR (upV W 101 6 (skp N (blnk τ) p : Nat)) 102 S) := by
  intro n
  induction n with
  | zero => intro p _ _ _ _ h; omega
  | succ n ih =>
    intro p W C h6 hp hn
    have c2 := C.2.1
    have hb := see_b (k := p) C
    rw [M_next_L8, bg101 H, h6, bi101 H, see_ok H C, bd2_mk]
    by_cases q : p < N ∧ blnk τ p = true
    · have C' : MRd (upV W 101 6 ((p + 1 : Nat) : Int)) τ N := KN_MRd (KN_up KN_refl (by unfold MFd; omega)) C
      have fin : M_next_J34 (fun u0 μ => M_next_L8 kk n u0 μ) 101 (sh, setR W 102 S) = kk 101 (sh, setR (upV W 101 6 (skp N (blnk τ) p : Nat)) 102 S) := by
        unfold M_next_J34
        rw [bg101 H, h6, bp101 H, w32_id (by omega) (by omega), show (p : Int) + 1 = ((p + 1 : Nat) : Int) by omega]
        show M_next_L8 kk n 101 _ = _
        rw [ih (p + 1) _ C' up_eq (by omega) (by omega), up_up, skp_on q.1 q.2]
      by_cases z : (if p < N then τ p % 256 else -1) = 10
      · rw [if_pos z]; exact fin
      · rw [if_neg z, bg101 H, h6, bi101 H, see_ok H C, bd2_mk, if_pos]
        · exact fin
        · rcases hb.mpr q with w | w
          · exact absurd w z
          · exact w
    · rw [if_neg (fun z => q (hb.mp (Or.inl z))), bg101 H, h6, bi101 H, see_ok H C, bd2_mk, if_neg (fun z => q (hb.mp (Or.inr z))), skp_no q, up_own h6]
theorem nx_89 (H : Sh sh) {kk : Int → Mem → Option (Int × Mem)} : ∀ (n p : Nat) (W : Int → Int → Int), MRd W τ N → W 101 7 = p → p ≤ N → N - p < n → M_next_L89 kk n 101 (sh, setR W 102 S) = kk 101 (sh, setR (upV W 101 7 (skp N (ltr τ) p : Nat)) 102 S) := by
  intro n
  induction n with
  | zero => intro p _ _ _ _ h; omega
  | succ n ih =>
    intro p W C h6 hp hn
    have c2 := C.2.1
    have hb := see_l (k := p) C
    rw [M_next_L89, bg101 H, h6, bi101 H, see_ok H C, bd2_mk, small_q, bd2_mk]
    by_cases q : p < N ∧ ltr τ p = true
    · have C' : MRd (upV W 101 7 ((p + 1 : Nat) : Int)) τ N := KN_MRd (KN_up KN_refl (by unfold MFd; omega)) C
      rw [if_pos (hb.mpr q), if_neg (by decide), bg101 H, h6, bp101 H, w32_id (by omega) (by omega), show (p : Int) + 1 = ((p + 1 : Nat) : Int) by omega, ih (p + 1) _ C' up_eq (by omega) (by omega), up_up, skp_on q.1 q.2]
    · rw [if_neg (fun z => q (hb.mp z)), if_pos rfl, skp_no q, up_own h6]
theorem nx_146 (H : Sh sh) {kk : Int → Mem → Option (Int × Mem)} : ∀ (n p : Nat) (W : Int → Int → Int), MRd W τ N → W 101 6 = a → W 101 7 = p → a ≤ p → W 101 10 = cv τ a (min (p - a) 3) → p ≤ N → N - p < n → ∃ W', KN W W' ∧ W' 101 6 = a ∧ W' 101 7 = (skp N (dgt τ) p : Nat) ∧ W' 101 10 = cv τ a (min (skp N (dgt τ) p - a) 3) ∧ W' 101 11 = W 101 11 ∧ W' 101 12 = W 101 12 ∧ M_next_L146 kk n 101 (sh, setR W 102 S) = kk 101 (sh, setR W' 102 S) := by
  intro n
  induction n with
  | zero => intro p _ _ _ _ _ _ _ h; omega
  | succ n ih =>
    intro p W C h6 h7 ha h10 hp hn
    have c2 := C.2.1
    have hb := see_d (k := p) C
    rw [M_next_L146, bg101 H, h7, bi101 H, see_ok H C, bd2_mk, digit_q, bd2_mk]
    by_cases q : p < N ∧ dgt τ p = true
    · have hd := C.2.2.2 p q.1
      have hq : 48 ≤ τ p ∧ τ p ≤ 57 := by have := q.2; unfold dgt at this; simpa using this
      rw [if_pos (hb.mpr q), if_neg (by decide), bg101 H, h7, bg101 H, h6, w32_id (x := (p : Int) - a) (by omega) (by omega)]
      obtain ⟨W1, F1, w6, w7, w10, w11, w12, e1⟩ : ∃ W1, KN W W1 ∧ W1 101 6 = a ∧ W1 101 7 = p ∧ W1 101 10 = cv τ a (min (p + 1 - a) 3) ∧ W1 101 11 = W 101 11 ∧ W1 101 12 = W 101 12 ∧ ∀ F : Mem → Option (Int × Mem), bd (if ((p : Int) - a) < 3 then
            bd (getf 12 10 (sh, setR W 102 S) 101) fun x9 =>
            bd (getf 12 7 (sh, setR W 102 S) 101) fun x10 =>
            bd (isk 12 (sh, setR W 102 S) 101) fun _ =>
            bd2 (M_see 101 x10 (sh, setR W 102 S)) fun x11 μ12 =>
            bd (putf 12 10 μ12 101 (w32 ((w32 ((w32 (10 * x9)) + x11)) - 48))) fun μ13 =>
            some μ13
          else
            some ((sh, setR W 102 S) : Mem)) F = F (sh, setR W1 102 S) := by
        by_cases l : p - a < 3
        · refine ⟨upV W 101 10 (cv τ a (p - a + 1)), KN_up KN_refl (by unfold MFd; omega), by rw [up_col (by decide)]; exact h6, by rw [up_col (by decide)]; exact h7, by rw [up_eq, show min (p + 1 - a) 3 = p - a + 1 by omega], by rw [up_col (by decide)], by rw [up_col (by decide)], fun F => ?_⟩
          rw [if_pos (by omega), bg101 H, h10, show min (p - a) 3 = p - a by omega, bg101 H, h7, bi101 H, see_ok H C, bd2_mk, if_pos q.1, bp101 H, show τ p % 256 = τ p by omega, cv, show a + (p - a) = p by omega]
          rfl
        · refine ⟨W, KN_refl, h6, h7, by rw [h10, show min (p - a) 3 = min (p + 1 - a) 3 by omega], rfl, rfl, fun F => ?_⟩
          rw [if_neg (by omega)]; rfl
      rw [e1, bg101 H, w7, bp101 H, w32_id (by omega) (by omega), show (p : Int) + 1 = ((p + 1 : Nat) : Int) by omega]
      have F2 : KN W (upV W1 101 7 ((p + 1 : Nat) : Int)) := KN_up F1 (by unfold MFd; omega)
      obtain ⟨W', f0, f1, f2, f3, f4, f5, f6⟩ := ih (p + 1) _ (KN_MRd F2 C) (by rw [up_col (by decide)]; exact w6) up_eq (by omega) (by rw [up_col (by decide)]; exact w10) (by omega) (by omega)
      exact ⟨W', KN_trans F2 f0, f1, by rw [f2, skp_on q.1 q.2], by rw [f3, skp_on q.1 q.2], by rw [f4, up_col (by decide)]; exact w11, by rw [f5, up_col (by decide)]; exact w12, f6⟩
    · rw [if_neg (fun z => q (hb.mp z)), if_pos rfl, skp_no q]
      exact ⟨W, KN_refl, h6, h7, h10, rfl, rfl, rfl⟩
/-- where word m stands among the keys -/
def stt (m : Nat) : Nat := [1, 7, 12, 17, 22, 29, 32, 37, 42, 47].getD m 0
set_option maxRecDepth 100000 in
theorem key_1 : ∀ m, m < 9 → stt (m + 1) = stt m + lnT m + 1 ∧ stt m + lnT m < 47 ∧ chT 9 ((stt m + lnT m : Nat) : Int) = 32 ∧ ∀ j, j < lnT m → chT 9 ((stt m + j : Nat) : Int) = chT m j ∧ chT m j ≠ 32 ∧ 97 ≤ chT m j ∧ chT m j ≤ 122 := by decide +kernel
theorem chr9 (h : k < 47) {μ : Mem} : J_chr (-2 - ((9 : Nat) : Int)) (k : Int) μ = some (chT 9 (k : Int), μ) := by
  unfold J_chr
  rw [if_pos ⟨by omega, by omega, by omega, by show (k : Int) < 47; omega⟩]; rfl
theorem ka_15 (H : Sh sh) (C : MRd W τ N) (hm : m < 9) (h6 : W 101 6 = a) (h7 : W 101 7 = e) (he : e ≤ N) {kk : Int → Int → Int → Int → Mem → Option (Int × Mem)} : ∀ (n i : Nat), i ≤ lnT m → a + i ≤ e → lnT m - i < n → (∀ j, j < i → τ (a + j) = chT m j) → ∃ i', i' ≤ lnT m ∧ a + i' ≤ e ∧ (∀ j, j < i' → τ (a + j) = chT m j) ∧ (i' = lnT m ∨ a + i' = e ∨ τ (a + i') ≠ chT m i') ∧ M_keyAt_L15 kk n 101 m (stt m) i (sh, setR W 102 S) = kk 101 m (stt m) i' (sh, setR W 102 S) := by
  have c2 := C.2.1
  obtain ⟨k1, k2, k3, k4⟩ := key_1 m hm
  intro n
  induction n with
  | zero => intro i _ _ h; omega
  | succ n ih =>
    intro i hi hl hn A
    rw [M_keyAt_L15, w32_id (x := (stt m : Int) + i) (by omega) (by omega), show (stt m : Int) + i = ((stt m + i : Nat) : Int) by omega, chr9 (by omega), bd2_mk]
    by_cases q : i < lnT m
    · obtain ⟨b1, b2, b3, b4⟩ := k4 i q
      rw [b1, if_neg b2, bg101 H, h6, bg101 H, h7, w32_id (x := (a : Int) + i) (by omega) (by omega)]
      by_cases q2 : a + i < e
      · have hd := C.2.2.2 (a + i) (by omega)
        rw [if_pos (by omega), bg101 H, q_101_3 C.1, bg101 H, h6, w32_id (x := (a : Int) + i) (by omega) (by omega), show (a : Int) + i = ((a + i : Nat) : Int) by omega, ml104 H (by omega) (by omega), hd.1, chr9 (by omega), bd2_mk, b1]
        by_cases q3 : τ (a + i) = chT m i
        · rw [if_pos (by omega), w32_id (by omega) (by omega), show (i : Int) + 1 = ((i + 1 : Nat) : Int) by omega]
          exact ih (i + 1) (by omega) (by omega) (by omega) (fun j hj => by
            by_cases z : j = i
            · rw [z]; exact q3
            · exact A j (by omega))
        · rw [if_neg (by omega)]
          exact ⟨i, hi, hl, A, Or.inr (Or.inr q3), rfl⟩
      · rw [if_neg (by omega)]
        exact ⟨i, hi, hl, A, Or.inr (Or.inl (by omega)), rfl⟩
    · have ei : i = lnT m := by omega
      rw [ei, k3, if_pos rfl]
      exact ⟨lnT m, Nat.le_refl _, by omega, by rw [ei] at A; exact A, Or.inl rfl, rfl⟩
theorem ka_97 (hm : m < 9) {kk : Int → Int → Int → Mem → Option (Int × Mem)} {μ : Mem} : ∀ (n i : Nat), i ≤ lnT m → lnT m - i < n → M_keyAt_L97 kk n 101 m ((stt m + i : Nat) : Int) μ = kk 101 m ((stt m + lnT m : Nat) : Int) μ := by
  obtain ⟨k1, k2, k3, k4⟩ := key_1 m hm
  intro n
  induction n with
  | zero => intro i _ h; omega
  | succ n ih =>
    intro i hi hn
    rw [M_keyAt_L97, chr9 (by omega), bd2_mk]
    by_cases q : i < lnT m
    · obtain ⟨b1, b2, b3, b4⟩ := k4 i q
      rw [b1, if_neg b2, w32_id (by omega) (by omega), show ((stt m + i : Nat) : Int) + 1 = ((stt m + (i + 1) : Nat) : Int) by omega]
      exact ih (i + 1) (by omega) (by omega)
    · rw [show i = lnT m by omega, k3, if_pos rfl]
theorem ka_4 (H : Sh sh) (C : MRd W τ N) (h6 : W 101 6 = a) (h7 : W 101 7 = e) (ha : a ≤ e) (he : e ≤ N) : ∀ (n k m : Nat), k + m = 9 → k < n → M_keyAt_L4 n 101 m (stt m) (sh, setR W 102 S) = some (((kyF τ a e k m : Nat) : Int), (sh, setR W 102 S)) := by
  have c2 := C.2.1
  have jl : ∀ μ : Mem, J_len (-2 - ((9 : Nat) : Int)) μ = some (47, μ) := fun μ => by
    unfold J_len; rw [if_pos (by omega)]; rfl
  intro n
  induction n with
  | zero => intro k m _ h; omega
  | succ n ih =>
    intro k m hk hn
    rw [M_keyAt_L4, jl, bd2_mk]
    match k, hk with
    | 0, hk =>
      rw [show m = 9 by omega, if_neg (by decide), kyF]; rfl
    | k + 1, hk =>
      have hm : m < 9 := by omega
      obtain ⟨k1, k2, k3, k4⟩ := key_1 m hm
      obtain ⟨i', i1, i2, i3, i4, i5⟩ := ka_15 (kk := fun x3 x4 x5 x6 μ7 => M_keyAt_J69 (fun u0 u1 u2 μ => M_keyAt_L4 n u0 u1 u2 μ) x3 x4 x5 x6 μ7) H C hm h6 h7 he FU 0 (by omega) (by omega) (by show _ < 1000000; omega) (fun j hj => by omega)
      rw [show ((0 : Nat) : Int) = 0 from rfl] at i5
      rw [if_pos (by omega), i5]
      have next : M_keyAt_L97 (fun x9 x10 x11 μ12 => (fun u0 u1 u2 μ => M_keyAt_L4 n u0 u1 u2 μ) x9 (w32 (x10 + 1)) (w32 (x11 + 1)) μ12) FU 101 m (stt m) (sh, setR W 102 S) = some (((kyF τ a e k (m + 1) : Nat) : Int), (sh, setR W 102 S)) := by
        have := ka_97 (kk := fun x9 x10 x11 μ12 => (fun u0 u1 u2 μ => M_keyAt_L4 n u0 u1 u2 μ) x9 (w32 (x10 + 1)) (w32 (x11 + 1)) μ12) (μ := (sh, setR W 102 S)) hm FU 0 (by omega) (by show _ < 1000000; omega)
        rw [Nat.add_zero] at this
        rw [this]
        show M_keyAt_L4 n 101 (w32 ((m : Int) + 1)) (w32 (((stt m + lnT m : Nat) : Int) + 1)) _ = _
        rw [w32_id (by omega) (by omega), w32_id (by omega) (by omega), show (m : Int) + 1 = ((m + 1 : Nat) : Int) by omega, show ((stt m + lnT m : Nat) : Int) + 1 = ((stt (m + 1) : Nat) : Int) by rw [k1]; omega]
        exact ih k (m + 1) (by omega) (by omega)
      unfold M_keyAt_J69
      rw [w32_id (x := (stt m : Int) + i') (by omega) (by omega), show (stt m : Int) + i' = ((stt m + i' : Nat) : Int) by omega, chr9 (by omega), bd2_mk]
      by_cases q : i' = lnT m
      · rw [q, k3, if_pos rfl, bg101 H, h6, bg101 H, h7, w32_id (by omega) (by omega)]
        by_cases q2 : a + lnT m = e
        · rw [if_pos (by omega), kyF, if_pos (wB_iff.mpr ⟨by omega, fun j hj => i3 j (by omega)⟩)]
        · rw [if_neg (by omega), next, kyF, if_neg (fun z => q2 (by have := (wB_iff.mp z).1; omega))]
      · obtain ⟨b1, b2, b3, b4⟩ := k4 i' (by omega)
        rw [b1, if_neg b2, next, kyF, if_neg (fun z => by
          obtain ⟨z1, z2⟩ := wB_iff.mp z
          rcases i4 with w | w | w
          · exact q w
          · omega
          · exact w (z2 i' (by omega)))]
/-- the reference's token, read from p -/
def Nxt (W : Int → Int → Int) (τ : Nat → Int) (N p : Nat) : Prop := W 101 6 = tA τ N p ∧ W 101 7 = tE τ N p ∧ W 101 9 = tK τ N p ∧ (tK τ N p = 10 → W 101 10 = tV τ N p)
theorem next_ok (H : Sh sh) (C : MRd W τ N) (h7 : W 101 7 = p) (hp : p ≤ N) : ∃ W', KN W W' ∧ Nxt W' τ N p ∧ W' 101 11 = W 101 11 ∧ W' 101 12 = W 101 12 ∧ M_next 101 (sh, setR W 102 S) = some (0, (sh, setR W' 102 S)) := by
  have c2 := C.2.1
  obtain ⟨h1, h2⟩ := tA_le (τ := τ) hp
  obtain ⟨h3, h4, h5⟩ := tE_le (τ := τ) hp
  have F0 : KN W (upV W 101 6 (p : Int)) := KN_up KN_refl (by unfold MFd; omega)
  unfold M_next
  rw [bg101 H, h7, bp101 H, nx_8 H FU p _ (KN_MRd F0 C) up_eq hp (by show _ < 1000000; omega), up_up]
  have F1 : KN W (upV (upV W 101 6 (skp N (blnk τ) p : Nat)) 101 7 (skp N (blnk τ) p : Nat)) := KN_up (KN_up KN_refl (by unfold MFd; omega)) (by unfold MFd; omega)
  have ea : skp N (blnk τ) p = tA τ N p := rfl
  rw [ea] at F1 ⊢
  have e6 : upV (upV W 101 6 (tA τ N p : Nat)) 101 7 (tA τ N p : Nat) 101 6 = (tA τ N p : Nat) := by rw [up_col (by decide), up_eq]
  have e7 : upV (upV W 101 6 (tA τ N p : Nat)) 101 7 (tA τ N p : Nat) 101 7 = (tA τ N p : Nat) := up_eq
  have e11 : upV (upV W 101 6 (tA τ N p : Nat)) 101 7 (tA τ N p : Nat) 101 11 = W 101 11 := by rw [up_col (by decide), up_col (by decide)]
  have e12 : upV (upV W 101 6 (tA τ N p : Nat)) 101 7 (tA τ N p : Nat) 101 12 = W 101 12 := by rw [up_col (by decide), up_col (by decide)]
  rw [bg101 H, up_eq, bp101 H]
  generalize upV (upV W 101 6 (tA τ N p : Nat)) 101 7 (tA τ N p : Nat) = W1 at F1 e6 e7 e11 e12
  have C1 := KN_MRd F1 C
  have hl := see_l (k := tA τ N p) C1
  have hd := see_d (k := tA τ N p) C1
  rw [bg101 H, e6, bg101 H, C1.2.2.1]
  by_cases q : tA τ N p < N
  · rw [if_pos (by omega), bg101 H, e6, bi101 H, see_ok H C1, bd2_mk, small_q, bd2_mk]
    by_cases b : ltr τ (tA τ N p) = true
    · have ek : tK τ N p = ky τ (tA τ N p) (tE τ N p) := by unfold tK; rw [if_pos q, if_pos b]
      have ee : tE τ N p = skp N (ltr τ) (tA τ N p) := by unfold tE; rw [if_pos q, if_pos b]
      have kl := ky_le (τ := τ) (a := tA τ N p) (e := tE τ N p)
      have F2 : KN W1 (upV W1 101 7 (tE τ N p : Nat)) := KN_up KN_refl (by unfold MFd; omega)
      have hk := ka_4 (S := S) H (KN_MRd F2 C1) (by rw [up_col (by decide)]; exact e6) up_eq h3 h4 FU 9 0 rfl (by decide)
      rw [if_pos (hl.mpr ⟨q, b⟩), if_neg (by decide), nx_89 H FU (tA τ N p) _ C1 e7 h2 (by show _ < 1000000; omega), ← ee, bi101 H]
      unfold M_keyAt
      rw [show (1 : Int) = ((stt 0 : Nat) : Int) from rfl, show (0 : Int) = ((0 : Nat) : Int) from rfl, hk, bd2_mk, bp101 H]
      refine ⟨_, KN_trans F1 (KN_up F2 (by unfold MFd; omega)), ⟨by rw [up_col (by decide), up_col (by decide)]; exact e6, by rw [up_col (by decide), up_eq], by rw [up_eq, ek]; rfl, fun z => by omega⟩, by rw [up_col (by decide), up_col (by decide)]; exact e11, by rw [up_col (by decide), up_col (by decide)]; exact e12, rfl⟩
    · rw [if_neg (fun z => b (hl.mp z).2), if_pos rfl, bg101 H, e6, bi101 H, see_ok H C1, bd2_mk, digit_q, bd2_mk]
      by_cases d : dgt τ (tA τ N p) = true
      · have ek : tK τ N p = if 3 < tE τ N p - tA τ N p then 13 else 10 := by unfold tK; rw [if_pos q, if_neg b, if_pos d]
        have ee : tE τ N p = skp N (dgt τ) (tA τ N p) := by unfold tE; rw [if_pos q, if_neg b, if_pos d]
        have F2 : KN W1 (upV W1 101 10 0) := KN_up KN_refl (by unfold MFd; omega)
        rw [if_pos (hd.mpr ⟨q, d⟩), if_neg (by decide), bp101 H]
        obtain ⟨W2, f0, f1, f2, f3, f4, f5, f6⟩ := nx_146 (S := S) (a := tA τ N p) (kk := fun x27 μ28 =>
                bd (getf 12 7 μ28 x27) fun x29 =>
                bd (getf 12 6 μ28 x27) fun x30 =>
                bd (
                    if 3 < (w32 (x29 - x30)) then
                      some 13
                    else
                      some 10) fun (y31 : Int) =>
                bd (putf 12 9 μ28 x27 y31) fun μ32 =>
                some (0, μ32)) H FU (tA τ N p) _ (KN_MRd F2 C1) (by rw [up_col (by decide)]; exact e6) (by rw [up_col (by decide)]; exact e7) (Nat.le_refl _) (by rw [up_eq, Nat.sub_self]; rfl) h2 (by show _ < 1000000; omega)
        rw [← ee] at f2 f3
        rw [up_col (by decide), e11] at f4
        rw [up_col (by decide), e12] at f5
        rw [f6, bg101 H, f2, bg101 H, f1, w32_id (by omega) (by omega)]
        have F3 := KN_trans F1 (KN_trans F2 f0)
        by_cases l : 3 < tE τ N p - tA τ N p
        · rw [if_pos l] at ek
          rw [if_pos (by omega), bd_mk, bp101 H]
          exact ⟨_, KN_up F3 (by unfold MFd; omega), ⟨by rw [up_col (by decide)]; exact f1, by rw [up_col (by decide)]; exact f2, by rw [up_eq, ek]; rfl, fun z => by omega⟩, by rw [up_col (by decide)]; exact f4, by rw [up_col (by decide)]; exact f5, rfl⟩
        · rw [if_neg l] at ek
          rw [if_neg (by omega), bd_mk, bp101 H]
          exact ⟨_, KN_up F3 (by unfold MFd; omega), ⟨by rw [up_col (by decide)]; exact f1, by rw [up_col (by decide)]; exact f2, by rw [up_eq, ek]; rfl, fun _ => by rw [up_col (by decide), f3, show min (tE τ N p - tA τ N p) 3 = tE τ N p - tA τ N p by omega]; rfl⟩, by rw [up_col (by decide)]; exact f4, by rw [up_col (by decide)]; exact f5, rfl⟩
      · have ee : tE τ N p = tA τ N p + 1 := by unfold tE; rw [if_pos q, if_neg b, if_neg d]
        have ek : tK τ N p = if τ (tA τ N p) = 59 then 11 else 13 := by unfold tK; rw [if_pos q, if_neg b, if_neg d]
        have hv := C1.2.2.2 _ q
        have F2 : KN W1 (upV W1 101 7 (tE τ N p : Nat)) := KN_up KN_refl (by unfold MFd; omega)
        rw [if_neg (fun z => d (hd.mp z).2), if_pos rfl, bg101 H, e7, bp101 H, w32_id (by omega) (by omega), show (tA τ N p : Int) + 1 = ((tE τ N p : Nat) : Int) by omega, bg101 H, up_col (by decide), e6, bi101 H, see_ok H (KN_MRd F2 C1), bd2_mk, if_pos q]
        by_cases s : τ (tA τ N p) = 59
        · rw [if_pos s] at ek
          rw [if_pos (by omega), bd_mk, bp101 H]
          exact ⟨_, KN_trans F1 (KN_up F2 (by unfold MFd; omega)), ⟨by rw [up_col (by decide), up_col (by decide)]; exact e6, by rw [up_col (by decide), up_eq], by rw [up_eq, ek]; rfl, fun z => by omega⟩, by rw [up_col (by decide), up_col (by decide)]; exact e11, by rw [up_col (by decide), up_col (by decide)]; exact e12, rfl⟩
        · rw [if_neg s] at ek
          rw [if_neg (by omega), bd_mk, bp101 H]
          exact ⟨_, KN_trans F1 (KN_up F2 (by unfold MFd; omega)), ⟨by rw [up_col (by decide), up_col (by decide)]; exact e6, by rw [up_col (by decide), up_eq], by rw [up_eq, ek]; rfl, fun z => by omega⟩, by rw [up_col (by decide), up_col (by decide)]; exact e11, by rw [up_col (by decide), up_col (by decide)]; exact e12, rfl⟩
  · have ee : tE τ N p = tA τ N p := by unfold tE; rw [if_neg q]
    have ek : tK τ N p = 12 := by unfold tK; rw [if_neg q]
    rw [if_neg (by omega), bp101 H]
    exact ⟨_, KN_up F1 (by unfold MFd; omega), ⟨by rw [up_col (by decide)]; exact e6, by rw [up_col (by decide), ee]; exact e7, by rw [up_eq, ek]; rfl, fun z => by omega⟩, by rw [up_col (by decide)]; exact e11, by rw [up_col (by decide)]; exact e12, rfl⟩
end KG2
