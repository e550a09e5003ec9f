/-! PURE: kingdom; tokens, and the class's -/
section KG1
variable {sh : List (Nat × Nat)} {V V' V1 : Int → Int → Int} {τ : Nat → Int} {N p a e k n : Nat} {f : Nat → Bool}
/-- the first place from p on that has not f -/
def skpF (f : Nat → Bool) : Nat → Nat → Nat
  | 0, p => p
  | k + 1, p => if f p = true then skpF f k (p + 1) else p
def skp (N : Nat) (f : Nat → Bool) (p : Nat) : Nat := skpF f (N - p) p
theorem skp_on (h : p < N) (hf : f p = true) : skp N f p = skp N f (p + 1) := by
  unfold skp; rw [show N - p = (N - (p + 1)) + 1 by omega, skpF, if_pos hf]
theorem skp_no (h : ¬ (p < N ∧ f p = true)) : skp N f p = p := by
  unfold skp
  by_cases q : p < N
  · rw [show N - p = (N - (p + 1)) + 1 by omega, skpF, if_neg (fun z => h ⟨q, z⟩)]
  · rw [show N - p = 0 by omega, skpF]
theorem skp_ge : ∀ (m p : Nat), N - p < m → p ≤ skp N f p ∧ (p ≤ N → skp N f p ≤ N) := by
  intro m
  induction m with
  | zero => intro p h; omega
  | succ m ih =>
    intro p h
    by_cases q : p < N ∧ f p = true
    · rw [skp_on q.1 q.2]
      have := ih (p + 1) (by omega)
      exact ⟨by omega, fun _ => this.2 (by omega)⟩
    · rw [skp_no q]; exact ⟨Nat.le_refl _, fun h => h⟩
theorem skp_le (h : p ≤ N) : p ≤ skp N f p ∧ skp N f p ≤ N := ⟨(skp_ge _ p (Nat.lt_succ_self _)).1, (skp_ge _ p (Nat.lt_succ_self _)).2 h⟩
theorem skp_gt (h : p < N) (hf : f p = true) : p < skp N f p := by
  rw [skp_on h hf]
  have := (skp_le (f := f) (show p + 1 ≤ N by omega)).1
  omega
def blnk (τ : Nat → Int) (k : Nat) : Bool := decide (τ k = 10 ∨ τ k = 32)
def ltr (τ : Nat → Int) (k : Nat) : Bool := decide (97 ≤ τ k ∧ τ k ≤ 122)
def dgt (τ : Nat → Int) (k : Nat) : Bool := decide (48 ≤ τ k ∧ τ k ≤ 57)
/-- is it word n -/
abbrev lnT (n : Nat) : Nat := lenT.getD n 0
def wB (τ : Nat → Int) (a e n : Nat) : Bool := decide (e - a = lnT n) && (List.range (lnT n)).all (fun j => decide (τ (a + j) = chT n j))
theorem wB_iff : wB τ a e n = true ↔ e - a = lnT n ∧ ∀ j, j < lnT n → τ (a + j) = chT n j := by
  unfold wB; simp
def kyF (τ : Nat → Int) (a e : Nat) : Nat → Nat → Nat
  | 0, _ => 9
  | k + 1, n => if wB τ a e n = true then n else kyF τ a e k (n + 1)
def ky (τ : Nat → Int) (a e : Nat) : Nat := kyF τ a e 9 0
theorem kyF_le : ∀ k n, k + n = 9 → kyF τ a e k n ≤ 9 := by
  intro k
  induction k with
  | zero => intro n _; exact Nat.le_refl _
  | succ k ih =>
    intro n h
    rw [kyF]; split
    · omega
    · exact ih (n + 1) (by omega)
theorem ky_le : ky τ a e ≤ 9 := kyF_le 9 0 rfl
set_option maxRecDepth 100000 in
theorem wd_ne : ∀ m, m < 9 → ∀ n, n < 9 → lnT m = lnT n → (∀ j, j < lnT m → chT m j = chT n j) → m = n := by decide +kernel
theorem wB_one {m : Nat} (hm : m < 9) (hn : n < 9) (h : wB τ a e m = true) (h' : wB τ a e n = true) : m = n := by
  rw [wB_iff] at h h'
  have el : lnT m = lnT n := by omega
  exact wd_ne m hm n hn el (fun j hj => by rw [← h.2 j hj, ← h'.2 j (by omega)])
theorem kyF_at : ∀ k n, k + n = 9 → (kyF τ a e k n < 9 → wB τ a e (kyF τ a e k n) = true) ∧ (kyF τ a e k n = 9 → ∀ m, n ≤ m → m < 9 → ¬ wB τ a e m = true) := by
  intro k
  induction k with
  | zero => intro n h; exact ⟨fun q => by rw [kyF] at q; omega, fun _ m h1 h2 => by omega⟩
  | succ k ih =>
    intro n h
    rw [kyF]
    by_cases q : wB τ a e n = true
    · rw [if_pos q]; exact ⟨fun _ => q, fun z => by omega⟩
    · rw [if_neg q]
      obtain ⟨i1, i2⟩ := ih (n + 1) (by omega)
      refine ⟨i1, fun z m h1 h2 => ?_⟩
      by_cases e : m = n
      · rw [e]; exact q
      · exact i2 z m (by omega) h2
theorem ky_iff (hn : n < 9) : ky τ a e = n ↔ wB τ a e n = true := by
  obtain ⟨h1, h2⟩ := kyF_at (τ := τ) (a := a) (e := e) 9 0 rfl
  constructor
  · intro h
    have := h1 (by unfold ky at h; omega)
    unfold ky at h; rw [h] at this; exact this
  · intro h
    have hl := ky_le (τ := τ) (a := a) (e := e)
    by_cases q : ky τ a e = 9
    · exact absurd h (h2 q n (by omega) hn)
    · have := h1 (by unfold ky at q hl; omega)
      exact wB_one (by omega) hn this h
/-- a token's place, end, kind and number -/
def tA (τ : Nat → Int) (N p : Nat) : Nat := skp N (blnk τ) p
def tE (τ : Nat → Int) (N p : Nat) : Nat := if tA τ N p < N then (if ltr τ (tA τ N p) = true then skp N (ltr τ) (tA τ N p) else if dgt τ (tA τ N p) = true then skp N (dgt τ) (tA τ N p) else tA τ N p + 1) else tA τ N p
def tK (τ : Nat → Int) (N p : Nat) : Nat := if tA τ N p < N then (if ltr τ (tA τ N p) = true then ky τ (tA τ N p) (tE τ N p) else if dgt τ (tA τ N p) = true then (if 3 < tE τ N p - tA τ N p then 13 else 10) else if τ (tA τ N p) = 59 then 11 else 13) else 12
/-- the number after k digits -/
def cv (τ : Nat → Int) (a : Nat) : Nat → Int
  | 0 => 0
  | k + 1 => w32 (w32 (w32 (10 * cv τ a k) + τ (a + k)) - 48)
def tV (τ : Nat → Int) (N p : Nat) : Int := cv τ (tA τ N p) (tE τ N p - tA τ N p)
theorem tA_le (h : p ≤ N) : p ≤ tA τ N p ∧ tA τ N p ≤ N := skp_le h
theorem tE_le (h : p ≤ N) : tA τ N p ≤ tE τ N p ∧ tE τ N p ≤ N ∧ (tK τ N p ≠ 12 → tA τ N p < tE τ N p ∧ tA τ N p < N) := by
  obtain ⟨h1, h2⟩ := tA_le (τ := τ) h
  unfold tK tE
  by_cases q : tA τ N p < N
  · simp only [if_pos q]
    by_cases q2 : ltr τ (tA τ N p) = true
    · simp only [if_pos q2]
      have := skp_le (f := ltr τ) h2
      have := skp_gt q q2
      exact ⟨by omega, by omega, fun _ => ⟨by omega, q⟩⟩
    · simp only [if_neg q2]
      by_cases q3 : dgt τ (tA τ N p) = true
      · simp only [if_pos q3]
        have := skp_le (f := dgt τ) h2
        have := skp_gt q q3
        exact ⟨by omega, by omega, fun _ => ⟨by omega, q⟩⟩
      · simp only [if_neg q3]
        exact ⟨by omega, by omega, fun _ => ⟨by omega, q⟩⟩
  · simp only [if_neg q]
    exact ⟨by omega, by omega, fun z => absurd rfl z⟩
/-- the class's reader over the tape -/
def CRd (V : Int → Int → Int) (τ : Nat → Int) (N : Nat) : Prop := N ≤ 700 ∧ V 37 0 = 38 ∧ V 37 3 = 1 ∧ V 37 4 = N ∧ (V 38 8 = 39 ∧ V 38 9 = 40 ∧ V 38 10 = 41 ∧ V 38 11 = 42 ∧ V 38 12 = 43) ∧ ∀ k : Nat, k < N → V 1 k = τ k ∧ -128 ≤ τ k ∧ τ k < 128
def RFd (j : Int) : Prop := j = 1 ∨ j = 2 ∨ j = 5 ∨ j = 6 ∨ j = 7 ∨ j = 8
def FA (V V' : Int → Int → Int) : Prop := ∀ a j, ¬ (a = 37 ∧ RFd j) → V' a j = V a j
theorem FA_refl : FA V V := fun _ _ _ => rfl
theorem FA_trans (h : FA V V') (h' : FA V' V1) : FA V V1 := fun a j q => (h' a j q).trans (h a j q)
theorem FA_up {j x : Int} (h : FA V V') (q : RFd j) : FA V (upV V' 37 j x) := fun b i z => by
  by_cases e : b = 37
  · subst e
    by_cases e2 : i = j
    · subst e2; exact absurd ⟨rfl, q⟩ z
    · rw [up_col e2]; exact h _ _ z
  · rw [up_row e]; exact h _ _ z
theorem FA_CRd (h : FA V V') (C : CRd V τ N) : CRd V' τ N := by
  obtain ⟨c1, c2, c3, c4, c5, c6⟩ := C
  refine ⟨c1, by rw [h _ _ (by unfold RFd; omega)]; exact c2, by rw [h _ _ (by unfold RFd; omega)]; exact c3, by rw [h _ _ (by unfold RFd; omega)]; exact c4, by rw [h _ _ (by omega), h _ _ (by omega), h _ _ (by omega), h _ _ (by omega), h _ _ (by omega)]; exact c5, fun k hk => by rw [h _ _ (by omega)]; exact c6 k hk⟩
theorem rg37 (H : Sh sh) {j : Int} {γ : Type} {g : Int → Option γ} : bd (getf 3 j (sh, V) 37) g = g (V 37 j) := bgt (by rw [k_37 H])
theorem rp37 (H : Sh sh) {j x : Int} {γ : Type} {g : Mem → Option γ} : bd (putf 3 j (sh, V) 37 x) g = g (sh, upV V 37 j x) := bpt (by rw [k_37 H])
theorem ri37 (H : Sh sh) {γ : Type} {g : Unit → Option γ} : bd (isk 3 (sh, V) 37) g = g () := bit (by rw [k_37 H])
theorem lt1 (H : Sh sh) (C : CRd V τ N) (hk : k < N) {γ : Type} {g : Int → Option γ} : bd (lda 22 (sh, V) 1 k) g = g (τ k) := by
  have := C.1
  rw [blt (by rw [k_1 H]) (by omega) (by rw [k_1 H]; show _ < (700 : Int); omega), (C.2.2.2.2.2 k hk).1]
theorem isBlank_q {μ : Mem} : Rd_isBlank (τ k) μ = some (if blnk τ k = true then 1 else 0, μ) := by
  unfold Rd_isBlank blnk
  by_cases h : τ k = 10
  · simp [h]
  · by_cases h2 : τ k = 32
    · simp [h2]
    · simp [h, h2]
theorem isLetter_q {μ : Mem} : Rd_isLetter (τ k) μ = some (if ltr τ k = true then 1 else 0, μ) := by
  unfold Rd_isLetter ltr
  by_cases h : τ k < 97
  · rw [if_pos h, if_neg (by simp; omega)]
  · rw [if_neg h]
    by_cases h2 : 122 < τ k
    · rw [if_pos h2, if_neg (by simp; omega)]
    · rw [if_neg h2, if_pos (by simp; omega)]
theorem isDigit_q {μ : Mem} : Rd_isDigit (τ k) μ = some (if dgt τ k = true then 1 else 0, μ) := by
  unfold Rd_isDigit dgt
  by_cases h : τ k < 48
  · rw [if_pos h, if_neg (by simp; omega)]
  · rw [if_neg h]
    by_cases h2 : 57 < τ k
    · rw [if_pos h2, if_neg (by simp; omega)]
    · rw [if_neg h2, if_pos (by simp; omega)]
theorem up_own {a j x : Int} (h : V a j = x) : upV V a j x = V := by
  funext b i; unfold upV; split
  · rename_i q; rw [q.1, q.2, h]
  · rfl
/-- blanks -/
theorem adv_0 (H : Sh sh) {kk : Int → Mem → Option (Int × Mem)} : ∀ (n p : Nat) (V : Int → Int → Int), CRd V τ N → V 37 6 = p → p ≤ N → N - p < n → Rd_advance_L0 kk n 37 (sh, V) = kk 37 (sh, upV V 37 6 (skp N (blnk τ) p : Nat)) := by
  intro n
  induction n with
  | zero => intro p _ _ _ _ h; omega
  | succ n ih =>
    intro p V C h6 hp hn
    obtain ⟨c1, c2, c3, c4, c5, c6⟩ := id C
    rw [Rd_advance_L0, rg37 H, rg37 H, h6, c4]
    by_cases q : p < N
    · rw [if_pos (by omega), rg37 H, rg37 H, h6, c3, lt1 H C q, isBlank_q, bd2_mk]
      by_cases b : blnk τ p = true
      · have C' : CRd (upV V 37 6 ((p + 1 : Nat) : Int)) τ N := FA_CRd (FA_up FA_refl (by unfold RFd; omega)) C
        rw [if_pos b, if_neg (by decide), rg37 H, h6, rp37 H, w32_id (by omega) (by omega), show (p : Int) + 1 = ((p + 1 : Nat) : Int) by omega, ih (p + 1) _ C' up_eq (by omega) (by omega), up_up, skp_on q b]
      · rw [if_neg b, if_pos rfl, skp_no (fun z => b z.2), up_own h6]
    · rw [if_neg (by omega), skp_no (fun z => q z.1), up_own h6]
theorem adv_J (H : Sh sh) (C : CRd V τ N) (h6 : V 37 6 = p) (hp : p ≤ N) : Rd_advance 37 (sh, V) = Rd_advance_J39 37 (sh, upV V 37 6 (tA τ N p : Nat)) := by
  obtain ⟨c1, c2, c3, c4, c5, c6⟩ := id C
  unfold Rd_advance tA
  rw [rg37 H, rg37 H, h6, c4]
  by_cases q : p < N
  · rw [if_pos (by omega), rg37 H, rg37 H, h6, c3, lt1 H C q, isBlank_q, bd2_mk]
    by_cases b : blnk τ p = true
    · have C' : CRd (upV V 37 6 ((p + 1 : Nat) : Int)) τ N := FA_CRd (FA_up FA_refl (by unfold RFd; omega)) C
      rw [if_pos b, if_neg (by decide), rg37 H, h6, rp37 H, w32_id (by omega) (by omega), show (p : Int) + 1 = ((p + 1 : Nat) : Int) by omega, adv_0 H FU (p + 1) _ C' up_eq (by omega) (by show _ < 1000000; omega), up_up, skp_on q b]
    · rw [if_neg b, if_pos rfl, skp_no (fun z => b z.2), up_own h6]
  · rw [if_neg (by omega), skp_no (fun z => q z.1), up_own h6]
/-- letters -/
theorem rw_5 (H : Sh sh) : ∀ (n p : Nat) (V : Int → Int → Int), CRd V τ N → V 37 6 = p → p ≤ N → N - p < n → Rd_readWord_L5 n 37 (sh, V) = some (0, (sh, upV V 37 6 (skp N (ltr τ) p : Nat))) := by
  intro n
  induction n with
  | zero => intro p _ _ _ _ h; omega
  | succ n ih =>
    intro p V C h6 hp hn
    obtain ⟨c1, c2, c3, c4, c5, c6⟩ := id C
    rw [Rd_readWord_L5, rg37 H, rg37 H, h6, c4]
    by_cases q : p < N
    · rw [if_pos (by omega), rg37 H, rg37 H, h6, c3, lt1 H C q, isLetter_q, bd2_mk]
      by_cases b : ltr τ p = true
      · have C' : CRd (upV V 37 6 ((p + 1 : Nat) : Int)) τ N := FA_CRd (FA_up FA_refl (by unfold RFd; omega)) C
        rw [if_pos b, if_neg (by decide), rg37 H, h6, rp37 H, w32_id (by omega) (by omega), show (p : Int) + 1 = ((p + 1 : Nat) : Int) by omega, ih (p + 1) _ C' up_eq (by omega) (by omega), up_up, skp_on q b]
      · rw [if_neg b, if_pos rfl, skp_no (fun z => b z.2), up_own h6]
    · rw [if_neg (by omega), skp_no (fun z => q z.1), up_own h6]
/-- digits -/
theorem rn_10 (H : Sh sh) {kk : Int → Mem → Option (Int × Mem)} : ∀ (n p : Nat) (V : Int → Int → Int), CRd V τ N → V 37 6 = p → a ≤ p → V 37 8 = cv τ a (p - a) → p ≤ N → N - p < n → ∃ V', FA V V' ∧ V' 37 6 = (skp N (dgt τ) p : Nat) ∧ V' 37 8 = cv τ a (skp N (dgt τ) p - a) ∧ V' 37 5 = V 37 5 ∧ V' 37 7 = V 37 7 ∧ V' 37 1 = V 37 1 ∧ V' 37 2 = V 37 2 ∧ Rd_readNumber_L10 kk n 37 (sh, V) = kk 37 (sh, V') := by
  intro n
  induction n with
  | zero => intro p _ _ _ _ _ _ h; omega
  | succ n ih =>
    intro p V C h6 ha h8 hp hn
    obtain ⟨c1, c2, c3, c4, c5, c6⟩ := id C
    rw [Rd_readNumber_L10, rg37 H, rg37 H, h6, c4]
    by_cases q : p < N
    · rw [if_pos (by omega), rg37 H, rg37 H, h6, c3, lt1 H C q, isDigit_q, bd2_mk]
      by_cases b : dgt τ p = true
      · have F1 : FA V (upV V 37 8 (cv τ a (p + 1 - a))) := FA_up FA_refl (by unfold RFd; omega)
        have F2 : FA V (upV (upV V 37 8 (cv τ a (p + 1 - a))) 37 6 ((p + 1 : Nat) : Int)) := FA_up F1 (by unfold RFd; omega)
        have ec : w32 (w32 (w32 (10 * cv τ a (p - a)) + τ p) - 48) = cv τ a (p + 1 - a) := by
          rw [show p + 1 - a = (p - a) + 1 by omega, cv, show a + (p - a) = p by omega]
        obtain ⟨V', f0, f1, f2, f3, f4, f5, f6, f7⟩ := ih (p + 1) _ (FA_CRd F2 C) up_eq (by omega) (by rw [up_col (by decide), up_eq]) (by omega) (by omega)
        refine ⟨V', FA_trans F2 f0, by rw [f1, skp_on q b], by rw [f2, skp_on q b], by rw [f3, up_col (by decide), up_col (by decide)], by rw [f4, up_col (by decide), up_col (by decide)], by rw [f5, up_col (by decide), up_col (by decide)], by rw [f6, up_col (by decide), up_col (by decide)], ?_⟩
        rw [if_pos b, if_neg (by decide), rg37 H, rg37 H, rg37 H, h6, c3, h8, lt1 H C q, ec, rp37 H, rg37 H, up_col (by decide), h6, rp37 H, w32_id (by omega) (by omega), show (p : Int) + 1 = ((p + 1 : Nat) : Int) by omega]
        exact f7
      · rw [if_neg b, if_pos rfl, skp_no (fun z => b z.2)]
        exact ⟨V, FA_refl, h6, h8, rfl, rfl, rfl, rfl, rfl⟩
    · rw [if_neg (by omega), skp_no (fun z => q z.1)]
      exact ⟨V, FA_refl, h6, h8, rfl, rfl, rfl, rfl, rfl⟩
/-- a blame -/
theorem blame_ok (H : Sh sh) {x : Int} : ∃ V', FA V V' ∧ V' 37 5 = V 37 5 ∧ V' 37 6 = V 37 6 ∧ V' 37 7 = V 37 7 ∧ V' 37 8 = V 37 8 ∧ V' 37 1 = (if V 37 1 = 0 then x else V 37 1) ∧ V' 37 2 = (if V 37 1 = 0 then V 37 5 else V 37 2) ∧ Rd_blame 37 x (sh, V) = some (0, (sh, V')) := by
  unfold Rd_blame
  rw [rg37 H]
  by_cases h : V 37 1 = 0
  · rw [if_pos h, if_pos h, if_pos h, rp37 H, rg37 H, up_col (by decide), rp37 H]
    exact ⟨_, FA_up (FA_up FA_refl (by unfold RFd; omega)) (by unfold RFd; omega), by rw [up_col (by decide), up_col (by decide)], by rw [up_col (by decide), up_col (by decide)], by rw [up_col (by decide), up_col (by decide)], by rw [up_col (by decide), up_col (by decide)], by rw [up_col (by decide), up_eq], up_eq, rfl⟩
  · rw [if_neg h, if_neg h, if_neg h]
    exact ⟨V, FA_refl, rfl, rfl, rfl, rfl, rfl, rfl, rfl⟩
/-- the class's token after an advance from p -/
def Cur (V : Int → Int → Int) (τ : Nat → Int) (N p : Nat) : Prop := V 37 5 = tA τ N p ∧ V 37 6 = tE τ N p ∧ (tK τ N p = 12 → V 37 7 = 0) ∧ (tK τ N p ≤ 9 → V 37 7 = 1) ∧ (tK τ N p = 10 → V 37 7 = 2 ∧ V 37 8 = tV τ N p) ∧ (tK τ N p = 11 → V 37 7 = 3)
theorem advance_ok (H : Sh sh) (C : CRd V τ N) (h6 : V 37 6 = p) (hp : p ≤ N) : ∃ V', FA V V' ∧ Cur V' τ N p ∧ V' 37 1 = (if tK τ N p = 13 ∧ V 37 1 = 0 then 1 else V 37 1) ∧ V' 37 2 = (if tK τ N p = 13 ∧ V 37 1 = 0 then (tA τ N p : Int) else V 37 2) ∧ Rd_advance 37 (sh, V) = some (0, (sh, V')) := by
  obtain ⟨c1, c2, c3, c4, c5, c6⟩ := id C
  obtain ⟨h1, h2⟩ := tA_le (τ := τ) hp
  obtain ⟨h3, h4, h5⟩ := tE_le (τ := τ) hp
  generalize hy1 : (if tK τ N p = 13 ∧ V 37 1 = 0 then 1 else V 37 1) = y1
  generalize hy2 : (if tK τ N p = 13 ∧ V 37 1 = 0 then (tA τ N p : Int) else V 37 2) = y2
  rw [adv_J H C h6 hp]
  have F1 : FA V (upV (upV V 37 6 (tA τ N p : Nat)) 37 5 (tA τ N p : Nat)) := FA_up (FA_up FA_refl (by unfold RFd; omega)) (by unfold RFd; omega)
  have C1 := FA_CRd F1 C
  have e6 : upV (upV V 37 6 (tA τ N p : Nat)) 37 5 (tA τ N p : Nat) 37 6 = (tA τ N p : Nat) := by rw [up_col (by decide), up_eq]
  have e5 : upV (upV V 37 6 (tA τ N p : Nat)) 37 5 (tA τ N p : Nat) 37 5 = (tA τ N p : Nat) := up_eq
  have e1 : upV (upV V 37 6 (tA τ N p : Nat)) 37 5 (tA τ N p : Nat) 37 1 = V 37 1 := by rw [up_col (by decide), up_col (by decide)]
  have e2 : upV (upV V 37 6 (tA τ N p : Nat)) 37 5 (tA τ N p : Nat) 37 2 = V 37 2 := by rw [up_col (by decide), up_col (by decide)]
  have start : Rd_advance_J39 37 (sh, upV V 37 6 (tA τ N p : Nat)) = Rd_advance_J39 37 (sh, upV V 37 6 (tA τ N p : Nat)) := rfl
  conv at start => rhs; unfold Rd_advance_J39
  rw [rg37 H, up_eq, rp37 H] at start
  generalize upV (upV V 37 6 (tA τ N p : Nat)) 37 5 (tA τ N p : Nat) = V1 at F1 C1 e6 e5 e1 e2 start
  rw [start, rg37 H, e6, rg37 H, C1.2.2.2.1]
  by_cases q : tA τ N p < N
  · rw [if_pos (by omega), rg37 H, rg37 H, C1.2.2.1, e6, lt1 H C1 q, isLetter_q, bd2_mk]
    have nb := h5
    by_cases b : ltr τ (tA τ N p) = true
    · have ek : tK τ N p = ky τ (tA τ N p) (tE τ N p) := by unfold tK; rw [if_pos q, if_pos b]
      have ee : tE τ N p = skp N (ltr τ) (tA τ N p) := by unfold tE; rw [if_pos q, if_pos b]
      have kl := ky_le (τ := τ) (a := tA τ N p) (e := tE τ N p)
      have F2 : FA V1 (upV V1 37 7 1) := FA_up FA_refl (by unfold RFd; omega)
      rw [if_pos b, if_neg (by decide), ri37 H]
      unfold Rd_readWord
      rw [rp37 H, rw_5 H FU (tA τ N p) _ (FA_CRd F2 C1) (by rw [up_col (by decide)]; exact e6) h2 (by show _ < 1000000; omega), bd2_mk, ← ee]
      refine ⟨_, FA_trans F1 (FA_up F2 (by unfold RFd; omega)), ⟨by rw [up_col (by decide), up_col (by decide)]; exact e5, up_eq, fun z => by omega, fun _ => by rw [up_col (by decide), up_eq], fun z => by omega, fun z => by omega⟩, ?_, ?_, rfl⟩
      · rw [← hy1, if_neg (by omega), up_col (by decide), up_col (by decide)]; exact e1
      · rw [← hy2, if_neg (by omega), up_col (by decide), up_col (by decide)]; exact e2
    · rw [if_neg b, if_pos rfl, rg37 H, rg37 H, C1.2.2.1, e6, lt1 H C1 q, isDigit_q, bd2_mk]
      by_cases d : dgt τ (tA τ N p) = true
      · have ek : tK τ N p = if 3 < tE τ N p - tA τ N p then 13 else 10 := by unfold tK; rw [if_pos q, if_neg b, if_pos d]
        have ee : tE τ N p = skp N (dgt τ) (tA τ N p) := by unfold tE; rw [if_pos q, if_neg b, if_pos d]
        have F2 : FA V1 (upV (upV V1 37 7 2) 37 8 0) := FA_up (FA_up FA_refl (by unfold RFd; omega)) (by unfold RFd; omega)
        obtain ⟨V2, f0, f1, f2, f3, f4, f5, f6, f7⟩ := rn_10 (a := tA τ N p) (kk := fun x3 μ4 => Rd_readNumber_J73 x3 μ4) H FU (tA τ N p) _ (FA_CRd F2 C1) (by rw [up_col (by decide), up_col (by decide)]; exact e6) (Nat.le_refl _) (by rw [up_eq, Nat.sub_self]; rfl) h2 (by show _ < 1000000; omega)
        rw [up_col (by decide), up_col (by decide), e5] at f3
        rw [up_col (by decide), up_eq] at f4
        rw [up_col (by decide), up_col (by decide), e1] at f5
        rw [up_col (by decide), up_col (by decide), e2] at f6
        rw [← ee] at f1 f2
        rw [if_pos d, if_neg (by decide), ri37 H]
        unfold Rd_readNumber
        rw [rp37 H, rp37 H, f7]
        unfold Rd_readNumber_J73
        rw [rg37 H, rg37 H, f1, f3, w32_id (by omega) (by omega)]
        have F3 := FA_trans F1 (FA_trans F2 f0)
        by_cases l : 3 < tE τ N p - tA τ N p
        · rw [if_pos l] at ek
          obtain ⟨V3, g0, g1, g2, g3, g4, g5, g6, g7⟩ := blame_ok (V := V2) (x := 1) H
          rw [if_pos (by omega), ri37 H, g7, bd2_mk, bd2_mk]
          refine ⟨V3, FA_trans F3 g0, ⟨by rw [g1, f3], by rw [g2, f1], fun z => by omega, fun z => by omega, fun z => by omega, fun z => by omega⟩, ?_, ?_, rfl⟩
          · rw [← hy1, g5, f5]
            by_cases c : V 37 1 = 0
            · rw [if_pos c, if_pos ⟨ek, c⟩]
            · rw [if_neg c, if_neg (fun z => c z.2)]
          · rw [← hy2, g6, f5, f3, f6]
            by_cases c : V 37 1 = 0
            · rw [if_pos c, if_pos ⟨ek, c⟩]
            · rw [if_neg c, if_neg (fun z => c z.2)]
        · rw [if_neg l] at ek
          rw [if_neg (by omega), bd2_mk]
          exact ⟨V2, F3, ⟨f3, f1, fun z => by omega, fun z => by omega, fun _ => ⟨f4, f2⟩, fun z => by omega⟩, by rw [← hy1, if_neg (by omega)]; exact f5, by rw [← hy2, if_neg (by omega)]; exact f6, rfl⟩
      · have ee : tE τ N p = tA τ N p + 1 := by unfold tE; rw [if_pos q, if_neg b, if_neg d]
        have ek : tK τ N p = if τ (tA τ N p) = 59 then 11 else 13 := by unfold tK; rw [if_pos q, if_neg b, if_neg d]
        rw [if_neg d, if_pos rfl, rg37 H, rg37 H, C1.2.2.1, e6, lt1 H C1 q]
        by_cases s : τ (tA τ N p) = 59
        · rw [if_pos s] at ek
          rw [if_pos s, rp37 H, rg37 H, up_col (by decide), e6, w32_id (by omega) (by omega), rp37 H]
          refine ⟨_, FA_trans F1 (FA_up (FA_up FA_refl (by unfold RFd; omega)) (by unfold RFd; omega)), ⟨by rw [up_col (by decide), up_col (by decide)]; exact e5, by rw [up_eq, ee]; omega, fun z => by omega, fun z => by omega, fun z => by omega, fun _ => by rw [up_col (by decide), up_eq]⟩, ?_, ?_, rfl⟩
          · rw [← hy1, if_neg (by omega), up_col (by decide), up_col (by decide)]; exact e1
          · rw [← hy2, if_neg (by omega), up_col (by decide), up_col (by decide)]; exact e2
        · rw [if_neg s] at ek
          obtain ⟨V3, g0, g1, g2, g3, g4, g5, g6, g7⟩ := blame_ok (V := V1) (x := 1) H
          rw [if_neg s, ri37 H, g7, bd2_mk, rg37 H, g2, e6, w32_id (by omega) (by omega), rp37 H]
          refine ⟨_, FA_trans F1 (FA_up g0 (by unfold RFd; omega)), ⟨by rw [up_col (by decide), g1]; exact e5, by rw [up_eq, ee]; omega, fun z => by omega, fun z => by omega, fun z => by omega, fun z => by omega⟩, ?_, ?_, rfl⟩
          · rw [← hy1, up_col (by decide), g5, e1]
            by_cases c : V 37 1 = 0
            · rw [if_pos c, if_pos ⟨ek, c⟩]
            · rw [if_neg c, if_neg (fun z => c z.2)]
          · rw [← hy2, up_col (by decide), g6, e1, e2, e5]
            by_cases c : V 37 1 = 0
            · rw [if_pos c, if_pos ⟨ek, c⟩]
            · rw [if_neg c, if_neg (fun z => c z.2)]
  · have ee : tE τ N p = tA τ N p := by unfold tE; rw [if_neg q]
    have ek : tK τ N p = 12 := by unfold tK; rw [if_neg q]
    rw [if_neg (by omega), rp37 H]
    refine ⟨_, FA_trans F1 (FA_up FA_refl (by unfold RFd; omega)), ⟨by rw [up_col (by decide)]; exact e5, by rw [up_col (by decide), ee]; exact e6, fun _ => up_eq, fun z => by omega, fun z => by omega, fun z => by omega⟩, ?_, ?_, rfl⟩
    · rw [← hy1, if_neg (by omega), up_col (by decide)]; exact e1
    · rw [← hy2, if_neg (by omega), up_col (by decide)]; exact e2
/-- is it the word n -/
theorem iw_28 (H : Sh sh) (C : CRd V τ N) (hn : n < 9) (h5 : V 37 5 = a) (hl : a + lnT n ≤ N) : ∀ (m i : Nat), i ≤ lnT n → lnT n - i < m → ∃ y, Rd_isWord_L28 m 37 (-2 - (n : Int)) i (sh, V) = some (y, (sh, V)) ∧ ((y = 1 ∧ ∀ j, i ≤ j → j < lnT n → τ (a + j) = chT n j) ∨ (y = 0 ∧ ¬ ∀ j, i ≤ j → j < lnT n → τ (a + j) = chT n j)) := by
  have c1 := C.1
  have jl : ∀ μ : Mem, J_len (-2 - (n : Int)) μ = some ((lnT n : Int), μ) := fun μ => by
    unfold J_len
    rw [if_pos (by omega), show (-2 - (-2 - (n : Int))).toNat = n by omega]
  intro m
  induction m with
  | zero => intro i _ h; omega
  | succ m ih =>
    intro i hi hm
    rw [Rd_isWord_L28, jl, bd2_mk]
    by_cases q : i < lnT n
    · have jc : ∀ μ : Mem, J_chr (-2 - (n : Int)) (i : Int) μ = some (chT n i, μ) := fun μ => by
        unfold J_chr
        rw [show (-2 - (-2 - (n : Int))).toNat = n by omega, if_pos ⟨by omega, by omega, by omega, by show (i : Int) < (lnT n : Int); omega⟩]
      rw [if_pos (by omega), rg37 H, rg37 H, C.2.2.1, h5, w32_id (by omega) (by omega), show (a : Int) + i = ((a + i : Nat) : Int) by omega, lt1 H C (by omega), jc, bd2_mk]
      by_cases e : τ (a + i) = chT n i
      · rw [if_pos e, w32_id (by omega) (by omega), show (i : Int) + 1 = ((i + 1 : Nat) : Int) by omega]
        obtain ⟨y, y1, y2⟩ := ih (i + 1) (by omega) (by omega)
        have : (∀ j, i + 1 ≤ j → j < lnT n → τ (a + j) = chT n j) ↔ (∀ j, i ≤ j → j < lnT n → τ (a + j) = chT n j) := ⟨fun h j j0 j1 => by
          by_cases z : j = i
          · rw [z]; exact e
          · exact h j (by omega) j1, fun h j j0 j1 => h j (by omega) j1⟩
        rw [this] at y2
        exact ⟨y, y1, y2⟩
      · rw [if_neg e]
        exact ⟨0, rfl, Or.inr ⟨rfl, fun z => e (z i (Nat.le_refl _) q)⟩⟩
    · rw [if_neg (by omega)]
      exact ⟨1, rfl, Or.inl ⟨rfl, fun j j0 j1 => by omega⟩⟩
theorem isWord_ok (H : Sh sh) (C : CRd V τ N) (hn : n < 9) (h5 : V 37 5 = a) (h6 : V 37 6 = e) (ha : a ≤ e) (he : e ≤ N) : Rd_isWord 37 (-2 - (n : Int)) (sh, V) = some (B (V 37 7 = 1 ∧ wB τ a e n = true), (sh, V)) := by
  have c1 := C.1
  have jl : ∀ μ : Mem, J_len (-2 - (n : Int)) μ = some ((lnT n : Int), μ) := fun μ => by
    unfold J_len
    rw [if_pos (by omega), show (-2 - (-2 - (n : Int))).toNat = n by omega]
  have hln : ∀ n, n < 9 → lnT n < 10 := by decide
  have := hln n hn
  unfold Rd_isWord
  rw [rg37 H]
  by_cases k1 : V 37 7 = 1
  · rw [if_pos k1, rg37 H, rg37 H, h5, h6, jl, bd2_mk, w32_id (by omega) (by omega)]
    by_cases l : e - a = lnT n
    · rw [if_pos (by omega)]
      obtain ⟨y, y1, y2⟩ := iw_28 (n := n) H C hn h5 (by omega) FU 0 (by omega) (by show _ < 1000000; omega)
      rw [show ((0 : Nat) : Int) = 0 from rfl] at y1
      rw [y1]
      rcases y2 with ⟨e1, z⟩ | ⟨e1, z⟩
      · rw [e1, B_t ⟨k1, wB_iff.mpr ⟨l, fun j hj => z j (by omega) hj⟩⟩]
      · rw [e1, B_f (fun y => z (fun j _ hj => (wB_iff.mp y.2).2 j hj))]
    · rw [if_neg (by omega), B_f (fun y => l (wB_iff.mp y.2).1)]
  · rw [if_neg k1, B_f (fun y => k1 y.1)]
end KG1
