/-! PURE: how many walks there are -/
section WALK
variable {S : Int → Int} {t x d r : Int} {a b f g : Nat → Nat} {n m k h N : Nat}
theorem cN_0l : cN (fun _ => 0) b n = 0 := by rw [cN_sm]; exact sN_zero _ (fun j _ => Nat.zero_mul _)
theorem cN_suml {F : Nat → Nat → Nat} : ∀ N : Nat, cN (fun k => sN (fun r => F r k) N) b n = sN (fun r => cN (F r) b n) N := by
  intro N
  induction N with
  | zero => exact cN_0l
  | succ N ih =>
    show cN (fun k => sN (fun r => F r k) N + F N k) b n = sN (fun r => cN (F r) b n) N + cN (F N) b n
    rw [cN_addl, ih]
/-- roads that go on from a town, but x -/
abbrev rdo (S : Int → Int) (t x r : Int) : Prop := r ≠ x ∧ S (128 + r) = 0 ∧ (S (8 + r) = t ∨ S (32 + r) = t)
/-- what lies beyond them -/
def By (S : Int → Int) (G : Nat → Nat → Nat) (t x : Int) (k : Nat) : Nat := sN (fun r => if rdo S t x r then G (sDart S r t).toNat k else 0) (S 7).toNat
def GT (S : Int → Int) : Nat → Nat → Nat → Nat
  | 0 => fun _ j => one1 j
  | h + 1 => fun d j => if j ≤ h then GT S h d j else cN (By S (GT S h) (sHead S d) ((d / 2 : Nat) : Int)) (GT S h d) h
/-- rounds behind a dart -/
def Gx (S : Int → Int) (d h : Nat) : Nat := GT S h d h
def UT (S : Int → Int) (t : Int) : Nat → Nat → Nat
  | 0 => fun j => one1 j
  | h + 1 => fun j => if j ≤ h then UT S t h j else cN (By S (Gx S) t (-1)) (UT S t h) h
/-- rounds from a town -/
def Ux (S : Int → Int) (t : Int) (h : Nat) : Nat := UT S t h h
theorem GT_s {d j : Nat} : GT S (h + 1) d j = if j ≤ h then GT S h d j else cN (By S (GT S h) (sHead S d) ((d / 2 : Nat) : Int)) (GT S h d) h := rfl
theorem UT_s {j : Nat} : UT S t (h + 1) j = if j ≤ h then UT S t h j else cN (By S (Gx S) t (-1)) (UT S t h) h := rfl
theorem GT_st {d : Nat} : ∀ m j, j ≤ m → GT S m d j = Gx S d j := by
  intro m
  induction m with
  | zero => intro j hj; rw [show j = 0 by omega]; rfl
  | succ m ih =>
    intro j hj
    by_cases e : j ≤ m
    · rw [GT_s, if_pos e]; exact ih j e
    · rw [show j = m + 1 by omega]; rfl
theorem UT_st : ∀ m j, j ≤ m → UT S t m j = Ux S t j := by
  intro m
  induction m with
  | zero => intro j hj; rw [show j = 0 by omega]; rfl
  | succ m ih =>
    intro j hj
    by_cases e : j ≤ m
    · rw [UT_s, if_pos e]; exact ih j e
    · rw [show j = m + 1 by omega]; rfl
theorem By_congr {G G' : Nat → Nat → Nat} (h : ∀ d, G d k = G' d k) : By S G t x k = By S G' t x k := by
  unfold By; exact sN_congr _ (fun j _ => by show (if _ then _ else _) = if _ then _ else _; rw [h])
theorem Gx_eq {d : Nat} (n : Nat) : Gx S d n = one1 n + zN (cN (By S (Gx S) (sHead S d) ((d / 2 : Nat) : Int)) (Gx S d)) n := by
  cases n with
  | zero => rfl
  | succ h =>
    unfold Gx
    rw [GT_s, if_neg (by omega), one1, Nat.zero_add, zN]
    exact cN_congr (fun k hk => By_congr (fun d => GT_st h k hk)) (fun k hk => GT_st h k hk)
theorem Ux_eq (n : Nat) : Ux S t n = one1 n + zN (cN (By S (Gx S) t (-1)) (Ux S t)) n := by
  cases n with
  | zero => rfl
  | succ h =>
    unfold Ux
    rw [UT_s, if_neg (by omega), one1, Nat.zero_add, zN]
    exact cN_congr (fun k hk => rfl) (fun k hk => UT_st h k hk)
theorem Gx_0 {d : Nat} : Gx S d 0 = 1 := rfl
theorem Ux_0 : Ux S t 0 = 1 := rfl
theorem Gx_s {d : Nat} : Gx S d (h + 1) = cN (By S (Gx S) (sHead S d) ((d / 2 : Nat) : Int)) (Gx S d) h := by rw [Gx_eq, one1, Nat.zero_add, zN]
theorem Ux_s : Ux S t (h + 1) = cN (By S (Gx S) t (-1)) (Ux S t) h := by rw [Ux_eq, one1, Nat.zero_add, zN]
/-- the road q by itself, and the others -/
theorem sN_one {q : Nat} : ∀ N : Nat, q < N → sN f N = sN (fun r => if r = q then 0 else f r) N + f q := by
  intro N
  induction N with
  | zero => intro h; omega
  | succ N ih =>
    intro h
    rw [sN, sN]
    by_cases e : q = N
    · subst e
      rw [if_pos rfl]
      have : sN (fun r => if r = q then 0 else f r) q = sN f q := sN_congr _ (fun j hj => if_neg (by omega))
      rw [this]; omega
    · rw [if_neg (by omega), ih (by omega)]; omega
/-- a dart that goes from t -/
def drt (S : Int → Int) (t : Int) (w : Nat) : Prop := (w : Int) < 2 * S 7 ∧ S (128 + ((w / 2 : Nat) : Int)) = 0 ∧ sTail S w = t
theorem sDart_of (K : KOk S) {w : Nat} (h : drt S t w) : sDart S ((w / 2 : Nat) : Int) t = w ∧ (S (8 + ((w / 2 : Nat) : Int)) = t ∨ S (32 + ((w / 2 : Nat) : Int)) = t) := by
  obtain ⟨h1, h2, h3⟩ := h
  have kr := K.2.2.2.2.2.2.2.2.2.2.2.2.2 ((w / 2 : Nat) : Int) (by omega) (by omega)
  unfold sTail at h3
  unfold sDart
  have ew : (w : Int) / 2 = ((w / 2 : Nat) : Int) := by omega
  rw [ew] at h3
  by_cases e : (w : Int) % 2 = 0
  · rw [if_pos e] at h3
    rw [if_pos h3]
    exact ⟨by omega, Or.inl h3⟩
  · rw [if_neg e] at h3
    rw [if_neg (by omega)]
    exact ⟨by omega, Or.inr h3⟩
theorem By_split (K : KOk S) {w : Nat} (h : drt S t w) {G : Nat → Nat → Nat} : By S G t (-1) k = By S G t ((w / 2 : Nat) : Int) k + G w k := by
  have sd := sDart_of K h
  unfold By
  rw [sN_one (q := w / 2) (S 7).toNat (by have := h.1; omega)]
  congr 1
  · exact sN_congr _ (fun j _ => by
      show (if j = w / 2 then 0 else if _ then _ else _) = if _ then _ else _
      by_cases e : j = w / 2
      · rw [if_pos e, if_neg (fun g => g.1 (by rw [e]))]
      · rw [if_neg e]
        by_cases q : S (128 + (j : Int)) = 0 ∧ (S (8 + (j : Int)) = t ∨ S (32 + (j : Int)) = t)
        · rw [if_pos ⟨by omega, q⟩, if_pos ⟨by omega, q⟩]
        · rw [if_neg (fun g => q g.2), if_neg (fun g => q g.2)])
  · rw [if_pos ⟨by omega, h.2.1, sd.2⟩, sd.1]; rfl
/-- the dart turned about -/
def xr (w : Nat) : Nat := if w % 2 = 0 then w + 1 else w - 1
theorem xr_i {w : Nat} : ((xr w : Nat) : Int) = sXor w := by unfold xr sXor; split <;> split <;> omega
theorem xr_d {w : Nat} : xr w / 2 = w / 2 := by unfold xr; split <;> omega
theorem xr_xr {w : Nat} : xr (xr w) = w := by unfold xr; split <;> split <;> omega
theorem xr_tail {w : Nat} : sTail S (xr w : Nat) = sHead S w := by rw [xr_i]; exact sTail_xor (by omega)
theorem xr_head {w : Nat} : sHead S (xr w : Nat) = sTail S w := by rw [← xr_tail, xr_xr]
theorem drt_xr {w : Nat} (h : drt S t w) : drt S (sHead S w) (xr w) := by
  obtain ⟨h1, h2, h3⟩ := h
  exact ⟨by unfold xr; split <;> omega, by rw [xr_d]; exact h2, xr_tail⟩
theorem wk_A (K : KOk S) {w : Nat} (h : drt S t w) : ∀ n, Ux S t n = Gx S (xr w) n + zN (cN (Gx S (xr w)) (cN (Ux S t) (Gx S w))) n := by
  refine ser_A (s := By S (Gx S) t ((w / 2 : Nat) : Int)) (fun n => ?_) (fun n => ?_)
  · rw [Ux_eq]
    congr 1
    exact zN_congr (fun k _ => cN_congr (fun j _ => By_split K h) (fun _ _ => rfl))
  · have := Gx_eq (S := S) (d := xr w) n
    rw [xr_head, xr_d, h.2.2] at this; exact this
theorem wk_B (K : KOk S) {w : Nat} (h : drt S t w) (n : Nat) : cN (Ux S t) (Gx S w) n = cN (Ux S (sHead S w)) (Gx S (xr w)) n :=
  ser_B (wk_A K h) (by have := wk_A K (drt_xr h); rw [xr_xr] at this; exact this) n
theorem wk_C (K : KOk S) {w : Nat} (h : drt S t w) (n : Nat) : Ux S (sHead S w) n = Gx S w n + zN (cN (Gx S w) (cN (Ux S t) (Gx S w))) n :=
  ser_C (wk_A K h) (by have := wk_A K (drt_xr h); rw [xr_xr] at this; exact this) n
/-- u g = v + z u s g -/
theorem wk_D (K : KOk S) {w : Nat} (h : drt S t w) (n : Nat) : cN (Ux S t) (Gx S w) n = Ux S (sHead S w) n + zN (cN (cN (Ux S t) (By S (Gx S) t ((w / 2 : Nat) : Int))) (Gx S w)) n := by
  have e1 : cN (Ux S t) (Gx S w) n = cN (fun k => one1 k + zN (cN (fun j => By S (Gx S) t ((w / 2 : Nat) : Int) j + Gx S w j) (Ux S t)) k) (Gx S w) n := cN_congr (fun k _ => by
    rw [Ux_eq]; congr 1
    exact zN_congr (fun k _ => cN_congr (fun j _ => By_split K h) (fun _ _ => rfl))) (fun _ _ => rfl)
  rw [e1, cN_addl, cN_one, cN_zs, wk_C K h n, Nat.add_assoc]
  congr 1
  rw [← zN_add]
  exact zN_congr (fun k _ => by
    have e2 : cN (cN (fun j => By S (Gx S) t ((w / 2 : Nat) : Int) j + Gx S w j) (Ux S t)) (Gx S w) k = cN (fun j => cN (Ux S t) (By S (Gx S) t ((w / 2 : Nat) : Int)) j + cN (Ux S t) (Gx S w) j) (Gx S w) k := cN_congr (fun j _ => by rw [cN_addl, cN_comm j _ (Ux S t), cN_comm j (Gx S w) (Ux S t)]) (fun _ _ => rfl)
    rw [e2, cN_addl, Nat.add_comm]
    congr 1
    exact cN_comm k _ _)
/-- the product along a way -/
def PX (S : Int → Int) : List Nat → Nat → Nat
  | [] => one1
  | w :: ws => cN (Gx S w) (PX S ws)
/-- walks of s steps from t that leave the way ws -/
def WS (S : Int → Int) (t : Int) (ws : List Nat) (s : Nat) : Nat := if ws.length ≤ s ∧ (s - ws.length) % 2 = 0 then cN (Ux S t) (PX S ws) ((s - ws.length) / 2) else 0
theorem WS_pos {ws : List Nat} {s : Nat} (h1 : ws.length ≤ s) (h2 : (s - ws.length) % 2 = 0) (h3 : (s - ws.length) / 2 = h) : WS S t ws s = cN (Ux S t) (PX S ws) h := by unfold WS; rw [if_pos ⟨h1, h2⟩, h3]
theorem WS_neg {ws : List Nat} {s : Nat} (h1 : ¬ (ws.length ≤ s ∧ (s - ws.length) % 2 = 0)) : WS S t ws s = 0 := if_neg h1
/-- the way behind a going -/
def nxt (w : Nat) : List Nat → List Nat
  | [] => [xr w]
  | v :: ws => if v = w then ws else xr w :: v :: ws
theorem PX_0 : ∀ ws : List Nat, PX S ws 0 = 1 := by
  intro ws
  induction ws with
  | nil => rfl
  | cons w ws ih => rw [PX, cN, Gx_0, ih]
theorem drt_of (K : KOk S) {r : Nat} (hr : (r : Int) < S 7) (ho : S (128 + (r : Int)) = 0) (hl : S (8 + (r : Int)) = t ∨ S (32 + (r : Int)) = t) : drt S t (sDart S r t).toNat ∧ (sDart S r t).toNat / 2 = r ∧ (((sDart S r t).toNat : Nat) : Int) = sDart S r t := by
  have kr := K.2.2.2.2.2.2.2.2.2.2.2.2.2 (r : Int) (by omega) hr
  unfold sDart
  by_cases e : S (8 + (r : Int)) = t
  · rw [if_pos e]
    have h2 : (2 * (r : Int)).toNat / 2 = r := by omega
    refine ⟨⟨by omega, by rw [h2]; exact ho, ?_⟩, h2, by omega⟩
    unfold sTail
    rw [if_pos (by omega), show (((2 * (r : Int)).toNat : Nat) : Int) / 2 = (r : Int) by omega]; exact e
  · rw [if_neg e]
    have h2 : (2 * (r : Int) + 1).toNat / 2 = r := by omega
    refine ⟨⟨by omega, by rw [h2]; exact ho, ?_⟩, h2, by omega⟩
    unfold sTail
    rw [if_neg (by omega), show (((2 * (r : Int) + 1).toNat : Nat) : Int) / 2 = (r : Int) by omega]; omega
/-- the first going -/
theorem WS_first (K : KOk S) (ws : List Nat) (hw : ∀ w ws', ws = w :: ws' → drt S t w) (s : Nat) : WS S t ws (s + 1) = sN (fun r => if rdo S t (-1) r then WS S (sHead S (sDart S r t)) (nxt (sDart S r t).toNat ws) s else 0) (S 7).toNat := by
  cases ws with
  | nil =>
    by_cases hp : (s + 1) % 2 = 0
    · obtain ⟨h, rfl⟩ : ∃ h, s = 2 * h + 1 := ⟨(s - 1) / 2, by omega⟩
      have e0 : WS S t [] (2 * h + 1 + 1) = Ux S t (h + 1) := by
        rw [WS_pos (h := h + 1) (by simp only [List.length_nil]; omega) (by simp only [List.length_nil]; omega) (by simp only [List.length_nil]; omega), cN_comm, PX, cN_one]
      rw [e0, Ux_s]
      unfold By
      rw [cN_suml (F := fun r k => if rdo S t (-1) r then Gx S (sDart S r t).toNat k else 0)]
      exact sN_congr _ (fun r hr => by
        show cN (fun k => if rdo S t (-1) r then Gx S (sDart S r t).toNat k else 0) (Ux S t) h = if rdo S t (-1) r then _ else 0
        by_cases q : rdo S t (-1) r
        · obtain ⟨d1, d2, d3⟩ := drt_of K (r := r) (by omega) q.2.1 q.2.2
          simp only [if_pos q]
          have en : nxt (sDart S r t).toNat [] = [xr (sDart S r t).toNat] := rfl
          rw [en, WS_pos (h := h) (by simp only [List.length_cons, List.length_nil]; omega) (by simp only [List.length_cons, List.length_nil]; omega) (by simp only [List.length_cons, List.length_nil]; omega)]
          have e1 : cN (Ux S (sHead S (sDart S r t))) (PX S [xr (sDart S r t).toNat]) h = cN (Ux S (sHead S (sDart S r t))) (Gx S (xr (sDart S r t).toNat)) h := cN_congr (fun _ _ => rfl) (fun j _ => by rw [PX, cN_comm, PX, cN_one])
          have e2 := wk_B K d1 h
          rw [d3] at e2
          rw [e1, ← e2, cN_comm]
        · simp only [if_neg q]; exact cN_0l)
    · rw [WS_neg (by simp only [List.length_nil]; omega)]
      exact (sN_zero _ (fun r _ => by
        show (if _ then _ else _) = 0
        by_cases q : rdo S t (-1) r
        · have en : nxt (sDart S r t).toNat [] = [xr (sDart S r t).toNat] := rfl
          rw [if_pos q, en, WS_neg (by simp only [List.length_cons, List.length_nil]; omega)]
        · rw [if_neg q])).symm
  | cons w ws =>
    have hd := hw w ws rfl
    obtain ⟨sd1, sd2⟩ := sDart_of K hd
    have hq : ((w / 2 : Nat) : Int) < S 7 := by have := hd.1; omega
    have hwq : w / 2 < (S 7).toNat := by omega
    have oth : ∀ r : Nat, r < (S 7).toNat → r ≠ w / 2 → rdo S t (-1) r → nxt (sDart S r t).toNat (w :: ws) = xr (sDart S r t).toNat :: w :: ws := fun r hr hne q => by
      obtain ⟨d1, d2, d3⟩ := drt_of K (r := r) (by omega) q.2.1 q.2.2
      rw [nxt, if_neg (fun e => hne (by rw [e, d2]))]
    have slf : nxt (sDart S ((w / 2 : Nat) : Int) t).toNat (w :: ws) = ws := by rw [sd1, nxt, if_pos (by omega)]
    rw [sN_one (q := w / 2) (S 7).toNat hwq]
    simp only [if_pos (show rdo S t (-1) ((w / 2 : Nat) : Int) from ⟨by omega, hd.2.1, sd2⟩)]
    rw [slf, sd1]
    by_cases hp : ws.length ≤ s ∧ (s - ws.length) % 2 = 0
    · obtain ⟨h, hs⟩ : ∃ h, s = ws.length + 2 * h := ⟨(s - ws.length) / 2, by omega⟩
      have el : WS S t (w :: ws) (s + 1) = cN (cN (Ux S t) (Gx S w)) (PX S ws) h := by
        unfold WS
        rw [if_pos ⟨by rw [List.length_cons]; omega, by rw [List.length_cons]; omega⟩, PX, ← cN_assoc, show (s + 1 - (w :: ws).length) / 2 = h by rw [List.length_cons]; omega]
      have er : WS S (sHead S w) ws s = cN (Ux S (sHead S w)) (PX S ws) h := by
        unfold WS
        rw [if_pos hp, show (s - ws.length) / 2 = h by omega]
      have e1 : cN (cN (Ux S t) (Gx S w)) (PX S ws) h = cN (fun k => Ux S (sHead S w) k + zN (cN (cN (Ux S t) (By S (Gx S) t ((w / 2 : Nat) : Int))) (Gx S w)) k) (PX S ws) h := cN_congr (fun k _ => wk_D K hd k) (fun _ _ => rfl)
      rw [el, er, e1, cN_addl, Nat.add_comm]
      congr 1
      rw [cN_zs]
      cases h with
      | zero =>
        rw [zN]
        exact (sN_zero _ (fun r hr => by
          show (if r = w / 2 then 0 else if _ then _ else _) = 0
          by_cases e : r = w / 2
          · rw [if_pos e]
          · rw [if_neg e]
            by_cases q : rdo S t (-1) r
            · rw [if_pos q, oth r hr e q]
              unfold WS
              rw [if_neg (by simp only [List.length_cons]; omega)]
            · rw [if_neg q])).symm
      | succ h =>
        rw [zN, cN_assoc, ← PX, cN_assoc]
        have e2 : cN (Ux S t) (cN (By S (Gx S) t ((w / 2 : Nat) : Int)) (PX S (w :: ws))) h = cN (By S (Gx S) t ((w / 2 : Nat) : Int)) (cN (Ux S t) (PX S (w :: ws))) h := by
          rw [← cN_assoc, ← cN_assoc]
          exact cN_congr (fun k _ => cN_comm k _ _) (fun _ _ => rfl)
        rw [e2]
        unfold By
        rw [cN_suml (F := fun r k => if rdo S t ((w / 2 : Nat) : Int) r then Gx S (sDart S r t).toNat k else 0)]
        exact sN_congr _ (fun r hr => by
          show cN (fun k => if rdo S t ((w / 2 : Nat) : Int) r then Gx S (sDart S r t).toNat k else 0) _ h = if r = w / 2 then 0 else if rdo S t (-1) r then _ else 0
          by_cases e : r = w / 2
          · rw [if_pos e]
            simp only [if_neg (show ¬ rdo S t ((w / 2 : Nat) : Int) r from fun q => q.1 (by rw [e]))]
            exact cN_0l
          · rw [if_neg e]
            by_cases q : rdo S t (-1) r
            · obtain ⟨d1, d2, d3⟩ := drt_of K (r := r) (by omega) q.2.1 q.2.2
              simp only [if_pos (show rdo S t ((w / 2 : Nat) : Int) r from ⟨by omega, q.2⟩), if_pos q]
              rw [oth r hr e q, WS_pos (h := h) (by simp only [List.length_cons]; omega) (by simp only [List.length_cons]; omega) (by simp only [List.length_cons]; omega)]
              have e3 := fun j => wk_B K d1 j
              rw [d3] at e3
              have l1 : cN (fun k => Gx S (sDart S r t).toNat k) (cN (Ux S t) (PX S (w :: ws))) h = cN (cN (fun k => Gx S (sDart S r t).toNat k) (Ux S t)) (PX S (w :: ws)) h := (cN_assoc h _).symm
              have l2 : cN (Ux S (sHead S (sDart S r t))) (PX S (xr (sDart S r t).toNat :: w :: ws)) h = cN (cN (Ux S (sHead S (sDart S r t))) (Gx S (xr (sDart S r t).toNat))) (PX S (w :: ws)) h := (cN_assoc h _).symm
              rw [l1, l2]
              exact cN_congr (fun j _ => by rw [cN_comm j]; exact e3 j) (fun _ _ => rfl)
            · simp only [if_neg (show ¬ rdo S t ((w / 2 : Nat) : Int) r from fun z => q ⟨by omega, z.2⟩), if_neg q]; exact cN_0l)
    · have el : WS S t (w :: ws) (s + 1) = 0 := by
        unfold WS; rw [if_neg (by rw [List.length_cons]; omega)]
      have er : WS S (sHead S w) ws s = 0 := by unfold WS; rw [if_neg hp]
      rw [el, er]
      have : sN (fun r => if r = w / 2 then 0 else if rdo S t (-1) r then WS S (sHead S (sDart S r t)) (nxt (sDart S r t).toNat (w :: ws)) s else 0) (S 7).toNat = 0 := sN_zero _ (fun r hr => by
        show (if r = w / 2 then 0 else if _ then _ else _) = 0
        by_cases e : r = w / 2
        · rw [if_pos e]
        · rw [if_neg e]
          by_cases q : rdo S t (-1) r
          · rw [if_pos q, oth r hr e q]
            unfold WS
            rw [if_neg (by simp only [List.length_cons]; omega)]
          · rw [if_neg q])
      rw [this]
end WALK
