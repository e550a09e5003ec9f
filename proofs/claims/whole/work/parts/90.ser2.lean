/-! PURE: series by steps -/
section SER2
variable {S : Int → Int} {t x bt : Int} {a b g f : Nat → Nat} {n m k h N s : Nat}
/-- a series by halves as one by steps -/
def ev (a : Nat → Nat) (s : Nat) : Nat := if s % 2 = 0 then a (s / 2) else 0
theorem ev_tl : (fun k => ev a (k + 1)) = zN (ev (fun k => a (k + 1))) := by
  funext k
  cases k with
  | zero => rfl
  | succ k =>
    rw [zN]
    unfold ev
    by_cases e : k % 2 = 0
    · rw [if_pos (by omega), if_pos e, show (k + 1 + 1) / 2 = k / 2 + 1 by omega]
    · rw [if_neg (by omega), if_neg e]
theorem ev_cN : ∀ (s : Nat) (a : Nat → Nat), cN (ev a) (ev b) s = ev (cN a b) s := by
  intro s
  induction s using Nat.strongRecOn with
  | ind s ih =>
    intro a
    match s, ih with
    | 0, _ => rfl
    | 1, _ =>
      rw [cN, ev_tl, cN_zs]
      show ev a 0 * 0 + 0 = 0
      omega
    | s + 2, ih =>
      rw [cN, ev_tl, cN_zs, zN, ih s (by omega)]
      unfold ev
      by_cases e : s % 2 = 0
      · rw [if_pos (by decide), if_pos (by omega), if_pos e, if_pos (by omega), show (s + 1 + 1) / 2 = s / 2 + 1 by omega, cN]
      · rw [if_neg (by omega : ¬ (s + 1 + 1) % 2 = 0), if_neg e, if_neg (by omega : ¬ (s + 2) % 2 = 0), Nat.mul_zero]
/-- k steps later -/
def shv (k : Nat) (a : Nat → Nat) (s : Nat) : Nat := if k ≤ s ∧ (s - k) % 2 = 0 then a ((s - k) / 2) else 0
theorem shv_0 : shv 0 a = ev a := by
  funext s; unfold shv ev
  by_cases e : s % 2 = 0
  · rw [if_pos ⟨by omega, by omega⟩, if_pos e]; rfl
  · rw [if_neg (by omega), if_neg e]
theorem shv_s : shv (k + 1) a = zN (shv k a) := by
  funext s
  cases s with
  | zero => unfold shv; rw [if_neg (by omega)]; rfl
  | succ s =>
    rw [zN]; unfold shv
    rw [show s + 1 - (k + 1) = s - k by omega]
    by_cases e : k ≤ s ∧ (s - k) % 2 = 0
    · rw [if_pos ⟨by omega, e.2⟩, if_pos e]
    · rw [if_neg (by omega), if_neg e]
theorem shv_cN : ∀ (k : Nat) (s : Nat), cN (shv k a) (ev b) s = shv k (cN a b) s := by
  intro k
  induction k with
  | zero => intro s; rw [shv_0, shv_0]; exact ev_cN s a
  | succ k ih => intro s; rw [shv_s, shv_s, cN_zs]; exact zN_congr (fun j _ => ih j)
theorem shv_WS {ws : List Nat} : shv ws.length (cN (Ux S t) (PX S ws)) s = WS S t ws s := rfl
/-- sums over darts are sums over roads -/
theorem sN_pair : ∀ N : Nat, sN f (2 * N) = sN (fun r => f (2 * r) + f (2 * r + 1)) N := by
  intro N
  induction N with
  | zero => rfl
  | succ N ih => rw [show 2 * (N + 1) = 2 * N + 1 + 1 by omega, sN, sN, sN, ih]; omega
abbrev dco (S : Int → Int) (t bt : Int) (d : Nat) : Prop := S (128 + ((d / 2 : Nat) : Int)) = 0 ∧ sTail S d = t ∧ (d : Int) ≠ bt
theorem DS_By (K : KOk S) {G : Nat → Nat} (hb : ∀ d : Nat, (d : Int) < 2 * S 7 → sTail S d = t → ((d : Int) = bt ↔ ((d / 2 : Nat) : Int) = x)) : sN (fun d => if dco S t bt d then G d else 0) (2 * (S 7).toNat) = sN (fun r => if rdo S t x r then G (sDart S r t).toNat else 0) (S 7).toNat := by
  rw [sN_pair]
  refine sN_congr _ (fun r hr => ?_)
  have kr := K.2.2.2.2.2.2.2.2.2.2.2.2.2 (r : Int) (by omega) (by omega)
  have d0 : (2 * r) / 2 = r := by omega
  have d1 : (2 * r + 1) / 2 = r := by omega
  have t0 : sTail S (2 * r : Nat) = S (8 + (r : Int)) := by
    unfold sTail; rw [if_pos (by omega), show ((2 * r : Nat) : Int) / 2 = r by omega]
  have t1 : sTail S (2 * r + 1 : Nat) = S (32 + (r : Int)) := by
    unfold sTail; rw [if_neg (by omega), show ((2 * r + 1 : Nat) : Int) / 2 = r by omega]
  have b0 := hb (2 * r) (by omega)
  have b1 := hb (2 * r + 1) (by omega)
  rw [t0, d0] at b0
  rw [t1, d1] at b1
  show (if dco S t bt (2 * r) then G (2 * r) else 0) + (if dco S t bt (2 * r + 1) then G (2 * r + 1) else 0) = if rdo S t x r then G (sDart S r t).toNat else 0
  unfold dco rdo
  rw [d0, d1, t0, t1]
  by_cases o : S (128 + (r : Int)) = 0
  · by_cases e0 : S (8 + (r : Int)) = t
    · have hd : (sDart S r t).toNat = 2 * r := by unfold sDart; rw [if_pos e0]; omega
      rw [hd, if_neg (c := S (128 + (r : Int)) = 0 ∧ S (32 + (r : Int)) = t ∧ ((2 * r + 1 : Nat) : Int) ≠ bt) (fun g => by omega)]
      by_cases q : (r : Int) = x
      · rw [if_neg (fun g => g.2.2 ((b0 e0).mpr q)), if_neg (fun g => g.1 q)]
      · rw [if_pos ⟨o, e0, fun g => q ((b0 e0).mp g)⟩, if_pos ⟨q, o, Or.inl e0⟩]; rfl
    · rw [if_neg (c := S (128 + (r : Int)) = 0 ∧ S (8 + (r : Int)) = t ∧ ((2 * r : Nat) : Int) ≠ bt) (fun g => e0 g.2.1), Nat.zero_add]
      by_cases e1 : S (32 + (r : Int)) = t
      · have hd : (sDart S r t).toNat = 2 * r + 1 := by unfold sDart; rw [if_neg e0]; omega
        rw [hd]
        by_cases q : (r : Int) = x
        · rw [if_neg (fun g => g.2.2 ((b1 e1).mpr q)), if_neg (fun g => g.1 q)]
        · rw [if_pos ⟨o, e1, fun g => q ((b1 e1).mp g)⟩, if_pos ⟨q, o, Or.inr e1⟩]
      · rw [if_neg (fun g => e1 g.2.1), if_neg (fun g => by omega)]
  · rw [if_neg (fun g => o g.1), if_neg (fun g => o g.1), if_neg (fun g => o g.2.1)]
/-- what lies beyond, by darts: but the dart turned about, or none -/
theorem DS_1 (K : KOk S) {G : Nat → Nat} : sN (fun d => if dco S t (-1) d then G d else 0) (2 * (S 7).toNat) = sN (fun r => if rdo S t (-1) r then G (sDart S r t).toNat else 0) (S 7).toNat :=
  DS_By K (fun d _ _ => by omega)
theorem DS_x (K : KOk S) {G : Nat → Nat} {e : Nat} (he : (e : Int) < 2 * S 7) : sN (fun d => if dco S (sHead S e) (xr e : Nat) d then G d else 0) (2 * (S 7).toNat) = sN (fun r => if rdo S (sHead S e) ((e / 2 : Nat) : Int) r then G (sDart S r (sHead S e)).toNat else 0) (S 7).toNat := by
  refine DS_By K (fun d hd ht => ⟨fun q => ?_, fun q => ?_⟩)
  · have := xr_d (w := e)
    have : d = xr e := by omega
    rw [this, xr_d]
  · have kr := K.2.2.2.2.2.2.2.2.2.2.2.2.2 ((e / 2 : Nat) : Int) (by omega) (by omega)
    have hne : d ≠ e := fun z => by
      subst z
      unfold sTail sHead at ht
      rw [show (d : Int) / 2 = ((d / 2 : Nat) : Int) by omega] at ht
      split at ht <;> omega
    unfold xr
    split <;> omega
/-- rounds by steps: the reference's sum -/
theorem rnd_sum (K : KOk S) {e : Nat} (he : (e : Int) < 2 * S 7) (s : Nat) : sN (fun d => if dco S (sHead S e) (xr e : Nat) d then sN (fun j => ev (Gx S d) j * ev (Gx S e) (s + 1 - 2 - j)) (s + 1 - 1) else 0) (2 * (S 7).toNat) = ev (Gx S e) (s + 1) := by
  rw [DS_x K (G := fun d => sN (fun j => ev (Gx S d) j * ev (Gx S e) (s + 1 - 2 - j)) (s + 1 - 1)) he]
  cases s with
  | zero =>
    unfold ev
    rw [if_neg (by decide)]
    exact sN_zero _ (fun r _ => by show (if _ then sN _ 0 else 0) = 0; rw [sN, ite_self])
  | succ s =>
    have e1 : ∀ d, sN (fun j => ev (Gx S d) j * ev (Gx S e) (s + 1 + 1 - 2 - j)) (s + 1 + 1 - 1) = ev (cN (Gx S d) (Gx S e)) s := fun d => by
      rw [← ev_cN, cN_sm]; rfl
    simp only [e1]
    unfold ev
    by_cases q : s % 2 = 0
    · simp only [if_pos q]
      rw [if_pos (by omega), show (s + 1 + 1) / 2 = s / 2 + 1 by omega, Gx_s]
      unfold By
      rw [cN_suml (F := fun r k => if rdo S (sHead S e) ((e / 2 : Nat) : Int) r then Gx S (sDart S r (sHead S e)).toNat k else 0)]
      exact sN_congr _ (fun r _ => by
        show (if rdo S (sHead S e) ((e / 2 : Nat) : Int) r then _ else 0) = cN (fun k => if rdo S (sHead S e) ((e / 2 : Nat) : Int) r then _ else 0) _ _
        by_cases g : rdo S (sHead S e) ((e / 2 : Nat) : Int) r
        · simp only [if_pos g]
        · simp only [if_neg g]; exact cN_0l.symm)
    · simp only [if_neg q]
      rw [if_neg (by omega)]
      exact sN_zero _ (fun r _ => by show (if _ then 0 else 0) = 0; rw [ite_self])
theorem twn_sum (K : KOk S) (s : Nat) : sN (fun d => if dco S t (-1) d then sN (fun j => ev (Gx S d) j * ev (Ux S t) (s + 1 - 2 - j)) (s + 1 - 1) else 0) (2 * (S 7).toNat) = ev (Ux S t) (s + 1) := by
  rw [DS_1 K (G := fun d => sN (fun j => ev (Gx S d) j * ev (Ux S t) (s + 1 - 2 - j)) (s + 1 - 1))]
  cases s with
  | zero =>
    unfold ev
    rw [if_neg (by decide)]
    exact sN_zero _ (fun r _ => by show (if _ then sN _ 0 else 0) = 0; rw [sN, ite_self])
  | succ s =>
    have e1 : ∀ d, sN (fun j => ev (Gx S d) j * ev (Ux S t) (s + 1 + 1 - 2 - j)) (s + 1 + 1 - 1) = ev (cN (Gx S d) (Ux S t)) s := fun d => by
      rw [← ev_cN, cN_sm]; rfl
    simp only [e1]
    unfold ev
    by_cases q : s % 2 = 0
    · simp only [if_pos q]
      rw [if_pos (by omega), show (s + 1 + 1) / 2 = s / 2 + 1 by omega, Ux_s]
      unfold By
      rw [cN_suml (F := fun r k => if rdo S t (-1) r then Gx S (sDart S r t).toNat k else 0)]
      exact sN_congr _ (fun r _ => by
        show (if rdo S t (-1) r then _ else 0) = cN (fun k => if rdo S t (-1) r then _ else 0) _ _
        by_cases g : rdo S t (-1) r
        · simp only [if_pos g]
        · simp only [if_neg g]; exact cN_0l.symm)
    · simp only [if_neg q]
      rw [if_neg (by omega)]
      exact sN_zero _ (fun r _ => by show (if _ then 0 else 0) = 0; rw [ite_self])
end SER2
