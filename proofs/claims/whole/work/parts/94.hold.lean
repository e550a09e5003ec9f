/-! PURE: slips held on the way -/
section HOLD
variable {S : Int → Int} {t : Int} {f w g : Nat → Nat} {H M s e k n z r N l m : Nat}
def twn (S : Int → Int) (f : Nat → Nat) : Nat → Int
  | 0 => S 1
  | k + 1 => sHead S (f k)
/-- slips that are held in town t -/
def HI (S : Int → Int) (f : Nat → Nat) (H : Nat) (t : Int) : Prop := (∀ k, k < H → (f k : Int) < 2 * S 7 ∧ S (128 + ((f k / 2 : Nat) : Int)) = 0 ∧ sTail S (f k) = twn S f k) ∧ (∀ k, k + 1 < H → f (k + 1) ≠ xr (f k)) ∧ t = twn S f H
abbrev bkw (f : Nat → Nat) (H e : Nat) : Prop := 0 < H ∧ f (H - 1) = xr e
def hF (f : Nat → Nat) (H e : Nat) : Nat → Nat := if bkw f H e then f else fun k => if k = H then e else f k
def hH (f : Nat → Nat) (H e : Nat) : Nat := if bkw f H e then H - 1 else H + 1
theorem twn_congr : ∀ k, (∀ j, j < k → f j = g j) → twn S f k = twn S g k := by
  intro k
  cases k with
  | zero => intro _; rfl
  | succ k => intro h; rw [twn, twn, h k (by omega)]
theorem HI_hold (I : HI S f H t) (hd : drt S t e) : HI S (hF f H e) (hH f H e) (sHead S e) := by
  obtain ⟨i1, i2, i3⟩ := I
  by_cases b : bkw f H e
  · unfold hF hH
    rw [if_pos b, if_pos b]
    refine ⟨fun k hk => i1 k (by omega), fun k hk => i2 k (by omega), ?_⟩
    have := (i1 (H - 1) (by omega)).2.2
    rw [b.2, xr_tail] at this; exact this
  · unfold hF hH
    rw [if_neg b, if_neg b]
    have lo : ∀ k, k < H → (fun k => if k = H then e else f k) k = f k := fun k hk => if_neg (by omega)
    have hi : (fun k => if k = H then e else f k) H = e := if_pos rfl
    refine ⟨fun k hk => ?_, fun k hk => ?_, ?_⟩
    · by_cases q : k = H
      · rw [q, hi]
        exact ⟨hd.1, hd.2.1, by rw [hd.2.2, i3]; exact (twn_congr H (fun j hj => lo j hj)).symm⟩
      · rw [lo k (by omega)]
        have z := i1 k (by omega)
        exact ⟨z.1, z.2.1, by rw [z.2.2]; exact (twn_congr k (fun j hj => lo j (by omega))).symm⟩
    · by_cases q : k + 1 = H
      · rw [q, hi, lo k (by omega)]
        intro z
        exact b ⟨by omega, by rw [show H - 1 = k by omega, z, xr_xr]⟩
      · rw [lo (k + 1) (by omega), lo k (by omega)]; exact i2 k (by omega)
    · rw [twn, if_pos rfl]
theorem dnL_congr : ∀ n, (∀ j, j < s + n → f j = g j) → dnL f s n = dnL g s n := by
  intro n
  induction n with
  | zero => intro _; rfl
  | succ n ih => intro h; rw [dnL, dnL, h (s + n) (by omega), ih (fun j hj => h j (by omega))]
/-- the way behind a going -/
theorem hold_nxt (Q : SPx f w H M s) (hw : ∀ k, k + 1 < M → w (k + 1) ≠ xr (w k)) (hf : ∀ k, k + 1 < H → f (k + 1) ≠ xr (f k)) : ∃ s', SPx (hF f H e) w (hH f H e) M s' ∧ wyL (hF f H e) w (hH f H e) M s' = nxt e (wyL f w H M s) := by
  obtain ⟨q1, q2, q3, q4⟩ := Q
  have lo : ∀ k, k < H → (fun k => if k = H then e else f k) k = f k := fun k hk => if_neg (by omega)
  have hi : (fun k => if k = H then e else f k) H = e := if_pos rfl
  by_cases hs : s < H
  · have ew : wyL f w H M s = xr (f (H - 1)) :: (dnL f s (H - 1 - s) ++ upL w s (M - s)) := by
      unfold wyL; rw [show H - s = (H - 1 - s) + 1 by omega, dnL, show s + (H - 1 - s) = H - 1 by omega]; rfl
    by_cases b : bkw f H e
    · unfold hF hH
      rw [if_pos b, if_pos b]
      refine ⟨s, ⟨by omega, q2, q3, fun a c => q4 (by omega) c⟩, ?_⟩
      rw [ew, nxt, if_pos (by rw [b.2, xr_xr])]; rfl
    · unfold hF hH
      rw [if_neg b, if_neg b]
      refine ⟨s, ⟨by omega, q2, fun k hk => by rw [lo k (by omega)]; exact q3 k hk, fun a c => by rw [lo s hs]; exact q4 hs c⟩, ?_⟩
      rw [ew, nxt, if_neg (fun z => b ⟨by omega, by rw [← z, xr_xr]⟩), ← ew]
      unfold wyL
      rw [show H + 1 - s = (H - s) + 1 by omega, dnL, show s + (H - s) = H by omega, if_pos rfl, dnL_congr (g := f) (H - s) (fun j hj => lo j (by omega))]; rfl
  · have es : s = H := by omega
    subst es
    have ew : wyL f w s M s = upL w s (M - s) := by unfold wyL; rw [Nat.sub_self, dnL]; rfl
    by_cases b : bkw f s e
    · unfold hF hH
      rw [if_pos b, if_pos b]
      have b2 := b.2
      refine ⟨s - 1, ⟨by omega, by omega, fun k hk => q3 k (by omega), fun a c => by omega⟩, ?_⟩
      have e1 : wyL f w (s - 1) M (s - 1) = xr e :: upL w s (M - s) := by
        unfold wyL
        rw [Nat.sub_self, dnL, show M - (s - 1) = (M - s) + 1 by omega, upL, ← q3 (s - 1) (by omega), b2, show s - 1 + 1 = s by omega]; rfl
      rw [e1, ew]
      by_cases hm : s < M
      · rw [show M - s = (M - s - 1) + 1 by omega, upL, nxt, if_neg (fun z => ?_)]
        have := hw (s - 1) (by omega)
        rw [show s - 1 + 1 = s by omega, ← q3 (s - 1) (by omega), b2, xr_xr] at this
        exact this z
      · rw [show M - s = 0 by omega, upL, nxt]
    · unfold hF hH
      rw [if_neg b, if_neg b]
      have hi' : (fun k => if k = s then e else f k) s = e := if_pos rfl
      by_cases hm : s < M ∧ w s = e
      · refine ⟨s + 1, ⟨by omega, by omega, fun k hk => ?_, fun a c => by omega⟩, ?_⟩
        · by_cases z : k = s
          · rw [z, hi', hm.2]
          · rw [lo k (by omega)]; exact q3 k (by omega)
        · rw [ew, show M - s = (M - (s + 1)) + 1 by omega, upL, nxt, if_pos hm.2]
          unfold wyL; rw [Nat.sub_self, dnL]; rfl
      · refine ⟨s, ⟨by omega, q2, fun k hk => by rw [lo k hk]; exact q3 k hk, fun a c => by rw [hi']; exact fun z => hm ⟨c, z.symm⟩⟩, ?_⟩
        rw [ew]
        have e1 : wyL (fun k => if k = s then e else f k) w (s + 1) M s = xr e :: upL w s (M - s) := by
          unfold wyL
          rw [show s + 1 - s = 0 + 1 by omega, dnL, Nat.add_zero, if_pos rfl, dnL]; rfl
        rw [e1]
        by_cases hm2 : s < M
        · rw [show M - s = (M - s - 1) + 1 by omega, upL, nxt, if_neg (fun z => hm ⟨hm2, z⟩)]
        · rw [show M - s = 0 by omega, upL, nxt]
/-- the wanted slips: a way from home, never back at once -/
def WI2 (S : Int → Int) (w : Nat → Nat) (M : Nat) : Prop := (∀ k, k < M → (w k : Int) < 2 * S 7 ∧ sTail S (w k) = twn S w k) ∧ ∀ k, k + 1 < M → w (k + 1) ≠ xr (w k)
theorem hold_drt (I : HI S f H t) (Q : SPx f w H M s) (J : WI2 S w M) (al : allO S w s M) : ∀ v ws', wyL f w H M s = v :: ws' → drt S t v := by
  obtain ⟨i1, i2, i3⟩ := I
  obtain ⟨q1, q2, q3, q4⟩ := Q
  intro v ws' hv
  by_cases hs : s < H
  · have ew : wyL f w H M s = xr (f (H - 1)) :: (dnL f s (H - 1 - s) ++ upL w s (M - s)) := by
      unfold wyL; rw [show H - s = (H - 1 - s) + 1 by omega, dnL, show s + (H - 1 - s) = H - 1 by omega]; rfl
    rw [ew] at hv
    have hv := (List.cons.inj hv).1
    have z := i1 (H - 1) (by omega)
    have ht : t = sHead S (f (H - 1)) := by rw [i3, show H = (H - 1) + 1 by omega, twn]; rfl
    rw [← hv]
    exact ⟨xr_lt z.1, by rw [xr_d]; exact z.2.1, by rw [xr_tail]; exact ht.symm⟩
  · have es : s = H := by omega
    subst es
    by_cases hm : s < M
    · have ew : wyL f w s M s = w s :: upL w (s + 1) (M - s - 1) := by unfold wyL; rw [Nat.sub_self, dnL, show M - s = (M - s - 1) + 1 by omega, upL]; rfl
      rw [ew] at hv
      have hv := (List.cons.inj hv).1
      have z := J.1 s hm
      rw [← hv]
      exact ⟨z.1, al s (by omega) hm, by rw [z.2, i3]; exact (twn_congr s q3).symm⟩
    · have ew : wyL f w s M s = [] := by unfold wyL; rw [Nat.sub_self, dnL, show M - s = 0 by omega, upL]; rfl
      rw [ew] at hv; cases hv
theorem allO_iff (I : HI S f H t) (Q : SPx f w H M s) : allO S w s M ↔ allO S w 0 M := by
  constructor
  · intro al j _ j1
    by_cases q : j < s
    · rw [← Q.2.2.1 j q]; exact (I.1 j (by have := Q.1; omega)).2.1
    · exact al j (by omega) j1
  · intro al j _ j1; exact al j (by omega) j1
/-- which road it is -/
theorem pick_ex {W : Nat → Nat} : ∀ N, l < sN W N → ∃ r m, r < N ∧ m + sN W r = l ∧ m < W r := by
  intro N
  induction N with
  | zero => intro h; rw [sN] at h; omega
  | succ N ih =>
    intro h
    by_cases q : l < sN W N
    · obtain ⟨r, m, h1, h2⟩ := ih q
      exact ⟨r, m, by omega, h2⟩
    · rw [sN] at h
      exact ⟨N, l - sN W N, by omega, by omega, by omega⟩
theorem sN_mono {W : Nat → Nat} : ∀ b a, a ≤ b → sN W a ≤ sN W b := by
  intro b
  induction b with
  | zero => intro a h; rw [show a = 0 by omega]; exact Nat.le_refl _
  | succ b ih =>
    intro a h
    by_cases q : a = b + 1
    · rw [q]; exact Nat.le_refl _
    · have := ih a (by omega); rw [sN]; omega
theorem fgF_WI2 {ρ : Nat → Int} (hs : isSl S ρ M) (h : fgF S ρ M 0 (S 1) (-1) = -1) : WI2 S (dN ρ) M := by
  have main : ∀ m z : Nat, z + m = M → ∀ (tn bl : Int), fgF S ρ m z tn bl = -1 → (∀ k, z ≤ k → k < M → sTail S (ρ k) = (if k = z then tn else sHead S (ρ (k - 1)))) ∧ (∀ k, z ≤ k → k < M → ¬ ((if k = z then bl else ρ (k - 1)) ≠ -1 ∧ ρ k = sXor (if k = z then bl else ρ (k - 1)))) := by
    intro m
    induction m with
    | zero => intro z hz tn bl _; exact ⟨fun k a b => by omega, fun k a b => by omega⟩
    | succ m ih =>
      intro z hz tn bl hf
      rw [fgF] at hf
      by_cases q : sTail S (ρ z) = tn ∧ ¬ (bl ≠ -1 ∧ ρ z = sXor bl)
      · rw [if_pos q] at hf
        obtain ⟨a1, a2⟩ := ih (z + 1) (by omega) _ _ hf
        refine ⟨fun k k0 k1 => ?_, fun k k0 k1 => ?_⟩
        · by_cases e : k = z
          · rw [if_pos e, e]; exact q.1
          · rw [if_neg e, a1 k (by omega) k1]
            by_cases e2 : k = z + 1
            · rw [if_pos e2, e2]; rfl
            · rw [if_neg e2]
        · by_cases e : k = z
          · rw [if_pos e, e]; exact q.2
          · have := a2 k (by omega) k1
            by_cases e2 : k = z + 1
            · rw [if_pos e2] at this; rw [if_neg e, e2]; rw [e2] at this; exact this
            · rw [if_neg e2] at this; rw [if_neg e]; exact this
      · rw [if_neg q] at hf; omega
  obtain ⟨a1, a2⟩ := main M 0 (by omega) _ _ h
  refine ⟨fun k hk => ⟨by rw [dN_i hs hk]; exact (hs k hk).2, ?_⟩, fun k hk z => ?_⟩
  · rw [dN_i hs hk, a1 k (by omega) hk]
    cases k with
    | zero => rfl
    | succ k => rw [if_neg (by omega), twn, dN_i hs (by omega)]; rfl
  · refine a2 (k + 1) (by omega) hk ?_
    rw [if_neg (by omega), show k + 1 - 1 = k by omega]
    have z' : ((dN ρ (k + 1) : Nat) : Int) = ((xr (dN ρ k) : Nat) : Int) := by rw [z]
    rw [xr_i, dN_i hs hk, dN_i hs (by omega)] at z'
    exact ⟨by have := (hs k (by omega)).1; omega, z'⟩
end HOLD
