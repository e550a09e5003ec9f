/-! PURE: the cheapest roads first (no memory here) -/
section BOX2
variable {S : Int → Int} {U U' C W : Nat → Bool} {a b h t x y p q : Int} {r n f k m e X : Nat} {g : Nat → Nat}
theorem un_l (h : U r = true) : un U W r = true := by unfold un; rw [h]; rfl
theorem un_r (h : W r = true) : un U W r = true := by unfold un; rw [h]; simp
theorem un_or (h : un U W r = true) : U r = true ∨ W r = true := by unfold un at h; simpa using h
/-- a road of W can be left out when e is taken -/
theorem exch (hB : ∀ r, W r = true → r < n) (hn : ¬ Cn S C (S (8 + e)) (S (32 + e))) (hc : Cn S (un C W) (S (8 + e)) (S (32 + e))) : ∃ f, W f = true ∧ ∀ a b, Cn S (un C W) a b → Cn S (un (ad C e) (rm W f)) a b := by
  have first : ∀ j, Cn S (un C (fun r => W r && decide (r < j))) (S (8 + e)) (S (32 + e)) → ∃ f, W f = true ∧ f < j ∧ ¬ Cn S (un C (fun r => W r && decide (r < f))) (S (8 + e)) (S (32 + e)) ∧ Cn S (un C (fun r => W r && decide (r < f + 1))) (S (8 + e)) (S (32 + e)) := by
    intro j
    induction j with
    | zero =>
      intro q
      exact absurd (Cn_mono (fun r hr => by
        rcases un_or hr with z | z
        · exact z
        · simp at z) q) hn
    | succ j ih =>
      intro q
      by_cases q2 : Cn S (un C (fun r => W r && decide (r < j))) (S (8 + e)) (S (32 + e))
      · obtain ⟨f, f1, f2, f3⟩ := ih q2
        exact ⟨f, f1, by omega, f3⟩
      · by_cases w : W j = true
        · exact ⟨j, w, by omega, q2, q⟩
        · exact absurd (Cn_mono (fun r hr => by
            rcases un_or hr with z | z
            · exact un_l z
            · simp at z
              refine un_r ?_
              simp
              refine ⟨z.1, ?_⟩
              by_cases e2 : r = j
              · rw [e2] at z; exact absurd z.1 w
              · omega) q) q2
  obtain ⟨f, f1, f2, f3, f4⟩ := first n (Cn_mono (fun r hr => by
    rcases un_or hr with z | z
    · exact un_l z
    · refine un_r ?_; simp; exact ⟨z, hB r z⟩) hc)
  refine ⟨f, f1, fun a b q => ?_⟩
  have lo : ∀ {a b : Int}, Cn S (un C (fun r => W r && decide (r < f))) a b → Cn S (un (ad C e) (rm W f)) a b := fun z => Cn_mono (fun r hr => by
    rcases un_or hr with z | z
    · refine un_l ?_; unfold ad; split <;> simp [z]
    · simp at z; refine un_r ?_; rw [rm_ne (by omega)]; exact z.1) z
  have ee : Cn S (un (ad C e) (rm W f)) (S (8 + e)) (S (32 + e)) := Cn_edge (un_l ad_self)
  have f5 : Cn S (ad (un C (fun r => W r && decide (r < f))) f) (S (8 + e)) (S (32 + e)) := Cn_mono (fun r hr => by
    by_cases z : r = f
    · rw [z]; exact ad_self
    · rw [ad_ne z]
      rcases un_or hr with z1 | z1
      · exact un_l z1
      · simp at z1; refine un_r ?_; simp; exact ⟨z1.1, by omega⟩) f4
  have ends : Cn S (un (ad C e) (rm W f)) (S (8 + f)) (S (32 + f)) := by
    rcases Cn_ad f5 with z | ⟨z1, z2⟩ | ⟨z1, z2⟩
    · exact absurd z f3
    · exact Cn_trans (Cn_symm (lo z1)) (Cn_trans ee (Cn_symm (lo z2)))
    · exact Cn_trans (lo z2) (Cn_trans (Cn_symm ee) (lo z1))
  exact Cn_sub (fun r hr => by
    by_cases z : r = f
    · rw [z]; exact ends
    · rcases un_or hr with z1 | z1
      · refine Cn_edge (un_l ?_); unfold ad; split <;> simp [z1]
      · exact Cn_edge (un_r (by rw [rm_ne z]; exact z1))) q
/-- roads inside X -/
def ins (S : Int → Int) (U : Nat → Bool) (X : Nat) : Prop := ∀ r, U r = true → X.testBit (S (8 + r)).toNat = true ∧ X.testBit (S (32 + r)).toNat = true
/-- the sorted roads: g 0 .. g (m - 1) -/
def srt (S : Int → Int) (g : Nat → Nat) (m : Nat) : Prop := (∀ k, k < m → g k < (S 7).toNat ∧ S (128 + g k) = 0) ∧ (∀ r, r < (S 7).toNat → S (128 + r) = 0 → ∃ k, k < m ∧ g k = r) ∧ ∀ j k, j ≤ k → k < m → S (104 + g j) ≤ S (104 + g k)
/-- no way to go on is dearer than some other way -/
def OPT (S : Int → Int) (g : Nat → Nat) (m : Nat) (X : Nat) (h : Int) (C : Nat → Bool) (k : Nat) : Prop := ∀ U, opn S U → ins S U X → Jn S U X h → ∃ W, (∀ r, W r = true → ∃ j, k ≤ j ∧ j < m ∧ g j = r) ∧ opn S W ∧ ins S W X ∧ Jn S (un C W) X h ∧ cst S C + cst S W ≤ cst S U
theorem cst_0 : cst S (fun _ => false) = 0 := by unfold cst; exact sN_zero _ (fun j _ => if_neg (fun h => by cases h))
theorem cst_rm_le : cst S (rm W r) ≤ cst S W := by
  unfold cst
  exact sN_le _ (fun j _ => by
    show (if rm W r j = true then _ else 0) ≤ if W j = true then _ else 0
    by_cases e : j = r
    · rw [e, rm_self, if_neg (by decide)]; omega
    · rw [rm_ne e]; exact Nat.le_refl _)
theorem ins_rm (hi : ins S W X) : ins S (rm W r) X := fun k hk => by
  by_cases e : k = r
  · rw [e, rm_self] at hk; cases hk
  · rw [rm_ne e] at hk; exact hi k hk
theorem OPT_0 (hs : srt S g m) : OPT S g m X h (fun _ => false) 0 := fun U hU hi hJ =>
  ⟨U, fun r hr => by
    obtain ⟨k, k1, k2⟩ := hs.2.1 r (hU r hr).1 (hU r hr).2
    exact ⟨k, by omega, k1, k2⟩, hU, hi, fun x hx => Cn_mono (fun r hr => un_r hr) (hJ x hx), by rw [cst_0]; omega⟩
theorem OPT_out (O : OPT S g m X h C k) (hk : k < m) (ho : ¬ (X.testBit (S (8 + g k)).toNat = true ∧ X.testBit (S (32 + g k)).toNat = true)) : OPT S g m X h C (k + 1) := fun U hU hi hJ => by
  obtain ⟨W, w1, w2, w3, w4, w5⟩ := O U hU hi hJ
  refine ⟨W, fun r hr => ?_, w2, w3, w4, w5⟩
  obtain ⟨j, j1, j2, j3⟩ := w1 r hr
  refine ⟨j, ?_, j2, j3⟩
  by_cases e : j = k
  · subst e; rw [← j3] at hr; exact absurd (w3 _ hr) ho
  · omega
theorem OPT_con (O : OPT S g m X h C k) (hk : k < m) (hc : Cn S C (S (8 + g k)) (S (32 + g k))) : OPT S g m X h C (k + 1) := fun U hU hi hJ => by
  obtain ⟨W, w1, w2, w3, w4, w5⟩ := O U hU hi hJ
  refine ⟨rm W (g k), fun r hr => ?_, opn_rm w2, ins_rm w3, fun x hx => ?_, by have := cst_rm_le (S := S) (W := W) (r := g k); omega⟩
  · have hne : r ≠ g k := fun z => by rw [z, rm_self] at hr; cases hr
    rw [rm_ne hne] at hr
    obtain ⟨j, j1, j2, j3⟩ := w1 r hr
    refine ⟨j, ?_, j2, j3⟩
    by_cases e : j = k
    · subst e; exact absurd j3.symm hne
    · omega
  · exact Cn_sub (fun r hr => by
      rcases un_or hr with z | z
      · exact Cn_edge (un_l z)
      · by_cases e : r = g k
        · rw [e]; exact Cn_mono (fun r hr => un_l hr) hc
        · exact Cn_edge (un_r (by rw [rm_ne e]; exact z))) (w4 x hx)
theorem OPT_take (K : KOk S) (hs : srt S g m) (O : OPT S g m X h C k) (hk : k < m) (hi0 : X.testBit (S (8 + g k)).toNat = true ∧ X.testBit (S (32 + g k)).toNat = true) (hn : ¬ Cn S C (S (8 + g k)) (S (32 + g k))) : OPT S g m X h (ad C (g k)) (k + 1) ∧ cst S (ad C (g k)) = cst S C + (S (104 + g k)).toNat := by
  have hg := hs.1 k hk
  have kr := K.2.2.2.2.2.2.2.2.2.2.2.2.2 ((g k : Nat) : Int) (by omega) (by omega)
  have hC : C (g k) = false := by
    cases e : C (g k) with
    | false => rfl
    | true => exact absurd (Cn_edge e) hn
  have hca := cst_ad (U := C) hg.1 hC
  refine ⟨fun U hU hi hJ => ?_, hca⟩
  obtain ⟨W, w1, w2, w3, w4, w5⟩ := O U hU hi hJ
  have e1 : (((S (8 + g k)).toNat : Nat) : Int) = S (8 + g k) := by omega
  have e2 : (((S (32 + g k)).toNat : Nat) : Int) = S (32 + g k) := by omega
  by_cases hW : W (g k) = true
  · obtain ⟨c1, c2⟩ := cst_rm w2 hW
    refine ⟨rm W (g k), fun r hr => ?_, opn_rm w2, ins_rm w3, fun x hx => ?_, by omega⟩
    · have hne : r ≠ g k := fun z => by rw [z, rm_self] at hr; cases hr
      rw [rm_ne hne] at hr
      obtain ⟨j, j1, j2, j3⟩ := w1 r hr
      refine ⟨j, ?_, j2, j3⟩
      by_cases e : j = k
      · subst e; exact absurd j3.symm hne
      · omega
    · exact Cn_mono (fun r hr => by
        rcases un_or hr with z | z
        · refine un_l ?_; unfold ad; split <;> simp [z]
        · by_cases e : r = g k
          · rw [e]; exact un_l ad_self
          · exact un_r (by rw [rm_ne e]; exact z)) (w4 x hx)
  · have j1 := w4 _ hi0.1
    have j2 := w4 _ hi0.2
    rw [e1] at j1
    rw [e2] at j2
    obtain ⟨f, f1, f2⟩ := exch (fun r hr => (w2 r hr).1) hn (Cn_trans (Cn_symm j1) j2)
    obtain ⟨c1, c2⟩ := cst_rm w2 f1
    obtain ⟨jf, jf1, jf2, jf3⟩ := w1 f f1
    have hd := hs.2.2 k jf jf1 jf2
    rw [jf3] at hd
    refine ⟨rm W f, fun r hr => ?_, opn_rm w2, ins_rm w3, fun x hx => f2 _ _ (w4 x hx), by omega⟩
    have hne : r ≠ f := fun z => by rw [z, rm_self] at hr; cases hr
    rw [rm_ne hne] at hr
    obtain ⟨j, j1, j2, j3⟩ := w1 r hr
    refine ⟨j, ?_, j2, j3⟩
    by_cases e : j = k
    · subst e; rw [← j3] at hr; exact absurd hr hW
    · omega
theorem leastN {P : Nat → Prop} : ∀ n, P n → ∃ m, P m ∧ ∀ y, y < m → ¬ P y := by
  intro n
  induction n using Nat.strongRecOn with
  | ind n ih =>
    intro h
    by_cases e : ∃ y, y < n ∧ P y
    · obtain ⟨y, y1, y2⟩ := e; exact ih y y1 y2
    · exact ⟨n, h, fun y hy hp => e ⟨y, hy, hp⟩⟩
/-- x is the least of its towns in X -/
def rep (S : Int → Int) (C : Nat → Bool) (X x : Nat) : Prop := X.testBit x = true ∧ ∀ y : Nat, y < x → X.testBit y = true → ¬ Cn S C y x
noncomputable def cmp (S : Int → Int) (C : Nat → Bool) (X : Nat) : Nat := sN (fun x => @ite _ (rep S C X x) (Classical.propDecidable _) 1 0) 12
theorem rep_ex (hx : X.testBit n = true) : ∃ m, rep S C X m ∧ Cn S C m n ∧ m ≤ n := by
  obtain ⟨m, ⟨m1, m2⟩, m3⟩ := leastN (P := fun y => X.testBit y = true ∧ Cn S C y n) n ⟨hx, Cn_refl⟩
  refine ⟨m, ⟨m1, fun y hy hX hc => m3 y hy ⟨hX, Cn_trans hc m2⟩⟩, m2, Classical.byContradiction (fun q => m3 n (by omega) ⟨hx, Cn_refl⟩)⟩
theorem rep_un (h1 : rep S C X n) (h2 : rep S C X m) (hc : Cn S C n m) : n = m := by
  by_cases a : n < m
  · exact absurd hc (h2.2 n a h1.1)
  · by_cases b : m < n
    · exact absurd (Cn_symm hc) (h1.2 m b h2.1)
    · omega
theorem cmp_take (hX : X < 4096) {u v : Nat} (eu : (u : Int) = S (8 + e)) (ev : (v : Int) = S (32 + e)) (hu : X.testBit u = true) (hv : X.testBit v = true) (hn : ¬ Cn S C (S (8 + e)) (S (32 + e))) : cmp S C X = cmp S (ad C e) X + 1 := by
  have h12 : ∀ y, X.testBit y = true → y < 12 := fun y hy => Classical.byContradiction (fun g => by
    have : X.testBit y = false := Nat.testBit_lt_two_pow (Nat.lt_of_lt_of_le hX (Nat.pow_le_pow_right (n := 2) (by decide) (by omega : 12 ≤ y)))
    rw [this] at hy; cases hy)
  obtain ⟨mu, u1, u2, u3⟩ := rep_ex (S := S) (C := C) hu
  obtain ⟨mv, v1, v2, v3⟩ := rep_ex (S := S) (C := C) hv
  rw [eu] at u2
  rw [ev] at v2
  have hne : mu ≠ mv := fun z => hn (by rw [z] at u2; exact Cn_trans (Cn_symm u2) v2)
  have adm : ∀ {a b : Int}, Cn S C a b → Cn S (ad C e) a b := fun z => Cn_mono (fun r hr => by unfold ad; split <;> simp [hr]) z
  have joined : Cn S (ad C e) mu mv := Cn_trans (adm u2) (Cn_trans (Cn_edge ad_self) (Cn_symm (adm v2)))
  -- the greater of the two is no longer the least
  have key : ∀ hi lo : Nat, lo < hi → ((hi = mu ∧ lo = mv) ∨ (hi = mv ∧ lo = mu)) → cmp S C X = cmp S (ad C e) X + 1 := by
    intro hi lo hl hc
    have hi1 : rep S C X hi := by rcases hc with z | z <;> rw [z.1]; exact u1; exact v1
    have lo1 : rep S C X lo := by rcases hc with z | z <;> rw [z.2]; exact v1; exact u1
    have jn : Cn S (ad C e) lo hi := by rcases hc with z | z <;> rw [z.1, z.2]; exact Cn_symm joined; exact joined
    unfold cmp
    rw [sN_one (q := hi) 12 (h12 hi hi1.1), if_pos hi1]
    congr 1
    exact sN_congr _ (fun x hx => by
      show (if x = hi then 0 else _) = _
      by_cases z : x = hi
      · rw [if_pos z, if_neg (fun q => q.2 lo (by omega) lo1.1 (by rw [z]; exact jn))]
      · rw [if_neg z]
        by_cases rx : rep S C X x
        · have rx' : rep S (ad C e) X x := ⟨rx.1, fun y hy hY hC => by
            rcases Cn_ad hC with w | ⟨w1, w2⟩ | ⟨w1, w2⟩
            · exact rx.2 y hy hY w
            · have ex : x = mv := (rep_un v1 rx (Cn_trans v2 w2)).symm
              obtain ⟨my, y1, y2, y3⟩ := rep_ex (S := S) (C := C) hY
              have ey : my = mu := rep_un y1 u1 (Cn_trans y2 (Cn_trans w1 (Cn_symm u2)))
              omega
            · have ex : x = mu := (rep_un u1 rx (Cn_trans u2 w2)).symm
              obtain ⟨my, y1, y2, y3⟩ := rep_ex (S := S) (C := C) hY
              have ey : my = mv := rep_un y1 v1 (Cn_trans y2 (Cn_trans w1 (Cn_symm v2)))
              omega⟩
          rw [if_pos rx, if_pos rx']
        · rw [if_neg rx, if_neg (fun q => rx ⟨q.1, fun y hy hY hC => q.2 y hy hY (adm hC)⟩)])
  by_cases l : mu < mv
  · exact key mv mu l (Or.inr ⟨rfl, rfl⟩)
  · exact key mu mv (by omega) (Or.inl ⟨rfl, rfl⟩)
theorem cmp_join (hX : X < 4096) (hh : X.testBit n = true) : cmp S C X = 1 ↔ Jn S C X n := by
  have h12 : ∀ y, X.testBit y = true → y < 12 := fun y hy => Classical.byContradiction (fun g => by
    have : X.testBit y = false := Nat.testBit_lt_two_pow (Nat.lt_of_lt_of_le hX (Nat.pow_le_pow_right (n := 2) (by decide) (by omega : 12 ≤ y)))
    rw [this] at hy; cases hy)
  obtain ⟨mn, n1, n2, n3⟩ := rep_ex (S := S) (C := C) hh
  have sp : cmp S C X = sN (fun x => if x = mn then 0 else @ite _ (rep S C X x) (Classical.propDecidable _) 1 0) 12 + 1 := by
    unfold cmp
    rw [sN_one (q := mn) 12 (h12 mn n1.1), if_pos n1]
  constructor
  · intro h1 x hx
    obtain ⟨mx, x1, x2, x3⟩ := rep_ex (S := S) (C := C) hx
    have : mx = mn := Classical.byContradiction (fun z => by
      have h3 := sN_one (f := fun x => if x = mn then 0 else @ite _ (rep S C X x) (Classical.propDecidable _) 1 0) (q := mx) 12 (h12 mx x1.1)
      rw [if_neg z, if_pos x1] at h3
      omega)
    rw [this] at x2
    exact Cn_trans (Cn_symm n2) x2
  · intro hJ
    rw [sp, sN_zero _ (fun x hx => ?_)]
    show (if x = mn then 0 else _) = 0
    by_cases z : x = mn
    · rw [if_pos z]
    · rw [if_neg z, if_neg (fun rx => z (rep_un rx n1 (Cn_symm (Cn_trans n2 (hJ x rx.1)))))]
theorem cmp_pos (hX : X < 4096) (hh : X.testBit n = true) : 1 ≤ cmp S C X := by
  have h12 : n < 12 := Classical.byContradiction (fun g => by
    have : X.testBit n = false := Nat.testBit_lt_two_pow (Nat.lt_of_lt_of_le hX (Nat.pow_le_pow_right (n := 2) (by decide) (by omega : 12 ≤ n)))
    rw [this] at hh; cases hh)
  obtain ⟨mn, n1, n2, n3⟩ := rep_ex (S := S) (C := C) hh
  unfold cmp
  rw [sN_one (q := mn) 12 (by omega), if_pos n1]; omega
theorem cmp_0 : cmp S (fun _ => false) X = sN (fun x => if X.testBit x = true then 1 else 0) 12 := by
  unfold cmp
  exact sN_congr _ (fun x _ => by
    show @ite Nat (rep S (fun _ => false) X x) (Classical.propDecidable _) 1 0 = if X.testBit x = true then 1 else 0
    have only : ∀ y z : Int, Cn S (fun _ => false) y z → z = y := fun y z h => h (fun w => w = y) (fun r hr => by cases hr) rfl
    by_cases e : X.testBit x = true
    · rw [if_pos e, if_pos ⟨e, fun y hy _ hc => by have := only _ _ hc; omega⟩]
    · rw [if_neg e, if_neg (fun q => e q.1)])
/-- the least tree inside X -/
def tdm (S : Int → Int) (X : Nat) (h v : Int) : Prop := (v = -1 ∧ ¬ ∃ U, opn S U ∧ ins S U X ∧ Jn S U X h) ∨ (0 ≤ v ∧ (∃ U, opn S U ∧ ins S U X ∧ Jn S U X h ∧ (cst S U : Int) ≤ v) ∧ ∀ U, opn S U → ins S U X → Jn S U X h → v ≤ cst S U)
theorem tdm_done (hX : X < 4096) (hh : X.testBit n = true) (hC : opn S C) (hi : ins S C X) (O : OPT S g m X n C k) (h1 : cmp S C X = 1) : tdm S X n (cst S C) :=
  Or.inr ⟨by omega, ⟨C, hC, hi, (cmp_join hX hh).mp h1, by omega⟩, fun U u1 u2 u3 => by
    obtain ⟨W, _, _, _, _, w5⟩ := O U u1 u2 u3
    omega⟩
theorem tdm_none (hX : X < 4096) (hh : X.testBit n = true) (O : OPT S g m X n C m) (h1 : cmp S C X ≠ 1) : tdm S X n (-1) :=
  Or.inl ⟨rfl, fun ⟨U, u1, u2, u3⟩ => by
    obtain ⟨W, w1, _, _, w4, _⟩ := O U u1 u2 u3
    refine h1 ((cmp_join hX hh).mpr (fun x hx => Cn_mono (fun r hr => ?_) (w4 x hx)))
    rcases un_or hr with z | z
    · exact z
    · obtain ⟨j, j1, j2, j3⟩ := w1 r z; omega⟩
end BOX2
