/-! PURE: meet -/
section MEET
variable {sh : List (Nat × Nat)} {V V' V1 V2 V2' : Int → Int → Int} {r t m s c i j d k x a b y D D' f p w bk v tb q h : Int} {S S' R : Int → Int} {n : Nat} {ρ : Nat → Int}
/-- the town in which one is on a day: days A, towns T, K the last -/
def tOn (A T : Nat → Int) (K : Nat) (d : Int) : Nat → Nat → Int
  | 0, _ => -1
  | m + 1, z => if A z = d then T z else tOn A T K d m (z + 1)
def townO (A T : Nat → Int) (K : Nat) (d : Int) : Int := if d < A K then tOn A T K d K 0 else T K
theorem tOn_at {A T : Nat → Int} {K : Nat} (hA : ∀ j, j < K → A j < A (j + 1)) {a : Nat} (ha : a < K) : ∀ (m z : Nat), z ≤ a → z + m = K → tOn A T K (A a) m z = T a := by
  have mono : ∀ i j, i < j → j ≤ K → A i < A j := by
    intro i j hij
    induction j with
    | zero => omega
    | succ j ih =>
      intro hj
      have h1 := hA j (by omega)
      by_cases e : i = j
      · subst e; exact h1
      · have := ih (by omega) (by omega); omega
  intro m
  induction m with
  | zero => intro z h1 h2; omega
  | succ m ih =>
    intro z h1 h2
    rw [tOn]
    by_cases e : z = a
    · subst e; rw [if_pos rfl]
    · rw [if_neg (by have := mono z a (by omega) (by omega); omega)]; exact ih (z + 1) (by omega) (by omega)
theorem tOn_some {A T : Nat → Int} {K : Nat} {d y : Int} (hy : y ≠ -1) : ∀ (m z : Nat), tOn A T K d m z = y → ∃ a, z ≤ a ∧ a < z + m ∧ A a = d ∧ T a = y := by
  intro m
  induction m with
  | zero => intro z h; rw [tOn] at h; exact absurd h.symm hy
  | succ m ih =>
    intro z h
    rw [tOn] at h
    by_cases e : A z = d
    · rw [if_pos e] at h; exact ⟨z, by omega, by omega, e, h⟩
    · rw [if_neg e] at h
      obtain ⟨a, h1, h2, h3⟩ := ih (z + 1) h
      exact ⟨a, by omega, by omega, h3⟩
/-- the day on which both are in one town, by place a of one and b of the other -/
def bothD (A T B U : Nat → Int) (K L a b : Nat) : Int := if T a = U b then (if A a = B b then A a else if A a < B b then (if a = K then B b else -1) else if b = L then A a else -1) else -1
theorem bothD_town {A T B U : Nat → Int} {K L a b : Nat} {d : Int} (hA : ∀ j, j < K → A j < A (j + 1)) (ha : a ≤ K) (hd : d ≠ -1) (h : bothD A T B U K L a b = d) : townO A T K d = T a := by
  have mono : ∀ i j, i ≤ j → j ≤ K → A i ≤ A j := by
    intro i j hij
    induction j with
    | zero => intro _; have : i = 0 := by omega
              subst this; exact Int.le_refl _
    | succ j ih =>
      intro hj
      by_cases e : i = j + 1
      · subst e; exact Int.le_refl _
      · have := ih (by omega) (by omega); have := hA j (by omega); omega
  have key : A a = d → townO A T K d = T a := by
    intro e
    unfold townO
    by_cases q : d < A K
    · have : a < K := by
        by_cases e2 : a = K
        · rw [e2] at e; omega
        · omega
      rw [if_pos q, ← e]; exact tOn_at hA this K 0 (by omega) (by omega)
    · have : a = K := by
        by_cases e2 : a = K
        · exact e2
        · have h1 := hA a (by omega)
          have h2 := mono (a + 1) K (by omega) (by omega)
          omega
      rw [if_neg q, this]
  unfold bothD at h
  split at h
  · split at h
    · exact key h
    · split at h
      · split at h
        · rename_i e1 e2 e3 e4
          unfold townO; rw [if_neg (by rw [← e4]; omega), e4]
        · exact absurd h.symm hd
      · split at h
        · exact key h
        · exact absurd h.symm hd
  · exact absurd h.symm hd
/-- the first place of one at which the other is in his town -/
def fMt (A T B U : Nat → Int) (L : Nat) : Nat → Nat → Int
  | 0, _ => -1
  | m + 1, z => if townO B U L (A z) = T z then A z else fMt A T B U L m (z + 1)
theorem fMt_spec {A T B U : Nat → Int} {L : Nat} : ∀ (m z : Nat), (fMt A T B U L m z = -1 ∧ ((∀ j, 0 ≤ A j) → ∀ a, z ≤ a → a < z + m → townO B U L (A a) ≠ T a)) ∨ ∃ a, z ≤ a ∧ a < z + m ∧ fMt A T B U L m z = A a ∧ townO B U L (A a) = T a ∧ ∀ j, z ≤ j → j < a → townO B U L (A j) ≠ T j := by
  intro m
  induction m with
  | zero => intro z; exact Or.inl ⟨rfl, fun _ a h1 h2 => by omega⟩
  | succ m ih =>
    intro z
    rw [fMt]
    by_cases e : townO B U L (A z) = T z
    · rw [if_pos e]; exact Or.inr ⟨z, by omega, by omega, rfl, e, fun j h1 h2 => by omega⟩
    · rw [if_neg e]
      rcases ih (z + 1) with ⟨h1, h2⟩ | ⟨a, h1, h2, h3, h4, h5⟩
      · refine Or.inl ⟨h1, fun hn a g1 g2 => ?_⟩
        by_cases e2 : a = z
        · rw [e2]; exact e
        · exact h2 hn a (by omega) (by omega)
      · refine Or.inr ⟨a, by omega, by omega, h3, h4, fun j g1 g2 => ?_⟩
        by_cases e2 : j = z
        · rw [e2]; exact e
        · exact h5 j (by omega) g2
/-- where the other is in the town of a place, they meet on its day -/
theorem town_both {A T B U : Nat → Int} {K L a : Nat} (hT : ∀ j, 0 ≤ T j) (h : townO B U L (A a) = T a) : ∃ b, b ≤ L ∧ bothD A T B U K L a b = A a := by
  unfold townO at h
  by_cases q : A a < B L
  · rw [if_pos q] at h
    obtain ⟨b, h1, h2, h3, h4⟩ := tOn_some (by have := hT a; omega) L 0 h
    exact ⟨b, by omega, by unfold bothD; rw [if_pos h4.symm, if_pos h3.symm]⟩
  · rw [if_neg q] at h
    refine ⟨L, by omega, ?_⟩
    unfold bothD; rw [if_pos h.symm]
    by_cases e : A a = B L
    · rw [if_pos e]
    · rw [if_neg e, if_neg (by omega), if_pos rfl]
theorem bothD_sym {A T B U : Nat → Int} {K L a b : Nat} : bothD B U A T L K b a = bothD A T B U K L a b := by
  unfold bothD
  by_cases h : T a = U b
  · rw [if_pos h, if_pos h.symm]
    by_cases e : A a = B b
    · rw [if_pos e, if_pos e.symm, e]
    · rw [if_neg e, if_neg (fun q => e q.symm)]
      by_cases l : A a < B b
      · rw [if_pos l, if_neg (by omega)]
      · rw [if_neg l, if_pos (by omega)]
  · rw [if_neg h, if_neg (fun q => h q.symm)]
def meetD (A T B U : Nat → Int) (K L : Nat) : Int := if fMt A T B U L (K + 1) 0 = -1 then fMt B U A T K (L + 1) 0 else fMt A T B U L (K + 1) 0
/-- the class's day is the least of all -/
theorem meetD_spec {A T B U : Nat → Int} {K L : Nat} (hA : ∀ j, j < K → A j < A (j + 1)) (hB : ∀ j, j < L → B j < B (j + 1)) (nA : ∀ j, 0 ≤ A j) (nB : ∀ j, 0 ≤ B j) (hT : ∀ j, 0 ≤ T j) (hU : ∀ j, 0 ≤ U j) : (meetD A T B U K L = -1 ∧ ∀ a b, a ≤ K → b ≤ L → bothD A T B U K L a b = -1) ∨ ((∃ a b, a ≤ K ∧ b ≤ L ∧ bothD A T B U K L a b = meetD A T B U K L ∧ meetD A T B U K L ≠ -1) ∧ ∀ a b, a ≤ K → b ≤ L → bothD A T B U K L a b = -1 ∨ meetD A T B U K L ≤ bothD A T B U K L a b) := by
  have mono : ∀ i j, i ≤ j → j ≤ K → A i ≤ A j := by
    intro i j hij
    induction j with
    | zero => intro _; have : i = 0 := by omega
              subst this; exact Int.le_refl _
    | succ j ih =>
      intro hj
      by_cases e : i = j + 1
      · subst e; exact Int.le_refl _
      · have := ih (by omega) (by omega); have := hA j (by omega); omega
  have monoB : ∀ i j, i ≤ j → j ≤ L → B i ≤ B j := by
    intro i j hij
    induction j with
    | zero => intro _; have : i = 0 := by omega
              subst this; exact Int.le_refl _
    | succ j ih =>
      intro hj
      by_cases e : i = j + 1
      · subst e; exact Int.le_refl _
      · have := ih (by omega) (by omega); have := hB j (by omega); omega
  -- a pair that meets on d: on d the other is in his town
  have pr : ∀ a b, a ≤ K → b ≤ L → bothD A T B U K L a b ≠ -1 → (bothD A T B U K L a b = A a ∧ townO B U L (A a) = T a) ∨ (bothD A T B U K L a b = B b ∧ A K < B b ∧ townO A T K (B b) = U b) := by
    intro a b ha hb hd
    have t1 := bothD_town (d := bothD A T B U K L a b) hA ha hd rfl
    have t2 := bothD_town (A := B) (T := U) (B := A) (U := T) (K := L) (L := K) (a := b) (b := a) (d := bothD A T B U K L a b) hB hb hd bothD_sym
    have hTU : T a = U b := by
      refine Classical.byContradiction (fun q => hd ?_)
      unfold bothD; rw [if_neg q]
    by_cases e : bothD A T B U K L a b = A a
    · left; rw [e] at t2; exact ⟨e, by rw [t2, hTU]⟩
    · right
      have : bothD A T B U K L a b = B b ∧ A K < B b := by
        unfold bothD at hd e ⊢
        rw [if_pos hTU] at hd e ⊢
        by_cases e1 : A a = B b
        · rw [if_pos e1] at e; exact absurd rfl e
        · rw [if_neg e1] at hd e ⊢
          by_cases e2 : A a < B b
          · rw [if_pos e2] at hd e ⊢
            by_cases e3 : a = K
            · rw [if_pos e3]; exact ⟨rfl, by rw [← e3]; exact e2⟩
            · rw [if_neg e3] at hd; exact absurd rfl hd
          · rw [if_neg e2] at hd e
            by_cases e3 : b = L
            · rw [if_pos e3] at e; exact absurd rfl e
            · rw [if_neg e3] at hd; exact absurd rfl hd
      rw [this.1] at t1
      exact ⟨this.1, this.2, by rw [t1, hTU]⟩
  unfold meetD
  rcases fMt_spec (A := A) (T := T) (B := B) (U := U) (L := L) (K + 1) 0 with ⟨h1, h2⟩ | ⟨a, h1, h2, h3, h4, h5⟩
  · rw [if_pos h1]
    have h2 := h2 nA
    rcases fMt_spec (A := B) (T := U) (B := A) (U := T) (L := K) (L + 1) 0 with ⟨g1, g2⟩ | ⟨b, g1, g2, g3, g4, g5⟩
    · have g2 := g2 nB
      refine Or.inl ⟨g1, fun a b ha hb => Classical.byContradiction (fun q => ?_)⟩
      rcases pr a b ha hb q with ⟨_, e⟩ | ⟨_, _, e⟩
      · exact h2 a (by omega) (by omega) e
      · exact g2 b (by omega) (by omega) e
    · have nb := nB b
      refine Or.inr ⟨?_, fun a' b' ha hb => ?_⟩
      · obtain ⟨a, e1, e2⟩ := town_both (K := L) (L := K) hU g4
        refine ⟨a, b, e1, by omega, by rw [← bothD_sym, e2, g3], by rw [g3]; omega⟩
      · by_cases q : bothD A T B U K L a' b' = -1
        · exact Or.inl q
        · rcases pr a' b' ha hb q with ⟨_, e⟩ | ⟨e1, _, e⟩
          · exact absurd e (h2 a' (by omega) (by omega))
          · refine Or.inr ?_
            rw [g3, e1]
            refine monoB b b' ?_ hb
            refine Classical.byContradiction (fun z => g5 b' (by omega) (by omega) e)
  · have na := nA a
    rw [if_neg (by rw [h3]; omega)]
    refine Or.inr ⟨?_, fun a' b' ha hb => ?_⟩
    · obtain ⟨b, e1, e2⟩ := town_both (K := K) (L := L) hT h4
      exact ⟨a, b, by omega, e1, by rw [e2, h3], by rw [h3]; omega⟩
    · by_cases q : bothD A T B U K L a' b' = -1
      · exact Or.inl q
      · refine Or.inr ?_
        rcases pr a' b' ha hb q with ⟨e1, e⟩ | ⟨e1, e2, e⟩
        · rw [h3, e1]
          refine mono a a' ?_ ha
          refine Classical.byContradiction (fun z => h5 a' (by omega) (by omega) e)
        · rw [h3, e1]
          have := mono a K (by omega) (by omega)
          omega
/-- the reference's search -/
def mtIn (A T B U : Nat → Int) (K L a : Nat) : Nat → Nat → Int × Int → Int × Int
  | 0, _, o => o
  | m + 1, z, o => mtIn A T B U K L a m (z + 1) (if bothD A T B U K L a z = -1 then o else if o.1 = -1 ∨ bothD A T B U K L a z < o.1 then (bothD A T B U K L a z, T a) else o)
def mtOut (A T B U : Nat → Int) (K L : Nat) : Nat → Nat → Int × Int → Int × Int
  | 0, _, o => o
  | m + 1, z, o => mtOut A T B U K L m (z + 1) (mtIn A T B U K L z (L + 1) 0 o)
/-- o is the least over the pairs in Q -/
def Lst (A T B U : Nat → Int) (K L : Nat) (Q : Nat → Nat → Prop) (o : Int × Int) : Prop := (o = (-1, -1) ∧ ∀ a b, Q a b → bothD A T B U K L a b = -1) ∨ ((∃ a b, Q a b ∧ bothD A T B U K L a b = o.1 ∧ o.1 ≠ -1 ∧ o.2 = T a) ∧ ∀ a b, Q a b → bothD A T B U K L a b = -1 ∨ o.1 ≤ bothD A T B U K L a b)
theorem Lst_in {A T B U : Nat → Int} {K L : Nat} (a : Nat) : ∀ (m z : Nat) (o : Int × Int), z + m = L + 1 → Lst A T B U K L (fun a' b' => (a' < a ∧ b' ≤ L) ∨ (a' = a ∧ b' < z)) o → Lst A T B U K L (fun a' b' => a' < a + 1 ∧ b' ≤ L) (mtIn A T B U K L a m z o) := by
  intro m
  induction m with
  | zero =>
    intro z o hz h
    rw [mtIn]
    have e : (fun a' b' : Nat => (a' < a ∧ b' ≤ L) ∨ (a' = a ∧ b' < z)) = fun a' b' => a' < a + 1 ∧ b' ≤ L := by funext a' b'; apply propext; constructor <;> intro q <;> omega
    rw [e] at h; exact h
  | succ m ih =>
    intro z o hz h
    rw [mtIn]
    refine ih (z + 1) _ (by omega) ?_
    by_cases q : bothD A T B U K L a z = -1
    · rw [if_pos q]
      rcases h with ⟨h1, h2⟩ | ⟨⟨a1, b1, h1, h2, h3, h4⟩, h5⟩
      · refine Or.inl ⟨h1, fun a' b' g => ?_⟩
        by_cases e : a' = a ∧ b' = z
        · rw [e.1, e.2]; exact q
        · exact h2 a' b' (by omega)
      · refine Or.inr ⟨⟨a1, b1, by omega, h2, h3, h4⟩, fun a' b' g => ?_⟩
        by_cases e : a' = a ∧ b' = z
        · rw [e.1, e.2]; exact Or.inl q
        · exact h5 a' b' (by omega)
    · rw [if_neg q]
      by_cases g : o.1 = -1 ∨ bothD A T B U K L a z < o.1
      · rw [if_pos g]
        refine Or.inr ⟨⟨a, z, by omega, rfl, q, rfl⟩, fun a' b' g' => ?_⟩
        by_cases e : a' = a ∧ b' = z
        · rw [e.1, e.2]; exact Or.inr (Int.le_refl _)
        · rcases h with ⟨h1, h2⟩ | ⟨⟨a1, b1, h1, h2, h3, h4⟩, h5⟩
          · exact Or.inl (h2 a' b' (by omega))
          · rcases h5 a' b' (by omega) with z1 | z1
            · exact Or.inl z1
            · exact Or.inr (by show bothD A T B U K L a z ≤ _; omega)
      · rw [if_neg g]
        rcases h with ⟨h1, h2⟩ | ⟨⟨a1, b1, h1, h2, h3, h4⟩, h5⟩
        · exact absurd (Or.inl (by rw [h1])) g
        · refine Or.inr ⟨⟨a1, b1, by omega, h2, h3, h4⟩, fun a' b' g' => ?_⟩
          by_cases e : a' = a ∧ b' = z
          · rw [e.1, e.2]; exact Or.inr (by omega)
          · exact h5 a' b' (by omega)
theorem Lst_out {A T B U : Nat → Int} {K L : Nat} : ∀ (m z : Nat) (o : Int × Int), Lst A T B U K L (fun a' b' => a' < z ∧ b' ≤ L) o → Lst A T B U K L (fun a' b' => a' < z + m ∧ b' ≤ L) (mtOut A T B U K L m z o) := by
  intro m
  induction m with
  | zero => intro z o h; exact h
  | succ m ih =>
    intro z o h
    rw [mtOut]
    have := ih (z + 1) _ (Lst_in (A := A) (T := T) (B := B) (U := U) (K := K) z (L + 1) 0 o (by omega) (by
      have e : (fun a' b' : Nat => (a' < z ∧ b' ≤ L) ∨ (a' = z ∧ b' < 0)) = fun a' b' => a' < z ∧ b' ≤ L := by funext a' b'; apply propext; constructor <;> intro q <;> omega
      rw [e]; exact h))
    rw [show z + 1 + m = z + (m + 1) by omega] at this
    exact this
/-- both sides find the same day and town -/
theorem meet_eq {A T B U : Nat → Int} {K L : Nat} (hA : ∀ j, j < K → A j < A (j + 1)) (hB : ∀ j, j < L → B j < B (j + 1)) (nA : ∀ j, 0 ≤ A j) (nB : ∀ j, 0 ≤ B j) (hT : ∀ j, 0 ≤ T j) (hU : ∀ j, 0 ≤ U j) : mtOut A T B U K L (K + 1) 0 (-1, -1) = (meetD A T B U K L, if meetD A T B U K L = -1 then -1 else townO A T K (meetD A T B U K L)) := by
  have h := Lst_out (A := A) (T := T) (B := B) (U := U) (K := K) (L := L) (K + 1) 0 (-1, -1) (Or.inl ⟨rfl, fun a b g => by omega⟩)
  generalize mtOut A T B U K L (K + 1) 0 (-1, -1) = o at h ⊢
  rcases meetD_spec (K := K) (L := L) hA hB nA nB hT hU with ⟨m1, m2⟩ | ⟨⟨a, b, m1, m2, m3, m4⟩, m5⟩
  · rcases h with ⟨h1, h2⟩ | ⟨⟨a1, b1, h1, h2, h3, h4⟩, h5⟩
    · rw [m1, if_pos rfl]; exact h1
    · exact absurd (h2.symm.trans (m2 a1 b1 (by omega) (by omega))) h3
  · rcases h with ⟨h1, h2⟩ | ⟨⟨a1, b1, h1, h2, h3, h4⟩, h5⟩
    · exact absurd (m3.symm.trans (h2 a b (by omega))) m4
    · have e : o.1 = meetD A T B U K L := by
        have g1 := h5 a b (by omega)
        have g2 := m5 a1 b1 (by omega) (by omega)
        rw [m3] at g1
        rw [h2] at g2
        rcases g1 with g1 | g1
        · exact absurd g1 m4
        · rcases g2 with g2 | g2
          · exact absurd g2 h3
          · omega
      have t := bothD_town (d := meetD A T B U K L) hA (by omega : a1 ≤ K) m4 (by rw [h2, e])
      rw [if_neg m4, t, ← h4, ← e]
end MEET
