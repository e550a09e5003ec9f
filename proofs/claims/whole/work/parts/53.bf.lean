/-! PURE: least ways by rounds of relaxing (no memory here) -/
section BF
variable {F : Int} {d D X Y : Int → Int} {E : List (Int × Int × Int)} {e : Int × Int × Int} {v u w : Int} {n : Nat}
def rlx (F : Int) (d : Int → Int) (e : Int × Int × Int) : Int → Int := if d e.1 = F ∨ d e.2.1 ≤ d e.1 + e.2.2 then d else up d e.2.1 (d e.1 + e.2.2)
def pss (F : Int) (E : List (Int × Int × Int)) (d : Int → Int) : Int → Int := E.foldl (rlx F) d
theorem rlx_le (v : Int) : rlx F d e v ≤ d v := by
  unfold rlx
  split
  · exact Int.le_refl _
  · rename_i q
    by_cases h : v = e.2.1
    · subst h; rw [upS_eq]; omega
    · rw [upS_ne h]; exact Int.le_refl _
theorem pss_le : ∀ (E : List (Int × Int × Int)) (d : Int → Int) (v : Int), pss F E d v ≤ d v := by
  intro E
  induction E with
  | nil => intro d v; exact Int.le_refl _
  | cons e E ih => intro d v; exact Int.le_trans (ih (rlx F d e) v) (rlx_le v)
/-- nothing is left to relax -/
def Clo (F : Int) (E : List (Int × Int × Int)) (X : Int → Int) : Prop := ∀ e ∈ E, X e.1 ≠ F → X e.2.1 ≤ X e.1 + e.2.2
theorem rlx_low (hX : Clo F E X) (he : e ∈ E) (hF : ∀ v, d v ≤ F) (h : ∀ v, X v ≤ d v) : ∀ v, X v ≤ rlx F d e v := by
  intro v
  unfold rlx
  split
  · exact h v
  · rename_i q
    by_cases hv : v = e.2.1
    · subst hv; rw [upS_eq]
      have h1 := hF e.1
      have h2 := h e.1
      have := hX e he (by omega)
      omega
    · rw [upS_ne hv]; exact h v
theorem pss_low : ∀ (E' : List (Int × Int × Int)) (d : Int → Int), (∀ e ∈ E', e ∈ E) → Clo F E X → (∀ v, d v ≤ F) → (∀ v, X v ≤ d v) → ∀ v, X v ≤ pss F E' d v := by
  intro E'
  induction E' with
  | nil => intro d _ _ _ h; exact h
  | cons e E' ih => intro d hs hX hF h; exact ih (rlx F d e) (fun e' he => hs e' (List.mem_cons_of_mem _ he)) hX (fun v => Int.le_trans (rlx_le v) (hF v)) (rlx_low hX (hs e List.mem_cons_self) hF h)
theorem pss_F (hF : ∀ v, d v ≤ F) : ∀ v, pss F E d v ≤ F := fun v => Int.le_trans (pss_le E d v) (hF v)
theorem pss_clo (hX : Clo F E X) (hF : ∀ v, X v ≤ F) : pss F E X = X := by
  funext v
  exact Int.le_antisymm (pss_le E X v) (pss_low E X (fun _ h => h) hX hF (fun _ => Int.le_refl _) v)
/-- a round that changes nothing -/
theorem clo_pss (hF : ∀ v, X v ≤ F) (h : pss F E X = X) : Clo F E X := by
  have key : ∀ (E' : List (Int × Int × Int)) (d : Int → Int), (∀ v, d v ≤ F) → ∀ e ∈ E', d e.1 ≠ F → pss F E' d e.2.1 ≤ d e.1 + e.2.2 := by
    intro E'
    induction E' with
    | nil => intro d _ e he; cases he
    | cons e0 E' ih =>
      intro d hd e he hu
      rcases List.mem_cons.mp he with rfl | he
      · refine Int.le_trans (pss_le E' (rlx F d e) e.2.1) ?_
        unfold rlx
        split
        · rename_i q; omega
        · rw [upS_eq]; exact Int.le_refl _
      · have h1 := rlx_le (F := F) (d := d) (e := e0) e.1
        have h2 := hd e.1
        have := ih (rlx F d e0) (fun v => Int.le_trans (rlx_le v) (hd v)) e he (by omega)
        refine Int.le_trans this ?_
        omega
  intro e he hu
  have := key E X hF e he hu
  rw [h] at this; exact this
/-- relaxing from a row that stays -/
def jrl (F : Int) (D a : Int → Int) (e : Int × Int × Int) : Int → Int := if D e.1 ≠ F ∧ D e.1 + e.2.2 < a e.2.1 then up a e.2.1 (D e.1 + e.2.2) else a
def jac (F : Int) (E : List (Int × Int × Int)) (D : Int → Int) : Int → Int := E.foldl (jrl F D) D
theorem jac_aux (D : Int → Int) : ∀ (E : List (Int × Int × Int)) (a : Int → Int) (v : Int), (E.foldl (jrl F D) a v ≤ a v) ∧ (∀ e ∈ E, e.2.1 = v → D e.1 ≠ F → E.foldl (jrl F D) a v ≤ D e.1 + e.2.2) ∧ (E.foldl (jrl F D) a v = a v ∨ ∃ e ∈ E, e.2.1 = v ∧ D e.1 ≠ F ∧ E.foldl (jrl F D) a v = D e.1 + e.2.2) := by
  intro E
  induction E with
  | nil => intro a v; exact ⟨Int.le_refl _, fun e he => (by cases he), Or.inl rfl⟩
  | cons e0 E ih =>
    intro a v
    obtain ⟨h1, h2, h3⟩ := ih (jrl F D a e0) v
    rw [List.foldl_cons]
    have hl : jrl F D a e0 v ≤ a v := by
      unfold jrl; split
      · rename_i q
        by_cases hv : v = e0.2.1
        · subst hv; rw [upS_eq]; omega
        · rw [upS_ne hv]; exact Int.le_refl _
      · exact Int.le_refl _
    refine ⟨Int.le_trans h1 hl, fun e he hv hu => ?_, ?_⟩
    · rcases List.mem_cons.mp he with rfl | he
      · refine Int.le_trans h1 ?_
        subst hv
        unfold jrl; split
        · rw [upS_eq]; exact Int.le_refl _
        · rename_i q
          have : ¬ D e.1 + e.2.2 < a e.2.1 := fun z => q ⟨hu, z⟩
          omega
      · exact h2 e he hv hu
    · rcases h3 with h3 | ⟨e, he, hv, hu, h3⟩
      · rw [h3]
        unfold jrl; split
        · rename_i q
          by_cases hv : v = e0.2.1
          · subst hv; rw [upS_eq]; exact Or.inr ⟨e0, List.mem_cons_self, rfl, q.1, rfl⟩
          · rw [upS_ne hv]; exact Or.inl rfl
        · exact Or.inl rfl
      · exact Or.inr ⟨e, List.mem_cons_of_mem _ he, hv, hu, h3⟩
theorem jac_le (v : Int) : jac F E D v ≤ D v := (jac_aux D E D v).1
theorem jac_edge (he : e ∈ E) (hu : D e.1 ≠ F) : jac F E D e.2.1 ≤ D e.1 + e.2.2 := (jac_aux D E D e.2.1).2.1 e he rfl hu
theorem jac_att (v : Int) : jac F E D v = D v ∨ ∃ e ∈ E, e.2.1 = v ∧ D e.1 ≠ F ∧ jac F E D v = D e.1 + e.2.2 := (jac_aux D E D v).2.2
def iter {α : Type} (f : α → α) (x : α) : Nat → α
  | 0 => x
  | k + 1 => f (iter f x k)
theorem pigeon : ∀ (n : Nat) (L : List Int), L.Nodup → (∀ x ∈ L, 0 ≤ x ∧ x < n) → L.length ≤ n := by
  intro n
  induction n with
  | zero =>
    intro L _ h
    cases L with
    | nil => exact Nat.le_refl _
    | cons x L => have := h x List.mem_cons_self; omega
  | succ n ih =>
    intro L hN h
    by_cases hm : (n : Int) ∈ L
    · have h1 := ih (L.erase (n : Int)) (hN.erase _) (fun x hx => by
        have hx' := List.mem_of_mem_erase hx
        have := h x hx'
        have hne : x ≠ (n : Int) := fun e => by
          subst e; exact (List.Nodup.not_mem_erase hN) hx
        omega)
      rw [List.length_erase_of_mem hm] at h1
      have : 0 < L.length := List.length_pos_of_mem hm
      omega
    · have := ih L hN (fun x hx => by
        have := h x hx
        have hne : x ≠ (n : Int) := fun e => by subst e; exact hm hx
        omega)
      omega
/-- a graph on n places with steps above 0 -/
def Gr (E : List (Int × Int × Int)) (n : Nat) : Prop := ∀ e ∈ E, (0 ≤ e.1 ∧ e.1 < n) ∧ (0 ≤ e.2.1 ∧ e.2.1 < n) ∧ 0 < e.2.2
theorem jac_chain (hG : Gr E n) : ∀ (j : Nat) (v : Int), iter (jac F E) d (j + 1) v < iter (jac F E) d j v → ∃ L : List Int, L.length = j + 1 ∧ L.Nodup ∧ ∀ x ∈ L, (0 ≤ x ∧ x < n) ∧ iter (jac F E) d j x < iter (jac F E) d (j + 1) v := by
  intro j
  induction j with
  | zero =>
    intro v h
    rcases jac_att (F := F) (E := E) (D := iter (jac F E) d 0) v with q | ⟨e, he, hv, hu, q⟩
    · have : iter (jac F E) d (0 + 1) v = iter (jac F E) d 0 v := q
      omega
    · refine ⟨[e.1], rfl, by simp, fun x hx => ?_⟩
      have hx : x = e.1 := by simpa using hx
      subst hx
      have hg := hG e he
      have : iter (jac F E) d (0 + 1) v = iter (jac F E) d 0 e.1 + e.2.2 := q
      exact ⟨hg.1, by omega⟩
  | succ j ih =>
    intro v h
    rcases jac_att (F := F) (E := E) (D := iter (jac F E) d (j + 1)) v with q | ⟨e, he, hv, hu, q⟩
    · have : iter (jac F E) d (j + 1 + 1) v = iter (jac F E) d (j + 1) v := q
      omega
    · have q : iter (jac F E) d (j + 1 + 1) v = iter (jac F E) d (j + 1) e.1 + e.2.2 := q
      have hg := hG e he
      have h1 : iter (jac F E) d (j + 1) e.1 < iter (jac F E) d j e.1 := by
        have hle : iter (jac F E) d (j + 1) e.1 ≤ iter (jac F E) d j e.1 := jac_le _
        refine Classical.byContradiction (fun hc => ?_)
        have heq : iter (jac F E) d (j + 1) e.1 = iter (jac F E) d j e.1 := by omega
        have h2 : iter (jac F E) d (j + 1) e.2.1 ≤ iter (jac F E) d j e.1 + e.2.2 := jac_edge he (by rw [← heq]; exact hu)
        rw [hv] at h2
        omega
      obtain ⟨L, l1, l2, l3⟩ := ih e.1 h1
      refine ⟨e.1 :: L, by rw [List.length_cons, l1], List.nodup_cons.mpr ⟨fun hm => ?_, l2⟩, fun x hx => ?_⟩
      · have := (l3 e.1 hm).2; omega
      · rcases List.mem_cons.mp hx with rfl | hx
        · exact ⟨hg.1, by omega⟩
        · have := l3 x hx
          have h3 : iter (jac F E) d (j + 1) x ≤ iter (jac F E) d j x := jac_le _
          exact ⟨this.1, by omega⟩
theorem jac_fix (hG : Gr E n) (hn : 0 < n) : jac F E (iter (jac F E) d (n - 1)) = iter (jac F E) d (n - 1) := by
  funext v
  have hle : iter (jac F E) d (n - 1 + 1) v ≤ iter (jac F E) d (n - 1) v := jac_le _
  refine Classical.byContradiction (fun hc => ?_)
  have hc : iter (jac F E) d (n - 1 + 1) v ≠ iter (jac F E) d (n - 1) v := hc
  have hlt : iter (jac F E) d (n - 1 + 1) v < iter (jac F E) d (n - 1) v := by omega
  obtain ⟨L, l1, l2, l3⟩ := jac_chain hG (n - 1) v hlt
  rcases jac_att (F := F) (E := E) (D := iter (jac F E) d (n - 1)) v with q | ⟨e, he, hv, hu, q⟩
  · exact hc q
  · have hg := hG e he
    have := pigeon n (v :: L) (List.nodup_cons.mpr ⟨fun hm => by have := (l3 v hm).2; omega, l2⟩) (fun x hx => by
      rcases List.mem_cons.mp hx with rfl | hx
      · rw [← hv]; exact hg.2.1
      · exact (l3 x hx).1)
    rw [List.length_cons, l1] at this
    omega
/-- relaxing in place comes at least as far -/
theorem pss_jac (hF : ∀ v, D v ≤ F) (h : ∀ v, d v ≤ D v) : ∀ v, pss F E d v ≤ jac F E D v := by
  have key : ∀ (E' : List (Int × Int × Int)) (d : Int → Int), (∀ v, d v ≤ D v) → ∀ e ∈ E', D e.1 ≠ F → pss F E' d e.2.1 ≤ D e.1 + e.2.2 := by
    intro E'
    induction E' with
    | nil => intro d _ e he; cases he
    | cons e0 E' ih =>
      intro d hd e he hu
      rcases List.mem_cons.mp he with rfl | he
      · have h1 := hF e.1
        have h2 := hd e.1
        refine Int.le_trans (pss_le E' (rlx F d e) e.2.1) ?_
        unfold rlx
        split
        · rename_i q; omega
        · rw [upS_eq]; omega
      · exact ih (rlx F d e0) (fun v => Int.le_trans (rlx_le v) (hd v)) e he hu
  intro v
  rcases jac_att (F := F) (E := E) (D := D) v with q | ⟨e, he, hv, hu, q⟩
  · rw [q]; exact Int.le_trans (pss_le E d v) (h v)
  · rw [q, ← hv]; exact key E d h e he hu
/-- after n rounds nothing is left: the greatest row below d that is closed -/
theorem bf_main (hG : Gr E n) (hn : 0 < n) (hF : ∀ v, d v ≤ F) : pss F E (iter (pss F E) d (n - 1)) = iter (pss F E) d (n - 1) := by
  have hX := jac_fix (F := F) (d := d) hG hn
  have dF : ∀ j v, iter (jac F E) d j v ≤ F := by
    intro j
    induction j with
    | zero => exact hF
    | succ j ih => intro v; exact Int.le_trans (jac_le v) (ih v)
  have pF : ∀ j v, iter (pss F E) d j v ≤ F := by
    intro j
    induction j with
    | zero => exact hF
    | succ j ih => intro v; exact Int.le_trans (pss_le _ _ v) (ih v)
  have hC : Clo F E (iter (jac F E) d (n - 1)) := by
    intro e he hu
    have := jac_edge (F := F) he hu
    rw [hX] at this; exact this
  have hXd : ∀ v, iter (jac F E) d (n - 1) v ≤ d v := by
    have : ∀ j v, iter (jac F E) d j v ≤ d v := by
      intro j
      induction j with
      | zero => intro v; exact Int.le_refl _
      | succ j ih => intro v; exact Int.le_trans (jac_le v) (ih v)
    exact this (n - 1)
  have lo : ∀ j v, iter (jac F E) d (n - 1) v ≤ iter (pss F E) d j v := by
    intro j
    induction j with
    | zero => exact hXd
    | succ j ih => exact pss_low E _ (fun _ h => h) hC (pF j) ih
  have hi : ∀ j v, iter (pss F E) d j v ≤ iter (jac F E) d j v := by
    intro j
    induction j with
    | zero => intro v; exact Int.le_refl _
    | succ j ih => exact pss_jac (dF j) ih
  have e : iter (pss F E) d (n - 1) = iter (jac F E) d (n - 1) := by
    funext v; exact Int.le_antisymm (hi (n - 1) v) (lo (n - 1) v)
  rw [e]; exact pss_clo hC (dF (n - 1))
theorem iter_stay {f : (Int → Int) → Int → Int} {x : Int → Int} {k : Nat} (h : f (iter f x k) = iter f x k) : ∀ j, iter f x (k + j) = iter f x k := by
  intro j
  induction j with
  | zero => rfl
  | succ j ih => rw [← Nat.add_assoc, iter, ih, h]
/-- the row after n rounds is the greatest closed one below d -/
theorem bf_great (hY : Clo F E Y) (hF : ∀ v, d v ≤ F) (h : ∀ v, Y v ≤ d v) : ∀ (k : Nat) (v : Int), Y v ≤ iter (pss F E) d k v := by
  have pF : ∀ j v, iter (pss F E) d j v ≤ F := by
    intro j
    induction j with
    | zero => exact hF
    | succ j ih => intro v; exact Int.le_trans (pss_le _ _ v) (ih v)
  intro k
  induction k with
  | zero => exact h
  | succ k ih => exact pss_low E _ (fun _ h => h) hY (pF k) ih
theorem iter_le (k : Nat) (v : Int) : iter (pss F E) d k v ≤ d v := by
  induction k with
  | zero => exact Int.le_refl _
  | succ k ih => exact Int.le_trans (pss_le _ _ v) ih
theorem bf_same {E' : List (Int × Int × Int)} (hG : Gr E n) (hG' : Gr E' n) (hn : 0 < n) (hF : ∀ v, d v ≤ F) (h1 : ∀ e ∈ E, e ∈ E') (h2 : ∀ e ∈ E', e ∈ E) : iter (pss F E) d (n - 1) = iter (pss F E') d (n - 1) := by
  have f1 : ∀ v, iter (pss F E) d (n - 1) v ≤ F := fun v => Int.le_trans (iter_le _ _) (hF v)
  have f2 : ∀ v, iter (pss F E') d (n - 1) v ≤ F := fun v => Int.le_trans (iter_le _ _) (hF v)
  have c1 := clo_pss f1 (bf_main hG hn hF)
  have c2 := clo_pss f2 (bf_main hG' hn hF)
  funext v
  refine Int.le_antisymm ?_ ?_
  · exact bf_great (fun e he hu => c1 e (h2 e he) hu) hF (fun v => iter_le _ _) (n - 1) v
  · exact bf_great (fun e he hu => c2 e (h1 e he) hu) hF (fun v => iter_le _ _) (n - 1) v
end BF
