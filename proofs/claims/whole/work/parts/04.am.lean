/-! MEMORY: cells by number; a cell has a kind, a length and numbers. Kinds 0..12: objects of the classes; 20 int[], 21 long[], 22 byte[], 23 boolean[], 24 Traveller[], 25 World[], 26 Numbers[], 27 int[][] -/
abbrev Mem : Type := List (Nat × Nat) × (Int → Int → Int)
def ftys : Nat → List Nat := fun c => match c with
  | 0 => [2, 2, 2, 2, 2, 0, 0, 0]
  | 1 => [0, 0, 0, 0, 0, 0, 0, 0, 2, 2, 2, 2, 2]
  | 2 => [2, 0, 0, 0]
  | 3 => [2, 0, 0, 2, 0, 0, 0, 0, 0]
  | 4 => [0, 0, 0, 0]
  | 5 => [0, 0, 0, 2, 2, 2, 2, 2, 0, 0]
  | 6 => [0, 0, 0, 0, 0, 0, 2, 2, 2]
  | 7 => [2, 2]
  | 8 => [2, 2, 2, 0, 0, 0]
  | 9 => [2, 2]
  | 10 => [2, 2, 2, 0, 0, 0]
  | 11 => [2, 0, 0, 0, 2, 2, 2, 2, 2, 2, 2, 2, 2, 2, 2, 2]
  | 12 => [0, 2, 2, 2, 2, 0, 0, 0, 0, 0, 0, 0, 0, 0, 0, 0, 2, 0, 2, 2, 2, 2, 2, 0, 0, 0, 2, 2, 2, 0, 0, 0, 0, 2, 2, 2, 0, 2, 0, 2, 0, 2, 2, 2, 2, 2, 2, 2, 2, 2, 2, 2]
  | _ => []
def tyOf (c : Nat) (k : Int) : Nat := if c < 20 then (ftys c).getD k.toNat 0 else if c = 21 then 1 else if 24 ≤ c then 2 else 0
def kd (μ : Mem) (a : Int) : Nat × Nat := if a < 0 then (99, 0) else (μ.1[a.toNat]?).getD (99, 0)
def upV (V : Int → Int → Int) (a i x : Int) : Int → Int → Int := fun b j => if b = a ∧ j = i then x else V b j
def getf (c : Nat) (k : Int) (μ : Mem) (a : Int) : Option Int := if (kd μ a).1 = c then some (μ.2 a k) else none
def putf (c : Nat) (k : Int) (μ : Mem) (a x : Int) : Option Mem := if (kd μ a).1 = c then some (μ.1, upV μ.2 a k x) else none
def lda (c : Nat) (μ : Mem) (a i : Int) : Option Int := if (kd μ a).1 = c ∧ 0 ≤ i ∧ i < (kd μ a).2 then some (μ.2 a i) else none
def sta (c : Nat) (μ : Mem) (a i x : Int) : Option Mem := if (kd μ a).1 = c ∧ 0 ≤ i ∧ i < (kd μ a).2 then some (μ.1, upV μ.2 a i x) else none
def alen (c : Nat) (μ : Mem) (a : Int) : Option Int := if (kd μ a).1 = c ∧ (kd μ a).2 < 2147483648 then some ((kd μ a).2 : Int) else none
def isk (c : Nat) (μ : Mem) (a : Int) : Option Unit := if (kd μ a).1 = c then some () else none
def newc (c n : Nat) (μ : Mem) : Mem := (μ.1 ++ [(c, n)], fun b j => if b = (μ.1.length : Int) then (if tyOf c j = 2 then -1 else 0) else μ.2 b j)
def nlen (μ : Mem) : Int := (μ.1.length : Int)
def rng (c : Nat) (k x : Int) : Prop := match tyOf c k with
  | 0 => R32 x
  | 1 => R64 x
  | _ => True
def Can (μ : Mem) : Prop := ∀ a j : Int, rng (kd μ a).1 j (μ.2 a j)
/-! THE MACHINE'S HEAP, out of a memory -/
abbrev EX : Type := va_G × (Nat → ClassId) × Nat × (Nat → Nat) × (Nat → Nat)
def eD (E : EX) : va_G := E.1
def eC (E : EX) : Nat → ClassId := E.2.1
def eB (E : EX) : Nat := E.2.2.1
def eS (E : EX) : Nat → Nat := E.2.2.2.1
def eV (E : EX) : Nat → Nat := E.2.2.2.2
def ro (E : EX) (x : Int) : Option Nat := if x < -1 then some (eS E (-2 - x).toNat) else if x = -1 then none else some (eB E + x.toNat)
def vr (E : EX) (x : Int) : Value := va_rf (ro E x)
def tv (E : EX) (t : Nat) (x : Int) : Value := match t with
  | 0 => vi x
  | 1 => vl x
  | _ => vr E x
def fvs (E : EX) (c : Nat) (f : Int → Int) : List Value := (ftys c).mapIdx (fun j t => tv E t (f j))
def arE (E : EX) (c n : Nat) (f : Int → Int) : vp_A := (n, if c = 21 then .inr (.inl fun j => Int64.ofInt (f j)) else if 24 ≤ c then .inr (.inr (.inr (.inr fun j => ro E (f j)))) else .inl fun j => Int32.ofInt (f j))
def cE (E : EX) (q : Nat × Nat) (f : Int → Int) : va_E := if q.1 < 20 then .inr (q.1, fvs E q.1 f) else .inl (eC E q.1, arE E q.1 q.2 f)
def wsOf (E : EX) (μ : Mem) : va_W := μ.1.mapIdx (fun k q => (eB E + k, cE E q (μ.2 k)))
def AE (E : EX) : Nat → Prop := fun q => eB E ≤ q
def TYS (E : EX) : List (ClassId × FieldType) := [(eC E 20, .int), (eC E 21, .long), (eC E 22, .byte), (eC E 23, .boolean), (eC E 24, .object "TollsBack$Traveller"), (eC E 25, .object "TollsBack$World"), (eC E 26, .object "TollsBack$Numbers"), (eC E 27, .array .int)]
def RepH (E : EX) (μ : Mem) (H : Heap) : Prop := va_P (eD E) vwCl (wsOf E μ) H ∧ H.size = eB E + μ.1.length ∧ Can μ
theorem ws_at {E : EX} {μ : Mem} {k : Nat} {q : Nat × Nat} (h : μ.1[k]? = some q) : (wsOf E μ)[k]? = some (eB E + k, cE E q (μ.2 k)) := by
  simp [wsOf, List.getElem?_mapIdx, h]
theorem kd_at {μ : Mem} {a : Int} {c : Nat} (h : (kd μ a).1 = c) (hc : c ≠ 99) : 0 ≤ a ∧ μ.1[a.toNat]? = some (kd μ a) := by
  unfold kd at *
  by_cases h0 : a < 0
  · rw [if_pos h0] at h; exact absurd h.symm hc
  · refine ⟨by omega, ?_⟩
    rw [if_neg h0] at h ⊢
    cases hq : μ.1[a.toNat]? with
    | none => rw [hq] at h; exact absurd h.symm hc
    | some q => rfl
theorem ro_pos {E : EX} {a : Int} (h : 0 ≤ a) : ro E a = some (eB E + a.toNat) := by
  unfold ro; rw [if_neg (by omega), if_neg (by omega)]
theorem vr_pos {E : EX} {a : Int} (h : 0 ≤ a) : vr E a = .ref (eB E + a.toNat) := by
  unfold vr; rw [ro_pos h]; rfl
theorem vr_neg {E : EX} : vr E (-1) = .null := rfl
theorem ws_len {E : EX} {μ : Mem} : (wsOf E μ).length = μ.1.length := by simp [wsOf]
theorem ws_D {E : EX} {μ : Mem} : va_D (AE E) (wsOf E μ) := by
  refine ⟨fun i j p q hi hj hpq => ?_, fun k q hk => ?_⟩
  · simp only [wsOf, List.getElem?_mapIdx, Option.map_eq_some_iff] at hi hj
    obtain ⟨x, -, rfl⟩ := hi
    obtain ⟨y, -, rfl⟩ := hj
    have : eB E + i = eB E + j := hpq
    omega
  · simp only [wsOf, List.getElem?_mapIdx, Option.map_eq_some_iff] at hk
    obtain ⟨x, -, rfl⟩ := hk
    exact Nat.le_add_right _ _
theorem ws_set {E : EX} {μ : Mem} {k : Nat} {q : Nat × Nat} (h : μ.1[k]? = some q) (i x : Int) : wsOf E (μ.1, upV μ.2 k i x) = (wsOf E μ).set k (eB E + k, cE E q (upV μ.2 k i x k)) := by
  apply List.ext_getElem?
  intro j
  rw [List.getElem?_set]
  have hk : k < μ.1.length := (List.getElem?_eq_some_iff.mp h).1
  by_cases hj : k = j
  · subst hj
    rw [if_pos rfl, if_pos (by rw [ws_len]; exact hk)]
    exact ws_at (μ := (μ.1, upV μ.2 k i x)) h
  · rw [if_neg hj]
    simp only [wsOf, List.getElem?_mapIdx]
    cases μ.1[j]? with
    | none => rfl
    | some q' =>
      have : upV μ.2 k i x j = μ.2 j := by
        funext y; unfold upV; rw [if_neg]; intro z; exact hj (by omega)
      simp [this]
theorem kd_up {μ : Mem} {b : Int} {V : Int → Int → Int} : kd (μ.1, V) b = kd μ b := rfl
theorem Can_up {μ : Mem} (h : Can μ) {a i x : Int} (hx : rng (kd μ a).1 i x) : Can (μ.1, upV μ.2 a i x) := by
  intro b j
  show rng (kd μ b).1 j (upV μ.2 a i x b j)
  unfold upV
  split
  · rename_i z; obtain ⟨rfl, rfl⟩ := z; exact hx
  · exact h b j
theorem fvs_at {E : EX} {c k t : Nat} {f : Int → Int} (h : (ftys c)[k]? = some t) : (fvs E c f)[k]? = some (tv E t (f k)) := by
  simp [fvs, List.getElem?_mapIdx, h]
theorem fvs_set {E : EX} {c k t : Nat} {V : Int → Int → Int} {a x : Int} (h : (ftys c)[k]? = some t) : fvs E c (upV V a k x a) = (fvs E c (V a)).set k (tv E t x) := by
  apply List.ext_getElem?
  intro j
  rw [List.getElem?_set]
  have hk : k < (ftys c).length := (List.getElem?_eq_some_iff.mp h).1
  by_cases hj : k = j
  · subst hj
    rw [if_pos rfl, if_pos (by simp [fvs]; exact hk), fvs_at h]
    simp [upV]
  · rw [if_neg hj]
    simp only [fvs, List.getElem?_mapIdx]
    cases (ftys c)[j]? with
    | none => rfl
    | some t' =>
      have : upV V a k x a j = V a j := by unfold upV; rw [if_neg]; intro z; exact hj (by omega)
      simp [this]
theorem RepH.up {E : EX} {μ : Mem} {H H1 : Heap} {a i x : Int} (h : RepH E μ H) (ha : 0 ≤ a) {q : Nat × Nat} (hq : μ.1[a.toNat]? = some q) (hx : rng q.1 i x) (z : H1.size = H.size)
    (hP : va_P (eD E) vwCl ((wsOf E μ).set a.toNat (eB E + a.toNat, cE E q (upV μ.2 a i x a))) H1) : RepH E (μ.1, upV μ.2 a i x) H1 := by
  obtain ⟨n, rfl⟩ : ∃ n : Nat, a = n := ⟨a.toNat, by omega⟩
  simp only [Int.toNat_natCast] at hq hP
  refine ⟨by rw [ws_set hq]; exact hP, by rw [z]; exact h.2.1, Can_up h.2.2 ?_⟩
  have : kd μ (n : Int) = q := by unfold kd; rw [if_neg (by omega)]; simp [hq]
  rw [this]; exact hx
