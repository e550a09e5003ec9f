/-! COMBINATORS of the printed functions -/
def bd2 {α β γ : Type} (o : Option (α × β)) (f : α → β → Option γ) : Option γ := match o with
  | none => none
  | some (x, y) => f x y
def bd3 {α β γ δ : Type} (o : Option (α × β × γ)) (f : α → β → γ → Option δ) : Option δ := match o with
  | none => none
  | some (x, y, z) => f x y z
def bd4 {α β γ δ ε : Type} (o : Option (α × β × γ × δ)) (f : α → β → γ → δ → Option ε) : Option ε := match o with
  | none => none
  | some (x, y, z, u) => f x y z u
theorem bd2_some {α β γ : Type} {o : Option (α × β)} {f : α → β → Option γ} {r : γ} (h : bd2 o f = some r) : ∃ x y, o = some (x, y) ∧ f x y = some r := by
  cases o with
  | none => cases h
  | some q => exact ⟨q.1, q.2, rfl, h⟩
theorem bd3_some {α β γ δ : Type} {o : Option (α × β × γ)} {f : α → β → γ → Option δ} {r : δ} (h : bd3 o f = some r) : ∃ x y z, o = some (x, y, z) ∧ f x y z = some r := by
  cases o with
  | none => cases h
  | some q => exact ⟨q.1, q.2.1, q.2.2, rfl, h⟩
theorem bd4_some {α β γ δ ε : Type} {o : Option (α × β × γ × δ)} {f : α → β → γ → δ → Option ε} {r : ε} (h : bd4 o f = some r) : ∃ x y z u, o = some (x, y, z, u) ∧ f x y z u = some r := by
  cases o with
  | none => cases h
  | some q => exact ⟨q.1, q.2.1, q.2.2.1, q.2.2.2, rfl, h⟩
def okz (x : Int) : Option Unit := if x = 0 ∨ x = 1 then some () else none
def okb (x : Int) : Option Unit := if -128 ≤ x ∧ x < 128 then some () else none
theorem okz_some {x : Int} {u : Unit} (h : okz x = some u) : x = 0 ∨ x = 1 := by
  unfold okz at h; split at h
  · assumption
  · cases h
theorem okb_some {x : Int} {u : Unit} (h : okb x = some u) : -128 ≤ x ∧ x < 128 := by
  unfold okb at h; split at h
  · assumption
  · cases h
def FU : Nat := 1000000
theorem R32_lit {n : Int} (h : (decide (-2147483648 ≤ n) && decide (n < 2147483648)) = true) : R32 n := by
  simp only [Bool.and_eq_true, decide_eq_true_eq] at h; exact h
theorem R64_lit {n : Int} (h : (decide (-9223372036854775808 ≤ n) && decide (n < 9223372036854775808)) = true) : R64 n := by
  simp only [Bool.and_eq_true, decide_eq_true_eq] at h; exact h
theorem nlen_nn {μ : Mem} : 0 ≤ nlen μ := by unfold nlen; omega
theorem isk_nn {c : Nat} {μ : Mem} {a : Int} {u : Unit} (h : isk c μ a = some u) (hc : c ≠ 99) : 0 ≤ a := by
  unfold isk at h
  by_cases q : (kd μ a).1 = c
  · exact (kd_at q hc).1
  · rw [if_neg q] at h; cases h
theorem isk_u {c : Nat} {μ : Mem} {a : Int} {u : Unit} (h : isk c μ a = some u) : isk c μ a = some () := h
section ATD
variable {E : EX} {X : CX} {cc : ByteArray} {nL : Nat} {own : String} {cs : Nat × Nat} {pc : Nat} {lv lv' : List LV} {st : List TV} {μ μ' : Mem}
variable {d n nL' idx : Nat} {y : MethodName} {cc' : ByteArray} {ret : Option FieldType} {rv : Option TV}
/-- calls that make nothing -/
theorem r_invV0 (hX : Good E X cc nL own) {ci : Nat} {a : Int} {As : List TV} (hm : MV own idx ci y (.code y cc' nL' ret) n) (hok : Ok E (cL X) d y (.code y cc' nL' ret) 0 0 ((2, a) :: As) μ rv μ') (hk : isk ci μ a = some ()) (hrm : Rm X d 0 0 cs) (hmx : nL' ≤ 81) (hn : As.length = n) (hw8 : wd st ≤ 8) {st0 : List TV} (hst : st0 = As.reverse ++ (2, a) :: st) (dg : decode cc pc = .ok (.invokevirtual idx, 3))
    (k : rvR rv → At E X cc nL own cs (pc + 3) lv (rv.toList ++ st) μ') : At E X cc nL own cs pc lv st0 μ := r_invV hX hm hok hk hrm hmx hn hw8 hst dg k
theorem r_invS0 (hX : Good E X cc nL own) {As : List TV} (hm : MS own idx y (.code y cc' nL' ret) n) (hok : Ok E (cL X) d y (.code y cc' nL' ret) 0 0 As μ rv μ') (hrm : Rm X d 0 0 cs) (hmx : nL' ≤ 81) (hn : As.length = n) (hw8 : wd st ≤ 8) {st0 : List TV} (hst : st0 = As.reverse ++ st) (dg : decode cc pc = .ok (.invokestatic idx, 3))
    (k : rvR rv → At E X cc nL own cs (pc + 3) lv (rv.toList ++ st) μ') : At E X cc nL own cs pc lv st0 μ := r_invS hX hm hok hrm hmx hn hw8 hst dg k
end ATD
