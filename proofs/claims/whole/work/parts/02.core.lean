/-! NUMBERS: whole numbers that stand for the machine's ints and longs -/
def w32 (x : Int) : Int := (Int32.ofInt x).toInt
def w64 (x : Int) : Int := (Int64.ofInt x).toInt
def R32 (x : Int) : Prop := -2147483648 ≤ x ∧ x < 2147483648
def R64 (x : Int) : Prop := -9223372036854775808 ≤ x ∧ x < 9223372036854775808
def vi (x : Int) : Value := .int (Int32.ofInt x)
def vl (x : Int) : Value := .long (Int64.ofInt x)
theorem w32_id {x : Int} (h1 : -2147483648 ≤ x) (h2 : x < 2147483648) : w32 x = x := Int32.toInt_ofInt_of_le (by simpa using h1) (by simpa using h2)
theorem w32_R {x : Int} (h : R32 x) : w32 x = x := w32_id h.1 h.2
theorem w64_id {x : Int} (h1 : -9223372036854775808 ≤ x) (h2 : x < 9223372036854775808) : w64 x = x := Int64.toInt_ofInt_of_le (by simpa using h1) (by simpa using h2)
theorem w64_R {x : Int} (h : R64 x) : w64 x = x := w64_id h.1 h.2
theorem R32_t (x : Int32) : R32 x.toInt := ⟨by have := x.le_toInt; simpa using this, by have := x.toInt_lt; simpa using this⟩
theorem R64_t (x : Int64) : R64 x.toInt := ⟨by have := x.le_toInt; simpa using this, by have := x.toInt_lt; simpa using this⟩
theorem R32_w (x : Int) : R32 (w32 x) := R32_t _
theorem R64_w (x : Int) : R64 (w64 x) := R64_t _
theorem R64_of {x : Int} (h : R32 x) : R64 x := ⟨by have := h.1; omega, by have := h.2; omega⟩
theorem i32_t (x : Int32) : Int32.ofInt x.toInt = x := Int32.ofInt_toInt x
theorem i64_t (x : Int64) : Int64.ofInt x.toInt = x := Int64.ofInt_toInt x
theorem i32_w (x : Int) : Int32.ofInt (w32 x) = Int32.ofInt x := i32_t _
theorem i64_w (x : Int) : Int64.ofInt (w64 x) = Int64.ofInt x := i64_t _
theorem vi_t (x : Int32) : vi x.toInt = .int x := by rw [vi, i32_t]
theorem vl_t (x : Int64) : vl x.toInt = .long x := by rw [vl, i64_t]
theorem i32_lt {x y : Int} (hx : R32 x) (hy : R32 y) : (Int32.ofInt x < Int32.ofInt y) ↔ x < y := by
  rw [Int32.lt_iff_toInt_lt]; show w32 x < w32 y ↔ _; rw [w32_R hx, w32_R hy]
theorem i32_le {x y : Int} (hx : R32 x) (hy : R32 y) : (Int32.ofInt x ≤ Int32.ofInt y) ↔ x ≤ y := by
  rw [Int32.le_iff_toInt_le]; show w32 x ≤ w32 y ↔ _; rw [w32_R hx, w32_R hy]
theorem i32_eq {x y : Int} (hx : R32 x) (hy : R32 y) : (Int32.ofInt x = Int32.ofInt y) ↔ x = y := by
  rw [← Int32.toInt_inj]; show w32 x = w32 y ↔ _; rw [w32_R hx, w32_R hy]
theorem i64_lt {x y : Int} (hx : R64 x) (hy : R64 y) : (Int64.ofInt x < Int64.ofInt y) ↔ x < y := by
  rw [Int64.lt_iff_toInt_lt]; show w64 x < w64 y ↔ _; rw [w64_R hx, w64_R hy]
theorem i64_eq {x y : Int} (hx : R64 x) (hy : R64 y) : (Int64.ofInt x = Int64.ofInt y) ↔ x = y := by
  rw [← Int64.toInt_inj]; show w64 x = w64 y ↔ _; rw [w64_R hx, w64_R hy]
theorem i32_0 : (0 : Int32) = Int32.ofInt 0 := by decide
theorem R32_0 : R32 0 := by unfold R32; decide
def and32 (a b : Int) : Int := (Int32.ofInt a &&& Int32.ofInt b).toInt
def or32 (a b : Int) : Int := (Int32.ofInt a ||| Int32.ofInt b).toInt
def xor32 (a b : Int) : Int := (Int32.ofInt a ^^^ Int32.ofInt b).toInt
def shl32 (a b : Int) : Int := (Int32.ofInt a <<< (Int32.ofInt b &&& 31)).toInt
def shr32 (a b : Int) : Int := (Int32.ofInt a >>> (Int32.ofInt b &&& 31)).toInt
def ushr32 (a b : Int) : Int := ((Int32.ofInt a).toUInt32 >>> ((Int32.ofInt b).toUInt32 &&& Int32.toUInt32 31)).toInt32.toInt
def and64 (a b : Int) : Int := (Int64.ofInt a &&& Int64.ofInt b).toInt
def or64 (a b : Int) : Int := (Int64.ofInt a ||| Int64.ofInt b).toInt
def shl64 (a b : Int) : Int := (Int64.ofInt a <<< ((Int32.ofInt b).toInt64 &&& 63)).toInt
def w8 (a : Int) : Int := (Int32.ofInt a).toInt8.toInt32.toInt
def w16 (a : Int) : Int := (Int32.ofInt a).toInt16.toInt32.toInt
def cmp64 (a b : Int) : Int := if b < a then 1 else if a = b then 0 else -1
theorem R32_cmp (a b : Int) : R32 (cmp64 a b) := by unfold cmp64 R32; split <;> (try split) <;> omega
def div32 (a b : Int) : Option Int := if b = 0 then none else some (Int32.ofInt a / Int32.ofInt b).toInt
def rem32 (a b : Int) : Option Int := if b = 0 then none else some (Int32.ofInt a - (Int32.ofInt a / Int32.ofInt b) * Int32.ofInt b).toInt
def div64 (a b : Int) : Option Int := if b = 0 then none else some (Int64.ofInt a / Int64.ofInt b).toInt
def rem64 (a b : Int) : Option Int := if b = 0 then none else some (Int64.ofInt a - (Int64.ofInt a / Int64.ofInt b) * Int64.ofInt b).toInt
/-! OPTION -/
def bd {α β : Type} (o : Option α) (f : α → Option β) : Option β := match o with
  | none => none
  | some x => f x
theorem bd_some {α β : Type} {o : Option α} {f : α → Option β} {r : β} (h : bd o f = some r) : ∃ x, o = some x ∧ f x = some r := by
  cases o with
  | none => cases h
  | some x => exact ⟨x, rfl, h⟩
