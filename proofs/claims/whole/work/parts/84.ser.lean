/-! PURE: series of whole numbers -/
section SER
/-- the first n of f added up -/
def sN (f : Nat → Nat) : Nat → Nat
  | 0 => 0
  | n + 1 => sN f n + f n
/-- the product of two series -/
def cN (a b : Nat → Nat) : Nat → Nat
  | 0 => a 0 * b 0
  | n + 1 => a 0 * b (n + 1) + cN (fun k => a (k + 1)) b n
/-- a series times z -/
def zN (a : Nat → Nat) : Nat → Nat
  | 0 => 0
  | n + 1 => a n
def one1 : Nat → Nat
  | 0 => 1
  | _ + 1 => 0
variable {a b c f g x y u v : Nat → Nat} {n m k : Nat}
theorem sN_congr : ∀ n, (∀ j, j < n → f j = g j) → sN f n = sN g n := by
  intro n
  induction n with
  | zero => intro _; rfl
  | succ n ih => intro h; rw [sN, sN, ih (fun j hj => h j (by omega)), h n (by omega)]
theorem sN_front : ∀ n, sN f (n + 1) = f 0 + sN (fun j => f (j + 1)) n := by
  intro n
  induction n with
  | zero => simp [sN]
  | succ n ih => rw [sN, ih, sN]; omega
theorem sN_add : ∀ n, sN (fun j => f j + g j) n = sN f n + sN g n := by
  intro n
  induction n with
  | zero => rfl
  | succ n ih => rw [sN, sN, sN, ih]; omega
theorem sN_zero : ∀ n, (∀ j, j < n → f j = 0) → sN f n = 0 := by
  intro n
  induction n with
  | zero => intro _; rfl
  | succ n ih => intro h; rw [sN, ih (fun j hj => h j (by omega)), h n (by omega)]
theorem cN_sm : ∀ (n : Nat) (a : Nat → Nat), cN a b n = sN (fun j => a j * b (n - j)) (n + 1) := by
  intro n
  induction n with
  | zero => intro a; simp [cN, sN]
  | succ n ih =>
    intro a
    rw [cN, ih, sN_front (f := fun j => a j * b (n + 1 - j)) (n + 1)]
    congr 1
    exact sN_congr _ (fun j hj => by show a (j + 1) * b (n - j) = a (j + 1) * b (n + 1 - (j + 1)); rw [show n + 1 - (j + 1) = n - j by omega])
theorem cN_congr (h : ∀ k, k ≤ n → a k = x k) (h' : ∀ k, k ≤ n → b k = y k) : cN a b n = cN x y n := by
  rw [cN_sm, cN_sm]
  exact sN_congr _ (fun j hj => by show a j * b (n - j) = x j * y (n - j); rw [h j (by omega), h' (n - j) (by omega)])
theorem cN_back : ∀ (n : Nat) (a : Nat → Nat), cN a b (n + 1) = cN a (fun k => b (k + 1)) n + a (n + 1) * b 0 := by
  intro n
  induction n with
  | zero => intro a; simp [cN]
  | succ n ih => intro a; rw [cN, ih, cN]; omega
theorem cN_comm : ∀ (n : Nat) (a b : Nat → Nat), cN a b n = cN b a n := by
  intro n
  induction n with
  | zero => intro a b; simp [cN, Nat.mul_comm]
  | succ n ih => intro a b; rw [cN, ih, cN_back, Nat.mul_comm (a 0)]; omega
theorem cN_addl : ∀ (n : Nat) (a x : Nat → Nat), cN (fun k => a k + x k) b n = cN a b n + cN x b n := by
  intro n
  induction n with
  | zero => intro a x; simp [cN, Nat.add_mul]
  | succ n ih =>
    intro a x
    have := ih (fun k => a (k + 1)) (fun k => x (k + 1))
    rw [cN, cN, cN, this, Nat.add_mul]; omega
theorem cN_addr : cN a (fun k => b k + y k) n = cN a b n + cN a y n := by
  rw [cN_comm, cN_addl, cN_comm n b, cN_comm n y]
theorem cN_scl {q : Nat} : ∀ (n : Nat) (a : Nat → Nat), cN (fun k => q * a k) b n = q * cN a b n := by
  intro n
  induction n with
  | zero => intro a; simp [cN, Nat.mul_assoc]
  | succ n ih =>
    intro a
    have := ih (fun k => a (k + 1))
    rw [cN, cN, this, Nat.mul_add, Nat.mul_assoc]
theorem cN_assoc : ∀ (n : Nat) (a : Nat → Nat), cN (cN a b) c n = cN a (cN b c) n := by
  intro n
  induction n with
  | zero => intro a; simp [cN, Nat.mul_assoc]
  | succ n ih =>
    intro a
    have e : (fun k => cN a b (k + 1)) = fun k => a 0 * b (k + 1) + cN (fun k => a (k + 1)) b k := by funext k; rw [cN]
    rw [cN, e, cN_addl, cN_scl n (fun k => b (k + 1)), ih (fun k => a (k + 1))]
    show a 0 * b 0 * c (n + 1) + (a 0 * cN (fun k => b (k + 1)) c n + cN (fun k => a (k + 1)) (cN b c) n) = a 0 * (b 0 * c (n + 1) + cN (fun k => b (k + 1)) c n) + cN (fun k => a (k + 1)) (cN b c) n
    rw [Nat.mul_add, Nat.mul_assoc]; omega
theorem cN_one : cN one1 b n = b n := by
  have z : ∀ n, cN (fun k => one1 (k + 1)) b n = 0 := fun n => by
    rw [cN_sm]; exact sN_zero _ (fun j _ => by show one1 (j + 1) * _ = 0; rw [one1]; simp)
  cases n with
  | zero => simp [cN, one1]
  | succ n => rw [cN, z]; simp [one1]
theorem cN_zs : cN (zN a) b n = zN (cN a b) n := by
  cases n with
  | zero => simp [cN, zN]
  | succ n =>
    rw [cN, zN]
    have : (fun k => zN a (k + 1)) = a := by funext k; rw [zN]
    rw [this]; simp [zN]
theorem cN_zsr : cN a (zN b) n = zN (cN a b) n := by
  rw [cN_comm, cN_zs]
  cases n with
  | zero => rfl
  | succ n => rw [zN, zN, cN_comm]
theorem zN_congr (h : ∀ k, k < n → a k = b k) : zN a n = zN b n := by
  cases n with
  | zero => rfl
  | succ n => rw [zN, zN]; exact h n (by omega)
theorem zN_add : zN (fun k => a k + b k) n = zN a n + zN b n := by cases n <;> rfl
/-- y = b + z s y has one solution -/
theorem zN_uniq (hx : ∀ n, x n = b n + zN (cN a x) n) (hy : ∀ n, y n = b n + zN (cN a y) n) : ∀ n, x n = y n := by
  intro n
  induction n using Nat.strongRecOn with
  | ind n ih =>
    rw [hx, hy]
    congr 1
    exact zN_congr (fun k hk => cN_congr (fun _ _ => rfl) (fun j hj => ih j (by omega)))
/-- u = 1 + z u (s + g), g' = 1 + z g' s: then u = g' + z g' u g -/
theorem ser_A {s gm gp : Nat → Nat} (hu : ∀ n, u n = one1 n + zN (cN (fun k => s k + gm k) u) n) (hg : ∀ n, gp n = one1 n + zN (cN s gp) n) : ∀ n, u n = gp n + zN (cN gp (cN u gm)) n := by
  -- both solve y = (1 + z u gm) + z s y
  have h1 : ∀ n, u n = (one1 n + zN (cN u gm) n) + zN (cN s u) n := fun n => by
    have e : zN (cN (fun k => s k + gm k) u) n = zN (fun k => cN s u k + cN u gm k) n := zN_congr (fun k _ => by rw [cN_addl, cN_comm k gm u])
    rw [zN_add] at e
    have := hu n
    rw [e] at this; omega
  have h2 : ∀ n, gp n + zN (cN gp (cN u gm)) n = (one1 n + zN (cN u gm) n) + zN (cN s (fun k => gp k + zN (cN gp (cN u gm)) k)) n := fun n => by
    have e : zN (cN s (fun k => gp k + zN (cN gp (cN u gm)) k)) n = zN (fun k => cN s gp k + zN (cN (cN s gp) (cN u gm)) k) n := zN_congr (fun k _ => by
      rw [cN_addr, cN_zsr]
      congr 1
      exact zN_congr (fun j _ => (cN_assoc j s).symm))
    rw [zN_add] at e
    have e2 : zN (cN gp (cN u gm)) n = zN (fun k => cN u gm k + zN (cN (cN s gp) (cN u gm)) k) n := zN_congr (fun k _ => by
      have : cN gp (cN u gm) k = cN (fun j => one1 j + zN (cN s gp) j) (cN u gm) k := cN_congr (fun j _ => hg j) (fun _ _ => rfl)
      rw [this, cN_addl, cN_one, cN_zs])
    rw [zN_add] at e2
    have := hg n
    rw [e, e2]; omega
  exact zN_uniq (a := s) (b := fun n => one1 n + zN (cN u gm) n) h1 h2
/-- u gm = v gp -/
theorem ser_B {gm gp : Nat → Nat} (hu : ∀ n, u n = gp n + zN (cN gp (cN u gm)) n) (hv : ∀ n, v n = gm n + zN (cN gm (cN v gp)) n) : ∀ n, cN u gm n = cN v gp n := by
  -- both solve y = gm gp + z (gm gp) y
  have h1 : ∀ n, cN u gm n = cN gp gm n + zN (cN (cN gp gm) (cN u gm)) n := fun n => by
    have : cN u gm n = cN (fun j => gp j + zN (cN gp (cN u gm)) j) gm n := cN_congr (fun j _ => hu j) (fun _ _ => rfl)
    rw [this, cN_addl, cN_zs]
    congr 1
    exact zN_congr (fun k _ => by rw [cN_comm k _ gm, ← cN_assoc k gm, cN_congr (x := cN gp gm) (fun j _ => cN_comm j gm gp) (fun _ _ => rfl)])
  have h2 : ∀ n, cN v gp n = cN gp gm n + zN (cN (cN gp gm) (cN v gp)) n := fun n => by
    have : cN v gp n = cN (fun j => gm j + zN (cN gm (cN v gp)) j) gp n := cN_congr (fun j _ => hv j) (fun _ _ => rfl)
    rw [this, cN_addl, cN_zs, cN_comm n gm gp]
    congr 1
    exact zN_congr (fun k _ => by rw [cN_comm k _ gp, ← cN_assoc k gp])
  exact zN_uniq h1 h2
/-- v = gm + z gm (u gm) -/
theorem ser_C {gm gp : Nat → Nat} (hu : ∀ n, u n = gp n + zN (cN gp (cN u gm)) n) (hv : ∀ n, v n = gm n + zN (cN gm (cN v gp)) n) : ∀ n, v n = gm n + zN (cN gm (cN u gm)) n := fun n => by
  rw [hv n]
  congr 1
  exact zN_congr (fun k _ => cN_congr (fun _ _ => rfl) (fun j _ => (ser_B hu hv j).symm))
end SER
