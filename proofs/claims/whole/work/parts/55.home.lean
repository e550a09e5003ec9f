/-! PURE: the class's homeCost -/
section HOME
variable {sh : List (Nat × Nat)} {V V' V1 V2 V2' : Int → Int → Int} {r t s c i j k x a b y D D' f p v q h u day : Int} {S S' R W : Int → Int} {n : Nat} {d d' : Int → Int} {wt : Int → Int} {dk wk : Nat → Int}
/-- a value stands for a way without rounds: its places, its roads, its bounds -/
def Pv (n : Nat) (base j : Int) (d : Int → Int) (v : Int) : Prop := (0 ≤ v ∧ v < n) ∧ (∃ L : List Int, L.Nodup ∧ (∀ x ∈ L, (0 ≤ x ∧ x < n) ∧ d x < d v) ∧ d v % 1024 ≤ base + L.length) ∧ -1022976 * j ≤ d v ∧ d v ≤ 1022977 * (d v % 1024)
def Iv (n : Nat) (base j : Int) (d : Int → Int) : Prop := ∀ v, d v = 2147483647 ∨ Pv n base j d v
theorem Pv_len {base : Int} (h : Pv n base j d v) : d v % 1024 ≤ base + n - 1 := by
  obtain ⟨h0, ⟨L, l1, l2, l3⟩, -⟩ := h
  have := pigeon n (v :: L) (List.nodup_cons.mpr ⟨fun hm => by have := (l2 v hm).2; omega, l1⟩) (fun x hx => by
    rcases List.mem_cons.mp hx with rfl | hx
    · exact h0
    · exact (l2 x hx).1)
  rw [List.length_cons] at this
  omega
theorem Pv_rng {base : Int} (h : Pv n base j d v) (hn : n ≤ 12) (hb : base ≤ 492) (hj : j ≤ 41) : -42000000 ≤ d v ∧ d v ≤ 600000000 ∧ 0 ≤ d v % 1024 ∧ d v % 1024 ≤ 503 := by
  have h1 := Pv_len h
  obtain ⟨-, -, h2, h3⟩ := h
  have h4 := Int.emod_nonneg (d v) (b := 1024) (by decide)
  generalize d v % 1024 = m at *
  omega
theorem Iv_Rg {base : Int} (h : Iv n base j d) (hn : n ≤ 12) (hb : base ≤ 492) (hj : j ≤ 41) : Rg d := fun v => by
  rcases h v with q | q
  · exact Or.inl q
  · have := Pv_rng q hn hb hj; exact Or.inr (by omega)
/-- how a step adds -/
theorem add_road (h0 : 0 ≤ x % 1024) (h1 : x % 1024 ≤ 503) : (x + (t * 1024 + 1)) % 1024 = x % 1024 + 1 ∧ (x + (t * 1024 + 1)) / 1024 = x / 1024 + t := by omega
theorem Iv_rlx {base : Int} (h : Iv n base j d) (hn : n ≤ 12) (hb : base ≤ 492) (hj : j ≤ 41) (ha : 0 ≤ a ∧ a < n) (hv : 0 ≤ b ∧ b < n) (ht : 0 ≤ t ∧ t ≤ 999) : Iv n base j (rlx 2147483647 d (a, b, t * 1024 + 1)) := by
  show Iv n base j (if d a = 2147483647 ∨ d b ≤ d a + (t * 1024 + 1) then d else up d b (d a + (t * 1024 + 1)))
  split
  · exact h
  · rename_i q
    have q1 : ¬ d a = 2147483647 := fun e => q (Or.inl e)
    have q2 : ¬ d b ≤ d a + (t * 1024 + 1) := fun e => q (Or.inr e)
    rcases h a with e | pa
    · exact absurd e q1
    · have ra := Pv_rng pa hn hb hj
      obtain ⟨-, ⟨L, l1, l2, l3⟩, l4, l5⟩ := pa
      have ad := add_road (t := t) ra.2.2.1 ra.2.2.2
      have hab : a ≠ b := fun e => by rw [e] at q2; omega
      have hFb : d b ≤ 2147483647 := by
        rcases h b with e | pb
        · omega
        · have := Pv_rng pb hn hb hj; omega
      intro x
      show up d b (d a + (t * 1024 + 1)) x = 2147483647 ∨ _
      by_cases hx : x = b
      · subst hx
        rw [upS_eq]
        refine Or.inr ⟨hv, ⟨a :: L, List.nodup_cons.mpr ⟨fun hm => by have := (l2 a hm).2; omega, l1⟩, fun y hy => ?_, ?_⟩, ?_, ?_⟩
        · rw [upS_eq]
          rcases List.mem_cons.mp hy with rfl | hy
          · rw [upS_ne hab]; exact ⟨ha, by omega⟩
          · have := l2 y hy
            rw [upS_ne (fun e => by rw [e] at this; omega)]; exact ⟨this.1, by omega⟩
        · rw [upS_eq, ad.1, List.length_cons]; omega
        · rw [upS_eq]; omega
        · rw [upS_eq, ad.1]; omega
      · rw [upS_ne hx]
        rcases h x with e | ⟨p1, ⟨M, m1, m2, m3⟩, p3, p4⟩
        · exact Or.inl e
        · refine Or.inr ⟨p1, ⟨M, m1, fun y hy => ?_, ?_⟩, ?_, ?_⟩
          · rw [upS_ne hx]
            have := m2 y hy
            by_cases ey : y = b
            · subst ey; rw [upS_eq]; exact ⟨this.1, by omega⟩
            · rw [upS_ne ey]; exact this
          · rw [upS_ne hx]; exact m3
          · rw [upS_ne hx]; exact p3
          · rw [upS_ne hx]; exact p4
theorem Iv_slip {base : Int} (h : Iv n base j d) (hn : n ≤ 12) (hn0 : 1 ≤ n) (hb : base ≤ 480) (hb0 : 0 ≤ base) (hj : j ≤ 40) (hj0 : 0 ≤ j) (hv : 0 ≤ b ∧ b < n) (ht : 0 ≤ t ∧ t ≤ 999) : Iv n (base + 12) (j + 1) (rlx 2147483647 d (a, b, 1 - 1024 * t)) := by
  have old : ∀ x, d x ≠ 2147483647 → (0 ≤ x ∧ x < n) ∧ d x % 1024 ≤ base + 11 ∧ -1022976 * j ≤ d x ∧ d x ≤ 1022977 * (d x % 1024) ∧ 0 ≤ d x % 1024 := fun x hx => by
    rcases h x with e | px
    · exact absurd e hx
    · have h1 := Pv_len px
      have h2 := Pv_rng px hn (by omega) (by omega)
      obtain ⟨p1, -, p3, p4⟩ := px
      exact ⟨p1, by omega, p3, p4, h2.2.2.1⟩
  show Iv n (base + 12) (j + 1) (if d a = 2147483647 ∨ d b ≤ d a + (1 - 1024 * t) then d else up d b (d a + (1 - 1024 * t)))
  split
  · intro x
    by_cases hx : d x = 2147483647
    · exact Or.inl hx
    · obtain ⟨o1, o2, o3, o4, o5⟩ := old x hx
      exact Or.inr ⟨o1, ⟨[], List.nodup_nil, fun y hy => (by cases hy), by simp; omega⟩, by omega, o4⟩
  · rename_i q
    have q1 : ¬ d a = 2147483647 := fun e => q (Or.inl e)
    obtain ⟨o1, o2, o3, o4, o5⟩ := old a q1
    have e1 : (d a + (1 - 1024 * t)) % 1024 = d a % 1024 + 1 := by omega
    intro x
    show up d b (d a + (1 - 1024 * t)) x = 2147483647 ∨ _
    by_cases hx : x = b
    · subst hx
      refine Or.inr ⟨hv, ⟨[], List.nodup_nil, fun y hy => (by cases hy), by rw [upS_eq]; simp; omega⟩, by rw [upS_eq]; omega, by rw [upS_eq, e1]; omega⟩
    · rw [upS_ne hx]
      by_cases hx' : d x = 2147483647
      · exact Or.inl hx'
      · obtain ⟨o1, o2, o3, o4, o5⟩ := old x hx'
        exact Or.inr ⟨o1, ⟨[], List.nodup_nil, fun y hy => (by cases hy), by rw [upS_ne hx]; simp; omega⟩, by rw [upS_ne hx]; omega, by rw [upS_ne hx]; exact o4⟩
/-- the weights of roads home on a day -/
def wtH (S : Int → Int) (day r : Int) : Int := sToll S r day * 1024 + 1
theorem wtH_rng (K : KOk S) (h0 : 0 ≤ r) (h1 : r < S 7) : 0 < wtH S day r ∧ wtH S day r ≤ 1000000000 := by
  have := sToll_rng (d := day) K h0 h1
  unfold wtH; omega
theorem Iv_edg {base : Int} (K : KOk S) (hb : base ≤ 492) (hj : j ≤ 41) : ∀ d e, Iv (S 0).toNat base j d → e ∈ edg S (wtH S day) (S 7).toNat → Iv (S 0).toNat base j (rlx 2147483647 d e) := by
  intro d e h he
  obtain ⟨r, h1, h2, h3⟩ := edg_mem _ he
  obtain ⟨z1, z2, z3, z4, -⟩ := id K
  have hr := K.2.2.2.2.2.2.2.2.2.2.2.2.2 r (by omega) (by omega)
  have ht := sToll_rng (d := day) K (r := r) (by omega) (by omega)
  rcases h3 with rfl | rfl
  · exact Iv_rlx h (by omega) hb hj (by omega) (by omega) ht
  · exact Iv_rlx h (by omega) hb hj (by omega) (by omega) ht
/-- the rows home: after j slips from the top -/
def d0H (t : Int) : Int → Int := up (fun _ => 2147483647) t 0
def slE (S : Int → Int) (dk wk : Nat → Int) (k : Nat) : Int × Int × Int := (sHead S (dk k), sTail S (dk k), 1 - 1024 * wk k)
def hmR (S wt : Int → Int) (dk wk : Nat → Int) (M : Nat) (t : Int) : Nat → Int → Int
  | 0 => stl S wt (d0H t)
  | j + 1 => if S (128 + dk (M - 1 - j) / 2) = 0 then stl S wt (rlx 2147483647 (hmR S wt dk wk M t j) (slE S dk wk (M - 1 - j))) else hmR S wt dk wk M t j
/-- slips that can be -/
def SLs (S : Int → Int) (dk wk : Nat → Int) (M : Nat) : Prop := M ≤ 41 ∧ ∀ k, k < M → (0 ≤ dk k ∧ dk k < 2 * S 7) ∧ 0 ≤ wk k ∧ wk k ≤ 999
theorem sTail_rng (K : KOk S) (h0 : 0 ≤ p) (h1 : p < 2 * S 7) : 0 ≤ sTail S p ∧ sTail S p < S 0 := by
  obtain ⟨z1, z2, z3, z4, z5, z6, z7, z8, z9, z10, z11, z12, z13, zr⟩ := K
  have := zr (p / 2) (by omega) (by omega)
  unfold sTail; split <;> omega
theorem Iv_d0 (h0 : 0 ≤ t) (h1 : t < n) : Iv n 0 0 (d0H t) := fun v => by
  unfold d0H
  by_cases e : v = t
  · subst e
    exact Or.inr ⟨⟨h0, h1⟩, ⟨[], List.nodup_nil, fun y hy => (by cases hy), by rw [upS_eq]; simp⟩, by rw [upS_eq]; omega, by rw [upS_eq]; omega⟩
  · rw [upS_ne e]; exact Or.inl rfl
theorem hmR_ok (K : KOk S) {M : Nat} (hs : SLs S dk wk M) (h0 : 0 ≤ t) (h1 : t < S 0) : ∀ j : Nat, j ≤ M → Iv (S 0).toNat (12 * j) j (hmR S (wtH S day) dk wk M t j) ∧ pss 2147483647 (edg S (wtH S day) (S 7).toNat) (hmR S (wtH S day) dk wk M t j) = hmR S (wtH S day) dk wk M t j := by
  obtain ⟨z1, z2, z3, z4, -⟩ := id K
  have hG := Gr_edg (S := S) (wt := wtH S day) K (fun r hr => (wtH_rng K (by omega) hr).1) (m := (S 7).toNat) (by omega)
  have stlok : ∀ {base j : Int} {d : Int → Int}, base ≤ 492 → j ≤ 41 → Iv (S 0).toNat base j d → Iv (S 0).toNat base j (stl S (wtH S day) d) ∧ pss 2147483647 (edg S (wtH S day) (S 7).toNat) (stl S (wtH S day) d) = stl S (wtH S day) d := fun {base j d} hb hj hd => ⟨Iv_iter _ (Iv_edg K hb hj) hd _, bf_main hG (by omega) (Rg_F (Iv_Rg hd (by omega) hb hj))⟩
  intro j
  induction j with
  | zero =>
    intro _
    have := stlok (base := 0) (j := 0) (by decide) (by decide) (Iv_d0 (n := (S 0).toNat) h0 (by omega))
    simpa [hmR] using this
  | succ j ih =>
    intro hj
    obtain ⟨i1, i2⟩ := ih (by omega)
    have hM := hs.1
    obtain ⟨k1, k2⟩ := hs.2 (M - 1 - j) (by omega)
    have tr := sTail_rng K k1.1 k1.2
    rw [hmR]
    split
    · have I2 := Iv_slip (a := sHead S (dk (M - 1 - j))) (b := sTail S (dk (M - 1 - j))) (t := wk (M - 1 - j)) i1 (by omega) (by omega) (by omega) (by omega) (by omega) (by omega) (by omega) k2
      rw [show 12 * (j : Int) + 12 = 12 * ((j + 1 : Nat) : Int) by omega, show (j : Int) + 1 = ((j + 1 : Nat) : Int) by omega] at I2
      exact stlok (by omega) (by omega) I2
    · refine ⟨fun v => ?_, i2⟩
      rcases i1 v with e | ⟨p1, ⟨L, l1, l2, l3⟩, p3, p4⟩
      · exact Or.inl e
      · exact Or.inr ⟨p1, ⟨L, l1, l2, by omega⟩, by omega, p4⟩
theorem shl10 (h0 : 0 ≤ x) (h1 : x ≤ 999) : shl32 x 10 = x * 1024 := by
  obtain ⟨m, rfl⟩ := Int.eq_ofNat_of_zero_le h0
  have := shl_nat (a := m) (r := 10) (by decide) (by omega)
  rw [show ((10 : Nat) : Int) = 10 from rfl] at this
  rw [this]; omega
theorem hw_T (X : Cx sh V S D) (h0 : 0 ≤ i) (h1 : i < S 152) {kk : Int → Int → Int → Int → Int → Mem → Option (Int × Mem)} {ho : Int} : ∀ (n z : Nat) (W : Int → Int), (z : Int) ≤ S 7 → (S 7).toNat - z < n → (∀ r : Nat, r < z → W r = wtH S (S (159 + i)) r) → ∃ W', (∀ r : Nat, (r : Int) < S 7 → W' r = wtH S (S (159 + i)) r) ∧ Wy_homeCost_L9 kk n 64 2 (11 + 4 * i) ho 3 z (sh, setR V 66 W) = kk 64 2 (11 + 4 * i) ho 3 (sh, setR V 66 W') := by
  have H := X.1
  obtain ⟨r1, r2, r3, r4, r5, r6, r7⟩ := Cx_rng X
  obtain ⟨t1, t2, t3, t4, -⟩ := Cx_tr X h0 h1
  intro n
  induction n with
  | zero => intro z _ _ h; omega
  | succ n ih =>
    intro z W hz hn hW
    have X1 : Cx sh (setR V 66 W) S D := Cx_set X (by decide) (by decide) (by rw [k_66 H]; decide)
    rw [Wy_homeCost_L9, b37 X1]
    by_cases g : (z : Int) < S 7
    · have ht := sToll_rng (d := S (159 + i)) X.2.2.2.1.1 (r := z) (by omega) g
      obtain ⟨W', e1, e2⟩ := ih (z + 1) (up W z (wtH S (S (159 + i)) z)) (by omega) (by omega) (fun r hr => by
        by_cases e : r = z
        · subst e; rw [upS_eq]
        · rw [upS_ne (by omega)]; exact hW r (by omega))
      refine ⟨W', e1, ?_⟩
      rw [if_pos g, bgt (by rw [k_64 H]), q_64_1 X1.2.1, bt1 X1 h0 h1, bi3 X1, x_tollOn X1 (by omega) g t3 (by omega), shl10 ht.1 ht.2, w32_id (x := sToll S z (S (159 + i)) * 1024 + 1) (by omega) (by omega), bst (by rw [k_66 H]) (by omega) (by rw [k_66 H]; show (z : Int) < 24; omega), up_setR, w32_id (by omega) (by omega)]
      exact e2
    · rw [if_neg g]
      exact ⟨W, fun r hr => hW r (by omega), rfl⟩
theorem startAt_x (X : Cx sh V S D) (h0 : 0 ≤ t) (h1 : t < 12) : Wy_startAt 64 t (sh, setR V 66 W) = some (0, (sh, Mw V (d0H t) (V 65) W)) := by
  have H := X.1
  have X1 : Cx sh (setR V 66 W) S D := Cx_set X (by decide) (by decide) (by rw [k_66 H]; decide)
  have e : fillV (setR V 66 W) 65 2147483647 12 = Mw V (fun _ => 2147483647) (V 65) W := by
    rw [fillV_set]
    unfold Mw r12
    congr 1
  have X2 : Cx sh (Mw V (fun _ => 2147483647) (V 65) W) S D := Cx_Mw X
  unfold Wy_startAt
  have hf := J_fill_b (V := setR V 66 W) (x := 2147483647) (fZ := fun _ μ3 => bd (getf 9 0 μ3 64) fun x4 => bd (sta 20 μ3 x4 t 0) fun μ5 => some ((0 : Int), μ5)) (k_65 H) (by decide)
  rw [show (((12 : Nat) : Int)) = 12 from rfl, e] at hf
  rw [bgt (by rw [k_64 H]), q_64_0 X1.2.1, hf, bgt (by rw [k_64 H]), q_64_0 X2.2.1, bst (by rw [k_65 H]) h0 (by rw [k_65 H]; exact h1), Mw_up h0 h1]
  rfl
/-- a holder of slips -/
def Hld (sh : List (Nat × Nat)) (V : Int → Int → Int) (R W : Int → Int) (day : Int) (dk wk : Nat → Int) (M : Nat) (ho : Int) : Prop := ∀ (d : Int → Int) (k : Nat), k < M → (∀ g : Int → Option (Int × Mem), (bd (getf 6 6 (sh, Mw V d R W) ho) fun z => bd (lda 20 (sh, Mw V d R W) z k) g) = g (dk k)) ∧ ∀ g : Int → Mem → Option (Int × Mem), bd2 (Kg_worthOn 3 ho k day (sh, Mw V d R W)) g = g (wk k) (sh, Mw V d R W)
theorem slips_H (X : Cx sh V S D) (h0 : 0 ≤ i) (h1 : i < S 152) {ho : Int} {M : Nat} (hs : SLs S dk wk M) (hh : Hld sh V R W (S (159 + i)) dk wk M ho) (hW : ∀ r : Nat, (r : Int) < S 7 → W r = wtH S (S (159 + i)) r) {kk : Int → Int → Mem → Option (Int × Mem)} : ∀ (n j : Nat), j ≤ M → M - j < n → Wy_homeCost_L69 kk n 64 2 (11 + 4 * i) ho 3 ((M : Int) - j - 1) (sh, Mw V (hmR S (wtH S (S (159 + i))) dk wk M (S (153 + i)) j) R W) = kk 64 3 (sh, Mw V (hmR S (wtH S (S (159 + i))) dk wk M (S (153 + i)) M) R W) := by
  have H := X.1
  have K := X.2.2.2.1.1
  obtain ⟨r1, r2, r3, r4, r5, r6, r7⟩ := Cx_rng X
  obtain ⟨t1, t2, t3, t4, t5, t6, -⟩ := Cx_tr X h0 h1
  intro n
  induction n with
  | zero => intro j _ h; omega
  | succ n ih =>
    intro j hj hn
    rw [Wy_homeCost_L69]
    by_cases g : j < M
    · obtain ⟨k1, k2⟩ := hs.2 (M - 1 - j) (by omega)
      have hM := hs.1
      obtain ⟨i1, i2⟩ := hmR_ok (day := S (159 + i)) K hs t5 t6 j (by omega)
      have X1 : ∀ d, Cx sh (Mw V d R W) S D := fun d => Cx_Mw X
      have hi := ih (j + 1) (by omega) (by omega)
      have ek : ((M : Int) - j - 1) = ((M - 1 - j : Nat) : Int) := by omega
      have ek2 : ((M : Int) - ((j + 1 : Nat) : Int) - 1) = ((M - 1 - j : Nat) : Int) + -1 := by omega
      rw [ek2, hmR] at hi
      obtain ⟨g1, g2⟩ := hh (hmR S (wtH S (S (159 + i))) dk wk M (S (153 + i)) j) (M - 1 - j) (by omega)
      have hd := sHead_rng K k1.1 k1.2
      have ht := sTail_rng K k1.1 k1.2
      rw [if_neg (by omega), ek, g1, bt1 (X1 _) h0 h1, bi3 (X1 _), g2, bi2 (X1 _), shr1 k1.1 (by omega), x_isOpen (X1 _) (by omega) (by omega), w32_id (x := ((M - 1 - j : Nat) : Int) + -1) (by omega) (by omega)]
      by_cases q : S (128 + dk (M - 1 - j) / 2) = 0
      · rw [if_pos q] at hi
        rw [B_t q, if_neg (c := (1 : Int) = 0) (by decide), bi3 (X1 _), x_endOf (X1 _) k1.1 k1.2, bi3 (X1 _), x_startOf (X1 _) k1.1 k1.2, bit (by rw [k_64 H]), shl10 k2.1 k2.2, w32_id (x := 1 - wk (M - 1 - j) * 1024) (by omega) (by omega), improve_x X (Iv_Rg i1 (by omega) (by omega) (by omega)) (by omega) (by omega) (by omega) (by omega) (by omega), bd2_mk]
        have es : (sHead S (dk (M - 1 - j)), sTail S (dk (M - 1 - j)), 1 - wk (M - 1 - j) * 1024) = slE S dk wk (M - 1 - j) := by unfold slE; rw [Int.mul_comm]
        rw [es]
        by_cases p : imp 2147483647 (hmR S (wtH S (S (159 + i))) dk wk M (S (153 + i)) j) (slE S dk wk (M - 1 - j))
        · have I2 : Iv (S 0).toNat (12 * (j : Int) + 12) ((j : Int) + 1) (rlx 2147483647 (hmR S (wtH S (S (159 + i))) dk wk M (S (153 + i)) j) (slE S dk wk (M - 1 - j))) := Iv_slip (a := sHead S (dk (M - 1 - j))) (b := sTail S (dk (M - 1 - j))) (t := wk (M - 1 - j)) i1 (by omega) (by omega) (by omega) (by omega) (by omega) (by omega) (by omega) k2
          rw [B_t p, if_neg (by decide), bit (by rw [k_64 H]), settle_T (wt := wtH S (S (159 + i))) X (Iv (S 0).toNat (12 * (j : Int) + 12) ((j : Int) + 1)) (fun d hd => Iv_Rg hd (by omega) (by omega) (by omega)) (fun r hr => ⟨hW r hr, by have := wtH_rng (day := S (159 + i)) K (r := r) (by omega) hr; omega⟩) (fun r hr => (wtH_rng K (by omega) hr).1) (Iv_edg K (by omega) (by omega)) I2 (by omega), bd2_mk]
          exact hi
        · have e1 : rlx 2147483647 (hmR S (wtH S (S (159 + i))) dk wk M (S (153 + i)) j) (slE S dk wk (M - 1 - j)) = hmR S (wtH S (S (159 + i))) dk wk M (S (153 + i)) j := imp_no p
          have e2 : stl S (wtH S (S (159 + i))) (hmR S (wtH S (S (159 + i))) dk wk M (S (153 + i)) j) = hmR S (wtH S (S (159 + i))) dk wk M (S (153 + i)) j := by
            have := iter_stay (f := pss 2147483647 (edg S (wtH S (S (159 + i))) (S 7).toNat)) (x := hmR S (wtH S (S (159 + i))) dk wk M (S (153 + i)) j) (k := 0) i2 ((S 0).toNat - 1)
            rw [Nat.zero_add] at this
            exact this
          rw [e1, e2] at hi
          rw [B_f p, if_pos rfl, e1]; exact hi
      · rw [if_neg q] at hi
        rw [B_f q, if_pos rfl]; exact hi
    · have : j = M := by omega
      subst this
      rw [if_pos (by omega)]
theorem homeCost_x (X : Cx sh V S D) (h0 : 0 ≤ i) (h1 : i < S 152) {ho : Int} {M : Nat} (hs : SLs S dk wk M) (hh : ∀ W, Hld sh V (V 65) W (S (159 + i)) dk wk M ho) (hm : ∀ W d (g : Int → Option (Int × Mem)), bd (getf 6 5 (sh, Mw V d (V 65) W) ho) g = g M) : ∃ W', Wy_homeCost 64 2 (11 + 4 * i) ho (sh, V) = some (if hmR S (wtH S (S (159 + i))) dk wk M (S (153 + i)) M (S 1) = 2147483647 then -1000000 else hmR S (wtH S (S (159 + i))) dk wk M (S (153 + i)) M (S 1) / 1024, (sh, Mw V (hmR S (wtH S (S (159 + i))) dk wk M (S (153 + i)) M) (V 65) W')) := by
  have H := X.1
  have K := X.2.2.2.1.1
  obtain ⟨r1, r2, r3, r4, r5, r6, r7⟩ := Cx_rng X
  obtain ⟨t1, t2, t3, t4, t5, t6, -⟩ := Cx_tr X h0 h1
  have z0 : 0 < S 0 := by omega
  obtain ⟨p1, p2⟩ := K.2.2.2.2.2.2.2.2.2.2.2.2.1 z0
  have hM := hs.1
  unfold Wy_homeCost
  obtain ⟨W', e1, e2⟩ := hw_T (ho := ho) (kk := fun x2 x3 x4 x5 x6 μ7 => bd (getf 6 0 μ7 x4) fun x8 => bd (isk 9 μ7 x2) fun _ => bd2 (Wy_startAt x2 x8 μ7) fun _ μ10 => bd (isk 9 μ10 x2) fun _ => bd2 (Wy_settle x2 x3 μ10) fun _ μ12 => bd (getf 6 5 μ12 x5) fun x13 => bd (some (w32 (x13 - 1))) fun x14 => Wy_homeCost_L69 (fun x15 x16 μ17 => bd (getf 9 0 μ17 x15) fun x18 => bd (getf 1 1 μ17 x16) fun x19 => bd (lda 20 μ17 x18 x19) fun x20 => if x20 = 2147483647 then some ((-1000000), μ17) else bd (getf 9 0 μ17 x15) fun x21 => bd (getf 1 1 μ17 x16) fun x22 => bd (lda 20 μ17 x21 x22) fun x23 => some ((shr32 x23 10), μ17)) FU x2 x3 x4 x5 x6 x14 μ12) X h0 h1 FU 0 (V 66) (by omega) (by show _ < 1000000; omega) (fun r hr => by omega)
  rw [setR_self, show ((0 : Nat) : Int) = 0 from rfl] at e2
  have X1 : Cx sh (setR V 66 W') S D := Cx_set X (by decide) (by decide) (by rw [k_66 H]; decide)
  have X2 : ∀ d, Cx sh (Mw V d (V 65) W') S D := fun d => Cx_Mw X
  have hd0 := Iv_d0 (t := S (153 + i)) (n := (S 0).toNat) t5 (by omega)
  have hl := slips_H (kk := fun x15 x16 μ17 => bd (getf 9 0 μ17 x15) fun x18 => bd (getf 1 1 μ17 x16) fun x19 => bd (lda 20 μ17 x18 x19) fun x20 => if x20 = 2147483647 then some ((-1000000), μ17) else bd (getf 9 0 μ17 x15) fun x21 => bd (getf 1 1 μ17 x16) fun x22 => bd (lda 20 μ17 x21 x22) fun x23 => some ((shr32 x23 10), μ17)) X h0 h1 hs (hh W') e1 FU 0 (by omega) (by show _ < 1000000; omega)
  rw [hmR, show ((M : Int) - ((0 : Nat) : Int) - 1) = (M : Int) - 1 by omega] at hl
  refine ⟨W', ?_⟩
  rw [b20 X, e2, bt0 X1 h0 h1, bit (by rw [k_64 H]), startAt_x X (by omega) (by omega), bd2_mk, bit (by rw [k_64 H]), settle_T (wt := wtH S (S (159 + i))) X (Iv (S 0).toNat 0 0) (fun d hd => Iv_Rg hd (by omega) (by omega) (by omega)) (fun r hr => ⟨e1 r hr, by have := wtH_rng (day := S (159 + i)) K (r := r) (by omega) hr; omega⟩) (fun r hr => (wtH_rng K (by omega) hr).1) (Iv_edg K (by omega) (by omega)) hd0 z0, bd2_mk, hm, bd_mk, w32_id (by omega) (by omega), hl]
  obtain ⟨i1, i2⟩ := hmR_ok (day := S (159 + i)) K hs t5 t6 M (by omega)
  have g : ∀ f : Int → Option (Int × Mem), bd (getf 9 0 (sh, Mw V (hmR S (wtH S (S (159 + i))) dk wk M (S (153 + i)) M) (V 65) W') 64) f = f 65 := fun f => by rw [bgt (by rw [k_64 H]), q_64_0 (X2 _).2.1]
  have l : ∀ f : Int → Option (Int × Mem), bd (lda 20 (sh, Mw V (hmR S (wtH S (S (159 + i))) dk wk M (S (153 + i)) M) (V 65) W') 65 (S 1)) f = f (hmR S (wtH S (S (159 + i))) dk wk M (S (153 + i)) M (S 1)) := fun f => by rw [blt (by rw [k_65 H]) p1 (by rw [k_65 H]; show S 1 < 12; omega), Mw_65, r12_at p1 (by omega)]
  rw [g, b31 (X2 _), l]
  by_cases q : hmR S (wtH S (S (159 + i))) dk wk M (S (153 + i)) M (S 1) = 2147483647
  · rw [if_pos q, if_pos q]
  · rw [if_neg q, if_neg q, g, b31 (X2 _), l]
    rcases Iv_Rg i1 (by omega) (by omega) (by omega) (S 1) with e | e
    · exact absurd e q
    · have := shr_div (x := hmR S (wtH S (S (159 + i))) dk wk M (S (153 + i)) M (S 1)) ⟨by omega, by omega⟩ (s := 10) (by decide)
      rw [show ((10 : Nat) : Int) = 10 from rfl] at this
      rw [this]; rfl
end HOME
