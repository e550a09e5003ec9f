/-! PURE: lane -/
section LANE2
variable {sh : List (Nat × Nat)} {V V' V1 V2 V2' : Int → Int → Int} {r t s c i j k x a b y D D' f p v q h u o day z m g w : Int} {S S' R W : Int → Int} {n : Nat} {d d' d0 : Int → Int}
theorem shl14 (h0 : 0 ≤ x) (h1 : x ≤ 999) : shl32 x 14 = x * 16384 := by
  obtain ⟨m, rfl⟩ := Int.eq_ofNat_of_zero_le h0
  have := shl_nat (a := m) (r := 14) (by decide) (by omega)
  rw [show ((14 : Nat) : Int) = 14 from rfl] at this
  rw [this]; omega
theorem shl4 (h0 : 0 ≤ x) (h1 : x ≤ 999) : shl32 x 4 = x * 16 := by
  obtain ⟨m, rfl⟩ := Int.eq_ofNat_of_zero_le h0
  have := shl_nat (a := m) (r := 4) (by decide) (by omega)
  rw [show ((4 : Nat) : Int) = 4 from rfl] at this
  rw [this]; omega
theorem and15 : and32 x 15 = x % 16 := by
  unfold and32
  show (Int32.ofInt x &&& Int32.ofInt 15).toBitVec.toInt = _
  rw [Int32.toBitVec_and, Int32.toBitVec_ofInt]
  have e : (BitVec.ofInt 32 x &&& (Int32.ofInt 15).toBitVec).toNat = (x % 16).toNat := by
    rw [BitVec.toNat_and, BitVec.toNat_ofInt]
    show (x % 4294967296).toNat &&& 15 = _
    rw [show (15 : Nat) = 2 ^ 4 - 1 from rfl, Nat.and_two_pow_sub_one_eq_mod]
    omega
  rw [BitVec.toInt_eq_toNat_of_lt (by rw [e]; omega), e]
  omega
theorem lw_T (X : Cx sh V S D) (hd0 : 0 ≤ day) (hd1 : day < 2147483648) {kk : Int → Int → Int → Mem → Option (Int × Mem)} {en : Int} : ∀ (n z : Nat) (W : Int → Int), (z : Int) ≤ S 7 → (S 7).toNat - z < n → (∀ r : Nat, r < z → W r = wtL S day r) → ∃ W', (∀ r : Nat, (r : Int) < S 7 → W' r = wtL S day r) ∧ Wy_seekLanes_L9 kk n 64 2 en day 3 z (sh, setR V 66 W) = kk 64 2 en (sh, setR V 66 W') := by
  have H := X.1
  obtain ⟨r1, r2, r3, r4, r5, r6, r7⟩ := Cx_rng X
  intro n
  induction n with
  | zero => intro z _ _ h; omega
  | succ n ih =>
    intro z W hz hn hW
    have X1 : Cx sh (setR V 66 W) S D := Cx_set X (by decide) (by decide) (by rw [k_66 H]; decide)
    rw [Wy_seekLanes_L9, b37 X1]
    by_cases g : (z : Int) < S 7
    · have ht := sToll_rng (d := day) X.2.2.2.1.1 (r := z) (by omega) g
      have hr := Cx_rd X (r := z) (by omega) g
      obtain ⟨W', e1, e2⟩ := ih (z + 1) (up W z (wtL S day z)) (by omega) (by omega) (fun r hr => by
        by_cases e : r = z
        · subst e; rw [upS_eq]
        · rw [upS_ne (by omega)]; exact hW r (by omega))
      refine ⟨W', e1, ?_⟩
      rw [if_pos g, bgt (by rw [k_64 H]), q_64_1 X1.2.1, bi3 X1, x_tollOn X1 (by omega) g hd0 hd1, b3c X1, bl8 X1 (by omega) g, shl14 ht.1 ht.2, shl4 (by omega) (by omega), w32_id (x := sToll S z day * 16384 + S (104 + z) * 16) (by omega) (by omega), w32_id (x := sToll S z day * 16384 + S (104 + z) * 16 + 1) (by omega) (by omega), bst (by rw [k_66 H]) (by omega) (by rw [k_66 H]; show (z : Int) < 24; omega), up_setR, w32_id (by omega) (by omega)]
      exact e2
    · rw [if_neg g]
      exact ⟨W, fun r hr => hW r (by omega), rfl⟩
theorem seekLanes_x (X : Cx sh V S D) (hd0 : 0 ≤ day) (hd1 : day < 2147483648) (h0 : 0 ≤ t) (h1 : t < S 0) : ∃ W', (∀ r : Nat, (r : Int) < S 7 → W' r = wtL S day r) ∧ Wy_seekLanes 64 2 t day (sh, V) = some (0, (sh, Mw V (lnR S day t) (V 65) W')) := by
  have H := X.1
  have K := X.2.2.2.1.1
  obtain ⟨r1, r2, r3, r4, r5, r6, r7⟩ := Cx_rng X
  unfold Wy_seekLanes
  obtain ⟨W', e1, e2⟩ := lw_T (day := day) (en := t) (kk := fun x2 x3 x4 μ5 => bd (isk 9 μ5 x2) fun _ => bd2 (Wy_startAt x2 x4 μ5) fun _ μ7 => bd (isk 9 μ7 x2) fun _ => bd2 (Wy_settle x2 x3 μ7) fun _ μ9 => some (0, μ9)) X hd0 hd1 FU 0 (V 66) (by omega) (by show _ < 1000000; omega) (fun r hr => by omega)
  rw [setR_self, show ((0 : Nat) : Int) = 0 from rfl] at e2
  refine ⟨W', e1, ?_⟩
  rw [b20 X, e2, bit (by rw [k_64 H]), startAt_x X h0 (by omega), bd2_mk, bit (by rw [k_64 H]), settle_T (wt := wtL S day) X (IvL (S 0).toNat) (fun d hd => IvL_Rg hd (by omega)) (fun r hr => ⟨e1 r hr, by have := wtL_rng (day := day) K (r := r) (by omega) hr; omega⟩) (fun r hr => (wtL_rng K (by omega) hr).1) (IvL_edg K) (IvL_d0 h0 (by omega)) (by omega), bd2_mk]
  rfl
/-! the reference -/
def ENL (V : Int → Int → Int) (g y : Int) : Prop := (y = 2147483647 ∧ V 123 g = 0) ∨ (y ≠ 2147483647 ∧ V 123 g = 1 ∧ V 120 g = y / 16384 ∧ V 121 g = y / 16 % 1024 ∧ V 122 g = y % 16)
def LNs (V : Int → Int → Int) (d : Int → Int) : Prop := ∀ t, 0 ≤ t → t < 12 → ENL V t (d t)
def FRE (V V' : Int → Int → Int) : Prop := ∀ a j, ¬ (120 ≤ a ∧ a ≤ 123) → V' a j = V a j
theorem FRE_refl : FRE V V := fun _ _ _ => rfl
theorem FRE_trans (h : FRE V V') (h' : FRE V' V2) : FRE V V2 := fun a j q => (h' a j q).trans (h a j q)
theorem FRE_PM (P : PM V) (h : FRE V V') : PM V' := by
  have hx : ∀ q ∈ ptM, q.1 = 101 := by decide
  exact fun q hq => (h _ _ (by rw [hx q hq]; omega)).trans (P q hq)
theorem lanes_x (H : Sh sh) (P : PM V) (K : KOk S) (h0 : 0 ≤ r) (h1 : r < S 7) (hd0 : 0 ≤ day) (hd1 : day < 2147483648) (hL : LNs V d) (hI : IvL (S 0).toNat d) (hb : 0 ≤ b ∧ b < S 0) (ha : sHead S (sDart S r b) = a) (ha' : 0 ≤ a ∧ a < S 0) : ∃ V', M_lanes 101 b r day (sh, setR V 102 S) = some (B (imp 2147483647 d (a, b, wtL S day r)), (sh, setR V' 102 S)) ∧ LNs V' (rlx 2147483647 d (a, b, wtL S day r)) ∧ FRE V V' := by
  obtain ⟨z1, z2, z3, z4, -⟩ := id K
  have hd := sDart_rng (S := S) (t := b) h0 (by omega : r < 24)
  have ht := sToll_rng (d := day) K h0 h1
  have hr := K.2.2.2.2.2.2.2.2.2.2.2.2.2 r h0 h1
  unfold M_lanes
  rw [bi101 H, M_dartBy_b H P h0 (by omega), bi101 H, M_headOf_b H P hd.1 hd.2, ha, bg101 H, q_101_44 P, ml123 H ha'.1 (by omega)]
  rcases hL a ha'.1 (by omega) with ⟨e1, e2⟩ | ⟨e1, e2, e3, e4, e5⟩
  · have hno : ¬ imp 2147483647 d (a, b, wtL S day r) := fun q => q (Or.inl e1)
    rw [e2, if_pos rfl, B_f hno, imp_no hno]; exact ⟨V, rfl, hL, FRE_refl⟩
  · rcases hI a with e | pa
    · exact absurd e e1
    · have ra := PvL_rng pa (by omega)
      rw [e2, if_neg (by decide), bg101 H, q_101_41 P, ml120 H ha'.1 (by omega), e3, bi101 H, M_tollOn_b H P h0 (by omega) hd0 hd1, w32_id (x := d a / 16384 + sToll S r day) (by omega) (by omega), bd_mk, bg101 H, q_101_42 P, ml121 H ha'.1 (by omega), e4, bg101 H, w32_id (x := 104 + r) (by omega) (by omega), blp P H (by omega) (by omega), w32_id (x := d a / 16 % 1024 + S (104 + r)) (by omega) (by omega), bd_mk, bg101 H, q_101_43 P, ml122 H ha'.1 (by omega), e5, w32_id (x := d a % 16 + 1) (by omega) (by omega), bd_mk, bg101 H, q_101_44 P, ml123 H hb.1 (by omega)]
      have hz : imp 2147483647 d (a, b, wtL S day r) ↔ d a + wtL S day r < d b := by
        show ¬ (d a = 2147483647 ∨ d b ≤ d a + wtL S day r) ↔ _
        constructor <;> intro q <;> omega
      have hyes : ∀ (_ : imp 2147483647 d (a, b, wtL S day r)), ∃ V', (bd (getf 12 44 (sh, setR V 102 S) 101) fun x33 => bd (sta 23 (sh, setR V 102 S) x33 b 1) fun μ34 => bd (getf 12 41 μ34 101) fun x35 => bd (sta 20 μ34 x35 b (d a / 16384 + sToll S r day)) fun μ36 => bd (getf 12 42 μ36 101) fun x37 => bd (sta 20 μ36 x37 b (d a / 16 % 1024 + S (104 + r))) fun μ38 => bd (getf 12 43 μ38 101) fun x39 => bd (sta 20 μ38 x39 b (d a % 16 + 1)) fun μ40 => some ((1 : Int), μ40)) = some (1, (sh, setR V' 102 S)) ∧ LNs V' (rlx 2147483647 d (a, b, wtL S day r)) ∧ FRE V V' := fun hi => by
        have h10 : d a % 16 ≤ 10 := by
          refine Classical.byContradiction (fun hc => ?_)
          have := full pa (by omega) (by omega) (b := b) (by omega)
          have := hz.mp hi
          have := (wtL_rng (day := day) K h0 h1).1
          omega
        have ad := add_lane (x := d a) (t := sToll S r day) (u := S (104 + r)) h10 pa.2.2.2.1 (by omega)
        have hw : sToll S r day * 16384 + S (104 + r) * 16 + 1 = wtL S day r := rfl
        rw [hw] at ad
        refine ⟨_, by rw [bg101 H, q_101_44 P, ms123 H hb.1 (by omega), bg101 H, up_row (by decide), q_101_41 P, ms120 H hb.1 (by omega), bg101 H, up_row (by decide), up_row (by decide), q_101_42 P, ms121 H hb.1 (by omega), bg101 H, up_row (by decide), up_row (by decide), up_row (by decide), q_101_43 P, ms122 H hb.1 (by omega)], fun t g0 g1 => ?_, fun a j q => by rw [up_row (by omega), up_row (by omega), up_row (by omega), up_row (by omega)]⟩
        have er : rlx 2147483647 d (a, b, wtL S day r) = up d b (d a + wtL S day r) := by unfold rlx; rw [if_neg hi]
        rw [er]
        by_cases et : t = b
        · subst et
          have := wtL_rng (day := day) K h0 h1
          have hdt : d t ≤ 2147483647 := Rg_F (IvL_Rg hI (by omega)) t
          have := hz.mp hi
          rw [upS_eq]
          refine Or.inr ⟨by omega, ?_, ?_, ?_, ?_⟩
          · rw [up_row (by decide), up_row (by decide), up_row (by decide), up_eq]
          · rw [up_row (by decide), up_row (by decide), up_eq, ad.2.2]
          · rw [up_row (by decide), up_eq, ad.2.1]
          · rw [up_eq, ad.1]
        · rw [upS_ne et]
          have hh : ∀ a, (upV (upV (upV (upV V 123 b 1) 120 b (d a / 16384 + sToll S r day)) 121 b (d a / 16 % 1024 + S (104 + r))) 122 b (d a % 16 + 1)) a t = V a t := fun _ => by rw [up_col et, up_col et, up_col et, up_col et]
          have := hL t g0 g1
          unfold ENL at this ⊢
          rw [up_col et, up_col et, up_col et, up_col et, up_col et, up_col et, up_col et, up_col et, up_col et, up_col et, up_col et, up_col et, up_col et, up_col et, up_col et, up_col et]
          exact this
      rcases hL b hb.1 (by omega) with ⟨f1, f2⟩ | ⟨f1, f2, f3, f4, f5⟩
      · have hi : imp 2147483647 d (a, b, wtL S day r) := hz.mpr (by have := wtL_rng (day := day) K h0 h1; unfold wtL at *; omega)
        rw [f2, if_pos rfl, bd_mk, if_neg (by decide), B_t hi]
        exact hyes hi
      · rcases hI b with e | pb
        · exact absurd e f1
        · have rb := PvL_rng pb (by omega)
          -- lesser in the order of the three numbers
          have key : (d a / 16384 + sToll S r day < d b / 16384 ∨ (d a / 16384 + sToll S r day = d b / 16384 ∧ (d a / 16 % 1024 + S (104 + r) < d b / 16 % 1024 ∨ (d a / 16 % 1024 + S (104 + r) = d b / 16 % 1024 ∧ d a % 16 + 1 < d b % 16)))) ↔ imp 2147483647 d (a, b, wtL S day r) := by
            rw [hz]
            by_cases h10 : d a % 16 ≤ 10
            · have ad := add_lane (x := d a) (t := sToll S r day) (u := S (104 + r)) h10 pa.2.2.2.1 (by omega)
              have hw : sToll S r day * 16384 + S (104 + r) * 16 + 1 = wtL S day r := rfl
              rw [hw] at ad
              rw [← ad.1, ← ad.2.1, ← ad.2.2]
              generalize d a + wtL S day r = Z
              generalize d b = Y
              clear ad hw hyes hz hL hI pa pb ra rb
              omega
            · have hf := full pa (by omega) (by omega) (b := b) (by omega)
              have hw := (wtL_rng (day := day) K h0 h1).1
              have tl : 0 ≤ sToll S r day ∧ 1 ≤ S (104 + r) := ⟨ht.1, by omega⟩
              generalize sToll S r day = T at *
              generalize S (104 + r) = U at *
              generalize wtL S day r = Z at *
              generalize d a = A at *
              generalize d b = Y at *
              constructor
              · intro q; exfalso
                clear hL hI pa pb hyes hz
                omega
              · intro q; omega
          rw [f2, if_neg (by decide), bg101 H, q_101_41 P, ml120 H hb.1 (by omega), f3]
          have no : ∀ (_ : ¬ imp 2147483647 d (a, b, wtL S day r)), ∃ V', (if (0 : Int) = 0 then some (0, (sh, setR V 102 S)) else bd (getf 12 44 (sh, setR V 102 S) 101) fun x33 => bd (sta 23 (sh, setR V 102 S) x33 b 1) fun μ34 => bd (getf 12 41 μ34 101) fun x35 => bd (sta 20 μ34 x35 b (d a / 16384 + sToll S r day)) fun μ36 => bd (getf 12 42 μ36 101) fun x37 => bd (sta 20 μ36 x37 b (d a / 16 % 1024 + S (104 + r))) fun μ38 => bd (getf 12 43 μ38 101) fun x39 => bd (sta 20 μ38 x39 b (d a % 16 + 1)) fun μ40 => some ((1 : Int), μ40)) = some (B (imp 2147483647 d (a, b, wtL S day r)), (sh, setR V' 102 S)) ∧ LNs V' (rlx 2147483647 d (a, b, wtL S day r)) ∧ FRE V V' := fun hi => by
            rw [if_pos rfl, B_f hi, imp_no hi]; exact ⟨V, rfl, hL, FRE_refl⟩
          have yes : ∀ (_ : imp 2147483647 d (a, b, wtL S day r)), ∃ V', (if (1 : Int) = 0 then some (0, (sh, setR V 102 S)) else bd (getf 12 44 (sh, setR V 102 S) 101) fun x33 => bd (sta 23 (sh, setR V 102 S) x33 b 1) fun μ34 => bd (getf 12 41 μ34 101) fun x35 => bd (sta 20 μ34 x35 b (d a / 16384 + sToll S r day)) fun μ36 => bd (getf 12 42 μ36 101) fun x37 => bd (sta 20 μ36 x37 b (d a / 16 % 1024 + S (104 + r))) fun μ38 => bd (getf 12 43 μ38 101) fun x39 => bd (sta 20 μ38 x39 b (d a % 16 + 1)) fun μ40 => some ((1 : Int), μ40)) = some (B (imp 2147483647 d (a, b, wtL S day r)), (sh, setR V' 102 S)) ∧ LNs V' (rlx 2147483647 d (a, b, wtL S day r)) ∧ FRE V V' := fun hi => by
            rw [if_neg (by decide), B_t hi]; exact hyes hi
          by_cases c1 : d a / 16384 + sToll S r day < d b / 16384
          · rw [if_pos c1, bd_mk]; exact yes (key.mp (Or.inl c1))
          · rw [if_neg c1, bg101 H, q_101_41 P, ml120 H hb.1 (by omega), f3]
            by_cases c2 : d a / 16384 + sToll S r day = d b / 16384
            · rw [if_pos c2, bg101 H, q_101_42 P, ml121 H hb.1 (by omega), f4]
              by_cases c3 : d a / 16 % 1024 + S (104 + r) < d b / 16 % 1024
              · rw [if_pos c3, bd_mk]; exact yes (key.mp (Or.inr ⟨c2, Or.inl c3⟩))
              · rw [if_neg c3, bg101 H, q_101_42 P, ml121 H hb.1 (by omega), f4]
                by_cases c4 : d a / 16 % 1024 + S (104 + r) = d b / 16 % 1024
                · rw [if_pos c4, bg101 H, q_101_43 P, ml122 H hb.1 (by omega), f5]
                  by_cases c5 : d a % 16 + 1 < d b % 16
                  · rw [if_pos c5, bd_mk]; exact yes (key.mp (Or.inr ⟨c2, Or.inr ⟨c4, c5⟩⟩))
                  · rw [if_neg c5, bd_mk]
                    exact no (fun w => by rcases key.mpr w with w | ⟨-, w | ⟨-, w⟩⟩; exact c1 w; exact c3 w; exact c5 w)
                · rw [if_neg c4, bd_mk]
                  exact no (fun w => by rcases key.mpr w with w | ⟨-, w | ⟨w, -⟩⟩; exact c1 w; exact c3 w; exact c4 w)
            · rw [if_neg c2, bd_mk]
              exact no (fun w => by rcases key.mpr w with w | ⟨w, -⟩; exact c1 w; exact c2 w)
end LANE2
