/-! PURE: box; the reference's spreading -/
section BOX5
variable {sh : List (Nat × Nat)} {V V' V1 V2 : Int → Int → Int} {i j k x a b t D : Int} {S d d' : Int → Int} {n z m r s A p : Nat} {U : Nat → Bool}
/-- parts of a set, from the greatest down -/
theorem part_next : ∀ (p s A : Nat), subT p s → subT A s → A < p → A ≤ (p - 1) &&& s := by
  intro p
  induction p using Nat.strongRecOn with
  | ind p ih =>
    intro s A hp hA hl
    have h0 : ∀ {a b : Nat}, subT a b → a % 2 = 1 → b % 2 = 1 := fun {a b} h q => by
      have := h 0
      rw [Nat.testBit_zero, Nat.testBit_zero] at this
      have := this (by simpa using q)
      simpa using this
    have h2 : ∀ {a b : Nat}, subT a b → subT (a / 2) (b / 2) := fun {a b} h y hy => by
      have := h (y + 1)
      rw [Nat.testBit_succ, Nat.testBit_succ] at this
      exact this hy
    have e1 : ((p - 1) &&& s) / 2 = (p - 1) / 2 &&& s / 2 := Nat.and_div_two
    have e2 := @Nat.and_mod_two_eq_one (p - 1) s
    by_cases q : p % 2 = 1
    · have e3 : (p - 1) / 2 = p / 2 := by omega
      have e4 : p / 2 &&& s / 2 = p / 2 := Nat.eq_of_testBit_eq (fun y => by
        rw [Nat.testBit_and]
        cases h : (p / 2).testBit y with
        | false => simp
        | true => rw [h2 hp y h]; rfl)
      rw [e3, e4] at e1
      omega
    · have i1 := ih (p / 2) (by omega) (s / 2) (A / 2) (h2 hp) (h2 hA) (by omega)
      have e3 : (p - 1) / 2 = p / 2 - 1 := by omega
      rw [e3] at e1
      by_cases c : A % 2 = 1
      · have := h0 hA c
        have := e2.mpr ⟨by omega, this⟩
        omega
      · omega
theorem part_sub : subT (p &&& s) s := fun y hy => by rw [Nat.testBit_and] at hy; simp at hy; exact hy.2
theorem sub_le (h : subT A s) : A ≤ s := by
  by_cases c : A ≤ s
  · exact c
  · have e : A &&& s = A := Nat.eq_of_testBit_eq (fun y => by
      rw [Nat.testBit_and]
      cases h1 : A.testBit y with
      | false => simp
      | true => rw [h y h1]; rfl)
    have := @Nat.and_le_right A s
    omega
/-- the rest of a set -/
theorem xor_rest (h : subT A s) : ∀ y, (s ^^^ A).testBit y = true ↔ s.testBit y = true ∧ ¬ A.testBit y = true := fun y => by
  rw [Nat.testBit_xor]
  have := h y
  cases h1 : s.testBit y <;> cases h2 : A.testBit y <;> simp_all
theorem xor_pos (h : subT A s) (hl : A < s) : s ^^^ A ≠ 0 := fun e => by
  have : s = A := Nat.eq_of_testBit_eq (fun y => by
    have h1 := xor_rest h y
    have h2 := h y
    rw [e] at h1
    cases q1 : s.testBit y <;> cases q2 : A.testBit y <;> simp_all)
  omega
theorem xor_lt (h : subT A s) (h0 : A ≠ 0) : s ^^^ A < s := by
  have h1 : subT (s ^^^ A) s := fun y hy => ((xor_rest h y).mp hy).1
  have h2 := sub_le h1
  by_cases e : s ^^^ A = s
  · obtain ⟨y, hy⟩ := Nat.exists_testBit_of_ne_zero h0
    have := ((xor_rest h y).mp (by rw [e]; exact h y hy)).2
    exact absurd hy this
  · omega
/-- memory with the row d of the set s -/
def Mt (V : Int → Int → Int) (d : Int → Int) (s : Nat) : Int → Int → Int := fun a j => if a = 124 ∧ 12 * (s : Int) ≤ j ∧ j < 12 * (s : Int) + 12 then d (j - 12 * s) else V a j
theorem Mt_at (h0 : 0 ≤ t) (h1 : t < 12) : Mt V d s 124 (12 * (s : Int) + t) = d t := by
  unfold Mt; rw [if_pos ⟨rfl, by omega, by omega⟩]; congr 1; omega
theorem Mt_row (h : a ≠ 124) : Mt V d s a j = V a j := if_neg (fun q => h q.1)
theorem Mt_out (h : j < 12 * (s : Int) ∨ 12 * (s : Int) + 12 ≤ j) : Mt V d s a j = V a j := if_neg (by omega)
theorem Mt_up (h0 : 0 ≤ t) (h1 : t < 12) : upV (Mt V d s) 124 (12 * (s : Int) + t) x = Mt V (up d t x) s := by
  funext a j
  by_cases e : a = 124
  · subst e
    by_cases e2 : j = 12 * (s : Int) + t
    · subst e2; rw [up_eq, Mt_at h0 h1, upS_eq]
    · rw [up_col e2]
      unfold Mt
      by_cases q : (124 : Int) = 124 ∧ 12 * (s : Int) ≤ j ∧ j < 12 * (s : Int) + 12
      · rw [if_pos q, if_pos q, upS_ne (by omega)]
      · rw [if_neg q, if_neg q]
  · rw [up_row e, Mt_row e, Mt_row e]
theorem FM_Mt : FM V (Mt V d s) := fun a j q => Mt_row (fun e => q (by unfold MSc; omega))
theorem PM_Mt (P : PM V) : PM (Mt V d s) := PM_fm P FM_Mt
/-- days as weights -/
abbrev wD (S : Int → Int) : Int → Int := fun r => S (104 + r)
theorem lt_M (H : Sh sh) (hs : s < 4096) (h0 : 0 ≤ t) (h1 : t < 12) {f : Int → Option (Int × Mem)} : bd (lda 20 (sh, setR (Mt V d s) 102 S) 124 (12 * (s : Int) + t)) f = f (d t) := by rw [ml124 H (by omega) (by omega), Mt_at h0 h1]
theorem st_M (H : Sh sh) (hs : s < 4096) (h0 : 0 ≤ t) (h1 : t < 12) {f : Mem → Option (Int × Mem)} : bd (sta 20 (sh, setR (Mt V d s) 102 S) 124 (12 * (s : Int) + t) x) f = f (sh, setR (Mt V (up d t x) s) 102 S) := by rw [ms124 H (by omega) (by omega), Mt_up h0 h1]
theorem rlx_imp {F : Int} {e : Int × Int × Int} (h : imp F d e) : rlx F d e = up d e.2.1 (d e.1 + e.2.2) := by
  unfold rlx; rw [if_neg h]
/-- numbers of days -/
def Fy (d : Int → Int) : Prop := ∀ v, 0 ≤ d v ∧ d v ≤ 1000000
theorem Fy_rlx (h : Fy d) {e : Int × Int × Int} (he : 0 ≤ e.2.2) : Fy (rlx 2147483647 d e) := fun v => by
  have h1 := rlx_le (F := 2147483647) (d := d) (e := e) v
  have h2 := h v
  have h3 := h e.1
  refine ⟨?_, by omega⟩
  unfold rlx
  split
  · exact h2.1
  · by_cases q : v = e.2.1
    · rw [q, upS_eq]; omega
    · rw [upS_ne q]; exact h2.1
theorem spass_M (H : Sh sh) (K : KOk S) (P : PM V) (hs : s < 4096) (hd : Fy d) {kk : Int → Int → Int → Mem → Option (Int × Mem)} : ∀ (n z : Nat) (c : Int), (z : Int) ≤ S 7 → (S 7).toNat - z < n → Fy (pss 2147483647 (edg S (wD S) z) d) → ((c = 0 ∧ pss 2147483647 (edg S (wD S) z) d = d) ∨ (c = 1 ∧ Chg d (pss 2147483647 (edg S (wD S) z) d))) → ∃ c', ((c' = 0 ∧ pss 2147483647 (edg S (wD S) (S 7).toNat) d = d) ∨ (c' = 1 ∧ Chg d (pss 2147483647 (edg S (wD S) (S 7).toNat) d))) ∧ M_spreads_L10 kk n 101 s c z (sh, setR (Mt V (pss 2147483647 (edg S (wD S) z) d) s) 102 S) = kk 101 s c' (sh, setR (Mt V (pss 2147483647 (edg S (wD S) (S 7).toNat) d) s) 102 S) := by
  have r2 := K.2.1
  have r4 := K.2.2.2.1
  intro n
  induction n with
  | zero => intro z _ _ h; omega
  | succ n ih =>
    intro z c hz hn hv hc
    have PP : ∀ d, PM (Mt V d s) := fun d => PM_Mt P
    rw [M_spreads_L10, bg101 H, blp (PP _) H (by decide) (by decide)]
    by_cases g : (z : Int) < S 7
    · have g0 : 0 ≤ (z : Int) := by omega
      have kr := K.2.2.2.2.2.2.2.2.2.2.2.2.2 (z : Int) g0 g
      have wz : w32 ((z : Int) + 1) = ((z + 1 : Nat) : Int) := by rw [w32_id (by omega) (by omega)]; omega
      have ws : w32 (12 * (s : Int)) = 12 * (s : Int) := w32_id (by omega) (by omega)
      have wa : w32 (12 * (s : Int) + S (8 + (z : Int))) = 12 * (s : Int) + S (8 + (z : Int)) := w32_id (by omega) (by omega)
      have wb : w32 (12 * (s : Int) + S (32 + (z : Int))) = 12 * (s : Int) + S (32 + (z : Int)) := w32_id (by omega) (by omega)
      have hp := pss_edg (S := S) (wt := wD S) 2147483647 d z
      have tg : ∀ (d : Int → Int) (f : Int → Option (Int × Mem)), bd (getf 12 45 (sh, setR (Mt V d s) 102 S) 101) f = f 124 := fun d f => by rw [bg101 H, q_101_45 (PP d)]
      rw [if_pos g, bi101 H, M_isOpen_b H (PP _) g0 (by omega), wz]
      by_cases q : S (128 + (z : Int)) = 0
      · rw [if_pos q] at hp
        have hw : (0 : Int) ≤ wD S z := by show 0 ≤ S (104 + (z : Int)); omega
        have I1 := Fy_rlx (e := (S (8 + (z : Int)), S (32 + (z : Int)), wD S z)) hv hw
        have I2 := Fy_rlx (e := (S (32 + (z : Int)), S (8 + (z : Int)), wD S z)) I1 hw
        rw [← hp] at I2
        have a1 := hv (S (8 + (z : Int)))
        have a2 := I1 (S (32 + (z : Int)))
        rw [B_t q, if_neg (c := (1 : Int) = 0) (by decide), bg101 H, w32_id (x := 8 + (z : Int)) (by omega) (by omega), blp (PP _) H (by omega) (by omega), ws, wa, bd_mk, bg101 H, w32_id (x := 32 + (z : Int)) (by omega) (by omega), blp (PP _) H (by omega) (by omega), wb, bd_mk, bg101 H, w32_id (x := 104 + (z : Int)) (by omega) (by omega), blp (PP _) H (by omega) (by omega), tg, lt_M H hs kr.1 (by omega), tg, lt_M H hs (by omega) (by omega)]
        have first : ∀ F : Int → Mem → Option (Int × Mem), (bd2 (if w32 (pss 2147483647 (edg S (wD S) z) d (S (8 + (z : Int))) + S (104 + (z : Int))) < pss 2147483647 (edg S (wD S) z) d (S (32 + (z : Int))) then
              bd (getf 12 45 (sh, setR (Mt V (pss 2147483647 (edg S (wD S) z) d) s) 102 S) 101) fun x19 =>
              bd (getf 12 45 (sh, setR (Mt V (pss 2147483647 (edg S (wD S) z) d) s) 102 S) 101) fun x20 =>
              bd (lda 20 (sh, setR (Mt V (pss 2147483647 (edg S (wD S) z) d) s) 102 S) x20 (12 * (s : Int) + S (8 + (z : Int)))) fun x21 =>
              bd (sta 20 (sh, setR (Mt V (pss 2147483647 (edg S (wD S) z) d) s) 102 S) x19 (12 * (s : Int) + S (32 + (z : Int))) (w32 (x21 + S (104 + (z : Int))))) fun μ22 =>
              some ((1 : Int), μ22)
            else
              some (c, (sh, setR (Mt V (pss 2147483647 (edg S (wD S) z) d) s) 102 S))) F) = F (if imp 2147483647 (pss 2147483647 (edg S (wD S) z) d) (S (8 + (z : Int)), S (32 + (z : Int)), wD S z) then 1 else c) (sh, setR (Mt V (rlx 2147483647 (pss 2147483647 (edg S (wD S) z) d) (S (8 + (z : Int)), S (32 + (z : Int)), wD S z)) s) 102 S) := fun F => by
          rw [w32_id (by omega) (by omega)]
          by_cases p1 : imp 2147483647 (pss 2147483647 (edg S (wD S) z) d) (S (8 + (z : Int)), S (32 + (z : Int)), wD S z)
          · have l : pss 2147483647 (edg S (wD S) z) d (S (8 + (z : Int))) + S (104 + (z : Int)) < pss 2147483647 (edg S (wD S) z) d (S (32 + (z : Int))) := Classical.byContradiction (fun y => p1 (Or.inr (by show pss 2147483647 (edg S (wD S) z) d (S (32 + (z : Int))) ≤ pss 2147483647 (edg S (wD S) z) d (S (8 + (z : Int))) + S (104 + (z : Int)); omega)))
            rw [if_pos l, tg, tg, lt_M H hs kr.1 (by omega), w32_id (by omega) (by omega), st_M H hs (by omega) (by omega), bd2_mk, if_pos p1]
            unfold rlx
            rw [if_neg p1]
          · have l : ¬ pss 2147483647 (edg S (wD S) z) d (S (8 + (z : Int))) + S (104 + (z : Int)) < pss 2147483647 (edg S (wD S) z) d (S (32 + (z : Int))) := fun y => p1 (fun w => by
              rcases w with w | w
              · have w : pss 2147483647 (edg S (wD S) z) d (S (8 + (z : Int))) = 2147483647 := w; omega
              · have w : pss 2147483647 (edg S (wD S) z) d (S (32 + (z : Int))) ≤ pss 2147483647 (edg S (wD S) z) d (S (8 + (z : Int))) + S (104 + (z : Int)) := w; omega)
            rw [if_neg l, bd2_mk, if_neg p1, imp_no p1]
        rw [first, tg, lt_M H hs (by omega) (by omega), tg, lt_M H hs kr.1 (by omega), w32_id (by omega) (by omega)]
        have lo1 : ∀ v, pss 2147483647 (edg S (wD S) (z + 1)) d v ≤ pss 2147483647 (edg S (wD S) z) d v := fun v => by rw [hp]; exact Int.le_trans (rlx_le v) (rlx_le v)
        by_cases p2 : imp 2147483647 (rlx 2147483647 (pss 2147483647 (edg S (wD S) z) d) (S (8 + (z : Int)), S (32 + (z : Int)), wD S z)) (S (32 + (z : Int)), S (8 + (z : Int)), wD S z)
        · have l : rlx 2147483647 (pss 2147483647 (edg S (wD S) z) d) (S (8 + (z : Int)), S (32 + (z : Int)), wD S z) (S (32 + (z : Int))) + S (104 + (z : Int)) < rlx 2147483647 (pss 2147483647 (edg S (wD S) z) d) (S (8 + (z : Int)), S (32 + (z : Int)), wD S z) (S (8 + (z : Int))) := Classical.byContradiction (fun y => p2 (Or.inr (by show rlx 2147483647 (pss 2147483647 (edg S (wD S) z) d) (S (8 + (z : Int)), S (32 + (z : Int)), wD S z) (S (8 + (z : Int))) ≤ rlx 2147483647 (pss 2147483647 (edg S (wD S) z) d) (S (8 + (z : Int)), S (32 + (z : Int)), wD S z) (S (32 + (z : Int))) + S (104 + (z : Int)); omega)))
          have er : up (rlx 2147483647 (pss 2147483647 (edg S (wD S) z) d) (S (8 + (z : Int)), S (32 + (z : Int)), wD S z)) (S (8 + (z : Int))) (rlx 2147483647 (pss 2147483647 (edg S (wD S) z) d) (S (8 + (z : Int)), S (32 + (z : Int)), wD S z) (S (32 + (z : Int))) + S (104 + (z : Int))) = pss 2147483647 (edg S (wD S) (z + 1)) d := by
            rw [hp, rlx_imp p2]
          rw [if_pos l, tg, tg, lt_M H hs (by omega) (by omega), w32_id (by omega) (by omega), st_M H hs kr.1 (by omega), er]
          refine ih (z + 1) 1 (by omega) (by omega) I2 (Or.inr ⟨rfl, S (8 + (z : Int)), ?_⟩)
          have l1 := imp_lt p2
          rw [← hp] at l1
          exact Int.lt_of_lt_of_le l1 (Int.le_trans (rlx_le _) (pss_le _ _ _))
        · have l : ¬ rlx 2147483647 (pss 2147483647 (edg S (wD S) z) d) (S (8 + (z : Int)), S (32 + (z : Int)), wD S z) (S (32 + (z : Int))) + S (104 + (z : Int)) < rlx 2147483647 (pss 2147483647 (edg S (wD S) z) d) (S (8 + (z : Int)), S (32 + (z : Int)), wD S z) (S (8 + (z : Int))) := fun y => p2 (fun w => by
            rcases w with w | w
            · have w : rlx 2147483647 (pss 2147483647 (edg S (wD S) z) d) (S (8 + (z : Int)), S (32 + (z : Int)), wD S z) (S (32 + (z : Int))) = 2147483647 := w; omega
            · have w : rlx 2147483647 (pss 2147483647 (edg S (wD S) z) d) (S (8 + (z : Int)), S (32 + (z : Int)), wD S z) (S (8 + (z : Int))) ≤ rlx 2147483647 (pss 2147483647 (edg S (wD S) z) d) (S (8 + (z : Int)), S (32 + (z : Int)), wD S z) (S (32 + (z : Int))) + S (104 + (z : Int)) := w; omega)
          have er : rlx 2147483647 (pss 2147483647 (edg S (wD S) z) d) (S (8 + (z : Int)), S (32 + (z : Int)), wD S z) = pss 2147483647 (edg S (wD S) (z + 1)) d := by rw [hp, imp_no p2]
          rw [if_neg l, er]
          refine ih (z + 1) _ (by omega) (by omega) I2 ?_
          by_cases p1 : imp 2147483647 (pss 2147483647 (edg S (wD S) z) d) (S (8 + (z : Int)), S (32 + (z : Int)), wD S z)
          · rw [if_pos p1]
            refine Or.inr ⟨rfl, S (32 + (z : Int)), ?_⟩
            have l1 := imp_lt p1
            rw [er] at l1
            exact Int.lt_of_lt_of_le l1 (pss_le _ _ _)
          · rw [if_neg p1]
            rw [← er, imp_no p1]; exact hc
      · rw [if_neg q] at hp
        rw [B_f q, if_pos rfl]
        rw [← hp] at hv hc ⊢
        exact ih (z + 1) c (by omega) (by omega) hv hc
    · have : z = (S 7).toNat := by omega
      subst this
      rw [if_neg g]
      exact ⟨c, hc, rfl⟩
theorem Fy_iter (K : KOk S) (hd : Fy d) : ∀ k, Fy (iter (pss 2147483647 (edg S (wD S) (S 7).toNat)) d k) := Iv_iter Fy (fun d e h he => by
  obtain ⟨r, h1, h2, h3⟩ := edg_mem _ he
  have kr := K.2.2.2.2.2.2.2.2.2.2.2.2.2 (r : Int) (by omega) (by omega)
  refine Fy_rlx h ?_
  rcases h3 with rfl | rfl <;> (show 0 ≤ S (104 + (r : Int)); omega)) hd
theorem spreads_M (H : Sh sh) (K : KOk S) (P : PM V) (hs : s < 4096) (hd : Fy d) (h0 : 0 < S 0) : M_spreads 101 s (sh, setR (Mt V d s) 102 S) = some (0, (sh, setR (Mt V (stl S (wD S) d) s) 102 S)) := by
  have r2 := K.2.1
  have r4 := K.2.2.2.1
  have r3 := K.2.2.1
  have hG := Gr_edg (S := S) (wt := wD S) K (fun r hr => by
    have kr := K.2.2.2.2.2.2.2.2.2.2.2.2.2 (r : Int) (by omega) (by omega)
    show 0 < S (104 + (r : Int)); omega) (m := (S 7).toNat) (by omega)
  have hmain := bf_main (F := 2147483647) (d := d) hG (by omega) (fun v => by have := hd v; omega)
  have L : ∀ (n k : Nat), k < (S 0).toNat → (S 0).toNat - k < n → M_spreads_L2 n 101 s 1 (sh, setR (Mt V (iter (pss 2147483647 (edg S (wD S) (S 7).toNat)) d k) s) 102 S) = some (0, (sh, setR (Mt V (stl S (wD S) d) s) 102 S)) := by
    intro n
    induction n with
    | zero => intro k _ h; omega
    | succ n ih =>
      intro k hk hn
      have Ik := Fy_iter K hd k
      obtain ⟨c', h1, h2⟩ := spass_M (V := V) (s := s) (d := iter (pss 2147483647 (edg S (wD S) (S 7).toNat)) d k) (kk := fun x1 x2 x3 μ4 => M_spreads_L2 n x1 x2 x3 μ4) H K P hs Ik FU 0 0 (by have := K.2.2.1; omega) (by show _ < 1000000; omega) Ik (Or.inl ⟨rfl, rfl⟩)
      rw [show pss 2147483647 (edg S (wD S) 0) (iter (pss 2147483647 (edg S (wD S) (S 7).toNat)) d k) = iter (pss 2147483647 (edg S (wD S) (S 7).toNat)) d k from rfl, show ((0 : Nat) : Int) = 0 from rfl] at h2
      rw [M_spreads_L2, if_neg (by decide), h2]
      rcases h1 with ⟨e1, e2⟩ | ⟨e1, v, e2⟩
      · have := iter_stay (f := pss 2147483647 (edg S (wD S) (S 7).toNat)) (x := d) (k := k) e2 ((S 0).toNat - 1 - k)
        rw [show k + ((S 0).toNat - 1 - k) = (S 0).toNat - 1 by omega] at this
        rw [e1, e2]
        obtain ⟨n', hn'⟩ : ∃ n', n = n' + 1 := ⟨n - 1, by omega⟩
        rw [hn', M_spreads_L2, if_pos rfl]
        unfold stl
        rw [this]
      · rw [e1]
        refine ih (k + 1) ?_ (by omega)
        refine Classical.byContradiction (fun hc => ?_)
        have ek : k = (S 0).toNat - 1 := by omega
        rw [ek, hmain] at e2
        omega
  exact L FU 0 (by omega) (by show _ < 1000000; omega)
end BOX5
