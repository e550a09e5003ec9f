/-! PURE: the class's rows of least ways -/
section WAYS
variable {sh : List (Nat × Nat)} {V V' V1 V2 V2' : Int → Int → Int} {r t s c i j k x a b y D D' f p v q h u : Int} {S S' R W : Int → Int} {n : Nat} {d d' : Int → Int} {wt : Int → Int}
/-- a row that lies lower somewhere -/
def Chg (d d' : Int → Int) : Prop := ∃ v, d' v < d v
def edg (S wt : Int → Int) : Nat → List (Int × Int × Int)
  | 0 => []
  | r + 1 => edg S wt r ++ if S (128 + r) = 0 then [(S (8 + r), S (32 + r), wt r), (S (32 + r), S (8 + r), wt r)] else []
theorem edg_mem {e : Int × Int × Int} : ∀ m : Nat, e ∈ edg S wt m → ∃ r : Nat, r < m ∧ S (128 + r) = 0 ∧ (e = (S (8 + r), S (32 + r), wt r) ∨ e = (S (32 + r), S (8 + r), wt r)) := by
  intro m
  induction m with
  | zero => intro h; cases h
  | succ m ih =>
    intro h
    rw [edg, List.mem_append] at h
    rcases h with h | h
    · obtain ⟨r, h1, h2⟩ := ih h
      exact ⟨r, by omega, h2⟩
    · split at h
      · rename_i q
        refine ⟨m, by omega, q, ?_⟩
        simpa using h
      · cases h
theorem mem_edg : ∀ (m r : Nat), r < m → S (128 + r) = 0 → (S (8 + r), S (32 + r), wt r) ∈ edg S wt m ∧ (S (32 + r), S (8 + r), wt r) ∈ edg S wt m := by
  intro m
  induction m with
  | zero => intro r h; omega
  | succ m ih =>
    intro r h q
    rw [edg]
    by_cases e : r = m
    · subst e
      rw [if_pos q]
      exact ⟨List.mem_append_right _ (by simp), List.mem_append_right _ (by simp)⟩
    · have := ih r (by omega) q
      exact ⟨List.mem_append_left _ this.1, List.mem_append_left _ this.2⟩
theorem pss_edg (F : Int) (d : Int → Int) (m : Nat) : pss F (edg S wt (m + 1)) d = if S (128 + m) = 0 then rlx F (rlx F (pss F (edg S wt m) d) (S (8 + m), S (32 + m), wt m)) (S (32 + m), S (8 + m), wt m) else pss F (edg S wt m) d := by
  unfold pss
  rw [edg, List.foldl_append]
  split <;> rfl
theorem Gr_edg (K : KOk S) (hw : ∀ r : Nat, (r : Int) < S 7 → 0 < wt r) {m : Nat} (hm : (m : Int) ≤ S 7) : Gr (edg S wt m) (S 0).toNat := by
  intro e he
  obtain ⟨r, h1, h2, h3⟩ := edg_mem m he
  have hr := K.2.2.2.2.2.2.2.2.2.2.2.2.2 r (by omega) (by omega)
  have := hw r (by omega)
  rcases h3 with rfl | rfl
  · exact ⟨⟨by show 0 ≤ S (8 + r); omega, by show S (8 + r) < _; omega⟩, ⟨by show 0 ≤ S (32 + r); omega, by show S (32 + r) < _; omega⟩, this⟩
  · exact ⟨⟨by show 0 ≤ S (32 + r); omega, by show S (32 + r) < _; omega⟩, ⟨by show 0 ≤ S (8 + r); omega, by show S (8 + r) < _; omega⟩, this⟩
/-- does relaxing change something -/
abbrev imp (F : Int) (d : Int → Int) (e : Int × Int × Int) : Prop := ¬ (d e.1 = F ∨ d e.2.1 ≤ d e.1 + e.2.2)
theorem imp_lt {F : Int} {e : Int × Int × Int} (h : imp F d e) : rlx F d e e.2.1 < d e.2.1 := by
  unfold rlx; rw [if_neg h, upS_eq]; omega
theorem imp_no {F : Int} {e : Int × Int × Int} (h : ¬ imp F d e) : rlx F d e = d := by
  unfold rlx; rw [if_pos (Classical.not_not.mp h)]
/-- a row of the first twelve places -/
def r12 (d R : Int → Int) : Int → Int := fun j => if 0 ≤ j ∧ j < 12 then d j else R j
theorem r12_at (h0 : 0 ≤ j) (h1 : j < 12) : r12 d R j = d j := if_pos ⟨h0, h1⟩
theorem r12_up (h0 : 0 ≤ j) (h1 : j < 12) : up (r12 d R) j x = r12 (up d j x) R := by
  funext k; unfold up r12
  by_cases e : k = j
  · subst e; rw [if_pos rfl, if_pos ⟨h0, h1⟩]; exact (if_pos rfl).symm
  · rw [if_neg e]
    by_cases q : 0 ≤ k ∧ k < 12
    · rw [if_pos q, if_pos q]; exact (if_neg e).symm
    · rw [if_neg q, if_neg q]
/-- memory with the row of ways d and the weights W -/
def Mw (V : Int → Int → Int) (d R W : Int → Int) : Int → Int → Int := setR (setR V 66 W) 65 (r12 d R)
theorem Mw_65 : Mw V d R W 65 = r12 d R := setR_at
theorem Mw_66 : Mw V d R W 66 = W := by unfold Mw; rw [setR_ne (by decide), setR_at]
theorem Mw_ne (h1 : a ≠ 65) (h2 : a ≠ 66) : Mw V d R W a = V a := by unfold Mw; rw [setR_ne h1, setR_ne h2]
theorem Mw_up (h0 : 0 ≤ j) (h1 : j < 12) : upV (Mw V d R W) 65 j x = Mw V (up d j x) R W := by unfold Mw; rw [up_setR, r12_up h0 h1]
theorem Cx_Mw (X : Cx sh V S D) : Cx sh (Mw V d R W) S D := by
  have H := X.1
  unfold Mw
  exact Cx_set (Cx_set X (by decide) (by decide) (by rw [k_66 H]; decide)) (by decide) (by decide) (by rw [k_65 H]; decide)
theorem SF_Mw : SF V (Mw V d R W) := SF_set (SF_set SF_refl (by decide) (by decide)) (by decide) (by decide)
theorem WPt_Mw (h : WPt V) : WPt (Mw V d R W) := WPt_of h (fun t j ht _ _ => by rw [Mw_ne (by omega) (by omega)])
/-- numbers that can be added -/
def Rg (d : Int → Int) : Prop := ∀ v, d v = 2147483647 ∨ (-1000000000 ≤ d v ∧ d v ≤ 1000000000)
theorem Rg_F (h : Rg d) : ∀ v, d v ≤ 2147483647 := fun v => by rcases h v with q | q <;> omega
theorem improve_x (X : Cx sh V S D) (hR : Rg d) (h0 : 0 ≤ a) (h1 : a < 12) (h2 : 0 ≤ b) (h3 : b < 12) (hs : -1000000000 ≤ s ∧ s ≤ 1000000000) : Wy_improve 64 a b s (sh, Mw V d R W) = some (B (imp 2147483647 d (a, b, s)), (sh, Mw V (rlx 2147483647 d (a, b, s)) R W)) := by
  have H := X.1
  have P := (Cx_Mw (d := d) (R := R) (W := W) X).2.1
  have g : ∀ f : Int → Option (Int × Mem), bd (getf 9 0 (sh, Mw V d R W) 64) f = f 65 := fun f => by rw [bgt (by rw [k_64 H]), q_64_0 P]
  have l : ∀ (j : Int) (f : Int → Option (Int × Mem)), 0 ≤ j → j < 12 → bd (lda 20 (sh, Mw V d R W) 65 j) f = f (d j) := fun j f j0 j1 => by rw [blt (by rw [k_65 H]) j0 (by rw [k_65 H]; exact j1), Mw_65, r12_at j0 j1]
  unfold Wy_improve
  rw [g, l a _ h0 h1]
  by_cases e : d a = 2147483647
  · have hn : ¬ imp 2147483647 d (a, b, s) := fun z => z (Or.inl e)
    rw [if_pos e, B_f hn, imp_no hn]
  · rcases hR a with q | q
    · exact absurd q e
    · rw [if_neg e, g, l a _ h0 h1, g, l b _ h2 h3, w32_id (by omega) (by omega)]
      by_cases e2 : d a + s < d b
      · have hn : imp 2147483647 d (a, b, s) := fun z => by rcases z with z | z; exact e z; exact absurd e2 (by have z : d b ≤ d a + s := z; omega)
        rw [if_pos e2, g, g, l a _ h0 h1, bst (by rw [k_65 H]) h2 (by rw [k_65 H]; exact h3), Mw_up h2 h3, w32_id (by omega) (by omega), B_t hn]
        unfold rlx; rw [if_neg hn]
      · have hn : ¬ imp 2147483647 d (a, b, s) := fun z => z (Or.inr (by show d b ≤ d a + s; omega))
        rw [if_neg e2, B_f hn, imp_no hn]
theorem pass_T (X : Cx sh V S D) (Iv : (Int → Int) → Prop) (hI : ∀ d, Iv d → Rg d) (hW : ∀ r : Nat, (r : Int) < S 7 → W r = wt r ∧ (-1000000000 ≤ wt r ∧ wt r ≤ 1000000000)) (hS : ∀ d e, Iv d → e ∈ edg S wt (S 7).toNat → Iv (rlx 2147483647 d e)) (hd : Iv d) {kk : Int → Int → Int → Int → Mem → Option (Int × Mem)} {v3 : Int} : ∀ (n z : Nat) (c : Int), (z : Int) ≤ S 7 → (S 7).toNat - z < n → Iv (pss 2147483647 (edg S wt z) d) → ((c = 0 ∧ pss 2147483647 (edg S wt z) d = d) ∨ (c = 1 ∧ Chg d (pss 2147483647 (edg S wt z) d))) → ∃ c', ((c' = 0 ∧ pss 2147483647 (edg S wt (S 7).toNat) d = d) ∨ (c' = 1 ∧ Chg d (pss 2147483647 (edg S wt (S 7).toNat) d))) ∧ Wy_settle_L24 kk n 64 2 c v3 z (sh, Mw V (pss 2147483647 (edg S wt z) d) R W) = kk 64 2 c' v3 (sh, Mw V (pss 2147483647 (edg S wt (S 7).toNat) d) R W) := by
  have H := X.1
  obtain ⟨r1, r2, r3, r4, r5, r6, r7⟩ := Cx_rng X
  intro n
  induction n with
  | zero => intro z _ _ h; omega
  | succ n ih =>
    intro z c hz hn hv hc
    have X1 : ∀ d, Cx sh (Mw V d R W) S D := fun d => Cx_Mw X
    rw [Wy_settle_L24, b20 (X1 _), b37 (X1 _)]
    by_cases g : (z : Int) < S 7
    · have g0 : 0 ≤ (z : Int) := by omega
      have hd := Cx_rd X g0 g
      have hw := hW z g
      rw [if_pos g, bi2 (X1 _), x_isOpen (X1 _) g0 g]
      have hp := pss_edg (S := S) (wt := wt) 2147483647 d z
      by_cases q : S (128 + (z : Int)) = 0
      · rw [if_pos q] at hp
        have hm := mem_edg (S := S) (wt := wt) (S 7).toNat z (by omega) q
        have I1 := hS _ _ hv hm.1
        have I2 := hS _ _ I1 hm.2
        have w1 : ∀ (d : Int → Int) (f : Int → Option (Int × Mem)), (bd (getf 9 1 (sh, Mw V d R W) 64) fun x => bd (lda 20 (sh, Mw V d R W) x z) f) = f (wt z) := fun d f => by
          rw [bgt (by rw [k_64 H]), q_64_1 (X1 d).2.1, blt (by rw [k_66 H]) g0 (by rw [k_66 H]; show (z : Int) < 24; omega), Mw_66, hw.1]
        rw [B_t q, if_neg (by decide), b20 (X1 _), b38 (X1 _), bl4 (X1 _) g0 g, b20 (X1 _), b39 (X1 _), bl5 (X1 _) g0 g, w1, bit (by rw [k_64 H]), improve_x X (hI _ hv) (by omega) (by omega) (by omega) (by omega) hw.2, bd2_mk, w1, bit (by rw [k_64 H]), improve_x X (hI _ I1) (by omega) (by omega) (by omega) (by omega) hw.2, bd2_mk, ← hp]
        rw [← hp] at I2
        have step : ∀ c', ((c' = 0 ∧ pss 2147483647 (edg S wt (z + 1)) d = d) ∨ (c' = 1 ∧ Chg d (pss 2147483647 (edg S wt (z + 1)) d))) → ∃ c'', ((c'' = 0 ∧ pss 2147483647 (edg S wt (S 7).toNat) d = d) ∨ (c'' = 1 ∧ Chg d (pss 2147483647 (edg S wt (S 7).toNat) d))) ∧ Wy_settle_L24 kk n 64 2 c' v3 (w32 ((z : Int) + 1)) (sh, Mw V (pss 2147483647 (edg S wt (z + 1)) d) R W) = kk 64 2 c'' v3 (sh, Mw V (pss 2147483647 (edg S wt (S 7).toNat) d) R W) := fun c' hc' => by
          rw [w32_id (by omega) (by omega)]; exact ih (z + 1) c' (by omega) (by omega) I2 hc'
        have lo1 : ∀ v, pss 2147483647 (edg S wt (z + 1)) d v ≤ pss 2147483647 (edg S wt z) d v := fun v => by rw [hp]; exact Int.le_trans (rlx_le v) (rlx_le v)
        rcases hc with ⟨rfl, hc⟩ | ⟨rfl, v, hc⟩
        · rw [if_pos rfl]
          by_cases p1 : imp 2147483647 (pss 2147483647 (edg S wt z) d) (S (8 + z), S (32 + z), wt z)
          · rw [B_t p1, if_neg (by decide)]
            refine step 1 (Or.inr ⟨rfl, S (32 + z), ?_⟩)
            have l1 : rlx 2147483647 (pss 2147483647 (edg S wt z) d) (S (8 + z), S (32 + z), wt z) (S (32 + z)) < pss 2147483647 (edg S wt z) d (S (32 + z)) := imp_lt p1
            rw [hc] at l1
            rw [hp, hc]; exact Int.lt_of_le_of_lt (rlx_le _) l1
          · rw [B_f p1, if_pos rfl]
            by_cases p2 : imp 2147483647 (rlx 2147483647 (pss 2147483647 (edg S wt z) d) (S (8 + z), S (32 + z), wt z)) (S (32 + z), S (8 + z), wt z)
            · rw [B_t p2, if_neg (by decide)]
              refine step 1 (Or.inr ⟨rfl, S (8 + z), ?_⟩)
              have l1 : rlx 2147483647 (rlx 2147483647 (pss 2147483647 (edg S wt z) d) (S (8 + z), S (32 + z), wt z)) (S (32 + z), S (8 + z), wt z) (S (8 + z)) < rlx 2147483647 (pss 2147483647 (edg S wt z) d) (S (8 + z), S (32 + z), wt z) (S (8 + z)) := imp_lt p2
              rw [imp_no p1, hc] at l1
              rw [hp, imp_no p1, hc]; exact l1
            · rw [B_f p2, if_pos rfl]
              exact step 0 (Or.inl ⟨rfl, by rw [hp, imp_no p2, imp_no p1]; exact hc⟩)
        · rw [if_neg (by decide)]
          exact step 1 (Or.inr ⟨rfl, v, Int.lt_of_le_of_lt (lo1 v) hc⟩)
      · rw [if_neg q] at hp
        rw [B_f q, if_pos rfl, w32_id (by omega) (by omega)]
        rw [← hp] at hv hc ⊢
        exact ih (z + 1) c (by omega) (by omega) hv hc
    · have : z = (S 7).toNat := by omega
      subst this
      rw [if_neg g]
      exact ⟨c, hc, rfl⟩
/-- what settles: n less 1 rounds -/
def stl (S wt d : Int → Int) : Int → Int := iter (pss 2147483647 (edg S wt (S 7).toNat)) d ((S 0).toNat - 1)
theorem Iv_iter (Iv : (Int → Int) → Prop) (hS : ∀ d e, Iv d → e ∈ edg S wt (S 7).toNat → Iv (rlx 2147483647 d e)) (hd : Iv d) : ∀ k, Iv (iter (pss 2147483647 (edg S wt (S 7).toNat)) d k) := by
  have hp : ∀ (E : List (Int × Int × Int)) (d : Int → Int), (∀ e ∈ E, e ∈ edg S wt (S 7).toNat) → Iv d → Iv (pss 2147483647 E d) := by
    intro E
    induction E with
    | nil => intro d _ h; exact h
    | cons e E ih => intro d hs h; exact ih (rlx 2147483647 d e) (fun e' he => hs e' (List.mem_cons_of_mem _ he)) (hS d e h (hs e List.mem_cons_self))
  intro k
  induction k with
  | zero => exact hd
  | succ k ih => exact hp _ _ (fun _ h => h) ih
theorem Iv_pss (Iv : (Int → Int) → Prop) (hS : ∀ d e, Iv d → e ∈ edg S wt (S 7).toNat → Iv (rlx 2147483647 d e)) (hd : Iv d) : Iv (pss 2147483647 (edg S wt (S 7).toNat) d) := Iv_iter Iv hS hd 1
theorem settle_T (X : Cx sh V S D) (Iv : (Int → Int) → Prop) (hI : ∀ d, Iv d → Rg d) (hW : ∀ r : Nat, (r : Int) < S 7 → W r = wt r ∧ (-1000000000 ≤ wt r ∧ wt r ≤ 1000000000)) (hp : ∀ r : Nat, (r : Int) < S 7 → 0 < wt r) (hS : ∀ d e, Iv d → e ∈ edg S wt (S 7).toNat → Iv (rlx 2147483647 d e)) (hd : Iv d) (h0 : 0 < S 0) : Wy_settle 64 2 (sh, Mw V d R W) = some (0, (sh, Mw V (stl S wt d) R W)) := by
  have H := X.1
  obtain ⟨r1, r2, r3, r4, r5, r6, r7⟩ := Cx_rng X
  have hG := Gr_edg (S := S) (wt := wt) X.2.2.2.1.1 hp (m := (S 7).toNat) (by omega)
  have hmain := bf_main (F := 2147483647) (d := d) hG (by omega) (Rg_F (hI d hd))
  have L : ∀ (n k : Nat) (c : Int), (k : Int) ≤ S 0 → (S 0).toNat - k < n → ((c = 0 ∧ ∃ k', k = k' + 1 ∧ iter (pss 2147483647 (edg S wt (S 7).toNat)) d (k' + 1) = iter (pss 2147483647 (edg S wt (S 7).toNat)) d k') ∨ c = 1) → Wy_settle_L4 n 64 2 c k (sh, Mw V (iter (pss 2147483647 (edg S wt (S 7).toNat)) d k) R W) = some (0, (sh, Mw V (stl S wt d) R W)) := by
    intro n
    induction n with
    | zero => intro k _ _ h; omega
    | succ n ih =>
      intro k c hk hn hc
      have X1 : Cx sh (Mw V (iter (pss 2147483647 (edg S wt (S 7).toNat)) d k) R W) S D := Cx_Mw X
      rw [Wy_settle_L4, b20 X1, b30 X1]
      have fix : ∀ k' : Nat, (k' : Int) < S 0 → iter (pss 2147483647 (edg S wt (S 7).toNat)) d (k' + 1) = iter (pss 2147483647 (edg S wt (S 7).toNat)) d k' → iter (pss 2147483647 (edg S wt (S 7).toNat)) d (k' + 1) = stl S wt d := fun k' h1 h2 => by
        have := iter_stay h2 ((S 0).toNat - 1 - k')
        rw [show k' + ((S 0).toNat - 1 - k') = (S 0).toNat - 1 by omega] at this
        unfold stl; rw [this, h2]
      by_cases g : (k : Int) < S 0
      · rw [if_pos g]
        rcases hc with ⟨rfl, k', rfl, e⟩ | rfl
        · rw [if_pos rfl, fix k' (by omega) e]
        · have Ik := Iv_iter (d := d) Iv hS hd k
          obtain ⟨c', h1, h2⟩ := pass_T (R := R) (d := iter (pss 2147483647 (edg S wt (S 7).toNat)) d k) (kk := fun x3 x4 x5 x6 μ7 => Wy_settle_L4 n x3 x4 x5 (w32 (x6 + 1)) μ7) (v3 := k) X Iv hI hW hS Ik FU 0 0 (by omega) (by show _ < 1000000; omega) Ik (Or.inl ⟨rfl, rfl⟩)
          have e0 : pss 2147483647 (edg S wt 0) (iter (pss 2147483647 (edg S wt (S 7).toNat)) d k) = iter (pss 2147483647 (edg S wt (S 7).toNat)) d k := rfl
          rw [e0, show ((0 : Nat) : Int) = 0 from rfl] at h2
          rw [if_neg (by decide), h2, w32_id (by omega) (by omega)]
          refine ih (k + 1) c' (by omega) (by omega) ?_
          rcases h1 with ⟨e1, e2⟩ | ⟨e1, -⟩
          · exact Or.inl ⟨e1, k, rfl, e2⟩
          · exact Or.inr e1
      · rw [if_neg g]
        have : k = (S 0).toNat - 1 + 1 := by omega
        subst this
        rw [fix ((S 0).toNat - 1) (by omega) hmain]
  unfold Wy_settle
  exact L FU 0 1 (by omega) (by show _ < 1000000; omega) (Or.inr rfl)
end WAYS
