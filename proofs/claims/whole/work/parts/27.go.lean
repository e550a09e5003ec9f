/-! PURE: go -/
section GO
variable {sh : List (Nat × Nat)} {V V' : Int → Int → Int} {r t m s c i j d k x a y D : Int} {S S' : Int → Int} {n : Nat}
theorem sStep_fr (h0 : 0 ≤ i) (h1 : i < 6) (hm : 0 ≤ S (171 + i)) (hm' : S (171 + i) ≤ 40) (hm2 : sBk S i r = 0 → S (171 + i) < 40) (hj : ¬ XS (fun z => z = i) j) : sStep S i r j = S j := by
  have hx : ¬ (j = 153 + i ∨ j = 159 + i ∨ j = 165 + i ∨ j = 171 + i ∨ j = 177 + i ∨ j = 183 + i ∨ (189 + 40 * i ≤ j ∧ j < 229 + 40 * i) ∨ (429 + 40 * i ≤ j ∧ j < 469 + 40 * i) ∨ (669 + 40 * i ≤ j ∧ j < 709 + 40 * i)) := fun q => hj (Or.inr ⟨i, h0, h1, rfl, q⟩)
  unfold sStep
  rcases sBk_01 S i r with q | q
  · have := hm2 q
    simp only [q, ↓reduceIte]; unfold sPay; rw [upS_ne (by omega), upS_ne (by omega), upS_ne (by omega), upS_ne (by omega), upS_ne (by omega), upS_ne (by omega), upS_ne (by omega), upS_ne (by omega)]
  · simp only [q, Int.reduceEq, ↓reduceIte]; unfold sHad; rw [upS_ne (by omega), upS_ne (by omega), upS_ne (by omega), upS_ne (by omega), upS_ne (by omega)]
theorem sRefuse_m (hr : sRefuse S i r = 0) (hm : S (171 + i) ≤ 40) : sBk S i r = 0 → S (171 + i) < 40 := by
  intro q
  unfold sRefuse at hr
  simp only [q, ↓reduceIte] at hr
  by_cases e : S (171 + i) = 40
  · simp only [e, ↓reduceIte] at hr
    repeat' split at hr
    all_goals omega
  · omega
theorem sRefuse_open (hr : sRefuse S i r = 0) : S (128 + r) = 0 ∧ (S (8 + r) = S (153 + i) ∨ S (32 + r) = S (153 + i)) := by
  unfold sRefuse at hr
  by_cases q : S (128 + r) = 0
  · by_cases q' : S (8 + r) = S (153 + i) ∨ S (32 + r) = S (153 + i)
    · exact ⟨q, q'⟩
    · rw [if_pos q, if_neg q'] at hr; omega
  · rw [if_neg q] at hr; omega
theorem sHead_rng (K : KOk S) (h0 : 0 ≤ d) (h1 : d < 2 * S 7) : 0 ≤ sHead S d ∧ sHead S d < S 0 := by
  obtain ⟨z1, z2, z3, z4, z5, z6, z7, z8, z9, z10, z11, z12, z13, zr⟩ := K
  have := zr (d / 2) (by omega) (by omega)
  unfold sHead; split <;> omega
theorem TOk_step (K : KOk S) (T : TOk S D i) (hr : sRefuse S i r = 0) (h0 : 0 ≤ i) (h1 : i < 6) (h2 : 0 ≤ r) (h3 : r < S 7) : TOk (sStep S i r) (D + 90) i := by
  have hA := sAmt_rng K T h2 h3
  have hd : 0 ≤ sDart S r (S (153 + i)) ∧ sDart S r (S (153 + i)) < 2 * S 7 := by unfold sDart; split <;> omega
  have hh := sHead_rng K hd.1 hd.2
  have hy := K.2.2.2.2.2.2.2.2.2.2.2.2.2 r h2 h3
  have z2 := K.2.1
  obtain ⟨t1, t2, t3, t4, t5, t6, t7⟩ := T
  have hm := sRefuse_m hr t2
  unfold TOk
  have e7 : sStep S i r 7 = S 7 := sStep_fr h0 h1 t1 t2 hm (XS_low (by decide))
  have e0 : sStep S i r 0 = S 0 := sStep_fr h0 h1 t1 t2 hm (XS_low (by decide))
  rw [e7, e0]
  unfold sStep
  rcases sBk_01 S i r with q | q
  · have := hm q
    simp only [q, ↓reduceIte]; unfold sPay
    simp (disch := omega) only [upS_eq, upS_ne]
    refine ⟨by omega, by omega, by omega, by omega, hh.1, by omega, fun k g0 g1 => ?_⟩
    by_cases e : k = S (171 + i)
    · subst e; simp (disch := omega) only [upS_eq, upS_ne]; omega
    · simp (disch := omega) only [upS_eq, upS_ne]; have := t7 k g0 (by omega); omega
  · have := sBk_m q
    simp only [q, Int.reduceEq, ↓reduceIte]; unfold sHad
    simp (disch := omega) only [upS_eq, upS_ne]
    refine ⟨by omega, by omega, by omega, by omega, hh.1, by omega, fun k g0 g1 => ?_⟩
    simp (disch := omega) only [upS_eq, upS_ne]; have := t7 k g0 (by omega); omega
theorem TrAt_step (T : TrAt sh V t m s c S i) (TO : TOk S D i) (hr : sRefuse S i r = 0) (h0 : 0 ≤ i) (h1 : i < 6) : TrAt sh (cStep V t m s c S i r) t m s c (sStep S i r) i := by
  obtain ⟨⟨⟨kt, km, ks, kc⟩, ⟨t1, t2, t3, t4⟩, ⟨e1, e2, e3⟩, p6, p7, p8⟩, ⟨f0, f1, f2, f3, f4, f5⟩, sl⟩ := T
  obtain ⟨v1, v2, v3, v4, v5, v6, v7⟩ := TO
  have hm := sRefuse_m hr v2
  have n1 : m ≠ t := fun e => by rw [← e, km] at kt; cases kt
  have n2 : s ≠ t := fun e => by rw [← e, ks] at kt; cases kt
  have n3 : c ≠ t := fun e => by rw [← e, kc] at kt; cases kt
  have n1' := n1.symm
  have n2' := n2.symm
  have n3' := n3.symm
  have e1' := e1.symm
  have e2' := e2.symm
  have e3' := e3.symm
  unfold TrAt cStep sStep
  rcases sBk_01 S i r with q | q
  · have := hm q
    simp only [q, ↓reduceIte]; unfold sPay cPay
    simp (disch := first | assumption | omega) only [upS_eq, upS_ne, up_eq, up_row, up_col]
    refine ⟨⟨⟨kt, km, ks, kc⟩, ⟨t1, t2, t3, t4⟩, ⟨e1, e2, e3⟩, p6, p7, p8⟩, ⟨trivial, trivial, trivial, trivial, f4, trivial⟩, fun k g0 g1 => ?_⟩
    by_cases e : k = S (171 + i)
    · subst e
      simp (disch := first | assumption | omega) only [upS_eq, upS_ne, up_eq, up_row, up_col, and_self]
    · simp (disch := first | assumption | omega) only [upS_eq, upS_ne, up_eq, up_row, up_col]
      exact sl k g0 (by omega)
  · have := sBk_m q
    simp only [q, Int.reduceEq, ↓reduceIte]; unfold sHad cHad
    simp (disch := first | assumption | omega) only [upS_eq, upS_ne, up_eq, up_row, up_col]
    refine ⟨⟨⟨kt, km, ks, kc⟩, ⟨t1, t2, t3, t4⟩, ⟨e1, e2, e3⟩, p6, p7, p8⟩, ⟨trivial, trivial, trivial, f3, trivial, trivial⟩, fun k g0 g1 => ?_⟩
    simp (disch := first | assumption | omega) only [upS_eq, upS_ne, up_eq, up_row, up_col]
    exact sl k g0 (by omega)
/-- the class's frame: which places a step leaves -/
theorem cStep_fr (h1 : a ≠ t) (h2 : a ≠ m) (h3 : a ≠ s) (h4 : a ≠ c) : cStep V t m s c S i r a j = V a j := by
  unfold cStep cPay cHad
  split <;> simp (disch := assumption) only [up_row]
theorem cStep_t (h2 : m ≠ t) (h3 : s ≠ t) (h4 : c ≠ t) (hj : 6 ≤ j) : cStep V t m s c S i r t j = V t j := by
  unfold cStep cPay cHad
  have h2 := h2.symm
  have h3 := h3.symm
  have h4 := h4.symm
  split <;> simp (disch := first | assumption | omega) only [up_row, up_col]
/-- what go answers, what go leaves -/
def aGo (S : Int → Int) (i r : Int) : Int := if 0 ≤ i ∧ i < S 152 then (if 0 ≤ r ∧ r < S 7 then (if sRefuse S i r = 0 then sAns S i r else sRefuse S i r) else -2) else -2
def goS (S : Int → Int) (i r : Int) : Int → Int := sBook (sStep S i r) (S (159 + i)) (if sBk S i r = 0 then sAmt S i r else - sAmt S i r)
def nGo (S : Int → Int) (i r : Int) : Int → Int := if (0 ≤ i ∧ i < S 152) ∧ (0 ≤ r ∧ r < S 7) ∧ sRefuse S i r = 0 then goS S i r else S
theorem M_go_eq (H : Sh sh) (P : PM V) (O : SOk S D) (hD : D < 1900000000) (hb : V 101 15 = 1) : M_go 101 i r (sh, setR V 102 S) = some (aGo S i r, (sh, setR (upV V 101 0 0) 102 (nGo S i r))) := by
  obtain ⟨KO, o2, o3, o4, -, -⟩ := O
  have KO' := KO
  obtain ⟨z1, z2, z3, z4, -⟩ := KO
  have P1 : PM (upV V 101 0 0) := by rw [PM_fld (by decide)]; exact P
  unfold M_go aGo nGo
  rw [bp101 H, bi101 H, M_isOne_b H P1 o2 o3]
  simp only [B_0, ite_not]
  by_cases h : 0 ≤ i ∧ i < S 152
  · rw [if_pos h, if_pos h, bi101 H, M_isRoad_b H P1 z3 z4]
    simp only [B_0, ite_not]
    by_cases h' : 0 ≤ r ∧ r < S 7
    · have T := o4 i h.1 h.2
      rw [if_pos h', if_pos h', bi101 H, M_refuses_b H P1 (by omega : D < 2000000000) T h'.1 (by omega) h.1 (by omega)]
      by_cases g : sRefuse S i r = 0
      · rw [if_pos g, if_pos g, if_pos ⟨h, h', g⟩, bi101 H, M_goes_b H P1 (by omega : D < 2000000000) KO' T h'.1 h'.2 h.1 (by omega) g, up_col (by decide), hb]
        rfl
      · rw [if_neg g, if_neg g, if_neg (fun q => g q.2.2)]
    · rw [if_neg h', if_neg h', if_neg (fun q => h' q.2.1)]
  · rw [if_neg h, if_neg h, if_neg (fun q => h q.1)]
theorem M_go_b (H : Sh sh) (P : PM V) (O : SOk S D) (hD : D < 1900000000) (hb : V 101 15 = 1) {γ : Type} {fZ : Int → Mem → Option γ} : bd2 (M_go 101 i r (sh, setR V 102 S)) fZ = fZ (aGo S i r) (sh, setR (upV V 101 0 0) 102 (nGo S i r)) := by
  rw [M_go_eq] <;> first | assumption | rfl
theorem Pt_fld2 (h : (ptC.all fun q => !(q.1 == a && q.2.1 == j)) = true) : Pt (upV V a j x) = Pt V := by
  have e : ∀ q ∈ ptC, ¬ (q.1 = a ∧ q.2.1 = j) := fun q hq ⟨e1, e2⟩ => by have := List.all_eq_true.mp h q hq; simp [e1, e2] at this
  apply propext
  constructor
  · intro P q hq; have := P q hq; unfold upV at this; rw [if_neg (e q hq)] at this; exact this
  · intro P q hq; unfold upV; rw [if_neg (e q hq)]; exact P q hq
def cEnter (V : Int → Int → Int) (d x : Int) : Int → Int → Int := if d < 720 then upV (upV V 2 5 (w32 (V 2 5 + x))) 10 d (w32 (V 10 d + x)) else upV V 2 5 (w32 (V 2 5 + x))
theorem Wo_enter_eq (H : Sh sh) (P : Pt V) (h0 : 0 ≤ d) : Wo_enter 2 d x (sh, V) = some (0, (sh, cEnter V d x)) := by
  unfold Wo_enter cEnter
  rw [bgt (by rw [k_2 H]), bpt (by rw [k_2 H]), if_neg (by omega)]
  by_cases h : d < 720
  · rw [if_pos h, if_pos h, bgt (by rw [k_2 H]), up_col (by decide), q_2_2 P, blt (by rw [k_10 H]) h0 (by rw [k_10 H]; exact h), up_row (by decide), bst (by rw [k_10 H]) h0 (by rw [k_10 H]; exact h)]
  · rw [if_neg h, if_neg h]
theorem Wo_enter_b (H : Sh sh) (P : Pt V) (h0 : 0 ≤ d) {γ : Type} {fZ : Int → Mem → Option γ} : bd2 (Wo_enter 2 d x (sh, V)) fZ = fZ (0) (sh, cEnter V d x) := by
  rw [Wo_enter_eq] <;> first | assumption | rfl
theorem Pt_cStep (H : Sh sh) (T : TrAt sh V t m s c S i) (P : Pt V) : Pt (cStep V t m s c S i r) := by
  obtain ⟨⟨⟨kt, km, ks, kc⟩, -⟩, -⟩ := T
  unfold cStep cPay cHad
  split <;> simp only [Pt_k H (a := t) (by rw [kt]; decide), Pt_k H (a := m) (by rw [km]; decide), Pt_k H (a := s) (by rw [ks]; decide), Pt_k H (a := c) (by rw [kc]; decide)] <;> exact P
/-- the class's step with the treasure and the ledger -/
def cMove (V : Int → Int → Int) (t m s c : Int) (S : Int → Int) (i r : Int) : Int → Int → Int := if sBk S i r = 0 ∧ sAmt S i r = 0 then cStep V t m s c S i r else cEnter (cStep V t m s c S i r) (S (159 + i)) (if sBk S i r = 0 then sAmt S i r else - sAmt S i r)
theorem Wo_move_eq (H : Sh sh) (P : Pt V) (K : CK V S) (C : CM V S) (KO : KOk S) (T : TrAt sh V t m s c S i) (hD : D < 1900000000) (TO : TOk S D i) (h0 : 0 ≤ r) (h1 : r < S 7) : Wo_move 2 t r (sh, V) = some (if sRefuse S i r = 0 then sAns S i r else sRefuse S i r, (sh, if sRefuse S i r = 0 then cMove V t m s c S i r else V)) := by
  have hA := sAmt_rng KO TO h0 h1
  have P' := Pt_cStep (r := r) H T P
  have kt := T.1.1.1
  have f1 := T.2.1.2.1
  have v3 := TO.2.2.1
  unfold Wo_move
  rw [bgt (by rw [kt]), bit (by rw [k_2 H]), Wo_step_b H P K C KO T hD TO h0 h1, f1]
  by_cases g : sRefuse S i r = 0
  · simp only [g, ↓reduceIte]
    unfold sAns cMove
    rcases sBk_01 S i r with q | q
    · simp only [q, ↓reduceIte, true_and]
      rw [if_pos (by omega)]
      by_cases e : sAmt S i r = 0
      · rw [if_neg (by omega), if_pos e]
      · rw [if_pos (by omega), if_neg e, bit (by rw [k_2 H]), Wo_enter_b H P' v3]
    · simp only [q, Int.reduceEq, ↓reduceIte, false_and]
      rw [if_neg (by omega), bit (by rw [k_2 H]), Wo_enter_b H P' v3, show 1000 - (1000 + sAmt S i r) = - sAmt S i r by omega, w32_id (by omega) (by omega)]
  · simp only [g, ↓reduceIte]
    have hneg : sRefuse S i r < 0 := by unfold sRefuse at g ⊢; repeat' split; all_goals (first | omega | (exfalso; simp_all))
    rw [if_pos (by omega), if_neg (by omega)]
theorem Wo_move_b (H : Sh sh) (P : Pt V) (K : CK V S) (C : CM V S) (KO : KOk S) (T : TrAt sh V t m s c S i) (hD : D < 1900000000) (TO : TOk S D i) (h0 : 0 ≤ r) (h1 : r < S 7) {γ : Type} {fZ : Int → Mem → Option γ} : bd2 (Wo_move 2 t r (sh, V)) fZ = fZ (if sRefuse S i r = 0 then sAns S i r else sRefuse S i r) (sh, if sRefuse S i r = 0 then cMove V t m s c S i r else V) := by
  rw [Wo_move_eq] <;> first | assumption | rfl
/-- what stands of the class apart from the world -/
def WF (V V' : Int → Int → Int) : Prop := ∀ a j, a < 2 ∨ 35 ≤ a → V' a j = V a j
theorem Tr_cells (T : TP V) (h0 : 0 ≤ i) (h1 : i < 6) : (12 ≤ V (11 + 4 * i) 6 ∧ V (11 + 4 * i) 6 < 35) ∧ (12 ≤ V (11 + 4 * i) 7 ∧ V (11 + 4 * i) 7 < 35) ∧ (12 ≤ V (11 + 4 * i) 8 ∧ V (11 + 4 * i) 8 < 35) := by
  obtain ⟨p, p0, p1, p2, p3, p4⟩ := T.1 i h0 h1
  omega
theorem TP_of (T : TP V) (h : ∀ i j, 0 ≤ i → i < 6 → 6 ≤ j → j ≤ 8 → V' (11 + 4 * i) j = V (11 + 4 * i) j) : TP V' := by
  refine ⟨fun i h0 h1 => ?_, fun i j h0 h1 h2 h3 hn => ?_⟩
  · obtain ⟨p, p0, p1, p2, p3, p4⟩ := T.1 i h0 h1
    exact ⟨p, p0, p1, by rw [h i 6 h0 h1 (by decide) (by decide)]; exact p2, by rw [h i 7 h0 h1 (by decide) (by decide)]; exact p3, by rw [h i 8 h0 h1 (by decide) (by decide)]; exact p4⟩
  · rw [h i 6 h0 h1 (by decide) (by decide), h j 6 h2 h3 (by decide) (by decide)]; exact T.2 i j h0 h1 h2 h3 hn
theorem w32_0 (h : R32 x) : w32 (x + 0) = x := by rw [Int.add_zero]; exact w32_R h
theorem goS_fr (h0 : 0 ≤ i) (h1 : i < 6) (TO : TOk S D i) (hr : sRefuse S i r = 0) (hj : ¬ XS (fun z => z = i) j) : goS S i r j = S j := by
  have hj' : ¬ 909 ≤ j := fun q => hj (Or.inl q)
  obtain ⟨v1, v2, v3, -⟩ := TO
  unfold goS sBook
  split
  · rw [upS_ne (by omega)]; exact sStep_fr h0 h1 v1 v2 (sRefuse_m hr v2) hj
  · exact sStep_fr h0 h1 v1 v2 (sRefuse_m hr v2) hj
theorem goS_low (h : j < 909) (hd : 0 ≤ S (159 + i)) : goS S i r j = sStep S i r j := by
  unfold goS sBook
  split
  · rw [upS_ne (by omega)]
  · rfl
theorem sStep_high (h0 : 0 ≤ i) (h1 : i < 6) (TO : TOk S D i) (hr : sRefuse S i r = 0) (hj : 909 ≤ j) : sStep S i r j = S j := by
  obtain ⟨v1, v2, v3, -⟩ := TO
  have hm := sRefuse_m hr v2
  unfold sStep
  rcases sBk_01 S i r with q | q
  · have := hm q
    simp only [q, ↓reduceIte]; unfold sPay; rw [upS_ne (by omega), upS_ne (by omega), upS_ne (by omega), upS_ne (by omega), upS_ne (by omega), upS_ne (by omega), upS_ne (by omega), upS_ne (by omega)]
  · simp only [q, Int.reduceEq, ↓reduceIte]; unfold sHad; rw [upS_ne (by omega), upS_ne (by omega), upS_ne (by omega), upS_ne (by omega), upS_ne (by omega)]
theorem sStep_bal (h0 : 0 ≤ i) (h1 : i < 6) (TO : TOk S D i) (hr : sRefuse S i r = 0) : w32 (y + ((sStep S i r (177 + i) - sStep S i r (183 + i)) - (S (177 + i) - S (183 + i)))) = w32 (y + (if sBk S i r = 0 then sAmt S i r else - sAmt S i r)) := by
  obtain ⟨v1, v2, v3, -⟩ := TO
  have hm := sRefuse_m hr v2
  unfold sStep
  rcases sBk_01 S i r with q | q
  · have := hm q
    simp only [q, ↓reduceIte]; unfold sPay
    simp (disch := omega) only [upS_eq, upS_ne]
    simp only [w32_def]; omega
  · simp only [q, Int.reduceEq, ↓reduceIte]; unfold sHad
    simp (disch := omega) only [upS_eq, upS_ne]
    simp only [w32_def]; omega
theorem cEnter_fr (h : a ≠ 10) (h' : ¬ (a = 2 ∧ j = 5)) : cEnter V d x a j = V a j := by
  unfold cEnter
  split
  · rw [up_row h]; unfold upV; rw [if_neg h']
  · unfold upV; rw [if_neg h']
theorem cEnter_25 : cEnter V d x 2 5 = w32 (V 2 5 + x) := by
  unfold cEnter
  split
  · rw [up_row (by decide), up_eq]
  · rw [up_eq]
theorem cEnter_10 : cEnter V d x 10 k = if k = d ∧ d < 720 then w32 (V 10 d + x) else V 10 k := by
  unfold cEnter
  by_cases h : d < 720
  · rw [if_pos h]
    by_cases e : k = d
    · subst e; rw [up_eq, if_pos ⟨rfl, h⟩]
    · rw [up_col e, up_row (by decide), if_neg (fun q => e q.1)]
  · rw [if_neg h, up_row (by decide), if_neg (fun q => h q.2)]
theorem cMove_fr (h : a ≠ 10) (h' : ¬ (a = 2 ∧ j = 5)) : cMove V t m s c S i r a j = cStep V t m s c S i r a j := by
  unfold cMove
  split
  · rfl
  · exact cEnter_fr h h'
theorem TOk_congr (T : TOk S D i) (h : ∀ j, j < 909 → S' j = S j) (h0 : 0 ≤ i) (h1 : i < 6) : TOk S' D i := by
  obtain ⟨t1, t2, t3, t4, t5, t6, t7⟩ := T
  unfold TOk
  rw [h (171 + i) (by omega), h (159 + i) (by omega), h (153 + i) (by omega), h 7 (by omega), h 0 (by omega)]
  refine ⟨t1, t2, t3, t4, t5, t6, fun k g0 g1 => ?_⟩
  rw [h (189 + (40 * i + k)) (by omega), h (429 + (40 * i + k)) (by omega), h (669 + (40 * i + k)) (by omega)]
  exact t7 k g0 g1
theorem CW_go (H : Sh sh) (C : CW V S) (O : SOk S D) (T : TP V) (h0 : 0 ≤ i) (h1 : i < S 152) (h2 : 0 ≤ r) (h3 : r < S 7) (hr : sRefuse S i r = 0) (e1 : t = 11 + 4 * i) (e2 : m = V t 6) (e3 : s = V t 7) (e4 : c = V t 8) : (CW (cMove V t m s c S i r) (goS S i r) ∧ SOk (goS S i r) (D + 90)) ∧ TP (cMove V t m s c S i r) ∧ WF V (cMove V t m s c S i r) := by
  have O' := O
  have C' := C
  obtain ⟨c1, c2, c3, c4, c5, c6⟩ := C
  obtain ⟨KO, o2, o3, o4, o5, o6⟩ := O
  have hi6 : i < 6 := by omega
  have TO := o4 i h0 h1
  have TO' := TO
  obtain ⟨v1, v2, v3, v4, v5, v6, v7⟩ := TO'
  have TR : TrAt sh V t m s c S i := by
    have := TrAt_of H T (c4 i h0 h1) h0 hi6
    subst e1; subst e2; subst e3; subst e4; exact this
  have TS := TrAt_step TR TO hr h0 hi6
  have hc := Tr_cells T h0 hi6
  rw [← e1, ← e2, ← e3, ← e4] at hc
  obtain ⟨⟨⟨kt, km, ks, kc⟩, -⟩, -⟩ := TR
  have n1 : m ≠ t := fun e => by rw [← e, km] at kt; cases kt
  have n2 : s ≠ t := fun e => by rw [← e, ks] at kt; cases kt
  have n3 : c ≠ t := fun e => by rw [← e, kc] at kt; cases kt
  have hX : ∀ a j, ¬ XV (fun z => z = i) V a j → cMove V t m s c S i r a j = V a j := by
    intro a j hx
    have hx1 : ¬ (a = 2 ∧ j = 5) := fun q => hx (Or.inl q)
    have hx2 : ¬ a = 10 := fun q => hx (Or.inr (Or.inl q))
    have hx3 : ¬ (a = t ∨ a = m ∨ a = s ∨ a = c) := fun q => hx (Or.inr (Or.inr (Or.inr (Or.inr ⟨i, h0, hi6, rfl, by rw [← e1, ← e2, ← e3, ← e4]; exact q⟩))))
    rw [cMove_fr hx2 hx1, cStep_fr (fun e => hx3 (Or.inl e)) (fun e => hx3 (Or.inr (Or.inl e))) (fun e => hx3 (Or.inr (Or.inr (Or.inl e)))) (fun e => hx3 (Or.inr (Or.inr (Or.inr e))))]
  have hrow : ∀ a j, 11 ≤ a → cMove V t m s c S i r a j = cStep V t m s c S i r a j := fun a j ha => cMove_fr (by omega) (by omega)
  have h10 : ∀ k, cStep V t m s c S i r 10 k = V 10 k := fun k => cStep_fr (by omega) (by omega) (by omega) (by omega)
  have h25 : cStep V t m s c S i r 2 5 = V 2 5 := cStep_fr (by omega) (by omega) (by omega) (by omega)
  have hled : ∀ k, 0 ≤ k → k < 720 → cMove V t m s c S i r 10 k = goS S i r (909 + k) := by
    intro k g0 g1
    unfold goS sBook cMove
    by_cases z : sBk S i r = 0 ∧ sAmt S i r = 0
    · rw [if_pos z, h10, c5 k g0 g1, if_pos z.1, z.2]
      split
      · by_cases e : k = S (159 + i)
        · subst e; rw [upS_eq, sStep_high h0 hi6 TO hr (by omega), w32_0 (o6 _ g0 g1)]
        · rw [upS_ne (by omega), sStep_high h0 hi6 TO hr (by omega)]
      · rw [sStep_high h0 hi6 TO hr (by omega)]
    · rw [if_neg z, cEnter_10, h10, h10]
      split
      · rename_i q
        rw [if_pos q.2, q.1, upS_eq, sStep_high h0 hi6 TO hr (by omega), c5 _ v3 q.2]
      · rename_i q
        rw [c5 k g0 g1]
        split
        · rw [upS_ne (by omega), sStep_high h0 hi6 TO hr (by omega)]
        · rw [sStep_high h0 hi6 TO hr (by omega)]
  have hT : TP (cMove V t m s c S i r) := by
    refine TP_of T (fun i' j' g0 g1 g2 g3 => ?_)
    rw [hrow _ _ (by omega)]
    have hk := kTr H g0 g1
    by_cases e : i' = i
    · rw [e, ← e1]; exact cStep_t n1 n2 n3 g2
    · exact cStep_fr (by omega) (fun q => by rw [q, km] at hk; cases hk.1) (fun q => by rw [q, ks] at hk; cases hk.1) (fun q => by rw [q, kc] at hk; cases hk.1)
  refine ⟨CW_of (I := fun z => z = i) C' O' T (by omega) (fun j hj => goS_fr h0 hi6 TO hr hj) hX ?_ hled ?_ ?_, hT, ?_⟩
  · intro i' hi g0 g1
    have hi : i' = i := hi
    subst hi
    refine ⟨?_, TOk_congr (TOk_step KO TO hr h0 hi6 h2 h3) (fun j hj => goS_low hj v3) h0 hi6⟩
    obtain ⟨⟨-, -, -, p6, p7, p8⟩, hf, sl⟩ := TS
    have hm : 0 ≤ sStep S i' r (171 + i') ∧ sStep S i' r (171 + i') ≤ 40 := ⟨(TOk_step KO TO hr h0 hi6 h2 h3).1, (TOk_step KO TO hr h0 hi6 h2 h3).2.1⟩
    unfold TD
    rw [← e1]
    simp (disch := omega) only [goS_low, hrow]
    rw [p6, p7, p8]
    refine ⟨hf, fun k g0 g1 => ?_⟩
    rw [goS_low (by omega) v3, goS_low (by omega) v3, goS_low (by omega) v3]
    exact sl k g0 g1
  · have htre : tre (goS S i r) (S 152).toNat = tre S (S 152).toNat + ((goS S i r (177 + i.toNat) - goS S i r (183 + i.toNat)) - (S (177 + i.toNat) - S (183 + i.toNat))) := tre_one (by omega) (fun z hz hn => by
      rw [goS_fr h0 hi6 TO hr (XS_other (i := z) (by omega) (by omega) (by show ¬ ((z : Int) = i); omega) (by omega)), goS_fr h0 hi6 TO hr (XS_other (i := z) (by omega) (by omega) (by show ¬ ((z : Int) = i); omega) (by omega))])
    rw [htre, Int.toNat_of_nonneg h0, goS_low (by omega) v3, goS_low (by omega) v3, sStep_bal h0 hi6 TO hr]
    have hL : cMove V t m s c S i r 2 5 = w32 (V 2 5 + (if sBk S i r = 0 then sAmt S i r else - sAmt S i r)) := by
      unfold cMove
      by_cases z : sBk S i r = 0 ∧ sAmt S i r = 0
      · rw [if_pos z, h25, if_pos z.1, z.2, c6, w32_0 (R32_w _)]
      · rw [if_neg z, cEnter_25, h25]
    rw [hL, c6]
    simp only [w32_def]; omega
  · intro k g0 g1
    unfold goS sBook
    split
    · by_cases e : 909 + k = 909 + S (159 + i)
      · rw [e, upS_eq]; exact R32_w _
      · rw [upS_ne e, sStep_high h0 hi6 TO hr (by omega)]; exact o6 k g0 g1
    · rw [sStep_high h0 hi6 TO hr (by omega)]; exact o6 k g0 g1
  · intro a j ha
    rw [cMove_fr (by omega) (by omega), cStep_fr (by omega) (by omega) (by omega) (by omega)]
/-- what holds of the class after a call: the answer y, the world S' -/
def CR (sh : List (Nat × Nat)) (V : Int → Int → Int) (o : Option (Int × Mem)) (y : Int) (S' : Int → Int) (D' : Int) : Prop := ∃ V', o = some (y, (sh, V')) ∧ CW V' S' ∧ SOk S' D' ∧ TP V' ∧ Pt V' ∧ WF V V'
theorem SOk_mono {D' : Int} (O : SOk S D) (h : D ≤ D') : SOk S D' := by
  obtain ⟨KO, o2, o3, o4, o5, o6⟩ := O
  refine ⟨KO, o2, o3, fun i h0 h1 => ?_, o5, o6⟩
  obtain ⟨t1, t2, t3, t4, t5, t6, t7⟩ := o4 i h0 h1
  refine ⟨t1, t2, t3, by omega, t5, t6, fun k g0 g1 => ?_⟩
  have := t7 k g0 g1
  omega
theorem Pt_cMove (H : Sh sh) (T : TrAt sh V t m s c S i) (P : Pt V) : Pt (cMove V t m s c S i r) := by
  have P1 := Pt_cStep (r := r) H T P
  unfold cMove cEnter
  split
  · exact P1
  · split
    · rw [Pt_k H (by rw [k_10 H]; decide), Pt_fld2 (by decide)]; exact P1
    · rw [Pt_fld2 (by decide)]; exact P1
theorem T_go_ok (H : Sh sh) (P : Pt V) (C : CW V S) (O : SOk S D) (T : TP V) (hD : D < 1900000000) : CR sh V (T_go 0 i r (sh, V)) (aGo S i r) (nGo S i r) (D + 90) := by
  have O' := O
  have C' := C
  obtain ⟨c1, c2, c3, c4, c5, c6⟩ := C
  obtain ⟨KO, o2, o3, o4, o5, o6⟩ := O
  unfold T_go aGo nGo
  rw [bgt (by rw [k_0 H]), q_0_4 P, bit (by rw [k_2 H]), Wo_hasTraveller_b H C']
  simp only [B_0, ite_not]
  by_cases h : 0 ≤ i ∧ i < S 152
  · rw [if_pos h, if_pos h, bgt (by rw [k_0 H]), q_0_4 P, bgt (by rw [k_2 H]), q_2_0 P, bit (by rw [k_3 H]), Kg_hasRoad_b H c1]
    simp only [B_0, ite_not]
    by_cases h' : 0 ≤ r ∧ r < S 7
    · have TR := TrAt_of H T (c4 i h.1 h.2) h.1 (by omega)
      rw [if_pos h', if_pos h', bgt (by rw [k_0 H]), q_0_4 P, bgt (by rw [k_0 H]), q_0_4 P, bgt (by rw [k_2 H]), q_2_1 P, blt (by rw [k_9 H]) h.1 (by rw [k_9 H]; show i < 6; omega), qPeople H P h.1 (by omega), bit (by rw [k_2 H]), Wo_move_b H P c1 c2 KO TR hD (o4 i h.1 h.2) h'.1 h'.2]
      by_cases g : sRefuse S i r = 0
      · rw [if_pos g, if_pos g, if_pos ⟨h, h', g⟩]
        obtain ⟨⟨g1, g2⟩, g3, g4⟩ := CW_go H C' O' T h.1 h.2 h'.1 h'.2 g rfl rfl rfl rfl
        exact ⟨_, rfl, g1, g2, g3, Pt_cMove H TR P, g4⟩
      · rw [if_neg g, if_neg g, if_neg (fun q => g q.2.2)]
        exact ⟨_, rfl, C', SOk_mono O' (by omega), T, P, fun _ _ _ => rfl⟩
    · rw [if_neg h', if_neg h', if_neg (fun q => h' q.2.1)]
      exact ⟨_, rfl, C', SOk_mono O' (by omega), T, P, fun _ _ _ => rfl⟩
  · rw [if_neg h, if_neg h, if_neg (fun q => h q.1)]
    exact ⟨_, rfl, C', SOk_mono O' (by omega), T, P, fun _ _ _ => rfl⟩
end GO
