/-! PURE: comes -/
section COMES
variable {sh : List (Nat × Nat)} {V V' : Int → Int → Int} {r t m s c i j d k x a y D f p : Int} {S S' : Int → Int} {n : Nat}
def sNew (S : Int → Int) (p : Int) : Int → Int := up (up (up (up (up (up S (153 + S 152) (S 1)) (159 + S 152) 0) (165 + S 152) p) (171 + S 152) 0) (177 + S 152) 0) (183 + S 152) 0
def aComes (S : Int → Int) (p : Int) : Int := if S 152 = 6 then -5 else if S 0 = 0 then -5 else if 0 ≤ p ∧ p ≤ 1000000 then S 152 else -3
def nComes (S : Int → Int) (p : Int) : Int → Int := if S 152 = 6 then S else if S 0 = 0 then S else if 0 ≤ p ∧ p ≤ 1000000 then up (sNew S p) 152 (S 152 + 1) else S
theorem M_comes_eq (H : Sh sh) (P : PM V) (O : SOk S D) : M_comes 101 p (sh, setR V 102 S) = some (aComes S p, (sh, setR (upV V 101 0 0) 102 (nComes S p))) := by
  obtain ⟨KO, o2, o3, o4, o5, o6⟩ := O
  have P1 : PM (upV V 101 0 0) := by rw [PM_fld (by decide)]; exact P
  unfold M_comes aComes nComes
  rw [bp101 H, bg101 H, blp P1 H (by decide) (by decide)]
  by_cases h : S 152 = 6
  · rw [if_pos h, if_pos h, if_pos h]
  · rw [if_neg h, if_neg h, if_neg h, bg101 H, blp P1 H (by decide) (by decide)]
    by_cases h' : S 0 = 0
    · rw [if_pos h', if_pos h', if_pos h']
    · rw [if_neg h', if_neg h', if_neg h', M_within_b]
      simp only [B_0, ite_not]
      by_cases g : 0 ≤ p ∧ p ≤ 1000000
      · rw [if_pos g, if_pos g, if_pos g]
        unfold sNew
        rw [bg101 H, blp P1 H (by decide) (by decide), bg101 H, bg101 H, blp P1 H (by decide) (by decide), w32_id (x := 153 + S 152) (by omega) (by omega), w32_id (x := 159 + S 152) (by omega) (by omega), w32_id (x := 165 + S 152) (by omega) (by omega), w32_id (x := 171 + S 152) (by omega) (by omega), w32_id (x := 177 + S 152) (by omega) (by omega), w32_id (x := 183 + S 152) (by omega) (by omega),
          bsp P1 H (by omega) (by omega), bg101 H, bsp P1 H (by omega) (by omega), bg101 H, bsp P1 H (by omega) (by omega), bg101 H, bsp P1 H (by omega) (by omega), bg101 H, bsp P1 H (by omega) (by omega), bg101 H, bsp P1 H (by omega) (by omega), bg101 H, blp P1 H (by decide) (by decide), upS_ne (by omega), upS_ne (by omega), upS_ne (by omega), upS_ne (by omega), upS_ne (by omega), upS_ne (by omega), bsp P1 H (by decide) (by decide), w32_id (by omega) (by omega)]
      · rw [if_neg g, if_neg g, if_neg g]
theorem M_comes_b (H : Sh sh) (P : PM V) (O : SOk S D) {γ : Type} {fZ : Int → Mem → Option γ} : bd2 (M_comes 101 p (sh, setR V 102 S)) fZ = fZ (aComes S p) (sh, setR (upV V 101 0 0) 102 (nComes S p)) := by
  rw [M_comes_eq] <;> first | assumption | rfl
def cNew (V : Int → Int → Int) (t h p : Int) : Int → Int → Int := upV (upV (upV (upV (upV (upV V t 0 h) t 1 0) t 2 p) t 3 0) t 4 0) t 5 0
theorem CW_comes (H : Sh sh) (C : CW V S) (O : SOk S D) (T : TP V) (hD : 0 ≤ D) (h : S 152 ≠ 6) (h' : S 0 ≠ 0) : CW (upV (cNew V (11 + 4 * S 152) (S 1) p) 2 3 (S 152 + 1)) (up (sNew S p) 152 (S 152 + 1)) ∧ SOk (up (sNew S p) 152 (S 152 + 1)) D ∧ TP (upV (cNew V (11 + 4 * S 152) (S 1) p) 2 3 (S 152 + 1)) := by
  obtain ⟨c1, c2, c3, c4, c5, c6⟩ := id C
  obtain ⟨KO, o2, o3, o4, o5, o6⟩ := id O
  have kh := KO.2.2.2.2.2.2.2.2.2.2.2.2.1
  have k0 := KO.1
  have k1 := KO.2.1
  have z4 := KO.2.2.2.1
  have hfrS : ∀ j, ¬ XS (fun z => z = S 152) j → sNew S p j = S j := by
    intro j hj
    have hx : ¬ (j = 153 + S 152 ∨ j = 159 + S 152 ∨ j = 165 + S 152 ∨ j = 171 + S 152 ∨ j = 177 + S 152 ∨ j = 183 + S 152) := fun q => hj (Or.inr ⟨S 152, o2, by omega, rfl, by omega⟩)
    unfold sNew
    rw [upS_ne (by omega), upS_ne (by omega), upS_ne (by omega), upS_ne (by omega), upS_ne (by omega), upS_ne (by omega)]
  have hfrV : ∀ a j, a ≠ 11 + 4 * S 152 → cNew V (11 + 4 * S 152) (S 1) p a j = V a j := by
    intro a j ha
    unfold cNew
    rw [up_row ha, up_row ha, up_row ha, up_row ha, up_row ha, up_row ha]
  have hT : TP (cNew V (11 + 4 * S 152) (S 1) p) := TP_of T (fun i j g0 g1 g2 g3 => by
    unfold cNew
    rw [up_col (by omega), up_col (by omega), up_col (by omega), up_col (by omega), up_col (by omega), up_col (by omega)])
  have htre : tre (sNew S p) (S 152).toNat = tre S (S 152).toNat := tre_congr (fun z hz => by unfold sNew; simp (disch := omega) only [upS_ne])
  obtain ⟨⟨d1, d2, d3, d4, d5, d6⟩, ⟨e1, e2, e3, e4, e5, e6⟩⟩ := CW_of (I := fun z => z = S 152) (D' := D) C O T (by omega) hfrS (fun a j hj => hfrV a j (fun e => hj (Or.inr (Or.inr (Or.inr (Or.inr ⟨S 152, o2, by omega, rfl, Or.inl e⟩)))))) (fun i hi g0 g1 => by have hi : i = S 152 := hi; omega) (fun d g0 g1 => by rw [hfrV _ _ (by omega), c5 d g0 g1]; unfold sNew; simp (disch := omega) only [upS_ne]) (by rw [hfrV _ _ (by omega), c6, htre]) (fun d g0 g1 => by unfold sNew; simp (disch := omega) only [upS_ne]; exact o6 d g0 g1)
  have n152 : sNew S p 152 = S 152 := hfrS 152 (XS_low (by decide))
  have n7 : sNew S p 7 = S 7 := hfrS 7 (XS_low (by decide))
  have hTD : ∀ i, 0 ≤ i → i < S 152 + 1 → TD (cNew V (11 + 4 * S 152) (S 1) p) (sNew S p) i ∧ TOk (sNew S p) D i := by
    intro i g0 g1
    by_cases e : i = S 152
    · subst e
      constructor
      · unfold TD sNew cNew
        simp (disch := omega) only [up_eq, up_col, upS_eq, upS_ne]
        refine ⟨⟨trivial, trivial, trivial, trivial, trivial, trivial⟩, fun k q0 q1 => by omega⟩
      · unfold TOk sNew
        simp (disch := omega) only [upS_eq, upS_ne]
        have := kh (by omega)
        refine ⟨by omega, by omega, by omega, by omega, by omega, by omega, fun k q0 q1 => by omega⟩
    · rw [n152] at d4 e4
      exact ⟨d4 i g0 (by omega), e4 i g0 (by omega)⟩
  refine ⟨⟨CK_of d1 (by rw [n7]; exact z4) (fun j hj => upS_ne (by omega)) (fun a j g0 g1 => up_row (by omega)), CM_of d2 (by rw [n7]; exact z4) (fun j hj => upS_ne (by omega)) (up_col (by decide)), ?_, fun i g0 g1 => ?_, fun d g0 g1 => ?_, ?_⟩, ⟨KOk_of e1 (fun j hj => upS_ne (by omega)), ?_, ?_, fun i g0 g1 => ?_, fun k g0 g1 => ?_, fun d g0 g1 => ?_⟩, TP_of hT (fun i j g0 g1 g2 g3 => up_row (by omega))⟩
  · rw [up_eq, upS_eq]
  · rw [upS_eq] at g1
    have := (hTD i g0 g1).1
    have ho := (hTD i g0 g1).2
    have t2 := ho.2.1
    obtain ⟨p, p0, p1, p2, p3, p4⟩ := hT.1 i g0 (by omega)
    unfold TD at this ⊢
    simp (disch := omega) only [up_row, upS_ne]
    refine ⟨this.1, fun k q0 q1 => ?_⟩
    simp (disch := omega) only [up_row, upS_ne]
    exact this.2 k q0 q1
  · rw [up_row (by decide), upS_ne (by omega)]; exact d5 d g0 g1
  · rw [up_col (by decide), upS_eq, d6, n152, show (S 152 + 1).toNat = (S 152).toNat + 1 by omega]
    rw [tre, tre_congr (S' := up (sNew S p) 152 (S 152 + 1)) (S := sNew S p) (fun z hz => by rw [upS_ne (by omega), upS_ne (by omega)]), upS_ne (by omega), upS_ne (by omega), Int.toNat_of_nonneg o2]
    have : sNew S p (177 + S 152) - sNew S p (183 + S 152) = 0 := by unfold sNew; simp (disch := omega) only [upS_eq, upS_ne]; rfl
    rw [this, Int.add_zero]
  · rw [upS_eq]; omega
  · rw [upS_eq]; omega
  · rw [upS_eq] at g1
    have := (hTD i g0 g1).2
    have t2 := this.2.1
    unfold TOk at this ⊢
    simp (disch := omega) only [upS_ne]
    refine ⟨this.1, this.2.1, this.2.2.1, this.2.2.2.1, this.2.2.2.2.1, this.2.2.2.2.2.1, fun k q0 q1 => ?_⟩
    simp (disch := omega) only [upS_ne]
    exact this.2.2.2.2.2.2 k q0 q1
  · rw [upS_ne (by omega), n7] at g1
    rw [upS_ne (by omega)]; exact e5 k g0 (by rw [n7]; exact g1)
  · rw [upS_ne (by omega)]; exact e6 d g0 g1
theorem T_comes_ok (H : Sh sh) (P : Pt V) (C : CW V S) (O : SOk S D) (T : TP V) (hD : 0 ≤ D) : CR sh V (T_comes 0 p (sh, V)) (aComes S p) (nComes S p) D := by
  have O' := O
  have C' := C
  obtain ⟨c1, c2, c3, c4, c5, c6⟩ := C
  obtain ⟨KO, o2, o3, o4, o5, o6⟩ := O
  unfold T_comes aComes nComes
  rw [bgt (by rw [k_0 H]), q_0_4 P, bgt (by rw [k_2 H]), c3]
  by_cases h : S 152 = 6
  · rw [if_neg (by omega), if_pos h, if_pos h]
    exact ⟨_, rfl, C', O', T, P, fun _ _ _ => rfl⟩
  · rw [if_pos (by omega), if_neg h, if_neg h, bgt (by rw [k_0 H]), q_0_4 P, bgt (by rw [k_2 H]), q_2_0 P, bgt (by rw [k_3 H]), c1.1]
    by_cases h' : S 0 = 0
    · rw [if_pos h', if_pos h', if_pos h']
      exact ⟨_, rfl, C', O', T, P, fun _ _ _ => rfl⟩
    · rw [if_neg h', if_neg h', if_neg h']
      by_cases g : 0 ≤ p ∧ p ≤ 1000000
      · have kt0 := (kTr H o2 (by omega : S 152 < 6)).1
        have kt : (kS sh (11 + 4 * S 152)).1 = 6 := by rw [kt0]
        rw [if_pos g, if_pos g, if_neg (by omega), if_neg (by omega), bgt (by rw [k_0 H]), q_0_4 P, bit (by rw [k_2 H])]
        unfold Wo_welcome Tr_begin
        rw [bgt (by rw [k_2 H]), c3, if_pos (by omega), bgt (by rw [k_2 H]), q_2_1 P, bgt (by rw [k_2 H]), c3, blt (by rw [k_9 H]) o2 (by rw [k_9 H]; show S 152 < 6; omega), qPeople H P o2 (by omega), bgt (by rw [k_2 H]), q_2_0 P, bgt (by rw [k_3 H]), c1.2.1, bit kt, bpt kt, bpt kt, bpt kt, bpt kt, bpt kt, bpt kt, bd2_mk, bgt (by rw [k_2 H])]
        have e3 : upV (upV (upV (upV (upV (upV V (11 + 4 * S 152) 0 (S 1)) (11 + 4 * S 152) 1 0) (11 + 4 * S 152) 2 p) (11 + 4 * S 152) 3 0) (11 + 4 * S 152) 4 0) (11 + 4 * S 152) 5 0 2 3 = S 152 := by
          rw [up_row (by omega), up_row (by omega), up_row (by omega), up_row (by omega), up_row (by omega), up_row (by omega)]; exact c3
        rw [e3, w32_id (x := S 152 + 1) (by omega) (by omega), bpt (by rw [k_2 H]), bgt (by rw [k_2 H]), up_eq, bd2_mk, show S 152 + 1 - 1 = S 152 by omega, w32_id (by omega) (by omega)]
        obtain ⟨g1, g2, g3⟩ := CW_comes (p := p) H C' O' T hD h h'
        refine ⟨_, rfl, g1, g2, g3, ?_, fun a j ha => ?_⟩
        · rw [Pt_fld2 (by decide), Pt_k H (by rw [kt0]; decide), Pt_k H (by rw [kt0]; decide), Pt_k H (by rw [kt0]; decide), Pt_k H (by rw [kt0]; decide), Pt_k H (by rw [kt0]; decide), Pt_k H (by rw [kt0]; decide)]; exact P
        · rw [up_row (by omega), up_row (by omega), up_row (by omega), up_row (by omega), up_row (by omega), up_row (by omega), up_row (by omega)]
      · rw [if_neg g, if_neg g]
        by_cases g' : p < 0
        · rw [if_pos g']; exact ⟨_, rfl, C', O', T, P, fun _ _ _ => rfl⟩
        · rw [if_neg g', if_pos (by omega)]; exact ⟨_, rfl, C', O', T, P, fun _ _ _ => rfl⟩
end COMES
