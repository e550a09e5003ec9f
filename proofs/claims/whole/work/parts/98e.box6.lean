/-! PURE: box; the reference's table, and the call -/
section BOX6
variable {sh : List (Nat × Nat)} {V V' V1 V2 : Int → Int → Int} {i j k x a b D : Int} {S d d' : Int → Int} {n z m r s t u A p J : Nat} {U W : Nat → Bool}
theorem up_self : up d (t : Int) (d t) = d := by funext v; unfold up; split <;> simp_all
theorem upu {j x y : Int} : up (up d j x) j y = up d j y := by funext v; unfold up; split <;> rfl
/-- the table at a set and a town -/
abbrev tb (V : Int → Int → Int) (A : Nat) (t : Int) : Int := V 124 (12 * (A : Int) + t)
/-- a proper part of a set -/
abbrev pp (A s : Nat) : Prop := A ≠ 0 ∧ subT A s ∧ A < s
theorem pp_xor (h : pp A s) : pp (s ^^^ A) s := ⟨xor_pos h.2.1 h.2.2, fun y hy => ((xor_rest h.2.1 y).mp hy).1, xor_lt h.2.1 h.1⟩
theorem bx_98 (H : Sh sh) (P : PM V) (hs : s < 4096) (ht : t < 12) (hF : ∀ A, pp A s → 0 ≤ tb V A t ∧ tb V A t ≤ 1000000) : ∀ (n p : Nat) (d : Int → Int), subT p s → p < s → p < n → (0 ≤ d t ∧ d t ≤ 1000000) → ∃ x : Int, (∀ kk, M_box_L98 kk n 101 J s t p (sh, setR (Mt V d s) 102 S) = kk 101 J s t (sh, setR (Mt V (up d t x) s) 102 S)) ∧ 0 ≤ x ∧ x ≤ d t ∧ (∀ A, pp A s → A ≤ p → x ≤ tb V A t + tb V (s ^^^ A) t) ∧ (x = d t ∨ ∃ A, pp A s ∧ x = tb V A t + tb V (s ^^^ A) t) := by
  intro n
  induction n with
  | zero => intro p _ _ _ h; omega
  | succ n ih =>
    intro p d hp hl hn hd
    have PP : ∀ d, PM (Mt V d s) := fun d => PM_Mt P
    have tg : ∀ (d : Int → Int) (f : Int → Option (Int × Mem)), bd (getf 12 45 (sh, setR (Mt V d s) 102 S) 101) f = f 124 := fun d f => by rw [bg101 H, q_101_45 (PP d)]
    by_cases q : 0 < p
    · have hA : pp p s := ⟨by omega, hp, hl⟩
      have hB := pp_xor hA
      have f1 := hF p hA
      have f2 := hF _ hB
      have ex := xor_nat (a := s) (b := p) (by omega) (by omega)
      have en : and32 (w32 ((p : Int) - 1)) (s : Int) = (((p - 1) &&& s : Nat) : Int) := by rw [w32_id (by omega) (by omega), show (p : Int) - 1 = ((p - 1 : Nat) : Int) by omega, and_nat (by omega) (by omega)]
      have hq : subT ((p - 1) &&& s) s := part_sub
      have hq2 : (p - 1) &&& s ≤ p - 1 := Nat.and_le_left
      have o : ∀ A, pp A s → ∀ (d : Int → Int) (f : Int → Option (Int × Mem)), bd (lda 20 (sh, setR (Mt V d s) 102 S) 124 (12 * (A : Int) + t)) f = f (tb V A t) := fun A hA d f => by rw [ml124 H (by omega) (by have := hA.2.2; omega), Mt_out (by have := hA.2.2; omega)]
      have start : ∀ kk, M_box_L98 kk (n + 1) 101 J s t p (sh, setR (Mt V d s) 102 S) = if tb V p t + tb V (s ^^^ p) t < d t then M_box_L98 kk n 101 J s t (((p - 1) &&& s : Nat) : Int) (sh, setR (Mt V (up d t (tb V p t + tb V (s ^^^ p) t)) s) 102 S) else M_box_L98 kk n 101 J s t (((p - 1) &&& s : Nat) : Int) (sh, setR (Mt V d s) 102 S) := fun kk => by
        have hx := hB.2.2
        rw [M_box_L98, if_pos (by omega), tg, w32_id (x := 12 * (p : Int)) (by omega) (by omega), w32_id (x := 12 * (p : Int) + t) (by omega) (by omega), o p hA, tg, ex, w32_id (x := 12 * ((s ^^^ p : Nat) : Int)) (by omega) (by omega), w32_id (x := 12 * ((s ^^^ p : Nat) : Int) + t) (by omega) (by omega), o _ hB, w32_id (x := tb V p t + tb V (s ^^^ p) t) (by omega) (by omega), bd_mk, tg, w32_id (x := 12 * (s : Int)) (by omega) (by omega), w32_id (x := 12 * (s : Int) + t) (by omega) (by omega), lt_M H hs (by omega) (by omega), en]
        by_cases c : tb V p t + tb V (s ^^^ p) t < d t
        · rw [if_pos c, if_pos c, tg, st_M H hs (by omega) (by omega), bd_mk]
        · rw [if_neg c, if_neg c, bd_mk]
      have lower : ∀ A, pp A s → A ≤ p → A = p ∨ A ≤ (p - 1) &&& s := fun A hA hl => by
        by_cases e : A = p
        · exact Or.inl e
        · exact Or.inr (part_next p s A hp hA.2.1 (by omega))
      by_cases c : tb V p t + tb V (s ^^^ p) t < d t
      · obtain ⟨x, x1, x2, x3, x4, x5⟩ := ih ((p - 1) &&& s) (up d t (tb V p t + tb V (s ^^^ p) t)) hq (by omega) (by omega) (by rw [upS_eq]; omega)
        rw [upS_eq] at x3 x5
        refine ⟨x, fun kk => by rw [start, if_pos c, x1, upu], x2, by omega, fun A hA hl => ?_, ?_⟩
        · rcases lower A hA hl with e | e
          · rw [e]; exact x3
          · exact x4 A hA e
        · rcases x5 with e | e
          · exact Or.inr ⟨p, hA, e⟩
          · exact Or.inr e
      · obtain ⟨x, x1, x2, x3, x4, x5⟩ := ih ((p - 1) &&& s) d hq (by omega) (by omega) hd
        refine ⟨x, fun kk => by rw [start, if_neg c, x1], x2, x3, fun A hA hl => ?_, x5⟩
        rcases lower A hA hl with e | e
        · rw [e]; omega
        · exact x4 A hA e
    · refine ⟨d t, fun kk => by rw [M_box_L98, if_neg (by omega), up_self], hd.1, by omega, fun A hA hl => ?_, Or.inl rfl⟩
      have := hA.1
      omega
/-- a town's number before the spreading -/
def RI (V : Int → Int → Int) (s : Nat) (d : Int → Int) (u : Nat) : Prop := (0 ≤ d u ∧ d u ≤ 1000000) ∧ (s = 2 ^ u → d u ≤ 0) ∧ (∀ A, pp A s → d u ≤ tb V A u + tb V (s ^^^ A) u) ∧ (d u < 1000000 → s = 2 ^ u ∨ ∃ A, pp A s ∧ d u = tb V A u + tb V (s ^^^ A) u)
theorem bx_60 (H : Sh sh) (P : PM V) (hs : s < 4096) (h0 : 0 < s) (hF : ∀ A (t : Nat), pp A s → t < 12 → 0 ≤ tb V A t ∧ tb V A t ≤ 1000000) : ∀ (n t : Nat) (d : Int → Int), t ≤ 12 → 12 - t < n → ∃ d' : Int → Int, (∀ kk, M_box_L60 kk n 101 J s t (sh, setR (Mt V d s) 102 S) = kk 101 J s (sh, setR (Mt V d' s) 102 S)) ∧ (∀ u : Int, (u < t ∨ 12 ≤ u) → d' u = d u) ∧ ∀ u : Nat, t ≤ u → u < 12 → RI V s d' u := by
  intro n
  induction n with
  | zero => intro t _ _ h; omega
  | succ n ih =>
    intro t d ht hn
    have PP : ∀ d, PM (Mt V d s) := fun d => PM_Mt P
    have tg : ∀ (d : Int → Int) (f : Int → Option (Int × Mem)), bd (getf 12 45 (sh, setR (Mt V d s) 102 S) 101) f = f 124 := fun d f => by rw [bg101 H, q_101_45 (PP d)]
    by_cases q : t < 12
    · have en : and32 (w32 ((s : Int) - 1)) (s : Int) = (((s - 1) &&& s : Nat) : Int) := by rw [w32_id (by omega) (by omega), show (s : Int) - 1 = ((s - 1 : Nat) : Int) by omega, and_nat (by omega) (by omega)]
      have hq2 : (s - 1) &&& s ≤ s - 1 := Nat.and_le_left
      have wt : w32 ((t : Int) + 1) = ((t + 1 : Nat) : Int) := by rw [w32_id (by omega) (by omega)]; omega
      obtain ⟨y, hy, y1, y2⟩ : ∃ y : Int, (∀ F : Int → Option (Int × Mem), bd (if (s : Int) = shl32 1 (t : Int) then some 0 else some 1000000) F = F y) ∧ (0 ≤ y ∧ y ≤ 1000000) ∧ ((s = 2 ^ t ∧ y = 0) ∨ (s ≠ 2 ^ t ∧ y = 1000000)) := by
        have e : shl32 1 (t : Int) = ((2 ^ t : Nat) : Int) := by rw [shl1 (by omega) (by omega)]; rfl
        rw [e]
        by_cases c : s = 2 ^ t
        · exact ⟨0, fun F => by rw [if_pos (by omega)]; rfl, by omega, Or.inl ⟨c, rfl⟩⟩
        · exact ⟨1000000, fun F => by rw [if_neg (by omega)]; rfl, by omega, Or.inr ⟨c, rfl⟩⟩
      obtain ⟨x, x1, x2, x3, x4, x5⟩ := bx_98 (S := S) (J := J) H P hs q (fun A hA => hF A t hA q) FU ((s - 1) &&& s) (up d t y) part_sub (by omega) (by show _ < 1000000; omega) (by rw [upS_eq]; exact y1)
      rw [upS_eq] at x3 x5
      obtain ⟨d', e1, e2, e3⟩ := ih (t + 1) (up d t x) (by omega) (by omega)
      refine ⟨d', fun kk => ?_, fun u hu => by rw [e2 u (by omega), upS_ne (by omega)], fun u u0 u1 => ?_⟩
      · rw [M_box_L60, if_pos (by omega), tg, hy, w32_id (x := 12 * (s : Int)) (by omega) (by omega), w32_id (x := 12 * (s : Int) + t) (by omega) (by omega), st_M H hs (by omega) (by omega), en, bd_mk, x1, upu, wt]
        exact e1 kk
      · by_cases e : u = t
        · subst e
          have ed : d' u = x := by rw [e2 u (by omega), upS_eq]
          unfold RI
          rw [ed]
          refine ⟨by omega, fun h => ?_, fun A hA => x4 A hA (part_next s s A (fun _ h => h) hA.2.1 hA.2.2), fun h => ?_⟩
          · rcases y2 with z | z
            · omega
            · exact absurd h z.1
          · rcases x5 with z | z
            · rcases y2 with w | w
              · exact Or.inl w.1
              · omega
            · exact Or.inr z
        · exact e3 u (by omega) u1
    · exact ⟨d, fun kk => by rw [M_box_L60, if_neg (by omega)], fun _ _ => rfl, fun u u0 u1 => by omega⟩
/-- a row of the table that is done -/
def TG (S : Int → Int) (V : Int → Int → Int) (A : Nat) : Prop := (∀ t : Int, 0 ≤ t → t < 12 → (0 ≤ tb V A t ∧ tb V A t ≤ 1000000) ∧ (tb V A t < 1000000 → ∃ U, opn S U ∧ Jn S U A t ∧ (cst S U : Int) ≤ tb V A t)) ∧ (∀ t : Nat, t < 12 → A = 2 ^ t → tb V A t ≤ 0) ∧ (∀ r : Nat, (r : Int) < S 7 → S (128 + (r : Int)) = 0 → tb V A (S (8 + (r : Int))) ≤ tb V A (S (32 + (r : Int))) + S (104 + (r : Int)) ∧ tb V A (S (32 + (r : Int))) ≤ tb V A (S (8 + (r : Int))) + S (104 + (r : Int))) ∧ ∀ B (t : Int), pp B A → 0 ≤ t → t < 12 → tb V A t ≤ tb V B t + tb V (A ^^^ B) t
theorem TG_congr (K : KOk S) (hA : A < s) (h : ∀ j, j < 12 * (s : Int) → V' 124 j = V 124 j) (G : TG S V A) : TG S V' A := by
  have e : ∀ (B : Nat) (t : Int), B ≤ A → t < 12 → tb V' B t = tb V B t := fun B t hB ht => h _ (by omega)
  obtain ⟨g1, g2, g3, g4⟩ := G
  refine ⟨fun t t0 t1 => ?_, fun t t1 h => ?_, fun r hr ho => ?_, fun B t hB t0 t1 => ?_⟩
  · rw [e A t (by omega) t1]; exact g1 t t0 t1
  · rw [e A t (by omega) (by omega)]; exact g2 t t1 h
  · have kr := K.2.2.2.2.2.2.2.2.2.2.2.2.2 (r : Int) (by omega) hr
    have := K.2.1
    rw [e A _ (by omega) (by omega), e A _ (by omega) (by omega)]; exact g3 r hr ho
  · rw [e A t (by omega) t1, e B t (by have := hB.2.2; omega) t1, e _ t (by have := (pp_xor hB).2.2; omega) t1]; exact g4 B t hB t0 t1
theorem cst_ad_le (hl : r < (S 7).toNat) : cst S (ad U r) ≤ cst S U + (S (104 + r)).toNat := by
  cases h : U r with
  | false => rw [cst_ad hl h]; exact Nat.le_refl _
  | true =>
    have : ad U r = U := by funext k; unfold ad; split <;> simp_all
    rw [this]; omega
theorem Mt_id (h : ∀ t : Int, 0 ≤ t → t < 12 → d t = tb V s t) : Mt V d s = V := by
  funext a j
  unfold Mt
  by_cases q : a = 124 ∧ 12 * (s : Int) ≤ j ∧ j < 12 * (s : Int) + 12
  · rw [if_pos q, h _ (by omega) (by omega), q.1]; show V 124 _ = V 124 _; congr 1; omega
  · rw [if_neg q]
theorem bx_42 (H : Sh sh) (K : KOk S) (h0 : 0 < S 0) (hJ : J < 4096) : ∀ (n s : Nat) (V : Int → Int → Int), PM V → 1 ≤ s → s ≤ J + 1 → J + 1 - s < n → (∀ A, A ≠ 0 → subT A J → A < s → TG S V A) → ∃ V' : Int → Int → Int, (∀ kk, M_box_L42 kk n 101 J s (sh, setR V 102 S) = kk 101 J (sh, setR V' 102 S)) ∧ FM V V' ∧ ∀ A, A ≠ 0 → subT A J → TG S V' A := by
  have r2 := K.2.1
  have r3 := K.2.2.1
  have r4 := K.2.2.2.1
  intro n
  induction n with
  | zero => intro s _ _ _ _ h; omega
  | succ n ih =>
    intro s V P h1 hs hn G
    by_cases q : J < s
    · exact ⟨V, fun kk => by rw [M_box_L42, if_pos (by omega)], FM_refl, fun A h h' => G A h h' (by have := sub_le h'; omega)⟩
    · have ws : w32 ((s : Int) + 1) = ((s + 1 : Nat) : Int) := by rw [w32_id (by omega) (by omega)]; omega
      have hm : and32 (s : Int) (xor32 (J : Int) (-1)) = 0 ↔ subT s J := by
        rw [← mask_eq (u := (J : Int)) (w := (s : Int)) (by omega) (by omega)]
        exact and_sub (by omega) hJ
      by_cases c : subT s J
      · have sub : ∀ A, pp A s → TG S V A := fun A hA => G A hA.1 (fun y hy => c y (hA.2.1 y hy)) hA.2.2
        have hF : ∀ A (t : Nat), pp A s → t < 12 → 0 ≤ tb V A t ∧ tb V A t ≤ 1000000 := fun A t hA ht => ((sub A hA).1 t (by omega) (by omega)).1
        have e0 : Mt V (fun t => if 0 ≤ t ∧ t < 12 then tb V s t else 1000000) s = V := Mt_id (fun t t0 t1 => if_pos ⟨t0, t1⟩)
        obtain ⟨d1, a1, a2, a3⟩ := bx_60 (S := S) (J := J) H P (by omega) (by omega) hF FU 0 (fun t => if 0 ≤ t ∧ t < 12 then tb V s t else 1000000) (by omega) (by decide)
        rw [e0, show ((0 : Nat) : Int) = 0 from rfl] at a1
        have out : ∀ u : Int, (u < 0 ∨ 12 ≤ u) → d1 u = 1000000 := fun u hu => by rw [a2 u (by omega)]; exact if_neg (by omega)
        have inn : ∀ u : Int, 0 ≤ u → u < 12 → RI V s d1 u.toNat := fun u u0 u1 => a3 u.toNat (by omega) (by omega)
        have Fd : Fy d1 := fun u => by
          by_cases z : u < 0 ∨ 12 ≤ u
          · rw [out u z]; omega
          · have := (inn u (by omega) (by omega)).1
            rw [show ((u.toNat : Nat) : Int) = u by omega] at this; exact this
        have hsp := spreads_M (V := V) H K P (s := s) (by omega) Fd h0
        -- what the numbers stand for
        have real1 : ∀ u : Int, d1 u < 1000000 → ∃ U, opn S U ∧ Jn S U s u ∧ (cst S U : Int) ≤ d1 u := fun u hu => by
          by_cases z : u < 0 ∨ 12 ≤ u
          · have := out u z; omega
          · have w := (inn u (by omega) (by omega))
            have f := Fd u
            unfold RI at w
            rw [show ((u.toNat : Nat) : Int) = u by omega] at w
            rcases w.2.2.2 hu with e | ⟨A, hA, e⟩
            · refine ⟨fun _ => false, fun r hr => (by cases hr), fun y hy => ?_, by rw [cst_0]; omega⟩
              rw [e, Nat.testBit_two_pow] at hy
              have hy : u.toNat = y := by simpa using hy
              rw [show (y : Int) = u by omega]; exact Cn_refl
            · have gA := (sub A hA).1 u (by omega) (by omega)
              have gB := (sub _ (pp_xor hA)).1 u (by omega) (by omega)
              obtain ⟨U1, p1, p2, p3⟩ := gA.2 (by omega)
              obtain ⟨U2, q1, q2, q3⟩ := gB.2 (by omega)
              have cu := cst_un (S := S) (U := U1) (W := U2)
              refine ⟨un U1 U2, fun r hr => ?_, fun y hy => ?_, by omega⟩
              · rcases un_or hr with z | z
                · exact p1 r z
                · exact q1 r z
              · by_cases t : A.testBit y = true
                · exact Cn_mono (fun r hr => un_l hr) (p2 y t)
                · exact Cn_mono (fun r hr => un_r hr) (q2 y ((xor_rest hA.2.1 y).mpr ⟨hy, t⟩))
        have Iv := Iv_iter (S := S) (wt := wD S) (d := d1) (fun d => Fy d ∧ ∀ u : Int, d u < 1000000 → ∃ U, opn S U ∧ Jn S U s u ∧ (cst S U : Int) ≤ d u) (fun d e hI he => by
          obtain ⟨r, hr1, hr2, hr3⟩ := edg_mem _ he
          have kr := K.2.2.2.2.2.2.2.2.2.2.2.2.2 (r : Int) (by omega) (by omega)
          have fy : Fy (rlx 2147483647 d e) := Fy_rlx hI.1 (by rcases hr3 with rfl | rfl <;> (show 0 ≤ S (104 + (r : Int)); omega))
          refine ⟨fy, fun u hu => ?_⟩
          by_cases im : imp 2147483647 d e
          · rw [rlx_imp im] at hu ⊢
            by_cases eu : u = e.2.1
            · rw [eu, upS_eq] at hu ⊢
              have hw : 0 ≤ e.2.2 := by rcases hr3 with rfl | rfl <;> (show 0 ≤ S (104 + (r : Int)); omega)
              obtain ⟨U, u1, u2, u3⟩ := hI.2 e.1 (by omega)
              have ca := cst_ad_le (S := S) (U := U) (r := r) hr1
              have adm : ∀ {a b : Int}, Cn S U a b → Cn S (ad U r) a b := fun z => Cn_mono (fun r hr => by unfold ad; split <;> simp [hr]) z
              have ee : Cn S (ad U r) (S (8 + (r : Int))) (S (32 + (r : Int))) := Cn_edge ad_self
              refine ⟨ad U r, fun k hk => ?_, fun y hy => ?_, ?_⟩
              · by_cases z : k = r
                · rw [z]; exact ⟨hr1, hr2⟩
                · rw [ad_ne z] at hk; exact u1 k hk
              · have := adm (u2 y hy)
                rcases hr3 with rfl | rfl
                · exact Cn_trans (Cn_symm ee) this
                · exact Cn_trans ee this
              · have : e.2.2 = S (104 + (r : Int)) := by rcases hr3 with rfl | rfl <;> rfl
                omega
            · rw [upS_ne eu] at hu ⊢; exact hI.2 u hu
          · rw [imp_no im] at hu ⊢; exact hI.2 u hu) ⟨Fd, real1⟩ ((S 0).toNat - 1)
        have hG := Gr_edg (S := S) (wt := wD S) K (fun r hr => by
          have kr := K.2.2.2.2.2.2.2.2.2.2.2.2.2 (r : Int) (by omega) (by omega)
          show 0 < S (104 + (r : Int)); omega) (m := (S 7).toNat) (by omega)
        have cl := clo_pss (F := 2147483647) (fun v => by have := Iv.1 v; omega) (bf_main (F := 2147483647) (d := d1) hG (by omega) (fun v => by have := Fd v; omega))
        have le1 : ∀ v, stl S (wD S) d1 v ≤ d1 v := fun v => iter_le _ v
        have Iv : Fy (stl S (wD S) d1) ∧ ∀ u : Int, stl S (wD S) d1 u < 1000000 → ∃ U, opn S U ∧ Jn S U s u ∧ (cst S U : Int) ≤ stl S (wD S) d1 u := Iv
        have cl : Clo 2147483647 (edg S (wD S) (S 7).toNat) (stl S (wD S) d1) := cl
        generalize stl S (wD S) d1 = d2 at hsp Iv cl le1
        have at2 : ∀ t : Int, 0 ≤ t → t < 12 → tb (Mt V d2 s) s t = d2 t := fun t t0 t1 => Mt_at t0 t1
        have Gs : TG S (Mt V d2 s) s := by
          refine ⟨fun t t0 t1 => ?_, fun t t1 e => ?_, fun r hr ho => ?_, fun B t hB t0 t1 => ?_⟩
          · rw [at2 t t0 t1]; exact ⟨Iv.1 t, Iv.2 t⟩
          · rw [at2 t (by omega) (by omega)]
            have := (a3 t (by omega) t1).2.1 e
            have := le1 t
            omega
          · have kr := K.2.2.2.2.2.2.2.2.2.2.2.2.2 (r : Int) (by omega) hr
            have me := mem_edg (S := S) (wt := wD S) (S 7).toNat r (by omega) ho
            rw [at2 _ (by omega) (by omega), at2 _ (by omega) (by omega)]
            have f1 := Iv.1 (S (8 + (r : Int)))
            have f2 := Iv.1 (S (32 + (r : Int)))
            exact ⟨cl _ me.2 (by show d2 (S (32 + (r : Int))) ≠ _; omega), cl _ me.1 (by show d2 (S (8 + (r : Int))) ≠ _; omega)⟩
          · have hx := (pp_xor hB).2.2
            have hb := hB.2.2
            have e1 : tb (Mt V d2 s) B t = tb V B t := Mt_out (by omega)
            have e2 : tb (Mt V d2 s) (s ^^^ B) t = tb V (s ^^^ B) t := Mt_out (by omega)
            rw [at2 t t0 t1, e1, e2]
            have w := (inn t t0 t1).2.2.1 B hB
            rw [show ((t.toNat : Nat) : Int) = t by omega] at w
            have := le1 t
            omega
        obtain ⟨V', b1, b2, b3⟩ := ih (s + 1) (Mt V d2 s) (PM_Mt P) (by omega) (by omega) (by omega) (fun A hA hA2 hl => by
          by_cases e : A = s
          · rw [e]; exact Gs
          · exact TG_congr K (s := s) (by omega) (fun j hj => Mt_out (by omega)) (G A hA hA2 (by omega)))
        refine ⟨V', fun kk => ?_, FM_trans FM_Mt b2, b3⟩
        rw [M_box_L42, if_neg (by omega), if_pos (hm.mpr c), a1, bi101 H, hsp, bd2_mk, ws]
        exact b1 kk
      · obtain ⟨V', b1, b2, b3⟩ := ih (s + 1) V P (by omega) (by omega) (by omega) (fun A hA hA2 hl => G A hA hA2 (by
          by_cases e : A = s
          · rw [e] at hA2; exact absurd hA2 c
          · omega))
        refine ⟨V', fun kk => ?_, b2, b3⟩
        rw [M_box_L42, if_neg (by omega), if_neg (fun z => c (hm.mp z)), ws]
        exact b1 kk
/-- the reference's answer is the least -/
theorem bx_min (K : KOk S) (h0 : 0 < S 0) (hJ : J < 2 ^ (S 0).toNat) (G : ∀ A, A ≠ 0 → subT A J → TG S V A) (hz : J ≠ 0) : isMin S J (S 1) (if tb V J (S 1) < 1000000 then tb V J (S 1) else -1) := by
  have r2 := K.2.1
  have h1 := K.2.2.2.2.2.2.2.2.2.2.2.2.1 h0
  have hp : 2 ^ (S 0).toNat ≤ 2 ^ 12 := Nat.pow_le_pow_right (by decide) (by omega)
  have GJ := G J hz (fun _ h => h)
  have least : ∀ U, opn S U → Jn S U J (S 1) → tb V J (S 1) ≤ cst S U := fun U u1 u2 => by
    refine dw_least (Dd := fun A t => tb V A t) (wt := J) K (fun T => T ≠ 0 ∧ subT T J) (fun T A hT hA hs => ⟨hA, fun y hy => hT.2 y (hs y hy)⟩) (fun t ht => ?_) (fun T hT r hr ho => (G T hT.1 hT.2).2.2.1 r hr ho) (fun T A B t hT hA hB hu hd t0 t1 => ?_) (cnr S U + 1) U J (S 1) (by omega) u1 ⟨hz, fun _ h => h⟩ hz (by omega) (by omega) (by omega) u2
    · have ht2 : t < 12 := Classical.byContradiction (fun z => by
        have := sub_le ht.2
        have : 2 ^ 12 ≤ 2 ^ t := Nat.pow_le_pow_right (by decide) (by omega)
        omega)
      exact (G _ ht.1 ht.2).2.1 t ht2 rfl
    · have sA : subT A T := fun y hy => (hu y).mpr (Or.inl hy)
      have eB : T ^^^ A = B := Nat.eq_of_testBit_eq (fun y => by
        have h1 := xor_rest sA y
        have h2 := hu y
        have h3 := hd y
        cases q1 : T.testBit y <;> cases q2 : A.testBit y <;> cases q3 : B.testBit y <;> simp_all)
      have pA : pp A T := ⟨hA, sA, by
        have := sub_le sA
        by_cases e : A = T
        · rw [e, Nat.xor_self] at eB; exact absurd eB.symm hB
        · omega⟩
      have := (G T hT.1 hT.2).2.2.2 A t pA t0 t1
      rw [eB] at this; exact this
  have g := GJ.1 (S 1) h1.1 (by omega)
  by_cases c : tb V J (S 1) < 1000000
  · rw [if_pos c]
    exact Or.inr ⟨g.1.1, g.2 c, least⟩
  · rw [if_neg c]
    refine Or.inl ⟨rfl, fun ⟨U, u1, u2⟩ => ?_⟩
    have := least U u1 u2
    have := cst_bd (U := U) K
    omega
theorem isMin_0 : isMin S 0 a 0 := Or.inr ⟨by omega, ⟨fun _ => false, fun r hr => (by cases hr), fun y hy => by simp at hy, by rw [cst_0]; omega⟩, fun U _ _ => by omega⟩
theorem rs_box (X : Cx sh V S D) (P : PM V2) (hP : WPt V) {w : Int} (hw : R32 w) : RS sh V V2 S (T_box 0 w (sh, V)) (M_box 101 w (sh, setR V2 102 S)) := by
  have H := X.1
  have PT := X.2.1
  have K := X.2.2.2.1.1
  obtain ⟨r1, r2, r3, r4, r5, r6, r7⟩ := Cx_rng X
  have P1 : PM (upV V2 101 0 0) := PM_fm P FM0
  unfold T_box M_box
  rw [b04 X, b20 X, b30 X, bp101 H, bg101 H, blp P1 H (by decide) (by decide)]
  by_cases z : S 0 = 0
  · rw [if_pos z, if_pos z]; exact RS_same PT hP _
  · have h0 : 0 < S 0 := by omega
    have h1 := K.2.2.2.2.2.2.2.2.2.2.2.2.1 h0
    have hp : 2 ^ (S 0).toNat ≤ 2 ^ 12 := Nat.pow_le_pow_right (by decide) (by omega)
    have hp0 := Nat.two_pow_pos (S 0).toNat
    rw [if_neg z, if_neg z, bi3 X, Kg_hasTowns_b X hw, bg101 H, blp P1 H (by decide) (by decide), shl1 r1 (by omega), w32_id (by omega) (by omega), M_within_b]
    by_cases c : 0 ≤ w ∧ w < ((2 ^ (S 0).toNat : Nat) : Int)
    · rw [B_t c, B_t (by omega), if_neg (by decide), if_neg (by decide)]
      obtain ⟨J, rfl⟩ : ∃ J : Nat, w = J := ⟨w.toNat, by omega⟩
      obtain ⟨h, eh⟩ : ∃ h : Nat, S 1 = h := ⟨(S 1).toNat, by omega⟩
      have hJ : J < 2 ^ (S 0).toNat := by omega
      obtain ⟨V1, v, f1, f2, f3, f4⟩ := ld_ok (T := J) (h0 := h) X hJ (by omega)
      have eo : or32 (J : Int) (shl32 1 (S 1)) = ((J ||| 2 ^ h : Nat) : Int) := by
        rw [shl1 (by omega) (by omega), eh]
        have := Nat.pow_lt_pow_right (a := 2) (by decide) (by omega : h < 12)
        exact or_nat (by omega) (by show 2 ^ h < _; omega)
      obtain ⟨V', a1, a2, a3⟩ := bx_42 (S := S) (J := J) H K h0 (by omega) FU 1 (upV V2 101 0 0) P1 (by omega) (by omega) (by show _ < 1000000; omega) (fun A hA _ hl => by omega)
      rw [show ((1 : Nat) : Int) = 1 from rfl] at a1
      have PV' := PM_fm P1 a2
      have FMv := FM_trans (FM0 (V := V2)) a2
      rw [bgt (by rw [k_0 H]), q_0_15 PT, b04 X, b31 X, bit (by rw [k_90 H]), eo, f4, bd2_mk, a1]
      rw [← eh] at f2
      -- the reference's number
      have fin : ∀ y : Int, 0 ≤ y ∧ y ≤ 1000000 → isMin S J (S 1) (if y < 1000000 then y else -1) → RS sh V V2 S (if v = -1 then some ((-1 : Int), ((sh, V1) : Mem)) else some (w32 (2 * v), (sh, V1))) (if y < 1000000 then some (w32 (2 * y), ((sh, setR V' 102 S) : Mem)) else some (-1, (sh, setR V' 102 S))) := fun y hy hm => by
        have e := isMin_eq f2 hm
        by_cases q : y < 1000000
        · rw [if_pos q] at e ⊢
          rw [if_neg (by omega), e]
          exact ⟨_, _, _, rfl, rfl, BFr_SF f1, BFr_Pt f1 PT, BFr_WPt f1 hP, FMv⟩
        · rw [if_neg q] at e ⊢
          rw [if_pos e]
          exact ⟨_, _, _, rfl, rfl, BFr_SF f1, BFr_Pt f1 PT, BFr_WPt f1 hP, FMv⟩
      by_cases j0 : J = 0
      · subst j0
        rw [if_pos (c := ((0 : Nat) : Int) = 0) rfl, bd_mk]
        exact fin 0 (by omega) (by rw [if_pos (by decide)]; exact isMin_0)
      · have hm := bx_min (V := V') K h0 hJ a3 j0
        have g := ((a3 J j0 (fun _ h => h)).1 (S 1) (by omega) (by omega)).1
        have ev : ∀ F : Int → Option (Int × Mem), bd (if (J : Int) = 0 then some 0 else bd (getf 12 45 (sh, setR V' 102 S) 101) fun x12 => bd (getf 12 1 (sh, setR V' 102 S) 101) fun x13 => bd (lda 20 (sh, setR V' 102 S) x13 1) fun x14 => bd (lda 20 (sh, setR V' 102 S) x12 (w32 (w32 (12 * (J : Int)) + x14))) fun x15 => some x15) F = F (tb V' J (S 1)) := fun F => by
          rw [if_neg (by omega), bg101 H, bg101 H, blp PV' H (by decide) (by decide), q_101_45 PV', w32_id (x := 12 * (J : Int)) (by omega) (by omega), w32_id (x := 12 * (J : Int) + S 1) (by omega) (by omega), ml124 H (by omega) (by omega)]
          rfl
        rw [ev]
        exact fin _ g hm
    · rw [B_f c, B_f (by omega), if_pos rfl, if_pos rfl]; exact RS_same PT hP _
end BOX6
