/-! PURE: journey -/
section JNY3
variable {sh : List (Nat × Nat)} {V V' V1 V2 V2' W2 : Int → Int → Int} {t i j x a b D wr w nn k : Int} {S : Int → Int} {n h p z q m s M N L NN H0 e l l2 r u I0 : Nat} {f g : Nat → Nat} {ρ : Nat → Int}
theorem mfind (H : Sh sh) (K : KOk S) (w0 : 0 ≤ wr) (w1 : wr < 4) (hM : M ≤ 40) (hs : isSl S ρ M) (I : HI S f H0 t) (Q : SPx f (dN ρ) H0 M s) (J : WI2 S (dN ρ) M) (al : allO S (dN ρ) 0 M) (hH0 : H0 < 40) (hL : m + 1 ≤ L) (hp : p + 1 + m = N) (hN : N ≤ 40) (hr : (r : Int) < S 7) (hl2 : l2 < Wr S (dN ρ) M t (wyL f (dN ρ) H0 M s) m r) : ∀ (n z l : Nat) (V : Int → Int → Int), MSt S ρ wr M L V f H0 → z ≤ r → r - z + 1 < n → l < 2147483648 → l + sN (Wr S (dN ρ) M t (wyL f (dN ρ) H0 M s) m) z = l2 + sN (Wr S (dN ρ) M t (wyL f (dN ρ) H0 M s) m) r → ∃ V', MSt S ρ wr M L V' (hF f H0 (sDart S r t).toNat) (hH f H0 (sDart S r t).toNat) ∧ FM V V' ∧ ∀ kk, M_journey_L152 kk n 101 wr N i t l p z 0 (sh, setR V 102 S) = if (p : Int) = i then some ((r : Int), ((sh, setR V' 102 S) : Mem)) else kk 101 wr N i (sHead S (sDart S r t)) l2 p (sh, setR V' 102 S) := by
  have r3 := K.2.2.1
  have r4 := K.2.2.2.1
  intro n
  induction n with
  | zero => intro z _ _ _ _ h; omega
  | succ n ih =>
    intro z l V C hz hn hl el
    have P := C.1
    by_cases q : z = r
    · subst q
      have el' : l = l2 := by omega
      subst el'
      have hd : rdo S t (-1) z := Classical.byContradiction (fun g => by rw [Wr_no g] at hl2; omega)
      obtain ⟨V3, V4, C3, F3, C4, F4, e⟩ := mtry (n := n) (i := i) H K w0 w1 hM hs C I Q J al hH0 hL hp hN hr hd hl
      refine ⟨V3, C3, F3, fun kk => ?_⟩
      obtain ⟨n', rfl⟩ : ∃ n', n = n' + 1 := ⟨n - 1, by omega⟩
      rw [e kk, if_pos hl2, M_journey_L152, if_neg (c := (1 : Int) = 0) (by decide)]
    · have hm1 := sN_mono (W := Wr S (dN ρ) M t (wyL f (dN ρ) H0 M s) m) r (z + 1) (by omega)
      rw [sN] at hm1
      by_cases hd : rdo S t (-1) z
      · obtain ⟨V3, V4, C3, F3, C4, F4, e⟩ := mtry (n := n) (i := i) H K w0 w1 hM hs C I Q J al hH0 hL hp hN (r := z) (by omega) hd hl
        obtain ⟨V2, C2, K2, e2⟩ := ih (z + 1) (l - Wr S (dN ρ) M t (wyL f (dN ρ) H0 M s) m z) V4 C4 (by omega) (by omega) (by omega) (by rw [sN]; omega)
        exact ⟨V2, C2, FM_trans F4 K2, fun kk => by rw [e kk, if_neg (by omega)]; exact e2 kk⟩
      · have hw0 := Wr_no (w := dN ρ) (M := M) (ws := wyL f (dN ρ) H0 M s) (m := m) hd
        obtain ⟨V2, C2, K2, e2⟩ := ih (z + 1) l V C (by omega) (by omega) (by omega) (by rw [sN, hw0]; omega)
        refine ⟨V2, C2, K2, fun kk => ?_⟩
        have wz : w32 ((z : Int) + 1) = ((z + 1 : Nat) : Int) := by rw [w32_id (by omega) (by omega)]; omega
        rw [M_journey_L152, if_pos rfl, bi101 H, M_isOpen_b H P (by omega) (by omega)]
        by_cases g2 : S (128 + (z : Int)) = 0
        · rw [B_t g2, if_neg (by decide), bi101 H, M_leads_b H P (by omega) (by omega)]
          by_cases g3 : S (8 + (z : Int)) = t ∨ S (32 + (z : Int)) = t
          · exact absurd ⟨by omega, g2, g3⟩ hd
          · rw [B_f g3, if_pos rfl, wz]; exact e2 kk
        · rw [B_f g2, if_pos rfl, wz]; exact e2 kk
theorem Wr_sum (K : KOk S) {ρ : Nat → Int} (I : HI S f H0 t) (Q : SPx f (dN ρ) H0 M s) (J : WI2 S (dN ρ) M) (al : allO S (dN ρ) 0 M) : WS S t (wyL f (dN ρ) H0 M s) (m + 1) = sN (Wr S (dN ρ) M t (wyL f (dN ρ) H0 M s) m) (S 7).toNat := by
  rw [WS_first K _ (hold_drt I Q J ((allO_iff I Q).mpr al)) m]
  exact sN_congr _ (fun r _ => by
    unfold Wr
    by_cases q : rdo S t (-1) r
    · rw [if_pos q, if_pos q, if_pos al]
    · rw [if_neg q, if_neg q])
theorem across_head (X : Cx sh V S D) (hr : (r : Int) < S 7) (hl : S (8 + (r : Int)) = t ∨ S (32 + (r : Int)) = t) {F : Int → Mem → Option (Int × Mem)} : bd2 (Kg_across 3 r t (sh, V)) F = F (sHead S (sDart S r t)) (sh, V) := by
  have hh : sHead S (sDart S r t) = if S (8 + (r : Int)) = t then S (32 + (r : Int)) else S (8 + (r : Int)) := by
    unfold sHead sDart
    by_cases q : S (8 + (r : Int)) = t
    · rw [if_pos q, if_pos (by omega), if_pos q, show 2 * (r : Int) / 2 = r by omega]
    · rw [if_neg q, if_neg (by omega), if_neg q, show (2 * (r : Int) + 1) / 2 = r by omega]
  rw [hh]
  unfold Kg_across
  rw [b38 X, bl4 X (by omega) hr]
  by_cases q : S (8 + (r : Int)) = t
  · rw [if_pos q, b39 X, bl5 X (by omega) hr, bd2_mk, if_pos q]
  · rw [if_neg q, b38 X, bl4 X (by omega) hr, bd2_mk, if_neg q]
/-- both go on alike -/
theorem jboth (H : Sh sh) (w0 : 0 ≤ wr) (w1 : wr < 4) (hM : M ≤ 40) (hs : isSl S ρ M) (J : WI2 S (dN ρ) M) (al : allO S (dN ρ) 0 M) (hNN : NN ≤ 21) (hN2 : N / 2 < NN) (hN : N ≤ 40) (hI : I0 < N) : ∀ (n p l H0 s : Nat) (f : Nat → Nat) (t : Int) (V V2 : Int → Int → Int), CSt sh S D (dN ρ) M NN V f H0 → MSt S ρ wr M (N + 1) V2 f H0 → HI S f H0 t → SPx f (dN ρ) H0 M s → H0 ≤ p → p ≤ I0 → I0 - p < n → l < 2147483648 → l < WS S t (wyL f (dN ρ) H0 M s) (N - p) → ∃ y V' V2', Ct_roadOf_L29 n 84 2 N I0 l t p (sh, V) = some (y, (sh, V')) ∧ M_journey_L146 n 101 wr N I0 t l p (sh, setR V2 102 S) = some (y, (sh, setR V2' 102 S)) ∧ KF V V' ∧ FM V2 V2' := by
  intro n
  induction n with
  | zero => intro p _ _ _ _ _ _ _ _ _ _ _ _ _ h; omega
  | succ n ih =>
    intro p l H0 s f t V V2 C C2 I Q hHp hpI hn hl ht
    have X := C.1
    have K := X.2.2.2.1.1
    have r4 := K.2.2.2.1
    obtain ⟨m, hm⟩ : ∃ m, p + 1 + m = N := ⟨N - p - 1, by omega⟩
    rw [show N - p = m + 1 by omega, Wr_sum K I Q J al] at ht
    obtain ⟨r, l2, h1, h2, h3⟩ := pick_ex _ ht
    have hr : (r : Int) < S 7 := by omega
    have hd : rdo S t (-1) r := Classical.byContradiction (fun g => by rw [Wr_no g] at h3; omega)
    obtain ⟨d1, d2, d3⟩ := drt_of K (r := r) hr hd.2.1 hd.2.2
    obtain ⟨Va, Ca, Ka, ea⟩ := cfind (i := (I0 : Int)) (hH0 := by omega) hM hNN (by omega : m / 2 < NN) hm hN I Q J hr h3 FU 0 l V C (by omega) (by show _ < 1000000; omega) hl (by rw [sN]; omega)
    obtain ⟨Vb, Cb, Kb, eb⟩ := mfind (i := (I0 : Int)) H K w0 w1 hM hs I Q J al (by omega) (by omega : m + 1 ≤ N + 1) hm hN hr h3 FU 0 l V2 C2 (by omega) (by show _ < 1000000; omega) hl (by rw [sN]; omega)
    rw [show ((0 : Nat) : Int) = 0 from rfl] at ea eb
    rw [Ct_roadOf_L29, if_neg (by omega), M_journey_L146, ea, eb]
    unfold Ct_roadOf_J163
    rw [if_neg (by omega)]
    by_cases gp : (p : Int) = I0
    · rw [if_pos gp, if_pos gp]
      exact ⟨_, _, _, rfl, rfl, Ka, Kb⟩
    · rw [if_neg gp, if_neg gp, b20 Ca.1, bi3 Ca.1, across_head Ca.1 hr hd.2.2, w32_id (by omega) (by omega), show (p : Int) + 1 = ((p + 1 : Nat) : Int) by omega]
      have I' := HI_hold I d1
      rw [d3] at I'
      obtain ⟨s', Q', ew⟩ := hold_nxt (e := (sDart S r t).toNat) Q J.2 I.2.1
      have hh : hH f H0 (sDart S r t).toNat ≤ p + 1 := by unfold hH; split <;> omega
      have hw : l2 < WS S (sHead S (sDart S r t)) (wyL (hF f H0 (sDart S r t).toNat) (dN ρ) (hH f H0 (sDart S r t).toNat) M s') (N - (p + 1)) := by
        unfold Wr at h3
        rw [if_pos hd, if_pos al] at h3
        rw [ew, show N - (p + 1) = m by omega]; exact h3
      obtain ⟨y, V', V2', x1, x2, x3, x4⟩ := ih (p + 1) l2 _ s' _ _ Va Vb Ca Cb I' Q' hh (by omega) (by omega) (by omega) hw
      exact ⟨y, V', V2', x1, x2, KF_trans Ka x3, FM_trans Kb x4⟩
theorem rs_journey (X : Cx sh V S D) (hP : WPt V) (P : PM V2) (hR : RW V V2) (hk : R32 k) (hi : R32 i) : RS sh V V2 S (T_journey 0 w nn k i (sh, V)) (M_journey 101 w nn k i (sh, setR V2 102 S)) := by
  have P1 := PM0 P
  have H := X.1
  have PT := X.2.1
  have KO := X.2.2.2.1.1
  obtain ⟨r1, r2, r3, r4, r5, r6, r7⟩ := Cx_rng X
  unfold T_journey M_journey
  rw [bp101 H, bit (by rw [k_0 H]), M_within_b]
  by_cases h : 0 ≤ w ∧ w < 4
  · rw [B_t (by omega : 0 ≤ w ∧ w ≤ 3), if_neg (c := (1 : Int) = 0) (by decide), bg101 H, blp P1 H (by decide) (by decide)]
    by_cases hz : S 0 = 0
    · rw [T_slipsRefusal_0 X h hz, bd2_mk, if_neg (by decide), if_pos hz]; exact RS_same PT hP _
    · rw [if_neg hz, bg101 H, q_101_49 P1, ml128 H h.1 h.2, up_row (by decide)]
      rcases rw_row hR h.1 h.2 with ⟨e1, e2⟩ | ⟨e1, e2, M, hN, e3, e4, e5⟩
      · rw [T_slipsRefusal_m X h hz e2, bd2_mk, if_neg (by decide), if_pos e1]; exact RS_same PT hP _
      · generalize hρ : (fun z : Nat => V2 130 (40 * w + z)) = ρ at e5
        have e4' : upV V2 101 0 0 129 w = M := by rw [up_row (by decide)]; exact e4
        have e6 : ∀ k : Nat, k < M → upV V2 101 0 0 130 (40 * w + k) = ρ k := fun k _ => by rw [up_row (by decide), ← hρ]
        rw [if_neg e1, bi101 H]
        rcases T_slipsRefusal_x (ρ := ρ) X h.1 h.2 hz e2 hN e3 e5 with ⟨a1, a2⟩ | ⟨a1, a2⟩
        · rcases M_isSlips_x (S := S) (ρ := ρ) H P1 r3 r4 h.1 h.2 hN e4' e6 with ⟨b1, b2⟩ | ⟨b1, b2⟩
          · rw [a2, b2, bd2_mk, bd2_mk, if_pos (c := (0 : Int) = 0) rfl, if_neg (c := (1 : Int) = 0) (by decide), M_within_b]
            by_cases hn : 0 ≤ nn ∧ nn ≤ 40
            · rw [B_t hn, if_neg (c := (1 : Int) = 0) (by decide), if_neg (by omega), if_neg (by omega)]
              by_cases hk0 : k < 0
              · rw [if_pos hk0, if_pos hk0]; exact RS_same PT hP _
              · rw [if_neg hk0, if_neg hk0, M_within_b, w32_id (x := nn - 1) (by omega) (by omega)]
                by_cases hi0 : i < 0
                · rw [if_pos hi0, B_f (by omega), if_pos rfl]; exact RS_same PT hP _
                · rw [if_neg hi0]
                  by_cases hin : i < nn
                  · rw [if_pos hin, B_t (by omega), if_neg (c := (1 : Int) = 0) (by decide), b06 X, b36w H PT h.1 h.2, bit (by rw [k_0 H]), T_forgedPlace_x X h.1 h.2 hN e3 e5 a1, bd2_mk, bi101 H]
                    have inst : ∀ k, Decidable (allO S (dN ρ) k M) := fun k => Classical.propDecidable _
                    rw [cb_x (S := S) H P1 r3 r4 h.1 h.2 hN e4' e6 a1, bd2_mk]
                    by_cases fg : fgF S ρ M 0 (S 1) (-1) = -1
                    · rw [if_pos fg]
                      have J := fgF_WI2 a1 fg
                      obtain ⟨N, rfl⟩ : ∃ n : Nat, nn = n := ⟨nn.toNat, by omega⟩
                      obtain ⟨I0, rfl⟩ : ∃ n : Nat, i = n := ⟨i.toNat, by omega⟩
                      obtain ⟨l, rfl⟩ : ∃ n : Nat, k = n := ⟨k.toNat, by omega⟩
                      have hl : l < 2147483648 := by have := hk.2; omega
                      have k84 : (kS sh 84).1 = 0 := by rw [k_84 H]
                      have hh := KO.2.2.2.2.2.2.2.2.2.2.2.2.1 (by have := KO.1; omega)
                      have F0 : KF V (upV V 84 7 1) := KF_up KF_refl (by omega)
                      obtain ⟨V1, u1, f1, ⟨q5, q6, q7⟩, a3, i1⟩ := prep_ok (c := 1) (N := N) (KF_Cx X F0) up_eq h.1 h.2 hN (by omega) (by rw [up_row (by omega)]; exact e3) (fun k hk => by rw [up_row (by omega)]; exact e5 k hk) a1
                      have K1 := KF_trans F0 f1
                      have X1 := KF_Cx X K1
                      have C : CSt sh S D (dN ρ) M (N / 2 + 1) V1 (fun _ => 0) 0 := ⟨X1, ⟨q7, q5, q6⟩, fun k hk => by omega, fun k hk => by rw [a3 k hk, dN_i a1 hk], i1⟩
                      have I : HI S (fun _ => 0) 0 (S 1) := ⟨fun k hk => by omega, fun k hk => by omega, rfl⟩
                      have Q : SPx (fun _ => 0) (dN ρ) 0 M 0 := ⟨by omega, by omega, fun k hk => by omega, fun q => by omega⟩
                      have hS : ∀ kk : Int → Mem → Option (Int × Mem), bd2 (Ct_roadOf 84 2 (93 + 2 * w) N l I0 (sh, V)) kk = bd2 (Ct_roadOf_L29 FU 84 2 N I0 l (S 1) 0 (sh, V1)) kk := fun kk => by
                        unfold Ct_roadOf
                        rw [bpt k84, bit k84, u1, bd2_mk, b20 X1, b31 X1]
                      rw [bgt (by rw [k_0 H]), q_0_14 PT, b04 X, b06 X, b36w H PT h.1 h.2, bit k84, hS]
                      have none : sN (Wr S (dN ρ) M (S 1) (wyL (fun _ => 0) (dN ρ) 0 M 0) (N - 1)) (S 7).toNat ≤ l → ∃ V', Ct_roadOf_L29 FU 84 2 N I0 l (S 1) 0 (sh, V1) = some (-1, (sh, V')) ∧ KF V1 V' := fun hq => by
                        obtain ⟨Va, l', Ca, Ka, ea⟩ := cnone (i := (I0 : Int)) (p := 0) (N := N) (m := N - 1) (H0 := 0) (by omega) hN (by omega) (by omega) (by omega) (by omega) I Q J FU 0 l V1 C (by omega) (by show _ < 1000000; omega) hl (by rw [sN]; omega)
                        rw [show ((0 : Nat) : Int) = 0 from rfl] at ea
                        have e : FU = 999999 + 1 := rfl
                        refine ⟨Va, ?_, Ka⟩
                        rw [show Ct_roadOf_L29 FU = Ct_roadOf_L29 (999999 + 1) from rfl, Ct_roadOf_L29, if_neg (by omega), ea]
                        unfold Ct_roadOf_J163
                        rw [if_pos rfl]
                      by_cases al : allO S (dN ρ) 0 M
                      · rw [if_pos (c := fgF S ρ M 0 (S 1) (-1) = -1 ∧ allO S (dN ρ) 0 M) ⟨fg, al⟩, if_neg (c := (1 : Int) = 0) (by decide), bp101 H, bi101 H]
                        have Fa : FM V2 (upV (upV V2 101 0 0) 101 36 1) := FM_up FM0 (by unfold MSc; omega)
                        have Pa := PM_fm P Fa
                        obtain ⟨Va, g1, t1, k1⟩ := lr_ok (S := S) (c := 1) (N := N) H KO Pa up_eq (by omega)
                        have Pb := MR_PM g1 Pa
                        have Fb : FM Va (upV Va 101 40 0) := FM_up FM_refl (by unfold MSc; omega)
                        have Pc := PM_fm Pb Fb
                        have C2 : MSt S ρ w M (N + 1) (upV Va 101 40 0) (fun _ => 0) 0 := ⟨Pc, ⟨by rw [up_col (by decide), g1 _ _ (by decide) (by decide) (by decide), up_eq], up_eq, by rw [up_row (by decide), g1 _ _ (by decide) (by decide) (by decide), up_row (by decide)]; exact e4'⟩, fun k hk => by omega, fun k hk => by rw [up_row (by decide), g1 _ _ (by decide) (by decide) (by decide), up_row (by decide)]; exact e6 k hk, fun d hd j hj => by rw [up_row (by decide)]; exact t1 d hd j hj⟩
                        obtain ⟨Vb, y1, y2, y3, y4, y5⟩ := lw_ok (sh := sh) H r4 h.1 h.2 hN a1 C2 (fun k hk => by omega) (by omega) Q
                        have C3 := MSt_LF C2 y2
                        obtain ⟨Vc, z1, z2, z3⟩ := wb_ok (sh := sh) (t := S 1) (N := N) (L := N + 1) H KO C3.1 C3.2.1.1 (by omega) (by omega) C3.2.2.2.2 y5 y3 y4
                        have C4 := MSt_MR C3 z1 z2
                        have FMc : FM V2 Vc := FM_trans Fa (FM_trans (MR_FM g1) (FM_trans Fb (FM_trans (LF_FM y2) (MR_FM z1))))
                        have cl := cap_ltM (y := WS S (S 1) (wyL (fun _ => 0) (dN ρ) 0 M 0) N) hl
                        rw [k1, bd2_mk, bp101 H, bi101 H, y1, bd2_mk, bg101 H, blp C3.1 H (by decide) (by decide), bi101 H, z3, bd2_mk]
                        simp only [cmp_gt]
                        by_cases tt : l < WS S (S 1) (wyL (fun _ => 0) (dN ρ) 0 M 0) N
                        · rw [if_pos (cl.1.mpr tt)]
                          obtain ⟨y, Vx, Vy, x1, x2, x3, x4⟩ := jboth (NN := N / 2 + 1) (I0 := I0) (N := N) H h.1 h.2 hN a1 J al (by omega) (by omega) (by omega) (by omega) FU 0 l 0 0 _ (S 1) V1 Vc C C4 I Q (by omega) (by omega) (by show _ < 1000000; omega) hl (by rw [Nat.sub_zero]; exact tt)
                          rw [show ((0 : Nat) : Int) = 0 from rfl] at x1 x2
                          rw [x1, x2, bd2_mk]
                          have Kx := KF_trans K1 x3
                          exact ⟨y, Vx, Vy, rfl, rfl, KF_SF Kx, KF_Pt Kx PT, KF_WPt Kx hP, FM_trans FMc x4⟩
                        · rw [if_neg (fun q => tt (cl.1.mp q))]
                          have ws := Wr_sum (m := N - 1) KO I Q J al
                          rw [show N - 1 + 1 = N by omega] at ws
                          obtain ⟨Vx, x1, x3⟩ := none (by rw [← ws]; omega)
                          rw [x1, bd2_mk]
                          have Kx := KF_trans K1 x3
                          exact ⟨-1, Vx, Vc, rfl, rfl, KF_SF Kx, KF_Pt Kx PT, KF_WPt Kx hP, FMc⟩
                      · rw [if_neg (c := fgF S ρ M 0 (S 1) (-1) = -1 ∧ allO S (dN ρ) 0 M) (fun y => al y.2), if_pos (c := (0 : Int) = 0) rfl]
                        obtain ⟨Vx, x1, x3⟩ := none (by
                          have : sN (Wr S (dN ρ) M (S 1) (wyL (fun _ => 0) (dN ρ) 0 M 0) (N - 1)) (S 7).toNat = 0 := sN_zero _ (fun r _ => by
                            unfold Wr
                            split
                            · first | rfl | rw [if_neg al]
                            · rfl)
                          omega)
                        rw [x1, bd2_mk]
                        have Kx := KF_trans K1 x3
                        exact ⟨-1, Vx, _, rfl, rfl, KF_SF Kx, KF_Pt Kx PT, KF_WPt Kx hP, FM0⟩
                    · rw [if_neg fg, if_neg (c := fgF S ρ M 0 (S 1) (-1) = -1 ∧ allO S (dN ρ) 0 M) (fun y => fg y.1), if_pos (c := (0 : Int) = 0) rfl]; exact RS_same PT hP _
                  · rw [if_neg hin, B_f (by omega), if_pos rfl]; exact RS_same PT hP _
            · rw [B_f hn, if_pos (c := (0 : Int) = 0) rfl]
              by_cases hn0 : nn < 0
              · rw [if_pos hn0]; exact RS_same PT hP _
              · rw [if_neg hn0, if_pos (by omega)]; exact RS_same PT hP _
          · exact absurd a1 b1
        · rcases M_isSlips_x (S := S) (ρ := ρ) H P1 r3 r4 h.1 h.2 hN e4' e6 with ⟨b1, b2⟩ | ⟨b1, b2⟩
          · exact absurd b1 a1
          · rw [a2, b2, bd2_mk, bd2_mk, if_neg (by decide), if_pos rfl]; exact RS_same PT hP _
  · rw [T_slipsRefusal_no X h, bd2_mk, if_neg (by decide), B_f (by omega : ¬ (0 ≤ w ∧ w ≤ 3)), if_pos rfl]; exact RS_same PT hP _
end JNY3
