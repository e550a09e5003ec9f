/-! PURE: meet, both sides -/
section MEET2
variable {sh : List (Nat × Nat)} {V V' V1 V2 V2' : Int → Int → Int} {r t m s c i j d k x a b y D D' f p w bk v tb tc q h : Int} {S S' R : Int → Int} {n : Nat} {ρ ρ' : Nat → Int}
def TrR (V : Int → Int → Int) (tb : Int) (A T : Nat → Int) (K : Nat) : Prop := V tb 3 = K ∧ ∀ j : Nat, j ≤ K → V (tb + 5) j = T j ∧ V (tb + 6) j = A j
theorem townOn_x (H : Sh sh) (P : Pt V) (hb : TB sh tb) {A T : Nat → Int} {K : Nat} (hK : K ≤ 40) (F : TrR V tb A T K) : Tp_townOn tb d (sh, V) = some (townO A T K d, (sh, V)) := by
  obtain ⟨⟨kb, kt, k1, k2, k3, k5, k6⟩, hb'⟩ := hb
  have kb1 : (kS sh tb).1 = 8 := by rw [kb]
  obtain ⟨q0, q1, q2⟩ := q_tp P hb'
  obtain ⟨F1, F2⟩ := F
  have L : ∀ (n z : Nat), z ≤ K → K - z < n → Tp_townOn_L25 n tb d z (sh, V) = some (tOn A T K d (K - z) z, (sh, V)) := by
    intro n
    induction n with
    | zero => intro z _ h; omega
    | succ n ih =>
      intro z hz hn
      rw [Tp_townOn_L25, bgt kb1, F1]
      by_cases h : (z : Int) < (K : Int)
      · have f := F2 z (by omega)
        rw [if_pos h, bgt kb1, q2, blt (by rw [k6]) (by omega) (by rw [k6]; show (z : Int) < 41; omega), f.2, show K - z = (K - z - 1) + 1 by omega, tOn]
        by_cases e : A z = d
        · rw [if_pos e, if_pos e, bgt kb1, q1, blt (by rw [k5]) (by omega) (by rw [k5]; show (z : Int) < 41; omega), f.1]
        · rw [if_neg e, if_neg e, w32_id (by omega) (by omega)]
          have := ih (z + 1) (by omega) (by omega)
          rw [show K - (z + 1) = K - z - 1 by omega] at this
          exact this
      · rw [if_neg h, show K - z = 0 by omega]; rfl
  have f := F2 K (Nat.le_refl _)
  unfold Tp_townOn townO
  rw [bgt kb1, q2, bgt kb1, F1, blt (by rw [k6]) (by omega) (by rw [k6]; show (K : Int) < 41; omega), f.2]
  by_cases e : d < A K
  · rw [if_pos e, if_pos e]
    exact L FU 0 (by omega) (by show _ < 1000000; omega)
  · rw [if_neg e, if_neg e, bgt kb1, q1, bgt kb1, F1, blt (by rw [k5]) (by omega) (by rw [k5]; show (K : Int) < 41; omega), f.1]
theorem firstM_x (H : Sh sh) (P : Pt V) (hb : TB sh tb) (hc : TB sh tc) {A T B U : Nat → Int} {K L : Nat} (hK : K ≤ 40) (hL : L ≤ 40) (F : TrR V tb A T K) (G : TrR V tc B U L) : Tp_firstMeeting tb tc (sh, V) = some (fMt A T B U L (K + 1) 0, (sh, V)) := by
  have ht := fun d => townOn_x (d := d) H P hc hL G
  obtain ⟨⟨kb, kt, k1, k2, k3, k5, k6⟩, hb'⟩ := hb
  have kb1 : (kS sh tb).1 = 8 := by rw [kb]
  have kc1 : (kS sh tc).1 = 8 := by rw [hc.1.1]
  obtain ⟨q0, q1, q2⟩ := q_tp P hb'
  obtain ⟨F1, F2⟩ := F
  have L' : ∀ (n z : Nat), z ≤ K + 1 → K + 1 - z < n → Tp_firstMeeting_L2 n tb tc z (sh, V) = some (fMt A T B U L (K + 1 - z) z, (sh, V)) := by
    intro n
    induction n with
    | zero => intro z _ h; omega
    | succ n ih =>
      intro z hz hn
      rw [Tp_firstMeeting_L2, bgt kb1, F1]
      by_cases h : (K : Int) < (z : Int)
      · rw [if_pos h, show K + 1 - z = 0 by omega]; rfl
      · have f := F2 z (by omega)
        rw [if_neg h, bgt kb1, q2, blt (by rw [k6]) (by omega) (by rw [k6]; show (z : Int) < 41; omega), f.2, bit kc1, ht, bd2_mk, bgt kb1, q1, blt (by rw [k5]) (by omega) (by rw [k5]; show (z : Int) < 41; omega), f.1, show K + 1 - z = (K - z) + 1 by omega, fMt]
        by_cases e : townO B U L (A z) = T z
        · rw [if_pos e, if_pos e, bgt kb1, q2, blt (by rw [k6]) (by omega) (by rw [k6]; show (z : Int) < 41; omega), f.2]
        · rw [if_neg e, if_neg e, w32_id (by omega) (by omega)]
          have := ih (z + 1) (by omega) (by omega)
          rw [show K + 1 - (z + 1) = K - z by omega] at this
          exact this
  unfold Tp_firstMeeting
  exact L' FU 0 (by omega) (by show _ < 1000000; omega)
theorem meets_x (H : Sh sh) (P : Pt V) (hb : TB sh tb) (hc : TB sh tc) {A T B U : Nat → Int} {K L : Nat} (hK : K ≤ 40) (hL : L ≤ 40) (F : TrR V tb A T K) (G : TrR V tc B U L) : Tp_meets tb tc (sh, V) = some (meetD A T B U K L, (sh, V)) := by
  have kb1 : (kS sh tb).1 = 8 := by rw [hb.1.1]
  have kc1 : (kS sh tc).1 = 8 := by rw [hc.1.1]
  unfold Tp_meets meetD
  rw [bit kb1, firstM_x H P hb hc hK hL F G, bd2_mk]
  by_cases e : fMt A T B U L (K + 1) 0 = -1
  · rw [if_pos e, if_pos e, bit kc1, firstM_x H P hc hb hL hK G F, bd2_mk]
  · rw [if_neg e, if_neg e]
/-- a trip's days and towns -/
def tpA (ρ : Nat → Int) (S : Int → Int) (i : Int) (j : Nat) : Int := trS ρ 0 S i j (159 + i)
def tpT (ρ : Nat → Int) (S : Int → Int) (i : Int) (j : Nat) : Int := trS ρ 0 S i j (153 + i)
theorem tpA_lt (W : WI S D i) {N : Nat} : ∀ j, j < tpK ρ 0 S i N → tpA ρ S i j < tpA ρ S i (j + 1) := by
  intro j hj
  have sp := tpK_spec (ρ := ρ) (bk := 0) (S := S) (i := i) (N := N)
  have hh : ∀ z, z < j → rfW (trS ρ 0 S i z) i (ρ z) = 0 := fun z hz => sp.2.1 z (by omega)
  have Wj := trS_WI W j hh
  have hr := sp.2.1 j hj
  obtain ⟨hv, h⟩ := rfW_0 hr
  have hd := Wj.1.2.2.2.2.2.2.2.2.2.2.2.2.2 _ hv.1 hv.2
  unfold tpA
  rw [trS]
  unfold stp
  rw [if_pos rfl]
  have : sStep (trS ρ 0 S i j) i (ρ j) (159 + i) = trS ρ 0 S i j (159 + i) + trS ρ 0 S i j (104 + ρ j) := by unfold sStep; rw [upS_eq]
  rw [this]
  omega
/-- days and towns beyond the last are made nonnegative -/
def cutA (A : Nat → Int) (K j : Nat) : Int := if j ≤ K then A j else 0
theorem notes_L {kk : Int → Int → Int → Int → Mem → Option (Int × Mem)} (H : Sh sh) (W : WI S D i) (h0 : 0 ≤ w) (h1 : w < 4) (hh : h = 0 ∨ h = 1) {N : Nat} (hN : N ≤ 40) (hD : D < 1800000000) : ∀ (n z : Nat) (V : Int → Int → Int), z ≤ N → N - z < n → PM V → V 101 15 = 0 → V 129 w = N → (∀ k : Nat, k < N → V 130 (40 * w + k) = ρ k) → (∀ j, j < z → rfW (trS ρ 0 S i j) i (ρ j) = 0) → (∀ j : Nat, j ≤ z → V 125 (41 * h + j) = tpA ρ S i j ∧ V 126 (41 * h + j) = tpT ρ S i j) → ∃ V', M_notes_L54 kk kk n 101 h i w z z (sh, setR V 102 (trS ρ 0 S i z)) = kk 101 h i ((wnt (fun j => rfW (trS ρ 0 S i j) i (ρ j)) (N - z) z : Nat) : Int) (sh, setR V' 102 (trS ρ 0 S i (wnt (fun j => rfW (trS ρ 0 S i j) i (ρ j)) (N - z) z))) ∧ (∀ a j, ¬ ((a = 125 ∨ a = 126) ∧ 41 * h ≤ j ∧ j < 41 * h + 41) → V' a j = V a j) ∧ ∀ j : Nat, j ≤ wnt (fun j => rfW (trS ρ 0 S i j) i (ρ j)) (N - z) z → V' 125 (41 * h + j) = tpA ρ S i j ∧ V' 126 (41 * h + j) = tpT ρ S i j := by
  intro n
  induction n with
  | zero => intro z _ _ h; omega
  | succ n ih =>
    intro z V hz hn P hb hw hρ hj hA
    have Wz := trS_WI W z hj
    have z3 := Wz.1.2.2.1
    have z4 := Wz.1.2.2.2.1
    have hi := W.2.2
    rw [M_notes_L54, bg101 H, q_101_50 P, ml129 H h0 h1, hw]
    by_cases hl : (z : Int) < (N : Int)
    · have eN : N - z = (N - z - 1) + 1 := by omega
      rw [eN, wnt, if_pos hl, bg101 H, q_101_51 P, w32_id (x := 40 * w) (by omega) (by omega), w32_id (x := 40 * w + z) (by omega) (by omega), ml130 H (by omega) (by omega), hρ z (by omega), bi101 H, M_isRoad_b H P z3 z4]
      have stop : rfW (trS ρ 0 S i z) i (ρ z) ≠ 0 → ∃ V', kk 101 h i z (sh, setR V 102 (trS ρ 0 S i z)) = kk 101 h i (((if rfW (trS ρ 0 S i z) i (ρ z) = 0 then wnt (fun j => rfW (trS ρ 0 S i j) i (ρ j)) (N - z - 1) (z + 1) else z : Nat)) : Int) (sh, setR V' 102 (trS ρ 0 S i (if rfW (trS ρ 0 S i z) i (ρ z) = 0 then wnt (fun j => rfW (trS ρ 0 S i j) i (ρ j)) (N - z - 1) (z + 1) else z))) ∧ (∀ a j, ¬ ((a = 125 ∨ a = 126) ∧ 41 * h ≤ j ∧ j < 41 * h + 41) → V' a j = V a j) ∧ ∀ j : Nat, j ≤ (if rfW (trS ρ 0 S i z) i (ρ z) = 0 then wnt (fun j => rfW (trS ρ 0 S i j) i (ρ j)) (N - z - 1) (z + 1) else z) → V' 125 (41 * h + j) = tpA ρ S i j ∧ V' 126 (41 * h + j) = tpT ρ S i j := fun q => ⟨V, by rw [if_neg q], fun _ _ _ => rfl, fun j hj => hA j (by rw [if_neg q] at hj; exact hj)⟩
      by_cases g : 0 ≤ ρ z ∧ ρ z < trS ρ 0 S i z 7
      · have er : sRefuse (trS ρ 0 S i z) i (ρ z) = rfW (trS ρ 0 S i z) i (ρ z) := by unfold rfW; rw [if_pos g]
        rw [B_t g, if_neg (c := (1 : Int) = 0) (by decide), bi101 H, w32_id (x := ρ z) (by omega) (by omega), M_refuses_x H P Wz (by omega) g.1 g.2, bd2_mk, er]
        by_cases q : rfW (trS ρ 0 S i z) i (ρ z) = 0
        · have eS : stp 0 (trS ρ 0 S i z) i (ρ z) = trS ρ 0 S i (z + 1) := rfl
          rw [if_pos q, if_pos q, bi101 H, M_goes_x H P Wz (by omega) q, bd2_mk, hb, eS, bg101 H, q_101_46 P, bg101 H, w32_id (x := 159 + i) (by omega) (by omega), blp P H (by omega) (by omega), w32_id (x := 41 * h) (by omega) (by omega), w32_id (x := (z : Int) + 1) (by omega) (by omega), w32_id (x := 41 * h + ((z : Int) + 1)) (by omega) (by omega), ms125 H (by omega) (by omega), bg101 H, up_row (by decide), q_101_47 P, bg101 H, w32_id (x := 153 + i) (by omega) (by omega), blp (by rw [PM_row (by decide)]; exact P) H (by omega) (by omega), ms126 H (by omega) (by omega)]
          have e1 : trS ρ 0 S i (z + 1) (159 + i) = tpA ρ S i (z + 1) := rfl
          have e2 : trS ρ 0 S i (z + 1) (153 + i) = tpT ρ S i (z + 1) := rfl
          rw [e1, e2]
          obtain ⟨V', i1, i2, i3⟩ := ih (z + 1) (upV (upV V 125 (41 * h + ((z : Int) + 1)) (tpA ρ S i (z + 1))) 126 (41 * h + ((z : Int) + 1)) (tpT ρ S i (z + 1))) (by omega) (by omega) (by rw [PM_row (by decide), PM_row (by decide)]; exact P) (by rw [up_row (by decide), up_row (by decide)]; exact hb) (by rw [up_row (by decide), up_row (by decide)]; exact hw) (fun k hk => by rw [up_row (by decide), up_row (by decide)]; exact hρ k hk) (fun j hj' => by
              by_cases e : j = z
              · rw [e]; exact q
              · exact hj j (by omega)) (fun j hj' => by
              by_cases e : j = z + 1
              · subst e
                rw [up_row (by decide), show (((z + 1 : Nat) : Int)) = (z : Int) + 1 by omega, up_eq, up_eq]; exact ⟨rfl, rfl⟩
              · rw [up_row (by decide), up_col (by omega), up_col (by omega), up_row (by decide)]; exact hA j (by omega))
          rw [show N - (z + 1) = N - z - 1 by omega] at i1 i3
          refine ⟨V', i1, fun a j ha => ?_, i3⟩
          rw [i2 a j ha]
          unfold upV
          rw [if_neg (fun e => ha ⟨Or.inr e.1, by omega⟩), if_neg (fun e => ha ⟨Or.inl e.1, by omega⟩)]
        · rw [if_neg (c := rfW (trS ρ 0 S i z) i (ρ z) = 0) q]; exact stop q
      · rw [B_f g, if_pos (c := (0 : Int) = 0) rfl]; exact stop (by unfold rfW; rw [if_neg g]; decide)
    · have : z = N := by omega
      subst this
      rw [if_neg hl, Nat.sub_self, wnt]
      exact ⟨V, rfl, fun _ _ _ => rfl, hA⟩
theorem notes_x (H : Sh sh) (P : PM V) (W : WI S D i) (h0 : 0 ≤ w) (h1 : w < 4) (hh : h = 0 ∨ h = 1) {N : Nat} (hN : N ≤ 40) (hD : D < 1800000000) (hbk : V 101 15 = 1) (hw : V 129 w = N) (hρ : ∀ k : Nat, k < N → V 130 (40 * w + k) = ρ k) : ∃ V', M_notes 101 h i w (sh, setR V 102 S) = some (0, (sh, setR V' 102 S)) ∧ FM V V' ∧ V' 127 h = (tpK ρ 0 S i N : Nat) ∧ (∀ j : Nat, j ≤ tpK ρ 0 S i N → V' 125 (41 * h + j) = tpA ρ S i j ∧ V' 126 (41 * h + j) = tpT ρ S i j) ∧ (∀ a j, (a = 125 ∨ a = 126) → ¬ (41 * h ≤ j ∧ j < 41 * h + 41) → V' a j = V a j) ∧ ∀ j, j ≠ h → V' 127 j = V 127 j := by
  have hi := W.2.2
  obtain ⟨R', y1, y2⟩ := keeps_ok (S := S) H P hi.1 hi.2
  unfold M_notes
  generalize hA : upV (upV (upV (setR V 106 R') 101 15 0) 125 (41 * h) (S (159 + i))) 126 (41 * h) (S (153 + i)) = A
  have M125 : ∀ j, MSc 125 j := fun j => Or.inr (by omega)
  have M126 : ∀ j, MSc 126 j := fun j => Or.inr (by omega)
  have M127 : ∀ j, MSc 127 j := fun j => Or.inr (by omega)
  have FA0 : FN V (upV (setR V 106 R') 101 15 0) := FN_up (FN_FM (FM_set FM_refl (by decide) (by decide))) (Or.inr ⟨rfl, rfl⟩)
  have FA : FN V A := by rw [← hA]; exact FN_up (FN_up FA0 (Or.inl (M125 _))) (Or.inl (M126 _))
  have PA0 := PM_fn P FA0
  have PA := PM_fn P FA
  obtain ⟨V', n1, n2, n3⟩ := notes_L (kk := fun x12 x13 x14 x15 μ16 => M_notes_J164 x12 x13 x14 x15 μ16) (ρ := ρ) H W h0 h1 hh hN hD FU 0 A (by omega) (by show _ < 1000000; omega) PA (by rw [← hA, up_row (by decide), up_row (by decide), up_eq]) (by rw [FA 129 w (by unfold MSc; omega) (by omega)]; exact hw) (fun k hk => by rw [FA 130 _ (by unfold MSc; omega) (by omega)]; exact hρ k hk) (fun j hj => by omega) (fun j hj => by
      have : j = 0 := by omega
      subst this
      rw [← hA, up_row (by decide), show 41 * h + ((0 : Nat) : Int) = 41 * h by omega, up_eq, up_eq]; exact ⟨rfl, rfl⟩)
  rw [trS, show ((0 : Nat) : Int) = 0 from rfl] at n1
  have FV : FN V V' := fun a j q1 q2 => by rw [n2 a j (fun e => q1 (by rcases e.1 with e1 | e1; rw [e1]; exact M125 j; rw [e1]; exact M126 j))]; exact FA a j q1 q2
  have PV := PM_fn P FV
  have sp := tpK_spec (ρ := ρ) (bk := 0) (S := S) (i := i) (N := N)
  generalize hC : upV (upV V' 127 h (tpK ρ 0 S i N : Nat)) 101 15 1 = C
  have FC : FM V C := by rw [← hC]; exact FN_end (FN_up FV (Or.inl (M127 _))) hbk
  have PC := PM_fm P FC
  have C106 : C 106 = R' := by funext z; rw [← hC, up_row (by decide), up_row (by decide), n2 106 z (by omega), ← hA, up_row (by decide), up_row (by decide), up_row (by decide), setR_at]
  have hag := again_ok H PC (S := S) (i := i) (S' := trS ρ 0 S i (tpK ρ 0 S i N)) (by rw [C106]; exact y2) hi.1 hi.2 (trS_TI W _ sp.2.1)
  have PB : PM (upV (upV (setR V 106 R') 101 15 0) 125 (41 * h) (S (159 + i))) := by rw [PM_row (by decide)]; exact PA0
  refine ⟨C, ?_, FC, by rw [← hC, up_row (by decide), up_eq], fun j hj => ?_, fun a j ha hj => ?_, fun j hj => ?_⟩
  · rw [bi101 H, y1, bd2_mk, bp101 H, bg101 H, q_101_46 PA0, bg101 H, w32_id (x := 159 + i) (by omega) (by omega), blp PA0 H (by omega) (by omega), w32_id (x := 41 * h) (by omega) (by omega), ms125 H (by omega) (by omega), bg101 H, up_row (by decide), q_101_47 PA0, bg101 H, w32_id (x := 153 + i) (by omega) (by omega), blp PB H (by omega) (by omega), ms126 H (by omega) (by omega), hA, n1]
    unfold M_notes_J164
    rw [bg101 H, q_101_48 PV, ms127 H (by omega) (by omega), bp101 H, bi101 H]
    have e : upV (upV V' 127 h ((wnt (fun j => rfW (trS ρ 0 S i j) i (ρ j)) (N - 0) 0 : Nat) : Int)) 101 15 1 = C := hC
    rw [e]
    have hag' : M_isAgain 101 i (sh, setR C 102 (trS ρ 0 S i (wnt (fun j => rfW (trS ρ 0 S i j) i (ρ j)) (N - 0) 0))) = some (0, (sh, setR C 102 S)) := hag
    rw [hag', bd2_mk]
  · rw [← hC, up_row (by decide), up_row (by decide), up_row (by decide), up_row (by decide)]; exact n3 j hj
  · rw [← hC, up_row (by omega), up_row (by omega), n2 a j (fun e => hj e.2), ← hA]
    rcases ha with rfl | rfl
    · rw [up_row (by decide), up_col (by omega), up_row (by decide), setR_ne (by decide)]
    · rw [up_col (by omega), up_row (by decide), up_row (by decide), setR_ne (by decide)]
  · rw [← hC, up_row (by decide), up_col hj, n2 127 j (by omega), ← hA, up_row (by decide), up_row (by decide), up_row (by decide), setR_ne (by decide)]
/-- the reference's record of two trips -/
def MtR (V : Int → Int → Int) (A T B U : Nat → Int) (K L : Nat) : Prop := V 127 0 = K ∧ V 127 1 = L ∧ (∀ j : Nat, j ≤ K → V 125 j = A j ∧ V 126 j = T j) ∧ ∀ j : Nat, j ≤ L → V 125 (41 + j) = B j ∧ V 126 (41 + j) = U j
theorem bothOn_x (H : Sh sh) (P : PM V) {A T B U : Nat → Int} {K L u v : Nat} (hK : K ≤ 40) (hL : L ≤ 40) (F : MtR V A T B U K L) (hu : u ≤ K) (hv : v ≤ L) : M_bothOn 101 u v (sh, setR V 102 S) = some (bothD A T B U K L u v, (sh, setR V 102 S)) := by
  obtain ⟨F1, F2, F3, F4⟩ := F
  have f3 := F3 u hu
  have f4 := F4 v hv
  unfold M_bothOn bothD
  rw [bg101 H, q_101_47 P, ml126 H (by omega) (by omega), f3.2, bg101 H, q_101_47 P, w32_id (x := 41 + (v : Int)) (by omega) (by omega), ml126 H (by omega) (by omega), f4.2]
  by_cases e : T u = U v
  · rw [if_pos e, if_pos e, bg101 H, q_101_46 P, ml125 H (by omega) (by omega), f3.1, bg101 H, q_101_46 P, ml125 H (by omega) (by omega), f4.1]
    by_cases e1 : A u = B v
    · rw [if_pos e1, if_pos e1]
    · rw [if_neg e1, if_neg e1]
      by_cases e2 : A u < B v
      · rw [if_pos e2, bg101 H, q_101_48 P, ml127 H (by omega) (by omega), F1]
        by_cases e3 : u = K
        · rw [if_pos (by omega), bd_mk, if_neg (by decide), if_pos e2, if_pos e2, if_pos e3]
        · rw [if_neg (by omega), bd_mk, if_pos rfl, if_pos e2, if_neg e3]
      · rw [if_neg e2, bg101 H, q_101_48 P, ml127 H (by omega) (by omega), F2]
        by_cases e3 : v = L
        · rw [if_pos (by omega), bd_mk, if_neg (by decide), if_neg e2, if_neg e2, if_pos e3]
        · rw [if_neg (by omega), bd_mk, if_pos rfl, if_neg e2, if_neg e3]
  · rw [if_neg e, if_neg e]
theorem meetIn_x (H : Sh sh) (P : PM V) {A T B U : Nat → Int} {K L u : Nat} (hK : K ≤ 40) (hL : L ≤ 40) (F : MtR V A T B U K L) (hu : u ≤ K) {kk : Int → Int → Int → Int → Int → Mem → Option (Int × Mem)} {v5 : Int} : ∀ (n z : Nat) (o : Int × Int), z ≤ L + 1 → L + 1 - z < n → M_meet_L127 kk n 101 v5 o.1 o.2 u z (sh, setR V 102 S) = kk 101 v5 (mtIn A T B U K L u (L + 1 - z) z o).1 (mtIn A T B U K L u (L + 1 - z) z o).2 u (sh, setR V 102 S) := by
  have F' := F
  obtain ⟨F1, F2, F3, F4⟩ := F
  intro n
  induction n with
  | zero => intro z _ _ h; omega
  | succ n ih =>
    intro z o hz hn
    rw [M_meet_L127, bg101 H, q_101_48 P, ml127 H (by omega) (by omega), F2]
    by_cases g : (L : Int) < (z : Int)
    · rw [if_pos g, show L + 1 - z = 0 by omega]; rfl
    · have f3 := F3 u hu
      rw [if_neg g, bi101 H, bothOn_x H P hK hL F' hu (by omega), bd2_mk, show L + 1 - z = (L - z) + 1 by omega, mtIn, w32_id (by omega) (by omega)]
      have hi := fun o => ih (z + 1) o (by omega) (by omega)
      rw [show L + 1 - (z + 1) = L - z by omega] at hi
      by_cases e : bothD A T B U K L u z = -1
      · rw [if_pos e, if_pos e]; exact hi o
      · rw [if_neg e, if_neg e]
        by_cases e1 : o.1 = -1
        · rw [if_pos e1, if_pos (Or.inl e1), bg101 H, q_101_47 P, ml126 H (by omega) (by omega), f3.2]; exact hi (bothD A T B U K L u z, T u)
        · rw [if_neg e1]
          by_cases e2 : bothD A T B U K L u z < o.1
          · rw [if_pos e2, if_pos (Or.inr e2), bg101 H, q_101_47 P, ml126 H (by omega) (by omega), f3.2]; exact hi (bothD A T B U K L u z, T u)
          · rw [if_neg e2, if_neg (by rintro (q | q); exact e1 q; exact e2 q)]; exact hi o
theorem meetOut_x (H : Sh sh) (P : PM V) {A T B U : Nat → Int} {K L : Nat} (hK : K ≤ 40) (hL : L ≤ 40) (F : MtR V A T B U K L) {kk : Int → Int → Int → Mem → Option (Int × Mem)} {v5 : Int} : ∀ (n z : Nat) (o : Int × Int), z ≤ K + 1 → K + 1 - z < n → M_meet_L113 kk n 101 v5 o.1 o.2 z (sh, setR V 102 S) = kk v5 (mtOut A T B U K L (K + 1 - z) z o).1 (mtOut A T B U K L (K + 1 - z) z o).2 (sh, setR V 102 S) := by
  have F' := F
  obtain ⟨F1, F2, F3, F4⟩ := F
  intro n
  induction n with
  | zero => intro z _ _ h; omega
  | succ n ih =>
    intro z o hz hn
    rw [M_meet_L113, bg101 H, q_101_48 P, ml127 H (by omega) (by omega), F1]
    by_cases g : (K : Int) < (z : Int)
    · rw [if_pos g, show K + 1 - z = 0 by omega]; rfl
    · have e := meetIn_x (S := S) (u := z) (kk := fun x3 x4 x5 x6 x7 μ8 => M_meet_L113 kk n x3 x4 x5 x6 (w32 (x7 + 1)) μ8) (v5 := v5) H P hK hL F' (by omega) FU 0 o (by omega) (by show _ < 1000000; omega)
      rw [show ((0 : Nat) : Int) = 0 from rfl] at e
      rw [if_neg g, e, show K + 1 - z = (K - z) + 1 by omega, mtOut, w32_id (by omega) (by omega)]
      have hi := ih (z + 1) (mtIn A T B U K L z (L + 1 - 0) 0 o) (by omega) (by omega)
      rw [show K + 1 - (z + 1) = K - z by omega] at hi
      exact hi
theorem TrR_cut {A T : Nat → Int} {K : Nat} (h : TrR V tb A T K) : TrR V tb (cutA A K) (cutA T K) K := ⟨h.1, fun j hj => by
  have := h.2 j hj
  unfold cutA; rw [if_pos hj, if_pos hj]; exact this⟩
theorem cutA_lt {A : Nat → Int} {K : Nat} (h : ∀ j, j < K → A j < A (j + 1)) : ∀ j, j < K → cutA A K j < cutA A K (j + 1) := fun j hj => by
  unfold cutA; rw [if_pos (by omega), if_pos (by omega)]; exact h j hj
theorem cutA_nn {A : Nat → Int} {K : Nat} (h : ∀ j, j ≤ K → 0 ≤ A j) : ∀ j, 0 ≤ cutA A K j := fun j => by
  unfold cutA; split
  · rename_i q; exact h j q
  · omega
theorem tp_nn (W : WI S D i) {N : Nat} : ∀ j, j ≤ tpK ρ 0 S i N → 0 ≤ tpA ρ S i j ∧ 0 ≤ tpT ρ S i j := fun j hj => by
  have sp := tpK_spec (ρ := ρ) (bk := 0) (S := S) (i := i) (N := N)
  have Wj := trS_WI W j (fun z hz => sp.2.1 z (by omega))
  exact ⟨Wj.2.1.2.2.1, Wj.2.1.2.2.2.2.1⟩
theorem rs_meet (X : Cx sh V S D) (hP : WPt V) (PM' : PM V2) (hR : RW V V2) (hbk : V2 101 15 = 1) (hD : D < 1800000000) : RS sh V V2 S (T_meet 0 i w j v k (sh, V)) (M_meet 101 i w j v k (sh, setR V2 102 S)) := by
  have P1 := PM0 PM'
  have H := X.1
  have P := X.2.1
  obtain ⟨r1, r2, r3, r4, r5, r6, r7⟩ := Cx_rng X
  have ek : (if k = 0 then some (1 : Int) else if k = 1 then some 1 else some 0) = some (B (0 ≤ k ∧ k ≤ 1)) := by
    by_cases e : k = 0
    · rw [if_pos e, B_t (by omega)]
    · rw [if_neg e]
      by_cases e : k = 1
      · rw [if_pos e, B_t (by omega)]
      · rw [if_neg e, B_f (by omega)]
  unfold T_meet M_meet
  rw [ek, bd_mk, bp101 H, b04 X, bi2 X, x_hasPair X, bi101 H, M_isOne_b H P1 r5 r6]
  by_cases h : 0 ≤ i ∧ i < S 152
  · rw [B_t h, if_neg (c := (1 : Int) = 0) (by decide), bi101 H, M_isOne_b H P1 r5 r6]
    by_cases g : 0 ≤ j ∧ j < S 152
    · rw [B_t g, if_neg (c := (1 : Int) = 0) (by decide)]
      by_cases e : i = j
      · rw [if_pos e, B_f (fun q => q.2.2 e), if_pos rfl]; exact RS_same P hP _
      · rw [if_neg e, B_t (p := (0 ≤ i ∧ i < S 152) ∧ (0 ≤ j ∧ j < S 152) ∧ i ≠ j) ⟨h, g, e⟩, if_neg (c := (1 : Int) = 0) (by decide), T_isRow_b, M_within_b]
        by_cases u1 : 0 ≤ w ∧ w < 4
        · rw [B_t u1, B_t (by omega : 0 ≤ w ∧ w ≤ 3), if_neg (c := (1 : Int) = 0) (by decide), if_neg (c := (1 : Int) = 0) (by decide), T_isRow_b, M_within_b]
          by_cases u2 : 0 ≤ v ∧ v < 4
          · rw [B_t u2, B_t (by omega : 0 ≤ v ∧ v ≤ 3), if_neg (c := (1 : Int) = 0) (by decide), if_neg (c := (1 : Int) = 0) (by decide), M_within_b]
            by_cases u3 : 0 ≤ k ∧ k ≤ 1
            · rw [B_t u3, if_neg (c := (1 : Int) = 0) (by decide), if_neg (c := (1 : Int) = 0) (by decide), b06 X, b36w H P u1.1 u1.2, bnf H u1.1 u1.2, bg101 H, q_101_49 P1, ml128 H u1.1 u1.2, up_row (by decide)]
              rcases rw_row hR u1.1 u1.2 with ⟨e1, e2⟩ | ⟨e1, e2, N, hN, e3, e4, e5⟩
              · rw [e1, e2, if_neg (by decide), if_pos rfl]; exact RS_same P hP _
              · rw [e2, if_pos (c := (0 : Int) = 0) rfl, if_neg (c := V2 128 w = -1) e1, b06 X, b36w H P u2.1 u2.2, bnf H u2.1 u2.2, bg101 H, q_101_49 P1, ml128 H u2.1 u2.2, up_row (by decide)]
                rcases rw_row hR u2.1 u2.2 with ⟨d1, d2⟩ | ⟨d1, d2, M, hM, d3, d4, d5⟩
                · rw [d1, d2, if_neg (by decide), if_pos rfl]; exact RS_same P hP _
                · rw [d2, if_pos (c := (0 : Int) = 0) rfl, if_neg (c := V2 128 v = -1) d1]
                  have W := WI_x X h.1 h.2
                  have W' := WI_x X g.1 g.2
                  generalize hρ : (fun z : Nat => V2 130 (40 * w + z)) = ρ at e5
                  generalize hρ' : (fun z : Nat => V2 130 (40 * v + z)) = ρ' at d5
                  obtain ⟨Va, z1, z2, z3, z4, z5, z6⟩ := Tp_follow_x (tb := 49) (p := S (165 + i)) X hP (TB49 H) h.1 h.2 u1.1 u1.2 hN e3 e5 hD
                  rw [up_same] at z6
                  have Xa := Cx_sf X z2 z3
                  obtain ⟨Vb, y1, y2, y3, y4, y5, y6⟩ := Tp_follow_x (ρ := ρ') (tb := 56) (p := S (165 + j)) Xa z4 (TB56 H) g.1 g.2 u2.1 u2.2 hM (by rw [z2 _ _ (by omega)]; exact d3) (fun k hk => by rw [z2 _ _ (by omega)]; exact d5 k hk) hD
                  rw [up_same] at y6
                  have sp := tpK_spec (ρ := ρ) (bk := 0) (S := S) (i := i) (N := N)
                  have sp' := tpK_spec (ρ := ρ') (bk := 0) (S := S) (i := j) (N := M)
                  have F : TrR Vb 49 (tpA ρ S i) (tpT ρ S i) (tpK ρ 0 S i N) := ⟨by rw [y5 _ _ (by omega)]; exact z6.1, fun q hq => by rw [y5 _ _ (by omega), y5 _ _ (by omega)]; exact z6.2.2.2.2 q hq⟩
                  have G : TrR Vb 56 (tpA ρ' S j) (tpT ρ' S j) (tpK ρ' 0 S j M) := ⟨y6.1, fun q hq => y6.2.2.2.2 q hq⟩
                  have F := TrR_cut F
                  have G := TrR_cut G
                  have hm := meets_x H y3 (TB49 H) (TB56 H) (by omega) (by omega) F G
                  have ht := fun d => townOn_x (d := d) H y3 (TB49 H) (by omega) F
                  obtain ⟨Ua, n1, n2, n3, n4, n5, n6⟩ := notes_x (ρ := ρ) (h := 0) (N := N) H P1 W u1.1 u1.2 (Or.inl rfl) hN hD (by rw [up_col (by decide)]; exact hbk) (by rw [up_row (by decide)]; exact e4) (fun k hk => by rw [up_row (by decide), ← hρ])
                  have FUa := FM_trans FM0 n2
                  have PUa := PM_fm PM' FUa
                  obtain ⟨Ub, m1, m2, m3, m4, m5, m6⟩ := notes_x (ρ := ρ') (h := 1) (N := M) H PUa W' u2.1 u2.2 (Or.inr rfl) hM hD (by rw [FUa 101 15 (by unfold MSc; omega)]; exact hbk) (by rw [FUa 129 v (by unfold MSc; omega)]; exact d4) (fun k hk => by rw [FUa 130 _ (by unfold MSc; omega), ← hρ'])
                  have FUb := FM_trans FUa m2
                  have PUb := PM_fm PM' FUb
                  have MR : MtR Ub (cutA (tpA ρ S i) (tpK ρ 0 S i N)) (cutA (tpT ρ S i) (tpK ρ 0 S i N)) (cutA (tpA ρ' S j) (tpK ρ' 0 S j M)) (cutA (tpT ρ' S j) (tpK ρ' 0 S j M)) (tpK ρ 0 S i N) (tpK ρ' 0 S j M) := by
                    refine ⟨by rw [m6 0 (by decide)]; exact n3, m3, fun q hq => ?_, fun q hq => ?_⟩
                    · have := n4 q hq
                      rw [show 41 * (0 : Int) + (q : Int) = q by omega] at this
                      unfold cutA
                      rw [m5 125 q (Or.inl rfl) (by omega), m5 126 q (Or.inr rfl) (by omega), if_pos hq, if_pos hq]; exact this
                    · have := m4 q hq
                      rw [show 41 * (1 : Int) + (q : Int) = 41 + q by omega] at this
                      unfold cutA
                      rw [if_pos hq, if_pos hq]; exact this
                  have nn := tp_nn (ρ := ρ) (N := N) W
                  have nn' := tp_nn (ρ := ρ') (N := M) W'
                  have eq := meet_eq (cutA_lt (tpA_lt (ρ := ρ) (N := N) W)) (cutA_lt (tpA_lt (ρ := ρ') (N := M) W')) (cutA_nn (fun q hq => (nn q hq).1)) (cutA_nn (fun q hq => (nn' q hq).1)) (cutA_nn (fun q hq => (nn q hq).2)) (cutA_nn (fun q hq => (nn' q hq).2))
                  have mo := meetOut_x (S := S) (kk := fun x20 x21 x22 μ23 => if x20 = 0 then some (x21, μ23) else some (x22, μ23)) (v5 := k) H PUb (by omega) (by omega) MR FU 0 (-1, -1) (by omega) (by show _ < 1000000; omega)
                  rw [Nat.sub_zero, eq, show ((0 : Nat) : Int) = 0 from rfl] at mo
                  rw [b04 X, b21 X, b9 X h.1 h.2, b04 X, b21 X, b9 X g.1 g.2, bgt (by rw [k_0 H]), q_0_9 P, b04 X, b06 X, b36w H P u1.1 u1.2, bt2 X h.1 h.2, bit (by rw [k_49 H]), z1, bd2_mk, bgt (by rw [k_0 H]), q_0_10 z3, b04 Xa, b06 Xa, b36w H z3 u2.1 u2.2, bt2 Xa g.1 g.2, bit (by rw [k_56 H]), y1, bd2_mk, bgt (by rw [k_0 H]), q_0_9 y3, bgt (by rw [k_0 H]), q_0_10 y3, bit (by rw [k_49 H]), hm, bd2_mk, bi101 H, n1, bd2_mk, bi101 H, m1, bd2_mk, mo]
                  generalize meetD (cutA (tpA ρ S i) (tpK ρ 0 S i N)) (cutA (tpT ρ S i) (tpK ρ 0 S i N)) (cutA (tpA ρ' S j) (tpK ρ' 0 S j M)) (cutA (tpT ρ' S j) (tpK ρ' 0 S j M)) (tpK ρ 0 S i N) (tpK ρ' 0 S j M) = md
                  have fin : ∀ y : Int, RS sh V V2 S (some (y, (sh, Vb))) (some (y, (sh, setR Ub 102 S))) := fun y => ⟨y, Vb, Ub, rfl, rfl, SF_trans z2 y2, y3, y4, FUb⟩
                  by_cases q : md = -1
                  · rw [if_pos q, if_pos q, q]
                    split <;> exact fin _
                  · rw [if_neg q, if_neg q]
                    by_cases q' : k = 0
                    · rw [if_pos q', if_pos q']; exact fin _
                    · rw [if_neg q', if_neg q', bgt (by rw [k_0 H]), q_0_9 y3, bit (by rw [k_49 H]), ht, bd2_mk]; exact fin _
            · rw [B_f u3, if_pos (c := (0 : Int) = 0) rfl, if_pos (c := (0 : Int) = 0) rfl]; exact RS_same P hP _
          · rw [B_f u2, B_f (p := 0 ≤ v ∧ v ≤ 3) (by omega), if_pos (c := (0 : Int) = 0) rfl, if_pos (c := (0 : Int) = 0) rfl]; exact RS_same P hP _
        · rw [B_f u1, B_f (p := 0 ≤ w ∧ w ≤ 3) (by omega), if_pos (c := (0 : Int) = 0) rfl, if_pos (c := (0 : Int) = 0) rfl]; exact RS_same P hP _
    · rw [B_f g, if_pos (c := (0 : Int) = 0) rfl, B_f (fun q => g q.2.1), if_pos (c := (0 : Int) = 0) rfl]; exact RS_same P hP _
  · rw [B_f h, if_pos (c := (0 : Int) = 0) rfl, B_f (fun q => h q.1), if_pos (c := (0 : Int) = 0) rfl]; exact RS_same P hP _
end MEET2
