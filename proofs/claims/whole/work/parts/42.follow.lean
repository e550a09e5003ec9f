/-! PURE: the class's trips; judge, needs -/
section FOLLOW
variable {sh : List (Nat × Nat)} {V V' V1 V2 V2' : Int → Int → Int} {r t m s c i j d k x a b y D f p w bk v tb : Int} {S S' R : Int → Int} {n : Nat} {ρ : Nat → Int}
def TB (sh : List (Nat × Nat)) (tb : Int) : Prop := (kS sh tb = (8, 6) ∧ kS sh (tb + 1) = (6, 9) ∧ kS sh (tb + 2) = (20, 40) ∧ kS sh (tb + 3) = (20, 40) ∧ kS sh (tb + 4) = (20, 40) ∧ kS sh (tb + 5) = (20, 41) ∧ kS sh (tb + 6) = (20, 41)) ∧ (tb = 49 ∨ tb = 56)
theorem TB49 (H : Sh sh) : TB sh 49 := ⟨⟨k_49 H, k_50 H, k_51 H, k_52 H, k_53 H, k_54 H, k_55 H⟩, Or.inl rfl⟩
theorem TB56 (H : Sh sh) : TB sh 56 := ⟨⟨k_56 H, k_57 H, k_58 H, k_59 H, k_60 H, k_61 H, k_62 H⟩, Or.inr rfl⟩
theorem Pt_tp (h : tb = 49 ∨ tb = 56) (hk : 3 ≤ k) : Pt (upV V tb k x) = Pt V := by
  have hx : ∀ q ∈ ptC, (q.1 = 49 ∨ q.1 = 56) → q.2.1 < 3 := by decide
  apply propext
  constructor
  · intro P q hq; have := P q hq; unfold upV at this; rw [if_neg (fun e => by have := hx q hq (by rw [e.1]; exact h); omega)] at this; exact this
  · intro P q hq; unfold upV; rw [if_neg (fun e => by have := hx q hq (by rw [e.1]; exact h); omega)]; exact P q hq
theorem q_tp (P : Pt V) (h : tb = 49 ∨ tb = 56) : V tb 0 = tb + 1 ∧ V tb 1 = tb + 5 ∧ V tb 2 = tb + 6 := by
  rcases h with rfl | rfl
  · exact ⟨q_49_0 P, q_49_1 P, q_49_2 P⟩
  · exact ⟨q_56_0 P, q_56_1 P, q_56_2 P⟩
def low (ρ : Nat → Int) (S : Int → Int) (i : Int) : Nat → Int
  | 0 => S (165 + i)
  | k + 1 => if trS ρ 0 S i (k + 1) (165 + i) < low ρ S i k then trS ρ 0 S i (k + 1) (165 + i) else low ρ S i k
/-- what a trip leaves after K goings -/
def FW (sh : List (Nat × Nat)) (V : Int → Int → Int) (tb : Int) (ρ : Nat → Int) (S : Int → Int) (i : Int) (K : Nat) (why : Int) : Prop := V tb 3 = K ∧ V tb 4 = why ∧ V tb 5 = low ρ S i K ∧ TrAt sh V (tb + 1) (tb + 2) (tb + 3) (tb + 4) (trS ρ 0 S i K) i ∧ ∀ j : Nat, j ≤ K → V (tb + 5) j = trS ρ 0 S i j (153 + i) ∧ V (tb + 6) j = trS ρ 0 S i j (159 + i)
theorem sAns_nn (W : WI S D i) (hr : rfW S i v = 0) : 0 ≤ sAns S i v := by
  obtain ⟨hv, h⟩ := rfW_0 hr
  have := sAmt_rng W.1 W.2.1 hv.1 hv.2
  unfold sAns; split <;> omega
theorem follow_L (H : Sh sh) (hb : TB sh tb) (W : WI S D i) (h0 : 0 ≤ w) (h1 : w < 4) {N : Nat} (hN : N ≤ 40) (hD : D < 1800000000) : ∀ (n z : Nat) (V : Int → Int → Int), z ≤ N → N - z < n → Pt V → CK V S → CM V S → V (93 + 2 * w) 1 = N → (∀ k : Nat, k < N → V (94 + 2 * w) k = ρ k) → FW sh V tb ρ S i z 0 → (∀ j, j < z → rfW (trS ρ 0 S i j) i (ρ j) = 0) → ∃ V', Tp_follow_L56 n tb 2 (93 + 2 * w) z (sh, V) = some (0, (sh, V')) ∧ Pt V' ∧ (∀ a j, (a < tb ∨ tb + 6 < a) → V' a j = V a j) ∧ (∀ j, 6 ≤ j → V' (tb + 1) j = V (tb + 1) j) ∧ FW sh V' tb ρ S i (wnt (fun j => rfW (trS ρ 0 S i j) i (ρ j)) (N - z) z) (if wnt (fun j => rfW (trS ρ 0 S i j) i (ρ j)) (N - z) z = N then 0 else rfW (trS ρ 0 S i (wnt (fun j => rfW (trS ρ 0 S i j) i (ρ j)) (N - z) z)) i (ρ (wnt (fun j => rfW (trS ρ 0 S i j) i (ρ j)) (N - z) z))) := by
  obtain ⟨⟨kb, kt, k1, k2, k3, k5, k6⟩, hb⟩ := hb
  have kb1 : (kS sh tb).1 = 8 := by rw [kb]
  have kt1 : (kS sh (tb + 1)).1 = 6 := by rw [kt]
  intro n
  induction n with
  | zero => intro z _ _ h; omega
  | succ n ih =>
    intro z V hz hn P K C hw hρ F hj
    have Wz := trS_WI W z hj
    have lo := trS_low W z hj
    have z4 := W.1.2.2.2.1
    have z4' := Wz.1.2.2.2.1
    have Kz : CK V (trS ρ 0 S i z) := CK_of K z4 (fun j hj => lo j (by omega)) (fun _ _ _ _ => rfl)
    have Cz : CM V (trS ρ 0 S i z) := CM_of C z4 (fun j hj => lo j (by omega)) rfl
    obtain ⟨F1, F2, F3, F4, F5⟩ := id F
    obtain ⟨q0, q1, q2⟩ := q_tp P hb
    rw [Tp_follow_L56, bnf H h0 h1, hw]
    by_cases h : (z : Int) < (N : Int)
    · have eN : N - z = (N - z - 1) + 1 := by omega
      rw [eN, wnt, if_pos h, bgt kb1, F2, if_pos rfl, bgt kb1, q0, bni H h0 h1, Nu_smallAt_b H P h0 h1 (by omega) (by omega), hρ z (by omega), bit (by rw [k_2 H]), Wo_step_x H P Kz Cz F4 (by omega : D + 90 * (z : Int) < 1900000000) Wz, bd2_mk, rfW_sm z4']
      by_cases q : rfW (trS ρ 0 S i z) i (ρ z) = 0
      · have hA := sAns_nn Wz q
        rw [sm_eq q z4', if_pos q, if_pos q, if_pos q, if_neg (by omega)]
        have TS := TrAt_step F4 Wz.2.1 (rfW_0 q).2 Wz.2.2.1 Wz.2.2.2
        have PS := Pt_cStep (r := ρ z) H F4 P
        have fr : ∀ a j, (a < tb + 1 ∨ tb + 4 < a) → cStep V (tb + 1) (tb + 2) (tb + 3) (tb + 4) (trS ρ 0 S i z) i (ρ z) a j = V a j := fun a j ha => cStep_fr (by omega) (by omega) (by omega) (by omega)
        have fr6 : ∀ j, 6 ≤ j → cStep V (tb + 1) (tb + 2) (tb + 3) (tb + 4) (trS ρ 0 S i z) i (ρ z) (tb + 1) j = V (tb + 1) j := fun j hj => cStep_t (by omega) (by omega) (by omega) hj
        generalize cStep V (tb + 1) (tb + 2) (tb + 3) (tb + 4) (trS ρ 0 S i z) i (ρ z) = U at *
        have eS : sStep (trS ρ 0 S i z) i (ρ z) = trS ρ 0 S i (z + 1) := by rw [trS]; unfold stp; rw [if_pos rfl]
        rw [eS] at TS
        obtain ⟨f0, f1, f2, f3, f4, f5⟩ := id TS.2.1
        obtain ⟨u0, u1, u2⟩ := q_tp PS hb
        rw [bit kb1]
        unfold Tp_arrive
        have n1 : tb + 1 ≠ tb := by omega
        have n5 : tb + 5 ≠ tb := by omega
        have n6 : tb + 6 ≠ tb := by omega
        rw [bgt kb1, fr tb 3 (by omega), F1, bpt kb1, w32_id (x := (z : Int) + 1) (by omega) (by omega), bgt kb1, up_col (by decide), u1, bgt kb1, up_eq, bgt kb1, up_col (by decide), u0, bgt kt1, up_row n1, f0, bst (by rw [k5]) (by omega) (by rw [k5]; show (z : Int) + 1 < 41; omega)]
        rw [bgt kb1, up_row (by omega), up_col (by decide), u2, bgt kb1, up_row (by omega), up_eq, bgt kb1, up_row (by omega), up_col (by decide), u0, bgt kt1, up_row (by omega), up_row n1, f1, bst (by rw [k6]) (by omega) (by rw [k6]; show (z : Int) + 1 < 41; omega)]
        rw [bgt kb1, up_row (by omega), up_row (by omega), up_col (by decide), fr tb 5 (by omega), F3, bgt kb1, up_row (by omega), up_row (by omega), up_col (by decide), u0, bgt kt1, up_row (by omega), up_row (by omega), up_row n1, f2, J_min_b, bpt kb1, bd2_mk]
        have hl : (if trS ρ 0 S i (z + 1) (165 + i) < low ρ S i z then trS ρ 0 S i (z + 1) (165 + i) else low ρ S i z) = low ρ S i (z + 1) := rfl
        rw [hl]
        have fr2 : ∀ a j, (a < tb ∨ tb + 6 < a) → upV (upV (upV (upV U tb 3 ((z : Int) + 1)) (tb + 5) ((z : Int) + 1) (trS ρ 0 S i (z + 1) (153 + i))) (tb + 6) ((z : Int) + 1) (trS ρ 0 S i (z + 1) (159 + i))) tb 5 (low ρ S i (z + 1)) a j = V a j := fun a j ha => by
          rw [up_row (by omega), up_row (by omega), up_row (by omega), up_row (by omega)]; exact fr a j (by omega)
        have TU : TrAt sh (upV (upV (upV (upV U tb 3 ((z : Int) + 1)) (tb + 5) ((z : Int) + 1) (trS ρ 0 S i (z + 1) (153 + i))) (tb + 6) ((z : Int) + 1) (trS ρ 0 S i (z + 1) (159 + i))) tb 5 (low ρ S i (z + 1))) (tb + 1) (tb + 2) (tb + 3) (tb + 4) (trS ρ 0 S i (z + 1)) i := by
          rw [TrAt_up (by omega) (by omega) (by omega) (by omega), TrAt_up (by omega) (by omega) (by omega) (by omega), TrAt_up (by omega) (by omega) (by omega) (by omega), TrAt_up (by omega) (by omega) (by omega) (by omega)]; exact TS
        obtain ⟨V', e1, e2, e3, e4, e5⟩ := ih (z + 1) (upV (upV (upV (upV U tb 3 ((z : Int) + 1)) (tb + 5) ((z : Int) + 1) (trS ρ 0 S i (z + 1) (153 + i))) (tb + 6) ((z : Int) + 1) (trS ρ 0 S i (z + 1) (159 + i))) tb 5 (low ρ S i (z + 1))) (by omega) (by omega) (by
            rw [Pt_tp hb (by decide), Pt_k H (by rw [k6]; decide), Pt_k H (by rw [k5]; decide), Pt_tp hb (by decide)]; exact PS) (CK_of K z4 (fun _ _ => rfl) (fun a j g0 g1 => fr2 a j (by omega))) (CM_of C z4 (fun _ _ => rfl) (fr2 2 4 (by omega))) (by rw [fr2 _ _ (by omega)]; exact hw) (fun k hk => by rw [fr2 _ _ (by omega)]; exact hρ k hk) ⟨by rw [up_col (by decide), up_row (by omega), up_row (by omega), up_eq]; omega, by rw [up_col (by decide), up_row (by omega), up_row (by omega), up_col (by decide), fr tb 4 (by omega)]; exact F2, up_eq, TU, fun j hj => by
              by_cases e : j = z + 1
              · subst e
                refine ⟨?_, ?_⟩
                · rw [up_row (by omega), up_row (by omega), show (((z + 1 : Nat) : Int)) = (z : Int) + 1 by omega, up_eq]
                · rw [up_row (by omega), show (((z + 1 : Nat) : Int)) = (z : Int) + 1 by omega, up_eq]
              · have := F5 j (by omega)
                refine ⟨?_, ?_⟩
                · rw [up_row (by omega), up_row (by omega), up_col (by omega), up_row (by omega), fr _ _ (by omega)]; exact this.1
                · rw [up_row (by omega), up_col (by omega), up_row (by omega), up_row (by omega), fr _ _ (by omega)]; exact this.2⟩ (fun j hj' => by
              by_cases e : j = z
              · rw [e]; exact q
              · exact hj j (by omega))
        rw [show N - (z + 1) = N - z - 1 by omega] at e5
        refine ⟨V', e1, e2, fun a j ha => (e3 a j ha).trans (fr2 a j ha), fun j hj' => ?_, e5⟩
        rw [e4 j hj', up_row (by omega), up_row (by omega), up_row (by omega), up_row (by omega), fr6 j hj']
      · have hneg := rfW_neg q
        rw [if_neg q, if_neg q, if_neg q, if_pos hneg, bpt kb1, w32_id (by omega) (by omega), if_neg (by omega)]
        refine ⟨upV V tb 4 (rfW (trS ρ 0 S i z) i (ρ z)), ?_, by rw [Pt_tp hb (by decide)]; exact P, fun a j ha => up_row (by omega), fun j hj' => up_row (by omega), ?_⟩
        · have e : ∀ n', Tp_follow_L56 (n' + 1) tb 2 (93 + 2 * w) ((z : Int) + 1) (sh, upV V tb 4 (rfW (trS ρ 0 S i z) i (ρ z))) = some (0, (sh, upV V tb 4 (rfW (trS ρ 0 S i z) i (ρ z)))) := fun n' => by
            rw [Tp_follow_L56, bnf H h0 h1]
            split
            · rw [bgt kb1, up_eq, if_neg q]
            · rfl
          obtain ⟨n', rfl⟩ : ∃ n', n = n' + 1 := ⟨n - 1, by omega⟩
          exact e n'
        · refine ⟨by rw [up_col (by decide)]; exact F1, up_eq, by rw [up_col (by decide)]; exact F3, by rw [TrAt_up (by omega) (by omega) (by omega) (by omega)]; exact F4, fun j hj' => ?_⟩
          rw [up_row (by omega), up_row (by omega)]; exact F5 j hj'
    · have : z = N := by omega
      subst this
      rw [if_neg h, Nat.sub_self, wnt, if_pos rfl]
      exact ⟨V, rfl, P, fun _ _ _ => rfl, fun _ _ => rfl, F⟩
end FOLLOW
