/-! PURE: through; an end is judged -/
section THR4
variable {sh : List (Nat × Nat)} {V V' V1 V2 V2' : Int → Int → Int} {r t m s c i j d k x a b y D D' f p w bk v tb q e e' E o u : Int} {S S' S'' R : Int → Int} {n : Nat} {ρ : Nat → Int}
/-- the class has a better end -/
abbrev cBet (V : Int → Int → Int) (o u : Int) : Prop := V 80 0 = V 3 1 ∧ and32 u (V 67 8) = V 67 8 ∧ (V 67 2 = -1 ∨ V 67 1 < V 80 2 ∨ (V 80 2 = V 67 1 ∧ o < V 67 2))
theorem judgeEnd_eq (H : Sh sh) (P : Pt V) (h0 : 0 ≤ o) (h1 : o ≤ 8) : To_judgeEnd 67 2 o u (sh, V) = some (0, (sh, if cBet V o u then cpV (upV (upV V 67 1 (V 80 2)) 67 2 o) 69 0 68 0 o else V)) := by
  have k67 : (kS sh 67).1 = 5 := by rw [k_67 H]
  have k80 : (kS sh 80).1 = 6 := by rw [k_80 H]
  unfold To_judgeEnd
  rw [bgt k67, q_67_7 P, bgt k80, bgt (by rw [k_2 H]), q_2_0 P, bgt (by rw [k_3 H])]
  by_cases a1 : V 80 0 = V 3 1
  · rw [if_pos a1, bgt k67, bgt k67]
    by_cases a2 : and32 u (V 67 8) = V 67 8
    · have go : bd (some (1 : Int)) (fun (y8 : Int) => if y8 = 0 then some ((0 : Int), ((sh, V) : Mem)) else bd (getf 5 7 (sh, V) 67) fun x16 => bd (getf 6 2 (sh, V) x16) fun x17 => bd (putf 5 1 (sh, V) 67 x17) fun μ18 => bd (putf 5 2 μ18 67 o) fun μ19 => bd (getf 5 4 μ19 67) fun x20 => bd (getf 5 3 μ19 67) fun x21 => bd (acopy 20 μ19 x20 0 x21 0 o) fun μ22 => some ((0 : Int), μ22)) = some (0, (sh, cpV (upV (upV V 67 1 (V 80 2)) 67 2 o) 69 0 68 0 o)) := by
        rw [bd_mk, if_neg (by decide), bgt k67, q_67_7 P, bgt k80, bpt k67, bpt k67, bgt k67, up_col (by decide), up_col (by decide), q_67_4 P, bgt k67, up_col (by decide), up_col (by decide), q_67_3 P, acopy_ok (by rw [k_69 H]) (by rw [k_68 H]) (by decide) h0 (by decide) (by rw [k_69 H]; show 0 + o ≤ 8; omega) (by rw [k_68 H]; show 0 + o ≤ 8; omega), bd_mk]
      rw [if_pos a2, bgt k67, bgt k67, q_67_7 P, bgt k80, bgt k67, bgt k67, q_67_7 P, bgt k80, bgt k67, bgt k67]
      by_cases a3 : V 67 2 = -1
      · rw [if_pos a3, if_pos (⟨a1, a2, Or.inl a3⟩ : cBet V o u)]; exact go
      · rw [if_neg a3]
        by_cases a4 : V 67 1 < V 80 2
        · rw [if_pos a4, if_pos (⟨a1, a2, Or.inr (Or.inl a4)⟩ : cBet V o u)]; exact go
        · rw [if_neg a4]
          by_cases a5 : V 80 2 = V 67 1
          · rw [if_pos a5]
            by_cases a6 : o < V 67 2
            · rw [if_pos a6, if_pos (⟨a1, a2, Or.inr (Or.inr ⟨a5, a6⟩)⟩ : cBet V o u)]; exact go
            · rw [if_neg a6, if_neg (c := cBet V o u) (fun g => by rcases g.2.2 with g | g | g <;> omega)]; rfl
          · rw [if_neg a5, if_neg (c := cBet V o u) (fun g => by rcases g.2.2 with g | g | g <;> omega)]; rfl
    · rw [if_neg a2, if_neg (c := cBet V o u) (fun g => a2 g.2.1)]
  · rw [if_neg a1, if_neg (c := cBet V o u) (fun g => a1 g.1)]
theorem judgeEnd_b (H : Sh sh) (P : Pt V) (h0 : 0 ≤ o) (h1 : o ≤ 8) {γ : Type} {fZ : Int → Mem → Option γ} : bd2 (To_judgeEnd 67 2 o u (sh, V)) fZ = fZ (0) (sh, if cBet V o u then cpV (upV (upV V 67 1 (V 80 2)) 67 2 o) 69 0 68 0 o else V) := by
  rw [judgeEnd_eq] <;> first | assumption | rfl
/-- the reference has a better end -/
abbrev mBet (V : Int → Int → Int) (S : Int → Int) (i o wt u : Int) : Prop := and32 wt (xor32 u (-1)) = 0 ∧ S (153 + i) = S 1 ∧ (V 101 30 = -1 ∨ V 101 31 < w32 (S (165 + i) - V 101 32) ∨ (w32 (S (165 + i) - V 101 32) = V 101 31 ∧ o < V 101 30))
theorem tcopy {rc : Int → Int → Int → Int → Int → Int → Mem → Option (Int × Mem)} {kk : Int → Int → Int → Int → Int → Int → Mem → Option (Int × Mem)} {v2 v3 v5 : Int} (H : Sh sh) (P : PM V) {O : Nat} (o1 : O ≤ 8) : ∀ (n z : Nat) (R : Int → Int), z ≤ O → O - z < n → (∀ k : Int, 0 ≤ k → k < z → R k = V 112 k) → ∃ R', M_tries_L94 rc kk n 101 i v2 v3 O v5 z (sh, setR (setR V 113 R) 102 S) = kk 101 i v2 v3 O v5 (sh, setR (setR V 113 R') 102 S) ∧ ∀ k : Int, 0 ≤ k → k < O → R' k = V 112 k := by
  intro n
  induction n with
  | zero => intro z _ _ h; omega
  | succ n ih =>
    intro z R hz hn hR
    rw [M_tries_L94]
    by_cases h : (z : Int) < O
    · obtain ⟨R', e, q⟩ := ih (z + 1) (up R z (V 112 z)) (by omega) (by omega) (fun k g0 g1 => by
        by_cases e : k = z
        · rw [e, upS_eq]
        · rw [upS_ne e]; exact hR k g0 (by omega))
      refine ⟨R', ?_, q⟩
      have g27 : setR V 113 R 101 27 = 113 := by rw [setR_ne (by decide)]; exact q_101_27 P
      have g26 : setR V 113 R 101 26 = 112 := by rw [setR_ne (by decide)]; exact q_101_26 P
      rw [if_pos h, bg101 H, g27, bg101 H, g26, ml112 H (by omega) (by omega), setR_ne (by decide), ms113 H (by omega) (by omega), up_setR, w32_id (by omega) (by omega)]
      exact e
    · rw [if_neg h]
      exact ⟨R, rfl, fun k g0 g1 => hR k g0 (by omega)⟩
theorem J79_ok {rc : Int → Int → Int → Int → Int → Int → Mem → Option (Int × Mem)} {kk : Int → Int → Int → Int → Int → Int → Mem → Option (Int × Mem)} {v2 v3 v5 v6 : Int} (H : Sh sh) (P : PM V) {O : Nat} (o1 : O ≤ 8) : ∃ R', M_tries_J79 rc kk 101 i v2 v3 O v5 v6 (sh, setR V 102 S) = kk 101 i v2 v3 O v5 (sh, setR (setR (upV (upV V 101 30 O) 101 31 v6) 113 R') 102 S) ∧ ∀ k : Int, 0 ≤ k → k < O → R' k = V 112 k := by
  have P1 : PM (upV (upV V 101 30 O) 101 31 v6) := by rw [PM_fld (by decide), PM_fld (by decide)]; exact P
  obtain ⟨R', e, q⟩ := tcopy (S := S) (i := i) (rc := rc) (kk := kk) (v2 := v2) (v3 := v3) (v5 := v5) H P1 o1 FU 0 (upV (upV V 101 30 O) 101 31 v6 113) (by omega) (by show _ < 1000000; omega) (fun k g0 g1 => by omega)
  have es : ∀ W : Int → Int → Int, setR W 113 (W 113) = W := fun W => by funext x y; unfold setR; split <;> simp [*]
  rw [es] at e
  refine ⟨R', ?_, fun k g0 g1 => by rw [q k g0 g1, up_row (by decide), up_row (by decide)]⟩
  unfold M_tries_J79
  rw [bp101 H, bp101 H]
  exact e
theorem thead {dp : Nat} {wt mo : Int} (H : Sh sh) (P : PM V) (h0 : 0 ≤ i) (h6 : i < 6) {O : Nat} (o1 : O ≤ 8) : ∃ V', M_tries (dp + 1) 101 i wt u O mo (sh, setR V 102 S) = M_tries_L124 (fun a0 a1 a2 a3 a4 a5 μ => M_tries dp a0 a1 a2 a3 a4 a5 μ) FU 101 i wt u O mo 0 (sh, setR V' 102 S) ∧ (mBet V S i O wt u → V' 101 30 = O ∧ V' 101 31 = w32 (S (165 + i) - V 101 32) ∧ ∀ k : Int, 0 ≤ k → k < O → V' 113 k = V 112 k) ∧ (¬ mBet V S i O wt u → V' = V) ∧ ∀ a j, a ≠ 113 → ¬ (a = 101 ∧ (j = 30 ∨ j = 31)) → V' a j = V a j := by
  have no : ¬ mBet V S i O wt u → ∃ V', M_tries_L124 (fun a0 a1 a2 a3 a4 a5 μ => M_tries dp a0 a1 a2 a3 a4 a5 μ) FU 101 i wt u O mo 0 (sh, setR V 102 S) = M_tries_L124 (fun a0 a1 a2 a3 a4 a5 μ => M_tries dp a0 a1 a2 a3 a4 a5 μ) FU 101 i wt u O mo 0 (sh, setR V' 102 S) ∧ (mBet V S i O wt u → V' 101 30 = O ∧ V' 101 31 = w32 (S (165 + i) - V 101 32) ∧ ∀ k : Int, 0 ≤ k → k < O → V' 113 k = V 112 k) ∧ (¬ mBet V S i O wt u → V' = V) ∧ ∀ a j, a ≠ 113 → ¬ (a = 101 ∧ (j = 30 ∨ j = 31)) → V' a j = V a j := fun h => ⟨V, rfl, fun g => absurd g h, fun _ => rfl, fun _ _ _ _ => rfl⟩
  have yes : mBet V S i O wt u → ∃ V', M_tries_J79 (fun a0 a1 a2 a3 a4 a5 μ => M_tries dp a0 a1 a2 a3 a4 a5 μ) (fun x10 x11 x12 x13 x14 x15 μ16 => M_tries_L124 (fun a0 a1 a2 a3 a4 a5 μ => M_tries dp a0 a1 a2 a3 a4 a5 μ) FU x10 x11 x12 x13 x14 x15 0 μ16) 101 i wt u O mo (w32 (S (165 + i) - V 101 32)) (sh, setR V 102 S) = M_tries_L124 (fun a0 a1 a2 a3 a4 a5 μ => M_tries dp a0 a1 a2 a3 a4 a5 μ) FU 101 i wt u O mo 0 (sh, setR V' 102 S) ∧ (mBet V S i O wt u → V' 101 30 = O ∧ V' 101 31 = w32 (S (165 + i) - V 101 32) ∧ ∀ k : Int, 0 ≤ k → k < O → V' 113 k = V 112 k) ∧ (¬ mBet V S i O wt u → V' = V) ∧ ∀ a j, a ≠ 113 → ¬ (a = 101 ∧ (j = 30 ∨ j = 31)) → V' a j = V a j := fun h => by
    obtain ⟨R', e, q⟩ := J79_ok (S := S) (i := i) (rc := fun a0 a1 a2 a3 a4 a5 μ => M_tries dp a0 a1 a2 a3 a4 a5 μ) (kk := fun x10 x11 x12 x13 x14 x15 μ16 => M_tries_L124 (fun a0 a1 a2 a3 a4 a5 μ => M_tries dp a0 a1 a2 a3 a4 a5 μ) FU x10 x11 x12 x13 x14 x15 0 μ16) (v2 := wt) (v3 := u) (v5 := mo) (v6 := w32 (S (165 + i) - V 101 32)) H P o1
    refine ⟨_, e, fun _ => ⟨?_, ?_, fun k g0 g1 => ?_⟩, fun g => absurd h g, fun a j a1 a2 => ?_⟩
    · rw [setR_ne (by decide), up_col (by decide), up_eq]
    · rw [setR_ne (by decide), up_eq]
    · rw [setR_at]; exact q k g0 g1
    · rw [setR_ne a1]; unfold upV; rw [if_neg (by omega), if_neg (by omega)]
  rw [M_tries]
  by_cases a1 : and32 wt (xor32 u (-1)) = 0
  · rw [if_pos a1, bg101 H, w32_id (x := 153 + i) (by omega) (by omega), blp P H (by omega) (by omega), bg101 H, blp P H (by omega) (by omega)]
    by_cases a2 : S (153 + i) = S 1
    · rw [if_pos a2, bg101 H, w32_id (x := 165 + i) (by omega) (by omega), blp P H (by omega) (by omega), bg101 H, bd_mk, bg101 H]
      by_cases a3 : V 101 30 = -1
      · rw [if_pos a3]; exact yes ⟨a1, a2, Or.inl a3⟩
      · rw [if_neg a3, bg101 H]
        by_cases a4 : V 101 31 < w32 (S (165 + i) - V 101 32)
        · rw [if_pos a4]; exact yes ⟨a1, a2, Or.inr (Or.inl a4)⟩
        · rw [if_neg a4, bg101 H]
          by_cases a5 : w32 (S (165 + i) - V 101 32) = V 101 31
          · rw [if_pos a5, bg101 H]
            by_cases a6 : (O : Int) < V 101 30
            · rw [if_pos a6]; exact yes ⟨a1, a2, Or.inr (Or.inr ⟨a5, a6⟩)⟩
            · rw [if_neg a6]; exact no (fun g => by rcases g.2.2 with g | g | g <;> omega)
          · rw [if_neg a5]; exact no (fun g => by rcases g.2.2 with g | g | g <;> omega)
    · rw [if_neg a2]; exact no (fun g => a2 g.2.1)
  · rw [if_neg a1]; exact no (fun g => a1 g.1)
end THR4
