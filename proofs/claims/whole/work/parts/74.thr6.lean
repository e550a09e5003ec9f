/-! PURE: through; when too many are tried -/
section THR6
variable {sh : List (Nat × Nat)} {V V' V1 V2 V2' : Int → Int → Int} {r t m s c i j d k x a b y D D' f p w bk v tb q e e' E o u : Int} {S S' S'' R : Int → Int} {n : Nat} {ρ : Nat → Int}
/-- the class's memory behind judgeEnd -/
def jE (V : Int → Int → Int) (o u : Int) : Int → Int → Int := if cBet V o u then cpV (upV (upV V 67 1 (V 80 2)) 67 2 o) 69 0 68 0 o else V
theorem jE_fr (h1 : a ≠ 68) (h2 : ¬ (a = 67 ∧ (j = 1 ∨ j = 2))) : jE V o u a j = V a j := by
  unfold jE
  split
  · unfold cpV upV; rw [if_neg (fun g => h1 g.1), if_neg (by omega), if_neg (by omega)]
  · rfl
theorem Pt_jE (P : Pt V) : Pt (jE V o u) := fun q hq => by
  have h1 : ∀ q ∈ ptC, q.1 ≠ 68 ∧ ¬ (q.1 = 67 ∧ (q.2.1 = 1 ∨ q.2.1 = 2)) := by decide
  rw [jE_fr (h1 q hq).1 (h1 q hq).2]; exact P q hq
theorem explore_full {dp : Nat} (H : Sh sh) (P : Pt V) (h0 : 0 ≤ o) (h1 : o ≤ 8) (ht : 0 ≤ V 80 0) (ht' : V 80 0 < 12) (hf : 100000 < V 67 0) : To_explore (dp + 1) 67 2 o u (sh, V) = some (0, (sh, jE V o u)) := by
  have k67 : (kS sh 67).1 = 5 := by rw [k_67 H]
  have P' := Pt_jE (o := o) (u := u) P
  have hj : To_judgeEnd 67 2 o u (sh, V) = some (0, (sh, jE V o u)) := judgeEnd_eq H P h0 h1
  rw [To_explore, bit k67, hj, bd2_mk, bgt k67]
  split
  · have e80 : jE V o u 80 0 = V 80 0 := jE_fr (by decide) (by omega)
    rw [bgt k67, q_67_5 P', bgt k67, q_67_7 P', bgt (by rw [k_80 H]), e80, blt (by rw [k_70 H]) ht (by rw [k_70 H]; exact ht')]
    have e : FU = 999999 + 1 := rfl
    rw [e, To_explore_L33, bgt (by rw [k_2 H]), q_2_0 P', bgt (by rw [k_3 H])]
    split
    · rw [bgt k67, jE_fr (by decide) (by omega), if_pos hf]
    · rfl
  · rfl
end THR6
