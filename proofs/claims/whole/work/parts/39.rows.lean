/-! PURE: numbers, write, copy -/
section ROWS
variable {sh : List (Nat × Nat)} {V V' V1 V2 V2' : Int → Int → Int} {r t m s c i j d k x a b y D f p w : Int} {S S' R : Int → Int} {n : Nat}
/-- a call that changes rows of numbers alone -/
def RR (sh : List (Nat × Nat)) (V V2 : Int → Int → Int) (S : Int → Int) (o1 o2 : Option (Int × Mem)) : Prop := ∃ y V1 V2', o1 = some (y, (sh, V1)) ∧ o2 = some (y, (sh, setR V2' 102 S)) ∧ RW V1 V2' ∧ Pt V1 ∧ (∀ a j, a < 93 ∨ 101 ≤ a → V1 a j = V a j) ∧ ∀ a j, ¬ MSc a j → ¬ (128 ≤ a ∧ a ≤ 130) → V2' a j = V2 a j
theorem RR_same (hR : RW V V2) (P : Pt V) (y : Int) : RR sh V V2 S (some (y, (sh, V))) (some (y, (sh, setR (upV V2 101 0 0) 102 S))) :=
  ⟨y, V, upV V2 101 0 0, rfl, rfl, fun w h0 h1 => RW1_congr (hR w h0 h1) (fun _ => rfl) (fun _ => rfl) (up_row (by decide)) (up_row (by decide)) (fun _ _ _ => up_row (by decide)), P, fun _ _ _ => rfl, fun a j q _ => FM0 a j q⟩
theorem Pt_nu (h0 : 0 ≤ w) (h1 : w < 4) (hk : k ≠ 0) : Pt (upV V (93 + 2 * w) k x) = Pt V := by
  have hx : ∀ q ∈ ptC, (q.1 = 93 ∨ q.1 = 95 ∨ q.1 = 97 ∨ q.1 = 99) → q.2.1 = 0 := by decide
  apply propext
  constructor
  · intro P q hq; have := P q hq; unfold upV at this; rw [if_neg (fun e => hk (by rw [← e.2]; exact hx q hq (by omega)))] at this; exact this
  · intro P q hq; unfold upV; rw [if_neg (fun e => hk (by rw [← e.2]; exact hx q hq (by omega)))]; exact P q hq
theorem fillV_set : fillV V a x p = setR V a (fun j => if 0 ≤ j ∧ j < p then x else V a j) := by
  funext b j; unfold fillV setR
  by_cases h : b = a
  · subst h
    by_cases q : 0 ≤ j ∧ j < p
    · rw [if_pos ⟨rfl, q⟩, if_pos rfl]; exact (if_pos q).symm
    · rw [if_neg (fun z => q z.2), if_pos rfl]; exact (if_neg q).symm
  · rw [if_neg (fun q => h q.1), if_neg h]
def fillO (V : Int → Int → Int) (a o x n : Int) : Int → Int → Int := fun b j => if b = a ∧ o ≤ j ∧ j < o + n then x else V b j
theorem fillO_s (z : Nat) : upV (fillO V a b x z) a (b + z) x = fillO V a b x ((z + 1 : Nat) : Int) := by
  funext c j; unfold upV fillO
  by_cases h : c = a
  · by_cases h' : j = b + z
    · rw [if_pos ⟨h, h'⟩, if_pos ⟨h, by omega, by omega⟩]
    · rw [if_neg (fun q => h' q.2)]
      by_cases q : b ≤ j ∧ j < b + z
      · rw [if_pos ⟨h, q⟩, if_pos ⟨h, by omega⟩]
      · rw [if_neg (fun z => q z.2), if_neg (by omega)]
  · rw [if_neg (fun q => h q.1), if_neg (fun q => h q.1), if_neg (fun q => h q.1)]
theorem num_M (H : Sh sh) (P : PM V) (h0 : 0 ≤ w) (h1 : w < 4) {c : Nat} (hc : c ≤ 40) : ∀ (n z : Nat), z ≤ c → c - z < n → M_numbers_L64 n 101 w (c : Int) (z : Int) (sh, setR (fillO V 130 (40 * w) 0 z) 102 S) = some (0, (sh, setR (fillO V 130 (40 * w) 0 c) 102 S)) := by
  intro n
  induction n with
  | zero => intro z _ h; omega
  | succ n ih =>
    intro z hz hn
    have e : fillO V 130 (40 * w) 0 z 101 51 = 130 := by unfold fillO; rw [if_neg (by omega)]; exact q_101_51 P
    rw [M_numbers_L64]
    by_cases h : (z : Int) < (c : Int)
    · rw [if_pos h, bg101 H, e, w32_id (x := 40 * w) (by omega) (by omega), w32_id (x := 40 * w + z) (by omega) (by omega), ms130 H (by omega) (by omega), fillO_s, w32_id (by omega) (by omega)]
      exact ih (z + 1) (by omega) (by omega)
    · have : z = c := by omega
      rw [if_neg h, this]
theorem rr_numbers (H : Sh sh) (P : Pt V) (PM' : PM V2) (hR : RW V V2) : RR sh V V2 S (T_numbers 0 w s k (sh, V)) (M_numbers 101 w s k (sh, setR V2 102 S)) := by
  have P1 := PM0 PM'
  unfold T_numbers M_numbers
  rw [bp101 H, T_isRow_b, M_within_b]
  by_cases h : 0 ≤ w ∧ w < 4
  · rw [B_t h, B_t (by omega : 0 ≤ w ∧ w ≤ 3), if_neg (c := (1 : Int) = 0) (by decide), if_neg (c := (1 : Int) = 0) (by decide), M_within_b]
    by_cases g : 0 ≤ s ∧ s ≤ 3
    · rw [B_t g, if_neg (c := (1 : Int) = 0) (by decide), if_neg (c := s < 0) (by omega), if_neg (c := 3 < s) (by omega), M_within_b]
      by_cases q : 0 ≤ k ∧ k ≤ 40
      · rw [B_t q, if_neg (c := (1 : Int) = 0) (by decide), if_neg (c := k < 0) (by omega), if_neg (c := 40 < k) (by omega)]
        obtain ⟨c, rfl⟩ := Int.eq_ofNat_of_zero_le q.1
        have hk := k_row H h.1 h.2
        have kk : (kS sh (93 + 2 * w)).1 = 2 := by rw [hk.1]
        refine ⟨0, fillV (upV (upV (upV V (93 + 2 * w) 2 0) (93 + 2 * w) 3 s) (93 + 2 * w) 1 c) (94 + 2 * w) 0 40, fillO (upV (upV (upV V2 101 0 0) 128 w s) 129 w c) 130 (40 * w) 0 c, ?_, ?_, ?_, ?_, ?_, ?_⟩
        · rw [bgt (by rw [k_0 H]), q_0_6 P, b36w H P h.1 h.2, bit kk]
          unfold Nu_renew
          rw [bpt kk, bpt kk, bpt kk, bgt kk, up_col (by decide), up_col (by decide), up_col (by decide), (q_row P h.1 h.2).2]
          have := J_fillJ_b (V := upV (upV (upV V (93 + 2 * w) 2 0) (93 + 2 * w) 3 s) (93 + 2 * w) 1 c) (x := 0) (fZ := fun _ μ6 => some ((0 : Int), μ6)) hk.2 (by decide)
          rw [show (((40 : Nat) : Int)) = 40 from rfl] at this
          rw [this, bd2_mk]
        · have P3 : PM (upV (upV (upV V2 101 0 0) 128 w s) 129 w c) := by rw [PM_row (by decide), PM_row (by decide)]; exact P1
          rw [bg101 H, q_101_49 P1, ms128 H h.1 h.2, bg101 H, up_row (by decide), q_101_50 P1, ms129 H h.1 h.2]
          have := num_M (S := S) H P3 h.1 h.2 (c := c) (by omega) FU 0 (by omega) (by show _ < 1000000; omega)
          rw [show ((0 : Nat) : Int) = 0 from rfl, show fillO (upV (upV (upV V2 101 0 0) 128 w s) 129 w c) 130 (40 * w) 0 0 = upV (upV (upV V2 101 0 0) 128 w s) 129 w c by funext b j; unfold fillO; rw [if_neg (by omega)]] at this
          exact this
        · intro v v0 v1
          by_cases e : v = w
          · subst e
            refine Or.inr ⟨?_, ?_, ?_, ?_, ?_, fun z z0 z1 => ?_⟩
            · unfold fillO; rw [if_neg (by omega), up_row (by decide), up_eq]; exact g
            · unfold fillV; rw [if_neg (by omega), up_col (by decide), up_col (by decide), up_eq]
            · unfold fillV fillO; rw [if_neg (by omega), if_neg (by omega), up_col (by decide), up_eq, up_row (by decide), up_eq]
            · unfold fillV fillO; rw [if_neg (by omega), if_neg (by omega), up_eq, up_eq]
            · unfold fillO; rw [if_neg (by omega), up_eq]; omega
            · unfold fillO at z1; rw [if_neg (by omega), up_eq] at z1
              unfold fillV fillO; rw [if_pos ⟨rfl, z0, by omega⟩, if_pos ⟨rfl, by omega, by omega⟩]
          · refine RW1_congr (hR v v0 v1) (fun j => ?_) (fun j => ?_) ?_ ?_ (fun z z0 z1 => ?_)
            · unfold fillV; rw [if_neg (by omega), up_row (by omega), up_row (by omega), up_row (by omega)]
            · unfold fillV; rw [if_neg (by omega), up_row (by omega), up_row (by omega), up_row (by omega)]
            · unfold fillO; rw [if_neg (by omega), up_row (by decide), up_col e, up_row (by decide)]
            · unfold fillO; rw [if_neg (by omega), up_col e, up_row (by decide), up_row (by decide)]
            · unfold fillO; rw [if_neg (by omega), up_row (by decide), up_row (by decide), up_row (by decide)]
        · rw [fillV_set, Pt_set H (by rw [hk.2]; decide), Pt_nu h.1 h.2 (by decide), Pt_nu h.1 h.2 (by decide), Pt_nu h.1 h.2 (by decide)]; exact P
        · intro a j q; unfold fillV; rw [if_neg (by omega), up_row (by omega), up_row (by omega), up_row (by omega)]
        · intro a j q q'; unfold fillO; rw [if_neg (by omega), up_row (by omega), up_row (by omega)]; exact FM0 a j q
      · rw [B_f q, if_pos (c := (0 : Int) = 0) rfl]
        by_cases q' : k < 0
        · rw [if_pos q']; exact RR_same hR P _
        · rw [if_neg q', if_pos (by omega)]; exact RR_same hR P _
    · rw [B_f g, if_pos (c := (0 : Int) = 0) rfl]
      by_cases q' : s < 0
      · rw [if_pos q']; exact RR_same hR P _
      · rw [if_neg q', if_pos (by omega)]; exact RR_same hR P _
  · rw [B_f h, B_f (by omega), if_pos (c := (0 : Int) = 0) rfl, if_pos (c := (0 : Int) = 0) rfl]; exact RR_same hR P _
/-- a number cut to a sort -/
def cutI (s x : Int) : Int := if s = 0 then w8 (w32 x) else if s = 1 then w16 (w32 x) else if s = 2 then w32 x else x
theorem Nu_put_eq (H : Sh sh) (P : Pt V) (h0 : 0 ≤ w) (h1 : w < 4) (h2 : 0 ≤ k) (h3 : k < 40) : Nu_put (93 + 2 * w) k x (sh, V) = some (0, (sh, upV V (94 + 2 * w) k (cutI (V (93 + 2 * w) 3) x))) := by
  have hq := (q_row P h0 h1).2
  unfold Nu_put cutI
  rw [bnf H h0 h1]
  simp only [↓bnf H h0 h1, hq, ↓bns H h0 h1 h2 h3]
  repeat' split
  all_goals rfl
theorem Nu_put_b (H : Sh sh) (P : Pt V) (h0 : 0 ≤ w) (h1 : w < 4) (h2 : 0 ≤ k) (h3 : k < 40) {γ : Type} {fZ : Int → Mem → Option γ} : bd2 (Nu_put (93 + 2 * w) k x (sh, V)) fZ = fZ (0) (sh, upV V (94 + 2 * w) k (cutI (V (93 + 2 * w) 3) x)) := by
  rw [Nu_put_eq] <;> first | assumption | rfl
theorem M_cut_eq {μ : Mem} : M_cut x s μ = some (cutI s x, μ) := by
  unfold M_cut cutI
  repeat' split
  all_goals rfl
theorem M_cut_b {μ : Mem} {γ : Type} {fZ : Int → Mem → Option γ} : bd2 (M_cut x s μ) fZ = fZ (cutI s x) μ := by
  rw [M_cut_eq] <;> first | assumption | rfl
theorem rr_write (H : Sh sh) (P : Pt V) (PM' : PM V2) (hR : RW V V2) : RR sh V V2 S (T_write 0 w k x (sh, V)) (M_write 101 w k x (sh, setR V2 102 S)) := by
  have P1 := PM0 PM'
  unfold T_write M_write
  rw [bp101 H, T_isRow_b, M_within_b]
  by_cases h : 0 ≤ w ∧ w < 4
  · rw [B_t h, B_t (by omega : 0 ≤ w ∧ w ≤ 3), if_neg (c := (1 : Int) = 0) (by decide), if_neg (c := (1 : Int) = 0) (by decide), bgt (by rw [k_0 H]), q_0_6 P, b36w H P h.1 h.2, bnf H h.1 h.2, bg101 H, q_101_49 P1, ml128 H h.1 h.2, up_row (by decide)]
    have hk := k_row H h.1 h.2
    have hq := q_row P h.1 h.2
    rcases hR w h.1 h.2 with ⟨e1, e2⟩ | ⟨e1, e2, e3, e4, e5, e6⟩
    · rw [e1, e2, if_neg (by decide), if_pos rfl]; exact RR_same hR P _
    · rw [e2, if_pos (c := (0 : Int) = 0) rfl, if_neg (c := V2 128 w = -1) (by omega), bg101 H, q_101_50 P1, ml129 H h.1 h.2, up_row (by decide), M_within_b, bnf H h.1 h.2, e4, w32_id (by omega) (by omega)]
      by_cases g : 0 ≤ k ∧ k < V2 129 w
      · rw [if_neg (c := k < 0) (by omega), if_pos (c := k < V2 129 w) g.2, B_t (by omega), if_neg (c := (1 : Int) = 0) (by decide)]
        have P4 : Pt (upV V (94 + 2 * w) k (cutI (V2 128 w) x)) := by rw [Pt_k H (by rw [hk.2]; decide)]; exact P
        refine ⟨cutI (V2 128 w) x, upV V (94 + 2 * w) k (cutI (V2 128 w) x), upV (upV V2 101 0 0) 130 (40 * w + k) (cutI (V2 128 w) x), ?_, ?_, ?_, P4, ?_, ?_⟩
        · rw [bni H h.1 h.2, Nu_put_b H P h.1 h.2 g.1 (by omega), e3, bnf H h.1 h.2, (q_row P4 h.1 h.2).2, bnl H h.1 h.2 g.1 (by omega), up_eq]
        · rw [bg101 H, bg101 H, q_101_49 P1, ml128 H h.1 h.2, up_row (by decide), M_cut_b, q_101_51 P1, w32_id (x := 40 * w) (by omega) (by omega), w32_id (by omega) (by omega), ms130 H (by omega) (by omega), bg101 H, up_row (by decide), q_101_51 P1, ml130 H (by omega) (by omega), up_eq]
        · intro v v0 v1
          by_cases e : v = w
          · subst e
            refine Or.inr ⟨?_, ?_, ?_, ?_, ?_, fun z z0 z1 => ?_⟩
            · rw [up_row (by decide), up_row (by decide)]; exact e1
            · rw [up_row (by omega)]; exact e2
            · rw [up_row (by omega), up_row (by decide), up_row (by decide)]; exact e3
            · rw [up_row (by omega), up_row (by decide), up_row (by decide)]; exact e4
            · rw [up_row (by decide), up_row (by decide)]; exact e5
            · rw [up_row (by decide), up_row (by decide)] at z1
              by_cases ez : z = k
              · subst ez; rw [up_eq, up_eq]
              · rw [up_col ez, up_col (by omega), up_row (by decide)]; exact e6 z z0 z1
          · exact RW1_congr (hR v v0 v1) (fun j => up_row (by omega)) (fun j => up_row (by omega)) (by rw [up_row (by decide), up_row (by decide)]) (by rw [up_row (by decide), up_row (by decide)]) (fun z z0 z1 => by rw [up_col (by omega), up_row (by decide)])
        · intro a j q; rw [up_row (by omega)]
        · intro a j q q'; rw [up_row (by omega)]; exact FM0 a j q
      · rw [B_f (by omega), if_pos (c := (0 : Int) = 0) rfl]
        by_cases q' : k < 0
        · rw [if_pos q']; exact RR_same hR P _
        · rw [if_neg q', if_neg (by omega)]; exact RR_same hR P _
  · rw [B_f h, B_f (by omega), if_pos (c := (0 : Int) = 0) rfl, if_pos (c := (0 : Int) = 0) rfl]; exact RR_same hR P _
theorem cut_small : ∀ s : Fin 4, ∀ x : Fin 48, cutI (s.val : Int) (x.val : Int) = (x.val : Int) := by decide +kernel
theorem cut_sm (h0 : 0 ≤ s) (h1 : s ≤ 3) (h2 : 0 ≤ x) (h3 : x < 48) : cutI s x = x := by
  have := cut_small ⟨s.toNat, by omega⟩ ⟨x.toNat, by omega⟩
  simp only [Int.toNat_of_nonneg h0, Int.toNat_of_nonneg h2] at this
  exact this
theorem copy_L (X : Cx sh V S D) (PM' : PM V2) (hR : RW V V2) (h0 : 0 ≤ i) (h1 : i < S 152) (g0 : 0 ≤ w) (g1 : w < 4) (hs : 0 ≤ V2 128 w ∧ V2 128 w ≤ 3) (hn' : S (171 + i) ≤ V2 129 w) (hn2 : V2 129 w ≤ 40) : ∀ (n z : Nat) (V1 V3 : Int → Int → Int), (z : Int) ≤ S (171 + i) → (S (171 + i)).toNat - z < n → RW V1 V3 → Pt V1 → (∀ a j, a < 93 ∨ 101 ≤ a → V1 a j = V a j) → (∀ a j, ¬ MSc a j → ¬ a = 130 → V3 a j = V2 a j) → V1 (93 + 2 * w) = V (93 + 2 * w) → V (93 + 2 * w) 3 = V2 128 w → ∃ V1' V3', T_copy_L68 n (11 + 4 * i) (93 + 2 * w) z (sh, V1) = some (S (171 + i), (sh, V1')) ∧ M_copy_L65 n 101 i w z (sh, setR V3 102 S) = some (S (171 + i), (sh, setR V3' 102 S)) ∧ RW V1' V3' ∧ Pt V1' ∧ (∀ a j, a < 93 ∨ 101 ≤ a → V1' a j = V a j) ∧ (∀ a j, ¬ MSc a j → ¬ a = 130 → V3' a j = V2 a j) := by
  have H := X.1
  obtain ⟨r1, r2, r3, r4, r5, r6, r7⟩ := Cx_rng X
  obtain ⟨t1, t2, t3, t4, t5, t6, t7⟩ := Cx_tr X h0 h1
  intro n
  induction n with
  | zero => intro z _ _ _ h; omega
  | succ n ih =>
    intro z V1 V3 hz hn hR1 hP1 hf1 hf3 hw he
    have P : PM V3 := by
      have hx : ∀ q ∈ ptM, ¬ MSc q.1 q.2.1 ∧ ¬ q.1 = 130 := by unfold MSc; decide
      exact fun q hq => (hf3 _ _ (hx q hq).1 (hx q hq).2).trans (PM' q hq)
    have X : Cx sh V1 S D := Cx_lo X (fun a j q => hf1 a j (by omega)) hP1
    rw [T_copy_L68, M_copy_L65]
    by_cases h : (z : Int) < S (171 + i)
    · have hz' := t7 z (by omega) h
      have hk := k_row H g0 g1
      have ec : cutI (V1 (93 + 2 * w) 3) (S (189 + (40 * i + z))) = S (189 + (40 * i + z)) := by rw [hw, he]; exact cut_sm hs.1 hs.2 hz'.1 (by omega)
      have hs3 : V3 128 w = V2 128 w := hf3 _ _ (by unfold MSc; omega) (by decide)
      have hn3 : V3 129 w = V2 129 w := hf3 _ _ (by unfold MSc; omega) (by decide)
      obtain ⟨V1', V3', q1, q2, q3⟩ := ih (z + 1) (upV V1 (94 + 2 * w) z (S (189 + (40 * i + z)))) (upV V3 130 (40 * w + z) (S (189 + (40 * i + z)))) (by omega) (by omega) (by
        intro v v0 v1
        by_cases e : v = w
        · subst e
          rcases hR1 v v0 v1 with ⟨e1, e2⟩ | ⟨e1, e2, e3, e4, e5, e6⟩
          · omega
          · refine Or.inr ⟨?_, ?_, ?_, ?_, ?_, fun u u0 u1 => ?_⟩
            · rw [up_row (by decide)]; exact e1
            · rw [up_row (by omega)]; exact e2
            · rw [up_row (by omega), up_row (by decide)]; exact e3
            · rw [up_row (by omega), up_row (by decide)]; exact e4
            · rw [up_row (by decide)]; exact e5
            · rw [up_row (by decide)] at u1
              by_cases ez : u = z
              · subst ez; rw [up_eq, up_eq]
              · rw [up_col ez, up_col (by omega)]; exact e6 u u0 u1
        · exact RW1_congr (hR1 v v0 v1) (fun j => up_row (by omega)) (fun j => up_row (by omega)) (up_row (by decide)) (up_row (by decide)) (fun u u0 u1 => up_col (by omega))) (by rw [Pt_k H (by rw [hk.2]; decide)]; exact hP1) (fun a j q => by rw [up_row (by omega)]; exact hf1 a j q) (fun a j q q' => by rw [up_row q']; exact hf3 a j q q') (by funext j; rw [up_row (by omega), hw]) he
      refine ⟨V1', V3', ?_, ?_, q3⟩
      · rw [bt5 X h0 h1, if_pos h, bm X h0 h1 (by omega) h, bni H g0 g1, Nu_put_b H hP1 g0 g1 (by omega) (by omega), ec, w32_id (by omega) (by omega)]; exact q1
      · simp (disch := first | assumption | omega | (simp (disch := first | omega | decide) only [w32_id, upS_eq, upS_ne, PM_row, PM_fld]; first | assumption | omega)) only [Int.reduceEq, Int.reduceLT, Int.reduceLE, Int.reduceAdd, Int.reduceSub, Int.reduceNeg, Int.reduceMul, ↓bd_mk, ↓bd2_mk, ↓bg101, ↓bp101, ↓bi101, ↓bl102, ↓bs102, ↓blp, ↓bsp, ↓bdiv, ↓brem, ↓bokz, ↓M_slipAt_b, ↓M_within_b, ↓ml103, ↓ms103, ↓ml104, ↓ms104, ↓ml105, ↓ms105, ↓ml106, ↓ms106, ↓ml107, ↓ms107, ↓ml108, ↓ms108, ↓ml109, ↓ms109, ↓ml110, ↓ms110, ↓ml111, ↓ms111, ↓ml112, ↓ms112, ↓ml113, ↓ms113, ↓ml114, ↓ms114, ↓ml115, ↓ms115, ↓ml116, ↓ms116, ↓ml117, ↓ms117, ↓ml118, ↓ms118, ↓ml119, ↓ms119, ↓ml120, ↓ms120, ↓ml121, ↓ms121, ↓ml122, ↓ms122, ↓ml123, ↓ms123, ↓ml124, ↓ms124, ↓ml125, ↓ms125, ↓ml126, ↓ms126, ↓ml127, ↓ms127, ↓ml128, ↓ms128, ↓ml129, ↓ms129, ↓ml130, ↓ms130, q_101_1 P, q_101_2 P, q_101_3 P, q_101_4 P, q_101_16 P, q_101_18 P, q_101_19 P, q_101_20 P, q_101_21 P, q_101_22 P, q_101_26 P, q_101_27 P, q_101_28 P, q_101_33 P, q_101_34 P, q_101_35 P, q_101_37 P, q_101_39 P, q_101_41 P, q_101_42 P, q_101_43 P, q_101_44 P, q_101_45 P, q_101_46 P, q_101_47 P, q_101_48 P, q_101_49 P, q_101_50 P, q_101_51 P, up_eq, up_row, up_col, ↓reduceIte, upS_eq, upS_ne, w32_id, w64_id, if_some2, B_0, B_1, okz_B, ite_not, h]; exact q2
    · refine ⟨V1, V3, ?_, ?_, hR1, hP1, hf1, hf3⟩
      · simp (disch := first | assumption | omega) only [↓b04 X, ↓b06 X, ↓b21 X, ↓b20 X, ↓b22 X, ↓b23 X, ↓b9 X, ↓bi2 X, ↓bi3 X, ↓b30 X, ↓b31 X, ↓b32 X, ↓b33 X, ↓b36 X, ↓b37 X, ↓b38 X, ↓b39 X, ↓b3a X, ↓b3b X, ↓b3c X, ↓bl4 X, ↓bl5 X, ↓bl6 X, ↓bl7 X, ↓bl8 X, ↓bt0 X, ↓bt1 X, ↓bt2 X, ↓bt3 X, ↓bt4 X, ↓bt5 X, ↓bit6 X, ↓bm X, ↓bs X, ↓bc X, ↓x_hasTr X, ↓x_hasRoad X, ↓x_isOpen X, ↓x_leads X, ↓x_markOf X, ↓x_startOf X, ↓x_endOf X, ↓x_isSummer X, ↓x_tollOn X, ↓x_isLate X, ↓x_worthOn X, ↓x_hasTown X, ↓x_across X, ↓x_hasPair X, ↓bd_mk, ↓bd2_mk, ↓reduceIte, w32_id, B_0, B_1, ite_not, if_some2, h]
      · simp (disch := first | assumption | omega | (simp (disch := first | omega | decide) only [w32_id, upS_eq, upS_ne, PM_row, PM_fld]; first | assumption | omega)) only [Int.reduceEq, Int.reduceLT, Int.reduceLE, Int.reduceAdd, Int.reduceSub, Int.reduceNeg, Int.reduceMul, ↓bd_mk, ↓bd2_mk, ↓bg101, ↓bp101, ↓bi101, ↓bl102, ↓bs102, ↓blp, ↓bsp, ↓bdiv, ↓brem, ↓bokz, ↓M_slipAt_b, ↓M_within_b, ↓ml103, ↓ms103, ↓ml104, ↓ms104, ↓ml105, ↓ms105, ↓ml106, ↓ms106, ↓ml107, ↓ms107, ↓ml108, ↓ms108, ↓ml109, ↓ms109, ↓ml110, ↓ms110, ↓ml111, ↓ms111, ↓ml112, ↓ms112, ↓ml113, ↓ms113, ↓ml114, ↓ms114, ↓ml115, ↓ms115, ↓ml116, ↓ms116, ↓ml117, ↓ms117, ↓ml118, ↓ms118, ↓ml119, ↓ms119, ↓ml120, ↓ms120, ↓ml121, ↓ms121, ↓ml122, ↓ms122, ↓ml123, ↓ms123, ↓ml124, ↓ms124, ↓ml125, ↓ms125, ↓ml126, ↓ms126, ↓ml127, ↓ms127, ↓ml128, ↓ms128, ↓ml129, ↓ms129, ↓ml130, ↓ms130, q_101_1 P, q_101_2 P, q_101_3 P, q_101_4 P, q_101_16 P, q_101_18 P, q_101_19 P, q_101_20 P, q_101_21 P, q_101_22 P, q_101_26 P, q_101_27 P, q_101_28 P, q_101_33 P, q_101_34 P, q_101_35 P, q_101_37 P, q_101_39 P, q_101_41 P, q_101_42 P, q_101_43 P, q_101_44 P, q_101_45 P, q_101_46 P, q_101_47 P, q_101_48 P, q_101_49 P, q_101_50 P, q_101_51 P, up_eq, up_row, up_col, ↓reduceIte, upS_eq, upS_ne, w32_id, w64_id, if_some2, B_0, B_1, okz_B, ite_not, h]
theorem rr_copy (X : Cx sh V S D) (PM' : PM V2) (hR : RW V V2) : RR sh V V2 S (T_copy 0 i w (sh, V)) (M_copy 101 i w (sh, setR V2 102 S)) := by
  have P1 := PM0 PM'
  have H := X.1
  have P := X.2.1
  obtain ⟨r1, r2, r3, r4, r5, r6, r7⟩ := Cx_rng X
  unfold T_copy M_copy
  rw [bp101 H, b04 X, bi2 X, x_hasTr X, bi101 H, M_isOne_b H P1 r5 r6]
  by_cases h : 0 ≤ i ∧ i < S 152
  · obtain ⟨t1, t2, t3, t4, t5, t6, t7⟩ := Cx_tr X h.1 h.2
    rw [B_t h, if_neg (c := (1 : Int) = 0) (by decide), if_neg (c := (1 : Int) = 0) (by decide), T_isRow_b, M_within_b]
    by_cases g : 0 ≤ w ∧ w < 4
    · rw [B_t g, B_t (by omega : 0 ≤ w ∧ w ≤ 3), if_neg (c := (1 : Int) = 0) (by decide), if_neg (c := (1 : Int) = 0) (by decide), b04 X, b21 X, b9 X h.1 h.2, b06 X, b36w H P g.1 g.2, bnf H g.1 g.2, bg101 H, q_101_49 P1, ml128 H g.1 g.2, up_row (by decide)]
      rcases id (hR w g.1 g.2) with ⟨e1, e2⟩ | ⟨e1, e2, e3, e4, e5, e6⟩
      · rw [e1, e2, if_neg (by decide), if_pos rfl]; exact RR_same hR P _
      · rw [e2, if_pos (c := (0 : Int) = 0) rfl, if_neg (c := V2 128 w = -1) (by omega), bg101 H, q_101_50 P1, ml129 H g.1 g.2, up_row (by decide), bnf H g.1 g.2, e4, bt5 X h.1 h.2, bg101 H, w32_id (x := 171 + i) (by omega) (by omega), blp P1 H (by omega) (by omega)]
        by_cases q : V2 129 w < S (171 + i)
        · rw [if_pos q, if_pos q]; exact RR_same hR P _
        · rw [if_neg q, if_neg q]
          have hR2 : RW V (upV V2 101 0 0) := fun w h0 h1 => RW1_congr (hR w h0 h1) (fun _ => rfl) (fun _ => rfl) (up_row (by decide)) (up_row (by decide)) (fun _ _ _ => up_row (by decide))
          obtain ⟨V1', V3', q1, q2, q3, q4, q5, q6⟩ := copy_L X PM' hR h.1 h.2 g.1 g.2 e1 (by omega) e5.2 FU 0 V (upV V2 101 0 0) (by omega) (by show _ < 1000000; omega) hR2 P (fun _ _ _ => rfl) (fun a j q _ => FM0 a j q) rfl e3
          exact ⟨S (171 + i), V1', V3', q1, q2, q3, q4, q5, fun a j z z' => q6 a j z (by omega)⟩
    · rw [B_f g, B_f (by omega), if_pos (c := (0 : Int) = 0) rfl, if_pos (c := (0 : Int) = 0) rfl]; exact RR_same hR P _
  · rw [B_f h, if_pos (c := (0 : Int) = 0) rfl, if_pos (c := (0 : Int) = 0) rfl]; exact RR_same hR P _
end ROWS
