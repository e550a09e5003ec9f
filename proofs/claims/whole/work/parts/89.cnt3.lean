/-! PURE: the class counts walks -/
section CNT3
variable {sh : List (Nat × Nat)} {V V' V1 V2 : Int → Int → Int} {r t i j k x b c D v3 : Int} {S : Int → Int} {n h p z q m s H0 M g st NN : Nat} {f w : Nat → Nat} {a : Nat → Nat}
/-- so many are the same from the first on -/
def SPx (f w : Nat → Nat) (H M s : Nat) : Prop := s ≤ H ∧ s ≤ M ∧ (∀ k, k < s → f k = w k) ∧ (s < H → s < M → f s ≠ w s)
theorem SPx_ex : ∃ s, SPx f w h m s := by
  have : ∀ n s, s ≤ h → s ≤ m → h - s < n → (∀ k, k < s → f k = w k) → ∃ s, SPx f w h m s := by
    intro n
    induction n with
    | zero => intro s _ _ q; omega
    | succ n ih =>
      intro s s1 s2 hn hs
      by_cases e : s < h ∧ s < m ∧ f s = w s
      · exact ih (s + 1) (by omega) (by omega) (by omega) (fun k hk => by
          by_cases q : k = s
          · rw [q]; exact e.2.2
          · exact hs k (by omega))
      · exact ⟨s, s1, s2, hs, fun a b q => e ⟨a, b, q⟩⟩
  exact this (h + 1) 0 (by omega) (by omega) (by omega) (fun k hk => by omega)
def dnL (f : Nat → Nat) (s : Nat) : Nat → List Nat
  | 0 => []
  | n + 1 => xr (f (s + n)) :: dnL f s n
def upL (w : Nat → Nat) : Nat → Nat → List Nat
  | _, 0 => []
  | s, n + 1 => w s :: upL w (s + 1) n
/-- the way from the held slips to the wanted ones -/
def wyL (f w : Nat → Nat) (H M s : Nat) : List Nat := dnL f s (H - s) ++ upL w s (M - s)
theorem dnL_len : ∀ n, (dnL f s n).length = n := by
  intro n
  induction n with
  | zero => rfl
  | succ n ih => rw [dnL, List.length_cons, ih]
theorem upL_len : ∀ n s, (upL w s n).length = n := by
  intro n
  induction n with
  | zero => intro s; rfl
  | succ n ih => intro s; rw [upL, List.length_cons, ih]
theorem PX_app : ∀ (l l' : List Nat) (n : Nat), PX S (l ++ l') n = cN (PX S l) (PX S l') n := by
  intro l
  induction l with
  | nil => intro l' n; rw [PX, cN_one]; rfl
  | cons v l ih =>
    intro l' n
    show cN (Gx S v) (PX S (l ++ l')) n = cN (cN (Gx S v) (PX S l)) (PX S l') n
    rw [cN_assoc]
    exact cN_congr (fun _ _ => rfl) (fun j _ => ih l' j)
theorem xor_xr (h : m < 48) : xor32 (m : Int) 1 = ((xr m : Nat) : Int) := by
  rw [xor1 (by omega) (by omega), xr_i]; rfl
theorem xr_lt (h : (m : Int) < 2 * S 7) : ((xr m : Nat) : Int) < 2 * S 7 := by unfold xr; split <;> omega
/-- the tables at darts -/
def Tg (V : Int → Int → Int) (S : Int → Int) (c : Int) (g : Nat) : Prop := ∀ m : Nat, (m : Int) < 2 * S 7 → ∀ j : Nat, j ≤ g → V 85 (21 * (m : Int) + j) = rC c (Gx S m j)
theorem hdn (H : Sh sh) (h7 : S 7 ≤ 24) (hg : g ≤ 20) : ∀ (n u : Nat) (V : Int → Int → Int) (a : Nat → Nat), Pt V → V 84 7 = c → u < n → s + u ≤ 40 → Tg V S c g → (∀ k : Nat, k < s + u → V 89 k = f k ∧ (f k : Int) < 2 * S 7) → (∀ j : Nat, j ≤ g → V 87 j = rC c (a j)) → ∃ V', (∀ kk, Ct_countFrom_L114 kk n 84 2 s g ((s : Int) + u - 1) (sh, V) = kk 84 2 s g (sh, V')) ∧ (∀ j : Nat, j ≤ g → V' 87 j = rC c (cN a (PX S (dnL f s u)) j)) ∧ ∀ a j, a ≠ 87 → V' a j = V a j := by
  have k84 : (kS sh 84).1 = 0 := by rw [k_84 H]
  intro n
  induction n with
  | zero => intro u _ _ _ _ h; omega
  | succ n ih =>
    intro u V a P hc hn hs T F A
    cases u with
    | zero =>
      refine ⟨V, fun kk => ?_, fun j hj => ?_, fun _ _ _ => rfl⟩
      · rw [Ct_countFrom_L114, if_pos (by omega)]
      · rw [A j hj, dnL, PX, cN_comm, cN_one]
    | succ u =>
      obtain ⟨f1, f2⟩ := F (s + u) (by omega)
      have xl := xr_lt (m := f (s + u)) f2
      obtain ⟨V1, e1, e2, e3⟩ := mul_ok (S := S) (m := xr (f (s + u))) (a := a) H P hc (by omega) hg (fun j hj => T _ xl j hj) A
      have P1 : Pt V1 := fun q hq => by
        have z : ∀ q ∈ ptC, q.1 ≠ 87 := by decide
        rw [e3 _ _ (z q hq)]; exact P q hq
      obtain ⟨V', g1, g2, g3⟩ := ih u V1 (cN a (Gx S (xr (f (s + u))))) P1 (by rw [e3 _ _ (by decide)]; exact hc) (by omega) (by omega) (fun m hm j hj => by rw [e3 _ _ (by decide)]; exact T m hm j hj) (fun k hk => by rw [e3 _ _ (by decide)]; exact F k (by omega)) e2
      refine ⟨V', fun kk => ?_, fun j hj => ?_, fun a j ha => by rw [g3 a j ha, e3 a j ha]⟩
      · rw [Ct_countFrom_L114, if_neg (by omega), bgt k84, q_84_4 P, show (s : Int) + ((u + 1 : Nat) : Int) - 1 = ((s + u : Nat) : Int) by omega, blt (by rw [k_89 H]) (by omega) (by rw [k_89 H]; show _ < (40 : Int); omega), f1, bit k84, xor_xr (by omega), e1, bd2_mk, w32_id (by omega) (by omega), show ((s + u : Nat) : Int) + -1 = (s : Int) + u - 1 by omega]
        exact g1 kk
      · rw [g2 j hj, dnL, cN_assoc]; rfl
/-- all wanted from k on are open -/
def allO (S : Int → Int) (w : Nat → Nat) (k M : Nat) : Prop := ∀ j, k ≤ j → j < M → S (128 + ((w j / 2 : Nat) : Int)) = 0
theorem hup [inst : ∀ k, Decidable (allO S w k M)] (hg : g ≤ 20) (hM : M ≤ 40) : ∀ (n k : Nat) (V : Int → Int → Int) (a : Nat → Nat), Cx sh V S D → V 84 7 = c → V 84 5 = M → k ≤ M → M - k < n → Tg V S c g → (∀ k : Nat, k < M → V 88 k = w k ∧ (w k : Int) < 2 * S 7) → (∀ j : Nat, j ≤ g → V 87 j = rC c (a j)) → ∃ V', Ct_countFrom_L146 n 84 2 g k (sh, V) = some (rC c (if allO S w k M then cN a (PX S (upL w k (M - k))) g else 0), (sh, V')) ∧ ∀ a j, a ≠ 87 → V' a j = V a j := by
  intro n
  induction n with
  | zero => intro k _ _ _ _ _ _ h; omega
  | succ n ih =>
    intro k V a X hc h5 hk hn T F A
    have H := X.1
    have P := X.2.1
    have k84 : (kS sh 84).1 = 0 := by rw [k_84 H]
    obtain ⟨r1, r2, r3, r4, r5, r6, r7⟩ := Cx_rng X
    rw [Ct_countFrom_L146, bgt k84, h5]
    by_cases q : (k : Int) < M
    · obtain ⟨f1, f2⟩ := F k (by omega)
      have es : shr32 (w k : Int) 1 = ((w k / 2 : Nat) : Int) := by rw [shr1 (by omega) (by omega)]; omega
      rw [if_pos q, bgt k84, q_84_3 P, blt (by rw [k_88 H]) (by omega) (by rw [k_88 H]; show _ < (40 : Int); omega), f1, bi2 X, es, x_isOpen X (by omega) (by omega)]
      by_cases o : S (128 + ((w k / 2 : Nat) : Int)) = 0
      · obtain ⟨V1, e1, e2, e3⟩ := mul_ok (S := S) (m := w k) (a := a) H P hc (by omega) hg (fun j hj => T _ f2 j hj) A
        have C1 : CF V V1 := fun a j _ _ a3 => e3 a j a3
        obtain ⟨V', g1, g3⟩ := ih (k + 1) V1 (cN a (Gx S (w k))) (CF_Cx X C1) (by rw [e3 _ _ (by decide)]; exact hc) (by rw [e3 _ _ (by decide)]; exact h5) (by omega) (by omega) (fun m hm j hj => by rw [e3 _ _ (by decide)]; exact T m hm j hj) (fun k hk => by rw [e3 _ _ (by decide)]; exact F k hk) e2
        refine ⟨V', ?_, fun a j ha => by rw [g3 a j ha, e3 a j ha]⟩
        rw [B_t o, if_neg (by decide), bgt k84, q_84_3 P, blt (by rw [k_88 H]) (by omega) (by rw [k_88 H]; show _ < (40 : Int); omega), f1, bit k84, e1, bd2_mk, w32_id (by omega) (by omega), show (k : Int) + 1 = ((k + 1 : Nat) : Int) by omega, g1]
        apply some_c
        by_cases al : allO S w (k + 1) M
        · have al' : allO S w k M := fun j j0 j1 => by
            by_cases e : j = k
            · rw [e]; exact o
            · exact al j (by omega) j1
          rw [if_pos al, if_pos al', show M - k = (M - (k + 1)) + 1 by omega, upL]
          congr 1; exact cN_assoc g a
        · rw [if_neg al, if_neg (fun z => al (fun j j0 j1 => z j (by omega) j1))]
      · refine ⟨V, ?_, fun _ _ _ => rfl⟩
        rw [B_f o, if_pos rfl, if_neg (fun z => o (z k (by omega) (by omega))), rC_0]
    · refine ⟨V, ?_, fun _ _ _ => rfl⟩
      have al : allO S w k M := fun j j0 j1 => by omega
      rw [if_neg q, bgt k84, q_84_2 P, blt (by rw [k_87 H]) (by omega) (by rw [k_87 H]; show _ < (21 : Int); omega), A g (by omega), if_pos al, show M - k = 0 by omega, upL, PX, cN_comm, cN_one]
/-- the number of walks from the held to the wanted slips -/
theorem cf_ok [inst : ∀ k, Decidable (allO S w k M)] (X : Cx sh V S D) (hc : V 84 7 = c) (h5 : V 84 5 = M) (h6 : V 84 6 = H0) (hM : M ≤ 40) (hH : H0 ≤ 40) (I : Ib V S c NN Fl Fl) (hN : NN ≤ 21) (hst : st / 2 < NN) (t0 : 0 ≤ t) (t1 : t < S 0) (F : ∀ k : Nat, k < H0 → V 89 k = f k ∧ (f k : Int) < 2 * S 7) (W : ∀ k : Nat, k < M → V 88 k = w k ∧ (w k : Int) < 2 * S 7) (Q : SPx f w H0 M s) : ∃ V', Ct_countFrom 84 2 t st (sh, V) = some (rC c (if allO S w s M then WS S t (wyL f w H0 M s) st else 0), (sh, V')) ∧ ∀ a j, a ≠ 87 → V' a j = V a j := by
  have H := X.1
  have P := X.2.1
  have k84 : (kS sh 84).1 = 0 := by rw [k_84 H]
  obtain ⟨r1, r2, r3, r4, r5, r6, r7⟩ := Cx_rng X
  obtain ⟨s1, s2, s3, s4⟩ := id Q
  have l3 : ∀ kk v2 v3, ∀ (n z : Nat), z ≤ s → s - z < n → Ct_countFrom_L3 kk n 84 2 v2 v3 z (sh, V) = kk 84 2 v2 v3 s (sh, V) := by
    intro kk v2 v3 n
    induction n with
    | zero => intro z _ h; omega
    | succ n ih =>
      intro z hz hn
      rw [Ct_countFrom_L3, bgt k84, h6]
      by_cases q : z = s
      · subst q
        by_cases a1 : z < H0
        · rw [if_pos (by omega), bgt k84, h5]
          by_cases a2 : z < M
          · rw [if_pos (by omega), bgt k84, q_84_4 P, blt (by rw [k_89 H]) (by omega) (by rw [k_89 H]; show _ < (40 : Int); omega), bgt k84, q_84_3 P, blt (by rw [k_88 H]) (by omega) (by rw [k_88 H]; show _ < (40 : Int); omega), (F z a1).1, (W z a2).1, if_neg (by have := s4 a1 a2; omega)]
          · rw [if_neg (by omega)]
        · rw [if_neg (by omega)]
      · rw [if_pos (by omega), bgt k84, h5, if_pos (by omega), bgt k84, q_84_4 P, blt (by rw [k_89 H]) (by omega) (by rw [k_89 H]; show _ < (40 : Int); omega), bgt k84, q_84_3 P, blt (by rw [k_88 H]) (by omega) (by rw [k_88 H]; show _ < (40 : Int); omega), (F z (by omega)).1, (W z (by omega)).1, if_pos (by rw [s3 z (by omega)]), w32_id (by omega) (by omega)]
        exact ih (z + 1) (by omega) (by omega)
  have hl : (wyL f w H0 M s).length = (H0 - s) + (M - s) := by unfold wyL; rw [List.length_append, dnL_len, upL_len]
  unfold Ct_countFrom
  have e0 := fun kk => l3 kk t st FU 0 (by omega) (by show _ < 1000000; omega)
  rw [show ((0 : Nat) : Int) = 0 from rfl] at e0
  rw [e0]
  unfold Ct_countFrom_J44
  rw [bgt k84, h6, bgt k84, h5, w32_id (x := (H0 : Int) - s) (by omega) (by omega), w32_id (x := (M : Int) - s) (by omega) (by omega), w32_id (x := (st : Int) - ((H0 : Int) - s)) (by omega) (by omega), w32_id (x := (st : Int) - ((H0 : Int) - s) - ((M : Int) - s)) (by omega) (by omega), bd_mk]
  by_cases g1 : (st : Int) - ((H0 : Int) - s) - ((M : Int) - s) < 0
  · refine ⟨V, ?_, fun _ _ _ => rfl⟩
    rw [if_pos g1, WS_neg (by rw [hl]; omega), ite_self, rC_0]
  · rw [if_neg g1, brem (by omega) (by omega) (by decide) (by decide)]
    by_cases g2 : ((st : Int) - ((H0 : Int) - s) - ((M : Int) - s)) % 2 = 0
    · obtain ⟨g, hg⟩ : ∃ g : Nat, (st : Int) - ((H0 : Int) - s) - ((M : Int) - s) = 2 * g := ⟨((st : Int) - ((H0 : Int) - s) - ((M : Int) - s)).toNat / 2, by omega⟩
      rw [if_pos g2, bdiv (by omega) (by omega) (by decide) (by decide), hg, show (2 * (g : Int)) / 2 = g by omega]
      have hg20 : g < NN := by omega
      have vt : vpl S (48 + t.toNat) := Or.inr ⟨by omega, by omega⟩
      rw [bgt k84, q_84_0 P, bgt k84, q_84_2 P, w32_id (x := 48 + t) (by omega) (by omega), w32_id (x := (48 + t) * 21) (by omega) (by omega), w32_id (x := (g : Int) + 1) (by omega) (by omega), acopy_ok (by rw [k_85 H]) (by rw [k_87 H]) (by omega) (by omega) (by decide) (by rw [k_85 H]; show (48 + t) * 21 + ((g : Int) + 1) ≤ 1260; omega) (by rw [k_87 H]; show 0 + ((g : Int) + 1) ≤ 21; omega), bd_mk]
      have C1 : CF V (cpV V 85 ((48 + t) * 21) 87 0 ((g : Int) + 1)) := fun a j a1 a2 a3 => by unfold cpV; rw [if_neg (fun z => a3 z.1)]
      have C2 : ∀ a j, a ≠ 87 → cpV V 85 ((48 + t) * 21) 87 0 ((g : Int) + 1) a j = V a j := fun a j a3 => by unfold cpV; rw [if_neg (fun z => a3 z.1)]
      have A1 : ∀ j : Nat, j ≤ g → cpV V 85 ((48 + t) * 21) 87 0 ((g : Int) + 1) 87 j = rC c (Ux S t j) := fun j hj => by
        have := ((I _ vt).1 j (by omega)).1
        unfold PS at this
        rw [if_neg (by omega), show ((48 + t.toNat - 48 : Nat) : Int) = t by omega] at this
        unfold cpV
        rw [if_pos ⟨rfl, by omega, by omega⟩, ← this]; congr 1; omega
      have X1 := CF_Cx X C1
      generalize cpV V 85 ((48 + t) * 21) 87 0 ((g : Int) + 1) = V1 at *
      have T1 : Tg V1 S c g := fun m hm j hj => by
        rw [C2 _ _ (by decide)]
        have := ((I m (Or.inl hm)).1 j (by omega)).1
        unfold PS at this
        rw [if_pos (by omega)] at this; exact this
      obtain ⟨V2, u1, u2, u3⟩ := hdn (S := S) (s := s) (f := f) (c := c) H r4 (by omega : g ≤ 20) FU (H0 - s) V1 (Ux S t) X1.2.1 (by rw [C2 _ _ (by decide)]; exact hc) (by show _ < 1000000; omega) (by omega) T1 (fun k hk => by rw [C2 _ _ (by decide)]; exact F k (by omega)) A1
      have C3 : CF V1 V2 := fun a j _ _ a3 => u3 a j a3
      obtain ⟨V3, y1, y2⟩ := hup (S := S) (w := w) (M := M) (g := g) (c := c) (by omega) hM FU s V2 (cN (Ux S t) (PX S (dnL f s (H0 - s)))) (CF_Cx X1 C3) (by rw [u3 _ _ (by decide), C2 _ _ (by decide)]; exact hc) (by rw [u3 _ _ (by decide), C2 _ _ (by decide)]; exact h5) s2 (by show _ < 1000000; omega) (fun m hm j hj => by rw [u3 _ _ (by decide)]; exact T1 m hm j hj) (fun k hk => by rw [u3 _ _ (by decide), C2 _ _ (by decide)]; exact W k hk) u2
      refine ⟨V3, ?_, fun a j ha => by rw [y2 a j ha, u3 a j ha, C2 a j ha]⟩
      rw [bgt k84, C2 _ _ (by decide), h6, w32_id (x := (H0 : Int) - 1) (by omega) (by omega), bd_mk, show (H0 : Int) - 1 = (s : Int) + ((H0 - s : Nat) : Int) - 1 by omega, u1, y1]
      apply some_c
      have ew : cN (cN (Ux S t) (PX S (dnL f s (H0 - s)))) (PX S (upL w s (M - s))) g = WS S t (wyL f w H0 M s) st := by
        rw [WS_pos (h := g) (by rw [hl]; omega) (by rw [hl]; omega) (by rw [hl]; omega), cN_assoc]
        exact cN_congr (fun _ _ => rfl) (fun j _ => (PX_app _ _ j).symm)
      rw [ew]
    · refine ⟨V, ?_, fun _ _ _ => rfl⟩
      rw [if_neg g2, WS_neg (by rw [hl]; omega), ite_self, rC_0]
end CNT3
