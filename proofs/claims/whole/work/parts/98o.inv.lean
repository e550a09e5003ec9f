/-! PURE: what holds between two calls -/
section INVS
variable {sh sh' : List (Nat × Nat)} {V V' V1 V2 W W' : Int → Int → Int} {S S' R : Int → Int} {D D' E E' a b c d e i j k x y w : Int} {f g : Mem → Option (Int × Mem)}
/-- the images' purses -/
def POI (V : Int → Int → Int) (S : Int → Int) (E : Int) : Prop := ∀ i, 0 ≤ i → i < 2 → V 103 i = 1 → PO (rowI S i) E
def INV (sh : List (Nat × Nat)) (V : Int → Int → Int) (D E : Int) : Prop := Cx sh V (V 102) D ∧ (PM V ∧ V 101 15 = 1) ∧ WPt V ∧ RW V V ∧ TA V V ∧ IMr sh V V (V 102) D ∧ (V 0 2 = V 101 13 ∧ V 0 3 = V 101 14) ∧ PO (V 102) E ∧ POI V (V 102) E
/-- one call on both sides -/
def OneC (sh : List (Nat × Nat)) (V : Int → Int → Int) (D E : Int) (f g : Mem → Option (Int × Mem)) : Prop := ∃ y sh1 V1 V2, f (sh, V) = some (y, (sh1, V1)) ∧ g (sh1, V1) = some (y, (sh1, V2)) ∧ INV sh1 V2 (D + 10000) (E + 40000)
/-- memories that agree on the reference's cells -/
def Rel (V V2 : Int → Int → Int) : Prop := ∀ a j, 101 ≤ a → a < 131 → V2 a j = V a j
theorem Rel_refl : Rel V V := fun _ _ _ _ => rfl
theorem Rel_PM (h : Rel V V2) (P : PM V) : PM V2 := fun q hq => by
  have z : ∀ q ∈ ptM, 101 ≤ q.1 ∧ q.1 < 131 := by decide
  rw [h _ _ (z q hq).1 (z q hq).2]; exact P q hq
theorem Rel_RW (h : Rel V V2) (R : RW V V) : RW V V2 := fun w w0 w1 => RW1_congr (R w w0 w1) (fun _ => rfl) (fun _ => rfl) (h _ _ (by decide) (by decide)) (h _ _ (by decide) (by decide)) (fun k _ _ => h _ _ (by decide) (by decide))
theorem Rel_TA (h : Rel V V2) (T : TA V V) : TA V V2 := by
  obtain ⟨t1, t2, t3, t4⟩ := T
  exact ⟨by rw [h _ _ (by decide) (by decide)]; exact t1, t2, t3, fun k k0 k1 => by rw [h _ _ (by decide) (by decide)]; exact t4 k k0 k1⟩
theorem Rel_IM (h : Rel V V2) (I : IMr sh V V S D) : IMr sh V V2 S D := by
  refine ⟨fun i i0 i1 => ?_, I.2⟩
  have := I.1 i i0 i1
  unfold IM1 at this ⊢
  rw [h _ _ (by decide) (by decide)]; exact this
theorem Rel_102 (h : Rel V V2) : setR V2 102 (V 102) = V2 := by
  have : V 102 = V2 102 := by funext j; exact (h _ _ (by decide) (by decide)).symm
  rw [this, setR_self]
theorem Cx_mono (X : Cx sh V S D) (h : D ≤ D') (h' : D' < 1900000000) : Cx sh V S D' := ⟨X.1, X.2.1, X.2.2.1, SOk_mono X.2.2.2.1 h, X.2.2.2.2.1, h'⟩
theorem Pt_new (P : Pt V1) (hl : ∀ a j, a < 101 → W a j = V1 a j) : Pt W := fun q hq => by
  have z : ∀ q ∈ ptC, q.1 < 101 := by decide
  rw [hl _ _ (z q hq)]; exact P q hq
theorem Cx_new (X : Cx sh V1 S D) (hl : ∀ a j, a < 101 → W a j = V1 a j) : Cx sh W S D := Cx_mid X (fun a j _ h => hl a j (by omega)) (Pt_new X.2.1 hl)
theorem WPt_new (h : WPt V1) (hl : ∀ a j, 36 ≤ a → a < 93 → W a j = V1 a j) : WPt W := fun t ht => by
  rw [hl _ _ (by omega) (by omega), hl _ _ (by omega) (by omega), hl _ _ (by omega) (by omega)]; exact h t ht
theorem TA_new (T : TA V V) (h : ∀ a j, (a = 0 ∧ j = 1) ∨ a = 1 ∨ (a = 101 ∧ j = 5) ∨ a = 104 → W a j = V a j) : TA W W := by
  obtain ⟨t1, t2, t3, t4⟩ := T
  refine ⟨by rw [h 0 1 (by decide), h 101 5 (by decide)]; exact t1, by rw [h 0 1 (by decide)]; exact t2, by rw [h 0 1 (by decide)]; exact t3, fun k k0 k1 => ?_⟩
  rw [h 0 1 (by decide)] at k1
  rw [h 1 k (by omega), h 104 k (by omega)]; exact t4 k k0 k1
theorem RW_new (R : RW V V) (h : ∀ a j, (93 ≤ a ∧ a < 101) ∨ (128 ≤ a ∧ a ≤ 130) → W a j = V a j) : RW W W := fun w w0 w1 => RW1_congr (R w w0 w1) (fun _ => h _ _ (by omega)) (fun _ => h _ _ (by omega)) (h _ _ (by omega)) (h _ _ (by omega)) (fun k _ _ => h _ _ (by omega))
theorem IM_new (I : IMr sh V V S D) (h35 : ∀ j, W 35 j = V 35 j) (h103 : ∀ j, W 103 j = V 103 j) (h131 : ∀ a j, 131 ≤ a → W a j = V a j) (hi : ∀ k, 1629 ≤ k → S' k = S k) (hD : D ≤ D') : IMr sh W W S' D' := by
  refine ⟨fun i i0 i1 => ?_, by rw [h35, h35]; exact I.2⟩
  rcases I.1 i i0 i1 with ⟨g1, g2⟩ | ⟨g1, g2, g3, g4, g5, g6, g7⟩
  · exact Or.inl ⟨by rw [h35]; exact g1, by rw [h103]; exact g2⟩
  · have fr : ∀ a j, V 35 i ≤ a → a < V 35 i + 33 → W a j = V a j := fun a j q0 _ => h131 a j (by omega)
    refine Or.inr ?_
    rw [h35, h103, rowI_same hi i0]
    exact ⟨g1, g2, g3, IP_of g4 fr, g5, WC_of g6 g4 g7.2.2.1 fr, SOk_mono g7 hD⟩
theorem POI_new (p : POI V S E) (h103 : ∀ j, W 103 j = V 103 j) (hi : ∀ k, 1629 ≤ k → S' k = S k) (hE : E ≤ E') : POI W S' E' := fun i i0 i1 h => by
  rw [h103] at h
  rw [rowI_same hi i0]; exact PO_mono (p i i0 i1 h) hE
theorem INV_keep (I : INV sh V D E) (X1 : Cx sh V1 S' D') (w1 : WPt V1) (hl : ∀ a j, (a < 101 ∨ 131 ≤ a) → W a j = V1 a j) (hS : W 102 = S') (lo : ∀ a j, (a = 0 ∧ 1 ≤ j ∧ j ≤ 3) ∨ a = 1 ∨ a = 35 ∨ (93 ≤ a ∧ a < 101) ∨ 131 ≤ a → V1 a j = V a j) (hm : ∀ a j, 101 ≤ a → a < 131 → a ≠ 102 → ¬ MSc a j → W a j = V a j) (hi : ∀ k, 1629 ≤ k → S' k = V 102 k) (hp : PO S' E') (hD : D ≤ D') (hE : E ≤ E') : INV sh W D' E' := by
  obtain ⟨X, ⟨P2, b15⟩, wp, R, T, IM, ⟨f1, f2⟩, po, pi⟩ := I
  have fl : ∀ a j, (a = 0 ∧ 1 ≤ j ∧ j ≤ 3) ∨ a = 1 ∨ a = 35 ∨ (93 ≤ a ∧ a < 101) ∨ 131 ≤ a → W a j = V a j := fun a j h => (hl a j (by omega)).trans (lo a j h)
  have h103 : ∀ j, W 103 j = V 103 j := fun j => hm _ _ (by decide) (by decide) (by decide) (by unfold MSc; omega)
  have hx : ∀ q ∈ ptM, 101 ≤ q.1 ∧ q.1 < 131 ∧ q.1 ≠ 102 ∧ ¬ MSc q.1 q.2.1 := by unfold MSc; decide
  unfold INV
  rw [hS]
  refine ⟨Cx_new X1 (fun a j h => hl a j (Or.inl h)), ⟨fun q hq => ?_, by rw [hm _ _ (by decide) (by decide) (by decide) (by unfold MSc; decide)]; exact b15⟩, WPt_new w1 (fun a j h0 h1 => hl a j (by omega)), RW_new R (fun a j h => ?_), TA_new T (fun a j h => ?_), IM_new IM (fun j => fl _ _ (by omega)) h103 (fun a j h => fl _ _ (by omega)) hi hD, ⟨?_, ?_⟩, hp, POI_new pi h103 hi hE⟩
  · obtain ⟨q1, q2, q3, q4⟩ := hx q hq
    rw [hm _ _ q1 q2 q3 q4]; exact P2 q hq
  · rcases h with h | h
    · exact fl a j (by omega)
    · exact hm a j (by omega) (by omega) (by omega) (by unfold MSc; omega)
  · rcases h with h | h | h | h
    · exact fl a j (by omega)
    · exact fl a j (by omega)
    · exact hm a j (by omega) (by omega) (by omega) (by unfold MSc; omega)
    · exact hm a j (by omega) (by omega) (by omega) (by unfold MSc; omega)
  · rw [fl 0 2 (by decide), hm 101 13 (by decide) (by decide) (by decide) (by unfold MSc; decide)]; exact f1
  · rw [fl 0 3 (by decide), hm 101 14 (by decide) (by decide) (by decide) (by unfold MSc; decide)]; exact f2
theorem call_RO (I : INV sh V D E) (hD : D < 1800000000) (h : RO sh V V (V 102) (f (sh, V)) (g (sh, setR V 102 (V 102)))) : OneC sh V D E f g := by
  obtain ⟨y, h1, h2⟩ := h
  rw [setR_self] at h2
  refine ⟨y, sh, V, _, h1, h2, INV_keep I (Cx_mono I.1 (by omega) (by omega)) I.2.2.1 (fun a j h => ?_) setR_at (fun _ _ _ => rfl) (fun a j h0 h1 h2 h3 => ?_) (fun _ _ => rfl) (PO_mono I.2.2.2.2.2.2.2.1 (by omega)) (by omega) (by omega)⟩
  · rw [setR_ne (by omega), up_row (by omega)]
  · rw [setR_ne h2]; exact FM0 a j h3
theorem MSc_rng (h : MSc a j) : 101 ≤ a ∧ a < 131 := by unfold MSc at h; omega
theorem call_RS (I : INV sh V D E) (hD : D < 1800000000) (h : ∀ V2, Rel V V2 → RS sh V V2 (V 102) (f (sh, V)) (g (sh, setR V2 102 (V 102)))) : OneC sh V D E f g := by
  obtain ⟨y, V1, -, h1, -, s1, p1, w1, -⟩ := h V Rel_refl
  have r : Rel V V1 := fun a j a0 a1 => s1 a j (Or.inr (by omega))
  obtain ⟨y', V1', V2', h1', h2', -, -, -, fm⟩ := h V1 r
  rw [h1] at h1'
  cases h1'
  rw [Rel_102 r] at h2'
  refine ⟨y, sh, V1, _, h1, h2', INV_keep I (Cx_mono (Cx_sf I.1 s1 p1) (by omega) (by omega)) w1 (fun a j h => ?_) setR_at (fun a j h => s1 a j (by omega)) (fun a j h0 h1 h2 h3 => ?_) (fun _ _ => rfl) (PO_mono I.2.2.2.2.2.2.2.1 (by omega)) (by omega) (by omega)⟩
  · rw [setR_ne (by omega)]; exact fm a j (fun z => by have := MSc_rng z; omega)
  · rw [setR_ne h2, fm a j h3]; exact r a j h0 h1
theorem call_RC (I : INV sh V D E) (hD : D < 1800000000) (hE : E < 900000000) (hD' : D' ≤ D + 10000) (h : ∀ V2, Rel V V2 → RC sh V V2 (V 102) D' (f (sh, V)) (g (sh, setR V2 102 (V 102)))) : OneC sh V D E f g := by
  obtain ⟨y, V1, -, -, h1, -, -, -, -, -, s1, -, -⟩ := h V Rel_refl
  have r : Rel V V1 := fun a j a0 a1 => s1 a j (Or.inr (by omega))
  obtain ⟨y', V1', V2', S', h1', h2', c, o, t, p, -, fm, pk⟩ := h V1 r
  rw [h1] at h1'
  cases h1'
  rw [Rel_102 r] at h2'
  refine ⟨y, sh, V1, _, h1, h2', INV_keep I ⟨I.1.1, p, c, SOk_mono o hD', t, by omega⟩ (WPt_new I.2.2.1 (fun a j h0 h1 => s1 a j (by omega))) (fun a j h => ?_) setR_at (fun a j h => s1 a j (by omega)) (fun a j h0 h1 h2 h3 => ?_) pk.1 (pk.2 E (by omega) I.2.2.2.2.2.2.2.1) (by omega) (by omega)⟩
  · rw [setR_ne (by omega)]; exact fm a j (fun z => by have := MSc_rng z; omega)
  · rw [setR_ne h2, fm a j h3]; exact r a j h0 h1
theorem call_CR (I : INV sh V D E) (hD : D < 1800000000) (hE : E < 900000000) (hD' : D' ≤ D + 10000) (hc : CR sh V (f (sh, V)) y S' D') (hg : ∀ V2, Rel V V2 → g (sh, setR V2 102 (V 102)) = some (y, (sh, setR (upV V2 101 0 0) 102 S'))) (pk : PK (V 102) S' 40000) : OneC sh V D E f g := by
  obtain ⟨V1, h1, c, o, t, p, s1⟩ := hc
  have r : Rel V V1 := fun a j a0 a1 => s1 a j (Or.inr (by omega))
  have h2 := hg V1 r
  rw [Rel_102 r] at h2
  refine ⟨y, sh, V1, _, h1, h2, INV_keep I ⟨I.1.1, p, c, SOk_mono o hD', t, by omega⟩ (WPt_new I.2.2.1 (fun a j h0 h1 => s1 a j (by omega))) (fun a j h => ?_) setR_at (fun a j h => s1 a j (by omega)) (fun a j h0 h1 h2 h3 => ?_) pk.1 (pk.2 E (by omega) I.2.2.2.2.2.2.2.1) (by omega) (by omega)⟩
  · rw [setR_ne (by omega), up_row (by omega)]
  · rw [setR_ne h2, FM0 a j h3]; exact r a j h0 h1
theorem call_RT (I : INV sh V D E) (hD : D < 1800000000) (hE : E < 900000000) (h : ∀ V2, Rel V V2 → RT sh V V2 (V 102) D (f (sh, V)) (g (sh, setR V2 102 (V 102)))) : OneC sh V D E f g := by
  obtain ⟨y, V1, -, -, h1, -, s1, -, -, -, -, -, -, -⟩ := h V Rel_refl
  have r : Rel V V1 := fun a j a0 a1 => s1 a j (Or.inr (by omega))
  obtain ⟨y', V1', V2', S', h1', h2', -, p, w1, fm, c, o, t, pk⟩ := h V1 r
  rw [h1] at h1'
  cases h1'
  rw [Rel_102 r] at h2'
  refine ⟨y, sh, V1, _, h1, h2', INV_keep I ⟨I.1.1, p, c, SOk_mono o (by omega), t, by omega⟩ w1 (fun a j h => ?_) setR_at (fun a j h => s1 a j (by omega)) (fun a j h0 h1 h2 h3 => ?_) pk.1 (pk.2 E (by omega) I.2.2.2.2.2.2.2.1) (by omega) (by omega)⟩
  · rw [setR_ne (by omega)]; exact fm a j (fun z => by have := MSc_rng z; omega)
  · rw [setR_ne h2, fm a j h3]; exact r a j h0 h1
theorem call_RR (I : INV sh V D E) (hD : D < 1800000000) (h : ∀ V2, Rel V V2 → RR sh V V2 (V 102) (f (sh, V)) (g (sh, setR V2 102 (V 102)))) : OneC sh V D E f g := by
  obtain ⟨y, V1, -, h1, -, -, -, s1, -⟩ := h V Rel_refl
  have r : Rel V V1 := fun a j a0 a1 => s1 a j (Or.inr (by omega))
  obtain ⟨y', V1', V2', h1', h2', rw', p, -, fm⟩ := h V1 r
  rw [h1] at h1'
  cases h1'
  rw [Rel_102 r] at h2'
  obtain ⟨X, ⟨P2, b15⟩, wp, R, T, IM, ⟨f1, f2⟩, po, pi⟩ := I
  have hl : ∀ a j, (a < 101 ∨ 131 ≤ a) → setR V2' 102 (V 102) a j = V1 a j := fun a j h => by
    rw [setR_ne (by omega)]; exact fm a j (fun z => by have := MSc_rng z; omega) (by omega)
  have hm : ∀ a j, 101 ≤ a → a < 128 → a ≠ 102 → ¬ MSc a j → setR V2' 102 (V 102) a j = V a j := fun a j h0 h1 h2 h3 => by
    rw [setR_ne h2, fm a j h3 (by omega)]; exact r a j h0 (by omega)
  have fl : ∀ a j, a < 93 ∨ 131 ≤ a → setR V2' 102 (V 102) a j = V a j := fun a j h => (hl a j (by omega)).trans (s1 a j (by omega))
  have h103 : ∀ j, setR V2' 102 (V 102) 103 j = V 103 j := fun j => hm _ _ (by decide) (by decide) (by decide) (by unfold MSc; omega)
  have hx : ∀ q ∈ ptM, 101 ≤ q.1 ∧ q.1 < 128 ∧ q.1 ≠ 102 ∧ ¬ MSc q.1 q.2.1 := by unfold MSc; decide
  refine ⟨y, sh, V1, _, h1, h2', ?_⟩
  unfold INV
  rw [setR_at]
  refine ⟨Cx_mono (Cx_new (Cx_mid X (fun a j h0 h1 => s1 a j (by omega)) p) (fun a j h => hl a j (Or.inl h))) (by omega) (by omega), ⟨fun q hq => ?_, by rw [hm _ _ (by decide) (by decide) (by decide) (by unfold MSc; decide)]; exact b15⟩, WPt_new wp (fun a j h0 h1 => fl a j (by omega)), fun w w0 w1 => RW1_congr (rw' w w0 w1) (fun _ => hl _ _ (by omega)) (fun _ => hl _ _ (by omega)) (by rw [setR_ne (by decide)]) (by rw [setR_ne (by decide)]) (fun k _ _ => by rw [setR_ne (by decide)]), TA_new T (fun a j h => ?_), IM_new IM (fun j => fl _ _ (by omega)) h103 (fun a j h => fl _ _ (by omega)) (fun _ _ => rfl) (by omega), ⟨?_, ?_⟩, PO_mono po (by omega), POI_new pi h103 (fun _ _ => rfl) (by omega)⟩
  · obtain ⟨q1, q2, q3, q4⟩ := hx q hq
    rw [hm _ _ q1 q2 q3 q4]; exact P2 q hq
  · rcases h with h | h | h | h
    · exact fl a j (by omega)
    · exact fl a j (by omega)
    · exact hm a j (by omega) (by omega) (by omega) (by unfold MSc; omega)
    · exact hm a j (by omega) (by omega) (by omega) (by unfold MSc; omega)
  · rw [fl 0 2 (by decide), hm 101 13 (by decide) (by decide) (by decide) (by unfold MSc; decide)]; exact f1
  · rw [fl 0 3 (by decide), hm 101 14 (by decide) (by decide) (by decide) (by unfold MSc; decide)]; exact f2
end INVS
