/-! PURE: accesses of the other rows, frames (wip/whole/gen/frame.py) -/
section FRAME
variable {sh : List (Nat × Nat)} {V V' V2 : Int → Int → Int} {i j k x a b r : Int} {S R : Int → Int} {γ : Type} {f : Int → Option γ} {f' : Mem → Option γ} {n c : Nat}
theorem lM (H : Sh sh) (hk : (kS sh a).1 = c) (ha : a ≠ 102) (h0 : 0 ≤ i) (h1 : i < ((kS sh a).2 : Int)) : bd (lda c (sh, setR V 102 S) a i) f = f (V a i) := by rw [lda_ok hk h0 h1, setR_ne ha]; rfl
theorem sM (H : Sh sh) (hk : (kS sh a).1 = c) (ha : a ≠ 102) (h0 : 0 ≤ i) (h1 : i < ((kS sh a).2 : Int)) : bd (sta c (sh, setR V 102 S) a i x) f' = f' (sh, setR (upV V a i x) 102 S) := by rw [sta_ok hk h0 h1, up_setR_ne ha]; rfl
theorem ml103 (H : Sh sh) (h0 : 0 ≤ i) (h1 : i < 2) : bd (lda 23 (sh, setR V 102 S) 103 i) f = f (V 103 i) := lM H (by rw [k_103 H]) (by decide) h0 (by rw [k_103 H]; exact h1)
theorem ms103 (H : Sh sh) (h0 : 0 ≤ i) (h1 : i < 2) : bd (sta 23 (sh, setR V 102 S) 103 i x) f' = f' (sh, setR (upV V 103 i x) 102 S) := sM H (by rw [k_103 H]) (by decide) h0 (by rw [k_103 H]; exact h1)
theorem ml104 (H : Sh sh) (h0 : 0 ≤ i) (h1 : i < 700) : bd (lda 20 (sh, setR V 102 S) 104 i) f = f (V 104 i) := lM H (by rw [k_104 H]) (by decide) h0 (by rw [k_104 H]; exact h1)
theorem ms104 (H : Sh sh) (h0 : 0 ≤ i) (h1 : i < 700) : bd (sta 20 (sh, setR V 102 S) 104 i x) f' = f' (sh, setR (upV V 104 i x) 102 S) := sM H (by rw [k_104 H]) (by decide) h0 (by rw [k_104 H]; exact h1)
theorem ml105 (H : Sh sh) (h0 : 0 ≤ i) (h1 : i < 128) : bd (lda 20 (sh, setR V 102 S) 105 i) f = f (V 105 i) := lM H (by rw [k_105 H]) (by decide) h0 (by rw [k_105 H]; exact h1)
theorem ms105 (H : Sh sh) (h0 : 0 ≤ i) (h1 : i < 128) : bd (sta 20 (sh, setR V 102 S) 105 i x) f' = f' (sh, setR (upV V 105 i x) 102 S) := sM H (by rw [k_105 H]) (by decide) h0 (by rw [k_105 H]; exact h1)
theorem ml106 (H : Sh sh) (h0 : 0 ≤ i) (h1 : i < 126) : bd (lda 20 (sh, setR V 102 S) 106 i) f = f (V 106 i) := lM H (by rw [k_106 H]) (by decide) h0 (by rw [k_106 H]; exact h1)
theorem ms106 (H : Sh sh) (h0 : 0 ≤ i) (h1 : i < 126) : bd (sta 20 (sh, setR V 102 S) 106 i x) f' = f' (sh, setR (upV V 106 i x) 102 S) := sM H (by rw [k_106 H]) (by decide) h0 (by rw [k_106 H]; exact h1)
theorem ml107 (H : Sh sh) (h0 : 0 ≤ i) (h1 : i < 504) : bd (lda 20 (sh, setR V 102 S) 107 i) f = f (V 107 i) := lM H (by rw [k_107 H]) (by decide) h0 (by rw [k_107 H]; exact h1)
theorem ms107 (H : Sh sh) (h0 : 0 ≤ i) (h1 : i < 504) : bd (sta 20 (sh, setR V 102 S) 107 i x) f' = f' (sh, setR (upV V 107 i x) 102 S) := sM H (by rw [k_107 H]) (by decide) h0 (by rw [k_107 H]; exact h1)
theorem ml108 (H : Sh sh) (h0 : 0 ≤ i) (h1 : i < 504) : bd (lda 20 (sh, setR V 102 S) 108 i) f = f (V 108 i) := lM H (by rw [k_108 H]) (by decide) h0 (by rw [k_108 H]; exact h1)
theorem ms108 (H : Sh sh) (h0 : 0 ≤ i) (h1 : i < 504) : bd (sta 20 (sh, setR V 102 S) 108 i x) f' = f' (sh, setR (upV V 108 i x) 102 S) := sM H (by rw [k_108 H]) (by decide) h0 (by rw [k_108 H]; exact h1)
theorem ml109 (H : Sh sh) (h0 : 0 ≤ i) (h1 : i < 41) : bd (lda 20 (sh, setR V 102 S) 109 i) f = f (V 109 i) := lM H (by rw [k_109 H]) (by decide) h0 (by rw [k_109 H]; exact h1)
theorem ms109 (H : Sh sh) (h0 : 0 ≤ i) (h1 : i < 41) : bd (sta 20 (sh, setR V 102 S) 109 i x) f' = f' (sh, setR (upV V 109 i x) 102 S) := sM H (by rw [k_109 H]) (by decide) h0 (by rw [k_109 H]; exact h1)
theorem ml110 (H : Sh sh) (h0 : 0 ≤ i) (h1 : i < 41) : bd (lda 20 (sh, setR V 102 S) 110 i) f = f (V 110 i) := lM H (by rw [k_110 H]) (by decide) h0 (by rw [k_110 H]; exact h1)
theorem ms110 (H : Sh sh) (h0 : 0 ≤ i) (h1 : i < 41) : bd (sta 20 (sh, setR V 102 S) 110 i x) f' = f' (sh, setR (upV V 110 i x) 102 S) := sM H (by rw [k_110 H]) (by decide) h0 (by rw [k_110 H]; exact h1)
theorem ml111 (H : Sh sh) (h0 : 0 ≤ i) (h1 : i < 504) : bd (lda 23 (sh, setR V 102 S) 111 i) f = f (V 111 i) := lM H (by rw [k_111 H]) (by decide) h0 (by rw [k_111 H]; exact h1)
theorem ms111 (H : Sh sh) (h0 : 0 ≤ i) (h1 : i < 504) : bd (sta 23 (sh, setR V 102 S) 111 i x) f' = f' (sh, setR (upV V 111 i x) 102 S) := sM H (by rw [k_111 H]) (by decide) h0 (by rw [k_111 H]; exact h1)
theorem ml112 (H : Sh sh) (h0 : 0 ≤ i) (h1 : i < 8) : bd (lda 20 (sh, setR V 102 S) 112 i) f = f (V 112 i) := lM H (by rw [k_112 H]) (by decide) h0 (by rw [k_112 H]; exact h1)
theorem ms112 (H : Sh sh) (h0 : 0 ≤ i) (h1 : i < 8) : bd (sta 20 (sh, setR V 102 S) 112 i x) f' = f' (sh, setR (upV V 112 i x) 102 S) := sM H (by rw [k_112 H]) (by decide) h0 (by rw [k_112 H]; exact h1)
theorem ml113 (H : Sh sh) (h0 : 0 ≤ i) (h1 : i < 8) : bd (lda 20 (sh, setR V 102 S) 113 i) f = f (V 113 i) := lM H (by rw [k_113 H]) (by decide) h0 (by rw [k_113 H]; exact h1)
theorem ms113 (H : Sh sh) (h0 : 0 ≤ i) (h1 : i < 8) : bd (sta 20 (sh, setR V 102 S) 113 i x) f' = f' (sh, setR (upV V 113 i x) 102 S) := sM H (by rw [k_113 H]) (by decide) h0 (by rw [k_113 H]; exact h1)
theorem ml114 (H : Sh sh) (h0 : 0 ≤ i) (h1 : i < 72) : bd (lda 20 (sh, setR V 102 S) 114 i) f = f (V 114 i) := lM H (by rw [k_114 H]) (by decide) h0 (by rw [k_114 H]; exact h1)
theorem ms114 (H : Sh sh) (h0 : 0 ≤ i) (h1 : i < 72) : bd (sta 20 (sh, setR V 102 S) 114 i x) f' = f' (sh, setR (upV V 114 i x) 102 S) := sM H (by rw [k_114 H]) (by decide) h0 (by rw [k_114 H]; exact h1)
theorem ml115 (H : Sh sh) (h0 : 0 ≤ i) (h1 : i < 1968) : bd (lda 21 (sh, setR V 102 S) 115 i) f = f (V 115 i) := lM H (by rw [k_115 H]) (by decide) h0 (by rw [k_115 H]; exact h1)
theorem ms115 (H : Sh sh) (h0 : 0 ≤ i) (h1 : i < 1968) : bd (sta 21 (sh, setR V 102 S) 115 i x) f' = f' (sh, setR (upV V 115 i x) 102 S) := sM H (by rw [k_115 H]) (by decide) h0 (by rw [k_115 H]; exact h1)
theorem ml116 (H : Sh sh) (h0 : 0 ≤ i) (h1 : i < 41) : bd (lda 21 (sh, setR V 102 S) 116 i) f = f (V 116 i) := lM H (by rw [k_116 H]) (by decide) h0 (by rw [k_116 H]; exact h1)
theorem ms116 (H : Sh sh) (h0 : 0 ≤ i) (h1 : i < 41) : bd (sta 21 (sh, setR V 102 S) 116 i x) f' = f' (sh, setR (upV V 116 i x) 102 S) := sM H (by rw [k_116 H]) (by decide) h0 (by rw [k_116 H]; exact h1)
theorem ml117 (H : Sh sh) (h0 : 0 ≤ i) (h1 : i < 41) : bd (lda 21 (sh, setR V 102 S) 117 i) f = f (V 117 i) := lM H (by rw [k_117 H]) (by decide) h0 (by rw [k_117 H]; exact h1)
theorem ms117 (H : Sh sh) (h0 : 0 ≤ i) (h1 : i < 41) : bd (sta 21 (sh, setR V 102 S) 117 i x) f' = f' (sh, setR (upV V 117 i x) 102 S) := sM H (by rw [k_117 H]) (by decide) h0 (by rw [k_117 H]; exact h1)
theorem ml118 (H : Sh sh) (h0 : 0 ≤ i) (h1 : i < 80) : bd (lda 20 (sh, setR V 102 S) 118 i) f = f (V 118 i) := lM H (by rw [k_118 H]) (by decide) h0 (by rw [k_118 H]; exact h1)
theorem ms118 (H : Sh sh) (h0 : 0 ≤ i) (h1 : i < 80) : bd (sta 20 (sh, setR V 102 S) 118 i x) f' = f' (sh, setR (upV V 118 i x) 102 S) := sM H (by rw [k_118 H]) (by decide) h0 (by rw [k_118 H]; exact h1)
theorem ml119 (H : Sh sh) (h0 : 0 ≤ i) (h1 : i < 41) : bd (lda 20 (sh, setR V 102 S) 119 i) f = f (V 119 i) := lM H (by rw [k_119 H]) (by decide) h0 (by rw [k_119 H]; exact h1)
theorem ms119 (H : Sh sh) (h0 : 0 ≤ i) (h1 : i < 41) : bd (sta 20 (sh, setR V 102 S) 119 i x) f' = f' (sh, setR (upV V 119 i x) 102 S) := sM H (by rw [k_119 H]) (by decide) h0 (by rw [k_119 H]; exact h1)
theorem ml120 (H : Sh sh) (h0 : 0 ≤ i) (h1 : i < 12) : bd (lda 20 (sh, setR V 102 S) 120 i) f = f (V 120 i) := lM H (by rw [k_120 H]) (by decide) h0 (by rw [k_120 H]; exact h1)
theorem ms120 (H : Sh sh) (h0 : 0 ≤ i) (h1 : i < 12) : bd (sta 20 (sh, setR V 102 S) 120 i x) f' = f' (sh, setR (upV V 120 i x) 102 S) := sM H (by rw [k_120 H]) (by decide) h0 (by rw [k_120 H]; exact h1)
theorem ml121 (H : Sh sh) (h0 : 0 ≤ i) (h1 : i < 12) : bd (lda 20 (sh, setR V 102 S) 121 i) f = f (V 121 i) := lM H (by rw [k_121 H]) (by decide) h0 (by rw [k_121 H]; exact h1)
theorem ms121 (H : Sh sh) (h0 : 0 ≤ i) (h1 : i < 12) : bd (sta 20 (sh, setR V 102 S) 121 i x) f' = f' (sh, setR (upV V 121 i x) 102 S) := sM H (by rw [k_121 H]) (by decide) h0 (by rw [k_121 H]; exact h1)
theorem ml122 (H : Sh sh) (h0 : 0 ≤ i) (h1 : i < 12) : bd (lda 20 (sh, setR V 102 S) 122 i) f = f (V 122 i) := lM H (by rw [k_122 H]) (by decide) h0 (by rw [k_122 H]; exact h1)
theorem ms122 (H : Sh sh) (h0 : 0 ≤ i) (h1 : i < 12) : bd (sta 20 (sh, setR V 102 S) 122 i x) f' = f' (sh, setR (upV V 122 i x) 102 S) := sM H (by rw [k_122 H]) (by decide) h0 (by rw [k_122 H]; exact h1)
theorem ml123 (H : Sh sh) (h0 : 0 ≤ i) (h1 : i < 12) : bd (lda 23 (sh, setR V 102 S) 123 i) f = f (V 123 i) := lM H (by rw [k_123 H]) (by decide) h0 (by rw [k_123 H]; exact h1)
theorem ms123 (H : Sh sh) (h0 : 0 ≤ i) (h1 : i < 12) : bd (sta 23 (sh, setR V 102 S) 123 i x) f' = f' (sh, setR (upV V 123 i x) 102 S) := sM H (by rw [k_123 H]) (by decide) h0 (by rw [k_123 H]; exact h1)
theorem ml124 (H : Sh sh) (h0 : 0 ≤ i) (h1 : i < 49152) : bd (lda 20 (sh, setR V 102 S) 124 i) f = f (V 124 i) := lM H (by rw [k_124 H]) (by decide) h0 (by rw [k_124 H]; exact h1)
theorem ms124 (H : Sh sh) (h0 : 0 ≤ i) (h1 : i < 49152) : bd (sta 20 (sh, setR V 102 S) 124 i x) f' = f' (sh, setR (upV V 124 i x) 102 S) := sM H (by rw [k_124 H]) (by decide) h0 (by rw [k_124 H]; exact h1)
theorem ml125 (H : Sh sh) (h0 : 0 ≤ i) (h1 : i < 82) : bd (lda 20 (sh, setR V 102 S) 125 i) f = f (V 125 i) := lM H (by rw [k_125 H]) (by decide) h0 (by rw [k_125 H]; exact h1)
theorem ms125 (H : Sh sh) (h0 : 0 ≤ i) (h1 : i < 82) : bd (sta 20 (sh, setR V 102 S) 125 i x) f' = f' (sh, setR (upV V 125 i x) 102 S) := sM H (by rw [k_125 H]) (by decide) h0 (by rw [k_125 H]; exact h1)
theorem ml126 (H : Sh sh) (h0 : 0 ≤ i) (h1 : i < 82) : bd (lda 20 (sh, setR V 102 S) 126 i) f = f (V 126 i) := lM H (by rw [k_126 H]) (by decide) h0 (by rw [k_126 H]; exact h1)
theorem ms126 (H : Sh sh) (h0 : 0 ≤ i) (h1 : i < 82) : bd (sta 20 (sh, setR V 102 S) 126 i x) f' = f' (sh, setR (upV V 126 i x) 102 S) := sM H (by rw [k_126 H]) (by decide) h0 (by rw [k_126 H]; exact h1)
theorem ml127 (H : Sh sh) (h0 : 0 ≤ i) (h1 : i < 2) : bd (lda 20 (sh, setR V 102 S) 127 i) f = f (V 127 i) := lM H (by rw [k_127 H]) (by decide) h0 (by rw [k_127 H]; exact h1)
theorem ms127 (H : Sh sh) (h0 : 0 ≤ i) (h1 : i < 2) : bd (sta 20 (sh, setR V 102 S) 127 i x) f' = f' (sh, setR (upV V 127 i x) 102 S) := sM H (by rw [k_127 H]) (by decide) h0 (by rw [k_127 H]; exact h1)
theorem ml128 (H : Sh sh) (h0 : 0 ≤ i) (h1 : i < 4) : bd (lda 20 (sh, setR V 102 S) 128 i) f = f (V 128 i) := lM H (by rw [k_128 H]) (by decide) h0 (by rw [k_128 H]; exact h1)
theorem ms128 (H : Sh sh) (h0 : 0 ≤ i) (h1 : i < 4) : bd (sta 20 (sh, setR V 102 S) 128 i x) f' = f' (sh, setR (upV V 128 i x) 102 S) := sM H (by rw [k_128 H]) (by decide) h0 (by rw [k_128 H]; exact h1)
theorem ml129 (H : Sh sh) (h0 : 0 ≤ i) (h1 : i < 4) : bd (lda 20 (sh, setR V 102 S) 129 i) f = f (V 129 i) := lM H (by rw [k_129 H]) (by decide) h0 (by rw [k_129 H]; exact h1)
theorem ms129 (H : Sh sh) (h0 : 0 ≤ i) (h1 : i < 4) : bd (sta 20 (sh, setR V 102 S) 129 i x) f' = f' (sh, setR (upV V 129 i x) 102 S) := sM H (by rw [k_129 H]) (by decide) h0 (by rw [k_129 H]; exact h1)
theorem ml130 (H : Sh sh) (h0 : 0 ≤ i) (h1 : i < 160) : bd (lda 21 (sh, setR V 102 S) 130 i) f = f (V 130 i) := lM H (by rw [k_130 H]) (by decide) h0 (by rw [k_130 H]; exact h1)
theorem ms130 (H : Sh sh) (h0 : 0 ≤ i) (h1 : i < 160) : bd (sta 21 (sh, setR V 102 S) 130 i x) f' = f' (sh, setR (upV V 130 i x) 102 S) := sM H (by rw [k_130 H]) (by decide) h0 (by rw [k_130 H]; exact h1)
/-- scratch places of the class -/
def SF (V V' : Int → Int → Int) : Prop := ∀ a j, (a < 37 ∨ 93 ≤ a) → V' a j = V a j
theorem SF_refl : SF V V := fun _ _ _ => rfl
theorem SF_trans (h : SF V V') (h' : SF V' V2) : SF V V2 := fun a j q => (h' a j q).trans (h a j q)
theorem SF_up (h : SF V V') (h0 : 37 ≤ a) (h1 : a < 93) : SF V (upV V' a i x) := fun b j q => by rw [up_row (by omega)]; exact h b j q
theorem SF_set (h : SF V V') (h0 : 37 ≤ a) (h1 : a < 93) : SF V (setR V' a R) := fun b j q => by rw [setR_ne (by omega)]; exact h b j q
/-- scratch places of the reference -/
def MSc (a j : Int) : Prop := (a = 101 ∧ (j = 0 ∨ (6 ≤ j ∧ j ≤ 12) ∨ j = 17 ∨ (23 ≤ j ∧ j ≤ 25) ∨ (29 ≤ j ∧ j ≤ 32) ∨ j = 36 ∨ j = 38 ∨ j = 40)) ∨ (105 ≤ a ∧ a ≤ 127)
def FM (V V' : Int → Int → Int) : Prop := ∀ a j, ¬ MSc a j → V' a j = V a j
theorem FM_refl : FM V V := fun _ _ _ => rfl
theorem FM_trans (h : FM V V') (h' : FM V' V2) : FM V V2 := fun a j q => (h' a j q).trans (h a j q)
theorem FM_up (h : FM V V') (q : MSc a i) : FM V (upV V' a i x) := fun b j z => by
  unfold upV; rw [if_neg (fun e => z (by rw [e.1, e.2]; exact q))]; exact h b j z
theorem FM_set (h : FM V V') (h0 : 105 ≤ a) (h1 : a ≤ 127) : FM V (setR V' a R) := fun b j z => by
  rw [setR_ne (fun e => z (Or.inr (by omega)))]; exact h b j z
theorem PM_fm (P : PM V) (F : FM V V') : PM V' := by
  have hx : ∀ q ∈ ptM, ¬ MSc q.1 q.2.1 := by unfold MSc; decide
  exact fun q hq => (F _ _ (hx q hq)).trans (P q hq)
theorem FM0 : FM V (upV V 101 0 0) := FM_up FM_refl (Or.inl ⟨rfl, Or.inl rfl⟩)
theorem Pt_set (H : Sh sh) (h : (kS sh a).1 = 4 ∨ (kS sh a).1 = 6 ∨ (kS sh a).1 = 20 ∨ (kS sh a).1 = 21 ∨ (kS sh a).1 = 22 ∨ (kS sh a).1 = 23) : Pt (setR V a R) = Pt V := by
  have hx : ∀ q ∈ ptC, 0 ≤ q.1 ∧ q.1 < 131 ∧ (kS SH0 q.1).1 ≠ 4 ∧ (kS SH0 q.1).1 ≠ 6 ∧ (kS SH0 q.1).1 ≠ 20 ∧ (kS SH0 q.1).1 ≠ 21 ∧ (kS SH0 q.1).1 ≠ 22 ∧ (kS SH0 q.1).1 ≠ 23 := by decide +kernel
  have hne : ∀ q ∈ ptC, q.1 ≠ a := fun q hq e => by
    obtain ⟨h0, h1, h2⟩ := hx q hq
    have hk : kS sh q.1 = kS SH0 q.1 := by
      have := Sh_k H (a := q.1.toNat) (by omega)
      rw [Int.toNat_of_nonneg h0] at this; exact this
    rw [← e, hk] at h
    omega
  apply propext
  constructor
  · intro P q hq; have := P q hq; rw [setR_ne (hne q hq)] at this; exact this
  · intro P q hq; rw [setR_ne (hne q hq)]; exact P q hq
theorem Cx_lo {D : Int} (X : Cx sh V S D) (lo : ∀ a j, a < 37 → V' a j = V a j) (P : Pt V') : Cx sh V' S D := by
  obtain ⟨H, -, ⟨c1, c2, c3, c4, c5, c6⟩, O, T, hD⟩ := X
  have T' : TP V' := TP_of T (fun i j h0 h1 h2 h3 => lo _ _ (by omega))
  refine ⟨H, P, ⟨CK_of c1 O.1.2.2.2.1 (fun _ _ => rfl) (fun a j h0 h1 => lo _ _ (by omega)), CM_of c2 O.1.2.2.2.1 (fun _ _ => rfl) (lo _ _ (by decide)), by rw [lo _ _ (by decide)]; exact c3, fun i h0 h1 => ?_, fun d h0 h1 => by rw [lo _ _ (by decide)]; exact c5 d h0 h1, by rw [lo _ _ (by decide)]; exact c6⟩, O, T', hD⟩
  have o3 := O.2.2.1
  obtain ⟨p, p0, p1, p2, p3, p4⟩ := T.1 i h0 (by omega)
  have := c4 i h0 h1
  unfold TD at this ⊢
  simp (disch := omega) only [lo]
  exact this
theorem Cx_sf {D : Int} (X : Cx sh V S D) (F : SF V V') (P : Pt V') : Cx sh V' S D := Cx_lo X (fun a j h => F a j (Or.inl h)) P
theorem Cx_set {D : Int} (X : Cx sh V S D) (h0 : 37 ≤ a) (h1 : a < 93) (h : (kS sh a).1 = 4 ∨ (kS sh a).1 = 6 ∨ (kS sh a).1 = 20 ∨ (kS sh a).1 = 21 ∨ (kS sh a).1 = 22 ∨ (kS sh a).1 = 23) : Cx sh (setR V a R) S D := Cx_sf X (SF_set SF_refl h0 h1) (by rw [Pt_set X.1 h]; exact X.2.1)
/-- a row of numbers, as both sides have it -/
def RW1 (V V2 : Int → Int → Int) (w : Int) : Prop := (V2 128 w = -1 ∧ V (93 + 2 * w) 2 = 1) ∨ ((0 ≤ V2 128 w ∧ V2 128 w ≤ 3) ∧ V (93 + 2 * w) 2 = 0 ∧ V (93 + 2 * w) 3 = V2 128 w ∧ V (93 + 2 * w) 1 = V2 129 w ∧ (0 ≤ V2 129 w ∧ V2 129 w ≤ 40) ∧ ∀ k, 0 ≤ k → k < V2 129 w → V (94 + 2 * w) k = V2 130 (40 * w + k))
def RW (V V2 : Int → Int → Int) : Prop := ∀ w, 0 ≤ w → w < 4 → RW1 V V2 w
theorem RW1_congr {V V' V2 V2' : Int → Int → Int} {w : Int} (h : RW1 V V2 w) (h1 : ∀ j, V' (93 + 2 * w) j = V (93 + 2 * w) j) (h2 : ∀ j, V' (94 + 2 * w) j = V (94 + 2 * w) j) (h3 : V2' 128 w = V2 128 w) (h4 : V2' 129 w = V2 129 w) (h5 : ∀ k, 0 ≤ k → k < 40 → V2' 130 (40 * w + k) = V2 130 (40 * w + k)) : RW1 V' V2' w := by
  unfold RW1 at h ⊢
  rw [h1, h1, h1, h3, h4]
  rcases h with h | ⟨g1, g2, g3, g4, g5, g6⟩
  · exact Or.inl h
  · exact Or.inr ⟨g1, g2, g3, g4, g5, fun k q0 q1 => by rw [h2, h5 k q0 (by omega)]; exact g6 k q0 q1⟩
theorem k_row (H : Sh sh) (h0 : 0 ≤ r) (h1 : r < 4) : kS sh (93 + 2 * r) = (2, 4) ∧ kS sh (94 + 2 * r) = (21, 40) := by
  have : r = 0 ∨ r = 1 ∨ r = 2 ∨ r = 3 := by omega
  rcases this with rfl | rfl | rfl | rfl
  · exact ⟨k_93 H, k_94 H⟩
  · exact ⟨k_95 H, k_96 H⟩
  · exact ⟨k_97 H, k_98 H⟩
  · exact ⟨k_99 H, k_100 H⟩
theorem q_row (P : Pt V) (h0 : 0 ≤ r) (h1 : r < 4) : V 36 r = 93 + 2 * r ∧ V (93 + 2 * r) 0 = 94 + 2 * r := by
  have : r = 0 ∨ r = 1 ∨ r = 2 ∨ r = 3 := by omega
  rcases this with rfl | rfl | rfl | rfl
  · exact ⟨q_36_0 P, q_93_0 P⟩
  · exact ⟨q_36_1 P, q_95_0 P⟩
  · exact ⟨q_36_2 P, q_97_0 P⟩
  · exact ⟨q_36_3 P, q_99_0 P⟩
theorem b36w (H : Sh sh) (P : Pt V) (h0 : 0 ≤ r) (h1 : r < 4) : bd (lda 26 (sh, V) 36 r) f = f (93 + 2 * r) := by rw [blt (by rw [k_36 H]) h0 (by rw [k_36 H]; exact h1), (q_row P h0 h1).1]
theorem bnf (H : Sh sh) (h0 : 0 ≤ r) (h1 : r < 4) : bd (getf 2 k (sh, V) (93 + 2 * r)) f = f (V (93 + 2 * r) k) := bgt (by rw [(k_row H h0 h1).1])
theorem bni (H : Sh sh) (h0 : 0 ≤ r) (h1 : r < 4) {fu : Unit → Option γ} : bd (isk 2 (sh, V) (93 + 2 * r)) fu = fu () := bit (by rw [(k_row H h0 h1).1])
theorem bnl (H : Sh sh) (h0 : 0 ≤ r) (h1 : r < 4) (h2 : 0 ≤ k) (h3 : k < 40) : bd (lda 21 (sh, V) (94 + 2 * r) k) f = f (V (94 + 2 * r) k) := blt (by rw [(k_row H h0 h1).2]) h2 (by rw [(k_row H h0 h1).2]; exact h3)
theorem bns (H : Sh sh) (h0 : 0 ≤ r) (h1 : r < 4) (h2 : 0 ≤ k) (h3 : k < 40) : bd (sta 21 (sh, V) (94 + 2 * r) k x) f' = f' (sh, upV V (94 + 2 * r) k x) := bst (by rw [(k_row H h0 h1).2]) h2 (by rw [(k_row H h0 h1).2]; exact h3)
theorem T_isRow_eq {μ : Mem} : T_isRow r μ = some (B (0 ≤ r ∧ r < 4), μ) := by
  unfold T_isRow B
  by_cases h : r < 0
  · rw [if_pos h, if_neg (by omega)]
  · rw [if_neg h]
    by_cases h' : r < 4
    · rw [if_pos h', if_pos (by omega)]
    · rw [if_neg h', if_neg (by omega)]
theorem T_isRow_b {μ : Mem} {γ : Type} {fZ : Int → Mem → Option γ} : bd2 (T_isRow r μ) fZ = fZ (B (0 ≤ r ∧ r < 4)) μ := by
  rw [T_isRow_eq] <;> first | assumption | rfl
/-- filling a row -/
def fillV (V : Int → Int → Int) (a x n : Int) : Int → Int → Int := fun b j => if b = a ∧ 0 ≤ j ∧ j < n then x else V b j
theorem fillV_0 : fillV V a x 0 = V := by funext b j; unfold fillV; rw [if_neg (by omega)]
theorem fillV_s (z : Nat) : upV (fillV V a x z) a z x = fillV V a x ((z + 1 : Nat) : Int) := by
  funext b j; unfold upV fillV
  by_cases h : b = a
  · by_cases h' : j = z
    · rw [if_pos ⟨h, h'⟩, if_pos ⟨h, by omega, by omega⟩]
    · rw [if_neg (fun q => h' q.2)]
      by_cases q : 0 ≤ j ∧ j < z
      · rw [if_pos ⟨h, q⟩, if_pos ⟨h, by omega⟩]
      · rw [if_neg (fun z => q z.2), if_neg (by omega)]
  · rw [if_neg (fun q => h q.1), if_neg (fun q => h q.1), if_neg (fun q => h q.1)]
theorem J_fillJ_L (hk : kS sh a = (21, c)) (hc : c < 2000000000) : ∀ (n z : Nat), z ≤ c → c - z < n → J_fillJ_L6 n a x z c (sh, fillV V a x z) = some (0, (sh, fillV V a x c)) := by
  intro n
  induction n with
  | zero => intro z _ h; omega
  | succ n ih =>
    intro z hz hn
    rw [J_fillJ_L6]
    by_cases h : (z : Int) < (c : Int)
    · rw [if_pos h, bst (by rw [hk]) (by omega) (by rw [hk]; exact h), fillV_s, w32_id (by omega) (by omega)]
      exact ih (z + 1) (by omega) (by omega)
    · have : z = c := by omega
      rw [if_neg h, this]
theorem J_fillJ_eq (hk : kS sh a = (21, c)) (hc : c < 1000000) : J_fillJ a x (sh, V) = some (0, (sh, fillV V a x c)) := by
  unfold J_fillJ
  rw [alen_ok (by rw [hk]) (by rw [hk]; show c < 2147483648; omega), bd_mk, hk]
  have := J_fillJ_L (V := V) (x := x) hk (by omega) FU 0 (by omega) (by show _ < 1000000; omega)
  rw [show ((0 : Nat) : Int) = 0 from rfl, fillV_0] at this
  exact this
theorem J_fillJ_b (hk : kS sh a = (21, c)) (hc : c < 1000000) {γ : Type} {fZ : Int → Mem → Option γ} : bd2 (J_fillJ a x (sh, V)) fZ = fZ (0) (sh, fillV V a x c) := by
  rw [J_fillJ_eq] <;> first | assumption | rfl
theorem J_fill_L (hk : kS sh a = (20, c)) (hc : c < 2000000000) : ∀ (n z : Nat), z ≤ c → c - z < n → J_fill_L5 n a x z c (sh, fillV V a x z) = some (0, (sh, fillV V a x c)) := by
  intro n
  induction n with
  | zero => intro z _ h; omega
  | succ n ih =>
    intro z hz hn
    rw [J_fill_L5]
    by_cases h : (z : Int) < (c : Int)
    · rw [if_pos h, bst (by rw [hk]) (by omega) (by rw [hk]; exact h), fillV_s, w32_id (by omega) (by omega)]
      exact ih (z + 1) (by omega) (by omega)
    · have : z = c := by omega
      rw [if_neg h, this]
theorem J_fill_eq (hk : kS sh a = (20, c)) (hc : c < 1000000) : J_fill a x (sh, V) = some (0, (sh, fillV V a x c)) := by
  unfold J_fill
  rw [alen_ok (by rw [hk]) (by rw [hk]; show c < 2147483648; omega), bd_mk, hk]
  have := J_fill_L (V := V) (x := x) hk (by omega) FU 0 (by omega) (by show _ < 1000000; omega)
  rw [show ((0 : Nat) : Int) = 0 from rfl, fillV_0] at this
  exact this
theorem J_fill_b (hk : kS sh a = (20, c)) (hc : c < 1000000) {γ : Type} {fZ : Int → Mem → Option γ} : bd2 (J_fill a x (sh, V)) fZ = fZ (0) (sh, fillV V a x c) := by
  rw [J_fill_eq] <;> first | assumption | rfl
end FRAME
