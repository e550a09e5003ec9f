/-! PURE: the reference counts walks -/
section CNT6
variable {sh : List (Nat × Nat)} {V V' V1 V2 : Int → Int → Int} {t bt c D o fr v1 v2 i j x a : Int} {S : Int → Int} {n z d e s m g k : Nat} {y b : Nat → Nat}
/-- the way lies in row 118 from k on -/
def WL (V : Int → Int → Int) (S : Int → Int) : Nat → List Nat → Prop
  | _, [] => True
  | k, w :: ws => V 118 k = w ∧ (w : Int) < 2 * S 7 ∧ WL V S (k + 1) ws
theorem WL_fr (h : ∀ j, V' 118 j = V 118 j) : ∀ (ws : List Nat) (k : Nat), WL V S k ws → WL V' S k ws := by
  intro ws
  induction ws with
  | nil => intro k _; trivial
  | cons w ws ih => intro k q; exact ⟨by rw [h]; exact q.1, q.2.1, ih (k + 1) q.2.2⟩
theorem wb_41 (H : Sh sh) {N L : Nat} (hL : N + 1 ≤ L) (hN : N ≤ 40) (h7 : S 7 ≤ 24) : ∀ (n : Nat) (ws : List Nat) (k : Nat) (V : Int → Int → Int) (b : Nat → Nat), PM V → V 101 36 = c → V 101 38 = ((k + ws.length : Nat) : Int) → k + ws.length ≤ 80 → ws.length < n → TR V S c L → WL V S k ws → (∀ j : Nat, j ≤ N → V 116 j = rM c (shv k b j)) → ∃ V', MR V V' ∧ TR V' S c L ∧ M_walksBy_L41 n 101 N k (sh, setR V 102 S) = some (rM c (shv (k + ws.length) (cN b (PX S ws)) N), (sh, setR V' 102 S)) := by
  intro n
  induction n with
  | zero => intro ws _ _ _ _ _ _ _ h; omega
  | succ n ih =>
    intro ws k V b P hc h38 hk hn T W A
    rw [M_walksBy_L41, bg101 H, h38]
    cases ws with
    | nil =>
      refine ⟨V, MR_refl, T, ?_⟩
      rw [List.length_nil, Nat.add_zero, if_neg (by omega), bg101 H, q_101_34 P, ml116 H (by omega) (by omega), A N (by omega)]
      have : ∀ j, cN b (PX S []) j = b j := fun j => by rw [PX, cN_comm, cN_one]
      rw [show cN b (PX S []) = b from funext this]
    | cons w ws =>
      rw [List.length_cons] at h38 hk hn ⊢
      obtain ⟨w1, w2, w3⟩ := W
      obtain ⟨Va, f1, t1, a1, k1⟩ := wb_52 (b := shv k b) H (m := w) hL hN (by omega) w2 h7 FU 0 V P hc w1 (by omega) (by show _ < 1000000; omega) T A (fun j hj => by omega)
      have Pa := MR_PM f1 P
      obtain ⟨Vb, f2, t2, a2, k2⟩ := wb_132 (k := k) H hL hN FU 0 Va Pa (by omega) (by show _ < 1000000; omega) t1 a1 (fun j hj => by omega)
      have Pb := MR_PM f2 Pa
      have fx := MR_trans f1 f2
      have es : ∀ j, zN (cN (shv k b) (ev (Gx S w))) j = shv (k + 1) (cN b (Gx S w)) j := fun j => by
        rw [shv_s]; exact zN_congr (fun i _ => shv_cN k i)
      obtain ⟨Vc, f3, t3, k3⟩ := ih ws (k + 1) Vb (cN b (Gx S w)) Pb (by rw [fx _ _ (by decide) (by decide) (by decide)]; exact hc) (by rw [fx _ _ (by decide) (by decide) (by decide), h38]; congr 1; omega) (by omega) (by omega) t2 (WL_fr (fun j => fx _ _ (by decide) (by decide) (by decide)) ws (k + 1) w3) (fun j hj => by rw [a2 j hj, es])
      refine ⟨Vc, MR_trans fx f3, t3, ?_⟩
      rw [show ((0 : Nat) : Int) = 0 from rfl] at k1 k2
      rw [if_pos (by omega), k1, k2, w32_id (x := (k : Int) + 1) (by omega) (by omega), show (k : Int) + 1 = ((k + 1 : Nat) : Int) by omega, k3]
      have : ∀ j, cN (cN b (Gx S w)) (PX S ws) j = cN b (PX S (w :: ws)) j := fun j => cN_assoc j b
      rw [show cN (cN b (Gx S w)) (PX S ws) = cN b (PX S (w :: ws)) from funext this, show k + 1 + ws.length = k + (ws.length + 1) by omega]
theorem wb_ok (H : Sh sh) (K : KOk S) (P : PM V) (hc : V 101 36 = c) {N L : Nat} (hL : N + 1 ≤ L) (hN : N ≤ 40) (T : TR V S c L) {ws : List Nat} (hw : ws.length ≤ 80) (h38 : V 101 38 = ((ws.length : Nat) : Int)) (W : WL V S 0 ws) : ∃ V', MR V V' ∧ TR V' S c L ∧ M_walksBy 101 t N (sh, setR V 102 S) = some (rM c (WS S t ws N), (sh, setR V' 102 S)) := by
  obtain ⟨V1, f1, t1, a1, k1⟩ := wb_2 (t := t) H K hL hN FU 0 V P hc (by omega) (by show _ < 1000000; omega) T (fun j hj => by omega)
  obtain ⟨V2, f2, t2, k2⟩ := wb_41 H hL hN K.2.2.2.1 FU ws 0 V1 (Ux S t) (MR_PM f1 P) (by rw [f1 _ _ (by decide) (by decide) (by decide)]; exact hc) (by rw [f1 _ _ (by decide) (by decide) (by decide), h38]; congr 1; omega) (by omega) (by show _ < 1000000; omega) t1 (WL_fr (fun j => f1 _ _ (by decide) (by decide) (by decide)) ws 0 W) (fun j hj => by rw [a1 j hj, shv_0])
  refine ⟨V2, MR_trans f1 f2, t2, ?_⟩
  rw [show ((0 : Nat) : Int) = 0 from rfl] at k1 k2
  unfold M_walksBy
  rw [k1, k2, Nat.zero_add, shv_WS]
end CNT6
