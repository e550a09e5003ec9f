/-! new int[N][K] -/
def mnaI (N K : Nat) (μ : Mem) : Mem := (μ.1 ++ (27, N) :: List.replicate N (20, K), fun b j => if b = (μ.1.length : Int) then (if 0 ≤ j ∧ j < (N : Int) then (μ.1.length : Int) + 1 + j else -1) else if (μ.1.length : Int) < b ∧ b ≤ (μ.1.length : Int) + N then 0 else μ.2 b j)
section AMM
variable {p : Program} {l : Launch} {e : Env} {R : Room} {s : State} {m : MethodId} {args : Array Value} {below : List Frame} {meth : Method} {c : Code} {H : Heap} {locs : List Loc} {cells slots : Nat} {Q : State → Prop}
variable {cc : ByteArray} {pc : Nat} {ls : Array Slot} {rest : List Value} {E : EX} {μ μ' : Mem}
theorem mna_len {N K : Nat} : (mnaI N K μ).1.length = μ.1.length + 1 + N := by simp [mnaI]; omega
theorem mna_kd {N K : Nat} {a : Int} : kd (mnaI N K μ) a = if a = (μ.1.length : Int) then (27, N) else if (μ.1.length : Int) < a ∧ a ≤ (μ.1.length : Int) + N then (20, K) else kd μ a := by
  unfold kd
  show (if a < 0 then _ else ((μ.1 ++ (27, N) :: List.replicate N (20, K))[a.toNat]?).getD (99, 0)) = _
  by_cases h0 : a < 0
  · rw [if_pos h0, if_neg (by omega), if_neg (by omega), if_pos h0]
  · rw [if_neg h0, if_neg h0]
    rcases Nat.lt_trichotomy a.toNat μ.1.length with h | h | h
    · rw [if_neg (by omega), if_neg (by omega), List.getElem?_append_left h]
    · rw [if_pos (by omega), h]; simp
    · rw [if_neg (by omega), List.getElem?_append_right (by omega)]
      obtain ⟨j, hj⟩ : ∃ j, a.toNat - μ.1.length = j + 1 := ⟨a.toNat - μ.1.length - 1, by omega⟩
      rw [hj, List.getElem?_cons_succ]
      by_cases hjN : j < N
      · rw [if_pos (by omega), List.getElem?_replicate, if_pos hjN]; rfl
      · rw [if_neg (by omega), List.getElem?_replicate, if_neg hjN, List.getElem?_eq_none (by omega)]
theorem mna_can {N K : Nat} (h : Can μ) : Can (mnaI N K μ) := by
  intro a j
  rw [mna_kd]
  by_cases ha : a = (μ.1.length : Int)
  · rw [if_pos ha]; trivial
  · rw [if_neg ha]
    by_cases hb : (μ.1.length : Int) < a ∧ a ≤ (μ.1.length : Int) + N
    · rw [if_pos hb]
      have : (mnaI N K μ).2 a j = 0 := by unfold mnaI; show (if _ then _ else if _ then _ else _) = _; rw [if_neg ha, if_pos hb]
      rw [this]; exact R32_0
    · rw [if_neg hb]
      have : (mnaI N K μ).2 a j = μ.2 a j := by unfold mnaI; show (if _ then _ else if _ then _ else _) = _; rw [if_neg ha, if_neg hb]
      rw [this]; exact h a j
theorem am_mna (hexec : p.tables.exec = Jvm.exec) (hb : c.code = cc) {own : String} {idx N K : Nat} (hts : ∀ w ∈ GW, w.before args s = true) (hown : s.vm.findClass own = some m.cls) (hw : Cond.classLink own idx "[[I" ∈ GW) (hw2 : Cond.arrayClass .int ∈ GW) (hover : aoi s) (hK : va_K (eD E) vwCl (TYS E) s) (hR : RepH E μ H) (hS : va_S (AE E) s.heap H locs) (hNb : N * 4 ≤ 536870912) (hKb : K * 4 ≤ 536870912) (hcells : cells + (1 + N) ≤ R.cells) (hslots : slots + (N + N * K) ≤ R.slots) (hdg : decode cc pc = .ok (.multianewarray idx 2, 4))
    (kk : ∀ (H1 : Heap), RepH E (mnaI N K μ) H1 → va_S (AE E) s.heap H1 locs → W p l e R s m args below meth c H1 locs (cells + (1 + N)) (slots + (N + N * K)) Q (F0 m (pc + 4) ls (vr E (nlen μ) :: rest))) : W p l e R s m args below meth c H locs cells slots Q (F0 m pc ls (vi K :: vi N :: rest)) := by
  have rN : R32 (N : Int) := ⟨by omega, by omega⟩
  have rK : R32 (K : Int) := ⟨by omega, by omega⟩
  have cN : (Int32.ofInt (N : Int)).toNatClampNeg = N := by rw [i32_clamp rN (by omega)]; simp
  have cK : (Int32.ofInt (K : Int)).toNatClampNeg = K := by rw [i32_clamp rK (by omega)]; simp
  intro T hT Xs
  obtain ⟨vm₁, cA, comp, -, fA, fC, hO, -, X', step⟩ := Xs.multianewarray2F (ty := .int) hexec hown (hts _ hw) hover (hts _ hw2) (g := F0 m pc ls (vi K :: vi N :: rest)) rfl (by rw [hb]; exact hdg) (n := Int32.ofInt N) (k := Int32.ofInt K) rfl (i32_nneg rN (by omega)) (i32_nneg rK (by omega)) (by rw [cN]; exact hNb) (by rw [cK]; exact hKb) (by rw [cK]; omega) rfl rfl (by rw [cN]; exact hcells) (by rw [cN, cK]; exact hslots)
  rw [cN, cK] at X' step
  have e27 : cA = eC E 27 := Option.some.inj (fA.symm.trans (hK.2 7 _ rfl).2)
  have e20 : comp = eC E 20 := Option.some.inj (fC.symm.trans (hK.2 0 _ rfl).2)
  subst e27; subst e20
  generalize hF : Jvm.Free.Multi.fill (T.setVm vm₁) (eC E 27) (eC E 20) N K (defaultValue .int) N = F at X' step
  have hTh : (T.setVm vm₁).heap = H := hT
  obtain ⟨f1, f2, -, -⟩ := Jvm.Free.Multi.fill_facts (T.setVm vm₁) (eC E 27) (eC E 20) N K (defaultValue .int) N
  rw [hF, hTh] at f1 f2
  have hold : ∀ x : Nat, x < H.size → F.heap[x]? = H[x]? := fun x hx => by
    have := Jvm.Free.Multi.fill_old (T.setVm vm₁) (eC E 27) (eC E 20) N K (defaultValue .int) (a := x) (by rw [hTh]; exact hx) N
    rw [hF, hTh] at this
    exact this
  have hrow : ∀ j : Nat, j < N → F.heap[H.size + 1 + j]? = some (Jvm.Free.Multi.innerC (eC E 20) K (defaultValue .int)) := fun j hj => by
    have := Jvm.Free.Multi.fill_inner (T.setVm vm₁) (eC E 27) (eC E 20) N K (defaultValue .int) N j hj
    rw [hF, hTh] at this
    exact this
  have hout : Jvm.Free.Multi.outerC (eC E 27) N H.size N = vp_cell (eC E 27) (N, .inr (.inr (.inr (.inr (fun i => if i < N then some (H.size + 1 + i) else none))))) := by
    rw [vp_cell_q]
    have vo : ∀ i : Nat, Jvm.Free.Multi.outerC (eC E 27) N H.size i = arrV (eC E 27) N (fun j => va_rf (if j < i then some (H.size + 1 + j) else none)) := by
      intro i
      induction i with
      | zero =>
        show ({ cls := eC E 27, slots := Array.replicate N .null, vm := .none } : Cell) = _
        rw [arrV_new]
        refine congrArg (arrV (eC E 27) N) (funext fun j => ?_)
        simp [va_rf]
      | succ i ih =>
        show (Jvm.Free.Multi.outerC (eC E 27) N H.size i).setSlot i (.ref (H.size + 1 + i)) = _
        rw [ih, arrV_store]
        refine congrArg (arrV (eC E 27) N) (funext fun j => ?_)
        by_cases e : j = i
        · subst e
          simp [updV, va_rf]
        · by_cases h : j < i
          · simp [updV, e, h, Nat.lt_succ_of_lt h]
          · simp [updV, e, h, show ¬ j < i + 1 by omega]
    exact vo N
  rw [hout] at f2
  have hsz := hR.2.1
  have hRep : RepH E (mnaI N K μ) F.heap := by
    refine ⟨fun k q hk => ?_, by rw [mna_len, f1, hsz]; omega, mna_can hR.2.2⟩
    have hkl : k < (mnaI N K μ).1.length := by
      have := (List.getElem?_eq_some_iff.mp hk).1; rw [ws_len] at this; exact this
    rw [mna_len] at hkl
    rcases Nat.lt_trichotomy k μ.1.length with h | h | h
    · have hq : μ.1[k]? = some μ.1[k] := List.getElem?_eq_getElem h
      have hq' : (mnaI N K μ).1[k]? = some μ.1[k] := by show (μ.1 ++ _)[k]? = _; rw [List.getElem?_append_left h, hq]
      rw [ws_at hq'] at hk
      have hV : (mnaI N K μ).2 (k : Int) = μ.2 (k : Int) := by
        funext j; unfold mnaI; show (if _ then _ else if _ then _ else _) = _; rw [if_neg (by omega), if_neg (by omega)]
      rw [hV, ← ws_at (E := E) hq] at hk
      have h2 := hR.1 k q hk
      exact h2.kept (hold _ h2.lt)
    · subst h
      have hq' : (mnaI N K μ).1[μ.1.length]? = some (27, N) := by show (μ.1 ++ _)[μ.1.length]? = _; simp
      rw [ws_at hq'] at hk
      cases hk
      show F.heap[eB E + μ.1.length]? = some (vp_cell (eC E 27) (arE E 27 N _))
      rw [← hsz, f2]
      congr 2
      show (N, _) = (N, _)
      congr 5
      funext i
      unfold mnaI
      show _ = ro E (if _ then _ else _)
      rw [if_pos rfl]
      by_cases hi : i < N
      · rw [if_pos hi, if_pos (by omega), ro_pos (by omega), hsz]; congr 1; omega
      · rw [if_neg hi, if_neg (by omega)]; rfl
    · obtain ⟨j, rfl⟩ : ∃ j, k = μ.1.length + 1 + j := ⟨k - μ.1.length - 1, by omega⟩
      have hjN : j < N := by omega
      have hq' : (mnaI N K μ).1[μ.1.length + 1 + j]? = some (20, K) := by
        show (μ.1 ++ (27, N) :: List.replicate N (20, K))[μ.1.length + 1 + j]? = _
        rw [List.getElem?_append_right (by omega), show μ.1.length + 1 + j - μ.1.length = j + 1 by omega, List.getElem?_cons_succ, List.getElem?_replicate, if_pos hjN]
      rw [ws_at hq'] at hk
      cases hk
      have hV : (mnaI N K μ).2 ((μ.1.length + 1 + j : Nat) : Int) = fun _ => 0 := by
        funext x; unfold mnaI; show (if _ then _ else if _ then _ else _) = _; rw [if_neg (by omega), if_pos (by omega)]
      rw [hV]
      show F.heap[eB E + (μ.1.length + 1 + j)]? = some (vp_cell (eC E 20) (arE E 20 K _))
      rw [show eB E + (μ.1.length + 1 + j) = H.size + 1 + j by omega, hrow j hjN]
      congr 1
      unfold Jvm.Free.Multi.innerC
      rw [arrV_new]; rfl
  obtain ⟨t, a1, b1⟩ := kk F.heap hRep ⟨by rw [f1]; have := hS.1; omega, fun x h1 h2 => (hold x (Nat.lt_of_lt_of_le h1 hS.1)).trans (hS.2.1 x h1 h2), hS.2.2⟩ F rfl (by rw [show cells + (1 + N) = cells + 1 + N by omega, show slots + (N + N * K) = slots + N + N * K by omega]; exact X')
  refine ⟨t, step t ?_, b1⟩
  rw [hT, hsz, ← vr_new]
  exact a1
end AMM
section ATM
variable {E : EX} {X : CX} {cc : ByteArray} {nL : Nat} {own : String} {cs : Nat × Nat} {pc : Nat} {lv : List LV} {st : List TV} {μ : Mem} {idx : Nat}
theorem r_mna (hX : Good E X cc nL own) {N K : Nat} (hw : Cond.classLink own idx "[[I" ∈ GW ∧ Cond.arrayClass .int ∈ GW) (hb : N * 4 ≤ 536870912) (hb2 : K * 4 ≤ 536870912) (hrm : cs.1 + (1 + N) ≤ (cR X).cells ∧ cs.2 + (N + N * K) ≤ (cR X).slots) (dg : decode cc pc = .ok (.multianewarray idx 2, 4)) (k : At E X cc nL own (cs.1 + (1 + N), cs.2 + (N + N * K)) (pc + 4) lv ((2, nlen μ) :: st) (mnaI N K μ)) : At E X cc nL own cs pc lv ((0, (K : Int)) :: (0, (N : Int)) :: st) μ := by
  intro H locs ls hl hR hS
  obtain ⟨z, -, ha⟩ := hX.2.2.2.2.2.1.2.2.2.2.2.2.2
  exact am_mna hX.1 hX.2.1 hX.2.2.2.2.1 hX.2.2.2.1 hw.1 hw.2 ha hX.2.2.2.2.2.1.1 hR hS hb hb2 hrm.1 hrm.2 dg (fun H1 h1 h2 => k H1 locs ls hl h1 h2)
end ATM
