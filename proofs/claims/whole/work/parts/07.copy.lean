/-! COPIES -/
def cpV (V : Int → Int → Int) (a0 sp a dp n : Int) : Int → Int → Int := fun b j => if b = a ∧ dp ≤ j ∧ j < dp + n then V a0 (sp + (j - dp)) else V b j
def acopy (ci : Nat) (μ : Mem) (a0 sp a dp n : Int) : Option Mem := if (kd μ a0).1 = ci ∧ (kd μ a).1 = ci ∧ 0 ≤ sp ∧ 0 ≤ n ∧ 0 ≤ dp ∧ sp + n ≤ (kd μ a0).2 ∧ dp + n ≤ (kd μ a).2 then some (μ.1, cpV μ.2 a0 sp a dp n) else none
def CopyOk (own : String) (idx : Nat) : Prop := Cond.methodLink own idx arraycopyName ∈ GW ∧ Cond.native arraycopyName ∈ GW ∧ Cond.static arraycopyName ∈ GW ∧ Cond.initialized "java/lang/System" ∈ GW
theorem acopy_spec {ci : Nat} {μ μ' : Mem} {a0 sp a dp n : Int} (h : acopy ci μ a0 sp a dp n = some μ') (hc : ci < 99) : 0 ≤ a0 ∧ ∃ n0 : Nat, μ.1[a0.toNat]? = some (ci, n0) ∧ 0 ≤ a ∧ ∃ n1 : Nat, μ.1[a.toNat]? = some (ci, n1) ∧ 0 ≤ sp ∧ 0 ≤ n ∧ 0 ≤ dp ∧ sp + n ≤ n0 ∧ dp + n ≤ n1 ∧ μ' = (μ.1, cpV μ.2 a0 sp a dp n) := by
  unfold acopy at h
  by_cases hk : (kd μ a0).1 = ci ∧ (kd μ a).1 = ci ∧ 0 ≤ sp ∧ 0 ≤ n ∧ 0 ≤ dp ∧ sp + n ≤ (kd μ a0).2 ∧ dp + n ≤ (kd μ a).2
  · rw [if_pos hk] at h
    obtain ⟨h0, h1⟩ := kd_at hk.1 (by omega)
    obtain ⟨h2, h3⟩ := kd_at hk.2.1 (by omega)
    exact ⟨h0, (kd μ a0).2, by rw [h1, ← hk.1], h2, (kd μ a).2, by rw [h3, ← hk.2.1], hk.2.2.1, hk.2.2.2.1, hk.2.2.2.2.1, hk.2.2.2.2.2.1, hk.2.2.2.2.2.2, (Option.some.inj h).symm⟩
  · rw [if_neg hk] at h; cases h
theorem kd_of {μ : Mem} {a : Int} {q : Nat × Nat} (h0 : 0 ≤ a) (h : μ.1[a.toNat]? = some q) : kd μ a = q := by unfold kd; rw [if_neg (by omega), h]; rfl
theorem rng_c {μ : Mem} {ci n0 n1 : Nat} {V : Int → Int → Int} {a0 sp a dp n : Int} {t : Nat} (ht : ∀ j, tyOf ci j = t) (h1 : ∀ j, rng (kd μ a0).1 j (V a0 j)) (h2 : ∀ j, rng (kd μ a).1 j (V a j)) (e0 : kd μ a0 = (ci, n0)) (e1 : kd μ a = (ci, n1)) (j : Int) : rng ci j (cpV V a0 sp a dp n a j) := by
  rw [e0] at h1; rw [e1] at h2
  unfold cpV
  split
  · have := h1 (sp + (j - dp)); unfold rng at this ⊢; rw [ht] at this ⊢; exact this
  · exact h2 j
section AMC
variable {p : Program} {l : Launch} {e : Env} {R : Room} {s : State} {m : MethodId} {args : Array Value} {below : List Frame} {meth : Method} {c : Code} {H : Heap} {locs : List Loc} {cells slots : Nat} {Q : State → Prop}
variable {cc : ByteArray} {pc : Nat} {ls : Array Slot} {rest : List Value} {E : EX} {μ μ' : Mem}
theorem rep_cp (hR : RepH E μ H) {a0 sp a dp n : Int} {ci n1 : Nat} {H1 : Heap} (h0 : 0 ≤ a) (hn : μ.1[a.toNat]? = some (ci, n1)) (hc : 20 ≤ ci) (hx : ∀ j, rng ci j (cpV μ.2 a0 sp a dp n a j)) (z : H1.size = H.size)
    (e : H1[eB E + a.toNat]? = some (vp_cell (eC E ci) (arE E ci n1 (cpV μ.2 a0 sp a dp n a)))) (oq : ∀ q : Nat, q ≠ eB E + a.toNat → H1[q]? = H[q]?) : RepH E (μ.1, cpV μ.2 a0 sp a dp n) H1 := by
  have hce : ∀ f, cE E (ci, n1) f = .inl (eC E ci, arE E ci n1 f) := fun f => by unfold cE; rw [if_neg (by show ¬ ci < 20; omega)]
  have hV : ∀ b : Int, b ≠ a → cpV μ.2 a0 sp a dp n b = μ.2 b := fun b hb => by funext j; unfold cpV; rw [if_neg (fun z => hb z.1)]
  refine ⟨?_, by rw [z]; exact hR.2.1, fun b j => ?_⟩
  · have hw : wsOf E (μ.1, cpV μ.2 a0 sp a dp n) = (wsOf E μ).set a.toNat (eB E + a.toNat, .inl (eC E ci, arE E ci n1 (cpV μ.2 a0 sp a dp n a))) := by
      apply List.ext_getElem?
      intro j
      rw [List.getElem?_set]
      have hk : a.toNat < μ.1.length := (List.getElem?_eq_some_iff.mp hn).1
      by_cases hj : a.toNat = j
      · subst hj
        rw [if_pos rfl, if_pos (by rw [ws_len]; exact hk), ws_at (μ := (μ.1, cpV μ.2 a0 sp a dp n)) hn, hce]
        show some (_, Sum.inl (_, arE E ci n1 (cpV μ.2 a0 sp a dp n ((a.toNat : Nat) : Int)))) = _
        rw [toNat_c h0]
      · rw [if_neg hj]
        simp only [wsOf, List.getElem?_mapIdx]
        rw [hV _ (by omega)]
    rw [hw]
    exact hR.1.set ws_D (arr_at h0 hn hc) e oq
  · show rng (kd μ b).1 j (cpV μ.2 a0 sp a dp n b j)
    by_cases hb : b = a
    · subst hb; rw [kd_of h0 hn]; exact hx j
    · rw [hV b hb]; exact hR.2.2 b j
theorem am_copyi (hexec : p.tables.exec = Jvm.exec) (hb : c.code = cc) (hml : c.maxLocals = ls.size) {own : String} {idx : Nat} (hts : ∀ w ∈ GW, w.before args s = true) (hown : s.vm.findClass own = some m.cls) (hw : CopyOk own idx) (hK : va_K (eD E) vwCl (TYS E) s) (hR : RepH E μ H) (hS : va_S (AE E) s.heap H locs)
    {a0 sp a dp n : Int} (h : acopy 20 μ a0 sp a dp n = some μ') (r1 : R32 sp) (r2 : R32 dp) (r3 : R32 n) (hframes : 1 ≤ R.frames) (hlocals : (rest.map fun v => v.category).sum + (nativeFrameWords "java/lang/System" "arraycopy" 5 + 11) ≤ R.locals) (hdg : decode cc pc = .ok (.invokestatic idx, 3))
    (kk : ∀ (H1 : Heap) (locs1 : List Loc), RepH E μ' H1 → va_S (AE E) s.heap H1 locs1 → W p l e R s m args below meth c H1 locs1 cells slots Q (F0 m (pc + 3) ls rest)) : W p l e R s m args below meth c H locs cells slots Q (F0 m pc ls (vi n :: vi dp :: vr E a :: vi sp :: vr E a0 :: rest)) := by
  obtain ⟨g0, n0, hn0, g1, n1, hn1, s0, s1, s2, s3, s4, rfl⟩ := acopy_spec h (by omega)
  rw [vr_pos g0, vr_pos g1]
  have hat0 := arr_at (E := E) g0 hn0 (by omega)
  have hat1 := arr_at (E := E) g1 hn1 (by omega)
  have e0 : ∀ (k : Nat) (f : Int → Int), vp_cell (eC E 20) (arE E 20 k f) = arrV (eC E 20) k (fun j => Value.int (Int32.ofInt (f j))) := fun k f => rfl
  obtain ⟨w1, w2, w3, w4⟩ := hw
  intro T hT X
  have hc0 : H[eB E + a0.toNat]? = some (arrV (eC E 20) n0 (fun j => Value.int (Int32.ofInt (μ.2 a0 j)))) := hR.1 a0.toNat _ hat0
  have hc1 : H[eB E + a.toNat]? = some (arrV (eC E 20) n1 (fun j => Value.int (Int32.ofInt (μ.2 a j)))) := hR.1 a.toNat _ hat1
  obtain ⟨-, k0, hk0, cm0, hkk0⟩ := (hK.2 0 _ rfl).1 n0 (fun j => Value.int (Int32.ofInt (μ.2 a0 j)))
  obtain ⟨-, k1, hk1, cm1, hkk1⟩ := (hK.2 0 _ rfl).1 n1 (fun j => Value.int (Int32.ofInt (μ.2 a j)))
  have t1 := i32_clamp r1 s0
  have t2 := i32_clamp r2 s2
  have t3 := i32_clamp r3 s1
  have u1 : (Int32.ofInt sp).toInt = sp := w32_R r1
  have u2 : (Int32.ofInt dp).toInt = dp := w32_R r2
  have u3 : (Int32.ofInt n).toInt = n := w32_R r3
  obtain ⟨vm', X', step⟩ := X.arraycopy hexec hown (hts _ w1) (hts _ w2) (hts _ w3) (hts _ w4) (src := eB E + a0.toNat) (dst := eB E + a.toNat) (cs := arrV (eC E 20) n0 (fun j => Value.int (Int32.ofInt (μ.2 a0 j)))) (cd := arrV (eC E 20) n1 (fun j => Value.int (Int32.ofInt (μ.2 a j)))) (srcPos := Int32.ofInt sp) (destPos := Int32.ofInt dp) (n := Int32.ofInt n) (by rw [hT]; exact hc0) (by rw [hT]; exact hc1)
    (fun _ h => by cases h) (fun _ h => by cases h) (fun h => by cases h) (fun h => by cases h) hk0 hk1 hkk0 hkk1 (by rfl) (i32_nneg r1 s0) (i32_nneg r2 s2) (i32_nneg r3 s1)
    (by rw [u1, u3, arrV_size]; omega)
    (by rw [u2, u3, arrV_size]; omega)
    (fun vm₁ _ i hi => by
      rw [t3] at hi
      have e : (arrV (eC E 20) n0 (fun j => Value.int (Int32.ofInt (μ.2 a0 j)))).slots.getD ((Int32.ofInt sp).toNatClampNeg + i) .null = Value.int (Int32.ofInt (μ.2 a0 ((sp.toNat + i : Nat) : Int))) := by
        rw [t1, Array.getD_eq_getD_getElem?, arrV_read _ _ (by omega)]
        rfl
      refine ⟨?_, ?_⟩
      · rw [e]; rfl
      · rw [e]; exact trivial)
    (g := F0 m pc ls (vi n :: vi dp :: .ref (eB E + a.toNat) :: vi sp :: .ref (eB E + a0.toNat) :: rest)) rfl (by rw [hml]) (rest := rest) rfl (by rw [hb]; exact hdg) hframes (by show 2 * 0 + _ + _ ≤ _; omega)
  have e1 : copied (arrV (eC E 20) n0 (fun j => Value.int (Int32.ofInt (μ.2 a0 j)))) (arrV (eC E 20) n1 (fun j => Value.int (Int32.ofInt (μ.2 a j)))) (Int32.ofInt sp) (Int32.ofInt dp) (Int32.ofInt n) = vp_cell (eC E 20) (arE E 20 n1 (cpV μ.2 a0 sp a dp n a)) := by
    show (arrV (eC E 20) n1 _).storeRun (Int32.ofInt dp).toNatClampNeg ((arrV (eC E 20) n0 _).stretch (Int32.ofInt sp).toNatClampNeg (Int32.ofInt n).toNatClampNeg) = _
    rw [t1, t2, t3, va_copied (fun z => Value.int z) (eC E 20) (eC E 20) (fun j => Int32.ofInt (μ.2 a0 j)) (fun j => Int32.ofInt (μ.2 a j)) (by omega), e0]
    congr 1; funext j; congr 1
    unfold va_cpy cpV
    by_cases hj : dp.toNat ≤ j ∧ j < dp.toNat + n.toNat
    · rw [if_pos hj, if_pos ⟨rfl, by omega, by omega⟩]; dsimp only; rw [show ((sp.toNat + (j - dp.toNat) : Nat) : Int) = sp + ((j : Int) - dp) by omega]
    · rw [if_neg hj, if_neg (fun z => hj (by omega))]
  rw [e1] at X' step
  have hl : eB E + a.toNat < H.size := (Array.getElem?_eq_some_iff.mp hc1).1
  have hheap : ((T.setVm vm').setCell (eB E + a.toNat) (vp_cell (eC E 20) (arE E 20 n1 (cpV μ.2 a0 sp a dp n a)))).heap = H.setIfInBounds (eB E + a.toNat) (vp_cell (eC E 20) (arE E 20 n1 (cpV μ.2 a0 sp a dp n a))) := by rw [← hT]; rfl
  have oq : ∀ q : Nat, q ≠ eB E + a.toNat → (H.setIfInBounds (eB E + a.toNat) (vp_cell (eC E 20) (arE E 20 n1 (cpV μ.2 a0 sp a dp n a))))[q]? = H[q]? := fun q hq => by simp [Array.getElem?_setIfInBounds, Ne.symm hq]
  have hAA : AE E (eB E + a.toNat) := Nat.le_add_right _ _
  obtain ⟨t, a1, b1⟩ := kk _ _ (rep_cp hR g1 hn1 (by omega) (fun j => rng_c (fun _ => rfl) (hR.2.2 a0) (hR.2.2 a) (kd_of g0 hn0) (kd_of g1 hn1) j) (by simp) (by simp [Array.getElem?_setIfInBounds, hl]) oq) ⟨by simp; exact hS.1, fun q g1 g2 => by
      rw [oq q (fun e => g2 (by rw [e]; exact hAA))]
      exact hS.2.1 q g1 g2, fun q hq => by
      rcases List.mem_append.mp hq with h | h
      · exact hS.2.2 q h
      · obtain ⟨z, -, hz⟩ := List.mem_map.mp h
        rw [← hz]
        exact hAA⟩ _ hheap X'
  exact ⟨t, step t a1, b1⟩
theorem am_copyl (hexec : p.tables.exec = Jvm.exec) (hb : c.code = cc) (hml : c.maxLocals = ls.size) {own : String} {idx : Nat} (hts : ∀ w ∈ GW, w.before args s = true) (hown : s.vm.findClass own = some m.cls) (hw : CopyOk own idx) (hK : va_K (eD E) vwCl (TYS E) s) (hR : RepH E μ H) (hS : va_S (AE E) s.heap H locs)
    {a0 sp a dp n : Int} (h : acopy 21 μ a0 sp a dp n = some μ') (r1 : R32 sp) (r2 : R32 dp) (r3 : R32 n) (hframes : 1 ≤ R.frames) (hlocals : (rest.map fun v => v.category).sum + (nativeFrameWords "java/lang/System" "arraycopy" 5 + 11) ≤ R.locals) (hdg : decode cc pc = .ok (.invokestatic idx, 3))
    (kk : ∀ (H1 : Heap) (locs1 : List Loc), RepH E μ' H1 → va_S (AE E) s.heap H1 locs1 → W p l e R s m args below meth c H1 locs1 cells slots Q (F0 m (pc + 3) ls rest)) : W p l e R s m args below meth c H locs cells slots Q (F0 m pc ls (vi n :: vi dp :: vr E a :: vi sp :: vr E a0 :: rest)) := by
  obtain ⟨g0, n0, hn0, g1, n1, hn1, s0, s1, s2, s3, s4, rfl⟩ := acopy_spec h (by omega)
  rw [vr_pos g0, vr_pos g1]
  have hat0 := arr_at (E := E) g0 hn0 (by omega)
  have hat1 := arr_at (E := E) g1 hn1 (by omega)
  have e0 : ∀ (k : Nat) (f : Int → Int), vp_cell (eC E 21) (arE E 21 k f) = arrV (eC E 21) k (fun j => Value.long (Int64.ofInt (f j))) := fun k f => rfl
  obtain ⟨w1, w2, w3, w4⟩ := hw
  intro T hT X
  have hc0 : H[eB E + a0.toNat]? = some (arrV (eC E 21) n0 (fun j => Value.long (Int64.ofInt (μ.2 a0 j)))) := hR.1 a0.toNat _ hat0
  have hc1 : H[eB E + a.toNat]? = some (arrV (eC E 21) n1 (fun j => Value.long (Int64.ofInt (μ.2 a j)))) := hR.1 a.toNat _ hat1
  obtain ⟨-, k0, hk0, cm0, hkk0⟩ := (hK.2 1 _ rfl).1 n0 (fun j => Value.long (Int64.ofInt (μ.2 a0 j)))
  obtain ⟨-, k1, hk1, cm1, hkk1⟩ := (hK.2 1 _ rfl).1 n1 (fun j => Value.long (Int64.ofInt (μ.2 a j)))
  have t1 := i32_clamp r1 s0
  have t2 := i32_clamp r2 s2
  have t3 := i32_clamp r3 s1
  have u1 : (Int32.ofInt sp).toInt = sp := w32_R r1
  have u2 : (Int32.ofInt dp).toInt = dp := w32_R r2
  have u3 : (Int32.ofInt n).toInt = n := w32_R r3
  obtain ⟨vm', X', step⟩ := X.arraycopy hexec hown (hts _ w1) (hts _ w2) (hts _ w3) (hts _ w4) (src := eB E + a0.toNat) (dst := eB E + a.toNat) (cs := arrV (eC E 21) n0 (fun j => Value.long (Int64.ofInt (μ.2 a0 j)))) (cd := arrV (eC E 21) n1 (fun j => Value.long (Int64.ofInt (μ.2 a j)))) (srcPos := Int32.ofInt sp) (destPos := Int32.ofInt dp) (n := Int32.ofInt n) (by rw [hT]; exact hc0) (by rw [hT]; exact hc1)
    (fun _ h => by cases h) (fun _ h => by cases h) (fun h => by cases h) (fun h => by cases h) hk0 hk1 hkk0 hkk1 (by rfl) (i32_nneg r1 s0) (i32_nneg r2 s2) (i32_nneg r3 s1)
    (by rw [u1, u3, arrV_size]; omega)
    (by rw [u2, u3, arrV_size]; omega)
    (fun vm₁ _ i hi => by
      rw [t3] at hi
      have e : (arrV (eC E 21) n0 (fun j => Value.long (Int64.ofInt (μ.2 a0 j)))).slots.getD ((Int32.ofInt sp).toNatClampNeg + i) .null = Value.long (Int64.ofInt (μ.2 a0 ((sp.toNat + i : Nat) : Int))) := by
        rw [t1, Array.getD_eq_getD_getElem?, arrV_read _ _ (by omega)]
        rfl
      refine ⟨?_, ?_⟩
      · rw [e]; rfl
      · rw [e]; exact trivial)
    (g := F0 m pc ls (vi n :: vi dp :: .ref (eB E + a.toNat) :: vi sp :: .ref (eB E + a0.toNat) :: rest)) rfl (by rw [hml]) (rest := rest) rfl (by rw [hb]; exact hdg) hframes (by show 2 * 0 + _ + _ ≤ _; omega)
  have e1 : copied (arrV (eC E 21) n0 (fun j => Value.long (Int64.ofInt (μ.2 a0 j)))) (arrV (eC E 21) n1 (fun j => Value.long (Int64.ofInt (μ.2 a j)))) (Int32.ofInt sp) (Int32.ofInt dp) (Int32.ofInt n) = vp_cell (eC E 21) (arE E 21 n1 (cpV μ.2 a0 sp a dp n a)) := by
    show (arrV (eC E 21) n1 _).storeRun (Int32.ofInt dp).toNatClampNeg ((arrV (eC E 21) n0 _).stretch (Int32.ofInt sp).toNatClampNeg (Int32.ofInt n).toNatClampNeg) = _
    rw [t1, t2, t3, va_copied (fun z => Value.long z) (eC E 21) (eC E 21) (fun j => Int64.ofInt (μ.2 a0 j)) (fun j => Int64.ofInt (μ.2 a j)) (by omega), e0]
    congr 1; funext j; congr 1
    unfold va_cpy cpV
    by_cases hj : dp.toNat ≤ j ∧ j < dp.toNat + n.toNat
    · rw [if_pos hj, if_pos ⟨rfl, by omega, by omega⟩]; dsimp only; rw [show ((sp.toNat + (j - dp.toNat) : Nat) : Int) = sp + ((j : Int) - dp) by omega]
    · rw [if_neg hj, if_neg (fun z => hj (by omega))]
  rw [e1] at X' step
  have hl : eB E + a.toNat < H.size := (Array.getElem?_eq_some_iff.mp hc1).1
  have hheap : ((T.setVm vm').setCell (eB E + a.toNat) (vp_cell (eC E 21) (arE E 21 n1 (cpV μ.2 a0 sp a dp n a)))).heap = H.setIfInBounds (eB E + a.toNat) (vp_cell (eC E 21) (arE E 21 n1 (cpV μ.2 a0 sp a dp n a))) := by rw [← hT]; rfl
  have oq : ∀ q : Nat, q ≠ eB E + a.toNat → (H.setIfInBounds (eB E + a.toNat) (vp_cell (eC E 21) (arE E 21 n1 (cpV μ.2 a0 sp a dp n a))))[q]? = H[q]? := fun q hq => by simp [Array.getElem?_setIfInBounds, Ne.symm hq]
  have hAA : AE E (eB E + a.toNat) := Nat.le_add_right _ _
  obtain ⟨t, a1, b1⟩ := kk _ _ (rep_cp hR g1 hn1 (by omega) (fun j => rng_c (fun _ => rfl) (hR.2.2 a0) (hR.2.2 a) (kd_of g0 hn0) (kd_of g1 hn1) j) (by simp) (by simp [Array.getElem?_setIfInBounds, hl]) oq) ⟨by simp; exact hS.1, fun q g1 g2 => by
      rw [oq q (fun e => g2 (by rw [e]; exact hAA))]
      exact hS.2.1 q g1 g2, fun q hq => by
      rcases List.mem_append.mp hq with h | h
      · exact hS.2.2 q h
      · obtain ⟨z, -, hz⟩ := List.mem_map.mp h
        rw [← hz]
        exact hAA⟩ _ hheap X'
  exact ⟨t, step t a1, b1⟩
end AMC
