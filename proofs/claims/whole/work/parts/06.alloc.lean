/-! NEW CELLS -/
def dfl (ci : Nat) : Int → Int := fun j => if tyOf ci j = 2 then -1 else 0
def NewOk (own : String) (idx ci N : Nat) : Prop := ∃ (C : String) (T : u_T) (tys : Nat → FieldType), ClsOk ci C T N tys ∧ Cond.classLink own idx C ∈ GW ∧ Cond.instantiable C N ∈ GW ∧ Cond.initialized C ∈ GW
theorem newc_len {ci N : Nat} {μ : Mem} : (newc ci N μ).1.length = μ.1.length + 1 := by simp [newc]
theorem newc_old {ci N k : Nat} {μ : Mem} (h : k < μ.1.length) : (newc ci N μ).2 k = μ.2 k := by
  funext j; unfold newc; show (if ((k : Int) = _) then _ else _) = _; rw [if_neg (by omega)]
theorem newc_new {ci N : Nat} {μ : Mem} : (newc ci N μ).2 (μ.1.length : Int) = dfl ci := by
  funext j; unfold newc; show (if _ then _ else _) = _; rw [if_pos rfl]; rfl
theorem ws_new {E : EX} {ci N : Nat} {μ : Mem} : wsOf E (newc ci N μ) = wsOf E μ ++ [(eB E + μ.1.length, cE E (ci, N) (dfl ci))] := by
  apply List.ext_getElem?
  intro j
  rcases Nat.lt_trichotomy j μ.1.length with h | h | h
  · rw [List.getElem?_append_left (by rw [ws_len]; exact h)]
    simp only [wsOf, List.getElem?_mapIdx]
    rw [newc_old h]
    show Option.map _ (μ.1 ++ [(ci, N)])[j]? = _
    rw [List.getElem?_append_left h]
  · subst h
    rw [List.getElem?_append_right (by rw [ws_len]; omega), ws_len, Nat.sub_self]
    have := ws_at (E := E) (μ := newc ci N μ) (k := μ.1.length) (q := (ci, N)) (by show (μ.1 ++ [(ci, N)])[μ.1.length]? = _; simp)
    rw [this, newc_new]; rfl
  · rw [List.getElem?_eq_none (by rw [ws_len, newc_len]; omega), List.getElem?_eq_none (by simp [ws_len]; omega)]
theorem kd_new {ci N : Nat} {μ : Mem} {a : Int} : kd (newc ci N μ) a = if a = (μ.1.length : Int) then (ci, N) else kd μ a := by
  unfold kd
  show (if a < 0 then _ else ((μ.1 ++ [(ci, N)])[a.toNat]?).getD (99, 0)) = _
  by_cases h0 : a < 0
  · rw [if_pos h0, if_neg (by omega), if_pos h0]
  · rw [if_neg h0, if_neg h0]
    rcases Nat.lt_trichotomy a.toNat μ.1.length with h | h | h
    · rw [if_neg (by omega), List.getElem?_append_left h]
    · rw [if_pos (by omega), h]; simp
    · rw [if_neg (by omega), List.getElem?_eq_none (by simp; omega), List.getElem?_eq_none (by omega)]
theorem Can_new {ci N : Nat} {μ : Mem} (h : Can μ) : Can (newc ci N μ) := by
  intro a j
  rw [kd_new]
  by_cases ha : a = (μ.1.length : Int)
  · rw [if_pos ha, ha, newc_new]
    show rng ci j (dfl ci j)
    unfold rng dfl
    split <;> rename_i hq
    · rw [hq]; exact R32_0
    · rw [hq]; unfold R64; decide
    · trivial
  · rw [if_neg ha]
    have : (newc ci N μ).2 a j = μ.2 a j := by unfold newc; show (if _ then _ else _) = _; rw [if_neg ha]
    rw [this]; exact h a j
theorem dfl_ok {E : EX} {ci k : Nat} {ty : FieldType} (h : (ftys ci)[k]? = some (tyTag ty)) (hc : ci < 20) (hty : ty ≠ .float ∧ ty ≠ .double) : defaultValue ty = vp_V (fvs E ci (dfl ci)) k := by
  have e1 : vp_V (fvs E ci (dfl ci)) k = tv E (tyTag ty) (dfl ci k) := by simp [vp_V, List.getD, fvs_at h]
  have e2 : dfl ci k = if tyTag ty = 2 then -1 else 0 := by unfold dfl; rw [tyOf_f h hc]
  rw [e1, e2]
  cases ty <;> first | rfl | exact absurd rfl hty.1 | exact absurd rfl hty.2
section AMN
variable {p : Program} {l : Launch} {e : Env} {R : Room} {s : State} {m : MethodId} {args : Array Value} {below : List Frame} {meth : Method} {c : Code} {H : Heap} {locs : List Loc} {cells slots : Nat} {Q : State → Prop}
variable {cc : ByteArray} {pc : Nat} {ls : Array Slot} {rest : List Value} {E : EX} {μ μ' : Mem}
theorem rep_new (hR : RepH E μ H) {ci N : Nat} {H1 : Heap} (z : H1.size = H.size + 1) (oq : ∀ q : Nat, q < H.size → H1[q]? = H[q]?) (hat : va_at (eD E) vwCl (eB E + μ.1.length, cE E (ci, N) (dfl ci)) H1) : RepH E (newc ci N μ) H1 := by
  refine ⟨?_, by rw [newc_len, z, hR.2.1]; omega, Can_new hR.2.2⟩
  rw [ws_new]
  refine va_P.app (hR.1.kept fun k q hk => oq q.1 (hR.1 k q hk).lt) (fun k q hk => ?_)
  have hz : k < 1 := (List.getElem?_eq_some_iff.mp hk).1
  rw [show k = 0 by omega] at hk
  cases hk
  exact hat
theorem S_new (hS : va_S (AE E) s.heap H locs) {H1 : Heap} (z : H1.size = H.size + 1) (oq : ∀ q : Nat, q < H.size → H1[q]? = H[q]?) : va_S (AE E) s.heap H1 locs :=
  ⟨Nat.le_trans hS.1 (by omega), fun x h1 h2 => (oq x (Nat.lt_of_lt_of_le h1 hS.1)).trans (hS.2.1 x h1 h2), hS.2.2⟩
theorem vr_new {μ : Mem} : vr E (nlen μ) = .ref (eB E + μ.1.length) := by
  rw [vr_pos (by unfold nlen; omega)]; rfl
theorem am_new (hexec : p.tables.exec = Jvm.exec) (hb : c.code = cc) {own : String} {idx ci N : Nat} (hts : ∀ w ∈ GW, w.before args s = true) (hown : s.vm.findClass own = some m.cls) (hK : va_K (eD E) vwCl (TYS E) s) (hN : NewOk own idx ci N) (hR : RepH E μ H) (hS : va_S (AE E) s.heap H locs) (hcells : cells + 1 ≤ R.cells) (hslots : slots + N ≤ R.slots) (hdg : decode cc pc = .ok (.new idx, 3))
    (kk : ∀ (H1 : Heap), RepH E (newc ci N μ) H1 → va_S (AE E) s.heap H1 locs → W p l e R s m args below meth c H1 locs (cells + 1) (slots + N) Q (F0 m (pc + 3) ls (vr E (nlen μ) :: rest))) : W p l e R s m args below meth c H locs cells slots Q (F0 m pc ls rest) := by
  obtain ⟨C, T, tys, ⟨hcl, hin, hty, hnm, hT, hlen, hc, hfd⟩, w1, w2, w3⟩ := hN
  have hKn := hK.1 ci _ hcl
  refine W.newcK hexec hb hown (hts _ w1) (hts _ w2) (hts _ w3) rfl hdg hcells hslots hKn.2.1 rfl fun H1 kC hkC e1 z1 o1 => ?_
  have := kk H1 (rep_new (ci := ci) (N := N) hR z1 o1 ?_) (S_new hS z1 o1)
  · rw [vr_new, ← hR.2.1] at this; exact this
  · rw [show cE E (ci, N) (dfl ci) = .inr (ci, fvs E ci (dfl ci)) by unfold cE; rw [if_pos hc], ← hR.2.1]
    exact ⟨_, hcl, (u_born tys hts hin hKn hkC e1 hty).to (fun j hj => dfl_ok (hT j hj).2 hc (hfd j hj))⟩
theorem am_newa (hexec : p.tables.exec = Jvm.exec) (hb : c.code = cc) {atype : ArrayType} {ty : FieldType} {ci t0 N : Nat} (hts : ∀ w ∈ GW, w.before args s = true) (hw : Cond.arrayClass ty ∈ GW) (hty : newarray.typeOf atype = ty) (hK : va_K (eD E) vwCl (TYS E) s) (hci : 20 ≤ ci) (ht : (TYS E)[t0]? = some (eC E ci, ty)) (hdf : ∀ n : Nat, vp_cell (eC E ci) (arE E ci n (dfl ci)) = arrV (eC E ci) n (fun _ => defaultValue ty)) (hnm : va_RA s (eC E ci) ty → s.vm.findClass ("[" ++ ty.toString) = some (eC E ci)) (hR : RepH E μ H) (hS : va_S (AE E) s.heap H locs) (hNb : N * componentBytes ty ≤ 536870912) (hNr : N < 2147483648) (hcells : cells + 1 ≤ R.cells) (hslots : slots + N ≤ R.slots) (hdg : decode cc pc = .ok (.newarray atype, 2))
    (kk : ∀ (H1 : Heap), RepH E (newc ci N μ) H1 → va_S (AE E) s.heap H1 locs → W p l e R s m args below meth c H1 locs (cells + 1) (slots + N) Q (F0 m (pc + 2) ls (vr E (nlen μ) :: rest))) : W p l e R s m args below meth c H locs cells slots Q (F0 m pc ls (vi N :: rest)) := by
  have hR32 : R32 (N : Int) := ⟨by omega, by omega⟩
  subst hty
  refine va_newaK hexec hb (hts _ hw) rfl hdg rfl (i32_nneg hR32 (by omega)) (by rw [i32_clamp hR32 (by omega)]; simp) hNb hcells hslots rfl fun H1 cA e1 z1 o1 hAr hNm => ?_
  have hcA : cA = eC E ci := Option.some.inj (hNm.symm.trans (hnm (hK.2 t0 _ ht).2))
  subst hcA
  have := kk H1 (rep_new (ci := ci) (N := N) hR z1 o1 ?_) (S_new hS z1 o1)
  · rw [vr_new, ← hR.2.1] at this; exact this
  · rw [show cE E (ci, N) (dfl ci) = .inl (eC E ci, arE E ci N (dfl ci)) by unfold cE; rw [if_neg (by show ¬ ci < 20; omega)], ← hR.2.1]
    show H1[H.size]? = some (vp_cell _ _)
    rw [hdf]; exact e1
theorem dfl_c {ci t : Nat} (h : ∀ j, tyOf ci j = t) : dfl ci = fun _ => if t = 2 then -1 else 0 := by funext j; unfold dfl; rw [h]
theorem hdf20 (n : Nat) : vp_cell (eC E 20) (arE E 20 n (dfl 20)) = arrV (eC E 20) n (fun _ => defaultValue .int) := rfl
theorem hdf21 (n : Nat) : vp_cell (eC E 21) (arE E 21 n (dfl 21)) = arrV (eC E 21) n (fun _ => defaultValue .long) := rfl
theorem hdf22 (n : Nat) : vp_cell (eC E 22) (arE E 22 n (dfl 22)) = arrV (eC E 22) n (fun _ => defaultValue .byte) := rfl
theorem hdf23 (n : Nat) : vp_cell (eC E 23) (arE E 23 n (dfl 23)) = arrV (eC E 23) n (fun _ => defaultValue .boolean) := rfl
theorem am_newq (hexec : p.tables.exec = Jvm.exec) (hb : c.code = cc) {own C : String} {idx ci t0 N : Nat} (hts : ∀ w ∈ GW, w.before args s = true) (hown : s.vm.findClass own = some m.cls) (hw : Cond.classLink own idx C ∈ GW) (hover : va_AO C s) (hK : va_K (eD E) vwCl (TYS E) s) (hci : 24 ≤ ci) (ht : (TYS E)[t0]? = some (eC E ci, .object C)) (hR : RepH E μ H) (hS : va_S (AE E) s.heap H locs) (hNb : N * 4 ≤ 536870912) (hNr : N < 2147483648) (hcells : cells + 1 ≤ R.cells) (hslots : slots + N ≤ R.slots) (hdg : decode cc pc = .ok (.anewarray idx, 3))
    (kk : ∀ (H1 : Heap), RepH E (newc ci N μ) H1 → va_S (AE E) s.heap H1 locs → W p l e R s m args below meth c H1 locs (cells + 1) (slots + N) Q (F0 m (pc + 3) ls (vr E (nlen μ) :: rest))) : W p l e R s m args below meth c H locs cells slots Q (F0 m pc ls (vi N :: rest)) := by
  have hR32 : R32 (N : Int) := ⟨by omega, by omega⟩
  intro T hT X
  have hcl : (Int32.ofInt (N : Int)).toNatClampNeg = N := by rw [i32_clamp hR32 (by omega)]; simp
  obtain ⟨vm₁, cA, kA, comp, hW, h1, h2, h3, h4, X', st⟩ := X.anewarrayRef hexec hown (hts _ hw) (va_AO.use hover) (g := F0 m pc ls (vi N :: rest)) rfl (by rw [hb]; exact hdg) (n := Int32.ofInt N) rfl (i32_nneg hR32 (by omega)) (by rw [hcl]; exact hNb) hcells (by rw [hcl]; exact hslots)
  rw [hcl] at X' st
  obtain ⟨kA', comp', q1, q2, q3, q4⟩ := (hK.2 t0 _ ht).2
  have hcA : cA = eC E ci := Option.some.inj (h1.symm.trans q4)
  subst hcA
  have hd : dfl ci = fun _ => -1 := by
    have eT : ∀ j, tyOf ci j = 2 := fun j => by unfold tyOf; rw [if_neg (by omega), if_neg (by omega), if_pos hci]
    funext j; unfold dfl; rw [eT]; rfl
  have hh : ((T.setVm vm₁).pushCell { cls := eC E ci, slots := Array.replicate N .null, vm := .none }).heap = H.push { cls := eC E ci, slots := Array.replicate N .null, vm := .none } := by rw [← hT]; rfl
  have z1 : (H.push { cls := eC E ci, slots := Array.replicate N .null, vm := .none }).size = H.size + 1 := by simp
  have o1 : ∀ q : Nat, q < H.size → (H.push { cls := eC E ci, slots := Array.replicate N .null, vm := .none })[q]? = H[q]? := fun q hq => by rw [Array.getElem?_push, if_neg (Nat.ne_of_lt hq)]
  have hat : va_at (eD E) vwCl (eB E + μ.1.length, cE E (ci, N) (dfl ci)) (H.push { cls := eC E ci, slots := Array.replicate N .null, vm := .none }) := by
    rw [show cE E (ci, N) (dfl ci) = .inl (eC E ci, arE E ci N (dfl ci)) by unfold cE; rw [if_neg (by show ¬ ci < 20; omega)], ← hR.2.1]
    show (H.push _)[H.size]? = some (vp_cell _ _)
    rw [show arE E ci N (dfl ci) = (N, .inr (.inr (.inr (.inr fun _ => none)))) by rw [hd]; unfold arE; rw [if_neg (by omega), if_pos hci]; rfl, vp_cell_q, ← arrV_new]
    simp [va_rf]
  obtain ⟨t, a1, b1⟩ := kk _ (rep_new (ci := ci) (N := N) hR z1 o1 hat) (S_new hS z1 o1) _ hh X'
  refine ⟨t, st t ?_, b1⟩
  rw [hT, hR.2.1, ← vr_new]; exact a1
end AMN
