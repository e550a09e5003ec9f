/-! RETURNS, CALLS, NEW OBJECTS, in the judgement At -/
section ATC
variable {E : EX} {X : CX} {cc : ByteArray} {nL : Nat} {own : String} {cs : Nat × Nat} {pc : Nat} {lv lv' : List LV} {st : List TV} {μ μ' : Mem} {mc ms : Nat}
theorem QcEnd {rv : Option TV} {H : Heap} {locs : List Loc} (hv : rvR rv) (hR : RepH E μ H) (hS : va_S (AE E) (cS X).heap H locs) : ∀ t : State, t.heap = H → (cS X).WarmedH t.vm → QcOf E rv μ X.2.1.2.1 (cS X) (.returned (rv.map (sv E))) t :=
  fun t ht _ => ⟨⟨rfl, by rw [ht]; exact hR, hv⟩, hS.F ht⟩
theorem r_ireturn (hX : Good E X cc nL own) {x : Int} (hr : R32 x) (hM : GoodM E X (some .int) (some (0, x)) μ mc ms) (hc : cs.1 ≤ mc ∧ cs.2 ≤ ms) (d : decode cc pc = .ok (.ireturn, 1)) : At E X cc nL own cs pc lv [(0, x)] μ := by
  intro H locs ls hl hR hS
  have h := W.iret (v := Int32.ofInt x) (Qc := QcOf E (some (0, x)) μ) (free := AE E) (p := X.1.1) (l := X.1.2.1) (e := X.1.2.2.1) (R := X.1.2.2.2.1) (m := X.2.1.1) (below := X.2.1.2.2.1) (cells := mc) (slots := ms) (locs := locs) (ls := ls) hX.1 hX.2.1 hM.1 (QcEnd hr hR hS) hS.2.2 d hM.2.1
  rw [← hM.2.2] at h
  exact W.widen hc.1 hc.2 h
theorem nar_z {x : Int} (h : x = 0 ∨ x = 1) : narrow .boolean (.int (Int32.ofInt x)) = .int (Int32.ofInt x) := by rcases h with rfl | rfl <;> rfl
theorem r_zreturn (hX : Good E X cc nL own) {x : Int} (hr : R32 x) (hM : GoodM E X (some .boolean) (some (0, x)) μ mc ms) (hx : x = 0 ∨ x = 1) (hc : cs.1 ≤ mc ∧ cs.2 ≤ ms) (d : decode cc pc = .ok (.ireturn, 1)) : At E X cc nL own cs pc lv [(0, x)] μ := by
  intro H locs ls hl hR hS
  have h := W.zret (v := Int32.ofInt x) (Qc := QcOf E (some (0, x)) μ) (free := AE E) (p := X.1.1) (l := X.1.2.1) (e := X.1.2.2.1) (R := X.1.2.2.2.1) (m := X.2.1.1) (below := X.2.1.2.2.1) (cells := mc) (slots := ms) (locs := locs) (ls := ls) hX.1 hX.2.1 hM.1 (nar_z hx) (QcEnd hr hR hS) hS.2.2 d hM.2.1
  rw [← hM.2.2] at h
  exact W.widen hc.1 hc.2 h
theorem r_lreturn (hX : Good E X cc nL own) {x : Int} (hr : R64 x) (hM : GoodM E X (some .long) (some (1, x)) μ mc ms) (hc : cs.1 ≤ mc ∧ cs.2 ≤ ms) (d : decode cc pc = .ok (.lreturn, 1)) : At E X cc nL own cs pc lv [(1, x)] μ := by
  intro H locs ls hl hR hS
  have h := W.lret (v := Int64.ofInt x) (Qc := QcOf E (some (1, x)) μ) (free := AE E) (p := X.1.1) (l := X.1.2.1) (e := X.1.2.2.1) (R := X.1.2.2.2.1) (m := X.2.1.1) (below := X.2.1.2.2.1) (cells := mc) (slots := ms) (locs := locs) (ls := ls) hX.1 hX.2.1 hM.1 (QcEnd hr hR hS) hS.2.2 d hM.2.1
  rw [← hM.2.2] at h
  exact W.widen hc.1 hc.2 h
theorem r_return (hX : Good E X cc nL own) (hM : GoodM E X none none μ mc ms) (hc : cs.1 ≤ mc ∧ cs.2 ≤ ms) (d : decode cc pc = .ok (.return_, 1)) : At E X cc nL own cs pc lv [] μ := by
  intro H locs ls hl hR hS
  have h := W.vret (Qc := QcOf E none μ) (free := AE E) (p := X.1.1) (l := X.1.2.1) (e := X.1.2.2.1) (R := X.1.2.2.2.1) (m := X.2.1.1) (below := X.2.1.2.2.1) (cells := mc) (slots := ms) (locs := locs) (ls := ls) hX.1 hX.2.1 hM.1 (QcEnd trivial hR hS) hS.2.2 d hM.2.1
  rw [← hM.2.2] at h
  exact W.widen hc.1 hc.2 h
/-- room for a call: frames and locals, cells and slots -/
def Rm (X : CX) (d mc ms : Nat) (cs : Nat × Nat) : Prop := d + 1 ≤ (cR X).frames ∧ 100 * (d + 1) ≤ (cR X).locals ∧ cs.1 + mc ≤ (cR X).cells ∧ cs.2 + ms ≤ (cR X).slots
theorem Rm_of {D MC MS d mc ms : Nat} {cs : Nat × Nat} (h : cR X = rmOf D MC MS) (h1 : d + 1 ≤ D) (h2 : cs.1 + mc ≤ MC ∧ cs.2 + ms ≤ MS) : Rm X d mc ms cs := by
  unfold Rm; rw [h]; exact ⟨h1, by show _ ≤ 100 * D; omega, h2.1, h2.2⟩
/-- behind a call -/
theorem back_W {rv : Option TV} {H : Heap} {locs : List Loc} {ls : Array Slot} {st0 : List Value} {a : Array Value} (hr : va_Run X.1.1 X.1.2.1 X.1.2.2.1 X.1.2.2.2.1 X.1.2.2.2.2 X.2.1.1 X.2.1.2.1 X.2.1.2.2.1 X.2.1.2.2.2.1 X.2.1.2.2.2.2 H locs cs.1 cs.2 mc ms (F0 X.2.1.1 pc ls st0) (st.map (sv E)) (QcOf E rv μ' a) (AE E)) (hl : lv_has ls nL (lvV E lv)) (hS : va_S (AE E) (cS X).heap H locs)
    (k : rvR rv → At E X cc nL own (cs.1 + mc, cs.2 + ms) (pc + 3) lv (rv.toList ++ st) μ') : W X.1.1 X.1.2.1 X.1.2.2.1 X.1.2.2.2.1 X.1.2.2.2.2 X.2.1.1 X.2.1.2.1 X.2.1.2.2.1 X.2.1.2.2.2.1 X.2.1.2.2.2.2 H locs cs.1 cs.2 X.2.2 (F0 X.2.1.1 pc ls st0) := by
  intro T hT Xs
  obtain ⟨v, s0, t, T', L, h0, X', hL, e1, e2, ⟨⟨hv, hRep, hrv⟩, hz, hk⟩, stp⟩ := hr T hT Xs
  cases hv
  rw [h0] at hz hk
  obtain ⟨t2, a1, b1⟩ := k hrv T'.heap (locs ++ L) ls hl (by rw [e1]; exact hRep)
    ⟨Nat.le_trans hS.1 (by rw [e1]; exact hz), fun q h1 h2 => by rw [e1, hk q (Nat.lt_of_lt_of_le h1 hS.1) h2]; exact hS.2.1 q h1 h2, fun q hq => by
      rcases List.mem_append.mp hq with h | h
      · exact hS.2.2 q h
      · exact hL q h⟩ T' rfl X'
  refine ⟨t2, stp t2 ?_, b1⟩
  have e : (rv.toList ++ st).map (sv E) = (rv.map (sv E)).toList ++ st.map (sv E) := by cases rv <;> rfl
  rw [e] at a1
  exact a1
theorem pre_blind (av : List TV) : FrameBlind (va_Pc (av.map (sv E)) (fun U => RepH E μ U.heap ∧ KU E U ∧ eB E ≤ U.heap.size)) := by
  intro a U g mk h
  obtain ⟨h1, h2, h3, h4⟩ := h
  exact ⟨h1, h2, ⟨va_K.moved (u := U) (U := U.calling g mk a) (Vm.Alike.refl U.vm) h3.1, fun w hw => va_Nw.same (u := U) (U := U.calling g mk a) (by
      obtain ⟨-, hg⟩ := List.mem_filter.mp hw
      cases w <;> first | rfl | simp at hg) rfl (h3.2.1 w hw), fun C hC => va_AO.moved (Vm.Alike.refl U.vm) (h3.2.2.1 C hC), vk_S.moved (Vm.Alike.refl U.vm) h3.2.2.2.1, fun i hi => vk_R.same rfl (h3.2.2.2.2.1 i hi), va_Z.moved (Vm.Alike.refl U.vm) h3.2.2.2.2.2.1, h3.2.2.2.2.2.2.1, h3.2.2.2.2.2.2.2.imp fun z h => ⟨va_Z.moved (Vm.Alike.refl U.vm) h.1, aoi.moved (u := U) (U := U.calling g mk a) (Vm.Alike.refl U.vm) h.2⟩⟩, h4⟩
theorem pre_at (hX : Good E X cc nL own) (av : List TV) {H : Heap} {locs : List Loc} (hR : RepH E μ H) (hS : va_S (AE E) (cS X).heap H locs) : ∀ U : State, U.heap = H → (cS X).WarmedH U.vm → va_Pc (av.map (sv E)) (fun U => RepH E μ U.heap ∧ KU E U ∧ eB E ≤ U.heap.size) (av.map (sv E)).toArray U := by
  intro U hU hW
  subst hU
  exact ⟨rfl, hR, hX.2.2.2.2.2.1.step hW hS, Nat.le_trans hX.2.2.2.2.2.2 hS.1⟩
def ndesc (y : MethodName) (n : Nat) : Prop := y.cls ≠ "java/lang/invoke/MethodHandle" ∧ y.cls ≠ "java/lang/invoke/VarHandle" ∧ (parseMethodDescriptor y.desc).map (fun d => d.parameters.length) = some n
/-- the words of a call of a method of an object of class ci -/
def MV (own : String) (idx ci : Nat) (y : MethodName) (cd : Cond) (n : Nat) : Prop := (∃ T N, vwCl[ci]? = some (y.cls, T, N)) ∧ ci < 20 ∧ Cond.methodLink own idx y ∈ GW ∧ Cond.instanceMethod y ∈ GW ∧ Cond.selects y.cls y y ∈ GW ∧ Cond.initialized y.cls ∈ GW ∧ cd ∈ GW ∧ ndesc y n
def MS (own : String) (idx : Nat) (y : MethodName) (cd : Cond) (n : Nat) : Prop := Cond.methodLink own idx y ∈ GW ∧ Cond.static y ∈ GW ∧ Cond.initialized y.cls ∈ GW ∧ cd ∈ GW ∧ ndesc y n
def MI (own : String) (idx : Nat) (y : MethodName) (cd : Cond) (n : Nat) : Prop := Cond.methodLink own idx y ∈ GW ∧ Cond.instanceMethod y ∈ GW ∧ Cond.initialized y.cls ∈ GW ∧ cd ∈ GW ∧ y.name = "<init>" ∧ ndesc y n
def MIN (own : String) (idx : Nat) (y : MethodName) (cd : Cond) (n : Nat) : Prop := (∃ host, Cond.methodLinkNest own idx y host ∈ NGW) ∧ Cond.instanceMethod y ∈ GW ∧ Cond.initialized y.cls ∈ GW ∧ cd ∈ GW ∧ y.name = "<init>" ∧ ndesc y n
theorem good_call {big : List Cond} {cd : Cond} (hb : ∀ w ∈ GW, w ∈ big) (hcd : cd ∈ GW) : GoodIn big (cd :: GW) := GW_GoodIn hb (fun w hw => (List.mem_cons.mp hw).elim (fun e => e ▸ hcd) id)
variable {d mc' ms' n nL' idx : Nat} {y : MethodName} {cc' : ByteArray} {ret : Option FieldType} {rv : Option TV}
theorem r_invV (hX : Good E X cc nL own) {ci : Nat} {a : Int} {As : List TV} (hm : MV own idx ci y (.code y cc' nL' ret) n) (hok : Ok E (cL X) d y (.code y cc' nL' ret) mc' ms' ((2, a) :: As) μ rv μ') (hk : isk ci μ a = some ()) (hrm : Rm X d mc' ms' cs) (hmx : nL' ≤ 81) (hn : As.length = n) (hw8 : wd st ≤ 8) {st0 : List TV} (hst : st0 = As.reverse ++ (2, a) :: st) (dg : decode cc pc = .ok (.invokevirtual idx, 3))
    (k : rvR rv → At E X cc nL own (cs.1 + mc', cs.2 + ms') (pc + 3) lv (rv.toList ++ st) μ') : At E X cc nL own cs pc lv st0 μ := by
  intro H locs ls hl hR hS
  subst hst
  obtain ⟨⟨T, N, hcl⟩, hci, w1, w2, w3, w4, w5, hd1, hd2, hd3⟩ := hm
  have hts := hX.2.2.2.2.1
  have hkd : (kd μ a).1 = ci := by
    unfold isk at hk
    by_cases q : (kd μ a).1 = ci
    · exact q
    · rw [if_neg q] at hk; cases hk
  obtain ⟨h0, hat⟩ := kd_at hkd (by omega)
  have hat := ws_at (E := E) hat
  rw [show cE E (kd μ a) (μ.2 (a.toNat : Int)) = .inr (ci, fvs E ci (μ.2 (a.toNat : Int))) by unfold cE; rw [if_pos (by rw [hkd]; exact hci), hkd]] at hat
  have hrecv := va_recv hX.2.2.2.2.2.1.1 hR.1 hcl hat
  have e0 : sv E (2, a) = .ref (eB E + a.toNat) := vr_pos h0
  have eM : ((2, a) :: As).map (sv E) = .ref (eB E + a.toNat) :: As.map (sv E) := by rw [List.map_cons, e0]
  unfold Ok at hok
  have hpre := pre_at (μ := μ) hX ((2, a) :: As) hR hS
  have hbl := pre_blind (E := E) (μ := μ) ((2, a) :: As)
  rw [eM] at hok hpre hbl
  have hrun := va_runV (p := X.1.1) (e := X.1.2.2.1) (below := X.2.1.2.2.1) (meth := X.2.1.2.2.2.1) (locs := locs) (cells := cs.1) (slots := cs.2) (As := As.map (sv E)) (rest := st.map (sv E)) (g := F0 X.2.1.1 pc ls ((As.map (sv E)).reverse ++ .ref (eB E + a.toNat) :: st.map (sv E))) ⟨hX.1, hX.2.1, hX.2.2.1, hX.2.2.2.1, hts⟩ hok
    (cwV (R := cR X) (index := idx) (own := own) (C := y.cls) (maxL := nL') (bytes := cc') (ret := ret) (ws' := GW) n hts (GW_GoodIn (fun _ h => h) (fun w hw => by
      unfold wsV at hw
      rcases List.mem_append.mp hw with hw | hw
      · simp only [List.mem_cons, List.not_mem_nil, or_false] at hw
        rcases hw with rfl | rfl | rfl | rfl
        · exact w1
        · exact w2
        · exact w3
        · exact w4
      · rcases List.mem_cons.mp hw with rfl | hw
        · exact w5
        · exact hw)) rfl rfl rfl ⟨rfl, hd1, hd2, hd3⟩ ⟨hrm.1, by have := hrm.2.1; show 8 + (nL' + 11) + 100 * d ≤ _; omega⟩)
    ⟨hbl, hrecv, hpre⟩ rfl (by rw [List.length_map]; exact hn) hl.1 rfl (lv_room (by rw [wd_cat]; exact hw8)) dg ⟨hrm.2.2.1, hrm.2.2.2⟩
  have := back_W (st := st) (lv := lv) (own := own) (cc := cc) (nL := nL) hrun hl hS k
  rw [show (As.reverse ++ (2, a) :: st).map (sv E) = (As.map (sv E)).reverse ++ .ref (eB E + a.toNat) :: st.map (sv E) by rw [List.map_append, List.map_cons, List.map_reverse, e0]]
  exact this
theorem r_invS (hX : Good E X cc nL own) {As : List TV} (hm : MS own idx y (.code y cc' nL' ret) n) (hok : Ok E (cL X) d y (.code y cc' nL' ret) mc' ms' As μ rv μ') (hrm : Rm X d mc' ms' cs) (hmx : nL' ≤ 81) (hn : As.length = n) (hw8 : wd st ≤ 8) {st0 : List TV} (hst : st0 = As.reverse ++ st) (dg : decode cc pc = .ok (.invokestatic idx, 3))
    (k : rvR rv → At E X cc nL own (cs.1 + mc', cs.2 + ms') (pc + 3) lv (rv.toList ++ st) μ') : At E X cc nL own cs pc lv st0 μ := by
  intro H locs ls hl hR hS
  subst hst
  obtain ⟨w1, w2, w4, w5, hd⟩ := hm
  have hts := hX.2.2.2.2.1
  unfold Ok at hok
  have hrun := va_runS (p := X.1.1) (e := X.1.2.2.1) (below := X.2.1.2.2.1) (meth := X.2.1.2.2.2.1) (locs := locs) (cells := cs.1) (slots := cs.2) (As := As.map (sv E)) (rest := st.map (sv E)) (g := F0 X.2.1.1 pc ls ((As.map (sv E)).reverse ++ st.map (sv E))) ⟨hX.1, hX.2.1, hX.2.2.1, hX.2.2.2.1, hts⟩ hok
    ⟨callB_of (R := cR X) (index := idx) (own := own) (maxL := nL') (bytes := cc') (ret := ret) (ws' := GW) n hts (good_call (fun _ h => h) w5) rfl rfl rfl (hts _ w4) (hts _ w1) hd ⟨hrm.1, by have := hrm.2.1; show 8 + (nL' + 11) + 100 * d ≤ _; omega⟩, hts _ w2⟩
    ⟨pre_blind As, pre_at hX As hR hS⟩ rfl (by rw [List.length_map]; exact hn) hl.1 rfl (lv_room (by rw [wd_cat]; exact hw8)) dg ⟨hrm.2.2.1, hrm.2.2.2⟩
  have := back_W (st := st) (lv := lv) (own := own) (cc := cc) (nL := nL) hrun hl hS k
  rw [show (As.reverse ++ st).map (sv E) = (As.map (sv E)).reverse ++ st.map (sv E) by rw [List.map_append, List.map_reverse]]
  exact this
theorem r_invI (hX : Good E X cc nL own) {a : Int} {As : List TV} (hm : MI own idx y (.code y cc' nL' none) n) (hok : Ok E (cL X) d y (.code y cc' nL' none) mc' ms' ((2, a) :: As) μ none μ') (h0 : 0 ≤ a) (hrm : Rm X d mc' ms' cs) (hmx : nL' ≤ 81) (hn : As.length = n) (hw8 : wd st ≤ 8) {st0 : List TV} (hst : st0 = As.reverse ++ (2, a) :: st) (dg : decode cc pc = .ok (.invokespecial idx, 3))
    (k : At E X cc nL own (cs.1 + mc', cs.2 + ms') (pc + 3) lv st μ') : At E X cc nL own cs pc lv st0 μ := by
  intro H locs ls hl hR hS
  subst hst
  obtain ⟨w1, w2, w4, w5, hy, hd⟩ := hm
  have hts := hX.2.2.2.2.1
  have e0 : sv E (2, a) = .ref (eB E + a.toNat) := vr_pos h0
  have eM : ((2, a) :: As).map (sv E) = .ref (eB E + a.toNat) :: As.map (sv E) := by rw [List.map_cons, e0]
  unfold Ok at hok
  have hpre := pre_at (μ := μ) hX ((2, a) :: As) hR hS
  have hbl := pre_blind (E := E) (μ := μ) ((2, a) :: As)
  rw [eM] at hok hpre hbl
  have hrun := va_runI (p := X.1.1) (e := X.1.2.2.1) (below := X.2.1.2.2.1) (meth := X.2.1.2.2.2.1) (locs := locs) (cells := cs.1) (slots := cs.2) (As := As.map (sv E)) (rest := st.map (sv E)) (g := F0 X.2.1.1 pc ls ((As.map (sv E)).reverse ++ .ref (eB E + a.toNat) :: st.map (sv E))) ⟨hX.1, hX.2.1, hX.2.2.1, hX.2.2.2.1, hts⟩ hok
    (cwI (R := cR X) (index := idx) (own := own) (maxL := nL') (bytes := cc') (ws' := GW) n hts (good_call (fun _ h => h) w5) rfl rfl rfl (hts _ w4) (hts _ w1) (hts _ w2) hy hd ⟨hrm.1, by have := hrm.2.1; show 8 + (nL' + 11) + 100 * d ≤ _; omega⟩)
    ⟨hbl, hpre⟩ rfl (by rw [List.length_map]; exact hn) hl.1 rfl (lv_room (by rw [wd_cat]; exact hw8)) dg ⟨hrm.2.2.1, hrm.2.2.2⟩
  have := back_W (st := st) (lv := lv) (own := own) (cc := cc) (nL := nL) hrun hl hS (fun _ => k)
  rw [show (As.reverse ++ (2, a) :: st).map (sv E) = (As.map (sv E)).reverse ++ .ref (eB E + a.toNat) :: st.map (sv E) by rw [List.map_append, List.map_cons, List.map_reverse, e0]]
  exact this
theorem r_invIN (hX : Good E X cc nL own) {a : Int} {As : List TV} (hm : MIN own idx y (.code y cc' nL' none) n) (hok : Ok E (cL X) d y (.code y cc' nL' none) mc' ms' ((2, a) :: As) μ none μ') (h0 : 0 ≤ a) (hrm : Rm X d mc' ms' cs) (hmx : nL' ≤ 81) (hn : As.length = n) (hw8 : wd st ≤ 8) {st0 : List TV} (hst : st0 = As.reverse ++ (2, a) :: st) (dg : decode cc pc = .ok (.invokespecial idx, 3))
    (k : At E X cc nL own (cs.1 + mc', cs.2 + ms') (pc + 3) lv st μ') : At E X cc nL own cs pc lv st0 μ := by
  intro H locs ls hl hR hS
  subst hst
  obtain ⟨⟨host, w1⟩, w2, w4, w5, hy, hd⟩ := hm
  have hts := hX.2.2.2.2.1
  have e0 : sv E (2, a) = .ref (eB E + a.toNat) := vr_pos h0
  have eM : ((2, a) :: As).map (sv E) = .ref (eB E + a.toNat) :: As.map (sv E) := by rw [List.map_cons, e0]
  unfold Ok at hok
  have hpre := pre_at (μ := μ) hX ((2, a) :: As) hR hS
  have hbl := pre_blind (E := E) (μ := μ) ((2, a) :: As)
  rw [eM] at hok hpre hbl
  have hrun := va_runIN (p := X.1.1) (e := X.1.2.2.1) (below := X.2.1.2.2.1) (meth := X.2.1.2.2.2.1) (locs := locs) (cells := cs.1) (slots := cs.2) (As := As.map (sv E)) (rest := st.map (sv E)) (g := F0 X.2.1.1 pc ls ((As.map (sv E)).reverse ++ .ref (eB E + a.toNat) :: st.map (sv E))) ⟨hX.1, hX.2.1, hX.2.2.1, hX.2.2.2.1, hts⟩ hok
    ⟨va_cnB (R := cR X) (index := idx) (own := own) (maxL := nL') (bytes := cc') (ws' := GW) n hts (good_call (fun _ h => h) w5) rfl rfl rfl (hX.2.2.2.2.2.1.2.1 _ w1) (hts _ w4) hd ⟨hrm.1, by have := hrm.2.1; show 8 + (nL' + 11) + 100 * d ≤ _; omega⟩, hy, hts _ w2⟩
    ⟨hbl, hpre⟩ rfl (by rw [List.length_map]; exact hn) hl.1 rfl (lv_room (by rw [wd_cat]; exact hw8)) dg ⟨hrm.2.2.1, hrm.2.2.2⟩
  have := back_W (st := st) (lv := lv) (own := own) (cc := cc) (nL := nL) hrun hl hS (fun _ => k)
  rw [show (As.reverse ++ (2, a) :: st).map (sv E) = (As.map (sv E)).reverse ++ .ref (eB E + a.toNat) :: st.map (sv E) by rw [List.map_append, List.map_cons, List.map_reverse, e0]]
  exact this
def ObjI (own : String) (idx : Nat) : Prop := Cond.methodLink own idx objectInit ∈ GW ∧ Cond.instanceMethod objectInit ∈ GW ∧ Cond.code objectInit ⟨#[0xb1]⟩ 1 none ∈ GW
theorem r_objI (hX : Good E X cc nL own) {a : Int} (h0 : 0 ≤ a) (hm : ObjI own idx) (hrm : Rm X 0 0 0 cs) (hw8 : wd st ≤ 8) (dg : decode cc pc = .ok (.invokespecial idx, 3)) (k : At E X cc nL own cs (pc + 3) lv st μ) : At E X cc nL own cs pc lv ((2, a) :: st) μ := by
  intro H locs ls hl hR hS
  obtain ⟨w1, w2, w3⟩ := hm
  have hts := hX.2.2.2.2.1
  have e0 : sv E (2, a) = .ref (eB E + a.toNat) := vr_pos h0
  refine W.objInit hX.1 hX.2.1 hX.2.2.2.1 (hts _ w1) (hts _ w2) (hts _ w3) rfl (by rw [hX.2.2.1]; exact hl.1) (rest := st.map (sv E)) (a := eB E + a.toNat) (by rw [List.map_cons, e0]) dg hrm.1 (by have h1 := lv_room (m := X.2.1.1) (pc := pc) (ls := ls) (rest := st.map (sv E)) (st := st.map (sv E)) (by rw [wd_cat]; exact hw8); have h2 := hrm.2.1; show 2 * 0 + _ + 12 ≤ (cR X).locals; rw [wd_cat]; omega) ?_
  exact k H locs ls hl hR hS
theorem r_new (hX : Good E X cc nL own) {ci N : Nat} (hN : NewOk own idx ci N) (hrm : cs.1 + 1 ≤ (cR X).cells ∧ cs.2 + N ≤ (cR X).slots) (dg : decode cc pc = .ok (.new idx, 3)) (k : At E X cc nL own (cs.1 + 1, cs.2 + N) (pc + 3) lv ((2, nlen μ) :: st) (newc ci N μ)) : At E X cc nL own cs pc lv st μ := by
  intro H locs ls hl hR hS
  exact am_new hX.1 hX.2.1 hX.2.2.2.2.1 hX.2.2.2.1 hX.2.2.2.2.2.1.1 hN hR hS hrm.1 hrm.2 dg (fun H1 h1 h2 => k H1 locs ls hl h1 h2)
theorem r_newI (hX : Good E X cc nL own) {N : Nat} (hw : Cond.arrayClass .int ∈ GW) (hb : N * 4 ≤ 536870912) (hrm : cs.1 + 1 ≤ (cR X).cells ∧ cs.2 + N ≤ (cR X).slots) (dg : decode cc pc = .ok (.newarray .int, 2)) (k : At E X cc nL own (cs.1 + 1, cs.2 + N) (pc + 2) lv ((2, nlen μ) :: st) (newc 20 N μ)) : At E X cc nL own cs pc lv ((0, (N : Int)) :: st) μ := by
  intro H locs ls hl hR hS
  exact am_newa (ci := 20) (t0 := 0) (ty := .int) hX.1 hX.2.1 hX.2.2.2.2.1 hw rfl hX.2.2.2.2.2.1.1 (by omega) rfl hdf20 (fun h => h) hR hS hb (by omega) hrm.1 hrm.2 dg (fun H1 h1 h2 => k H1 locs ls hl h1 h2)
theorem r_newJ (hX : Good E X cc nL own) {N : Nat} (hw : Cond.arrayClass .long ∈ GW) (hb : N * 8 ≤ 536870912) (hrm : cs.1 + 1 ≤ (cR X).cells ∧ cs.2 + N ≤ (cR X).slots) (dg : decode cc pc = .ok (.newarray .long, 2)) (k : At E X cc nL own (cs.1 + 1, cs.2 + N) (pc + 2) lv ((2, nlen μ) :: st) (newc 21 N μ)) : At E X cc nL own cs pc lv ((0, (N : Int)) :: st) μ := by
  intro H locs ls hl hR hS
  exact am_newa (ci := 21) (t0 := 1) (ty := .long) hX.1 hX.2.1 hX.2.2.2.2.1 hw rfl hX.2.2.2.2.2.1.1 (by omega) rfl hdf21 (fun h => h) hR hS hb (by omega) hrm.1 hrm.2 dg (fun H1 h1 h2 => k H1 locs ls hl h1 h2)
theorem r_newB (hX : Good E X cc nL own) {N : Nat} (hw : Cond.arrayClass .byte ∈ GW) (hb : N * 1 ≤ 536870912) (hrm : cs.1 + 1 ≤ (cR X).cells ∧ cs.2 + N ≤ (cR X).slots) (dg : decode cc pc = .ok (.newarray .byte, 2)) (k : At E X cc nL own (cs.1 + 1, cs.2 + N) (pc + 2) lv ((2, nlen μ) :: st) (newc 22 N μ)) : At E X cc nL own cs pc lv ((0, (N : Int)) :: st) μ := by
  intro H locs ls hl hR hS
  exact am_newa (ci := 22) (t0 := 2) (ty := .byte) hX.1 hX.2.1 hX.2.2.2.2.1 hw rfl hX.2.2.2.2.2.1.1 (by omega) rfl hdf22 (fun h => h) hR hS hb (by omega) hrm.1 hrm.2 dg (fun H1 h1 h2 => k H1 locs ls hl h1 h2)
theorem r_newZ (hX : Good E X cc nL own) {N : Nat} (hw : Cond.arrayClass .boolean ∈ GW) (hb : N * 1 ≤ 536870912) (hrm : cs.1 + 1 ≤ (cR X).cells ∧ cs.2 + N ≤ (cR X).slots) (dg : decode cc pc = .ok (.newarray .boolean, 2)) (k : At E X cc nL own (cs.1 + 1, cs.2 + N) (pc + 2) lv ((2, nlen μ) :: st) (newc 23 N μ)) : At E X cc nL own cs pc lv ((0, (N : Int)) :: st) μ := by
  intro H locs ls hl hR hS
  exact am_newa (ci := 23) (t0 := 3) (ty := .boolean) hX.1 hX.2.1 hX.2.2.2.2.1 hw rfl hX.2.2.2.2.2.1.1 (by omega) rfl hdf23 (fun h => h) hR hS hb (by omega) hrm.1 hrm.2 dg (fun H1 h1 h2 => k H1 locs ls hl h1 h2)
theorem r_newQ (hX : Good E X cc nL own) {N ci t0 : Nat} {C : String} (hw : Cond.classLink own idx C ∈ GW) (hC : C ∈ (["TollsBack$Traveller", "TollsBack$World", "TollsBack$Numbers"] : List String)) (hci : 24 ≤ ci) (ht : (TYS E)[t0]? = some (eC E ci, .object C)) (hb : N * 4 ≤ 536870912) (hrm : cs.1 + 1 ≤ (cR X).cells ∧ cs.2 + N ≤ (cR X).slots) (dg : decode cc pc = .ok (.anewarray idx, 3)) (k : At E X cc nL own (cs.1 + 1, cs.2 + N) (pc + 3) lv ((2, nlen μ) :: st) (newc ci N μ)) : At E X cc nL own cs pc lv ((0, (N : Int)) :: st) μ := by
  intro H locs ls hl hR hS
  exact am_newq hX.1 hX.2.1 hX.2.2.2.2.1 hX.2.2.2.1 hw (hX.2.2.2.2.2.1.2.2.1 C hC) hX.2.2.2.2.2.1.1 hci ht hR hS hb (by omega) hrm.1 hrm.2 dg (fun H1 h1 h2 => k H1 locs ls hl h1 h2)
end ATC
