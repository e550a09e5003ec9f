/-! TEXTS: the JDK's own rows over the constants -/
section ATS
variable {E : EX} {X : CX} {cc : ByteArray} {nL : Nat} {own : String} {cs : Nat × Nat} {pc : Nat} {lv lv' : List LV} {st : List TV} {μ μ' : Mem}
variable {d n nL' idx : Nat} {y : MethodName} {cc' : ByteArray} {ret : Option FieldType} {rv : Option TV}
def MStr (own : String) (idx : Nat) (y : MethodName) (cd : Cond) (n : Nat) : Prop := y.cls = "java/lang/String" ∧ Cond.methodLink own idx y ∈ GW ∧ Cond.instanceMethod y ∈ GW ∧ Cond.selects y.cls y y ∈ GW ∧ Cond.initialized y.cls ∈ GW ∧ cd ∈ GW ∧ ndesc y n
theorem vr_s {E : EX} (i : Nat) (h : i < 100) : vr E (-2 - (i : Int)) = .ref (eS E i) := vr_str i
theorem r_gets (hX : Good E X cc nL own) (ho : own = "java/lang/String") {i : Nat} (hw : Cond.fieldLink "java/lang/String" i "java/lang/String" "COMPACT_STRINGS" "Z" ∈ GW) (dg : decode cc pc = .ok (.getstatic i, 3)) (k : At E X cc nL own cs (pc + 3) lv ((0, 1) :: st) μ) : At E X cc nL own cs pc lv st μ := by
  intro H locs ls hl hR hS
  subst ho
  exact va_gets hX.1 hX.2.1 hX.2.2.2.2.2.1.2.2.2.2.2.1 hS hX.2.2.2.1 (hX.2.2.2.2.1 _ hw) (fun _ h => h) dg (k H locs ls hl hR hS)
theorem r_getsF (hX : Good E X cc nL own) (ho : own = "java/lang/String") {i : Nat} (hw : Cond.fieldLink "java/lang/String" i "jdk/internal/util/Preconditions" "SIOOBE_FORMATTER" "Ljava/util/function/BiFunction;" ∈ GW) (dg : decode cc pc = .ok (.getstatic i, 3)) (k : ∀ z : Int, At E X cc nL own cs (pc + 3) lv ((2, z) :: st) μ) : At E X cc nL own cs pc lv st μ := by
  intro H locs ls hl hR hS
  subst ho
  obtain ⟨z, hz, -⟩ := hX.2.2.2.2.2.1.2.2.2.2.2.2.2
  exact va_gets hX.1 hX.2.1 hz hS hX.2.2.2.1 (hX.2.2.2.2.1 _ hw) (fun _ h => h) dg (k z H locs ls hl hR hS)
theorem r_strCoder (hX : Good E X cc nL own) {i k : Nat} (hi : i < 10) (hw : Cond.fieldLink own k "java/lang/String" "coder" "B" ∈ GW) (dg : decode cc pc = .ok (.getfield k, 3)) (kk : At E X cc nL own cs (pc + 3) lv ((0, 0) :: st) μ) : At E X cc nL own cs pc lv ((2, -2 - (i : Int)) :: st) μ := by
  intro H locs ls hl hR hS
  have := vk_getf (ls := ls) (rest := st.map (sv E)) (cells := cs.1) (slots := cs.2) (Q := X.2.2) (l := X.1.2.1) (e := X.1.2.2.1) (R := X.1.2.2.2.1) (below := X.2.1.2.2.1) (meth := X.2.1.2.2.2.1) hX.1 hX.2.1 (hX.2.2.2.2.2.1.2.2.2.1.1 i hi).2.1 hS hX.2.2.2.1 (hX.2.2.2.2.1 _ hw) (fun _ h => h) dg (kk H locs ls hl hR hS)
  rw [List.map_cons, show sv E (2, -2 - (i : Int)) = .ref (eS E i) from vr_str i]
  exact this
theorem r_strVal (hX : Good E X cc nL own) {i k : Nat} (hi : i < 10) (hw : Cond.fieldLink own k "java/lang/String" "value" "[B" ∈ GW) (dg : decode cc pc = .ok (.getfield k, 3)) (kk : At E X cc nL own cs (pc + 3) lv ((2, -2 - ((50 + i : Nat) : Int)) :: st) μ) : At E X cc nL own cs pc lv ((2, -2 - (i : Int)) :: st) μ := by
  intro H locs ls hl hR hS
  have h2 := kk H locs ls hl hR hS
  rw [List.map_cons, show sv E (2, -2 - ((50 + i : Nat) : Int)) = .ref (eV E i) by rw [hX.2.2.2.2.2.1.2.2.2.2.2.2.1 i hi]; exact vr_str _] at h2
  have := vk_getf (ls := ls) (rest := st.map (sv E)) (cells := cs.1) (slots := cs.2) (Q := X.2.2) (l := X.1.2.1) (e := X.1.2.2.1) (R := X.1.2.2.2.1) (below := X.2.1.2.2.1) (meth := X.2.1.2.2.2.1) hX.1 hX.2.1 (hX.2.2.2.2.2.1.2.2.2.1.1 i hi).2.2.1 hS hX.2.2.2.1 (hX.2.2.2.2.1 _ hw) (fun _ h => h) dg h2
  rw [List.map_cons, show sv E (2, -2 - (i : Int)) = .ref (eS E i) from vr_str i]
  exact this
theorem r_strLen (hX : Good E X cc nL own) {i : Nat} (hi : i < 10) (dg : decode cc pc = .ok (.arraylength, 1)) (kk : At E X cc nL own cs (pc + 1) lv ((0, (lenT.getD i 0 : Int)) :: st) μ) : At E X cc nL own cs pc lv ((2, -2 - ((50 + i : Nat) : Int)) :: st) μ := by
  intro H locs ls hl hR hS
  have := va_tlen (ls := ls) (rest := st.map (sv E)) (cells := cs.1) (slots := cs.2) (Q := X.2.2) (l := X.1.2.1) (e := X.1.2.2.1) (R := X.1.2.2.2.1) (below := X.2.1.2.2.1) (meth := X.2.1.2.2.2.1) hX.1 hX.2.1 (hX.2.2.2.2.2.1.2.2.2.1.1 i hi).2.2.2 hS (v := Int32.ofInt (lenT.getD i 0 : Int)) (Int32.ofInt_eq_ofNat).symm dg (kk H locs ls hl hR hS)
  rw [List.map_cons, show sv E (2, -2 - ((50 + i : Nat) : Int)) = .ref (eV E i) by rw [hX.2.2.2.2.2.1.2.2.2.2.2.2.1 i hi]; exact vr_str _]
  exact this
def chT (i : Nat) (j : Int) : Int := ((bytT.getD i []).getD j.toNat 0).toInt
theorem r_strB (hX : Good E X cc nL own) {i : Nat} {j : Int} (hi : i < 10) (hj : R32 j) (h0 : 0 ≤ j) (h1 : j < (lenT.getD i 0 : Int)) (dg : decode cc pc = .ok (.baload, 1)) (kk : At E X cc nL own cs (pc + 1) lv ((0, chT i j) :: st) μ) : At E X cc nL own cs pc lv ((0, j) :: (2, -2 - ((50 + i : Nat) : Int)) :: st) μ := by
  intro H locs ls hl hR hS
  have h2 := kk H locs ls hl hR hS
  have := va_tb (ls := ls) (rest := st.map (sv E)) (cells := cs.1) (slots := cs.2) (Q := X.2.2) (l := X.1.2.1) (e := X.1.2.2.1) (R := X.1.2.2.2.1) (below := X.2.1.2.2.1) (meth := X.2.1.2.2.2.1) hX.1 hX.2.1 (hX.2.2.2.2.2.1.2.2.2.1.1 i hi).2.2.2 hS (i := Int32.ofInt j) (i32_in hj h0 h1) (v := vi (chT i j)) (by rw [i32_clamp hj h0]; exact (vi_t _).symm) dg h2
  rw [List.map_cons, List.map_cons, show sv E (2, -2 - ((50 + i : Nat) : Int)) = .ref (eV E i) by rw [hX.2.2.2.2.2.1.2.2.2.2.2.2.1 i hi]; exact vr_str _]
  exact this
def w16u (a : Int) : Int := ((Int32.ofInt a).toUInt32 % 65536).toInt32.toInt
theorem r_i2c (hX : Good E X cc nL own) {a : Int} (dg : decode cc pc = .ok (.i2c, 1)) (k : At E X cc nL own cs (pc + 1) lv ((0, w16u a) :: st) μ) : At E X cc nL own cs pc lv ((0, a) :: st) μ := by
  intro H locs ls hl hR hS
  have k := k H locs ls hl hR hS
  rw [show ((0, w16u a) :: st).map (sv E) = vi (w16u a) :: st.map (sv E) from rfl, show vi (w16u a) = .int _ from vi_t _] at k
  exact lv_i2c hX.1 hX.2.1 dg rfl k
theorem r_creturn (hX : Good E X cc nL own) {x : Int} {mc ms : Nat} {ty : FieldType} (hr : R32 x) (hM : GoodM E X (some ty) (some (0, x)) μ mc ms) (hx : narrow ty (.int (Int32.ofInt x)) = .int (Int32.ofInt x)) (hc : cs.1 ≤ mc ∧ cs.2 ≤ ms) (d : decode cc pc = .ok (.ireturn, 1)) : At E X cc nL own cs pc lv [(0, x)] μ := by
  intro H locs ls hl hR hS
  have h := W.zret (v := Int32.ofInt x) (Qc := QcOf E (some (0, x)) μ) (free := AE E) (p := X.1.1) (l := X.1.2.1) (e := X.1.2.2.1) (R := X.1.2.2.2.1) (m := X.2.1.1) (below := X.2.1.2.2.1) (cells := mc) (slots := ms) (locs := locs) (ls := ls) hX.1 hX.2.1 hM.1 hx (QcEnd hr hR hS) hS.2.2 d hM.2.1
  rw [← hM.2.2] at h
  exact W.widen hc.1 hc.2 h
theorem r_invStr (hX : Good E X cc nL own) {i : Nat} {As : List TV} (hi : i < 10) (hm : MStr own idx y (.code y cc' nL' ret) n) (hok : Ok E (cL X) d y (.code y cc' nL' ret) 0 0 ((2, -2 - (i : Int)) :: As) μ rv μ') (hrm : Rm X d 0 0 cs) (hmx : nL' ≤ 81) (hn : As.length = n) (hw8 : wd st ≤ 8) {st0 : List TV} (hst : st0 = As.reverse ++ (2, -2 - (i : Int)) :: st) (dg : decode cc pc = .ok (.invokevirtual idx, 3))
    (k : rvR rv → At E X cc nL own cs (pc + 3) lv (rv.toList ++ st) μ') : At E X cc nL own cs pc lv st0 μ := by
  intro H locs ls hl hR hS
  subst hst
  obtain ⟨hcls, w1, w2, w3, w4, w5, hd1, hd2, hd3⟩ := hm
  have hts := hX.2.2.2.2.1
  have hrecv := vk_recv hX.2.2.2.2.2.1.2.2.2.1 hi hS
  have e0 : sv E (2, -2 - (i : Int)) = .ref (eS E i) := vr_str i
  have eM : ((2, -2 - (i : Int)) :: As).map (sv E) = .ref (eS E i) :: As.map (sv E) := by rw [List.map_cons, e0]
  unfold Ok at hok
  have hpre := pre_at (μ := μ) hX ((2, -2 - (i : Int)) :: As) hR hS
  have hbl := pre_blind (E := E) (μ := μ) ((2, -2 - (i : Int)) :: As)
  rw [eM] at hok hpre hbl
  rw [← hcls] at hrecv
  have hrun := va_runV (p := X.1.1) (e := X.1.2.2.1) (below := X.2.1.2.2.1) (meth := X.2.1.2.2.2.1) (locs := locs) (cells := cs.1) (slots := cs.2) (As := As.map (sv E)) (rest := st.map (sv E)) (g := F0 X.2.1.1 pc ls ((As.map (sv E)).reverse ++ .ref (eS E i) :: st.map (sv E))) ⟨hX.1, hX.2.1, hX.2.2.1, hX.2.2.2.1, hts⟩ hok
    (cwV (R := cR X) (index := idx) (own := own) (C := y.cls) (maxL := nL') (bytes := cc') (ret := ret) (ws' := GW) n hts (GW_GoodIn (fun _ h => h) (fun w hw => by
      unfold wsV at hw
      rcases List.mem_append.mp hw with hw | hw
      · simp only [List.mem_cons, List.not_mem_nil, or_false] at hw
        rcases hw with rfl | rfl | rfl | rfl
        · exact w1
        · exact w2
        · exact w3
        · exact w4
      · rcases List.mem_cons.mp hw with rfl | hw
        · exact w5
        · exact hw)) rfl rfl rfl ⟨rfl, hd1, hd2, hd3⟩ ⟨hrm.1, by have := hrm.2.1; show 8 + (nL' + 11) + 100 * d ≤ _; omega⟩)
    ⟨hbl, hrecv, hpre⟩ rfl (by rw [List.length_map]; exact hn) hl.1 rfl (lv_room (by rw [wd_cat]; exact hw8)) dg ⟨hrm.2.2.1, hrm.2.2.2⟩
  have := back_W (st := st) (lv := lv) (own := own) (cc := cc) (nL := nL) hrun hl hS k
  rw [show (As.reverse ++ (2, -2 - (i : Int)) :: st).map (sv E) = (As.map (sv E)).reverse ++ .ref (eS E i) :: st.map (sv E) by rw [List.map_append, List.map_cons, List.map_reverse, e0]]
  exact this
end ATS
