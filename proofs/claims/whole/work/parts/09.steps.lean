theorem i8_i32 {n : Int} (h : (decide (-128 ≤ n) && decide (n < 128)) = true) : (Int8.ofInt n).toInt32 = Int32.ofInt n := by
  simp only [Bool.and_eq_true, decide_eq_true_eq] at h
  rw [← Int32.toInt_inj, Int8.toInt_toInt32, Int8.toInt_ofInt_of_le (by simpa using h.1) (by simpa using h.2)]
  exact (w32_id (by omega) (by omega)).symm
theorem i16_i32 {n : Int} (h : (decide (-32768 ≤ n) && decide (n < 32768)) = true) : (Int16.ofInt n).toInt32 = Int32.ofInt n := by
  simp only [Bool.and_eq_true, decide_eq_true_eq] at h
  rw [← Int32.toInt_inj, Int16.toInt_toInt32, Int16.toInt_ofInt_of_le (by simpa using h.1) (by simpa using h.2)]
  exact (w32_id (by omega) (by omega)).symm
theorem copy_room {w L : Nat} (h : 50 ≤ L) (hw : w ≤ 8) : w + (nativeFrameWords "java/lang/System" "arraycopy" 5 + 11) ≤ L := by
  have e : nativeFrameWords "java/lang/System" "arraycopy" 5 ≤ 31 := by decide
  omega
theorem i64_0 : (0 : Int64) = Int64.ofInt 0 := by decide
theorem R64_0 : R64 0 := by unfold R64; decide
theorem lvV_at {E : EX} {lv : List LV} {j i t : Nat} {x : Int} (h : lv[j]? = some (i, t, x)) : (lvV E lv)[j]? = some (i, tv E t x) := by simp [lvV, h]
theorem vr_str {E : EX} (i : Nat) : vr E (-2 - (i : Int)) = .ref (eS E i) := by
  unfold vr ro; rw [if_pos (by omega), show (-2 - (-2 - (i : Int))).toNat = i by omega]; rfl
/-! THE ROWS of At -/
section ATR
variable {E : EX} {X : CX} {cc : ByteArray} {nL : Nat} {own : String} {cs : Nat × Nat} {pc : Nat} {lv lv' : List LV} {st : List TV} {μ μ' : Mem}
theorem r_iconst (hX : Good E X cc nL own) {n : Int} (d : decode cc pc = .ok (.iconst n, 1)) (k : At E X cc nL own cs (pc + 1) lv ((0, n) :: st) μ) : At E X cc nL own cs pc lv st μ := by
  intro H locs ls hl hR hS
  exact lv_iconst hX.1 hX.2.1 d rfl (k H locs ls hl hR hS)
theorem r_bipush (hX : Good E X cc nL own) {n : Int} (h : (decide (-128 ≤ n) && decide (n < 128)) = true) (d : decode cc pc = .ok (.bipush n, 2)) (k : At E X cc nL own cs (pc + 2) lv ((0, n) :: st) μ) : At E X cc nL own cs pc lv st μ := by
  intro H locs ls hl hR hS
  exact lv_bipush hX.1 hX.2.1 d (i8_i32 h) (k H locs ls hl hR hS)
theorem r_sipush (hX : Good E X cc nL own) {n : Int} (h : (decide (-32768 ≤ n) && decide (n < 32768)) = true) (d : decode cc pc = .ok (.sipush n, 3)) (k : At E X cc nL own cs (pc + 3) lv ((0, n) :: st) μ) : At E X cc nL own cs pc lv st μ := by
  intro H locs ls hl hR hS
  exact lv_sipush hX.1 hX.2.1 d (i16_i32 h) (k H locs ls hl hR hS)
theorem r_lconst (hX : Good E X cc nL own) {n : Fin 2} {x : Int} (h : Int64.ofNat (n : Nat) = Int64.ofInt x) (d : decode cc pc = .ok (.lconst n, 1)) (k : At E X cc nL own cs (pc + 1) lv ((1, x) :: st) μ) : At E X cc nL own cs pc lv st μ := by
  intro H locs ls hl hR hS
  exact lv_lconst hX.1 hX.2.1 d h (k H locs ls hl hR hS)
theorem r_ldc (hX : Good E X cc nL own) {i : Nat} {n : Int} (hw : Cond.constant own i (Int32.ofInt n) ∈ GW) (d : decode cc pc = .ok (.ldc i, 2)) (k : At E X cc nL own cs (pc + 2) lv ((0, n) :: st) μ) : At E X cc nL own cs pc lv st μ := by
  intro H locs ls hl hR hS
  exact lv_ldc hX.1 hX.2.1 hX.2.2.2.1 (hX.2.2.2.2.1 _ hw) d (k H locs ls hl hR hS)
theorem r_ldcw (hX : Good E X cc nL own) {i : Nat} {n : Int} (hw : Cond.constant own i (Int32.ofInt n) ∈ GW) (d : decode cc pc = .ok (.ldc_w i, 3)) (k : At E X cc nL own cs (pc + 3) lv ((0, n) :: st) μ) : At E X cc nL own cs pc lv st μ := by
  intro H locs ls hl hR hS
  exact lv_ldcw hX.1 hX.2.1 hX.2.2.2.1 (hX.2.2.2.2.1 _ hw) d (k H locs ls hl hR hS)
theorem r_ldc2 (hX : Good E X cc nL own) {i : Nat} {n : Int} (hw : Cond.constantLong own i (Int64.ofInt n) ∈ GW) (d : decode cc pc = .ok (.ldc2_w i, 3)) (k : At E X cc nL own cs (pc + 3) lv ((1, n) :: st) μ) : At E X cc nL own cs pc lv st μ := by
  intro H locs ls hl hR hS
  exact lv_ldc2 hX.1 hX.2.1 hX.2.2.2.1 (hX.2.2.2.2.1 _ hw) d (k H locs ls hl hR hS)
theorem r_ldcS (hX : Good E X cc nL own) {i : Nat} (hi : i < 10) (ho : ownT i = own) (d : decode cc pc = .ok (.ldc (idxT i), 2)) (k : At E X cc nL own cs (pc + 2) lv ((2, -2 - (i : Int)) :: st) μ) : At E X cc nL own cs pc lv st μ := by
  intro H locs ls hl hR hS
  subst ho
  have k2 := k H locs ls hl hR hS
  rw [show ((2, -2 - (i : Int)) :: st).map (sv E) = .ref (eS E i) :: st.map (sv E) by rw [List.map_cons]; congr 1; exact vr_str i] at k2
  exact va_ldcS hX.1 hX.2.1 hX.2.2.2.1 (hX.2.2.2.2.2.1.2.2.2.2.1 i hi) d k2
theorem r_iloadn (hX : Good E X cc nL own) {k : Fin 4} {x : Int} (j : Nat) (h : lv[j]? = some ((k : Nat), 0, x)) (d : decode cc pc = .ok (.iload_n k, 1)) (k : At E X cc nL own cs (pc + 1) lv ((0, x) :: st) μ) : At E X cc nL own cs pc lv st μ := by
  intro H locs ls hl hR hS
  exact lv_iload_n hX.1 hX.2.1 d rfl (lv_at hl j (lvV_at h)) (k H locs ls hl hR hS)
theorem r_iload (hX : Good E X cc nL own) {k : Nat} {x : Int} (j : Nat) (h : lv[j]? = some (k, 0, x)) (d : decode cc pc = .ok (.iload k, 2)) (k : At E X cc nL own cs (pc + 2) lv ((0, x) :: st) μ) : At E X cc nL own cs pc lv st μ := by
  intro H locs ls hl hR hS
  exact lv_iload hX.1 hX.2.1 d (lv_at hl j (lvV_at h)) (k H locs ls hl hR hS)
theorem r_lloadn (hX : Good E X cc nL own) {k : Fin 4} {x : Int} (j : Nat) (h : lv[j]? = some ((k : Nat), 1, x)) (d : decode cc pc = .ok (.lload_n k, 1)) (k : At E X cc nL own cs (pc + 1) lv ((1, x) :: st) μ) : At E X cc nL own cs pc lv st μ := by
  intro H locs ls hl hR hS
  exact lv_lload_n hX.1 hX.2.1 d rfl (lv_at hl j (lvV_at h)) (k H locs ls hl hR hS)
theorem r_lload (hX : Good E X cc nL own) {k : Nat} {x : Int} (j : Nat) (h : lv[j]? = some (k, 1, x)) (d : decode cc pc = .ok (.lload k, 2)) (k : At E X cc nL own cs (pc + 2) lv ((1, x) :: st) μ) : At E X cc nL own cs pc lv st μ := by
  intro H locs ls hl hR hS
  exact lv_lload hX.1 hX.2.1 d (lv_at hl j (lvV_at h)) (k H locs ls hl hR hS)
theorem r_aloadn (hX : Good E X cc nL own) {k : Fin 4} {x : Int} (j : Nat) (h : lv[j]? = some ((k : Nat), 2, x)) (d : decode cc pc = .ok (.aload_n k, 1)) (k : At E X cc nL own cs (pc + 1) lv ((2, x) :: st) μ) : At E X cc nL own cs pc lv st μ := by
  intro H locs ls hl hR hS
  have hg := lv_at hl j (lvV_at h)
  have k := k H locs ls hl hR hS
  rw [show ((2, x) :: st).map (sv E) = vr E x :: st.map (sv E) from rfl] at k
  rw [show tv E 2 x = vr E x from rfl] at hg
  unfold vr at hg k
  cases hro : ro E x with
  | none => rw [hro] at hg k; exact lv_aload_nN hX.1 hX.2.1 d rfl hg k
  | some a => rw [hro] at hg k; exact lv_aload_n hX.1 hX.2.1 d rfl hg k
theorem r_aload (hX : Good E X cc nL own) {k : Nat} {x : Int} (j : Nat) (h : lv[j]? = some (k, 2, x)) (d : decode cc pc = .ok (.aload k, 2)) (k : At E X cc nL own cs (pc + 2) lv ((2, x) :: st) μ) : At E X cc nL own cs pc lv st μ := by
  intro H locs ls hl hR hS
  have hg := lv_at hl j (lvV_at h)
  have k := k H locs ls hl hR hS
  rw [show ((2, x) :: st).map (sv E) = vr E x :: st.map (sv E) from rfl] at k
  rw [show tv E 2 x = vr E x from rfl] at hg
  unfold vr at hg k
  cases hro : ro E x with
  | none => rw [hro] at hg k; exact lv_aloadN hX.1 hX.2.1 d hg k
  | some a => rw [hro] at hg k; exact lv_aload hX.1 hX.2.1 d hg k
/-- the list of locals behind a store -/
def sto1 (i : Nat) (lv : List LV) : List LV := lv.filter (fun q => !(q.1 == i) && !(q.1 + 1 == i && q.2.1 == 1))
def sto2 (i : Nat) (lv : List LV) : List LV := lv.filter (fun q => !(q.1 == i) && (!(q.1 == i + 1) && !(q.1 + 1 == i && q.2.1 == 1)))
theorem cat2 {t : Nat} {x : Int} : ((tv E t x).category == 2) = (t == 1) := by
  rw [cat_tv]; unfold catT; by_cases h : t = 1
  · rw [if_pos h, h]; rfl
  · rw [if_neg h]; simp [h]
theorem sto1_V {i t : Nat} {x : Int} (h : (i, t, x) :: sto1 i lv = lv') : (i, tv E t x) :: (lvV E lv).filter (fun q => !(q.1 == i) && !(q.1 + 1 == i && q.2.category == 2)) = lvV E lv' := by
  subst h
  show _ = (i, tv E t x) :: lvV E (sto1 i lv)
  congr 1
  unfold lvV sto1
  rw [List.filter_map]
  congr 2
  funext q; simp only [Function.comp, cat2]
theorem sto2_V {i t : Nat} {x : Int} (h : (i, t, x) :: sto2 i lv = lv') : (i, tv E t x) :: (lvV E lv).filter (fun q => !(q.1 == i) && (!(q.1 == i + 1) && !(q.1 + 1 == i && q.2.category == 2))) = lvV E lv' := by
  subst h
  show _ = (i, tv E t x) :: lvV E (sto2 i lv)
  congr 1
  unfold lvV sto2
  rw [List.filter_map]
  congr 2
  funext q; simp only [Function.comp, cat2]
theorem r_istoren (hX : Good E X cc nL own) {k : Fin 4} {x : Int} (hn : (k : Nat) < nL) (hl' : ((k : Nat), 0, x) :: sto1 (k : Nat) lv = lv') (d : decode cc pc = .ok (.istore_n k, 1)) (k : At E X cc nL own cs (pc + 1) lv' st μ) : At E X cc nL own cs pc lv ((0, x) :: st) μ := by
  intro H locs ls hl hR hS
  exact lv_istore_n hX.1 hX.2.1 d rfl hl hn (sto1_V hl') (fun ls hl => k H locs ls hl hR hS)
theorem r_istore (hX : Good E X cc nL own) {i : Nat} {x : Int} (hn : i < nL) (hl' : (i, 0, x) :: sto1 i lv = lv') (d : decode cc pc = .ok (.istore i, 2)) (k : At E X cc nL own cs (pc + 2) lv' st μ) : At E X cc nL own cs pc lv ((0, x) :: st) μ := by
  intro H locs ls hl hR hS
  exact lv_istore hX.1 hX.2.1 d hl hn (sto1_V hl') (fun ls hl => k H locs ls hl hR hS)
theorem r_lstoren (hX : Good E X cc nL own) {k : Fin 4} {x : Int} (hn : (k : Nat) + 1 < nL) (hl' : ((k : Nat), 1, x) :: sto2 (k : Nat) lv = lv') (d : decode cc pc = .ok (.lstore_n k, 1)) (k : At E X cc nL own cs (pc + 1) lv' st μ) : At E X cc nL own cs pc lv ((1, x) :: st) μ := by
  intro H locs ls hl hR hS
  exact lv_lstore_n hX.1 hX.2.1 d rfl hl hn (sto2_V hl') (fun ls hl => k H locs ls hl hR hS)
theorem r_lstore (hX : Good E X cc nL own) {i : Nat} {x : Int} (hn : i + 1 < nL) (hl' : (i, 1, x) :: sto2 i lv = lv') (d : decode cc pc = .ok (.lstore i, 2)) (k : At E X cc nL own cs (pc + 2) lv' st μ) : At E X cc nL own cs pc lv ((1, x) :: st) μ := by
  intro H locs ls hl hR hS
  exact lv_lstore hX.1 hX.2.1 d hl hn (sto2_V hl') (fun ls hl => k H locs ls hl hR hS)
theorem r_astoren (hX : Good E X cc nL own) {k : Fin 4} {x : Int} (hn : (k : Nat) < nL) (hl' : ((k : Nat), 2, x) :: sto1 (k : Nat) lv = lv') (d : decode cc pc = .ok (.astore_n k, 1)) (k : At E X cc nL own cs (pc + 1) lv' st μ) : At E X cc nL own cs pc lv ((2, x) :: st) μ := by
  intro H locs ls hl hR hS
  have hv := sto1_V (E := E) hl'
  rw [show ((2, x) :: st).map (sv E) = vr E x :: st.map (sv E) from rfl]
  rw [show tv E 2 x = vr E x from rfl] at hv
  unfold vr at hv ⊢
  cases hro : ro E x with
  | none => rw [hro] at hv; exact lv_astore_nN hX.1 hX.2.1 d rfl hl hn hv (fun ls hl => k H locs ls hl hR hS)
  | some a => rw [hro] at hv; exact lv_astore_n hX.1 hX.2.1 d rfl hl hn hv (fun ls hl => k H locs ls hl hR hS)
theorem r_astore (hX : Good E X cc nL own) {i : Nat} {x : Int} (hn : i < nL) (hl' : (i, 2, x) :: sto1 i lv = lv') (d : decode cc pc = .ok (.astore i, 2)) (k : At E X cc nL own cs (pc + 2) lv' st μ) : At E X cc nL own cs pc lv ((2, x) :: st) μ := by
  intro H locs ls hl hR hS
  have hv := sto1_V (E := E) hl'
  rw [show ((2, x) :: st).map (sv E) = vr E x :: st.map (sv E) from rfl]
  rw [show tv E 2 x = vr E x from rfl] at hv
  unfold vr at hv ⊢
  cases hro : ro E x with
  | none => rw [hro] at hv; exact lv_astoreN hX.1 hX.2.1 d hl hn hv (fun ls hl => k H locs ls hl hR hS)
  | some a => rw [hro] at hv; exact lv_astore hX.1 hX.2.1 d hl hn hv (fun ls hl => k H locs ls hl hR hS)
theorem r_iinc (hX : Good E X cc nL own) {i : Nat} {n x : Int} (j : Nat) (h : lv[j]? = some (i, 0, x)) (hn : i < nL) (hl' : (i, 0, w32 (x + n)) :: sto1 i lv = lv') (d : decode cc pc = .ok (.iinc i n, 3)) (k : At E X cc nL own cs (pc + 3) lv' st μ) : At E X cc nL own cs pc lv st μ := by
  intro H locs ls hl hR hS
  exact lv_iinc (v := Int32.ofInt (w32 (x + n))) hX.1 hX.2.1 d hl (k := j) (lvV_at h) (by rw [i32_w, Int32.ofInt_add]) hn (sto1_V hl') (fun ls hl => k H locs ls hl hR hS)
theorem r_iadd (hX : Good E X cc nL own) {a b : Int} (d : decode cc pc = .ok (.iadd, 1)) (k : At E X cc nL own cs (pc + 1) lv ((0, w32 (a + b)) :: st) μ) : At E X cc nL own cs pc lv ((0, b) :: (0, a) :: st) μ := by
  intro H locs ls hl hR hS
  have k := k H locs ls hl hR hS
  rw [show ((0, w32 (a + b)) :: st).map (sv E) = tv E 0 (w32 (a + b)) :: st.map (sv E) from rfl, show tv E 0 (w32 (a + b)) = .int (Int32.ofInt a + Int32.ofInt b) by show Value.int _ = _; rw [i32_w, Int32.ofInt_add]] at k
  exact lv_iadd hX.1 hX.2.1 d k
theorem r_isub (hX : Good E X cc nL own) {a b : Int} (d : decode cc pc = .ok (.isub, 1)) (k : At E X cc nL own cs (pc + 1) lv ((0, w32 (a - b)) :: st) μ) : At E X cc nL own cs pc lv ((0, b) :: (0, a) :: st) μ := by
  intro H locs ls hl hR hS
  have k := k H locs ls hl hR hS
  rw [show ((0, w32 (a - b)) :: st).map (sv E) = tv E 0 (w32 (a - b)) :: st.map (sv E) from rfl, show tv E 0 (w32 (a - b)) = .int (Int32.ofInt a - Int32.ofInt b) by show Value.int _ = _; rw [i32_w, Int32.ofInt_sub]] at k
  exact lv_isub hX.1 hX.2.1 d k
theorem r_imul (hX : Good E X cc nL own) {a b : Int} (d : decode cc pc = .ok (.imul, 1)) (k : At E X cc nL own cs (pc + 1) lv ((0, w32 (a * b)) :: st) μ) : At E X cc nL own cs pc lv ((0, b) :: (0, a) :: st) μ := by
  intro H locs ls hl hR hS
  have k := k H locs ls hl hR hS
  rw [show ((0, w32 (a * b)) :: st).map (sv E) = tv E 0 (w32 (a * b)) :: st.map (sv E) from rfl, show tv E 0 (w32 (a * b)) = .int (Int32.ofInt a * Int32.ofInt b) by show Value.int _ = _; rw [i32_w, Int32.ofInt_mul]] at k
  exact lv_imul hX.1 hX.2.1 d k
theorem r_iand (hX : Good E X cc nL own) {a b : Int} (d : decode cc pc = .ok (.iand, 1)) (k : At E X cc nL own cs (pc + 1) lv ((0, and32 a b) :: st) μ) : At E X cc nL own cs pc lv ((0, b) :: (0, a) :: st) μ := by
  intro H locs ls hl hR hS
  have k := k H locs ls hl hR hS
  rw [show ((0, and32 a b) :: st).map (sv E) = tv E 0 (and32 a b) :: st.map (sv E) from rfl, show tv E 0 (and32 a b) = .int (Int32.ofInt a &&& Int32.ofInt b) by exact vi_t _] at k
  exact lv_iand hX.1 hX.2.1 d k
theorem r_ior (hX : Good E X cc nL own) {a b : Int} (d : decode cc pc = .ok (.ior, 1)) (k : At E X cc nL own cs (pc + 1) lv ((0, or32 a b) :: st) μ) : At E X cc nL own cs pc lv ((0, b) :: (0, a) :: st) μ := by
  intro H locs ls hl hR hS
  have k := k H locs ls hl hR hS
  rw [show ((0, or32 a b) :: st).map (sv E) = tv E 0 (or32 a b) :: st.map (sv E) from rfl, show tv E 0 (or32 a b) = .int (Int32.ofInt a ||| Int32.ofInt b) by exact vi_t _] at k
  exact lv_ior hX.1 hX.2.1 d k
theorem r_ixor (hX : Good E X cc nL own) {a b : Int} (d : decode cc pc = .ok (.ixor, 1)) (k : At E X cc nL own cs (pc + 1) lv ((0, xor32 a b) :: st) μ) : At E X cc nL own cs pc lv ((0, b) :: (0, a) :: st) μ := by
  intro H locs ls hl hR hS
  have k := k H locs ls hl hR hS
  rw [show ((0, xor32 a b) :: st).map (sv E) = tv E 0 (xor32 a b) :: st.map (sv E) from rfl, show tv E 0 (xor32 a b) = .int (Int32.ofInt a ^^^ Int32.ofInt b) by exact vi_t _] at k
  exact lv_ixor hX.1 hX.2.1 d k
theorem r_ishl (hX : Good E X cc nL own) {a b : Int} (d : decode cc pc = .ok (.ishl, 1)) (k : At E X cc nL own cs (pc + 1) lv ((0, shl32 a b) :: st) μ) : At E X cc nL own cs pc lv ((0, b) :: (0, a) :: st) μ := by
  intro H locs ls hl hR hS
  have k := k H locs ls hl hR hS
  rw [show ((0, shl32 a b) :: st).map (sv E) = tv E 0 (shl32 a b) :: st.map (sv E) from rfl, show tv E 0 (shl32 a b) = .int (Int32.ofInt a <<< (Int32.ofInt b &&& 31)) by exact vi_t _] at k
  exact lv_ishl hX.1 hX.2.1 d k
theorem r_ishr (hX : Good E X cc nL own) {a b : Int} (d : decode cc pc = .ok (.ishr, 1)) (k : At E X cc nL own cs (pc + 1) lv ((0, shr32 a b) :: st) μ) : At E X cc nL own cs pc lv ((0, b) :: (0, a) :: st) μ := by
  intro H locs ls hl hR hS
  have k := k H locs ls hl hR hS
  rw [show ((0, shr32 a b) :: st).map (sv E) = tv E 0 (shr32 a b) :: st.map (sv E) from rfl, show tv E 0 (shr32 a b) = .int (Int32.ofInt a >>> (Int32.ofInt b &&& 31)) by exact vi_t _] at k
  exact lv_ishr hX.1 hX.2.1 d k
theorem r_ladd (hX : Good E X cc nL own) {a b : Int} (d : decode cc pc = .ok (.ladd, 1)) (k : At E X cc nL own cs (pc + 1) lv ((1, w64 (a + b)) :: st) μ) : At E X cc nL own cs pc lv ((1, b) :: (1, a) :: st) μ := by
  intro H locs ls hl hR hS
  have k := k H locs ls hl hR hS
  rw [show ((1, w64 (a + b)) :: st).map (sv E) = tv E 1 (w64 (a + b)) :: st.map (sv E) from rfl, show tv E 1 (w64 (a + b)) = .long (Int64.ofInt a + Int64.ofInt b) by show Value.long _ = _; rw [i64_w, Int64.ofInt_add]] at k
  exact lv_ladd hX.1 hX.2.1 d k
theorem r_lsub (hX : Good E X cc nL own) {a b : Int} (d : decode cc pc = .ok (.lsub, 1)) (k : At E X cc nL own cs (pc + 1) lv ((1, w64 (a - b)) :: st) μ) : At E X cc nL own cs pc lv ((1, b) :: (1, a) :: st) μ := by
  intro H locs ls hl hR hS
  have k := k H locs ls hl hR hS
  rw [show ((1, w64 (a - b)) :: st).map (sv E) = tv E 1 (w64 (a - b)) :: st.map (sv E) from rfl, show tv E 1 (w64 (a - b)) = .long (Int64.ofInt a - Int64.ofInt b) by show Value.long _ = _; rw [i64_w, Int64.ofInt_sub]] at k
  exact lv_lsub hX.1 hX.2.1 d k
theorem r_lmul (hX : Good E X cc nL own) {a b : Int} (d : decode cc pc = .ok (.lmul, 1)) (k : At E X cc nL own cs (pc + 1) lv ((1, w64 (a * b)) :: st) μ) : At E X cc nL own cs pc lv ((1, b) :: (1, a) :: st) μ := by
  intro H locs ls hl hR hS
  have k := k H locs ls hl hR hS
  rw [show ((1, w64 (a * b)) :: st).map (sv E) = tv E 1 (w64 (a * b)) :: st.map (sv E) from rfl, show tv E 1 (w64 (a * b)) = .long (Int64.ofInt a * Int64.ofInt b) by show Value.long _ = _; rw [i64_w, Int64.ofInt_mul]] at k
  exact lv_lmul hX.1 hX.2.1 d k
theorem r_land (hX : Good E X cc nL own) {a b : Int} (d : decode cc pc = .ok (.land, 1)) (k : At E X cc nL own cs (pc + 1) lv ((1, and64 a b) :: st) μ) : At E X cc nL own cs pc lv ((1, b) :: (1, a) :: st) μ := by
  intro H locs ls hl hR hS
  have k := k H locs ls hl hR hS
  rw [show ((1, and64 a b) :: st).map (sv E) = tv E 1 (and64 a b) :: st.map (sv E) from rfl, show tv E 1 (and64 a b) = .long (Int64.ofInt a &&& Int64.ofInt b) by exact vl_t _] at k
  exact lv_land hX.1 hX.2.1 d k
theorem r_lor (hX : Good E X cc nL own) {a b : Int} (d : decode cc pc = .ok (.lor, 1)) (k : At E X cc nL own cs (pc + 1) lv ((1, or64 a b) :: st) μ) : At E X cc nL own cs pc lv ((1, b) :: (1, a) :: st) μ := by
  intro H locs ls hl hR hS
  have k := k H locs ls hl hR hS
  rw [show ((1, or64 a b) :: st).map (sv E) = tv E 1 (or64 a b) :: st.map (sv E) from rfl, show tv E 1 (or64 a b) = .long (Int64.ofInt a ||| Int64.ofInt b) by exact vl_t _] at k
  exact lv_lor hX.1 hX.2.1 d k
theorem r_ineg (hX : Good E X cc nL own) {a : Int} (d : decode cc pc = .ok (.ineg, 1)) (k : At E X cc nL own cs (pc + 1) lv ((0, w32 (-a)) :: st) μ) : At E X cc nL own cs pc lv ((0, a) :: st) μ := by
  intro H locs ls hl hR hS
  have k := k H locs ls hl hR hS
  rw [show ((0, w32 (-a)) :: st).map (sv E) = tv E 0 (w32 (-a)) :: st.map (sv E) from rfl, show tv E 0 (w32 (-a)) = .int (-Int32.ofInt a) by show Value.int _ = _; rw [i32_w, Int32.ofInt_neg]] at k
  exact lv_ineg hX.1 hX.2.1 d k
theorem r_i2l (hX : Good E X cc nL own) {a : Int} (ha : R32 a) (d : decode cc pc = .ok (.i2l, 1)) (k : At E X cc nL own cs (pc + 1) lv ((1, a) :: st) μ) : At E X cc nL own cs pc lv ((0, a) :: st) μ := by
  intro H locs ls hl hR hS
  have k := k H locs ls hl hR hS
  rw [show ((1, a) :: st).map (sv E) = tv E 1 (a) :: st.map (sv E) from rfl, show tv E 1 (a) = .long (Int32.ofInt a).toInt64 by show Value.long _ = _; congr 1; rw [← Int64.toInt_inj, Int32.toInt_toInt64]; show w64 a = w32 a; rw [w64_R (R64_of ha), w32_R ha]] at k
  exact lv_i2l hX.1 hX.2.1 d rfl k
theorem r_l2i (hX : Good E X cc nL own) {a : Int} (ha : R64 a) (d : decode cc pc = .ok (.l2i, 1)) (k : At E X cc nL own cs (pc + 1) lv ((0, w32 a) :: st) μ) : At E X cc nL own cs pc lv ((1, a) :: st) μ := by
  intro H locs ls hl hR hS
  have k := k H locs ls hl hR hS
  rw [show ((0, w32 a) :: st).map (sv E) = tv E 0 (w32 a) :: st.map (sv E) from rfl, show tv E 0 (w32 a) = .int (Int64.ofInt a).toInt32 by show Value.int _ = _; congr 1; rw [i32_w, ← Int32.toInt_inj, Int64.toInt_toInt32, show (Int64.ofInt a).toInt = a from w64_R ha, Int32.toInt_ofInt]] at k
  exact lv_l2i hX.1 hX.2.1 d rfl k
theorem r_i2b (hX : Good E X cc nL own) {a : Int} (d : decode cc pc = .ok (.i2b, 1)) (k : At E X cc nL own cs (pc + 1) lv ((0, w8 a) :: st) μ) : At E X cc nL own cs pc lv ((0, a) :: st) μ := by
  intro H locs ls hl hR hS
  have k := k H locs ls hl hR hS
  rw [show ((0, w8 a) :: st).map (sv E) = tv E 0 (w8 a) :: st.map (sv E) from rfl, show tv E 0 (w8 a) = .int (Int32.ofInt a).toInt8.toInt32 by exact vi_t _] at k
  exact lv_i2b hX.1 hX.2.1 d rfl k
theorem r_i2s (hX : Good E X cc nL own) {a : Int} (d : decode cc pc = .ok (.i2s, 1)) (k : At E X cc nL own cs (pc + 1) lv ((0, w16 a) :: st) μ) : At E X cc nL own cs pc lv ((0, a) :: st) μ := by
  intro H locs ls hl hR hS
  have k := k H locs ls hl hR hS
  rw [show ((0, w16 a) :: st).map (sv E) = tv E 0 (w16 a) :: st.map (sv E) from rfl, show tv E 0 (w16 a) = .int (Int32.ofInt a).toInt16.toInt32 by exact vi_t _] at k
  exact lv_i2s hX.1 hX.2.1 d rfl k
theorem r_iushr (hX : Good E X cc nL own) {a b : Int} (d : decode cc pc = .ok (.iushr, 1)) (k : At E X cc nL own cs (pc + 1) lv ((0, ushr32 a b) :: st) μ) : At E X cc nL own cs pc lv ((0, b) :: (0, a) :: st) μ := by
  intro H locs ls hl hR hS
  have k := k H locs ls hl hR hS
  rw [show ((0, ushr32 a b) :: st).map (sv E) = vi (ushr32 a b) :: st.map (sv E) from rfl, show vi (ushr32 a b) = .int _ from vi_t _] at k
  exact lv_iushr hX.1 hX.2.1 d rfl k
theorem r_lshl (hX : Good E X cc nL own) {a b : Int} (d : decode cc pc = .ok (.lshl, 1)) (k : At E X cc nL own cs (pc + 1) lv ((1, shl64 a b) :: st) μ) : At E X cc nL own cs pc lv ((0, b) :: (1, a) :: st) μ := by
  intro H locs ls hl hR hS
  have k := k H locs ls hl hR hS
  rw [show ((1, shl64 a b) :: st).map (sv E) = vl (shl64 a b) :: st.map (sv E) from rfl, show vl (shl64 a b) = .long _ from vl_t _] at k
  exact lv_lshl hX.1 hX.2.1 d rfl k
theorem r_lcmp (hX : Good E X cc nL own) {a b : Int} (ha : R64 a) (hb : R64 b) (d : decode cc pc = .ok (.lcmp, 1)) (k : At E X cc nL own cs (pc + 1) lv ((0, cmp64 a b) :: st) μ) : At E X cc nL own cs pc lv ((1, b) :: (1, a) :: st) μ := by
  intro H locs ls hl hR hS
  have k := k H locs ls hl hR hS
  rw [show ((0, cmp64 a b) :: st).map (sv E) = vi (cmp64 a b) :: st.map (sv E) from rfl, show vi (cmp64 a b) = .int (lg_cmp (Int64.ofInt a) (Int64.ofInt b)) by
    unfold vi cmp64 lg_cmp; congr 1
    have e1 : (Int64.ofInt a > Int64.ofInt b) ↔ b < a := i64_lt hb ha
    by_cases h1 : b < a
    · rw [if_pos h1, if_pos (e1.mpr h1)]; rfl
    · rw [if_neg h1, if_neg (fun z => h1 (e1.mp z))]
      by_cases h2 : a = b
      · rw [if_pos h2, if_pos ((i64_eq ha hb).mpr h2)]; rfl
      · rw [if_neg h2, if_neg (fun z => h2 ((i64_eq ha hb).mp z))]; rfl] at k
  exact W.lcmp hX.1 hX.2.1 d k
theorem r_idiv (hX : Good E X cc nL own) {a b x : Int} (hb : R32 b) (h : div32 a b = some x) (d : decode cc pc = .ok (.idiv, 1)) (k : R32 x → At E X cc nL own cs (pc + 1) lv ((0, x) :: st) μ) : At E X cc nL own cs pc lv ((0, b) :: (0, a) :: st) μ := by
  unfold div32 at h
  by_cases h0 : b = 0
  · rw [if_pos h0] at h; cases h
  · rw [if_neg h0] at h
    have hx := Option.some.inj h
    intro H locs ls hl hR hS
    have k := k (by rw [← hx]; exact R32_t _) H locs ls hl hR hS
    rw [← hx, show ((0, _) :: st).map (sv E) = vi _ :: st.map (sv E) from rfl, vi_t] at k
    exact lv_idiv hX.1 hX.2.1 d (fun z => h0 ((i32_eq hb R32_0).mp (z.trans i32_0))) k
theorem r_irem (hX : Good E X cc nL own) {a b x : Int} (hb : R32 b) (h : rem32 a b = some x) (d : decode cc pc = .ok (.irem, 1)) (k : R32 x → At E X cc nL own cs (pc + 1) lv ((0, x) :: st) μ) : At E X cc nL own cs pc lv ((0, b) :: (0, a) :: st) μ := by
  unfold rem32 at h
  by_cases h0 : b = 0
  · rw [if_pos h0] at h; cases h
  · rw [if_neg h0] at h
    have hx := Option.some.inj h
    intro H locs ls hl hR hS
    have k := k (by rw [← hx]; exact R32_t _) H locs ls hl hR hS
    rw [← hx, show ((0, _) :: st).map (sv E) = vi _ :: st.map (sv E) from rfl, vi_t] at k
    exact lv_irem hX.1 hX.2.1 d (fun z => h0 ((i32_eq hb R32_0).mp (z.trans i32_0))) k
theorem r_ldiv (hX : Good E X cc nL own) {a b x : Int} (hb : R64 b) (h : div64 a b = some x) (d : decode cc pc = .ok (.ldiv, 1)) (k : R64 x → At E X cc nL own cs (pc + 1) lv ((1, x) :: st) μ) : At E X cc nL own cs pc lv ((1, b) :: (1, a) :: st) μ := by
  unfold div64 at h
  by_cases h0 : b = 0
  · rw [if_pos h0] at h; cases h
  · rw [if_neg h0] at h
    have hx := Option.some.inj h
    intro H locs ls hl hR hS
    have k := k (by rw [← hx]; exact R64_t _) H locs ls hl hR hS
    rw [← hx, show ((1, _) :: st).map (sv E) = vl _ :: st.map (sv E) from rfl, vl_t] at k
    exact lv_ldiv hX.1 hX.2.1 d (fun z => h0 ((i64_eq hb R64_0).mp (z.trans i64_0))) k
theorem r_lrem (hX : Good E X cc nL own) {a b x : Int} (hb : R64 b) (h : rem64 a b = some x) (d : decode cc pc = .ok (.lrem, 1)) (k : R64 x → At E X cc nL own cs (pc + 1) lv ((1, x) :: st) μ) : At E X cc nL own cs pc lv ((1, b) :: (1, a) :: st) μ := by
  unfold rem64 at h
  by_cases h0 : b = 0
  · rw [if_pos h0] at h; cases h
  · rw [if_neg h0] at h
    have hx := Option.some.inj h
    intro H locs ls hl hR hS
    have k := k (by rw [← hx]; exact R64_t _) H locs ls hl hR hS
    rw [← hx, show ((1, _) :: st).map (sv E) = vl _ :: st.map (sv E) from rfl, vl_t] at k
    exact lv_lrem hX.1 hX.2.1 d (fun z => h0 ((i64_eq hb R64_0).mp (z.trans i64_0))) k
theorem r_dup (hX : Good E X cc nL own) {t : Nat} {x : Int} (ht : catT t = 1) (d : decode cc pc = .ok (.dup, 1)) (k : At E X cc nL own cs (pc + 1) lv ((t, x) :: (t, x) :: st) μ) : At E X cc nL own cs pc lv ((t, x) :: st) μ := by
  intro H locs ls hl hR hS
  exact lv_dup hX.1 hX.2.1 d (cat_tv.trans ht) (k H locs ls hl hR hS)
theorem r_pop (hX : Good E X cc nL own) {t : Nat} {x : Int} (ht : catT t = 1) (d : decode cc pc = .ok (.pop, 1)) (k : At E X cc nL own cs (pc + 1) lv st μ) : At E X cc nL own cs pc lv ((t, x) :: st) μ := by
  intro H locs ls hl hR hS
  exact lv_pop hX.1 hX.2.1 d (cat_tv.trans ht) (k H locs ls hl hR hS)
theorem r_dup2 (hX : Good E X cc nL own) {t u : Nat} {x y : Int} (ht : catT t = 1) (hu : catT u = 1) (d : decode cc pc = .ok (.dup2, 1)) (k : At E X cc nL own cs (pc + 1) lv ((t, x) :: (u, y) :: (t, x) :: (u, y) :: st) μ) : At E X cc nL own cs pc lv ((t, x) :: (u, y) :: st) μ := by
  intro H locs ls hl hR hS
  exact lv_dup2_11 hX.1 hX.2.1 d (cat_tv.trans ht) (cat_tv.trans hu) (k H locs ls hl hR hS)
theorem r_goto (hX : Good E X cc nL own) {off : Int} (tgt : Nat) (ht : (pc : Int) + off = (tgt : Int)) (d : decode cc pc = .ok (.goto off, 3)) (k : At E X cc nL own cs tgt lv st μ) : At E X cc nL own cs pc lv st μ := by
  intro H locs ls hl hR hS
  exact lv_goto hX.1 hX.2.1 d ht (k H locs ls hl hR hS)
/-- fewer listed locals, by their places -/
theorem r_sub (ks : List Nat) (h : ks.filterMap (fun k => lv[k]?) = lv') (k : At E X cc nL own cs pc lv' st μ) : At E X cc nL own cs pc lv st μ := by
  intro H locs ls hl hR hS
  refine k H locs ls (lv_sub hl ks ?_) hR hS
  subst h
  unfold lv_pick lvV
  rw [List.map_filterMap]
  congr 1; funext j; rw [List.getElem?_map]
theorem r_icmp_eq (hX : Good E X cc nL own) {x y : Int} {off : Int} (hx : R32 x) (hy : R32 y) (tgt : Nat) (ht : (pc : Int) + off = (tgt : Int)) (d : decode cc pc = .ok (.if_icmp .eq off, 3)) (kt : x = y → At E X cc nL own cs tgt lv st μ) (kf : ¬ x = y → At E X cc nL own cs (pc + 3) lv st μ) : At E X cc nL own cs pc lv ((0, y) :: (0, x) :: st) μ := by
  intro H locs ls hl hR hS
  refine lv_icmp_eq hX.1 hX.2.1 d ht (fun h => kt ?_ H locs ls hl hR hS) (fun h => kf ?_ H locs ls hl hR hS)
  all_goals (first | exact (i32_eq hx hy).mp h | exact fun z => h ((i32_eq hx hy).mpr z))
theorem r_if_eq (hX : Good E X cc nL own) {x : Int} {off : Int} (hx : R32 x) (tgt : Nat) (ht : (pc : Int) + off = (tgt : Int)) (d : decode cc pc = .ok (.ifCond .eq off, 3)) (kt : x = 0 → At E X cc nL own cs tgt lv st μ) (kf : ¬ x = 0 → At E X cc nL own cs (pc + 3) lv st μ) : At E X cc nL own cs pc lv ((0, x) :: st) μ := by
  intro H locs ls hl hR hS
  refine lv_if_eq hX.1 hX.2.1 d ht (fun h => kt ?_ H locs ls hl hR hS) (fun h => kf ?_ H locs ls hl hR hS)
  all_goals (rw [i32_0] at h; first | exact (i32_eq hx R32_0).mp h | exact fun z => h ((i32_eq hx R32_0).mpr z))
theorem r_icmp_ne (hX : Good E X cc nL own) {x y : Int} {off : Int} (hx : R32 x) (hy : R32 y) (tgt : Nat) (ht : (pc : Int) + off = (tgt : Int)) (d : decode cc pc = .ok (.if_icmp .ne off, 3)) (kt : ¬ x = y → At E X cc nL own cs tgt lv st μ) (kf : x = y → At E X cc nL own cs (pc + 3) lv st μ) : At E X cc nL own cs pc lv ((0, y) :: (0, x) :: st) μ := by
  intro H locs ls hl hR hS
  refine lv_icmp_ne hX.1 hX.2.1 d ht (fun h => kt ?_ H locs ls hl hR hS) (fun h => kf ?_ H locs ls hl hR hS)
  all_goals (first | exact fun z => h ((i32_eq hx hy).mpr z) | exact (i32_eq hx hy).mp h)
theorem r_if_ne (hX : Good E X cc nL own) {x : Int} {off : Int} (hx : R32 x) (tgt : Nat) (ht : (pc : Int) + off = (tgt : Int)) (d : decode cc pc = .ok (.ifCond .ne off, 3)) (kt : ¬ x = 0 → At E X cc nL own cs tgt lv st μ) (kf : x = 0 → At E X cc nL own cs (pc + 3) lv st μ) : At E X cc nL own cs pc lv ((0, x) :: st) μ := by
  intro H locs ls hl hR hS
  refine lv_if_ne hX.1 hX.2.1 d ht (fun h => kt ?_ H locs ls hl hR hS) (fun h => kf ?_ H locs ls hl hR hS)
  all_goals (rw [i32_0] at h; first | exact fun z => h ((i32_eq hx R32_0).mpr z) | exact (i32_eq hx R32_0).mp h)
theorem r_icmp_lt (hX : Good E X cc nL own) {x y : Int} {off : Int} (hx : R32 x) (hy : R32 y) (tgt : Nat) (ht : (pc : Int) + off = (tgt : Int)) (d : decode cc pc = .ok (.if_icmp .lt off, 3)) (kt : x < y → At E X cc nL own cs tgt lv st μ) (kf : ¬ x < y → At E X cc nL own cs (pc + 3) lv st μ) : At E X cc nL own cs pc lv ((0, y) :: (0, x) :: st) μ := by
  intro H locs ls hl hR hS
  refine lv_icmp_lt hX.1 hX.2.1 d ht (fun h => kt ?_ H locs ls hl hR hS) (fun h => kf ?_ H locs ls hl hR hS)
  all_goals (first | exact (i32_lt hx hy).mp h | exact fun z => h ((i32_lt hx hy).mpr z))
theorem r_if_lt (hX : Good E X cc nL own) {x : Int} {off : Int} (hx : R32 x) (tgt : Nat) (ht : (pc : Int) + off = (tgt : Int)) (d : decode cc pc = .ok (.ifCond .lt off, 3)) (kt : x < 0 → At E X cc nL own cs tgt lv st μ) (kf : ¬ x < 0 → At E X cc nL own cs (pc + 3) lv st μ) : At E X cc nL own cs pc lv ((0, x) :: st) μ := by
  intro H locs ls hl hR hS
  refine lv_if_lt hX.1 hX.2.1 d ht (fun h => kt ?_ H locs ls hl hR hS) (fun h => kf ?_ H locs ls hl hR hS)
  all_goals (rw [i32_0] at h; first | exact (i32_lt hx R32_0).mp h | exact fun z => h ((i32_lt hx R32_0).mpr z))
theorem r_icmp_ge (hX : Good E X cc nL own) {x y : Int} {off : Int} (hx : R32 x) (hy : R32 y) (tgt : Nat) (ht : (pc : Int) + off = (tgt : Int)) (d : decode cc pc = .ok (.if_icmp .ge off, 3)) (kt : ¬ x < y → At E X cc nL own cs tgt lv st μ) (kf : x < y → At E X cc nL own cs (pc + 3) lv st μ) : At E X cc nL own cs pc lv ((0, y) :: (0, x) :: st) μ := by
  intro H locs ls hl hR hS
  refine lv_icmp_ge hX.1 hX.2.1 d ht (fun h => kt ?_ H locs ls hl hR hS) (fun h => kf ?_ H locs ls hl hR hS)
  all_goals (first | exact Int.not_lt.mpr ((i32_le hy hx).mp h) | exact Classical.byContradiction fun z => h ((i32_le hy hx).mpr (Int.not_lt.mp z)))
theorem r_if_ge (hX : Good E X cc nL own) {x : Int} {off : Int} (hx : R32 x) (tgt : Nat) (ht : (pc : Int) + off = (tgt : Int)) (d : decode cc pc = .ok (.ifCond .ge off, 3)) (kt : ¬ x < 0 → At E X cc nL own cs tgt lv st μ) (kf : x < 0 → At E X cc nL own cs (pc + 3) lv st μ) : At E X cc nL own cs pc lv ((0, x) :: st) μ := by
  intro H locs ls hl hR hS
  refine lv_if_ge hX.1 hX.2.1 d ht (fun h => kt ?_ H locs ls hl hR hS) (fun h => kf ?_ H locs ls hl hR hS)
  all_goals (rw [i32_0] at h; first | exact Int.not_lt.mpr ((i32_le R32_0 hx).mp h) | exact Classical.byContradiction fun z => h ((i32_le R32_0 hx).mpr (Int.not_lt.mp z)))
theorem r_icmp_gt (hX : Good E X cc nL own) {x y : Int} {off : Int} (hx : R32 x) (hy : R32 y) (tgt : Nat) (ht : (pc : Int) + off = (tgt : Int)) (d : decode cc pc = .ok (.if_icmp .gt off, 3)) (kt : y < x → At E X cc nL own cs tgt lv st μ) (kf : ¬ y < x → At E X cc nL own cs (pc + 3) lv st μ) : At E X cc nL own cs pc lv ((0, y) :: (0, x) :: st) μ := by
  intro H locs ls hl hR hS
  refine lv_icmp_gt hX.1 hX.2.1 d ht (fun h => kt ?_ H locs ls hl hR hS) (fun h => kf ?_ H locs ls hl hR hS)
  all_goals (first | exact (i32_lt hy hx).mp h | exact fun z => h ((i32_lt hy hx).mpr z))
theorem r_if_gt (hX : Good E X cc nL own) {x : Int} {off : Int} (hx : R32 x) (tgt : Nat) (ht : (pc : Int) + off = (tgt : Int)) (d : decode cc pc = .ok (.ifCond .gt off, 3)) (kt : 0 < x → At E X cc nL own cs tgt lv st μ) (kf : ¬ 0 < x → At E X cc nL own cs (pc + 3) lv st μ) : At E X cc nL own cs pc lv ((0, x) :: st) μ := by
  intro H locs ls hl hR hS
  refine lv_if_gt hX.1 hX.2.1 d ht (fun h => kt ?_ H locs ls hl hR hS) (fun h => kf ?_ H locs ls hl hR hS)
  all_goals (rw [i32_0] at h; first | exact (i32_lt R32_0 hx).mp h | exact fun z => h ((i32_lt R32_0 hx).mpr z))
theorem r_icmp_le (hX : Good E X cc nL own) {x y : Int} {off : Int} (hx : R32 x) (hy : R32 y) (tgt : Nat) (ht : (pc : Int) + off = (tgt : Int)) (d : decode cc pc = .ok (.if_icmp .le off, 3)) (kt : ¬ y < x → At E X cc nL own cs tgt lv st μ) (kf : y < x → At E X cc nL own cs (pc + 3) lv st μ) : At E X cc nL own cs pc lv ((0, y) :: (0, x) :: st) μ := by
  intro H locs ls hl hR hS
  refine lv_icmp_le hX.1 hX.2.1 d ht (fun h => kt ?_ H locs ls hl hR hS) (fun h => kf ?_ H locs ls hl hR hS)
  all_goals (first | exact Int.not_lt.mpr ((i32_le hx hy).mp h) | exact Classical.byContradiction fun z => h ((i32_le hx hy).mpr (Int.not_lt.mp z)))
theorem r_if_le (hX : Good E X cc nL own) {x : Int} {off : Int} (hx : R32 x) (tgt : Nat) (ht : (pc : Int) + off = (tgt : Int)) (d : decode cc pc = .ok (.ifCond .le off, 3)) (kt : ¬ 0 < x → At E X cc nL own cs tgt lv st μ) (kf : 0 < x → At E X cc nL own cs (pc + 3) lv st μ) : At E X cc nL own cs pc lv ((0, x) :: st) μ := by
  intro H locs ls hl hR hS
  refine lv_if_le hX.1 hX.2.1 d ht (fun h => kt ?_ H locs ls hl hR hS) (fun h => kf ?_ H locs ls hl hR hS)
  all_goals (rw [i32_0] at h; first | exact Int.not_lt.mpr ((i32_le hx R32_0).mp h) | exact Classical.byContradiction fun z => h ((i32_le hx R32_0).mpr (Int.not_lt.mp z)))
theorem r_nonnull (hX : Good E X cc nL own) {x : Int} {off : Int} (tgt : Nat) (ht : (pc : Int) + off = (tgt : Int)) (d : decode cc pc = .ok (.ifnonnull off, 3)) (kt : ¬ x = -1 → At E X cc nL own cs tgt lv st μ) (kf : x = -1 → At E X cc nL own cs (pc + 3) lv st μ) : At E X cc nL own cs pc lv ((2, x) :: st) μ := by
  intro H locs ls hl hR hS
  rw [show ((2, x) :: st).map (sv E) = va_rf (ro E x) :: st.map (sv E) from rfl]
  by_cases h : x = -1
  · have : ro E x = none := by rw [h]; rfl
    rw [this]
    exact lv_ifnonnullN hX.1 hX.2.1 d (kf h H locs ls hl hR hS)
  · obtain ⟨a, ha⟩ : ∃ a, ro E x = some a := by
      unfold ro; split
      · exact ⟨_, rfl⟩
      · exact ⟨_, rfl⟩
    rw [ha]
    exact lv_ifnonnull hX.1 hX.2.1 d ht (kt h H locs ls hl hR hS)
theorem r_table (hX : Good E X cc nL own) {x dflt lo hi : Int} {offs : Array Int} {len : Nat} {off : Int} (hx : R32 x) (tgt : Nat) (d : decode cc pc = .ok (.tableswitch dflt lo hi offs, len)) (h1 : lo ≤ x) (h2 : x ≤ hi) (ho : offs[(x - lo).toNat]? = some off) (ht : (pc : Int) + off = (tgt : Int)) (k : At E X cc nL own cs tgt lv st μ) : At E X cc nL own cs pc lv ((0, x) :: st) μ := by
  intro H locs ls hl hR hS
  have e : (Int32.ofInt x).toInt = x := w32_R hx
  exact lv_tableIn (x := Int32.ofInt x) hX.1 hX.2.1 d (by rw [e]; omega) (by rw [e]; omega) (by rw [e]; exact ho) ht (k H locs ls hl hR hS)
theorem r_tableD (hX : Good E X cc nL own) {x dflt lo hi : Int} {offs : Array Int} {len : Nat} (hx : R32 x) (tgt : Nat) (d : decode cc pc = .ok (.tableswitch dflt lo hi offs, len)) (h : x < lo ∨ hi < x) (ht : (pc : Int) + dflt = (tgt : Int)) (k : At E X cc nL own cs tgt lv st μ) : At E X cc nL own cs pc lv ((0, x) :: st) μ := by
  intro H locs ls hl hR hS
  have e : (Int32.ofInt x).toInt = x := w32_R hx
  exact lv_tableOut (x := Int32.ofInt x) hX.1 hX.2.1 d (by rw [e]; exact h) ht (k H locs ls hl hR hS)
theorem r_lookup (hX : Good E X cc nL own) {x dflt : Int} {ps : Array (Int × Int)} {len : Nat} {off : Int} (hx : R32 x) (tgt : Nat) (d : decode cc pc = .ok (.lookupswitch dflt ps, len)) (hp : (ps.toList.zip (ps.toList.drop 1)).all (fun (a, next) => a.1 < next.1) = true) (ho : Op.lookupswitch.offset ps.toList dflt x = off) (ht : (pc : Int) + off = (tgt : Int)) (k : At E X cc nL own cs tgt lv st μ) : At E X cc nL own cs pc lv ((0, x) :: st) μ := by
  intro H locs ls hl hR hS
  have e : (Int32.ofInt x).toInt = x := w32_R hx
  exact lv_lookup (x := Int32.ofInt x) hX.1 hX.2.1 d hp (by rw [e]; exact ho) ht (k H locs ls hl hR hS)
theorem r_getI (hX : Good E X cc nL own) {idx ci k : Nat} {ty : FieldType} {fin : Bool} {a x : Int} (hF : Fld own idx ci k ty fin) (ht : tyTag ty = 0) (hc : tyOf ci k = 0) (h : getf ci k μ a = some x) (d : decode cc pc = .ok (.getfield idx, 3)) (kk : R32 x → At E X cc nL own cs (pc + 3) lv ((0, x) :: st) μ) : At E X cc nL own cs pc lv ((2, a) :: st) μ := by
  intro H locs ls hl hR hS
  refine am_get hX.1 hX.2.1 hX.2.2.2.2.1 hX.2.2.2.1 hX.2.2.2.2.2.1.1 hF hR h d (fun hr => ?_)
  rw [ht]
  exact kk (by unfold rng at hr; rw [hc] at hr; exact hr) H locs ls hl hR hS
theorem r_getR (hX : Good E X cc nL own) {idx ci k : Nat} {ty : FieldType} {fin : Bool} {a x : Int} (hF : Fld own idx ci k ty fin) (ht : tyTag ty = 2) (h : getf ci k μ a = some x) (d : decode cc pc = .ok (.getfield idx, 3)) (kk : At E X cc nL own cs (pc + 3) lv ((2, x) :: st) μ) : At E X cc nL own cs pc lv ((2, a) :: st) μ := by
  intro H locs ls hl hR hS
  refine am_get hX.1 hX.2.1 hX.2.2.2.2.1 hX.2.2.2.1 hX.2.2.2.2.2.1.1 hF hR h d (fun hr => ?_)
  rw [ht]
  exact kk H locs ls hl hR hS
theorem r_putI (hX : Good E X cc nL own) {idx ci k : Nat} {ty : FieldType} {a x : Int} (hF : Fld own idx ci k ty false) (ht : tyTag ty = 0) (hc : tyOf ci k = 0) (hx : R32 x) (hv : okv ty x) (h : putf ci k μ a x = some μ') (d : decode cc pc = .ok (.putfield idx, 3)) (kk : At E X cc nL own cs (pc + 3) lv st μ') : At E X cc nL own cs pc lv ((0, x) :: (2, a) :: st) μ := by
  intro H locs ls hl hR hS
  have := am_put (ls := ls) (rest := st.map (sv E)) (cells := cs.1) (slots := cs.2) (Q := X.2.2) (l := X.1.2.1) (e := X.1.2.2.1) (R := X.1.2.2.2.1) (below := X.2.1.2.2.1) (meth := X.2.1.2.2.2.1) hX.1 hX.2.1 hX.2.2.2.2.1 hX.2.2.2.1 hX.2.2.2.2.2.1.1 hF (fun z => by cases z) hR hS h hv (by unfold rng; rw [hc]; exact hx) d (fun H1 locs1 h1 h2 => kk H1 locs1 ls hl h1 h2)
  rw [ht] at this; exact this
theorem r_putR (hX : Good E X cc nL own) {idx ci k : Nat} {ty : FieldType} {a x : Int} (hF : Fld own idx ci k ty false) (ht : tyTag ty = 2) (hc : tyOf ci k = 2) (hv : okv ty x) (h : putf ci k μ a x = some μ') (d : decode cc pc = .ok (.putfield idx, 3)) (kk : At E X cc nL own cs (pc + 3) lv st μ') : At E X cc nL own cs pc lv ((2, x) :: (2, a) :: st) μ := by
  intro H locs ls hl hR hS
  have := am_put (ls := ls) (rest := st.map (sv E)) (cells := cs.1) (slots := cs.2) (Q := X.2.2) (l := X.1.2.1) (e := X.1.2.2.1) (R := X.1.2.2.2.1) (below := X.2.1.2.2.1) (meth := X.2.1.2.2.2.1) hX.1 hX.2.1 hX.2.2.2.2.1 hX.2.2.2.1 hX.2.2.2.2.2.1.1 hF (fun z => by cases z) hR hS h hv (by unfold rng; rw [hc]; trivial) d (fun H1 locs1 h1 h2 => kk H1 locs1 ls hl h1 h2)
  rw [ht] at this; exact this
theorem r_putF (hX : Good E X cc nL own) {idx ci k : Nat} {ty : FieldType} {a x : Int} (hF : Fld own idx ci k ty true) (hin : (cMeth X).name = "<init>") (hci : ∃ C T N, vwCl[ci]? = some (C, T, N) ∧ C = own) (ht : tyTag ty = 2) (hc : tyOf ci k = 2) (hv : okv ty x) (h : putf ci k μ a x = some μ') (d : decode cc pc = .ok (.putfield idx, 3)) (kk : At E X cc nL own cs (pc + 3) lv st μ') : At E X cc nL own cs pc lv ((2, x) :: (2, a) :: st) μ := by
  intro H locs ls hl hR hS
  have := am_put (ls := ls) (rest := st.map (sv E)) (cells := cs.1) (slots := cs.2) (Q := X.2.2) (l := X.1.2.1) (e := X.1.2.2.1) (R := X.1.2.2.2.1) (below := X.2.1.2.2.1) (meth := X.2.1.2.2.2.1) hX.1 hX.2.1 hX.2.2.2.2.1 hX.2.2.2.1 hX.2.2.2.2.2.1.1 hF (fun _ => ⟨hin, hci⟩) hR hS h hv (by unfold rng; rw [hc]; trivial) d (fun H1 locs1 h1 h2 => kk H1 locs1 ls hl h1 h2)
  rw [ht] at this; exact this
theorem r_iald (hX : Good E X cc nL own) {a i x : Int} (hi : R32 i) (h : lda 20 μ a i = some x) (d : decode cc pc = .ok (.iaload, 1)) (kk : R32 x → At E X cc nL own cs (pc + 1) lv ((0, x) :: st) μ) : At E X cc nL own cs pc lv ((0, i) :: (2, a) :: st) μ := by
  intro H locs ls hl hR hS
  exact am_iald hX.1 hX.2.1 hX.2.2.2.2.2.1.1 hR h hi d (fun hr => kk hr H locs ls hl hR hS)
theorem r_bald (hX : Good E X cc nL own) {a i x : Int} (hi : R32 i) (h : lda 22 μ a i = some x) (d : decode cc pc = .ok (.baload, 1)) (kk : R32 x → At E X cc nL own cs (pc + 1) lv ((0, x) :: st) μ) : At E X cc nL own cs pc lv ((0, i) :: (2, a) :: st) μ := by
  intro H locs ls hl hR hS
  exact am_bald hX.1 hX.2.1 hX.2.2.2.2.2.1.1 hR h hi d (fun hr => kk hr H locs ls hl hR hS)
theorem r_zald (hX : Good E X cc nL own) {a i x : Int} (hi : R32 i) (h : lda 23 μ a i = some x) (d : decode cc pc = .ok (.baload, 1)) (kk : R32 x → At E X cc nL own cs (pc + 1) lv ((0, x) :: st) μ) : At E X cc nL own cs pc lv ((0, i) :: (2, a) :: st) μ := by
  intro H locs ls hl hR hS
  exact am_zald hX.1 hX.2.1 hX.2.2.2.2.2.1.1 hR h hi d (fun hr => kk hr H locs ls hl hR hS)
theorem r_lald (hX : Good E X cc nL own) {a i x : Int} (hi : R32 i) (h : lda 21 μ a i = some x) (d : decode cc pc = .ok (.laload, 1)) (kk : R64 x → At E X cc nL own cs (pc + 1) lv ((1, x) :: st) μ) : At E X cc nL own cs pc lv ((0, i) :: (2, a) :: st) μ := by
  intro H locs ls hl hR hS
  exact am_lald hX.1 hX.2.1 hX.2.2.2.2.2.1.1 hR h hi d (fun hr => kk hr H locs ls hl hR hS)
theorem r_aald24 (hX : Good E X cc nL own) {a i x : Int} (hi : R32 i) (h : lda 24 μ a i = some x) (d : decode cc pc = .ok (.aaload, 1)) (kk : At E X cc nL own cs (pc + 1) lv ((2, x) :: st) μ) : At E X cc nL own cs pc lv ((0, i) :: (2, a) :: st) μ := by
  intro H locs ls hl hR hS
  exact am_aald (ci := 24) (t0 := 4) hX.1 hX.2.1 hX.2.2.2.2.2.1.1 (by omega) (by omega) rfl rfl hR h hi d (kk H locs ls hl hR hS)
theorem r_aald25 (hX : Good E X cc nL own) {a i x : Int} (hi : R32 i) (h : lda 25 μ a i = some x) (d : decode cc pc = .ok (.aaload, 1)) (kk : At E X cc nL own cs (pc + 1) lv ((2, x) :: st) μ) : At E X cc nL own cs pc lv ((0, i) :: (2, a) :: st) μ := by
  intro H locs ls hl hR hS
  exact am_aald (ci := 25) (t0 := 5) hX.1 hX.2.1 hX.2.2.2.2.2.1.1 (by omega) (by omega) rfl rfl hR h hi d (kk H locs ls hl hR hS)
theorem r_aald26 (hX : Good E X cc nL own) {a i x : Int} (hi : R32 i) (h : lda 26 μ a i = some x) (d : decode cc pc = .ok (.aaload, 1)) (kk : At E X cc nL own cs (pc + 1) lv ((2, x) :: st) μ) : At E X cc nL own cs pc lv ((0, i) :: (2, a) :: st) μ := by
  intro H locs ls hl hR hS
  exact am_aald (ci := 26) (t0 := 6) hX.1 hX.2.1 hX.2.2.2.2.2.1.1 (by omega) (by omega) rfl rfl hR h hi d (kk H locs ls hl hR hS)
theorem r_aald27 (hX : Good E X cc nL own) {a i x : Int} (hi : R32 i) (h : lda 27 μ a i = some x) (d : decode cc pc = .ok (.aaload, 1)) (kk : At E X cc nL own cs (pc + 1) lv ((2, x) :: st) μ) : At E X cc nL own cs pc lv ((0, i) :: (2, a) :: st) μ := by
  intro H locs ls hl hR hS
  exact am_aald (ci := 27) (t0 := 7) hX.1 hX.2.1 hX.2.2.2.2.2.1.1 (by omega) (by omega) rfl rfl hR h hi d (kk H locs ls hl hR hS)
theorem r_iast (hX : Good E X cc nL own) {a i x : Int} (hi : R32 i) (hx : R32 x) (h : sta 20 μ a i x = some μ') (d : decode cc pc = .ok (.iastore, 1)) (kk : At E X cc nL own cs (pc + 1) lv st μ') : At E X cc nL own cs pc lv ((0, x) :: (0, i) :: (2, a) :: st) μ := by
  intro H locs ls hl hR hS
  exact am_iast hX.1 hX.2.1 hX.2.2.2.2.2.1.1 hR hS h hi hx d (fun H1 locs1 h1 h2 => kk H1 locs1 ls hl h1 h2)
theorem r_bast (hX : Good E X cc nL own) {a i x : Int} (hi : R32 i) (hx : R32 x) (hy : -128 ≤ x ∧ x < 128) (h : sta 22 μ a i x = some μ') (d : decode cc pc = .ok (.bastore, 1)) (kk : At E X cc nL own cs (pc + 1) lv st μ') : At E X cc nL own cs pc lv ((0, x) :: (0, i) :: (2, a) :: st) μ := by
  intro H locs ls hl hR hS
  exact am_bast hX.1 hX.2.1 hX.2.2.2.2.2.1.1 hR hS h hi hx hy d (fun H1 locs1 h1 h2 => kk H1 locs1 ls hl h1 h2)
theorem r_zast (hX : Good E X cc nL own) {a i x : Int} (hi : R32 i) (hx : R32 x) (hy : x = 0 ∨ x = 1) (h : sta 23 μ a i x = some μ') (d : decode cc pc = .ok (.bastore, 1)) (kk : At E X cc nL own cs (pc + 1) lv st μ') : At E X cc nL own cs pc lv ((0, x) :: (0, i) :: (2, a) :: st) μ := by
  intro H locs ls hl hR hS
  exact am_zast hX.1 hX.2.1 hX.2.2.2.2.2.1.1 hR hS h hi hx hy d (fun H1 locs1 h1 h2 => kk H1 locs1 ls hl h1 h2)
theorem r_last (hX : Good E X cc nL own) {a i x : Int} (hi : R32 i) (hx : R64 x) (h : sta 21 μ a i x = some μ') (d : decode cc pc = .ok (.lastore, 1)) (kk : At E X cc nL own cs (pc + 1) lv st μ') : At E X cc nL own cs pc lv ((1, x) :: (0, i) :: (2, a) :: st) μ := by
  intro H locs ls hl hR hS
  exact am_last hX.1 hX.2.1 hX.2.2.2.2.2.1.1 hR hS h hi hx d (fun H1 locs1 h1 h2 => kk H1 locs1 ls hl h1 h2)
theorem r_aast24 (hX : Good E X cc nL own) {a i x : Int} (hi : R32 i) (hx : isk 6 μ x = some ()) (h : sta 24 μ a i x = some μ') (d : decode cc pc = .ok (.aastore, 1)) (kk : At E X cc nL own cs (pc + 1) lv st μ') : At E X cc nL own cs pc lv ((2, x) :: (0, i) :: (2, a) :: st) μ := by
  intro H locs ls hl hR hS
  exact am_aast (ci := 24) (cv := 6) (t0 := 4) (r := (RX6, TX6, 9)) hX.1 hX.2.1 hX.2.2.2.2.2.1.1 (by omega) (by omega) (by omega) rfl rfl hR hS h hi hx d (fun H1 locs1 h1 h2 => kk H1 locs1 ls hl h1 h2)
theorem r_aast25 (hX : Good E X cc nL own) {a i x : Int} (hi : R32 i) (hx : isk 10 μ x = some ()) (h : sta 25 μ a i x = some μ') (d : decode cc pc = .ok (.aastore, 1)) (kk : At E X cc nL own cs (pc + 1) lv st μ') : At E X cc nL own cs pc lv ((2, x) :: (0, i) :: (2, a) :: st) μ := by
  intro H locs ls hl hR hS
  exact am_aast (ci := 25) (cv := 10) (t0 := 5) (r := (RX10, TX10, 6)) hX.1 hX.2.1 hX.2.2.2.2.2.1.1 (by omega) (by omega) (by omega) rfl rfl hR hS h hi hx d (fun H1 locs1 h1 h2 => kk H1 locs1 ls hl h1 h2)
theorem r_aast26 (hX : Good E X cc nL own) {a i x : Int} (hi : R32 i) (hx : isk 2 μ x = some ()) (h : sta 26 μ a i x = some μ') (d : decode cc pc = .ok (.aastore, 1)) (kk : At E X cc nL own cs (pc + 1) lv st μ') : At E X cc nL own cs pc lv ((2, x) :: (0, i) :: (2, a) :: st) μ := by
  intro H locs ls hl hR hS
  exact am_aast (ci := 26) (cv := 2) (t0 := 6) (r := (RX2, TX2, 4)) hX.1 hX.2.1 hX.2.2.2.2.2.1.1 (by omega) (by omega) (by omega) rfl rfl hR hS h hi hx d (fun H1 locs1 h1 h2 => kk H1 locs1 ls hl h1 h2)
theorem r_alen20 (hX : Good E X cc nL own) {a x : Int} (h : alen 20 μ a = some x) (d : decode cc pc = .ok (.arraylength, 1)) (kk : R32 x → At E X cc nL own cs (pc + 1) lv ((0, x) :: st) μ) : At E X cc nL own cs pc lv ((2, a) :: st) μ := by
  intro H locs ls hl hR hS
  exact am_alen (ci := 20) (t0 := 0) hX.1 hX.2.1 hX.2.2.2.2.2.1.1 (by omega) (by omega) rfl hR h d (fun hr => kk hr H locs ls hl hR hS)
theorem r_alen21 (hX : Good E X cc nL own) {a x : Int} (h : alen 21 μ a = some x) (d : decode cc pc = .ok (.arraylength, 1)) (kk : R32 x → At E X cc nL own cs (pc + 1) lv ((0, x) :: st) μ) : At E X cc nL own cs pc lv ((2, a) :: st) μ := by
  intro H locs ls hl hR hS
  exact am_alen (ci := 21) (t0 := 1) hX.1 hX.2.1 hX.2.2.2.2.2.1.1 (by omega) (by omega) rfl hR h d (fun hr => kk hr H locs ls hl hR hS)
theorem r_alen22 (hX : Good E X cc nL own) {a x : Int} (h : alen 22 μ a = some x) (d : decode cc pc = .ok (.arraylength, 1)) (kk : R32 x → At E X cc nL own cs (pc + 1) lv ((0, x) :: st) μ) : At E X cc nL own cs pc lv ((2, a) :: st) μ := by
  intro H locs ls hl hR hS
  exact am_alen (ci := 22) (t0 := 2) hX.1 hX.2.1 hX.2.2.2.2.2.1.1 (by omega) (by omega) rfl hR h d (fun hr => kk hr H locs ls hl hR hS)
theorem r_copyi (hX : Good E X cc nL own) {idx : Nat} {a0 sp a dp n : Int} (hw : CopyOk own idx) (r1 : R32 sp) (r2 : R32 dp) (r3 : R32 n) (hf : 1 ≤ (cR X).frames ∧ 50 ≤ (cR X).locals) (hw8 : wd st ≤ 8) (h : acopy 20 μ a0 sp a dp n = some μ') (d : decode cc pc = .ok (.invokestatic idx, 3)) (kk : At E X cc nL own cs (pc + 3) lv st μ') : At E X cc nL own cs pc lv ((0, n) :: (0, dp) :: (2, a) :: (0, sp) :: (2, a0) :: st) μ := by
  intro H locs ls hl hR hS
  exact am_copyi hX.1 hX.2.1 (hX.2.2.1.trans hl.1.symm) hX.2.2.2.2.1 hX.2.2.2.1 hw hX.2.2.2.2.2.1.1 hR hS h r1 r2 r3 hf.1 (by rw [wd_cat]; exact copy_room hf.2 hw8) d (fun H1 locs1 h1 h2 => kk H1 locs1 ls hl h1 h2)
theorem r_copyl (hX : Good E X cc nL own) {idx : Nat} {a0 sp a dp n : Int} (hw : CopyOk own idx) (r1 : R32 sp) (r2 : R32 dp) (r3 : R32 n) (hf : 1 ≤ (cR X).frames ∧ 50 ≤ (cR X).locals) (hw8 : wd st ≤ 8) (h : acopy 21 μ a0 sp a dp n = some μ') (d : decode cc pc = .ok (.invokestatic idx, 3)) (kk : At E X cc nL own cs (pc + 3) lv st μ') : At E X cc nL own cs pc lv ((0, n) :: (0, dp) :: (2, a) :: (0, sp) :: (2, a0) :: st) μ := by
  intro H locs ls hl hR hS
  exact am_copyl hX.1 hX.2.1 (hX.2.2.1.trans hl.1.symm) hX.2.2.2.2.1 hX.2.2.2.1 hw hX.2.2.2.2.2.1.1 hR hS h r1 r2 r3 hf.1 (by rw [wd_cat]; exact copy_room hf.2 hw8) d (fun H1 locs1 h1 h2 => kk H1 locs1 ls hl h1 h2)
end ATR
