/-! TEXTS of the constant pools -/
def lenT : List Nat := [5, 4, 4, 4, 6, 2, 4, 4, 4, 47]
def bytT : List (List Int32) := [[116, 111, 119, 110, 115], [104, 111, 109, 101], [121, 101, 97, 114], [108, 97, 116, 101], [115, 117, 109, 109, 101, 114], [116, 111], [114, 111, 97, 100], [116, 111, 108, 108], [100, 97, 121, 115], [32, 116, 111, 119, 110, 115, 32, 104, 111, 109, 101, 32, 121, 101, 97, 114, 32, 108, 97, 116, 101, 32, 115, 117, 109, 109, 101, 114, 32, 116, 111, 32, 114, 111, 97, 100, 32, 116, 111, 108, 108, 32, 100, 97, 121, 115, 32]]
def ownT (i : Nat) : String := if i < 9 then "TollsBack$Reader" else "TollsBackModel"
def idxT (i : Nat) : Nat := ([59, 68, 73, 80, 84, 89, 98, 114, 116, 121] : List Nat).getD i 0
def txT (i : Nat) : String := (["towns", "home", "year", "late", "summer", "to", "road", "toll", "days", " towns home year late summer to road toll days "] : List String).getD i ""
/-! THE JUDGEMENT: the machine at a place of a method, its heap being a memory, comes to the method's end -/
abbrev CX : Type := (Program × Launch × Env × Room × State) × (MethodId × Array Value × List Frame × Method × Code) × (State → Prop)
def cL (X : CX) : Launch := X.1.2.1
def cR (X : CX) : Room := X.1.2.2.2.1
def cS (X : CX) : State := X.1.2.2.2.2
def cMeth (X : CX) : Method := X.2.1.2.2.2.1
/-- what the tables say beside the words: the classes, links of nest mates, arrays of objects, texts -/
def NGW : List Cond := lw_tbl.filter (fun w => match w with
  | .methodLinkNest .. => true
  | _ => false)
def aoi (U : State) : Prop := (Cond.arrayOver (.array .int)).before #[] U = true
theorem aoi.moved {u U : State} (h : u.vm.Alike U.vm) (ha : aoi u) : aoi U := Cond.overAtom_setVm h (.arrayOver (.array .int)) rfl ha
def StrF (E : EX) (U : State) (H : Heap) : Prop := vk_S 10 lenT bytT (eS E) (eV E) (AE E) U H ∧ (∀ i, i < 10 → vk_R (ownT i) (idxT i) (txT i) (eS E i) U) ∧ va_Z "java/lang/String" "COMPACT_STRINGS" "Z" (.int 1) (AE E) U H ∧ (∀ i, i < 10 → eV E i = eS E (50 + i)) ∧ ∃ z : Int, va_Z "jdk/internal/util/Preconditions" "SIOOBE_FORMATTER" "Ljava/util/function/BiFunction;" (vr E z) (AE E) U H ∧ aoi U
def KU (E : EX) (U : State) : Prop := va_K (eD E) vwCl (TYS E) U ∧ (∀ w ∈ NGW, va_Nw w U) ∧ (∀ C ∈ (["TollsBack$Traveller", "TollsBack$World", "TollsBack$Numbers"] : List String), va_AO C U) ∧ StrF E U U.heap
theorem KU.step {E : EX} {s U : State} {locs : List Loc} (h : KU E s) (hW : s.WarmedH U.vm) (hS : va_S (AE E) s.heap U.heap locs) : KU E U := by
  obtain ⟨h1, h2, h3, h4, h5, h6, h7, z, h8, h9⟩ := h
  have hk : ∀ a : Nat, a < s.heap.size → ¬ AE E a → U.heap[a]? = s.heap[a]? := fun a h1 h2 => hS.2.1 a h1 h2
  refine ⟨va_K.moved hW.alike h1, fun w hw => ?_, fun C hC => va_AO.moved hW.alike (h3 C hC), (vk_S.moved hW.alike h4).kept hk, fun i hi => (h5 i hi).warm hW, (va_Z.moved hW.alike h6).kept hk, h7, z, (va_Z.moved hW.alike h8).kept hk, aoi.moved hW.alike h9⟩
  have h9 := h2 w hw
  obtain ⟨-, hg⟩ := List.mem_filter.mp hw
  cases w <;> first | exact va_Nw.warmM hW h9 | simp at hg
def Good (E : EX) (X : CX) (cc : ByteArray) (nL : Nat) (own : String) : Prop := X.1.1.tables.exec = Jvm.exec ∧ X.2.1.2.2.2.2.code = cc ∧ X.2.1.2.2.2.2.maxLocals = nL ∧ (cS X).vm.findClass own = some X.2.1.1.cls ∧ (∀ w ∈ GW, w.before X.2.1.2.1 (cS X) = true) ∧ KU E (cS X) ∧ eB E ≤ (cS X).heap.size
abbrev TV : Type := Nat × Int
abbrev LV : Type := Nat × Nat × Int
def sv (E : EX) (q : TV) : Value := tv E q.1 q.2
def lvV (E : EX) (lv : List LV) : List (Nat × Value) := lv.map (fun q => (q.1, tv E q.2.1 q.2.2))
def catT (t : Nat) : Nat := if t = 1 then 2 else 1
theorem cat_tv {E : EX} {t : Nat} {x : Int} : (tv E t x).category = catT t := by
  unfold tv catT
  split
  · rfl
  · rfl
  · rename_i h0 h1
    rw [if_neg h1]; unfold vr; cases ro E x <;> rfl
def lvA : Nat → List TV → List LV
  | _, [] => []
  | i, v :: vs => (i, v.1, v.2) :: lvA (i + catT v.1) vs
theorem lvA_args {E : EX} : ∀ (av : List TV) (i : Nat), lv_args i (av.map (sv E)) = lvV E (lvA i av)
  | [], _ => rfl
  | v :: vs, i => by
    show (i, sv E v) :: lv_args _ _ = (i, tv E v.1 v.2) :: lvV E (lvA _ vs)
    rw [← lvA_args vs]
    congr 2
    rw [show (sv E v).category = catT v.1 from cat_tv]
    unfold catT; split <;> simp
def wd (av : List TV) : Nat := (av.map (fun q => catT q.1)).sum
theorem sl_len {E : EX} : ∀ (av : List TV), (lg_sl (av.map (sv E))).length = wd av
  | [] => rfl
  | v :: vs => by
    have := sl_len (E := E) vs
    unfold lg_sl wd at *
    rw [List.map_cons, List.flatMap_cons, List.length_append, this, List.map_cons, List.sum_cons, show (sv E v).category = catT v.1 from cat_tv]
    unfold catT; split <;> simp
theorem wd_cat {E : EX} {st : List TV} : ((st.map (sv E)).map fun v => v.category).sum = wd st := by
  unfold wd; congr 1; rw [List.map_map]; apply List.map_congr_left; intro q _; exact cat_tv
def At (E : EX) (X : CX) (cc : ByteArray) (nL : Nat) (own : String) (cs : Nat × Nat) (pc : Nat) (lv : List LV) (st : List TV) (μ : Mem) : Prop :=
  ∀ (H : Heap) (locs : List Loc) (ls : Array Slot), lv_has ls nL (lvV E lv) → RepH E μ H → va_S (AE E) (cS X).heap H locs → W X.1.1 X.1.2.1 X.1.2.2.1 X.1.2.2.2.1 X.1.2.2.2.2 X.2.1.1 X.2.1.2.1 X.2.1.2.2.1 X.2.1.2.2.2.1 X.2.1.2.2.2.2 H locs cs.1 cs.2 X.2.2 (F0 X.2.1.1 pc ls (st.map (sv E)))
def rvR (rv : Option TV) : Prop := match rv with
  | some (0, x) => R32 x
  | some (1, x) => R64 x
  | _ => True
/-- a method's end: it answers rv, the memory is μ' -/
def QcOf (E : EX) (rv : Option TV) (μ' : Mem) : Array Value → State → Outcome → State → Prop := fun _ st o t => (o = .returned (rv.map (sv E)) ∧ RepH E μ' t.heap ∧ rvR rv) ∧ va_F (AE E) st t
def GoodM (E : EX) (X : CX) (ret : Option FieldType) (rv : Option TV) (μ' : Mem) (mc ms : Nat) : Prop := (cMeth X).sig.returnType = ret ∧ (cMeth X).locks = false ∧ X.2.2 = MQ X.2.1.2.2.1 (QcOf E rv μ') X.2.1.2.1 (cS X) mc ms (AE E)
def rmOf (d mc ms : Nat) : Room := { frames := d, cells := mc, slots := ms, locals := 100 * d }
/-- a method's contract at a memory -/
def Ok (E : EX) (l : Launch) (d : Nat) (y : MethodName) (cd : Cond) (mc ms : Nat) (av : List TV) (μ : Mem) (rv : Option TV) (μ' : Mem) : Prop :=
  Met l y (cd :: GW) (rmOf d mc ms) (va_Pc (av.map (sv E)) (fun U => RepH E μ U.heap ∧ KU E U ∧ eB E ≤ U.heap.size)) (QcOf E rv μ') mc ms (AE E)
theorem Ok.of {E : EX} {l : Launch} {d : Nat} {y : MethodName} {cc : ByteArray} {nL : Nat} {ret : Option FieldType} {mc ms : Nat} {av : List TV} {μ μ' : Mem} {rv : Option TV} {own : String} (lv : List LV) (hy : plainFor y = true) (ho : y.cls = own) (hlen : wd av ≤ nL) (hlv : lvA 0 av = lv)
    (body : ∀ X : CX, cL X = l → cR X = rmOf d mc ms → (y.name = "<init>" → (cMeth X).name = "<init>") → Good E X cc nL own → GoodM E X ret rv μ' mc ms → At E X cc nL own (0, 0) 0 lv [] μ) : Ok E l d y (.code y cc nL ret) mc ms av μ rv μ' := by
  subst ho
  refine va_MetF (cc := cc) (maxL := nL) (ret := ret) hy rfl ?_
  intro p e s m args below meth c s₁ B hml hv
  obtain ⟨rfl, hRep, hKU, hbase⟩ := hv
  have hts := atoms_spec (ws := .code y cc nL ret :: GW) B.pre
  have hown : s.vm.findClass y.cls = some m.cls := findClass_of_methodNamed B.named
  have hname : meth.name = y.name := (name_of_methodNamed B.named B.method).1
  have hl := lv_entry (av.map (sv E)) (n := nL) (by rw [sl_len]; exact hlen)
  rw [lvA_args, hlv] at hl
  rw [lg_entry_eq]
  exact body ((p, l, e, rmOf d mc ms, s), (m, (av.map (sv E)).toArray, below, meth, c), MQ below (QcOf E rv μ') (av.map (sv E)).toArray s mc ms (AE E)) rfl rfl (fun h => hname.trans h) ⟨B.exec, B.bytes, hml, hown, fun w hw => hts w (List.mem_cons_of_mem _ hw), hKU, hbase⟩ ⟨B.returns, B.notSynchronized, rfl⟩ s.heap [] _ hl hRep va_S.rf
theorem dk {cc : ByteArray} {dl : List (Nat × Instr × Nat)} (h : dl.all (fun q => decide (decode cc q.1 = .ok (q.2.1, q.2.2))) = true) (j : Nat) {pc n : Nat} {i : Instr} (hj : dl[j]? = some (pc, i, n)) : decode cc pc = .ok (i, n) := by
  have := List.all_eq_true.mp h _ (List.mem_of_getElem? hj)
  exact of_decide_eq_true this
