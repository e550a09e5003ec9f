/-! THE START: the law's entry gives the judgement's context -/
def tmT (i : Nat) : Term := .string (ownT i) (idxT i)
abbrev GN : Cond := Jvm.Cond.and given_1 narrow_1
set_option maxRecDepth 100000 in
theorem sx_ex : ∀ i, i < 10 → Cond.exactly (tmT i) "java/lang/String" ∈ flatC GN := by decide +kernel
set_option maxRecDepth 100000 in
theorem sx_co : ∀ i, i < 10 → Cond.eq (.field (tmT i) "java/lang/String" "coder" "B") (.int 0) ∈ flatC GN := by decide +kernel
set_option maxRecDepth 100000 in
theorem sx_ar : ∀ i, i < 10 → Cond.arrayOf (.field (tmT i) "java/lang/String" "value" "[B") .byte ∈ flatC GN := by decide +kernel
set_option maxRecDepth 100000 in
theorem sx_le : ∀ i, i < 10 → Cond.eq (.length (.field (tmT i) "java/lang/String" "value" "[B")) (.int (Int32.ofNat (lenT.getD i 0))) ∈ flatC GN := by decide +kernel
set_option maxRecDepth 100000 in
theorem sx_el : ∀ i, i < 10 → ∀ j, j < lenT.getD i 0 → Cond.eq (.elem (.field (tmT i) "java/lang/String" "value" "[B") (.int (Int32.ofNat j))) (.int ((bytT.getD i []).getD j 0)) ∈ flatC GN := by decide +kernel
set_option maxRecDepth 100000 in
theorem sx_ne : ∀ i, i < 10 → ∀ j, j < 10 → i ≠ j → Cond.not (Cond.eq (tmT i) (tmT j)) ∈ flatC GN ∨ Cond.not (Cond.eq (tmT j) (tmT i)) ∈ flatC GN := by decide +kernel
set_option maxRecDepth 100000 in
theorem sx_cs : Cond.eq (.static "java/lang/String" "COMPACT_STRINGS" "Z") (.int 1) ∈ flatC GN := by decide +kernel
set_option maxRecDepth 100000 in
theorem sx_sf : Cond.isRef (.static "jdk/internal/util/Preconditions" "SIOOBE_FORMATTER" "Ljava/util/function/BiFunction;") ∈ flatC GN := by decide +kernel
set_option maxRecDepth 100000 in
theorem sx_sr : ∀ i, i < 10 → Cond.stringRef (ownT i) (idxT i) (txT i) ∈ lw_tbl := by decide +kernel
set_option maxRecDepth 100000 in
theorem sx_ls : Cond.laysStatic "java/lang/String" "COMPACT_STRINGS" "Z" ∈ lw_tbl ∧ Cond.laysStatic "jdk/internal/util/Preconditions" "SIOOBE_FORMATTER" "Ljava/util/function/BiFunction;" ∈ lw_tbl ∧ Cond.initialized "java/lang/String" ∈ lw_tbl ∧ Cond.initialized "jdk/internal/util/Preconditions" ∈ lw_tbl := by decide +kernel
set_option maxRecDepth 100000 in
theorem sx_ao : Cond.arrayOver (.object "TollsBack$Traveller") ∈ lw_tbl ∧ Cond.arrayOver (.object "TollsBack$World") ∈ lw_tbl ∧ Cond.arrayOver (.object "TollsBack$Numbers") ∈ lw_tbl ∧ Cond.arrayOver (.array .int) ∈ lw_tbl := by decide +kernel
theorem sx_arr {args : Array Value} {s : State} {ty : FieldType} (h : (Cond.arrayClass ty).before args s = true) (hn : ∀ C, ty ≠ .object C) : ∃ cA, ArrOfT s cA ty ∧ va_RA s cA ty := by
  obtain ⟨c, k, comp, h1, h2, h3⟩ := Cond.arrayClass_spec h
  refine ⟨c, fun n z => ⟨fun k h => (by cases h), k, h2, comp, h3⟩, ?_⟩
  cases ty <;> first | exact h1 | exact absurd rfl (hn _)
theorem sx_aro {args : Array Value} {s : State} {C : String} (h : (Cond.arrayOver (.object C)).before args s = true) : ∃ cA, ArrOfT s cA (.object C) ∧ va_RA s cA (.object C) := by
  obtain ⟨comp, c, k, h1, h2, h3, h4, h5⟩ := Cond.arrayOver_spec h
  exact ⟨c, fun n z => ⟨fun k h => (by cases h), k, h3, comp, h4⟩, k, comp, h3, h4, h1, h5⟩
theorem sx_ara {args : Array Value} {s : State} {t : FieldType} (h : (Cond.arrayOver (.array t)).before args s = true) : ∃ cA, ArrOfT s cA (.array t) ∧ va_RA s cA (.array t) := by
  obtain ⟨comp, c, k, h1, h3, h4, h5⟩ := Cond.arrayOver_specA h
  exact ⟨c, fun n z => ⟨fun k h => (by cases h), k, h3, comp, h4⟩, h5⟩
set_option maxRecDepth 100000 in
set_option maxHeartbeats 40000000 in
theorem start_of {p : Program} {e : Env} {s : State} {m : MethodId} {below : List Frame} {meth : Method} {c : Code} (l : Launch) {b L : Nat} {xs : Nat → Int32} (hL : L ≤ 3072) (C0 : lw_At p s m meth c b L xs) {μe : Mem} {res : Int} (hlaw : f_law xs L ([], fun _ _ => 0) = some (res, μe)) : W p l e room_1 s m #[Value.ref b] below meth c s.heap [] 0 0 (lw_Z below #[Value.ref b] s) (entryFrame m ([Value.ref b] : List Value).toArray 4) := by
  obtain ⟨hx, hb, hr, hml, hown, hts, hX, hbl, hlocks, hgv⟩ := id C0
  have hg : ∀ w ∈ flatC GN, w.before #[Value.ref b] s = true := flat_of_before GN hgv
  have hGW : ∀ w ∈ GW, w.before #[Value.ref b] s = true := fun w h => hts w (List.mem_filter.mp h).1
  have hK : ∃ D : va_G, ∀ (k : Nat) (q : vw_C), vwCl[k]? = some q → u_Kn s q.1 q.2.1 q.2.2 (D.1 k) (D.2 k) := by
    have h0 : ∀ k : Nat, ∃ q : ClassId × (Nat → Nat), ∀ r : vw_C, vwCl[k]? = some r → u_Kn s r.1 r.2.1 r.2.2 q.1 q.2 := by
      intro k
      by_cases hk : k < 13
      · have hall : ∀ k, k < 13 → ∃ (C : String) (T : u_T) (N : Nat), vwCl[k]? = some (C, T, N) ∧ (∀ w ∈ u_ws C T N, w ∈ GW) ∧ Cond.instantiable C N ∈ GW := by
          intro k hk
          match k, hk with
          | 0, _ => exact ⟨_, _, _, rfl, li0, wd_483⟩
          | 1, _ => exact ⟨_, _, _, rfl, li1, wd_127⟩
          | 2, _ => exact ⟨_, _, _, rfl, li2, wd_527⟩
          | 3, _ => exact ⟨_, _, _, rfl, li3, wd_329⟩
          | 4, _ => exact ⟨_, _, _, rfl, li4, wd_401⟩
          | 5, _ => exact ⟨_, _, _, rfl, li5, wd_438⟩
          | 6, _ => exact ⟨_, _, _, rfl, li6, wd_229⟩
          | 7, _ => exact ⟨_, _, _, rfl, li7, wd_515⟩
          | 8, _ => exact ⟨_, _, _, rfl, li8, wd_370⟩
          | 9, _ => exact ⟨_, _, _, rfl, li9, wd_424⟩
          | 10, _ => exact ⟨_, _, _, rfl, li10, wd_121⟩
          | 11, _ => exact ⟨_, _, _, rfl, li11, wd_113⟩
          | 12, _ => exact ⟨_, _, _, rfl, li12, wd_1318⟩
          | k + 13, hk => exact absurd hk (by omega)
        obtain ⟨C, T, N, h1, h2, h3⟩ := hall k hk
        obtain ⟨c0, iS0, hKn⟩ := u_known (C := C) (T := T) (N := N) (n := N) hGW h2 (hGW _ h3)
        exact ⟨(c0, iS0), fun r hr => by cases h1.symm.trans hr; exact hKn⟩
      · exact ⟨(0, fun _ => 0), fun r hr => by
          have : k < vwCl.length := (List.getElem?_eq_some_iff.mp hr).1
          exact absurd this hk⟩
    obtain ⟨g, hg⟩ := Classical.axiomOfChoice h0
    exact ⟨(fun k => (g k).1, fun k => (g k).2), fun k q h => hg k q h⟩
  obtain ⟨D, hD⟩ := hK
  obtain ⟨y0, g0⟩ := sx_arr (ty := .int) (hGW _ ac_int) (by intro C h; cases h)
  obtain ⟨y1, g1⟩ := sx_arr (ty := .long) (hGW _ ac_long) (by intro C h; cases h)
  obtain ⟨y2, g2⟩ := sx_arr (ty := .byte) (hGW _ ac_byte) (by intro C h; cases h)
  obtain ⟨y3, g3⟩ := sx_arr (ty := .boolean) (hGW _ ac_boolean) (by intro C h; cases h)
  obtain ⟨y4, g4⟩ := sx_aro (hts _ sx_ao.1)
  obtain ⟨y5, g5⟩ := sx_aro (hts _ sx_ao.2.1)
  obtain ⟨y6, g6⟩ := sx_aro (hts _ sx_ao.2.2.1)
  obtain ⟨y7, g7⟩ := sx_ara (hts _ sx_ao.2.2.2)
  have hA : ∀ a : Nat, a < s.heap.size → ¬ (fun q : Nat => s.heap.size ≤ q) a := fun a h => Nat.not_le.mpr h
  obtain ⟨adK, adV, hvS, hev⟩ := vk_Sof (A := fun q : Nat => s.heap.size ≤ q) (N := 10) (tm := tmT) (len := lenT) (byt := bytT) (by decide) (fun i hi => hg _ (sx_ex i hi)) (fun i hi => hg _ (sx_co i hi)) (fun i hi => hg _ (sx_ar i hi)) (fun i hi => hg _ (sx_le i hi)) (fun i hi j hj => hg _ (sx_el i hi j hj)) (fun i j hi hj hne => (sx_ne i hi j hj hne).imp (hg _) (hg _)) hA
  have hZ := va_Zof (hts _ sx_ls.1) (hts _ sx_ls.2.2.1) (va_eqi (hg _ sx_cs)) hA
  have hF := va_Zqof (hts _ sx_ls.2.1) (hts _ sx_ls.2.2.2) (hg _ sx_sf) hA
  obtain ⟨a97, hF⟩ : ∃ a97 : Nat, va_Z "jdk/internal/util/Preconditions" "SIOOBE_FORMATTER" "Ljava/util/function/BiFunction;" .null (fun q : Nat => s.heap.size ≤ q) s s.heap ∨ va_Z "jdk/internal/util/Preconditions" "SIOOBE_FORMATTER" "Ljava/util/function/BiFunction;" (.ref a97) (fun q : Nat => s.heap.size ≤ q) s s.heap := by
    rcases hF with h | ⟨t, h⟩
    · exact ⟨0, Or.inl h⟩
    · exact ⟨t, Or.inr h⟩
  obtain ⟨E, hE⟩ : ∃ E : EX, E = (D, (fun k => if k = 20 then y0 else if k = 21 then y1 else if k = 22 then y2 else if k = 23 then y3 else if k = 24 then y4 else if k = 25 then y5 else if k = 26 then y6 else y7), s.heap.size, (fun j => if j < 50 then adK j else if j < 97 then adV (j - 50) else if j = 97 then a97 else b), adV) := ⟨_, rfl⟩
  have eA : AE E = fun q : Nat => s.heap.size ≤ q := by rw [hE]; rfl
  have eDD : eD E = D := by rw [hE]; rfl
  have eBB : eB E = s.heap.size := by rw [hE]; rfl
  have e98 : eS E 98 = b := by rw [hE]; rfl
  have e97 : eS E 97 = a97 := by rw [hE]; rfl
  have eVV : eV E = adV := by rw [hE]; rfl
  have eSS : ∀ i, i < 10 → eS E i = adK i := fun i hi => by rw [hE]; show (if i < 50 then _ else _) = _; rw [if_pos (by omega)]
  have hKK : va_K (eD E) vwCl (TYS E) s := by
    refine ⟨by rw [eDD]; exact hD, fun k q hq => ?_⟩
    have hlt : k < 8 := (List.getElem?_eq_some_iff.mp hq).1
    rw [hE] at hq
    match k, hlt with
    | 0, _ => cases hq; exact g0
    | 1, _ => cases hq; exact g1
    | 2, _ => cases hq; exact g2
    | 3, _ => cases hq; exact g3
    | 4, _ => cases hq; exact g4
    | 5, _ => cases hq; exact g5
    | 6, _ => cases hq; exact g6
    | 7, _ => cases hq; exact g7
  have hNW : ∀ w ∈ NGW, va_Nw w s := fun w hw => by
    obtain ⟨h1, h2⟩ := List.mem_filter.mp hw
    have h3 := hts w h1
    cases w <;> first | exact va_Nw.of rfl h3 | simp at h2
  have hAO : ∀ C ∈ (["TollsBack$Traveller", "TollsBack$World", "TollsBack$Numbers"] : List String), va_AO C s := fun C hC => by
    simp only [List.mem_cons, List.not_mem_nil, or_false] at hC
    rcases hC with rfl | rfl | rfl
    · exact va_AO.of (hts _ sx_ao.1)
    · exact va_AO.of (hts _ sx_ao.2.1)
    · exact va_AO.of (hts _ sx_ao.2.2.1)
  have hStr : StrF E s s.heap := by
    refine ⟨?_, fun i hi => ?_, by rw [eA]; exact hZ, fun i hi => ?_, ?_⟩
    · rw [eA, eVV]
      refine ⟨fun i hi => by rw [eSS i hi]; exact hvS.1 i hi, fun i j hi hj h => ?_⟩
      rw [eSS i hi, eSS j hj] at h
      exact hvS.2 i j hi hj h
    · rw [eSS i hi]
      exact vk_R.of (A := #[Value.ref b]) (hts _ (sx_sr i hi)) (hev i hi)
    · rw [eVV, hE]; show _ = (if 50 + i < 50 then _ else if 50 + i < 97 then _ else _); rw [if_neg (by omega), if_pos (by omega)]; congr 1; omega
    · rcases hF with h | h
      · exact ⟨-1, by rw [eA]; exact h, hts _ sx_ao.2.2.2⟩
      · refine ⟨-2 - ((97 : Nat) : Int), ?_, hts _ sx_ao.2.2.2⟩
        rw [eA, vr_str 97, e97]; exact h
  have hKU : KU E s := ⟨hKK, hNW, hAO, hStr⟩
  have hGood : Good E ((p, l, e, room_1, s), (m, #[Value.ref b], below, meth, c), lw_Z below #[Value.ref b] s) cL_law 4 "TollsBackLaw" := ⟨hx, hb, hml, hown, hGW, hKU, by rw [eBB]; exact Nat.le_refl _⟩
  have hEnd : LawEnd E ((p, l, e, room_1, s), (m, #[Value.ref b], below, meth, c), lw_Z below #[Value.ref b] s) := ⟨b, rfl, rfl, hr, hlocks, rfl, eBB⟩
  have hScr : Scr E ((p, l, e, room_1, s), (m, #[Value.ref b], below, meth, c), lw_Z below #[Value.ref b] s) xs L := ⟨by rw [e98]; exact hX, by rw [e98]; exact hbl, by rw [e98, eA]; exact Nat.not_le.mpr hbl, ⟨by omega, by omega⟩⟩
  have hAt := L_law hGood hEnd rfl hScr hlaw
  have hl := lv_entry ([.ref b]) (n := 4) (Nat.le_of_ble_eq_true rfl)
  rw [lg_entry_eq]
  have hlv : lvV E [(0, 2, (-100))] = lv_args 0 [Value.ref b] := by
    show [(0, vr E (-2 - ((98 : Nat) : Int)))] = [(0, Value.ref b)]
    rw [vr_str 98, e98]
  have hl2 : lv_has ((lg_sl [Value.ref b] ++ List.replicate (4 - (lg_sl [Value.ref b]).length) Slot.unset).toArray) 4 (lvV E [(0, 2, (-100))]) := by rw [hlv]; exact hl
  have hRep : RepH E ([], fun _ _ => 0) s.heap := by
    refine ⟨fun k q h => by simp [wsOf] at h, by rw [eBB]; rfl, fun a j => ?_⟩
    have : kd ([], fun _ _ => 0) a = (99, 0) := by unfold kd; split <;> simp
    rw [this]; trivial
  exact hAt s.heap [] _ hl2 hRep va_S.rf
