/-! WORDS: those of the tables that stay -/
def GW : List Cond := lw_tbl.filter goodWord
theorem GW_in {w : Cond} (h : w ∈ lw_tbl) (g : goodWord w = true) : w ∈ GW := List.mem_filter.mpr ⟨h, g⟩
theorem GW_i {w : Cond} (i : Nat) (h : lw_tbl[i]? = some w) (g : goodWord w = true) : w ∈ GW := GW_in (List.mem_of_getElem? h) g
theorem GW_good {w : Cond} (h : w ∈ GW) : (w.onTables && w.keeps) = true ∨ ∃ ty, w = .arrayClass ty := good_of_word (List.mem_filter.mp h).2
theorem GW_GoodIn {big ws : List Cond} (hb : ∀ w ∈ GW, w ∈ big) (hs : ∀ w ∈ ws, w ∈ GW) : GoodIn big ws := fun w h => ⟨hb w (hs w h), GW_good (hs w h)⟩
def tyTag : FieldType → Nat
  | .long => 1
  | .object _ => 2
  | .array _ => 2
  | _ => 0
def okv (ty : FieldType) (x : Int) : Prop := match ty with
  | .int => True
  | .long => True
  | .object _ => True
  | .array _ => True
  | .boolean => x = 0 ∨ x = 1
  | _ => False
theorem fit_tv {ty : FieldType} {E : EX} {x : Int} (hv : okv ty x) : narrow ty (tv E (tyTag ty) x) = tv E (tyTag ty) x ∧ fits ty (tv E (tyTag ty) x) = true := by
  cases ty with
  | boolean => rcases hv with rfl | rfl <;> exact ⟨by rfl, by rfl⟩
  | int => exact ⟨rfl, rfl⟩
  | long => exact ⟨rfl, rfl⟩
  | object n => refine ⟨rfl, ?_⟩; show fits _ (va_rf (ro E x)) = true; cases ro E x <;> rfl
  | array n => refine ⟨rfl, ?_⟩; show fits _ (va_rf (ro E x)) = true; cases ro E x <;> rfl
  | _ => exact absurd hv (by simp [okv])
def ClsOk (ci : Nat) (C : String) (T : u_T) (N : Nat) (ty : Nat → FieldType) : Prop := vwCl[ci]? = some (C, T, N) ∧ (∀ w ∈ u_ws C T N, w ∈ GW) ∧ (∀ k, k < N → parseFieldDescriptor (T k).2.2.1 = some (ty k)) ∧ (∀ a, a < N → ∀ b, b < N → a ≠ b → (T a).2.1 ≠ (T b).2.1) ∧ (∀ k, k < N → (T k).1 = C ∧ (ftys ci)[k]? = some (tyTag (ty k))) ∧ (ftys ci).length = N ∧ ci < 20 ∧ (∀ k, k < N → ty k ≠ .float ∧ ty k ≠ .double)
def Fld (own : String) (idx ci k : Nat) (ty : FieldType) (fin : Bool) : Prop := ∃ (C : String) (T : u_T) (N : Nat) (tys : Nat → FieldType), ClsOk ci C T N tys ∧ k < N ∧ tys k = ty ∧ (T k).2.2.2 = fin ∧ Cond.fieldLink own idx C (T k).2.1 (T k).2.2.1 ∈ GW
theorem tyOf_f {ci k : Nat} {t : Nat} (h : (ftys ci)[k]? = some t) (hc : ci < 20) : tyOf ci k = t := by
  unfold tyOf; rw [if_pos hc]; simp [List.getD, h]
section AMR
variable {p : Program} {l : Launch} {e : Env} {R : Room} {s : State} {m : MethodId} {args : Array Value} {below : List Frame} {meth : Method} {c : Code} {H : Heap} {locs : List Loc} {cells slots : Nat} {Q : State → Prop}
variable {cc : ByteArray} {pc : Nat} {ls : Array Slot} {rest : List Value} {E : EX} {μ μ' : Mem}
theorem getf_spec {ci : Nat} {k x a : Int} (h : getf ci k μ a = some x) (hc : ci < 20) : 0 ≤ a ∧ (∃ n, μ.1[a.toNat]? = some (ci, n)) ∧ x = μ.2 a k ∧ (kd μ a).1 = ci := by
  unfold getf at h
  by_cases hk : (kd μ a).1 = ci
  · rw [if_pos hk] at h
    obtain ⟨h0, h1⟩ := kd_at hk (by omega)
    exact ⟨h0, ⟨(kd μ a).2, by rw [h1, ← hk]⟩, (Option.some.inj h).symm, hk⟩
  · rw [if_neg hk] at h; cases h
theorem putf_spec {ci : Nat} {k x a : Int} (h : putf ci k μ a x = some μ') (hc : ci < 20) : 0 ≤ a ∧ (∃ n, μ.1[a.toNat]? = some (ci, n)) ∧ μ' = (μ.1, upV μ.2 a k x) := by
  unfold putf at h
  by_cases hk : (kd μ a).1 = ci
  · rw [if_pos hk] at h
    obtain ⟨h0, h1⟩ := kd_at hk (by omega)
    exact ⟨h0, ⟨(kd μ a).2, by rw [h1, ← hk]⟩, (Option.some.inj h).symm⟩
  · rw [if_neg hk] at h; cases h
theorem am_get (hexec : p.tables.exec = Jvm.exec) (hb : c.code = cc) {own : String} {idx ci k : Nat} {ty : FieldType} {fin : Bool} (hts : ∀ w ∈ GW, w.before args s = true) (hown : s.vm.findClass own = some m.cls) (hK : va_K (eD E) vwCl (TYS E) s) (hF : Fld own idx ci k ty fin) (hR : RepH E μ H) {a x : Int} (h : getf ci k μ a = some x)
    (hdg : decode cc pc = .ok (.getfield idx, 3)) (kk : rng ci k x → W p l e R s m args below meth c H locs cells slots Q (F0 m (pc + 3) ls (tv E (tyTag ty) x :: rest))) : W p l e R s m args below meth c H locs cells slots Q (F0 m pc ls (vr E a :: rest)) := by
  obtain ⟨C, T, N, tys, ⟨hcl, hin, hty, hnm, hT, hlen, hc, -⟩, hk, rfl, -, hlink⟩ := hF
  obtain ⟨h0, ⟨n, hn⟩, rfl, hkd⟩ := getf_spec h hc
  rw [vr_pos h0]
  have hT1 := (hT k hk).1
  have hat := ws_at (E := E) hn
  have hce : cE E (ci, n) (μ.2 (a.toNat : Int)) = .inr (ci, fvs E ci (μ.2 (a.toNat : Int))) := by unfold cE; rw [if_pos hc]
  rw [hce, show ((a.toNat : Nat) : Int) = a by omega] at hat
  refine va_get (D := eD E) hexec hb hts hin hown hK hR.1 a.toNat hat hcl k hk (hts _ hlink) (fun x hx => by rw [hT1] at hx; exact hx) (v := tv E (tyTag (tys k)) (μ.2 a k)) (fvs_at (hT k hk).2) hdg (kk ?_)
  have := hR.2.2 a k
  rw [hkd] at this
  exact this
theorem am_put (hexec : p.tables.exec = Jvm.exec) (hb : c.code = cc) {own : String} {idx ci k : Nat} {ty : FieldType} {fin : Bool} (hts : ∀ w ∈ GW, w.before args s = true) (hown : s.vm.findClass own = some m.cls) (hK : va_K (eD E) vwCl (TYS E) s) (hF : Fld own idx ci k ty fin) (hfi : fin = true → meth.name = "<init>" ∧ ∃ C T N, vwCl[ci]? = some (C, T, N) ∧ C = own) (hR : RepH E μ H) (hS : va_S (AE E) s.heap H locs) {a x : Int} (h : putf ci k μ a x = some μ') (hv : okv ty x) (hx : rng ci k x)
    (hdg : decode cc pc = .ok (.putfield idx, 3)) (kk : ∀ (H1 : Heap) (locs1 : List Loc), RepH E μ' H1 → va_S (AE E) s.heap H1 locs1 → W p l e R s m args below meth c H1 locs1 cells slots Q (F0 m (pc + 3) ls rest)) : W p l e R s m args below meth c H locs cells slots Q (F0 m pc ls (tv E (tyTag ty) x :: vr E a :: rest)) := by
  obtain ⟨C, T, N, tys, ⟨hcl, hin, hty, hnm, hT, hlen, hc, -⟩, hk, rfl, hfin, hlink⟩ := hF
  obtain ⟨h0, ⟨n, hn⟩, rfl⟩ := putf_spec h hc
  rw [vr_pos h0]
  have hat := ws_at (E := E) hn
  have hce : ∀ f, cE E (ci, n) f = .inr (ci, fvs E ci f) := fun f => by unfold cE; rw [if_pos hc]
  rw [hce, show ((a.toNat : Nat) : Int) = a by omega] at hat
  have hap := va_apart (own := own) hts hin tys hty hnm hK hcl
  have hP := hR.1
  obtain ⟨r, h1, cell, q1, q2, q3, q4⟩ := hP a.toNat _ hat
  have hr : r = (C, T, N) := Option.some.inj (h1.symm.trans hcl)
  subst hr
  obtain ⟨hS1, hfc, kC, hkC, hkind⟩ := hK.1 ci _ hcl
  obtain ⟨cf, kf, fi, f, hi, hsl⟩ := hS1 k hk
  have hst := (u_facts hfc hkC (u_lays hts hin hk) hi).1
  have hi' : s.fieldFound? C (T k).2.1 (T k).2.2.1 = some (cf, kf, fi, f) := by rw [(hT k hk).1] at hi; exact hi
  have hfit := fit_tv (E := E) hv
  have hl : k < (fvs E ci (μ.2 a)).length := by simp [fvs, hlen]; exact hk
  have fin_ : ∀ H' : Heap, H'[eB E + a.toNat]? = some (cell.setSlot ((eD E).2 ci k) (tv E (tyTag (tys k)) x)) → H'.size = H.size → (∀ q, q ≠ eB E + a.toNat → H'[q]? = H[q]?) → RepH E (μ.1, upV μ.2 a k x) H' := by
    intro H' e1 e2 e3
    refine hR.up h0 hn hx e2 ?_
    rw [hce, fvs_set (hT k hk).2]
    exact hP.set ws_D hat ⟨_, hcl, t_OB.to (V := updV (vp_V (fvs E ci (μ.2 a))) k (tv E (tyTag (tys k)) x)) ⟨_, e1, q2, q3, t_set q4 hap hk _⟩ (fun j _ => vp_updV_set hl _ j)⟩ e3
  have hAA : AE E (eB E + a.toNat) := Nat.le_add_right _ _
  have hlay := hts _ (hin _ (u_in_lay hk))
  unfold u_lay at hlay
  cases hf : (T k).2.2.2 with
  | false =>
    rw [if_neg (by rw [hf]; decide)] at hlay
    have h6 := u_store hfc hkC hkind hlay hi (hty k hk) hfit.1 hfit.2
    refine W.putK hexec hb (f := f) ⟨hown, hts _ hlink, ⟨_, _, _, hi'⟩, hst⟩ (by rw [q2]; exact h6) q1 q3 (by rw [hsl]; exact k2_hasslot (q4 k hk)) rfl rfl hdg fun H' e1 e2 e3 => ?_
    rw [hsl] at e1 ⊢
    exact kk H' _ (fin_ H' e1 e2 e3) (hS.put e2 e3 hAA)
  | true =>
    rw [if_pos hf] at hlay
    obtain ⟨hin2, C', T', N', hcl', hdecl⟩ := hfi (by rw [← hfin]; exact hf)
    have hCC : C = own := by cases hcl.symm.trans hcl'; exact hdecl
    have hcf : m.cls = cf := by
      obtain ⟨_, _, c', _, _, _, -, -, hf', -, -, -, hown2, -⟩ := Cond.laysFinal_spec hlay
      have e1 : c' = cf := by have := hi.symm.trans hf'; simp at this; exact this.1.symm
      rw [(hT k hk).1, hCC] at hown2
      rw [← e1]; exact Option.some.inj (hown.symm.trans hown2)
    have h6 := u_fits hfc hkC hkind (Or.inr hlay) hi (hty k hk) hfit.1 hfit.2
    refine W.putFinK hexec hb hown (hts _ hlink) hi' hst hcf hin2 (by rw [q2]; exact h6) q1 q3 (by rw [hsl]; exact k2_hasslot (q4 k hk)) rfl rfl hdg fun H' e1 e2 e3 => ?_
    rw [hsl] at e1 ⊢
    exact kk H' _ (fin_ H' e1 e2 e3) (hS.put e2 e3 hAA)
theorem i32_clamp {i : Int} (h : R32 i) (h0 : 0 ≤ i) : (Int32.ofInt i).toNatClampNeg = i.toNat := by
  rw [← Int32.toNat_toInt]; show (w32 i).toNat = _; rw [w32_R h]
theorem i32_nneg {i : Int} (h : R32 i) (h0 : 0 ≤ i) : ¬ Int32.ofInt i < 0 := by
  rw [i32_0, i32_lt h R32_0]; omega
theorem i32_in {i : Int} {n : Nat} (h : R32 i) (h0 : 0 ≤ i) (h1 : i < n) : vp_in (Int32.ofInt i) n := by
  rintro (z | z)
  · exact i32_nneg h h0 z
  · rw [i32_clamp h h0] at z; omega
theorem lda_spec {ci : Nat} {i x a : Int} (h : lda ci μ a i = some x) (hc : ci < 99) : 0 ≤ a ∧ ∃ n : Nat, μ.1[a.toNat]? = some (ci, n) ∧ 0 ≤ i ∧ i < n ∧ x = μ.2 a i ∧ (kd μ a).1 = ci := by
  unfold lda at h
  by_cases hk : (kd μ a).1 = ci ∧ 0 ≤ i ∧ i < (kd μ a).2
  · rw [if_pos hk] at h
    obtain ⟨h0, h1⟩ := kd_at hk.1 (by omega)
    exact ⟨h0, (kd μ a).2, by rw [h1, ← hk.1], hk.2.1, hk.2.2, (Option.some.inj h).symm, hk.1⟩
  · rw [if_neg hk] at h; cases h
theorem sta_spec {ci : Nat} {i x a : Int} (h : sta ci μ a i x = some μ') (hc : ci < 99) : 0 ≤ a ∧ ∃ n : Nat, μ.1[a.toNat]? = some (ci, n) ∧ 0 ≤ i ∧ i < n ∧ μ' = (μ.1, upV μ.2 a i x) := by
  unfold sta at h
  by_cases hk : (kd μ a).1 = ci ∧ 0 ≤ i ∧ i < (kd μ a).2
  · rw [if_pos hk] at h
    obtain ⟨h0, h1⟩ := kd_at hk.1 (by omega)
    exact ⟨h0, (kd μ a).2, by rw [h1, ← hk.1], hk.2.1, hk.2.2, (Option.some.inj h).symm⟩
  · rw [if_neg hk] at h; cases h
theorem alen_spec {ci : Nat} {x a : Int} (h : alen ci μ a = some x) (hc : ci < 99) : 0 ≤ a ∧ ∃ n : Nat, μ.1[a.toNat]? = some (ci, n) ∧ x = n ∧ n < 2147483648 := by
  unfold alen at h
  by_cases hk : (kd μ a).1 = ci ∧ (kd μ a).2 < 2147483648
  · rw [if_pos hk] at h
    obtain ⟨h0, h1⟩ := kd_at hk.1 (by omega)
    exact ⟨h0, (kd μ a).2, by rw [h1, ← hk.1], (Option.some.inj h).symm, hk.2⟩
  · rw [if_neg hk] at h; cases h
theorem arr_at {ci n : Nat} {a : Int} (h0 : 0 ≤ a) (hn : μ.1[a.toNat]? = some (ci, n)) (hc : 20 ≤ ci) : (wsOf E μ)[a.toNat]? = some (eB E + a.toNat, .inl (eC E ci, arE E ci n (μ.2 a))) := by
  have hat := ws_at (E := E) hn
  have hce : cE E (ci, n) (μ.2 (a.toNat : Int)) = .inl (eC E ci, arE E ci n (μ.2 (a.toNat : Int))) := by unfold cE; rw [if_neg (by show ¬ ci < 20; omega)]
  rw [hce, show ((a.toNat : Nat) : Int) = a by omega] at hat
  exact hat
theorem can_at (hR : RepH E μ H) {a i : Int} {ci : Nat} (hk : (kd μ a).1 = ci) : rng ci i (μ.2 a i) := by
  have := hR.2.2 a i; rw [hk] at this; exact this
theorem toNat_c {i : Int} (h0 : 0 ≤ i) : ((i.toNat : Nat) : Int) = i := by omega
theorem am_iald (hexec : p.tables.exec = Jvm.exec) (hb : c.code = cc) (hK : va_K (eD E) vwCl (TYS E) s) (hR : RepH E μ H) {a i x : Int} (h : lda 20 μ a i = some x) (hi : R32 i) (hdg : decode cc pc = .ok (.iaload, 1))
    (kk : R32 x → W p l e R s m args below meth c H locs cells slots Q (F0 m (pc + 1) ls (vi x :: rest))) : W p l e R s m args below meth c H locs cells slots Q (F0 m pc ls (vi i :: vr E a :: rest)) := by
  obtain ⟨h0, n, hn, h1, h2, rfl, hk⟩ := lda_spec h (by omega)
  rw [vr_pos h0]
  refine va_iald hexec hb hK hR.1 a.toNat 0 (arr_at h0 hn (by omega)) rfl (i32_in hi h1 h2) hdg ?_
  rw [i32_clamp hi h1]
  have := kk (can_at (i := i) hR hk)
  rw [show μ.2 a i = μ.2 a (i.toNat : Int) by rw [toNat_c h1]] at this
  exact this
theorem am_bald (hexec : p.tables.exec = Jvm.exec) (hb : c.code = cc) (hK : va_K (eD E) vwCl (TYS E) s) (hR : RepH E μ H) {a i x : Int} (h : lda 22 μ a i = some x) (hi : R32 i) (hdg : decode cc pc = .ok (.baload, 1))
    (kk : R32 x → W p l e R s m args below meth c H locs cells slots Q (F0 m (pc + 1) ls (vi x :: rest))) : W p l e R s m args below meth c H locs cells slots Q (F0 m pc ls (vi i :: vr E a :: rest)) := by
  obtain ⟨h0, n, hn, h1, h2, rfl, hk⟩ := lda_spec h (by omega)
  rw [vr_pos h0]
  refine va_bald hexec hb hK hR.1 a.toNat 2 (arr_at h0 hn (by omega)) rfl (i32_in hi h1 h2) hdg ?_
  rw [i32_clamp hi h1]
  have := kk (can_at (i := i) hR hk)
  rw [show μ.2 a i = μ.2 a (i.toNat : Int) by rw [toNat_c h1]] at this
  exact this
theorem am_zald (hexec : p.tables.exec = Jvm.exec) (hb : c.code = cc) (hK : va_K (eD E) vwCl (TYS E) s) (hR : RepH E μ H) {a i x : Int} (h : lda 23 μ a i = some x) (hi : R32 i) (hdg : decode cc pc = .ok (.baload, 1))
    (kk : R32 x → W p l e R s m args below meth c H locs cells slots Q (F0 m (pc + 1) ls (vi x :: rest))) : W p l e R s m args below meth c H locs cells slots Q (F0 m pc ls (vi i :: vr E a :: rest)) := by
  obtain ⟨h0, n, hn, h1, h2, rfl, hk⟩ := lda_spec h (by omega)
  rw [vr_pos h0]
  refine va_zald hexec hb hK hR.1 a.toNat 3 (arr_at h0 hn (by omega)) rfl (i32_in hi h1 h2) hdg ?_
  rw [i32_clamp hi h1]
  have := kk (can_at (i := i) hR hk)
  rw [show μ.2 a i = μ.2 a (i.toNat : Int) by rw [toNat_c h1]] at this
  exact this
theorem am_lald (hexec : p.tables.exec = Jvm.exec) (hb : c.code = cc) (hK : va_K (eD E) vwCl (TYS E) s) (hR : RepH E μ H) {a i x : Int} (h : lda 21 μ a i = some x) (hi : R32 i) (hdg : decode cc pc = .ok (.laload, 1))
    (kk : R64 x → W p l e R s m args below meth c H locs cells slots Q (F0 m (pc + 1) ls (vl x :: rest))) : W p l e R s m args below meth c H locs cells slots Q (F0 m pc ls (vi i :: vr E a :: rest)) := by
  obtain ⟨h0, n, hn, h1, h2, rfl, hk⟩ := lda_spec h (by omega)
  rw [vr_pos h0]
  refine va_lald hexec hb hK hR.1 a.toNat 1 (arr_at h0 hn (by omega)) rfl (i32_in hi h1 h2) hdg ?_
  rw [i32_clamp hi h1]
  have := kk (can_at (i := i) hR hk)
  rw [show μ.2 a i = μ.2 a (i.toNat : Int) by rw [toNat_c h1]] at this
  exact this
theorem am_aald (hexec : p.tables.exec = Jvm.exec) (hb : c.code = cc) (hK : va_K (eD E) vwCl (TYS E) s) {ci t0 : Nat} {ty : FieldType} (hci : 24 ≤ ci) (hci2 : ci < 99) (ht : (TYS E)[t0]? = some (eC E ci, ty)) (hrf : ty.isReference = true) (hR : RepH E μ H) {a i x : Int} (h : lda ci μ a i = some x) (hi : R32 i) (hdg : decode cc pc = .ok (.aaload, 1))
    (kk : W p l e R s m args below meth c H locs cells slots Q (F0 m (pc + 1) ls (vr E x :: rest))) : W p l e R s m args below meth c H locs cells slots Q (F0 m pc ls (vi i :: vr E a :: rest)) := by
  obtain ⟨h0, n, hn, h1, h2, rfl, hk⟩ := lda_spec h (by omega)
  rw [vr_pos h0]
  have hat := arr_at (E := E) h0 hn (by omega)
  have hce : arE E ci n (μ.2 a) = (n, .inr (.inr (.inr (.inr fun j => ro E (μ.2 a j))))) := by unfold arE; rw [if_neg (by omega), if_pos hci]
  rw [hce] at hat
  have hin := i32_in hi h1 h2
  refine W.aald (v := vr E (μ.2 a i)) (ty := ty) hexec hb (hR.1 a.toNat _ hat) ((hK.2 t0 _ ht).1 n (fun j => va_rf (ro E (μ.2 a j)))) hrf (fun q => by cases q) (by show ¬ (_ < 0 ∨ (arrV _ _ _).slots.size ≤ _); rw [arrV_size]; exact hin) (by show (arrV _ _ _).slots[_]? = _; rw [i32_clamp hi h1, arrV_read _ _ (show i.toNat < n by omega)]; show some (va_rf (ro E (μ.2 a ((i.toNat : Nat) : Int)))) = _; rw [toNat_c h1]; rfl) rfl rfl hdg kk
theorem am_alen (hexec : p.tables.exec = Jvm.exec) (hb : c.code = cc) (hK : va_K (eD E) vwCl (TYS E) s) {ci t0 : Nat} {ty : FieldType} (hci : 20 ≤ ci) (hci2 : ci < 99) (ht : (TYS E)[t0]? = some (eC E ci, ty)) (hR : RepH E μ H) {a x : Int} (h : alen ci μ a = some x) (hdg : decode cc pc = .ok (.arraylength, 1))
    (kk : R32 x → W p l e R s m args below meth c H locs cells slots Q (F0 m (pc + 1) ls (vi x :: rest))) : W p l e R s m args below meth c H locs cells slots Q (F0 m pc ls (vr E a :: rest)) := by
  obtain ⟨h0, n, hn, rfl, hb⟩ := alen_spec h hci2
  rw [vr_pos h0]
  exact va_alen hexec (by assumption) hK hR.1 a.toNat t0 (arr_at h0 hn hci) ht (v := Int32.ofInt n) (by show Int32.ofNat n = _; rw [Int32.ofInt_eq_ofNat]) hdg (kk ⟨by omega, by omega⟩)
theorem cell_up {cA : ClassId} {ci n : Nat} {V : Int → Int → Int} {a i x : Int} (hc : 20 ≤ ci) (h1 : 0 ≤ i) : (vp_cell cA (arE E ci n (V a))).setSlot i.toNat (tv E (tyOf ci i) x) = vp_cell cA (arE E ci n (upV V a i x a)) := by
  have hV : ∀ j : Nat, upV V a i x a j = if j = i.toNat then x else V a j := by
    intro j; unfold upV
    by_cases hj : j = i.toNat
    · rw [if_pos hj, if_pos ⟨rfl, by omega⟩]
    · rw [if_neg hj, if_neg (fun z => hj (by omega))]
  by_cases h21 : ci = 21
  · have eT : tyOf ci i = 1 := by unfold tyOf; rw [if_neg (by omega), if_pos h21]
    have eA : ∀ f, arE E ci n f = (n, .inr (.inl fun j => Int64.ofInt (f j))) := fun f => by unfold arE; rw [if_pos h21]
    rw [eT, eA, eA, vp_cell_l, vp_cell_l, arrV_store]
    congr 1; funext j; rw [hV]; unfold updV
    by_cases hj : j = i.toNat
    · rw [if_pos hj, if_pos hj]; rfl
    · rw [if_neg hj, if_neg hj]
  · by_cases h24 : 24 ≤ ci
    · have eT : tyOf ci i = 2 := by unfold tyOf; rw [if_neg (by omega), if_neg h21, if_pos h24]
      have eA : ∀ f, arE E ci n f = (n, .inr (.inr (.inr (.inr fun j => ro E (f j))))) := fun f => by unfold arE; rw [if_neg h21, if_pos h24]
      rw [eT, eA, eA, vp_cell_q, vp_cell_q, arrV_store]
      congr 1; funext j; rw [hV]; unfold updV
      by_cases hj : j = i.toNat
      · rw [if_pos hj, if_pos hj]; rfl
      · rw [if_neg hj, if_neg hj]
    · have eT : tyOf ci i = 0 := by unfold tyOf; rw [if_neg (by omega), if_neg h21, if_neg h24]
      have eA : ∀ f, arE E ci n f = (n, .inl fun j => Int32.ofInt (f j)) := fun f => by unfold arE; rw [if_neg h21, if_neg h24]
      rw [eT, eA, eA, vp_cell_i, vp_cell_i, arrV_store]
      congr 1; funext j; rw [hV]; unfold updV
      by_cases hj : j = i.toNat
      · rw [if_pos hj, if_pos hj]; rfl
      · rw [if_neg hj, if_neg hj]
theorem rep_st (hR : RepH E μ H) {a i x : Int} {ci n : Nat} {H1 : Heap} (h0 : 0 ≤ a) (hn : μ.1[a.toNat]? = some (ci, n)) (hc : 20 ≤ ci) (h1 : 0 ≤ i) (hx : rng ci i x) (z : H1.size = H.size)
    (e : H1[eB E + a.toNat]? = some (vp_cell (eC E ci) (arE E ci n (upV μ.2 a i x a)))) (oq : ∀ q : Nat, q ≠ eB E + a.toNat → H1[q]? = H[q]?) : RepH E (μ.1, upV μ.2 a i x) H1 := by
  refine hR.up h0 hn hx z ?_
  have hce : ∀ f, cE E (ci, n) f = .inl (eC E ci, arE E ci n f) := fun f => by unfold cE; rw [if_neg (by show ¬ ci < 20; omega)]
  rw [hce]
  exact hR.1.set ws_D (arr_at h0 hn hc) e oq
theorem vp_nb {x : Int} (h : -128 ≤ x ∧ x < 128) : vp_nar .byte (Int32.ofInt x) = Int32.ofInt x := by
  rw [vp_nar_byte, ← Int32.toInt_inj]
  have e1 : (Int32.ofInt x).toInt = x := w32_id (by omega) (by omega)
  rw [Int8.toInt_toInt32, Int32.toInt_toInt8, e1]
  exact Int.bmod_eq_of_le (by omega) (by omega)
theorem vp_nz {x : Int} (h : x = 0 ∨ x = 1) : vp_nar .boolean (Int32.ofInt x) = Int32.ofInt x := by
  rcases h with rfl | rfl <;> rfl
theorem am_iast (hexec : p.tables.exec = Jvm.exec) (hb : c.code = cc) (hK : va_K (eD E) vwCl (TYS E) s) (hR : RepH E μ H) (hS : va_S (AE E) s.heap H locs) {a i x : Int} (h : sta 20 μ a i x = some μ') (hi : R32 i) (hx : R32 x) (hdg : decode cc pc = .ok (.iastore, 1))
    (kk : ∀ (H1 : Heap) (locs1 : List Loc), RepH E μ' H1 → va_S (AE E) s.heap H1 locs1 → W p l e R s m args below meth c H1 locs1 cells slots Q (F0 m (pc + 1) ls rest)) : W p l e R s m args below meth c H locs cells slots Q (F0 m pc ls (vi x :: vi i :: vr E a :: rest)) := by
  obtain ⟨h0, n, hn, h1, h2, rfl⟩ := sta_spec h (by omega)
  rw [vr_pos h0]
  have hat := arr_at (E := E) h0 hn (by omega)
  refine W.iast hexec hb (hR.1 a.toNat _ hat) ((hK.2 0 _ rfl).1 n _) (fun q => by cases q) (by show ¬ (_ < 0 ∨ (arrV _ _ _).slots.size ≤ _); rw [arrV_size]; exact i32_in hi h1 h2) rfl rfl hdg fun H1 e z oq => ?_
  rw [i32_clamp hi h1] at e
  exact kk H1 _ (rep_st hR h0 hn (by omega) h1 hx z (e.trans (congrArg some (cell_up (ci := 20) (by omega) h1))) oq) (hS.put z oq (Nat.le_add_right _ _))
theorem am_last (hexec : p.tables.exec = Jvm.exec) (hb : c.code = cc) (hK : va_K (eD E) vwCl (TYS E) s) (hR : RepH E μ H) (hS : va_S (AE E) s.heap H locs) {a i x : Int} (h : sta 21 μ a i x = some μ') (hi : R32 i) (hx : R64 x) (hdg : decode cc pc = .ok (.lastore, 1))
    (kk : ∀ (H1 : Heap) (locs1 : List Loc), RepH E μ' H1 → va_S (AE E) s.heap H1 locs1 → W p l e R s m args below meth c H1 locs1 cells slots Q (F0 m (pc + 1) ls rest)) : W p l e R s m args below meth c H locs cells slots Q (F0 m pc ls (vl x :: vi i :: vr E a :: rest)) := by
  obtain ⟨h0, n, hn, h1, h2, rfl⟩ := sta_spec h (by omega)
  rw [vr_pos h0]
  have hat := arr_at (E := E) h0 hn (by omega)
  refine W.last hexec hb (hR.1 a.toNat _ hat) ((hK.2 1 _ rfl).1 n _) (fun q => by cases q) (by show ¬ (_ < 0 ∨ (arrV _ _ _).slots.size ≤ _); rw [arrV_size]; exact i32_in hi h1 h2) rfl rfl hdg fun H1 e z oq => ?_
  rw [i32_clamp hi h1] at e
  exact kk H1 _ (rep_st hR h0 hn (by omega) h1 hx z (e.trans (congrArg some (cell_up (ci := 21) (by omega) h1))) oq) (hS.put z oq (Nat.le_add_right _ _))
theorem am_bast (hexec : p.tables.exec = Jvm.exec) (hb : c.code = cc) (hK : va_K (eD E) vwCl (TYS E) s) (hR : RepH E μ H) (hS : va_S (AE E) s.heap H locs) {a i x : Int} (h : sta 22 μ a i x = some μ') (hi : R32 i) (hx : R32 x) (hy : -128 ≤ x ∧ x < 128) (hdg : decode cc pc = .ok (.bastore, 1))
    (kk : ∀ (H1 : Heap) (locs1 : List Loc), RepH E μ' H1 → va_S (AE E) s.heap H1 locs1 → W p l e R s m args below meth c H1 locs1 cells slots Q (F0 m (pc + 1) ls rest)) : W p l e R s m args below meth c H locs cells slots Q (F0 m pc ls (vi x :: vi i :: vr E a :: rest)) := by
  obtain ⟨h0, n, hn, h1, h2, rfl⟩ := sta_spec h (by omega)
  rw [vr_pos h0]
  have hat := arr_at (E := E) h0 hn (by omega)
  refine W.bast hexec hb (hR.1 a.toNat _ hat) ((hK.2 2 _ rfl).1 n _) (fun q => by cases q) (by show ¬ (_ < 0 ∨ (arrV _ _ _).slots.size ≤ _); rw [arrV_size]; exact i32_in hi h1 h2) rfl rfl hdg fun H1 e z oq => ?_
  rw [show narrow .byte (Value.int (Int32.ofInt x)) = Value.int (vp_nar .byte (Int32.ofInt x)) from rfl, vp_nb hy] at e
  rw [i32_clamp hi h1] at e
  exact kk H1 _ (rep_st hR h0 hn (by omega) h1 hx z (e.trans (congrArg some (cell_up (ci := 22) (by omega) h1))) oq) (hS.put z oq (Nat.le_add_right _ _))
theorem am_zast (hexec : p.tables.exec = Jvm.exec) (hb : c.code = cc) (hK : va_K (eD E) vwCl (TYS E) s) (hR : RepH E μ H) (hS : va_S (AE E) s.heap H locs) {a i x : Int} (h : sta 23 μ a i x = some μ') (hi : R32 i) (hx : R32 x) (hy : x = 0 ∨ x = 1) (hdg : decode cc pc = .ok (.bastore, 1))
    (kk : ∀ (H1 : Heap) (locs1 : List Loc), RepH E μ' H1 → va_S (AE E) s.heap H1 locs1 → W p l e R s m args below meth c H1 locs1 cells slots Q (F0 m (pc + 1) ls rest)) : W p l e R s m args below meth c H locs cells slots Q (F0 m pc ls (vi x :: vi i :: vr E a :: rest)) := by
  obtain ⟨h0, n, hn, h1, h2, rfl⟩ := sta_spec h (by omega)
  rw [vr_pos h0]
  have hat := arr_at (E := E) h0 hn (by omega)
  refine W.zast hexec hb (hR.1 a.toNat _ hat) ((hK.2 3 _ rfl).1 n _) (fun q => by cases q) (by show ¬ (_ < 0 ∨ (arrV _ _ _).slots.size ≤ _); rw [arrV_size]; exact i32_in hi h1 h2) rfl rfl hdg fun H1 e z oq => ?_
  rw [show narrow .boolean (Value.int (Int32.ofInt x)) = Value.int (vp_nar .boolean (Int32.ofInt x)) from rfl, vp_nz hy] at e
  rw [i32_clamp hi h1] at e
  exact kk H1 _ (rep_st hR h0 hn (by omega) h1 hx z (e.trans (congrArg some (cell_up (ci := 23) (by omega) h1))) oq) (hS.put z oq (Nat.le_add_right _ _))
theorem am_aast (hexec : p.tables.exec = Jvm.exec) (hb : c.code = cc) (hK : va_K (eD E) vwCl (TYS E) s) {ci cv t0 : Nat} {r : vw_C} (hci : 24 ≤ ci) (hci2 : ci < 99) (hcv : cv < 20) (ht : (TYS E)[t0]? = some (eC E ci, .object r.1)) (hvc : vwCl[cv]? = some r) (hR : RepH E μ H) (hS : va_S (AE E) s.heap H locs) {a i x : Int} (h : sta ci μ a i x = some μ') (hi : R32 i) (hx : isk cv μ x = some ()) (hdg : decode cc pc = .ok (.aastore, 1))
    (kk : ∀ (H1 : Heap) (locs1 : List Loc), RepH E μ' H1 → va_S (AE E) s.heap H1 locs1 → W p l e R s m args below meth c H1 locs1 cells slots Q (F0 m (pc + 1) ls rest)) : W p l e R s m args below meth c H locs cells slots Q (F0 m pc ls (vr E x :: vi i :: vr E a :: rest)) := by
  obtain ⟨h0, n, hn, h1, h2, rfl⟩ := sta_spec h (by omega)
  have hxk : (kd μ x).1 = cv := by
    unfold isk at hx
    by_cases q : (kd μ x).1 = cv
    · exact q
    · rw [if_neg q] at hx; cases hx
  obtain ⟨hx0, hxa⟩ := kd_at hxk (by omega)
  rw [vr_pos h0, vr_pos hx0]
  have hat := arr_at (E := E) h0 hn (by omega)
  have hatx := ws_at (E := E) hxa
  have hce : cE E (kd μ x) (μ.2 (x.toNat : Int)) = .inr (cv, fvs E cv (μ.2 (x.toNat : Int))) := by unfold cE; rw [if_pos (by rw [hxk]; exact hcv), hxk]
  rw [hce] at hatx
  obtain ⟨r', hr', cellV, g1, g2, g3, -⟩ := hR.1 x.toNat _ hatx
  have hcls := (hK.1 cv r hvc).2
  obtain ⟨kA, comp, k1, k2, k3, -⟩ := (hK.2 t0 _ ht).2
  have hcomp : comp = (eD E).1 cv := Option.some.inj (k3.symm.trans hcls.1)
  subst hcomp
  obtain ⟨kC, hkC, -⟩ := hcls.2
  have hae : arE E ci n (μ.2 a) = (n, .inr (.inr (.inr (.inr fun j => ro E (μ.2 a j))))) := by unfold arE; rw [if_neg (by omega), if_pos hci]
  have hcell : H[eB E + a.toNat]? = some (vp_cell (eC E ci) (n, .inr (.inr (.inr (.inr fun j => ro E (μ.2 a j)))))) := by rw [← hae]; exact hR.1 a.toNat _ hat
  refine W.aast hexec hb hcell (fun q h => by cases h) (fun h => by cases h) k1 k2 rfl hkC ⟨i32_nneg hi h1, by show _ < (arrV _ _ _).slots.size; rw [arrV_size, i32_clamp hi h1]; omega⟩ g1 (fun q h => by rw [g3] at h; cases h) (by rw [g2]; exact hkC) (by rw [g2]; exact va_assign hcls) rfl rfl hdg fun H1 e z oq => ?_
  rw [i32_clamp hi h1, ← hae] at e
  have e2 : Value.ref (eB E + x.toNat) = tv E (tyOf ci i) x := by
    unfold tyOf; rw [if_neg (by omega), if_neg (by omega), if_pos hci]; exact (vr_pos hx0).symm
  rw [e2] at e
  refine kk H1 _ (rep_st hR h0 hn (by omega) h1 ?_ z (e.trans (congrArg some (cell_up (ci := ci) (by omega) h1))) oq) (hS.put z oq (Nat.le_add_right _ _))
  unfold rng tyOf; rw [if_neg (by omega), if_neg (by omega), if_pos hci]; trivial
end AMR
