/-! PURE: lanes, the numbers -/
section LANE
variable {sh : List (Nat × Nat)} {V V' V1 V2 V2' : Int → Int → Int} {r t s c i j k x a b y D D' f p v q h u o day z m g w : Int} {S S' R W : Int → Int} {n : Nat} {d d' d0 : Int → Int} {wt : Int → Int} {E : List (Int × Int × Int)}
/-- a value that isn't that of d0 comes over an edge -/
theorem bf_att {F : Int} {k : Nat} (hG : Gr E n) (hF : ∀ v, d0 v ≤ F) (hX : pss F E (iter (pss F E) d0 k) = iter (pss F E) d0 k) (v : Int) : iter (pss F E) d0 k v = d0 v ∨ ∃ e ∈ E, e.2.1 = v ∧ iter (pss F E) d0 k e.1 ≠ F ∧ iter (pss F E) d0 k v = iter (pss F E) d0 k e.1 + e.2.2 := by
  have hXF : ∀ v, iter (pss F E) d0 k v ≤ F := fun v => Int.le_trans (iter_le _ _) (hF v)
  have hC := clo_pss hXF hX
  have hle := fun v => iter_le (F := F) (E := E) (d := d0) k v
  have gr := fun (Y : Int → Int) (h1 : Clo F E Y) (h2 : ∀ v, Y v ≤ d0 v) => bf_great h1 hF h2 k
  generalize iter (pss F E) d0 k = X at *
  by_cases e : X v = d0 v
  · exact Or.inl e
  · refine Or.inr (Classical.byContradiction (fun hc => ?_))
    have hlt : X v < d0 v := by have := hle v; omega
    have hstr : ∀ e ∈ E, e.2.1 = v → X e.1 ≠ F → X v < X e.1 + e.2.2 := fun e he hv hu => by
      have h1 := hC e he hu
      rw [hv] at h1
      have h2 : X v ≠ X e.1 + e.2.2 := fun z => hc ⟨e, he, hv, hu, z⟩
      omega
    have hY : Clo F E (up X v (X v + 1)) := by
      intro e he hu
      have hg := hG e he
      by_cases e1 : e.2.1 = v
      · rw [e1, upS_eq]
        by_cases e2 : e.1 = v
        · rw [e2, upS_eq]; omega
        · rw [upS_ne e2] at hu ⊢
          have := hstr e he e1 hu; omega
      · rw [upS_ne e1]
        by_cases e2 : e.1 = v
        · rw [e2, upS_eq]
          have := hC e he (by rw [e2]; have := hF v; omega)
          rw [e2] at this; omega
        · rw [upS_ne e2] at hu ⊢
          exact hC e he hu
    have := gr _ hY (fun x => by
      by_cases ex : x = v
      · rw [ex, upS_eq]; omega
      · rw [upS_ne ex]; exact hle x) v
    rw [upS_eq] at this
    omega
/-- a lane's value -/
def PvL (n : Nat) (d : Int → Int) (v : Int) : Prop := (0 ≤ v ∧ v < n) ∧ (∃ L : List Int, L.Nodup ∧ (∀ x ∈ L, (0 ≤ x ∧ x < n) ∧ d x < d v) ∧ d v % 16 ≤ L.length) ∧ 0 ≤ d v ∧ d v / 16 % 1024 ≤ 90 * (d v % 16) ∧ d v / 16384 ≤ 999 * (d v % 16)
def IvL (n : Nat) (d : Int → Int) : Prop := ∀ v, d v = 2147483647 ∨ PvL n d v
theorem PvL_len (h : PvL n d v) : d v % 16 ≤ (n : Int) - 1 := by
  obtain ⟨h0, ⟨L, l1, l2, l3⟩, -⟩ := h
  have := pigeon n (v :: L) (List.nodup_cons.mpr ⟨fun hm => by have := (l2 v hm).2; omega, l1⟩) (fun x hx => by
    rcases List.mem_cons.mp hx with rfl | hx
    · exact h0
    · exact (l2 x hx).1)
  rw [List.length_cons] at this
  omega
theorem PvL_rng (h : PvL n d v) (hn : n ≤ 12) : 0 ≤ d v ∧ d v ≤ 200000000 ∧ d v % 16 ≤ 11 ∧ d v / 16 % 1024 ≤ 990 := by
  have h1 := PvL_len h
  obtain ⟨-, -, h2, h3, h4⟩ := h
  have h5 : d v % 16 ≤ 11 := by omega
  have h6 : d v / 16384 ≤ 10989 := by omega
  exact ⟨h2, by omega, h5, by omega⟩
theorem IvL_Rg (h : IvL n d) (hn : n ≤ 12) : Rg d := fun v => by
  rcases h v with q | q
  · exact Or.inl q
  · have := PvL_rng q hn; exact Or.inr (by omega)
/-- if eleven roads lead to a, no place lies above it -/
theorem full (h : PvL n d a) (hn : n ≤ 12) (h11 : d a % 16 = 11) (hb : 0 ≤ b ∧ b < n) : d b ≤ d a := by
  obtain ⟨h0, ⟨L, l1, l2, l3⟩, -⟩ := h
  refine Classical.byContradiction (fun hc => ?_)
  have := pigeon n (b :: a :: L) (List.nodup_cons.mpr ⟨fun hm => by
    rcases List.mem_cons.mp hm with e | hm
    · rw [e] at hc; omega
    · have := (l2 b hm).2; omega, List.nodup_cons.mpr ⟨fun hm => by have := (l2 a hm).2; omega, l1⟩⟩) (fun x hx => by
    rcases List.mem_cons.mp hx with rfl | hx
    · exact hb
    · rcases List.mem_cons.mp hx with rfl | hx
      · exact h0
      · exact (l2 x hx).1)
  rw [List.length_cons, List.length_cons] at this
  omega
theorem add_lane (h1 : x % 16 ≤ 10) (h2 : x / 16 % 1024 ≤ 90 * (x % 16)) (h3 : 1 ≤ u ∧ u ≤ 90) : (x + (t * 16384 + u * 16 + 1)) % 16 = x % 16 + 1 ∧ (x + (t * 16384 + u * 16 + 1)) / 16 % 1024 = x / 16 % 1024 + u ∧ (x + (t * 16384 + u * 16 + 1)) / 16384 = x / 16384 + t := by
  have e1 : x / 16 % 1024 ≤ 900 := by omega
  have e2 : (x + (t * 16384 + u * 16 + 1)) % 16 = x % 16 + 1 := by omega
  have e3 : (x + (t * 16384 + u * 16 + 1)) / 16 = x / 16 + (t * 1024 + u) := by omega
  have e4 : (x / 16 + (t * 1024 + u)) % 1024 = x / 16 % 1024 + u := by omega
  have e5 : (x + (t * 16384 + u * 16 + 1)) / 16384 = (x + (t * 16384 + u * 16 + 1)) / 16 / 1024 := by omega
  have e6 : x / 16384 = x / 16 / 1024 := by omega
  refine ⟨e2, by rw [e3, e4], ?_⟩
  rw [e5, e3, e6]
  omega
theorem IvL_rlx (h : IvL n d) (hn : n ≤ 12) (ha : 0 ≤ a ∧ a < n) (hv : 0 ≤ b ∧ b < n) (ht : 0 ≤ t ∧ t ≤ 999) (hu : 1 ≤ u ∧ u ≤ 90) : IvL n (rlx 2147483647 d (a, b, t * 16384 + u * 16 + 1)) := by
  show IvL n (if d a = 2147483647 ∨ d b ≤ d a + (t * 16384 + u * 16 + 1) then d else up d b (d a + (t * 16384 + u * 16 + 1)))
  split
  · exact h
  · rename_i q
    have q1 : ¬ d a = 2147483647 := fun e => q (Or.inl e)
    have q2 : ¬ d b ≤ d a + (t * 16384 + u * 16 + 1) := fun e => q (Or.inr e)
    rcases h a with e | pa
    · exact absurd e q1
    · have ra := PvL_rng pa hn
      have h10 : d a % 16 ≤ 10 := by
        refine Classical.byContradiction (fun hc => ?_)
        have := full pa hn (by omega) hv
        omega
      obtain ⟨-, ⟨L, l1, l2, l3⟩, l4, l5, l6⟩ := pa
      have ad := add_lane (t := t) h10 l5 hu
      have hab : a ≠ b := fun e => by rw [e] at q2; omega
      have hFb : d b ≤ 2147483647 := by
        rcases h b with e | pb
        · omega
        · have := PvL_rng pb hn; omega
      intro x
      show up d b (d a + (t * 16384 + u * 16 + 1)) x = 2147483647 ∨ _
      by_cases hx : x = b
      · subst hx
        rw [upS_eq]
        refine Or.inr ⟨hv, ⟨a :: L, List.nodup_cons.mpr ⟨fun hm => by have := (l2 a hm).2; omega, l1⟩, fun y hy => ?_, ?_⟩, ?_, ?_, ?_⟩
        · rw [upS_eq]
          rcases List.mem_cons.mp hy with rfl | hy
          · rw [upS_ne hab]; exact ⟨ha, by omega⟩
          · have := l2 y hy
            rw [upS_ne (fun e => by rw [e] at this; omega)]; exact ⟨this.1, by omega⟩
        · rw [upS_eq, ad.1, List.length_cons]; omega
        · rw [upS_eq]; omega
        · rw [upS_eq, ad.1, ad.2.1]; omega
        · rw [upS_eq, ad.1, ad.2.2]; omega
      · rw [upS_ne hx]
        rcases h x with e | ⟨p1, ⟨M, m1, m2, m3⟩, p3, p4, p5⟩
        · exact Or.inl e
        · refine Or.inr ⟨p1, ⟨M, m1, fun y hy => ?_, ?_⟩, ?_, ?_, ?_⟩
          · rw [upS_ne hx]
            have := m2 y hy
            by_cases ey : y = b
            · subst ey; rw [upS_eq]; exact ⟨this.1, by omega⟩
            · rw [upS_ne ey]; exact this
          · rw [upS_ne hx]; exact m3
          · rw [upS_ne hx]; exact p3
          · rw [upS_ne hx]; exact p4
          · rw [upS_ne hx]; exact p5
/-- the weights of lanes on a day -/
def wtL (S : Int → Int) (day r : Int) : Int := sToll S r day * 16384 + S (104 + r) * 16 + 1
theorem wtL_rng (K : KOk S) (h0 : 0 ≤ r) (h1 : r < S 7) : 0 < wtL S day r ∧ wtL S day r ≤ 1000000000 := by
  have := sToll_rng (d := day) K h0 h1
  have := K.2.2.2.2.2.2.2.2.2.2.2.2.2 r h0 h1
  unfold wtL; omega
theorem IvL_e (K : KOk S) (h : IvL (S 0).toNat d) (h0 : 0 ≤ r) (h1 : r < S 7) : IvL (S 0).toNat (rlx 2147483647 d (S (8 + r), S (32 + r), wtL S day r)) ∧ IvL (S 0).toNat (rlx 2147483647 d (S (32 + r), S (8 + r), wtL S day r)) := by
  obtain ⟨z1, z2, z3, z4, -⟩ := id K
  have hr := K.2.2.2.2.2.2.2.2.2.2.2.2.2 r h0 h1
  have ht := sToll_rng (d := day) K h0 h1
  exact ⟨IvL_rlx h (by omega) (by omega) (by omega) ht (by omega), IvL_rlx h (by omega) (by omega) (by omega) ht (by omega)⟩
theorem IvL_edg (K : KOk S) : ∀ d e, IvL (S 0).toNat d → e ∈ edg S (wtL S day) (S 7).toNat → IvL (S 0).toNat (rlx 2147483647 d e) := by
  intro d e h he
  obtain ⟨r, h1, h2, h3⟩ := edg_mem _ he
  have := IvL_e (day := day) K h (r := r) (by omega) (by have := K.2.2.1; omega)
  rcases h3 with rfl | rfl
  · exact this.1
  · exact this.2
theorem IvL_d0 (h0 : 0 ≤ t) (h1 : t < n) : IvL n (d0H t) := fun v => by
  unfold d0H
  by_cases e : v = t
  · subst e
    exact Or.inr ⟨⟨h0, h1⟩, ⟨[], List.nodup_nil, fun y hy => (by cases hy), by rw [upS_eq]; simp⟩, by rw [upS_eq]; omega, by rw [upS_eq]; omega, by rw [upS_eq]; omega⟩
  · rw [upS_ne e]; exact Or.inl rfl
/-- the lanes to a town -/
def lnR (S : Int → Int) (day t : Int) : Int → Int := stl S (wtL S day) (d0H t)
theorem lnR_ok (K : KOk S) (h0 : 0 ≤ t) (h1 : t < S 0) : IvL (S 0).toNat (lnR S day t) ∧ pss 2147483647 (edg S (wtL S day) (S 7).toNat) (lnR S day t) = lnR S day t := by
  obtain ⟨z1, z2, z3, z4, -⟩ := id K
  have hG := Gr_edg (S := S) (wt := wtL S day) K (fun r hr => (wtL_rng K (by omega) hr).1) (m := (S 7).toNat) (by omega)
  have hd := IvL_d0 (n := (S 0).toNat) h0 (by omega)
  exact ⟨Iv_iter _ (IvL_edg K) hd _, bf_main hG (by omega) (Rg_F (IvL_Rg hd (by omega)))⟩
/-- the reference's order of relaxing -/
def edL (S wt : Int → Int) : Nat → List (Int × Int × Int)
  | 0 => []
  | r + 1 => edL S wt r ++ if S (128 + r) = 0 then [(S (32 + r), S (8 + r), wt r), (S (8 + r), S (32 + r), wt r)] else []
theorem edL_mem {e : Int × Int × Int} : ∀ m : Nat, e ∈ edL S wt m ↔ e ∈ edg S wt m := by
  intro m
  induction m with
  | zero => exact Iff.rfl
  | succ m ih =>
    rw [edL, edg, List.mem_append, List.mem_append, ih]
    split
    · simp only [List.mem_cons, List.not_mem_nil, or_false]
      constructor
      · rintro (h | h | h)
        · exact Or.inl h
        · exact Or.inr (Or.inr h)
        · exact Or.inr (Or.inl h)
      · rintro (h | h | h)
        · exact Or.inl h
        · exact Or.inr (Or.inr h)
        · exact Or.inr (Or.inl h)
    · exact Iff.rfl
theorem pss_edL (F : Int) (d : Int → Int) (m : Nat) : pss F (edL S wt (m + 1)) d = if S (128 + m) = 0 then rlx F (rlx F (pss F (edL S wt m) d) (S (32 + m), S (8 + m), wt m)) (S (8 + m), S (32 + m), wt m) else pss F (edL S wt m) d := by
  unfold pss
  rw [edL, List.foldl_append]
  split <;> rfl
theorem lnR_edL (K : KOk S) (h0 : 0 ≤ t) (h1 : t < S 0) : iter (pss 2147483647 (edL S (wtL S day) (S 7).toNat)) (d0H t) ((S 0).toNat - 1) = lnR S day t ∧ pss 2147483647 (edL S (wtL S day) (S 7).toNat) (lnR S day t) = lnR S day t := by
  obtain ⟨z1, z2, z3, z4, -⟩ := id K
  have hG := Gr_edg (S := S) (wt := wtL S day) K (fun r hr => (wtL_rng K (by omega) hr).1) (m := (S 7).toNat) (by omega)
  have hG' : Gr (edL S (wtL S day) (S 7).toNat) (S 0).toNat := fun e he => hG e ((edL_mem _).mp he)
  have hd := IvL_d0 (n := (S 0).toNat) h0 (by omega)
  have hF := Rg_F (IvL_Rg hd (by omega))
  have e := bf_same (F := 2147483647) (d := d0H t) hG' hG (by omega) hF (fun e he => (edL_mem _).mp he) (fun e he => (edL_mem _).mpr he)
  have e2 := bf_main (F := 2147483647) (d := d0H t) hG' (by omega) hF
  rw [e] at e2
  exact ⟨e, e2⟩
/-- r leads on along the lane from town t -/
def onL (S : Int → Int) (day t0 t r : Int) : Prop := S (128 + r) = 0 ∧ (S (8 + r) = t ∨ S (32 + r) = t) ∧ lnR S day t0 (sHead S (sDart S r t)) ≠ 2147483647 ∧ lnR S day t0 (sHead S (sDart S r t)) + wtL S day r = lnR S day t0 t
theorem head_by (K : KOk S) (h0 : 0 ≤ r) (h1 : r < S 7) : sHead S (sDart S r t) = if S (8 + r) = t then S (32 + r) else S (8 + r) := by
  unfold sDart sHead
  split
  · rw [if_pos (by omega), show 2 * r / 2 = r by omega]
  · rw [if_neg (by omega), show (2 * r + 1) / 2 = r by omega]
theorem onL_ex (K : KOk S) (h0 : 0 ≤ u) (h1 : u < S 0) (hf : lnR S day u t ≠ 2147483647) (hn : t ≠ u) : ∃ r : Nat, (r : Int) < S 7 ∧ onL S day u t r := by
  obtain ⟨z1, z2, z3, z4, -⟩ := id K
  have hG := Gr_edg (S := S) (wt := wtL S day) K (fun r hr => (wtL_rng K (by omega) hr).1) (m := (S 7).toNat) (by omega)
  have hd := IvL_d0 (n := (S 0).toNat) h0 (by omega)
  have hF := Rg_F (IvL_Rg hd (by omega))
  have e0 : d0H u t = 2147483647 := by unfold d0H; rw [upS_ne hn]
  rcases bf_att (F := 2147483647) (d0 := d0H u) (k := (S 0).toNat - 1) hG hF (bf_main hG (by omega) hF) t with q | ⟨e, he, hv, hu, q⟩
  · exact absurd (q.trans e0) hf
  · obtain ⟨r, r1, r2, r3⟩ := edg_mem _ he
    have hr := K.2.2.2.2.2.2.2.2.2.2.2.2.2 r (by omega) (by omega)
    have hh := head_by (t := t) K (r := r) (by omega) (by omega)
    refine ⟨r, by omega, r2, ?_⟩
    rcases r3 with rfl | rfl
    · have hv : S (32 + (r : Int)) = t := hv
      rw [if_neg (by omega)] at hh
      refine ⟨Or.inr hv, ?_, ?_⟩
      · rw [hh]; exact hu
      · rw [hh]; exact q.symm
    · have hv : S (8 + (r : Int)) = t := hv
      rw [if_pos hv] at hh
      refine ⟨Or.inl hv, ?_, ?_⟩
      · rw [hh]; exact hu
      · rw [hh]; exact q.symm
end LANE
