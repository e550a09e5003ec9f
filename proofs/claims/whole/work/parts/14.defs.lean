/-! THE METHODS AS FUNCTIONS -/
def Ct_init (a0 : Int) (μ : Mem) : Option (Int × Mem) :=
  bd (isk 0 μ a0) fun _ =>
  bd (putf 0 0 (newc 21 1260 μ) a0 (nlen μ)) fun μ1 =>
  bd (putf 0 1 (newc 21 1260 μ1) a0 (nlen μ1)) fun μ2 =>
  bd (putf 0 2 (newc 21 21 μ2) a0 (nlen μ2)) fun μ3 =>
  bd (putf 0 3 (newc 20 40 μ3) a0 (nlen μ3)) fun μ4 =>
  bd (putf 0 4 (newc 20 40 μ4) a0 (nlen μ4)) fun μ5 =>
  some (0, μ5)
def J_minJ (a0 a1 : Int) (μ : Mem) : Option (Int × Mem) :=
  if 0 < (cmp64 a0 a1) then
    some (a1, μ)
  else
    some (a0, μ)
def Ct_plus (a0 a1 a2 a3 : Int) (μ : Mem) : Option (Int × Mem) :=
  bd (getf 0 7 μ a0) fun x1 =>
  if x1 = 0 then
    bd (rem64 (w64 (a1 + (w64 (a2 * a3)))) 1000000007) fun x2 =>
    some (x2, μ)
  else
    bd2 (J_minJ 2147483648 (w64 (a2 * a3)) μ) fun x3 μ4 =>
    bd2 (J_minJ 2147483648 (w64 (a1 + x3)) μ4) fun x5 μ6 =>
    some (x5, μ6)
def Ct_multiply_L12 (k53 : Int → Int → Int → Int → Mem → Option (Int × Mem)) : Nat → Int → Int → Int → Int → Int → Mem → Option (Int × Mem)
  | 0, _, _, _, _, _, _ => none
  | n + 1, v0, v1, v3, v4, v6, μ =>
    if v3 < v6 then
      k53 v0 v1 v3 v4 μ
    else
      bd (getf 0 2 μ v0) fun x1 =>
      bd (lda 21 μ x1 v6) fun x2 =>
      bd (getf 0 0 μ v0) fun x3 =>
      bd (lda 21 μ x3 (w32 ((w32 ((w32 (v1 * 21)) + v3)) - v6))) fun x4 =>
      bd (isk 0 μ v0) fun _ =>
      bd2 (Ct_plus v0 v4 x2 x4 μ) fun x5 μ6 =>
      Ct_multiply_L12 k53 n v0 v1 v3 x5 (w32 (v6 + 1)) μ6
def Ct_multiply_L2  : Nat → Int → Int → Int → Mem → Option (Int × Mem)
  | 0, _, _, _, _ => none
  | n + 1, v0, v1, v3, μ =>
    if v3 < 0 then
      some (0, μ)
    else
      Ct_multiply_L12 (fun x1 x2 x3 x4 μ5 =>
          bd (getf 0 2 μ5 x1) fun x6 =>
          bd (sta 21 μ5 x6 x3 x4) fun μ7 =>
          Ct_multiply_L2 n x1 x2 (w32 (x3 + (-1))) μ7) FU v0 v1 v3 0 0 μ
def Ct_multiply (a0 a1 a2 : Int) (μ : Mem) : Option (Int × Mem) :=
  Ct_multiply_L2 FU a0 a1 a2 μ
def Wo_isOpen (a0 a1 : Int) (μ : Mem) : Option (Int × Mem) :=
  bd (getf 10 4 μ a0) fun x1 =>
  if (and32 (shr32 x1 a1) 1) = 0 then
    some (1, μ)
  else
    some (0, μ)
def Ct_countFrom_L3 (k44 : Int → Int → Int → Int → Int → Mem → Option (Int × Mem)) : Nat → Int → Int → Int → Int → Int → Mem → Option (Int × Mem)
  | 0, _, _, _, _, _, _ => none
  | n + 1, v0, v1, v2, v3, v4, μ =>
    bd (getf 0 6 μ v0) fun x1 =>
    if v4 < x1 then
      bd (getf 0 5 μ v0) fun x2 =>
      if v4 < x2 then
        bd (getf 0 4 μ v0) fun x3 =>
        bd (lda 20 μ x3 v4) fun x4 =>
        bd (getf 0 3 μ v0) fun x5 =>
        bd (lda 20 μ x5 v4) fun x6 =>
        if x4 = x6 then
          Ct_countFrom_L3 k44 n v0 v1 v2 v3 (w32 (v4 + 1)) μ
        else
          k44 v0 v1 v2 v3 v4 μ
      else
        k44 v0 v1 v2 v3 v4 μ
    else
      k44 v0 v1 v2 v3 v4 μ
def Ct_countFrom_L114 (k142 : Int → Int → Int → Int → Mem → Option (Int × Mem)) : Nat → Int → Int → Int → Int → Int → Mem → Option (Int × Mem)
  | 0, _, _, _, _, _, _ => none
  | n + 1, v0, v1, v4, v6, v7, μ =>
    if v7 < v4 then
      k142 v0 v1 v4 v6 μ
    else
      bd (getf 0 4 μ v0) fun x1 =>
      bd (lda 20 μ x1 v7) fun x2 =>
      bd (isk 0 μ v0) fun _ =>
      bd2 (Ct_multiply v0 (xor32 x2 1) v6 μ) fun _ μ4 =>
      Ct_countFrom_L114 k142 n v0 v1 v4 v6 (w32 (v7 + (-1))) μ4
def Ct_countFrom_L146  : Nat → Int → Int → Int → Int → Mem → Option (Int × Mem)
  | 0, _, _, _, _, _ => none
  | n + 1, v0, v1, v6, v7, μ =>
    bd (getf 0 5 μ v0) fun x1 =>
    if v7 < x1 then
      bd (getf 0 3 μ v0) fun x4 =>
      bd (lda 20 μ x4 v7) fun x5 =>
      bd (isk 10 μ v1) fun _ =>
      bd2 (Wo_isOpen v1 (shr32 x5 1) μ) fun x6 μ7 =>
      if x6 = 0 then
        some (0, μ7)
      else
        bd (getf 0 3 μ7 v0) fun x8 =>
        bd (lda 20 μ7 x8 v7) fun x9 =>
        bd (isk 0 μ7 v0) fun _ =>
        bd2 (Ct_multiply v0 x9 v6 μ7) fun _ μ11 =>
        Ct_countFrom_L146 n v0 v1 v6 (w32 (v7 + 1)) μ11
    else
      bd (getf 0 2 μ v0) fun x2 =>
      bd (lda 21 μ x2 v6) fun x3 =>
      some (x3, μ)
def Ct_countFrom_J44  (v0 v1 v2 v3 v4 : Int) (μ : Mem) : Option (Int × Mem) :=
  bd (getf 0 6 μ v0) fun x1 =>
  bd (getf 0 5 μ v0) fun x2 =>
  bd (some (w32 ((w32 (v3 - (w32 (x1 - v4)))) - (w32 (x2 - v4))))) fun x3 =>
  if x3 < 0 then
    some (0, μ)
  else
    bd (rem32 x3 2) fun x4 =>
    if x4 = 0 then
      bd (div32 x3 2) fun x5 =>
      bd (getf 0 0 μ v0) fun x6 =>
      bd (getf 0 2 μ v0) fun x7 =>
      bd (acopy 21 μ x6 (w32 ((w32 (48 + v2)) * 21)) x7 0 (w32 (x5 + 1))) fun μ8 =>
      bd (getf 0 6 μ8 v0) fun x9 =>
      bd (some (w32 (x9 - 1))) fun x10 =>
      Ct_countFrom_L114 (fun x11 x12 x13 x14 μ15 =>
          Ct_countFrom_L146 FU x11 x12 x14 x13 μ15) FU v0 v1 v4 x5 x10 μ8
    else
      some (0, μ)
def Ct_countFrom (a0 a1 a2 a3 : Int) (μ : Mem) : Option (Int × Mem) :=
  Ct_countFrom_L3 (fun x1 x2 x3 x4 x5 μ6 =>
      Ct_countFrom_J44 x1 x2 x3 x4 x5 μ6) FU a0 a1 a2 a3 0 μ
def Ct_countRounds_L13 (k59 : Int → Int → Int → Int → Mem → Option (Int × Mem)) : Nat → Int → Int → Int → Int → Int → Mem → Option (Int × Mem)
  | 0, _, _, _, _, _, _ => none
  | n + 1, v0, v1, v2, v3, v5, μ =>
    if v5 < v2 then
      bd (getf 0 1 μ v0) fun x1 =>
      bd (lda 21 μ x1 (w32 ((w32 (v1 * 21)) + v5))) fun x2 =>
      bd (getf 0 0 μ v0) fun x3 =>
      bd (lda 21 μ x3 (w32 ((w32 ((w32 ((w32 (v1 * 21)) + v2)) - 1)) - v5))) fun x4 =>
      bd (isk 0 μ v0) fun _ =>
      bd2 (Ct_plus v0 v3 x2 x4 μ) fun x5 μ6 =>
      Ct_countRounds_L13 k59 n v0 v1 v2 x5 (w32 (v5 + 1)) μ6
    else
      k59 v0 v1 v2 v3 μ
def Ct_countRounds (a0 a1 a2 : Int) (μ : Mem) : Option (Int × Mem) :=
  if a2 = 0 then
    Ct_countRounds_L13 (fun x8 x9 x10 x11 μ12 =>
        bd (getf 0 0 μ12 x8) fun x13 =>
        bd (sta 21 μ12 x13 (w32 ((w32 (x9 * 21)) + x10)) x11) fun μ14 =>
        some (0, μ14)) FU a0 a1 a2 1 0 μ
  else
    Ct_countRounds_L13 (fun x1 x2 x3 x4 μ5 =>
        bd (getf 0 0 μ5 x1) fun x6 =>
        bd (sta 21 μ5 x6 (w32 ((w32 (x2 * 21)) + x3)) x4) fun μ7 =>
        some (0, μ7)) FU a0 a1 a2 0 0 μ
def Kg_leadsFrom (a0 a1 a2 : Int) (μ : Mem) : Option (Int × Mem) :=
  bd (getf 1 8 μ a0) fun x1 =>
  bd (lda 20 μ x1 a1) fun x2 =>
  if x2 = a2 then
    some (1, μ)
  else
    bd (getf 1 9 μ a0) fun x3 =>
    bd (lda 20 μ x3 a1) fun x4 =>
    if x4 = a2 then
      some (1, μ)
    else
      some (0, μ)
def Kg_markOf (a0 a1 a2 : Int) (μ : Mem) : Option (Int × Mem) :=
  bd (getf 1 8 μ a0) fun x1 =>
  bd (lda 20 μ x1 a1) fun x2 =>
  if x2 = a2 then
    some ((w32 (2 * a1)), μ)
  else
    some ((w32 ((w32 (2 * a1)) + 1)), μ)
def Ct_sumBeyond_L6 (k84 : Int → Int → Int → Int → Mem → Option (Int × Mem)) : Nat → Int → Int → Int → Int → Int → Int → Int → Mem → Option (Int × Mem)
  | 0, _, _, _, _, _, _, _, _ => none
  | n + 1, v0, v1, v2, v3, v4, v5, v7, μ =>
    bd (getf 10 0 μ v1) fun x1 =>
    bd (getf 1 7 μ x1) fun x2 =>
    if v7 < x2 then
      if v7 = (shr32 v2 1) then
        Ct_sumBeyond_L6 k84 n v0 v1 v2 v3 v4 v5 (w32 (v7 + 1)) μ
      else
        bd (isk 10 μ v1) fun _ =>
        bd2 (Wo_isOpen v1 v7 μ) fun x3 μ4 =>
        if x3 = 0 then
          Ct_sumBeyond_L6 k84 n v0 v1 v2 v3 v4 v5 (w32 (v7 + 1)) μ4
        else
          bd (getf 10 0 μ4 v1) fun x5 =>
          bd (isk 1 μ4 x5) fun _ =>
          bd2 (Kg_leadsFrom x5 v7 v3 μ4) fun x6 μ7 =>
          if x6 = 0 then
            Ct_sumBeyond_L6 k84 n v0 v1 v2 v3 v4 v5 (w32 (v7 + 1)) μ7
          else
            bd (getf 0 0 μ7 v0) fun x8 =>
            bd (getf 10 0 μ7 v1) fun x9 =>
            bd (isk 1 μ7 x9) fun _ =>
            bd2 (Kg_markOf x9 v7 v3 μ7) fun x10 μ11 =>
            bd (lda 21 μ11 x8 (w32 ((w32 (x10 * 21)) + v4))) fun x12 =>
            bd (isk 0 μ11 v0) fun _ =>
            bd2 (Ct_plus v0 v5 1 x12 μ11) fun x13 μ14 =>
            Ct_sumBeyond_L6 k84 n v0 v1 v2 v3 v4 x13 (w32 (v7 + 1)) μ14
    else
      k84 v0 v2 v4 v5 μ
def Ct_sumBeyond (a0 a1 a2 a3 a4 : Int) (μ : Mem) : Option (Int × Mem) :=
  Ct_sumBeyond_L6 (fun x1 x2 x3 x4 μ5 =>
      bd (getf 0 1 μ5 x1) fun x6 =>
      bd (sta 21 μ5 x6 (w32 ((w32 (x2 * 21)) + x3)) x4) fun μ7 =>
      some (0, μ7)) FU a0 a1 a2 a3 a4 0 0 μ
def Kg_startOf (a0 a1 : Int) (μ : Mem) : Option (Int × Mem) :=
  if (and32 a1 1) = 0 then
    bd (getf 1 8 μ a0) fun x3 =>
    bd (lda 20 μ x3 (shr32 a1 1)) fun x4 =>
    some (x4, μ)
  else
    bd (getf 1 9 μ a0) fun x1 =>
    bd (lda 20 μ x1 (shr32 a1 1)) fun x2 =>
    some (x2, μ)
def Kg_endOf (a0 a1 : Int) (μ : Mem) : Option (Int × Mem) :=
  bd (isk 1 μ a0) fun _ =>
  bd2 (Kg_startOf a0 (xor32 a1 1) μ) fun x1 μ2 =>
  some (x1, μ2)
def Nu_smallAt (a0 a1 : Int) (μ : Mem) : Option (Int × Mem) :=
  bd (getf 2 0 μ a0) fun x1 =>
  bd (lda 21 μ x1 a1) fun x2 =>
  if (cmp64 x2 0) < 0 then
    some ((-1), μ)
  else
    if (cmp64 x2 48) < 0 then
      some ((w32 x2), μ)
    else
      some ((-1), μ)
def Ct_prepare_L16 (k44 : Int → Int → Int → Mem → Option (Int × Mem)) : Nat → Int → Int → Int → Int → Int → Mem → Option (Int × Mem)
  | 0, _, _, _, _, _, _ => none
  | n + 1, v0, v1, v2, v3, v4, μ =>
    bd (getf 2 1 μ v2) fun x1 =>
    if v4 < x1 then
      bd (getf 0 3 μ v0) fun x2 =>
      bd (isk 2 μ v2) fun _ =>
      bd2 (Nu_smallAt v2 v4 μ) fun x3 μ4 =>
      bd (sta 20 μ4 x2 v4 x3) fun μ5 =>
      Ct_prepare_L16 k44 n v0 v1 v2 v3 (w32 (v4 + 1)) μ5
    else
      k44 v0 v1 v3 μ
def Ct_prepare_L65 (k93 : Int → Int → Int → Int → Mem → Option (Int × Mem)) : Nat → Int → Int → Int → Int → Int → Mem → Option (Int × Mem)
  | 0, _, _, _, _, _, _ => none
  | n + 1, v0, v1, v3, v4, v5, μ =>
    bd (getf 10 0 μ v1) fun x1 =>
    bd (getf 1 7 μ x1) fun x2 =>
    if v5 < (w32 (2 * x2)) then
      bd (isk 0 μ v0) fun _ =>
      bd2 (Ct_countRounds v0 v5 v4 μ) fun _ μ4 =>
      Ct_prepare_L65 k93 n v0 v1 v3 v4 (w32 (v5 + 1)) μ4
    else
      k93 v0 v1 v3 v4 μ
def Ct_prepare_L96 (k125 : Int → Int → Int → Int → Mem → Option (Int × Mem)) : Nat → Int → Int → Int → Int → Int → Mem → Option (Int × Mem)
  | 0, _, _, _, _, _, _ => none
  | n + 1, v0, v1, v3, v4, v5, μ =>
    bd (getf 10 0 μ v1) fun x1 =>
    bd (getf 1 0 μ x1) fun x2 =>
    if v5 < x2 then
      bd (isk 0 μ v0) fun _ =>
      bd2 (Ct_countRounds v0 (w32 (48 + v5)) v4 μ) fun _ μ4 =>
      Ct_prepare_L96 k125 n v0 v1 v3 v4 (w32 (v5 + 1)) μ4
    else
      k125 v0 v1 v3 v4 μ
def Ct_prepare_L128 (k166 : Int → Int → Int → Int → Mem → Option (Int × Mem)) : Nat → Int → Int → Int → Int → Int → Mem → Option (Int × Mem)
  | 0, _, _, _, _, _, _ => none
  | n + 1, v0, v1, v3, v4, v5, μ =>
    bd (getf 10 0 μ v1) fun x1 =>
    bd (getf 1 7 μ x1) fun x2 =>
    if v5 < (w32 (2 * x2)) then
      bd (getf 10 0 μ v1) fun x3 =>
      bd (isk 1 μ x3) fun _ =>
      bd2 (Kg_endOf x3 v5 μ) fun x4 μ5 =>
      bd (isk 0 μ5 v0) fun _ =>
      bd2 (Ct_sumBeyond v0 v1 v5 x4 v4 μ5) fun _ μ7 =>
      Ct_prepare_L128 k166 n v0 v1 v3 v4 (w32 (v5 + 1)) μ7
    else
      k166 v0 v1 v3 v4 μ
def Ct_prepare_L169 (k201 : Int → Int → Int → Int → Mem → Option (Int × Mem)) : Nat → Int → Int → Int → Int → Int → Mem → Option (Int × Mem)
  | 0, _, _, _, _, _, _ => none
  | n + 1, v0, v1, v3, v4, v5, μ =>
    bd (getf 10 0 μ v1) fun x1 =>
    bd (getf 1 0 μ x1) fun x2 =>
    if v5 < x2 then
      bd (isk 0 μ v0) fun _ =>
      bd2 (Ct_sumBeyond v0 v1 (w32 (48 + v5)) v5 v4 μ) fun _ μ4 =>
      Ct_prepare_L169 k201 n v0 v1 v3 v4 (w32 (v5 + 1)) μ4
    else
      k201 v0 v1 v3 v4 μ
def Ct_prepare_L47  : Nat → Int → Int → Int → Int → Mem → Option (Int × Mem)
  | 0, _, _, _, _, _ => none
  | n + 1, v0, v1, v3, v4, μ =>
    bd (div32 v3 2) fun x1 =>
    if x1 < v4 then
      some (0, μ)
    else
      if v4 < 21 then
        Ct_prepare_L65 (fun x2 x3 x4 x5 μ6 =>
            Ct_prepare_L96 (fun x7 x8 x9 x10 μ11 =>
                Ct_prepare_L128 (fun x12 x13 x14 x15 μ16 =>
                    Ct_prepare_L169 (fun x17 x18 x19 x20 μ21 =>
                        Ct_prepare_L47 n x17 x18 x19 (w32 (x20 + 1)) μ21) FU x12 x13 x14 x15 0 μ16) FU x7 x8 x9 x10 0 μ11) FU x2 x3 x4 x5 0 μ6) FU v0 v1 v3 v4 0 μ
      else
        some (0, μ)
def Ct_prepare (a0 a1 a2 a3 : Int) (μ : Mem) : Option (Int × Mem) :=
  bd (putf 0 6 μ a0 0) fun μ1 =>
  bd (getf 2 1 μ1 a2) fun x2 =>
  bd (putf 0 5 μ1 a0 x2) fun μ3 =>
  Ct_prepare_L16 (fun x4 x5 x6 μ7 =>
      Ct_prepare_L47 FU x4 x5 x6 0 μ7) FU a0 a1 a2 a3 0 μ3
def Ct_countAll (a0 a1 a2 a3 : Int) (μ : Mem) : Option (Int × Mem) :=
  bd (putf 0 7 μ a0 0) fun μ1 =>
  bd (isk 0 μ1 a0) fun _ =>
  bd2 (Ct_prepare a0 a1 a2 a3 μ1) fun _ μ3 =>
  bd (getf 10 0 μ3 a1) fun x4 =>
  bd (getf 1 1 μ3 x4) fun x5 =>
  bd (isk 0 μ3 a0) fun _ =>
  bd2 (Ct_countFrom a0 a1 x5 a3 μ3) fun x6 μ7 =>
  some ((w32 x6), μ7)
def Ct_hold_J37  (v0 v1 : Int) (μ : Mem) : Option (Int × Mem) :=
  bd (getf 0 6 μ v0) fun x1 =>
  if x1 < 40 then
    bd (getf 0 4 μ v0) fun x2 =>
    bd (getf 0 6 μ v0) fun x3 =>
    bd (sta 20 μ x2 x3 v1) fun μ4 =>
    bd (getf 0 6 μ4 v0) fun x5 =>
    bd (putf 0 6 μ4 v0 (w32 (x5 + 1))) fun μ6 =>
    some (0, μ6)
  else
    some (0, μ)
def Ct_hold (a0 a1 : Int) (μ : Mem) : Option (Int × Mem) :=
  bd (getf 0 6 μ a0) fun x1 =>
  if 0 < x1 then
    bd (getf 0 4 μ a0) fun x2 =>
    bd (getf 0 6 μ a0) fun x3 =>
    bd (lda 20 μ x2 (w32 (x3 - 1))) fun x4 =>
    if x4 = (xor32 a1 1) then
      bd (getf 0 6 μ a0) fun x5 =>
      bd (putf 0 6 μ a0 (w32 (x5 - 1))) fun μ6 =>
      some (0, μ6)
    else
      Ct_hold_J37 a0 a1 μ
  else
    Ct_hold_J37 a0 a1 μ
def Kg_across (a0 a1 a2 : Int) (μ : Mem) : Option (Int × Mem) :=
  bd (getf 1 8 μ a0) fun x1 =>
  bd (lda 20 μ x1 a1) fun x2 =>
  if x2 = a2 then
    bd (getf 1 9 μ a0) fun x5 =>
    bd (lda 20 μ x5 a1) fun x6 =>
    some (x6, μ)
  else
    bd (getf 1 8 μ a0) fun x3 =>
    bd (lda 20 μ x3 a1) fun x4 =>
    some (x4, μ)
def Ct_roadOf_L42 (k163 : Int → Int → Int → Int → Int → Int → Int → Int → Mem → Option (Int × Mem)) : Nat → Int → Int → Int → Int → Int → Int → Int → Int → Int → Mem → Option (Int × Mem)
  | 0, _, _, _, _, _, _, _, _, _, _ => none
  | n + 1, v0, v1, v3, v5, v6, v8, v9, v10, v11, μ =>
    bd (getf 10 0 μ v1) fun x1 =>
    bd (getf 1 7 μ x1) fun x2 =>
    if v11 < x2 then
      if v10 = (-1) then
        bd (isk 10 μ v1) fun _ =>
        bd2 (Wo_isOpen v1 v11 μ) fun x3 μ4 =>
        if x3 = 0 then
          Ct_roadOf_L42 k163 n v0 v1 v3 v5 v6 v8 v9 v10 (w32 (v11 + 1)) μ4
        else
          bd (getf 10 0 μ4 v1) fun x5 =>
          bd (isk 1 μ4 x5) fun _ =>
          bd2 (Kg_leadsFrom x5 v11 v8 μ4) fun x6 μ7 =>
          if x6 = 0 then
            Ct_roadOf_L42 k163 n v0 v1 v3 v5 v6 v8 v9 v10 (w32 (v11 + 1)) μ7
          else
            bd (getf 10 0 μ7 v1) fun x8 =>
            bd (isk 1 μ7 x8) fun _ =>
            bd2 (Kg_markOf x8 v11 v8 μ7) fun x9 μ10 =>
            bd (isk 0 μ10 v0) fun _ =>
            bd2 (Ct_hold v0 x9 μ10) fun _ μ12 =>
            bd (getf 10 0 μ12 v1) fun x13 =>
            bd (isk 1 μ12 x13) fun _ =>
            bd2 (Kg_endOf x13 x9 μ12) fun x14 μ15 =>
            bd (isk 0 μ15 v0) fun _ =>
            bd2 (Ct_countFrom v0 v1 x14 (w32 ((w32 (v3 - v9)) - 1)) μ15) fun x16 μ17 =>
            if (cmp64 v6 x16) < 0 then
              Ct_roadOf_L42 k163 n v0 v1 v3 v5 v6 v8 v9 v11 (w32 (v11 + 1)) μ17
            else
              bd (some (w64 (v6 - x16))) fun x18 =>
              bd (isk 0 μ17 v0) fun _ =>
              bd2 (Ct_hold v0 (xor32 x9 1) μ17) fun _ μ20 =>
              Ct_roadOf_L42 k163 n v0 v1 v3 v5 x18 v8 v9 v10 (w32 (v11 + 1)) μ20
      else
        k163 v0 v1 v3 v5 v6 v8 v9 v10 μ
    else
      k163 v0 v1 v3 v5 v6 v8 v9 v10 μ
def Ct_roadOf_J163 (k29 : Int → Int → Int → Int → Int → Int → Int → Mem → Option (Int × Mem)) (v0 v1 v3 v5 v6 v8 v9 v10 : Int) (μ : Mem) : Option (Int × Mem) :=
  if v10 = (-1) then
    some (v10, μ)
  else
    if v9 = v5 then
      some (v10, μ)
    else
      bd (getf 10 0 μ v1) fun x1 =>
      bd (isk 1 μ x1) fun _ =>
      bd2 (Kg_across x1 v10 v8 μ) fun x2 μ3 =>
      k29 v0 v1 v3 v5 v6 x2 (w32 (v9 + 1)) μ3
def Ct_roadOf_L29  : Nat → Int → Int → Int → Int → Int → Int → Int → Mem → Option (Int × Mem)
  | 0, _, _, _, _, _, _, _, _ => none
  | n + 1, v0, v1, v3, v5, v6, v8, v9, μ =>
    if v5 < v9 then
      some ((-1), μ)
    else
      Ct_roadOf_L42 (fun x1 x2 x3 x4 x5 x6 x7 x8 μ9 =>
          Ct_roadOf_J163 (fun u0 u1 u2 u3 u4 u5 u6 μ => Ct_roadOf_L29 n u0 u1 u2 u3 u4 u5 u6 μ) x1 x2 x3 x4 x5 x6 x7 x8 μ9) FU v0 v1 v3 v5 v6 v8 v9 (-1) 0 μ
def Ct_roadOf (a0 a1 a2 a3 a4 a5 : Int) (μ : Mem) : Option (Int × Mem) :=
  bd (putf 0 7 μ a0 1) fun μ1 =>
  bd (isk 0 μ1 a0) fun _ =>
  bd2 (Ct_prepare a0 a1 a2 a3 μ1) fun _ μ3 =>
  bd (getf 10 0 μ3 a1) fun x4 =>
  bd (getf 1 1 μ3 x4) fun x5 =>
  Ct_roadOf_L29 FU a0 a1 a3 a5 a4 x5 0 μ3
def Kg_clear (a0 : Int) (μ : Mem) : Option (Int × Mem) :=
  bd (putf 1 0 μ a0 0) fun μ1 =>
  bd (putf 1 1 μ1 a0 0) fun μ2 =>
  bd (putf 1 2 μ2 a0 360) fun μ3 =>
  bd (putf 1 3 μ3 a0 50) fun μ4 =>
  bd (putf 1 4 μ4 a0 90) fun μ5 =>
  bd (putf 1 5 μ5 a0 269) fun μ6 =>
  bd (putf 1 6 μ6 a0 0) fun μ7 =>
  bd (putf 1 7 μ7 a0 0) fun μ8 =>
  some (0, μ8)
def Kg_init (a0 : Int) (μ : Mem) : Option (Int × Mem) :=
  bd (isk 1 μ a0) fun _ =>
  bd (putf 1 8 (newc 20 24 μ) a0 (nlen μ)) fun μ1 =>
  bd (putf 1 9 (newc 20 24 μ1) a0 (nlen μ1)) fun μ2 =>
  bd (putf 1 10 (newc 20 24 μ2) a0 (nlen μ2)) fun μ3 =>
  bd (putf 1 11 (newc 20 24 μ3) a0 (nlen μ3)) fun μ4 =>
  bd (putf 1 12 (newc 20 24 μ4) a0 (nlen μ4)) fun μ5 =>
  bd (isk 1 μ5 a0) fun _ =>
  bd2 (Kg_clear a0 μ5) fun _ μ7 =>
  some (0, μ7)
def Kg_become (a0 a1 : Int) (μ : Mem) : Option (Int × Mem) :=
  bd (getf 1 0 μ a1) fun x1 =>
  bd (putf 1 0 μ a0 x1) fun μ2 =>
  bd (getf 1 1 μ2 a1) fun x3 =>
  bd (putf 1 1 μ2 a0 x3) fun μ4 =>
  bd (getf 1 2 μ4 a1) fun x5 =>
  bd (putf 1 2 μ4 a0 x5) fun μ6 =>
  bd (getf 1 3 μ6 a1) fun x7 =>
  bd (putf 1 3 μ6 a0 x7) fun μ8 =>
  bd (getf 1 4 μ8 a1) fun x9 =>
  bd (putf 1 4 μ8 a0 x9) fun μ10 =>
  bd (getf 1 5 μ10 a1) fun x11 =>
  bd (putf 1 5 μ10 a0 x11) fun μ12 =>
  bd (getf 1 6 μ12 a1) fun x13 =>
  bd (putf 1 6 μ12 a0 x13) fun μ14 =>
  bd (getf 1 7 μ14 a1) fun x15 =>
  bd (putf 1 7 μ14 a0 x15) fun μ16 =>
  bd (getf 1 8 μ16 a1) fun x17 =>
  bd (getf 1 8 μ16 a0) fun x18 =>
  bd (acopy 20 μ16 x17 0 x18 0 24) fun μ19 =>
  bd (getf 1 9 μ19 a1) fun x20 =>
  bd (getf 1 9 μ19 a0) fun x21 =>
  bd (acopy 20 μ19 x20 0 x21 0 24) fun μ22 =>
  bd (getf 1 10 μ22 a1) fun x23 =>
  bd (getf 1 10 μ22 a0) fun x24 =>
  bd (acopy 20 μ22 x23 0 x24 0 24) fun μ25 =>
  bd (getf 1 11 μ25 a1) fun x26 =>
  bd (getf 1 11 μ25 a0) fun x27 =>
  bd (acopy 20 μ25 x26 0 x27 0 24) fun μ28 =>
  bd (getf 1 12 μ28 a1) fun x29 =>
  bd (getf 1 12 μ28 a0) fun x30 =>
  bd (acopy 20 μ28 x29 0 x30 0 24) fun μ31 =>
  some (0, μ31)
def Kg_hasTown (a0 a1 : Int) (μ : Mem) : Option (Int × Mem) :=
  if a1 < 0 then
    some (0, μ)
  else
    bd (getf 1 0 μ a0) fun x1 =>
    if a1 < x1 then
      some (1, μ)
    else
      some (0, μ)
def Kg_hasTowns (a0 a1 : Int) (μ : Mem) : Option (Int × Mem) :=
  if a1 < 0 then
    some (0, μ)
  else
    bd (getf 1 0 μ a0) fun x1 =>
    if (shr32 a1 x1) = 0 then
      some (1, μ)
    else
      some (0, μ)
def Kg_hasRoad (a0 a1 : Int) (μ : Mem) : Option (Int × Mem) :=
  if a1 < 0 then
    some (0, μ)
  else
    bd (getf 1 7 μ a0) fun x1 =>
    if a1 < x1 then
      some (1, μ)
    else
      some (0, μ)
def J_floorMod (a0 a1 : Int) (μ : Mem) : Option (Int × Mem) :=
  bd (rem32 a0 a1) fun x1 =>
  if (xor32 a0 a1) < 0 then
    if x1 = 0 then
      some (x1, μ)
    else
      some ((w32 (x1 + a1)), μ)
  else
    some (x1, μ)
def Kg_isSummer (a0 a1 : Int) (μ : Mem) : Option (Int × Mem) :=
  bd2 (J_floorMod a1 360 μ) fun x1 μ2 =>
  bd (getf 1 4 μ2 a0) fun x3 =>
  if x1 < x3 then
    some (0, μ2)
  else
    bd (getf 1 5 μ2 a0) fun x4 =>
    if x4 < x1 then
      some (0, μ2)
    else
      some (1, μ2)
def Kg_tollOn (a0 a1 a2 : Int) (μ : Mem) : Option (Int × Mem) :=
  bd (isk 1 μ a0) fun _ =>
  bd2 (Kg_isSummer a0 a2 μ) fun x1 μ2 =>
  if x1 = 0 then
    bd (getf 1 10 μ2 a0) fun x3 =>
    bd (lda 20 μ2 x3 a1) fun x4 =>
    some (x4, μ2)
  else
    bd (getf 1 11 μ2 a0) fun x5 =>
    bd (lda 20 μ2 x5 a1) fun x6 =>
    some (x6, μ2)
def Kg_isLate (a0 a1 a2 a3 : Int) (μ : Mem) : Option (Int × Mem) :=
  bd (getf 6 7 μ a1) fun x1 =>
  bd (lda 20 μ x1 a2) fun x2 =>
  bd (getf 1 2 μ a0) fun x3 =>
  if x3 < (w32 (a3 - x2)) then
    some (1, μ)
  else
    some (0, μ)
def Kg_worthOn (a0 a1 a2 a3 : Int) (μ : Mem) : Option (Int × Mem) :=
  bd (isk 1 μ a0) fun _ =>
  bd2 (Kg_isLate a0 a1 a2 a3 μ) fun x1 μ2 =>
  if x1 = 0 then
    bd (getf 6 8 μ2 a1) fun x3 =>
    bd (lda 20 μ2 x3 a2) fun x4 =>
    some (x4, μ2)
  else
    bd (getf 6 8 μ2 a1) fun x5 =>
    bd (lda 20 μ2 x5 a2) fun x6 =>
    bd (getf 1 3 μ2 a0) fun x7 =>
    bd (div32 (w32 (x6 * x7)) 100) fun x8 =>
    some (x8, μ2)
def Nu_init (a0 : Int) (μ : Mem) : Option (Int × Mem) :=
  bd (isk 2 μ a0) fun _ =>
  bd (putf 2 0 (newc 21 40 μ) a0 (nlen μ)) fun μ1 =>
  bd (putf 2 2 μ1 a0 1) fun μ2 =>
  some (0, μ2)
def J_fillJ_L6  : Nat → Int → Int → Int → Int → Mem → Option (Int × Mem)
  | 0, _, _, _, _, _ => none
  | n + 1, v0, v1, v3, v4, μ =>
    if v3 < v4 then
      bd (sta 21 μ v0 v3 v1) fun μ1 =>
      J_fillJ_L6 n v0 v1 (w32 (v3 + 1)) v4 μ1
    else
      some (0, μ)
def J_fillJ (a0 a1 : Int) (μ : Mem) : Option (Int × Mem) :=
  bd (alen 21 μ a0) fun x1 =>
  J_fillJ_L6 FU a0 a1 0 x1 μ
def Nu_renew (a0 a1 a2 : Int) (μ : Mem) : Option (Int × Mem) :=
  bd (putf 2 2 μ a0 0) fun μ1 =>
  bd (putf 2 3 μ1 a0 a1) fun μ2 =>
  bd (putf 2 1 μ2 a0 a2) fun μ3 =>
  bd (getf 2 0 μ3 a0) fun x4 =>
  bd2 (J_fillJ x4 0 μ3) fun _ μ6 =>
  some (0, μ6)
def Nu_put (a0 a1 a2 : Int) (μ : Mem) : Option (Int × Mem) :=
  bd (getf 2 3 μ a0) fun x1 =>
  if x1 = 0 then
    bd (getf 2 0 μ a0) fun x2 =>
    bd (sta 21 μ x2 a1 (w8 (w32 a2))) fun μ3 =>
    some (0, μ3)
  else
    if x1 = 1 then
    bd (getf 2 0 μ a0) fun x4 =>
    bd (sta 21 μ x4 a1 (w16 (w32 a2))) fun μ5 =>
    some (0, μ5)
  else
    if x1 = 2 then
    bd (getf 2 0 μ a0) fun x6 =>
    bd (sta 21 μ x6 a1 (w32 a2)) fun μ7 =>
    some (0, μ7)
  else
    bd (getf 2 0 μ a0) fun x8 =>
  bd (sta 21 μ x8 a1 a2) fun μ9 =>
  some (0, μ9)
def Rd_init (a0 : Int) (μ : Mem) : Option (Int × Mem) :=
  bd (isk 3 μ a0) fun _ =>
  bd2 (Kg_init (nlen μ) (newc 1 13 μ)) fun _ μ2 =>
  bd (putf 3 0 μ2 a0 (nlen μ)) fun μ3 =>
  bd (putf 3 3 (newc 22 0 μ3) a0 (nlen μ3)) fun μ4 =>
  some (0, μ4)
def J_min (a0 a1 : Int) (μ : Mem) : Option (Int × Mem) :=
  if a1 < a0 then
    some (a1, μ)
  else
    some (a0, μ)
def Rd_blame (a0 a1 : Int) (μ : Mem) : Option (Int × Mem) :=
  bd (getf 3 1 μ a0) fun x1 =>
  if x1 = 0 then
    bd (putf 3 1 μ a0 a1) fun μ2 =>
    bd (getf 3 5 μ2 a0) fun x3 =>
    bd (putf 3 2 μ2 a0 x3) fun μ4 =>
    some (0, μ4)
  else
    some (0, μ)
def Rd_isBlank (a0 : Int) (μ : Mem) : Option (Int × Mem) :=
  if a0 = 10 then
    some (1, μ)
  else
    if a0 = 32 then
      some (1, μ)
    else
      some (0, μ)
def Rd_isDigit (a0 : Int) (μ : Mem) : Option (Int × Mem) :=
  if a0 < 48 then
    some (0, μ)
  else
    if 57 < a0 then
      some (0, μ)
    else
      some (1, μ)
def Rd_isLetter (a0 : Int) (μ : Mem) : Option (Int × Mem) :=
  if a0 < 97 then
    some (0, μ)
  else
    if 122 < a0 then
      some (0, μ)
    else
      some (1, μ)
def Rd_readNumber_L10 (k73 : Int → Mem → Option (Int × Mem)) : Nat → Int → Mem → Option (Int × Mem)
  | 0, _, _ => none
  | n + 1, v0, μ =>
    bd (getf 3 6 μ v0) fun x1 =>
    bd (getf 3 4 μ v0) fun x2 =>
    if x1 < x2 then
      bd (getf 3 3 μ v0) fun x3 =>
      bd (getf 3 6 μ v0) fun x4 =>
      bd (lda 22 μ x3 x4) fun x5 =>
      bd2 (Rd_isDigit x5 μ) fun x6 μ7 =>
      if x6 = 0 then
        k73 v0 μ7
      else
        bd (getf 3 8 μ7 v0) fun x8 =>
        bd (getf 3 3 μ7 v0) fun x9 =>
        bd (getf 3 6 μ7 v0) fun x10 =>
        bd (lda 22 μ7 x9 x10) fun x11 =>
        bd (putf 3 8 μ7 v0 (w32 ((w32 ((w32 (10 * x8)) + x11)) - 48))) fun μ12 =>
        bd (getf 3 6 μ12 v0) fun x13 =>
        bd (putf 3 6 μ12 v0 (w32 (x13 + 1))) fun μ14 =>
        Rd_readNumber_L10 k73 n v0 μ14
    else
      k73 v0 μ
def Rd_readNumber_J73  (v0 : Int) (μ : Mem) : Option (Int × Mem) :=
  bd (getf 3 6 μ v0) fun x1 =>
  bd (getf 3 5 μ v0) fun x2 =>
  if 3 < (w32 (x1 - x2)) then
    bd (isk 3 μ v0) fun _ =>
    bd2 (Rd_blame v0 1 μ) fun _ μ4 =>
    some (0, μ4)
  else
    some (0, μ)
def Rd_readNumber (a0 : Int) (μ : Mem) : Option (Int × Mem) :=
  bd (putf 3 7 μ a0 2) fun μ1 =>
  bd (putf 3 8 μ1 a0 0) fun μ2 =>
  Rd_readNumber_L10 (fun x3 μ4 =>
      Rd_readNumber_J73 x3 μ4) FU a0 μ2
def Rd_readWord_L5  : Nat → Int → Mem → Option (Int × Mem)
  | 0, _, _ => none
  | n + 1, v0, μ =>
    bd (getf 3 6 μ v0) fun x1 =>
    bd (getf 3 4 μ v0) fun x2 =>
    if x1 < x2 then
      bd (getf 3 3 μ v0) fun x3 =>
      bd (getf 3 6 μ v0) fun x4 =>
      bd (lda 22 μ x3 x4) fun x5 =>
      bd2 (Rd_isLetter x5 μ) fun x6 μ7 =>
      if x6 = 0 then
        some (0, μ7)
      else
        bd (getf 3 6 μ7 v0) fun x8 =>
        bd (putf 3 6 μ7 v0 (w32 (x8 + 1))) fun μ9 =>
        Rd_readWord_L5 n v0 μ9
    else
      some (0, μ)
def Rd_readWord (a0 : Int) (μ : Mem) : Option (Int × Mem) :=
  bd (putf 3 7 μ a0 1) fun μ1 =>
  Rd_readWord_L5 FU a0 μ1
def Rd_advance_J39  (v0 : Int) (μ : Mem) : Option (Int × Mem) :=
  bd (getf 3 6 μ v0) fun x1 =>
  bd (putf 3 5 μ v0 x1) fun μ2 =>
  bd (getf 3 6 μ2 v0) fun x3 =>
  bd (getf 3 4 μ2 v0) fun x4 =>
  if x3 < x4 then
    bd (getf 3 3 μ2 v0) fun x5 =>
    bd (getf 3 6 μ2 v0) fun x6 =>
    bd (lda 22 μ2 x5 x6) fun x7 =>
    bd2 (Rd_isLetter x7 μ2) fun x8 μ9 =>
    if x8 = 0 then
      bd (getf 3 3 μ9 v0) fun x10 =>
      bd (getf 3 6 μ9 v0) fun x11 =>
      bd (lda 22 μ9 x10 x11) fun x12 =>
      bd2 (Rd_isDigit x12 μ9) fun x13 μ14 =>
      if x13 = 0 then
        bd (getf 3 3 μ14 v0) fun x15 =>
        bd (getf 3 6 μ14 v0) fun x16 =>
        bd (lda 22 μ14 x15 x16) fun x17 =>
        if x17 = 59 then
          bd (putf 3 7 μ14 v0 3) fun μ22 =>
          bd (getf 3 6 μ22 v0) fun x23 =>
          bd (putf 3 6 μ22 v0 (w32 (x23 + 1))) fun μ24 =>
          some (0, μ24)
        else
          bd (isk 3 μ14 v0) fun _ =>
          bd2 (Rd_blame v0 1 μ14) fun _ μ19 =>
          bd (getf 3 6 μ19 v0) fun x20 =>
          bd (putf 3 6 μ19 v0 (w32 (x20 + 1))) fun μ21 =>
          some (0, μ21)
      else
        bd (isk 3 μ14 v0) fun _ =>
        bd2 (Rd_readNumber v0 μ14) fun _ μ26 =>
        some (0, μ26)
    else
      bd (isk 3 μ9 v0) fun _ =>
      bd2 (Rd_readWord v0 μ9) fun _ μ28 =>
      some (0, μ28)
  else
    bd (putf 3 7 μ2 v0 0) fun μ29 =>
    some (0, μ29)
def Rd_advance_L0 (k39 : Int → Mem → Option (Int × Mem)) : Nat → Int → Mem → Option (Int × Mem)
  | 0, _, _ => none
  | n + 1, v0, μ =>
    bd (getf 3 6 μ v0) fun x1 =>
    bd (getf 3 4 μ v0) fun x2 =>
    if x1 < x2 then
      bd (getf 3 3 μ v0) fun x3 =>
      bd (getf 3 6 μ v0) fun x4 =>
      bd (lda 22 μ x3 x4) fun x5 =>
      bd2 (Rd_isBlank x5 μ) fun x6 μ7 =>
      if x6 = 0 then
        k39 v0 μ7
      else
        bd (getf 3 6 μ7 v0) fun x8 =>
        bd (putf 3 6 μ7 v0 (w32 (x8 + 1))) fun μ9 =>
        Rd_advance_L0 k39 n v0 μ9
    else
      k39 v0 μ
def Rd_advance (a0 : Int) (μ : Mem) : Option (Int × Mem) :=
  bd (getf 3 6 μ a0) fun x1 =>
  bd (getf 3 4 μ a0) fun x2 =>
  if x1 < x2 then
    bd (getf 3 3 μ a0) fun x3 =>
    bd (getf 3 6 μ a0) fun x4 =>
    bd (lda 22 μ x3 x4) fun x5 =>
    bd2 (Rd_isBlank x5 μ) fun x6 μ7 =>
    if x6 = 0 then
      Rd_advance_J39 a0 μ7
    else
      bd (getf 3 6 μ7 a0) fun x8 =>
      bd (putf 3 6 μ7 a0 (w32 (x8 + 1))) fun μ9 =>
      Rd_advance_L0 (fun x10 μ11 =>
          Rd_advance_J39 x10 μ11) FU a0 μ9
  else
    Rd_advance_J39 a0 μ
def Rd_expectSign (a0 : Int) (μ : Mem) : Option (Int × Mem) :=
  bd (isk 3 μ a0) fun _ =>
  bd2 (Rd_advance a0 μ) fun _ μ2 =>
  bd (getf 3 7 μ2 a0) fun x3 =>
  if x3 = 3 then
    some (0, μ2)
  else
    bd (isk 3 μ2 a0) fun _ =>
    bd2 (Rd_blame a0 2 μ2) fun _ μ5 =>
    some (0, μ5)
def Rd_expectNumber_J36  (v0 : Int) (μ : Mem) : Option (Int × Mem) :=
  bd (isk 3 μ v0) fun _ =>
  bd2 (Rd_blame v0 3 μ) fun _ μ2 =>
  bd (getf 3 8 μ2 v0) fun x3 =>
  some (x3, μ2)
def Rd_expectNumber (a0 a1 a2 : Int) (μ : Mem) : Option (Int × Mem) :=
  bd (isk 3 μ a0) fun _ =>
  bd2 (Rd_advance a0 μ) fun _ μ2 =>
  bd (getf 3 7 μ2 a0) fun x3 =>
  if x3 = 2 then
    bd (getf 3 8 μ2 a0) fun x4 =>
    if x4 < a1 then
      Rd_expectNumber_J36 a0 μ2
    else
      bd (getf 3 8 μ2 a0) fun x5 =>
      if a2 < x5 then
        Rd_expectNumber_J36 a0 μ2
      else
        bd (getf 3 8 μ2 a0) fun x6 =>
        some (x6, μ2)
  else
    bd (isk 3 μ2 a0) fun _ =>
    bd2 (Rd_blame a0 2 μ2) fun _ μ8 =>
    bd (getf 3 8 μ8 a0) fun x9 =>
    some (x9, μ8)
def Rd_isWord_L28  : Nat → Int → Int → Int → Mem → Option (Int × Mem)
  | 0, _, _, _, _ => none
  | n + 1, v0, v1, v2, μ =>
    bd2 (J_len v1 μ) fun x1 μ2 =>
    if v2 < x1 then
      bd (getf 3 3 μ2 v0) fun x3 =>
      bd (getf 3 5 μ2 v0) fun x4 =>
      bd (lda 22 μ2 x3 (w32 (x4 + v2))) fun x5 =>
      bd2 (J_chr v1 v2 μ2) fun x6 μ7 =>
      if x5 = x6 then
        Rd_isWord_L28 n v0 v1 (w32 (v2 + 1)) μ7
      else
        some (0, μ7)
    else
      some (1, μ2)
def Rd_isWord (a0 a1 : Int) (μ : Mem) : Option (Int × Mem) :=
  bd (getf 3 7 μ a0) fun x1 =>
  if x1 = 1 then
    bd (getf 3 6 μ a0) fun x2 =>
    bd (getf 3 5 μ a0) fun x3 =>
    bd2 (J_len a1 μ) fun x4 μ5 =>
    if (w32 (x2 - x3)) = x4 then
      Rd_isWord_L28 FU a0 a1 0 μ5
    else
      some (0, μ5)
  else
    some (0, μ)
def Rd_expectWord (a0 a1 : Int) (μ : Mem) : Option (Int × Mem) :=
  bd (isk 3 μ a0) fun _ =>
  bd2 (Rd_advance a0 μ) fun _ μ2 =>
  bd (isk 3 μ2 a0) fun _ =>
  bd2 (Rd_isWord a0 a1 μ2) fun x3 μ4 =>
  if x3 = 0 then
    bd (isk 3 μ4 a0) fun _ =>
    bd2 (Rd_blame a0 2 μ4) fun _ μ6 =>
    some (0, μ6)
  else
    some (0, μ4)
def Rd_readHome (a0 : Int) (μ : Mem) : Option (Int × Mem) :=
  bd (getf 3 0 μ a0) fun x1 =>
  bd (getf 1 0 μ x1) fun x2 =>
  bd (
      if x2 = 0 then
        bd (isk 3 μ a0) fun _ =>
        bd2 (Rd_blame a0 2 μ) fun _ μ5 =>
        some μ5
      else
        some μ) fun (μ3 : Mem) =>
  bd (getf 3 0 μ3 a0) fun x6 =>
  bd (getf 3 0 μ3 a0) fun x7 =>
  bd (getf 1 0 μ3 x7) fun x8 =>
  bd (isk 3 μ3 a0) fun _ =>
  bd2 (Rd_expectNumber a0 0 (w32 (x8 - 1)) μ3) fun x9 μ10 =>
  bd (putf 1 1 μ10 x6 x9) fun μ11 =>
  some (0, μ11)
def Rd_addRoad (a0 a1 a2 a3 a4 a5 : Int) (μ : Mem) : Option (Int × Mem) :=
  bd (getf 3 0 μ a0) fun x1 =>
  bd (getf 1 7 μ x1) fun x2 =>
  if x2 < 24 then
    bd (getf 3 0 μ a0) fun x3 =>
    bd (getf 1 8 μ x3) fun x4 =>
    bd (sta 20 μ x4 x2 a1) fun μ5 =>
    bd (getf 3 0 μ5 a0) fun x6 =>
    bd (getf 1 9 μ5 x6) fun x7 =>
    bd (sta 20 μ5 x7 x2 a2) fun μ8 =>
    bd (getf 3 0 μ8 a0) fun x9 =>
    bd (getf 1 10 μ8 x9) fun x10 =>
    bd (sta 20 μ8 x10 x2 a3) fun μ11 =>
    bd (getf 3 0 μ11 a0) fun x12 =>
    bd (getf 1 11 μ11 x12) fun x13 =>
    bd (sta 20 μ11 x13 x2 a4) fun μ14 =>
    bd (getf 3 0 μ14 a0) fun x15 =>
    bd (getf 1 12 μ14 x15) fun x16 =>
    bd (sta 20 μ14 x16 x2 a5) fun μ17 =>
    bd (getf 3 0 μ17 a0) fun x18 =>
    bd (getf 1 7 μ17 x18) fun x19 =>
    bd (putf 1 7 μ17 x18 (w32 (x19 + 1))) fun μ20 =>
    some (0, μ20)
  else
    some (0, μ)
def Rd_readRoad (a0 : Int) (μ : Mem) : Option (Int × Mem) :=
  bd (getf 3 0 μ a0) fun x1 =>
  bd (getf 1 0 μ x1) fun x2 =>
  bd (
      if x2 = 0 then
        bd (isk 3 μ a0) fun _ =>
        bd2 (Rd_blame a0 2 μ) fun _ μ5 =>
        some μ5
      else
        some μ) fun (μ3 : Mem) =>
  bd (getf 3 0 μ3 a0) fun x6 =>
  bd (getf 1 7 μ3 x6) fun x7 =>
  bd (
      if x7 < 24 then
        some μ3
      else
        bd (isk 3 μ3 a0) fun _ =>
        bd2 (Rd_blame a0 4 μ3) fun _ μ10 =>
        some μ10) fun (μ8 : Mem) =>
  bd (getf 3 0 μ8 a0) fun x11 =>
  bd (getf 1 0 μ8 x11) fun x12 =>
  bd (isk 3 μ8 a0) fun _ =>
  bd2 (Rd_expectNumber a0 0 (w32 (x12 - 1)) μ8) fun x13 μ14 =>
  bd (isk 3 μ14 a0) fun _ =>
  bd2 (Rd_expectWord a0 (-2 - ((5 : Nat) : Int)) μ14) fun _ μ16 =>
  bd (getf 3 0 μ16 a0) fun x17 =>
  bd (getf 1 0 μ16 x17) fun x18 =>
  bd (isk 3 μ16 a0) fun _ =>
  bd2 (Rd_expectNumber a0 0 (w32 (x18 - 1)) μ16) fun x19 μ20 =>
  bd (
      if x19 = x13 then
        bd (isk 3 μ20 a0) fun _ =>
        bd2 (Rd_blame a0 3 μ20) fun _ μ23 =>
        some μ23
      else
        some μ20) fun (μ21 : Mem) =>
  bd (isk 3 μ21 a0) fun _ =>
  bd2 (Rd_expectWord a0 (-2 - ((7 : Nat) : Int)) μ21) fun _ μ25 =>
  bd (isk 3 μ25 a0) fun _ =>
  bd2 (Rd_expectNumber a0 0 999 μ25) fun x26 μ27 =>
  bd (isk 3 μ27 a0) fun _ =>
  bd2 (Rd_advance a0 μ27) fun _ μ29 =>
  bd (isk 3 μ29 a0) fun _ =>
  bd2 (Rd_isWord a0 (-2 - ((4 : Nat) : Int)) μ29) fun x30 μ31 =>
  bd2 (
      if x30 = 0 then
        some (x26, μ31)
      else
        bd (isk 3 μ31 a0) fun _ =>
        bd2 (Rd_expectNumber a0 0 999 μ31) fun x34 μ35 =>
        bd (isk 3 μ35 a0) fun _ =>
        bd2 (Rd_advance a0 μ35) fun _ μ37 =>
        some (x34, μ37)) fun (y32 : Int) (μ33 : Mem) =>
  bd (isk 3 μ33 a0) fun _ =>
  bd2 (Rd_isWord a0 (-2 - ((8 : Nat) : Int)) μ33) fun x38 μ39 =>
  bd (
      if x38 = 0 then
        bd (isk 3 μ39 a0) fun _ =>
        bd2 (Rd_blame a0 2 μ39) fun _ μ42 =>
        some μ42
      else
        some μ39) fun (μ40 : Mem) =>
  bd (isk 3 μ40 a0) fun _ =>
  bd2 (Rd_expectNumber a0 1 90 μ40) fun x43 μ44 =>
  bd (getf 3 1 μ44 a0) fun x45 =>
  if x45 = 0 then
    bd (isk 3 μ44 a0) fun _ =>
    bd2 (Rd_addRoad a0 x13 x19 x26 y32 x43 μ44) fun _ μ47 =>
    some (0, μ47)
  else
    some (0, μ44)
def Rd_readTowns (a0 : Int) (μ : Mem) : Option (Int × Mem) :=
  bd (getf 3 0 μ a0) fun x1 =>
  bd (getf 1 0 μ x1) fun x2 =>
  bd (
      if x2 = 0 then
        some μ
      else
        bd (isk 3 μ a0) fun _ =>
        bd2 (Rd_blame a0 4 μ) fun _ μ5 =>
        some μ5) fun (μ3 : Mem) =>
  bd (getf 3 0 μ3 a0) fun x6 =>
  bd (isk 3 μ3 a0) fun _ =>
  bd2 (Rd_expectNumber a0 2 12 μ3) fun x7 μ8 =>
  bd (putf 1 0 μ8 x6 x7) fun μ9 =>
  some (0, μ9)
def Rd_readLine (a0 : Int) (μ : Mem) : Option (Int × Mem) :=
  bd (isk 3 μ a0) fun _ =>
  bd2 (Rd_isWord a0 (-2 - ((0 : Nat) : Int)) μ) fun x1 μ2 =>
  if x1 = 0 then
    bd (isk 3 μ2 a0) fun _ =>
    bd2 (Rd_isWord a0 (-2 - ((1 : Nat) : Int)) μ2) fun x3 μ4 =>
    if x3 = 0 then
      bd (isk 3 μ4 a0) fun _ =>
      bd2 (Rd_isWord a0 (-2 - ((2 : Nat) : Int)) μ4) fun x5 μ6 =>
      if x5 = 0 then
        bd (isk 3 μ6 a0) fun _ =>
        bd2 (Rd_isWord a0 (-2 - ((3 : Nat) : Int)) μ6) fun x7 μ8 =>
        if x7 = 0 then
          bd (isk 3 μ8 a0) fun _ =>
          bd2 (Rd_isWord a0 (-2 - ((4 : Nat) : Int)) μ8) fun x9 μ10 =>
          if x9 = 0 then
            bd (isk 3 μ10 a0) fun _ =>
            bd2 (Rd_isWord a0 (-2 - ((6 : Nat) : Int)) μ10) fun x11 μ12 =>
            if x11 = 0 then
              bd (isk 3 μ12 a0) fun _ =>
              bd2 (Rd_blame a0 2 μ12) fun _ μ14 =>
              some (0, μ14)
            else
              bd (isk 3 μ12 a0) fun _ =>
              bd2 (Rd_readRoad a0 μ12) fun _ μ16 =>
              some (0, μ16)
          else
            bd (getf 3 0 μ10 a0) fun x17 =>
            bd (isk 3 μ10 a0) fun _ =>
            bd2 (Rd_expectNumber a0 0 359 μ10) fun x18 μ19 =>
            bd (putf 1 4 μ19 x17 x18) fun μ20 =>
            bd (isk 3 μ20 a0) fun _ =>
            bd2 (Rd_expectWord a0 (-2 - ((5 : Nat) : Int)) μ20) fun _ μ22 =>
            bd (getf 3 0 μ22 a0) fun x23 =>
            bd (getf 3 0 μ22 a0) fun x24 =>
            bd (getf 1 4 μ22 x24) fun x25 =>
            bd (isk 3 μ22 a0) fun _ =>
            bd2 (Rd_expectNumber a0 x25 359 μ22) fun x26 μ27 =>
            bd (putf 1 5 μ27 x23 x26) fun μ28 =>
            some (0, μ28)
        else
          bd (getf 3 0 μ8 a0) fun x29 =>
          bd (isk 3 μ8 a0) fun _ =>
          bd2 (Rd_expectNumber a0 0 100 μ8) fun x30 μ31 =>
          bd (putf 1 3 μ31 x29 x30) fun μ32 =>
          some (0, μ32)
      else
        bd (getf 3 0 μ6 a0) fun x33 =>
        bd (isk 3 μ6 a0) fun _ =>
        bd2 (Rd_expectNumber a0 1 360 μ6) fun x34 μ35 =>
        bd (putf 1 2 μ35 x33 x34) fun μ36 =>
        some (0, μ36)
    else
      bd (isk 3 μ4 a0) fun _ =>
      bd2 (Rd_readHome a0 μ4) fun _ μ38 =>
      some (0, μ38)
  else
    bd (isk 3 μ2 a0) fun _ =>
    bd2 (Rd_readTowns a0 μ2) fun _ μ40 =>
    some (0, μ40)
def Rd_read_L39  : Nat → Int → Int → Mem → Option (Int × Mem)
  | 0, _, _, _ => none
  | n + 1, v0, v3, μ =>
    bd (getf 3 4 μ v0) fun x1 =>
    if x1 < v3 then
      some (0, μ)
    else
      bd (isk 3 μ v0) fun _ =>
      bd2 (Rd_advance v0 μ) fun _ μ3 =>
      bd (getf 3 1 μ3 v0) fun x4 =>
      if x4 = 0 then
        bd (getf 3 7 μ3 v0) fun x5 =>
        if x5 = 0 then
          some (0, μ3)
        else
          bd (isk 3 μ3 v0) fun _ =>
          bd2 (Rd_readLine v0 μ3) fun _ μ7 =>
          bd (isk 3 μ7 v0) fun _ =>
          bd2 (Rd_expectSign v0 μ7) fun _ μ9 =>
          bd (getf 3 0 μ9 v0) fun x10 =>
          bd (getf 1 6 μ9 x10) fun x11 =>
          bd (putf 1 6 μ9 x10 (w32 (x11 + 1))) fun μ12 =>
          Rd_read_L39 n v0 (w32 (v3 + 1)) μ12
      else
        some (0, μ3)
def Rd_read (a0 a1 a2 : Int) (μ : Mem) : Option (Int × Mem) :=
  bd (putf 3 3 μ a0 a1) fun μ1 =>
  bd (alen 22 μ1 a1) fun x2 =>
  bd2 (J_min a2 x2 μ1) fun x3 μ4 =>
  bd (putf 3 4 μ4 a0 x3) fun μ5 =>
  bd (putf 3 6 μ5 a0 0) fun μ6 =>
  bd (putf 3 1 μ6 a0 0) fun μ7 =>
  bd (putf 3 2 μ7 a0 (-1)) fun μ8 =>
  bd (getf 3 0 μ8 a0) fun x9 =>
  bd (isk 1 μ8 x9) fun _ =>
  bd2 (Kg_clear x9 μ8) fun _ μ11 =>
  Rd_read_L39 FU a0 0 μ11
def Re_init (a0 : Int) (μ : Mem) : Option (Int × Mem) :=
  bd (isk 4 μ a0) fun _ =>
  some (0, μ)
def Re_follow_L40  : Nat → Int → Int → Int → Int → Int → Int → Mem → Option (Int × Mem)
  | 0, _, _, _, _, _, _, _ => none
  | n + 1, v0, v1, v2, v3, v4, v5, μ =>
    if v5 < 0 then
      some (1, μ)
    else
      bd (getf 6 6 μ v2) fun x1 =>
      bd (lda 20 μ x1 v5) fun x2 =>
      bd (isk 10 μ v1) fun _ =>
      bd2 (Wo_isOpen v1 (shr32 x2 1) μ) fun x3 μ4 =>
      if x3 = 0 then
        some (0, μ4)
      else
        bd (getf 6 6 μ4 v2) fun x5 =>
        bd (lda 20 μ4 x5 v5) fun x6 =>
        bd (isk 1 μ4 v3) fun _ =>
        bd2 (Kg_endOf v3 x6 μ4) fun x7 μ8 =>
        if x7 = v4 then
          bd (getf 4 0 μ8 v0) fun x9 =>
          bd (getf 6 1 μ8 v2) fun x10 =>
          bd (getf 4 1 μ8 v0) fun x11 =>
          bd (isk 1 μ8 v3) fun _ =>
          bd2 (Kg_worthOn v3 v2 v5 (w32 (x10 + x11)) μ8) fun x12 μ13 =>
          bd (putf 4 0 μ13 v0 (w32 (x9 + x12))) fun μ14 =>
          bd (getf 4 2 μ14 v0) fun x15 =>
          bd (getf 6 1 μ14 v2) fun x16 =>
          bd (getf 4 1 μ14 v0) fun x17 =>
          bd (isk 1 μ14 v3) fun _ =>
          bd2 (Kg_isLate v3 v2 v5 (w32 (x16 + x17)) μ14) fun x18 μ19 =>
          bd (
              if x18 = 0 then
                some 0
              else
                some 1) fun (y20 : Int) =>
          bd (putf 4 2 μ19 v0 (w32 (x15 + y20))) fun μ21 =>
          bd (getf 4 3 μ21 v0) fun x22 =>
          bd (getf 6 7 μ21 v2) fun x23 =>
          bd (lda 20 μ21 x23 v5) fun x24 =>
          bd (getf 1 2 μ21 v3) fun x25 =>
          bd (getf 4 1 μ21 v0) fun x26 =>
          bd2 (J_min x22 (w32 ((w32 (x24 + x25)) - x26)) μ21) fun x27 μ28 =>
          bd (putf 4 3 μ28 v0 x27) fun μ29 =>
          bd (getf 4 1 μ29 v0) fun x30 =>
          bd (getf 1 12 μ29 v3) fun x31 =>
          bd (getf 6 6 μ29 v2) fun x32 =>
          bd (lda 20 μ29 x32 v5) fun x33 =>
          bd (lda 20 μ29 x31 (shr32 x33 1)) fun x34 =>
          bd (putf 4 1 μ29 v0 (w32 (x30 + x34))) fun μ35 =>
          bd (getf 6 6 μ35 v2) fun x36 =>
          bd (lda 20 μ35 x36 v5) fun x37 =>
          bd (isk 1 μ35 v3) fun _ =>
          bd2 (Kg_startOf v3 x37 μ35) fun x38 μ39 =>
          Re_follow_L40 n v0 v1 v2 v3 x38 (w32 (v5 + (-1))) μ39
        else
          some (0, μ8)
def Re_follow (a0 a1 a2 : Int) (μ : Mem) : Option (Int × Mem) :=
  bd (getf 10 0 μ a1) fun x1 =>
  bd (getf 6 0 μ a2) fun x2 =>
  bd (putf 4 0 μ a0 0) fun μ3 =>
  bd (putf 4 1 μ3 a0 0) fun μ4 =>
  bd (putf 4 2 μ4 a0 0) fun μ5 =>
  bd (putf 4 3 μ5 a0 2147483647) fun μ6 =>
  bd (getf 6 5 μ6 a2) fun x7 =>
  bd (some (w32 (x7 - 1))) fun x8 =>
  Re_follow_L40 FU a0 a1 a2 x1 x2 x8 μ6
def Tr_init (a0 : Int) (μ : Mem) : Option (Int × Mem) :=
  bd (isk 6 μ a0) fun _ =>
  bd (putf 6 6 (newc 20 40 μ) a0 (nlen μ)) fun μ1 =>
  bd (putf 6 7 (newc 20 40 μ1) a0 (nlen μ1)) fun μ2 =>
  bd (putf 6 8 (newc 20 40 μ2) a0 (nlen μ2)) fun μ3 =>
  some (0, μ3)
def To_init (a0 : Int) (μ : Mem) : Option (Int × Mem) :=
  bd (isk 5 μ a0) fun _ =>
  bd (putf 5 3 (newc 20 8 μ) a0 (nlen μ)) fun μ1 =>
  bd (putf 5 4 (newc 20 8 μ1) a0 (nlen μ1)) fun μ2 =>
  bd (putf 5 5 (newc 20 12 μ2) a0 (nlen μ2)) fun μ3 =>
  bd (putf 5 6 (mnaI 8 7 μ3) a0 (nlen μ3)) fun μ4 =>
  bd2 (Tr_init (nlen μ4) (newc 6 9 μ4)) fun _ μ6 =>
  bd (putf 5 7 μ6 a0 (nlen μ4)) fun μ7 =>
  some (0, μ7)
def Wo_openRoadsAt_L4  : Nat → Int → Int → Int → Int → Mem → Option (Int × Mem)
  | 0, _, _, _, _, _ => none
  | n + 1, v0, v1, v2, v3, μ =>
    bd (getf 10 0 μ v0) fun x1 =>
    bd (getf 1 7 μ x1) fun x2 =>
    if v3 < x2 then
      bd (isk 10 μ v0) fun _ =>
      bd2 (Wo_isOpen v0 v3 μ) fun x3 μ4 =>
      if x3 = 0 then
        Wo_openRoadsAt_L4 n v0 v1 v2 (w32 (v3 + 1)) μ4
      else
        bd (getf 10 0 μ4 v0) fun x5 =>
        bd (isk 1 μ4 x5) fun _ =>
        bd2 (Kg_leadsFrom x5 v3 v1 μ4) fun x6 μ7 =>
        if x6 = 0 then
          Wo_openRoadsAt_L4 n v0 v1 v2 (w32 (v3 + 1)) μ7
        else
          bd (some (or32 v2 (shl32 1 v3))) fun x8 =>
          Wo_openRoadsAt_L4 n v0 v1 x8 (w32 (v3 + 1)) μ7
    else
      some (v2, μ)
def Wo_openRoadsAt (a0 a1 : Int) (μ : Mem) : Option (Int × Mem) :=
  Wo_openRoadsAt_L4 FU a0 a1 0 0 μ
def Wo_haveBack (a0 a1 : Int) (μ : Mem) : Option (Int × Mem) :=
  bd (getf 6 5 μ a1) fun x1 =>
  bd (putf 6 5 μ a1 (w32 (x1 - 1))) fun μ2 =>
  bd (getf 10 0 μ2 a0) fun x3 =>
  bd (getf 6 5 μ2 a1) fun x4 =>
  bd (getf 6 1 μ2 a1) fun x5 =>
  bd (isk 1 μ2 x3) fun _ =>
  bd2 (Kg_worthOn x3 a1 x4 x5 μ2) fun x6 μ7 =>
  bd (getf 6 2 μ7 a1) fun x8 =>
  bd (putf 6 2 μ7 a1 (w32 (x8 + x6))) fun μ9 =>
  bd (getf 6 4 μ9 a1) fun x10 =>
  bd (putf 6 4 μ9 a1 (w32 (x10 + x6))) fun μ11 =>
  some ((w32 (1000 + x6)), μ11)
def Tr_push (a0 a1 a2 a3 : Int) (μ : Mem) : Option (Int × Mem) :=
  bd (getf 6 5 μ a0) fun x1 =>
  if x1 < 40 then
    bd (getf 6 6 μ a0) fun x2 =>
    bd (getf 6 5 μ a0) fun x3 =>
    bd (sta 20 μ x2 x3 a1) fun μ4 =>
    bd (getf 6 7 μ4 a0) fun x5 =>
    bd (getf 6 5 μ4 a0) fun x6 =>
    bd (sta 20 μ4 x5 x6 a2) fun μ7 =>
    bd (getf 6 8 μ7 a0) fun x8 =>
    bd (getf 6 5 μ7 a0) fun x9 =>
    bd (sta 20 μ7 x8 x9 a3) fun μ10 =>
    bd (getf 6 5 μ10 a0) fun x11 =>
    bd (putf 6 5 μ10 a0 (w32 (x11 + 1))) fun μ12 =>
    some (0, μ12)
  else
    some (0, μ)
def Wo_pay (a0 a1 a2 : Int) (μ : Mem) : Option (Int × Mem) :=
  bd (getf 10 0 μ a0) fun x1 =>
  bd (getf 6 1 μ a1) fun x2 =>
  bd (isk 1 μ x1) fun _ =>
  bd2 (Kg_tollOn x1 (shr32 a2 1) x2 μ) fun x3 μ4 =>
  bd (getf 6 2 μ4 a1) fun x5 =>
  if x5 < x3 then
    some ((-5), μ4)
  else
    bd (getf 6 5 μ4 a1) fun x6 =>
    if x6 < 40 then
      bd (getf 6 1 μ4 a1) fun x7 =>
      bd (isk 6 μ4 a1) fun _ =>
      bd2 (Tr_push a1 a2 x7 x3 μ4) fun _ μ9 =>
      bd (getf 6 2 μ9 a1) fun x10 =>
      bd (putf 6 2 μ9 a1 (w32 (x10 - x3))) fun μ11 =>
      bd (getf 6 3 μ11 a1) fun x12 =>
      bd (putf 6 3 μ11 a1 (w32 (x12 + x3))) fun μ13 =>
      some (x3, μ13)
    else
      some ((-4), μ4)
def Wo_step (a0 a1 a2 : Int) (μ : Mem) : Option (Int × Mem) :=
  bd (getf 10 0 μ a0) fun x1 =>
  bd (isk 1 μ x1) fun _ =>
  bd2 (Kg_hasRoad x1 a2 μ) fun x2 μ3 =>
  if x2 = 0 then
    some ((-2), μ3)
  else
    bd (isk 10 μ3 a0) fun _ =>
    bd2 (Wo_isOpen a0 a2 μ3) fun x4 μ5 =>
    if x4 = 0 then
      some ((-8), μ5)
    else
      bd (getf 10 0 μ5 a0) fun x6 =>
      bd (getf 6 0 μ5 a1) fun x7 =>
      bd (isk 1 μ5 x6) fun _ =>
      bd2 (Kg_leadsFrom x6 a2 x7 μ5) fun x8 μ9 =>
      if x8 = 0 then
        some ((-9), μ9)
      else
        bd (getf 10 0 μ9 a0) fun x10 =>
        bd (getf 6 0 μ9 a1) fun x11 =>
        bd (isk 1 μ9 x10) fun _ =>
        bd2 (Kg_markOf x10 a2 x11 μ9) fun x12 μ13 =>
        bd (getf 6 5 μ13 a1) fun x14 =>
        bd (
            if 0 < x14 then
              bd (getf 6 6 μ13 a1) fun x16 =>
              bd (getf 6 5 μ13 a1) fun x17 =>
              bd (lda 20 μ13 x16 (w32 (x17 - 1))) fun x18 =>
              if x18 = (xor32 x12 1) then
                some 1
              else
                some 0
            else
              some 0) fun (y15 : Int) =>
        bd2 (
            if y15 = 0 then
              bd (isk 10 μ13 a0) fun _ =>
              bd2 (Wo_pay a0 a1 x12 μ13) fun x21 μ22 =>
              some (x21, μ22)
            else
              bd (isk 10 μ13 a0) fun _ =>
              bd2 (Wo_haveBack a0 a1 μ13) fun x23 μ24 =>
              some (x23, μ24)) fun (y19 : Int) (μ20 : Mem) =>
        if y19 < 0 then
          some (y19, μ20)
        else
          bd (getf 10 0 μ20 a0) fun x25 =>
          bd (isk 1 μ20 x25) fun _ =>
          bd2 (Kg_endOf x25 x12 μ20) fun x26 μ27 =>
          bd (putf 6 0 μ27 a1 x26) fun μ28 =>
          bd (getf 6 1 μ28 a1) fun x29 =>
          bd (getf 10 0 μ28 a0) fun x30 =>
          bd (getf 1 12 μ28 x30) fun x31 =>
          bd (lda 20 μ28 x31 a2) fun x32 =>
          bd (putf 6 1 μ28 a1 (w32 (x29 + x32))) fun μ33 =>
          some (y19, μ33)
def To_judgeEnd (a0 a1 a2 a3 : Int) (μ : Mem) : Option (Int × Mem) :=
  bd (getf 5 7 μ a0) fun x1 =>
  bd (getf 6 0 μ x1) fun x2 =>
  bd (getf 10 0 μ a1) fun x3 =>
  bd (getf 1 1 μ x3) fun x4 =>
  if x2 = x4 then
    bd (getf 5 8 μ a0) fun x5 =>
    bd (getf 5 8 μ a0) fun x6 =>
    if (and32 a3 x5) = x6 then
      bd (getf 5 2 μ a0) fun x7 =>
      bd (
          if x7 = (-1) then
            some 1
          else
            bd (getf 5 7 μ a0) fun x9 =>
            bd (getf 6 2 μ x9) fun x10 =>
            bd (getf 5 1 μ a0) fun x11 =>
            if x11 < x10 then
              some 1
            else
              bd (getf 5 7 μ a0) fun x12 =>
              bd (getf 6 2 μ x12) fun x13 =>
              bd (getf 5 1 μ a0) fun x14 =>
              if x13 = x14 then
                bd (getf 5 2 μ a0) fun x15 =>
                if a2 < x15 then
                  some 1
                else
                  some 0
              else
                some 0) fun (y8 : Int) =>
      if y8 = 0 then
        some (0, μ)
      else
        bd (getf 5 7 μ a0) fun x16 =>
        bd (getf 6 2 μ x16) fun x17 =>
        bd (putf 5 1 μ a0 x17) fun μ18 =>
        bd (putf 5 2 μ18 a0 a2) fun μ19 =>
        bd (getf 5 4 μ19 a0) fun x20 =>
        bd (getf 5 3 μ19 a0) fun x21 =>
        bd (acopy 20 μ19 x20 0 x21 0 a2) fun μ22 =>
        some (0, μ22)
    else
      some (0, μ)
  else
    some (0, μ)
def Tr_keepIn (a0 a1 : Int) (μ : Mem) : Option (Int × Mem) :=
  bd (getf 6 0 μ a0) fun x1 =>
  bd (sta 20 μ a1 0 x1) fun μ2 =>
  bd (getf 6 1 μ2 a0) fun x3 =>
  bd (sta 20 μ2 a1 1 x3) fun μ4 =>
  bd (getf 6 2 μ4 a0) fun x5 =>
  bd (sta 20 μ4 a1 2 x5) fun μ6 =>
  bd (getf 6 5 μ6 a0) fun x7 =>
  bd (sta 20 μ6 a1 3 x7) fun μ8 =>
  bd (getf 6 5 μ8 a0) fun x9 =>
  if x9 < 40 then
    bd (getf 6 6 μ8 a0) fun x10 =>
    bd (getf 6 5 μ8 a0) fun x11 =>
    bd (lda 20 μ8 x10 x11) fun x12 =>
    bd (sta 20 μ8 a1 4 x12) fun μ13 =>
    bd (getf 6 7 μ13 a0) fun x14 =>
    bd (getf 6 5 μ13 a0) fun x15 =>
    bd (lda 20 μ13 x14 x15) fun x16 =>
    bd (sta 20 μ13 a1 5 x16) fun μ17 =>
    bd (getf 6 8 μ17 a0) fun x18 =>
    bd (getf 6 5 μ17 a0) fun x19 =>
    bd (lda 20 μ17 x18 x19) fun x20 =>
    bd (sta 20 μ17 a1 6 x20) fun μ21 =>
    some (0, μ21)
  else
    some (0, μ8)
def Tr_regain (a0 a1 : Int) (μ : Mem) : Option (Int × Mem) :=
  bd (lda 20 μ a1 0) fun x1 =>
  bd (putf 6 0 μ a0 x1) fun μ2 =>
  bd (lda 20 μ2 a1 1) fun x3 =>
  bd (putf 6 1 μ2 a0 x3) fun μ4 =>
  bd (lda 20 μ4 a1 2) fun x5 =>
  bd (putf 6 2 μ4 a0 x5) fun μ6 =>
  bd (lda 20 μ6 a1 3) fun x7 =>
  bd (putf 6 5 μ6 a0 x7) fun μ8 =>
  bd (getf 6 5 μ8 a0) fun x9 =>
  if x9 < 40 then
    bd (getf 6 6 μ8 a0) fun x10 =>
    bd (getf 6 5 μ8 a0) fun x11 =>
    bd (lda 20 μ8 a1 4) fun x12 =>
    bd (sta 20 μ8 x10 x11 x12) fun μ13 =>
    bd (getf 6 7 μ13 a0) fun x14 =>
    bd (getf 6 5 μ13 a0) fun x15 =>
    bd (lda 20 μ13 a1 5) fun x16 =>
    bd (sta 20 μ13 x14 x15 x16) fun μ17 =>
    bd (getf 6 8 μ17 a0) fun x18 =>
    bd (getf 6 5 μ17 a0) fun x19 =>
    bd (lda 20 μ17 a1 6) fun x20 =>
    bd (sta 20 μ17 x18 x19 x20) fun μ21 =>
    some (0, μ21)
  else
    some (0, μ8)
def To_explore_L33 (rc : Int → Int → Int → Int → Mem → Option (Int × Mem))  : Nat → Int → Int → Int → Int → Int → Int → Mem → Option (Int × Mem)
  | 0, _, _, _, _, _, _, _ => none
  | n + 1, v0, v1, v2, v3, v4, v5, μ =>
    bd (getf 10 0 μ v1) fun x1 =>
    bd (getf 1 7 μ x1) fun x2 =>
    if v5 < x2 then
      bd (getf 5 0 μ v0) fun x3 =>
      if 100000 < x3 then
        some (0, μ)
      else
        if (and32 (shr32 v4 v5) 1) = 0 then
          To_explore_L33 rc n v0 v1 v2 v3 v4 (w32 (v5 + 1)) μ
        else
          bd (getf 5 7 μ v0) fun x4 =>
          bd (getf 5 6 μ v0) fun x5 =>
          bd (lda 27 μ x5 v2) fun x6 =>
          bd (isk 6 μ x4) fun _ =>
          bd2 (Tr_keepIn x4 x6 μ) fun _ μ8 =>
          bd (getf 5 7 μ8 v0) fun x9 =>
          bd (isk 10 μ8 v1) fun _ =>
          bd2 (Wo_step v1 x9 v5 μ8) fun x10 μ11 =>
          if x10 < 0 then
            To_explore_L33 rc n v0 v1 v2 v3 v4 (w32 (v5 + 1)) μ11
          else
            bd (getf 5 0 μ11 v0) fun x12 =>
            bd (putf 5 0 μ11 v0 (w32 (x12 + 1))) fun μ13 =>
            bd (getf 5 4 μ13 v0) fun x14 =>
            bd (sta 20 μ13 x14 v2 v5) fun μ15 =>
            bd (getf 5 7 μ15 v0) fun x16 =>
            bd (getf 6 0 μ15 x16) fun x17 =>
            bd2 (rc v0 v1 (w32 (v2 + 1)) (or32 v3 (shl32 1 x17)) μ15) fun _ μ19 =>
            bd (getf 5 7 μ19 v0) fun x20 =>
            bd (getf 5 6 μ19 v0) fun x21 =>
            bd (lda 27 μ19 x21 v2) fun x22 =>
            bd (isk 6 μ19 x20) fun _ =>
            bd2 (Tr_regain x20 x22 μ19) fun _ μ24 =>
            To_explore_L33 rc n v0 v1 v2 v3 v4 (w32 (v5 + 1)) μ24
    else
      some (0, μ)
def To_explore : Nat → Int → Int → Int → Int → Mem → Option (Int × Mem)
  | 0, _, _, _, _, _ => none
  | dp + 1, a0, a1, a2, a3, μ =>
    bd (isk 5 μ a0) fun _ =>
    bd2 (To_judgeEnd a0 a1 a2 a3 μ) fun _ μ2 =>
    bd (getf 5 9 μ2 a0) fun x3 =>
    if a2 < x3 then
      bd (getf 5 5 μ2 a0) fun x4 =>
      bd (getf 5 7 μ2 a0) fun x5 =>
      bd (getf 6 0 μ2 x5) fun x6 =>
      bd (lda 20 μ2 x4 x6) fun x7 =>
      To_explore_L33 (fun a0 a1 a2 a3 μ => To_explore dp a0 a1 a2 a3 μ) FU a0 a1 a2 a3 x7 0 μ2
    else
      some (0, μ2)
def Tr_become (a0 a1 : Int) (μ : Mem) : Option (Int × Mem) :=
  bd (getf 6 0 μ a1) fun x1 =>
  bd (putf 6 0 μ a0 x1) fun μ2 =>
  bd (getf 6 1 μ2 a1) fun x3 =>
  bd (putf 6 1 μ2 a0 x3) fun μ4 =>
  bd (getf 6 2 μ4 a1) fun x5 =>
  bd (putf 6 2 μ4 a0 x5) fun μ6 =>
  bd (getf 6 3 μ6 a1) fun x7 =>
  bd (putf 6 3 μ6 a0 x7) fun μ8 =>
  bd (getf 6 4 μ8 a1) fun x9 =>
  bd (putf 6 4 μ8 a0 x9) fun μ10 =>
  bd (getf 6 5 μ10 a1) fun x11 =>
  bd (putf 6 5 μ10 a0 x11) fun μ12 =>
  bd (getf 6 6 μ12 a1) fun x13 =>
  bd (getf 6 6 μ12 a0) fun x14 =>
  bd (acopy 20 μ12 x13 0 x14 0 40) fun μ15 =>
  bd (getf 6 7 μ15 a1) fun x16 =>
  bd (getf 6 7 μ15 a0) fun x17 =>
  bd (acopy 20 μ15 x16 0 x17 0 40) fun μ18 =>
  bd (getf 6 8 μ18 a1) fun x19 =>
  bd (getf 6 8 μ18 a0) fun x20 =>
  bd (acopy 20 μ18 x19 0 x20 0 40) fun μ21 =>
  some (0, μ21)
def To_seek_L37 (k68 : Int → Int → Int → Mem → Option (Int × Mem)) : Nat → Int → Int → Int → Int → Mem → Option (Int × Mem)
  | 0, _, _, _, _, _ => none
  | n + 1, v0, v1, v2, v5, μ =>
    bd (getf 10 0 μ v1) fun x1 =>
    bd (getf 1 0 μ x1) fun x2 =>
    if v5 < x2 then
      bd (getf 5 5 μ v0) fun x3 =>
      bd (isk 10 μ v1) fun _ =>
      bd2 (Wo_openRoadsAt v1 v5 μ) fun x4 μ5 =>
      bd (sta 20 μ5 x3 v5 x4) fun μ6 =>
      To_seek_L37 k68 n v0 v1 v2 (w32 (v5 + 1)) μ6
    else
      k68 v0 v1 v2 μ
def To_seek (a0 a1 a2 a3 a4 : Int) (μ : Mem) : Option (Int × Mem) :=
  bd (getf 5 7 μ a0) fun x1 =>
  bd (isk 6 μ x1) fun _ =>
  bd2 (Tr_become x1 a2 μ) fun _ μ3 =>
  bd (putf 5 8 μ3 a0 a3) fun μ4 =>
  bd2 (J_min a4 8 μ4) fun x5 μ6 =>
  bd (putf 5 9 μ6 a0 x5) fun μ7 =>
  bd (putf 5 0 μ7 a0 0) fun μ8 =>
  bd (putf 5 2 μ8 a0 (-1)) fun μ9 =>
  To_seek_L37 (fun x10 x11 x12 μ13 =>
      bd (getf 6 0 μ13 x12) fun x14 =>
      bd2 (To_explore 12 x10 x11 0 (shl32 1 x14) μ13) fun _ μ16 =>
      some (0, μ16)) FU a0 a1 a2 0 μ9
def Tr_begin (a0 a1 a2 : Int) (μ : Mem) : Option (Int × Mem) :=
  bd (putf 6 0 μ a0 a1) fun μ1 =>
  bd (putf 6 1 μ1 a0 0) fun μ2 =>
  bd (putf 6 2 μ2 a0 a2) fun μ3 =>
  bd (putf 6 3 μ3 a0 0) fun μ4 =>
  bd (putf 6 4 μ4 a0 0) fun μ5 =>
  bd (putf 6 5 μ5 a0 0) fun μ6 =>
  some (0, μ6)
def Tr_takeTopOf (a0 a1 : Int) (μ : Mem) : Option (Int × Mem) :=
  bd (getf 6 5 μ a1) fun x1 =>
  bd (some (w32 (x1 - 1))) fun x2 =>
  if x2 < 0 then
    some (0, μ)
  else
    bd (getf 6 6 μ a1) fun x3 =>
    bd (lda 20 μ x3 x2) fun x4 =>
    bd (getf 6 7 μ a1) fun x5 =>
    bd (lda 20 μ x5 x2) fun x6 =>
    bd (getf 6 8 μ a1) fun x7 =>
    bd (lda 20 μ x7 x2) fun x8 =>
    bd (isk 6 μ a0) fun _ =>
    bd2 (Tr_push a0 x4 x6 x8 μ) fun _ μ10 =>
    some (0, μ10)
def Tr_swapSlips (a0 a1 : Int) (μ : Mem) : Option (Int × Mem) :=
  bd (getf 6 5 μ a0) fun x1 =>
  bd (getf 6 6 μ a0) fun x2 =>
  bd (getf 6 7 μ a0) fun x3 =>
  bd (getf 6 8 μ a0) fun x4 =>
  bd (getf 6 5 μ a1) fun x5 =>
  bd (putf 6 5 μ a0 x5) fun μ6 =>
  bd (getf 6 6 μ6 a1) fun x7 =>
  bd (putf 6 6 μ6 a0 x7) fun μ8 =>
  bd (getf 6 7 μ8 a1) fun x9 =>
  bd (putf 6 7 μ8 a0 x9) fun μ10 =>
  bd (getf 6 8 μ10 a1) fun x11 =>
  bd (putf 6 8 μ10 a0 x11) fun μ12 =>
  bd (putf 6 5 μ12 a1 x1) fun μ13 =>
  bd (putf 6 6 μ13 a1 x2) fun μ14 =>
  bd (putf 6 7 μ14 a1 x3) fun μ15 =>
  bd (putf 6 8 μ15 a1 x4) fun μ16 =>
  some (0, μ16)
def Te_init (a0 : Int) (μ : Mem) : Option (Int × Mem) :=
  bd (isk 7 μ a0) fun _ =>
  bd (putf 7 0 (newc 20 24 μ) a0 (nlen μ)) fun μ1 =>
  bd (putf 7 1 (newc 20 12 μ1) a0 (nlen μ1)) fun μ2 =>
  some (0, μ2)
def Te_sortRoads_L26 (k82 : Int → Int → Int → Int → Int → Mem → Option (Int × Mem)) : Nat → Int → Int → Int → Int → Int → Mem → Option (Int × Mem)
  | 0, _, _, _, _, _, _ => none
  | n + 1, v0, v1, v2, v3, v4, μ =>
    if 0 < v4 then
      bd (getf 10 0 μ v1) fun x1 =>
      bd (getf 1 12 μ x1) fun x2 =>
      bd (getf 7 0 μ v0) fun x3 =>
      bd (lda 20 μ x3 (w32 (v4 - 1))) fun x4 =>
      bd (lda 20 μ x2 x4) fun x5 =>
      bd (getf 10 0 μ v1) fun x6 =>
      bd (getf 1 12 μ x6) fun x7 =>
      bd (lda 20 μ x7 v3) fun x8 =>
      if x8 < x5 then
        bd (getf 7 0 μ v0) fun x9 =>
        bd (getf 7 0 μ v0) fun x10 =>
        bd (lda 20 μ x10 (w32 (v4 - 1))) fun x11 =>
        bd (sta 20 μ x9 v4 x11) fun μ12 =>
        Te_sortRoads_L26 k82 n v0 v1 v2 v3 (w32 (v4 + (-1))) μ12
      else
        k82 v0 v1 v2 v3 v4 μ
    else
      k82 v0 v1 v2 v3 v4 μ
def Te_sortRoads_J82 (k93 : Int → Int → Int → Int → Mem → Option (Int × Mem)) (v0 v1 v2 v3 v4 : Int) (μ : Mem) : Option (Int × Mem) :=
  bd (getf 7 0 μ v0) fun x1 =>
  bd (sta 20 μ x1 v4 v3) fun μ2 =>
  k93 v0 v1 (w32 (v2 + 1)) v3 μ2
def Te_sortRoads_L4  : Nat → Int → Int → Int → Int → Mem → Option (Int × Mem)
  | 0, _, _, _, _, _ => none
  | n + 1, v0, v1, v2, v3, μ =>
    bd (getf 10 0 μ v1) fun x1 =>
    bd (getf 1 7 μ x1) fun x2 =>
    if v3 < x2 then
      bd (isk 10 μ v1) fun _ =>
      bd2 (Wo_isOpen v1 v3 μ) fun x3 μ4 =>
      if x3 = 0 then
        Te_sortRoads_L4 n v0 v1 v2 (w32 (v3 + 1)) μ4
      else
        Te_sortRoads_L26 (fun x5 x6 x7 x8 x9 μ10 =>
            Te_sortRoads_J82 (fun x11 x12 x13 x14 μ15 =>
                Te_sortRoads_L4 n x11 x12 x13 (w32 (x14 + 1)) μ15) x5 x6 x7 x8 x9 μ10) FU v0 v1 v2 v3 v2 μ4
    else
      some (v2, μ)
def Te_sortRoads (a0 a1 : Int) (μ : Mem) : Option (Int × Mem) :=
  Te_sortRoads_L4 FU a0 a1 0 0 μ
def J_bitCount (a0 : Int) (μ : Mem) : Option (Int × Mem) :=
  bd (some (w32 (a0 - (and32 (ushr32 a0 1) 1431655765)))) fun x1 =>
  bd (some (w32 ((and32 x1 858993459) + (and32 (ushr32 x1 2) 858993459)))) fun x2 =>
  bd (some (and32 (w32 (x2 + (ushr32 x2 4))) 252645135)) fun x3 =>
  bd (some (w32 (x3 + (ushr32 x3 8)))) fun x4 =>
  bd (some (w32 (x4 + (ushr32 x4 16)))) fun x5 =>
  some ((and32 x5 63), μ)
def Te_unite_L2  : Nat → Int → Int → Int → Int → Mem → Option (Int × Mem)
  | 0, _, _, _, _, _ => none
  | n + 1, v0, v1, v2, v3, μ =>
    bd (getf 1 0 μ v1) fun x1 =>
    if v3 < x1 then
      if (and32 (shr32 v2 v3) 1) = 0 then
        Te_unite_L2 n v0 v1 v2 (w32 (v3 + 1)) μ
      else
        bd (getf 7 1 μ v0) fun x2 =>
        bd (sta 20 μ x2 v3 v2) fun μ3 =>
        Te_unite_L2 n v0 v1 v2 (w32 (v3 + 1)) μ3
    else
      some (0, μ)
def Te_unite (a0 a1 a2 : Int) (μ : Mem) : Option (Int × Mem) :=
  Te_unite_L2 FU a0 a1 a2 0 μ
def Te_treeDays_L3 (k29 : Int → Int → Int → Int → Mem → Option (Int × Mem)) : Nat → Int → Int → Int → Int → Int → Mem → Option (Int × Mem)
  | 0, _, _, _, _, _, _ => none
  | n + 1, v0, v1, v2, v3, v4, μ =>
    bd (getf 1 0 μ v1) fun x1 =>
    if v4 < x1 then
      bd (getf 7 1 μ v0) fun x2 =>
      bd (sta 20 μ x2 v4 (shl32 1 v4)) fun μ3 =>
      Te_treeDays_L3 k29 n v0 v1 v2 v3 (w32 (v4 + 1)) μ3
    else
      k29 v0 v1 v2 v3 μ
def Te_treeDays_L43 (k175 : Int → Int → Mem → Option (Int × Mem)) : Nat → Int → Int → Int → Int → Int → Int → Int → Mem → Option (Int × Mem)
  | 0, _, _, _, _, _, _, _, _ => none
  | n + 1, v0, v1, v2, v3, v4, v5, v6, μ =>
    if v6 < v3 then
      if 0 < v5 then
        bd (getf 1 8 μ v1) fun x1 =>
        bd (getf 7 0 μ v0) fun x2 =>
        bd (lda 20 μ x2 v6) fun x3 =>
        bd (lda 20 μ x1 x3) fun x4 =>
        bd (getf 1 9 μ v1) fun x5 =>
        bd (getf 7 0 μ v0) fun x6 =>
        bd (lda 20 μ x6 v6) fun x7 =>
        bd (lda 20 μ x5 x7) fun x8 =>
        bd (
            if (and32 (shr32 v2 x4) 1) = 0 then
              some 0
            else
              if (and32 (shr32 v2 x8) 1) = 0 then
                some 0
              else
                some 1) fun (y9 : Int) =>
        if y9 = 0 then
          Te_treeDays_L43 k175 n v0 v1 v2 v3 v4 v5 (w32 (v6 + 1)) μ
        else
          bd (getf 7 1 μ v0) fun x10 =>
          bd (lda 20 μ x10 x4) fun x11 =>
          bd (getf 7 1 μ v0) fun x12 =>
          bd (lda 20 μ x12 x8) fun x13 =>
          if x11 = x13 then
            Te_treeDays_L43 k175 n v0 v1 v2 v3 v4 v5 (w32 (v6 + 1)) μ
          else
            bd (getf 7 1 μ v0) fun x14 =>
            bd (lda 20 μ x14 x4) fun x15 =>
            bd (getf 7 1 μ v0) fun x16 =>
            bd (lda 20 μ x16 x8) fun x17 =>
            bd (isk 7 μ v0) fun _ =>
            bd2 (Te_unite v0 v1 (or32 x15 x17) μ) fun _ μ19 =>
            bd (getf 1 12 μ19 v1) fun x20 =>
            bd (getf 7 0 μ19 v0) fun x21 =>
            bd (lda 20 μ19 x21 v6) fun x22 =>
            bd (lda 20 μ19 x20 x22) fun x23 =>
            bd (some (w32 (v4 + x23))) fun x24 =>
            Te_treeDays_L43 k175 n v0 v1 v2 v3 x24 (w32 (v5 + (-1))) (w32 (v6 + 1)) μ19
      else
        k175 v4 v5 μ
    else
      k175 v4 v5 μ
def Te_treeDays_J175  (v4 v5 : Int) (μ : Mem) : Option (Int × Mem) :=
  if v5 = 0 then
    some (v4, μ)
  else
    some ((-1), μ)
def Te_treeDays (a0 a1 a2 a3 : Int) (μ : Mem) : Option (Int × Mem) :=
  Te_treeDays_L3 (fun x1 x2 x3 x4 μ5 =>
      bd2 (J_bitCount x3 μ5) fun x6 μ7 =>
      bd (some (w32 (x6 - 1))) fun x8 =>
      Te_treeDays_L43 (fun x9 x10 μ11 =>
          Te_treeDays_J175 x9 x10 μ11) FU x1 x2 x3 x4 0 x8 0 μ7) FU a0 a1 a2 a3 0 μ
def Te_leastDays_L12  : Nat → Int → Int → Int → Int → Int → Int → Mem → Option (Int × Mem)
  | 0, _, _, _, _, _, _, _ => none
  | n + 1, v0, v1, v2, v3, v4, v5, μ =>
    bd (getf 10 0 μ v1) fun x1 =>
    bd (getf 1 0 μ x1) fun x2 =>
    if v5 < (shl32 1 x2) then
      if (and32 v5 v2) = v2 then
        bd (getf 10 0 μ v1) fun x3 =>
        bd (isk 7 μ v0) fun _ =>
        bd2 (Te_treeDays v0 x3 v5 v3 μ) fun x4 μ5 =>
        if x4 = (-1) then
          Te_leastDays_L12 n v0 v1 v2 v3 v4 (w32 (v5 + 1)) μ5
        else
          if v4 = (-1) then
            Te_leastDays_L12 n v0 v1 v2 v3 x4 (w32 (v5 + 1)) μ5
          else
            if x4 < v4 then
              Te_leastDays_L12 n v0 v1 v2 v3 x4 (w32 (v5 + 1)) μ5
            else
              Te_leastDays_L12 n v0 v1 v2 v3 v4 (w32 (v5 + 1)) μ5
      else
        Te_leastDays_L12 n v0 v1 v2 v3 v4 (w32 (v5 + 1)) μ
    else
      some (v4, μ)
def Te_leastDays (a0 a1 a2 : Int) (μ : Mem) : Option (Int × Mem) :=
  bd (isk 7 μ a0) fun _ =>
  bd2 (Te_sortRoads a0 a1 μ) fun x1 μ2 =>
  Te_leastDays_L12 FU a0 a1 a2 x1 (-1) 0 μ2
def Tp_init (a0 : Int) (μ : Mem) : Option (Int × Mem) :=
  bd (isk 8 μ a0) fun _ =>
  bd2 (Tr_init (nlen μ) (newc 6 9 μ)) fun _ μ2 =>
  bd (putf 8 0 μ2 a0 (nlen μ)) fun μ3 =>
  bd (putf 8 1 (newc 20 41 μ3) a0 (nlen μ3)) fun μ4 =>
  bd (putf 8 2 (newc 20 41 μ4) a0 (nlen μ4)) fun μ5 =>
  some (0, μ5)
def Tp_arrive (a0 : Int) (μ : Mem) : Option (Int × Mem) :=
  bd (getf 8 3 μ a0) fun x1 =>
  bd (putf 8 3 μ a0 (w32 (x1 + 1))) fun μ2 =>
  bd (getf 8 1 μ2 a0) fun x3 =>
  bd (getf 8 3 μ2 a0) fun x4 =>
  bd (getf 8 0 μ2 a0) fun x5 =>
  bd (getf 6 0 μ2 x5) fun x6 =>
  bd (sta 20 μ2 x3 x4 x6) fun μ7 =>
  bd (getf 8 2 μ7 a0) fun x8 =>
  bd (getf 8 3 μ7 a0) fun x9 =>
  bd (getf 8 0 μ7 a0) fun x10 =>
  bd (getf 6 1 μ7 x10) fun x11 =>
  bd (sta 20 μ7 x8 x9 x11) fun μ12 =>
  bd (getf 8 5 μ12 a0) fun x13 =>
  bd (getf 8 0 μ12 a0) fun x14 =>
  bd (getf 6 2 μ12 x14) fun x15 =>
  bd2 (J_min x13 x15 μ12) fun x16 μ17 =>
  bd (putf 8 5 μ17 a0 x16) fun μ18 =>
  some (0, μ18)
def Tp_follow_L56  : Nat → Int → Int → Int → Int → Mem → Option (Int × Mem)
  | 0, _, _, _, _, _ => none
  | n + 1, v0, v1, v3, v5, μ =>
    bd (getf 2 1 μ v3) fun x1 =>
    if v5 < x1 then
      bd (getf 8 4 μ v0) fun x2 =>
      if x2 = 0 then
        bd (getf 8 0 μ v0) fun x3 =>
        bd (isk 2 μ v3) fun _ =>
        bd2 (Nu_smallAt v3 v5 μ) fun x4 μ5 =>
        bd (isk 10 μ5 v1) fun _ =>
        bd2 (Wo_step v1 x3 x4 μ5) fun x6 μ7 =>
        if x6 < 0 then
          bd (putf 8 4 μ7 v0 x6) fun μ10 =>
          Tp_follow_L56 n v0 v1 v3 (w32 (v5 + 1)) μ10
        else
          bd (isk 8 μ7 v0) fun _ =>
          bd2 (Tp_arrive v0 μ7) fun _ μ9 =>
          Tp_follow_L56 n v0 v1 v3 (w32 (v5 + 1)) μ9
      else
        some (0, μ)
    else
      some (0, μ)
def Tp_follow (a0 a1 a2 a3 a4 : Int) (μ : Mem) : Option (Int × Mem) :=
  bd (getf 8 0 μ a0) fun x1 =>
  bd (isk 6 μ x1) fun _ =>
  bd2 (Tr_become x1 a2 μ) fun _ μ3 =>
  bd (getf 8 0 μ3 a0) fun x4 =>
  bd (putf 6 2 μ3 x4 a4) fun μ5 =>
  bd (putf 8 5 μ5 a0 a4) fun μ6 =>
  bd (putf 8 3 μ6 a0 0) fun μ7 =>
  bd (putf 8 4 μ7 a0 0) fun μ8 =>
  bd (getf 8 1 μ8 a0) fun x9 =>
  bd (getf 6 0 μ8 a2) fun x10 =>
  bd (sta 20 μ8 x9 0 x10) fun μ11 =>
  bd (getf 8 2 μ11 a0) fun x12 =>
  bd (getf 6 1 μ11 a2) fun x13 =>
  bd (sta 20 μ11 x12 0 x13) fun μ14 =>
  Tp_follow_L56 FU a0 a1 a3 0 μ14
def Tp_townOn_L25  : Nat → Int → Int → Int → Mem → Option (Int × Mem)
  | 0, _, _, _, _ => none
  | n + 1, v0, v1, v2, μ =>
    bd (getf 8 3 μ v0) fun x1 =>
    if v2 < x1 then
      bd (getf 8 2 μ v0) fun x2 =>
      bd (lda 20 μ x2 v2) fun x3 =>
      if x3 = v1 then
        bd (getf 8 1 μ v0) fun x4 =>
        bd (lda 20 μ x4 v2) fun x5 =>
        some (x5, μ)
      else
        Tp_townOn_L25 n v0 v1 (w32 (v2 + 1)) μ
    else
      some ((-1), μ)
def Tp_townOn (a0 a1 : Int) (μ : Mem) : Option (Int × Mem) :=
  bd (getf 8 2 μ a0) fun x1 =>
  bd (getf 8 3 μ a0) fun x2 =>
  bd (lda 20 μ x1 x2) fun x3 =>
  if a1 < x3 then
    Tp_townOn_L25 FU a0 a1 0 μ
  else
    bd (getf 8 1 μ a0) fun x4 =>
    bd (getf 8 3 μ a0) fun x5 =>
    bd (lda 20 μ x4 x5) fun x6 =>
    some (x6, μ)
def Tp_firstMeeting_L2  : Nat → Int → Int → Int → Mem → Option (Int × Mem)
  | 0, _, _, _, _ => none
  | n + 1, v0, v1, v2, μ =>
    bd (getf 8 3 μ v0) fun x1 =>
    if x1 < v2 then
      some ((-1), μ)
    else
      bd (getf 8 2 μ v0) fun x2 =>
      bd (lda 20 μ x2 v2) fun x3 =>
      bd (isk 8 μ v1) fun _ =>
      bd2 (Tp_townOn v1 x3 μ) fun x4 μ5 =>
      bd (getf 8 1 μ5 v0) fun x6 =>
      bd (lda 20 μ5 x6 v2) fun x7 =>
      if x4 = x7 then
        bd (getf 8 2 μ5 v0) fun x8 =>
        bd (lda 20 μ5 x8 v2) fun x9 =>
        some (x9, μ5)
      else
        Tp_firstMeeting_L2 n v0 v1 (w32 (v2 + 1)) μ5
def Tp_firstMeeting (a0 a1 : Int) (μ : Mem) : Option (Int × Mem) :=
  Tp_firstMeeting_L2 FU a0 a1 0 μ
def Tp_meets (a0 a1 : Int) (μ : Mem) : Option (Int × Mem) :=
  bd (isk 8 μ a0) fun _ =>
  bd2 (Tp_firstMeeting a0 a1 μ) fun x1 μ2 =>
  if x1 = (-1) then
    bd (isk 8 μ2 a1) fun _ =>
    bd2 (Tp_firstMeeting a1 a0 μ2) fun x3 μ4 =>
    some (x3, μ4)
  else
    some (x1, μ2)
def Wy_init (a0 : Int) (μ : Mem) : Option (Int × Mem) :=
  bd (isk 9 μ a0) fun _ =>
  bd (putf 9 0 (newc 20 12 μ) a0 (nlen μ)) fun μ1 =>
  bd (putf 9 1 (newc 20 24 μ1) a0 (nlen μ1)) fun μ2 =>
  some (0, μ2)
def J_fill_L5  : Nat → Int → Int → Int → Int → Mem → Option (Int × Mem)
  | 0, _, _, _, _, _ => none
  | n + 1, v0, v1, v2, v3, μ =>
    if v2 < v3 then
      bd (sta 20 μ v0 v2 v1) fun μ1 =>
      J_fill_L5 n v0 v1 (w32 (v2 + 1)) v3 μ1
    else
      some (0, μ)
def J_fill (a0 a1 : Int) (μ : Mem) : Option (Int × Mem) :=
  bd (alen 20 μ a0) fun x1 =>
  J_fill_L5 FU a0 a1 0 x1 μ
def Wy_startAt (a0 a1 : Int) (μ : Mem) : Option (Int × Mem) :=
  bd (getf 9 0 μ a0) fun x1 =>
  bd2 (J_fill x1 2147483647 μ) fun _ μ3 =>
  bd (getf 9 0 μ3 a0) fun x4 =>
  bd (sta 20 μ3 x4 a1 0) fun μ5 =>
  some (0, μ5)
def Wy_improve (a0 a1 a2 a3 : Int) (μ : Mem) : Option (Int × Mem) :=
  bd (getf 9 0 μ a0) fun x1 =>
  bd (lda 20 μ x1 a1) fun x2 =>
  if x2 = 2147483647 then
    some (0, μ)
  else
    bd (getf 9 0 μ a0) fun x3 =>
    bd (lda 20 μ x3 a1) fun x4 =>
    bd (getf 9 0 μ a0) fun x5 =>
    bd (lda 20 μ x5 a2) fun x6 =>
    if (w32 (x4 + a3)) < x6 then
      bd (getf 9 0 μ a0) fun x7 =>
      bd (getf 9 0 μ a0) fun x8 =>
      bd (lda 20 μ x8 a1) fun x9 =>
      bd (sta 20 μ x7 a2 (w32 (x9 + a3))) fun μ10 =>
      some (1, μ10)
    else
      some (0, μ)
def Wy_settle_L24 (k129 : Int → Int → Int → Int → Mem → Option (Int × Mem)) : Nat → Int → Int → Int → Int → Int → Mem → Option (Int × Mem)
  | 0, _, _, _, _, _, _ => none
  | n + 1, v0, v1, v2, v3, v4, μ =>
    bd (getf 10 0 μ v1) fun x1 =>
    bd (getf 1 7 μ x1) fun x2 =>
    if v4 < x2 then
      bd (isk 10 μ v1) fun _ =>
      bd2 (Wo_isOpen v1 v4 μ) fun x3 μ4 =>
      if x3 = 0 then
        Wy_settle_L24 k129 n v0 v1 v2 v3 (w32 (v4 + 1)) μ4
      else
        bd (getf 10 0 μ4 v1) fun x5 =>
        bd (getf 1 8 μ4 x5) fun x6 =>
        bd (lda 20 μ4 x6 v4) fun x7 =>
        bd (getf 10 0 μ4 v1) fun x8 =>
        bd (getf 1 9 μ4 x8) fun x9 =>
        bd (lda 20 μ4 x9 v4) fun x10 =>
        bd (getf 9 1 μ4 v0) fun x11 =>
        bd (lda 20 μ4 x11 v4) fun x12 =>
        bd (isk 9 μ4 v0) fun _ =>
        bd2 (Wy_improve v0 x7 x10 x12 μ4) fun x13 μ14 =>
        bd (getf 9 1 μ14 v0) fun x15 =>
        bd (lda 20 μ14 x15 v4) fun x16 =>
        bd (isk 9 μ14 v0) fun _ =>
        bd2 (Wy_improve v0 x10 x7 x16 μ14) fun x17 μ18 =>
        if v2 = 0 then
          if x13 = 0 then
            if x17 = 0 then
              Wy_settle_L24 k129 n v0 v1 0 v3 (w32 (v4 + 1)) μ18
            else
              Wy_settle_L24 k129 n v0 v1 1 v3 (w32 (v4 + 1)) μ18
          else
            Wy_settle_L24 k129 n v0 v1 1 v3 (w32 (v4 + 1)) μ18
        else
          Wy_settle_L24 k129 n v0 v1 1 v3 (w32 (v4 + 1)) μ18
    else
      k129 v0 v1 v2 v3 μ
def Wy_settle_L4  : Nat → Int → Int → Int → Int → Mem → Option (Int × Mem)
  | 0, _, _, _, _, _ => none
  | n + 1, v0, v1, v2, v3, μ =>
    bd (getf 10 0 μ v1) fun x1 =>
    bd (getf 1 0 μ x1) fun x2 =>
    if v3 < x2 then
      if v2 = 0 then
        some (0, μ)
      else
        Wy_settle_L24 (fun x3 x4 x5 x6 μ7 =>
            Wy_settle_L4 n x3 x4 x5 (w32 (x6 + 1)) μ7) FU v0 v1 0 v3 0 μ
    else
      some (0, μ)
def Wy_settle (a0 a1 : Int) (μ : Mem) : Option (Int × Mem) :=
  Wy_settle_L4 FU a0 a1 1 0 μ
def Wy_homeCost_L9 (k48 : Int → Int → Int → Int → Int → Mem → Option (Int × Mem)) : Nat → Int → Int → Int → Int → Int → Int → Mem → Option (Int × Mem)
  | 0, _, _, _, _, _, _, _ => none
  | n + 1, v0, v1, v2, v3, v4, v5, μ =>
    bd (getf 1 7 μ v4) fun x1 =>
    if v5 < x1 then
      bd (getf 9 1 μ v0) fun x2 =>
      bd (getf 6 1 μ v2) fun x3 =>
      bd (isk 1 μ v4) fun _ =>
      bd2 (Kg_tollOn v4 v5 x3 μ) fun x4 μ5 =>
      bd (sta 20 μ5 x2 v5 (w32 ((shl32 x4 10) + 1))) fun μ6 =>
      Wy_homeCost_L9 k48 n v0 v1 v2 v3 v4 (w32 (v5 + 1)) μ6
    else
      k48 v0 v1 v2 v3 v4 μ
def Wy_homeCost_L69 (k147 : Int → Int → Mem → Option (Int × Mem)) : Nat → Int → Int → Int → Int → Int → Int → Mem → Option (Int × Mem)
  | 0, _, _, _, _, _, _, _ => none
  | n + 1, v0, v1, v2, v3, v4, v5, μ =>
    if v5 < 0 then
      k147 v0 v4 μ
    else
      bd (getf 6 6 μ v3) fun x1 =>
      bd (lda 20 μ x1 v5) fun x2 =>
      bd (getf 6 1 μ v2) fun x3 =>
      bd (isk 1 μ v4) fun _ =>
      bd2 (Kg_worthOn v4 v3 v5 x3 μ) fun x4 μ5 =>
      bd (isk 10 μ5 v1) fun _ =>
      bd2 (Wo_isOpen v1 (shr32 x2 1) μ5) fun x6 μ7 =>
      if x6 = 0 then
        Wy_homeCost_L69 k147 n v0 v1 v2 v3 v4 (w32 (v5 + (-1))) μ7
      else
        bd (isk 1 μ7 v4) fun _ =>
        bd2 (Kg_endOf v4 x2 μ7) fun x8 μ9 =>
        bd (isk 1 μ9 v4) fun _ =>
        bd2 (Kg_startOf v4 x2 μ9) fun x10 μ11 =>
        bd (isk 9 μ11 v0) fun _ =>
        bd2 (Wy_improve v0 x8 x10 (w32 (1 - (shl32 x4 10))) μ11) fun x12 μ13 =>
        if x12 = 0 then
          Wy_homeCost_L69 k147 n v0 v1 v2 v3 v4 (w32 (v5 + (-1))) μ13
        else
          bd (isk 9 μ13 v0) fun _ =>
          bd2 (Wy_settle v0 v1 μ13) fun _ μ15 =>
          Wy_homeCost_L69 k147 n v0 v1 v2 v3 v4 (w32 (v5 + (-1))) μ15
def Wy_homeCost (a0 a1 a2 a3 : Int) (μ : Mem) : Option (Int × Mem) :=
  bd (getf 10 0 μ a1) fun x1 =>
  Wy_homeCost_L9 (fun x2 x3 x4 x5 x6 μ7 =>
      bd (getf 6 0 μ7 x4) fun x8 =>
      bd (isk 9 μ7 x2) fun _ =>
      bd2 (Wy_startAt x2 x8 μ7) fun _ μ10 =>
      bd (isk 9 μ10 x2) fun _ =>
      bd2 (Wy_settle x2 x3 μ10) fun _ μ12 =>
      bd (getf 6 5 μ12 x5) fun x13 =>
      bd (some (w32 (x13 - 1))) fun x14 =>
      Wy_homeCost_L69 (fun x15 x16 μ17 =>
          bd (getf 9 0 μ17 x15) fun x18 =>
          bd (getf 1 1 μ17 x16) fun x19 =>
          bd (lda 20 μ17 x18 x19) fun x20 =>
          if x20 = 2147483647 then
            some ((-1000000), μ17)
          else
            bd (getf 9 0 μ17 x15) fun x21 =>
            bd (getf 1 1 μ17 x16) fun x22 =>
            bd (lda 20 μ17 x21 x22) fun x23 =>
            some ((shr32 x23 10), μ17)) FU x2 x3 x4 x5 x6 x14 μ12) FU a0 a1 a2 a3 x1 0 μ
def Wy_homeRoads (a0 a1 : Int) (μ : Mem) : Option (Int × Mem) :=
  bd (getf 9 0 μ a0) fun x1 =>
  bd (getf 10 0 μ a1) fun x2 =>
  bd (getf 1 1 μ x2) fun x3 =>
  bd (lda 20 μ x1 x3) fun x4 =>
  some ((and32 x4 1023), μ)
def Wy_seekLanes_L9 (k56 : Int → Int → Int → Mem → Option (Int × Mem)) : Nat → Int → Int → Int → Int → Int → Int → Mem → Option (Int × Mem)
  | 0, _, _, _, _, _, _, _ => none
  | n + 1, v0, v1, v2, v3, v4, v5, μ =>
    bd (getf 1 7 μ v4) fun x1 =>
    if v5 < x1 then
      bd (getf 9 1 μ v0) fun x2 =>
      bd (isk 1 μ v4) fun _ =>
      bd2 (Kg_tollOn v4 v5 v3 μ) fun x3 μ4 =>
      bd (getf 1 12 μ4 v4) fun x5 =>
      bd (lda 20 μ4 x5 v5) fun x6 =>
      bd (sta 20 μ4 x2 v5 (w32 ((w32 ((shl32 x3 14) + (shl32 x6 4))) + 1))) fun μ7 =>
      Wy_seekLanes_L9 k56 n v0 v1 v2 v3 v4 (w32 (v5 + 1)) μ7
    else
      k56 v0 v1 v2 μ
def Wy_seekLanes (a0 a1 a2 a3 : Int) (μ : Mem) : Option (Int × Mem) :=
  bd (getf 10 0 μ a1) fun x1 =>
  Wy_seekLanes_L9 (fun x2 x3 x4 μ5 =>
      bd (isk 9 μ5 x2) fun _ =>
      bd2 (Wy_startAt x2 x4 μ5) fun _ μ7 =>
      bd (isk 9 μ7 x2) fun _ =>
      bd2 (Wy_settle x2 x3 μ7) fun _ μ9 =>
      some (0, μ9)) FU a0 a1 a2 a3 x1 0 μ
def Wy_laneTolls (a0 a1 : Int) (μ : Mem) : Option (Int × Mem) :=
  bd (getf 9 0 μ a0) fun x1 =>
  bd (lda 20 μ x1 a1) fun x2 =>
  some ((shr32 x2 14), μ)
def Wy_laneDays (a0 a1 : Int) (μ : Mem) : Option (Int × Mem) :=
  bd (getf 9 0 μ a0) fun x1 =>
  bd (lda 20 μ x1 a1) fun x2 =>
  some ((and32 (shr32 x2 4) 1023), μ)
def Wy_laneRoads (a0 a1 : Int) (μ : Mem) : Option (Int × Mem) :=
  bd (getf 9 0 μ a0) fun x1 =>
  bd (lda 20 μ x1 a1) fun x2 =>
  some ((and32 x2 15), μ)
def Wy_firstLaneRoad_L2  : Nat → Int → Int → Int → Int → Mem → Option (Int × Mem)
  | 0, _, _, _, _, _ => none
  | n + 1, v0, v1, v2, v3, μ =>
    bd (getf 10 0 μ v1) fun x1 =>
    bd (getf 1 7 μ x1) fun x2 =>
    if v3 < x2 then
      bd (isk 10 μ v1) fun _ =>
      bd2 (Wo_isOpen v1 v3 μ) fun x3 μ4 =>
      if x3 = 0 then
        Wy_firstLaneRoad_L2 n v0 v1 v2 (w32 (v3 + 1)) μ4
      else
        bd (getf 10 0 μ4 v1) fun x5 =>
        bd (isk 1 μ4 x5) fun _ =>
        bd2 (Kg_leadsFrom x5 v3 v2 μ4) fun x6 μ7 =>
        if x6 = 0 then
          Wy_firstLaneRoad_L2 n v0 v1 v2 (w32 (v3 + 1)) μ7
        else
          bd (getf 10 0 μ7 v1) fun x8 =>
          bd (isk 1 μ7 x8) fun _ =>
          bd2 (Kg_across x8 v3 v2 μ7) fun x9 μ10 =>
          bd (getf 9 0 μ10 v0) fun x11 =>
          bd (lda 20 μ10 x11 x9) fun x12 =>
          if x12 = 2147483647 then
            Wy_firstLaneRoad_L2 n v0 v1 v2 (w32 (v3 + 1)) μ10
          else
            bd (getf 9 0 μ10 v0) fun x13 =>
            bd (lda 20 μ10 x13 x9) fun x14 =>
            bd (getf 9 1 μ10 v0) fun x15 =>
            bd (lda 20 μ10 x15 v3) fun x16 =>
            bd (getf 9 0 μ10 v0) fun x17 =>
            bd (lda 20 μ10 x17 v2) fun x18 =>
            if (w32 (x14 + x16)) = x18 then
              some (v3, μ10)
            else
              Wy_firstLaneRoad_L2 n v0 v1 v2 (w32 (v3 + 1)) μ10
    else
      some ((-1), μ)
def Wy_firstLaneRoad (a0 a1 a2 : Int) (μ : Mem) : Option (Int × Mem) :=
  Wy_firstLaneRoad_L2 FU a0 a1 a2 0 μ
def Wy_laneRoad_L9  : Nat → Int → Int → Int → Int → Int → Int → Mem → Option (Int × Mem)
  | 0, _, _, _, _, _, _, _ => none
  | n + 1, v0, v1, v3, v4, v5, v6, μ =>
    if v3 < v6 then
      some (v5, μ)
    else
      bd (isk 9 μ v0) fun _ =>
      bd2 (Wy_firstLaneRoad v0 v1 v4 μ) fun x1 μ2 =>
      if x1 = (-1) then
        some ((-1), μ2)
      else
        bd (getf 10 0 μ2 v1) fun x3 =>
        bd (isk 1 μ2 x3) fun _ =>
        bd2 (Kg_across x3 x1 v4 μ2) fun x4 μ5 =>
        Wy_laneRoad_L9 n v0 v1 v3 x4 x1 (w32 (v6 + 1)) μ5
def Wy_laneRoad (a0 a1 a2 a3 : Int) (μ : Mem) : Option (Int × Mem) :=
  Wy_laneRoad_L9 FU a0 a1 a3 a2 (-1) 0 μ
def Wo_init_L35  : Nat → Int → Int → Mem → Option (Int × Mem)
  | 0, _, _, _ => none
  | n + 1, v0, v1, μ =>
    if v1 < 6 then
      bd (getf 10 1 μ v0) fun x1 =>
      bd2 (Tr_init (nlen μ) (newc 6 9 μ)) fun _ μ3 =>
      bd (isk 6 μ3 (nlen μ)) fun _ =>
      bd (sta 24 μ3 x1 v1 (nlen μ)) fun μ4 =>
      Wo_init_L35 n v0 (w32 (v1 + 1)) μ4
    else
      some (0, μ)
def Wo_init (a0 : Int) (μ : Mem) : Option (Int × Mem) :=
  bd (isk 10 μ a0) fun _ =>
  bd2 (Kg_init (nlen μ) (newc 1 13 μ)) fun _ μ2 =>
  bd (putf 10 0 μ2 a0 (nlen μ)) fun μ3 =>
  bd (putf 10 1 (newc 24 6 μ3) a0 (nlen μ3)) fun μ4 =>
  bd (putf 10 2 (newc 20 720 μ4) a0 (nlen μ4)) fun μ5 =>
  Wo_init_L35 7 a0 0 μ5
def Wo_begin (a0 a1 : Int) (μ : Mem) : Option (Int × Mem) :=
  bd (getf 10 0 μ a0) fun x1 =>
  bd (isk 1 μ x1) fun _ =>
  bd2 (Kg_become x1 a1 μ) fun _ μ3 =>
  bd (putf 10 3 μ3 a0 0) fun μ4 =>
  bd (putf 10 4 μ4 a0 0) fun μ5 =>
  bd (putf 10 5 μ5 a0 0) fun μ6 =>
  bd (getf 10 2 μ6 a0) fun x7 =>
  bd2 (J_fill x7 0 μ6) fun _ μ9 =>
  some (0, μ9)
def Wo_become_L53  : Nat → Int → Int → Int → Mem → Option (Int × Mem)
  | 0, _, _, _, _ => none
  | n + 1, v0, v1, v2, μ =>
    bd (getf 10 3 μ v0) fun x1 =>
    if v2 < x1 then
      bd (getf 10 1 μ v0) fun x2 =>
      bd (lda 24 μ x2 v2) fun x3 =>
      bd (getf 10 1 μ v1) fun x4 =>
      bd (lda 24 μ x4 v2) fun x5 =>
      bd (isk 6 μ x3) fun _ =>
      bd2 (Tr_become x3 x5 μ) fun _ μ7 =>
      Wo_become_L53 n v0 v1 (w32 (v2 + 1)) μ7
    else
      some (0, μ)
def Wo_become (a0 a1 : Int) (μ : Mem) : Option (Int × Mem) :=
  bd (getf 10 0 μ a0) fun x1 =>
  bd (getf 10 0 μ a1) fun x2 =>
  bd (isk 1 μ x1) fun _ =>
  bd2 (Kg_become x1 x2 μ) fun _ μ4 =>
  bd (getf 10 3 μ4 a1) fun x5 =>
  bd (putf 10 3 μ4 a0 x5) fun μ6 =>
  bd (getf 10 4 μ6 a1) fun x7 =>
  bd (putf 10 4 μ6 a0 x7) fun μ8 =>
  bd (getf 10 5 μ8 a1) fun x9 =>
  bd (putf 10 5 μ8 a0 x9) fun μ10 =>
  bd (getf 10 2 μ10 a1) fun x11 =>
  bd (getf 10 2 μ10 a0) fun x12 =>
  bd (acopy 20 μ10 x11 0 x12 0 720) fun μ13 =>
  Wo_become_L53 FU a0 a1 0 μ13
def Wo_hasTraveller (a0 a1 : Int) (μ : Mem) : Option (Int × Mem) :=
  if a1 < 0 then
    some (0, μ)
  else
    bd (getf 10 3 μ a0) fun x1 =>
    if a1 < x1 then
      some (1, μ)
    else
      some (0, μ)
def Wo_hasPair (a0 a1 a2 : Int) (μ : Mem) : Option (Int × Mem) :=
  bd (isk 10 μ a0) fun _ =>
  bd2 (Wo_hasTraveller a0 a1 μ) fun x1 μ2 =>
  if x1 = 0 then
    some (0, μ2)
  else
    bd (isk 10 μ2 a0) fun _ =>
    bd2 (Wo_hasTraveller a0 a2 μ2) fun x3 μ4 =>
    if x3 = 0 then
      some (0, μ4)
    else
      if a1 = a2 then
        some (0, μ4)
      else
        some (1, μ4)
def Wo_welcome (a0 a1 : Int) (μ : Mem) : Option (Int × Mem) :=
  bd (getf 10 3 μ a0) fun x1 =>
  if x1 < 6 then
    bd (getf 10 1 μ a0) fun x2 =>
    bd (getf 10 3 μ a0) fun x3 =>
    bd (lda 24 μ x2 x3) fun x4 =>
    bd (getf 10 0 μ a0) fun x5 =>
    bd (getf 1 1 μ x5) fun x6 =>
    bd (isk 6 μ x4) fun _ =>
    bd2 (Tr_begin x4 x6 a1 μ) fun _ μ8 =>
    bd (getf 10 3 μ8 a0) fun x9 =>
    bd (putf 10 3 μ8 a0 (w32 (x9 + 1))) fun μ10 =>
    bd (getf 10 3 μ10 a0) fun x11 =>
    some ((w32 (x11 - 1)), μ10)
  else
    some ((-5), μ)
def Wo_shut (a0 a1 a2 : Int) (μ : Mem) : Option (Int × Mem) :=
  bd (
      if a2 = 0 then
        bd (getf 10 4 μ a0) fun x2 =>
        some (and32 x2 (xor32 (shl32 1 a1) (-1)))
      else
        bd (getf 10 4 μ a0) fun x3 =>
        some (or32 x3 (shl32 1 a1))) fun (y1 : Int) =>
  bd (putf 10 4 μ a0 y1) fun μ4 =>
  some (0, μ4)
def Wo_openRoads (a0 : Int) (μ : Mem) : Option (Int × Mem) :=
  bd (getf 10 0 μ a0) fun x1 =>
  bd (getf 1 7 μ x1) fun x2 =>
  bd (getf 10 4 μ a0) fun x3 =>
  some ((and32 (w32 ((shl32 1 x2) - 1)) (xor32 x3 (-1))), μ)
def Wo_reachable_L26 (k92 : Int → Int → Int → Int → Mem → Option (Int × Mem)) : Nat → Int → Int → Int → Int → Int → Mem → Option (Int × Mem)
  | 0, _, _, _, _, _, _ => none
  | n + 1, v0, v1, v2, v3, v4, μ =>
    bd (getf 10 0 μ v0) fun x1 =>
    bd (getf 1 7 μ x1) fun x2 =>
    if v4 < x2 then
      bd (getf 10 0 μ v0) fun x3 =>
      bd (getf 1 8 μ x3) fun x4 =>
      bd (lda 20 μ x4 v4) fun x5 =>
      bd (getf 10 0 μ v0) fun x6 =>
      bd (getf 1 9 μ x6) fun x7 =>
      bd (lda 20 μ x7 v4) fun x8 =>
      bd (some (or32 (shl32 1 x5) (shl32 1 x8))) fun x9 =>
      if (and32 (shr32 v1 v4) 1) = 0 then
        Wo_reachable_L26 k92 n v0 v1 v2 v3 (w32 (v4 + 1)) μ
      else
        if (and32 v2 x9) = 0 then
          Wo_reachable_L26 k92 n v0 v1 v2 v3 (w32 (v4 + 1)) μ
        else
          bd (some (or32 v2 x9)) fun x10 =>
          Wo_reachable_L26 k92 n v0 v1 x10 v3 (w32 (v4 + 1)) μ
    else
      k92 v0 v1 v2 v3 μ
def Wo_reachable_L12  : Nat → Int → Int → Int → Int → Mem → Option (Int × Mem)
  | 0, _, _, _, _, _ => none
  | n + 1, v0, v1, v2, v3, μ =>
    bd (getf 10 0 μ v0) fun x1 =>
    bd (getf 1 0 μ x1) fun x2 =>
    if v3 < x2 then
      Wo_reachable_L26 (fun x3 x4 x5 x6 μ7 =>
          Wo_reachable_L12 n x3 x4 x5 (w32 (x6 + 1)) μ7) FU v0 v1 v2 v3 0 μ
    else
      some (v2, μ)
def Wo_reachable (a0 a1 : Int) (μ : Mem) : Option (Int × Mem) :=
  bd (getf 10 0 μ a0) fun x1 =>
  bd (getf 1 1 μ x1) fun x2 =>
  bd (some (shl32 1 x2)) fun x3 =>
  Wo_reachable_L12 FU a0 a1 x3 1 μ
def Wo_enter (a0 a1 a2 : Int) (μ : Mem) : Option (Int × Mem) :=
  bd (getf 10 5 μ a0) fun x1 =>
  bd (putf 10 5 μ a0 (w32 (x1 + a2))) fun μ2 =>
  if a1 < 0 then
    some (0, μ2)
  else
    if a1 < 720 then
      bd (getf 10 2 μ2 a0) fun x3 =>
      bd (lda 20 μ2 x3 a1) fun x4 =>
      bd (sta 20 μ2 x3 a1 (w32 (x4 + a2))) fun μ5 =>
      some (0, μ5)
    else
      some (0, μ2)
def Wo_move (a0 a1 a2 : Int) (μ : Mem) : Option (Int × Mem) :=
  bd (getf 6 1 μ a1) fun x1 =>
  bd (isk 10 μ a0) fun _ =>
  bd2 (Wo_step a0 a1 a2 μ) fun x2 μ3 =>
  if x2 < 1000 then
    if 0 < x2 then
      bd (isk 10 μ3 a0) fun _ =>
      bd2 (Wo_enter a0 x1 x2 μ3) fun _ μ5 =>
      some (x2, μ5)
    else
      some (x2, μ3)
  else
    bd (isk 10 μ3 a0) fun _ =>
    bd2 (Wo_enter a0 x1 (w32 (1000 - x2)) μ3) fun _ μ7 =>
    some (x2, μ7)
def Wo_allSlips_L4  : Nat → Int → Int → Int → Mem → Option (Int × Mem)
  | 0, _, _, _, _ => none
  | n + 1, v0, v1, v2, μ =>
    bd (getf 10 3 μ v0) fun x1 =>
    if v2 < x1 then
      bd (getf 10 1 μ v0) fun x2 =>
      bd (lda 24 μ x2 v2) fun x3 =>
      bd (getf 6 5 μ x3) fun x4 =>
      bd (some (w32 (v1 + x4))) fun x5 =>
      Wo_allSlips_L4 n v0 x5 (w32 (v2 + 1)) μ
    else
      some (v1, μ)
def Wo_allSlips (a0 : Int) (μ : Mem) : Option (Int × Mem) :=
  Wo_allSlips_L4 FU a0 0 0 μ
def Wo_lateSlips_L22 (k62 : Int → Int → Int → Mem → Option (Int × Mem)) : Nat → Int → Int → Int → Int → Int → Mem → Option (Int × Mem)
  | 0, _, _, _, _, _, _ => none
  | n + 1, v0, v1, v2, v3, v4, μ =>
    bd (getf 6 5 μ v3) fun x1 =>
    if v4 < x1 then
      bd (getf 10 0 μ v0) fun x2 =>
      bd (getf 6 1 μ v3) fun x3 =>
      bd (isk 1 μ x2) fun _ =>
      bd2 (Kg_isLate x2 v3 v4 x3 μ) fun x4 μ5 =>
      if x4 = 0 then
        bd (some (w32 (v1 + 0))) fun x6 =>
        Wo_lateSlips_L22 k62 n v0 x6 v2 v3 (w32 (v4 + 1)) μ5
      else
        bd (some (w32 (v1 + 1))) fun x7 =>
        Wo_lateSlips_L22 k62 n v0 x7 v2 v3 (w32 (v4 + 1)) μ5
    else
      k62 v0 v1 v2 μ
def Wo_lateSlips_L4  : Nat → Int → Int → Int → Mem → Option (Int × Mem)
  | 0, _, _, _, _ => none
  | n + 1, v0, v1, v2, μ =>
    bd (getf 10 3 μ v0) fun x1 =>
    if v2 < x1 then
      bd (getf 10 1 μ v0) fun x2 =>
      bd (lda 24 μ x2 v2) fun x3 =>
      Wo_lateSlips_L22 (fun x4 x5 x6 μ7 =>
          Wo_lateSlips_L4 n x4 x5 (w32 (x6 + 1)) μ7) FU v0 v1 v2 x3 0 μ
    else
      some (v1, μ)
def Wo_lateSlips (a0 : Int) (μ : Mem) : Option (Int × Mem) :=
  Wo_lateSlips_L4 FU a0 0 0 μ
def Wo_debtOn_L15 (k54 : Int → Int → Int → Int → Mem → Option (Int × Mem)) : Nat → Int → Int → Int → Int → Int → Mem → Option (Int × Mem)
  | 0, _, _, _, _, _, _ => none
  | n + 1, v0, v1, v2, v3, v4, μ =>
    bd (getf 10 1 μ v0) fun x1 =>
    bd (lda 24 μ x1 v3) fun x2 =>
    bd (getf 6 5 μ x2) fun x3 =>
    if v4 < x3 then
      bd (getf 10 0 μ v0) fun x4 =>
      bd (getf 10 1 μ v0) fun x5 =>
      bd (lda 24 μ x5 v3) fun x6 =>
      bd (isk 1 μ x4) fun _ =>
      bd2 (Kg_worthOn x4 x6 v4 v1 μ) fun x7 μ8 =>
      bd (some (w32 (v2 + x7))) fun x9 =>
      Wo_debtOn_L15 k54 n v0 v1 x9 v3 (w32 (v4 + 1)) μ8
    else
      k54 v0 v1 v2 v3 μ
def Wo_debtOn_L4  : Nat → Int → Int → Int → Int → Mem → Option (Int × Mem)
  | 0, _, _, _, _, _ => none
  | n + 1, v0, v1, v2, v3, μ =>
    bd (getf 10 3 μ v0) fun x1 =>
    if v3 < x1 then
      Wo_debtOn_L15 (fun x2 x3 x4 x5 μ6 =>
          Wo_debtOn_L4 n x2 x3 x4 (w32 (x5 + 1)) μ6) FU v0 v1 v2 v3 0 μ
    else
      some (v2, μ)
def Wo_debtOn (a0 a1 : Int) (μ : Mem) : Option (Int × Mem) :=
  Wo_debtOn_L4 FU a0 a1 0 0 μ
def Wo_firstSlipDay_L22 (k64 : Int → Int → Int → Mem → Option (Int × Mem)) : Nat → Int → Int → Int → Int → Int → Mem → Option (Int × Mem)
  | 0, _, _, _, _, _, _ => none
  | n + 1, v0, v1, v2, v3, v4, μ =>
    bd (getf 6 5 μ v3) fun x1 =>
    if v4 < x1 then
      if v1 = (-1) then
        bd (getf 6 7 μ v3) fun x6 =>
        bd (lda 20 μ x6 v4) fun x7 =>
        Wo_firstSlipDay_L22 k64 n v0 x7 v2 v3 (w32 (v4 + 1)) μ
      else
        bd (getf 6 7 μ v3) fun x2 =>
        bd (lda 20 μ x2 v4) fun x3 =>
        bd2 (J_min v1 x3 μ) fun x4 μ5 =>
        Wo_firstSlipDay_L22 k64 n v0 x4 v2 v3 (w32 (v4 + 1)) μ5
    else
      k64 v0 v1 v2 μ
def Wo_firstSlipDay_L4  : Nat → Int → Int → Int → Mem → Option (Int × Mem)
  | 0, _, _, _, _ => none
  | n + 1, v0, v1, v2, μ =>
    bd (getf 10 3 μ v0) fun x1 =>
    if v2 < x1 then
      bd (getf 10 1 μ v0) fun x2 =>
      bd (lda 24 μ x2 v2) fun x3 =>
      Wo_firstSlipDay_L22 (fun x4 x5 x6 μ7 =>
          Wo_firstSlipDay_L4 n x4 x5 (w32 (x6 + 1)) μ7) FU v0 v1 v2 x3 0 μ
    else
      some (v1, μ)
def Wo_firstSlipDay (a0 : Int) (μ : Mem) : Option (Int × Mem) :=
  Wo_firstSlipDay_L4 FU a0 (-1) 0 μ
def T_init_L156  : Nat → Int → Int → Mem → Option (Int × Mem)
  | 0, _, _, _ => none
  | n + 1, v0, v1, μ =>
    if v1 < 4 then
      bd (getf 11 6 μ v0) fun x1 =>
      bd2 (Nu_init (nlen μ) (newc 2 4 μ)) fun _ μ3 =>
      bd (isk 2 μ3 (nlen μ)) fun _ =>
      bd (sta 26 μ3 x1 v1 (nlen μ)) fun μ4 =>
      T_init_L156 n v0 (w32 (v1 + 1)) μ4
    else
      some (0, μ)
def T_init (a0 : Int) (μ : Mem) : Option (Int × Mem) :=
  bd (isk 11 μ a0) fun _ =>
  bd (putf 11 0 (newc 22 700 μ) a0 (nlen μ)) fun μ1 =>
  bd (putf 11 1 μ1 a0 0) fun μ2 =>
  bd (putf 11 2 μ2 a0 0) fun μ3 =>
  bd (putf 11 3 μ3 a0 (-1)) fun μ4 =>
  bd2 (Wo_init (nlen μ4) (newc 10 6 μ4)) fun _ μ6 =>
  bd (putf 11 4 μ6 a0 (nlen μ4)) fun μ7 =>
  bd (putf 11 5 (newc 25 2 μ7) a0 (nlen μ7)) fun μ8 =>
  bd (putf 11 6 (newc 26 4 μ8) a0 (nlen μ8)) fun μ9 =>
  bd2 (Rd_init (nlen μ9) (newc 3 9 μ9)) fun _ μ11 =>
  bd (putf 11 7 μ11 a0 (nlen μ9)) fun μ12 =>
  bd2 (Tr_init (nlen μ12) (newc 6 9 μ12)) fun _ μ14 =>
  bd (putf 11 8 μ14 a0 (nlen μ12)) fun μ15 =>
  bd2 (Tp_init (nlen μ15) (newc 8 6 μ15)) fun _ μ17 =>
  bd (putf 11 9 μ17 a0 (nlen μ15)) fun μ18 =>
  bd2 (Tp_init (nlen μ18) (newc 8 6 μ18)) fun _ μ20 =>
  bd (putf 11 10 μ20 a0 (nlen μ18)) fun μ21 =>
  bd2 (Re_init (nlen μ21) (newc 4 4 μ21)) fun _ μ23 =>
  bd (putf 11 11 μ23 a0 (nlen μ21)) fun μ24 =>
  bd2 (Wy_init (nlen μ24) (newc 9 2 μ24)) fun _ μ26 =>
  bd (putf 11 12 μ26 a0 (nlen μ24)) fun μ27 =>
  bd2 (To_init (nlen μ27) (newc 5 10 μ27)) fun _ μ29 =>
  bd (putf 11 13 μ29 a0 (nlen μ27)) fun μ30 =>
  bd2 (Ct_init (nlen μ30) (newc 0 8 μ30)) fun _ μ32 =>
  bd (putf 11 14 μ32 a0 (nlen μ30)) fun μ33 =>
  bd2 (Te_init (nlen μ33) (newc 7 2 μ33)) fun _ μ35 =>
  bd (putf 11 15 μ35 a0 (nlen μ33)) fun μ36 =>
  T_init_L156 5 a0 0 μ36
def T_tapeInt_L3  : Nat → Int → Int → Int → Mem → Option (Int × Mem)
  | 0, _, _, _, _ => none
  | n + 1, v0, v1, v2, μ =>
    if v2 < 0 then
      some (0, μ)
    else
      bd (getf 11 1 μ v0) fun x1 =>
      if x1 < 700 then
        bd (getf 11 0 μ v0) fun x2 =>
        bd (getf 11 1 μ v0) fun x3 =>
        bd (okb (w8 (ushr32 v1 v2))) fun _ =>
        bd (sta 22 μ x2 x3 (w8 (ushr32 v1 v2))) fun μ4 =>
        bd (getf 11 1 μ4 v0) fun x5 =>
        bd (putf 11 1 μ4 v0 (w32 (x5 + 1))) fun μ6 =>
        T_tapeInt_L3 n v0 v1 (w32 (v2 + (-8))) μ6
      else
        some (0, μ)
def T_tapeInt (a0 a1 : Int) (μ : Mem) : Option (Int × Mem) :=
  T_tapeInt_L3 FU a0 a1 24 μ
def T_feed (a0 a1 a2 a3 a4 a5 : Int) (μ : Mem) : Option (Int × Mem) :=
  bd (getf 11 1 μ a0) fun x1 =>
  if 700 < (w32 (x1 + 20)) then
    some ((-5), μ)
  else
    bd (isk 11 μ a0) fun _ =>
    bd2 (T_tapeInt a0 a1 μ) fun _ μ3 =>
    bd (isk 11 μ3 a0) fun _ =>
    bd2 (T_tapeInt a0 a2 μ3) fun _ μ5 =>
    bd (isk 11 μ5 a0) fun _ =>
    bd2 (T_tapeInt a0 a3 μ5) fun _ μ7 =>
    bd (isk 11 μ7 a0) fun _ =>
    bd2 (T_tapeInt a0 a4 μ7) fun _ μ9 =>
    bd (isk 11 μ9 a0) fun _ =>
    bd2 (T_tapeInt a0 a5 μ9) fun _ μ11 =>
    bd (getf 11 1 μ11 a0) fun x12 =>
    some (x12, μ11)
def T_kingdom (a0 a1 : Int) (μ : Mem) : Option (Int × Mem) :=
  if a1 < 0 then
    some ((-3), μ)
  else
    bd (getf 11 1 μ a0) fun x1 =>
    if x1 < a1 then
      some ((-3), μ)
    else
      bd (getf 11 7 μ a0) fun x2 =>
      bd (getf 11 0 μ a0) fun x3 =>
      bd (isk 3 μ x2) fun _ =>
      bd2 (Rd_read x2 x3 a1 μ) fun _ μ5 =>
      bd (putf 11 1 μ5 a0 0) fun μ6 =>
      bd (getf 11 7 μ6 a0) fun x7 =>
      bd (getf 3 1 μ6 x7) fun x8 =>
      bd (putf 11 2 μ6 a0 x8) fun μ9 =>
      bd (getf 11 7 μ9 a0) fun x10 =>
      bd (getf 3 2 μ9 x10) fun x11 =>
      bd (putf 11 3 μ9 a0 x11) fun μ12 =>
      bd (getf 11 2 μ12 a0) fun x13 =>
      if x13 = 0 then
        bd (getf 11 4 μ12 a0) fun x14 =>
        bd (getf 11 7 μ12 a0) fun x15 =>
        bd (getf 3 0 μ12 x15) fun x16 =>
        bd (isk 10 μ12 x14) fun _ =>
        bd2 (Wo_begin x14 x16 μ12) fun _ μ18 =>
        bd (getf 11 4 μ18 a0) fun x19 =>
        bd (getf 10 0 μ18 x19) fun x20 =>
        bd (getf 1 6 μ18 x20) fun x21 =>
        some (x21, μ18)
      else
        bd (getf 11 2 μ12 a0) fun x22 =>
        some ((w32 ((-30) - x22)), μ12)
def T_fault (a0 a1 : Int) (μ : Mem) : Option (Int × Mem) :=
  if a1 = 0 then
    bd (getf 11 2 μ a0) fun x1 =>
    some (x1, μ)
  else
    if a1 = 1 then
    bd (getf 11 3 μ a0) fun x2 =>
    some (x2, μ)
  else
    some ((-1), μ)
def T_road (a0 a1 a2 : Int) (μ : Mem) : Option (Int × Mem) :=
  bd (getf 11 4 μ a0) fun x1 =>
  bd (getf 10 0 μ x1) fun x2 =>
  bd (isk 1 μ x2) fun _ =>
  bd2 (Kg_hasRoad x2 a1 μ) fun x3 μ4 =>
  if x3 = 0 then
    some ((-2), μ4)
  else
    if a2 = 0 then
      bd (getf 1 8 μ4 x2) fun x5 =>
      bd (lda 20 μ4 x5 a1) fun x6 =>
      some (x6, μ4)
    else
      if a2 = 1 then
      bd (getf 1 9 μ4 x2) fun x7 =>
      bd (lda 20 μ4 x7 a1) fun x8 =>
      some (x8, μ4)
    else
      if a2 = 2 then
      bd (getf 1 10 μ4 x2) fun x9 =>
      bd (lda 20 μ4 x9 a1) fun x10 =>
      some (x10, μ4)
    else
      if a2 = 3 then
      bd (getf 1 11 μ4 x2) fun x11 =>
      bd (lda 20 μ4 x11 a1) fun x12 =>
      some (x12, μ4)
    else
      if a2 = 4 then
      bd (getf 1 12 μ4 x2) fun x13 =>
      bd (lda 20 μ4 x13 a1) fun x14 =>
      some (x14, μ4)
    else
      if a2 = 5 then
      bd (getf 11 4 μ4 a0) fun x15 =>
      bd (isk 10 μ4 x15) fun _ =>
      bd2 (Wo_isOpen x15 a1 μ4) fun x16 μ17 =>
      if x16 = 0 then
        some (1, μ17)
      else
        some (0, μ17)
    else
      some ((-2), μ4)
def T_from (a0 a1 : Int) (μ : Mem) : Option (Int × Mem) :=
  bd (getf 11 4 μ a0) fun x1 =>
  bd (getf 10 0 μ x1) fun x2 =>
  bd (isk 1 μ x2) fun _ =>
  bd2 (Kg_hasTown x2 a1 μ) fun x3 μ4 =>
  if x3 = 0 then
    some ((-2), μ4)
  else
    bd (getf 11 4 μ4 a0) fun x5 =>
    bd (isk 10 μ4 x5) fun _ =>
    bd2 (Wo_openRoadsAt x5 a1 μ4) fun x6 μ7 =>
    some (x6, μ7)
def T_close (a0 a1 a2 : Int) (μ : Mem) : Option (Int × Mem) :=
  bd (getf 11 4 μ a0) fun x1 =>
  bd (getf 10 0 μ x1) fun x2 =>
  bd (isk 1 μ x2) fun _ =>
  bd2 (Kg_hasRoad x2 a1 μ) fun x3 μ4 =>
  if x3 = 0 then
    some ((-2), μ4)
  else
    bd (getf 11 4 μ4 a0) fun x5 =>
    bd (isk 10 μ4 x5) fun _ =>
    bd2 (Wo_isOpen x5 a1 μ4) fun x6 μ7 =>
    bd (
        if x6 = 0 then
          some 1
        else
          some 0) fun (y8 : Int) =>
    bd (getf 11 4 μ7 a0) fun x9 =>
    bd (isk 10 μ7 x9) fun _ =>
    bd2 (Wo_shut x9 a1 a2 μ7) fun _ μ11 =>
    some (y8, μ11)
def T_when_L52  : Nat → Int → Int → Int → Int → Int → Mem → Option (Int × Mem)
  | 0, _, _, _, _, _, _ => none
  | n + 1, v1, v2, v3, v4, v5, μ =>
    if v5 < (w32 (v2 + 360)) then
      bd (isk 1 μ v3) fun _ =>
      bd2 (Kg_tollOn v3 v1 v5 μ) fun x1 μ2 =>
      if x1 = v4 then
        some (v5, μ2)
      else
        T_when_L52 n v1 v2 v3 v4 (w32 (v5 + 1)) μ2
    else
      some (v2, μ)
def T_when (a0 a1 a2 : Int) (μ : Mem) : Option (Int × Mem) :=
  bd (getf 11 4 μ a0) fun x1 =>
  bd (getf 10 0 μ x1) fun x2 =>
  bd (isk 1 μ x2) fun _ =>
  bd2 (Kg_hasRoad x2 a1 μ) fun x3 μ4 =>
  if x3 = 0 then
    some ((-2), μ4)
  else
    if a2 < 0 then
      some ((-3), μ4)
    else
      if 99999 < a2 then
        some ((-3), μ4)
      else
        bd (getf 1 10 μ4 x2) fun x5 =>
        bd (lda 20 μ4 x5 a1) fun x6 =>
        bd (getf 1 11 μ4 x2) fun x7 =>
        bd (lda 20 μ4 x7 a1) fun x8 =>
        bd2 (J_min x6 x8 μ4) fun x9 μ10 =>
        T_when_L52 FU a1 a2 x2 x9 a2 μ10
def T_summer (a0 a1 : Int) (μ : Mem) : Option (Int × Mem) :=
  if a1 < 0 then
    some ((-3), μ)
  else
    bd (getf 11 4 μ a0) fun x1 =>
    bd (getf 10 0 μ x1) fun x2 =>
    bd (isk 1 μ x2) fun _ =>
    bd2 (Kg_isSummer x2 a1 μ) fun x3 μ4 =>
    if x3 = 0 then
      some (0, μ4)
    else
      some (1, μ4)
def T_comes (a0 a1 : Int) (μ : Mem) : Option (Int × Mem) :=
  bd (getf 11 4 μ a0) fun x1 =>
  bd (getf 10 3 μ x1) fun x2 =>
  if x2 < 6 then
    bd (getf 11 4 μ a0) fun x3 =>
    bd (getf 10 0 μ x3) fun x4 =>
    bd (getf 1 0 μ x4) fun x5 =>
    if x5 = 0 then
      some ((-5), μ)
    else
      if a1 < 0 then
        some ((-3), μ)
      else
        if 1000000 < a1 then
          some ((-3), μ)
        else
          bd (getf 11 4 μ a0) fun x6 =>
          bd (isk 10 μ x6) fun _ =>
          bd2 (Wo_welcome x6 a1 μ) fun x7 μ8 =>
          some (x7, μ8)
  else
    some ((-5), μ)
def T_of (a0 a1 a2 : Int) (μ : Mem) : Option (Int × Mem) :=
  bd (getf 11 4 μ a0) fun x1 =>
  bd (isk 10 μ x1) fun _ =>
  bd2 (Wo_hasTraveller x1 a1 μ) fun x2 μ3 =>
  if x2 = 0 then
    some ((-2), μ3)
  else
    bd (getf 11 4 μ3 a0) fun x4 =>
    bd (getf 10 1 μ3 x4) fun x5 =>
    bd (lda 24 μ3 x5 a1) fun x6 =>
    if a2 = 0 then
      bd (getf 6 0 μ3 x6) fun x7 =>
      some (x7, μ3)
    else
      if a2 = 1 then
      bd (getf 6 1 μ3 x6) fun x8 =>
      some (x8, μ3)
    else
      if a2 = 2 then
      bd (getf 6 2 μ3 x6) fun x9 =>
      some (x9, μ3)
    else
      if a2 = 3 then
      bd (getf 6 5 μ3 x6) fun x10 =>
      some (x10, μ3)
    else
      if a2 = 4 then
      bd (getf 6 3 μ3 x6) fun x11 =>
      some (x11, μ3)
    else
      if a2 = 5 then
      bd (getf 6 4 μ3 x6) fun x12 =>
      some (x12, μ3)
    else
      some ((-2), μ3)
def T_slip (a0 a1 a2 a3 : Int) (μ : Mem) : Option (Int × Mem) :=
  bd (getf 11 4 μ a0) fun x1 =>
  bd (isk 10 μ x1) fun _ =>
  bd2 (Wo_hasTraveller x1 a1 μ) fun x2 μ3 =>
  if x2 = 0 then
    some ((-2), μ3)
  else
    if a3 < 0 then
      some ((-2), μ3)
    else
      if 5 < a3 then
        some ((-2), μ3)
      else
        bd (getf 11 4 μ3 a0) fun x4 =>
        bd (getf 10 1 μ3 x4) fun x5 =>
        bd (lda 24 μ3 x5 a1) fun x6 =>
        if a2 < 0 then
          some ((-7), μ3)
        else
          bd (getf 6 5 μ3 x6) fun x7 =>
          if a2 < x7 then
            if a3 = 0 then
              bd (getf 6 6 μ3 x6) fun x8 =>
              bd (lda 20 μ3 x8 a2) fun x9 =>
              some ((shr32 x9 1), μ3)
            else
              if a3 = 1 then
              bd (getf 11 4 μ3 a0) fun x10 =>
              bd (getf 10 0 μ3 x10) fun x11 =>
              bd (getf 6 6 μ3 x6) fun x12 =>
              bd (lda 20 μ3 x12 a2) fun x13 =>
              bd (isk 1 μ3 x11) fun _ =>
              bd2 (Kg_startOf x11 x13 μ3) fun x14 μ15 =>
              some (x14, μ15)
            else
              if a3 = 2 then
              bd (getf 11 4 μ3 a0) fun x16 =>
              bd (getf 10 0 μ3 x16) fun x17 =>
              bd (getf 6 6 μ3 x6) fun x18 =>
              bd (lda 20 μ3 x18 a2) fun x19 =>
              bd (isk 1 μ3 x17) fun _ =>
              bd2 (Kg_endOf x17 x19 μ3) fun x20 μ21 =>
              some (x20, μ21)
            else
              if a3 = 3 then
              bd (getf 6 7 μ3 x6) fun x22 =>
              bd (lda 20 μ3 x22 a2) fun x23 =>
              some (x23, μ3)
            else
              if a3 = 4 then
              bd (getf 6 8 μ3 x6) fun x24 =>
              bd (lda 20 μ3 x24 a2) fun x25 =>
              some (x25, μ3)
            else
              bd (getf 11 4 μ3 a0) fun x26 =>
            bd (getf 10 0 μ3 x26) fun x27 =>
            bd (getf 6 1 μ3 x6) fun x28 =>
            bd (isk 1 μ3 x27) fun _ =>
            bd2 (Kg_worthOn x27 x6 a2 x28 μ3) fun x29 μ30 =>
            some (x29, μ30)
          else
            some ((-7), μ3)
def T_go (a0 a1 a2 : Int) (μ : Mem) : Option (Int × Mem) :=
  bd (getf 11 4 μ a0) fun x1 =>
  bd (isk 10 μ x1) fun _ =>
  bd2 (Wo_hasTraveller x1 a1 μ) fun x2 μ3 =>
  if x2 = 0 then
    some ((-2), μ3)
  else
    bd (getf 11 4 μ3 a0) fun x4 =>
    bd (getf 10 0 μ3 x4) fun x5 =>
    bd (isk 1 μ3 x5) fun _ =>
    bd2 (Kg_hasRoad x5 a2 μ3) fun x6 μ7 =>
    if x6 = 0 then
      some ((-2), μ7)
    else
      bd (getf 11 4 μ7 a0) fun x8 =>
      bd (getf 11 4 μ7 a0) fun x9 =>
      bd (getf 10 1 μ7 x9) fun x10 =>
      bd (lda 24 μ7 x10 a1) fun x11 =>
      bd (isk 10 μ7 x8) fun _ =>
      bd2 (Wo_move x8 x11 a2 μ7) fun x12 μ13 =>
      some (x12, μ13)
def T_toss (a0 a1 : Int) (μ : Mem) : Option (Int × Mem) :=
  bd (getf 11 4 μ a0) fun x1 =>
  bd (isk 10 μ x1) fun _ =>
  bd2 (Wo_hasTraveller x1 a1 μ) fun x2 μ3 =>
  if x2 = 0 then
    some ((-2), μ3)
  else
    bd (getf 11 4 μ3 a0) fun x4 =>
    bd (getf 10 1 μ3 x4) fun x5 =>
    bd (lda 24 μ3 x5 a1) fun x6 =>
    bd (getf 6 5 μ3 x6) fun x7 =>
    if x7 = 0 then
      some ((-5), μ3)
    else
      bd (getf 6 5 μ3 x6) fun x8 =>
      bd (putf 6 5 μ3 x6 (w32 (x8 - 1))) fun μ9 =>
      bd (getf 6 8 μ9 x6) fun x10 =>
      bd (getf 6 5 μ9 x6) fun x11 =>
      bd (lda 20 μ9 x10 x11) fun x12 =>
      some (x12, μ9)
def T_rest (a0 a1 a2 : Int) (μ : Mem) : Option (Int × Mem) :=
  bd (getf 11 4 μ a0) fun x1 =>
  bd (isk 10 μ x1) fun _ =>
  bd2 (Wo_hasTraveller x1 a1 μ) fun x2 μ3 =>
  if x2 = 0 then
    some ((-2), μ3)
  else
    if a2 < 0 then
      some ((-3), μ3)
    else
      if 9999 < a2 then
        some ((-3), μ3)
      else
        bd (getf 11 4 μ3 a0) fun x4 =>
        bd (getf 10 1 μ3 x4) fun x5 =>
        bd (lda 24 μ3 x5 a1) fun x6 =>
        bd (getf 6 1 μ3 x6) fun x7 =>
        if 99999 < (w32 (x7 + a2)) then
          some ((-5), μ3)
        else
          bd (getf 6 1 μ3 x6) fun x8 =>
          bd (putf 6 1 μ3 x6 (w32 (x8 + a2))) fun μ9 =>
          bd (getf 6 1 μ9 x6) fun x10 =>
          some (x10, μ9)
def T_give (a0 a1 a2 a3 : Int) (μ : Mem) : Option (Int × Mem) :=
  bd (getf 11 4 μ a0) fun x1 =>
  bd (isk 10 μ x1) fun _ =>
  bd2 (Wo_hasPair x1 a1 a2 μ) fun x2 μ3 =>
  if x2 = 0 then
    some ((-2), μ3)
  else
    bd (getf 11 4 μ3 a0) fun x4 =>
    bd (getf 10 1 μ3 x4) fun x5 =>
    bd (lda 24 μ3 x5 a1) fun x6 =>
    bd (getf 11 4 μ3 a0) fun x7 =>
    bd (getf 10 1 μ3 x7) fun x8 =>
    bd (lda 24 μ3 x8 a2) fun x9 =>
    bd (getf 6 0 μ3 x6) fun x10 =>
    bd (getf 6 0 μ3 x9) fun x11 =>
    if x10 = x11 then
      bd (getf 6 5 μ3 x6) fun x12 =>
      if x12 = 0 then
        some ((-5), μ3)
      else
        if a3 < 0 then
          some ((-3), μ3)
        else
          bd (getf 6 2 μ3 x9) fun x13 =>
          if x13 < a3 then
            some ((-3), μ3)
          else
            bd (getf 6 5 μ3 x9) fun x14 =>
            if x14 < 40 then
              bd (isk 6 μ3 x9) fun _ =>
              bd2 (Tr_takeTopOf x9 x6 μ3) fun _ μ16 =>
              bd (getf 6 5 μ16 x6) fun x17 =>
              bd (putf 6 5 μ16 x6 (w32 (x17 - 1))) fun μ18 =>
              bd (getf 6 2 μ18 x6) fun x19 =>
              bd (putf 6 2 μ18 x6 (w32 (x19 + a3))) fun μ20 =>
              bd (getf 6 2 μ20 x9) fun x21 =>
              bd (putf 6 2 μ20 x9 (w32 (x21 - a3))) fun μ22 =>
              bd (getf 6 5 μ22 x9) fun x23 =>
              some (x23, μ22)
            else
              some ((-4), μ3)
    else
      some ((-5), μ3)
def T_change (a0 a1 a2 : Int) (μ : Mem) : Option (Int × Mem) :=
  bd (getf 11 4 μ a0) fun x1 =>
  bd (isk 10 μ x1) fun _ =>
  bd2 (Wo_hasPair x1 a1 a2 μ) fun x2 μ3 =>
  if x2 = 0 then
    some ((-2), μ3)
  else
    bd (getf 11 4 μ3 a0) fun x4 =>
    bd (getf 10 1 μ3 x4) fun x5 =>
    bd (lda 24 μ3 x5 a1) fun x6 =>
    bd (getf 6 0 μ3 x6) fun x7 =>
    bd (getf 11 4 μ3 a0) fun x8 =>
    bd (getf 10 1 μ3 x8) fun x9 =>
    bd (lda 24 μ3 x9 a2) fun x10 =>
    bd (getf 6 0 μ3 x10) fun x11 =>
    if x7 = x11 then
      bd (getf 11 4 μ3 a0) fun x12 =>
      bd (getf 10 1 μ3 x12) fun x13 =>
      bd (lda 24 μ3 x13 a2) fun x14 =>
      bd (isk 6 μ3 x6) fun _ =>
      bd2 (Tr_swapSlips x6 x14 μ3) fun _ μ16 =>
      bd (getf 6 5 μ16 x6) fun x17 =>
      some (x17, μ16)
    else
      some ((-5), μ3)
def T_isRow (a0 : Int) (μ : Mem) : Option (Int × Mem) :=
  if a0 < 0 then
    some (0, μ)
  else
    if a0 < 4 then
      some (1, μ)
    else
      some (0, μ)
def T_judge (a0 a1 a2 a3 : Int) (μ : Mem) : Option (Int × Mem) :=
  bd (getf 11 4 μ a0) fun x1 =>
  bd (isk 10 μ x1) fun _ =>
  bd2 (Wo_hasTraveller x1 a1 μ) fun x2 μ3 =>
  if x2 = 0 then
    some ((-2), μ3)
  else
    bd2 (T_isRow a2 μ3) fun x4 μ5 =>
    if x4 = 0 then
      some ((-2), μ5)
    else
      if a3 < 0 then
        some ((-2), μ5)
      else
        if 6 < a3 then
          some ((-2), μ5)
        else
          bd (getf 11 6 μ5 a0) fun x6 =>
          bd (lda 26 μ5 x6 a2) fun x7 =>
          bd (getf 2 2 μ5 x7) fun x8 =>
          if x8 = 0 then
            bd (getf 11 4 μ5 a0) fun x9 =>
            bd (getf 10 1 μ5 x9) fun x10 =>
            bd (lda 24 μ5 x10 a1) fun x11 =>
            bd (getf 11 9 μ5 a0) fun x12 =>
            bd (getf 11 4 μ5 a0) fun x13 =>
            bd (getf 11 6 μ5 a0) fun x14 =>
            bd (lda 26 μ5 x14 a2) fun x15 =>
            bd (getf 6 2 μ5 x11) fun x16 =>
            bd (isk 8 μ5 x12) fun _ =>
            bd2 (Tp_follow x12 x13 x11 x15 x16 μ5) fun _ μ18 =>
            if a3 = 0 then
              bd (getf 11 9 μ18 a0) fun x19 =>
              bd (getf 8 4 μ18 x19) fun x20 =>
              if x20 = 0 then
                some ((-1), μ18)
              else
                bd (getf 11 9 μ18 a0) fun x21 =>
                bd (getf 8 3 μ18 x21) fun x22 =>
                some (x22, μ18)
            else
              if a3 = 1 then
              bd (getf 11 9 μ18 a0) fun x23 =>
              bd (getf 8 4 μ18 x23) fun x24 =>
              some (x24, μ18)
            else
              if a3 = 2 then
              bd (getf 11 9 μ18 a0) fun x25 =>
              bd (getf 8 0 μ18 x25) fun x26 =>
              bd (getf 6 3 μ18 x26) fun x27 =>
              bd (getf 6 3 μ18 x11) fun x28 =>
              some ((w32 (x27 - x28)), μ18)
            else
              if a3 = 3 then
              bd (getf 11 9 μ18 a0) fun x29 =>
              bd (getf 8 0 μ18 x29) fun x30 =>
              bd (getf 6 4 μ18 x30) fun x31 =>
              bd (getf 6 4 μ18 x11) fun x32 =>
              some ((w32 (x31 - x32)), μ18)
            else
              if a3 = 4 then
              bd (getf 11 9 μ18 a0) fun x33 =>
              bd (getf 8 0 μ18 x33) fun x34 =>
              bd (getf 6 5 μ18 x34) fun x35 =>
              some (x35, μ18)
            else
              if a3 = 5 then
              bd (getf 11 9 μ18 a0) fun x36 =>
              bd (getf 8 0 μ18 x36) fun x37 =>
              bd (getf 6 0 μ18 x37) fun x38 =>
              some (x38, μ18)
            else
              bd (getf 11 9 μ18 a0) fun x39 =>
            bd (getf 8 0 μ18 x39) fun x40 =>
            bd (getf 6 1 μ18 x40) fun x41 =>
            some (x41, μ18)
          else
            some ((-6), μ5)
def T_perform_L46  : Nat → Int → Int → Int → Int → Mem → Option (Int × Mem)
  | 0, _, _, _, _, _ => none
  | n + 1, v0, v1, v3, v4, μ =>
    bd (getf 2 1 μ v3) fun x1 =>
    if v4 < x1 then
      bd (getf 11 4 μ v0) fun x2 =>
      bd (getf 11 4 μ v0) fun x3 =>
      bd (getf 10 1 μ x3) fun x4 =>
      bd (lda 24 μ x4 v1) fun x5 =>
      bd (isk 2 μ v3) fun _ =>
      bd2 (Nu_smallAt v3 v4 μ) fun x6 μ7 =>
      bd (isk 10 μ7 x2) fun _ =>
      bd2 (Wo_move x2 x5 x6 μ7) fun x8 μ9 =>
      if x8 < 0 then
        some (v4, μ9)
      else
        T_perform_L46 n v0 v1 v3 (w32 (v4 + 1)) μ9
    else
      some (v4, μ)
def T_perform (a0 a1 a2 : Int) (μ : Mem) : Option (Int × Mem) :=
  bd (getf 11 4 μ a0) fun x1 =>
  bd (isk 10 μ x1) fun _ =>
  bd2 (Wo_hasTraveller x1 a1 μ) fun x2 μ3 =>
  if x2 = 0 then
    some ((-2), μ3)
  else
    bd2 (T_isRow a2 μ3) fun x4 μ5 =>
    if x4 = 0 then
      some ((-2), μ5)
    else
      bd (getf 11 6 μ5 a0) fun x6 =>
      bd (lda 26 μ5 x6 a2) fun x7 =>
      bd (getf 2 2 μ5 x7) fun x8 =>
      if x8 = 0 then
        bd (getf 11 6 μ5 a0) fun x9 =>
        bd (lda 26 μ5 x9 a2) fun x10 =>
        T_perform_L46 FU a0 a1 x10 0 μ5
      else
        some ((-6), μ5)
def T_treasury (a0 a1 : Int) (μ : Mem) : Option (Int × Mem) :=
  if a1 = 0 then
    bd (getf 11 4 μ a0) fun x1 =>
    bd (getf 10 5 μ x1) fun x2 =>
    some (x2, μ)
  else
    if a1 = 1 then
    bd (getf 11 4 μ a0) fun x3 =>
    bd (isk 10 μ x3) fun _ =>
    bd2 (Wo_allSlips x3 μ) fun x4 μ5 =>
    some (x4, μ5)
  else
    if a1 = 2 then
    bd (getf 11 4 μ a0) fun x6 =>
    bd (isk 10 μ x6) fun _ =>
    bd2 (Wo_lateSlips x6 μ) fun x7 μ8 =>
    some (x7, μ8)
  else
    some ((-1), μ)
def T_owes (a0 a1 : Int) (μ : Mem) : Option (Int × Mem) :=
  if a1 < 0 then
    some ((-3), μ)
  else
    bd (getf 11 4 μ a0) fun x1 =>
    bd (isk 10 μ x1) fun _ =>
    bd2 (Wo_debtOn x1 a1 μ) fun x2 μ3 =>
    some (x2, μ3)
def T_lapse (a0 : Int) (μ : Mem) : Option (Int × Mem) :=
  bd (getf 11 4 μ a0) fun x1 =>
  bd (isk 10 μ x1) fun _ =>
  bd2 (Wo_firstSlipDay x1 μ) fun x2 μ3 =>
  if x2 = (-1) then
    some ((-1), μ3)
  else
    bd (getf 11 4 μ3 a0) fun x4 =>
    bd (getf 10 0 μ3 x4) fun x5 =>
    bd (getf 1 2 μ3 x5) fun x6 =>
    some ((w32 ((w32 (x2 + x6)) + 1)), μ3)
def T_blocked_L31  : Nat → Int → Int → Int → Mem → Option (Int × Mem)
  | 0, _, _, _, _ => none
  | n + 1, v0, v2, v3, μ =>
    if v3 < 0 then
      some (0, μ)
    else
      bd (getf 11 4 μ v0) fun x1 =>
      bd (getf 6 6 μ v2) fun x2 =>
      bd (lda 20 μ x2 v3) fun x3 =>
      bd (isk 10 μ x1) fun _ =>
      bd2 (Wo_isOpen x1 (shr32 x3 1) μ) fun x4 μ5 =>
      if x4 = 0 then
        some ((w32 (v3 + 1)), μ5)
      else
        T_blocked_L31 n v0 v2 (w32 (v3 + (-1))) μ5
def T_blocked (a0 a1 : Int) (μ : Mem) : Option (Int × Mem) :=
  bd (getf 11 4 μ a0) fun x1 =>
  bd (isk 10 μ x1) fun _ =>
  bd2 (Wo_hasTraveller x1 a1 μ) fun x2 μ3 =>
  if x2 = 0 then
    some ((-2), μ3)
  else
    bd (getf 11 4 μ3 a0) fun x4 =>
    bd (getf 10 1 μ3 x4) fun x5 =>
    bd (lda 24 μ3 x5 a1) fun x6 =>
    bd (getf 6 5 μ3 x6) fun x7 =>
    bd (some (w32 (x7 - 1))) fun x8 =>
    T_blocked_L31 FU a0 x6 x8 μ3
def T_homeward (a0 a1 a2 : Int) (μ : Mem) : Option (Int × Mem) :=
  bd (getf 11 4 μ a0) fun x1 =>
  bd (isk 10 μ x1) fun _ =>
  bd2 (Wo_hasTraveller x1 a1 μ) fun x2 μ3 =>
  if x2 = 0 then
    some ((-2), μ3)
  else
    if a2 < 0 then
      some ((-2), μ3)
    else
      if 2 < a2 then
        some ((-2), μ3)
      else
        bd (getf 11 11 μ3 a0) fun x4 =>
        bd (getf 11 4 μ3 a0) fun x5 =>
        bd (getf 11 4 μ3 a0) fun x6 =>
        bd (getf 10 1 μ3 x6) fun x7 =>
        bd (lda 24 μ3 x7 a1) fun x8 =>
        bd (isk 4 μ3 x4) fun _ =>
        bd2 (Re_follow x4 x5 x8 μ3) fun x9 μ10 =>
        if x9 = 0 then
          some ((-1), μ10)
        else
          if a2 = 0 then
            bd (getf 11 11 μ10 a0) fun x11 =>
            bd (getf 4 0 μ10 x11) fun x12 =>
            some (x12, μ10)
          else
            if a2 = 1 then
            bd (getf 11 11 μ10 a0) fun x13 =>
            bd (getf 4 1 μ10 x13) fun x14 =>
            some (x14, μ10)
          else
            bd (getf 11 11 μ10 a0) fun x15 =>
          bd (getf 4 2 μ10 x15) fun x16 =>
          some (x16, μ10)
def T_safe (a0 a1 : Int) (μ : Mem) : Option (Int × Mem) :=
  bd (getf 11 4 μ a0) fun x1 =>
  bd (isk 10 μ x1) fun _ =>
  bd2 (Wo_hasTraveller x1 a1 μ) fun x2 μ3 =>
  if x2 = 0 then
    some ((-2), μ3)
  else
    bd (getf 11 4 μ3 a0) fun x4 =>
    bd (getf 10 1 μ3 x4) fun x5 =>
    bd (lda 24 μ3 x5 a1) fun x6 =>
    bd (getf 6 5 μ3 x6) fun x7 =>
    if x7 = 0 then
      some ((-1), μ3)
    else
      bd (getf 11 11 μ3 a0) fun x8 =>
      bd (getf 11 4 μ3 a0) fun x9 =>
      bd (isk 4 μ3 x8) fun _ =>
      bd2 (Re_follow x8 x9 x6 μ3) fun x10 μ11 =>
      if x10 = 0 then
        some ((-1), μ11)
      else
        bd (getf 6 1 μ11 x6) fun x12 =>
        bd (getf 11 11 μ11 a0) fun x13 =>
        bd (getf 4 3 μ11 x13) fun x14 =>
        if x14 < x12 then
          some ((-1), μ11)
        else
          bd (getf 11 11 μ11 a0) fun x15 =>
          bd (getf 4 3 μ11 x15) fun x16 =>
          some (x16, μ11)
def T_needs (a0 a1 a2 : Int) (μ : Mem) : Option (Int × Mem) :=
  bd (getf 11 4 μ a0) fun x1 =>
  bd (isk 10 μ x1) fun _ =>
  bd2 (Wo_hasTraveller x1 a1 μ) fun x2 μ3 =>
  if x2 = 0 then
    some ((-2), μ3)
  else
    bd2 (T_isRow a2 μ3) fun x4 μ5 =>
    if x4 = 0 then
      some ((-2), μ5)
    else
      bd (getf 11 6 μ5 a0) fun x6 =>
      bd (lda 26 μ5 x6 a2) fun x7 =>
      bd (getf 2 2 μ5 x7) fun x8 =>
      if x8 = 0 then
        bd (getf 11 9 μ5 a0) fun x9 =>
        bd (getf 11 4 μ5 a0) fun x10 =>
        bd (getf 11 4 μ5 a0) fun x11 =>
        bd (getf 10 1 μ5 x11) fun x12 =>
        bd (lda 24 μ5 x12 a1) fun x13 =>
        bd (getf 11 6 μ5 a0) fun x14 =>
        bd (lda 26 μ5 x14 a2) fun x15 =>
        bd (isk 8 μ5 x9) fun _ =>
        bd2 (Tp_follow x9 x10 x13 x15 1000000000 μ5) fun _ μ17 =>
        bd (getf 11 9 μ17 a0) fun x18 =>
        bd (getf 8 4 μ17 x18) fun x19 =>
        if x19 = 0 then
          bd (getf 11 9 μ17 a0) fun x20 =>
          bd (getf 8 5 μ17 x20) fun x21 =>
          some ((w32 (1000000000 - x21)), μ17)
        else
          some ((-1), μ17)
      else
        some ((-6), μ5)
def T_lessBy (a0 a1 : Int) (μ : Mem) : Option (Int × Mem) :=
  if a0 = (-1000000) then
    some ((-1000000), μ)
  else
    if a1 = (-1000000) then
      some ((-1000000), μ)
    else
      some ((w32 (a0 - a1)), μ)
def T_gainOf (a0 a1 a2 : Int) (μ : Mem) : Option (Int × Mem) :=
  bd (getf 11 4 μ a0) fun x1 =>
  bd (getf 10 1 μ x1) fun x2 =>
  bd (lda 24 μ x2 a1) fun x3 =>
  bd (getf 11 12 μ a0) fun x4 =>
  bd (getf 11 4 μ a0) fun x5 =>
  bd (isk 9 μ x4) fun _ =>
  bd2 (Wy_homeCost x4 x5 x3 x3 μ) fun x6 μ7 =>
  bd (getf 11 12 μ7 a0) fun x8 =>
  bd (getf 11 4 μ7 a0) fun x9 =>
  bd (getf 11 4 μ7 a0) fun x10 =>
  bd (getf 10 1 μ7 x10) fun x11 =>
  bd (lda 24 μ7 x11 a2) fun x12 =>
  bd (isk 9 μ7 x8) fun _ =>
  bd2 (Wy_homeCost x8 x9 x3 x12 μ7) fun x13 μ14 =>
  bd2 (T_lessBy x6 x13 μ14) fun x15 μ16 =>
  some (x15, μ16)
def T_partner_L21  : Nat → Int → Int → Int → Int → Int → Mem → Option (Int × Mem)
  | 0, _, _, _, _, _, _ => none
  | n + 1, v0, v1, v2, v3, v4, μ =>
    bd (getf 11 4 μ v0) fun x1 =>
    bd (getf 10 3 μ x1) fun x2 =>
    if v4 < x2 then
      if v4 = v1 then
        T_partner_L21 n v0 v1 v2 v3 (w32 (v4 + 1)) μ
      else
        bd (getf 11 4 μ v0) fun x3 =>
        bd (getf 10 1 μ x3) fun x4 =>
        bd (lda 24 μ x4 v4) fun x5 =>
        bd (getf 6 0 μ x5) fun x6 =>
        bd (getf 11 4 μ v0) fun x7 =>
        bd (getf 10 1 μ x7) fun x8 =>
        bd (lda 24 μ x8 v1) fun x9 =>
        bd (getf 6 0 μ x9) fun x10 =>
        if x6 = x10 then
          bd (isk 11 μ v0) fun _ =>
          bd2 (T_gainOf v0 v1 v4 μ) fun x11 μ12 =>
          bd (isk 11 μ12 v0) fun _ =>
          bd2 (T_gainOf v0 v4 v1 μ12) fun x13 μ14 =>
          if x11 < 0 then
            T_partner_L21 n v0 v1 v2 v3 (w32 (v4 + 1)) μ14
          else
            if x13 < 0 then
              T_partner_L21 n v0 v1 v2 v3 (w32 (v4 + 1)) μ14
            else
              if v3 < (w32 (x11 + x13)) then
                bd (some (w32 (x11 + x13))) fun x15 =>
                T_partner_L21 n v0 v1 v4 x15 (w32 (v4 + 1)) μ14
              else
                T_partner_L21 n v0 v1 v2 v3 (w32 (v4 + 1)) μ14
        else
          T_partner_L21 n v0 v1 v2 v3 (w32 (v4 + 1)) μ
    else
      some (v2, μ)
def T_partner (a0 a1 : Int) (μ : Mem) : Option (Int × Mem) :=
  bd (getf 11 4 μ a0) fun x1 =>
  bd (isk 10 μ x1) fun _ =>
  bd2 (Wo_hasTraveller x1 a1 μ) fun x2 μ3 =>
  if x2 = 0 then
    some ((-2), μ3)
  else
    T_partner_L21 FU a0 a1 (-1) 0 0 μ3
def T_cheapest (a0 a1 a2 : Int) (μ : Mem) : Option (Int × Mem) :=
  bd (getf 11 4 μ a0) fun x1 =>
  bd (isk 10 μ x1) fun _ =>
  bd2 (Wo_hasTraveller x1 a1 μ) fun x2 μ3 =>
  if x2 = 0 then
    some ((-2), μ3)
  else
    if a2 < 0 then
      some ((-2), μ3)
    else
      if 1 < a2 then
        some ((-2), μ3)
      else
        bd (getf 11 4 μ3 a0) fun x4 =>
        bd (getf 10 1 μ3 x4) fun x5 =>
        bd (lda 24 μ3 x5 a1) fun x6 =>
        bd (getf 11 12 μ3 a0) fun x7 =>
        bd (getf 11 4 μ3 a0) fun x8 =>
        bd (isk 9 μ3 x7) fun _ =>
        bd2 (Wy_homeCost x7 x8 x6 x6 μ3) fun x9 μ10 =>
        if a2 = 0 then
          some (x9, μ10)
        else
          if x9 = (-1000000) then
            some ((-1), μ10)
          else
            bd (getf 11 12 μ10 a0) fun x11 =>
            bd (getf 11 4 μ10 a0) fun x12 =>
            bd (isk 9 μ10 x11) fun _ =>
            bd2 (Wy_homeRoads x11 x12 μ10) fun x13 μ14 =>
            some (x13, μ14)
def T_price (a0 a1 a2 : Int) (μ : Mem) : Option (Int × Mem) :=
  bd (getf 11 4 μ a0) fun x1 =>
  bd (isk 10 μ x1) fun _ =>
  bd2 (Wo_hasPair x1 a1 a2 μ) fun x2 μ3 =>
  if x2 = 0 then
    some ((-2), μ3)
  else
    bd (getf 11 4 μ3 a0) fun x4 =>
    bd (getf 10 1 μ3 x4) fun x5 =>
    bd (lda 24 μ3 x5 a1) fun x6 =>
    bd (getf 11 4 μ3 a0) fun x7 =>
    bd (getf 10 1 μ3 x7) fun x8 =>
    bd (lda 24 μ3 x8 a2) fun x9 =>
    bd (getf 6 5 μ3 x6) fun x10 =>
    if x10 = 0 then
      some ((-5), μ3)
    else
      bd (getf 6 5 μ3 x9) fun x11 =>
      if x11 < 40 then
        bd (getf 11 8 μ3 a0) fun x12 =>
        bd (isk 6 μ3 x12) fun _ =>
        bd2 (Tr_become x12 x9 μ3) fun _ μ14 =>
        bd (getf 11 8 μ14 a0) fun x15 =>
        bd (isk 6 μ14 x15) fun _ =>
        bd2 (Tr_takeTopOf x15 x6 μ14) fun _ μ17 =>
        bd (getf 11 12 μ17 a0) fun x18 =>
        bd (getf 11 4 μ17 a0) fun x19 =>
        bd (isk 9 μ17 x18) fun _ =>
        bd2 (Wy_homeCost x18 x19 x9 x9 μ17) fun x20 μ21 =>
        bd (getf 11 12 μ21 a0) fun x22 =>
        bd (getf 11 4 μ21 a0) fun x23 =>
        bd (getf 11 8 μ21 a0) fun x24 =>
        bd (isk 9 μ21 x22) fun _ =>
        bd2 (Wy_homeCost x22 x23 x9 x24 μ21) fun x25 μ26 =>
        bd2 (T_lessBy x20 x25 μ26) fun x27 μ28 =>
        some (x27, μ28)
      else
        some ((-4), μ3)
def T_gain (a0 a1 a2 a3 : Int) (μ : Mem) : Option (Int × Mem) :=
  bd (getf 11 4 μ a0) fun x1 =>
  bd (isk 10 μ x1) fun _ =>
  bd2 (Wo_hasPair x1 a1 a2 μ) fun x2 μ3 =>
  if x2 = 0 then
    some ((-2), μ3)
  else
    if a3 < 0 then
      some ((-2), μ3)
    else
      if 1 < a3 then
        some ((-2), μ3)
      else
        if a3 = 0 then
          bd (isk 11 μ3 a0) fun _ =>
          bd2 (T_gainOf a0 a1 a2 μ3) fun x6 μ7 =>
          some (x6, μ7)
        else
          bd (isk 11 μ3 a0) fun _ =>
          bd2 (T_gainOf a0 a2 a1 μ3) fun x4 μ5 =>
          some (x4, μ5)
def T_isRoadPlace (a0 a1 : Int) (μ : Mem) : Option (Int × Mem) :=
  if a0 < 10 then
    some (0, μ)
  else
    if a0 < (w32 (10 + a1)) then
      some (1, μ)
    else
      some (0, μ)
def T_through (a0 a1 a2 a3 a4 : Int) (μ : Mem) : Option (Int × Mem) :=
  bd2 (
      if a4 = 0 then
        some (1, μ)
      else
        if a4 = 1 then
          some (1, μ)
        else
          bd2 (T_isRoadPlace a4 8 μ) fun x3 μ4 =>
          if x3 = 0 then
            some (0, μ4)
          else
            some (1, μ4)) fun (y1 : Int) (μ2 : Mem) =>
  bd (getf 11 4 μ2 a0) fun x5 =>
  bd (isk 10 μ2 x5) fun _ =>
  bd2 (Wo_hasTraveller x5 a1 μ2) fun x6 μ7 =>
  if x6 = 0 then
    some ((-2), μ7)
  else
    if y1 = 0 then
      some ((-2), μ7)
    else
      bd (getf 11 4 μ7 a0) fun x8 =>
      bd (getf 10 0 μ7 x8) fun x9 =>
      bd (isk 1 μ7 x9) fun _ =>
      bd2 (Kg_hasTowns x9 a2 μ7) fun x10 μ11 =>
      if x10 = 0 then
        some ((-3), μ11)
      else
        if a3 < 0 then
          some ((-3), μ11)
        else
          if 8 < a3 then
            some ((-3), μ11)
          else
            bd (getf 11 13 μ11 a0) fun x12 =>
            bd (getf 11 4 μ11 a0) fun x13 =>
            bd (getf 11 4 μ11 a0) fun x14 =>
            bd (getf 10 1 μ11 x14) fun x15 =>
            bd (lda 24 μ11 x15 a1) fun x16 =>
            bd (isk 5 μ11 x12) fun _ =>
            bd2 (To_seek x12 x13 x16 a2 a3 μ11) fun _ μ18 =>
            bd (getf 11 13 μ18 a0) fun x19 =>
            bd (getf 5 0 μ18 x19) fun x20 =>
            if 100000 < x20 then
              some ((-4), μ18)
            else
              bd (getf 11 13 μ18 a0) fun x21 =>
              bd (getf 5 2 μ18 x21) fun x22 =>
              if x22 = (-1) then
                if a4 = 0 then
                  some ((-1000000), μ18)
                else
                  some ((-1), μ18)
              else
                if a4 = 0 then
                  bd (getf 11 13 μ18 a0) fun x23 =>
                  bd (getf 5 1 μ18 x23) fun x24 =>
                  bd (getf 11 4 μ18 a0) fun x25 =>
                  bd (getf 10 1 μ18 x25) fun x26 =>
                  bd (lda 24 μ18 x26 a1) fun x27 =>
                  bd (getf 6 2 μ18 x27) fun x28 =>
                  some ((w32 (x24 - x28)), μ18)
                else
                  if a4 = 1 then
                  bd (getf 11 13 μ18 a0) fun x29 =>
                  bd (getf 5 2 μ18 x29) fun x30 =>
                  some (x30, μ18)
                else
                  bd (getf 11 13 μ18 a0) fun x31 =>
                bd (getf 5 2 μ18 x31) fun x32 =>
                if (w32 (a4 - 10)) < x32 then
                  bd (getf 11 13 μ18 a0) fun x33 =>
                  bd (getf 5 3 μ18 x33) fun x34 =>
                  bd (lda 20 μ18 x34 (w32 (a4 - 10))) fun x35 =>
                  some (x35, μ18)
                else
                  some ((-1), μ18)
def T_forgedPlace_J65 (k16 : Int → Int → Int → Int → Int → Mem → Option (Int × Mem)) (v0 v1 v4 v5 : Int) (μ : Mem) : Option (Int × Mem) :=
  bd (getf 11 4 μ v0) fun x1 =>
  bd (getf 10 0 μ x1) fun x2 =>
  bd (isk 1 μ x2) fun _ =>
  bd2 (Kg_endOf x2 v5 μ) fun x3 μ4 =>
  k16 v0 v1 x3 v5 (w32 (v4 + 1)) μ4
def T_forgedPlace_L16  : Nat → Int → Int → Int → Int → Int → Mem → Option (Int × Mem)
  | 0, _, _, _, _, _, _ => none
  | n + 1, v0, v1, v2, v3, v4, μ =>
    bd (getf 2 1 μ v1) fun x1 =>
    if v4 < x1 then
      bd (isk 2 μ v1) fun _ =>
      bd2 (Nu_smallAt v1 v4 μ) fun x2 μ3 =>
      bd (getf 11 4 μ3 v0) fun x4 =>
      bd (getf 10 0 μ3 x4) fun x5 =>
      bd (isk 1 μ3 x5) fun _ =>
      bd2 (Kg_startOf x5 x2 μ3) fun x6 μ7 =>
      if x6 = v2 then
        if v3 = (-1) then
          T_forgedPlace_J65 (fun u0 u1 u2 u3 u4 μ => T_forgedPlace_L16 n u0 u1 u2 u3 u4 μ) v0 v1 v4 x2 μ7
        else
          if x2 = (xor32 v3 1) then
            some (v4, μ7)
          else
            T_forgedPlace_J65 (fun u0 u1 u2 u3 u4 μ => T_forgedPlace_L16 n u0 u1 u2 u3 u4 μ) v0 v1 v4 x2 μ7
      else
        some (v4, μ7)
    else
      some ((-1), μ)
def T_forgedPlace (a0 a1 : Int) (μ : Mem) : Option (Int × Mem) :=
  bd (getf 11 4 μ a0) fun x1 =>
  bd (getf 10 0 μ x1) fun x2 =>
  bd (getf 1 1 μ x2) fun x3 =>
  T_forgedPlace_L16 FU a0 a1 x3 (-1) 0 μ
def T_slipsRefusal_L43  : Nat → Int → Int → Int → Mem → Option (Int × Mem)
  | 0, _, _, _, _ => none
  | n + 1, v0, v1, v2, μ =>
    bd (getf 11 6 μ v0) fun x1 =>
    bd (lda 26 μ x1 v1) fun x2 =>
    bd (getf 2 1 μ x2) fun x3 =>
    if v2 < x3 then
      bd (getf 11 6 μ v0) fun x4 =>
      bd (lda 26 μ x4 v1) fun x5 =>
      bd (isk 2 μ x5) fun _ =>
      bd2 (Nu_smallAt x5 v2 μ) fun x6 μ7 =>
      if x6 < 0 then
        some ((-3), μ7)
      else
        bd (getf 11 4 μ7 v0) fun x8 =>
        bd (getf 10 0 μ7 x8) fun x9 =>
        bd (isk 1 μ7 x9) fun _ =>
        bd2 (Kg_hasRoad x9 (shr32 x6 1) μ7) fun x10 μ11 =>
        if x10 = 0 then
          some ((-3), μ11)
        else
          T_slipsRefusal_L43 n v0 v1 (w32 (v2 + 1)) μ11
    else
      some (0, μ)
def T_slipsRefusal (a0 a1 : Int) (μ : Mem) : Option (Int × Mem) :=
  bd2 (T_isRow a1 μ) fun x1 μ2 =>
  if x1 = 0 then
    some ((-2), μ2)
  else
    bd (getf 11 4 μ2 a0) fun x3 =>
    bd (getf 10 0 μ2 x3) fun x4 =>
    bd (getf 1 0 μ2 x4) fun x5 =>
    if x5 = 0 then
      some ((-5), μ2)
    else
      bd (getf 11 6 μ2 a0) fun x6 =>
      bd (lda 26 μ2 x6 a1) fun x7 =>
      bd (getf 2 2 μ2 x7) fun x8 =>
      if x8 = 0 then
        T_slipsRefusal_L43 FU a0 a1 0 μ2
      else
        some ((-6), μ2)
def T_journeys (a0 a1 a2 : Int) (μ : Mem) : Option (Int × Mem) :=
  bd (isk 11 μ a0) fun _ =>
  bd2 (T_slipsRefusal a0 a1 μ) fun x1 μ2 =>
  if x1 = 0 then
    if a2 < 0 then
      some ((-3), μ2)
    else
      if 40 < a2 then
        some ((-3), μ2)
      else
        bd (getf 11 6 μ2 a0) fun x3 =>
        bd (lda 26 μ2 x3 a1) fun x4 =>
        bd (isk 11 μ2 a0) fun _ =>
        bd2 (T_forgedPlace a0 x4 μ2) fun x5 μ6 =>
        if x5 = (-1) then
          bd (getf 11 14 μ6 a0) fun x7 =>
          bd (getf 11 4 μ6 a0) fun x8 =>
          bd (getf 11 6 μ6 a0) fun x9 =>
          bd (lda 26 μ6 x9 a1) fun x10 =>
          bd (isk 0 μ6 x7) fun _ =>
          bd2 (Ct_countAll x7 x8 x10 a2 μ6) fun x11 μ12 =>
          some (x11, μ12)
        else
          some (0, μ6)
  else
    some (x1, μ2)
def T_forged (a0 a1 : Int) (μ : Mem) : Option (Int × Mem) :=
  bd (isk 11 μ a0) fun _ =>
  bd2 (T_slipsRefusal a0 a1 μ) fun x1 μ2 =>
  if x1 = 0 then
    bd (getf 11 6 μ2 a0) fun x3 =>
    bd (lda 26 μ2 x3 a1) fun x4 =>
    bd (isk 11 μ2 a0) fun _ =>
    bd2 (T_forgedPlace a0 x4 μ2) fun x5 μ6 =>
    some (x5, μ6)
  else
    some (x1, μ2)
def T_journey (a0 a1 a2 a3 a4 : Int) (μ : Mem) : Option (Int × Mem) :=
  bd (isk 11 μ a0) fun _ =>
  bd2 (T_slipsRefusal a0 a1 μ) fun x1 μ2 =>
  if x1 = 0 then
    if a2 < 0 then
      some ((-3), μ2)
    else
      if 40 < a2 then
        some ((-3), μ2)
      else
        if a3 < 0 then
          some ((-3), μ2)
        else
          if a4 < 0 then
            some ((-1), μ2)
          else
            if a4 < a2 then
              bd (getf 11 6 μ2 a0) fun x3 =>
              bd (lda 26 μ2 x3 a1) fun x4 =>
              bd (isk 11 μ2 a0) fun _ =>
              bd2 (T_forgedPlace a0 x4 μ2) fun x5 μ6 =>
              if x5 = (-1) then
                bd (getf 11 14 μ6 a0) fun x7 =>
                bd (getf 11 4 μ6 a0) fun x8 =>
                bd (getf 11 6 μ6 a0) fun x9 =>
                bd (lda 26 μ6 x9 a1) fun x10 =>
                bd (isk 0 μ6 x7) fun _ =>
                bd2 (Ct_roadOf x7 x8 x10 a2 a3 a4 μ6) fun x11 μ12 =>
                some (x11, μ12)
              else
                some ((-1), μ6)
            else
              some ((-1), μ2)
  else
    some (x1, μ2)
def T_lane_J11 (k21 : Int → Int → Int → Int → Int → Mem → Option (Int × Mem)) (k26 : Int → Int → Int → Int → Int → Int → Mem → Option (Int × Mem)) (v0 v1 v2 v3 v4 : Int) (μ : Mem) : Option (Int × Mem) :=
  bd2 (T_isRoadPlace v4 11 μ) fun x1 μ2 =>
  if x1 = 0 then
    k26 v0 v1 v2 v3 v4 0 μ2
  else
    k21 v0 v1 v2 v3 v4 μ2
def T_lane_J26  (v0 v1 v2 v3 v4 s0 : Int) (μ : Mem) : Option (Int × Mem) :=
  bd (getf 11 4 μ v0) fun x1 =>
  bd (getf 10 0 μ x1) fun x2 =>
  bd (isk 1 μ x2) fun _ =>
  bd2 (Kg_hasTown x2 v1 μ) fun x3 μ4 =>
  if x3 = 0 then
    some ((-2), μ4)
  else
    bd (getf 11 4 μ4 v0) fun x5 =>
    bd (getf 10 0 μ4 x5) fun x6 =>
    bd (isk 1 μ4 x6) fun _ =>
    bd2 (Kg_hasTown x6 v2 μ4) fun x7 μ8 =>
    if x7 = 0 then
      some ((-2), μ8)
    else
      if s0 = 0 then
        some ((-2), μ8)
      else
        if v3 < 0 then
          some ((-3), μ8)
        else
          bd (getf 11 12 μ8 v0) fun x9 =>
          bd (getf 11 4 μ8 v0) fun x10 =>
          bd (isk 9 μ8 x9) fun _ =>
          bd2 (Wy_seekLanes x9 x10 v2 v3 μ8) fun _ μ12 =>
          bd (getf 11 12 μ12 v0) fun x13 =>
          bd (getf 9 0 μ12 x13) fun x14 =>
          bd (lda 20 μ12 x14 v1) fun x15 =>
          if x15 = 2147483647 then
            some ((-1), μ12)
          else
            if v4 = 0 then
              bd (getf 11 12 μ12 v0) fun x16 =>
              bd (isk 9 μ12 x16) fun _ =>
              bd2 (Wy_laneTolls x16 v1 μ12) fun x17 μ18 =>
              some (x17, μ18)
            else
              if v4 = 1 then
              bd (getf 11 12 μ12 v0) fun x19 =>
              bd (isk 9 μ12 x19) fun _ =>
              bd2 (Wy_laneDays x19 v1 μ12) fun x20 μ21 =>
              some (x20, μ21)
            else
              if v4 = 2 then
              bd (getf 11 12 μ12 v0) fun x22 =>
              bd (isk 9 μ12 x22) fun _ =>
              bd2 (Wy_laneRoads x22 v1 μ12) fun x23 μ24 =>
              some (x23, μ24)
            else
              bd (getf 11 12 μ12 v0) fun x25 =>
            bd (getf 11 4 μ12 v0) fun x26 =>
            bd (isk 9 μ12 x25) fun _ =>
            bd2 (Wy_laneRoad x25 x26 v1 (w32 (v4 - 10)) μ12) fun x27 μ28 =>
            some (x27, μ28)
def T_lane (a0 a1 a2 a3 a4 : Int) (μ : Mem) : Option (Int × Mem) :=
  if a4 < 0 then
    T_lane_J11 (fun x1 x2 x3 x4 x5 μ6 =>
        T_lane_J26 x1 x2 x3 x4 x5 1 μ6) (fun x7 x8 x9 x10 x11 x12 μ13 =>
        T_lane_J26 x7 x8 x9 x10 x11 x12 μ13) a0 a1 a2 a3 a4 μ
  else
    if 2 < a4 then
      T_lane_J11 (fun x14 x15 x16 x17 x18 μ19 =>
          T_lane_J26 x14 x15 x16 x17 x18 1 μ19) (fun x20 x21 x22 x23 x24 x25 μ26 =>
          T_lane_J26 x20 x21 x22 x23 x24 x25 μ26) a0 a1 a2 a3 a4 μ
    else
      T_lane_J26 a0 a1 a2 a3 a4 1 μ
def T_box (a0 a1 : Int) (μ : Mem) : Option (Int × Mem) :=
  bd (getf 11 4 μ a0) fun x1 =>
  bd (getf 10 0 μ x1) fun x2 =>
  bd (getf 1 0 μ x2) fun x3 =>
  if x3 = 0 then
    some ((-5), μ)
  else
    bd (isk 1 μ x2) fun _ =>
    bd2 (Kg_hasTowns x2 a1 μ) fun x4 μ5 =>
    if x4 = 0 then
      some ((-3), μ5)
    else
      bd (getf 11 15 μ5 a0) fun x6 =>
      bd (getf 11 4 μ5 a0) fun x7 =>
      bd (getf 1 1 μ5 x2) fun x8 =>
      bd (isk 7 μ5 x6) fun _ =>
      bd2 (Te_leastDays x6 x7 (or32 a1 (shl32 1 x8)) μ5) fun x9 μ10 =>
      if x9 = (-1) then
        some ((-1), μ10)
      else
        some ((w32 (2 * x9)), μ10)
def T_cutOff (a0 a1 : Int) (μ : Mem) : Option (Int × Mem) :=
  bd (getf 11 4 μ a0) fun x1 =>
  bd (getf 10 0 μ x1) fun x2 =>
  bd (isk 1 μ x2) fun _ =>
  bd2 (Kg_hasRoad x2 a1 μ) fun x3 μ4 =>
  if x3 = 0 then
    some ((-2), μ4)
  else
    bd (getf 11 4 μ4 a0) fun x5 =>
    bd (getf 11 4 μ4 a0) fun x6 =>
    bd (isk 10 μ4 x6) fun _ =>
    bd2 (Wo_openRoads x6 μ4) fun x7 μ8 =>
    bd (isk 10 μ8 x5) fun _ =>
    bd2 (Wo_reachable x5 x7 μ8) fun x9 μ10 =>
    bd (getf 11 4 μ10 a0) fun x11 =>
    bd (getf 11 4 μ10 a0) fun x12 =>
    bd (isk 10 μ10 x12) fun _ =>
    bd2 (Wo_openRoads x12 μ10) fun x13 μ14 =>
    bd (isk 10 μ14 x11) fun _ =>
    bd2 (Wo_reachable x11 (and32 x13 (xor32 (shl32 1 a1) (-1))) μ14) fun x15 μ16 =>
    some ((and32 x9 (xor32 x15 (-1))), μ16)
def T_ledger_L24  : Nat → Int → Int → Int → Int → Mem → Option (Int × Mem)
  | 0, _, _, _, _, _ => none
  | n + 1, v0, v2, v3, v4, μ =>
    if v2 < v4 then
      some (v3, μ)
    else
      bd (getf 11 4 μ v0) fun x1 =>
      bd (getf 10 2 μ x1) fun x2 =>
      bd (lda 20 μ x2 v4) fun x3 =>
      bd (some (w32 (v3 + x3))) fun x4 =>
      T_ledger_L24 n v0 v2 x4 (w32 (v4 + 1)) μ
def T_ledger (a0 a1 a2 : Int) (μ : Mem) : Option (Int × Mem) :=
  if a1 < 0 then
    some ((-3), μ)
  else
    if a2 < 720 then
      if a2 < a1 then
        some ((-3), μ)
      else
        T_ledger_L24 FU a0 a2 0 a1 μ
    else
      some ((-3), μ)
def T_meet (a0 a1 a2 a3 a4 a5 : Int) (μ : Mem) : Option (Int × Mem) :=
  bd (
      if a5 = 0 then
        some 1
      else
        if a5 = 1 then
          some 1
        else
          some 0) fun (y1 : Int) =>
  bd (getf 11 4 μ a0) fun x2 =>
  bd (isk 10 μ x2) fun _ =>
  bd2 (Wo_hasPair x2 a1 a3 μ) fun x3 μ4 =>
  if x3 = 0 then
    some ((-2), μ4)
  else
    bd2 (T_isRow a2 μ4) fun x5 μ6 =>
    if x5 = 0 then
      some ((-2), μ6)
    else
      bd2 (T_isRow a4 μ6) fun x7 μ8 =>
      if x7 = 0 then
        some ((-2), μ8)
      else
        if y1 = 0 then
          some ((-2), μ8)
        else
          bd (getf 11 6 μ8 a0) fun x9 =>
          bd (lda 26 μ8 x9 a2) fun x10 =>
          bd (getf 2 2 μ8 x10) fun x11 =>
          if x11 = 0 then
            bd (getf 11 6 μ8 a0) fun x12 =>
            bd (lda 26 μ8 x12 a4) fun x13 =>
            bd (getf 2 2 μ8 x13) fun x14 =>
            if x14 = 0 then
              bd (getf 11 4 μ8 a0) fun x15 =>
              bd (getf 10 1 μ8 x15) fun x16 =>
              bd (lda 24 μ8 x16 a1) fun x17 =>
              bd (getf 11 4 μ8 a0) fun x18 =>
              bd (getf 10 1 μ8 x18) fun x19 =>
              bd (lda 24 μ8 x19 a3) fun x20 =>
              bd (getf 11 9 μ8 a0) fun x21 =>
              bd (getf 11 4 μ8 a0) fun x22 =>
              bd (getf 11 6 μ8 a0) fun x23 =>
              bd (lda 26 μ8 x23 a2) fun x24 =>
              bd (getf 6 2 μ8 x17) fun x25 =>
              bd (isk 8 μ8 x21) fun _ =>
              bd2 (Tp_follow x21 x22 x17 x24 x25 μ8) fun _ μ27 =>
              bd (getf 11 10 μ27 a0) fun x28 =>
              bd (getf 11 4 μ27 a0) fun x29 =>
              bd (getf 11 6 μ27 a0) fun x30 =>
              bd (lda 26 μ27 x30 a4) fun x31 =>
              bd (getf 6 2 μ27 x20) fun x32 =>
              bd (isk 8 μ27 x28) fun _ =>
              bd2 (Tp_follow x28 x29 x20 x31 x32 μ27) fun _ μ34 =>
              bd (getf 11 9 μ34 a0) fun x35 =>
              bd (getf 11 10 μ34 a0) fun x36 =>
              bd (isk 8 μ34 x35) fun _ =>
              bd2 (Tp_meets x35 x36 μ34) fun x37 μ38 =>
              if x37 = (-1) then
                some ((-1), μ38)
              else
                if a5 = 0 then
                  some (x37, μ38)
                else
                  bd (getf 11 9 μ38 a0) fun x39 =>
                  bd (isk 8 μ38 x39) fun _ =>
                  bd2 (Tp_townOn x39 x37 μ38) fun x40 μ41 =>
                  some (x40, μ41)
            else
              some ((-6), μ8)
          else
            some ((-6), μ8)
def T_bitOf_L4  : Nat → Int → Int → Int → Mem → Option (Int × Mem)
  | 0, _, _, _, _ => none
  | n + 1, v0, v2, v3, μ =>
    if v3 < 24 then
      if (and32 (shr32 v0 v3) 1) = 0 then
        T_bitOf_L4 n v0 v2 (w32 (v3 + 1)) μ
      else
        if v2 = 0 then
          some (v3, μ)
        else
          T_bitOf_L4 n v0 (w32 (v2 + (-1))) (w32 (v3 + 1)) μ
    else
      some ((-1), μ)
def T_bitOf (a0 a1 : Int) (μ : Mem) : Option (Int × Mem) :=
  T_bitOf_L4 FU a0 a1 0 μ
def T_fair_L45  : Nat → Int → Int → Int → Int → Int → Mem → Option (Int × Mem)
  | 0, _, _, _, _, _, _ => none
  | n + 1, v0, v3, v4, v5, v6, μ =>
    if v6 < v3 then
      bd (getf 11 4 μ v0) fun x1 =>
      bd (getf 6 0 μ v4) fun x2 =>
      bd (isk 10 μ x1) fun _ =>
      bd2 (Wo_openRoadsAt x1 x2 μ) fun x3 μ4 =>
      if x3 = 0 then
        some (v6, μ4)
      else
        bd (some (w32 ((w32 (1103515245 * v5)) + 12345))) fun x5 =>
        bd (getf 11 4 μ4 v0) fun x6 =>
        bd2 (J_bitCount x3 μ4) fun x7 μ8 =>
        bd (rem32 (ushr32 x5 16) x7) fun x9 =>
        bd2 (T_bitOf x3 x9 μ8) fun x10 μ11 =>
        bd (isk 10 μ11 x6) fun _ =>
        bd2 (Wo_move x6 v4 x10 μ11) fun x12 μ13 =>
        if x12 < 0 then
          some (v6, μ13)
        else
          T_fair_L45 n v0 v3 v4 x5 (w32 (v6 + 1)) μ13
    else
      some (v3, μ)
def T_fair (a0 a1 a2 a3 : Int) (μ : Mem) : Option (Int × Mem) :=
  bd (getf 11 4 μ a0) fun x1 =>
  bd (isk 10 μ x1) fun _ =>
  bd2 (Wo_hasTraveller x1 a1 μ) fun x2 μ3 =>
  if x2 = 0 then
    some ((-2), μ3)
  else
    if a3 < 1 then
      some ((-3), μ3)
    else
      if 40 < a3 then
        some ((-3), μ3)
      else
        bd (getf 11 4 μ3 a0) fun x4 =>
        bd (getf 10 1 μ3 x4) fun x5 =>
        bd (lda 24 μ3 x5 a1) fun x6 =>
        T_fair_L45 FU a0 a3 x6 a2 0 μ3
def T_numbers (a0 a1 a2 a3 : Int) (μ : Mem) : Option (Int × Mem) :=
  bd2 (T_isRow a1 μ) fun x1 μ2 =>
  if x1 = 0 then
    some ((-2), μ2)
  else
    if a2 < 0 then
      some ((-2), μ2)
    else
      if 3 < a2 then
        some ((-2), μ2)
      else
        if a3 < 0 then
          some ((-3), μ2)
        else
          if 40 < a3 then
            some ((-3), μ2)
          else
            bd (getf 11 6 μ2 a0) fun x3 =>
            bd (lda 26 μ2 x3 a1) fun x4 =>
            bd (isk 2 μ2 x4) fun _ =>
            bd2 (Nu_renew x4 a2 a3 μ2) fun _ μ6 =>
            some (0, μ6)
def T_write (a0 a1 a2 a3 : Int) (μ : Mem) : Option (Int × Mem) :=
  bd2 (T_isRow a1 μ) fun x1 μ2 =>
  if x1 = 0 then
    some ((-2), μ2)
  else
    bd (getf 11 6 μ2 a0) fun x3 =>
    bd (lda 26 μ2 x3 a1) fun x4 =>
    bd (getf 2 2 μ2 x4) fun x5 =>
    if x5 = 0 then
      if a2 < 0 then
        some ((-7), μ2)
      else
        bd (getf 2 1 μ2 x4) fun x6 =>
        if a2 < x6 then
          bd (isk 2 μ2 x4) fun _ =>
          bd2 (Nu_put x4 a2 a3 μ2) fun _ μ8 =>
          bd (getf 2 0 μ8 x4) fun x9 =>
          bd (lda 21 μ8 x9 a2) fun x10 =>
          some (x10, μ8)
        else
          some ((-7), μ2)
    else
      some ((-6), μ2)
def T_copy_L68  : Nat → Int → Int → Int → Mem → Option (Int × Mem)
  | 0, _, _, _, _ => none
  | n + 1, v3, v4, v5, μ =>
    bd (getf 6 5 μ v3) fun x1 =>
    if v5 < x1 then
      bd (getf 6 6 μ v3) fun x3 =>
      bd (lda 20 μ x3 v5) fun x4 =>
      bd (isk 2 μ v4) fun _ =>
      bd2 (Nu_put v4 v5 x4 μ) fun _ μ6 =>
      T_copy_L68 n v3 v4 (w32 (v5 + 1)) μ6
    else
      bd (getf 6 5 μ v3) fun x2 =>
      some (x2, μ)
def T_copy (a0 a1 a2 : Int) (μ : Mem) : Option (Int × Mem) :=
  bd (getf 11 4 μ a0) fun x1 =>
  bd (isk 10 μ x1) fun _ =>
  bd2 (Wo_hasTraveller x1 a1 μ) fun x2 μ3 =>
  if x2 = 0 then
    some ((-2), μ3)
  else
    bd2 (T_isRow a2 μ3) fun x4 μ5 =>
    if x4 = 0 then
      some ((-2), μ5)
    else
      bd (getf 11 4 μ5 a0) fun x6 =>
      bd (getf 10 1 μ5 x6) fun x7 =>
      bd (lda 24 μ5 x7 a1) fun x8 =>
      bd (getf 11 6 μ5 a0) fun x9 =>
      bd (lda 26 μ5 x9 a2) fun x10 =>
      bd (getf 2 2 μ5 x10) fun x11 =>
      if x11 = 0 then
        bd (getf 2 1 μ5 x10) fun x12 =>
        bd (getf 6 5 μ5 x8) fun x13 =>
        if x12 < x13 then
          some ((-7), μ5)
        else
          T_copy_L68 FU x8 x10 0 μ5
      else
        some ((-6), μ5)
def T_image_J34  (v0 v1 : Int) (μ : Mem) : Option (Int × Mem) :=
  bd (getf 11 5 μ v0) fun x1 =>
  bd (lda 25 μ x1 v1) fun x2 =>
  bd (getf 11 4 μ v0) fun x3 =>
  bd (isk 10 μ x2) fun _ =>
  bd2 (Wo_become x2 x3 μ) fun _ μ5 =>
  some (0, μ5)
def T_image (a0 a1 : Int) (μ : Mem) : Option (Int × Mem) :=
  if a1 < 0 then
    some ((-2), μ)
  else
    if a1 < 2 then
      bd (getf 11 5 μ a0) fun x1 =>
      bd (lda 25 μ x1 a1) fun x2 =>
      if x2 = -1 then
        bd (getf 11 5 μ a0) fun x3 =>
        bd2 (Wo_init (nlen μ) (newc 10 6 μ)) fun _ μ5 =>
        bd (isk 10 μ5 (nlen μ)) fun _ =>
        bd (sta 25 μ5 x3 a1 (nlen μ)) fun μ6 =>
        T_image_J34 a0 a1 μ6
      else
        T_image_J34 a0 a1 μ
    else
      some ((-2), μ)
def T_restore (a0 a1 : Int) (μ : Mem) : Option (Int × Mem) :=
  if a1 < 0 then
    some ((-2), μ)
  else
    if a1 < 2 then
      bd (getf 11 5 μ a0) fun x1 =>
      bd (lda 25 μ x1 a1) fun x2 =>
      if x2 = -1 then
        some ((-5), μ)
      else
        bd (getf 11 4 μ a0) fun x3 =>
        bd (getf 11 5 μ a0) fun x4 =>
        bd (lda 25 μ x4 a1) fun x5 =>
        bd (isk 10 μ x3) fun _ =>
        bd2 (Wo_become x3 x5 μ) fun _ μ7 =>
        some (0, μ7)
    else
      some ((-2), μ)
def T_count (a0 a1 : Int) (μ : Mem) : Option (Int × Mem) :=
  bd (getf 11 4 μ a0) fun x1 =>
  bd (getf 10 0 μ x1) fun x2 =>
  if a1 = 0 then
    bd (getf 1 0 μ x2) fun x3 =>
    some (x3, μ)
  else
    if a1 = 1 then
    bd (getf 1 7 μ x2) fun x4 =>
    some (x4, μ)
  else
    if a1 = 2 then
    bd (getf 11 4 μ a0) fun x5 =>
    bd (getf 10 3 μ x5) fun x6 =>
    some (x6, μ)
  else
    if a1 = 3 then
    bd (getf 1 0 μ x2) fun x7 =>
    if x7 = 0 then
      some ((-1), μ)
    else
      bd (getf 1 1 μ x2) fun x8 =>
      some (x8, μ)
  else
    if a1 = 4 then
    bd (getf 1 2 μ x2) fun x9 =>
    some (x9, μ)
  else
    if a1 = 5 then
    bd (getf 1 3 μ x2) fun x10 =>
    some (x10, μ)
  else
    if a1 = 6 then
    bd (getf 11 4 μ a0) fun x11 =>
    bd (getf 10 4 μ x11) fun x12 =>
    bd2 (J_bitCount x12 μ) fun x13 μ14 =>
    some (x13, μ14)
  else
    if a1 = 7 then
    bd (getf 11 1 μ a0) fun x15 =>
    some (x15, μ)
  else
    if a1 = 8 then
    bd (getf 1 6 μ x2) fun x16 =>
    some (x16, μ)
  else
    some ((-1), μ)
def M_within (a0 a1 a2 : Int) (μ : Mem) : Option (Int × Mem) :=
  if (cmp64 a0 a1) < 0 then
    some (0, μ)
  else
    if 0 < (cmp64 a0 a2) then
      some (0, μ)
    else
      some (1, μ)
def M_plain_L2 (k19 : Int → Mem → Option (Int × Mem)) : Nat → Int → Int → Mem → Option (Int × Mem)
  | 0, _, _, _ => none
  | n + 1, v0, v1, μ =>
    if v1 < 128 then
      bd (sta 20 μ v0 v1 0) fun μ1 =>
      M_plain_L2 k19 n v0 (w32 (v1 + 1)) μ1
    else
      k19 v0 μ
def M_plain (a0 : Int) (μ : Mem) : Option (Int × Mem) :=
  M_plain_L2 (fun x1 μ2 =>
      bd (sta 20 μ2 x1 2 360) fun μ3 =>
      bd (sta 20 μ3 x1 3 50) fun μ4 =>
      bd (sta 20 μ4 x1 4 90) fun μ5 =>
      bd (sta 20 μ5 x1 5 269) fun μ6 =>
      some (0, μ6)) FU a0 0 μ
def M_init (a0 : Int) (μ : Mem) : Option (Int × Mem) :=
  bd (isk 12 μ a0) fun _ =>
  bd (putf 12 1 (newc 20 4887 μ) a0 (nlen μ)) fun μ1 =>
  bd (putf 12 2 (newc 23 2 μ1) a0 (nlen μ1)) fun μ2 =>
  bd (putf 12 3 (newc 20 700 μ2) a0 (nlen μ2)) fun μ3 =>
  bd (putf 12 4 (newc 20 128 μ3) a0 (nlen μ3)) fun μ4 =>
  bd (putf 12 14 μ4 a0 (-1)) fun μ5 =>
  bd (putf 12 15 μ5 a0 1) fun μ6 =>
  bd (putf 12 16 (newc 20 126 μ6) a0 (nlen μ6)) fun μ7 =>
  bd (putf 12 18 (newc 20 504 μ7) a0 (nlen μ7)) fun μ8 =>
  bd (putf 12 19 (newc 20 504 μ8) a0 (nlen μ8)) fun μ9 =>
  bd (putf 12 20 (newc 20 41 μ9) a0 (nlen μ9)) fun μ10 =>
  bd (putf 12 21 (newc 20 41 μ10) a0 (nlen μ10)) fun μ11 =>
  bd (putf 12 22 (newc 23 504 μ11) a0 (nlen μ11)) fun μ12 =>
  bd (putf 12 26 (newc 20 8 μ12) a0 (nlen μ12)) fun μ13 =>
  bd (putf 12 27 (newc 20 8 μ13) a0 (nlen μ13)) fun μ14 =>
  bd (putf 12 28 (newc 20 72 μ14) a0 (nlen μ14)) fun μ15 =>
  bd (putf 12 33 (newc 21 1968 μ15) a0 (nlen μ15)) fun μ16 =>
  bd (putf 12 34 (newc 21 41 μ16) a0 (nlen μ16)) fun μ17 =>
  bd (putf 12 35 (newc 21 41 μ17) a0 (nlen μ17)) fun μ18 =>
  bd (putf 12 37 (newc 20 80 μ18) a0 (nlen μ18)) fun μ19 =>
  bd (putf 12 39 (newc 20 41 μ19) a0 (nlen μ19)) fun μ20 =>
  bd (putf 12 41 (newc 20 12 μ20) a0 (nlen μ20)) fun μ21 =>
  bd (putf 12 42 (newc 20 12 μ21) a0 (nlen μ21)) fun μ22 =>
  bd (putf 12 43 (newc 20 12 μ22) a0 (nlen μ22)) fun μ23 =>
  bd (putf 12 44 (newc 23 12 μ23) a0 (nlen μ23)) fun μ24 =>
  bd (putf 12 45 (newc 20 49152 μ24) a0 (nlen μ24)) fun μ25 =>
  bd (putf 12 46 (newc 20 82 μ25) a0 (nlen μ25)) fun μ26 =>
  bd (putf 12 47 (newc 20 82 μ26) a0 (nlen μ26)) fun μ27 =>
  bd (putf 12 48 (newc 20 2 μ27) a0 (nlen μ27)) fun μ28 =>
  bd (sta 20 (newc 20 4 μ28) (nlen μ28) 0 (-1)) fun μ29 =>
  bd (sta 20 μ29 (nlen μ28) 1 (-1)) fun μ30 =>
  bd (sta 20 μ30 (nlen μ28) 2 (-1)) fun μ31 =>
  bd (sta 20 μ31 (nlen μ28) 3 (-1)) fun μ32 =>
  bd (putf 12 49 μ32 a0 (nlen μ28)) fun μ33 =>
  bd (putf 12 50 (newc 20 4 μ33) a0 (nlen μ33)) fun μ34 =>
  bd (putf 12 51 (newc 21 160 μ34) a0 (nlen μ34)) fun μ35 =>
  bd (getf 12 1 μ35 a0) fun x36 =>
  bd2 (M_plain x36 μ35) fun _ μ38 =>
  some (0, μ38)
def M_feed_L24  : Nat → Int → Int → Int → Int → Int → Int → Int → Mem → Option (Int × Mem)
  | 0, _, _, _, _, _, _, _, _ => none
  | n + 1, v0, v1, v2, v3, v4, v5, v6, μ =>
    if v6 < 20 then
      bd (
          if v6 < 4 then
            some v1
          else
            if v6 < 8 then
              some v2
            else
              if v6 < 12 then
                some v3
              else
                if v6 < 16 then
                  some v4
                else
                  some v5) fun (y2 : Int) =>
      bd (getf 12 3 μ v0) fun x3 =>
      bd (getf 12 5 μ v0) fun x4 =>
      bd (rem32 v6 4) fun x5 =>
      bd (sta 20 μ x3 x4 (and32 (shr32 y2 (w32 (24 - (w32 (8 * x5))))) 255)) fun μ6 =>
      bd (getf 12 5 μ6 v0) fun x7 =>
      bd (putf 12 5 μ6 v0 (w32 (x7 + 1))) fun μ8 =>
      M_feed_L24 n v0 v1 v2 v3 v4 v5 (w32 (v6 + 1)) μ8
    else
      bd (getf 12 5 μ v0) fun x1 =>
      some (x1, μ)
def M_feed (a0 a1 a2 a3 a4 a5 : Int) (μ : Mem) : Option (Int × Mem) :=
  bd (putf 12 0 μ a0 0) fun μ1 =>
  bd (getf 12 5 μ1 a0) fun x2 =>
  if 700 < (w32 (x2 + 20)) then
    some ((-5), μ1)
  else
    M_feed_L24 FU a0 a1 a2 a3 a4 a5 0 μ1
def M_see (a0 a1 : Int) (μ : Mem) : Option (Int × Mem) :=
  bd (getf 12 8 μ a0) fun x1 =>
  if a1 < x1 then
    bd (getf 12 3 μ a0) fun x2 =>
    bd (lda 20 μ x2 a1) fun x3 =>
    some (x3, μ)
  else
    some ((-1), μ)
def M_isSmall (a0 : Int) (μ : Mem) : Option (Int × Mem) :=
  if a0 < 97 then
    some (0, μ)
  else
    if 122 < a0 then
      some (0, μ)
    else
      some (1, μ)
def M_isDigit (a0 : Int) (μ : Mem) : Option (Int × Mem) :=
  if a0 < 48 then
    some (0, μ)
  else
    if 57 < a0 then
      some (0, μ)
    else
      some (1, μ)
def M_keyAt_L15 (k69 : Int → Int → Int → Int → Mem → Option (Int × Mem)) : Nat → Int → Int → Int → Int → Mem → Option (Int × Mem)
  | 0, _, _, _, _, _ => none
  | n + 1, v0, v1, v2, v3, μ =>
    bd2 (J_chr (-2 - ((9 : Nat) : Int)) (w32 (v2 + v3)) μ) fun x1 μ2 =>
    if x1 = 32 then
      k69 v0 v1 v2 v3 μ2
    else
      bd (getf 12 6 μ2 v0) fun x3 =>
      bd (getf 12 7 μ2 v0) fun x4 =>
      if (w32 (x3 + v3)) < x4 then
        bd (getf 12 3 μ2 v0) fun x5 =>
        bd (getf 12 6 μ2 v0) fun x6 =>
        bd (lda 20 μ2 x5 (w32 (x6 + v3))) fun x7 =>
        bd2 (J_chr (-2 - ((9 : Nat) : Int)) (w32 (v2 + v3)) μ2) fun x8 μ9 =>
        if x7 = x8 then
          M_keyAt_L15 k69 n v0 v1 v2 (w32 (v3 + 1)) μ9
        else
          k69 v0 v1 v2 v3 μ9
      else
        k69 v0 v1 v2 v3 μ2
def M_keyAt_L97 (k114 : Int → Int → Int → Mem → Option (Int × Mem)) : Nat → Int → Int → Int → Mem → Option (Int × Mem)
  | 0, _, _, _, _ => none
  | n + 1, v0, v1, v2, μ =>
    bd2 (J_chr (-2 - ((9 : Nat) : Int)) v2 μ) fun x1 μ2 =>
    if x1 = 32 then
      k114 v0 v1 v2 μ2
    else
      M_keyAt_L97 k114 n v0 v1 (w32 (v2 + 1)) μ2
def M_keyAt_J69 (k4 : Int → Int → Int → Mem → Option (Int × Mem)) (v0 v1 v2 v3 : Int) (μ : Mem) : Option (Int × Mem) :=
  bd2 (J_chr (-2 - ((9 : Nat) : Int)) (w32 (v2 + v3)) μ) fun x1 μ2 =>
  if x1 = 32 then
    bd (getf 12 6 μ2 v0) fun x7 =>
    bd (getf 12 7 μ2 v0) fun x8 =>
    if (w32 (x7 + v3)) = x8 then
      some (v1, μ2)
    else
      M_keyAt_L97 (fun x9 x10 x11 μ12 =>
          k4 x9 (w32 (x10 + 1)) (w32 (x11 + 1)) μ12) FU v0 v1 v2 μ2
  else
    M_keyAt_L97 (fun x3 x4 x5 μ6 =>
        k4 x3 (w32 (x4 + 1)) (w32 (x5 + 1)) μ6) FU v0 v1 v2 μ2
def M_keyAt_L4  : Nat → Int → Int → Int → Mem → Option (Int × Mem)
  | 0, _, _, _, _ => none
  | n + 1, v0, v1, v2, μ =>
    bd2 (J_len (-2 - ((9 : Nat) : Int)) μ) fun x1 μ2 =>
    if v2 < x1 then
      M_keyAt_L15 (fun x3 x4 x5 x6 μ7 =>
          M_keyAt_J69 (fun u0 u1 u2 μ => M_keyAt_L4 n u0 u1 u2 μ) x3 x4 x5 x6 μ7) FU v0 v1 v2 0 μ2
    else
      some (9, μ2)
def M_keyAt (a0 : Int) (μ : Mem) : Option (Int × Mem) :=
  M_keyAt_L4 FU a0 0 1 μ
def M_next_J34 (k8 : Int → Mem → Option (Int × Mem)) (v0 : Int) (μ : Mem) : Option (Int × Mem) :=
  bd (getf 12 6 μ v0) fun x1 =>
  bd (putf 12 6 μ v0 (w32 (x1 + 1))) fun μ2 =>
  k8 v0 μ2
def M_next_L8 (k47 : Int → Mem → Option (Int × Mem)) : Nat → Int → Mem → Option (Int × Mem)
  | 0, _, _ => none
  | n + 1, v0, μ =>
    bd (getf 12 6 μ v0) fun x1 =>
    bd (isk 12 μ v0) fun _ =>
    bd2 (M_see v0 x1 μ) fun x2 μ3 =>
    if x2 = 10 then
      M_next_J34 (fun u0 μ => M_next_L8 k47 n u0 μ) v0 μ3
    else
      bd (getf 12 6 μ3 v0) fun x4 =>
      bd (isk 12 μ3 v0) fun _ =>
      bd2 (M_see v0 x4 μ3) fun x5 μ6 =>
      if x5 = 32 then
        M_next_J34 (fun u0 μ => M_next_L8 k47 n u0 μ) v0 μ6
      else
        k47 v0 μ6
def M_next_L146 (k209 : Int → Mem → Option (Int × Mem)) : Nat → Int → Mem → Option (Int × Mem)
  | 0, _, _ => none
  | n + 1, v0, μ =>
    bd (getf 12 7 μ v0) fun x1 =>
    bd (isk 12 μ v0) fun _ =>
    bd2 (M_see v0 x1 μ) fun x2 μ3 =>
    bd2 (M_isDigit x2 μ3) fun x4 μ5 =>
    if x4 = 0 then
      k209 v0 μ5
    else
      bd (getf 12 7 μ5 v0) fun x6 =>
      bd (getf 12 6 μ5 v0) fun x7 =>
      bd (
          if (w32 (x6 - x7)) < 3 then
            bd (getf 12 10 μ5 v0) fun x9 =>
            bd (getf 12 7 μ5 v0) fun x10 =>
            bd (isk 12 μ5 v0) fun _ =>
            bd2 (M_see v0 x10 μ5) fun x11 μ12 =>
            bd (putf 12 10 μ12 v0 (w32 ((w32 ((w32 (10 * x9)) + x11)) - 48))) fun μ13 =>
            some μ13
          else
            some μ5) fun (μ8 : Mem) =>
      bd (getf 12 7 μ8 v0) fun x14 =>
      bd (putf 12 7 μ8 v0 (w32 (x14 + 1))) fun μ15 =>
      M_next_L146 k209 n v0 μ15
def M_next_L89 (k116 : Int → Mem → Option (Int × Mem)) : Nat → Int → Mem → Option (Int × Mem)
  | 0, _, _ => none
  | n + 1, v0, μ =>
    bd (getf 12 7 μ v0) fun x1 =>
    bd (isk 12 μ v0) fun _ =>
    bd2 (M_see v0 x1 μ) fun x2 μ3 =>
    bd2 (M_isSmall x2 μ3) fun x4 μ5 =>
    if x4 = 0 then
      k116 v0 μ5
    else
      bd (getf 12 7 μ5 v0) fun x6 =>
      bd (putf 12 7 μ5 v0 (w32 (x6 + 1))) fun μ7 =>
      M_next_L89 k116 n v0 μ7
def M_next (a0 : Int) (μ : Mem) : Option (Int × Mem) :=
  bd (getf 12 7 μ a0) fun x1 =>
  bd (putf 12 6 μ a0 x1) fun μ2 =>
  M_next_L8 (fun x3 μ4 =>
      bd (getf 12 6 μ4 x3) fun x5 =>
      bd (putf 12 7 μ4 x3 x5) fun μ6 =>
      bd (getf 12 6 μ6 x3) fun x7 =>
      bd (getf 12 8 μ6 x3) fun x8 =>
      if x7 < x8 then
        bd (getf 12 6 μ6 x3) fun x9 =>
        bd (isk 12 μ6 x3) fun _ =>
        bd2 (M_see x3 x9 μ6) fun x10 μ11 =>
        bd2 (M_isSmall x10 μ11) fun x12 μ13 =>
        if x12 = 0 then
          bd (getf 12 6 μ13 x3) fun x14 =>
          bd (isk 12 μ13 x3) fun _ =>
          bd2 (M_see x3 x14 μ13) fun x15 μ16 =>
          bd2 (M_isDigit x15 μ16) fun x17 μ18 =>
          if x17 = 0 then
            bd (getf 12 7 μ18 x3) fun x19 =>
            bd (putf 12 7 μ18 x3 (w32 (x19 + 1))) fun μ20 =>
            bd (getf 12 6 μ20 x3) fun x21 =>
            bd (isk 12 μ20 x3) fun _ =>
            bd2 (M_see x3 x21 μ20) fun x22 μ23 =>
            bd (
                if x22 = 59 then
                  some 11
                else
                  some 13) fun (y24 : Int) =>
            bd (putf 12 9 μ23 x3 y24) fun μ25 =>
            some (0, μ25)
          else
            bd (putf 12 10 μ18 x3 0) fun μ26 =>
            M_next_L146 (fun x27 μ28 =>
                bd (getf 12 7 μ28 x27) fun x29 =>
                bd (getf 12 6 μ28 x27) fun x30 =>
                bd (
                    if 3 < (w32 (x29 - x30)) then
                      some 13
                    else
                      some 10) fun (y31 : Int) =>
                bd (putf 12 9 μ28 x27 y31) fun μ32 =>
                some (0, μ32)) FU x3 μ26
        else
          M_next_L89 (fun x33 μ34 =>
              bd (isk 12 μ34 x33) fun _ =>
              bd2 (M_keyAt x33 μ34) fun x35 μ36 =>
              bd (putf 12 9 μ36 x33 x35) fun μ37 =>
              some (0, μ37)) FU x3 μ13
      else
        bd (putf 12 9 μ6 x3 12) fun μ38 =>
        some (0, μ38)) FU a0 μ2
def M_fails (a0 a1 : Int) (μ : Mem) : Option (Int × Mem) :=
  bd (getf 12 11 μ a0) fun x1 =>
  if x1 = 0 then
    bd (getf 12 9 μ a0) fun x2 =>
    bd (
        if x2 = 13 then
          some 1
        else
          some a1) fun (y3 : Int) =>
    bd (putf 12 11 μ a0 y3) fun μ4 =>
    bd (getf 12 6 μ4 a0) fun x5 =>
    bd (putf 12 12 μ4 a0 x5) fun μ6 =>
    some (0, μ6)
  else
    some (0, μ)
def M_is (a0 a1 : Int) (μ : Mem) : Option (Int × Mem) :=
  bd (getf 12 11 μ a0) fun x1 =>
  if x1 = 0 then
    bd (getf 12 9 μ a0) fun x2 =>
    if x2 = a1 then
      some (1, μ)
    else
      some (0, μ)
  else
    some (0, μ)
def M_eats (a0 a1 : Int) (μ : Mem) : Option (Int × Mem) :=
  bd (isk 12 μ a0) fun _ =>
  bd2 (M_is a0 a1 μ) fun x1 μ2 =>
  if x1 = 0 then
    some (0, μ2)
  else
    bd (isk 12 μ2 a0) fun _ =>
    bd2 (M_next a0 μ2) fun _ μ4 =>
    some (1, μ4)
def M_must (a0 a1 : Int) (μ : Mem) : Option (Int × Mem) :=
  bd (isk 12 μ a0) fun _ =>
  bd2 (M_eats a0 a1 μ) fun x1 μ2 =>
  if x1 = 0 then
    bd (isk 12 μ2 a0) fun _ =>
    bd2 (M_fails a0 2 μ2) fun _ μ4 =>
    some (0, μ4)
  else
    some (0, μ2)
def M_takes (a0 a1 a2 : Int) (μ : Mem) : Option (Int × Mem) :=
  bd (isk 12 μ a0) fun _ =>
  bd2 (M_is a0 10 μ) fun x1 μ2 =>
  bd (
      if x1 = 0 then
        bd (isk 12 μ2 a0) fun _ =>
        bd2 (M_fails a0 2 μ2) fun _ μ10 =>
        some μ10
      else
        bd (getf 12 10 μ2 a0) fun x4 =>
        bd2 (M_within x4 a1 a2 μ2) fun x5 μ6 =>
        if x5 = 0 then
          bd (isk 12 μ6 a0) fun _ =>
          bd2 (M_fails a0 3 μ6) fun _ μ8 =>
          some μ8
        else
          some μ6) fun (μ3 : Mem) =>
  bd (getf 12 10 μ3 a0) fun x11 =>
  bd (getf 12 11 μ3 a0) fun x12 =>
  if x12 = 0 then
    bd (isk 12 μ3 a0) fun _ =>
    bd2 (M_next a0 μ3) fun _ μ14 =>
    some (x11, μ14)
  else
    some (x11, μ3)
def M_readTowns (a0 : Int) (μ : Mem) : Option (Int × Mem) :=
  bd (getf 12 4 μ a0) fun x1 =>
  bd (lda 20 μ x1 0) fun x2 =>
  bd (
      if 0 < x2 then
        bd (isk 12 μ a0) fun _ =>
        bd2 (M_fails a0 4 μ) fun _ μ5 =>
        some μ5
      else
        some μ) fun (μ3 : Mem) =>
  bd (getf 12 11 μ3 a0) fun x6 =>
  if x6 = 0 then
    bd (isk 12 μ3 a0) fun _ =>
    bd2 (M_next a0 μ3) fun _ μ8 =>
    bd (getf 12 4 μ8 a0) fun x9 =>
    bd (isk 12 μ8 a0) fun _ =>
    bd2 (M_takes a0 2 12 μ8) fun x10 μ11 =>
    bd (sta 20 μ11 x9 0 x10) fun μ12 =>
    some (0, μ12)
  else
    some (0, μ3)
def M_readSummer (a0 : Int) (μ : Mem) : Option (Int × Mem) :=
  bd (isk 12 μ a0) fun _ =>
  bd2 (M_next a0 μ) fun _ μ2 =>
  bd (isk 12 μ2 a0) fun _ =>
  bd2 (M_takes a0 0 359 μ2) fun x3 μ4 =>
  bd (isk 12 μ4 a0) fun _ =>
  bd2 (M_must a0 5 μ4) fun _ μ6 =>
  bd (isk 12 μ6 a0) fun _ =>
  bd2 (M_takes a0 x3 359 μ6) fun x7 μ8 =>
  bd (getf 12 11 μ8 a0) fun x9 =>
  if x9 = 0 then
    bd (getf 12 4 μ8 a0) fun x10 =>
    bd (sta 20 μ8 x10 4 x3) fun μ11 =>
    bd (getf 12 4 μ11 a0) fun x12 =>
    bd (sta 20 μ11 x12 5 x7) fun μ13 =>
    some (0, μ13)
  else
    some (0, μ8)
def M_readRoad (a0 : Int) (μ : Mem) : Option (Int × Mem) :=
  bd (getf 12 4 μ a0) fun x1 =>
  bd (lda 20 μ x1 7) fun x2 =>
  bd (getf 12 4 μ a0) fun x3 =>
  bd (lda 20 μ x3 0) fun x4 =>
  bd (
      if x4 = 0 then
        bd (isk 12 μ a0) fun _ =>
        bd2 (M_fails a0 2 μ) fun _ μ9 =>
        some μ9
      else
        if x2 = 24 then
          bd (isk 12 μ a0) fun _ =>
          bd2 (M_fails a0 4 μ) fun _ μ7 =>
          some μ7
        else
          some μ) fun (μ5 : Mem) =>
  bd (getf 12 11 μ5 a0) fun x10 =>
  if x10 = 0 then
    bd (isk 12 μ5 a0) fun _ =>
    bd2 (M_next a0 μ5) fun _ μ12 =>
    bd (getf 12 4 μ12 a0) fun x13 =>
    bd (lda 20 μ12 x13 0) fun x14 =>
    bd (isk 12 μ12 a0) fun _ =>
    bd2 (M_takes a0 0 (w32 (x14 - 1)) μ12) fun x15 μ16 =>
    bd (isk 12 μ16 a0) fun _ =>
    bd2 (M_must a0 5 μ16) fun _ μ18 =>
    bd (isk 12 μ18 a0) fun _ =>
    bd2 (M_is a0 10 μ18) fun x19 μ20 =>
    bd (
        if x19 = 0 then
          some μ20
        else
          bd (getf 12 10 μ20 a0) fun x22 =>
          if x22 = x15 then
            bd (isk 12 μ20 a0) fun _ =>
            bd2 (M_fails a0 3 μ20) fun _ μ24 =>
            some μ24
          else
            some μ20) fun (μ21 : Mem) =>
    bd (getf 12 4 μ21 a0) fun x25 =>
    bd (lda 20 μ21 x25 0) fun x26 =>
    bd (isk 12 μ21 a0) fun _ =>
    bd2 (M_takes a0 0 (w32 (x26 - 1)) μ21) fun x27 μ28 =>
    bd (isk 12 μ28 a0) fun _ =>
    bd2 (M_must a0 7 μ28) fun _ μ30 =>
    bd (isk 12 μ30 a0) fun _ =>
    bd2 (M_takes a0 0 999 μ30) fun x31 μ32 =>
    bd (isk 12 μ32 a0) fun _ =>
    bd2 (M_eats a0 4 μ32) fun x33 μ34 =>
    bd2 (
        if x33 = 0 then
          some (x31, μ34)
        else
          bd (isk 12 μ34 a0) fun _ =>
          bd2 (M_takes a0 0 999 μ34) fun x37 μ38 =>
          some (x37, μ38)) fun (y35 : Int) (μ36 : Mem) =>
    bd (isk 12 μ36 a0) fun _ =>
    bd2 (M_must a0 8 μ36) fun _ μ40 =>
    bd (isk 12 μ40 a0) fun _ =>
    bd2 (M_takes a0 1 90 μ40) fun x41 μ42 =>
    bd (getf 12 11 μ42 a0) fun x43 =>
    if x43 = 0 then
      bd (getf 12 4 μ42 a0) fun x44 =>
      bd (sta 20 μ42 x44 (w32 (8 + x2)) x15) fun μ45 =>
      bd (getf 12 4 μ45 a0) fun x46 =>
      bd (sta 20 μ45 x46 (w32 (32 + x2)) x27) fun μ47 =>
      bd (getf 12 4 μ47 a0) fun x48 =>
      bd (sta 20 μ47 x48 (w32 (56 + x2)) x31) fun μ49 =>
      bd (getf 12 4 μ49 a0) fun x50 =>
      bd (sta 20 μ49 x50 (w32 (80 + x2)) y35) fun μ51 =>
      bd (getf 12 4 μ51 a0) fun x52 =>
      bd (sta 20 μ51 x52 (w32 (104 + x2)) x41) fun μ53 =>
      bd (getf 12 4 μ53 a0) fun x54 =>
      bd (lda 20 μ53 x54 7) fun x55 =>
      bd (sta 20 μ53 x54 7 (w32 (x55 + 1))) fun μ56 =>
      some (0, μ56)
    else
      some (0, μ42)
  else
    some (0, μ5)
def M_readHome (a0 : Int) (μ : Mem) : Option (Int × Mem) :=
  bd (getf 12 4 μ a0) fun x1 =>
  bd (lda 20 μ x1 0) fun x2 =>
  bd (
      if x2 = 0 then
        bd (isk 12 μ a0) fun _ =>
        bd2 (M_fails a0 2 μ) fun _ μ5 =>
        some μ5
      else
        some μ) fun (μ3 : Mem) =>
  bd (getf 12 11 μ3 a0) fun x6 =>
  if x6 = 0 then
    bd (isk 12 μ3 a0) fun _ =>
    bd2 (M_next a0 μ3) fun _ μ8 =>
    bd (getf 12 4 μ8 a0) fun x9 =>
    bd (getf 12 4 μ8 a0) fun x10 =>
    bd (lda 20 μ8 x10 0) fun x11 =>
    bd (isk 12 μ8 a0) fun _ =>
    bd2 (M_takes a0 0 (w32 (x11 - 1)) μ8) fun x12 μ13 =>
    bd (sta 20 μ13 x9 1 x12) fun μ14 =>
    some (0, μ14)
  else
    some (0, μ3)
def M_readLine (a0 : Int) (μ : Mem) : Option (Int × Mem) :=
  bd (isk 12 μ a0) fun _ =>
  bd2 (M_is a0 0 μ) fun x1 μ2 =>
  bd (
      if x1 = 0 then
        bd (isk 12 μ2 a0) fun _ =>
        bd2 (M_is a0 1 μ2) fun x4 μ5 =>
        if x4 = 0 then
          bd (isk 12 μ5 a0) fun _ =>
          bd2 (M_eats a0 2 μ5) fun x6 μ7 =>
          if x6 = 0 then
            bd (isk 12 μ7 a0) fun _ =>
            bd2 (M_eats a0 3 μ7) fun x8 μ9 =>
            if x8 = 0 then
              bd (isk 12 μ9 a0) fun _ =>
              bd2 (M_is a0 4 μ9) fun x10 μ11 =>
              if x10 = 0 then
                bd (isk 12 μ11 a0) fun _ =>
                bd2 (M_is a0 6 μ11) fun x12 μ13 =>
                if x12 = 0 then
                  bd (isk 12 μ13 a0) fun _ =>
                  bd2 (M_fails a0 2 μ13) fun _ μ15 =>
                  some μ15
                else
                  bd (isk 12 μ13 a0) fun _ =>
                  bd2 (M_readRoad a0 μ13) fun _ μ17 =>
                  some μ17
              else
                bd (isk 12 μ11 a0) fun _ =>
                bd2 (M_readSummer a0 μ11) fun _ μ19 =>
                some μ19
            else
              bd (getf 12 4 μ9 a0) fun x20 =>
              bd (isk 12 μ9 a0) fun _ =>
              bd2 (M_takes a0 0 100 μ9) fun x21 μ22 =>
              bd (sta 20 μ22 x20 3 x21) fun μ23 =>
              some μ23
          else
            bd (getf 12 4 μ7 a0) fun x24 =>
            bd (isk 12 μ7 a0) fun _ =>
            bd2 (M_takes a0 1 360 μ7) fun x25 μ26 =>
            bd (sta 20 μ26 x24 2 x25) fun μ27 =>
            some μ27
        else
          bd (isk 12 μ5 a0) fun _ =>
          bd2 (M_readHome a0 μ5) fun _ μ29 =>
          some μ29
      else
        bd (isk 12 μ2 a0) fun _ =>
        bd2 (M_readTowns a0 μ2) fun _ μ31 =>
        some μ31) fun (μ3 : Mem) =>
  bd (isk 12 μ3 a0) fun _ =>
  bd2 (M_must a0 11 μ3) fun _ μ33 =>
  bd (getf 12 4 μ33 a0) fun x34 =>
  bd (lda 20 μ33 x34 6) fun x35 =>
  bd (sta 20 μ33 x34 6 (w32 (x35 + 1))) fun μ36 =>
  some (0, μ36)
def M_kingdom_L53 (k76 : Int → Mem → Option (Int × Mem)) : Nat → Int → Mem → Option (Int × Mem)
  | 0, _, _ => none
  | n + 1, v0, μ =>
    bd (getf 12 11 μ v0) fun x1 =>
    if x1 = 0 then
      bd (getf 12 9 μ v0) fun x2 =>
      if x2 = 12 then
        k76 v0 μ
      else
        bd (isk 12 μ v0) fun _ =>
        bd2 (M_readLine v0 μ) fun _ μ4 =>
        M_kingdom_L53 k76 n v0 μ4
    else
      k76 v0 μ
def M_kingdom_L120  : Nat → Int → Int → Mem → Option (Int × Mem)
  | 0, _, _, _ => none
  | n + 1, v0, v2, μ =>
    if v2 < 1629 then
      bd (getf 12 1 μ v0) fun x3 =>
      bd (
          if v2 < 128 then
            bd (getf 12 4 μ v0) fun x5 =>
            bd (lda 20 μ x5 v2) fun x6 =>
            some x6
          else
            some 0) fun (y4 : Int) =>
      bd (sta 20 μ x3 v2 y4) fun μ7 =>
      M_kingdom_L120 n v0 (w32 (v2 + 1)) μ7
    else
      bd (getf 12 1 μ v0) fun x1 =>
      bd (lda 20 μ x1 6) fun x2 =>
      some (x2, μ)
def M_kingdom_J76  (v0 : Int) (μ : Mem) : Option (Int × Mem) :=
  bd (getf 12 11 μ v0) fun x1 =>
  bd (putf 12 13 μ v0 x1) fun μ2 =>
  bd (getf 12 11 μ2 v0) fun x3 =>
  bd (
      if x3 = 0 then
        some (-1)
      else
        bd (getf 12 12 μ2 v0) fun x5 =>
        some x5) fun (y4 : Int) =>
  bd (putf 12 14 μ2 v0 y4) fun μ6 =>
  bd (getf 12 11 μ6 v0) fun x7 =>
  if x7 = 0 then
    M_kingdom_L120 FU v0 0 μ6
  else
    bd (getf 12 11 μ6 v0) fun x8 =>
    some ((w32 ((-30) - x8)), μ6)
def M_kingdom (a0 a1 : Int) (μ : Mem) : Option (Int × Mem) :=
  bd (putf 12 0 μ a0 0) fun μ1 =>
  bd (getf 12 5 μ1 a0) fun x2 =>
  bd2 (M_within a1 0 x2 μ1) fun x3 μ4 =>
  if x3 = 0 then
    some ((-3), μ4)
  else
    bd (putf 12 8 μ4 a0 a1) fun μ5 =>
    bd (putf 12 5 μ5 a0 0) fun μ6 =>
    bd (putf 12 7 μ6 a0 0) fun μ7 =>
    bd (putf 12 11 μ7 a0 0) fun μ8 =>
    bd (getf 12 4 μ8 a0) fun x9 =>
    bd2 (M_plain x9 μ8) fun _ μ11 =>
    bd (isk 12 μ11 a0) fun _ =>
    bd2 (M_next a0 μ11) fun _ μ13 =>
    M_kingdom_L53 (fun x14 μ15 =>
        M_kingdom_J76 x14 μ15) FU a0 μ13
def M_fault (a0 a1 : Int) (μ : Mem) : Option (Int × Mem) :=
  bd (putf 12 0 μ a0 0) fun μ1 =>
  if a1 = 0 then
    bd (getf 12 13 μ1 a0) fun x3 =>
    some (x3, μ1)
  else
    if a1 = 1 then
      bd (getf 12 14 μ1 a0) fun x2 =>
      some (x2, μ1)
    else
      some ((-1), μ1)
def M_isRoad (a0 a1 : Int) (μ : Mem) : Option (Int × Mem) :=
  bd (getf 12 1 μ a0) fun x1 =>
  bd (lda 20 μ x1 7) fun x2 =>
  bd2 (M_within a1 0 (w32 (x2 - 1)) μ) fun x3 μ4 =>
  bd (okz x3) fun _ => some (x3, μ4)
def M_road (a0 a1 a2 : Int) (μ : Mem) : Option (Int × Mem) :=
  bd (putf 12 0 μ a0 0) fun μ1 =>
  bd (isk 12 μ1 a0) fun _ =>
  bd2 (M_isRoad a0 a1 μ1) fun x2 μ3 =>
  if x2 = 0 then
    some ((-2), μ3)
  else
    bd2 (M_within a2 0 5 μ3) fun x4 μ5 =>
    if x4 = 0 then
      some ((-2), μ5)
    else
      if a2 = 5 then
        bd (getf 12 1 μ5 a0) fun x8 =>
        bd (lda 20 μ5 x8 (w32 (128 + a1))) fun x9 =>
        some (x9, μ5)
      else
        bd (getf 12 1 μ5 a0) fun x6 =>
        bd (lda 20 μ5 x6 (w32 ((w32 (8 + (w32 (24 * a2)))) + a1))) fun x7 =>
        some (x7, μ5)
def M_leads (a0 a1 a2 : Int) (μ : Mem) : Option (Int × Mem) :=
  bd (getf 12 1 μ a0) fun x1 =>
  bd (lda 20 μ x1 (w32 (8 + a1))) fun x2 =>
  if x2 = a2 then
    some (1, μ)
  else
    bd (getf 12 1 μ a0) fun x3 =>
    bd (lda 20 μ x3 (w32 (32 + a1))) fun x4 =>
    if x4 = a2 then
      some (1, μ)
    else
      some (0, μ)
def M_isOpen (a0 a1 : Int) (μ : Mem) : Option (Int × Mem) :=
  bd (getf 12 1 μ a0) fun x1 =>
  bd (lda 20 μ x1 (w32 (128 + a1))) fun x2 =>
  if x2 = 0 then
    some (1, μ)
  else
    some (0, μ)
def M_from_L30  : Nat → Int → Int → Int → Int → Mem → Option (Int × Mem)
  | 0, _, _, _, _, _ => none
  | n + 1, v0, v1, v2, v3, μ =>
    bd (getf 12 1 μ v0) fun x1 =>
    bd (lda 20 μ x1 7) fun x2 =>
    if v3 < x2 then
      bd (isk 12 μ v0) fun _ =>
      bd2 (M_isOpen v0 v3 μ) fun x3 μ4 =>
      if x3 = 0 then
        bd (some (or32 v2 0)) fun x5 =>
        M_from_L30 n v0 v1 x5 (w32 (v3 + 1)) μ4
      else
        bd (isk 12 μ4 v0) fun _ =>
        bd2 (M_leads v0 v3 v1 μ4) fun x6 μ7 =>
        if x6 = 0 then
          bd (some (or32 v2 0)) fun x8 =>
          M_from_L30 n v0 v1 x8 (w32 (v3 + 1)) μ7
        else
          bd (some (or32 v2 (shl32 1 v3))) fun x9 =>
          M_from_L30 n v0 v1 x9 (w32 (v3 + 1)) μ7
    else
      some (v2, μ)
def M_from (a0 a1 : Int) (μ : Mem) : Option (Int × Mem) :=
  bd (putf 12 0 μ a0 0) fun μ1 =>
  bd (getf 12 1 μ1 a0) fun x2 =>
  bd (lda 20 μ1 x2 0) fun x3 =>
  bd2 (M_within a1 0 (w32 (x3 - 1)) μ1) fun x4 μ5 =>
  if x4 = 0 then
    some ((-2), μ5)
  else
    M_from_L30 FU a0 a1 0 0 μ5
def M_close (a0 a1 a2 : Int) (μ : Mem) : Option (Int × Mem) :=
  bd (putf 12 0 μ a0 0) fun μ1 =>
  bd (isk 12 μ1 a0) fun _ =>
  bd2 (M_isRoad a0 a1 μ1) fun x2 μ3 =>
  if x2 = 0 then
    some ((-2), μ3)
  else
    bd (getf 12 1 μ3 a0) fun x4 =>
    bd (lda 20 μ3 x4 (w32 (128 + a1))) fun x5 =>
    bd (getf 12 1 μ3 a0) fun x6 =>
    bd (
        if a2 = 0 then
          some 0
        else
          some 1) fun (y7 : Int) =>
    bd (sta 20 μ3 x6 (w32 (128 + a1)) y7) fun μ8 =>
    some (x5, μ8)
def M_isSummer (a0 a1 : Int) (μ : Mem) : Option (Int × Mem) :=
  bd (rem32 a1 360) fun x1 =>
  bd (getf 12 1 μ a0) fun x2 =>
  bd (lda 20 μ x2 4) fun x3 =>
  bd (getf 12 1 μ a0) fun x4 =>
  bd (lda 20 μ x4 5) fun x5 =>
  bd2 (M_within x1 x3 x5 μ) fun x6 μ7 =>
  bd (okz x6) fun _ => some (x6, μ7)
def M_summer (a0 a1 : Int) (μ : Mem) : Option (Int × Mem) :=
  bd (putf 12 0 μ a0 0) fun μ1 =>
  if a1 < 0 then
    some ((-3), μ1)
  else
    bd (isk 12 μ1 a0) fun _ =>
    bd2 (M_isSummer a0 a1 μ1) fun x2 μ3 =>
    if x2 = 0 then
      some (0, μ3)
    else
      some (1, μ3)
def M_tollOn (a0 a1 a2 : Int) (μ : Mem) : Option (Int × Mem) :=
  bd (getf 12 1 μ a0) fun x1 =>
  bd (isk 12 μ a0) fun _ =>
  bd2 (M_isSummer a0 a2 μ) fun x2 μ3 =>
  if x2 = 0 then
    bd (lda 20 μ3 x1 (w32 (56 + a1))) fun x4 =>
    some (x4, μ3)
  else
    bd (lda 20 μ3 x1 (w32 (80 + a1))) fun x5 =>
    some (x5, μ3)
def M_when_L37  : Nat → Int → Int → Int → Int → Int → Mem → Option (Int × Mem)
  | 0, _, _, _, _, _, _ => none
  | n + 1, v0, v1, v2, v3, v4, μ =>
    if v4 < (w32 (v2 + 360)) then
      bd (isk 12 μ v0) fun _ =>
      bd2 (M_tollOn v0 v1 v4 μ) fun x1 μ2 =>
      bd (isk 12 μ2 v0) fun _ =>
      bd2 (M_tollOn v0 v1 v3 μ2) fun x3 μ4 =>
      if x1 < x3 then
        M_when_L37 n v0 v1 v2 v4 (w32 (v4 + 1)) μ4
      else
        M_when_L37 n v0 v1 v2 v3 (w32 (v4 + 1)) μ4
    else
      some (v3, μ)
def M_when (a0 a1 a2 : Int) (μ : Mem) : Option (Int × Mem) :=
  bd (putf 12 0 μ a0 0) fun μ1 =>
  bd (isk 12 μ1 a0) fun _ =>
  bd2 (M_isRoad a0 a1 μ1) fun x2 μ3 =>
  if x2 = 0 then
    some ((-2), μ3)
  else
    bd2 (M_within a2 0 99999 μ3) fun x4 μ5 =>
    if x4 = 0 then
      some ((-3), μ5)
    else
      M_when_L37 FU a0 a1 a2 a2 a2 μ5
def M_dartBy (a0 a1 a2 : Int) (μ : Mem) : Option (Int × Mem) :=
  bd (getf 12 1 μ a0) fun x1 =>
  bd (lda 20 μ x1 (w32 (8 + a1))) fun x2 =>
  if x2 = a2 then
    some ((w32 (2 * a1)), μ)
  else
    some ((w32 ((w32 (2 * a1)) + 1)), μ)
def M_tailOf (a0 a1 : Int) (μ : Mem) : Option (Int × Mem) :=
  bd (getf 12 1 μ a0) fun x1 =>
  bd (rem32 a1 2) fun x2 =>
  if x2 = 0 then
    bd (div32 a1 2) fun x5 =>
    bd (lda 20 μ x1 (w32 (8 + x5))) fun x6 =>
    some (x6, μ)
  else
    bd (div32 a1 2) fun x3 =>
    bd (lda 20 μ x1 (w32 (32 + x3))) fun x4 =>
    some (x4, μ)
def M_headOf (a0 a1 : Int) (μ : Mem) : Option (Int × Mem) :=
  bd (getf 12 1 μ a0) fun x1 =>
  bd (rem32 a1 2) fun x2 =>
  if x2 = 0 then
    bd (div32 a1 2) fun x5 =>
    bd (lda 20 μ x1 (w32 (32 + x5))) fun x6 =>
    some (x6, μ)
  else
    bd (div32 a1 2) fun x3 =>
    bd (lda 20 μ x1 (w32 (8 + x3))) fun x4 =>
    some (x4, μ)
def M_isOne (a0 a1 : Int) (μ : Mem) : Option (Int × Mem) :=
  bd (getf 12 1 μ a0) fun x1 =>
  bd (lda 20 μ x1 152) fun x2 =>
  bd2 (M_within a1 0 (w32 (x2 - 1)) μ) fun x3 μ4 =>
  bd (okz x3) fun _ => some (x3, μ4)
def M_comes (a0 a1 : Int) (μ : Mem) : Option (Int × Mem) :=
  bd (putf 12 0 μ a0 0) fun μ1 =>
  bd (getf 12 1 μ1 a0) fun x2 =>
  bd (lda 20 μ1 x2 152) fun x3 =>
  if x3 = 6 then
    some ((-5), μ1)
  else
    bd (getf 12 1 μ1 a0) fun x4 =>
    bd (lda 20 μ1 x4 0) fun x5 =>
    if x5 = 0 then
      some ((-5), μ1)
    else
      bd2 (M_within a1 0 1000000 μ1) fun x6 μ7 =>
      if x6 = 0 then
        some ((-3), μ7)
      else
        bd (getf 12 1 μ7 a0) fun x8 =>
        bd (lda 20 μ7 x8 152) fun x9 =>
        bd (getf 12 1 μ7 a0) fun x10 =>
        bd (getf 12 1 μ7 a0) fun x11 =>
        bd (lda 20 μ7 x11 1) fun x12 =>
        bd (sta 20 μ7 x10 (w32 (153 + x9)) x12) fun μ13 =>
        bd (getf 12 1 μ13 a0) fun x14 =>
        bd (sta 20 μ13 x14 (w32 (159 + x9)) 0) fun μ15 =>
        bd (getf 12 1 μ15 a0) fun x16 =>
        bd (sta 20 μ15 x16 (w32 (165 + x9)) a1) fun μ17 =>
        bd (getf 12 1 μ17 a0) fun x18 =>
        bd (sta 20 μ17 x18 (w32 (171 + x9)) 0) fun μ19 =>
        bd (getf 12 1 μ19 a0) fun x20 =>
        bd (sta 20 μ19 x20 (w32 (177 + x9)) 0) fun μ21 =>
        bd (getf 12 1 μ21 a0) fun x22 =>
        bd (sta 20 μ21 x22 (w32 (183 + x9)) 0) fun μ23 =>
        bd (getf 12 1 μ23 a0) fun x24 =>
        bd (lda 20 μ23 x24 152) fun x25 =>
        bd (sta 20 μ23 x24 152 (w32 (x25 + 1))) fun μ26 =>
        some (x9, μ26)
def M_of (a0 a1 a2 : Int) (μ : Mem) : Option (Int × Mem) :=
  bd (putf 12 0 μ a0 0) fun μ1 =>
  bd (isk 12 μ1 a0) fun _ =>
  bd2 (M_isOne a0 a1 μ1) fun x2 μ3 =>
  if x2 = 0 then
    some ((-2), μ3)
  else
    bd2 (M_within a2 0 5 μ3) fun x4 μ5 =>
    if x4 = 0 then
      some ((-2), μ5)
    else
      bd (getf 12 1 μ5 a0) fun x6 =>
      bd (lda 20 μ5 x6 (w32 ((w32 (153 + (w32 (6 * a2)))) + a1))) fun x7 =>
      some (x7, μ5)
def M_slipAt (a0 a1 : Int) (μ : Mem) : Option (Int × Mem) :=
  some ((w32 ((w32 (40 * a0)) + a1)), μ)
def M_worthOn (a0 a1 a2 a3 : Int) (μ : Mem) : Option (Int × Mem) :=
  bd (getf 12 1 μ a0) fun x1 =>
  bd (lda 20 μ x1 2) fun x2 =>
  if 0 < (cmp64 (w64 (a3 - a2)) x2) then
    bd (getf 12 1 μ a0) fun x3 =>
    bd (lda 20 μ x3 3) fun x4 =>
    bd (div32 (w32 (a1 * x4)) 100) fun x5 =>
    some (x5, μ)
  else
    some (a1, μ)
def M_worthOf (a0 a1 a2 a3 : Int) (μ : Mem) : Option (Int × Mem) :=
  bd (getf 12 1 μ a0) fun x1 =>
  bd2 (M_slipAt a1 a2 μ) fun x2 μ3 =>
  bd (lda 20 μ3 x1 (w32 (669 + x2))) fun x4 =>
  bd (getf 12 1 μ3 a0) fun x5 =>
  bd2 (M_slipAt a1 a2 μ3) fun x6 μ7 =>
  bd (lda 20 μ7 x5 (w32 (429 + x6))) fun x8 =>
  bd (isk 12 μ7 a0) fun _ =>
  bd2 (M_worthOn a0 x4 x8 a3 μ7) fun x9 μ10 =>
  some (x9, μ10)
def M_slip (a0 a1 a2 a3 : Int) (μ : Mem) : Option (Int × Mem) :=
  bd (putf 12 0 μ a0 0) fun μ1 =>
  bd (isk 12 μ1 a0) fun _ =>
  bd2 (M_isOne a0 a1 μ1) fun x2 μ3 =>
  if x2 = 0 then
    some ((-2), μ3)
  else
    bd2 (M_within a3 0 5 μ3) fun x4 μ5 =>
    if x4 = 0 then
      some ((-2), μ5)
    else
      bd (getf 12 1 μ5 a0) fun x6 =>
      bd (lda 20 μ5 x6 (w32 (171 + a1))) fun x7 =>
      bd2 (M_within a2 0 (w32 (x7 - 1)) μ5) fun x8 μ9 =>
      if x8 = 0 then
        some ((-7), μ9)
      else
        bd2 (M_slipAt a1 a2 μ9) fun x10 μ11 =>
        if a3 = 0 then
          bd (getf 12 1 μ11 a0) fun x12 =>
          bd (lda 20 μ11 x12 (w32 (189 + x10))) fun x13 =>
          bd (div32 x13 2) fun x14 =>
          some (x14, μ11)
        else
          if a3 = 1 then
          bd (getf 12 1 μ11 a0) fun x15 =>
          bd (lda 20 μ11 x15 (w32 (189 + x10))) fun x16 =>
          bd (isk 12 μ11 a0) fun _ =>
          bd2 (M_tailOf a0 x16 μ11) fun x17 μ18 =>
          some (x17, μ18)
        else
          if a3 = 2 then
          bd (getf 12 1 μ11 a0) fun x19 =>
          bd (lda 20 μ11 x19 (w32 (189 + x10))) fun x20 =>
          bd (isk 12 μ11 a0) fun _ =>
          bd2 (M_headOf a0 x20 μ11) fun x21 μ22 =>
          some (x21, μ22)
        else
          if a3 = 3 then
          bd (getf 12 1 μ11 a0) fun x23 =>
          bd (lda 20 μ11 x23 (w32 (429 + x10))) fun x24 =>
          some (x24, μ11)
        else
          if a3 = 4 then
          bd (getf 12 1 μ11 a0) fun x25 =>
          bd (lda 20 μ11 x25 (w32 (669 + x10))) fun x26 =>
          some (x26, μ11)
        else
          bd (getf 12 1 μ11 a0) fun x27 =>
        bd (lda 20 μ11 x27 (w32 (159 + a1))) fun x28 =>
        bd (isk 12 μ11 a0) fun _ =>
        bd2 (M_worthOf a0 a1 a2 x28 μ11) fun x29 μ30 =>
        some (x29, μ30)
def M_hasBack (a0 a1 a2 : Int) (μ : Mem) : Option (Int × Mem) :=
  bd (getf 12 1 μ a0) fun x1 =>
  bd (lda 20 μ x1 (w32 (171 + a1))) fun x2 =>
  if 0 < x2 then
    bd (getf 12 1 μ a0) fun x3 =>
    bd2 (M_slipAt a1 (w32 (x2 - 1)) μ) fun x4 μ5 =>
    bd (lda 20 μ5 x3 (w32 (189 + x4))) fun x6 =>
    bd (getf 12 1 μ5 a0) fun x7 =>
    bd (lda 20 μ5 x7 (w32 (153 + a1))) fun x8 =>
    bd (isk 12 μ5 a0) fun _ =>
    bd2 (M_dartBy a0 a2 x8 μ5) fun x9 μ10 =>
    if x6 = (xor32 x9 1) then
      some (1, μ10)
    else
      some (0, μ10)
  else
    some (0, μ)
def M_refuses (a0 a1 a2 : Int) (μ : Mem) : Option (Int × Mem) :=
  bd (isk 12 μ a0) fun _ =>
  bd2 (M_isOpen a0 a2 μ) fun x1 μ2 =>
  if x1 = 0 then
    some ((-8), μ2)
  else
    bd (getf 12 1 μ2 a0) fun x3 =>
    bd (lda 20 μ2 x3 (w32 (153 + a1))) fun x4 =>
    bd (isk 12 μ2 a0) fun _ =>
    bd2 (M_leads a0 a2 x4 μ2) fun x5 μ6 =>
    if x5 = 0 then
      some ((-9), μ6)
    else
      bd (isk 12 μ6 a0) fun _ =>
      bd2 (M_hasBack a0 a1 a2 μ6) fun x7 μ8 =>
      if x7 = 0 then
        bd (getf 12 1 μ8 a0) fun x9 =>
        bd (lda 20 μ8 x9 (w32 (165 + a1))) fun x10 =>
        bd (getf 12 1 μ8 a0) fun x11 =>
        bd (lda 20 μ8 x11 (w32 (159 + a1))) fun x12 =>
        bd (isk 12 μ8 a0) fun _ =>
        bd2 (M_tollOn a0 a2 x12 μ8) fun x13 μ14 =>
        if x10 < x13 then
          some ((-5), μ14)
        else
          bd (getf 12 1 μ14 a0) fun x15 =>
          bd (lda 20 μ14 x15 (w32 (171 + a1))) fun x16 =>
          if x16 = 40 then
            some ((-4), μ14)
          else
            some (0, μ14)
      else
        some (0, μ8)
def M_goes_J294  (v5 v7 : Int) (μ : Mem) : Option (Int × Mem) :=
  if v5 = 0 then
    some (v7, μ)
  else
    some ((w32 (1000 + v7)), μ)
def M_goes (a0 a1 a2 : Int) (μ : Mem) : Option (Int × Mem) :=
  bd (getf 12 1 μ a0) fun x1 =>
  bd (lda 20 μ x1 (w32 (159 + a1))) fun x2 =>
  bd (getf 12 1 μ a0) fun x3 =>
  bd (lda 20 μ x3 (w32 (153 + a1))) fun x4 =>
  bd (isk 12 μ a0) fun _ =>
  bd2 (M_dartBy a0 a2 x4 μ) fun x5 μ6 =>
  bd (isk 12 μ6 a0) fun _ =>
  bd2 (M_hasBack a0 a1 a2 μ6) fun x7 μ8 =>
  bd (getf 12 1 μ8 a0) fun x9 =>
  bd (lda 20 μ8 x9 (w32 (171 + a1))) fun x10 =>
  bd2 (
      if x7 = 0 then
        bd (isk 12 μ8 a0) fun _ =>
        bd2 (M_tollOn a0 a2 x2 μ8) fun x13 μ14 =>
        some (x13, μ14)
      else
        bd (isk 12 μ8 a0) fun _ =>
        bd2 (M_worthOf a0 a1 (w32 (x10 - 1)) x2 μ8) fun x15 μ16 =>
        some (x15, μ16)) fun (y11 : Int) (μ12 : Mem) =>
  bd (
      if x7 = 0 then
        bd2 (M_slipAt a1 x10 μ12) fun x18 μ19 =>
        bd (getf 12 1 μ19 a0) fun x20 =>
        bd (sta 20 μ19 x20 (w32 (189 + x18)) x5) fun μ21 =>
        bd (getf 12 1 μ21 a0) fun x22 =>
        bd (sta 20 μ21 x22 (w32 (429 + x18)) x2) fun μ23 =>
        bd (getf 12 1 μ23 a0) fun x24 =>
        bd (sta 20 μ23 x24 (w32 (669 + x18)) y11) fun μ25 =>
        bd (getf 12 1 μ25 a0) fun x26 =>
        bd (lda 20 μ25 x26 (w32 (171 + a1))) fun x27 =>
        bd (sta 20 μ25 x26 (w32 (171 + a1)) (w32 (x27 + 1))) fun μ28 =>
        bd (getf 12 1 μ28 a0) fun x29 =>
        bd (lda 20 μ28 x29 (w32 (165 + a1))) fun x30 =>
        bd (sta 20 μ28 x29 (w32 (165 + a1)) (w32 (x30 - y11))) fun μ31 =>
        bd (getf 12 1 μ31 a0) fun x32 =>
        bd (lda 20 μ31 x32 (w32 (177 + a1))) fun x33 =>
        bd (sta 20 μ31 x32 (w32 (177 + a1)) (w32 (x33 + y11))) fun μ34 =>
        some μ34
      else
        bd (getf 12 1 μ12 a0) fun x35 =>
        bd (lda 20 μ12 x35 (w32 (171 + a1))) fun x36 =>
        bd (sta 20 μ12 x35 (w32 (171 + a1)) (w32 (x36 - 1))) fun μ37 =>
        bd (getf 12 1 μ37 a0) fun x38 =>
        bd (lda 20 μ37 x38 (w32 (165 + a1))) fun x39 =>
        bd (sta 20 μ37 x38 (w32 (165 + a1)) (w32 (x39 + y11))) fun μ40 =>
        bd (getf 12 1 μ40 a0) fun x41 =>
        bd (lda 20 μ40 x41 (w32 (183 + a1))) fun x42 =>
        bd (sta 20 μ40 x41 (w32 (183 + a1)) (w32 (x42 + y11))) fun μ43 =>
        some μ43) fun (μ17 : Mem) =>
  bd (getf 12 1 μ17 a0) fun x44 =>
  bd (isk 12 μ17 a0) fun _ =>
  bd2 (M_headOf a0 x5 μ17) fun x45 μ46 =>
  bd (sta 20 μ46 x44 (w32 (153 + a1)) x45) fun μ47 =>
  bd (getf 12 1 μ47 a0) fun x48 =>
  bd (lda 20 μ47 x48 (w32 (159 + a1))) fun x49 =>
  bd (getf 12 1 μ47 a0) fun x50 =>
  bd (lda 20 μ47 x50 (w32 (104 + a2))) fun x51 =>
  bd (sta 20 μ47 x48 (w32 (159 + a1)) (w32 (x49 + x51))) fun μ52 =>
  bd (getf 12 15 μ52 a0) fun x53 =>
  if x53 = 0 then
    M_goes_J294 x7 y11 μ52
  else
    if x2 < 720 then
      bd (getf 12 1 μ52 a0) fun x54 =>
      bd (lda 20 μ52 x54 (w32 (909 + x2))) fun x55 =>
      bd (
          if x7 = 0 then
            some y11
          else
            some (w32 (-y11))) fun (y56 : Int) =>
      bd (sta 20 μ52 x54 (w32 (909 + x2)) (w32 (x55 + y56))) fun μ57 =>
      M_goes_J294 x7 y11 μ57
    else
      M_goes_J294 x7 y11 μ52
def M_go (a0 a1 a2 : Int) (μ : Mem) : Option (Int × Mem) :=
  bd (putf 12 0 μ a0 0) fun μ1 =>
  bd (isk 12 μ1 a0) fun _ =>
  bd2 (M_isOne a0 a1 μ1) fun x2 μ3 =>
  if x2 = 0 then
    some ((-2), μ3)
  else
    bd (isk 12 μ3 a0) fun _ =>
    bd2 (M_isRoad a0 a2 μ3) fun x4 μ5 =>
    if x4 = 0 then
      some ((-2), μ5)
    else
      bd (isk 12 μ5 a0) fun _ =>
      bd2 (M_refuses a0 a1 a2 μ5) fun x6 μ7 =>
      if x6 = 0 then
        bd (isk 12 μ7 a0) fun _ =>
        bd2 (M_goes a0 a1 a2 μ7) fun x8 μ9 =>
        some (x8, μ9)
      else
        some (x6, μ7)
def M_toss (a0 a1 : Int) (μ : Mem) : Option (Int × Mem) :=
  bd (putf 12 0 μ a0 0) fun μ1 =>
  bd (isk 12 μ1 a0) fun _ =>
  bd2 (M_isOne a0 a1 μ1) fun x2 μ3 =>
  if x2 = 0 then
    some ((-2), μ3)
  else
    bd (getf 12 1 μ3 a0) fun x4 =>
    bd (lda 20 μ3 x4 (w32 (171 + a1))) fun x5 =>
    if x5 = 0 then
      some ((-5), μ3)
    else
      bd (getf 12 1 μ3 a0) fun x6 =>
      bd (lda 20 μ3 x6 (w32 (171 + a1))) fun x7 =>
      bd (sta 20 μ3 x6 (w32 (171 + a1)) (w32 (x7 - 1))) fun μ8 =>
      bd (getf 12 1 μ8 a0) fun x9 =>
      bd (getf 12 1 μ8 a0) fun x10 =>
      bd (lda 20 μ8 x10 (w32 (171 + a1))) fun x11 =>
      bd2 (M_slipAt a1 x11 μ8) fun x12 μ13 =>
      bd (lda 20 μ13 x9 (w32 (669 + x12))) fun x14 =>
      some (x14, μ13)
def M_rest (a0 a1 a2 : Int) (μ : Mem) : Option (Int × Mem) :=
  bd (putf 12 0 μ a0 0) fun μ1 =>
  bd (isk 12 μ1 a0) fun _ =>
  bd2 (M_isOne a0 a1 μ1) fun x2 μ3 =>
  if x2 = 0 then
    some ((-2), μ3)
  else
    bd2 (M_within a2 0 9999 μ3) fun x4 μ5 =>
    if x4 = 0 then
      some ((-3), μ5)
    else
      bd (getf 12 1 μ5 a0) fun x6 =>
      bd (lda 20 μ5 x6 (w32 (159 + a1))) fun x7 =>
      if 99999 < (w32 (x7 + a2)) then
        some ((-5), μ5)
      else
        bd (getf 12 1 μ5 a0) fun x8 =>
        bd (lda 20 μ5 x8 (w32 (159 + a1))) fun x9 =>
        bd (sta 20 μ5 x8 (w32 (159 + a1)) (w32 (x9 + a2))) fun μ10 =>
        bd (getf 12 1 μ10 a0) fun x11 =>
        bd (lda 20 μ10 x11 (w32 (159 + a1))) fun x12 =>
        some (x12, μ10)
def M_moves (a0 a1 a2 : Int) (μ : Mem) : Option (Int × Mem) :=
  bd (getf 12 1 μ a0) fun x1 =>
  bd (getf 12 1 μ a0) fun x2 =>
  bd (lda 20 μ x2 (w32 (189 + a1))) fun x3 =>
  bd (sta 20 μ x1 (w32 (189 + a2)) x3) fun μ4 =>
  bd (getf 12 1 μ4 a0) fun x5 =>
  bd (getf 12 1 μ4 a0) fun x6 =>
  bd (lda 20 μ4 x6 (w32 (429 + a1))) fun x7 =>
  bd (sta 20 μ4 x5 (w32 (429 + a2)) x7) fun μ8 =>
  bd (getf 12 1 μ8 a0) fun x9 =>
  bd (getf 12 1 μ8 a0) fun x10 =>
  bd (lda 20 μ8 x10 (w32 (669 + a1))) fun x11 =>
  bd (sta 20 μ8 x9 (w32 (669 + a2)) x11) fun μ12 =>
  some (0, μ12)
def M_give (a0 a1 a2 a3 : Int) (μ : Mem) : Option (Int × Mem) :=
  bd (putf 12 0 μ a0 0) fun μ1 =>
  bd (isk 12 μ1 a0) fun _ =>
  bd2 (M_isOne a0 a1 μ1) fun x2 μ3 =>
  if x2 = 0 then
    some ((-2), μ3)
  else
    bd (isk 12 μ3 a0) fun _ =>
    bd2 (M_isOne a0 a2 μ3) fun x4 μ5 =>
    if x4 = 0 then
      some ((-2), μ5)
    else
      if a1 = a2 then
        some ((-2), μ5)
      else
        bd (getf 12 1 μ5 a0) fun x6 =>
        bd (lda 20 μ5 x6 (w32 (153 + a1))) fun x7 =>
        bd (getf 12 1 μ5 a0) fun x8 =>
        bd (lda 20 μ5 x8 (w32 (153 + a2))) fun x9 =>
        if x7 = x9 then
          bd (getf 12 1 μ5 a0) fun x10 =>
          bd (lda 20 μ5 x10 (w32 (171 + a1))) fun x11 =>
          if x11 = 0 then
            some ((-5), μ5)
          else
            bd (getf 12 1 μ5 a0) fun x12 =>
            bd (lda 20 μ5 x12 (w32 (165 + a2))) fun x13 =>
            bd2 (M_within a3 0 x13 μ5) fun x14 μ15 =>
            if x14 = 0 then
              some ((-3), μ15)
            else
              bd (getf 12 1 μ15 a0) fun x16 =>
              bd (lda 20 μ15 x16 (w32 (171 + a2))) fun x17 =>
              if x17 = 40 then
                some ((-4), μ15)
              else
                bd (getf 12 1 μ15 a0) fun x18 =>
                bd (lda 20 μ15 x18 (w32 (171 + a1))) fun x19 =>
                bd (sta 20 μ15 x18 (w32 (171 + a1)) (w32 (x19 - 1))) fun μ20 =>
                bd (getf 12 1 μ20 a0) fun x21 =>
                bd (lda 20 μ20 x21 (w32 (171 + a1))) fun x22 =>
                bd2 (M_slipAt a1 x22 μ20) fun x23 μ24 =>
                bd (getf 12 1 μ24 a0) fun x25 =>
                bd (lda 20 μ24 x25 (w32 (171 + a2))) fun x26 =>
                bd2 (M_slipAt a2 x26 μ24) fun x27 μ28 =>
                bd (isk 12 μ28 a0) fun _ =>
                bd2 (M_moves a0 x23 x27 μ28) fun _ μ30 =>
                bd (getf 12 1 μ30 a0) fun x31 =>
                bd (lda 20 μ30 x31 (w32 (171 + a2))) fun x32 =>
                bd (sta 20 μ30 x31 (w32 (171 + a2)) (w32 (x32 + 1))) fun μ33 =>
                bd (getf 12 1 μ33 a0) fun x34 =>
                bd (lda 20 μ33 x34 (w32 (165 + a1))) fun x35 =>
                bd (sta 20 μ33 x34 (w32 (165 + a1)) (w32 (x35 + a3))) fun μ36 =>
                bd (getf 12 1 μ36 a0) fun x37 =>
                bd (lda 20 μ36 x37 (w32 (165 + a2))) fun x38 =>
                bd (sta 20 μ36 x37 (w32 (165 + a2)) (w32 (x38 - a3))) fun μ39 =>
                bd (getf 12 1 μ39 a0) fun x40 =>
                bd (lda 20 μ39 x40 (w32 (171 + a2))) fun x41 =>
                some (x41, μ39)
        else
          some ((-5), μ5)
def M_changes_L2 (k114 : Int → Int → Int → Mem → Option (Int × Mem)) : Nat → Int → Int → Int → Int → Mem → Option (Int × Mem)
  | 0, _, _, _, _, _ => none
  | n + 1, v0, v1, v2, v3, μ =>
    if v3 < 40 then
      bd2 (M_slipAt v1 v3 μ) fun x1 μ2 =>
      bd2 (M_slipAt v2 v3 μ2) fun x3 μ4 =>
      bd (getf 12 1 μ4 v0) fun x5 =>
      bd (lda 20 μ4 x5 (w32 (189 + x1))) fun x6 =>
      bd (getf 12 1 μ4 v0) fun x7 =>
      bd (lda 20 μ4 x7 (w32 (429 + x1))) fun x8 =>
      bd (getf 12 1 μ4 v0) fun x9 =>
      bd (lda 20 μ4 x9 (w32 (669 + x1))) fun x10 =>
      bd (isk 12 μ4 v0) fun _ =>
      bd2 (M_moves v0 x3 x1 μ4) fun _ μ12 =>
      bd (getf 12 1 μ12 v0) fun x13 =>
      bd (sta 20 μ12 x13 (w32 (189 + x3)) x6) fun μ14 =>
      bd (getf 12 1 μ14 v0) fun x15 =>
      bd (sta 20 μ14 x15 (w32 (429 + x3)) x8) fun μ16 =>
      bd (getf 12 1 μ16 v0) fun x17 =>
      bd (sta 20 μ16 x17 (w32 (669 + x3)) x10) fun μ18 =>
      M_changes_L2 k114 n v0 v1 v2 (w32 (v3 + 1)) μ18
    else
      k114 v0 v1 v2 μ
def M_changes (a0 a1 a2 : Int) (μ : Mem) : Option (Int × Mem) :=
  M_changes_L2 (fun x1 x2 x3 μ4 =>
      bd (getf 12 1 μ4 x1) fun x5 =>
      bd (lda 20 μ4 x5 (w32 (171 + x2))) fun x6 =>
      bd (getf 12 1 μ4 x1) fun x7 =>
      bd (getf 12 1 μ4 x1) fun x8 =>
      bd (lda 20 μ4 x8 (w32 (171 + x3))) fun x9 =>
      bd (sta 20 μ4 x7 (w32 (171 + x2)) x9) fun μ10 =>
      bd (getf 12 1 μ10 x1) fun x11 =>
      bd (sta 20 μ10 x11 (w32 (171 + x3)) x6) fun μ12 =>
      some (0, μ12)) FU a0 a1 a2 0 μ
def M_change (a0 a1 a2 : Int) (μ : Mem) : Option (Int × Mem) :=
  bd (putf 12 0 μ a0 0) fun μ1 =>
  bd (isk 12 μ1 a0) fun _ =>
  bd2 (M_isOne a0 a1 μ1) fun x2 μ3 =>
  if x2 = 0 then
    some ((-2), μ3)
  else
    bd (isk 12 μ3 a0) fun _ =>
    bd2 (M_isOne a0 a2 μ3) fun x4 μ5 =>
    if x4 = 0 then
      some ((-2), μ5)
    else
      if a1 = a2 then
        some ((-2), μ5)
      else
        bd (getf 12 1 μ5 a0) fun x6 =>
        bd (lda 20 μ5 x6 (w32 (153 + a1))) fun x7 =>
        bd (getf 12 1 μ5 a0) fun x8 =>
        bd (lda 20 μ5 x8 (w32 (153 + a2))) fun x9 =>
        if x7 = x9 then
          bd (isk 12 μ5 a0) fun _ =>
          bd2 (M_changes a0 a1 a2 μ5) fun _ μ11 =>
          bd (getf 12 1 μ11 a0) fun x12 =>
          bd (lda 20 μ11 x12 (w32 (171 + a1))) fun x13 =>
          some (x13, μ11)
        else
          some ((-5), μ5)
def M_keeps_L2 (k35 : Int → Int → Mem → Option (Int × Mem)) : Nat → Int → Int → Int → Mem → Option (Int × Mem)
  | 0, _, _, _, _ => none
  | n + 1, v0, v1, v2, μ =>
    if v2 < 6 then
      bd (getf 12 16 μ v0) fun x1 =>
      bd (getf 12 1 μ v0) fun x2 =>
      bd (lda 20 μ x2 (w32 ((w32 (153 + (w32 (6 * v2)))) + v1))) fun x3 =>
      bd (sta 20 μ x1 v2 x3) fun μ4 =>
      M_keeps_L2 k35 n v0 v1 (w32 (v2 + 1)) μ4
    else
      k35 v0 v1 μ
def M_keeps_L37  : Nat → Int → Int → Int → Mem → Option (Int × Mem)
  | 0, _, _, _, _ => none
  | n + 1, v0, v1, v2, μ =>
    if v2 < 40 then
      bd (getf 12 16 μ v0) fun x1 =>
      bd (getf 12 1 μ v0) fun x2 =>
      bd2 (M_slipAt v1 v2 μ) fun x3 μ4 =>
      bd (lda 20 μ4 x2 (w32 (189 + x3))) fun x5 =>
      bd (sta 20 μ4 x1 (w32 (6 + v2)) x5) fun μ6 =>
      bd (getf 12 16 μ6 v0) fun x7 =>
      bd (getf 12 1 μ6 v0) fun x8 =>
      bd2 (M_slipAt v1 v2 μ6) fun x9 μ10 =>
      bd (lda 20 μ10 x8 (w32 (429 + x9))) fun x11 =>
      bd (sta 20 μ10 x7 (w32 (46 + v2)) x11) fun μ12 =>
      bd (getf 12 16 μ12 v0) fun x13 =>
      bd (getf 12 1 μ12 v0) fun x14 =>
      bd2 (M_slipAt v1 v2 μ12) fun x15 μ16 =>
      bd (lda 20 μ16 x14 (w32 (669 + x15))) fun x17 =>
      bd (sta 20 μ16 x13 (w32 (86 + v2)) x17) fun μ18 =>
      M_keeps_L37 n v0 v1 (w32 (v2 + 1)) μ18
    else
      some (0, μ)
def M_keeps (a0 a1 : Int) (μ : Mem) : Option (Int × Mem) :=
  M_keeps_L2 (fun x1 x2 μ3 =>
      M_keeps_L37 FU x1 x2 0 μ3) FU a0 a1 0 μ
def M_isAgain_L2 (k35 : Int → Int → Mem → Option (Int × Mem)) : Nat → Int → Int → Int → Mem → Option (Int × Mem)
  | 0, _, _, _, _ => none
  | n + 1, v0, v1, v2, μ =>
    if v2 < 6 then
      bd (getf 12 1 μ v0) fun x1 =>
      bd (getf 12 16 μ v0) fun x2 =>
      bd (lda 20 μ x2 v2) fun x3 =>
      bd (sta 20 μ x1 (w32 ((w32 (153 + (w32 (6 * v2)))) + v1)) x3) fun μ4 =>
      M_isAgain_L2 k35 n v0 v1 (w32 (v2 + 1)) μ4
    else
      k35 v0 v1 μ
def M_isAgain_L37  : Nat → Int → Int → Int → Mem → Option (Int × Mem)
  | 0, _, _, _, _ => none
  | n + 1, v0, v1, v2, μ =>
    if v2 < 40 then
      bd (getf 12 1 μ v0) fun x1 =>
      bd2 (M_slipAt v1 v2 μ) fun x2 μ3 =>
      bd (getf 12 16 μ3 v0) fun x4 =>
      bd (lda 20 μ3 x4 (w32 (6 + v2))) fun x5 =>
      bd (sta 20 μ3 x1 (w32 (189 + x2)) x5) fun μ6 =>
      bd (getf 12 1 μ6 v0) fun x7 =>
      bd2 (M_slipAt v1 v2 μ6) fun x8 μ9 =>
      bd (getf 12 16 μ9 v0) fun x10 =>
      bd (lda 20 μ9 x10 (w32 (46 + v2))) fun x11 =>
      bd (sta 20 μ9 x7 (w32 (429 + x8)) x11) fun μ12 =>
      bd (getf 12 1 μ12 v0) fun x13 =>
      bd2 (M_slipAt v1 v2 μ12) fun x14 μ15 =>
      bd (getf 12 16 μ15 v0) fun x16 =>
      bd (lda 20 μ15 x16 (w32 (86 + v2))) fun x17 =>
      bd (sta 20 μ15 x13 (w32 (669 + x14)) x17) fun μ18 =>
      M_isAgain_L37 n v0 v1 (w32 (v2 + 1)) μ18
    else
      some (0, μ)
def M_isAgain (a0 a1 : Int) (μ : Mem) : Option (Int × Mem) :=
  M_isAgain_L2 (fun x1 x2 μ3 =>
      M_isAgain_L37 FU x1 x2 0 μ3) FU a0 a1 0 μ
def M_goesAll_L2 (k75 : Int → Int → Mem → Option (Int × Mem)) : Nat → Int → Int → Int → Int → Mem → Option (Int × Mem)
  | 0, _, _, _, _, _ => none
  | n + 1, v0, v1, v2, v3, μ =>
    bd (getf 12 50 μ v0) fun x1 =>
    bd (lda 20 μ x1 v2) fun x2 =>
    if v3 < x2 then
      bd (getf 12 51 μ v0) fun x3 =>
      bd (lda 21 μ x3 (w32 ((w32 (40 * v2)) + v3))) fun x4 =>
      bd (isk 12 μ v0) fun _ =>
      bd2 (M_isRoad v0 x4 μ) fun x5 μ6 =>
      bd2 (
          if x5 = 0 then
            some ((-2), μ6)
          else
            bd (isk 12 μ6 v0) fun _ =>
            bd2 (M_refuses v0 v1 (w32 x4) μ6) fun x9 μ10 =>
            some (x9, μ10)) fun (y7 : Int) (μ8 : Mem) =>
      bd (putf 12 17 μ8 v0 y7) fun μ11 =>
      bd (getf 12 17 μ11 v0) fun x12 =>
      if x12 = 0 then
        bd (isk 12 μ11 v0) fun _ =>
        bd2 (M_goes v0 v1 (w32 x4) μ11) fun x13 μ14 =>
        M_goesAll_L2 k75 n v0 v1 v2 (w32 (v3 + 1)) μ14
      else
        some (v3, μ11)
    else
      k75 v0 v2 μ
def M_goesAll (a0 a1 a2 : Int) (μ : Mem) : Option (Int × Mem) :=
  M_goesAll_L2 (fun x1 x2 μ3 =>
      bd (putf 12 17 μ3 x1 0) fun μ4 =>
      bd (getf 12 50 μ4 x1) fun x5 =>
      bd (lda 20 μ4 x5 x2) fun x6 =>
      some (x6, μ4)) FU a0 a1 a2 0 μ
def M_judge (a0 a1 a2 a3 : Int) (μ : Mem) : Option (Int × Mem) :=
  bd (putf 12 0 μ a0 0) fun μ1 =>
  bd (isk 12 μ1 a0) fun _ =>
  bd2 (M_isOne a0 a1 μ1) fun x2 μ3 =>
  if x2 = 0 then
    some ((-2), μ3)
  else
    bd2 (M_within a2 0 3 μ3) fun x4 μ5 =>
    if x4 = 0 then
      some ((-2), μ5)
    else
      bd2 (M_within a3 0 6 μ5) fun x6 μ7 =>
      if x6 = 0 then
        some ((-2), μ7)
      else
        bd (getf 12 49 μ7 a0) fun x8 =>
        bd (lda 20 μ7 x8 a2) fun x9 =>
        if x9 = (-1) then
          some ((-6), μ7)
        else
          bd (isk 12 μ7 a0) fun _ =>
          bd2 (M_keeps a0 a1 μ7) fun _ μ11 =>
          bd (putf 12 15 μ11 a0 0) fun μ12 =>
          bd (isk 12 μ12 a0) fun _ =>
          bd2 (M_goesAll a0 a1 a2 μ12) fun x13 μ14 =>
          bd (putf 12 15 μ14 a0 1) fun μ15 =>
          bd (
              if a3 = 0 then
                bd (getf 12 17 μ15 a0) fun x17 =>
                if x17 = 0 then
                  some (-1)
                else
                  some x13
              else
                if a3 = 1 then
                bd (getf 12 17 μ15 a0) fun x18 =>
                some x18
              else
                if a3 = 2 then
                bd (getf 12 1 μ15 a0) fun x19 =>
                bd (lda 20 μ15 x19 (w32 (177 + a1))) fun x20 =>
                bd (getf 12 16 μ15 a0) fun x21 =>
                bd (lda 20 μ15 x21 4) fun x22 =>
                bd (some (w32 (x20 - x22))) fun x23 =>
                some x23
              else
                if a3 = 3 then
                bd (getf 12 1 μ15 a0) fun x24 =>
                bd (lda 20 μ15 x24 (w32 (183 + a1))) fun x25 =>
                bd (getf 12 16 μ15 a0) fun x26 =>
                bd (lda 20 μ15 x26 5) fun x27 =>
                bd (some (w32 (x25 - x27))) fun x28 =>
                some x28
              else
                if a3 = 4 then
                bd (getf 12 1 μ15 a0) fun x29 =>
                bd (lda 20 μ15 x29 (w32 (171 + a1))) fun x30 =>
                some x30
              else
                if a3 = 5 then
                bd (getf 12 1 μ15 a0) fun x31 =>
                bd (lda 20 μ15 x31 (w32 (153 + a1))) fun x32 =>
                some x32
              else
                bd (getf 12 1 μ15 a0) fun x33 =>
              bd (lda 20 μ15 x33 (w32 (159 + a1))) fun x34 =>
              some x34) fun (y16 : Int) =>
          bd (isk 12 μ15 a0) fun _ =>
          bd2 (M_isAgain a0 a1 μ15) fun _ μ36 =>
          some (y16, μ36)
def M_perform (a0 a1 a2 : Int) (μ : Mem) : Option (Int × Mem) :=
  bd (putf 12 0 μ a0 0) fun μ1 =>
  bd (isk 12 μ1 a0) fun _ =>
  bd2 (M_isOne a0 a1 μ1) fun x2 μ3 =>
  if x2 = 0 then
    some ((-2), μ3)
  else
    bd2 (M_within a2 0 3 μ3) fun x4 μ5 =>
    if x4 = 0 then
      some ((-2), μ5)
    else
      bd (getf 12 49 μ5 a0) fun x6 =>
      bd (lda 20 μ5 x6 a2) fun x7 =>
      if x7 = (-1) then
        some ((-6), μ5)
      else
        bd (isk 12 μ5 a0) fun _ =>
        bd2 (M_goesAll a0 a1 a2 μ5) fun x8 μ9 =>
        some (x8, μ9)
def M_treasury_L84 (k153 : Int → Int → Int → Int → Mem → Option (Int × Mem)) : Nat → Int → Int → Int → Int → Int → Mem → Option (Int × Mem)
  | 0, _, _, _, _, _, _ => none
  | n + 1, v0, v1, v2, v3, v4, μ =>
    bd (getf 12 1 μ v0) fun x1 =>
    bd (lda 20 μ x1 (w32 (171 + v3))) fun x2 =>
    if v4 < x2 then
      if v1 = 2 then
        bd (getf 12 1 μ v0) fun x3 =>
        bd (lda 20 μ x3 (w32 (159 + v3))) fun x4 =>
        bd (getf 12 1 μ v0) fun x5 =>
        bd2 (M_slipAt v3 v4 μ) fun x6 μ7 =>
        bd (lda 20 μ7 x5 (w32 (429 + x6))) fun x8 =>
        bd (getf 12 1 μ7 v0) fun x9 =>
        bd (lda 20 μ7 x9 2) fun x10 =>
        if x10 < (w32 (x4 - x8)) then
          bd (some (w32 (v2 + 1))) fun x12 =>
          M_treasury_L84 k153 n v0 v1 x12 v3 (w32 (v4 + 1)) μ7
        else
          bd (some (w32 (v2 + 0))) fun x11 =>
          M_treasury_L84 k153 n v0 v1 x11 v3 (w32 (v4 + 1)) μ7
      else
        k153 v0 v1 v2 v3 μ
    else
      k153 v0 v1 v2 v3 μ
def M_treasury_L23  : Nat → Int → Int → Int → Int → Mem → Option (Int × Mem)
  | 0, _, _, _, _, _ => none
  | n + 1, v0, v1, v2, v3, μ =>
    bd (getf 12 1 μ v0) fun x1 =>
    bd (lda 20 μ x1 152) fun x2 =>
    if v3 < x2 then
      if v1 < 2 then
        if v1 = 0 then
          bd (getf 12 1 μ v0) fun x16 =>
          bd (lda 20 μ x16 (w32 (177 + v3))) fun x17 =>
          bd (getf 12 1 μ v0) fun x18 =>
          bd (lda 20 μ x18 (w32 (183 + v3))) fun x19 =>
          bd (some (w32 (v2 + (w32 (x17 - x19))))) fun x20 =>
          M_treasury_L84 (fun x21 x22 x23 x24 μ25 =>
              M_treasury_L23 n x21 x22 x23 (w32 (x24 + 1)) μ25) FU v0 v1 x20 v3 0 μ
        else
          bd (getf 12 1 μ v0) fun x8 =>
          bd (lda 20 μ x8 (w32 (171 + v3))) fun x9 =>
          bd (some (w32 (v2 + x9))) fun x10 =>
          M_treasury_L84 (fun x11 x12 x13 x14 μ15 =>
              M_treasury_L23 n x11 x12 x13 (w32 (x14 + 1)) μ15) FU v0 v1 x10 v3 0 μ
      else
        M_treasury_L84 (fun x3 x4 x5 x6 μ7 =>
            M_treasury_L23 n x3 x4 x5 (w32 (x6 + 1)) μ7) FU v0 v1 v2 v3 0 μ
    else
      some (v2, μ)
def M_treasury (a0 a1 : Int) (μ : Mem) : Option (Int × Mem) :=
  bd (putf 12 0 μ a0 0) fun μ1 =>
  bd2 (M_within a1 0 2 μ1) fun x2 μ3 =>
  if x2 = 0 then
    some ((-1), μ3)
  else
    M_treasury_L23 FU a0 a1 0 0 μ3
def M_owes_L31 (k63 : Int → Int → Int → Int → Mem → Option (Int × Mem)) : Nat → Int → Int → Int → Int → Int → Mem → Option (Int × Mem)
  | 0, _, _, _, _, _, _ => none
  | n + 1, v0, v1, v2, v3, v4, μ =>
    bd (getf 12 1 μ v0) fun x1 =>
    bd (lda 20 μ x1 (w32 (171 + v3))) fun x2 =>
    if v4 < x2 then
      bd (isk 12 μ v0) fun _ =>
      bd2 (M_worthOf v0 v3 v4 v1 μ) fun x3 μ4 =>
      bd (some (w32 (v2 + x3))) fun x5 =>
      M_owes_L31 k63 n v0 v1 x5 v3 (w32 (v4 + 1)) μ4
    else
      k63 v0 v1 v2 v3 μ
def M_owes_L16  : Nat → Int → Int → Int → Int → Mem → Option (Int × Mem)
  | 0, _, _, _, _, _ => none
  | n + 1, v0, v1, v2, v3, μ =>
    bd (getf 12 1 μ v0) fun x1 =>
    bd (lda 20 μ x1 152) fun x2 =>
    if v3 < x2 then
      M_owes_L31 (fun x3 x4 x5 x6 μ7 =>
          M_owes_L16 n x3 x4 x5 (w32 (x6 + 1)) μ7) FU v0 v1 v2 v3 0 μ
    else
      some (v2, μ)
def M_owes (a0 a1 : Int) (μ : Mem) : Option (Int × Mem) :=
  bd (putf 12 0 μ a0 0) fun μ1 =>
  if a1 < 0 then
    some ((-3), μ1)
  else
    M_owes_L16 FU a0 a1 0 0 μ1
def M_lapse_L23 (k86 : Int → Int → Int → Mem → Option (Int × Mem)) : Nat → Int → Int → Int → Int → Mem → Option (Int × Mem)
  | 0, _, _, _, _, _ => none
  | n + 1, v0, v1, v2, v3, μ =>
    bd (getf 12 1 μ v0) fun x1 =>
    bd (lda 20 μ x1 (w32 (171 + v2))) fun x2 =>
    if v3 < x2 then
      bd (getf 12 1 μ v0) fun x3 =>
      bd2 (M_slipAt v2 v3 μ) fun x4 μ5 =>
      bd (lda 20 μ5 x3 (w32 (429 + x4))) fun x6 =>
      bd (getf 12 1 μ5 v0) fun x7 =>
      bd (lda 20 μ5 x7 2) fun x8 =>
      bd (some (w32 ((w32 (x6 + x8)) + 1))) fun x9 =>
      if v1 = (-1) then
        M_lapse_L23 k86 n v0 x9 v2 (w32 (v3 + 1)) μ5
      else
        if x9 < v1 then
          M_lapse_L23 k86 n v0 x9 v2 (w32 (v3 + 1)) μ5
        else
          M_lapse_L23 k86 n v0 v1 v2 (w32 (v3 + 1)) μ5
    else
      k86 v0 v1 v2 μ
def M_lapse_L9  : Nat → Int → Int → Int → Mem → Option (Int × Mem)
  | 0, _, _, _, _ => none
  | n + 1, v0, v1, v2, μ =>
    bd (getf 12 1 μ v0) fun x1 =>
    bd (lda 20 μ x1 152) fun x2 =>
    if v2 < x2 then
      M_lapse_L23 (fun x3 x4 x5 μ6 =>
          M_lapse_L9 n x3 x4 (w32 (x5 + 1)) μ6) FU v0 v1 v2 0 μ
    else
      some (v1, μ)
def M_lapse (a0 : Int) (μ : Mem) : Option (Int × Mem) :=
  bd (putf 12 0 μ a0 0) fun μ1 =>
  M_lapse_L9 FU a0 (-1) 0 μ1
def M_blocked_L20  : Nat → Int → Int → Int → Int → Mem → Option (Int × Mem)
  | 0, _, _, _, _, _ => none
  | n + 1, v0, v1, v2, v3, μ =>
    bd (getf 12 1 μ v0) fun x1 =>
    bd (lda 20 μ x1 (w32 (171 + v1))) fun x2 =>
    if v3 < x2 then
      bd (getf 12 1 μ v0) fun x3 =>
      bd2 (M_slipAt v1 v3 μ) fun x4 μ5 =>
      bd (lda 20 μ5 x3 (w32 (189 + x4))) fun x6 =>
      bd (div32 x6 2) fun x7 =>
      bd (isk 12 μ5 v0) fun _ =>
      bd2 (M_isOpen v0 x7 μ5) fun x8 μ9 =>
      if x8 = 0 then
        bd (some (w32 (v3 + 1))) fun x10 =>
        M_blocked_L20 n v0 v1 x10 (w32 (v3 + 1)) μ9
      else
        M_blocked_L20 n v0 v1 v2 (w32 (v3 + 1)) μ9
    else
      some (v2, μ)
def M_blocked (a0 a1 : Int) (μ : Mem) : Option (Int × Mem) :=
  bd (putf 12 0 μ a0 0) fun μ1 =>
  bd (isk 12 μ1 a0) fun _ =>
  bd2 (M_isOne a0 a1 μ1) fun x2 μ3 =>
  if x2 = 0 then
    some ((-2), μ3)
  else
    M_blocked_L20 FU a0 a1 0 0 μ3
def M_homeward_L71 (k197 : Int → Int → Int → Int → Int → Int → Mem → Option (Int × Mem)) : Nat → Int → Int → Int → Int → Int → Int → Int → Int → Mem → Option (Int × Mem)
  | 0, _, _, _, _, _, _, _, _, _ => none
  | n + 1, v0, v1, v2, v3, v4, v5, v6, v7, μ =>
    if v7 < 0 then
      k197 v0 v1 v2 v4 v5 v6 μ
    else
      bd (getf 12 1 μ v0) fun x1 =>
      bd2 (M_slipAt v1 v7 μ) fun x2 μ3 =>
      bd (lda 20 μ3 x1 (w32 (189 + x2))) fun x4 =>
      bd (div32 x4 2) fun x5 =>
      bd (isk 12 μ3 v0) fun _ =>
      bd2 (M_isOpen v0 x5 μ3) fun x6 μ7 =>
      if x6 = 0 then
        some ((-1), μ7)
      else
        bd (isk 12 μ7 v0) fun _ =>
        bd2 (M_headOf v0 x4 μ7) fun x8 μ9 =>
        if x8 = v3 then
          bd (isk 12 μ9 v0) fun _ =>
          bd2 (M_worthOf v0 v1 v7 v4 μ9) fun x10 μ11 =>
          bd (some (w32 (v5 + x10))) fun x12 =>
          bd (getf 12 1 μ11 v0) fun x13 =>
          bd2 (M_slipAt v1 v7 μ11) fun x14 μ15 =>
          bd (lda 20 μ15 x13 (w32 (429 + x14))) fun x16 =>
          bd (getf 12 1 μ15 v0) fun x17 =>
          bd (lda 20 μ15 x17 2) fun x18 =>
          bd (
              if x18 < (w32 (v4 - x16)) then
                some 1
              else
                some 0) fun (y19 : Int) =>
          bd (some (w32 (v6 + y19))) fun x20 =>
          bd (isk 12 μ15 v0) fun _ =>
          bd2 (M_tailOf v0 x4 μ15) fun x21 μ22 =>
          bd (getf 12 1 μ22 v0) fun x23 =>
          bd (div32 x4 2) fun x24 =>
          bd (lda 20 μ22 x23 (w32 (104 + x24))) fun x25 =>
          bd (some (w32 (v4 + x25))) fun x26 =>
          M_homeward_L71 k197 n v0 v1 v2 x21 x26 x12 x20 (w32 (v7 + (-1))) μ22
        else
          some ((-1), μ9)
def M_homeward (a0 a1 a2 : Int) (μ : Mem) : Option (Int × Mem) :=
  bd (putf 12 0 μ a0 0) fun μ1 =>
  bd (isk 12 μ1 a0) fun _ =>
  bd2 (M_isOne a0 a1 μ1) fun x2 μ3 =>
  if x2 = 0 then
    some ((-2), μ3)
  else
    bd2 (M_within a2 0 2 μ3) fun x4 μ5 =>
    if x4 = 0 then
      some ((-2), μ5)
    else
      bd (getf 12 1 μ5 a0) fun x6 =>
      bd (lda 20 μ5 x6 (w32 (153 + a1))) fun x7 =>
      bd (getf 12 1 μ5 a0) fun x8 =>
      bd (lda 20 μ5 x8 (w32 (159 + a1))) fun x9 =>
      bd (getf 12 1 μ5 a0) fun x10 =>
      bd (lda 20 μ5 x10 (w32 (171 + a1))) fun x11 =>
      bd (some (w32 (x11 - 1))) fun x12 =>
      M_homeward_L71 (fun x13 x14 x15 x16 x17 x18 μ19 =>
          if x15 = 0 then
            some (x17, μ19)
          else
            if x15 = 1 then
              bd (getf 12 1 μ19 x13) fun x20 =>
              bd (lda 20 μ19 x20 (w32 (159 + x14))) fun x21 =>
              some ((w32 (x16 - x21)), μ19)
            else
              some (x18, μ19)) FU a0 a1 a2 x7 x9 0 0 x12 μ5
def M_looksAt_L16  : Nat → Int → Int → Int → Int → Mem → Option (Int × Mem)
  | 0, _, _, _, _, _ => none
  | n + 1, v0, v1, v2, v3, μ =>
    bd (getf 12 23 μ v0) fun x1 =>
    if v3 < x1 then
      bd (getf 12 20 μ v0) fun x2 =>
      bd (getf 12 1 μ v0) fun x3 =>
      bd2 (M_slipAt v1 v3 μ) fun x4 μ5 =>
      bd (lda 20 μ5 x3 (w32 (189 + x4))) fun x6 =>
      bd (sta 20 μ5 x2 v3 x6) fun μ7 =>
      bd (getf 12 21 μ7 v0) fun x8 =>
      bd (isk 12 μ7 v0) fun _ =>
      bd2 (M_worthOf v0 v1 v3 v2 μ7) fun x9 μ10 =>
      bd (sta 20 μ10 x8 v3 x9) fun μ11 =>
      M_looksAt_L16 n v0 v1 v2 (w32 (v3 + 1)) μ11
    else
      some (0, μ)
def M_looksAt (a0 a1 a2 : Int) (μ : Mem) : Option (Int × Mem) :=
  bd (getf 12 1 μ a0) fun x1 =>
  bd (lda 20 μ x1 (w32 (171 + a1))) fun x2 =>
  bd (putf 12 23 μ a0 x2) fun μ3 =>
  M_looksAt_L16 FU a0 a1 a2 0 μ3
def M_better_J65  (v0 v2 v5 v6 : Int) (μ : Mem) : Option (Int × Mem) :=
  bd (getf 12 22 μ v0) fun x1 =>
  bd (sta 23 μ x1 v2 1) fun μ2 =>
  bd (getf 12 18 μ2 v0) fun x3 =>
  bd (sta 20 μ2 x3 v2 v5) fun μ4 =>
  bd (getf 12 19 μ4 v0) fun x5 =>
  bd (sta 20 μ4 x5 v2 v6) fun μ6 =>
  some (1, μ6)
def M_better (a0 a1 a2 a3 a4 : Int) (μ : Mem) : Option (Int × Mem) :=
  bd (getf 12 18 μ a0) fun x1 =>
  bd (lda 20 μ x1 a1) fun x2 =>
  bd (some (w32 (x2 + a3))) fun x3 =>
  bd (getf 12 19 μ a0) fun x4 =>
  bd (lda 20 μ x4 a1) fun x5 =>
  bd (some (w32 (x5 + a4))) fun x6 =>
  bd (getf 12 22 μ a0) fun x7 =>
  bd (lda 23 μ x7 a2) fun x8 =>
  if x8 = 0 then
    M_better_J65 a0 a2 x3 x6 μ
  else
    bd (getf 12 18 μ a0) fun x9 =>
    bd (lda 20 μ x9 a2) fun x10 =>
    if x10 < x3 then
      some (0, μ)
    else
      bd (getf 12 18 μ a0) fun x11 =>
      bd (lda 20 μ x11 a2) fun x12 =>
      if x3 = x12 then
        bd (getf 12 19 μ a0) fun x13 =>
        bd (lda 20 μ x13 a2) fun x14 =>
        if x6 < x14 then
          M_better_J65 a0 a2 x3 x6 μ
        else
          some (0, μ)
      else
        M_better_J65 a0 a2 x3 x6 μ
def M_cheap_L2 (k22 : Int → Int → Int → Mem → Option (Int × Mem)) : Nat → Int → Int → Int → Int → Mem → Option (Int × Mem)
  | 0, _, _, _, _, _ => none
  | n + 1, v0, v1, v2, v3, μ =>
    if v3 < 504 then
      bd (getf 12 22 μ v0) fun x1 =>
      bd (sta 23 μ x1 v3 0) fun μ2 =>
      M_cheap_L2 k22 n v0 v1 v2 (w32 (v3 + 1)) μ2
    else
      k22 v0 v1 v2 μ
def M_cheap_L78 (k225 : Int → Int → Int → Int → Mem → Option (Int × Mem)) : Nat → Int → Int → Int → Int → Int → Mem → Option (Int × Mem)
  | 0, _, _, _, _, _, _ => none
  | n + 1, v0, v2, v4, v5, v6, μ =>
    bd (getf 12 1 μ v0) fun x1 =>
    bd (lda 20 μ x1 7) fun x2 =>
    if v6 < x2 then
      bd (isk 12 μ v0) fun _ =>
      bd2 (M_isOpen v0 v6 μ) fun x3 μ4 =>
      if x3 = 0 then
        M_cheap_L78 k225 n v0 v2 v4 v5 (w32 (v6 + 1)) μ4
      else
        bd (getf 12 1 μ4 v0) fun x5 =>
        bd (lda 20 μ4 x5 (w32 (8 + v6))) fun x6 =>
        bd (some (w32 ((w32 (12 * v4)) + x6))) fun x7 =>
        bd (getf 12 1 μ4 v0) fun x8 =>
        bd (lda 20 μ4 x8 (w32 (32 + v6))) fun x9 =>
        bd (some (w32 ((w32 (12 * v4)) + x9))) fun x10 =>
        bd (isk 12 μ4 v0) fun _ =>
        bd2 (M_tollOn v0 v6 v2 μ4) fun x11 μ12 =>
        bd (getf 12 22 μ12 v0) fun x13 =>
        bd (lda 23 μ12 x13 x7) fun x14 =>
        bd2 (
            if x14 = 0 then
              some (v5, μ12)
            else
              bd (isk 12 μ12 v0) fun _ =>
              bd2 (M_better v0 x7 x10 x11 1 μ12) fun x17 μ18 =>
              if x17 = 0 then
                if v5 = 0 then
                  some (0, μ18)
                else
                  some (1, μ18)
              else
                some (1, μ18)) fun (y15 : Int) (μ16 : Mem) =>
        bd (getf 12 22 μ16 v0) fun x19 =>
        bd (lda 23 μ16 x19 x10) fun x20 =>
        if x20 = 0 then
          M_cheap_L78 k225 n v0 v2 v4 y15 (w32 (v6 + 1)) μ16
        else
          bd (isk 12 μ16 v0) fun _ =>
          bd2 (M_better v0 x10 x7 x11 1 μ16) fun x21 μ22 =>
          if x21 = 0 then
            if y15 = 0 then
              M_cheap_L78 k225 n v0 v2 v4 0 (w32 (v6 + 1)) μ22
            else
              M_cheap_L78 k225 n v0 v2 v4 1 (w32 (v6 + 1)) μ22
          else
            M_cheap_L78 k225 n v0 v2 v4 1 (w32 (v6 + 1)) μ22
    else
      k225 v0 v2 v4 v5 μ
def M_cheap_L67 (k228 : Int → Int → Int → Mem → Option (Int × Mem)) : Nat → Int → Int → Int → Int → Mem → Option (Int × Mem)
  | 0, _, _, _, _, _ => none
  | n + 1, v0, v2, v4, v5, μ =>
    if v5 = 0 then
      k228 v0 v2 v4 μ
    else
      M_cheap_L78 (fun x1 x2 x3 x4 μ5 =>
          M_cheap_L67 k228 n x1 x2 x3 x4 μ5) FU v0 v2 v4 0 0 μ
def M_cheap_L239 (k298 : Int → Int → Int → Mem → Option (Int × Mem)) : Nat → Int → Int → Int → Int → Mem → Option (Int × Mem)
  | 0, _, _, _, _, _ => none
  | n + 1, v0, v2, v4, v6, μ =>
    bd (getf 12 1 μ v0) fun x1 =>
    bd (lda 20 μ x1 0) fun x2 =>
    if v6 < x2 then
      bd (getf 12 22 μ v0) fun x3 =>
      bd (lda 23 μ x3 (w32 ((w32 (12 * v4)) + v6))) fun x4 =>
      if x4 = 0 then
        M_cheap_L239 k298 n v0 v2 v4 (w32 (v6 + 1)) μ
      else
        bd (isk 12 μ v0) fun _ =>
        bd2 (M_better v0 (w32 ((w32 (12 * v4)) + v6)) (w32 ((w32 ((w32 (12 * v4)) - 12)) + v6)) 0 0 μ) fun x5 μ6 =>
        M_cheap_L239 k298 n v0 v2 v4 (w32 (v6 + 1)) μ6
    else
      k298 v0 v2 v4 μ
def M_cheap_L59 (k389 : Int → Mem → Option (Int × Mem)) : Nat → Int → Int → Int → Mem → Option (Int × Mem)
  | 0, _, _, _, _ => none
  | n + 1, v0, v2, v4, μ =>
    if v4 < 0 then
      k389 v0 μ
    else
      M_cheap_L67 (fun x1 x2 x3 μ4 =>
          if x3 = 0 then
            M_cheap_L59 k389 n x1 x2 (w32 (x3 + (-1))) μ4
          else
            M_cheap_L239 (fun x5 x6 x7 μ8 =>
                bd (getf 12 20 μ8 x5) fun x9 =>
                bd (lda 20 μ8 x9 (w32 (x7 - 1))) fun x10 =>
                bd (div32 x10 2) fun x11 =>
                bd (isk 12 μ8 x5) fun _ =>
                bd2 (M_isOpen x5 x11 μ8) fun x12 μ13 =>
                if x12 = 0 then
                  M_cheap_L59 k389 n x5 x6 (w32 (x7 + (-1))) μ13
                else
                  bd (getf 12 22 μ13 x5) fun x14 =>
                  bd (isk 12 μ13 x5) fun _ =>
                  bd2 (M_headOf x5 x10 μ13) fun x15 μ16 =>
                  bd (lda 23 μ16 x14 (w32 ((w32 (12 * x7)) + x15))) fun x17 =>
                  if x17 = 0 then
                    M_cheap_L59 k389 n x5 x6 (w32 (x7 + (-1))) μ16
                  else
                    bd (isk 12 μ16 x5) fun _ =>
                    bd2 (M_headOf x5 x10 μ16) fun x18 μ19 =>
                    bd (isk 12 μ19 x5) fun _ =>
                    bd2 (M_tailOf x5 x10 μ19) fun x20 μ21 =>
                    bd (getf 12 21 μ21 x5) fun x22 =>
                    bd (lda 20 μ21 x22 (w32 (x7 - 1))) fun x23 =>
                    bd (isk 12 μ21 x5) fun _ =>
                    bd2 (M_better x5 (w32 ((w32 (12 * x7)) + x18)) (w32 ((w32 ((w32 (12 * x7)) - 12)) + x20)) (w32 (-x23)) 1 μ21) fun x24 μ25 =>
                    M_cheap_L59 k389 n x5 x6 (w32 (x7 + (-1))) μ25) FU x1 x2 x3 0 μ4) FU v0 v2 v4 1 μ
def M_cheap_J478 (k503 : Int → Int → Int → Mem → Option (Int × Mem)) (v0 v5 v6 : Int) (μ : Mem) : Option (Int × Mem) :=
  bd (getf 12 18 μ v0) fun x1 =>
  bd (lda 20 μ x1 v6) fun x2 =>
  bd (putf 12 24 μ v0 x2) fun μ3 =>
  bd (getf 12 19 μ3 v0) fun x4 =>
  bd (lda 20 μ3 x4 v6) fun x5 =>
  bd (putf 12 25 μ3 v0 x5) fun μ6 =>
  k503 v0 1 v5 μ6
def M_cheap_L395  : Nat → Int → Int → Int → Mem → Option (Int × Mem)
  | 0, _, _, _, _ => none
  | n + 1, v0, v4, v5, μ =>
    bd (getf 12 23 μ v0) fun x1 =>
    if x1 < v5 then
      bd (okz v4) fun _ => some (v4, μ)
    else
      bd (getf 12 1 μ v0) fun x2 =>
      bd (lda 20 μ x2 1) fun x3 =>
      bd (some (w32 ((w32 (12 * v5)) + x3))) fun x4 =>
      bd (getf 12 22 μ v0) fun x5 =>
      bd (lda 23 μ x5 x4) fun x6 =>
      if x6 = 0 then
        M_cheap_L395 n v0 v4 (w32 (v5 + 1)) μ
      else
        if v4 = 0 then
          M_cheap_J478 (fun x7 x8 x9 μ10 =>
              M_cheap_L395 n x7 x8 (w32 (x9 + 1)) μ10) v0 v5 x4 μ
        else
          bd (getf 12 18 μ v0) fun x11 =>
          bd (lda 20 μ x11 x4) fun x12 =>
          bd (getf 12 24 μ v0) fun x13 =>
          if x13 < x12 then
            M_cheap_L395 n v0 v4 (w32 (v5 + 1)) μ
          else
            bd (getf 12 18 μ v0) fun x14 =>
            bd (lda 20 μ x14 x4) fun x15 =>
            bd (getf 12 24 μ v0) fun x16 =>
            if x15 = x16 then
              bd (getf 12 19 μ v0) fun x21 =>
              bd (lda 20 μ x21 x4) fun x22 =>
              bd (getf 12 25 μ v0) fun x23 =>
              if x22 < x23 then
                M_cheap_J478 (fun x24 x25 x26 μ27 =>
                    M_cheap_L395 n x24 x25 (w32 (x26 + 1)) μ27) v0 v5 x4 μ
              else
                M_cheap_L395 n v0 v4 (w32 (v5 + 1)) μ
            else
              M_cheap_J478 (fun x17 x18 x19 μ20 =>
                  M_cheap_L395 n x17 x18 (w32 (x19 + 1)) μ20) v0 v5 x4 μ
def M_cheap (a0 a1 a2 : Int) (μ : Mem) : Option (Int × Mem) :=
  M_cheap_L2 (fun x1 x2 x3 μ4 =>
      bd (getf 12 23 μ4 x1) fun x5 =>
      bd (some (w32 ((w32 (12 * x5)) + x2))) fun x6 =>
      bd (getf 12 22 μ4 x1) fun x7 =>
      bd (sta 23 μ4 x7 x6 1) fun μ8 =>
      bd (getf 12 18 μ8 x1) fun x9 =>
      bd (sta 20 μ8 x9 x6 0) fun μ10 =>
      bd (getf 12 19 μ10 x1) fun x11 =>
      bd (sta 20 μ10 x11 x6 0) fun μ12 =>
      bd (getf 12 23 μ12 x1) fun x13 =>
      M_cheap_L59 (fun x14 μ15 =>
          M_cheap_L395 FU x14 0 0 μ15) FU x1 x3 x13 μ12) FU a0 a1 a2 0 μ
def M_cheapOf (a0 a1 a2 : Int) (μ : Mem) : Option (Int × Mem) :=
  bd (getf 12 1 μ a0) fun x1 =>
  bd (lda 20 μ x1 (w32 (159 + a1))) fun x2 =>
  bd (isk 12 μ a0) fun _ =>
  bd2 (M_looksAt a0 a2 x2 μ) fun _ μ4 =>
  bd (getf 12 1 μ4 a0) fun x5 =>
  bd (lda 20 μ4 x5 (w32 (153 + a1))) fun x6 =>
  bd (getf 12 1 μ4 a0) fun x7 =>
  bd (lda 20 μ4 x7 (w32 (159 + a1))) fun x8 =>
  bd (isk 12 μ4 a0) fun _ =>
  bd2 (M_cheap a0 x6 x8 μ4) fun x9 μ10 =>
  bd (okz x9) fun _ => some (x9, μ10)
def M_cheapest (a0 a1 a2 : Int) (μ : Mem) : Option (Int × Mem) :=
  bd (putf 12 0 μ a0 0) fun μ1 =>
  bd (isk 12 μ1 a0) fun _ =>
  bd2 (M_isOne a0 a1 μ1) fun x2 μ3 =>
  if x2 = 0 then
    some ((-2), μ3)
  else
    bd2 (M_within a2 0 1 μ3) fun x4 μ5 =>
    if x4 = 0 then
      some ((-2), μ5)
    else
      bd (isk 12 μ5 a0) fun _ =>
      bd2 (M_cheapOf a0 a1 a1 μ5) fun x6 μ7 =>
      if x6 = 0 then
        if a2 = 0 then
          some ((-1000000), μ7)
        else
          some ((-1), μ7)
      else
        if a2 = 0 then
          bd (getf 12 24 μ7 a0) fun x9 =>
          some (x9, μ7)
        else
          bd (getf 12 25 μ7 a0) fun x8 =>
          some (x8, μ7)
def M_safe_L46 (k165 : Int → Int → Int → Int → Mem → Option (Int × Mem)) : Nat → Int → Int → Int → Int → Int → Int → Mem → Option (Int × Mem)
  | 0, _, _, _, _, _, _, _ => none
  | n + 1, v0, v1, v2, v3, v4, v5, μ =>
    if v5 < 0 then
      k165 v0 v1 v3 v4 μ
    else
      bd (getf 12 1 μ v0) fun x1 =>
      bd2 (M_slipAt v1 v5 μ) fun x2 μ3 =>
      bd (lda 20 μ3 x1 (w32 (189 + x2))) fun x4 =>
      bd (div32 x4 2) fun x5 =>
      bd (isk 12 μ3 v0) fun _ =>
      bd2 (M_isOpen v0 x5 μ3) fun x6 μ7 =>
      if x6 = 0 then
        some ((-1), μ7)
      else
        bd (isk 12 μ7 v0) fun _ =>
        bd2 (M_headOf v0 x4 μ7) fun x8 μ9 =>
        if x8 = v2 then
          bd (getf 12 1 μ9 v0) fun x10 =>
          bd2 (M_slipAt v1 v5 μ9) fun x11 μ12 =>
          bd (lda 20 μ12 x10 (w32 (429 + x11))) fun x13 =>
          bd (getf 12 1 μ12 v0) fun x14 =>
          bd (lda 20 μ12 x14 2) fun x15 =>
          bd (some (w32 ((w32 (x13 + x15)) - v3))) fun x16 =>
          bd (
              if v3 = 0 then
                some x16
              else
                if x16 < v4 then
                  some x16
                else
                  some v4) fun (y17 : Int) =>
          bd (isk 12 μ12 v0) fun _ =>
          bd2 (M_tailOf v0 x4 μ12) fun x18 μ19 =>
          bd (getf 12 1 μ19 v0) fun x20 =>
          bd (div32 x4 2) fun x21 =>
          bd (lda 20 μ19 x20 (w32 (104 + x21))) fun x22 =>
          bd (some (w32 (v3 + x22))) fun x23 =>
          M_safe_L46 k165 n v0 v1 x18 x23 y17 (w32 (v5 + (-1))) μ19
        else
          some ((-1), μ9)
def M_safe (a0 a1 : Int) (μ : Mem) : Option (Int × Mem) :=
  bd (putf 12 0 μ a0 0) fun μ1 =>
  bd (isk 12 μ1 a0) fun _ =>
  bd2 (M_isOne a0 a1 μ1) fun x2 μ3 =>
  if x2 = 0 then
    some ((-2), μ3)
  else
    bd (getf 12 1 μ3 a0) fun x4 =>
    bd (lda 20 μ3 x4 (w32 (153 + a1))) fun x5 =>
    bd (getf 12 1 μ3 a0) fun x6 =>
    bd (lda 20 μ3 x6 (w32 (171 + a1))) fun x7 =>
    bd (some (w32 (x7 - 1))) fun x8 =>
    M_safe_L46 (fun x9 x10 x11 x12 μ13 =>
        if x11 = 0 then
          some ((-1), μ13)
        else
          bd (getf 12 1 μ13 x9) fun x14 =>
          bd (lda 20 μ13 x14 (w32 (159 + x10))) fun x15 =>
          if x12 < x15 then
            some ((-1), μ13)
          else
            some (x12, μ13)) FU a0 a1 x5 0 (-1) x8 μ3
def M_needs_L72 (k181 : Int → Int → Int → Int → Mem → Option (Int × Mem)) : Nat → Int → Int → Int → Int → Int → Int → Mem → Option (Int × Mem)
  | 0, _, _, _, _, _, _, _ => none
  | n + 1, v0, v1, v2, v3, v4, v5, μ =>
    bd (getf 12 50 μ v0) fun x1 =>
    bd (lda 20 μ x1 v2) fun x2 =>
    if v5 < x2 then
      if v4 = 0 then
        k181 v0 v1 v3 v4 μ
      else
        bd (getf 12 51 μ v0) fun x3 =>
        bd (lda 21 μ x3 (w32 ((w32 (40 * v2)) + v5))) fun x4 =>
        bd (isk 12 μ v0) fun _ =>
        bd2 (M_isRoad v0 x4 μ) fun x5 μ6 =>
        bd2 (
            if x5 = 0 then
              some (0, μ6)
            else
              bd (isk 12 μ6 v0) fun _ =>
              bd2 (M_refuses v0 v1 (w32 x4) μ6) fun x9 μ10 =>
              if x9 = 0 then
                some (1, μ10)
              else
                some (0, μ10)) fun (y7 : Int) (μ8 : Mem) =>
        if y7 = 0 then
          M_needs_L72 k181 n v0 v1 v2 v3 y7 (w32 (v5 + 1)) μ8
        else
          bd (isk 12 μ8 v0) fun _ =>
          bd2 (M_goes v0 v1 (w32 x4) μ8) fun x11 μ12 =>
          bd (getf 12 1 μ12 v0) fun x13 =>
          bd (lda 20 μ12 x13 (w32 (165 + v1))) fun x14 =>
          bd (some (w32 (100000000 - x14))) fun x15 =>
          if v3 < x15 then
            M_needs_L72 k181 n v0 v1 v2 x15 y7 (w32 (v5 + 1)) μ12
          else
            M_needs_L72 k181 n v0 v1 v2 v3 y7 (w32 (v5 + 1)) μ12
    else
      k181 v0 v1 v3 v4 μ
def M_needs_J181  (v0 v1 v3 v4 : Int) (μ : Mem) : Option (Int × Mem) :=
  bd (putf 12 15 μ v0 1) fun μ1 =>
  bd (isk 12 μ1 v0) fun _ =>
  bd2 (M_isAgain v0 v1 μ1) fun _ μ3 =>
  if v4 = 0 then
    some ((-1), μ3)
  else
    some (v3, μ3)
def M_needs (a0 a1 a2 : Int) (μ : Mem) : Option (Int × Mem) :=
  bd (putf 12 0 μ a0 0) fun μ1 =>
  bd (isk 12 μ1 a0) fun _ =>
  bd2 (M_isOne a0 a1 μ1) fun x2 μ3 =>
  if x2 = 0 then
    some ((-2), μ3)
  else
    bd2 (M_within a2 0 3 μ3) fun x4 μ5 =>
    if x4 = 0 then
      some ((-2), μ5)
    else
      bd (getf 12 49 μ5 a0) fun x6 =>
      bd (lda 20 μ5 x6 a2) fun x7 =>
      if x7 = (-1) then
        some ((-6), μ5)
      else
        bd (isk 12 μ5 a0) fun _ =>
        bd2 (M_keeps a0 a1 μ5) fun _ μ9 =>
        bd (putf 12 15 μ9 a0 0) fun μ10 =>
        bd (getf 12 1 μ10 a0) fun x11 =>
        bd (sta 20 μ10 x11 (w32 (165 + a1)) 100000000) fun μ12 =>
        M_needs_L72 (fun x13 x14 x15 x16 μ17 =>
            M_needs_J181 x13 x14 x15 x16 μ17) FU a0 a1 a2 0 1 0 μ12
def M_gainOf (a0 a1 a2 : Int) (μ : Mem) : Option (Int × Mem) :=
  bd (isk 12 μ a0) fun _ =>
  bd2 (M_cheapOf a0 a1 a1 μ) fun x1 μ2 =>
  if x1 = 0 then
    some ((-1000000), μ2)
  else
    bd (getf 12 24 μ2 a0) fun x3 =>
    bd (isk 12 μ2 a0) fun _ =>
    bd2 (M_cheapOf a0 a1 a2 μ2) fun x4 μ5 =>
    if x4 = 0 then
      some ((-1000000), μ5)
    else
      bd (getf 12 24 μ5 a0) fun x6 =>
      some ((w32 (x3 - x6)), μ5)
def M_partner_L23  : Nat → Int → Int → Int → Int → Int → Mem → Option (Int × Mem)
  | 0, _, _, _, _, _, _ => none
  | n + 1, v0, v1, v2, v3, v4, μ =>
    bd (getf 12 1 μ v0) fun x1 =>
    bd (lda 20 μ x1 152) fun x2 =>
    if v4 < x2 then
      if v4 = v1 then
        M_partner_L23 n v0 v1 v2 v3 (w32 (v4 + 1)) μ
      else
        bd (getf 12 1 μ v0) fun x3 =>
        bd (lda 20 μ x3 (w32 (153 + v4))) fun x4 =>
        bd (getf 12 1 μ v0) fun x5 =>
        bd (lda 20 μ x5 (w32 (153 + v1))) fun x6 =>
        if x4 = x6 then
          bd (isk 12 μ v0) fun _ =>
          bd2 (M_gainOf v0 v1 v4 μ) fun x7 μ8 =>
          bd (isk 12 μ8 v0) fun _ =>
          bd2 (M_gainOf v0 v4 v1 μ8) fun x9 μ10 =>
          if x7 < 0 then
            M_partner_L23 n v0 v1 v2 v3 (w32 (v4 + 1)) μ10
          else
            if x9 < 0 then
              M_partner_L23 n v0 v1 v2 v3 (w32 (v4 + 1)) μ10
            else
              if v3 < (w32 (x7 + x9)) then
                bd (some (w32 (x7 + x9))) fun x11 =>
                M_partner_L23 n v0 v1 v4 x11 (w32 (v4 + 1)) μ10
              else
                M_partner_L23 n v0 v1 v2 v3 (w32 (v4 + 1)) μ10
        else
          M_partner_L23 n v0 v1 v2 v3 (w32 (v4 + 1)) μ
    else
      some (v2, μ)
def M_partner (a0 a1 : Int) (μ : Mem) : Option (Int × Mem) :=
  bd (putf 12 0 μ a0 0) fun μ1 =>
  bd (isk 12 μ1 a0) fun _ =>
  bd2 (M_isOne a0 a1 μ1) fun x2 μ3 =>
  if x2 = 0 then
    some ((-2), μ3)
  else
    M_partner_L23 FU a0 a1 (-1) 0 0 μ3
def M_price (a0 a1 a2 : Int) (μ : Mem) : Option (Int × Mem) :=
  bd (putf 12 0 μ a0 0) fun μ1 =>
  bd (isk 12 μ1 a0) fun _ =>
  bd2 (M_isOne a0 a1 μ1) fun x2 μ3 =>
  if x2 = 0 then
    some ((-2), μ3)
  else
    bd (isk 12 μ3 a0) fun _ =>
    bd2 (M_isOne a0 a2 μ3) fun x4 μ5 =>
    if x4 = 0 then
      some ((-2), μ5)
    else
      if a1 = a2 then
        some ((-2), μ5)
      else
        bd (getf 12 1 μ5 a0) fun x6 =>
        bd (lda 20 μ5 x6 (w32 (171 + a1))) fun x7 =>
        if x7 = 0 then
          some ((-5), μ5)
        else
          bd (getf 12 1 μ5 a0) fun x8 =>
          bd (lda 20 μ5 x8 (w32 (171 + a2))) fun x9 =>
          if x9 = 40 then
            some ((-4), μ5)
          else
            bd (isk 12 μ5 a0) fun _ =>
            bd2 (M_cheapOf a0 a2 a2 μ5) fun x10 μ11 =>
            if x10 = 0 then
              some ((-1000000), μ11)
            else
              bd (getf 12 24 μ11 a0) fun x12 =>
              bd (getf 12 1 μ11 a0) fun x13 =>
              bd (lda 20 μ11 x13 (w32 (159 + a2))) fun x14 =>
              bd (isk 12 μ11 a0) fun _ =>
              bd2 (M_looksAt a0 a2 x14 μ11) fun _ μ16 =>
              bd (getf 12 20 μ16 a0) fun x17 =>
              bd (getf 12 23 μ16 a0) fun x18 =>
              bd (getf 12 1 μ16 a0) fun x19 =>
              bd (getf 12 1 μ16 a0) fun x20 =>
              bd (lda 20 μ16 x20 (w32 (171 + a1))) fun x21 =>
              bd2 (M_slipAt a1 (w32 (x21 - 1)) μ16) fun x22 μ23 =>
              bd (lda 20 μ23 x19 (w32 (189 + x22))) fun x24 =>
              bd (sta 20 μ23 x17 x18 x24) fun μ25 =>
              bd (getf 12 21 μ25 a0) fun x26 =>
              bd (getf 12 23 μ25 a0) fun x27 =>
              bd (getf 12 1 μ25 a0) fun x28 =>
              bd (lda 20 μ25 x28 (w32 (171 + a1))) fun x29 =>
              bd (getf 12 1 μ25 a0) fun x30 =>
              bd (lda 20 μ25 x30 (w32 (159 + a2))) fun x31 =>
              bd (isk 12 μ25 a0) fun _ =>
              bd2 (M_worthOf a0 a1 (w32 (x29 - 1)) x31 μ25) fun x32 μ33 =>
              bd (sta 20 μ33 x26 x27 x32) fun μ34 =>
              bd (getf 12 23 μ34 a0) fun x35 =>
              bd (putf 12 23 μ34 a0 (w32 (x35 + 1))) fun μ36 =>
              bd (getf 12 1 μ36 a0) fun x37 =>
              bd (lda 20 μ36 x37 (w32 (153 + a2))) fun x38 =>
              bd (getf 12 1 μ36 a0) fun x39 =>
              bd (lda 20 μ36 x39 (w32 (159 + a2))) fun x40 =>
              bd (isk 12 μ36 a0) fun _ =>
              bd2 (M_cheap a0 x38 x40 μ36) fun x41 μ42 =>
              if x41 = 0 then
                some ((-1000000), μ42)
              else
                bd (getf 12 24 μ42 a0) fun x43 =>
                some ((w32 (x12 - x43)), μ42)
def M_gain (a0 a1 a2 a3 : Int) (μ : Mem) : Option (Int × Mem) :=
  bd (putf 12 0 μ a0 0) fun μ1 =>
  bd (isk 12 μ1 a0) fun _ =>
  bd2 (M_isOne a0 a1 μ1) fun x2 μ3 =>
  if x2 = 0 then
    some ((-2), μ3)
  else
    bd (isk 12 μ3 a0) fun _ =>
    bd2 (M_isOne a0 a2 μ3) fun x4 μ5 =>
    if x4 = 0 then
      some ((-2), μ5)
    else
      if a1 = a2 then
        some ((-2), μ5)
      else
        bd2 (M_within a3 0 1 μ5) fun x6 μ7 =>
        if x6 = 0 then
          some ((-2), μ7)
        else
          bd (
              if a3 = 0 then
                some a1
              else
                some a2) fun (y8 : Int) =>
          bd (
              if a3 = 0 then
                some a2
              else
                some a1) fun (y9 : Int) =>
          bd (isk 12 μ7 a0) fun _ =>
          bd2 (M_gainOf a0 y8 y9 μ7) fun x10 μ11 =>
          some (x10, μ11)
def M_tries_L213 (rc : Int → Int → Int → Int → Int → Int → Mem → Option (Int × Mem)) (k255 : Int → Int → Int → Int → Int → Int → Int → Int → Int → Mem → Option (Int × Mem)) : Nat → Int → Int → Int → Int → Int → Int → Int → Int → Int → Int → Mem → Option (Int × Mem)
  | 0, _, _, _, _, _, _, _, _, _, _, _ => none
  | n + 1, v0, v1, v2, v3, v4, v5, v6, v7, v8, v9, μ =>
    if v9 < 6 then
      bd (getf 12 28 μ v0) fun x1 =>
      bd (getf 12 1 μ v0) fun x2 =>
      bd (lda 20 μ x2 (w32 ((w32 (153 + (w32 (6 * v9)))) + v1))) fun x3 =>
      bd (sta 20 μ x1 (w32 ((w32 (9 * v4)) + v9)) x3) fun μ4 =>
      M_tries_L213 rc k255 n v0 v1 v2 v3 v4 v5 v6 v7 v8 (w32 (v9 + 1)) μ4
    else
      k255 v0 v1 v2 v3 v4 v5 v6 v7 v8 μ
def M_tries_L390 (rc : Int → Int → Int → Int → Int → Int → Mem → Option (Int × Mem)) (k432 : Int → Int → Int → Int → Int → Int → Int → Int → Int → Mem → Option (Int × Mem)) : Nat → Int → Int → Int → Int → Int → Int → Int → Int → Int → Int → Mem → Option (Int × Mem)
  | 0, _, _, _, _, _, _, _, _, _, _, _ => none
  | n + 1, v0, v1, v2, v3, v4, v5, v6, v7, v8, v9, μ =>
    if v9 < 6 then
      bd (getf 12 1 μ v0) fun x1 =>
      bd (getf 12 28 μ v0) fun x2 =>
      bd (lda 20 μ x2 (w32 ((w32 (9 * v4)) + v9))) fun x3 =>
      bd (sta 20 μ x1 (w32 ((w32 (153 + (w32 (6 * v9)))) + v1)) x3) fun μ4 =>
      M_tries_L390 rc k432 n v0 v1 v2 v3 v4 v5 v6 v7 v8 (w32 (v9 + 1)) μ4
    else
      k432 v0 v1 v2 v3 v4 v5 v6 v7 v8 μ
def M_tries_L124 (rc : Int → Int → Int → Int → Int → Int → Mem → Option (Int × Mem))  : Nat → Int → Int → Int → Int → Int → Int → Int → Mem → Option (Int × Mem)
  | 0, _, _, _, _, _, _, _, _ => none
  | n + 1, v0, v1, v2, v3, v4, v5, v6, μ =>
    bd (getf 12 1 μ v0) fun x1 =>
    bd (lda 20 μ x1 7) fun x2 =>
    if v6 < x2 then
      if v4 < v5 then
        bd (getf 12 29 μ v0) fun x3 =>
        if 100000 < x3 then
          some (0, μ)
        else
          bd (isk 12 μ v0) fun _ =>
          bd2 (M_refuses v0 v1 v6 μ) fun x4 μ5 =>
          if x4 = 0 then
            bd (getf 12 29 μ5 v0) fun x6 =>
            bd (putf 12 29 μ5 v0 (w32 (x6 + 1))) fun μ7 =>
            bd (getf 12 29 μ7 v0) fun x8 =>
            if 100000 < x8 then
              some (0, μ7)
            else
              bd (getf 12 1 μ7 v0) fun x9 =>
              bd (lda 20 μ7 x9 (w32 (171 + v1))) fun x10 =>
              bd (some (w32 (x10 - 1))) fun x11 =>
              bd (isk 12 μ7 v0) fun _ =>
              bd2 (M_hasBack v0 v1 v6 μ7) fun x12 μ13 =>
              M_tries_L213 rc (fun x14 x15 x16 x17 x18 x19 x20 x21 x22 μ23 =>
                  bd (
                      if x22 = 0 then
                        some μ23
                      else
                        bd (getf 12 28 μ23 x14) fun x25 =>
                        bd (getf 12 1 μ23 x14) fun x26 =>
                        bd2 (M_slipAt x15 x21 μ23) fun x27 μ28 =>
                        bd (lda 20 μ28 x26 (w32 (189 + x27))) fun x29 =>
                        bd (sta 20 μ28 x25 (w32 ((w32 (9 * x18)) + 6)) x29) fun μ30 =>
                        bd (getf 12 28 μ30 x14) fun x31 =>
                        bd (getf 12 1 μ30 x14) fun x32 =>
                        bd2 (M_slipAt x15 x21 μ30) fun x33 μ34 =>
                        bd (lda 20 μ34 x32 (w32 (429 + x33))) fun x35 =>
                        bd (sta 20 μ34 x31 (w32 ((w32 (9 * x18)) + 7)) x35) fun μ36 =>
                        bd (getf 12 28 μ36 x14) fun x37 =>
                        bd (getf 12 1 μ36 x14) fun x38 =>
                        bd2 (M_slipAt x15 x21 μ36) fun x39 μ40 =>
                        bd (lda 20 μ40 x38 (w32 (669 + x39))) fun x41 =>
                        bd (sta 20 μ40 x37 (w32 ((w32 (9 * x18)) + 8)) x41) fun μ42 =>
                        some μ42) fun (μ24 : Mem) =>
                  bd (isk 12 μ24 x14) fun _ =>
                  bd2 (M_goes x14 x15 x20 μ24) fun x43 μ44 =>
                  bd (getf 12 26 μ44 x14) fun x45 =>
                  bd (sta 20 μ44 x45 x18 x20) fun μ46 =>
                  bd (getf 12 1 μ46 x14) fun x47 =>
                  bd (lda 20 μ46 x47 (w32 (153 + x15))) fun x48 =>
                  bd (isk 12 μ46 x14) fun _ =>
                  bd2 (rc x14 x15 x16 (or32 x17 (shl32 1 x48)) (w32 (x18 + 1)) x19 μ46) fun _ μ50 =>
                  M_tries_L390 rc (fun x51 x52 x53 x54 x55 x56 x57 x58 x59 μ60 =>
                      if x59 = 0 then
                        M_tries_L124 rc n x51 x52 x53 x54 x55 x56 (w32 (x57 + 1)) μ60
                      else
                        bd (getf 12 1 μ60 x51) fun x61 =>
                        bd2 (M_slipAt x52 x58 μ60) fun x62 μ63 =>
                        bd (getf 12 28 μ63 x51) fun x64 =>
                        bd (lda 20 μ63 x64 (w32 ((w32 (9 * x55)) + 6))) fun x65 =>
                        bd (sta 20 μ63 x61 (w32 (189 + x62)) x65) fun μ66 =>
                        bd (getf 12 1 μ66 x51) fun x67 =>
                        bd2 (M_slipAt x52 x58 μ66) fun x68 μ69 =>
                        bd (getf 12 28 μ69 x51) fun x70 =>
                        bd (lda 20 μ69 x70 (w32 ((w32 (9 * x55)) + 7))) fun x71 =>
                        bd (sta 20 μ69 x67 (w32 (429 + x68)) x71) fun μ72 =>
                        bd (getf 12 1 μ72 x51) fun x73 =>
                        bd2 (M_slipAt x52 x58 μ72) fun x74 μ75 =>
                        bd (getf 12 28 μ75 x51) fun x76 =>
                        bd (lda 20 μ75 x76 (w32 ((w32 (9 * x55)) + 8))) fun x77 =>
                        bd (sta 20 μ75 x73 (w32 (669 + x74)) x77) fun μ78 =>
                        M_tries_L124 rc n x51 x52 x53 x54 x55 x56 (w32 (x57 + 1)) μ78) FU x14 x15 x16 x17 x18 x19 x20 x21 x22 0 μ50) FU v0 v1 v2 v3 v4 v5 v6 x11 x12 0 μ13
          else
            M_tries_L124 rc n v0 v1 v2 v3 v4 v5 (w32 (v6 + 1)) μ5
      else
        some (0, μ)
    else
      some (0, μ)
def M_tries_L94 (rc : Int → Int → Int → Int → Int → Int → Mem → Option (Int × Mem)) (k121 : Int → Int → Int → Int → Int → Int → Mem → Option (Int × Mem)) : Nat → Int → Int → Int → Int → Int → Int → Int → Mem → Option (Int × Mem)
  | 0, _, _, _, _, _, _, _, _ => none
  | n + 1, v0, v1, v2, v3, v4, v5, v7, μ =>
    if v7 < v4 then
      bd (getf 12 27 μ v0) fun x1 =>
      bd (getf 12 26 μ v0) fun x2 =>
      bd (lda 20 μ x2 v7) fun x3 =>
      bd (sta 20 μ x1 v7 x3) fun μ4 =>
      M_tries_L94 rc k121 n v0 v1 v2 v3 v4 v5 (w32 (v7 + 1)) μ4
    else
      k121 v0 v1 v2 v3 v4 v5 μ
def M_tries_J79 (rc : Int → Int → Int → Int → Int → Int → Mem → Option (Int × Mem)) (k121 : Int → Int → Int → Int → Int → Int → Mem → Option (Int × Mem)) (v0 v1 v2 v3 v4 v5 v6 : Int) (μ : Mem) : Option (Int × Mem) :=
  bd (putf 12 30 μ v0 v4) fun μ1 =>
  bd (putf 12 31 μ1 v0 v6) fun μ2 =>
  M_tries_L94 rc k121 FU v0 v1 v2 v3 v4 v5 0 μ2
def M_tries : Nat → Int → Int → Int → Int → Int → Int → Mem → Option (Int × Mem)
  | 0, _, _, _, _, _, _, _ => none
  | dp + 1, a0, a1, a2, a3, a4, a5, μ =>
    if (and32 a2 (xor32 a3 (-1))) = 0 then
      bd (getf 12 1 μ a0) fun x1 =>
      bd (lda 20 μ x1 (w32 (153 + a1))) fun x2 =>
      bd (getf 12 1 μ a0) fun x3 =>
      bd (lda 20 μ x3 1) fun x4 =>
      if x2 = x4 then
        bd (getf 12 1 μ a0) fun x5 =>
        bd (lda 20 μ x5 (w32 (165 + a1))) fun x6 =>
        bd (getf 12 32 μ a0) fun x7 =>
        bd (some (w32 (x6 - x7))) fun x8 =>
        bd (getf 12 30 μ a0) fun x9 =>
        if x9 = (-1) then
          M_tries_J79 (fun a0 a1 a2 a3 a4 a5 μ => M_tries dp a0 a1 a2 a3 a4 a5 μ) (fun x10 x11 x12 x13 x14 x15 μ16 =>
              M_tries_L124 (fun a0 a1 a2 a3 a4 a5 μ => M_tries dp a0 a1 a2 a3 a4 a5 μ) FU x10 x11 x12 x13 x14 x15 0 μ16) a0 a1 a2 a3 a4 a5 x8 μ
        else
          bd (getf 12 31 μ a0) fun x17 =>
          if x17 < x8 then
            M_tries_J79 (fun a0 a1 a2 a3 a4 a5 μ => M_tries dp a0 a1 a2 a3 a4 a5 μ) (fun x18 x19 x20 x21 x22 x23 μ24 =>
                M_tries_L124 (fun a0 a1 a2 a3 a4 a5 μ => M_tries dp a0 a1 a2 a3 a4 a5 μ) FU x18 x19 x20 x21 x22 x23 0 μ24) a0 a1 a2 a3 a4 a5 x8 μ
          else
            bd (getf 12 31 μ a0) fun x25 =>
            if x8 = x25 then
              bd (getf 12 30 μ a0) fun x26 =>
              if a4 < x26 then
                M_tries_J79 (fun a0 a1 a2 a3 a4 a5 μ => M_tries dp a0 a1 a2 a3 a4 a5 μ) (fun x27 x28 x29 x30 x31 x32 μ33 =>
                    M_tries_L124 (fun a0 a1 a2 a3 a4 a5 μ => M_tries dp a0 a1 a2 a3 a4 a5 μ) FU x27 x28 x29 x30 x31 x32 0 μ33) a0 a1 a2 a3 a4 a5 x8 μ
              else
                M_tries_L124 (fun a0 a1 a2 a3 a4 a5 μ => M_tries dp a0 a1 a2 a3 a4 a5 μ) FU a0 a1 a2 a3 a4 a5 0 μ
            else
              M_tries_L124 (fun a0 a1 a2 a3 a4 a5 μ => M_tries dp a0 a1 a2 a3 a4 a5 μ) FU a0 a1 a2 a3 a4 a5 0 μ
      else
        M_tries_L124 (fun a0 a1 a2 a3 a4 a5 μ => M_tries dp a0 a1 a2 a3 a4 a5 μ) FU a0 a1 a2 a3 a4 a5 0 μ
    else
      M_tries_L124 (fun a0 a1 a2 a3 a4 a5 μ => M_tries dp a0 a1 a2 a3 a4 a5 μ) FU a0 a1 a2 a3 a4 a5 0 μ
def M_through_J42  (v0 v1 v2 v3 v4 : Int) (μ : Mem) : Option (Int × Mem) :=
  bd (getf 12 1 μ v0) fun x1 =>
  bd (lda 20 μ x1 0) fun x2 =>
  bd2 (M_within v2 0 (w32 ((shl32 1 x2) - 1)) μ) fun x3 μ4 =>
  if x3 = 0 then
    some ((-3), μ4)
  else
    bd2 (M_within v3 0 8 μ4) fun x5 μ6 =>
    if x5 = 0 then
      some ((-3), μ6)
    else
      bd (putf 12 29 μ6 v0 0) fun μ7 =>
      bd (putf 12 30 μ7 v0 (-1)) fun μ8 =>
      bd (getf 12 1 μ8 v0) fun x9 =>
      bd (lda 20 μ8 x9 (w32 (165 + v1))) fun x10 =>
      bd (putf 12 32 μ8 v0 x10) fun μ11 =>
      bd (putf 12 15 μ11 v0 0) fun μ12 =>
      bd (getf 12 1 μ12 v0) fun x13 =>
      bd (lda 20 μ12 x13 (w32 (153 + v1))) fun x14 =>
      bd (isk 12 μ12 v0) fun _ =>
      bd2 (M_tries 12 v0 v1 v2 (shl32 1 x14) 0 v3 μ12) fun _ μ16 =>
      bd (putf 12 15 μ16 v0 1) fun μ17 =>
      bd (getf 12 29 μ17 v0) fun x18 =>
      if 100000 < x18 then
        some ((-4), μ17)
      else
        bd (getf 12 30 μ17 v0) fun x19 =>
        if x19 = (-1) then
          if v4 = 0 then
            some ((-1000000), μ17)
          else
            some ((-1), μ17)
        else
          if v4 = 0 then
            bd (getf 12 31 μ17 v0) fun x24 =>
            some (x24, μ17)
          else
            if v4 = 1 then
              bd (getf 12 30 μ17 v0) fun x23 =>
              some (x23, μ17)
            else
              bd (getf 12 30 μ17 v0) fun x20 =>
              if (w32 (v4 - 10)) < x20 then
                bd (getf 12 27 μ17 v0) fun x21 =>
                bd (lda 20 μ17 x21 (w32 (v4 - 10))) fun x22 =>
                some (x22, μ17)
              else
                some ((-1), μ17)
def M_through (a0 a1 a2 a3 a4 : Int) (μ : Mem) : Option (Int × Mem) :=
  bd (putf 12 0 μ a0 0) fun μ1 =>
  bd (isk 12 μ1 a0) fun _ =>
  bd2 (M_isOne a0 a1 μ1) fun x2 μ3 =>
  if x2 = 0 then
    some ((-2), μ3)
  else
    bd2 (M_within a4 0 1 μ3) fun x4 μ5 =>
    if x4 = 0 then
      bd2 (M_within a4 10 17 μ5) fun x6 μ7 =>
      if x6 = 0 then
        some ((-2), μ7)
      else
        M_through_J42 a0 a1 a2 a3 a4 μ7
    else
      M_through_J42 a0 a1 a2 a3 a4 μ5
def M_sumOf (a0 a1 a2 a3 : Int) (μ : Mem) : Option (Int × Mem) :=
  bd (getf 12 36 μ a0) fun x1 =>
  if x1 = 0 then
    bd (rem64 (w64 (a1 + (w64 (a2 * a3)))) 1000000007) fun x4 =>
    some (x4, μ)
  else
    bd (
        if 0 < (cmp64 a2 0) then
          bd (div64 3000000000 a2) fun x3 =>
          if 0 < (cmp64 a3 x3) then
            some 3000000000
          else
            some (w64 (a2 * a3))
        else
          some (w64 (a2 * a3))) fun (y2 : Int) =>
    if 0 < (cmp64 (w64 (a1 + y2)) 3000000000) then
      some (3000000000, μ)
    else
      some ((w64 (a1 + y2)), μ)
def M_isSlips_L2  : Nat → Int → Int → Int → Mem → Option (Int × Mem)
  | 0, _, _, _, _ => none
  | n + 1, v0, v1, v2, μ =>
    bd (getf 12 50 μ v0) fun x1 =>
    bd (lda 20 μ x1 v1) fun x2 =>
    if v2 < x2 then
      bd (getf 12 51 μ v0) fun x3 =>
      bd (lda 21 μ x3 (w32 ((w32 (40 * v1)) + v2))) fun x4 =>
      bd (getf 12 1 μ v0) fun x5 =>
      bd (lda 20 μ x5 7) fun x6 =>
      bd2 (M_within x4 0 (w32 ((w32 (2 * x6)) - 1)) μ) fun x7 μ8 =>
      if x7 = 0 then
        some (0, μ8)
      else
        M_isSlips_L2 n v0 v1 (w32 (v2 + 1)) μ8
    else
      some (1, μ)
def M_isSlips (a0 a1 : Int) (μ : Mem) : Option (Int × Mem) :=
  M_isSlips_L2 FU a0 a1 0 μ
def M_firstForged_J64 (k12 : Int → Int → Int → Int → Int → Mem → Option (Int × Mem)) (v0 v1 v4 v5 : Int) (μ : Mem) : Option (Int × Mem) :=
  bd (isk 12 μ v0) fun _ =>
  bd2 (M_headOf v0 v5 μ) fun x1 μ2 =>
  k12 v0 v1 x1 v5 (w32 (v4 + 1)) μ2
def M_firstForged_L12  : Nat → Int → Int → Int → Int → Int → Mem → Option (Int × Mem)
  | 0, _, _, _, _, _, _ => none
  | n + 1, v0, v1, v2, v3, v4, μ =>
    bd (getf 12 50 μ v0) fun x1 =>
    bd (lda 20 μ x1 v1) fun x2 =>
    if v4 < x2 then
      bd (getf 12 51 μ v0) fun x3 =>
      bd (lda 21 μ x3 (w32 ((w32 (40 * v1)) + v4))) fun x4 =>
      bd (some (w32 x4)) fun x5 =>
      bd (isk 12 μ v0) fun _ =>
      bd2 (M_tailOf v0 x5 μ) fun x6 μ7 =>
      if x6 = v2 then
        if v3 = (-1) then
          M_firstForged_J64 (fun u0 u1 u2 u3 u4 μ => M_firstForged_L12 n u0 u1 u2 u3 u4 μ) v0 v1 v4 x5 μ7
        else
          if x5 = (xor32 v3 1) then
            some (v4, μ7)
          else
            M_firstForged_J64 (fun u0 u1 u2 u3 u4 μ => M_firstForged_L12 n u0 u1 u2 u3 u4 μ) v0 v1 v4 x5 μ7
      else
        some (v4, μ7)
    else
      some ((-1), μ)
def M_firstForged (a0 a1 : Int) (μ : Mem) : Option (Int × Mem) :=
  bd (getf 12 1 μ a0) fun x1 =>
  bd (lda 20 μ x1 1) fun x2 =>
  M_firstForged_L12 FU a0 a1 x2 (-1) 0 μ
def M_outAndBack_L53 (k101 : Int → Int → Int → Int → Int → Int → Int → Int → Mem → Option (Int × Mem)) : Nat → Int → Int → Int → Int → Int → Int → Int → Int → Int → Mem → Option (Int × Mem)
  | 0, _, _, _, _, _, _, _, _, _, _ => none
  | n + 1, v0, v1, v2, v3, v4, v5, v6, v8, v9, μ =>
    if v5 < (w32 (v9 + 2)) then
      k101 v0 v1 v2 v3 v4 v5 v6 v8 μ
    else
      bd (getf 12 33 μ v0) fun x1 =>
      bd (lda 21 μ x1 (w32 ((w32 (41 * v8)) + v9))) fun x2 =>
      bd (lda 21 μ v3 (w32 ((w32 ((w32 (v4 + v5)) - 2)) - v9))) fun x3 =>
      bd (isk 12 μ v0) fun _ =>
      bd2 (M_sumOf v0 v6 x2 x3 μ) fun x4 μ5 =>
      M_outAndBack_L53 k101 n v0 v1 v2 v3 v4 v5 x4 v8 (w32 (v9 + 1)) μ5
def M_outAndBack_L6  : Nat → Int → Int → Int → Int → Int → Int → Int → Int → Mem → Option (Int × Mem)
  | 0, _, _, _, _, _, _, _, _, _ => none
  | n + 1, v0, v1, v2, v3, v4, v5, v6, v8, μ =>
    bd (getf 12 1 μ v0) fun x1 =>
    bd (lda 20 μ x1 7) fun x2 =>
    if v8 < (w32 (2 * x2)) then
      bd (div32 v8 2) fun x3 =>
      bd (isk 12 μ v0) fun _ =>
      bd2 (M_isOpen v0 x3 μ) fun x4 μ5 =>
      if x4 = 0 then
        M_outAndBack_L6 n v0 v1 v2 v3 v4 v5 v6 (w32 (v8 + 1)) μ5
      else
        bd (isk 12 μ5 v0) fun _ =>
        bd2 (M_tailOf v0 v8 μ5) fun x6 μ7 =>
        if x6 = v1 then
          if v8 = v2 then
            M_outAndBack_L6 n v0 v1 v2 v3 v4 v5 v6 (w32 (v8 + 1)) μ7
          else
            M_outAndBack_L53 (fun x8 x9 x10 x11 x12 x13 x14 x15 μ16 =>
                M_outAndBack_L6 n x8 x9 x10 x11 x12 x13 x14 (w32 (x15 + 1)) μ16) FU v0 v1 v2 v3 v4 v5 v6 v8 0 μ7
        else
          M_outAndBack_L6 n v0 v1 v2 v3 v4 v5 v6 (w32 (v8 + 1)) μ7
    else
      some (v6, μ)
def M_outAndBack (a0 a1 a2 a3 a4 a5 : Int) (μ : Mem) : Option (Int × Mem) :=
  M_outAndBack_L6 FU a0 a1 a2 a3 a4 a5 0 0 μ
def M_laysRounds_L9 (k68 : Int → Int → Int → Mem → Option (Int × Mem)) : Nat → Int → Int → Int → Int → Mem → Option (Int × Mem)
  | 0, _, _, _, _, _ => none
  | n + 1, v0, v1, v2, v3, μ =>
    bd (getf 12 1 μ v0) fun x1 =>
    bd (lda 20 μ x1 7) fun x2 =>
    if v3 < (w32 (2 * x2)) then
      bd (getf 12 33 μ v0) fun x3 =>
      bd2 (
          if v2 = 0 then
            some (1, μ)
          else
            bd (isk 12 μ v0) fun _ =>
            bd2 (M_headOf v0 v3 μ) fun x6 μ7 =>
            bd (getf 12 33 μ7 v0) fun x8 =>
            bd (isk 12 μ7 v0) fun _ =>
            bd2 (M_outAndBack v0 x6 (xor32 v3 1) x8 (w32 (41 * v3)) v2 μ7) fun x9 μ10 =>
            some (x9, μ10)) fun (y4 : Int) (μ5 : Mem) =>
      bd (sta 21 μ5 x3 (w32 ((w32 (41 * v3)) + v2)) y4) fun μ11 =>
      M_laysRounds_L9 k68 n v0 v1 v2 (w32 (v3 + 1)) μ11
    else
      k68 v0 v1 v2 μ
def M_laysRounds_L2  : Nat → Int → Int → Int → Mem → Option (Int × Mem)
  | 0, _, _, _, _ => none
  | n + 1, v0, v1, v2, μ =>
    if v1 < v2 then
      some (0, μ)
    else
      M_laysRounds_L9 (fun x1 x2 x3 μ4 =>
          M_laysRounds_L2 n x1 x2 (w32 (x3 + 1)) μ4) FU v0 v1 v2 0 μ
def M_laysRounds (a0 a1 : Int) (μ : Mem) : Option (Int × Mem) :=
  M_laysRounds_L2 FU a0 a1 0 μ
def M_canBeLeft_L13  : Nat → Int → Int → Int → Mem → Option (Int × Mem)
  | 0, _, _, _, _ => none
  | n + 1, v0, v1, v2, μ =>
    bd (getf 12 50 μ v0) fun x1 =>
    bd (lda 20 μ x1 v1) fun x2 =>
    if v2 < x2 then
      bd (getf 12 51 μ v0) fun x3 =>
      bd (lda 21 μ x3 (w32 ((w32 (40 * v1)) + v2))) fun x4 =>
      bd (div32 (w32 x4) 2) fun x5 =>
      bd (isk 12 μ v0) fun _ =>
      bd2 (M_isOpen v0 x5 μ) fun x6 μ7 =>
      if x6 = 0 then
        some (0, μ7)
      else
        M_canBeLeft_L13 n v0 v1 (w32 (v2 + 1)) μ7
    else
      some (1, μ)
def M_canBeLeft (a0 a1 : Int) (μ : Mem) : Option (Int × Mem) :=
  bd (isk 12 μ a0) fun _ =>
  bd2 (M_firstForged a0 a1 μ) fun x1 μ2 =>
  if x1 = (-1) then
    M_canBeLeft_L13 FU a0 a1 0 μ2
  else
    some (0, μ2)
def M_walksBy_L2 (k39 : Int → Int → Mem → Option (Int × Mem)) : Nat → Int → Int → Int → Int → Mem → Option (Int × Mem)
  | 0, _, _, _, _, _ => none
  | n + 1, v0, v1, v2, v3, μ =>
    if v2 < v3 then
      k39 v0 v2 μ
    else
      bd (getf 12 34 μ v0) fun x1 =>
      bd2 (
          if v3 = 0 then
            some (1, μ)
          else
            bd (getf 12 34 μ v0) fun x4 =>
            bd (isk 12 μ v0) fun _ =>
            bd2 (M_outAndBack v0 v1 (-1) x4 0 v3 μ) fun x5 μ6 =>
            some (x5, μ6)) fun (y2 : Int) (μ3 : Mem) =>
      bd (sta 21 μ3 x1 v3 y2) fun μ7 =>
      M_walksBy_L2 k39 n v0 v1 v2 (w32 (v3 + 1)) μ7
def M_walksBy_L64 (k114 : Int → Int → Int → Int → Int → Mem → Option (Int × Mem)) : Nat → Int → Int → Int → Int → Int → Int → Mem → Option (Int × Mem)
  | 0, _, _, _, _, _, _, _ => none
  | n + 1, v0, v2, v3, v4, v5, v7, μ =>
    if v7 < v4 then
      bd (getf 12 34 μ v0) fun x1 =>
      bd (lda 21 μ x1 v7) fun x2 =>
      bd (getf 12 33 μ v0) fun x3 =>
      bd (getf 12 37 μ v0) fun x4 =>
      bd (lda 20 μ x4 v3) fun x5 =>
      bd (lda 21 μ x3 (w32 ((w32 ((w32 ((w32 (41 * x5)) + v4)) - 1)) - v7))) fun x6 =>
      bd (isk 12 μ v0) fun _ =>
      bd2 (M_sumOf v0 v5 x2 x6 μ) fun x7 μ8 =>
      M_walksBy_L64 k114 n v0 v2 v3 v4 x7 (w32 (v7 + 1)) μ8
    else
      k114 v0 v2 v3 v4 v5 μ
def M_walksBy_L52 (k129 : Int → Int → Int → Mem → Option (Int × Mem)) : Nat → Int → Int → Int → Int → Mem → Option (Int × Mem)
  | 0, _, _, _, _, _ => none
  | n + 1, v0, v2, v3, v4, μ =>
    if v2 < v4 then
      k129 v0 v2 v3 μ
    else
      M_walksBy_L64 (fun x1 x2 x3 x4 x5 μ6 =>
          bd (getf 12 35 μ6 x1) fun x7 =>
          bd (sta 21 μ6 x7 x4 x5) fun μ8 =>
          M_walksBy_L52 k129 n x1 x2 x3 (w32 (x4 + 1)) μ8) FU v0 v2 v3 v4 0 0 μ
def M_walksBy_L132 (k158 : Int → Int → Int → Mem → Option (Int × Mem)) : Nat → Int → Int → Int → Int → Mem → Option (Int × Mem)
  | 0, _, _, _, _, _ => none
  | n + 1, v0, v2, v3, v4, μ =>
    if v2 < v4 then
      k158 v0 v2 v3 μ
    else
      bd (getf 12 34 μ v0) fun x1 =>
      bd (getf 12 35 μ v0) fun x2 =>
      bd (lda 21 μ x2 v4) fun x3 =>
      bd (sta 21 μ x1 v4 x3) fun μ4 =>
      M_walksBy_L132 k158 n v0 v2 v3 (w32 (v4 + 1)) μ4
def M_walksBy_L41  : Nat → Int → Int → Int → Mem → Option (Int × Mem)
  | 0, _, _, _, _ => none
  | n + 1, v0, v2, v3, μ =>
    bd (getf 12 38 μ v0) fun x1 =>
    if v3 < x1 then
      M_walksBy_L52 (fun x4 x5 x6 μ7 =>
          M_walksBy_L132 (fun x8 x9 x10 μ11 =>
              M_walksBy_L41 n x8 x9 (w32 (x10 + 1)) μ11) FU x4 x5 x6 0 μ7) FU v0 v2 v3 0 μ
    else
      bd (getf 12 34 μ v0) fun x2 =>
      bd (lda 21 μ x2 v2) fun x3 =>
      some (x3, μ)
def M_walksBy (a0 a1 a2 : Int) (μ : Mem) : Option (Int × Mem) :=
  M_walksBy_L2 (fun x1 x2 μ3 =>
      M_walksBy_L41 FU x1 x2 0 μ3) FU a0 a1 a2 0 μ
def M_journeys_L110 (k142 : Int → Int → Mem → Option (Int × Mem)) : Nat → Int → Int → Int → Int → Mem → Option (Int × Mem)
  | 0, _, _, _, _, _ => none
  | n + 1, v0, v1, v2, v3, μ =>
    bd (getf 12 38 μ v0) fun x1 =>
    if v3 < x1 then
      bd (getf 12 37 μ v0) fun x2 =>
      bd (getf 12 51 μ v0) fun x3 =>
      bd (lda 21 μ x3 (w32 ((w32 (40 * v1)) + v3))) fun x4 =>
      bd (sta 20 μ x2 v3 (w32 x4)) fun μ5 =>
      M_journeys_L110 k142 n v0 v1 v2 (w32 (v3 + 1)) μ5
    else
      k142 v0 v2 μ
def M_journeys (a0 a1 a2 : Int) (μ : Mem) : Option (Int × Mem) :=
  bd (putf 12 0 μ a0 0) fun μ1 =>
  bd2 (M_within a1 0 3 μ1) fun x2 μ3 =>
  if x2 = 0 then
    some ((-2), μ3)
  else
    bd (getf 12 1 μ3 a0) fun x4 =>
    bd (lda 20 μ3 x4 0) fun x5 =>
    if x5 = 0 then
      some ((-5), μ3)
    else
      bd (getf 12 49 μ3 a0) fun x6 =>
      bd (lda 20 μ3 x6 a1) fun x7 =>
      if x7 = (-1) then
        some ((-6), μ3)
      else
        bd (isk 12 μ3 a0) fun _ =>
        bd2 (M_isSlips a0 a1 μ3) fun x8 μ9 =>
        if x8 = 0 then
          some ((-3), μ9)
        else
          bd2 (M_within a2 0 40 μ9) fun x10 μ11 =>
          if x10 = 0 then
            some ((-3), μ11)
          else
            bd (isk 12 μ11 a0) fun _ =>
            bd2 (M_canBeLeft a0 a1 μ11) fun x12 μ13 =>
            if x12 = 0 then
              some (0, μ13)
            else
              bd (getf 12 50 μ13 a0) fun x14 =>
              bd (lda 20 μ13 x14 a1) fun x15 =>
              if a2 < x15 then
                some (0, μ13)
              else
                bd (putf 12 36 μ13 a0 0) fun μ16 =>
                bd (isk 12 μ16 a0) fun _ =>
                bd2 (M_laysRounds a0 a2 μ16) fun _ μ18 =>
                bd (getf 12 50 μ18 a0) fun x19 =>
                bd (lda 20 μ18 x19 a1) fun x20 =>
                bd (putf 12 38 μ18 a0 x20) fun μ21 =>
                M_journeys_L110 (fun x22 x23 μ24 =>
                    bd (getf 12 1 μ24 x22) fun x25 =>
                    bd (lda 20 μ24 x25 1) fun x26 =>
                    bd (isk 12 μ24 x22) fun _ =>
                    bd2 (M_walksBy x22 x26 x23 μ24) fun x27 μ28 =>
                    some ((w32 x27), μ28)) FU a0 a1 a2 0 μ21
def M_laysWay_L2 (k48 : Int → Int → Int → Mem → Option (Int × Mem)) : Nat → Int → Int → Int → Mem → Option (Int × Mem)
  | 0, _, _, _, _ => none
  | n + 1, v0, v1, v2, μ =>
    bd (getf 12 40 μ v0) fun x1 =>
    if v2 < x1 then
      bd (getf 12 50 μ v0) fun x2 =>
      bd (lda 20 μ x2 v1) fun x3 =>
      if v2 < x3 then
        bd (getf 12 39 μ v0) fun x4 =>
        bd (lda 20 μ x4 v2) fun x5 =>
        bd (getf 12 51 μ v0) fun x6 =>
        bd (lda 21 μ x6 (w32 ((w32 (40 * v1)) + v2))) fun x7 =>
        if (cmp64 x5 x7) = 0 then
          M_laysWay_L2 k48 n v0 v1 (w32 (v2 + 1)) μ
        else
          k48 v0 v1 v2 μ
      else
        k48 v0 v1 v2 μ
    else
      k48 v0 v1 v2 μ
def M_laysWay_L60 (k98 : Int → Int → Int → Mem → Option (Int × Mem)) : Nat → Int → Int → Int → Int → Mem → Option (Int × Mem)
  | 0, _, _, _, _, _ => none
  | n + 1, v0, v1, v2, v3, μ =>
    if v3 < v2 then
      k98 v0 v1 v2 μ
    else
      bd (getf 12 37 μ v0) fun x1 =>
      bd (getf 12 38 μ v0) fun x2 =>
      bd (getf 12 39 μ v0) fun x3 =>
      bd (lda 20 μ x3 v3) fun x4 =>
      bd (sta 20 μ x1 x2 (xor32 x4 1)) fun μ5 =>
      bd (getf 12 38 μ5 v0) fun x6 =>
      bd (putf 12 38 μ5 v0 (w32 (x6 + 1))) fun μ7 =>
      M_laysWay_L60 k98 n v0 v1 v2 (w32 (v3 + (-1))) μ7
def M_laysWay_L100  : Nat → Int → Int → Int → Mem → Option (Int × Mem)
  | 0, _, _, _, _ => none
  | n + 1, v0, v1, v3, μ =>
    bd (getf 12 50 μ v0) fun x1 =>
    bd (lda 20 μ x1 v1) fun x2 =>
    if v3 < x2 then
      bd (getf 12 37 μ v0) fun x3 =>
      bd (getf 12 38 μ v0) fun x4 =>
      bd (getf 12 51 μ v0) fun x5 =>
      bd (lda 21 μ x5 (w32 ((w32 (40 * v1)) + v3))) fun x6 =>
      bd (sta 20 μ x3 x4 (w32 x6)) fun μ7 =>
      bd (getf 12 38 μ7 v0) fun x8 =>
      bd (putf 12 38 μ7 v0 (w32 (x8 + 1))) fun μ9 =>
      M_laysWay_L100 n v0 v1 (w32 (v3 + 1)) μ9
    else
      some (0, μ)
def M_laysWay_J48  (v0 v1 v2 : Int) (μ : Mem) : Option (Int × Mem) :=
  bd (putf 12 38 μ v0 0) fun μ1 =>
  bd (getf 12 40 μ1 v0) fun x2 =>
  bd (some (w32 (x2 - 1))) fun x3 =>
  M_laysWay_L60 (fun x4 x5 x6 μ7 =>
      M_laysWay_L100 FU x4 x5 x6 μ7) FU v0 v1 v2 x3 μ1
def M_laysWay (a0 a1 : Int) (μ : Mem) : Option (Int × Mem) :=
  M_laysWay_L2 (fun x1 x2 x3 μ4 =>
      M_laysWay_J48 x1 x2 x3 μ4) FU a0 a1 0 μ
def M_journey_L152 (k376 : Int → Int → Int → Int → Int → Int → Int → Mem → Option (Int × Mem)) : Nat → Int → Int → Int → Int → Int → Int → Int → Int → Int → Mem → Option (Int × Mem)
  | 0, _, _, _, _, _, _, _, _, _, _ => none
  | n + 1, v0, v1, v2, v4, v5, v6, v8, v9, v10, μ =>
    if v10 = 0 then
      bd (isk 12 μ v0) fun _ =>
      bd2 (M_isOpen v0 v9 μ) fun x1 μ2 =>
      if x1 = 0 then
        M_journey_L152 k376 n v0 v1 v2 v4 v5 v6 v8 (w32 (v9 + 1)) v10 μ2
      else
        bd (isk 12 μ2 v0) fun _ =>
        bd2 (M_leads v0 v9 v5 μ2) fun x3 μ4 =>
        if x3 = 0 then
          M_journey_L152 k376 n v0 v1 v2 v4 v5 v6 v8 (w32 (v9 + 1)) v10 μ4
        else
          bd (isk 12 μ4 v0) fun _ =>
          bd2 (M_dartBy v0 v9 v5 μ4) fun x5 μ6 =>
          bd (getf 12 40 μ6 v0) fun x7 =>
          bd (
              if 0 < x7 then
                bd (getf 12 39 μ6 v0) fun x9 =>
                bd (getf 12 40 μ6 v0) fun x10 =>
                bd (lda 20 μ6 x9 (w32 (x10 - 1))) fun x11 =>
                if x11 = (xor32 x5 1) then
                  some 1
                else
                  some 0
              else
                some 0) fun (y8 : Int) =>
          bd (
              if y8 = 0 then
                bd (getf 12 39 μ6 v0) fun x13 =>
                bd (getf 12 40 μ6 v0) fun x14 =>
                bd (sta 20 μ6 x13 x14 x5) fun μ15 =>
                bd (getf 12 40 μ15 v0) fun x16 =>
                bd (putf 12 40 μ15 v0 (w32 (x16 + 1))) fun μ17 =>
                some μ17
              else
                bd (getf 12 40 μ6 v0) fun x18 =>
                bd (putf 12 40 μ6 v0 (w32 (x18 - 1))) fun μ19 =>
                some μ19) fun (μ12 : Mem) =>
          bd (isk 12 μ12 v0) fun _ =>
          bd2 (M_laysWay v0 v1 μ12) fun _ μ21 =>
          bd (isk 12 μ21 v0) fun _ =>
          bd2 (M_headOf v0 x5 μ21) fun x22 μ23 =>
          bd (isk 12 μ23 v0) fun _ =>
          bd2 (M_walksBy v0 x22 (w32 ((w32 (v2 - v8)) - 1)) μ23) fun x24 μ25 =>
          bd (
              if 0 < (cmp64 x24 v6) then
                some 1
              else
                some 0) fun (y26 : Int) =>
          if y26 = 0 then
            bd (some (w64 (v6 - x24))) fun x27 =>
            if y8 = 0 then
              bd (getf 12 40 μ25 v0) fun x28 =>
              bd (putf 12 40 μ25 v0 (w32 (x28 - 1))) fun μ29 =>
              M_journey_L152 k376 n v0 v1 v2 v4 v5 x27 v8 (w32 (v9 + 1)) y26 μ29
            else
              bd (getf 12 39 μ25 v0) fun x30 =>
              bd (getf 12 40 μ25 v0) fun x31 =>
              bd (sta 20 μ25 x30 x31 (xor32 x5 1)) fun μ32 =>
              bd (getf 12 40 μ32 v0) fun x33 =>
              bd (putf 12 40 μ32 v0 (w32 (x33 + 1))) fun μ34 =>
              M_journey_L152 k376 n v0 v1 v2 v4 v5 x27 v8 (w32 (v9 + 1)) y26 μ34
          else
            if v8 = v4 then
              some (v9, μ25)
            else
              bd (isk 12 μ25 v0) fun _ =>
              bd2 (M_headOf v0 x5 μ25) fun x35 μ36 =>
              M_journey_L152 k376 n v0 v1 v2 v4 x35 v6 v8 v9 y26 μ36
    else
      k376 v0 v1 v2 v4 v5 v6 v8 μ
def M_journey_L146  : Nat → Int → Int → Int → Int → Int → Int → Int → Mem → Option (Int × Mem)
  | 0, _, _, _, _, _, _, _, _ => none
  | n + 1, v0, v1, v2, v4, v5, v6, v8, μ =>
    M_journey_L152 (fun x1 x2 x3 x4 x5 x6 x7 μ8 =>
        M_journey_L146 n x1 x2 x3 x4 x5 x6 (w32 (x7 + 1)) μ8) FU v0 v1 v2 v4 v5 v6 v8 0 0 μ
def M_journey (a0 a1 a2 a3 a4 : Int) (μ : Mem) : Option (Int × Mem) :=
  bd (putf 12 0 μ a0 0) fun μ1 =>
  bd2 (M_within a1 0 3 μ1) fun x2 μ3 =>
  if x2 = 0 then
    some ((-2), μ3)
  else
    bd (getf 12 1 μ3 a0) fun x4 =>
    bd (lda 20 μ3 x4 0) fun x5 =>
    if x5 = 0 then
      some ((-5), μ3)
    else
      bd (getf 12 49 μ3 a0) fun x6 =>
      bd (lda 20 μ3 x6 a1) fun x7 =>
      if x7 = (-1) then
        some ((-6), μ3)
      else
        bd (isk 12 μ3 a0) fun _ =>
        bd2 (M_isSlips a0 a1 μ3) fun x8 μ9 =>
        if x8 = 0 then
          some ((-3), μ9)
        else
          bd2 (M_within a2 0 40 μ9) fun x10 μ11 =>
          if x10 = 0 then
            some ((-3), μ11)
          else
            if a3 < 0 then
              some ((-3), μ11)
            else
              bd2 (M_within a4 0 (w32 (a2 - 1)) μ11) fun x12 μ13 =>
              if x12 = 0 then
                some ((-1), μ13)
              else
                bd (isk 12 μ13 a0) fun _ =>
                bd2 (M_canBeLeft a0 a1 μ13) fun x14 μ15 =>
                if x14 = 0 then
                  some ((-1), μ15)
                else
                  bd (putf 12 36 μ15 a0 1) fun μ16 =>
                  bd (isk 12 μ16 a0) fun _ =>
                  bd2 (M_laysRounds a0 a2 μ16) fun _ μ18 =>
                  bd (putf 12 40 μ18 a0 0) fun μ19 =>
                  bd (isk 12 μ19 a0) fun _ =>
                  bd2 (M_laysWay a0 a1 μ19) fun _ μ21 =>
                  bd (getf 12 1 μ21 a0) fun x22 =>
                  bd (lda 20 μ21 x22 1) fun x23 =>
                  bd (isk 12 μ21 a0) fun _ =>
                  bd2 (M_walksBy a0 x23 a2 μ21) fun x24 μ25 =>
                  if 0 < (cmp64 x24 a3) then
                    M_journey_L146 FU a0 a1 a2 a4 x23 a3 0 μ25
                  else
                    some ((-1), μ25)
def M_isLane (a0 a1 a2 a3 : Int) (μ : Mem) : Option (Int × Mem) :=
  bd (isk 12 μ a0) fun _ =>
  bd2 (M_dartBy a0 a2 a1 μ) fun x1 μ2 =>
  bd (isk 12 μ2 a0) fun _ =>
  bd2 (M_headOf a0 x1 μ2) fun x3 μ4 =>
  bd (getf 12 44 μ4 a0) fun x5 =>
  bd (lda 23 μ4 x5 a1) fun x6 =>
  if x6 = 0 then
    some (0, μ4)
  else
    bd (getf 12 44 μ4 a0) fun x7 =>
    bd (lda 23 μ4 x7 x3) fun x8 =>
    if x8 = 0 then
      some (0, μ4)
    else
      bd (getf 12 41 μ4 a0) fun x9 =>
      bd (lda 20 μ4 x9 a1) fun x10 =>
      bd (getf 12 41 μ4 a0) fun x11 =>
      bd (lda 20 μ4 x11 x3) fun x12 =>
      bd (isk 12 μ4 a0) fun _ =>
      bd2 (M_tollOn a0 a2 a3 μ4) fun x13 μ14 =>
      if x10 = (w32 (x12 + x13)) then
        bd (getf 12 42 μ14 a0) fun x15 =>
        bd (lda 20 μ14 x15 a1) fun x16 =>
        bd (getf 12 42 μ14 a0) fun x17 =>
        bd (lda 20 μ14 x17 x3) fun x18 =>
        bd (getf 12 1 μ14 a0) fun x19 =>
        bd (lda 20 μ14 x19 (w32 (104 + a2))) fun x20 =>
        if x16 = (w32 (x18 + x20)) then
          bd (getf 12 43 μ14 a0) fun x21 =>
          bd (lda 20 μ14 x21 a1) fun x22 =>
          bd (getf 12 43 μ14 a0) fun x23 =>
          bd (lda 20 μ14 x23 x3) fun x24 =>
          if x22 = (w32 (x24 + 1)) then
            some (1, μ14)
          else
            some (0, μ14)
        else
          some (0, μ14)
      else
        some (0, μ14)
def M_lanes (a0 a1 a2 a3 : Int) (μ : Mem) : Option (Int × Mem) :=
  bd (isk 12 μ a0) fun _ =>
  bd2 (M_dartBy a0 a2 a1 μ) fun x1 μ2 =>
  bd (isk 12 μ2 a0) fun _ =>
  bd2 (M_headOf a0 x1 μ2) fun x3 μ4 =>
  bd (getf 12 44 μ4 a0) fun x5 =>
  bd (lda 23 μ4 x5 x3) fun x6 =>
  if x6 = 0 then
    some (0, μ4)
  else
    bd (getf 12 41 μ4 a0) fun x7 =>
    bd (lda 20 μ4 x7 x3) fun x8 =>
    bd (isk 12 μ4 a0) fun _ =>
    bd2 (M_tollOn a0 a2 a3 μ4) fun x9 μ10 =>
    bd (some (w32 (x8 + x9))) fun x11 =>
    bd (getf 12 42 μ10 a0) fun x12 =>
    bd (lda 20 μ10 x12 x3) fun x13 =>
    bd (getf 12 1 μ10 a0) fun x14 =>
    bd (lda 20 μ10 x14 (w32 (104 + a2))) fun x15 =>
    bd (some (w32 (x13 + x15))) fun x16 =>
    bd (getf 12 43 μ10 a0) fun x17 =>
    bd (lda 20 μ10 x17 x3) fun x18 =>
    bd (some (w32 (x18 + 1))) fun x19 =>
    bd (getf 12 44 μ10 a0) fun x20 =>
    bd (lda 23 μ10 x20 a1) fun x21 =>
    bd (
        if x21 = 0 then
          some 1
        else
          bd (getf 12 41 μ10 a0) fun x23 =>
          bd (lda 20 μ10 x23 a1) fun x24 =>
          if x11 < x24 then
            some 1
          else
            bd (getf 12 41 μ10 a0) fun x25 =>
            bd (lda 20 μ10 x25 a1) fun x26 =>
            if x11 = x26 then
              bd (getf 12 42 μ10 a0) fun x27 =>
              bd (lda 20 μ10 x27 a1) fun x28 =>
              if x16 < x28 then
                some 1
              else
                bd (getf 12 42 μ10 a0) fun x29 =>
                bd (lda 20 μ10 x29 a1) fun x30 =>
                if x16 = x30 then
                  bd (getf 12 43 μ10 a0) fun x31 =>
                  bd (lda 20 μ10 x31 a1) fun x32 =>
                  if x19 < x32 then
                    some 1
                  else
                    some 0
                else
                  some 0
            else
              some 0) fun (y22 : Int) =>
    if y22 = 0 then
      some (0, μ10)
    else
      bd (getf 12 44 μ10 a0) fun x33 =>
      bd (sta 23 μ10 x33 a1 1) fun μ34 =>
      bd (getf 12 41 μ34 a0) fun x35 =>
      bd (sta 20 μ34 x35 a1 x11) fun μ36 =>
      bd (getf 12 42 μ36 a0) fun x37 =>
      bd (sta 20 μ36 x37 a1 x16) fun μ38 =>
      bd (getf 12 43 μ38 a0) fun x39 =>
      bd (sta 20 μ38 x39 a1 x19) fun μ40 =>
      some (1, μ40)
def M_laysLanes_L2 (k30 : Int → Int → Int → Mem → Option (Int × Mem)) : Nat → Int → Int → Int → Int → Mem → Option (Int × Mem)
  | 0, _, _, _, _, _ => none
  | n + 1, v0, v1, v2, v3, μ =>
    if v3 < 12 then
      bd (getf 12 44 μ v0) fun x1 =>
      bd (
          if v3 = v1 then
            some 1
          else
            some 0) fun (y2 : Int) =>
      bd (okz y2) fun _ =>
      bd (sta 23 μ x1 v3 y2) fun μ3 =>
      M_laysLanes_L2 k30 n v0 v1 v2 (w32 (v3 + 1)) μ3
    else
      k30 v0 v1 v2 μ
def M_laysLanes_L62 (k152 : Int → Int → Int → Mem → Option (Int × Mem)) : Nat → Int → Int → Int → Int → Mem → Option (Int × Mem)
  | 0, _, _, _, _, _ => none
  | n + 1, v0, v2, v3, v4, μ =>
    bd (getf 12 1 μ v0) fun x1 =>
    bd (lda 20 μ x1 7) fun x2 =>
    if v4 < x2 then
      bd (isk 12 μ v0) fun _ =>
      bd2 (M_isOpen v0 v4 μ) fun x3 μ4 =>
      if x3 = 0 then
        M_laysLanes_L62 k152 n v0 v2 v3 (w32 (v4 + 1)) μ4
      else
        bd (getf 12 1 μ4 v0) fun x5 =>
        bd (lda 20 μ4 x5 (w32 (8 + v4))) fun x6 =>
        bd (isk 12 μ4 v0) fun _ =>
        bd2 (M_lanes v0 x6 v4 v2 μ4) fun x7 μ8 =>
        bd (
            if x7 = 0 then
              if v3 = 0 then
                some 0
              else
                some 1
            else
              some 1) fun (y9 : Int) =>
        bd (getf 12 1 μ8 v0) fun x10 =>
        bd (lda 20 μ8 x10 (w32 (32 + v4))) fun x11 =>
        bd (isk 12 μ8 v0) fun _ =>
        bd2 (M_lanes v0 x11 v4 v2 μ8) fun x12 μ13 =>
        if x12 = 0 then
          if y9 = 0 then
            M_laysLanes_L62 k152 n v0 v2 0 (w32 (v4 + 1)) μ13
          else
            M_laysLanes_L62 k152 n v0 v2 1 (w32 (v4 + 1)) μ13
        else
          M_laysLanes_L62 k152 n v0 v2 1 (w32 (v4 + 1)) μ13
    else
      k152 v0 v2 v3 μ
def M_laysLanes_L53  : Nat → Int → Int → Int → Mem → Option (Int × Mem)
  | 0, _, _, _, _ => none
  | n + 1, v0, v2, v3, μ =>
    if v3 = 0 then
      some (0, μ)
    else
      M_laysLanes_L62 (fun x1 x2 x3 μ4 =>
          M_laysLanes_L53 n x1 x2 x3 μ4) FU v0 v2 0 0 μ
def M_laysLanes (a0 a1 a2 : Int) (μ : Mem) : Option (Int × Mem) :=
  M_laysLanes_L2 (fun x1 x2 x3 μ4 =>
      bd (getf 12 41 μ4 x1) fun x5 =>
      bd (sta 20 μ4 x5 x2 0) fun μ6 =>
      bd (getf 12 42 μ6 x1) fun x7 =>
      bd (sta 20 μ6 x7 x2 0) fun μ8 =>
      bd (getf 12 43 μ8 x1) fun x9 =>
      bd (sta 20 μ8 x9 x2 0) fun μ10 =>
      M_laysLanes_L53 FU x1 x3 1 μ10) FU a0 a1 a2 0 μ
def M_lane_L153 (k191 : Int → Int → Int → Int → Int → Int → Int → Mem → Option (Int × Mem)) : Nat → Int → Int → Int → Int → Int → Int → Int → Mem → Option (Int × Mem)
  | 0, _, _, _, _, _, _, _, _ => none
  | n + 1, v0, v2, v3, v4, v5, v6, v7, μ =>
    bd (isk 12 μ v0) fun _ =>
    bd2 (M_isOpen v0 v7 μ) fun x1 μ2 =>
    if x1 = 0 then
      M_lane_L153 k191 n v0 v2 v3 v4 v5 v6 (w32 (v7 + 1)) μ2
    else
      bd (isk 12 μ2 v0) fun _ =>
      bd2 (M_leads v0 v7 v5 μ2) fun x3 μ4 =>
      if x3 = 0 then
        M_lane_L153 k191 n v0 v2 v3 v4 v5 v6 (w32 (v7 + 1)) μ4
      else
        bd (isk 12 μ4 v0) fun _ =>
        bd2 (M_isLane v0 v5 v7 v3 μ4) fun x5 μ6 =>
        if x5 = 0 then
          M_lane_L153 k191 n v0 v2 v3 v4 v5 v6 (w32 (v7 + 1)) μ6
        else
          k191 v0 v2 v3 v4 v5 v6 v7 μ6
def M_lane_L144  : Nat → Int → Int → Int → Int → Int → Int → Mem → Option (Int × Mem)
  | 0, _, _, _, _, _, _, _ => none
  | n + 1, v0, v2, v3, v4, v5, v6, μ =>
    if v5 = v2 then
      some ((-1), μ)
    else
      M_lane_L153 (fun x1 x2 x3 x4 x5 x6 x7 μ8 =>
          if x6 = (w32 (x4 - 10)) then
            some (x7, μ8)
          else
            bd (isk 12 μ8 x1) fun _ =>
            bd2 (M_dartBy x1 x7 x5 μ8) fun x9 μ10 =>
            bd (isk 12 μ10 x1) fun _ =>
            bd2 (M_headOf x1 x9 μ10) fun x11 μ12 =>
            M_lane_L144 n x1 x2 x3 x4 x11 (w32 (x6 + 1)) μ12) FU v0 v2 v3 v4 v5 v6 0 μ
def M_lane_J72  (v0 v1 v2 v3 v4 : Int) (μ : Mem) : Option (Int × Mem) :=
  if v3 < 0 then
    some ((-3), μ)
  else
    bd (isk 12 μ v0) fun _ =>
    bd2 (M_laysLanes v0 v2 v3 μ) fun _ μ2 =>
    bd (getf 12 44 μ2 v0) fun x3 =>
    bd (lda 23 μ2 x3 v1) fun x4 =>
    if x4 = 0 then
      some ((-1), μ2)
    else
      if v4 < 3 then
        if v4 = 0 then
          bd (getf 12 41 μ2 v0) fun x9 =>
          bd (lda 20 μ2 x9 v1) fun x10 =>
          some (x10, μ2)
        else
          if v4 = 1 then
            bd (getf 12 42 μ2 v0) fun x7 =>
            bd (lda 20 μ2 x7 v1) fun x8 =>
            some (x8, μ2)
          else
            bd (getf 12 43 μ2 v0) fun x5 =>
            bd (lda 20 μ2 x5 v1) fun x6 =>
            some (x6, μ2)
      else
        M_lane_L144 FU v0 v2 v3 v4 v1 0 μ2
def M_lane (a0 a1 a2 a3 a4 : Int) (μ : Mem) : Option (Int × Mem) :=
  bd (putf 12 0 μ a0 0) fun μ1 =>
  bd (getf 12 1 μ1 a0) fun x2 =>
  bd (lda 20 μ1 x2 0) fun x3 =>
  bd2 (M_within a1 0 (w32 (x3 - 1)) μ1) fun x4 μ5 =>
  if x4 = 0 then
    some ((-2), μ5)
  else
    bd (getf 12 1 μ5 a0) fun x6 =>
    bd (lda 20 μ5 x6 0) fun x7 =>
    bd2 (M_within a2 0 (w32 (x7 - 1)) μ5) fun x8 μ9 =>
    if x8 = 0 then
      some ((-2), μ9)
    else
      bd2 (M_within a4 0 2 μ9) fun x10 μ11 =>
      if x10 = 0 then
        bd2 (M_within a4 10 20 μ11) fun x12 μ13 =>
        if x12 = 0 then
          some ((-2), μ13)
        else
          M_lane_J72 a0 a1 a2 a3 a4 μ13
      else
        M_lane_J72 a0 a1 a2 a3 a4 μ11
def M_spreads_L10 (k159 : Int → Int → Int → Mem → Option (Int × Mem)) : Nat → Int → Int → Int → Int → Mem → Option (Int × Mem)
  | 0, _, _, _, _, _ => none
  | n + 1, v0, v1, v2, v3, μ =>
    bd (getf 12 1 μ v0) fun x1 =>
    bd (lda 20 μ x1 7) fun x2 =>
    if v3 < x2 then
      bd (isk 12 μ v0) fun _ =>
      bd2 (M_isOpen v0 v3 μ) fun x3 μ4 =>
      if x3 = 0 then
        M_spreads_L10 k159 n v0 v1 v2 (w32 (v3 + 1)) μ4
      else
        bd (getf 12 1 μ4 v0) fun x5 =>
        bd (lda 20 μ4 x5 (w32 (8 + v3))) fun x6 =>
        bd (some (w32 ((w32 (12 * v1)) + x6))) fun x7 =>
        bd (getf 12 1 μ4 v0) fun x8 =>
        bd (lda 20 μ4 x8 (w32 (32 + v3))) fun x9 =>
        bd (some (w32 ((w32 (12 * v1)) + x9))) fun x10 =>
        bd (getf 12 1 μ4 v0) fun x11 =>
        bd (lda 20 μ4 x11 (w32 (104 + v3))) fun x12 =>
        bd (getf 12 45 μ4 v0) fun x13 =>
        bd (lda 20 μ4 x13 x7) fun x14 =>
        bd (getf 12 45 μ4 v0) fun x15 =>
        bd (lda 20 μ4 x15 x10) fun x16 =>
        bd2 (
            if (w32 (x14 + x12)) < x16 then
              bd (getf 12 45 μ4 v0) fun x19 =>
              bd (getf 12 45 μ4 v0) fun x20 =>
              bd (lda 20 μ4 x20 x7) fun x21 =>
              bd (sta 20 μ4 x19 x10 (w32 (x21 + x12))) fun μ22 =>
              some (1, μ22)
            else
              some (v2, μ4)) fun (y17 : Int) (μ18 : Mem) =>
        bd (getf 12 45 μ18 v0) fun x23 =>
        bd (lda 20 μ18 x23 x10) fun x24 =>
        bd (getf 12 45 μ18 v0) fun x25 =>
        bd (lda 20 μ18 x25 x7) fun x26 =>
        if (w32 (x24 + x12)) < x26 then
          bd (getf 12 45 μ18 v0) fun x27 =>
          bd (getf 12 45 μ18 v0) fun x28 =>
          bd (lda 20 μ18 x28 x10) fun x29 =>
          bd (sta 20 μ18 x27 x7 (w32 (x29 + x12))) fun μ30 =>
          M_spreads_L10 k159 n v0 v1 1 (w32 (v3 + 1)) μ30
        else
          M_spreads_L10 k159 n v0 v1 y17 (w32 (v3 + 1)) μ18
    else
      k159 v0 v1 v2 μ
def M_spreads_L2  : Nat → Int → Int → Int → Mem → Option (Int × Mem)
  | 0, _, _, _, _ => none
  | n + 1, v0, v1, v2, μ =>
    if v2 = 0 then
      some (0, μ)
    else
      M_spreads_L10 (fun x1 x2 x3 μ4 =>
          M_spreads_L2 n x1 x2 x3 μ4) FU v0 v1 0 0 μ
def M_spreads (a0 a1 : Int) (μ : Mem) : Option (Int × Mem) :=
  M_spreads_L2 FU a0 a1 1 μ
def M_box_L98 (k172 : Int → Int → Int → Int → Mem → Option (Int × Mem)) : Nat → Int → Int → Int → Int → Int → Mem → Option (Int × Mem)
  | 0, _, _, _, _, _, _ => none
  | n + 1, v0, v1, v2, v3, v4, μ =>
    if 0 < v4 then
      bd (getf 12 45 μ v0) fun x1 =>
      bd (lda 20 μ x1 (w32 ((w32 (12 * v4)) + v3))) fun x2 =>
      bd (getf 12 45 μ v0) fun x3 =>
      bd (lda 20 μ x3 (w32 ((w32 (12 * (xor32 v2 v4))) + v3))) fun x4 =>
      bd (some (w32 (x2 + x4))) fun x5 =>
      bd (getf 12 45 μ v0) fun x6 =>
      bd (lda 20 μ x6 (w32 ((w32 (12 * v2)) + v3))) fun x7 =>
      if x5 < x7 then
        bd (getf 12 45 μ v0) fun x9 =>
        bd (sta 20 μ x9 (w32 ((w32 (12 * v2)) + v3)) x5) fun μ10 =>
        bd (some (and32 (w32 (v4 - 1)) v2)) fun x11 =>
        M_box_L98 k172 n v0 v1 v2 v3 x11 μ10
      else
        bd (some (and32 (w32 (v4 - 1)) v2)) fun x8 =>
        M_box_L98 k172 n v0 v1 v2 v3 x8 μ
    else
      k172 v0 v1 v2 v3 μ
def M_box_L60 (k178 : Int → Int → Int → Mem → Option (Int × Mem)) : Nat → Int → Int → Int → Int → Mem → Option (Int × Mem)
  | 0, _, _, _, _, _ => none
  | n + 1, v0, v1, v2, v3, μ =>
    if v3 < 12 then
      bd (getf 12 45 μ v0) fun x1 =>
      bd (
          if v2 = (shl32 1 v3) then
            some 0
          else
            some 1000000) fun (y2 : Int) =>
      bd (sta 20 μ x1 (w32 ((w32 (12 * v2)) + v3)) y2) fun μ3 =>
      bd (some (and32 (w32 (v2 - 1)) v2)) fun x4 =>
      M_box_L98 (fun x5 x6 x7 x8 μ9 =>
          M_box_L60 k178 n x5 x6 x7 (w32 (x8 + 1)) μ9) FU v0 v1 v2 v3 x4 μ3
    else
      k178 v0 v1 v2 μ
def M_box_L42 (k189 : Int → Int → Mem → Option (Int × Mem)) : Nat → Int → Int → Int → Mem → Option (Int × Mem)
  | 0, _, _, _, _ => none
  | n + 1, v0, v1, v2, μ =>
    if v1 < v2 then
      k189 v0 v1 μ
    else
      if (and32 v2 (xor32 v1 (-1))) = 0 then
        M_box_L60 (fun x1 x2 x3 μ4 =>
            bd (isk 12 μ4 x1) fun _ =>
            bd2 (M_spreads x1 x3 μ4) fun _ μ6 =>
            M_box_L42 k189 n x1 x2 (w32 (x3 + 1)) μ6) FU v0 v1 v2 0 μ
      else
        M_box_L42 k189 n v0 v1 (w32 (v2 + 1)) μ
def M_box (a0 a1 : Int) (μ : Mem) : Option (Int × Mem) :=
  bd (putf 12 0 μ a0 0) fun μ1 =>
  bd (getf 12 1 μ1 a0) fun x2 =>
  bd (lda 20 μ1 x2 0) fun x3 =>
  if x3 = 0 then
    some ((-5), μ1)
  else
    bd (getf 12 1 μ1 a0) fun x4 =>
    bd (lda 20 μ1 x4 0) fun x5 =>
    bd2 (M_within a1 0 (w32 ((shl32 1 x5) - 1)) μ1) fun x6 μ7 =>
    if x6 = 0 then
      some ((-3), μ7)
    else
      M_box_L42 (fun x8 x9 μ10 =>
          bd (
              if x9 = 0 then
                some 0
              else
                bd (getf 12 45 μ10 x8) fun x12 =>
                bd (getf 12 1 μ10 x8) fun x13 =>
                bd (lda 20 μ10 x13 1) fun x14 =>
                bd (lda 20 μ10 x12 (w32 ((w32 (12 * x9)) + x14))) fun x15 =>
                some x15) fun (y11 : Int) =>
          if y11 < 1000000 then
            some ((w32 (2 * y11)), μ10)
          else
            some ((-1), μ10)) FU a0 a1 1 μ7
def M_reached_L21 (k113 : Int → Int → Int → Int → Mem → Option (Int × Mem)) : Nat → Int → Int → Int → Int → Int → Mem → Option (Int × Mem)
  | 0, _, _, _, _, _, _ => none
  | n + 1, v0, v1, v2, v3, v4, μ =>
    bd (getf 12 1 μ v0) fun x1 =>
    bd (lda 20 μ x1 7) fun x2 =>
    if v4 < x2 then
      if v4 = v1 then
        M_reached_L21 k113 n v0 v1 v2 v3 (w32 (v4 + 1)) μ
      else
        bd (isk 12 μ v0) fun _ =>
        bd2 (M_isOpen v0 v4 μ) fun x3 μ4 =>
        if x3 = 0 then
          M_reached_L21 k113 n v0 v1 v2 v3 (w32 (v4 + 1)) μ4
        else
          bd (getf 12 1 μ4 v0) fun x5 =>
          bd (lda 20 μ4 x5 (w32 (8 + v4))) fun x6 =>
          bd (getf 12 1 μ4 v0) fun x7 =>
          bd (lda 20 μ4 x7 (w32 (32 + v4))) fun x8 =>
          if (and32 (shr32 v2 x6) 1) = (and32 (shr32 v2 x8) 1) then
            M_reached_L21 k113 n v0 v1 v2 v3 (w32 (v4 + 1)) μ4
          else
            bd (getf 12 1 μ4 v0) fun x9 =>
            bd (lda 20 μ4 x9 (w32 (8 + v4))) fun x10 =>
            bd (getf 12 1 μ4 v0) fun x11 =>
            bd (lda 20 μ4 x11 (w32 (32 + v4))) fun x12 =>
            bd (some (or32 v2 (or32 (shl32 1 x10) (shl32 1 x12)))) fun x13 =>
            M_reached_L21 k113 n v0 v1 x13 v3 (w32 (v4 + 1)) μ4
    else
      k113 v0 v1 v2 v3 μ
def M_reached_L11  : Nat → Int → Int → Int → Int → Mem → Option (Int × Mem)
  | 0, _, _, _, _, _ => none
  | n + 1, v0, v1, v2, v3, μ =>
    if v3 = v2 then
      some (v2, μ)
    else
      M_reached_L21 (fun x1 x2 x3 x4 μ5 =>
          M_reached_L11 n x1 x2 x3 x4 μ5) FU v0 v1 v2 v2 0 μ
def M_reached (a0 a1 : Int) (μ : Mem) : Option (Int × Mem) :=
  bd (getf 12 1 μ a0) fun x1 =>
  bd (lda 20 μ x1 1) fun x2 =>
  bd (some (shl32 1 x2)) fun x3 =>
  M_reached_L11 FU a0 a1 x3 0 μ
def M_cutOff (a0 a1 : Int) (μ : Mem) : Option (Int × Mem) :=
  bd (putf 12 0 μ a0 0) fun μ1 =>
  bd (isk 12 μ1 a0) fun _ =>
  bd2 (M_isRoad a0 a1 μ1) fun x2 μ3 =>
  if x2 = 0 then
    some ((-2), μ3)
  else
    bd (isk 12 μ3 a0) fun _ =>
    bd2 (M_reached a0 (-1) μ3) fun x4 μ5 =>
    bd (isk 12 μ5 a0) fun _ =>
    bd2 (M_reached a0 a1 μ5) fun x6 μ7 =>
    some ((and32 x4 (xor32 x6 (-1))), μ7)
def M_ledger_L38  : Nat → Int → Int → Int → Int → Mem → Option (Int × Mem)
  | 0, _, _, _, _, _ => none
  | n + 1, v0, v2, v3, v4, μ =>
    if v2 < v4 then
      some (v3, μ)
    else
      bd (getf 12 1 μ v0) fun x1 =>
      bd (lda 20 μ x1 (w32 (909 + v4))) fun x2 =>
      bd (some (w32 (v3 + x2))) fun x3 =>
      M_ledger_L38 n v0 v2 x3 (w32 (v4 + 1)) μ
def M_ledger (a0 a1 a2 : Int) (μ : Mem) : Option (Int × Mem) :=
  bd (putf 12 0 μ a0 0) fun μ1 =>
  bd2 (M_within a1 0 719 μ1) fun x2 μ3 =>
  if x2 = 0 then
    some ((-3), μ3)
  else
    bd2 (M_within a2 a1 719 μ3) fun x4 μ5 =>
    if x4 = 0 then
      some ((-3), μ5)
    else
      M_ledger_L38 FU a0 a2 0 a1 μ5
def M_notes_L54 (k99 : Int → Int → Int → Int → Mem → Option (Int × Mem)) (k164 : Int → Int → Int → Int → Mem → Option (Int × Mem)) : Nat → Int → Int → Int → Int → Int → Int → Mem → Option (Int × Mem)
  | 0, _, _, _, _, _, _, _ => none
  | n + 1, v0, v1, v2, v3, v4, v5, μ =>
    bd (getf 12 50 μ v0) fun x1 =>
    bd (lda 20 μ x1 v3) fun x2 =>
    if v5 < x2 then
      bd (getf 12 51 μ v0) fun x3 =>
      bd (lda 21 μ x3 (w32 ((w32 (40 * v3)) + v5))) fun x4 =>
      bd (isk 12 μ v0) fun _ =>
      bd2 (M_isRoad v0 x4 μ) fun x5 μ6 =>
      if x5 = 0 then
        k164 v0 v1 v2 v4 μ6
      else
        bd (isk 12 μ6 v0) fun _ =>
        bd2 (M_refuses v0 v2 (w32 x4) μ6) fun x7 μ8 =>
        if x7 = 0 then
          bd (isk 12 μ8 v0) fun _ =>
          bd2 (M_goes v0 v2 (w32 x4) μ8) fun x9 μ10 =>
          bd (getf 12 46 μ10 v0) fun x11 =>
          bd (getf 12 1 μ10 v0) fun x12 =>
          bd (lda 20 μ10 x12 (w32 (159 + v2))) fun x13 =>
          bd (sta 20 μ10 x11 (w32 ((w32 (41 * v1)) + (w32 (v4 + 1)))) x13) fun μ14 =>
          bd (getf 12 47 μ14 v0) fun x15 =>
          bd (getf 12 1 μ14 v0) fun x16 =>
          bd (lda 20 μ14 x16 (w32 (153 + v2))) fun x17 =>
          bd (sta 20 μ14 x15 (w32 ((w32 (41 * v1)) + (w32 (v4 + 1)))) x17) fun μ18 =>
          M_notes_L54 k99 k164 n v0 v1 v2 v3 (w32 (v4 + 1)) (w32 (v5 + 1)) μ18
        else
          k99 v0 v1 v2 v4 μ8
    else
      k164 v0 v1 v2 v4 μ
def M_notes_J164  (v0 v1 v2 v4 : Int) (μ : Mem) : Option (Int × Mem) :=
  bd (getf 12 48 μ v0) fun x1 =>
  bd (sta 20 μ x1 v1 v4) fun μ2 =>
  bd (putf 12 15 μ2 v0 1) fun μ3 =>
  bd (isk 12 μ3 v0) fun _ =>
  bd2 (M_isAgain v0 v2 μ3) fun _ μ5 =>
  some (0, μ5)
def M_notes (a0 a1 a2 a3 : Int) (μ : Mem) : Option (Int × Mem) :=
  bd (isk 12 μ a0) fun _ =>
  bd2 (M_keeps a0 a2 μ) fun _ μ2 =>
  bd (putf 12 15 μ2 a0 0) fun μ3 =>
  bd (getf 12 46 μ3 a0) fun x4 =>
  bd (getf 12 1 μ3 a0) fun x5 =>
  bd (lda 20 μ3 x5 (w32 (159 + a2))) fun x6 =>
  bd (sta 20 μ3 x4 (w32 (41 * a1)) x6) fun μ7 =>
  bd (getf 12 47 μ7 a0) fun x8 =>
  bd (getf 12 1 μ7 a0) fun x9 =>
  bd (lda 20 μ7 x9 (w32 (153 + a2))) fun x10 =>
  bd (sta 20 μ7 x8 (w32 (41 * a1)) x10) fun μ11 =>
  M_notes_L54 (fun x12 x13 x14 x15 μ16 =>
      M_notes_J164 x12 x13 x14 x15 μ16) (fun x17 x18 x19 x20 μ21 =>
      M_notes_J164 x17 x18 x19 x20 μ21) FU a0 a1 a2 a3 0 0 μ11
def M_bothOn (a0 a1 a2 : Int) (μ : Mem) : Option (Int × Mem) :=
  bd (getf 12 47 μ a0) fun x1 =>
  bd (lda 20 μ x1 a1) fun x2 =>
  bd (getf 12 47 μ a0) fun x3 =>
  bd (lda 20 μ x3 (w32 (41 + a2))) fun x4 =>
  if x2 = x4 then
    bd (getf 12 46 μ a0) fun x5 =>
    bd (lda 20 μ x5 a1) fun x6 =>
    bd (getf 12 46 μ a0) fun x7 =>
    bd (lda 20 μ x7 (w32 (41 + a2))) fun x8 =>
    if x6 = x8 then
      some (x6, μ)
    else
      bd (
          if x6 < x8 then
            bd (getf 12 48 μ a0) fun x12 =>
            bd (lda 20 μ x12 0) fun x13 =>
            if a1 = x13 then
              some 1
            else
              some 0
          else
            bd (getf 12 48 μ a0) fun x10 =>
            bd (lda 20 μ x10 1) fun x11 =>
            if a2 = x11 then
              some 1
            else
              some 0) fun (y9 : Int) =>
      if y9 = 0 then
        some ((-1), μ)
      else
        if x6 < x8 then
          some (x8, μ)
        else
          some (x6, μ)
  else
    some ((-1), μ)
def M_meet_L127 (k189 : Int → Int → Int → Int → Int → Mem → Option (Int × Mem)) : Nat → Int → Int → Int → Int → Int → Int → Mem → Option (Int × Mem)
  | 0, _, _, _, _, _, _, _ => none
  | n + 1, v0, v5, v6, v7, v8, v9, μ =>
    bd (getf 12 48 μ v0) fun x1 =>
    bd (lda 20 μ x1 1) fun x2 =>
    if x2 < v9 then
      k189 v0 v5 v6 v7 v8 μ
    else
      bd (isk 12 μ v0) fun _ =>
      bd2 (M_bothOn v0 v8 v9 μ) fun x3 μ4 =>
      if x3 = (-1) then
        M_meet_L127 k189 n v0 v5 v6 v7 v8 (w32 (v9 + 1)) μ4
      else
        if v6 = (-1) then
          bd (getf 12 47 μ4 v0) fun x5 =>
          bd (lda 20 μ4 x5 v8) fun x6 =>
          M_meet_L127 k189 n v0 v5 x3 x6 v8 (w32 (v9 + 1)) μ4
        else
          if x3 < v6 then
            bd (getf 12 47 μ4 v0) fun x7 =>
            bd (lda 20 μ4 x7 v8) fun x8 =>
            M_meet_L127 k189 n v0 v5 x3 x8 v8 (w32 (v9 + 1)) μ4
          else
            M_meet_L127 k189 n v0 v5 v6 v7 v8 (w32 (v9 + 1)) μ4
def M_meet_L113 (k195 : Int → Int → Int → Mem → Option (Int × Mem)) : Nat → Int → Int → Int → Int → Int → Mem → Option (Int × Mem)
  | 0, _, _, _, _, _, _ => none
  | n + 1, v0, v5, v6, v7, v8, μ =>
    bd (getf 12 48 μ v0) fun x1 =>
    bd (lda 20 μ x1 0) fun x2 =>
    if x2 < v8 then
      k195 v5 v6 v7 μ
    else
      M_meet_L127 (fun x3 x4 x5 x6 x7 μ8 =>
          M_meet_L113 k195 n x3 x4 x5 x6 (w32 (x7 + 1)) μ8) FU v0 v5 v6 v7 v8 0 μ
def M_meet (a0 a1 a2 a3 a4 a5 : Int) (μ : Mem) : Option (Int × Mem) :=
  bd (putf 12 0 μ a0 0) fun μ1 =>
  bd (isk 12 μ1 a0) fun _ =>
  bd2 (M_isOne a0 a1 μ1) fun x2 μ3 =>
  if x2 = 0 then
    some ((-2), μ3)
  else
    bd (isk 12 μ3 a0) fun _ =>
    bd2 (M_isOne a0 a3 μ3) fun x4 μ5 =>
    if x4 = 0 then
      some ((-2), μ5)
    else
      if a1 = a3 then
        some ((-2), μ5)
      else
        bd2 (M_within a2 0 3 μ5) fun x6 μ7 =>
        if x6 = 0 then
          some ((-2), μ7)
        else
          bd2 (M_within a4 0 3 μ7) fun x8 μ9 =>
          if x8 = 0 then
            some ((-2), μ9)
          else
            bd2 (M_within a5 0 1 μ9) fun x10 μ11 =>
            if x10 = 0 then
              some ((-2), μ11)
            else
              bd (getf 12 49 μ11 a0) fun x12 =>
              bd (lda 20 μ11 x12 a2) fun x13 =>
              if x13 = (-1) then
                some ((-6), μ11)
              else
                bd (getf 12 49 μ11 a0) fun x14 =>
                bd (lda 20 μ11 x14 a4) fun x15 =>
                if x15 = (-1) then
                  some ((-6), μ11)
                else
                  bd (isk 12 μ11 a0) fun _ =>
                  bd2 (M_notes a0 0 a1 a2 μ11) fun _ μ17 =>
                  bd (isk 12 μ17 a0) fun _ =>
                  bd2 (M_notes a0 1 a3 a4 μ17) fun _ μ19 =>
                  M_meet_L113 (fun x20 x21 x22 μ23 =>
                      if x20 = 0 then
                        some (x21, μ23)
                      else
                        some (x22, μ23)) FU a0 a5 (-1) (-1) 0 μ19
def M_forged (a0 a1 : Int) (μ : Mem) : Option (Int × Mem) :=
  bd (putf 12 0 μ a0 0) fun μ1 =>
  bd2 (M_within a1 0 3 μ1) fun x2 μ3 =>
  if x2 = 0 then
    some ((-2), μ3)
  else
    bd (getf 12 1 μ3 a0) fun x4 =>
    bd (lda 20 μ3 x4 0) fun x5 =>
    if x5 = 0 then
      some ((-5), μ3)
    else
      bd (getf 12 49 μ3 a0) fun x6 =>
      bd (lda 20 μ3 x6 a1) fun x7 =>
      if x7 = (-1) then
        some ((-6), μ3)
      else
        bd (isk 12 μ3 a0) fun _ =>
        bd2 (M_isSlips a0 a1 μ3) fun x8 μ9 =>
        if x8 = 0 then
          some ((-3), μ9)
        else
          bd (isk 12 μ9 a0) fun _ =>
          bd2 (M_firstForged a0 a1 μ9) fun x10 μ11 =>
          some (x10, μ11)
def M_fair_L49 (k105 : Int → Int → Int → Int → Int → Int → Mem → Option (Int × Mem)) : Nat → Int → Int → Int → Int → Int → Int → Int → Mem → Option (Int × Mem)
  | 0, _, _, _, _, _, _, _, _ => none
  | n + 1, v0, v1, v3, v4, v5, v6, v7, μ =>
    bd (getf 12 1 μ v0) fun x1 =>
    bd (lda 20 μ x1 7) fun x2 =>
    if v7 < x2 then
      bd (isk 12 μ v0) fun _ =>
      bd2 (M_isOpen v0 v7 μ) fun x3 μ4 =>
      if x3 = 0 then
        bd (some (w32 (v6 + 0))) fun x5 =>
        M_fair_L49 k105 n v0 v1 v3 v4 v5 x5 (w32 (v7 + 1)) μ4
      else
        bd (getf 12 1 μ4 v0) fun x6 =>
        bd (lda 20 μ4 x6 (w32 (153 + v1))) fun x7 =>
        bd (isk 12 μ4 v0) fun _ =>
        bd2 (M_leads v0 v7 x7 μ4) fun x8 μ9 =>
        if x8 = 0 then
          bd (some (w32 (v6 + 0))) fun x10 =>
          M_fair_L49 k105 n v0 v1 v3 v4 v5 x10 (w32 (v7 + 1)) μ9
        else
          bd (some (w32 (v6 + 1))) fun x11 =>
          M_fair_L49 k105 n v0 v1 v3 v4 v5 x11 (w32 (v7 + 1)) μ9
    else
      k105 v0 v1 v3 v4 v5 v6 μ
def M_fair_J171 (k138 : Int → Int → Int → Int → Int → Int → Int → Mem → Option (Int × Mem)) (v0 v1 v3 v4 v5 v7 v8 : Int) (μ : Mem) : Option (Int × Mem) :=
  bd (isk 12 μ v0) fun _ =>
  bd2 (M_isOpen v0 v8 μ) fun x1 μ2 =>
  if x1 = 0 then
    bd (some (w32 (v7 - 0))) fun x3 =>
    k138 v0 v1 v3 v4 v5 x3 (w32 (v8 + 1)) μ2
  else
    bd (getf 12 1 μ2 v0) fun x4 =>
    bd (lda 20 μ2 x4 (w32 (153 + v1))) fun x5 =>
    bd (isk 12 μ2 v0) fun _ =>
    bd2 (M_leads v0 v8 x5 μ2) fun x6 μ7 =>
    if x6 = 0 then
      bd (some (w32 (v7 - 0))) fun x8 =>
      k138 v0 v1 v3 v4 v5 x8 (w32 (v8 + 1)) μ7
    else
      bd (some (w32 (v7 - 1))) fun x9 =>
      k138 v0 v1 v3 v4 v5 x9 (w32 (v8 + 1)) μ7
def M_fair_L138 (k215 : Int → Int → Int → Int → Int → Int → Mem → Option (Int × Mem)) : Nat → Int → Int → Int → Int → Int → Int → Int → Mem → Option (Int × Mem)
  | 0, _, _, _, _, _, _, _, _ => none
  | n + 1, v0, v1, v3, v4, v5, v7, v8, μ =>
    bd (isk 12 μ v0) fun _ =>
    bd2 (M_isOpen v0 v8 μ) fun x1 μ2 =>
    if x1 = 0 then
      M_fair_J171 (fun u0 u1 u2 u3 u4 u5 u6 μ => M_fair_L138 k215 n u0 u1 u2 u3 u4 u5 u6 μ) v0 v1 v3 v4 v5 v7 v8 μ2
    else
      bd (getf 12 1 μ2 v0) fun x3 =>
      bd (lda 20 μ2 x3 (w32 (153 + v1))) fun x4 =>
      bd (isk 12 μ2 v0) fun _ =>
      bd2 (M_leads v0 v8 x4 μ2) fun x5 μ6 =>
      if x5 = 0 then
        M_fair_J171 (fun u0 u1 u2 u3 u4 u5 u6 μ => M_fair_L138 k215 n u0 u1 u2 u3 u4 u5 u6 μ) v0 v1 v3 v4 v5 v7 v8 μ6
      else
        if 0 < v7 then
          M_fair_J171 (fun u0 u1 u2 u3 u4 u5 u6 μ => M_fair_L138 k215 n u0 u1 u2 u3 u4 u5 u6 μ) v0 v1 v3 v4 v5 v7 v8 μ6
        else
          k215 v0 v1 v3 v4 v5 v8 μ6
def M_fair_L37  : Nat → Int → Int → Int → Int → Int → Mem → Option (Int × Mem)
  | 0, _, _, _, _, _, _ => none
  | n + 1, v0, v1, v3, v4, v5, μ =>
    if v5 < v3 then
      M_fair_L49 (fun x1 x2 x3 x4 x5 x6 μ7 =>
          if x6 = 0 then
            some (x5, μ7)
          else
            bd (some (w32 ((w32 (1103515245 * x4)) + 12345))) fun x8 =>
            bd (rem32 (ushr32 x8 16) x6) fun x9 =>
            M_fair_L138 (fun x10 x11 x12 x13 x14 x15 μ16 =>
                bd (isk 12 μ16 x10) fun _ =>
                bd2 (M_refuses x10 x11 x15 μ16) fun x17 μ18 =>
                if x17 = 0 then
                  bd (isk 12 μ18 x10) fun _ =>
                  bd2 (M_goes x10 x11 x15 μ18) fun x19 μ20 =>
                  M_fair_L37 n x10 x11 x12 x13 (w32 (x14 + 1)) μ20
                else
                  some (x14, μ18)) FU x1 x2 x3 x8 x5 x9 0 μ7) FU v0 v1 v3 v4 v5 0 0 μ
    else
      some (v3, μ)
def M_fair (a0 a1 a2 a3 : Int) (μ : Mem) : Option (Int × Mem) :=
  bd (putf 12 0 μ a0 0) fun μ1 =>
  bd (isk 12 μ1 a0) fun _ =>
  bd2 (M_isOne a0 a1 μ1) fun x2 μ3 =>
  if x2 = 0 then
    some ((-2), μ3)
  else
    bd2 (M_within a3 1 40 μ3) fun x4 μ5 =>
    if x4 = 0 then
      some ((-3), μ5)
    else
      M_fair_L37 FU a0 a1 a3 a2 0 μ5
def M_cut (a0 a1 : Int) (μ : Mem) : Option (Int × Mem) :=
  if a1 = 0 then
    some ((w8 (w32 a0)), μ)
  else
    if a1 = 1 then
      some ((w16 (w32 a0)), μ)
    else
      if a1 = 2 then
        some ((w32 a0), μ)
      else
        some (a0, μ)
def M_numbers_L64  : Nat → Int → Int → Int → Int → Mem → Option (Int × Mem)
  | 0, _, _, _, _, _ => none
  | n + 1, v0, v1, v3, v4, μ =>
    if v4 < v3 then
      bd (getf 12 51 μ v0) fun x1 =>
      bd (sta 21 μ x1 (w32 ((w32 (40 * v1)) + v4)) 0) fun μ2 =>
      M_numbers_L64 n v0 v1 v3 (w32 (v4 + 1)) μ2
    else
      some (0, μ)
def M_numbers (a0 a1 a2 a3 : Int) (μ : Mem) : Option (Int × Mem) :=
  bd (putf 12 0 μ a0 0) fun μ1 =>
  bd2 (M_within a1 0 3 μ1) fun x2 μ3 =>
  if x2 = 0 then
    some ((-2), μ3)
  else
    bd2 (M_within a2 0 3 μ3) fun x4 μ5 =>
    if x4 = 0 then
      some ((-2), μ5)
    else
      bd2 (M_within a3 0 40 μ5) fun x6 μ7 =>
      if x6 = 0 then
        some ((-3), μ7)
      else
        bd (getf 12 49 μ7 a0) fun x8 =>
        bd (sta 20 μ7 x8 a1 a2) fun μ9 =>
        bd (getf 12 50 μ9 a0) fun x10 =>
        bd (sta 20 μ9 x10 a1 a3) fun μ11 =>
        M_numbers_L64 FU a0 a1 a3 0 μ11
def M_write (a0 a1 a2 a3 : Int) (μ : Mem) : Option (Int × Mem) :=
  bd (putf 12 0 μ a0 0) fun μ1 =>
  bd2 (M_within a1 0 3 μ1) fun x2 μ3 =>
  if x2 = 0 then
    some ((-2), μ3)
  else
    bd (getf 12 49 μ3 a0) fun x4 =>
    bd (lda 20 μ3 x4 a1) fun x5 =>
    if x5 = (-1) then
      some ((-6), μ3)
    else
      bd (getf 12 50 μ3 a0) fun x6 =>
      bd (lda 20 μ3 x6 a1) fun x7 =>
      bd2 (M_within a2 0 (w32 (x7 - 1)) μ3) fun x8 μ9 =>
      if x8 = 0 then
        some ((-7), μ9)
      else
        bd (getf 12 51 μ9 a0) fun x10 =>
        bd (getf 12 49 μ9 a0) fun x11 =>
        bd (lda 20 μ9 x11 a1) fun x12 =>
        bd2 (M_cut a3 x12 μ9) fun x13 μ14 =>
        bd (sta 21 μ14 x10 (w32 ((w32 (40 * a1)) + a2)) x13) fun μ15 =>
        bd (getf 12 51 μ15 a0) fun x16 =>
        bd (lda 21 μ15 x16 (w32 ((w32 (40 * a1)) + a2))) fun x17 =>
        some (x17, μ15)
def M_copy_L65  : Nat → Int → Int → Int → Int → Mem → Option (Int × Mem)
  | 0, _, _, _, _, _ => none
  | n + 1, v0, v1, v2, v3, μ =>
    bd (getf 12 1 μ v0) fun x1 =>
    bd (lda 20 μ x1 (w32 (171 + v1))) fun x2 =>
    if v3 < x2 then
      bd (getf 12 51 μ v0) fun x5 =>
      bd (getf 12 1 μ v0) fun x6 =>
      bd2 (M_slipAt v1 v3 μ) fun x7 μ8 =>
      bd (lda 20 μ8 x6 (w32 (189 + x7))) fun x9 =>
      bd (sta 21 μ8 x5 (w32 ((w32 (40 * v2)) + v3)) x9) fun μ10 =>
      M_copy_L65 n v0 v1 v2 (w32 (v3 + 1)) μ10
    else
      bd (getf 12 1 μ v0) fun x3 =>
      bd (lda 20 μ x3 (w32 (171 + v1))) fun x4 =>
      some (x4, μ)
def M_copy (a0 a1 a2 : Int) (μ : Mem) : Option (Int × Mem) :=
  bd (putf 12 0 μ a0 0) fun μ1 =>
  bd (isk 12 μ1 a0) fun _ =>
  bd2 (M_isOne a0 a1 μ1) fun x2 μ3 =>
  if x2 = 0 then
    some ((-2), μ3)
  else
    bd2 (M_within a2 0 3 μ3) fun x4 μ5 =>
    if x4 = 0 then
      some ((-2), μ5)
    else
      bd (getf 12 49 μ5 a0) fun x6 =>
      bd (lda 20 μ5 x6 a2) fun x7 =>
      if x7 = (-1) then
        some ((-6), μ5)
      else
        bd (getf 12 50 μ5 a0) fun x8 =>
        bd (lda 20 μ5 x8 a2) fun x9 =>
        bd (getf 12 1 μ5 a0) fun x10 =>
        bd (lda 20 μ5 x10 (w32 (171 + a1))) fun x11 =>
        if x9 < x11 then
          some ((-7), μ5)
        else
          M_copy_L65 FU a0 a1 a2 0 μ5
def M_image_L20 (k53 : Int → Int → Mem → Option (Int × Mem)) : Nat → Int → Int → Int → Mem → Option (Int × Mem)
  | 0, _, _, _, _ => none
  | n + 1, v0, v1, v2, μ =>
    if v2 < 1629 then
      bd (getf 12 1 μ v0) fun x1 =>
      bd (getf 12 1 μ v0) fun x2 =>
      bd (lda 20 μ x2 v2) fun x3 =>
      bd (sta 20 μ x1 (w32 ((w32 (1629 * (w32 (v1 + 1)))) + v2)) x3) fun μ4 =>
      M_image_L20 k53 n v0 v1 (w32 (v2 + 1)) μ4
    else
      k53 v0 v1 μ
def M_image (a0 a1 : Int) (μ : Mem) : Option (Int × Mem) :=
  bd (putf 12 0 μ a0 0) fun μ1 =>
  bd2 (M_within a1 0 1 μ1) fun x2 μ3 =>
  if x2 = 0 then
    some ((-2), μ3)
  else
    M_image_L20 (fun x4 x5 μ6 =>
        bd (getf 12 2 μ6 x4) fun x7 =>
        bd (sta 23 μ6 x7 x5 1) fun μ8 =>
        some (0, μ8)) FU a0 a1 0 μ3
def M_restore_L32  : Nat → Int → Int → Int → Mem → Option (Int × Mem)
  | 0, _, _, _, _ => none
  | n + 1, v0, v1, v2, μ =>
    if v2 < 1629 then
      bd (getf 12 1 μ v0) fun x1 =>
      bd (getf 12 1 μ v0) fun x2 =>
      bd (lda 20 μ x2 (w32 ((w32 (1629 * (w32 (v1 + 1)))) + v2))) fun x3 =>
      bd (sta 20 μ x1 v2 x3) fun μ4 =>
      M_restore_L32 n v0 v1 (w32 (v2 + 1)) μ4
    else
      some (0, μ)
def M_restore (a0 a1 : Int) (μ : Mem) : Option (Int × Mem) :=
  bd (putf 12 0 μ a0 0) fun μ1 =>
  bd2 (M_within a1 0 1 μ1) fun x2 μ3 =>
  if x2 = 0 then
    some ((-2), μ3)
  else
    bd (getf 12 2 μ3 a0) fun x4 =>
    bd (lda 23 μ3 x4 a1) fun x5 =>
    if x5 = 0 then
      some ((-5), μ3)
    else
      M_restore_L32 FU a0 a1 0 μ3
def M_count_L9 (k39 : Int → Int → Int → Mem → Option (Int × Mem)) : Nat → Int → Int → Int → Int → Mem → Option (Int × Mem)
  | 0, _, _, _, _, _ => none
  | n + 1, v0, v1, v2, v3, μ =>
    bd (getf 12 1 μ v0) fun x1 =>
    bd (lda 20 μ x1 7) fun x2 =>
    if v3 < x2 then
      bd (getf 12 1 μ v0) fun x3 =>
      bd (lda 20 μ x3 (w32 (128 + v3))) fun x4 =>
      bd (some (w32 (v2 + x4))) fun x5 =>
      M_count_L9 k39 n v0 v1 x5 (w32 (v3 + 1)) μ
    else
      k39 v0 v1 v2 μ
def M_count (a0 a1 : Int) (μ : Mem) : Option (Int × Mem) :=
  bd (putf 12 0 μ a0 0) fun μ1 =>
  M_count_L9 (fun x2 x3 x4 μ5 =>
      if x3 = 0 then
        bd (getf 12 1 μ5 x2) fun x6 =>
        bd (lda 20 μ5 x6 0) fun x7 =>
        some (x7, μ5)
      else
        if x3 = 1 then
        bd (getf 12 1 μ5 x2) fun x8 =>
        bd (lda 20 μ5 x8 7) fun x9 =>
        some (x9, μ5)
      else
        if x3 = 2 then
        bd (getf 12 1 μ5 x2) fun x10 =>
        bd (lda 20 μ5 x10 152) fun x11 =>
        some (x11, μ5)
      else
        if x3 = 3 then
        bd (getf 12 1 μ5 x2) fun x12 =>
        bd (lda 20 μ5 x12 0) fun x13 =>
        if x13 = 0 then
          some ((-1), μ5)
        else
          bd (getf 12 1 μ5 x2) fun x14 =>
          bd (lda 20 μ5 x14 1) fun x15 =>
          some (x15, μ5)
      else
        if x3 = 4 then
        bd (getf 12 1 μ5 x2) fun x16 =>
        bd (lda 20 μ5 x16 2) fun x17 =>
        some (x17, μ5)
      else
        if x3 = 5 then
        bd (getf 12 1 μ5 x2) fun x18 =>
        bd (lda 20 μ5 x18 3) fun x19 =>
        some (x19, μ5)
      else
        if x3 = 6 then
        some (x4, μ5)
      else
        if x3 = 7 then
        bd (getf 12 5 μ5 x2) fun x20 =>
        some (x20, μ5)
      else
        if x3 = 8 then
        bd (getf 12 1 μ5 x2) fun x21 =>
        bd (lda 20 μ5 x21 6) fun x22 =>
        some (x22, μ5)
      else
        some ((-1), μ5)) FU a0 a1 0 0 μ1
