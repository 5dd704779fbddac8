/-! the pure functions of the bytecode, printed by a program of mine -/
def fRM_isWithin (a1 : Int32) (a2 : Int32) (a3 : Int32) : Option (Int32) :=
  if a1 < a2 then
    some (0 : Int32)
  else
    if a3 < a1 then
      some (0 : Int32)
    else
      some (1 : Int32)
def fRM_isFactor (a1 : Int32) : Option (Int32) :=
  db1 (fRM_isWithin a1 (-5 : Int32) (5 : Int32)) fun r2 =>
  dck (okZ r2) <|
  some r2
def fRM_bad (σ : sT) : Option (Int32 × sT) :=
  dlt (siW σ 0 8 ((σ.1 0 8) + (1 : Int32))) fun σ1 =>
  some ((-1000002 : Int32), σ1)
def fRM_isProperty (a1 : Int32) (a2 : Int32) : Option (Int32) :=
  if a1 = (3 : Int32) then
    db1 (fRM_isWithin a2 (0 : Int32) (2 : Int32)) fun r11 =>
    dck (okZ r11) <|
    some r11
  else
    if a1 = (4 : Int32) then
      db1 (fRM_isWithin a2 (-50 : Int32) (50 : Int32)) fun r8 =>
      dck (okZ r8) <|
      some r8
    else
      if a1 = (5 : Int32) then
        db1 (fRM_isWithin a2 (0 : Int32) (1 : Int32)) fun r5 =>
        if r5 = 0 then
          some (0 : Int32)
        else
          some (1 : Int32)
      else
        some (0 : Int32)
def fBk_remember (σ : sT) : Option (sT) :=
  dck (okC (0 : Int32) ((σ.1 1 4) * (72 : Int32)) (72 : Int32) 72 432) <|
  dlt (saW σ 3 (va_cpy (σ.1 2) (σ.1 3) (0 : Int32).toNatClampNeg ((σ.1 1 4) * (72 : Int32)).toNatClampNeg (72 : Int32).toNatClampNeg)) fun σ2 =>
  dck (okI (σ2.1 1 4) 6) <|
  dlt (siW σ2 4 (σ2.1 1 4).toNatClampNeg (σ2.1 1 3)) fun σ4 =>
  dlt (siW σ4 1 4 (((σ4.1 1 4) + (1 : Int32)) - ((σ4.1 1 4) + (1 : Int32)) / (6 : Int32) * (6 : Int32))) fun σ5 =>
  dlt (siW σ5 1 5 (if (6 : Int32) < ((σ5.1 1 5) + (1 : Int32)) then (6 : Int32) else ((σ5.1 1 5) + (1 : Int32)))) fun σ6 =>
  some σ6
def fBk_append (a1 : Int32) (a2 : Int32) (a3 : Int32) (a4 : Int32) (a5 : Int32) (a6 : Int32) (σ : sT) : Option (sT) :=
  if (σ.1 1 3) < (12 : Int32) then
    dlt ((σ.1 1 3) * (6 : Int32)) fun x2 =>
    dck (okI x2 72) <|
    dlt (siW σ 2 x2.toNatClampNeg a1) fun σ4 =>
    dck (okI (x2 + (1 : Int32)) 72) <|
    dlt (siW σ4 2 (x2 + (1 : Int32)).toNatClampNeg a2) fun σ6 =>
    dck (okI (x2 + (2 : Int32)) 72) <|
    dlt (siW σ6 2 (x2 + (2 : Int32)).toNatClampNeg a3) fun σ8 =>
    dck (okI (x2 + (3 : Int32)) 72) <|
    dlt (siW σ8 2 (x2 + (3 : Int32)).toNatClampNeg a4) fun σ10 =>
    dck (okI (x2 + (4 : Int32)) 72) <|
    dlt (siW σ10 2 (x2 + (4 : Int32)).toNatClampNeg a5) fun σ12 =>
    dck (okI (x2 + (5 : Int32)) 72) <|
    dlt (siW σ12 2 (x2 + (5 : Int32)).toNatClampNeg a6) fun σ14 =>
    dlt (siW σ14 1 3 ((σ14.1 1 3) + (1 : Int32))) fun σ15 =>
    some σ15
  else
    some σ
def fRM_full (σ : sT) : Option (Int32 × sT) :=
  dlt (siW σ 0 10 ((σ.1 0 10) + (1 : Int32))) fun σ1 =>
  some ((-1000004 : Int32), σ1)
def fRM_row (a1 : Int32) (a2 : Int32) (a3 : Int32) (a4 : Int32) (a5 : Int32) (a6 : Int32) (σ : sT) : Option (Int32 × sT) :=
  db1 (fRM_isFactor a1) fun r2 =>
  dlt (fun (_u : Unit) =>
    db2 (fRM_bad σ) fun r5 σ6 =>
    some (r5, σ6)) fun J3 =>
  if r2 = 0 then
    J3 ()
  else
    db1 (fRM_isFactor a2) fun r9 =>
    if r9 = 0 then
      J3 ()
    else
      db1 (fRM_isFactor a3) fun r12 =>
      if r12 = 0 then
        J3 ()
      else
        db1 (fRM_isProperty (3 : Int32) a4) fun r15 =>
        dlt (fun (_u : Unit) =>
          db2 (fRM_bad σ) fun r18 σ19 =>
          some (r18, σ19)) fun J16 =>
        if r15 = 0 then
          J16 ()
        else
          db1 (fRM_isProperty (4 : Int32) a5) fun r22 =>
          if r22 = 0 then
            J16 ()
          else
            db1 (fRM_isProperty (5 : Int32) a6) fun r25 =>
            if r25 = 0 then
              J16 ()
            else
              if (σ.1 1 3) < (12 : Int32) then
                db1 (fBk_remember σ) fun σ29 =>
                db1 (fBk_append a1 a2 a3 a4 a5 a6 σ29) fun σ31 =>
                some ((σ31.1 1 3) - (1 : Int32), σ31)
              else
                db2 (fRM_full σ) fun r33 σ34 =>
                some (r33, σ34)
def fBk_has (a1 : Int32) (σ : sT) : Option (Int32) :=
  if a1 < 0 then
    some (0 : Int32)
  else
    if (σ.1 1 3) ≤ a1 then
      some (0 : Int32)
    else
      some (1 : Int32)
def fBk_remove_L14 (K8 : sT → Option (sT)) : Nat → Int32 → sT → Option (sT)
  | 0, _, _ => none
  | n10 + 1, x5, σ6 =>
    if (((σ6.1 1 3) - (1 : Int32)) * (6 : Int32)) ≤ x5 then
      K8 σ6
    else
      dck (okI (x5 + (6 : Int32)) 72) <|
      dck (okI x5 72) <|
      dlt (siW σ6 2 x5.toNatClampNeg (σ6.1 2 (x5 + (6 : Int32)).toNatClampNeg)) fun σ14 =>
      fBk_remove_L14 K8 n10 (x5 + (1 : Int32)) σ14
def fBk_remove (a1 : Int32) (σ : sT) : Option (sT) :=
  db1 (fBk_has a1 σ) fun r2 =>
  if r2 = 0 then
    some σ
  else
    dlt (a1 * (6 : Int32)) fun x4 =>
    dlt (fun (σ7 : sT) =>
      dlt (siW σ7 1 3 ((σ7.1 1 3) - (1 : Int32))) fun σ9 =>
      some σ9) fun K8 =>
    fBk_remove_L14 K8 FU x4 σ
def fRM_drops (a1 : Int32) (σ : sT) : Option (Int32 × sT) :=
  db1 (fBk_has a1 σ) fun r2 =>
  if r2 = 0 then
    db2 (fRM_bad σ) fun r9 σ10 =>
    some (r9, σ10)
  else
    db1 (fBk_remember σ) fun σ5 =>
    db1 (fBk_remove a1 σ5) fun σ7 =>
    some (σ7.1 1 3, σ7)
def fBk_get (a1 : Int32) (a2 : Int32) (σ : sT) : Option (Int32) :=
  db1 (fBk_has a1 σ) fun r2 =>
  if r2 = 0 then
    some (0 : Int32)
  else
    db1 (fRM_isWithin a2 (0 : Int32) (5 : Int32)) fun r5 =>
    if r5 = 0 then
      some (0 : Int32)
    else
      dck (okI ((a1 * (6 : Int32)) + a2) 72) <|
      some (σ.1 2 ((a1 * (6 : Int32)) + a2).toNatClampNeg)
def fBk_put (a1 : Int32) (a2 : Int32) (a3 : Int32) (σ : sT) : Option (sT) :=
  db1 (fBk_has a1 σ) fun r2 =>
  if r2 = 0 then
    some σ
  else
    db1 (fRM_isWithin a2 (0 : Int32) (5 : Int32)) fun r5 =>
    if r5 = 0 then
      some σ
    else
      dck (okI ((a1 * (6 : Int32)) + a2) 72) <|
      dlt (siW σ 2 ((a1 * (6 : Int32)) + a2).toNatClampNeg a3) fun σ8 =>
      some σ8
def fRM_sets (a1 : Int32) (a2 : Int32) (a3 : Int32) (σ : sT) : Option (Int32 × sT) :=
  db1 (fBk_has a1 σ) fun r2 =>
  dlt (fun (_u : Unit) =>
    db2 (fRM_bad σ) fun r5 σ6 =>
    some (r5, σ6)) fun J3 =>
  if r2 = 0 then
    J3 ()
  else
    db1 (fRM_isWithin a2 (0 : Int32) (2 : Int32)) fun r9 =>
    if r9 = 0 then
      J3 ()
    else
      db1 (fRM_isProperty ((3 : Int32) + a2) a3) fun r12 =>
      if r12 = 0 then
        J3 ()
      else
        db1 (fBk_get a1 ((3 : Int32) + a2) σ) fun r15 =>
        db1 (fBk_remember σ) fun σ17 =>
        db1 (fBk_put a1 ((3 : Int32) + a2) a3 σ17) fun σ19 =>
        some (r15, σ19)
def fRM_of (a1 : Int32) (a2 : Int32) (σ : sT) : Option (Int32 × sT) :=
  db1 (fBk_has a1 σ) fun r2 =>
  dlt (fun (_u : Unit) =>
    db2 (fRM_bad σ) fun r5 σ6 =>
    some (r5, σ6)) fun J3 =>
  if r2 = 0 then
    J3 ()
  else
    db1 (fRM_isWithin a2 (0 : Int32) (5 : Int32)) fun r9 =>
    if r9 = 0 then
      J3 ()
    else
      db1 (fBk_get a1 a2 σ) fun r12 =>
      some (r12, σ)
def fBk_covers (a1 : Int32) (σ : sT) : Option (Int32) :=
  if ((a1.toUInt32 >>> ((σ.1 1 3).toUInt32 &&& Int32.toUInt32 31)).toInt32) = 0 then
    some (1 : Int32)
  else
    some (0 : Int32)
def fRw_empty (io0 : Nat) (io1 : Nat) (io2 : Nat) (il3 : Nat) (il4 : Nat) (σ : sT) : Option (sT) :=
  dlt (siW σ io0 2 (0 : Int32)) fun σ1 =>
  dlt (siW σ1 io0 3 (0 : Int32)) fun σ2 =>
  some σ2
def fRM_isIn (a1 : Int32) (a2 : Int32) : Option (Int32) :=
  if ((a1 >>> (a2 &&& 31)) &&& (1 : Int32)) = 0 then
    some (0 : Int32)
  else
    some (1 : Int32)
def fRw_keep (io0 : Nat) (io1 : Nat) (io2 : Nat) (il3 : Nat) (il4 : Nat) (a1 : Int64) (a2 : Int64) (a3 : Int64) (a4 : Int64) (a5 : Int32) (σ : sT) : Option (sT) :=
  dlt (fun (_u : Unit) =>
    if (σ.1 io0 2) < (Int32.ofNat il4) then
      dlt ((σ.1 io0 2) * (4 : Int32)) fun x3 =>
      dck (okI x3 il3) <|
      dlt (sjW σ io1 x3.toNatClampNeg a1) fun σ5 =>
      dck (okI (x3 + (1 : Int32)) il3) <|
      dlt (sjW σ5 io1 (x3 + (1 : Int32)).toNatClampNeg a2) fun σ7 =>
      dck (okI (x3 + (2 : Int32)) il3) <|
      dlt (sjW σ7 io1 (x3 + (2 : Int32)).toNatClampNeg a3) fun σ9 =>
      dck (okI (x3 + (3 : Int32)) il3) <|
      dlt (sjW σ9 io1 (x3 + (3 : Int32)).toNatClampNeg a4) fun σ11 =>
      dck (okI (σ11.1 io0 2) il4) <|
      dlt (siW σ11 io2 (σ11.1 io0 2).toNatClampNeg a5) fun σ13 =>
      dlt (siW σ13 io0 2 ((σ13.1 io0 2) + (1 : Int32))) fun σ14 =>
      some σ14
    else
      some σ) fun J1 =>
  if (lg_cmp a1 (0 : Int64)) = 0 then
    if (lg_cmp a2 (0 : Int64)) = 0 then
      if (lg_cmp a3 (0 : Int64)) = 0 then
        dlt (fun (x18 : Int32) =>
          dlt (fun (x20 : Int32) =>
            dck (okZ x20) <|
            dlt (siW σ io0 3 x20) fun σ23 =>
            some σ23) fun J21 =>
          dlt (fun (_u : Unit) =>
            J21 (1 : Int32)) fun J24 =>
          if (σ.1 io0 3) = 0 then
            if x18 = 0 then
              J24 ()
            else
              J21 (0 : Int32)
          else
            J24 ()) fun J19 =>
        if a5 = 0 then
          if (lg_cmp a4 (0 : Int64)) ≤ 0 then
            J19 (0 : Int32)
          else
            J19 (1 : Int32)
        else
          if a5 = (1 : Int32) then
            if (lg_cmp a4 (0 : Int64)) < 0 then
              J19 (0 : Int32)
            else
              J19 (1 : Int32)
          else
            if (lg_cmp a4 (0 : Int64)) = 0 then
              J19 (1 : Int32)
            else
              J19 (0 : Int32)
      else
        J1 ()
    else
      J1 ()
  else
    J1 ()
def fSo_keep (a1 : Int32) (a2 : Int32) (a3 : Int32) (σ : sT) : Option (sT) :=
  db1 (fBk_get a1 (0 : Int32) σ) fun r2 =>
  db1 (fBk_get a1 (1 : Int32) σ) fun r4 =>
  db1 (fBk_get a1 (2 : Int32) σ) fun r6 =>
  db1 (fBk_get a1 (4 : Int32) σ) fun r8 =>
  db1 (fRw_keep 6 7 8 52 13 ((a2 * r2).toInt64) ((a2 * r4).toInt64) ((a2 * r6).toInt64) ((a2 * r8).toInt64) a3 σ) fun σ10 =>
  some σ10
def fSo_load_L9 (a1 : Int32) : Nat → Int32 → sT → Option (sT)
  | 0, _, _ => none
  | n5 + 1, x3, σ4 =>
    if (12 : Int32) ≤ x3 then
      some σ4
    else
      db1 (fRM_isIn a1 x3) fun r8 =>
      if r8 = 0 then
        fSo_load_L9 a1 n5 (x3 + (1 : Int32)) σ4
      else
        db1 (fBk_get x3 (3 : Int32) σ4) fun r11 =>
        db1 (fSo_keep x3 (1 : Int32) r11 σ4) fun σ13 =>
        fSo_load_L9 a1 n5 (x3 + (1 : Int32)) σ13
def fSo_load (a1 : Int32) (σ : sT) : Option (sT) :=
  db1 (fRw_empty 6 7 8 52 13 σ) fun σ2 =>
  fSo_load_L9 a1 FU (0 : Int32) σ2
def fSp_reset (σ : sT) : Option (sT) :=
  dlt (sjW σ 15 1 (0 : Int64)) fun σ1 =>
  dlt (sjW σ1 15 4 (0 : Int64)) fun σ2 =>
  some σ2
def fRw_equalityWith_L2 (io0 : Nat) (io1 : Nat) (io2 : Nat) (il3 : Nat) (il4 : Nat) (a1 : Int32) (σ : sT) : Nat → Int32 → Option (Int32)
  | 0, _ => none
  | n2 + 1, x1 =>
    if (σ.1 io0 2) ≤ x1 then
      some (-1 : Int32)
    else
      dck (okI x1 il4) <|
      if (σ.1 io2 x1.toNatClampNeg) = (2 : Int32) then
        dck (okI ((x1 * (4 : Int32)) + a1) il3) <|
        if (lg_cmp (σ.2 io1 ((x1 * (4 : Int32)) + a1).toNatClampNeg) (0 : Int64)) = 0 then
          fRw_equalityWith_L2 io0 io1 io2 il3 il4 a1 σ n2 (x1 + (1 : Int32))
        else
          some x1
      else
        fRw_equalityWith_L2 io0 io1 io2 il3 il4 a1 σ n2 (x1 + (1 : Int32))
def fRw_equalityWith (io0 : Nat) (io1 : Nat) (io2 : Nat) (il3 : Nat) (il4 : Nat) (a1 : Int32) (σ : sT) : Option (Int32) :=
  fRw_equalityWith_L2 io0 io1 io2 il3 il4 a1 σ FU (0 : Int32)
def fRw_mix (io0 : Nat) (io1 : Nat) (io2 : Nat) (il3 : Nat) (il4 : Nat) (io5 : Nat) (io6 : Nat) (io7 : Nat) (il8 : Nat) (il9 : Nat) (a1 : Int32) (a2 : Int64) (a3 : Int32) (a4 : Int64) (σ : sT) : Option (sT) :=
  dlt (a1 * (4 : Int32)) fun x1 =>
  dlt (a3 * (4 : Int32)) fun x2 =>
  dck (okI x1 il3) <|
  dck (okI x2 il3) <|
  dck (okI (x1 + (1 : Int32)) il3) <|
  dck (okI (x2 + (1 : Int32)) il3) <|
  dck (okI (x1 + (2 : Int32)) il3) <|
  dck (okI (x2 + (2 : Int32)) il3) <|
  dck (okI (x1 + (3 : Int32)) il3) <|
  dck (okI (x2 + (3 : Int32)) il3) <|
  dck (okI a1 il4) <|
  dck (okI a3 il4) <|
  db1 (fRw_keep io5 io6 io7 il8 il9 ((a2 * (σ.2 io1 x1.toNatClampNeg)) + (a4 * (σ.2 io1 x2.toNatClampNeg))) ((a2 * (σ.2 io1 (x1 + (1 : Int32)).toNatClampNeg)) + (a4 * (σ.2 io1 (x2 + (1 : Int32)).toNatClampNeg))) ((a2 * (σ.2 io1 (x1 + (2 : Int32)).toNatClampNeg)) + (a4 * (σ.2 io1 (x2 + (2 : Int32)).toNatClampNeg))) ((a2 * (σ.2 io1 (x1 + (3 : Int32)).toNatClampNeg)) + (a4 * (σ.2 io1 (x2 + (3 : Int32)).toNatClampNeg))) (if (σ.1 io2 a3.toNatClampNeg) < (σ.1 io2 a1.toNatClampNeg) then (σ.1 io2 a3.toNatClampNeg) else (σ.1 io2 a1.toNatClampNeg)) σ) fun σ14 =>
  some σ14
def fRw_eliminate_L131 (io0 : Nat) (io1 : Nat) (io2 : Nat) (il3 : Nat) (il4 : Nat) (io5 : Nat) (io6 : Nat) (io7 : Nat) (il8 : Nat) (il9 : Nat) (a1 : Int32) (x7 : Int32) (x12 : Int64) (K20 : sT → Option (sT)) : Nat → Int32 → sT → Option (sT)
  | 0, _, _ => none
  | n21 + 1, x17, σ18 =>
    if (σ18.1 io0 2) ≤ x17 then
      K20 σ18
    else
      dck (okI ((x17 * (4 : Int32)) + a1) il3) <|
      dlt (σ18.2 io1 ((x17 * (4 : Int32)) + a1).toNatClampNeg) fun x24 =>
      if 0 ≤ (lg_cmp x24 (0 : Int64)) then
        fRw_eliminate_L131 io0 io1 io2 il3 il4 io5 io6 io7 il8 il9 a1 x7 x12 K20 n21 (x17 + (1 : Int32)) σ18
      else
        db1 (fRw_mix io0 io1 io2 il3 il4 io5 io6 io7 il8 il9 x7 (-x24) x17 x12 σ18) fun σ27 =>
        fRw_eliminate_L131 io0 io1 io2 il3 il4 io5 io6 io7 il8 il9 a1 x7 x12 K20 n21 (x17 + (1 : Int32)) σ27
def fRw_eliminate_L21 (io0 : Nat) (io1 : Nat) (io2 : Nat) (il3 : Nat) (il4 : Nat) (io5 : Nat) (io6 : Nat) (io7 : Nat) (il8 : Nat) (il9 : Nat) (a1 : Int32) (r6 : Int32) : Nat → Int32 → sT → Option (sT)
  | 0, _, _ => none
  | n9 + 1, x7, σ8 =>
    if (σ8.1 io0 2) ≤ x7 then
      some σ8
    else
      dck (okI ((x7 * (4 : Int32)) + a1) il3) <|
      dlt (σ8.2 io1 ((x7 * (4 : Int32)) + a1).toNatClampNeg) fun x12 =>
      if (lg_cmp x12 (0 : Int64)) = 0 then
        db1 (fRw_mix io0 io1 io2 il3 il4 io5 io6 io7 il8 il9 x7 (1 : Int64) x7 (0 : Int64) σ8) fun σ41 =>
        fRw_eliminate_L21 io0 io1 io2 il3 il4 io5 io6 io7 il8 il9 a1 r6 n9 (x7 + (1 : Int32)) σ41
      else
        dlt (fun (_u : Unit) =>
          if 0 ≤ r6 then
            fRw_eliminate_L21 io0 io1 io2 il3 il4 io5 io6 io7 il8 il9 a1 r6 n9 (x7 + (1 : Int32)) σ8
          else
            if (lg_cmp x12 (0 : Int64)) ≤ 0 then
              fRw_eliminate_L21 io0 io1 io2 il3 il4 io5 io6 io7 il8 il9 a1 r6 n9 (x7 + (1 : Int32)) σ8
            else
              dlt (fun (σ19 : sT) =>
                fRw_eliminate_L21 io0 io1 io2 il3 il4 io5 io6 io7 il8 il9 a1 r6 n9 (x7 + (1 : Int32)) σ19) fun K20 =>
              fRw_eliminate_L131 io0 io1 io2 il3 il4 io5 io6 io7 il8 il9 a1 x7 x12 K20 FU (0 : Int32) σ8) fun J14 =>
        if r6 < 0 then
          J14 ()
        else
          if x7 = r6 then
            J14 ()
          else
            dck (okI ((r6 * (4 : Int32)) + a1) il3) <|
            dlt (σ8.2 io1 ((r6 * (4 : Int32)) + a1).toNatClampNeg) fun x31 =>
            dlt (fun (x32 : Int32) (x33 : Int64) (x34 : Int32) (x35 : Int64) =>
              db1 (fRw_mix io0 io1 io2 il3 il4 io5 io6 io7 il8 il9 x32 x33 x34 x35 σ8) fun σ38 =>
              fRw_eliminate_L21 io0 io1 io2 il3 il4 io5 io6 io7 il8 il9 a1 r6 n9 (x7 + (1 : Int32)) σ38) fun J36 =>
            if (lg_cmp x31 (0 : Int64)) ≤ 0 then
              J36 x7 (if 0 < x31 then x31 else -x31) r6 x12
            else
              J36 x7 (if 0 < x31 then x31 else -x31) r6 (-x12)
def fRw_eliminate (io0 : Nat) (io1 : Nat) (io2 : Nat) (il3 : Nat) (il4 : Nat) (io5 : Nat) (io6 : Nat) (io7 : Nat) (il8 : Nat) (il9 : Nat) (a1 : Int32) (σ : sT) : Option (sT) :=
  db1 (fRw_empty io5 io6 io7 il8 il9 σ) fun σ2 =>
  dck (okZ (σ2.1 io0 3)) <|
  dlt (siW σ2 io5 3 (σ2.1 io0 3)) fun σ4 =>
  db1 (fRw_equalityWith io0 io1 io2 il3 il4 a1 σ4) fun r6 =>
  fRw_eliminate_L21 io0 io1 io2 il3 il4 io5 io6 io7 il8 il9 a1 r6 FU (0 : Int32) σ4
def fJM_floorDiv (a1 : Int64) (a2 : Int64) : Option (Int64) :=
  dck (okE a2) <|
  dlt (a1 / a2) fun x2 =>
  if 0 ≤ (lg_cmp (a1 ^^^ a2) (0 : Int64)) then
    some x2
  else
    if (lg_cmp (x2 * a2) a1) = 0 then
      some x2
    else
      some (x2 - (1 : Int64))
def fSp_compare_L17 (K8 : Int64 → Int64 → Option (Int32)) (K14 : Int64 → Int64 → Option (Int32)) : Nat → Int64 → Int64 → Int64 → Int64 → Int32 → Option (Int32)
  | 0, _, _, _, _, _ => none
  | n16 + 1, x1, x2, x3, x4, x5 =>
    if (100 : Int32) ≤ x5 then
      K8 x2 x4
    else
      if (lg_cmp x2 (0 : Int64)) ≤ 0 then
        K8 x2 x4
      else
        if (lg_cmp x4 (0 : Int64)) ≤ 0 then
          K8 x2 x4
        else
          db1 (fJM_floorDiv x1 x2) fun r21 =>
          db1 (fJM_floorDiv x3 x4) fun r23 =>
          if (lg_cmp r21 r23) = 0 then
            dlt (x1 - (r21 * x2)) fun x25 =>
            dlt (x3 - (r23 * x4)) fun x26 =>
            fSp_compare_L17 K8 K14 n16 x4 x26 x2 x25 (x5 + (1 : Int32))
          else
            K14 r21 r23
def fSp_compare (a1 : Int64) (a2 : Int64) (a3 : Int64) (a4 : Int64) : Option (Int32) :=
  dlt (fun (x6 : Int64) (x7 : Int64) =>
    if (lg_cmp x6 x7) = 0 then
      some (0 : Int32)
    else
      if (lg_cmp x7 (0 : Int64)) = 0 then
        some (-1 : Int32)
      else
        if (lg_cmp x6 (0 : Int64)) = 0 then
          some (1 : Int32)
        else
          some (0 : Int32)) fun K8 =>
  dlt (fun (x12 : Int64) (x13 : Int64) =>
    if 0 ≤ (lg_cmp x12 x13) then
      some (1 : Int32)
    else
      some (-1 : Int32)) fun K14 =>
  fSp_compare_L17 K8 K14 FU a1 a2 a3 a4 (0 : Int32)
def fSp_isEmpty (σ : sT) : Option (Int32) :=
  if (lg_cmp (σ.2 15 1) (0 : Int64)) = 0 then
    some (0 : Int32)
  else
    if (lg_cmp (σ.2 15 4) (0 : Int64)) = 0 then
      some (0 : Int32)
    else
      db1 (fSp_compare (σ.2 15 0) (σ.2 15 1) (σ.2 15 3) (σ.2 15 4)) fun r4 =>
      if 0 < r4 then
        some (1 : Int32)
      else
        if r4 = 0 then
          if (σ.1 15 2) = 0 then
            if (σ.1 15 5) = 0 then
              some (0 : Int32)
            else
              some (1 : Int32)
          else
            some (1 : Int32)
        else
          some (0 : Int32)
def fSp_raiseLow (a1 : Int64) (a2 : Int64) (a3 : Int32) (σ : sT) : Option (sT) :=
  dlt (fun (x1 : Int32) =>
    if x1 ≤ 0 then
      if x1 = 0 then
        dlt (fun (x5 : Int32) =>
          dck (okZ x5) <|
          dlt (siW σ 15 2 x5) fun σ8 =>
          some σ8) fun J6 =>
        dlt (fun (_u : Unit) =>
          J6 (1 : Int32)) fun J9 =>
        if (σ.1 15 2) = 0 then
          if a3 = 0 then
            J6 (0 : Int32)
          else
            J9 ()
        else
          J9 ()
      else
        some σ
    else
      dlt (sjW σ 15 0 a1) fun σ12 =>
      dlt (sjW σ12 15 1 a2) fun σ13 =>
      dck (okZ a3) <|
      dlt (siW σ13 15 2 a3) fun σ15 =>
      some σ15) fun J2 =>
  if (lg_cmp (σ.2 15 1) (0 : Int64)) = 0 then
    J2 (1 : Int32)
  else
    db1 (fSp_compare a1 a2 (σ.2 15 0) (σ.2 15 1)) fun r18 =>
    J2 r18
def fSp_lowerHigh (a1 : Int64) (a2 : Int64) (a3 : Int32) (σ : sT) : Option (sT) :=
  dlt (fun (x1 : Int32) =>
    if 0 ≤ x1 then
      if x1 = 0 then
        dlt (fun (x5 : Int32) =>
          dck (okZ x5) <|
          dlt (siW σ 15 5 x5) fun σ8 =>
          some σ8) fun J6 =>
        dlt (fun (_u : Unit) =>
          J6 (1 : Int32)) fun J9 =>
        if (σ.1 15 5) = 0 then
          if a3 = 0 then
            J6 (0 : Int32)
          else
            J9 ()
        else
          J9 ()
      else
        some σ
    else
      dlt (sjW σ 15 3 a1) fun σ12 =>
      dlt (sjW σ12 15 4 a2) fun σ13 =>
      dck (okZ a3) <|
      dlt (siW σ13 15 5 a3) fun σ15 =>
      some σ15) fun J2 =>
  if (lg_cmp (σ.2 15 4) (0 : Int64)) = 0 then
    J2 (-1 : Int32)
  else
    db1 (fSp_compare a1 a2 (σ.2 15 3) (σ.2 15 4)) fun r18 =>
    J2 r18
def fSp_take (a1 : Int64) (a2 : Int64) (a3 : Int32) (σ : sT) : Option (sT) :=
  dlt (fun (x1 : Int64) =>
    dlt (if 0 < a1 then a1 else -a1) fun x3 =>
    dlt (fun (σ4 : sT) =>
      if (lg_cmp x3 (0 : Int64)) = 0 then
        some σ4
      else
        dlt (fun (_u : Unit) =>
          dlt (fun (x8 : Int64) (x9 : Int64) (x10 : Int32) =>
            db1 (fSp_raiseLow x8 x9 x10 σ4) fun σ13 =>
            some σ13) fun J11 =>
          if a3 = 0 then
            J11 x1 x3 (1 : Int32)
          else
            J11 x1 x3 (0 : Int32)) fun J7 =>
        if a3 = (2 : Int32) then
          J7 ()
        else
          if 0 ≤ (lg_cmp a1 (0 : Int64)) then
            some σ4
          else
            J7 ()) fun J5 =>
    if (lg_cmp x3 (0 : Int64)) = 0 then
      J5 σ
    else
      dlt (fun (_u : Unit) =>
        dlt (fun (x19 : Int64) (x20 : Int64) (x21 : Int32) =>
          db1 (fSp_lowerHigh x19 x20 x21 σ) fun σ24 =>
          J5 σ24) fun J22 =>
        if a3 = 0 then
          J22 x1 x3 (1 : Int32)
        else
          J22 x1 x3 (0 : Int32)) fun J18 =>
      if a3 = (2 : Int32) then
        J18 ()
      else
        if (lg_cmp a1 (0 : Int64)) ≤ 0 then
          J5 σ
        else
          J18 ()) fun J2 =>
  if (lg_cmp a1 (0 : Int64)) ≤ 0 then
    J2 (-a2)
  else
    J2 a2
def fSo_narrow_L74 (a1 : Int32) (K16 : sT → Option (Int32 × sT)) : Nat → Int32 → sT → Option (Int32 × sT)
  | 0, _, _ => none
  | n20 + 1, x13, σ14 =>
    if (σ14.1 12 2) ≤ x13 then
      K16 σ14
    else
      dlt (x13 * (4 : Int32)) fun x22 =>
      dck (okI (x22 + a1) 1764) <|
      dck (okI (x22 + (3 : Int32)) 1764) <|
      dck (okI x13 441) <|
      db1 (fSp_take (σ14.2 13 (x22 + a1).toNatClampNeg) (σ14.2 13 (x22 + (3 : Int32)).toNatClampNeg) (σ14.1 14 x13.toNatClampNeg) σ14) fun σ27 =>
      fSo_narrow_L74 a1 K16 n20 (x13 + (1 : Int32)) σ27
def fSo_narrow (a1 : Int32) (σ : sT) : Option (Int32 × sT) :=
  db1 (fSp_reset σ) fun σ2 =>
  dlt (fun (x3 : Int32) =>
    db1 (fRw_eliminate 6 7 8 52 13 9 10 11 168 42 x3 σ2) fun σ6 =>
    if (σ6.1 9 3) = 0 then
      dlt (fun (x8 : Int32) =>
        db1 (fRw_eliminate 9 10 11 168 42 12 13 14 1764 441 x8 σ6) fun σ11 =>
        if (σ11.1 12 3) = 0 then
          dlt (fun (σ15 : sT) =>
            db1 (fSp_isEmpty σ15) fun r18 =>
            if r18 = 0 then
              some ((1 : Int32), σ15)
            else
              some ((0 : Int32), σ15)) fun K16 =>
          fSo_narrow_L74 a1 K16 FU (0 : Int32) σ11
        else
          some ((0 : Int32), σ11)) fun J9 =>
      if a1 = 0 then
        J9 (1 : Int32)
      else
        J9 (0 : Int32)
    else
      some ((0 : Int32), σ6)) fun J4 =>
  if a1 = (2 : Int32) then
    J4 (1 : Int32)
  else
    J4 (2 : Int32)
def fSo_measure (a1 : Int32) (a2 : Int32) (σ : sT) : Option (Int32 × sT) :=
  db1 (fSo_load a1 σ) fun σ2 =>
  db2 (fSo_narrow a2 σ2) fun r4 σ5 =>
  dck (okZ r4) <|
  some (r4, σ5)
def fSo_isSatisfiable (a1 : Int32) (σ : sT) : Option (Int32 × sT) :=
  db2 (fSo_measure a1 (0 : Int32) σ) fun r2 σ3 =>
  dck (okZ r2) <|
  some (r2, σ3)
def fRM_can (a1 : Int32) (σ : sT) : Option (Int32 × sT) :=
  db1 (fBk_covers a1 σ) fun r2 =>
  if r2 = 0 then
    db2 (fRM_bad σ) fun r9 σ10 =>
    some (r9, σ10)
  else
    db2 (fSo_isSatisfiable a1 σ) fun r5 σ6 =>
    if r5 = 0 then
      some ((0 : Int32), σ6)
    else
      some ((1 : Int32), σ6)
def fRk_hold (a1 : Int64) (a2 : Int64) (a3 : Int64) (σ : sT) : Option (sT) :=
  dlt (sjW σ 16 0 a1) fun σ1 =>
  dlt (sjW σ1 16 1 a2) fun σ2 =>
  dlt (sjW σ2 16 2 a3) fun σ3 =>
  dlt (siW σ3 16 3 ((σ3.1 16 3) + (1 : Int32))) fun σ4 =>
  some σ4
def fRk_add (a1 : Int64) (a2 : Int64) (a3 : Int64) (σ : sT) : Option (sT) :=
  dlt (fun (_u : Unit) =>
    if (σ.1 16 3) = (1 : Int32) then
      dlt (((σ.2 16 1) * a3) - ((σ.2 16 2) * a2)) fun x6 =>
      dlt (((σ.2 16 2) * a1) - ((σ.2 16 0) * a3)) fun x7 =>
      dlt (((σ.2 16 0) * a2) - ((σ.2 16 1) * a1)) fun x8 =>
      dlt (fun (_u : Unit) =>
        db1 (fRk_hold x6 x7 x8 σ) fun σ11 =>
        some σ11) fun J9 =>
      if (lg_cmp x6 (0 : Int64)) = 0 then
        if (lg_cmp x7 (0 : Int64)) = 0 then
          if (lg_cmp x8 (0 : Int64)) = 0 then
            some σ
          else
            J9 ()
        else
          J9 ()
      else
        J9 ()
    else
      if (σ.1 16 3) = (2 : Int32) then
        if (lg_cmp ((((σ.2 16 0) * a1) + ((σ.2 16 1) * a2)) + ((σ.2 16 2) * a3)) (0 : Int64)) = 0 then
          some σ
        else
          dlt (siW σ 16 3 (3 : Int32)) fun σ5 =>
          some σ5
      else
        some σ) fun J1 =>
  if (σ.1 16 3) = 0 then
    dlt (fun (_u : Unit) =>
      db1 (fRk_hold a1 a2 a3 σ) fun σ18 =>
      some σ18) fun J16 =>
    if (lg_cmp a1 (0 : Int64)) = 0 then
      if (lg_cmp a2 (0 : Int64)) = 0 then
        if (lg_cmp a3 (0 : Int64)) = 0 then
          J1 ()
        else
          J16 ()
      else
        J16 ()
    else
      J16 ()
  else
    J1 ()
def fSo_meets (a1 : Int32) (a2 : Int32) (a3 : Int32) (a4 : Int32) (σ : sT) : Option (Int32 × sT) :=
  db1 (fSo_load a1 σ) fun σ2 =>
  db1 (fSo_keep a2 a3 a4 σ2) fun σ4 =>
  db2 (fSo_narrow (0 : Int32) σ4) fun r6 σ7 =>
  dck (okZ r6) <|
  some (r6, σ7)
def fSo_dimensionOf_L10 (a1 : Int32) : Nat → Int32 → sT → Option (Int32 × sT)
  | 0, _, _ => none
  | n4 + 1, x2, σ3 =>
    if (12 : Int32) ≤ x2 then
      some ((3 : Int32) - (σ3.1 16 3), σ3)
    else
      db1 (fBk_get x2 (3 : Int32) σ3) fun r7 =>
      db1 (fRM_isIn a1 x2) fun r9 =>
      if r9 = 0 then
        fSo_dimensionOf_L10 a1 n4 (x2 + (1 : Int32)) σ3
      else
        dlt (fun (σ11 : sT) =>
          db1 (fBk_get x2 (0 : Int32) σ11) fun r14 =>
          db1 (fBk_get x2 (1 : Int32) σ11) fun r16 =>
          db1 (fBk_get x2 (2 : Int32) σ11) fun r18 =>
          db1 (fRk_add r14.toInt64 r16.toInt64 r18.toInt64 σ11) fun σ20 =>
          fSo_dimensionOf_L10 a1 n4 (x2 + (1 : Int32)) σ20) fun J12 =>
        if r7 = (2 : Int32) then
          J12 σ3
        else
          if r7 = (1 : Int32) then
            db2 (fSo_meets a1 x2 (1 : Int32) (0 : Int32) σ3) fun r24 σ25 =>
            if r24 = 0 then
              J12 σ25
            else
              fSo_dimensionOf_L10 a1 n4 (x2 + (1 : Int32)) σ25
          else
            fSo_dimensionOf_L10 a1 n4 (x2 + (1 : Int32)) σ3
def fSo_dimensionOf (a1 : Int32) (σ : sT) : Option (Int32 × sT) :=
  dlt (siW σ 16 3 (0 : Int32)) fun σ1 =>
  fSo_dimensionOf_L10 a1 FU (0 : Int32) σ1
def fRM_no (σ : sT) : Option (Int32 × sT) :=
  dlt (siW σ 0 9 ((σ.1 0 9) + (1 : Int32))) fun σ1 =>
  some ((-1000003 : Int32), σ1)
def fRM_dimension (a1 : Int32) (σ : sT) : Option (Int32 × sT) :=
  db1 (fBk_covers a1 σ) fun r2 =>
  if r2 = 0 then
    db2 (fRM_bad σ) fun r15 σ16 =>
    some (r15, σ16)
  else
    db2 (fSo_isSatisfiable a1 σ) fun r5 σ6 =>
    if r5 = 0 then
      db2 (fRM_no σ6) fun r12 σ13 =>
      some (r12, σ13)
    else
      db2 (fSo_dimensionOf a1 σ6) fun r9 σ10 =>
      some (r9, σ10)
def fRM_gcd_L15 : Nat → Int64 → Int64 → Int32 → Option (Int64)
  | 0, _, _, _ => none
  | n6 + 1, x3, x4, x5 =>
    if (100 : Int32) ≤ x5 then
      some x3
    else
      if (lg_cmp x4 (0 : Int64)) = 0 then
        some x3
      else
        dck (okE x4) <|
        dlt (x3 - x3 / x4 * x4) fun x10 =>
        fRM_gcd_L15 n6 x4 x10 (x5 + (1 : Int32))
def fRM_gcd (a1 : Int64) (a2 : Int64) : Option (Int64) :=
  dlt (if 0 < a1 then a1 else -a1) fun x1 =>
  dlt (if 0 < a2 then a2 else -a2) fun x2 =>
  fRM_gcd_L15 FU x1 x2 (0 : Int32)
def fSp_property (a1 : Int64) (a2 : Int64) (a3 : Int32) (a4 : Int32) : Option (Int64) :=
  if (lg_cmp a2 (0 : Int64)) = 0 then
    some (-1000001 : Int64)
  else
    if a4 = (2 : Int32) then
      if a3 = 0 then
        some (1 : Int64)
      else
        some (0 : Int64)
    else
      db1 (fRM_gcd a1 a2) fun r4 =>
      if (lg_cmp r4 (0 : Int64)) = 0 then
        some (0 : Int64)
      else
        dlt (fun (x6 : Int64) =>
          dck (okE r4) <|
          some (x6 / r4)) fun J7 =>
        if a4 = 0 then
          J7 a1
        else
          J7 a2
def fSp_lowProperty (a1 : Int32) (σ : sT) : Option (Int64) :=
  db1 (fSp_property (σ.2 15 0) (σ.2 15 1) (σ.1 15 2) a1) fun r2 =>
  some r2
def fSp_highProperty (a1 : Int32) (σ : sT) : Option (Int64) :=
  db1 (fSp_property (σ.2 15 3) (σ.2 15 4) (σ.1 15 5) a1) fun r2 =>
  some r2
def fRM_bound (a1 : Int32) (a2 : Int32) (a3 : Int32) (a4 : Int32) (σ : sT) : Option (Int64 × sT) :=
  db1 (fBk_covers a1 σ) fun r2 =>
  dlt (fun (_u : Unit) =>
    db2 (fRM_bad σ) fun r5 σ6 =>
    some (r5.toInt64, σ6)) fun J3 =>
  if r2 = 0 then
    J3 ()
  else
    db1 (fRM_isWithin a2 (0 : Int32) (2 : Int32)) fun r9 =>
    if r9 = 0 then
      J3 ()
    else
      db1 (fRM_isWithin a3 (0 : Int32) (1 : Int32)) fun r12 =>
      if r12 = 0 then
        J3 ()
      else
        db1 (fRM_isWithin a4 (0 : Int32) (2 : Int32)) fun r15 =>
        if r15 = 0 then
          J3 ()
        else
          db2 (fSo_measure a1 a2 σ) fun r18 σ19 =>
          if r18 = 0 then
            db2 (fRM_no σ19) fun r27 σ28 =>
            some (r27.toInt64, σ28)
          else
            if a3 = (1 : Int32) then
              db1 (fSp_highProperty a4 σ19) fun r25 =>
              some (r25, σ19)
            else
              db1 (fSp_lowProperty a4 σ19) fun r23 =>
              some (r23, σ19)
def fSo_implies (a1 : Int32) (a2 : Int32) (σ : sT) : Option (Int32 × sT) :=
  db1 (fBk_get a2 (3 : Int32) σ) fun r2 =>
  if r2 = (2 : Int32) then
    db2 (fSo_meets a1 a2 (1 : Int32) (0 : Int32) σ) fun r15 σ16 =>
    if r15 = 0 then
      db2 (fSo_meets a1 a2 (-1 : Int32) (0 : Int32) σ16) fun r19 σ20 =>
      if r19 = 0 then
        some ((1 : Int32), σ20)
      else
        some ((0 : Int32), σ20)
    else
      some ((0 : Int32), σ16)
  else
    dlt (fun (x4 : Int32) (x5 : Int32) (x6 : Int32) (x7 : Int32) =>
      db2 (fSo_meets x4 x5 x6 x7 σ) fun r10 σ11 =>
      if r10 = 0 then
        some ((1 : Int32), σ11)
      else
        some ((0 : Int32), σ11)) fun J8 =>
    if r2 = 0 then
      J8 a1 a2 (-1 : Int32) (1 : Int32)
    else
      J8 a1 a2 (-1 : Int32) (0 : Int32)
def fRM_brings (a1 : Int32) (a2 : Int32) (σ : sT) : Option (Int32 × sT) :=
  db1 (fBk_covers a1 σ) fun r2 =>
  dlt (fun (_u : Unit) =>
    db2 (fRM_bad σ) fun r5 σ6 =>
    some (r5, σ6)) fun J3 =>
  if r2 = 0 then
    J3 ()
  else
    db1 (fBk_has a2 σ) fun r9 =>
    if r9 = 0 then
      J3 ()
    else
      db2 (fSo_implies a1 a2 σ) fun r12 σ13 =>
      if r12 = 0 then
        some ((0 : Int32), σ13)
      else
        some ((1 : Int32), σ13)
def fRM_spare_L20 (a1 : Int32) : Nat → Int32 → Int32 → sT → Option (Int32 × sT)
  | 0, _, _, _ => none
  | n7 + 1, x4, x5, σ6 =>
    if (12 : Int32) ≤ x5 then
      some (x4, σ6)
    else
      db1 (fRM_isIn a1 x5) fun r10 =>
      if r10 = 0 then
        fRM_spare_L20 a1 n7 x4 (x5 + (1 : Int32)) σ6
      else
        db2 (fSo_implies (a1 &&& (((1 : Int32) <<< (x5 &&& 31)) ^^^ (-1 : Int32))) x5 σ6) fun r13 σ14 =>
        if r13 = 0 then
          fRM_spare_L20 a1 n7 x4 (x5 + (1 : Int32)) σ14
        else
          dlt (x4 ||| ((1 : Int32) <<< (x5 &&& 31))) fun x16 =>
          fRM_spare_L20 a1 n7 x16 (x5 + (1 : Int32)) σ14
def fRM_spare (a1 : Int32) (σ : sT) : Option (Int32 × sT) :=
  db1 (fBk_covers a1 σ) fun r2 =>
  if r2 = 0 then
    db2 (fRM_bad σ) fun r18 σ19 =>
    some (r18, σ19)
  else
    fRM_spare_L20 a1 FU (0 : Int32) (0 : Int32) σ
def fRM_same_L29 (a1 : Int32) (a2 : Int32) : Nat → Int32 → sT → Option (Int32 × sT)
  | 0, _, _ => none
  | n13 + 1, x11, σ12 =>
    if (12 : Int32) ≤ x11 then
      some ((1 : Int32), σ12)
    else
      db1 (fRM_isIn (a2 &&& (a1 ^^^ (-1 : Int32))) x11) fun r16 =>
      dlt (fun (σ17 : sT) =>
        db1 (fRM_isIn (a1 &&& (a2 ^^^ (-1 : Int32))) x11) fun r20 =>
        if r20 = 0 then
          fRM_same_L29 a1 a2 n13 (x11 + (1 : Int32)) σ17
        else
          db2 (fSo_implies a2 x11 σ17) fun r23 σ24 =>
          if r23 = 0 then
            some ((0 : Int32), σ24)
          else
            fRM_same_L29 a1 a2 n13 (x11 + (1 : Int32)) σ24) fun J18 =>
      if r16 = 0 then
        J18 σ12
      else
        db2 (fSo_implies a1 x11 σ12) fun r28 σ29 =>
        if r28 = 0 then
          some ((0 : Int32), σ29)
        else
          J18 σ29
def fRM_same (a1 : Int32) (a2 : Int32) (σ : sT) : Option (Int32 × sT) :=
  db1 (fBk_covers a1 σ) fun r2 =>
  dlt (fun (_u : Unit) =>
    db2 (fRM_bad σ) fun r5 σ6 =>
    some (r5, σ6)) fun J3 =>
  if r2 = 0 then
    J3 ()
  else
    db1 (fBk_covers a2 σ) fun r9 =>
    if r9 = 0 then
      J3 ()
    else
      fRM_same_L29 a1 a2 FU (0 : Int32) σ
def fSo_putValues_L75 (x9 : Int32) (K20 : sT → Option (sT)) : Nat → Int32 → sT → Option (sT)
  | 0, _, _ => none
  | n26 + 1, x17, σ18 =>
    if (4 : Int32) ≤ x17 then
      K20 σ18
    else
      dck (okI x17 4) <|
      dck (okI x9 3) <|
      dck (okI x17 4) <|
      dlt (sjW σ18 17 x17.toNatClampNeg ((σ18.2 17 x17.toNatClampNeg) * (σ18.2 19 x9.toNatClampNeg))) fun σ31 =>
      fSo_putValues_L75 x9 K20 n26 (x17 + (1 : Int32)) σ31
def fSo_putValues_L47 (a2 : Int32) : Nat → Int32 → sT → Option (sT)
  | 0, _, _ => none
  | n11 + 1, x9, σ10 =>
    if a2 ≤ x9 then
      some σ10
    else
      if (3 : Int32) ≤ x9 then
        some σ10
      else
        dck (okI x9 4) <|
        dck (okI x9 3) <|
        dlt ((σ10.2 17 x9.toNatClampNeg) * (σ10.2 18 x9.toNatClampNeg)) fun x16 =>
        dlt (fun (σ19 : sT) =>
          dck (okI x9 4) <|
          dlt (sjW σ19 17 x9.toNatClampNeg (0 : Int64)) fun σ22 =>
          dck (okI (3 : Int32) 4) <|
          dck (okI (3 : Int32) 4) <|
          dlt (sjW σ22 17 (3 : Int32).toNatClampNeg ((σ22.2 17 (3 : Int32).toNatClampNeg) - x16)) fun σ25 =>
          fSo_putValues_L47 a2 n11 (x9 + (1 : Int32)) σ25) fun K20 =>
        fSo_putValues_L75 x9 K20 FU (0 : Int32) σ10
def fSo_putValues_L2 (a1 : Int32) (K4 : sT → Option (sT)) : Nat → Int32 → sT → Option (sT)
  | 0, _, _ => none
  | n32 + 1, x1, σ2 =>
    if (3 : Int32) ≤ x1 then
      K4 σ2
    else
      db1 (fBk_get a1 x1 σ2) fun r35 =>
      dck (okI x1 4) <|
      dlt (sjW σ2 17 x1.toNatClampNeg r35.toInt64) fun σ37 =>
      fSo_putValues_L2 a1 K4 n32 (x1 + (1 : Int32)) σ37
def fSo_putValues (a1 : Int32) (a2 : Int32) (σ : sT) : Option (sT) :=
  dlt (fun (σ3 : sT) =>
    db1 (fBk_get a1 (4 : Int32) σ3) fun r6 =>
    dck (okI (3 : Int32) 4) <|
    dlt (sjW σ3 17 (3 : Int32).toNatClampNeg r6.toInt64) fun σ8 =>
    fSo_putValues_L47 a2 FU (0 : Int32) σ8) fun K4 =>
  fSo_putValues_L2 a1 K4 FU (0 : Int32) σ
def fSo_loadWithValues_L9 (a1 : Int32) (a2 : Int32) : Nat → Int32 → sT → Option (sT)
  | 0, _, _ => none
  | n5 + 1, x3, σ4 =>
    if (12 : Int32) ≤ x3 then
      some σ4
    else
      db1 (fRM_isIn a1 x3) fun r8 =>
      if r8 = 0 then
        fSo_loadWithValues_L9 a1 a2 n5 (x3 + (1 : Int32)) σ4
      else
        db1 (fSo_putValues x3 a2 σ4) fun σ11 =>
        dck (okI (0 : Int32) 4) <|
        dck (okI (1 : Int32) 4) <|
        dck (okI (2 : Int32) 4) <|
        dck (okI (3 : Int32) 4) <|
        db1 (fBk_get x3 (3 : Int32) σ11) fun r17 =>
        db1 (fRw_keep 6 7 8 52 13 (σ11.2 17 (0 : Int32).toNatClampNeg) (σ11.2 17 (1 : Int32).toNatClampNeg) (σ11.2 17 (2 : Int32).toNatClampNeg) (σ11.2 17 (3 : Int32).toNatClampNeg) r17 σ11) fun σ19 =>
        fSo_loadWithValues_L9 a1 a2 n5 (x3 + (1 : Int32)) σ19
def fSo_loadWithValues (a1 : Int32) (a2 : Int32) (σ : sT) : Option (sT) :=
  db1 (fRw_empty 6 7 8 52 13 σ) fun σ2 =>
  fSo_loadWithValues_L9 a1 a2 FU (0 : Int32) σ2
def fSp_choose (a1 : Int64) (a2 : Int64) (σ : sT) : Option (sT) :=
  db1 (fRM_gcd a1 a2) fun r2 =>
  if (lg_cmp r2 (0 : Int64)) = 0 then
    some σ
  else
    dck (okE r2) <|
    dlt (sjW σ 15 6 (a1 / r2)) fun σ5 =>
    dck (okE r2) <|
    dlt (sjW σ5 15 7 (a2 / r2)) fun σ7 =>
    some σ7
def fSp_pickSimplest_L15 (σ : sT) (K12 : Int64 → Int64 → Option (sT)) : Nat → Int64 → Int64 → Int64 → Int64 → Int64 → Int64 → Int64 → Int64 → Int32 → Option (sT)
  | 0, _, _, _, _, _, _, _, _, _ => none
  | n15 + 1, x1, x2, x3, x4, x5, x6, x7, x8, x9 =>
    if (100 : Int32) ≤ x9 then
      some σ
    else
      if (lg_cmp x2 (0 : Int64)) ≤ 0 then
        some σ
      else
        db1 (fJM_floorDiv x1 x2) fun r19 =>
        dlt (fun (x20 : Int32) =>
          dlt (fun (x22 : Int64) =>
            dlt ((x22 * x7) + x5) fun x24 =>
            dlt ((x22 * x8) + x6) fun x25 =>
            if x20 = 0 then
              dlt (x1 - (r19 * x2)) fun x27 =>
              dlt (x3 - (r19 * x4)) fun x28 =>
              fSp_pickSimplest_L15 σ K12 n15 x4 x28 x2 x27 x7 x8 x24 x25 (x9 + (1 : Int32))
            else
              K12 x24 x25) fun J23 =>
          if x20 = 0 then
            J23 r19
          else
            J23 (r19 + (1 : Int64))) fun J21 =>
        if 0 ≤ (lg_cmp ((r19 + (1 : Int64)) * x4) x3) then
          J21 (0 : Int32)
        else
          J21 (1 : Int32)
def fSp_pickSimplest (a1 : Int64) (a2 : Int64) (a3 : Int64) (a4 : Int64) (σ : sT) : Option (sT) :=
  dlt (fun (x10 : Int64) (x11 : Int64) =>
    db1 (fSp_choose x10 x11 σ) fun σ14 =>
    some σ14) fun K12 =>
  fSp_pickSimplest_L15 σ K12 FU a1 a2 a3 a4 (0 : Int64) (1 : Int64) (1 : Int64) (0 : Int64) (0 : Int32)
def fSp_pickBetween (σ : sT) : Option (sT) :=
  if (lg_cmp (σ.2 15 0) (0 : Int64)) < 0 then
    if (lg_cmp (σ.2 15 3) (0 : Int64)) ≤ 0 then
      db1 (fSp_pickSimplest (-(σ.2 15 3)) (σ.2 15 4) (-(σ.2 15 0)) (σ.2 15 1) σ) fun σ4 =>
      dlt (sjW σ4 15 6 (-(σ4.2 15 6))) fun σ5 =>
      some σ5
    else
      db1 (fSp_choose (0 : Int64) (1 : Int64) σ) fun σ7 =>
      some σ7
  else
    db1 (fSp_pickSimplest (σ.2 15 0) (σ.2 15 1) (σ.2 15 3) (σ.2 15 4) σ) fun σ9 =>
    some σ9
def fSp_pick (σ : sT) : Option (sT) :=
  dlt (fun (_u : Unit) =>
    dlt (fun (_u : Unit) =>
      dlt (fun (_u : Unit) =>
        if (lg_cmp (σ.2 15 1) (0 : Int64)) ≤ 0 then
          if (lg_cmp (σ.2 15 4) (0 : Int64)) ≤ 0 then
            db1 (fSp_choose (0 : Int64) (1 : Int64) σ) fun σ7 =>
            some σ7
          else
            db1 (fJM_floorDiv (-(σ.2 15 3)) (σ.2 15 4)) fun r9 =>
            db1 (fSp_choose ((-r9) - (1 : Int64)) (1 : Int64) σ) fun σ11 =>
            some σ11
        else
          db1 (fJM_floorDiv (σ.2 15 0) (σ.2 15 1)) fun r13 =>
          db1 (fSp_choose (r13 + (1 : Int64)) (1 : Int64) σ) fun σ15 =>
          some σ15) fun J3 =>
      if (lg_cmp (σ.2 15 1) (0 : Int64)) ≤ 0 then
        J3 ()
      else
        if (lg_cmp (σ.2 15 4) (0 : Int64)) ≤ 0 then
          J3 ()
        else
          db1 (fSp_pickBetween σ) fun σ19 =>
          some σ19) fun J2 =>
    if (lg_cmp (σ.2 15 4) (0 : Int64)) ≤ 0 then
      J2 ()
    else
      if (σ.1 15 5) = 0 then
        db1 (fSp_choose (σ.2 15 3) (σ.2 15 4) σ) fun σ23 =>
        some σ23
      else
        J2 ()) fun J1 =>
  if (lg_cmp (σ.2 15 1) (0 : Int64)) ≤ 0 then
    J1 ()
  else
    if (σ.1 15 2) = 0 then
      db1 (fSp_choose (σ.2 15 0) (σ.2 15 1) σ) fun σ27 =>
      some σ27
    else
      J1 ()
def fSo_solve_L2 (a1 : Int32) (a2 : Int32) : Nat → Int32 → sT → Option (sT)
  | 0, _, _ => none
  | n3 + 1, x1, σ2 =>
    if a2 < x1 then
      some σ2
    else
      if (3 : Int32) ≤ x1 then
        some σ2
      else
        db1 (fSo_loadWithValues a1 x1 σ2) fun σ7 =>
        db2 (fSo_narrow x1 σ7) fun r9 σ10 =>
        db1 (fSp_pick σ10) fun σ12 =>
        dck (okI x1 3) <|
        dlt (sjW σ12 18 x1.toNatClampNeg (σ12.2 15 6)) fun σ14 =>
        dck (okI x1 3) <|
        dlt (sjW σ14 19 x1.toNatClampNeg (σ14.2 15 7)) fun σ16 =>
        fSo_solve_L2 a1 a2 n3 (x1 + (1 : Int32)) σ16
def fSo_solve (a1 : Int32) (a2 : Int32) (σ : sT) : Option (sT) :=
  fSo_solve_L2 a1 a2 FU (0 : Int32) σ
def fRM_point (a1 : Int32) (a2 : Int32) (a3 : Int32) (σ : sT) : Option (Int64 × sT) :=
  db1 (fBk_covers a1 σ) fun r2 =>
  dlt (fun (_u : Unit) =>
    db2 (fRM_bad σ) fun r5 σ6 =>
    some (r5.toInt64, σ6)) fun J3 =>
  if r2 = 0 then
    J3 ()
  else
    db1 (fRM_isWithin a2 (0 : Int32) (2 : Int32)) fun r9 =>
    if r9 = 0 then
      J3 ()
    else
      db1 (fRM_isWithin a3 (0 : Int32) (1 : Int32)) fun r12 =>
      if r12 = 0 then
        J3 ()
      else
        db2 (fSo_isSatisfiable a1 σ) fun r15 σ16 =>
        if r15 = 0 then
          db2 (fRM_no σ16) fun r24 σ25 =>
          some (r24.toInt64, σ25)
        else
          db1 (fSo_solve a1 a2 σ16) fun σ19 =>
          if a3 = 0 then
            dck (okI a2 3) <|
            some (σ19.2 18 a2.toNatClampNeg, σ19)
          else
            dck (okI a2 3) <|
            some (σ19.2 19 a2.toNatClampNeg, σ19)
def fSo_coreOf_L5 : Nat → Int32 → Int32 → sT → Option (Int32 × sT)
  | 0, _, _, _ => none
  | n4 + 1, x1, x2, σ3 =>
    if x2 < 0 then
      some (x1, σ3)
    else
      dlt (x1 &&& (((1 : Int32) <<< (x2 &&& 31)) ^^^ (-1 : Int32))) fun x6 =>
      if x6 = x1 then
        fSo_coreOf_L5 n4 x1 (x2 + (-1 : Int32)) σ3
      else
        db2 (fSo_measure x6 (0 : Int32) σ3) fun r9 σ10 =>
        if r9 = 0 then
          fSo_coreOf_L5 n4 x6 (x2 + (-1 : Int32)) σ10
        else
          fSo_coreOf_L5 n4 x1 (x2 + (-1 : Int32)) σ10
def fSo_coreOf (a1 : Int32) (σ : sT) : Option (Int32 × sT) :=
  fSo_coreOf_L5 FU a1 (11 : Int32) σ
def fRM_core (a1 : Int32) (σ : sT) : Option (Int32 × sT) :=
  db1 (fBk_covers a1 σ) fun r2 =>
  if r2 = 0 then
    db2 (fRM_bad σ) fun r15 σ16 =>
    some (r15, σ16)
  else
    db2 (fSo_isSatisfiable a1 σ) fun r5 σ6 =>
    if r5 = 0 then
      db2 (fSo_coreOf a1 σ6) fun r9 σ10 =>
      some (r9, σ10)
    else
      db2 (fRM_no σ6) fun r12 σ13 =>
      some (r12, σ13)
def fWt_shorten_L32 (x3 : Int64) : Nat → Int32 → sT → Option (sT)
  | 0, _, _ => none
  | n7 + 1, x5, σ6 =>
    if (σ6.1 20 4) ≤ x5 then
      some σ6
    else
      if (lg_cmp x3 (1 : Int64)) ≤ 0 then
        some σ6
      else
        dck (okI x5 4) <|
        dck (okE x3) <|
        dck (okI x5 4) <|
        dlt (siW σ6 23 x5.toNatClampNeg ((((σ6.1 23 x5.toNatClampNeg).toInt64) / x3).toInt32)) fun σ13 =>
        fWt_shorten_L32 x3 n7 (x5 + (1 : Int32)) σ13
def fWt_shorten_L4 (σ : sT) (K4 : Int64 → Option (sT)) : Nat → Int64 → Int32 → Option (sT)
  | 0, _, _ => none
  | n14 + 1, x1, x2 =>
    if (σ.1 20 4) ≤ x2 then
      K4 x1
    else
      dck (okI x2 4) <|
      db1 (fRM_gcd x1 ((σ.1 23 x2.toNatClampNeg).toInt64)) fun r18 =>
      fWt_shorten_L4 σ K4 n14 r18 (x2 + (1 : Int32))
def fWt_shorten (σ : sT) : Option (sT) :=
  dlt (fun (x3 : Int64) =>
    fWt_shorten_L32 x3 FU (0 : Int32) σ) fun K4 =>
  fWt_shorten_L4 σ K4 FU (0 : Int64) (0 : Int32)
def fWt_turn_L90 (x7 : Int32) : Nat → Int32 → sT → Option (sT)
  | 0, _, _ => none
  | n11 + 1, x9, σ10 =>
    if (σ10.1 20 4) ≤ x9 then
      some σ10
    else
      if x7 = 0 then
        some σ10
      else
        dck (okI x9 4) <|
        dck (okI x9 4) <|
        dlt (siW σ10 23 x9.toNatClampNeg (-(σ10.1 23 x9.toNatClampNeg))) fun σ16 =>
        fWt_turn_L90 x7 n11 (x9 + (1 : Int32)) σ16
def fWt_turn_L6 (σ : sT) (K6 : Int32 → Int32 → Option (sT)) : Nat → Int32 → Int32 → Int32 → Option (sT)
  | 0, _, _, _ => none
  | n22 + 1, x1, x2, x3 =>
    if (σ.1 20 4) ≤ x3 then
      K6 x1 x2
    else
      dck (okI x3 4) <|
      db1 (fBk_get (σ.1 21 x3.toNatClampNeg) (3 : Int32) σ) fun r26 =>
      dlt (fun (x27 : Int32) =>
        dck (okI x3 4) <|
        dck (okI x3 4) <|
        db1 (fBk_get (σ.1 21 x3.toNatClampNeg) (4 : Int32) σ) fun r32 =>
        dlt (x2 + ((σ.1 23 x3.toNatClampNeg) * r32)) fun x33 =>
        fWt_turn_L6 σ K6 n22 x27 x33 (x3 + (1 : Int32))) fun J28 =>
      if r26 = (2 : Int32) then
        J28 x1
      else
        dck (okI x3 4) <|
        dlt (σ.1 23 x3.toNatClampNeg) fun x36 =>
        J28 x36
def fWt_turn (σ : sT) : Option (sT) :=
  dlt (fun (x4 : Int32) (x5 : Int32) =>
    dlt (fun (x7 : Int32) =>
      fWt_turn_L90 x7 FU (0 : Int32) σ) fun J8 =>
    dlt (fun (_u : Unit) =>
      J8 (1 : Int32)) fun J17 =>
    if x4 < 0 then
      J17 ()
    else
      dlt (fun (_u : Unit) =>
        J8 (0 : Int32)) fun J19 =>
      if x4 = 0 then
        if x5 ≤ 0 then
          J19 ()
        else
          J17 ()
      else
        J19 ()) fun K6 =>
  fWt_turn_L6 σ K6 FU (0 : Int32) (0 : Int32) (0 : Int32)
def fJI_bitCount (a1 : Int32) : Option (Int32) :=
  dlt (a1 - (((a1.toUInt32 >>> ((1 : Int32).toUInt32 &&& Int32.toUInt32 31)).toInt32) &&& (1431655765 : Int32))) fun x1 =>
  dlt ((x1 &&& (858993459 : Int32)) + (((x1.toUInt32 >>> ((2 : Int32).toUInt32 &&& Int32.toUInt32 31)).toInt32) &&& (858993459 : Int32))) fun x2 =>
  dlt ((x2 + ((x2.toUInt32 >>> ((4 : Int32).toUInt32 &&& Int32.toUInt32 31)).toInt32)) &&& (252645135 : Int32)) fun x3 =>
  dlt (x3 + ((x3.toUInt32 >>> ((8 : Int32).toUInt32 &&& Int32.toUInt32 31)).toInt32)) fun x4 =>
  dlt (x4 + ((x4.toUInt32 >>> ((16 : Int32).toUInt32 &&& Int32.toUInt32 31)).toInt32)) fun x5 =>
  some (x5 &&& (63 : Int32))
def fWt_determinant (a1 : Int32) (a2 : Int32) (a3 : Int32) (σ : sT) : Option (Int32) :=
  dlt (a1 * (3 : Int32)) fun x1 =>
  dlt (a2 * (3 : Int32)) fun x2 =>
  dlt (a3 * (3 : Int32)) fun x3 =>
  dck (okI x1 12) <|
  dck (okI (x2 + (1 : Int32)) 12) <|
  dck (okI (x3 + (2 : Int32)) 12) <|
  dck (okI (x2 + (2 : Int32)) 12) <|
  dck (okI (x3 + (1 : Int32)) 12) <|
  dck (okI (x1 + (1 : Int32)) 12) <|
  dck (okI x2 12) <|
  dck (okI (x3 + (2 : Int32)) 12) <|
  dck (okI (x2 + (2 : Int32)) 12) <|
  dck (okI x3 12) <|
  dck (okI (x1 + (2 : Int32)) 12) <|
  dck (okI x2 12) <|
  dck (okI (x3 + (1 : Int32)) 12) <|
  dck (okI (x2 + (1 : Int32)) 12) <|
  dck (okI x3 12) <|
  some ((((σ.1 22 x1.toNatClampNeg) * (((σ.1 22 (x2 + (1 : Int32)).toNatClampNeg) * (σ.1 22 (x3 + (2 : Int32)).toNatClampNeg)) - ((σ.1 22 (x2 + (2 : Int32)).toNatClampNeg) * (σ.1 22 (x3 + (1 : Int32)).toNatClampNeg)))) - ((σ.1 22 (x1 + (1 : Int32)).toNatClampNeg) * (((σ.1 22 x2.toNatClampNeg) * (σ.1 22 (x3 + (2 : Int32)).toNatClampNeg)) - ((σ.1 22 (x2 + (2 : Int32)).toNatClampNeg) * (σ.1 22 x3.toNatClampNeg))))) + ((σ.1 22 (x1 + (2 : Int32)).toNatClampNeg) * (((σ.1 22 x2.toNatClampNeg) * (σ.1 22 (x3 + (1 : Int32)).toNatClampNeg)) - ((σ.1 22 (x2 + (1 : Int32)).toNatClampNeg) * (σ.1 22 x3.toNatClampNeg)))))
def fWt_isSolvedWith_L76 : Nat → Int32 → Int32 → sT → Option (Int32 × sT)
  | 0, _, _, _ => none
  | n10 + 1, x7, x8, σ9 =>
    if (4 : Int32) ≤ x8 then
      dck (okZ x7) <|
      some (x7, σ9)
    else
      dlt (fun (x13 : Int32) =>
        dlt (fun (x15 : Int32) (x16 : Int32) =>
          dlt (fun (x18 : Int32) (x19 : Int32) (x20 : Int32) =>
            db1 (fWt_determinant x18 x19 x20 σ9) fun r23 =>
            dlt (fun (x24 : Int32) (x25 : Int32) =>
              dck (okI x24 4) <|
              dlt (siW σ9 23 x24.toNatClampNeg x25) fun σ28 =>
              if x7 = 0 then
                if r23 = 0 then
                  fWt_isSolvedWith_L76 n10 (0 : Int32) (x8 + (1 : Int32)) σ28
                else
                  fWt_isSolvedWith_L76 n10 (1 : Int32) (x8 + (1 : Int32)) σ28
              else
                fWt_isSolvedWith_L76 n10 (1 : Int32) (x8 + (1 : Int32)) σ28) fun J26 =>
            if (x8 - x8 / (2 : Int32) * (2 : Int32)) = 0 then
              J26 x8 r23
            else
              J26 x8 (-r23)) fun J21 =>
          if (2 : Int32) < x8 then
            J21 x15 x16 (2 : Int32)
          else
            J21 x15 x16 (3 : Int32)) fun J17 =>
        if (1 : Int32) < x8 then
          J17 x13 (1 : Int32)
        else
          J17 x13 (2 : Int32)) fun J14 =>
      if x8 = 0 then
        J14 (1 : Int32)
      else
        J14 (0 : Int32)
def fWt_isSolvedWith_L28 (x2 : Int32) (x3 : Int32) (K44 : sT → Option (Int32 × sT)) : Nat → Int32 → sT → Option (Int32 × sT)
  | 0, _, _ => none
  | n45 + 1, x41, σ42 =>
    if (3 : Int32) ≤ x41 then
      K44 σ42
    else
      dlt (fun (x47 : Int32) (x48 : Int32) =>
        dck (okI x47 12) <|
        dlt (siW σ42 22 x47.toNatClampNeg x48) fun σ51 =>
        fWt_isSolvedWith_L28 x2 x3 K44 n45 (x41 + (1 : Int32)) σ51) fun J49 =>
      if x41 = x3 then
        J49 ((x2 * (3 : Int32)) + x41) (1 : Int32)
      else
        J49 ((x2 * (3 : Int32)) + x41) (0 : Int32)
def fWt_isSolvedWith_L7 (a1 : Int32) (K6 : sT → Option (Int32 × sT)) : Nat → Int32 → Int32 → sT → Option (Int32 × sT)
  | 0, _, _, _ => none
  | n35 + 1, x2, x3, σ4 =>
    if (3 : Int32) ≤ x3 then
      K6 σ4
    else
      db1 (fRM_isIn a1 x3) fun r38 =>
      if r38 = 0 then
        fWt_isSolvedWith_L7 a1 K6 n35 x2 (x3 + (1 : Int32)) σ4
      else
        if (4 : Int32) ≤ x2 then
          fWt_isSolvedWith_L7 a1 K6 n35 x2 (x3 + (1 : Int32)) σ4
        else
          dlt (fun (σ43 : sT) =>
            fWt_isSolvedWith_L7 a1 K6 n35 (x2 + (1 : Int32)) (x3 + (1 : Int32)) σ43) fun K44 =>
          fWt_isSolvedWith_L28 x2 x3 K44 FU (0 : Int32) σ4
def fWt_isSolvedWith (a1 : Int32) (σ : sT) : Option (Int32 × sT) :=
  dlt (σ.1 20 4) fun x1 =>
  dlt (fun (σ5 : sT) =>
    fWt_isSolvedWith_L76 FU (0 : Int32) (0 : Int32) σ5) fun K6 =>
  fWt_isSolvedWith_L7 a1 K6 FU x1 (0 : Int32) σ
def fWt_find_L94 (K10 : sT → Option (sT)) : Nat → Int32 → Int32 → sT → Option (sT)
  | 0, _, _, _ => none
  | n15 + 1, x6, x7, σ8 =>
    if (8 : Int32) ≤ x7 then
      K10 σ8
    else
      if x6 = 0 then
        db1 (fJI_bitCount x7) fun r19 =>
        if r19 = ((4 : Int32) - (σ8.1 20 4)) then
          db2 (fWt_isSolvedWith x7 σ8) fun r22 σ23 =>
          if r22 = 0 then
            fWt_find_L94 K10 n15 (0 : Int32) (x7 + (1 : Int32)) σ23
          else
            fWt_find_L94 K10 n15 (1 : Int32) (x7 + (1 : Int32)) σ23
        else
          fWt_find_L94 K10 n15 (0 : Int32) (x7 + (1 : Int32)) σ8
      else
        K10 σ8
def fWt_find_L41 (x2 : Int32) (K36 : sT → Option (sT)) : Nat → Int32 → sT → Option (sT)
  | 0, _, _ => none
  | n38 + 1, x33, σ34 =>
    if (3 : Int32) ≤ x33 then
      K36 σ34
    else
      db1 (fBk_get x2 x33 σ34) fun r41 =>
      dck (okI (((σ34.1 20 4) * (3 : Int32)) + x33) 12) <|
      dlt (siW σ34 22 (((σ34.1 20 4) * (3 : Int32)) + x33).toNatClampNeg r41) fun σ43 =>
      fWt_find_L41 x2 K36 n38 (x33 + (1 : Int32)) σ43
def fWt_find_L7 (a1 : Int32) (K5 : sT → Option (sT)) : Nat → Int32 → sT → Option (sT)
  | 0, _, _ => none
  | n25 + 1, x2, σ3 =>
    if (12 : Int32) ≤ x2 then
      K5 σ3
    else
      db1 (fRM_isIn a1 x2) fun r28 =>
      if r28 = 0 then
        fWt_find_L7 a1 K5 n25 (x2 + (1 : Int32)) σ3
      else
        if (4 : Int32) ≤ (σ3.1 20 4) then
          fWt_find_L7 a1 K5 n25 (x2 + (1 : Int32)) σ3
        else
          dck (okI (σ3.1 20 4) 4) <|
          dlt (siW σ3 21 (σ3.1 20 4).toNatClampNeg x2) fun σ32 =>
          dlt (fun (σ35 : sT) =>
            dlt (siW σ35 20 4 ((σ35.1 20 4) + (1 : Int32))) fun σ37 =>
            fWt_find_L7 a1 K5 n25 (x2 + (1 : Int32)) σ37) fun K36 =>
          fWt_find_L41 x2 K36 FU (0 : Int32) σ32
def fWt_find (a1 : Int32) (σ : sT) : Option (sT) :=
  dlt (siW σ 20 4 (0 : Int32)) fun σ1 =>
  dlt (fun (σ4 : sT) =>
    dlt (fun (σ9 : sT) =>
      db1 (fWt_shorten σ9) fun σ12 =>
      db1 (fWt_turn σ12) fun σ14 =>
      some σ14) fun K10 =>
    fWt_find_L94 K10 FU (0 : Int32) (0 : Int32) σ4) fun K5 =>
  fWt_find_L7 a1 K5 FU (0 : Int32) σ1
def fWt_weightOf_L2 (a1 : Int32) (σ : sT) : Nat → Int32 → Option (Int32)
  | 0, _ => none
  | n2 + 1, x1 =>
    if (σ.1 20 4) ≤ x1 then
      some (0 : Int32)
    else
      dck (okI x1 4) <|
      if (σ.1 21 x1.toNatClampNeg) = a1 then
        dck (okI x1 4) <|
        some (σ.1 23 x1.toNatClampNeg)
      else
        fWt_weightOf_L2 a1 σ n2 (x1 + (1 : Int32))
def fWt_weightOf (a1 : Int32) (σ : sT) : Option (Int32) :=
  fWt_weightOf_L2 a1 σ FU (0 : Int32)
def fRM_times (a1 : Int32) (a2 : Int32) (σ : sT) : Option (Int32 × sT) :=
  db1 (fBk_covers a1 σ) fun r2 =>
  dlt (fun (_u : Unit) =>
    db2 (fRM_bad σ) fun r5 σ6 =>
    some (r5, σ6)) fun J3 =>
  if r2 = 0 then
    J3 ()
  else
    db1 (fBk_has a2 σ) fun r9 =>
    if r9 = 0 then
      J3 ()
    else
      db2 (fSo_isSatisfiable a1 σ) fun r12 σ13 =>
      if r12 = 0 then
        db2 (fSo_coreOf a1 σ13) fun r16 σ17 =>
        db1 (fWt_find r16 σ17) fun σ19 =>
        db1 (fWt_weightOf a2 σ19) fun r21 =>
        some (r21, σ19)
      else
        db2 (fRM_no σ13) fun r23 σ24 =>
        some (r23, σ24)
def fBk_every (σ : sT) : Option (Int32) :=
  some (((1 : Int32) <<< ((σ.1 1 3) &&& 31)) - (1 : Int32))
def fWt_interpolantSum_L4 (a1 : Int32) (σ : sT) : Nat → Int32 → Int32 → Option (Int32)
  | 0, _, _ => none
  | n3 + 1, x1, x2 =>
    if (σ.1 20 4) ≤ x2 then
      some x1
    else
      dck (okI x2 4) <|
      db1 (fBk_get (σ.1 21 x2.toNatClampNeg) (5 : Int32) σ) fun r7 =>
      if r7 = 0 then
        dck (okI x2 4) <|
        dck (okI x2 4) <|
        db1 (fBk_get (σ.1 21 x2.toNatClampNeg) a1 σ) fun r12 =>
        dlt (x1 + ((σ.1 23 x2.toNatClampNeg) * r12)) fun x13 =>
        fWt_interpolantSum_L4 a1 σ n3 x13 (x2 + (1 : Int32))
      else
        fWt_interpolantSum_L4 a1 σ n3 x1 (x2 + (1 : Int32))
def fWt_interpolantSum (a1 : Int32) (σ : sT) : Option (Int32) :=
  fWt_interpolantSum_L4 a1 σ FU (0 : Int32) (0 : Int32)
def fWt_interpolantKind_L4 (σ : sT) : Nat → Int32 → Int32 → Option (Int32)
  | 0, _, _ => none
  | n3 + 1, x1, x2 =>
    if (σ.1 20 4) ≤ x2 then
      some x1
    else
      dck (okI x2 4) <|
      db1 (fBk_get (σ.1 21 x2.toNatClampNeg) (5 : Int32) σ) fun r7 =>
      if r7 = 0 then
        dck (okI x2 4) <|
        db1 (fBk_get (σ.1 21 x2.toNatClampNeg) (3 : Int32) σ) fun r11 =>
        dlt (if r11 < x1 then r11 else x1) fun x12 =>
        fWt_interpolantKind_L4 σ n3 x12 (x2 + (1 : Int32))
      else
        fWt_interpolantKind_L4 σ n3 x1 (x2 + (1 : Int32))
def fWt_interpolantKind (σ : sT) : Option (Int32) :=
  fWt_interpolantKind_L4 σ FU (2 : Int32) (0 : Int32)
def fRM_between (a1 : Int32) (σ : sT) : Option (Int32 × sT) :=
  db1 (fRM_isWithin a1 (0 : Int32) (4 : Int32)) fun r2 =>
  if r2 = 0 then
    db2 (fRM_bad σ) fun r26 σ27 =>
    some (r26, σ27)
  else
    db1 (fBk_every σ) fun r5 =>
    db2 (fSo_isSatisfiable r5 σ) fun r7 σ8 =>
    if r7 = 0 then
      db1 (fBk_every σ8) fun r11 =>
      db2 (fSo_coreOf r11 σ8) fun r13 σ14 =>
      db1 (fWt_find r13 σ14) fun σ16 =>
      if a1 = (3 : Int32) then
        db1 (fWt_interpolantKind σ16) fun r21 =>
        some (r21, σ16)
      else
        db1 (fWt_interpolantSum a1 σ16) fun r19 =>
        some (r19, σ16)
    else
      db2 (fRM_no σ8) fun r23 σ24 =>
      some (r23, σ24)
def fSg_forget (σ : sT) : Option (sT) :=
  dlt (siW σ 24 3 (0 : Int32)) fun σ1 =>
  some σ1
def fSo_begin (σ : sT) : Option (sT) :=
  db1 (fRw_empty 6 7 8 52 13 σ) fun σ2 =>
  some σ2
def fSo_mark (σ : sT) : Option (Int32) :=
  some (σ.1 6 2)
def fSo_takesSign (a1 : Int32) (a2 : Int32) (σ : sT) : Option (Int32 × sT) :=
  dlt (fun (x1 : Int32) (x2 : Int32) =>
    dlt (fun (x4 : Int32) (x5 : Int32) (x6 : Int32) =>
      db1 (fSo_keep x4 x5 x6 σ) fun σ9 =>
      db2 (fSo_narrow (0 : Int32) σ9) fun r11 σ12 =>
      dck (okZ r11) <|
      some (r11, σ12)) fun J7 =>
    if a2 = 0 then
      J7 x1 x2 (2 : Int32)
    else
      J7 x1 x2 (0 : Int32)) fun J3 =>
  if a2 ≤ 0 then
    J3 a1 (1 : Int32)
  else
    J3 a1 (-1 : Int32)
def fSo_returnTo (a1 : Int32) (σ : sT) : Option (sT) :=
  dlt (siW σ 6 2 (if (0 : Int32) < (if (σ.1 6 2) < a1 then (σ.1 6 2) else a1) then (if (σ.1 6 2) < a1 then (σ.1 6 2) else a1) else (0 : Int32))) fun σ1 =>
  dlt (siW σ1 6 3 (0 : Int32)) fun σ2 =>
  some σ2
def fSg_isTrue (a1 : Int32) (a2 : Int32) (σ : sT) : Option (Int32) :=
  db1 (fBk_get a1 (3 : Int32) σ) fun r2 =>
  if r2 = 0 then
    if 0 ≤ a2 then
      some (0 : Int32)
    else
      some (1 : Int32)
  else
    if r2 = (1 : Int32) then
      if 0 < a2 then
        some (0 : Int32)
      else
        some (1 : Int32)
    else
      if a2 = 0 then
        some (1 : Int32)
      else
        some (0 : Int32)
def RDSG : Nat := 10
def fSg_count_B_L42 (recF : Nat → Int32 → Int32 → Int32 → sT → Option (Int32 × sT)) (a2 : Int32) (a3 : Int32) (a4 : Int32) (x4 : Int32) (r6 : Int32) : Nat → Int32 → Int32 → sT → Option (Int32 × sT)
  | 0, _, _, _ => none
  | n10 + 1, x7, x8, σ9 =>
    if (1 : Int32) < x8 then
      some (x7, σ9)
    else
      db2 (fSo_takesSign x4 x8 σ9) fun r13 σ14 =>
      dlt (fun (x15 : Int32) (σ16 : sT) =>
        db1 (fSo_returnTo r6 σ16) fun σ19 =>
        fSg_count_B_L42 recF a2 a3 a4 x4 r6 n10 x15 (x8 + (1 : Int32)) σ19) fun J17 =>
      if r13 = 0 then
        J17 x7 σ14
      else
        db1 (fSg_isTrue x4 x8 σ14) fun r22 =>
        dlt (fun (x23 : Int32) =>
          db2 (recF 0 (a2 + (1 : Int32)) (a3 ||| x23) a4 σ14) fun r26 σ27 =>
          dlt (x7 + r26) fun x28 =>
          J17 x28 σ27) fun J24 =>
        if r22 = 0 then
          J24 (0 : Int32)
        else
          J24 ((1 : Int32) <<< (a2 &&& 31))
def fSg_count_B (recF : Nat → Int32 → Int32 → Int32 → sT → Option (Int32 × sT)) (a2 : Int32) (a3 : Int32) (a4 : Int32) (σ : sT) : Option (Int32 × sT) :=
  if (σ.1 24 3) ≤ a2 then
    some (((a4.toUInt32 >>> (a3.toUInt32 &&& Int32.toUInt32 31)).toInt32) &&& (1 : Int32), σ)
  else
    if a2 < (5 : Int32) then
      dck (okI a2 5) <|
      dlt (σ.1 25 a2.toNatClampNeg) fun x4 =>
      db1 (fSo_mark σ) fun r6 =>
      fSg_count_B_L42 recF a2 a3 a4 x4 r6 FU (0 : Int32) (-1 : Int32) σ
    else
      some (((a4.toUInt32 >>> (a3.toUInt32 &&& Int32.toUInt32 31)).toInt32) &&& (1 : Int32), σ)
def fSg_rec : Nat → Nat → Int32 → Int32 → Int32 → sT → Option (Int32 × sT)
  | 0, _, _, _, _, _ => none
  | d + 1, t, a2, a3, a4, σ => fSg_count_B (fSg_rec d) a2 a3 a4 σ
def fSg_slotOf_L2 (a1 : Int32) (σ : sT) (K2 : Unit → Option (Int32 × sT)) : Nat → Int32 → Option (Int32 × sT)
  | 0, _ => none
  | n7 + 1, x1 =>
    if (σ.1 24 3) ≤ x1 then
      K2 ()
    else
      dck (okI x1 5) <|
      if (σ.1 25 x1.toNatClampNeg) = a1 then
        some (x1, σ)
      else
        fSg_slotOf_L2 a1 σ K2 n7 (x1 + (1 : Int32))
def fSg_slotOf (a1 : Int32) (σ : sT) : Option (Int32 × sT) :=
  dlt (fun (_u : Unit) =>
    if (σ.1 24 3) < (5 : Int32) then
      dck (okI (σ.1 24 3) 5) <|
      dlt (siW σ 25 (σ.1 24 3).toNatClampNeg a1) fun σ5 =>
      dlt (siW σ5 24 3 ((σ5.1 24 3) + (1 : Int32))) fun σ6 =>
      some ((σ6.1 24 3) - (1 : Int32), σ6)
    else
      some ((-1 : Int32), σ)) fun K2 =>
  fSg_slotOf_L2 a1 σ K2 FU (0 : Int32)
def fRM_sides_L33 (a1 : Int32) (K16 : sT → Option (Int32 × sT)) : Nat → Int32 → sT → Option (Int32 × sT)
  | 0, _, _ => none
  | n22 + 1, x13, σ14 =>
    if (12 : Int32) ≤ x13 then
      K16 σ14
    else
      db1 (fRM_isIn a1 x13) fun r25 =>
      if r25 = 0 then
        fRM_sides_L33 a1 K16 n22 (x13 + (1 : Int32)) σ14
      else
        db2 (fSg_slotOf x13 σ14) fun r28 σ29 =>
        fRM_sides_L33 a1 K16 n22 (x13 + (1 : Int32)) σ29
def fRM_sides (a1 : Int32) (σ : sT) : Option (Int32 × sT) :=
  db1 (fBk_covers a1 σ) fun r2 =>
  dlt (fun (_u : Unit) =>
    db2 (fRM_bad σ) fun r5 σ6 =>
    some (r5, σ6)) fun J3 =>
  if r2 = 0 then
    J3 ()
  else
    db1 (fJI_bitCount a1) fun r9 =>
    if r9 ≤ (5 : Int32) then
      db1 (fSg_forget σ) fun σ12 =>
      dlt (fun (σ15 : sT) =>
        db1 (fSo_begin σ15) fun σ18 =>
        db2 (fSg_rec RDSG 0 (0 : Int32) (0 : Int32) (-1 : Int32) σ18) fun r20 σ21 =>
        some (r20, σ21)) fun K16 =>
      fRM_sides_L33 a1 K16 FU (0 : Int32) σ12
    else
      J3 ()
def fSc_start (σ : sT) : Option (sT) :=
  dlt (siW σ 26 2 (0 : Int32)) fun σ1 =>
  dlt (siW σ1 26 3 (-1 : Int32)) fun σ2 =>
  some σ2
def fSc_hasFailed (σ : sT) : Option (Int32) :=
  if (σ.1 26 3) < 0 then
    some (0 : Int32)
  else
    some (1 : Int32)
def fSc_peek_L0 (K3 : sT → Option (Int32 × sT)) : Nat → sT → Option (Int32 × sT)
  | 0, _ => none
  | n7 + 1, σ1 =>
    if (σ1.1 26 1) ≤ (σ1.1 26 2) then
      K3 σ1
    else
      if (80 : Int32) ≤ (σ1.1 26 2) then
        K3 σ1
      else
        dck (okI (σ1.1 26 2) 80) <|
        if (σ1.1 27 (σ1.1 26 2).toNatClampNeg) = (32 : Int32) then
          dlt (siW σ1 26 2 ((σ1.1 26 2) + (1 : Int32))) fun σ12 =>
          fSc_peek_L0 K3 n7 σ12
        else
          K3 σ1
def fSc_peek (σ : sT) : Option (Int32 × sT) :=
  dlt (fun (σ2 : sT) =>
    if (σ2.1 26 1) ≤ (σ2.1 26 2) then
      some ((-1 : Int32), σ2)
    else
      if (80 : Int32) ≤ (σ2.1 26 2) then
        some ((-1 : Int32), σ2)
      else
        dck (okI (σ2.1 26 2) 80) <|
        some (σ2.1 27 (σ2.1 26 2).toNatClampNeg, σ2)) fun K3 =>
  fSc_peek_L0 K3 FU σ
def fSc_step (σ : sT) : Option (sT) :=
  dlt (siW σ 26 2 ((σ.1 26 2) + (1 : Int32))) fun σ1 =>
  some σ1
def fSc_failAt (a1 : Int32) (σ : sT) : Option (sT) :=
  if 0 ≤ (σ.1 26 3) then
    some σ
  else
    dlt (siW σ 26 3 a1) fun σ2 =>
    some σ2
def fSc_here (σ : sT) : Option (Int32) :=
  if (σ.1 26 1) ≤ (σ.1 26 2) then
    some (-1 : Int32)
  else
    if (80 : Int32) ≤ (σ.1 26 2) then
      some (-1 : Int32)
    else
      dck (okI (σ.1 26 2) 80) <|
      some (σ.1 27 (σ.1 26 2).toNatClampNeg)
def fSc_readNumber_L10 (K7 : Int32 → sT → Option (Int32 × sT)) : Nat → Int32 → Int32 → sT → Option (Int32 × sT)
  | 0, _, _, _ => none
  | n20 + 1, x2, x3, σ4 =>
    if (2 : Int32) ≤ x3 then
      K7 x2 σ4
    else
      db1 (fSc_here σ4) fun r23 =>
      db1 (fRM_isWithin r23 (48 : Int32) (57 : Int32)) fun r25 =>
      if r25 = 0 then
        K7 x2 σ4
      else
        db1 (fSc_here σ4) fun r28 =>
        dlt ((((10 : Int32) * x2) + r28) - (48 : Int32)) fun x29 =>
        db1 (fSc_step σ4) fun σ31 =>
        fSc_readNumber_L10 K7 n20 x29 (x3 + (1 : Int32)) σ31
def fSc_readNumber (a1 : Int32) (σ : sT) : Option (Int32 × sT) :=
  dlt (σ.1 26 2) fun x1 =>
  dlt (fun (x5 : Int32) (σ6 : sT) =>
    dlt (fun (_u : Unit) =>
      db1 (fSc_failAt (σ6.1 26 2) σ6) fun σ10 =>
      some (x5, σ10)) fun J8 =>
    if (σ6.1 26 2) = x1 then
      J8 ()
    else
      db1 (fSc_here σ6) fun r13 =>
      db1 (fRM_isWithin r13 (48 : Int32) (57 : Int32)) fun r15 =>
      if r15 = 0 then
        if x5 ≤ a1 then
          some (x5, σ6)
        else
          db1 (fSc_failAt x1 σ6) fun σ19 =>
          some (x5, σ19)
      else
        J8 ()) fun K7 =>
  fSc_readNumber_L10 K7 FU (0 : Int32) (0 : Int32) σ
def fFR_readConstraint (σ : sT) : Option (Int32 × sT) :=
  db2 (fSc_readNumber ((σ.1 1 3) - (1 : Int32)) σ) fun r2 σ3 =>
  db1 (fSc_hasFailed σ3) fun r5 =>
  if r5 = 0 then
    dlt (siW σ3 28 3 ((σ3.1 28 3) ||| ((1 : Int32) <<< (r2 &&& 31)))) fun σ7 =>
    db2 (fSg_slotOf r2 σ7) fun r9 σ10 =>
    if r9 < 0 then
      some ((0 : Int32), σ10)
    else
      if (5 : Int32) ≤ r9 then
        some ((0 : Int32), σ10)
      else
        dck (okI r9 5) <|
        some (colI r9.toNatClampNeg, σ10)
  else
    some ((0 : Int32), σ3)
def fSc_expect (a1 : Int32) (σ : sT) : Option (sT) :=
  db2 (fSc_peek σ) fun r2 σ3 =>
  if r2 = a1 then
    db1 (fSc_step σ3) fun σ8 =>
    some σ8
  else
    db1 (fSc_failAt (σ3.1 26 2) σ3) fun σ6 =>
    some σ6
def RDFR : Nat := 60
def fFR_readSum_B_L8 (recF : Nat → Int32 → sT → Option (Int32 × sT)) (a1 : Int32) : Nat → Int32 → Int32 → sT → Option (Int32 × sT)
  | 0, _, _, _ => none
  | n7 + 1, x4, x5, σ6 =>
    if (80 : Int32) ≤ x5 then
      some (x4, σ6)
    else
      db1 (fSc_hasFailed σ6) fun r10 =>
      if r10 = 0 then
        db2 (fSc_peek σ6) fun r13 σ14 =>
        if r13 = (124 : Int32) then
          db1 (fSc_step σ14) fun σ17 =>
          db2 (recF 1 a1 σ17) fun r19 σ20 =>
          dlt (x4 ||| r19) fun x21 =>
          fFR_readSum_B_L8 recF a1 n7 x21 (x5 + (1 : Int32)) σ20
        else
          some (x4, σ14)
      else
        some (x4, σ6)
def fFR_readSum_B (recF : Nat → Int32 → sT → Option (Int32 × sT)) (a1 : Int32) (σ : sT) : Option (Int32 × sT) :=
  db2 (recF 1 a1 σ) fun r2 σ3 =>
  fFR_readSum_B_L8 recF a1 FU r2 (0 : Int32) σ3
def fFR_readProduct_B_L8 (recF : Nat → Int32 → sT → Option (Int32 × sT)) (a1 : Int32) : Nat → Int32 → Int32 → sT → Option (Int32 × sT)
  | 0, _, _, _ => none
  | n7 + 1, x4, x5, σ6 =>
    if (80 : Int32) ≤ x5 then
      some (x4, σ6)
    else
      db1 (fSc_hasFailed σ6) fun r10 =>
      if r10 = 0 then
        db2 (fSc_peek σ6) fun r13 σ14 =>
        if r13 = (38 : Int32) then
          db1 (fSc_step σ14) fun σ17 =>
          db2 (recF 2 a1 σ17) fun r19 σ20 =>
          dlt (x4 &&& r19) fun x21 =>
          fFR_readProduct_B_L8 recF a1 n7 x21 (x5 + (1 : Int32)) σ20
        else
          some (x4, σ14)
      else
        some (x4, σ6)
def fFR_readProduct_B (recF : Nat → Int32 → sT → Option (Int32 × sT)) (a1 : Int32) (σ : sT) : Option (Int32 × sT) :=
  db2 (recF 2 a1 σ) fun r2 σ3 =>
  fFR_readProduct_B_L8 recF a1 FU r2 (0 : Int32) σ3
def fFR_readFactor_B_L4 (K6 : Int32 → sT → Option (Int32 × sT)) : Nat → Int32 → Int32 → sT → Option (Int32 × sT)
  | 0, _, _, _ => none
  | n21 + 1, x1, x2, σ3 =>
    if (80 : Int32) ≤ x2 then
      K6 x1 σ3
    else
      db2 (fSc_peek σ3) fun r24 σ25 =>
      if r24 = (33 : Int32) then
        db1 (fSc_step σ25) fun σ28 =>
        fFR_readFactor_B_L4 K6 n21 (x1 + (1 : Int32)) (x2 + (1 : Int32)) σ28
      else
        K6 x1 σ25
def fFR_readFactor_B (recF : Nat → Int32 → sT → Option (Int32 × sT)) (a1 : Int32) (σ : sT) : Option (Int32 × sT) :=
  dlt (fun (x4 : Int32) (σ5 : sT) =>
    db2 (fSc_peek σ5) fun r8 σ9 =>
    dlt (fun (x10 : Int32) (σ11 : sT) =>
      if (x4 - x4 / (2 : Int32) * (2 : Int32)) = 0 then
        some (x10, σ11)
      else
        some (x10 ^^^ (-1 : Int32), σ11)) fun J12 =>
    if r8 = (40 : Int32) then
      db2 (recF 3 a1 σ9) fun r19 σ20 =>
      J12 r19 σ20
    else
      db2 (fFR_readConstraint σ9) fun r16 σ17 =>
      J12 r16 σ17) fun K6 =>
  fFR_readFactor_B_L4 K6 FU (0 : Int32) (0 : Int32) σ
def fFR_readInner_B (recF : Nat → Int32 → sT → Option (Int32 × sT)) (a1 : Int32) (σ : sT) : Option (Int32 × sT) :=
  if a1 < (8 : Int32) then
    db1 (fSc_step σ) fun σ3 =>
    db2 (recF 0 (a1 + (1 : Int32)) σ3) fun r5 σ6 =>
    db1 (fSc_hasFailed σ6) fun r8 =>
    if r8 = 0 then
      db1 (fSc_expect (41 : Int32) σ6) fun σ11 =>
      some (r5, σ11)
    else
      some (r5, σ6)
  else
    db1 (fSc_failAt (σ.1 26 2) σ) fun σ13 =>
    some ((0 : Int32), σ13)
def fFR_rec : Nat → Nat → Int32 → sT → Option (Int32 × sT)
  | 0, _, _, _ => none
  | d + 1, t, a1, σ => if t = 0 then fFR_readSum_B (fFR_rec d) a1 σ else if t = 1 then fFR_readProduct_B (fFR_rec d) a1 σ else if t = 2 then fFR_readFactor_B (fFR_rec d) a1 σ else fFR_readInner_B (fFR_rec d) a1 σ
def fFR_read (σ : sT) : Option (Int32 × sT) :=
  db1 (fSc_start σ) fun σ2 =>
  db1 (fSg_forget σ2) fun σ4 =>
  dlt (siW σ4 28 3 (0 : Int32)) fun σ5 =>
  db2 (fFR_rec RDFR 0 (0 : Int32) σ5) fun r7 σ8 =>
  db2 (fSc_peek σ8) fun r10 σ11 =>
  if r10 = (-1 : Int32) then
    some (r7, σ11)
  else
    db1 (fSc_failAt (σ11.1 26 2) σ11) fun σ14 =>
    some (r7, σ14)
def fRM_formula (a1 : Int32) (σ : sT) : Option (Int32 × sT) :=
  db1 (fRM_isWithin a1 (0 : Int32) (2 : Int32)) fun r2 =>
  if r2 = 0 then
    db2 (fRM_bad σ) fun r28 σ29 =>
    some (r28, σ29)
  else
    db2 (fFR_read σ) fun r5 σ6 =>
    db1 (fSc_hasFailed σ6) fun r8 =>
    if r8 = 0 then
      db1 (fJI_bitCount (σ6.1 28 3)) fun r11 =>
      if r11 ≤ (5 : Int32) then
        if a1 = (2 : Int32) then
          some (σ6.1 28 3, σ6)
        else
          db1 (fSo_begin σ6) fun σ15 =>
          dlt (fun (x16 : Int32) (x17 : Int32) (x18 : Int32) =>
            db2 (fSg_rec RDSG 0 x16 x17 x18 σ15) fun r21 σ22 =>
            some (r21, σ22)) fun J19 =>
          if a1 = 0 then
            J19 (0 : Int32) (0 : Int32) r5
          else
            J19 (0 : Int32) (0 : Int32) (-1 : Int32)
      else
        db2 (fRM_no σ6) fun r25 σ26 =>
        some (r25, σ26)
    else
      some ((-10 : Int32) - (σ6.1 26 3), σ6)
def fSc_append (a1 : Int32) (σ : sT) : Option (sT) :=
  if (80 : Int32) ≤ (σ.1 26 1) then
    some σ
  else
    dck (okI (σ.1 26 1) 80) <|
    dlt (siW σ 27 (σ.1 26 1).toNatClampNeg (vp_nar .byte a1.toInt8.toInt32)) fun σ3 =>
    dlt (siW σ3 26 1 ((σ3.1 26 1) + (1 : Int32))) fun σ4 =>
    some σ4
def fRM_type (a1 : Int32) (σ : sT) : Option (Int32 × sT) :=
  db1 (fRM_isWithin a1 (0 : Int32) (127 : Int32)) fun r2 =>
  if r2 = 0 then
    db2 (fRM_bad σ) fun r11 σ12 =>
    some (r11, σ12)
  else
    if (σ.1 26 1) < (80 : Int32) then
      db1 (fSc_append a1 σ) fun σ6 =>
      some (σ6.1 26 1, σ6)
    else
      db2 (fRM_full σ) fun r8 σ9 =>
      some (r8, σ9)
def fRM_clear (σ : sT) : Option (Int32 × sT) :=
  dlt (σ.1 26 1) fun x1 =>
  dlt (siW σ 26 1 (0 : Int32)) fun σ2 =>
  some (x1, σ2)
def fOR_readRight (σ : sT) : Option (Int32 × sT) :=
  db2 (fSc_peek σ) fun r2 σ3 =>
  dlt (fun (x4 : Int32) =>
    dlt (fun (σ6 : sT) =>
      db2 (fSc_readNumber (50 : Int32) σ6) fun r9 σ10 =>
      if x4 = 0 then
        some (r9, σ10)
      else
        some (-r9, σ10)) fun J7 =>
    if x4 = 0 then
      J7 σ3
    else
      db1 (fSc_step σ3) fun σ14 =>
      db2 (fSc_peek σ14) fun r16 σ17 =>
      J7 σ17) fun J5 =>
  if r2 = (45 : Int32) then
    J5 (1 : Int32)
  else
    J5 (0 : Int32)
def fOR_readKind (σ : sT) : Option (Int32 × sT) :=
  db2 (fSc_peek σ) fun r2 σ3 =>
  dlt (fun (_u : Unit) =>
    db1 (fSc_step σ3) fun σ6 =>
    if r2 = (61 : Int32) then
      some ((2 : Int32), σ6)
    else
      db1 (fSc_here σ6) fun r9 =>
      if r9 = (61 : Int32) then
        db1 (fSc_step σ6) fun σ12 =>
        some ((1 : Int32), σ12)
      else
        some ((0 : Int32), σ6)) fun J4 =>
  if r2 = (60 : Int32) then
    J4 ()
  else
    if r2 = (61 : Int32) then
      J4 ()
    else
      db1 (fSc_failAt (σ3.1 26 2) σ3) fun σ16 =>
      some ((0 : Int32), σ16)
def fOR_readSign (a1 : Int32) (σ : sT) : Option (Int32 × sT) :=
  db2 (fSc_peek σ) fun r2 σ3 =>
  if r2 = (45 : Int32) then
    db1 (fSc_step σ3) fun σ12 =>
    some ((-1 : Int32), σ12)
  else
    dlt (fun (_u : Unit) =>
      if a1 = 0 then
        some ((0 : Int32), σ3)
      else
        some ((1 : Int32), σ3)) fun J5 =>
    if r2 = (43 : Int32) then
      if a1 = 0 then
        db1 (fSc_step σ3) fun σ10 =>
        some ((1 : Int32), σ10)
      else
        J5 ()
    else
      J5 ()
def fOR_readDigit (σ : sT) : Option (Int32 × sT) :=
  db2 (fSc_peek σ) fun r2 σ3 =>
  db1 (fRM_isWithin r2 (49 : Int32) (53 : Int32)) fun r5 =>
  if r5 = 0 then
    some ((1 : Int32), σ3)
  else
    db1 (fSc_step σ3) fun σ8 =>
    some (r2 - (48 : Int32), σ8)
def fOR_readTerms_L4 (a1 : Int32) (K5 : sT → Option (sT)) : Nat → Int32 → Int32 → sT → Option (sT)
  | 0, _, _, _ => none
  | n8 + 1, x1, x2, σ3 =>
    if (4 : Int32) ≤ x2 then
      some σ3
    else
      dlt (fun (x10 : Int32) =>
        db2 (fOR_readSign x10 σ3) fun r13 σ14 =>
        if r13 = 0 then
          some σ14
        else
          db2 (fOR_readDigit σ14) fun r17 σ18 =>
          db2 (fSc_peek σ18) fun r20 σ21 =>
          dlt (r20 - (120 : Int32)) fun x22 =>
          db1 (fRM_isWithin x22 (0 : Int32) (2 : Int32)) fun r24 =>
          if r24 = 0 then
            K5 σ21
          else
            db1 (fRM_isIn x1 x22) fun r27 =>
            if r27 = 0 then
              db1 (fSc_step σ21) fun σ30 =>
              dlt (x1 ||| ((1 : Int32) <<< (x22 &&& 31))) fun x31 =>
              dck (okI (a1 + x22) 78) <|
              dlt (siW σ30 30 (a1 + x22).toNatClampNeg (r13 * r17)) fun σ33 =>
              fOR_readTerms_L4 a1 K5 n8 x31 (x2 + (1 : Int32)) σ33
            else
              K5 σ21) fun J11 =>
      if x2 = 0 then
        J11 (1 : Int32)
      else
        J11 (0 : Int32)
def fOR_readTerms (a1 : Int32) (σ : sT) : Option (sT) :=
  dlt (fun (σ4 : sT) =>
    db1 (fSc_failAt (σ4.1 26 2) σ4) fun σ7 =>
    some σ7) fun K5 =>
  fOR_readTerms_L4 a1 K5 FU (0 : Int32) (0 : Int32) σ
def fOR_readOrder_L2 (a1 : Int32) (K4 : sT → Option (sT)) : Nat → Int32 → sT → Option (sT)
  | 0, _, _ => none
  | n40 + 1, x1, σ2 =>
    if (3 : Int32) ≤ x1 then
      K4 σ2
    else
      dck (okI (a1 + x1) 78) <|
      dlt (siW σ2 30 (a1 + x1).toNatClampNeg (0 : Int32)) fun σ43 =>
      fOR_readOrder_L2 a1 K4 n40 (x1 + (1 : Int32)) σ43
def fOR_readOrder (a1 : Int32) (σ : sT) : Option (sT) :=
  dlt (fun (σ3 : sT) =>
    db2 (fSc_peek σ3) fun r6 σ7 =>
    dlt (fun (σ8 : sT) =>
      db1 (fSc_hasFailed σ8) fun r11 =>
      dlt (fun (σ12 : sT) =>
        db1 (fSc_hasFailed σ12) fun r15 =>
        dlt (fun (σ16 : sT) =>
          db1 (fSc_hasFailed σ16) fun r19 =>
          if r19 = 0 then
            db1 (fSc_expect (59 : Int32) σ16) fun σ22 =>
            some σ22
          else
            some σ16) fun J17 =>
        if r15 = 0 then
          db2 (fOR_readRight σ12) fun r25 σ26 =>
          dck (okI (a1 + (4 : Int32)) 78) <|
          dlt (siW σ26 30 (a1 + (4 : Int32)).toNatClampNeg r25) fun σ28 =>
          J17 σ28
        else
          J17 σ12) fun J13 =>
      if r11 = 0 then
        db2 (fOR_readKind σ8) fun r31 σ32 =>
        dck (okI (a1 + (3 : Int32)) 78) <|
        dlt (siW σ32 30 (a1 + (3 : Int32)).toNatClampNeg r31) fun σ34 =>
        J13 σ34
      else
        J13 σ8) fun J9 =>
    if r6 = (48 : Int32) then
      db1 (fSc_step σ7) fun σ39 =>
      J9 σ39
    else
      db1 (fOR_readTerms a1 σ7) fun σ37 =>
      J9 σ37) fun K4 =>
  fOR_readOrder_L2 a1 K4 FU (0 : Int32) σ
def fOR_read_L9 : Nat → Int32 → sT → Option (Int32 × sT)
  | 0, _, _ => none
  | n5 + 1, x3, σ4 =>
    db1 (fOR_readOrder ((if (12 : Int32) < x3 then (12 : Int32) else x3) * (6 : Int32)) σ4) fun σ7 =>
    if (80 : Int32) ≤ (x3 + (1 : Int32)) then
      some (x3 + (1 : Int32), σ7)
    else
      db1 (fSc_hasFailed σ7) fun r10 =>
      if r10 = 0 then
        db2 (fSc_peek σ7) fun r13 σ14 =>
        if r13 = (-1 : Int32) then
          some (x3 + (1 : Int32), σ14)
        else
          fOR_read_L9 n5 (x3 + (1 : Int32)) σ14
      else
        some (x3 + (1 : Int32), σ7)
def fOR_read (σ : sT) : Option (Int32 × sT) :=
  db1 (fSc_start σ) fun σ2 =>
  fOR_read_L9 FU (0 : Int32) σ2
def fOR_get (a1 : Int32) (a2 : Int32) (σ : sT) : Option (Int32) :=
  db1 (fRM_isWithin a1 (0 : Int32) (12 : Int32)) fun r2 =>
  if r2 = 0 then
    some (0 : Int32)
  else
    db1 (fRM_isWithin a2 (0 : Int32) (5 : Int32)) fun r5 =>
    if r5 = 0 then
      some (0 : Int32)
    else
      dck (okI ((a1 * (6 : Int32)) + a2) 78) <|
      some (σ.1 30 ((a1 * (6 : Int32)) + a2).toNatClampNeg)
def fRM_reads_L57 (r2 : Int32) : Nat → Int32 → sT → Option (Int32 × sT)
  | 0, _, _ => none
  | n12 + 1, x10, σ11 =>
    if r2 ≤ x10 then
      some (r2, σ11)
    else
      db1 (fOR_get x10 (0 : Int32) σ11) fun r15 =>
      db1 (fOR_get x10 (1 : Int32) σ11) fun r17 =>
      db1 (fOR_get x10 (2 : Int32) σ11) fun r19 =>
      db1 (fOR_get x10 (3 : Int32) σ11) fun r21 =>
      db1 (fOR_get x10 (4 : Int32) σ11) fun r23 =>
      db1 (fBk_append r15 r17 r19 r21 r23 (0 : Int32) σ11) fun σ25 =>
      fRM_reads_L57 r2 n12 (x10 + (1 : Int32)) σ25
def fRM_reads (σ : sT) : Option (Int32 × sT) :=
  db2 (fOR_read σ) fun r2 σ3 =>
  db1 (fSc_hasFailed σ3) fun r5 =>
  if r5 = 0 then
    if r2 ≤ ((12 : Int32) - (σ3.1 1 3)) then
      db1 (fBk_remember σ3) fun σ9 =>
      fRM_reads_L57 r2 FU (0 : Int32) σ9
    else
      db2 (fRM_full σ3) fun r27 σ28 =>
      some (r27, σ28)
  else
    some ((-10 : Int32) - (σ3.1 26 3), σ3)
def fWr_put (a1 : Int32) (σ : sT) : Option (sT) :=
  if (14 : Int32) ≤ (σ.1 31 2) then
    some σ
  else
    dck (okI (σ.1 31 2) 14) <|
    dlt (siW σ 32 (σ.1 31 2).toNatClampNeg (vp_nar .byte a1.toInt8.toInt32)) fun σ3 =>
    dlt (siW σ3 31 2 ((σ3.1 31 2) + (1 : Int32))) fun σ4 =>
    some σ4
def fWr_writeKind (a1 : Int32) (σ : sT) : Option (sT) :=
  dlt (fun (σ1 : sT) =>
    if a1 = 0 then
      some σ1
    else
      db1 (fWr_put (61 : Int32) σ1) fun σ5 =>
      some σ5) fun J2 =>
  if a1 = (2 : Int32) then
    J2 σ
  else
    db1 (fWr_put (60 : Int32) σ) fun σ8 =>
    J2 σ8
def fWr_writeRight (a1 : Int32) (σ : sT) : Option (sT) :=
  dlt (if 0 ≤ a1 then a1 else 0 - a1) fun x1 =>
  dlt (fun (σ2 : sT) =>
    dlt (fun (σ4 : sT) =>
      db1 (fWr_put ((48 : Int32) + (x1 - x1 / (10 : Int32) * (10 : Int32))) σ4) fun σ7 =>
      some σ7) fun J5 =>
    if x1 < (10 : Int32) then
      J5 σ2
    else
      db1 (fWr_put ((48 : Int32) + (x1 / (10 : Int32))) σ2) fun σ10 =>
      J5 σ10) fun J3 =>
  if 0 ≤ a1 then
    J3 σ
  else
    db1 (fWr_put (45 : Int32) σ) fun σ13 =>
    J3 σ13
def fWr_writeTerm (a1 : Int32) (a2 : Int32) (σ : sT) : Option (sT) :=
  if a1 = 0 then
    some σ
  else
    dlt (fun (σ2 : sT) =>
      dlt (fun (σ4 : sT) =>
        db1 (fWr_put a2 σ4) fun σ7 =>
        some σ7) fun J5 =>
      if (if 0 ≤ a1 then a1 else 0 - a1) ≤ (1 : Int32) then
        J5 σ2
      else
        db1 (fWr_put ((48 : Int32) + (if 0 ≤ a1 then a1 else 0 - a1)) σ2) fun σ10 =>
        J5 σ10) fun J3 =>
    if 0 ≤ a1 then
      if (σ.1 31 2) ≤ 0 then
        J3 σ
      else
        db1 (fWr_put (43 : Int32) σ) fun σ14 =>
        J3 σ14
    else
      db1 (fWr_put (45 : Int32) σ) fun σ16 =>
      J3 σ16
def fWr_write_L7 (a1 : Int32) (K5 : sT → Option (sT)) : Nat → Int32 → sT → Option (sT)
  | 0, _, _ => none
  | n19 + 1, x2, σ3 =>
    if (3 : Int32) ≤ x2 then
      K5 σ3
    else
      db1 (fBk_get a1 x2 σ3) fun r22 =>
      db1 (fWr_writeTerm r22 ((120 : Int32) + x2) σ3) fun σ24 =>
      fWr_write_L7 a1 K5 n19 (x2 + (1 : Int32)) σ24
def fWr_write (a1 : Int32) (σ : sT) : Option (sT) :=
  dlt (siW σ 31 2 (0 : Int32)) fun σ1 =>
  dlt (fun (σ4 : sT) =>
    dlt (fun (σ6 : sT) =>
      db1 (fBk_get a1 (3 : Int32) σ6) fun r9 =>
      db1 (fWr_writeKind r9 σ6) fun σ11 =>
      db1 (fBk_get a1 (4 : Int32) σ11) fun r13 =>
      db1 (fWr_writeRight r13 σ11) fun σ15 =>
      some σ15) fun J7 =>
    if (σ4.1 31 2) = 0 then
      db1 (fWr_put (48 : Int32) σ4) fun σ18 =>
      J7 σ18
    else
      J7 σ4) fun K5 =>
  fWr_write_L7 a1 K5 FU (0 : Int32) σ1
def fWr_byteAt (a1 : Int32) (σ : sT) : Option (Int32) :=
  if a1 < 0 then
    some (-1000001 : Int32)
  else
    if (σ.1 31 2) ≤ a1 then
      some (-1000001 : Int32)
    else
      if (14 : Int32) ≤ a1 then
        some (-1000001 : Int32)
      else
        dck (okI a1 14) <|
        some (σ.1 32 a1.toNatClampNeg)
def fRM_shown (a1 : Int32) (a2 : Int32) (σ : sT) : Option (Int32 × sT) :=
  db1 (fBk_has a1 σ) fun r2 =>
  dlt (fun (_u : Unit) =>
    db2 (fRM_bad σ) fun r5 σ6 =>
    some (r5, σ6)) fun J3 =>
  if r2 = 0 then
    J3 ()
  else
    if 0 ≤ a2 then
      db1 (fWr_write a1 σ) fun σ10 =>
      db1 (fWr_byteAt a2 σ10) fun r12 =>
      some (r12, σ10)
    else
      J3 ()
def fBk_restore (σ : sT) : Option (sT) :=
  if 0 < (σ.1 1 5) then
    dlt (siW σ 1 4 ((((σ.1 1 4) + (6 : Int32)) - (1 : Int32)) - (((σ.1 1 4) + (6 : Int32)) - (1 : Int32)) / (6 : Int32) * (6 : Int32))) fun σ2 =>
    dck (okC ((σ2.1 1 4) * (72 : Int32)) (0 : Int32) (72 : Int32) 432 72) <|
    dlt (saW σ2 2 (va_cpy (σ2.1 3) (σ2.1 2) ((σ2.1 1 4) * (72 : Int32)).toNatClampNeg (0 : Int32).toNatClampNeg (72 : Int32).toNatClampNeg)) fun σ4 =>
    dck (okI (σ4.1 1 4) 6) <|
    dlt (siW σ4 1 3 (σ4.1 4 (σ4.1 1 4).toNatClampNeg)) fun σ6 =>
    dlt (siW σ6 1 5 ((σ6.1 1 5) - (1 : Int32))) fun σ7 =>
    some σ7
  else
    some σ
def fRM_back (σ : sT) : Option (Int32 × sT) :=
  if 0 < (σ.1 1 5) then
    db1 (fBk_restore σ) fun σ3 =>
    some (σ3.1 1 5, σ3)
  else
    db2 (fRM_no σ) fun r5 σ6 =>
    some (r5, σ6)
def fRM_countOf (a1 : Int32) (σ : sT) : Option (Int32) :=
  if a1 = (0 : Int32) then
    some (σ.1 0 8)
  else
    if a1 = (1 : Int32) then
      some (σ.1 0 9)
    else
      if a1 = (2 : Int32) then
        some (σ.1 0 10)
      else
        if a1 = (3 : Int32) then
          some (σ.1 26 1)
        else
          if a1 = (4 : Int32) then
            some (σ.1 1 3)
          else
            some (σ.1 1 5)
def fRM_told (a1 : Int32) (σ : sT) : Option (Int32 × sT) :=
  db1 (fRM_isWithin a1 (0 : Int32) (5 : Int32)) fun r2 =>
  if r2 = 0 then
    db2 (fRM_bad σ) fun r7 σ8 =>
    some (r7, σ8)
  else
    db1 (fRM_countOf a1 σ) fun r5 =>
    some (r5, σ)
def fRM_digestWeights_L5 (σ : sT) : Nat → Int64 → Int32 → Option (Int64)
  | 0, _, _ => none
  | n3 + 1, x1, x2 =>
    if (σ.1 1 3) ≤ x2 then
      some x1
    else
      db1 (fWt_weightOf x2 σ) fun r6 =>
      dlt (((31 : Int64) * x1) + r6.toInt64) fun x7 =>
      fRM_digestWeights_L5 σ n3 x7 (x2 + (1 : Int32))
def fRM_digestWeights (a1 : Int64) (σ : sT) : Option (Int64) :=
  fRM_digestWeights_L5 σ FU a1 (0 : Int32)
def fRM_digestSolution_L5 (σ : sT) : Nat → Int64 → Int32 → Option (Int64)
  | 0, _, _ => none
  | n3 + 1, x1, x2 =>
    if (3 : Int32) ≤ x2 then
      some x1
    else
      dck (okI x2 3) <|
      dlt (((31 : Int64) * x1) + (σ.2 18 x2.toNatClampNeg)) fun x6 =>
      dck (okI x2 3) <|
      dlt (((31 : Int64) * x6) + (σ.2 19 x2.toNatClampNeg)) fun x8 =>
      fRM_digestSolution_L5 σ n3 x8 (x2 + (1 : Int32))
def fRM_digestSolution (a1 : Int64) (σ : sT) : Option (Int64) :=
  fRM_digestSolution_L5 σ FU a1 (0 : Int32)
def fRM_digest_L46 (σ : sT) (x6 : Int32) (K37 : Int64 → Option (Int64 × sT)) : Nat → Int64 → Int32 → Option (Int64 × sT)
  | 0, _, _ => none
  | n38 + 1, x34, x35 =>
    if (6 : Int32) ≤ x35 then
      K37 x34
    else
      db1 (fBk_get x6 x35 σ) fun r41 =>
      dlt (((31 : Int64) * x34) + r41.toInt64) fun x42 =>
      fRM_digest_L46 σ x6 K37 n38 x42 (x35 + (1 : Int32))
def fRM_digest_L32 (σ : sT) (K8 : Int64 → Option (Int64 × sT)) : Nat → Int64 → Int32 → Option (Int64 × sT)
  | 0, _, _ => none
  | n32 + 1, x5, x6 =>
    if (σ.1 1 3) ≤ x6 then
      K8 x5
    else
      dlt (fun (x36 : Int64) =>
        fRM_digest_L32 σ K8 n32 x36 (x6 + (1 : Int32))) fun K37 =>
      fRM_digest_L46 σ x6 K37 FU x5 (0 : Int32)
def fRM_digest_L6 (σ : sT) (K4 : Int64 → Option (Int64 × sT)) : Nat → Int64 → Int32 → Option (Int64 × sT)
  | 0, _, _ => none
  | n43 + 1, x1, x2 =>
    if (5 : Int32) < x2 then
      K4 x1
    else
      db1 (fRM_countOf x2 σ) fun r46 =>
      dlt (((31 : Int64) * x1) + r46.toInt64) fun x47 =>
      fRM_digest_L6 σ K4 n43 x47 (x2 + (1 : Int32))
def fRM_digest (σ : sT) : Option (Int64 × sT) :=
  dlt (fun (x3 : Int64) =>
    dlt (fun (x7 : Int64) =>
      db1 (fBk_every σ) fun r10 =>
      db2 (fSo_isSatisfiable r10 σ) fun r12 σ13 =>
      if r12 = 0 then
        db2 (fSo_coreOf r10 σ13) fun r16 σ17 =>
        db1 (fWt_find r16 σ17) fun σ19 =>
        dlt ((31 : Int64) * x7) fun x20 =>
        db1 (fRM_digestWeights (((31 : Int64) * x20) + r16.toInt64) σ19) fun r22 =>
        some (r22, σ19)
      else
        dlt (((31 : Int64) * x7) + (1 : Int64)) fun x23 =>
        db2 (fSo_dimensionOf r10 σ13) fun r25 σ26 =>
        dlt (((31 : Int64) * x23) + r25.toInt64) fun x27 =>
        db1 (fSo_solve r10 (2 : Int32) σ26) fun σ29 =>
        db1 (fRM_digestSolution x27 σ29) fun r31 =>
        some (r31, σ29)) fun K8 =>
    fRM_digest_L32 σ K8 FU x3 (0 : Int32)) fun K4 =>
  fRM_digest_L6 σ K4 FU (2341 : Int64) (0 : Int32)
def fMM_in (a1 : Int64) (a2 : Int64) (a3 : Int64) : Option (Int32) :=
  if (lg_cmp a1 a2) < 0 then
    some (0 : Int32)
  else
    if 0 < (lg_cmp a1 a3) then
      some (0 : Int32)
    else
      some (1 : Int32)
def fMM_isNumber (a1 : Int32) : Option (Int32) :=
  db1 (fMM_in a1.toInt64 (-5 : Int64) (5 : Int64)) fun r2 =>
  dck (okZ r2) <|
  some r2
def fMM_refuses (a1 : Int32) (σ : sT) : Option (Int32 × sT) :=
  dck (okI ((-1000002 : Int32) - a1) 3) <|
  dck (okI ((-1000002 : Int32) - a1) 3) <|
  dlt (siW σ 36 ((-1000002 : Int32) - a1).toNatClampNeg ((σ.1 36 ((-1000002 : Int32) - a1).toNatClampNeg) + (1 : Int32))) fun σ3 =>
  some (a1, σ3)
def fMM_keep_L51 (K6 : sT → Option (sT)) : Nat → Int32 → sT → Option (sT)
  | 0, _, _ => none
  | n8 + 1, x3, σ4 =>
    if (73 : Int32) ≤ x3 then
      K6 σ4
    else
      dck (okI x3 73) <|
      dck (okI (((73 : Int32) * (σ4.1 33 2)) + x3) 438) <|
      dlt (siW σ4 35 (((73 : Int32) * (σ4.1 33 2)) + x3).toNatClampNeg (σ4.1 34 x3.toNatClampNeg)) fun σ12 =>
      fMM_keep_L51 K6 n8 (x3 + (1 : Int32)) σ12
def fMM_keep_L11 (K17 : sT → Option (sT)) : Nat → Int32 → sT → Option (sT)
  | 0, _, _ => none
  | n19 + 1, x14, σ15 =>
    if (365 : Int32) ≤ x14 then
      K17 σ15
    else
      dck (okI (x14 + (73 : Int32)) 438) <|
      dck (okI x14 438) <|
      dlt (siW σ15 35 x14.toNatClampNeg (σ15.1 35 (x14 + (73 : Int32)).toNatClampNeg)) fun σ23 =>
      fMM_keep_L11 K17 n19 (x14 + (1 : Int32)) σ23
def fMM_keep (σ : sT) : Option (sT) :=
  dlt (fun (σ1 : sT) =>
    dlt (fun (σ5 : sT) =>
      dlt (siW σ5 33 2 ((σ5.1 33 2) + (1 : Int32))) fun σ7 =>
      some σ7) fun K6 =>
    fMM_keep_L51 K6 FU (0 : Int32) σ1) fun J2 =>
  if (σ.1 33 2) = (6 : Int32) then
    dlt (fun (σ16 : sT) =>
      dlt (siW σ16 33 2 ((σ16.1 33 2) - (1 : Int32))) fun σ18 =>
      J2 σ18) fun K17 =>
    fMM_keep_L11 K17 FU (0 : Int32) σ
  else
    J2 σ
def fMM_rowNow (a1 : Int32) (a2 : Int32) (a3 : Int32) (a4 : Int32) (a5 : Int32) (a6 : Int32) (σ : sT) : Option (Int32 × sT) :=
  dck (okI (0 : Int32) 73) <|
  dlt ((1 : Int32) + ((6 : Int32) * (σ.1 34 (0 : Int32).toNatClampNeg))) fun x2 =>
  dck (okI x2 73) <|
  dlt (siW σ 34 x2.toNatClampNeg a1) fun σ4 =>
  dck (okI (x2 + (1 : Int32)) 73) <|
  dlt (siW σ4 34 (x2 + (1 : Int32)).toNatClampNeg a2) fun σ6 =>
  dck (okI (x2 + (2 : Int32)) 73) <|
  dlt (siW σ6 34 (x2 + (2 : Int32)).toNatClampNeg a3) fun σ8 =>
  dck (okI (x2 + (3 : Int32)) 73) <|
  dlt (siW σ8 34 (x2 + (3 : Int32)).toNatClampNeg a4) fun σ10 =>
  dck (okI (x2 + (4 : Int32)) 73) <|
  dlt (siW σ10 34 (x2 + (4 : Int32)).toNatClampNeg a5) fun σ12 =>
  dck (okI (x2 + (5 : Int32)) 73) <|
  dlt (siW σ12 34 (x2 + (5 : Int32)).toNatClampNeg a6) fun σ14 =>
  dck (okI (0 : Int32) 73) <|
  dck (okI (0 : Int32) 73) <|
  dlt (siW σ14 34 (0 : Int32).toNatClampNeg ((σ14.1 34 (0 : Int32).toNatClampNeg) + (1 : Int32))) fun σ17 =>
  dck (okI (0 : Int32) 73) <|
  some ((σ17.1 34 (0 : Int32).toNatClampNeg) - (1 : Int32), σ17)
def fMM_row (a1 : Int32) (a2 : Int32) (a3 : Int32) (a4 : Int32) (a5 : Int32) (a6 : Int32) (σ : sT) : Option (Int32 × sT) :=
  db1 (fMM_isNumber a1) fun r2 =>
  dlt (fun (_u : Unit) =>
    db2 (fMM_refuses (-1000002 : Int32) σ) fun r5 σ6 =>
    some (r5, σ6)) fun J3 =>
  if r2 = 0 then
    J3 ()
  else
    db1 (fMM_isNumber a2) fun r9 =>
    if r9 = 0 then
      J3 ()
    else
      db1 (fMM_isNumber a3) fun r12 =>
      if r12 = 0 then
        J3 ()
      else
        db1 (fMM_in a4.toInt64 (0 : Int64) (2 : Int64)) fun r15 =>
        if r15 = 0 then
          J3 ()
        else
          db1 (fMM_in a5.toInt64 (-50 : Int64) (50 : Int64)) fun r18 =>
          if r18 = 0 then
            J3 ()
          else
            db1 (fMM_in a6.toInt64 (0 : Int64) (1 : Int64)) fun r21 =>
            if r21 = 0 then
              J3 ()
            else
              dck (okI (0 : Int32) 73) <|
              if (σ.1 34 (0 : Int32).toNatClampNeg) = (12 : Int32) then
                db2 (fMM_refuses (-1000004 : Int32) σ) fun r31 σ32 =>
                some (r31, σ32)
              else
                db1 (fMM_keep σ) fun σ26 =>
                db2 (fMM_rowNow a1 a2 a3 a4 a5 a6 σ26) fun r28 σ29 =>
                some (r28, σ29)
def fMM_isRow (a1 : Int32) (σ : sT) : Option (Int32) :=
  dck (okI (0 : Int32) 73) <|
  db1 (fMM_in a1.toInt64 (0 : Int64) (((σ.1 34 (0 : Int32).toNatClampNeg) - (1 : Int32)).toInt64)) fun r3 =>
  dck (okZ r3) <|
  some r3
def fMM_drops_L36 : Nat → Int32 → sT → Option (Int32 × sT)
  | 0, _, _ => none
  | n12 + 1, x10, σ11 =>
    dck (okI (0 : Int32) 73) <|
    if ((1 : Int32) + ((6 : Int32) * (σ11.1 34 (0 : Int32).toNatClampNeg))) ≤ x10 then
      dck (okI (0 : Int32) 73) <|
      some (σ11.1 34 (0 : Int32).toNatClampNeg, σ11)
    else
      dck (okI (x10 + (6 : Int32)) 73) <|
      dck (okI x10 73) <|
      dlt (siW σ11 34 x10.toNatClampNeg (σ11.1 34 (x10 + (6 : Int32)).toNatClampNeg)) fun σ18 =>
      fMM_drops_L36 n12 (x10 + (1 : Int32)) σ18
def fMM_drops (a1 : Int32) (σ : sT) : Option (Int32 × sT) :=
  db1 (fMM_isRow a1 σ) fun r2 =>
  if r2 = 0 then
    db2 (fMM_refuses (-1000002 : Int32) σ) fun r20 σ21 =>
    some (r20, σ21)
  else
    db1 (fMM_keep σ) fun σ5 =>
    dck (okI (0 : Int32) 73) <|
    dck (okI (0 : Int32) 73) <|
    dlt (siW σ5 34 (0 : Int32).toNatClampNeg ((σ5.1 34 (0 : Int32).toNatClampNeg) - (1 : Int32))) fun σ8 =>
    dlt ((1 : Int32) + ((6 : Int32) * a1)) fun x9 =>
    fMM_drops_L36 FU x9 σ8
def fMM_at (a1 : Int32) (a2 : Int32) (σ : sT) : Option (Int32) :=
  dck (okI (((1 : Int32) + ((6 : Int32) * a1)) + a2) 73) <|
  some (σ.1 34 (((1 : Int32) + ((6 : Int32) * a1)) + a2).toNatClampNeg)
def fMM_sets (a1 : Int32) (a2 : Int32) (a3 : Int32) (σ : sT) : Option (Int32 × sT) :=
  dlt (fun (x1 : Int32) =>
    db1 (fMM_isRow a1 σ) fun r4 =>
    dlt (fun (_u : Unit) =>
      db2 (fMM_refuses (-1000002 : Int32) σ) fun r7 σ8 =>
      some (r7, σ8)) fun J5 =>
    if r4 = 0 then
      J5 ()
    else
      db1 (fMM_in a2.toInt64 (0 : Int64) (2 : Int64)) fun r11 =>
      if r11 = 0 then
        J5 ()
      else
        if x1 = 0 then
          J5 ()
        else
          db1 (fMM_keep σ) fun σ15 =>
          db1 (fMM_at a1 ((3 : Int32) + a2) σ15) fun r17 =>
          dck (okI ((((1 : Int32) + ((6 : Int32) * a1)) + (3 : Int32)) + a2) 73) <|
          dlt (siW σ15 34 ((((1 : Int32) + ((6 : Int32) * a1)) + (3 : Int32)) + a2).toNatClampNeg a3) fun σ19 =>
          some (r17, σ19)) fun J2 =>
  if a2 = 0 then
    db1 (fMM_in a3.toInt64 (0 : Int64) (2 : Int64)) fun r27 =>
    J2 r27
  else
    if a2 = (1 : Int32) then
      db1 (fMM_in a3.toInt64 (-50 : Int64) (50 : Int64)) fun r25 =>
      J2 r25
    else
      db1 (fMM_in a3.toInt64 (0 : Int64) (1 : Int64)) fun r23 =>
      J2 r23
def fMM_of (a1 : Int32) (a2 : Int32) (σ : sT) : Option (Int32 × sT) :=
  db1 (fMM_isRow a1 σ) fun r2 =>
  dlt (fun (_u : Unit) =>
    db2 (fMM_refuses (-1000002 : Int32) σ) fun r5 σ6 =>
    some (r5, σ6)) fun J3 =>
  if r2 = 0 then
    J3 ()
  else
    db1 (fMM_in a2.toInt64 (0 : Int64) (5 : Int64)) fun r9 =>
    if r9 = 0 then
      J3 ()
    else
      db1 (fMM_at a1 a2 σ) fun r12 =>
      some (r12, σ)
def fMM_every (σ : sT) : Option (Int32) :=
  dck (okI (0 : Int32) 73) <|
  some (((1 : Int32) <<< ((σ.1 34 (0 : Int32).toNatClampNeg) &&& 31)) - (1 : Int32))
def fMM_isSet (a1 : Int32) (σ : sT) : Option (Int32) :=
  db1 (fMM_every σ) fun r2 =>
  db1 (fMM_in a1.toInt64 (0 : Int64) r2.toInt64) fun r4 =>
  dck (okZ r4) <|
  some r4
def fMM_has (a1 : Int32) (a2 : Int32) : Option (Int32) :=
  if ((a1 >>> (a2 &&& 31)) &&& (1 : Int32)) = (1 : Int32) then
    some (1 : Int32)
  else
    some (0 : Int32)
def fMM_lays (a1 : Int64) (a2 : Int64) (a3 : Int64) (a4 : Int64) (a5 : Int32) (σ : sT) : Option (sT) :=
  dlt ((5 : Int32) * (σ.1 33 5)) fun x1 =>
  dck (okI x1 130) <|
  dlt (sjW σ 37 x1.toNatClampNeg a1) fun σ3 =>
  dck (okI (x1 + (1 : Int32)) 130) <|
  dlt (sjW σ3 37 (x1 + (1 : Int32)).toNatClampNeg a2) fun σ5 =>
  dck (okI (x1 + (2 : Int32)) 130) <|
  dlt (sjW σ5 37 (x1 + (2 : Int32)).toNatClampNeg a3) fun σ7 =>
  dck (okI (x1 + (3 : Int32)) 130) <|
  dlt (sjW σ7 37 (x1 + (3 : Int32)).toNatClampNeg a4) fun σ9 =>
  dlt (fun (x10 : Int32) (x11 : Int64) =>
    dck (okI x10 130) <|
    dlt (sjW σ9 37 x10.toNatClampNeg x11) fun σ14 =>
    dlt (siW σ14 33 5 ((σ14.1 33 5) + (1 : Int32))) fun σ15 =>
    some σ15) fun J12 =>
  if a5 = 0 then
    J12 (x1 + (4 : Int32)) (0 : Int64)
  else
    J12 (x1 + (4 : Int32)) (1 : Int64)
def fMM_laysSum (a1 : Int64) (a2 : Int64) (a3 : Int64) (a4 : Int64) (a5 : Int32) (σ : sT) : Option (sT) :=
  dlt (fun (x1 : Int64) (x2 : Int64) (x3 : Int64) (x4 : Int64) (x5 : Int32) =>
    db1 (fMM_lays x1 x2 x3 x4 x5 σ) fun σ8 =>
    if a5 = (2 : Int32) then
      db1 (fMM_lays (-a1) (-a2) (-a3) (-a4) (0 : Int32) σ8) fun σ11 =>
      some σ11
    else
      some σ8) fun J6 =>
  if a5 = 0 then
    J6 a1 a2 a3 a4 (1 : Int32)
  else
    J6 a1 a2 a3 a4 (0 : Int32)
def fMM_laysRow (a1 : Int32) (a2 : Int32) (σ : sT) : Option (sT) :=
  db1 (fMM_at a1 (0 : Int32) σ) fun r2 =>
  db1 (fMM_at a1 (1 : Int32) σ) fun r4 =>
  db1 (fMM_at a1 (2 : Int32) σ) fun r6 =>
  db1 (fMM_at a1 (4 : Int32) σ) fun r8 =>
  db1 (fMM_laysSum r2.toInt64 r4.toInt64 r6.toInt64 r8.toInt64 a2 σ) fun σ10 =>
  some σ10
def fMM_laysSet_L7 (a1 : Int32) : Nat → Int32 → sT → Option (sT)
  | 0, _, _ => none
  | n4 + 1, x2, σ3 =>
    dck (okI (0 : Int32) 73) <|
    if (σ3.1 34 (0 : Int32).toNatClampNeg) ≤ x2 then
      some σ3
    else
      db1 (fMM_has a1 x2) fun r8 =>
      if r8 = 0 then
        fMM_laysSet_L7 a1 n4 (x2 + (1 : Int32)) σ3
      else
        db1 (fMM_at x2 (3 : Int32) σ3) fun r11 =>
        db1 (fMM_laysRow x2 r11 σ3) fun σ13 =>
        fMM_laysSet_L7 a1 n4 (x2 + (1 : Int32)) σ13
def fMM_laysSet (a1 : Int32) (σ : sT) : Option (sT) :=
  dlt (siW σ 33 5 (0 : Int32)) fun σ1 =>
  fMM_laysSet_L7 a1 FU (0 : Int32) σ1
def fMM_stages (a1 : Int64) (a2 : Int64) (a3 : Int64) (a4 : Int32) (σ : sT) : Option (sT) :=
  dlt ((4 : Int32) * (σ.1 33 7)) fun x1 =>
  dck (okI x1 800) <|
  dlt (sjW σ 38 x1.toNatClampNeg a1) fun σ3 =>
  dck (okI (x1 + (1 : Int32)) 800) <|
  dlt (sjW σ3 38 (x1 + (1 : Int32)).toNatClampNeg a2) fun σ5 =>
  dck (okI (x1 + (2 : Int32)) 800) <|
  dlt (sjW σ5 38 (x1 + (2 : Int32)).toNatClampNeg a3) fun σ7 =>
  dlt (fun (x8 : Int32) (x9 : Int64) =>
    dck (okI x8 800) <|
    dlt (sjW σ7 38 x8.toNatClampNeg x9) fun σ12 =>
    dlt (siW σ12 33 7 ((σ12.1 33 7) + (1 : Int32))) fun σ13 =>
    some σ13) fun J10 =>
  if a4 = 0 then
    J10 (x1 + (3 : Int32)) (0 : Int64)
  else
    J10 (x1 + (3 : Int32)) (1 : Int64)
def fMM_loses_L90 (a1 : Int32) (a2 : Int32) (a3 : Int32) (x6 : Int32) (K13 : sT → Option (sT)) : Nat → Int32 → sT → Option (sT)
  | 0, _, _ => none
  | n14 + 1, x10, σ11 =>
    if (σ11.1 33 5) ≤ x10 then
      K13 σ11
    else
      dck (okI (x6 + a3) 130) <|
      if (lg_cmp (σ11.2 37 (x6 + a3).toNatClampNeg) (0 : Int64)) ≤ 0 then
        K13 σ11
      else
        dlt ((5 : Int32) * x10) fun x18 =>
        dck (okI (x18 + a3) 130) <|
        if 0 ≤ (lg_cmp (σ11.2 37 (x18 + a3).toNatClampNeg) (0 : Int64)) then
          fMM_loses_L90 a1 a2 a3 x6 K13 n14 (x10 + (1 : Int32)) σ11
        else
          dck (okI (x18 + a3) 130) <|
          dlt (-(σ11.2 37 (x18 + a3).toNatClampNeg)) fun x22 =>
          dck (okI (x6 + a3) 130) <|
          dlt (σ11.2 37 (x6 + a3).toNatClampNeg) fun x24 =>
          dck (okI (x6 + a1) 130) <|
          dck (okI (x18 + a1) 130) <|
          dck (okI (x6 + a2) 130) <|
          dck (okI (x18 + a2) 130) <|
          dck (okI (x6 + (3 : Int32)) 130) <|
          dck (okI (x18 + (3 : Int32)) 130) <|
          dck (okI (x6 + (4 : Int32)) 130) <|
          dck (okI (x18 + (4 : Int32)) 130) <|
          dlt (fun (x33 : Int64) (x34 : Int64) (x35 : Int64) (x36 : Int32) =>
            db1 (fMM_stages x33 x34 x35 x36 σ11) fun σ39 =>
            fMM_loses_L90 a1 a2 a3 x6 K13 n14 (x10 + (1 : Int32)) σ39) fun J37 =>
          if (lg_cmp ((σ11.2 37 (x6 + (4 : Int32)).toNatClampNeg) + (σ11.2 37 (x18 + (4 : Int32)).toNatClampNeg)) (0 : Int64)) ≤ 0 then
            J37 ((x22 * (σ11.2 37 (x6 + a1).toNatClampNeg)) + (x24 * (σ11.2 37 (x18 + a1).toNatClampNeg))) ((x22 * (σ11.2 37 (x6 + a2).toNatClampNeg)) + (x24 * (σ11.2 37 (x18 + a2).toNatClampNeg))) ((x22 * (σ11.2 37 (x6 + (3 : Int32)).toNatClampNeg)) + (x24 * (σ11.2 37 (x18 + (3 : Int32)).toNatClampNeg))) (0 : Int32)
          else
            J37 ((x22 * (σ11.2 37 (x6 + a1).toNatClampNeg)) + (x24 * (σ11.2 37 (x18 + a1).toNatClampNeg))) ((x22 * (σ11.2 37 (x6 + a2).toNatClampNeg)) + (x24 * (σ11.2 37 (x18 + a2).toNatClampNeg))) ((x22 * (σ11.2 37 (x6 + (3 : Int32)).toNatClampNeg)) + (x24 * (σ11.2 37 (x18 + (3 : Int32)).toNatClampNeg))) (1 : Int32)
def fMM_loses_L8 (a1 : Int32) (a2 : Int32) (a3 : Int32) : Nat → Int32 → sT → Option (sT)
  | 0, _, _ => none
  | n4 + 1, x2, σ3 =>
    if (σ3.1 33 5) ≤ x2 then
      some σ3
    else
      dlt ((5 : Int32) * x2) fun x6 =>
      dck (okI (x6 + a3) 130) <|
      dlt (fun (σ8 : sT) =>
        dlt (fun (σ12 : sT) =>
          fMM_loses_L8 a1 a2 a3 n4 (x2 + (1 : Int32)) σ12) fun K13 =>
        fMM_loses_L90 a1 a2 a3 x6 K13 FU (0 : Int32) σ8) fun J9 =>
      if (lg_cmp (σ3.2 37 (x6 + a3).toNatClampNeg) (0 : Int64)) = 0 then
        dck (okI (x6 + a1) 130) <|
        dck (okI (x6 + a2) 130) <|
        dck (okI (x6 + (3 : Int32)) 130) <|
        dck (okI (x6 + (4 : Int32)) 130) <|
        dlt (fun (x46 : Int64) (x47 : Int64) (x48 : Int64) (x49 : Int32) =>
          db1 (fMM_stages x46 x47 x48 x49 σ3) fun σ52 =>
          J9 σ52) fun J50 =>
        if (lg_cmp (σ3.2 37 (x6 + (4 : Int32)).toNatClampNeg) (1 : Int64)) = 0 then
          J50 (σ3.2 37 (x6 + a1).toNatClampNeg) (σ3.2 37 (x6 + a2).toNatClampNeg) (σ3.2 37 (x6 + (3 : Int32)).toNatClampNeg) (1 : Int32)
        else
          J50 (σ3.2 37 (x6 + a1).toNatClampNeg) (σ3.2 37 (x6 + a2).toNatClampNeg) (σ3.2 37 (x6 + (3 : Int32)).toNatClampNeg) (0 : Int32)
      else
        J9 σ3
def fMM_loses (a1 : Int32) (a2 : Int32) (a3 : Int32) (σ : sT) : Option (sT) :=
  dlt (siW σ 33 7 (0 : Int32)) fun σ1 =>
  fMM_loses_L8 a1 a2 a3 FU (0 : Int32) σ1
def fMM_takes (a1 : Int64) (a2 : Int64) (a3 : Int32) (σ : sT) : Option (sT) :=
  if (lg_cmp a1 (0 : Int64)) = 0 then
    dlt (fun (x43 : Int32) =>
      dck (okZ x43) <|
      dlt (siW σ 33 8 x43) fun σ46 =>
      some σ46) fun J44 =>
    dlt (fun (_u : Unit) =>
      J44 (0 : Int32)) fun J47 =>
    if (σ.1 33 8) = 0 then
      J47 ()
    else
      dlt (fun (_u : Unit) =>
        J44 (1 : Int32)) fun J49 =>
      if 0 < (lg_cmp a2 (0 : Int64)) then
        J49 ()
      else
        if (lg_cmp a2 (0 : Int64)) = 0 then
          if a3 = 0 then
            J49 ()
          else
            J47 ()
        else
          J47 ()
  else
    if (lg_cmp a1 (0 : Int64)) ≤ 0 then
      dlt (fun (x3 : Int64) =>
        dlt (fun (x5 : Int32) =>
          dck (okZ x5) <|
          dlt (siW σ 33 11 x5) fun σ8 =>
          dlt (fun (x9 : Int64) =>
            dlt (sjW σ8 33 9 x9) fun σ11 =>
            dlt (fun (x12 : Int64) =>
              dlt (sjW σ11 33 10 x12) fun σ14 =>
              some σ14) fun J13 =>
            if (lg_cmp x3 (0 : Int64)) ≤ 0 then
              J13 (σ11.2 33 10)
            else
              J13 (-a1)) fun J10 =>
          if (lg_cmp x3 (0 : Int64)) ≤ 0 then
            J10 (σ8.2 33 9)
          else
            J10 (-a2)) fun J6 =>
        if (lg_cmp x3 (0 : Int64)) ≤ 0 then
          if (lg_cmp x3 (0 : Int64)) = 0 then
            dlt (fun (_u : Unit) =>
              J6 (1 : Int32)) fun J19 =>
            if (σ.1 33 11) = 0 then
              if a3 = 0 then
                J6 (0 : Int32)
              else
                J19 ()
            else
              J19 ()
          else
            J6 (σ.1 33 11)
        else
          J6 a3) fun J4 =>
      if (lg_cmp (σ.2 33 10) (0 : Int64)) = 0 then
        J4 (1 : Int64)
      else
        J4 (((-a2) * (σ.2 33 10)) + ((σ.2 33 9) * a1))
    else
      dlt (fun (x23 : Int64) =>
        dlt (fun (x25 : Int32) =>
          dck (okZ x25) <|
          dlt (siW σ 33 14 x25) fun σ28 =>
          dlt (fun (x29 : Int64) =>
            dlt (sjW σ28 33 12 x29) fun σ31 =>
            dlt (fun (x32 : Int64) =>
              dlt (sjW σ31 33 13 x32) fun σ34 =>
              some σ34) fun J33 =>
            if 0 ≤ (lg_cmp x23 (0 : Int64)) then
              J33 (σ31.2 33 13)
            else
              J33 a1) fun J30 =>
          if 0 ≤ (lg_cmp x23 (0 : Int64)) then
            J30 (σ28.2 33 12)
          else
            J30 a2) fun J26 =>
        if 0 ≤ (lg_cmp x23 (0 : Int64)) then
          if (lg_cmp x23 (0 : Int64)) = 0 then
            dlt (fun (_u : Unit) =>
              J26 (1 : Int32)) fun J39 =>
            if (σ.1 33 14) = 0 then
              if a3 = 0 then
                J26 (0 : Int32)
              else
                J39 ()
            else
              J39 ()
          else
            J26 (σ.1 33 14)
        else
          J26 a3) fun J24 =>
      if (lg_cmp (σ.2 33 13) (0 : Int64)) = 0 then
        J24 (-1 : Int64)
      else
        J24 ((a2 * (σ.2 33 13)) - ((σ.2 33 12) * a1))
def fMM_solves_L106 (x28 : Int32) (K35 : sT → Option (sT)) : Nat → Int32 → sT → Option (sT)
  | 0, _, _ => none
  | n36 + 1, x32, σ33 =>
    if (σ33.1 33 7) ≤ x32 then
      K35 σ33
    else
      dck (okI (x28 + (1 : Int32)) 800) <|
      if (lg_cmp (σ33.2 38 (x28 + (1 : Int32)).toNatClampNeg) (0 : Int64)) ≤ 0 then
        K35 σ33
      else
        dlt ((4 : Int32) * x32) fun x40 =>
        dck (okI (x40 + (1 : Int32)) 800) <|
        if 0 ≤ (lg_cmp (σ33.2 38 (x40 + (1 : Int32)).toNatClampNeg) (0 : Int64)) then
          fMM_solves_L106 x28 K35 n36 (x32 + (1 : Int32)) σ33
        else
          dck (okI (x40 + (1 : Int32)) 800) <|
          dlt (-(σ33.2 38 (x40 + (1 : Int32)).toNatClampNeg)) fun x44 =>
          dck (okI (x28 + (1 : Int32)) 800) <|
          dlt (σ33.2 38 (x28 + (1 : Int32)).toNatClampNeg) fun x46 =>
          dck (okI x28 800) <|
          dck (okI x40 800) <|
          dck (okI (x28 + (2 : Int32)) 800) <|
          dck (okI (x40 + (2 : Int32)) 800) <|
          dck (okI (x28 + (3 : Int32)) 800) <|
          dck (okI (x40 + (3 : Int32)) 800) <|
          dlt (fun (x53 : Int64) (x54 : Int64) (x55 : Int32) =>
            db1 (fMM_takes x53 x54 x55 σ33) fun σ58 =>
            fMM_solves_L106 x28 K35 n36 (x32 + (1 : Int32)) σ58) fun J56 =>
          if (lg_cmp ((σ33.2 38 (x28 + (3 : Int32)).toNatClampNeg) + (σ33.2 38 (x40 + (3 : Int32)).toNatClampNeg)) (0 : Int64)) ≤ 0 then
            J56 ((x44 * (σ33.2 38 x28.toNatClampNeg)) + (x46 * (σ33.2 38 x40.toNatClampNeg))) ((x44 * (σ33.2 38 (x28 + (2 : Int32)).toNatClampNeg)) + (x46 * (σ33.2 38 (x40 + (2 : Int32)).toNatClampNeg))) (0 : Int32)
          else
            J56 ((x44 * (σ33.2 38 x28.toNatClampNeg)) + (x46 * (σ33.2 38 x40.toNatClampNeg))) ((x44 * (σ33.2 38 (x28 + (2 : Int32)).toNatClampNeg)) + (x46 * (σ33.2 38 (x40 + (2 : Int32)).toNatClampNeg))) (1 : Int32)
def fMM_solves_L42 (K11 : sT → Option (sT)) : Nat → Int32 → sT → Option (sT)
  | 0, _, _ => none
  | n26 + 1, x8, σ9 =>
    if (σ9.1 33 7) ≤ x8 then
      K11 σ9
    else
      dlt ((4 : Int32) * x8) fun x28 =>
      dck (okI (x28 + (1 : Int32)) 800) <|
      dlt (fun (σ30 : sT) =>
        dlt (fun (σ34 : sT) =>
          fMM_solves_L42 K11 n26 (x8 + (1 : Int32)) σ34) fun K35 =>
        fMM_solves_L106 x28 K35 FU (0 : Int32) σ30) fun J31 =>
      if (lg_cmp (σ9.2 38 (x28 + (1 : Int32)).toNatClampNeg) (0 : Int64)) = 0 then
        dck (okI x28 800) <|
        dck (okI (x28 + (2 : Int32)) 800) <|
        dck (okI (x28 + (3 : Int32)) 800) <|
        dlt (fun (x64 : Int64) (x65 : Int64) (x66 : Int32) =>
          db1 (fMM_takes x64 x65 x66 σ9) fun σ69 =>
          J31 σ69) fun J67 =>
        if (lg_cmp (σ9.2 38 (x28 + (3 : Int32)).toNatClampNeg) (1 : Int64)) = 0 then
          J67 (σ9.2 38 x28.toNatClampNeg) (σ9.2 38 (x28 + (2 : Int32)).toNatClampNeg) (1 : Int32)
        else
          J67 (σ9.2 38 x28.toNatClampNeg) (σ9.2 38 (x28 + (2 : Int32)).toNatClampNeg) (0 : Int32)
      else
        J31 σ9
def fMM_solves (a1 : Int32) (σ : sT) : Option (sT) :=
  dlt (siW σ 33 8 (1 : Int32)) fun σ1 =>
  dlt (sjW σ1 33 10 (0 : Int64)) fun σ2 =>
  dlt (sjW σ2 33 13 (0 : Int64)) fun σ3 =>
  dlt (siW σ3 33 11 (0 : Int32)) fun σ4 =>
  dlt (siW σ4 33 14 (0 : Int32)) fun σ5 =>
  db1 (fMM_loses a1 ((a1 + (1 : Int32)) - (a1 + (1 : Int32)) / (3 : Int32) * (3 : Int32)) ((a1 + (2 : Int32)) - (a1 + (2 : Int32)) / (3 : Int32) * (3 : Int32)) σ5) fun σ7 =>
  dlt (fun (σ10 : sT) =>
    if (lg_cmp (σ10.2 33 10) (0 : Int64)) ≤ 0 then
      some σ10
    else
      if (lg_cmp (σ10.2 33 13) (0 : Int64)) ≤ 0 then
        some σ10
      else
        dlt (((σ10.2 33 12) * (σ10.2 33 10)) - ((σ10.2 33 9) * (σ10.2 33 13))) fun x14 =>
        dlt (fun (x15 : Int32) =>
          dck (okZ x15) <|
          dlt (siW σ10 33 8 x15) fun σ18 =>
          some σ18) fun J16 =>
        dlt (fun (_u : Unit) =>
          J16 (0 : Int32)) fun J19 =>
        if (σ10.1 33 8) = 0 then
          J19 ()
        else
          dlt (fun (_u : Unit) =>
            J16 (1 : Int32)) fun J21 =>
          if 0 < (lg_cmp x14 (0 : Int64)) then
            J21 ()
          else
            if (lg_cmp x14 (0 : Int64)) = 0 then
              if (σ10.1 33 11) = 0 then
                if (σ10.1 33 14) = 0 then
                  J21 ()
                else
                  J19 ()
              else
                J19 ()
            else
              J19 ()) fun K11 =>
  fMM_solves_L42 K11 FU (0 : Int32) σ7
def fMM_canLaid (σ : sT) : Option (Int32 × sT) :=
  db1 (fMM_solves (0 : Int32) σ) fun σ2 =>
  dck (okZ (σ2.1 33 8)) <|
  some (σ2.1 33 8, σ2)
def fMM_canSet (a1 : Int32) (σ : sT) : Option (Int32 × sT) :=
  db1 (fMM_laysSet a1 σ) fun σ2 =>
  db2 (fMM_canLaid σ2) fun r4 σ5 =>
  dck (okZ r4) <|
  some (r4, σ5)
def fMM_can (a1 : Int32) (σ : sT) : Option (Int32 × sT) :=
  db1 (fMM_isSet a1 σ) fun r2 =>
  if r2 = 0 then
    db2 (fMM_refuses (-1000002 : Int32) σ) fun r5 σ6 =>
    some (r5, σ6)
  else
    db2 (fMM_canSet a1 σ) fun r8 σ9 =>
    if r8 = 0 then
      some ((0 : Int32), σ9)
    else
      some ((1 : Int32), σ9)
def fMM_fixed_L4 (a1 : Int32) : Nat → Int32 → Int32 → sT → Option (Int32 × sT)
  | 0, _, _, _ => none
  | n4 + 1, x1, x2, σ3 =>
    dck (okI (0 : Int32) 73) <|
    if (σ3.1 34 (0 : Int32).toNatClampNeg) ≤ x2 then
      some (x1, σ3)
    else
      db1 (fMM_has a1 x2) fun r8 =>
      if r8 = 0 then
        fMM_fixed_L4 a1 n4 x1 (x2 + (1 : Int32)) σ3
      else
        db1 (fMM_at x2 (3 : Int32) σ3) fun r11 =>
        if r11 = 0 then
          fMM_fixed_L4 a1 n4 x1 (x2 + (1 : Int32)) σ3
        else
          db1 (fMM_laysSet a1 σ3) fun σ14 =>
          db1 (fMM_laysRow x2 (0 : Int32) σ14) fun σ16 =>
          db1 (fMM_at x2 (3 : Int32) σ16) fun r18 =>
          dlt (fun (x19 : Int32) (σ20 : sT) =>
            dlt (x19 ||| ((1 : Int32) <<< (x2 &&& 31))) fun x22 =>
            fMM_fixed_L4 a1 n4 x22 (x2 + (1 : Int32)) σ20) fun J21 =>
          if r18 = (2 : Int32) then
            J21 x1 σ16
          else
            db2 (fMM_canLaid σ16) fun r25 σ26 =>
            if r25 = 0 then
              J21 x1 σ26
            else
              dlt (x1 ||| (0 : Int32)) fun x28 =>
              fMM_fixed_L4 a1 n4 x28 (x2 + (1 : Int32)) σ26
def fMM_fixed (a1 : Int32) (σ : sT) : Option (Int32 × sT) :=
  fMM_fixed_L4 a1 FU (0 : Int32) (0 : Int32) σ
def fMM_rankWith_L154 (a1 : Int32) (σ : sT) (x2 : Int32) (x13 : Int32) (x22 : Int32) (x31 : Int32) (x34 : Int32) (K41 : Int32 → Option (Int32)) : Nat → Int32 → Int32 → Option (Int32)
  | 0, _, _ => none
  | n42 + 1, x38, x39 =>
    if x2 ≤ x39 then
      K41 x38
    else
      if x34 = 0 then
        K41 x38
      else
        db1 (fMM_has a1 x39) fun r46 =>
        dlt (fun (x47 : Int32) =>
          if x47 = 0 then
            fMM_rankWith_L154 a1 σ x2 x13 x22 x31 x34 K41 n42 x38 (x39 + (1 : Int32))
          else
            fMM_rankWith_L154 a1 σ x2 x13 x22 x31 x34 K41 n42 (3 : Int32) (x39 + (1 : Int32))) fun J48 =>
        dlt (fun (_u : Unit) =>
          J48 (0 : Int32)) fun J50 =>
        if r46 = 0 then
          J50 ()
        else
          db1 (fMM_at x39 (0 : Int32) σ) fun r53 =>
          db1 (fMM_at x39 (1 : Int32) σ) fun r55 =>
          db1 (fMM_at x39 (2 : Int32) σ) fun r57 =>
          if (((x13 * r53) + (x22 * r55)) + (x31 * r57)) = 0 then
            J50 ()
          else
            J48 (1 : Int32)
def fMM_rankWith_L5 (a1 : Int32) (a2 : Int32) (σ : sT) : Nat → Int32 → Int32 → Option (Int32)
  | 0, _, _ => none
  | n3 + 1, x1, x2 =>
    if a2 ≤ x2 then
      some x1
    else
      db1 (fMM_at a2 (1 : Int32) σ) fun r6 =>
      db1 (fMM_at x2 (2 : Int32) σ) fun r8 =>
      db1 (fMM_at a2 (2 : Int32) σ) fun r10 =>
      db1 (fMM_at x2 (1 : Int32) σ) fun r12 =>
      dlt ((r6 * r8) - (r10 * r12)) fun x13 =>
      db1 (fMM_at a2 (2 : Int32) σ) fun r15 =>
      db1 (fMM_at x2 (0 : Int32) σ) fun r17 =>
      db1 (fMM_at a2 (0 : Int32) σ) fun r19 =>
      db1 (fMM_at x2 (2 : Int32) σ) fun r21 =>
      dlt ((r15 * r17) - (r19 * r21)) fun x22 =>
      db1 (fMM_at a2 (0 : Int32) σ) fun r24 =>
      db1 (fMM_at x2 (1 : Int32) σ) fun r26 =>
      db1 (fMM_at a2 (1 : Int32) σ) fun r28 =>
      db1 (fMM_at x2 (0 : Int32) σ) fun r30 =>
      dlt ((r24 * r26) - (r28 * r30)) fun x31 =>
      db1 (fMM_has a1 x2) fun r33 =>
      dlt (fun (x34 : Int32) =>
        dlt (fun (x36 : Int32) =>
          dlt (fun (x40 : Int32) =>
            fMM_rankWith_L5 a1 a2 σ n3 x40 (x2 + (1 : Int32))) fun K41 =>
          fMM_rankWith_L154 a1 σ x2 x13 x22 x31 x34 K41 FU x36 (0 : Int32)) fun J37 =>
        dlt (fun (_u : Unit) =>
          J37 x1) fun J59 =>
        if x34 = 0 then
          J59 ()
        else
          if (2 : Int32) ≤ x1 then
            J59 ()
          else
            J37 (2 : Int32)) fun J35 =>
      dlt (fun (_u : Unit) =>
        J35 (0 : Int32)) fun J62 =>
      if r33 = 0 then
        J62 ()
      else
        dlt (fun (_u : Unit) =>
          J35 (1 : Int32)) fun J64 =>
        if x13 = 0 then
          if x22 = 0 then
            if x31 = 0 then
              J62 ()
            else
              J64 ()
          else
            J64 ()
        else
          J64 ()
def fMM_rankWith (a1 : Int32) (a2 : Int32) (σ : sT) : Option (Int32) :=
  fMM_rankWith_L5 a1 a2 σ FU (1 : Int32) (0 : Int32)
def fMM_rank_L4 (a1 : Int32) (σ : sT) : Nat → Int32 → Int32 → Option (Int32)
  | 0, _, _ => none
  | n3 + 1, x1, x2 =>
    dck (okI (0 : Int32) 73) <|
    if (σ.1 34 (0 : Int32).toNatClampNeg) ≤ x2 then
      some x1
    else
      db1 (fMM_at x2 (0 : Int32) σ) fun r7 =>
      dlt (fun (x8 : Int32) =>
        db1 (fMM_has a1 x2) fun r11 =>
        if r11 = 0 then
          fMM_rank_L4 a1 σ n3 x1 (x2 + (1 : Int32))
        else
          if x8 = 0 then
            fMM_rank_L4 a1 σ n3 x1 (x2 + (1 : Int32))
          else
            dlt (fun (x14 : Int32) =>
              db1 (fMM_rankWith a1 x2 σ) fun r17 =>
              if r17 ≤ x14 then
                fMM_rank_L4 a1 σ n3 x14 (x2 + (1 : Int32))
              else
                fMM_rank_L4 a1 σ n3 r17 (x2 + (1 : Int32))) fun J15 =>
            if (1 : Int32) ≤ x1 then
              J15 x1
            else
              J15 (1 : Int32)) fun J9 =>
      dlt (fun (_u : Unit) =>
        J9 (1 : Int32)) fun J20 =>
      if r7 = 0 then
        db1 (fMM_at x2 (1 : Int32) σ) fun r23 =>
        if r23 = 0 then
          db1 (fMM_at x2 (2 : Int32) σ) fun r26 =>
          if r26 = 0 then
            J9 (0 : Int32)
          else
            J20 ()
        else
          J20 ()
      else
        J20 ()
def fMM_rank (a1 : Int32) (σ : sT) : Option (Int32) :=
  fMM_rank_L4 a1 σ FU (0 : Int32) (0 : Int32)
def fMM_dimensionOf (a1 : Int32) (σ : sT) : Option (Int32 × sT) :=
  db2 (fMM_fixed a1 σ) fun r2 σ3 =>
  db1 (fMM_rank r2 σ3) fun r5 =>
  some ((3 : Int32) - r5, σ3)
def fMM_dimension (a1 : Int32) (σ : sT) : Option (Int32 × sT) :=
  db1 (fMM_isSet a1 σ) fun r2 =>
  if r2 = 0 then
    db2 (fMM_refuses (-1000002 : Int32) σ) fun r15 σ16 =>
    some (r15, σ16)
  else
    db2 (fMM_canSet a1 σ) fun r5 σ6 =>
    if r5 = 0 then
      db2 (fMM_refuses (-1000003 : Int32) σ6) fun r9 σ10 =>
      some (r9, σ10)
    else
      db2 (fMM_dimensionOf a1 σ6) fun r12 σ13 =>
      some (r12, σ13)
def fMM_size (a1 : Int64) : Option (Int64) :=
  if 0 ≤ (lg_cmp a1 (0 : Int64)) then
    some a1
  else
    some (-a1)
def fMM_divisor_L12 : Nat → Int64 → Int64 → Option (Int64)
  | 0, _, _ => none
  | n7 + 1, x5, x6 =>
    if (lg_cmp x6 (0 : Int64)) = 0 then
      some x5
    else
      dck (okE x6) <|
      dlt (x5 - x5 / x6 * x6) fun x10 =>
      fMM_divisor_L12 n7 x6 x10
def fMM_divisor (a1 : Int64) (a2 : Int64) : Option (Int64) :=
  db1 (fMM_size a1) fun r2 =>
  db1 (fMM_size a2) fun r4 =>
  fMM_divisor_L12 FU r2 r4
def fMM_bound (a1 : Int32) (a2 : Int32) (a3 : Int32) (a4 : Int32) (σ : sT) : Option (Int64 × sT) :=
  db1 (fMM_isSet a1 σ) fun r2 =>
  dlt (fun (_u : Unit) =>
    db2 (fMM_refuses (-1000002 : Int32) σ) fun r5 σ6 =>
    some (r5.toInt64, σ6)) fun J3 =>
  if r2 = 0 then
    J3 ()
  else
    db1 (fMM_in a2.toInt64 (0 : Int64) (2 : Int64)) fun r9 =>
    if r9 = 0 then
      J3 ()
    else
      db1 (fMM_in a3.toInt64 (0 : Int64) (1 : Int64)) fun r12 =>
      if r12 = 0 then
        J3 ()
      else
        db1 (fMM_in a4.toInt64 (0 : Int64) (2 : Int64)) fun r15 =>
        if r15 = 0 then
          J3 ()
        else
          db1 (fMM_laysSet a1 σ) fun σ18 =>
          db1 (fMM_solves a2 σ18) fun σ20 =>
          if (σ20.1 33 8) = 0 then
            db2 (fMM_refuses (-1000003 : Int32) σ20) fun r40 σ41 =>
            some (r40.toInt64, σ41)
          else
            dlt (fun (x22 : Int64) =>
              dlt (fun (x24 : Int64) =>
                if (lg_cmp x24 (0 : Int64)) = 0 then
                  some ((-1000001 : Int64), σ20)
                else
                  db1 (fMM_divisor x22 x24) fun r28 =>
                  dlt (fun (x29 : Int32) =>
                    if a4 = 0 then
                      dck (okE r28) <|
                      some (x22 / r28, σ20)
                    else
                      if a4 = (1 : Int32) then
                        dck (okE r28) <|
                        some (x24 / r28, σ20)
                      else
                        if x29 = 0 then
                          some ((1 : Int64), σ20)
                        else
                          some ((0 : Int64), σ20)) fun J30 =>
                  if a3 = (1 : Int32) then
                    J30 (σ20.1 33 14)
                  else
                    J30 (σ20.1 33 11)) fun J25 =>
              if a3 = (1 : Int32) then
                J25 (σ20.2 33 13)
              else
                J25 (σ20.2 33 10)) fun J23 =>
            if a3 = (1 : Int32) then
              J23 (σ20.2 33 12)
            else
              J23 (σ20.2 33 9)
def fMM_canNot (a1 : Int32) (a2 : Int32) (a3 : Int32) (a4 : Int32) (σ : sT) : Option (Int32 × sT) :=
  db1 (fMM_laysSet a1 σ) fun σ2 =>
  dlt (fun (σ3 : sT) =>
    db2 (fMM_canLaid σ3) fun r6 σ7 =>
    dck (okZ r6) <|
    some (r6, σ7)) fun J4 =>
  if a3 = 0 then
    db1 (fMM_at a2 (0 : Int32) σ2) fun r11 =>
    db1 (fMM_at a2 (1 : Int32) σ2) fun r13 =>
    db1 (fMM_at a2 (2 : Int32) σ2) fun r15 =>
    db1 (fMM_at a2 (4 : Int32) σ2) fun r17 =>
    db1 (fMM_lays r11.toInt64 r13.toInt64 r15.toInt64 r17.toInt64 a4 σ2) fun σ19 =>
    J4 σ19
  else
    db1 (fMM_at a2 (0 : Int32) σ2) fun r21 =>
    db1 (fMM_at a2 (1 : Int32) σ2) fun r23 =>
    db1 (fMM_at a2 (2 : Int32) σ2) fun r25 =>
    db1 (fMM_at a2 (4 : Int32) σ2) fun r27 =>
    db1 (fMM_lays ((-r21).toInt64) ((-r23).toInt64) ((-r25).toInt64) ((-r27).toInt64) a4 σ2) fun σ29 =>
    J4 σ29
def fMM_bringsRow (a1 : Int32) (a2 : Int32) (σ : sT) : Option (Int32 × sT) :=
  db1 (fMM_at a2 (3 : Int32) σ) fun r2 =>
  dlt (fun (x3 : Int32) (x4 : Int32) (x5 : Int32) (x6 : Int32) =>
    db2 (fMM_canNot x3 x4 x5 x6 σ) fun r9 σ10 =>
    dlt (fun (x11 : Int32) =>
      if x11 = 0 then
        some ((0 : Int32), σ10)
      else
        if r2 = (2 : Int32) then
          db2 (fMM_canNot a1 a2 (0 : Int32) (1 : Int32) σ10) fun r16 σ17 =>
          if r16 = 0 then
            some ((1 : Int32), σ17)
          else
            some ((0 : Int32), σ17)
        else
          some ((1 : Int32), σ10)) fun J12 =>
    if r9 = 0 then
      J12 (1 : Int32)
    else
      J12 (0 : Int32)) fun J7 =>
  if r2 = 0 then
    J7 a1 a2 (1 : Int32) (0 : Int32)
  else
    J7 a1 a2 (1 : Int32) (1 : Int32)
def fMM_brings (a1 : Int32) (a2 : Int32) (σ : sT) : Option (Int32 × sT) :=
  db1 (fMM_isSet a1 σ) fun r2 =>
  dlt (fun (_u : Unit) =>
    db2 (fMM_refuses (-1000002 : Int32) σ) fun r5 σ6 =>
    some (r5, σ6)) fun J3 =>
  if r2 = 0 then
    J3 ()
  else
    db1 (fMM_isRow a2 σ) fun r9 =>
    if r9 = 0 then
      J3 ()
    else
      db2 (fMM_bringsRow a1 a2 σ) fun r12 σ13 =>
      if r12 = 0 then
        some ((0 : Int32), σ13)
      else
        some ((1 : Int32), σ13)
def fMM_spare_L19 (a1 : Int32) : Nat → Int32 → Int32 → sT → Option (Int32 × sT)
  | 0, _, _, _ => none
  | n7 + 1, x4, x5, σ6 =>
    dck (okI (0 : Int32) 73) <|
    if (σ6.1 34 (0 : Int32).toNatClampNeg) ≤ x5 then
      some (x4, σ6)
    else
      db1 (fMM_has a1 x5) fun r11 =>
      if r11 = 0 then
        dlt (x4 ||| (0 : Int32)) fun x13 =>
        fMM_spare_L19 a1 n7 x13 (x5 + (1 : Int32)) σ6
      else
        db2 (fMM_bringsRow (a1 &&& (((1 : Int32) <<< (x5 &&& 31)) ^^^ (-1 : Int32))) x5 σ6) fun r15 σ16 =>
        if r15 = 0 then
          dlt (x4 ||| (0 : Int32)) fun x18 =>
          fMM_spare_L19 a1 n7 x18 (x5 + (1 : Int32)) σ16
        else
          dlt (x4 ||| ((1 : Int32) <<< (x5 &&& 31))) fun x19 =>
          fMM_spare_L19 a1 n7 x19 (x5 + (1 : Int32)) σ16
def fMM_spare (a1 : Int32) (σ : sT) : Option (Int32 × sT) :=
  db1 (fMM_isSet a1 σ) fun r2 =>
  if r2 = 0 then
    db2 (fMM_refuses (-1000002 : Int32) σ) fun r21 σ22 =>
    some (r21, σ22)
  else
    fMM_spare_L19 a1 FU (0 : Int32) (0 : Int32) σ
def fMM_bringsAll_L5 (a1 : Int32) (a2 : Int32) : Nat → Int32 → Int32 → sT → Option (Int32 × sT)
  | 0, _, _, _ => none
  | n4 + 1, x1, x2, σ3 =>
    if (12 : Int32) ≤ x2 then
      dck (okZ x1) <|
      some (x1, σ3)
    else
      if x1 = 0 then
        fMM_bringsAll_L5 a1 a2 n4 (0 : Int32) (x2 + (1 : Int32)) σ3
      else
        db1 (fMM_has a2 x2) fun r9 =>
        if r9 = 0 then
          fMM_bringsAll_L5 a1 a2 n4 (1 : Int32) (x2 + (1 : Int32)) σ3
        else
          db2 (fMM_bringsRow a1 x2 σ3) fun r12 σ13 =>
          if r12 = 0 then
            fMM_bringsAll_L5 a1 a2 n4 (0 : Int32) (x2 + (1 : Int32)) σ13
          else
            fMM_bringsAll_L5 a1 a2 n4 (1 : Int32) (x2 + (1 : Int32)) σ13
def fMM_bringsAll (a1 : Int32) (a2 : Int32) (σ : sT) : Option (Int32 × sT) :=
  fMM_bringsAll_L5 a1 a2 FU (1 : Int32) (0 : Int32) σ
def fMM_same (a1 : Int32) (a2 : Int32) (σ : sT) : Option (Int32 × sT) :=
  db1 (fMM_isSet a1 σ) fun r2 =>
  dlt (fun (_u : Unit) =>
    db2 (fMM_refuses (-1000002 : Int32) σ) fun r5 σ6 =>
    some (r5, σ6)) fun J3 =>
  if r2 = 0 then
    J3 ()
  else
    db1 (fMM_isSet a2 σ) fun r9 =>
    if r9 = 0 then
      J3 ()
    else
      db2 (fMM_bringsAll a1 a2 σ) fun r12 σ13 =>
      if r12 = 0 then
        some ((0 : Int32), σ13)
      else
        db2 (fMM_bringsAll a2 a1 σ13) fun r16 σ17 =>
        if r16 = 0 then
          some ((0 : Int32), σ17)
        else
          some ((1 : Int32), σ17)
def fMM_laysWith_L92 (a1 : Int32) (a2 : Int32) (x1 : Int64) (x3 : Int64) (x5 : Int64) (x7 : Int64) (x12 : Int64) : Nat → Int32 → sT → Option (Int64 × sT)
  | 0, _, _ => none
  | n16 + 1, x14, σ15 =>
    dck (okI (0 : Int32) 73) <|
    if (σ15.1 34 (0 : Int32).toNatClampNeg) ≤ x14 then
      some (x12, σ15)
    else
      db1 (fMM_has a1 x14) fun r20 =>
      if r20 = 0 then
        fMM_laysWith_L92 a1 a2 x1 x3 x5 x7 x12 n16 (x14 + (1 : Int32)) σ15
      else
        db1 (fMM_at x14 (4 : Int32) σ15) fun r23 =>
        db1 (fMM_at x14 (0 : Int32) σ15) fun r25 =>
        dck (okE x3) <|
        db1 (fMM_at x14 (1 : Int32) σ15) fun r28 =>
        dck (okE x7) <|
        dlt (((r23.toInt64 * x12) - ((r25.toInt64 * x1) * (x12 / x3))) - ((r28.toInt64 * x5) * (x12 / x7))) fun x30 =>
        dlt (fun (x31 : Int64) =>
          dlt (fun (x33 : Int64) (x34 : Int64) =>
            db1 (fMM_at x14 (2 : Int32) σ15) fun r37 =>
            db1 (fMM_at x14 (3 : Int32) σ15) fun r39 =>
            db1 (fMM_laysSum x33 x34 r37.toInt64 x30 r39 σ15) fun σ41 =>
            fMM_laysWith_L92 a1 a2 x1 x3 x5 x7 x12 n16 (x14 + (1 : Int32)) σ41) fun J35 =>
          if a2 ≤ (1 : Int32) then
            db1 (fMM_at x14 (1 : Int32) σ15) fun r44 =>
            J35 x31 r44.toInt64
          else
            J35 x31 (0 : Int64)) fun J32 =>
        if a2 ≤ 0 then
          db1 (fMM_at x14 (0 : Int32) σ15) fun r47 =>
          J32 r47.toInt64
        else
          J32 (0 : Int64)
def fMM_laysWith (a1 : Int32) (a2 : Int32) (σ : sT) : Option (Int64 × sT) :=
  dlt (fun (x1 : Int64) =>
    dlt (fun (x3 : Int64) =>
      dlt (fun (x5 : Int64) =>
        dlt (fun (x7 : Int64) =>
          db1 (fMM_divisor x3 x7) fun r10 =>
          dck (okE r10) <|
          dlt ((x3 / r10) * x7) fun x12 =>
          dlt (siW σ 33 5 (0 : Int32)) fun σ13 =>
          fMM_laysWith_L92 a1 a2 x1 x3 x5 x7 x12 FU (0 : Int32) σ13) fun J8 =>
        if a2 ≤ (1 : Int32) then
          J8 (1 : Int64)
        else
          dck (okI (3 : Int32) 6) <|
          J8 (σ.2 40 (3 : Int32).toNatClampNeg)) fun J6 =>
      if a2 ≤ (1 : Int32) then
        J6 (0 : Int64)
      else
        dck (okI (2 : Int32) 6) <|
        J6 (σ.2 40 (2 : Int32).toNatClampNeg)) fun J4 =>
    if a2 ≤ 0 then
      J4 (1 : Int64)
    else
      dck (okI (1 : Int32) 6) <|
      J4 (σ.2 40 (1 : Int32).toNatClampNeg)) fun J2 =>
  if a2 ≤ 0 then
    J2 (0 : Int64)
  else
    dck (okI (0 : Int32) 6) <|
    J2 (σ.2 40 (0 : Int32).toNatClampNeg)
def fMM_floor (a1 : Int64) (a2 : Int64) : Option (Int64) :=
  dck (okE a2) <|
  dlt (a1 / a2) fun x2 =>
  dck (okE a2) <|
  if (lg_cmp (a1 - a1 / a2 * a2) (0 : Int64)) = 0 then
    some x2
  else
    if 0 ≤ (lg_cmp a1 (0 : Int64)) then
      some x2
    else
      some (x2 - (1 : Int64))
def fMM_betweenJ_L146 : Nat → Int32 → sT → Option (sT)
  | 0, _, _ => none
  | n19 + 1, x17, σ18 =>
    if x17 < 0 then
      some σ18
    else
      dlt (σ18.2 33 15) fun x21 =>
      dck (okI x17 100) <|
      dlt (sjW σ18 33 15 (((σ18.2 39 x17.toNatClampNeg) * (σ18.2 33 15)) + (σ18.2 33 16))) fun σ23 =>
      dlt (sjW σ23 33 16 x21) fun σ24 =>
      fMM_betweenJ_L146 n19 (x17 + (-1 : Int32)) σ24
def fMM_betweenJ_L29 (K12 : Int32 → sT → Option (sT)) : Nat → Int64 → Int64 → Int64 → Int64 → Int32 → sT → Option (sT)
  | 0, _, _, _, _, _, _ => none
  | n25 + 1, x4, x5, x6, x7, x8, σ9 =>
    if (lg_cmp x7 (0 : Int64)) = 0 then
      K12 x8 σ9
    else
      dck (okI x8 100) <|
      if (lg_cmp (((σ9.2 39 x8.toNatClampNeg) + (1 : Int64)) * x7) x6) < 0 then
        K12 x8 σ9
      else
        dck (okI x8 100) <|
        dlt (x4 - ((σ9.2 39 x8.toNatClampNeg) * x5)) fun x30 =>
        dck (okI x8 100) <|
        dlt (x6 - ((σ9.2 39 x8.toNatClampNeg) * x7)) fun x32 =>
        dck (okE x32) <|
        dck (okI (x8 + (1 : Int32)) 100) <|
        dlt (sjW σ9 39 (x8 + (1 : Int32)).toNatClampNeg (x7 / x32)) fun σ35 =>
        fMM_betweenJ_L29 K12 n25 x7 x32 x5 x30 (x8 + (1 : Int32)) σ35
def fMM_betweenJ (a1 : Int64) (a2 : Int64) (a3 : Int64) (a4 : Int64) (σ : sT) : Option (sT) :=
  dck (okE a2) <|
  dck (okI (0 : Int32) 100) <|
  dlt (sjW σ 39 (0 : Int32).toNatClampNeg (a1 / a2)) fun σ3 =>
  dlt (fun (x10 : Int32) (σ11 : sT) =>
    dck (okI x10 100) <|
    dlt (sjW σ11 33 15 ((σ11.2 39 x10.toNatClampNeg) + (1 : Int64))) fun σ14 =>
    dlt (sjW σ14 33 16 (1 : Int64)) fun σ15 =>
    dlt (x10 - (1 : Int32)) fun x16 =>
    fMM_betweenJ_L146 FU x16 σ15) fun K12 =>
  fMM_betweenJ_L29 K12 FU a1 a2 a3 a4 (0 : Int32) σ3
def fMM_choosesBetween (a1 : Int64) (a2 : Int64) (a3 : Int64) (a4 : Int64) (σ : sT) : Option (sT) :=
  dlt (fun (_u : Unit) =>
    if (lg_cmp a1 (0 : Int64)) < 0 then
      db1 (fMM_betweenJ (-a3) a4 (-a1) a2 σ) fun σ4 =>
      dlt (sjW σ4 33 15 (-(σ4.2 33 15))) fun σ5 =>
      some σ5
    else
      db1 (fMM_betweenJ a1 a2 a3 a4 σ) fun σ7 =>
      some σ7) fun J1 =>
  if 0 ≤ (lg_cmp a1 (0 : Int64)) then
    J1 ()
  else
    if (lg_cmp a3 (0 : Int64)) ≤ 0 then
      J1 ()
    else
      dlt (sjW σ 33 15 (0 : Int64)) fun σ10 =>
      dlt (sjW σ10 33 16 (1 : Int64)) fun σ11 =>
      some σ11
def fMM_chooses (a1 : Int64) (σ : sT) : Option (sT) :=
  db1 (fMM_divisor (σ.2 33 9) ((σ.2 33 10) * a1)) fun r2 =>
  db1 (fMM_divisor (σ.2 33 12) ((σ.2 33 13) * a1)) fun r4 =>
  dlt (fun (x5 : Int64) =>
    dlt (fun (x7 : Int64) =>
      dlt (fun (x9 : Int64) =>
        dlt (fun (x11 : Int64) =>
          dlt (fun (_u : Unit) =>
            dlt (fun (_u : Unit) =>
              dlt (fun (_u : Unit) =>
                dlt (fun (x16 : Int64) =>
                  dlt (sjW σ 33 15 x16) fun σ18 =>
                  dlt (sjW σ18 33 16 (1 : Int64)) fun σ19 =>
                  some σ19) fun J17 =>
                if (lg_cmp x7 (0 : Int64)) ≤ 0 then
                  if (lg_cmp x11 (0 : Int64)) ≤ 0 then
                    J17 (0 : Int64)
                  else
                    db1 (fMM_floor (-x9) x11) fun r23 =>
                    J17 ((-r23) - (1 : Int64))
                else
                  db1 (fMM_floor x5 x7) fun r25 =>
                  J17 (r25 + (1 : Int64))) fun J15 =>
              if (lg_cmp x7 (0 : Int64)) ≤ 0 then
                J15 ()
              else
                if (lg_cmp x11 (0 : Int64)) ≤ 0 then
                  J15 ()
                else
                  db1 (fMM_choosesBetween x5 x7 x9 x11 σ) fun σ29 =>
                  some σ29) fun J14 =>
            if (lg_cmp x11 (0 : Int64)) ≤ 0 then
              J14 ()
            else
              if (σ.1 33 14) = 0 then
                dlt (sjW σ 33 15 x9) fun σ32 =>
                dlt (sjW σ32 33 16 x11) fun σ33 =>
                some σ33
              else
                J14 ()) fun J13 =>
          if (lg_cmp x7 (0 : Int64)) ≤ 0 then
            J13 ()
          else
            if (σ.1 33 11) = 0 then
              dlt (sjW σ 33 15 x5) fun σ36 =>
              dlt (sjW σ36 33 16 x7) fun σ37 =>
              some σ37
            else
              J13 ()) fun J12 =>
        if (lg_cmp (σ.2 33 13) (0 : Int64)) = 0 then
          J12 (0 : Int64)
        else
          dck (okE r4) <|
          J12 (((σ.2 33 13) * a1) / r4)) fun J10 =>
      if (lg_cmp (σ.2 33 13) (0 : Int64)) = 0 then
        J10 (0 : Int64)
      else
        dck (okE r4) <|
        J10 ((σ.2 33 12) / r4)) fun J8 =>
    if (lg_cmp (σ.2 33 10) (0 : Int64)) = 0 then
      J8 (0 : Int64)
    else
      dck (okE r2) <|
      J8 (((σ.2 33 10) * a1) / r2)) fun J6 =>
  if (lg_cmp (σ.2 33 10) (0 : Int64)) = 0 then
    J6 (0 : Int64)
  else
    dck (okE r2) <|
    J6 ((σ.2 33 9) / r2)
def fMM_findsPoint_L2 (a1 : Int32) : Nat → Int32 → sT → Option (sT)
  | 0, _, _ => none
  | n3 + 1, x1, σ2 =>
    if (3 : Int32) ≤ x1 then
      some σ2
    else
      db2 (fMM_laysWith a1 x1 σ2) fun r6 σ7 =>
      db1 (fMM_solves x1 σ7) fun σ9 =>
      db1 (fMM_chooses r6 σ9) fun σ11 =>
      dck (okI ((2 : Int32) * x1) 6) <|
      dlt (sjW σ11 40 ((2 : Int32) * x1).toNatClampNeg (σ11.2 33 15)) fun σ13 =>
      dck (okI (((2 : Int32) * x1) + (1 : Int32)) 6) <|
      dlt (sjW σ13 40 (((2 : Int32) * x1) + (1 : Int32)).toNatClampNeg (σ13.2 33 16)) fun σ15 =>
      fMM_findsPoint_L2 a1 n3 (x1 + (1 : Int32)) σ15
def fMM_findsPoint (a1 : Int32) (σ : sT) : Option (sT) :=
  fMM_findsPoint_L2 a1 FU (0 : Int32) σ
def fMM_point (a1 : Int32) (a2 : Int32) (a3 : Int32) (σ : sT) : Option (Int64 × sT) :=
  db1 (fMM_isSet a1 σ) fun r2 =>
  dlt (fun (_u : Unit) =>
    db2 (fMM_refuses (-1000002 : Int32) σ) fun r5 σ6 =>
    some (r5.toInt64, σ6)) fun J3 =>
  if r2 = 0 then
    J3 ()
  else
    db1 (fMM_in a2.toInt64 (0 : Int64) (2 : Int64)) fun r9 =>
    if r9 = 0 then
      J3 ()
    else
      db1 (fMM_in a3.toInt64 (0 : Int64) (1 : Int64)) fun r12 =>
      if r12 = 0 then
        J3 ()
      else
        db2 (fMM_canSet a1 σ) fun r15 σ16 =>
        if r15 = 0 then
          db2 (fMM_refuses (-1000003 : Int32) σ16) fun r22 σ23 =>
          some (r22.toInt64, σ23)
        else
          db1 (fMM_findsPoint a1 σ16) fun σ19 =>
          dck (okI (((2 : Int32) * a2) + a3) 6) <|
          some (σ19.2 40 (((2 : Int32) * a2) + a3).toNatClampNeg, σ19)
def fMM_coreOf_L11 : Nat → Int32 → Int32 → sT → Option (Int32 × sT)
  | 0, _, _, _ => none
  | n6 + 1, x3, x4, σ5 =>
    if x4 < 0 then
      some (x3, σ5)
    else
      db1 (fMM_has x3 x4) fun r9 =>
      if r9 = 0 then
        fMM_coreOf_L11 n6 x3 (x4 + (-1 : Int32)) σ5
      else
        db2 (fMM_canSet (x3 &&& (((1 : Int32) <<< (x4 &&& 31)) ^^^ (-1 : Int32))) σ5) fun r12 σ13 =>
        if r12 = 0 then
          dlt (x3 &&& (((1 : Int32) <<< (x4 &&& 31)) ^^^ (-1 : Int32))) fun x15 =>
          fMM_coreOf_L11 n6 x15 (x4 + (-1 : Int32)) σ13
        else
          fMM_coreOf_L11 n6 x3 (x4 + (-1 : Int32)) σ13
def fMM_coreOf (a1 : Int32) (σ : sT) : Option (Int32 × sT) :=
  dck (okI (0 : Int32) 73) <|
  dlt ((σ.1 34 (0 : Int32).toNatClampNeg) - (1 : Int32)) fun x2 =>
  fMM_coreOf_L11 FU a1 x2 σ
def fMM_core (a1 : Int32) (σ : sT) : Option (Int32 × sT) :=
  db1 (fMM_isSet a1 σ) fun r2 =>
  if r2 = 0 then
    db2 (fMM_refuses (-1000002 : Int32) σ) fun r15 σ16 =>
    some (r15, σ16)
  else
    db2 (fMM_canSet a1 σ) fun r5 σ6 =>
    if r5 = 0 then
      db2 (fMM_coreOf a1 σ6) fun r9 σ10 =>
      some (r9, σ10)
    else
      db2 (fMM_refuses (-1000003 : Int32) σ6) fun r12 σ13 =>
      some (r12, σ13)
def fMM_number (a1 : Int32) (a2 : Int32) (σ : sT) : Option (Int64) :=
  dck (okI a1 12) <|
  db1 (fMM_at (σ.1 41 a1.toNatClampNeg) a2 σ) fun r3 =>
  some r3.toInt64
def fMM_minor (a1 : Int32) (a2 : Int32) (a3 : Int32) (σ : sT) : Option (Int64) :=
  db1 (fMM_number a2 (1 : Int32) σ) fun r2 =>
  db1 (fMM_number a3 (2 : Int32) σ) fun r4 =>
  db1 (fMM_number a2 (2 : Int32) σ) fun r6 =>
  db1 (fMM_number a3 (1 : Int32) σ) fun r8 =>
  dlt ((r2 * r4) - (r6 * r8)) fun x9 =>
  db1 (fMM_number a2 (2 : Int32) σ) fun r11 =>
  db1 (fMM_number a3 (0 : Int32) σ) fun r13 =>
  db1 (fMM_number a2 (0 : Int32) σ) fun r15 =>
  db1 (fMM_number a3 (2 : Int32) σ) fun r17 =>
  dlt ((r11 * r13) - (r15 * r17)) fun x18 =>
  db1 (fMM_number a2 (0 : Int32) σ) fun r20 =>
  db1 (fMM_number a3 (1 : Int32) σ) fun r22 =>
  db1 (fMM_number a2 (1 : Int32) σ) fun r24 =>
  db1 (fMM_number a3 (0 : Int32) σ) fun r26 =>
  dlt ((r20 * r22) - (r24 * r26)) fun x27 =>
  db1 (fMM_number a1 (0 : Int32) σ) fun r29 =>
  db1 (fMM_number a1 (1 : Int32) σ) fun r31 =>
  db1 (fMM_number a1 (2 : Int32) σ) fun r33 =>
  some (((r29 * x9) + (r31 * x18)) + (r33 * x27))
def fMM_takesThree_L2 (a1 : Int32) (a2 : Int32) (K4 : sT → Option (Int32 × sT)) : Nat → Int32 → sT → Option (Int32 × sT)
  | 0, _, _ => none
  | n11 + 1, x1, σ2 =>
    if (3 : Int32) ≤ x1 then
      K4 σ2
    else
      dlt ((x1 + (1 : Int32)) - (x1 + (1 : Int32)) / (3 : Int32) * (3 : Int32)) fun x13 =>
      dlt ((x1 + (2 : Int32)) - (x1 + (2 : Int32)) / (3 : Int32) * (3 : Int32)) fun x14 =>
      db1 (fMM_number x13 a1 σ2) fun r16 =>
      db1 (fMM_number x14 a2 σ2) fun r18 =>
      db1 (fMM_number x14 a1 σ2) fun r20 =>
      db1 (fMM_number x13 a2 σ2) fun r22 =>
      dck (okI x1 12) <|
      dlt (sjW σ2 42 x1.toNatClampNeg ((r16 * r18) - (r20 * r22))) fun σ24 =>
      fMM_takesThree_L2 a1 a2 K4 n11 (x1 + (1 : Int32)) σ24
def fMM_takesThree (a1 : Int32) (a2 : Int32) (σ : sT) : Option (Int32 × sT) :=
  dlt (fun (σ3 : sT) =>
    dck (okI (0 : Int32) 12) <|
    if (lg_cmp (σ3.2 42 (0 : Int32).toNatClampNeg) (0 : Int64)) = 0 then
      dck (okI (1 : Int32) 12) <|
      if (lg_cmp (σ3.2 42 (1 : Int32).toNatClampNeg) (0 : Int64)) = 0 then
        dck (okI (2 : Int32) 12) <|
        if (lg_cmp (σ3.2 42 (2 : Int32).toNatClampNeg) (0 : Int64)) = 0 then
          some ((0 : Int32), σ3)
        else
          some ((1 : Int32), σ3)
      else
        some ((1 : Int32), σ3)
    else
      some ((1 : Int32), σ3)) fun K4 =>
  fMM_takesThree_L2 a1 a2 K4 FU (0 : Int32) σ
def fMM_takesSome (σ : sT) : Option (sT) :=
  if (σ.1 33 20) = (1 : Int32) then
    dck (okI (0 : Int32) 12) <|
    dlt (sjW σ 42 (0 : Int32).toNatClampNeg (1 : Int64)) fun σ49 =>
    some σ49
  else
    if (σ.1 33 20) = (2 : Int32) then
      db1 (fMM_number (0 : Int32) (0 : Int32) σ) fun r33 =>
      dlt (fun (x34 : Int32) =>
        db1 (fMM_number (1 : Int32) x34 σ) fun r37 =>
        dck (okI (0 : Int32) 12) <|
        dlt (sjW σ 42 (0 : Int32).toNatClampNeg r37) fun σ39 =>
        db1 (fMM_number (0 : Int32) x34 σ39) fun r41 =>
        dck (okI (1 : Int32) 12) <|
        dlt (sjW σ39 42 (1 : Int32).toNatClampNeg (-r41)) fun σ43 =>
        some σ43) fun J35 =>
      if (lg_cmp r33 (0 : Int64)) = 0 then
        db1 (fMM_number (0 : Int32) (1 : Int32) σ) fun r46 =>
        if (lg_cmp r46 (0 : Int64)) = 0 then
          J35 (2 : Int32)
        else
          J35 (1 : Int32)
      else
        J35 (0 : Int32)
    else
      if (σ.1 33 20) = (3 : Int32) then
        db2 (fMM_takesThree (0 : Int32) (1 : Int32) σ) fun r21 σ22 =>
        if r21 = 0 then
          db2 (fMM_takesThree (1 : Int32) (2 : Int32) σ22) fun r25 σ26 =>
          if r25 = 0 then
            db2 (fMM_takesThree (0 : Int32) (2 : Int32) σ26) fun r29 σ30 =>
            if r29 = 0 then
              some σ30
            else
              some σ30
          else
            some σ26
        else
          some σ22
      else
        db1 (fMM_minor (1 : Int32) (2 : Int32) (3 : Int32) σ) fun r5 =>
        dck (okI (0 : Int32) 12) <|
        dlt (sjW σ 42 (0 : Int32).toNatClampNeg r5) fun σ7 =>
        db1 (fMM_minor (0 : Int32) (2 : Int32) (3 : Int32) σ7) fun r9 =>
        dck (okI (1 : Int32) 12) <|
        dlt (sjW σ7 42 (1 : Int32).toNatClampNeg (-r9)) fun σ11 =>
        db1 (fMM_minor (0 : Int32) (1 : Int32) (3 : Int32) σ11) fun r13 =>
        dck (okI (2 : Int32) 12) <|
        dlt (sjW σ11 42 (2 : Int32).toNatClampNeg r13) fun σ15 =>
        db1 (fMM_minor (0 : Int32) (1 : Int32) (2 : Int32) σ15) fun r17 =>
        dck (okI (3 : Int32) 12) <|
        dlt (sjW σ15 42 (3 : Int32).toNatClampNeg (-r17)) fun σ19 =>
        some σ19
def fMM_findsTimes_L174 (x12 : Int64) (x16 : Int32) : Nat → Int32 → sT → Option (sT)
  | 0, _, _ => none
  | n20 + 1, x18, σ19 =>
    if (σ19.1 33 20) ≤ x18 then
      some σ19
    else
      dlt (fun (x22 : Int32) (x23 : Int64) =>
        dck (okE x12) <|
        dck (okI x22 12) <|
        dlt (sjW σ19 42 x22.toNatClampNeg (x23 / x12)) fun σ27 =>
        fMM_findsTimes_L174 x12 x16 n20 (x18 + (1 : Int32)) σ27) fun J24 =>
      if x16 = 0 then
        dck (okI x18 12) <|
        J24 x18 (σ19.2 42 x18.toNatClampNeg)
      else
        dck (okI x18 12) <|
        J24 x18 (-(σ19.2 42 x18.toNatClampNeg))
def fMM_findsTimes_L66 (σ7 : sT) (K15 : Int64 → Int64 → Int64 → Option (sT)) : Nat → Int64 → Int64 → Int64 → Int32 → Option (sT)
  | 0, _, _, _, _ => none
  | n36 + 1, x8, x9, x10, x11 =>
    if (σ7.1 33 20) ≤ x11 then
      K15 x8 x9 x10
    else
      dck (okI x11 12) <|
      db1 (fMM_divisor x8 (σ7.2 42 x11.toNatClampNeg)) fun r40 =>
      dck (okI x11 12) <|
      db1 (fMM_number x11 (4 : Int32) σ7) fun r43 =>
      dlt (x9 + ((σ7.2 42 x11.toNatClampNeg) * r43)) fun x44 =>
      dck (okI x11 12) <|
      db1 (fMM_at (σ7.1 41 x11.toNatClampNeg) (3 : Int32) σ7) fun r47 =>
      if r47 = (2 : Int32) then
        fMM_findsTimes_L66 σ7 K15 n36 r40 x44 x10 (x11 + (1 : Int32))
      else
        dck (okI x11 12) <|
        dlt (σ7.2 42 x11.toNatClampNeg) fun x50 =>
        fMM_findsTimes_L66 σ7 K15 n36 r40 x44 x50 (x11 + (1 : Int32))
def fMM_findsTimes_L7 (a1 : Int32) (K5 : sT → Option (sT)) : Nat → Int32 → sT → Option (sT)
  | 0, _, _ => none
  | n51 + 1, x2, σ3 =>
    dck (okI (0 : Int32) 73) <|
    if (σ3.1 34 (0 : Int32).toNatClampNeg) ≤ x2 then
      K5 σ3
    else
      db1 (fMM_has a1 x2) fun r55 =>
      if r55 = 0 then
        fMM_findsTimes_L7 a1 K5 n51 (x2 + (1 : Int32)) σ3
      else
        dck (okI (σ3.1 33 20) 12) <|
        dlt (siW σ3 41 (σ3.1 33 20).toNatClampNeg x2) fun σ58 =>
        dlt (siW σ58 33 20 ((σ58.1 33 20) + (1 : Int32))) fun σ59 =>
        fMM_findsTimes_L7 a1 K5 n51 (x2 + (1 : Int32)) σ59
def fMM_findsTimes (a1 : Int32) (σ : sT) : Option (sT) :=
  dlt (siW σ 33 20 (0 : Int32)) fun σ1 =>
  dlt (fun (σ4 : sT) =>
    db1 (fMM_takesSome σ4) fun σ7 =>
    dlt (fun (x12 : Int64) (x13 : Int64) (x14 : Int64) =>
      dlt (fun (x16 : Int32) =>
        fMM_findsTimes_L174 x12 x16 FU (0 : Int32) σ7) fun J17 =>
      dlt (fun (_u : Unit) =>
        J17 (1 : Int32)) fun J31 =>
      if (lg_cmp x14 (0 : Int64)) < 0 then
        J31 ()
      else
        dlt (fun (_u : Unit) =>
          J17 (0 : Int32)) fun J33 =>
        if (lg_cmp x14 (0 : Int64)) = 0 then
          if (lg_cmp x13 (0 : Int64)) ≤ 0 then
            J33 ()
          else
            J31 ()
        else
          J33 ()) fun K15 =>
    fMM_findsTimes_L66 σ7 K15 FU (0 : Int64) (0 : Int64) (0 : Int64) (0 : Int32)) fun K5 =>
  fMM_findsTimes_L7 a1 K5 FU (0 : Int32) σ1
def fMM_timesOf_L10 (a2 : Int32) (σ2 : sT) : Nat → Int32 → Int32 → Option (Int32 × sT)
  | 0, _, _ => none
  | n5 + 1, x3, x4 =>
    if (σ2.1 33 20) ≤ x4 then
      some (x3, σ2)
    else
      dck (okI x4 12) <|
      if (σ2.1 41 x4.toNatClampNeg) = a2 then
        dck (okI x4 12) <|
        dlt ((σ2.2 42 x4.toNatClampNeg).toInt32) fun x10 =>
        fMM_timesOf_L10 a2 σ2 n5 x10 (x4 + (1 : Int32))
      else
        fMM_timesOf_L10 a2 σ2 n5 x3 (x4 + (1 : Int32))
def fMM_timesOf (a1 : Int32) (a2 : Int32) (σ : sT) : Option (Int32 × sT) :=
  db1 (fMM_findsTimes a1 σ) fun σ2 =>
  fMM_timesOf_L10 a2 σ2 FU (0 : Int32) (0 : Int32)
def fMM_times (a1 : Int32) (a2 : Int32) (σ : sT) : Option (Int32 × sT) :=
  db1 (fMM_isSet a1 σ) fun r2 =>
  dlt (fun (_u : Unit) =>
    db2 (fMM_refuses (-1000002 : Int32) σ) fun r5 σ6 =>
    some (r5, σ6)) fun J3 =>
  if r2 = 0 then
    J3 ()
  else
    db1 (fMM_isRow a2 σ) fun r9 =>
    if r9 = 0 then
      J3 ()
    else
      db2 (fMM_canSet a1 σ) fun r12 σ13 =>
      if r12 = 0 then
        db2 (fMM_coreOf a1 σ13) fun r16 σ17 =>
        db2 (fMM_timesOf r16 a2 σ17) fun r19 σ20 =>
        some (r19, σ20)
      else
        db2 (fMM_refuses (-1000003 : Int32) σ13) fun r22 σ23 =>
        some (r22, σ23)
def fMM_betweenOf_L23 (a1 : Int32) (σ7 : sT) (K15 : Int64 → Int32 → Int32 → Option (Int32 × sT)) : Nat → Int64 → Int32 → Int32 → Int32 → Option (Int32 × sT)
  | 0, _, _, _, _ => none
  | n19 + 1, x8, x9, x10, x11 =>
    if (σ7.1 33 20) ≤ x11 then
      K15 x8 x9 x10
    else
      dck (okI x11 12) <|
      db1 (fMM_at (σ7.1 41 x11.toNatClampNeg) (5 : Int32) σ7) fun r23 =>
      if r23 = 0 then
        dlt (fun (x25 : Int64) (x26 : Int64) =>
          dlt (x25 + x26) fun x28 =>
          dlt (fun (x29 : Int32) =>
            if x10 = 0 then
              fMM_betweenOf_L23 a1 σ7 K15 n19 x28 x29 (0 : Int32) (x11 + (1 : Int32))
            else
              dck (okI x11 12) <|
              db1 (fMM_at (σ7.1 41 x11.toNatClampNeg) (3 : Int32) σ7) fun r34 =>
              if r34 = (2 : Int32) then
                fMM_betweenOf_L23 a1 σ7 K15 n19 x28 x29 (1 : Int32) (x11 + (1 : Int32))
              else
                fMM_betweenOf_L23 a1 σ7 K15 n19 x28 x29 (0 : Int32) (x11 + (1 : Int32))) fun J30 =>
          dlt (fun (_u : Unit) =>
            J30 (1 : Int32)) fun J36 =>
          if x9 = 0 then
            dck (okI x11 12) <|
            db1 (fMM_at (σ7.1 41 x11.toNatClampNeg) (3 : Int32) σ7) fun r40 =>
            if r40 = 0 then
              J36 ()
            else
              J30 (0 : Int32)
          else
            J36 ()) fun J27 =>
        if a1 = (3 : Int32) then
          J27 x8 (0 : Int64)
        else
          dck (okI x11 12) <|
          db1 (fMM_number x11 a1 σ7) fun r45 =>
          J27 x8 ((σ7.2 42 x11.toNatClampNeg) * r45)
      else
        fMM_betweenOf_L23 a1 σ7 K15 n19 x8 x9 x10 (x11 + (1 : Int32))
def fMM_betweenOf (a1 : Int32) (σ : sT) : Option (Int32 × sT) :=
  db1 (fMM_every σ) fun r2 =>
  db2 (fMM_coreOf r2 σ) fun r4 σ5 =>
  db1 (fMM_findsTimes r4 σ5) fun σ7 =>
  dlt (fun (x12 : Int64) (x13 : Int32) (x14 : Int32) =>
    if a1 = (3 : Int32) then
      if x13 = 0 then
        if x14 = 0 then
          some ((1 : Int32), σ7)
        else
          some ((2 : Int32), σ7)
      else
        some ((0 : Int32), σ7)
    else
      some (x12.toInt32, σ7)) fun K15 =>
  fMM_betweenOf_L23 a1 σ7 K15 FU (0 : Int64) (0 : Int32) (1 : Int32) (0 : Int32)
def fMM_between (a1 : Int32) (σ : sT) : Option (Int32 × sT) :=
  db1 (fMM_in a1.toInt64 (0 : Int64) (4 : Int64)) fun r2 =>
  if r2 = 0 then
    db2 (fMM_refuses (-1000002 : Int32) σ) fun r17 σ18 =>
    some (r17, σ18)
  else
    db1 (fMM_every σ) fun r5 =>
    db2 (fMM_canSet r5 σ) fun r7 σ8 =>
    if r7 = 0 then
      db2 (fMM_betweenOf a1 σ8) fun r11 σ12 =>
      some (r11, σ12)
    else
      db2 (fMM_refuses (-1000003 : Int32) σ8) fun r14 σ15 =>
      some (r14, σ15)
def fMM_ones_L4 : Nat → Int32 → Int32 → Option (Int32)
  | 0, _, _ => none
  | n3 + 1, x1, x2 =>
    if x2 = 0 then
      some x1
    else
      dlt (x2 &&& (x2 - (1 : Int32))) fun x5 =>
      fMM_ones_L4 n3 (x1 + (1 : Int32)) x5
def fMM_ones (a1 : Int32) : Option (Int32) :=
  fMM_ones_L4 FU (0 : Int32) a1
def fMM_laysSides_L7 (a1 : Int32) : Nat → Int32 → sT → Option (sT)
  | 0, _, _ => none
  | n4 + 1, x2, σ3 =>
    dck (okI (0 : Int32) 73) <|
    if (σ3.1 34 (0 : Int32).toNatClampNeg) ≤ x2 then
      some σ3
    else
      db1 (fMM_has a1 x2) fun r8 =>
      if r8 = 0 then
        fMM_laysSides_L7 a1 n4 (x2 + (1 : Int32)) σ3
      else
        dck (okI (σ3.1 33 23) 5) <|
        dlt (siW σ3 43 (σ3.1 33 23).toNatClampNeg x2) fun σ11 =>
        dlt (siW σ11 33 23 ((σ11.1 33 23) + (1 : Int32))) fun σ12 =>
        fMM_laysSides_L7 a1 n4 (x2 + (1 : Int32)) σ12
def fMM_laysSides (a1 : Int32) (σ : sT) : Option (sT) :=
  dlt (siW σ 33 23 (0 : Int32)) fun σ1 =>
  fMM_laysSides_L7 a1 FU (0 : Int32) σ1
def fMM_many_L4 (σ : sT) : Nat → Int32 → Int32 → Option (Int32)
  | 0, _, _ => none
  | n3 + 1, x1, x2 =>
    if (σ.1 33 23) ≤ x2 then
      some x1
    else
      dlt (x1 * (3 : Int32)) fun x5 =>
      fMM_many_L4 σ n3 x5 (x2 + (1 : Int32))
def fMM_many (σ : sT) : Option (Int32) :=
  fMM_many_L4 σ FU (1 : Int32) (0 : Int32)
def fMM_canSides_L9 (K6 : sT → Option (Int32 × sT)) : Nat → Int32 → Int32 → sT → Option (Int32 × sT)
  | 0, _, _, _ => none
  | n11 + 1, x2, x3, σ4 =>
    if (σ4.1 33 23) ≤ x3 then
      K6 σ4
    else
      dck (okI x3 5) <|
      dlt (σ4.1 43 x3.toNatClampNeg) fun x14 =>
      dck (okI x3 5) <|
      dlt (siW σ4 44 x3.toNatClampNeg ((x2 - x2 / (3 : Int32) * (3 : Int32)) - (1 : Int32))) fun σ16 =>
      dlt (x2 / (3 : Int32)) fun x17 =>
      dck (okI x3 5) <|
      if (σ16.1 44 x3.toNatClampNeg) = (1 : Int32) then
        db1 (fMM_at x14 (0 : Int32) σ16) fun r28 =>
        db1 (fMM_at x14 (1 : Int32) σ16) fun r30 =>
        db1 (fMM_at x14 (2 : Int32) σ16) fun r32 =>
        db1 (fMM_at x14 (4 : Int32) σ16) fun r34 =>
        db1 (fMM_lays ((-r28).toInt64) ((-r30).toInt64) ((-r32).toInt64) ((-r34).toInt64) (1 : Int32) σ16) fun σ36 =>
        fMM_canSides_L9 K6 n11 x17 (x3 + (1 : Int32)) σ36
      else
        dck (okI x3 5) <|
        dlt (fun (x21 : Int32) (x22 : Int32) =>
          db1 (fMM_laysRow x21 x22 σ16) fun σ25 =>
          fMM_canSides_L9 K6 n11 x17 (x3 + (1 : Int32)) σ25) fun J23 =>
        if (σ16.1 44 x3.toNatClampNeg) = 0 then
          J23 x14 (2 : Int32)
        else
          J23 x14 (0 : Int32)
def fMM_canSides (a1 : Int32) (σ : sT) : Option (Int32 × sT) :=
  dlt (siW σ 33 5 (0 : Int32)) fun σ1 =>
  dlt (fun (σ5 : sT) =>
    db2 (fMM_canLaid σ5) fun r8 σ9 =>
    dck (okZ r8) <|
    some (r8, σ9)) fun K6 =>
  fMM_canSides_L9 K6 FU a1 (0 : Int32) σ1
def fMM_sides_L32 : Nat → Int32 → Int32 → sT → Option (Int32 × sT)
  | 0, _, _, _ => none
  | n16 + 1, x13, x14, σ15 =>
    db1 (fMM_many σ15) fun r18 =>
    if r18 ≤ x14 then
      some (x13, σ15)
    else
      db2 (fMM_canSides x14 σ15) fun r21 σ22 =>
      if r21 = 0 then
        dlt (x13 + (0 : Int32)) fun x24 =>
        fMM_sides_L32 n16 x24 (x14 + (1 : Int32)) σ22
      else
        dlt (x13 + (1 : Int32)) fun x25 =>
        fMM_sides_L32 n16 x25 (x14 + (1 : Int32)) σ22
def fMM_sides (a1 : Int32) (σ : sT) : Option (Int32 × sT) :=
  db1 (fMM_isSet a1 σ) fun r2 =>
  dlt (fun (_u : Unit) =>
    db2 (fMM_refuses (-1000002 : Int32) σ) fun r5 σ6 =>
    some (r5, σ6)) fun J3 =>
  if r2 = 0 then
    J3 ()
  else
    db1 (fMM_ones a1) fun r9 =>
    if r9 ≤ (5 : Int32) then
      db1 (fMM_laysSides a1 σ) fun σ12 =>
      fMM_sides_L32 FU (0 : Int32) (0 : Int32) σ12
    else
      J3 ()
def fMM_says (a1 : Int32) (σ : sT) : Option (sT) :=
  dck (okI (σ.1 33 29) 160) <|
  dlt (siW σ 46 (σ.1 33 29).toNatClampNeg a1) fun σ2 =>
  dlt (siW σ2 33 29 ((σ2.1 33 29) + (1 : Int32))) fun σ3 =>
  some σ3
def fMM_saysWaiting (σ : sT) : Option (sT) :=
  dlt (siW σ 33 31 ((σ.1 33 31) - (1 : Int32))) fun σ1 =>
  dck (okI (σ1.1 33 31) 160) <|
  db1 (fMM_says (-(σ1.1 47 (σ1.1 33 31).toNatClampNeg)) σ1) fun σ4 =>
  some σ4
def fMM_here_L0 (K3 : sT → Option (Int32 × sT)) : Nat → sT → Option (Int32 × sT)
  | 0, _ => none
  | n6 + 1, σ1 =>
    if (σ1.1 33 26) ≤ (σ1.1 33 27) then
      K3 σ1
    else
      dck (okI (σ1.1 33 27) 80) <|
      if (σ1.1 45 (σ1.1 33 27).toNatClampNeg) = (32 : Int32) then
        dlt (siW σ1 33 27 ((σ1.1 33 27) + (1 : Int32))) fun σ10 =>
        fMM_here_L0 K3 n6 σ10
      else
        K3 σ1
def fMM_here (σ : sT) : Option (Int32 × sT) :=
  dlt (fun (σ2 : sT) =>
    if (σ2.1 33 26) ≤ (σ2.1 33 27) then
      some ((-1 : Int32), σ2)
    else
      dck (okI (σ2.1 33 27) 80) <|
      some (σ2.1 45 (σ2.1 33 27).toNatClampNeg, σ2)) fun K3 =>
  fMM_here_L0 K3 FU σ
def fMM_waitsFor (a1 : Int32) (σ : sT) : Option (sT) :=
  dck (okI (σ.1 33 31) 160) <|
  dlt (siW σ 47 (σ.1 33 31).toNatClampNeg a1) fun σ2 =>
  dlt (siW σ2 33 31 ((σ2.1 33 31) + (1 : Int32))) fun σ3 =>
  some σ3
def fMM_isWaiting (a1 : Int32) (σ : sT) : Option (Int32) :=
  if (σ.1 33 31) ≤ 0 then
    some (0 : Int32)
  else
    dck (okI ((σ.1 33 31) - (1 : Int32)) 160) <|
    if (σ.1 47 ((σ.1 33 31) - (1 : Int32)).toNatClampNeg) = a1 then
      some (1 : Int32)
    else
      some (0 : Int32)
def fMM_saysNots_L0 : Nat → sT → Option (sT)
  | 0, _ => none
  | n2 + 1, σ1 =>
    db1 (fMM_isWaiting (33 : Int32) σ1) fun r4 =>
    if r4 = 0 then
      some σ1
    else
      db1 (fMM_saysWaiting σ1) fun σ7 =>
      fMM_saysNots_L0 n2 σ7
def fMM_saysNots (σ : sT) : Option (sT) :=
  fMM_saysNots_L0 FU σ
def fMM_takesSign_L79 (a1 : Int32) (K5 : sT → Option (Int32 × sT)) : Nat → sT → Option (Int32 × sT)
  | 0, _ => none
  | n10 + 1, σ3 =>
    db1 (fMM_isWaiting (38 : Int32) σ3) fun r12 =>
    dlt (fun (_u : Unit) =>
      db1 (fMM_saysWaiting σ3) fun σ15 =>
      fMM_takesSign_L79 a1 K5 n10 σ15) fun J13 =>
    if r12 = 0 then
      if a1 = (124 : Int32) then
        db1 (fMM_isWaiting (124 : Int32) σ3) fun r19 =>
        if r19 = 0 then
          K5 σ3
        else
          J13 ()
      else
        K5 σ3
    else
      J13 ()
def fMM_takesSign_L13 (K27 : sT → Option (Int32 × sT)) : Nat → sT → Option (Int32 × sT)
  | 0, _ => none
  | n33 + 1, σ25 =>
    db1 (fMM_isWaiting (40 : Int32) σ25) fun r35 =>
    if r35 = 0 then
      db1 (fMM_saysWaiting σ25) fun σ38 =>
      fMM_takesSign_L13 K27 n33 σ38
    else
      K27 σ25
def fMM_takesSign (a1 : Int32) (σ : sT) : Option (Int32 × sT) :=
  dlt (fun (_u : Unit) =>
    dlt (fun (_u : Unit) =>
      dlt (fun (σ4 : sT) =>
        db1 (fMM_waitsFor a1 σ4) fun σ7 =>
        dlt (siW σ7 33 34 (1 : Int32)) fun σ8 =>
        dlt (siW σ8 33 27 ((σ8.1 33 27) + (1 : Int32))) fun σ9 =>
        some ((1 : Int32), σ9)) fun K5 =>
      fMM_takesSign_L79 a1 K5 FU σ) fun J2 =>
    if a1 = (38 : Int32) then
      J2 ()
    else
      if a1 = (124 : Int32) then
        J2 ()
      else
        some ((0 : Int32), σ)) fun J1 =>
  if a1 = (41 : Int32) then
    if (σ.1 33 33) ≤ 0 then
      J1 ()
    else
      dlt (fun (σ26 : sT) =>
        dlt (siW σ26 33 31 ((σ26.1 33 31) - (1 : Int32))) fun σ28 =>
        dlt (siW σ28 33 33 ((σ28.1 33 33) - (1 : Int32))) fun σ29 =>
        db1 (fMM_saysNots σ29) fun σ31 =>
        dlt (siW σ31 33 27 ((σ31.1 33 27) + (1 : Int32))) fun σ32 =>
        some ((1 : Int32), σ32)) fun K27 =>
      fMM_takesSign_L13 K27 FU σ
  else
    J1 ()
def fMM_isFigure (a1 : Int32) (σ : sT) : Option (Int32) :=
  if (σ.1 33 26) ≤ a1 then
    some (0 : Int32)
  else
    dck (okI a1 80) <|
    db1 (fMM_in ((σ.1 45 a1.toNatClampNeg).toInt64) (48 : Int64) (57 : Int64)) fun r4 =>
    if r4 = 0 then
      some (0 : Int32)
    else
      some (1 : Int32)
def fMM_takesNumber_L7 (K6 : Int32 → sT → Option (Int32 × sT)) : Nat → Int32 → sT → Option (Int32 × sT)
  | 0, _, _ => none
  | n11 + 1, x2, σ3 =>
    db1 (fMM_isFigure (σ3.1 33 27) σ3) fun r13 =>
    if r13 = 0 then
      K6 x2 σ3
    else
      if (2 : Int32) ≤ x2 then
        K6 x2 σ3
      else
        dck (okI (σ3.1 33 27) 80) <|
        dlt (siW σ3 33 32 ((((10 : Int32) * (σ3.1 33 32)) + (σ3.1 45 (σ3.1 33 27).toNatClampNeg)) - (48 : Int32))) fun σ17 =>
        dlt (siW σ17 33 27 ((σ17.1 33 27) + (1 : Int32))) fun σ18 =>
        fMM_takesNumber_L7 K6 n11 (x2 + (1 : Int32)) σ18
def fMM_takesNumber (σ : sT) : Option (Int32 × sT) :=
  dlt (siW σ 33 32 (0 : Int32)) fun σ1 =>
  dlt (fun (x4 : Int32) (σ5 : sT) =>
    if x4 ≤ 0 then
      some ((0 : Int32), σ5)
    else
      db1 (fMM_isFigure (σ5.1 33 27) σ5) fun r9 =>
      if r9 = 0 then
        some ((1 : Int32), σ5)
      else
        some ((0 : Int32), σ5)) fun K6 =>
  fMM_takesNumber_L7 K6 FU (0 : Int32) σ1
def fMM_takesRow (σ : sT) : Option (Int32 × sT) :=
  dlt (σ.1 33 27) fun x1 =>
  db2 (fMM_takesNumber σ) fun r3 σ4 =>
  if r3 = 0 then
    some ((0 : Int32), σ4)
  else
    db1 (fMM_isRow (σ4.1 33 32) σ4) fun r7 =>
    dlt (fun (x8 : Int32) =>
      dlt (siW σ4 33 27 x8) fun σ10 =>
      db1 (fMM_isRow (σ10.1 33 32) σ10) fun r12 =>
      dck (okZ r12) <|
      some (r12, σ10)) fun J9 =>
    if r7 = 0 then
      J9 x1
    else
      J9 (σ4.1 33 27)
def fMM_takesPart (σ : sT) : Option (Int32 × sT) :=
  db2 (fMM_here σ) fun r2 σ3 =>
  if (σ3.1 33 34) = 0 then
    db2 (fMM_takesSign r2 σ3) fun r6 σ7 =>
    dck (okZ r6) <|
    some (r6, σ7)
  else
    db1 (fMM_in r2.toInt64 (48 : Int64) (57 : Int64)) fun r10 =>
    if r10 = 0 then
      dlt (fun (x12 : Int32) =>
        if x12 = 0 then
          dck (okZ x12) <|
          some (x12, σ3)
        else
          db1 (fMM_waitsFor r2 σ3) fun σ17 =>
          dlt (fun (x18 : Int32) (x19 : Int32) =>
            dlt (siW σ17 33 33 (x18 + x19)) fun σ21 =>
            dlt (siW σ21 33 27 ((σ21.1 33 27) + (1 : Int32))) fun σ22 =>
            dck (okZ x12) <|
            some (x12, σ22)) fun J20 =>
          if r2 = (40 : Int32) then
            J20 (σ17.1 33 33) (1 : Int32)
          else
            J20 (σ17.1 33 33) (0 : Int32)) fun J13 =>
      dlt (fun (_u : Unit) =>
        J13 (1 : Int32)) fun J25 =>
      if r2 = (33 : Int32) then
        J25 ()
      else
        dlt (fun (_u : Unit) =>
          J13 (0 : Int32)) fun J27 =>
        if r2 = (40 : Int32) then
          if (8 : Int32) ≤ (σ3.1 33 33) then
            J27 ()
          else
            J25 ()
        else
          J27 ()
    else
      db2 (fMM_takesRow σ3) fun r31 σ32 =>
      if r31 = 0 then
        dck (okZ r31) <|
        some (r31, σ32)
      else
        db1 (fMM_says (σ32.1 33 32) σ32) fun σ36 =>
        db1 (fMM_saysNots σ36) fun σ38 =>
        dlt (siW σ38 33 34 (0 : Int32)) fun σ39 =>
        dck (okZ r31) <|
        some (r31, σ39)
def fMM_readsFormula_L77 (x8 : Int32) : Nat → sT → Option (Int32 × sT)
  | 0, _ => none
  | n12 + 1, σ11 =>
    if x8 = 0 then
      dck (okZ x8) <|
      some (x8, σ11)
    else
      if (σ11.1 33 31) ≤ 0 then
        dck (okZ x8) <|
        some (x8, σ11)
      else
        db1 (fMM_saysWaiting σ11) fun σ18 =>
        fMM_readsFormula_L77 x8 n12 σ18
def fMM_readsFormula_L27 (K10 : Int32 → sT → Option (Int32 × sT)) : Nat → Int32 → sT → Option (Int32 × sT)
  | 0, _, _ => none
  | n19 + 1, x6, σ7 =>
    if x6 = 0 then
      K10 x6 σ7
    else
      db2 (fMM_here σ7) fun r22 σ23 =>
      dlt (fun (_u : Unit) =>
        db2 (fMM_here σ23) fun r26 σ27 =>
        if r26 = (-1 : Int32) then
          fMM_readsFormula_L27 K10 n19 (0 : Int32) σ27
        else
          db2 (fMM_takesPart σ27) fun r30 σ31 =>
          if r30 = 0 then
            fMM_readsFormula_L27 K10 n19 (0 : Int32) σ31
          else
            fMM_readsFormula_L27 K10 n19 (1 : Int32) σ31) fun J24 =>
      if r22 = (-1 : Int32) then
        if (σ23.1 33 34) = 0 then
          if (σ23.1 33 33) ≤ 0 then
            K10 x6 σ23
          else
            J24 ()
        else
          J24 ()
      else
        J24 ()
def fMM_readsFormula (σ : sT) : Option (Int32 × sT) :=
  dlt (siW σ 33 27 (0 : Int32)) fun σ1 =>
  dlt (siW σ1 33 29 (0 : Int32)) fun σ2 =>
  dlt (siW σ2 33 31 (0 : Int32)) fun σ3 =>
  dlt (siW σ3 33 33 (0 : Int32)) fun σ4 =>
  dlt (siW σ4 33 34 (1 : Int32)) fun σ5 =>
  dlt (fun (x8 : Int32) (σ9 : sT) =>
    fMM_readsFormula_L77 x8 FU σ9) fun K10 =>
  fMM_readsFormula_L27 K10 FU (1 : Int32) σ5
def fMM_named_L4 (σ : sT) : Nat → Int32 → Int32 → Option (Int32)
  | 0, _, _ => none
  | n3 + 1, x1, x2 =>
    if (σ.1 33 29) ≤ x2 then
      some x1
    else
      dck (okI x2 160) <|
      if (σ.1 46 x2.toNatClampNeg) < 0 then
        dlt (x1 ||| (0 : Int32)) fun x7 =>
        fMM_named_L4 σ n3 x7 (x2 + (1 : Int32))
      else
        dck (okI x2 160) <|
        dlt (x1 ||| ((1 : Int32) <<< ((σ.1 46 x2.toNatClampNeg) &&& 31))) fun x9 =>
        fMM_named_L4 σ n3 x9 (x2 + (1 : Int32))
def fMM_named (σ : sT) : Option (Int32) :=
  fMM_named_L4 σ FU (0 : Int32) (0 : Int32)
def fMM_isTrue_L2 (a1 : Int32) (σ : sT) (K3 : Int32 → Option (Int32)) : Nat → Int32 → Option (Int32)
  | 0, _ => none
  | n14 + 1, x1 =>
    dck (okI x1 5) <|
    if (σ.1 43 x1.toNatClampNeg) = a1 then
      K3 x1
    else
      fMM_isTrue_L2 a1 σ K3 n14 (x1 + (1 : Int32))
def fMM_isTrue (a1 : Int32) (σ : sT) : Option (Int32) :=
  dlt (fun (x2 : Int32) =>
    db1 (fMM_at a1 (3 : Int32) σ) fun r5 =>
    if r5 = 0 then
      dck (okI x2 5) <|
      if 0 ≤ (σ.1 44 x2.toNatClampNeg) then
        some (0 : Int32)
      else
        some (1 : Int32)
    else
      if r5 = (1 : Int32) then
        dck (okI x2 5) <|
        if 0 < (σ.1 44 x2.toNatClampNeg) then
          some (0 : Int32)
        else
          some (1 : Int32)
      else
        dck (okI x2 5) <|
        if (σ.1 44 x2.toNatClampNeg) = 0 then
          some (1 : Int32)
        else
          some (0 : Int32)) fun K3 =>
  fMM_isTrue_L2 a1 σ K3 FU (0 : Int32)
def fMM_holds_L4 : Nat → Int32 → Int32 → sT → Option (Int32 × sT)
  | 0, _, _, _ => none
  | n4 + 1, x1, x2, σ3 =>
    if (σ3.1 33 29) ≤ x2 then
      dck (okI (0 : Int32) 160) <|
      dck (okZ (σ3.1 48 (0 : Int32).toNatClampNeg)) <|
      some (σ3.1 48 (0 : Int32).toNatClampNeg, σ3)
    else
      dck (okI x2 160) <|
      dlt (σ3.1 46 x2.toNatClampNeg) fun x9 =>
      if x9 < 0 then
        if x9 = (-33 : Int32) then
          dck (okI (x1 - (1 : Int32)) 160) <|
          dlt (fun (x31 : Int32) (x32 : Int32) =>
            dck (okI x31 160) <|
            dlt (siW σ3 48 x31.toNatClampNeg (vp_nar .boolean x32)) fun σ35 =>
            fMM_holds_L4 n4 x1 (x2 + (1 : Int32)) σ35) fun J33 =>
          if (σ3.1 48 (x1 - (1 : Int32)).toNatClampNeg) = 0 then
            J33 (x1 - (1 : Int32)) (1 : Int32)
          else
            J33 (x1 - (1 : Int32)) (0 : Int32)
        else
          dlt (fun (x12 : Int32) (x13 : Int32) =>
            dck (okI x12 160) <|
            dlt (siW σ3 48 x12.toNatClampNeg (vp_nar .boolean x13)) fun σ16 =>
            fMM_holds_L4 n4 (x1 + (-1 : Int32)) (x2 + (1 : Int32)) σ16) fun J14 =>
          if x9 = (-38 : Int32) then
            dck (okI ((x1 + (-1 : Int32)) - (1 : Int32)) 160) <|
            dlt (fun (x25 : Int32) =>
              J14 x25 (0 : Int32)) fun J26 =>
            if (σ3.1 48 ((x1 + (-1 : Int32)) - (1 : Int32)).toNatClampNeg) = 0 then
              J26 ((x1 + (-1 : Int32)) - (1 : Int32))
            else
              dck (okI (x1 + (-1 : Int32)) 160) <|
              if (σ3.1 48 (x1 + (-1 : Int32)).toNatClampNeg) = 0 then
                J26 ((x1 + (-1 : Int32)) - (1 : Int32))
              else
                J14 ((x1 + (-1 : Int32)) - (1 : Int32)) (1 : Int32)
          else
            dck (okI ((x1 + (-1 : Int32)) - (1 : Int32)) 160) <|
            dlt (fun (x19 : Int32) =>
              J14 x19 (1 : Int32)) fun J20 =>
            if (σ3.1 48 ((x1 + (-1 : Int32)) - (1 : Int32)).toNatClampNeg) = 0 then
              dck (okI (x1 + (-1 : Int32)) 160) <|
              if (σ3.1 48 (x1 + (-1 : Int32)).toNatClampNeg) = 0 then
                J14 ((x1 + (-1 : Int32)) - (1 : Int32)) (0 : Int32)
              else
                J20 ((x1 + (-1 : Int32)) - (1 : Int32))
            else
              J20 ((x1 + (-1 : Int32)) - (1 : Int32))
      else
        db1 (fMM_isTrue x9 σ3) fun r38 =>
        dck (okI x1 160) <|
        dlt (siW σ3 48 x1.toNatClampNeg (vp_nar .boolean r38)) fun σ40 =>
        fMM_holds_L4 n4 (x1 + (1 : Int32)) (x2 + (1 : Int32)) σ40
def fMM_holds (σ : sT) : Option (Int32 × sT) :=
  fMM_holds_L4 FU (0 : Int32) (0 : Int32) σ
def fMM_formulaOf_L4 (a1 : Int32) : Nat → Int32 → Int32 → sT → Option (Int32 × sT)
  | 0, _, _, _ => none
  | n4 + 1, x1, x2, σ3 =>
    db1 (fMM_many σ3) fun r6 =>
    if r6 ≤ x2 then
      some (x1, σ3)
    else
      db2 (fMM_canSides x2 σ3) fun r9 σ10 =>
      if r9 = 0 then
        dlt (x1 + (0 : Int32)) fun x12 =>
        fMM_formulaOf_L4 a1 n4 x12 (x2 + (1 : Int32)) σ10
      else
        if a1 = (1 : Int32) then
          dlt (x1 + (1 : Int32)) fun x14 =>
          fMM_formulaOf_L4 a1 n4 x14 (x2 + (1 : Int32)) σ10
        else
          db2 (fMM_holds σ10) fun r16 σ17 =>
          if r16 = 0 then
            dlt (x1 + (0 : Int32)) fun x19 =>
            fMM_formulaOf_L4 a1 n4 x19 (x2 + (1 : Int32)) σ17
          else
            dlt (x1 + (1 : Int32)) fun x20 =>
            fMM_formulaOf_L4 a1 n4 x20 (x2 + (1 : Int32)) σ17
def fMM_formulaOf (a1 : Int32) (σ : sT) : Option (Int32 × sT) :=
  fMM_formulaOf_L4 a1 FU (0 : Int32) (0 : Int32) σ
def fMM_formula (a1 : Int32) (σ : sT) : Option (Int32 × sT) :=
  db1 (fMM_in a1.toInt64 (0 : Int64) (2 : Int64)) fun r2 =>
  if r2 = 0 then
    db2 (fMM_refuses (-1000002 : Int32) σ) fun r23 σ24 =>
    some (r23, σ24)
  else
    db2 (fMM_readsFormula σ) fun r5 σ6 =>
    if r5 = 0 then
      some ((-10 : Int32) - (σ6.1 33 27), σ6)
    else
      db1 (fMM_named σ6) fun r9 =>
      db1 (fMM_ones r9) fun r11 =>
      if r11 ≤ (5 : Int32) then
        db1 (fMM_laysSides r9 σ6) fun σ14 =>
        if a1 = (2 : Int32) then
          some (r9, σ14)
        else
          db2 (fMM_formulaOf a1 σ14) fun r17 σ18 =>
          some (r17, σ18)
      else
        db2 (fMM_refuses (-1000003 : Int32) σ6) fun r20 σ21 =>
        some (r20, σ21)
def fMM_type (a1 : Int32) (σ : sT) : Option (Int32 × sT) :=
  db1 (fMM_in a1.toInt64 (0 : Int64) (127 : Int64)) fun r2 =>
  if r2 = 0 then
    db2 (fMM_refuses (-1000002 : Int32) σ) fun r12 σ13 =>
    some (r12, σ13)
  else
    if (σ.1 33 26) = (80 : Int32) then
      db2 (fMM_refuses (-1000004 : Int32) σ) fun r9 σ10 =>
      some (r9, σ10)
    else
      dck (okI (σ.1 33 26) 80) <|
      dlt (siW σ 45 (σ.1 33 26).toNatClampNeg a1) fun σ6 =>
      dlt (siW σ6 33 26 ((σ6.1 33 26) + (1 : Int32))) fun σ7 =>
      some (σ7.1 33 26, σ7)
def fMM_clear (σ : sT) : Option (Int32 × sT) :=
  dlt (σ.1 33 26) fun x1 =>
  dlt (siW σ 33 26 (0 : Int32)) fun σ2 =>
  some (x1, σ2)
def fMM_takesTerm (a1 : Int32) (σ : sT) : Option (Int32 × sT) :=
  db2 (fMM_here σ) fun r2 σ3 =>
  dlt (fun (x4 : Int32) =>
    dlt (fun (_u : Unit) =>
      dlt (fun (x7 : Int32) (x8 : Int32) =>
        dlt (siW σ3 33 27 (x7 + x8)) fun σ10 =>
        db2 (fMM_here σ10) fun r12 σ13 =>
        db1 (fMM_in r12.toInt64 (49 : Int64) (53 : Int64)) fun r15 =>
        dlt (fun (x16 : Int32) (x17 : Int32) =>
          dlt (siW σ13 33 27 (x16 + x17)) fun σ19 =>
          db2 (fMM_here σ19) fun r21 σ22 =>
          dlt (r21 - (120 : Int32)) fun x23 =>
          db1 (fMM_in x23.toInt64 (0 : Int64) (2 : Int64)) fun r25 =>
          if r25 = 0 then
            some ((0 : Int32), σ22)
          else
            dck (okI x23 5) <|
            if (σ22.1 49 x23.toNatClampNeg) = 0 then
              dlt (siW σ22 33 27 ((σ22.1 33 27) + (1 : Int32))) fun σ29 =>
              dlt (fun (x30 : Int32) =>
                dlt (fun (x32 : Int32) (x33 : Int32) =>
                  dck (okI x32 5) <|
                  dlt (siW σ29 49 x32.toNatClampNeg x33) fun σ36 =>
                  some ((1 : Int32), σ36)) fun J34 =>
                if r2 = (45 : Int32) then
                  J34 x23 (-x30)
                else
                  J34 x23 x30) fun J31 =>
              if r15 = 0 then
                J31 (1 : Int32)
              else
                J31 (r12 - (48 : Int32))
            else
              some ((0 : Int32), σ22)) fun J18 =>
        if r15 = 0 then
          J18 (σ13.1 33 27) (0 : Int32)
        else
          J18 (σ13.1 33 27) (1 : Int32)) fun J9 =>
      if x4 = 0 then
        J9 (σ3.1 33 27) (0 : Int32)
      else
        J9 (σ3.1 33 27) (1 : Int32)) fun J6 =>
    if x4 = 0 then
      if a1 = 0 then
        some ((0 : Int32), σ3)
      else
        J6 ()
    else
      J6 ()) fun J5 =>
  dlt (fun (_u : Unit) =>
    J5 (1 : Int32)) fun J43 =>
  if r2 = (45 : Int32) then
    J43 ()
  else
    dlt (fun (_u : Unit) =>
      J5 (0 : Int32)) fun J45 =>
    if r2 = (43 : Int32) then
      if a1 = 0 then
        J43 ()
      else
        J45 ()
    else
      J45 ()
def fMM_takesTerms_L27 : Nat → Int32 → sT → Option (Int32 × sT)
  | 0, _, _ => none
  | n10 + 1, x8, σ9 =>
    if x8 = 0 then
      dck (okZ x8) <|
      some (x8, σ9)
    else
      db2 (fMM_here σ9) fun r14 σ15 =>
      if r14 = (60 : Int32) then
        dck (okZ x8) <|
        some (x8, σ15)
      else
        db2 (fMM_here σ15) fun r19 σ20 =>
        if r19 = (61 : Int32) then
          dck (okZ x8) <|
          some (x8, σ20)
        else
          db2 (fMM_takesTerm (0 : Int32) σ20) fun r24 σ25 =>
          fMM_takesTerms_L27 n10 r24 σ25
def fMM_takesTerms (σ : sT) : Option (Int32 × sT) :=
  db2 (fMM_here σ) fun r2 σ3 =>
  if r2 = (48 : Int32) then
    dlt (siW σ3 33 27 ((σ3.1 33 27) + (1 : Int32))) fun σ26 =>
    some ((1 : Int32), σ26)
  else
    db2 (fMM_takesTerm (1 : Int32) σ3) fun r6 σ7 =>
    fMM_takesTerms_L27 FU r6 σ7
def fMM_takesKind (σ : sT) : Option (Int32 × sT) :=
  db2 (fMM_here σ) fun r2 σ3 =>
  dlt (fun (_u : Unit) =>
    dlt (siW σ3 33 27 ((σ3.1 33 27) + (1 : Int32))) fun σ5 =>
    dlt (fun (x6 : Int32) =>
      dlt (fun (x8 : Int32) (x9 : Int32) =>
        dlt (siW σ5 33 27 (x8 + x9)) fun σ11 =>
        dlt (fun (x12 : Int32) (x13 : Int32) =>
          dck (okI x12 5) <|
          dlt (siW σ11 49 x12.toNatClampNeg x13) fun σ16 =>
          some ((1 : Int32), σ16)) fun J14 =>
        if r2 = (61 : Int32) then
          J14 (3 : Int32) (2 : Int32)
        else
          if x6 = 0 then
            J14 (3 : Int32) (0 : Int32)
          else
            J14 (3 : Int32) (1 : Int32)) fun J10 =>
      if x6 = 0 then
        J10 (σ5.1 33 27) (0 : Int32)
      else
        J10 (σ5.1 33 27) (1 : Int32)) fun J7 =>
    dlt (fun (_u : Unit) =>
      J7 (0 : Int32)) fun J20 =>
    if r2 = (60 : Int32) then
      if (σ5.1 33 26) ≤ (σ5.1 33 27) then
        J20 ()
      else
        dck (okI (σ5.1 33 27) 80) <|
        if (σ5.1 45 (σ5.1 33 27).toNatClampNeg) = (61 : Int32) then
          J7 (1 : Int32)
        else
          J20 ()
    else
      J20 ()) fun J4 =>
  if r2 = (60 : Int32) then
    J4 ()
  else
    if r2 = (61 : Int32) then
      J4 ()
    else
      some ((0 : Int32), σ3)
def fMM_takesBound (σ : sT) : Option (Int32 × sT) :=
  db2 (fMM_here σ) fun r2 σ3 =>
  dlt (fun (x4 : Int32) =>
    dlt (fun (x6 : Int32) (x7 : Int32) =>
      dlt (siW σ3 33 27 (x6 + x7)) fun σ9 =>
      db2 (fMM_here σ9) fun r11 σ12 =>
      dlt (σ12.1 33 27) fun x13 =>
      db2 (fMM_takesNumber σ12) fun r15 σ16 =>
      if r15 = 0 then
        some ((0 : Int32), σ16)
      else
        dlt (fun (x18 : Int32) =>
          dlt (siW σ16 33 27 x18) fun σ20 =>
          dlt (fun (x21 : Int32) (x22 : Int32) =>
            dck (okI x21 5) <|
            dlt (siW σ20 49 x21.toNatClampNeg x22) fun σ25 =>
            if (50 : Int32) < (σ25.1 33 32) then
              some ((0 : Int32), σ25)
            else
              some ((1 : Int32), σ25)) fun J23 =>
          if x4 = 0 then
            J23 (4 : Int32) (σ20.1 33 32)
          else
            J23 (4 : Int32) (-(σ20.1 33 32))) fun J19 =>
        if (σ16.1 33 32) ≤ (50 : Int32) then
          J19 (σ16.1 33 27)
        else
          J19 x13) fun J8 =>
    if x4 = 0 then
      J8 (σ3.1 33 27) (0 : Int32)
    else
      J8 (σ3.1 33 27) (1 : Int32)) fun J5 =>
  if r2 = (45 : Int32) then
    J5 (1 : Int32)
  else
    J5 (0 : Int32)
def fMM_readsOrder_L2 (K4 : sT → Option (Int32 × sT)) : Nat → Int32 → sT → Option (Int32 × sT)
  | 0, _, _ => none
  | n22 + 1, x1, σ2 =>
    if (5 : Int32) ≤ x1 then
      K4 σ2
    else
      dck (okI x1 5) <|
      dlt (siW σ2 49 x1.toNatClampNeg (0 : Int32)) fun σ25 =>
      fMM_readsOrder_L2 K4 n22 (x1 + (1 : Int32)) σ25
def fMM_readsOrder (σ : sT) : Option (Int32 × sT) :=
  dlt (fun (σ3 : sT) =>
    db2 (fMM_takesTerms σ3) fun r6 σ7 =>
    if r6 = 0 then
      some ((0 : Int32), σ7)
    else
      db2 (fMM_takesKind σ7) fun r10 σ11 =>
      if r10 = 0 then
        some ((0 : Int32), σ11)
      else
        db2 (fMM_takesBound σ11) fun r14 σ15 =>
        if r14 = 0 then
          some ((0 : Int32), σ15)
        else
          db2 (fMM_here σ15) fun r18 σ19 =>
          if r18 = (59 : Int32) then
            dlt (siW σ19 33 27 ((σ19.1 33 27) + (1 : Int32))) fun σ21 =>
            some ((1 : Int32), σ21)
          else
            some ((0 : Int32), σ19)) fun K4 =>
  fMM_readsOrder_L2 K4 FU (0 : Int32) σ
def fMM_reads_L78 (x8 : Int32) : Nat → Int32 → sT → Option (Int32 × sT)
  | 0, _, _ => none
  | n20 + 1, x18, σ19 =>
    if x8 ≤ x18 then
      some (x8, σ19)
    else
      db2 (fMM_readsOrder σ19) fun r23 σ24 =>
      dck (okI (0 : Int32) 5) <|
      dck (okI (1 : Int32) 5) <|
      dck (okI (2 : Int32) 5) <|
      dck (okI (3 : Int32) 5) <|
      dck (okI (4 : Int32) 5) <|
      db2 (fMM_rowNow (σ24.1 49 (0 : Int32).toNatClampNeg) (σ24.1 49 (1 : Int32).toNatClampNeg) (σ24.1 49 (2 : Int32).toNatClampNeg) (σ24.1 49 (3 : Int32).toNatClampNeg) (σ24.1 49 (4 : Int32).toNatClampNeg) (0 : Int32) σ24) fun r31 σ32 =>
      fMM_reads_L78 x8 n20 (x18 + (1 : Int32)) σ32
def fMM_reads_L12 (K11 : Int32 → Int32 → sT → Option (Int32 × sT)) : Nat → Int32 → Int32 → sT → Option (Int32 × sT)
  | 0, _, _, _ => none
  | n36 + 1, x5, x6, σ7 =>
    if x6 = 0 then
      K11 x5 x6 σ7
    else
      db2 (fMM_here σ7) fun r39 σ40 =>
      if r39 = (-1 : Int32) then
        K11 x5 x6 σ40
      else
        db2 (fMM_readsOrder σ40) fun r43 σ44 =>
        fMM_reads_L12 K11 n36 (x5 + (1 : Int32)) r43 σ44
def fMM_reads (σ : sT) : Option (Int32 × sT) :=
  dlt (siW σ 33 27 (0 : Int32)) fun σ1 =>
  db2 (fMM_readsOrder σ1) fun r3 σ4 =>
  dlt (fun (x8 : Int32) (x9 : Int32) (σ10 : sT) =>
    if x9 = 0 then
      some ((-10 : Int32) - (σ10.1 33 27), σ10)
    else
      dck (okI (0 : Int32) 73) <|
      if ((σ10.1 34 (0 : Int32).toNatClampNeg) + x8) ≤ (12 : Int32) then
        db1 (fMM_keep σ10) fun σ16 =>
        dlt (siW σ16 33 27 (0 : Int32)) fun σ17 =>
        fMM_reads_L78 x8 FU (0 : Int32) σ17
      else
        db2 (fMM_refuses (-1000004 : Int32) σ10) fun r34 σ35 =>
        some (r34, σ35)) fun K11 =>
  fMM_reads_L12 K11 FU (1 : Int32) r3 σ4
def fMM_writes (a1 : Int32) (σ : sT) : Option (sT) :=
  dck (okI (σ.1 33 38) 20) <|
  dlt (siW σ 50 (σ.1 33 38).toNatClampNeg a1) fun σ2 =>
  dlt (siW σ2 33 38 ((σ2.1 33 38) + (1 : Int32))) fun σ3 =>
  some σ3
def fMM_writesNumber (a1 : Int32) (σ : sT) : Option (sT) :=
  dlt (fun (σ1 : sT) =>
    db1 (fMM_writes ((48 : Int32) + (a1 - a1 / (10 : Int32) * (10 : Int32))) σ1) fun σ4 =>
    some σ4) fun J2 =>
  if a1 ≤ (9 : Int32) then
    J2 σ
  else
    db1 (fMM_writes ((48 : Int32) + (a1 / (10 : Int32))) σ) fun σ7 =>
    J2 σ7
def fMM_writesRow_L7 (a1 : Int32) (K5 : sT → Option (sT)) : Nat → Int32 → sT → Option (sT)
  | 0, _, _ => none
  | n43 + 1, x2, σ3 =>
    if (3 : Int32) ≤ x2 then
      K5 σ3
    else
      db1 (fMM_at a1 x2 σ3) fun r46 =>
      if r46 = 0 then
        fMM_writesRow_L7 a1 K5 n43 (x2 + (1 : Int32)) σ3
      else
        dlt (fun (σ48 : sT) =>
          dlt (fun (σ50 : sT) =>
            db1 (fMM_writes ((120 : Int32) + x2) σ50) fun σ53 =>
            fMM_writesRow_L7 a1 K5 n43 (x2 + (1 : Int32)) σ53) fun J51 =>
          dlt (fun (_u : Unit) =>
            dlt (fun (x55 : Int32) =>
              db1 (fMM_writesNumber x55 σ48) fun σ58 =>
              J51 σ58) fun J56 =>
            if 0 ≤ r46 then
              J56 r46
            else
              J56 (-r46)) fun J54 =>
          if (1 : Int32) < r46 then
            J54 ()
          else
            if (-1 : Int32) ≤ r46 then
              J51 σ48
            else
              J54 ()) fun J49 =>
        if 0 ≤ r46 then
          if (σ3.1 33 38) ≤ 0 then
            J49 σ3
          else
            db1 (fMM_writes (43 : Int32) σ3) fun σ65 =>
            J49 σ65
        else
          db1 (fMM_writes (45 : Int32) σ3) fun σ67 =>
          J49 σ67
def fMM_writesRow (a1 : Int32) (σ : sT) : Option (sT) :=
  dlt (siW σ 33 38 (0 : Int32)) fun σ1 =>
  dlt (fun (σ4 : sT) =>
    dlt (fun (σ6 : sT) =>
      db1 (fMM_at a1 (3 : Int32) σ6) fun r9 =>
      dlt (fun (x10 : Int32) =>
        db1 (fMM_writes x10 σ6) fun σ13 =>
        db1 (fMM_at a1 (3 : Int32) σ13) fun r15 =>
        dlt (fun (σ16 : sT) =>
          db1 (fMM_at a1 (4 : Int32) σ16) fun r19 =>
          dlt (fun (σ20 : sT) =>
            db1 (fMM_at a1 (4 : Int32) σ20) fun r23 =>
            dlt (fun (x24 : Int32) =>
              db1 (fMM_writesNumber x24 σ20) fun σ27 =>
              some σ27) fun J25 =>
            if 0 ≤ r23 then
              db1 (fMM_at a1 (4 : Int32) σ20) fun r30 =>
              J25 r30
            else
              db1 (fMM_at a1 (4 : Int32) σ20) fun r32 =>
              J25 (-r32)) fun J21 =>
          if 0 ≤ r19 then
            J21 σ16
          else
            db1 (fMM_writes (45 : Int32) σ16) fun σ35 =>
            J21 σ35) fun J17 =>
        if r15 = (1 : Int32) then
          db1 (fMM_writes (61 : Int32) σ13) fun σ38 =>
          J17 σ38
        else
          J17 σ13) fun J11 =>
      if r9 = (2 : Int32) then
        J11 (61 : Int32)
      else
        J11 (60 : Int32)) fun J7 =>
    if (σ4.1 33 38) = 0 then
      db1 (fMM_writes (48 : Int32) σ4) fun σ42 =>
      J7 σ42
    else
      J7 σ4) fun K5 =>
  fMM_writesRow_L7 a1 K5 FU (0 : Int32) σ1
def fMM_shownOf (a1 : Int32) (a2 : Int32) (σ : sT) : Option (Int32 × sT) :=
  db1 (fMM_writesRow a1 σ) fun σ2 =>
  if (σ2.1 33 38) ≤ a2 then
    some ((-1000001 : Int32), σ2)
  else
    dck (okI a2 20) <|
    some (σ2.1 50 a2.toNatClampNeg, σ2)
def fMM_shown (a1 : Int32) (a2 : Int32) (σ : sT) : Option (Int32 × sT) :=
  db1 (fMM_isRow a1 σ) fun r2 =>
  dlt (fun (_u : Unit) =>
    db2 (fMM_refuses (-1000002 : Int32) σ) fun r5 σ6 =>
    some (r5, σ6)) fun J3 =>
  if r2 = 0 then
    J3 ()
  else
    if a2 < 0 then
      J3 ()
    else
      db2 (fMM_shownOf a1 a2 σ) fun r10 σ11 =>
      some (r10, σ11)
def fMM_back_L26 : Nat → Int32 → sT → Option (Int32 × sT)
  | 0, _, _ => none
  | n5 + 1, x3, σ4 =>
    if (73 : Int32) ≤ x3 then
      some (σ4.1 33 2, σ4)
    else
      dck (okI (((73 : Int32) * (σ4.1 33 2)) + x3) 438) <|
      dck (okI x3 73) <|
      dlt (siW σ4 34 x3.toNatClampNeg (σ4.1 35 (((73 : Int32) * (σ4.1 33 2)) + x3).toNatClampNeg)) fun σ9 =>
      fMM_back_L26 n5 (x3 + (1 : Int32)) σ9
def fMM_back (σ : sT) : Option (Int32 × sT) :=
  if (σ.1 33 2) = 0 then
    db2 (fMM_refuses (-1000003 : Int32) σ) fun r11 σ12 =>
    some (r11, σ12)
  else
    dlt (siW σ 33 2 ((σ.1 33 2) - (1 : Int32))) fun σ2 =>
    fMM_back_L26 FU (0 : Int32) σ2
def fMM_toldOf (a1 : Int32) (σ : sT) : Option (Int32) :=
  if (3 : Int32) ≤ a1 then
    if a1 = (3 : Int32) then
      some (σ.1 33 26)
    else
      if a1 = (4 : Int32) then
        dck (okI (0 : Int32) 73) <|
        some (σ.1 34 (0 : Int32).toNatClampNeg)
      else
        some (σ.1 33 2)
  else
    dck (okI a1 3) <|
    some (σ.1 36 a1.toNatClampNeg)
def fMM_told (a1 : Int32) (σ : sT) : Option (Int32 × sT) :=
  db1 (fMM_in a1.toInt64 (0 : Int64) (5 : Int64)) fun r2 =>
  if r2 = 0 then
    db2 (fMM_refuses (-1000002 : Int32) σ) fun r5 σ6 =>
    some (r5, σ6)
  else
    db1 (fMM_toldOf a1 σ) fun r8 =>
    some (r8, σ)
def fMM_digest_L181 (r22 : Int32) : Nat → Int64 → Int32 → sT → Option (Int64 × sT)
  | 0, _, _, _ => none
  | n28 + 1, x25, x26, σ27 =>
    dck (okI (0 : Int32) 73) <|
    if (σ27.1 34 (0 : Int32).toNatClampNeg) ≤ x26 then
      some (x25, σ27)
    else
      db2 (fMM_timesOf r22 x26 σ27) fun r32 σ33 =>
      dlt (((31 : Int64) * x25) + r32.toInt64) fun x34 =>
      fMM_digest_L181 r22 n28 x34 (x26 + (1 : Int32)) σ33
def fMM_digest_L129 (σ44 : sT) : Nat → Int64 → Int32 → Option (Int64 × sT)
  | 0, _, _ => none
  | n47 + 1, x45, x46 =>
    if (6 : Int32) ≤ x46 then
      some (x45, σ44)
    else
      dck (okI x46 6) <|
      dlt (((31 : Int64) * x45) + (σ44.2 40 x46.toNatClampNeg)) fun x50 =>
      fMM_digest_L129 σ44 n47 x50 (x46 + (1 : Int32))
def fMM_digest_L33 (σ : sT) (K8 : Int64 → Option (Int64 × sT)) : Nat → Int64 → Int32 → Option (Int64 × sT)
  | 0, _, _ => none
  | n52 + 1, x5, x6 =>
    dck (okI (0 : Int32) 73) <|
    if ((6 : Int32) * (σ.1 34 (0 : Int32).toNatClampNeg)) ≤ x6 then
      K8 x5
    else
      db1 (fMM_at (x6 / (6 : Int32)) (x6 - x6 / (6 : Int32) * (6 : Int32)) σ) fun r56 =>
      dlt (((31 : Int64) * x5) + r56.toInt64) fun x57 =>
      fMM_digest_L33 σ K8 n52 x57 (x6 + (1 : Int32))
def fMM_digest_L6 (σ : sT) (K4 : Int64 → Option (Int64 × sT)) : Nat → Int64 → Int32 → Option (Int64 × sT)
  | 0, _, _ => none
  | n58 + 1, x1, x2 =>
    if (6 : Int32) ≤ x2 then
      K4 x1
    else
      db1 (fMM_toldOf x2 σ) fun r61 =>
      dlt (((31 : Int64) * x1) + r61.toInt64) fun x62 =>
      fMM_digest_L6 σ K4 n58 x62 (x2 + (1 : Int32))
def fMM_digest (σ : sT) : Option (Int64 × sT) :=
  dlt (fun (x3 : Int64) =>
    dlt (fun (x7 : Int64) =>
      db1 (fMM_every σ) fun r10 =>
      db2 (fMM_canSet r10 σ) fun r12 σ13 =>
      dlt (fun (x14 : Int64) (x15 : Int32) =>
        dlt (x14 + x15.toInt64) fun x17 =>
        if r12 = 0 then
          db1 (fMM_every σ13) fun r20 =>
          db2 (fMM_coreOf r20 σ13) fun r22 σ23 =>
          dlt (((31 : Int64) * x17) + r22.toInt64) fun x24 =>
          fMM_digest_L181 r22 FU x24 (0 : Int32) σ23
        else
          db1 (fMM_every σ13) fun r36 =>
          db2 (fMM_dimensionOf r36 σ13) fun r38 σ39 =>
          dlt (((31 : Int64) * x17) + r38.toInt64) fun x40 =>
          db1 (fMM_every σ39) fun r42 =>
          db1 (fMM_findsPoint r42 σ39) fun σ44 =>
          fMM_digest_L129 σ44 FU x40 (0 : Int32)) fun J16 =>
      if r12 = 0 then
        J16 ((31 : Int64) * x7) (0 : Int32)
      else
        J16 ((31 : Int64) * x7) (1 : Int32)) fun K8 =>
    fMM_digest_L33 σ K8 FU x3 (0 : Int32)) fun K4 =>
  fMM_digest_L6 σ K4 FU (2341 : Int64) (0 : Int32)
