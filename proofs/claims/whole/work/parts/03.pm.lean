noncomputable def jJ7_fill_53178 (p0 : Nat) (p1 : Int32) (M : qM) : Option qM :=
  qlt (Int32.ofNat (q_al p0) : Int32) fun x1 =>
  (qlp (σ := (Int32 × qM)) (ρ := qM) (
    fun q => qu2 q fun x2 M3 =>
    if (x1 : Int32) ≤ (x2 : Int32) then
      some (.inr M3)
    else
      (qwI M3 p0 (q_al p0) x2 p1).bind fun M6 =>
      qlt (x2 + 1 : Int32) fun x7 =>
      some (.inl (x7, M6))) (0, M)).bind fun M4 =>
  some M4

noncomputable def jJ7_fill_d0a16 (p0 : Nat) (p1 : Int64) (M : qM) : Option qM :=
  qlt (Int32.ofNat (q_al p0) : Int32) fun x1 =>
  (qlp (σ := (Int32 × qM)) (ρ := qM) (
    fun q => qu2 q fun x2 M3 =>
    if (x1 : Int32) ≤ (x2 : Int32) then
      some (.inr M3)
    else
      (qwJ M3 p0 (q_al p0) x2 p1).bind fun M6 =>
      qlt (x2 + 1 : Int32) fun x7 =>
      some (.inl (x7, M6))) (0, M)).bind fun M4 =>
  some M4

noncomputable def jJ7_rangeCheck_23922 (p0 : Int32) (p1 : Int32) (p2 : Int32) : Option Unit :=
  if (p1 : Int32) ≤ (p2 : Int32) then
    if (0 : Int32) ≤ (p1 : Int32) then
      if (p2 : Int32) ≤ (p0 : Int32) then
        some ()
      else
        none
    else
      none
  else
    none

noncomputable def jJ7_fill_fda19 (p0 : Nat) (p1 : Int32) (p2 : Int32) (p3 : Int32) (M : qM) : Option qM :=
  (jJ7_rangeCheck_23922 (Int32.ofNat (q_al p0)) p1 p2).bind fun u1 =>
  (qlp (σ := (Int32 × qM)) (ρ := qM) (
    fun q => qu2 q fun x2 M3 =>
    if (p2 : Int32) ≤ (x2 : Int32) then
      some (.inr M3)
    else
      (qwI M3 p0 (q_al p0) x2 p3).bind fun M6 =>
      qlt (x2 + 1 : Int32) fun x7 =>
      some (.inl (x7, M6))) (p1, M)).bind fun M4 =>
  some M4

noncomputable def jTc_isOf (p0 : Int32) (p1 : Int32) : Bool :=
  qlt ((
    if (p0 : Int32) < (0 : Int32) then
      false
    else
      if (p1 : Int32) ≤ (p0 : Int32) then
        false
      else
        true) : Bool) fun z1 =>
  z1

noncomputable def jTp_bytesOf (p0 : Int32) : Option Int32 :=
  (qlp (σ := (Int32 × Int32)) (ρ := Int32) (
    fun q => qu2 q fun x1 x2 =>
    if (x2 : Int32) < (0 : Int32) then
      some (.inr x1)
    else
      qlt ((
        if ((((p0 : Int32).toUInt32 >>> ((x2 : Int32).toUInt32 &&& Int32.toUInt32 31)).toInt32) &&& 255 : Int32) = (0 : Int32) then
          x1
        else
          qlt (x1 + 1 : Int32) fun x7 =>
          x7) : Int32) fun x5 =>
      qlt (x2 + (-8) : Int32) fun x6 =>
      some (.inl (x5, x6))) (0, 24)).bind fun x3 =>
  some x3

noncomputable def jTp_add (p0 : Int32) (M : qM) : Option qM :=
  (qlp (σ := (Int32 × qM)) (ρ := qM) (
    fun q => qu2 q fun x1 M2 =>
    if (x1 : Int32) < (0 : Int32) then
      some (.inr M2)
    else
      qlt ((((p0 : Int32).toUInt32 >>> ((x1 : Int32).toUInt32 &&& Int32.toUInt32 31)).toInt32) &&& 255 : Int32) fun x5 =>
      ((
        if (x5 : Int32) = (0 : Int32) then
          some M2
        else
          if (160 : Int32) ≤ (M2.1 1 1 : Int32) then
            some M2
          else
            (qwI M2 2 160 (M2.1 1 1) x5).bind fun M8 =>
            qlt (qI M8 1 1 ((M8.1 1 1) + 1)) fun M9 =>
            some M9) : Option qM).bind fun M6 =>
      qlt (x1 + (-8) : Int32) fun x7 =>
      some (.inl (x7, M6))) (24, M)).bind fun M3 =>
  some M3

noncomputable def jTp_rewind (M : qM) : qM :=
  qlt (qI M 1 2 0) fun M1 =>
  qlt (qI M1 1 3 (-1)) fun M2 =>
  M2

noncomputable def jTp_next (M : qM) : Option Int32 :=
  ((
    if (M.1 1 2 : Int32) < (0 : Int32) then
      some (-1)
    else
      if (M.1 1 1 : Int32) ≤ (M.1 1 2 : Int32) then
        some (-1)
      else
        if (160 : Int32) ≤ (M.1 1 2 : Int32) then
          some (-1)
        else
          (qrI M 2 160 (M.1 1 2)).bind fun v2 =>
          some v2) : Option Int32).bind fun x1 =>
  some x1

noncomputable def jTp_peek (M : qM) : Option (Int32 × qM) :=
  (qlp (σ := qM) (ρ := qM) (
    fun M1 =>
    if (M1.1 1 1 : Int32) ≤ (M1.1 1 2 : Int32) then
      some (.inr M1)
    else
      (jTp_next M1).bind fun r5 =>
      if (r5 : Int32) = (32 : Int32) then
        qlt (qI M1 1 2 ((M1.1 1 2) + 1)) fun M6 =>
        some (.inl M6)
      else
        some (.inr M1)) M).bind fun M2 =>
  (jTp_next M2).bind fun r4 =>
  some (r4, M2)

noncomputable def jTp_fail (p0 : Int32) (M : qM) : Bool × qM :=
  qlt (qI M 1 3 p0) fun M1 =>
  (false, M1)

noncomputable def jTp_take (p0 : Int32) (M : qM) : Option (Bool × qM) :=
  (jTp_peek M).bind fun p1 =>
  qu2 p1 fun r2 M3 =>
  if (r2 : Int32) = (p0 : Int32) then
    qlt (qI M3 1 2 ((M3.1 1 2) + 1)) fun M4 =>
    some (true, M4)
  else
    qlt (jTp_fail (M3.1 1 2) M3) fun p5 =>
    qu2 p5 fun r6 M7 =>
    some (r6, M7)

noncomputable def jTp_isDigit (p0 : Int32) : Bool :=
  qlt ((
    if (p0 : Int32) < (48 : Int32) then
      false
    else
      if (57 : Int32) < (p0 : Int32) then
        false
      else
        true) : Bool) fun z1 =>
  z1

noncomputable def jTp_takeNumber (p0 : Int32) (M : qM) : Option (Int32 × qM) :=
  (jTp_peek M).bind fun p1 =>
  qu2 p1 fun r2 M3 =>
  if (b2i (jTp_isDigit r2) : Int32) = (0 : Int32) then
    qlt (jTp_fail (M3.1 1 2) M3) fun p19 =>
    qu2 p19 fun r20 M21 =>
    some ((-1), M21)
  else
    (qlp (σ := (Int32 × Int32 × qM)) (ρ := (Int32 × qM)) (
      fun q => qu3 q fun x4 x5 M6 =>
      if (p0 : Int32) ≤ (x5 : Int32) then
        some (.inr (x4, M6))
      else
        (jTp_next M6).bind fun r14 =>
        if (b2i (jTp_isDigit r14) : Int32) = (0 : Int32) then
          some (.inr (x4, M6))
        else
          (jTp_next M6).bind fun r15 =>
          qlt (((x4 * 10) + r15) - 48 : Int32) fun x16 =>
          qlt (qI M6 1 2 ((M6.1 1 2) + 1)) fun M17 =>
          qlt (x5 + 1 : Int32) fun x18 =>
          some (.inl (x16, x18, M17))) (0, 0, M3)).bind fun r9 =>
    qu2 r9 fun x7 M8 =>
    (jTp_next M8).bind fun r10 =>
    if (b2i (jTp_isDigit r10) : Int32) = (0 : Int32) then
      some (x7, M8)
    else
      qlt (jTp_fail (M8.1 1 2) M8) fun p11 =>
      qu2 p11 fun r12 M13 =>
      some ((-1), M13)

