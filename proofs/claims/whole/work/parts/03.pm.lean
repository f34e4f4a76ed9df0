noncomputable def jJ7_fill_53178 (p0 : Nat) (p1 : Int32) (M : qM) : Option qM :=
  qlt (Int32.ofNat (q_al p0) : Int32) fun x1 =>
  (qlp (σ := (Int32 × qM)) (ρ := qM) (
    fun q => qu2 q fun x2 M3 =>
    if (x1 : Int32) ≤ (x2 : Int32) then
      some (.inr M3)
    else
      (qwI M3 p0 (q_al p0) x2 p1).bind fun M6 =>
      qlt (x2 + 1 : Int32) fun x7 =>
      some (.inl (x7, M6))) (0, M)).bind fun M4 =>
  some M4

noncomputable def jJ7_fill_d0a16 (p0 : Nat) (p1 : Int64) (M : qM) : Option qM :=
  qlt (Int32.ofNat (q_al p0) : Int32) fun x1 =>
  (qlp (σ := (Int32 × qM)) (ρ := qM) (
    fun q => qu2 q fun x2 M3 =>
    if (x1 : Int32) ≤ (x2 : Int32) then
      some (.inr M3)
    else
      (qwJ M3 p0 (q_al p0) x2 p1).bind fun M6 =>
      qlt (x2 + 1 : Int32) fun x7 =>
      some (.inl (x7, M6))) (0, M)).bind fun M4 =>
  some M4

noncomputable def jJ7_rangeCheck_23922 (p0 : Int32) (p1 : Int32) (p2 : Int32) : Option Unit :=
  if (p1 : Int32) ≤ (p2 : Int32) then
    if (0 : Int32) ≤ (p1 : Int32) then
      if (p2 : Int32) ≤ (p0 : Int32) then
        some ()
      else
        none
    else
      none
  else
    none

noncomputable def jJ7_fill_fda19 (p0 : Nat) (p1 : Int32) (p2 : Int32) (p3 : Int32) (M : qM) : Option qM :=
  (jJ7_rangeCheck_23922 (Int32.ofNat (q_al p0)) p1 p2).bind fun u1 =>
  (qlp (σ := (Int32 × qM)) (ρ := qM) (
    fun q => qu2 q fun x2 M3 =>
    if (p2 : Int32) ≤ (x2 : Int32) then
      some (.inr M3)
    else
      (qwI M3 p0 (q_al p0) x2 p3).bind fun M6 =>
      qlt (x2 + 1 : Int32) fun x7 =>
      some (.inl (x7, M6))) (p1, M)).bind fun M4 =>
  some M4

noncomputable def jTc_isOf (p0 : Int32) (p1 : Int32) : Bool :=
  qlt ((
    if (p0 : Int32) < (0 : Int32) then
      false
    else
      if (p1 : Int32) ≤ (p0 : Int32) then
        false
      else
        true) : Bool) fun z1 =>
  z1

noncomputable def jJ1_canEncode_9a6ad (p0 : Int32) : Bool :=
  qlt ((
    if (p0 : Int32) < (0 : Int32) then
      false
    else
      if (255 : Int32) < (p0 : Int32) then
        false
      else
        true) : Bool) fun z1 =>
  z1

noncomputable def jJ1_indexOfChar_4cfef (p0 : Nat) (p1 : Int32) (p2 : Int32) (p3 : Int32) : Option Int32 :=
  qlt ((p1 : Int32).toInt8.toInt32 : Int32) fun x1 =>
  (qlp (σ := Int32) (ρ := (Int32 ⊕ Unit)) (
    fun x2 =>
    if (p3 : Int32) ≤ (x2 : Int32) then
      some (.inr (.inr ()))
    else
      (qrB p0 x2).bind fun v5 =>
      if (v5 : Int32) = (x1 : Int32) then
        some (.inr (.inl x2))
      else
        qlt (x2 + 1 : Int32) fun x6 =>
        some (.inl x6)) p2).bind fun r4 =>
  qse r4 (fun x3 =>
    some x3) (fun r4 =>
    some (-1))

noncomputable def jJ1_indexOf_4cfef (p0 : Nat) (p1 : Int32) (p2 : Int32) (p3 : Int32) : Option Int32 :=
  if (b2i (jJ1_canEncode_9a6ad p1) : Int32) = (0 : Int32) then
    some (-1)
  else
    qlt (jmaxI p2 0 : Int32) fun x1 =>
    qlt (jminI p3 (Int32.ofNat (q_tN p0)) : Int32) fun x2 =>
    if (x1 : Int32) < (x2 : Int32) then
      (jJ1_indexOfChar_4cfef p0 p1 x1 x2).bind fun r3 =>
      some r3
    else
      some (-1)

noncomputable def jJ0_isLatin1_aae02 (k : Nat) (M : qM) : Bool :=
  qlt ((
    if (1 : Int32) = (0 : Int32) then
      false
    else
      if (0 : Int32) = (0 : Int32) then
        true
      else
        false) : Bool) fun z1 =>
  z1

noncomputable def jJ0_coder_7d493 (k : Nat) (M : qM) : Int32 :=
  qlt ((
    if (1 : Int32) = (0 : Int32) then
      true
    else
      false) : Bool) fun z1 =>
  b2i z1

noncomputable def jJ0_length_8abf5 (k : Nat) (M : qM) : Int32 :=
  (Int32.ofNat (q_tN k)) >>> ((jJ0_coder_7d493 k M) &&& 31)

noncomputable def jJ0_indexOf_7cf53 (k : Nat) (p0 : Int32) (p1 : Int32) (M : qM) : Option Int32 :=
  ((
    if (b2i (jJ0_isLatin1_aae02 k M) : Int32) = (0 : Int32) then
      none
    else
      (jJ1_indexOf_4cfef k p0 p1 (jJ0_length_8abf5 k M)).bind fun r2 =>
      some r2) : Option Int32).bind fun x1 =>
  some x1

noncomputable def jJ0_indexOf_0f7a4 (k : Nat) (p0 : Int32) (M : qM) : Option Int32 :=
  (jJ0_indexOf_7cf53 k p0 0 M).bind fun r1 =>
  some r1

noncomputable def jTp_bytesOf (p0 : Int32) : Option Int32 :=
  (qlp (σ := (Int32 × Int32)) (ρ := Int32) (
    fun q => qu2 q fun x1 x2 =>
    if (x2 : Int32) < (0 : Int32) then
      some (.inr x1)
    else
      qlt ((
        if ((((p0 : Int32).toUInt32 >>> ((x2 : Int32).toUInt32 &&& Int32.toUInt32 31)).toInt32) &&& 255 : Int32) = (0 : Int32) then
          x1
        else
          qlt (x1 + 1 : Int32) fun x7 =>
          x7) : Int32) fun x5 =>
      qlt (x2 + (-8) : Int32) fun x6 =>
      some (.inl (x5, x6))) (0, 24)).bind fun x3 =>
  some x3

noncomputable def jTp_add (p0 : Int32) (M : qM) : Option qM :=
  (qlp (σ := (Int32 × qM)) (ρ := qM) (
    fun q => qu2 q fun x1 M2 =>
    if (x1 : Int32) < (0 : Int32) then
      some (.inr M2)
    else
      qlt ((((p0 : Int32).toUInt32 >>> ((x1 : Int32).toUInt32 &&& Int32.toUInt32 31)).toInt32) &&& 255 : Int32) fun x5 =>
      ((
        if (x5 : Int32) = (0 : Int32) then
          some M2
        else
          if (160 : Int32) ≤ (M2.1 1 1 : Int32) then
            some M2
          else
            (qwI M2 2 160 (M2.1 1 1) x5).bind fun M8 =>
            qlt (qI M8 1 1 ((M8.1 1 1) + 1)) fun M9 =>
            some M9) : Option qM).bind fun M6 =>
      qlt (x1 + (-8) : Int32) fun x7 =>
      some (.inl (x7, M6))) (24, M)).bind fun M3 =>
  some M3

noncomputable def jTp_rewind (M : qM) : qM :=
  qlt (qI M 1 2 0) fun M1 =>
  qlt (qI M1 1 3 (-1)) fun M2 =>
  M2

noncomputable def jTp_next (M : qM) : Option Int32 :=
  ((
    if (M.1 1 2 : Int32) < (0 : Int32) then
      some (-1)
    else
      if (M.1 1 1 : Int32) ≤ (M.1 1 2 : Int32) then
        some (-1)
      else
        if (160 : Int32) ≤ (M.1 1 2 : Int32) then
          some (-1)
        else
          (qrI M 2 160 (M.1 1 2)).bind fun v2 =>
          some v2) : Option Int32).bind fun x1 =>
  some x1

noncomputable def jTp_peek (M : qM) : Option (Int32 × qM) :=
  (qlp (σ := qM) (ρ := (qM ⊕ qM)) (
    fun M1 =>
    if (M1.1 1 2 : Int32) < (0 : Int32) then
      some (.inr (.inr M1))
    else
      if (M1.1 1 1 : Int32) ≤ (M1.1 1 2 : Int32) then
        some (.inr (.inr M1))
      else
        if (160 : Int32) ≤ (M1.1 1 2 : Int32) then
          some (.inr (.inr M1))
        else
          (qrI M1 2 160 (M1.1 1 2)).bind fun v6 =>
          if (v6 : Int32) = (32 : Int32) then
            qlt (qI M1 1 2 ((M1.1 1 2) + 1)) fun M7 =>
            some (.inl M7)
          else
            some (.inr (.inl M1))) M).bind fun r4 =>
  qse r4 (fun M2 =>
    (qrI M2 2 160 (M2.1 1 2)).bind fun v5 =>
    some (v5, M2)) (fun M3 =>
    some ((-1), M3))

noncomputable def jTp_fail (p0 : Int32) (M : qM) : Bool × qM :=
  qlt (qI M 1 3 p0) fun M1 =>
  (false, M1)

noncomputable def jTp_take (p0 : Int32) (M : qM) : Option (Bool × qM) :=
  (jTp_peek M).bind fun w1 =>
  qu2 w1 fun r2 M3 =>
  if (r2 : Int32) = (p0 : Int32) then
    qlt (qI M3 1 2 ((M3.1 1 2) + 1)) fun M4 =>
    some (true, M4)
  else
    qlt (jTp_fail (M3.1 1 2) M3) fun w5 =>
    qu2 w5 fun r6 M7 =>
    some (r6, M7)

noncomputable def jTp_isDigit (p0 : Int32) : Bool :=
  qlt ((
    if (p0 : Int32) < (48 : Int32) then
      false
    else
      if (57 : Int32) < (p0 : Int32) then
        false
      else
        true) : Bool) fun z1 =>
  z1

noncomputable def jTp_takeNumber (p0 : Int32) (M : qM) : Option (Int32 × qM) :=
  (jTp_peek M).bind fun w1 =>
  qu2 w1 fun r2 M3 =>
  if (b2i (jTp_isDigit r2) : Int32) = (0 : Int32) then
    qlt (jTp_fail (M3.1 1 2) M3) fun w19 =>
    qu2 w19 fun r20 M21 =>
    some ((-1), M21)
  else
    (qlp (σ := (Int32 × Int32 × qM)) (ρ := (Int32 × qM)) (
      fun q => qu3 q fun x4 x5 M6 =>
      if (p0 : Int32) ≤ (x5 : Int32) then
        some (.inr (x4, M6))
      else
        (jTp_next M6).bind fun r14 =>
        if (b2i (jTp_isDigit r14) : Int32) = (0 : Int32) then
          some (.inr (x4, M6))
        else
          (jTp_next M6).bind fun r15 =>
          qlt (((x4 * 10) + r15) - 48 : Int32) fun x16 =>
          qlt (qI M6 1 2 ((M6.1 1 2) + 1)) fun M17 =>
          qlt (x5 + 1 : Int32) fun x18 =>
          some (.inl (x16, x18, M17))) (0, 0, M3)).bind fun r9 =>
    qu2 r9 fun x7 M8 =>
    (jTp_next M8).bind fun r10 =>
    if (b2i (jTp_isDigit r10) : Int32) = (0 : Int32) then
      some (x7, M8)
    else
      qlt (jTp_fail (M8.1 1 2) M8) fun w11 =>
      qu2 w11 fun r12 M13 =>
      some ((-1), M13)

noncomputable def jTp_peekAmong (p0 : Nat) (M : qM) : Option (Int32 × qM) :=
  (jTp_peek M).bind fun w1 =>
  qu2 w1 fun r2 M3 =>
  ((
    if (r2 : Int32) = ((-1) : Int32) then
      some (-1)
    else
      (jJ0_indexOf_0f7a4 p0 (((r2 : Int32).toUInt32 % 65536).toInt32) M3).bind fun r5 =>
      some r5) : Option Int32).bind fun x4 =>
  some (x4, M3)

noncomputable def jVi_clear (k : Nat) (M : qM) : qM :=
  qlt (qI M k 0 0) fun M1 =>
  qlt (qI M1 k 1 0) fun M2 =>
  qlt (qI M2 k 2 0) fun M3 =>
  M3

noncomputable def jVi_addThing (k : Nat) (M : qM) : Option (Int32 × qM) :=
  qlt ((M.1 k 0) * 4 : Int32) fun x1 =>
  (qct M (q_sv 0) 4 0 (k + 1) 16 x1 4).bind fun M2 =>
  qlt (qI M2 k 0 ((M2.1 k 0) + 1)) fun M3 =>
  some (x1, M3)

noncomputable def jVi_addSort (k : Nat) (M : qM) : Option (Int32 × qM) :=
  qlt ((M.1 k 1) * 4 : Int32) fun x1 =>
  (qct M (q_sv 1) 4 0 (k + 2) 24 x1 4).bind fun M2 =>
  qlt (qI M2 k 1 ((M2.1 k 1) + 1)) fun M3 =>
  some (x1, M3)

noncomputable def jVi_ofSort (k : Nat) (p0 : Int32) (p1 : Int32) (M : qM) : Option Int32 :=
  qlt ((p0 * 4) + p1 : Int32) fun x1 =>
  ((
    if (x1 : Int32) < (0 : Int32) then
      some 0
    else
      if (24 : Int32) ≤ (x1 : Int32) then
        some 0
      else
        (qrI M (k + 2) 24 x1).bind fun v3 =>
        some v3) : Option Int32).bind fun x2 =>
  some x2

noncomputable def jVi_settlePeople (k : Nat) (M : qM) : Option (Bool × qM) :=
  qlt ((M.1 k 1) - 1 : Int32) fun x1 =>
  (jVi_ofSort k x1 0 M).bind fun r2 =>
  qlt ((M.1 k 2) + r2 : Int32) fun x3 =>
  if (x3 : Int32) ≤ (20 : Int32) then
    (jJ7_fill_fda19 (k + 3) (M.1 k 2) x3 x1 M).bind fun M4 =>
    qlt (qI M4 k 2 x3) fun M5 =>
    some (true, M5)
  else
    some (false, M)

noncomputable def jVi_ofThing (k : Nat) (p0 : Int32) (p1 : Int32) (M : qM) : Option Int32 :=
  qlt ((p0 * 4) + p1 : Int32) fun x1 =>
  ((
    if (x1 : Int32) < (0 : Int32) then
      some 0
    else
      if (16 : Int32) ≤ (x1 : Int32) then
        some 0
      else
        (qrI M (k + 1) 16 x1).bind fun v3 =>
        some v3) : Option Int32).bind fun x2 =>
  some x2

noncomputable def jVi_ofPerson (k : Nat) (p0 : Int32) (p1 : Int32) (M : qM) : Option Int32 :=
  ((
    if (b2i (jTc_isOf p0 (M.1 k 2)) : Int32) = (0 : Int32) then
      some 0
    else
      (qrI M (k + 3) 20 p0).bind fun v2 =>
      (jVi_ofSort k v2 p1 M).bind fun r3 =>
      some r3) : Option Int32).bind fun x1 =>
  some x1

noncomputable def jVi_worthIn (k : Nat) (p0 : Int32) (p1 : Int32) (M : qM) : Option Int32 :=
  (jVi_ofThing k p0 2 M).bind fun r1 =>
  (jVi_ofThing k p0 3 M).bind fun r2 =>
  some (jmaxI 0 (r1 - (r2 * p1)))

noncomputable def jWy_add (k : Nat) (p0 : Int32) (p1 : Int32) (M : qM) : Option (Bool × qM) :=
  if (M.1 k 2 : Int32) < (160 : Int32) then
    (qwI M (k + 1) 160 (M.1 k 2) p0).bind fun M1 =>
    (qwI M1 (k + 2) 160 (M1.1 k 2) p1).bind fun M2 =>
    qlt (qI M2 k 2 ((M2.1 k 2) + 1)) fun M3 =>
    some (true, M3)
  else
    some (false, M)

noncomputable def jWy_leadTo (k : Nat) (p0 : Int32) (p1 : Int32) (M : qM) : Option qM :=
  ((
    if (b2i (jTc_isOf p0 (M.1 k 2)) : Int32) = (0 : Int32) then
      some M
    else
      (qwI M (k + 2) 160 p0 p1).bind fun M2 =>
      some M2) : Option qM).bind fun M1 =>
  some M1

noncomputable def jWy_joined (p0 : Int32) (p1 : Int32) (p2 : Int32) : Option Int32 :=
  if (p0 : Int32) = 38 then
    some (p1 &&& p2)
  else
    if (p0 : Int32) = 42 then
      qlt (((p1 : Int32).toInt64) * ((p2 : Int32).toInt64) : Int64) fun x1 =>
      qlt ((
        if (lg_cmp x1 1000000 : Int32) ≤ (0 : Int32) then
          if (0 : Int32) ≤ (lg_cmp x1 (-1000000) : Int32) then
            (x1 : Int64).toInt32
          else
            (-1000000)
        else
          1000000) : Int32) fun x2 =>
      some x2
    else
      if (p0 : Int32) = 43 then
        qlt (((p1 : Int32).toInt64) + ((p2 : Int32).toInt64) : Int64) fun x3 =>
        qlt ((
          if (lg_cmp x3 1000000 : Int32) ≤ (0 : Int32) then
            if (0 : Int32) ≤ (lg_cmp x3 (-1000000) : Int32) then
              (x3 : Int64).toInt32
            else
              (-1000000)
          else
            1000000) : Int32) fun x4 =>
        some x4
      else
        if (p0 : Int32) = 45 then
          qlt (((p1 : Int32).toInt64) - ((p2 : Int32).toInt64) : Int64) fun x5 =>
          qlt ((
            if (lg_cmp x5 1000000 : Int32) ≤ (0 : Int32) then
              if (0 : Int32) ≤ (lg_cmp x5 (-1000000) : Int32) then
                (x5 : Int64).toInt32
              else
                (-1000000)
            else
              1000000) : Int32) fun x6 =>
          some x6
        else
          if (p0 : Int32) = 47 then
            ((
              if (p2 : Int32) = (0 : Int32) then
                some 0
              else
                (qdvJ ((p1 : Int32).toInt64) ((p2 : Int32).toInt64)).bind fun v9 =>
                some v9) : Option Int64).bind fun x7 =>
            qlt ((
              if (lg_cmp x7 1000000 : Int32) ≤ (0 : Int32) then
                if (0 : Int32) ≤ (lg_cmp x7 (-1000000) : Int32) then
                  (x7 : Int64).toInt32
                else
                  (-1000000)
              else
                1000000) : Int32) fun x8 =>
            some x8
          else
            if (p0 : Int32) = 60 then
              qlt ((
                if (p2 : Int32) ≤ (p1 : Int32) then
                  false
                else
                  true) : Bool) fun z10 =>
              some (b2i z10)
            else
              if (p0 : Int32) = 61 then
                qlt ((
                  if (p1 : Int32) = (p2 : Int32) then
                    true
                  else
                    false) : Bool) fun z11 =>
                some (b2i z11)
              else
                if (p0 : Int32) = 62 then
                  qlt ((
                    if (p1 : Int32) ≤ (p2 : Int32) then
                      false
                    else
                      true) : Bool) fun z12 =>
                  some (b2i z12)
                else
                  some (p1 ||| p2)

noncomputable def jWy_valueIn (k : Nat) (M : qM) : Option (Int32 × qM) :=
  (qlp (σ := (Int32 × Int32 × qM)) (ρ := (qM ⊕ (qM ⊕ ((Int32 × qM) ⊕ qM)))) (
    fun q => qu3 q fun x1 x2 M3 =>
    if (M3.1 k 2 : Int32) ≤ (x2 : Int32) then
      some (.inr (.inr (.inr (.inr M3))))
    else
      (qrI M3 (k + 1) 160 x2).bind fun v11 =>
      (qrI M3 (k + 2) 160 x2).bind fun v12 =>
      if (v11 : Int32) = (48 : Int32) then
        if (64 : Int32) ≤ (x1 : Int32) then
          some (.inr (.inl M3))
        else
          if (v11 : Int32) = (97 : Int32) then
            if (b2i (jTc_isOf v12 8) : Int32) = (0 : Int32) then
              some (.inr (.inl M3))
            else
              ((
                if (v11 : Int32) = (48 : Int32) then
                  some v12
                else
                  (qrI M3 10 8 v12).bind fun v22 =>
                  some v22) : Option Int32).bind fun x18 =>
              (qwI M3 11 64 x1 x18).bind fun M19 =>
              qlt (x1 + 1 : Int32) fun x20 =>
              qlt (x2 + 1 : Int32) fun x21 =>
              some (.inl (x20, x21, M19))
          else
            ((
              if (v11 : Int32) = (48 : Int32) then
                some v12
              else
                (qrI M3 10 8 v12).bind fun v17 =>
                some v17) : Option Int32).bind fun x13 =>
            (qwI M3 11 64 x1 x13).bind fun M14 =>
            qlt (x1 + 1 : Int32) fun x15 =>
            qlt (x2 + 1 : Int32) fun x16 =>
            some (.inl (x15, x16, M14))
      else
        if (v11 : Int32) = (97 : Int32) then
          if (64 : Int32) ≤ (x1 : Int32) then
            some (.inr (.inl M3))
          else
            if (v11 : Int32) = (97 : Int32) then
              if (b2i (jTc_isOf v12 8) : Int32) = (0 : Int32) then
                some (.inr (.inl M3))
              else
                ((
                  if (v11 : Int32) = (48 : Int32) then
                    some v12
                  else
                    (qrI M3 10 8 v12).bind fun v47 =>
                    some v47) : Option Int32).bind fun x43 =>
                (qwI M3 11 64 x1 x43).bind fun M44 =>
                qlt (x1 + 1 : Int32) fun x45 =>
                qlt (x2 + 1 : Int32) fun x46 =>
                some (.inl (x45, x46, M44))
            else
              ((
                if (v11 : Int32) = (48 : Int32) then
                  some v12
                else
                  (qrI M3 10 8 v12).bind fun v42 =>
                  some v42) : Option Int32).bind fun x38 =>
              (qwI M3 11 64 x1 x38).bind fun M39 =>
              qlt (x1 + 1 : Int32) fun x40 =>
              qlt (x2 + 1 : Int32) fun x41 =>
              some (.inl (x40, x41, M39))
        else
          if (x1 : Int32) < (1 : Int32) then
            some (.inr (.inr (.inl M3)))
          else
            if (x1 : Int32) ≤ (64 : Int32) then
              if (v11 : Int32) = (59 : Int32) then
                some (.inr (.inr (.inr (.inl (x1, M3)))))
              else
                ((
                  if (v11 : Int32) = (33 : Int32) then
                    (qrI M3 11 64 (x1 - 1)).bind fun v36 =>
                    (qwI M3 11 64 (x1 - 1) (1 - v36)).bind fun M37 =>
                    some (x1, x2, M37)
                  else
                    if (v11 : Int32) = (63 : Int32) then
                      qlt (x1 + (-1) : Int32) fun x33 =>
                      (qrI M3 11 64 x33).bind fun v34 =>
                      qlt ((
                        if (v34 : Int32) = (0 : Int32) then
                          jmaxI x2 (v12 - 1)
                        else
                          x2) : Int32) fun x35 =>
                      some (x33, x35, M3)
                    else
                      if (x1 : Int32) < (2 : Int32) then
                        some (x1, x2, M3)
                      else
                        qlt (x1 + (-1) : Int32) fun x28 =>
                        (qrI M3 11 64 (x28 - 1)).bind fun v29 =>
                        (qrI M3 11 64 x28).bind fun v30 =>
                        (jWy_joined v11 v29 v30).bind fun r31 =>
                        (qwI M3 11 64 (x28 - 1) r31).bind fun M32 =>
                        some (x28, x2, M32)) : Option (Int32 × Int32 × qM)).bind fun w26 =>
                qu3 w26 fun x23 x24 M25 =>
                qlt (x24 + 1 : Int32) fun x27 =>
                some (.inl (x23, x27, M25))
            else
              some (.inr (.inr (.inl M3)))) (0, 0, M)).bind fun r9 =>
  qse r9 (fun M4 =>
    some (0, M4)) (fun r9 =>
    qse r9 (fun M5 =>
      some (0, M5)) (fun r9 =>
      qse r9 (fun r9 =>
        qu2 r9 fun x6 M7 =>
        (qrI M7 11 64 (x6 - 1)).bind fun v10 =>
        some (v10, M7)) (fun M8 =>
        some (0, M8))))

noncomputable def jCu_spare (M : qM) : Option (Option Nat) :=
  (qix 7 (jminI (M.1 6 1) 6)).bind fun t1 =>
  some (some (12 + 3 * t1))

noncomputable def jCu_usedBy (p0 : Int32) (M : qM) : Option (Option Nat) :=
  ((
    if (b2i (jTc_isOf p0 6) : Int32) = (0 : Int32) then
      some (-1)
    else
      (qrI M 8 6 p0).bind fun v4 =>
      some v4) : Option Int32).bind fun x1 =>
  ((
    if (b2i (jTc_isOf x1 (M.1 6 1)) : Int32) = (0 : Int32) then
      some none
    else
      (qix 7 x1).bind fun t3 =>
      some (some (12 + 3 * t3))) : Option (Option Nat)).bind fun o2 =>
  some o2

noncomputable def jCu_keep (M : qM) : Option qM :=
  (qcp M 8 6 0 9 6 0 6).bind fun M1 =>
  some M1

noncomputable def jCu_restore (M : qM) : Option qM :=
  (qcp M 9 6 0 8 6 0 6).bind fun M1 =>
  some M1

noncomputable def jMo_began (k : Nat) (M : qM) : Bool :=
  qlt ((
    if M.2.2 k 0 = none then
      false
    else
      true) : Bool) fun z1 =>
  z1

noncomputable def jMo_beOf (k : Nat) (p0 : Nat) (p1 : Int32) (p2 : Int32) (M : qM) : Option qM :=
  qlt (qR M k 0 (some p0)) fun M1 =>
  qlt (qI M1 k 1 p1) fun M2 =>
  qlt (qI M2 k 2 p2) fun M3 =>
  (jVi_ofThing p0 p1 0 M3).bind fun r4 =>
  qlt (qI M3 k 3 r4) fun M5 =>
  (jVi_ofThing p0 p1 1 M5).bind fun r6 =>
  qlt (qI M5 k 4 r6) fun M7 =>
  qlt (qI M7 k 5 (-1)) fun M8 =>
  qlt (qI M8 k 6 (-1)) fun M9 =>
  some M9

noncomputable def jMo_begin (k : Nat) (p0 : Int64) (M : qM) : Option qM :=
  qlt (qJ M k 7 p0) fun M1 =>
  qlt (qI M1 k 8 0) fun M2 =>
  qlt (qI M2 k 9 0) fun M3 =>
  (M3.2.2 k 0).bind fun a4 =>
  qlt (qI M3 k 10 (M3.1 a4 2)) fun M5 =>
  qlt (qI M5 k 11 0) fun M6 =>
  qlt (qI M6 k 12 0) fun M7 =>
  qlt (qI M7 k 13 (-1)) fun M8 =>
  qlt (qI M8 k 14 (-1)) fun M9 =>
  (jJ7_fill_53178 (k + 1) (-1) M9).bind fun M10 =>
  (jJ7_fill_53178 (k + 2) (-1) M10).bind fun M11 =>
  (qlp (σ := (Int32 × qM)) (ρ := qM) (
    fun q => qu2 q fun x12 M13 =>
    (M13.2.2 k 0).bind fun a16 =>
    if (M13.1 a16 1 : Int32) ≤ (x12 : Int32) then
      some (.inr M13)
    else
      (M13.2.2 k 0).bind fun a17 =>
      (jVi_ofSort a17 x12 0 M13).bind fun r18 =>
      (qwI M13 (k + 3) 6 x12 r18).bind fun M19 =>
      qlt (x12 + 1 : Int32) fun x20 =>
      some (.inl (x20, M19))) (0, M11)).bind fun M14 =>
  some M14

noncomputable def jMo_copy (k : Nat) (p0 : Nat) (M : qM) : Option qM :=
  (M.2.2 p0 0).bind fun a1 =>
  qlt (qR M k 0 (some a1)) fun M2 =>
  qlt (qI M2 k 1 (M2.1 p0 1)) fun M3 =>
  qlt (qI M3 k 2 (M3.1 p0 2)) fun M4 =>
  qlt (qI M4 k 3 (M4.1 p0 3)) fun M5 =>
  qlt (qI M5 k 4 (M5.1 p0 4)) fun M6 =>
  qlt (qJ M6 k 7 (M6.2.1 p0 7)) fun M7 =>
  qlt (qI M7 k 8 (M7.1 p0 8)) fun M8 =>
  qlt (qI M8 k 9 (M8.1 p0 9)) fun M9 =>
  qlt (qI M9 k 10 (M9.1 p0 10)) fun M10 =>
  qlt (qI M10 k 11 (M10.1 p0 11)) fun M11 =>
  (qtb (M11.1 p0 12)).bind fun b12 =>
  qlt (qI M11 k 12 (M11.1 p0 12)) fun M13 =>
  qlt (qI M13 k 13 (M13.1 p0 13)) fun M14 =>
  qlt (qI M14 k 14 (M14.1 p0 14)) fun M15 =>
  (qcp M15 (p0 + 1) 20 0 (k + 1) 20 0 20).bind fun M16 =>
  (qcp M16 (p0 + 2) 20 0 (k + 2) 20 0 20).bind fun M17 =>
  (qcp M17 (p0 + 3) 6 0 (k + 3) 6 0 6).bind fun M18 =>
  some M18

noncomputable def jMo_underway (k : Nat) (M : qM) : Option Int32 :=
  (M.2.2 k 0).bind fun a1 =>
  some (((M.1 a1 2) - (M.1 k 10)) - (M.1 k 9))

noncomputable def jMo_stateOf (k : Nat) (p0 : Int32) (M : qM) : Option Int32 :=
  (qrI M (k + 1) 20 p0).bind fun v1 =>
  ((
    if (v1 : Int32) = ((-1) : Int32) then
      some 0
    else
      (qrI M (k + 2) 20 p0).bind fun v3 =>
      if (v3 : Int32) = ((-1) : Int32) then
        some 1
      else
        some 2) : Option Int32).bind fun x2 =>
  some x2

noncomputable def jMo_minuteOf (k : Nat) (p0 : Int32) (M : qM) : Option Int32 :=
  (qrI M (k + 2) 20 p0).bind fun v1 =>
  ((
    if (v1 : Int32) = ((-1) : Int32) then
      some (-1)
    else
      (qrI M (k + 1) 20 p0).bind fun v3 =>
      (M.2.2 k 0).bind fun a4 =>
      (jVi_ofPerson a4 p0 1 M).bind fun r5 =>
      some (v3 + r5)) : Option Int32).bind fun x2 =>
  some x2

noncomputable def jMo_has (k : Nat) (p0 : Int32) (M : qM) : Option Bool :=
  (qrI M (k + 2) 20 p0).bind fun v1 =>
  ((
    if (v1 : Int32) < (M.1 k 3 : Int32) then
      some false
    else
      (qrI M (k + 2) 20 p0).bind fun v3 =>
      if ((M.1 k 3) + (M.1 k 4) : Int32) ≤ (v3 : Int32) then
        some false
      else
        some true) : Option Bool).bind fun z2 =>
  some z2

noncomputable def jMo_gainOf (k : Nat) (p0 : Int32) (M : qM) : Option Int32 :=
  (jMo_has k p0 M).bind fun r1 =>
  ((
    if (b2i r1 : Int32) = (0 : Int32) then
      some 0
    else
      (M.2.2 k 0).bind fun a8 =>
      (jMo_minuteOf k p0 M).bind fun r9 =>
      (jVi_worthIn a8 (M.1 k 1) r9 M).bind fun r10 =>
      some r10) : Option Int32).bind fun x2 =>
  (qrI M (k + 1) 20 p0).bind fun v3 =>
  ((
    if (v3 : Int32) = ((-1) : Int32) then
      some (M.1 k 8)
    else
      (qrI M (k + 1) 20 p0).bind fun v7 =>
      some v7) : Option Int32).bind fun x4 =>
  (M.2.2 k 0).bind fun a5 =>
  (jVi_ofPerson a5 p0 2 M).bind fun r6 =>
  some (x2 - (r6 * x4))

noncomputable def jMo_receive (k : Nat) (p0 : Int32) (M : qM) : Option qM :=
  qlt (qI M k 9 ((M.1 k 9) + 1)) fun M1 =>
  (qwI M1 (k + 2) 20 p0 (M1.1 k 9)).bind fun M2 =>
  (jMo_has k p0 M2).bind fun r3 =>
  qlt ((
    if (b2i r3 : Int32) = (0 : Int32) then
      M2
    else
      qlt (qI M2 k 11 ((M2.1 k 11) + 1)) fun M5 =>
      qlt (qI M5 k 14 p0) fun M6 =>
      if (M6.1 k 11 : Int32) < (M6.1 k 4 : Int32) then
        M6
      else
        qlt (qI M6 k 13 (M6.1 k 8)) fun M7 =>
        M7) : qM) fun M4 =>
  some M4

noncomputable def jMo_arrive (k : Nat) (M : qM) : Option qM :=
  (jMo_underway k M).bind fun r1 =>
  if (r1 : Int32) = (0 : Int32) then
    some M
  else
    (qlp (σ := (Int32 × qM)) (ρ := qM) (
      fun q => qu2 q fun x2 M3 =>
      (M3.2.2 k 0).bind fun a6 =>
      if (M3.1 a6 2 : Int32) ≤ (x2 : Int32) then
        some (.inr M3)
      else
        (jMo_stateOf k x2 M3).bind fun r7 =>
        qlt ((
          if (r7 : Int32) = (1 : Int32) then
            true
          else
            false) : Bool) fun z8 =>
        ((
          if (b2i z8 : Int32) = (0 : Int32) then
            some M3
          else
            (qrI M3 (k + 1) 20 x2).bind fun v11 =>
            (M3.2.2 k 0).bind fun a12 =>
            (jVi_ofPerson a12 x2 1 M3).bind fun r13 =>
            if (v11 + r13 : Int32) = (M3.1 k 8 : Int32) then
              (jMo_receive k x2 M3).bind fun M14 =>
              some M14
            else
              some M3) : Option qM).bind fun M9 =>
        qlt (x2 + 1 : Int32) fun x10 =>
        some (.inl (x10, M9))) (0, M)).bind fun M4 =>
    some M4

noncomputable def jMo_goesUnasked (k : Nat) (p0 : Int32) (p1 : Int32) (M : qM) : Option Bool :=
  ((
    if (p0 : Int32) = (M.1 k 5 : Int32) then
      some true
    else
      if (p1 : Int32) = (M.1 k 6 : Int32) then
        some true
      else
        (M.2.2 k 0).bind fun a2 =>
        (jVi_ofSort a2 p1 3 M).bind fun r3 =>
        if (r3 : Int32) = (0 : Int32) then
          some true
        else
          some false) : Option Bool).bind fun z1 =>
  some z1

noncomputable def jMo_spell (k : Nat) (p0 : Int32) (M : qM) : Option qM :=
  (qwI M 10 8 0 (M.1 k 8)).bind fun M1 =>
  (qwI M1 10 8 1 (M1.1 k 9)).bind fun M2 =>
  ((
    if (M2.1 k 2 : Int32) = (0 : Int32) then
      some 0
    else
      (jMo_underway k M2).bind fun r15 =>
      some r15) : Option Int32).bind fun x3 =>
  (qwI M2 10 8 2 x3).bind fun M4 =>
  (qwI M4 10 8 3 (M4.1 k 3)).bind fun M5 =>
  (qrI M5 (k + 3) 6 p0).bind fun v6 =>
  (qwI M5 10 8 4 (v6 - 1)).bind fun M7 =>
  (qwI M7 10 8 5 ((M7.1 k 10) - 1)).bind fun M8 =>
  (M8.2.2 k 0).bind fun a9 =>
  (jVi_worthIn a9 (M8.1 k 1) (M8.1 k 8) M8).bind fun r10 =>
  (qwI M8 10 8 6 r10).bind fun M11 =>
  (M11.2.2 k 0).bind fun a12 =>
  (jVi_ofSort a12 p0 2 M11).bind fun r13 =>
  (qwI M11 10 8 7 r13).bind fun M14 =>
  some M14

noncomputable def jMo_drawOfTen (k : Nat) (M : qM) : Int32 × qM :=
  qlt (qJ M k 7 (((M.2.1 k 7) * 6364136223846793005) + 1442695040888963407)) fun M1 =>
  (((((((M1.2.1 k 7) : Int64).toUInt64 >>> ((33 : Int32).toInt64.toUInt64 &&& Int64.toUInt64 63)).toInt64) - ((((M1.2.1 k 7) : Int64).toUInt64 >>> ((33 : Int32).toInt64.toUInt64 &&& Int64.toUInt64 63)).toInt64) / 10 * 10) : Int64).toInt32, M1)

noncomputable def jMo_send (k : Nat) (p0 : Int32) (p1 : Int32) (M : qM) : Option qM :=
  (qwI M (k + 1) 20 p0 (M.1 k 8)).bind fun M1 =>
  qlt (qI M1 k 10 ((M1.1 k 10) - 1)) fun M2 =>
  (qrI M2 (k + 3) 6 p1).bind fun v3 =>
  (qwI M2 (k + 3) 6 p1 (v3 - 1)).bind fun M4 =>
  (M4.2.2 k 0).bind fun a5 =>
  (jVi_ofSort a5 p1 1 M4).bind fun r6 =>
  ((
    if (r6 : Int32) = (0 : Int32) then
      (jMo_receive k p0 M4).bind fun M8 =>
      some M8
    else
      some M4) : Option qM).bind fun M7 =>
  some M7

noncomputable def jMo_decide (k : Nat) (M : qM) : Option qM :=
  (qlp (σ := (Int32 × Int32 × Int32 × qM)) (ρ := qM) (
    fun q => qu4 q fun x1 x2 x3 M4 =>
    (M4.2.2 k 0).bind fun a7 =>
    if (M4.1 a7 2 : Int32) ≤ (x3 : Int32) then
      some (.inr M4)
    else
      if (M4.1 k 4 : Int32) ≤ (M4.1 k 11 : Int32) then
        some (.inr M4)
      else
        (qrI M4 (k + 1) 20 x3).bind fun v8 =>
        ((
          if (v8 : Int32) = ((-1) : Int32) then
            (M4.2.2 k 0).bind fun a14 =>
            (qrI M4 (a14 + 3) 20 x3).bind fun v15 =>
            ((
              if (M4.1 k 8 : Int32) = (0 : Int32) then
                (jMo_goesUnasked k x3 v15 M4).bind fun r40 =>
                if (b2i r40 : Int32) = (0 : Int32) then
                  some false
                else
                  some true
              else
                some false) : Option Bool).bind fun z16 =>
            ((
              if (b2i z16 : Int32) = (0 : Int32) then
                ((
                  if (v15 : Int32) = (x1 : Int32) then
                    some (x1, x2, M4)
                  else
                    (jMo_spell k v15 M4).bind fun M31 =>
                    (jCu_usedBy v15 M31).bind fun r32 =>
                    ((
                      qno r32 (
                        some (0, M31)) (fun a36 =>
                        qgd (q_way a36) (
                          (jWy_valueIn a36 M31).bind fun w37 =>
                          qu2 w37 fun r38 M39 =>
                          some (r38, M39)))) : Option (Int32 × qM)).bind fun w35 =>
                    qu2 w35 fun x33 M34 =>
                    some (v15, x33, M34)) : Option (Int32 × Int32 × qM)).bind fun w26 =>
                qu3 w26 fun x23 x24 M25 =>
                qlt (jMo_drawOfTen k M25) fun w27 =>
                qu2 w27 fun r28 M29 =>
                qlt ((
                  if (x24 : Int32) ≤ (r28 : Int32) then
                    false
                  else
                    true) : Bool) fun z30 =>
                some (x23, x24, z30, M29)
              else
                some (x1, x2, z16, M4)) : Option (Int32 × Int32 × Bool × qM)).bind fun w21 =>
            qu4 w21 fun x17 x18 z19 M20 =>
            if (b2i z19 : Int32) = (0 : Int32) then
              some (x17, x18, M20)
            else
              (jMo_send k x3 v15 M20).bind fun M22 =>
              some ((-1), x18, M22)
          else
            some (x1, x2, M4)) : Option (Int32 × Int32 × qM)).bind fun w12 =>
        qu3 w12 fun x9 x10 M11 =>
        qlt (x3 + 1 : Int32) fun x13 =>
        some (.inl (x9, x10, x13, M11))) ((-1), 0, 0, M)).bind fun M5 =>
  some M5

noncomputable def jMo_pass (k : Nat) (p0 : Int32) (M : qM) : Option (Int32 × qM) :=
  (qlp (σ := (Int32 × Int32 × qM)) (ρ := (Int32 × qM)) (
    fun q => qu3 q fun x1 x2 M3 =>
    if (p0 : Int32) ≤ (x2 : Int32) then
      some (.inr (x1, M3))
    else
      if (M3.1 k 12 : Int32) = (0 : Int32) then
        (jMo_arrive k M3).bind fun M7 =>
        ((
          if (M7.1 k 4 : Int32) ≤ (M7.1 k 11 : Int32) then
            qlt (qI M7 k 12 1) fun M12 =>
            some (x1, M12)
          else
            (M7.2.2 k 0).bind fun a13 =>
            if (M7.1 k 9 : Int32) < (M7.1 a13 2 : Int32) then
              (jMo_decide k M7).bind fun M14 =>
              qlt (qI M14 k 8 ((M14.1 k 8) + 1)) fun M15 =>
              qlt (x1 + 1 : Int32) fun x16 =>
              qlt ((
                if (M15.1 k 8 : Int32) ≤ (60 : Int32) then
                  false
                else
                  true) : Bool) fun z17 =>
              qlt (qI M15 k 12 (b2i z17)) fun M18 =>
              some (x16, M18)
            else
              qlt (qI M7 k 12 1) fun M19 =>
              some (x1, M19)) : Option (Int32 × qM)).bind fun w10 =>
        qu2 w10 fun x8 M9 =>
        qlt (x2 + 1 : Int32) fun x11 =>
        some (.inl (x8, x11, M9))
      else
        some (.inr (x1, M3))) (0, 0, M)).bind fun r6 =>
  qu2 r6 fun x4 M5 =>
  some (x4, M5)

noncomputable def jTa_takeAfter (p0 : Nat) (M : qM) : Option qM :=
  (M.2.2 p0 0).bind fun a1 =>
  (jMo_beOf 42 a1 (M.1 p0 1) (M.1 p0 2) M).bind fun M2 =>
  some M2

noncomputable def jTa_note (p0 : Int32) (M : qM) : Option qM :=
  (qlp (σ := (Int32 × Int32 × qM)) (ρ := (Int32 × qM)) (
    fun q => qu3 q fun x1 x2 M3 =>
    (M3.2.2 42 0).bind fun a9 =>
    if (M3.1 a9 2 : Int32) ≤ (x2 : Int32) then
      some (.inr (x1, M3))
    else
      (qrI M3 46 20 x2).bind fun v10 =>
      (jMo_gainOf 42 x2 M3).bind fun r11 =>
      (qwI M3 46 20 x2 (v10 + r11)).bind fun M12 =>
      (jMo_has 42 x2 M12).bind fun r13 =>
      qlt ((
        if (b2i r13 : Int32) = (0 : Int32) then
          0
        else
          1 <<< (x2 &&& 31)) : Int32) fun x14 =>
      qlt (x1 ||| x14 : Int32) fun x15 =>
      ((
        if (M12.1 41 5 : Int32) = (0 : Int32) then
          some false
        else
          (qrI M12 43 20 x2).bind fun v19 =>
          if (v19 : Int32) = (0 : Int32) then
            some true
          else
            some false) : Option Bool).bind fun z16 =>
      qlt (qI M12 41 5 (b2i z16)) fun M17 =>
      qlt (x2 + 1 : Int32) fun x18 =>
      some (.inl (x15, x18, M17))) (0, 0, M)).bind fun r6 =>
  qu2 r6 fun x4 M5 =>
  (qwI M5 47 40 p0 x4).bind fun M7 =>
  (qwI M7 48 40 p0 (M7.1 42 13)).bind fun M8 =>
  some M8

noncomputable def jTa_run (p0 : Int32) (M : qM) : Option qM :=
  qlt (qI M 41 4 (jminI p0 40)) fun M1 =>
  qlt (qI M1 41 5 1) fun M2 =>
  (jJ7_fill_53178 46 0 M2).bind fun M3 =>
  (qlp (σ := (Int32 × qM)) (ρ := qM) (
    fun q => qu2 q fun x4 M5 =>
    if (M5.1 41 4 : Int32) ≤ (x4 : Int32) then
      some (.inr M5)
    else
      (jMo_begin 42 ((x4 : Int32).toInt64) M5).bind fun M8 =>
      (jMo_pass 42 61 M8).bind fun w9 =>
      qu2 w9 fun r10 M11 =>
      (jTa_note x4 M11).bind fun M12 =>
      qlt (x4 + 1 : Int32) fun x13 =>
      some (.inl (x13, M12))) (0, M3)).bind fun M6 =>
  some M6

noncomputable def jTa_hadByBoth (p0 : Int32) (p1 : Int32) (M : qM) : Option Int32 :=
  (qlp (σ := (Int32 × Int32)) (ρ := Int32) (
    fun q => qu2 q fun x1 x2 =>
    if (M.1 41 4 : Int32) ≤ (x2 : Int32) then
      some (.inr x1)
    else
      (qrI M 47 40 x2).bind fun v5 =>
      (qrI M 47 40 x2).bind fun v6 =>
      qlt (x1 + (((v5 >>> (p0 &&& 31)) &&& (v6 >>> (p1 &&& 31))) &&& 1) : Int32) fun x7 =>
      qlt (x2 + 1 : Int32) fun x8 =>
      some (.inl (x7, x8))) (0, 0)).bind fun x3 =>
  some x3

noncomputable def jTa_hadBy (p0 : Int32) (M : qM) : Option Int32 :=
  (jTa_hadByBoth p0 p0 M).bind fun r1 =>
  some r1

noncomputable def jTa_late (M : qM) : Option Int32 :=
  (qlp (σ := (Int32 × Int32)) (ρ := Int32) (
    fun q => qu2 q fun x1 x2 =>
    if (M.1 41 4 : Int32) ≤ (x2 : Int32) then
      some (.inr x1)
    else
      (qrI M 48 40 x2).bind fun v5 =>
      ((
        if (v5 : Int32) = ((-1) : Int32) then
          some 60
        else
          (qrI M 48 40 x2).bind fun v9 =>
          some v9) : Option Int32).bind fun x6 =>
      qlt (x1 + x6 : Int32) fun x7 =>
      qlt (x2 + 1 : Int32) fun x8 =>
      some (.inl (x7, x8))) (0, 0)).bind fun x3 =>
  some x3

noncomputable def jTa_endsIn (p0 : Int32) (M : qM) : Option Int32 :=
  (qlp (σ := (Int32 × Int32)) (ρ := Int32) (
    fun q => qu2 q fun x1 x2 =>
    if (M.1 41 4 : Int32) ≤ (x2 : Int32) then
      some (.inr x1)
    else
      (qrI M 48 40 x2).bind fun v5 =>
      qlt ((
        if (v5 : Int32) = (p0 : Int32) then
          true
        else
          false) : Bool) fun z6 =>
      qlt (x1 + (b2i z6) : Int32) fun x7 =>
      qlt (x2 + 1 : Int32) fun x8 =>
      some (.inl (x7, x8))) (0, 0)).bind fun x3 =>
  some x3

noncomputable def jTa_gainsOf (p0 : Int32) (M : qM) : Option Int32 :=
  (qlp (σ := (Int32 × Int32)) (ρ := Int32) (
    fun q => qu2 q fun x1 x2 =>
    (M.2.2 42 0).bind fun a5 =>
    if (M.1 a5 2 : Int32) ≤ (x2 : Int32) then
      some (.inr x1)
    else
      (M.2.2 42 0).bind fun a6 =>
      (qrI M (a6 + 3) 20 x2).bind fun v7 =>
      ((
        if (v7 : Int32) = (p0 : Int32) then
          (qrI M 46 20 x2).bind fun v11 =>
          some v11
        else
          some 0) : Option Int32).bind fun x8 =>
      qlt (x1 + x8 : Int32) fun x9 =>
      qlt (x2 + 1 : Int32) fun x10 =>
      some (.inl (x9, x10))) (0, 0)).bind fun x3 =>
  some x3

noncomputable def jTa_bestWay (p0 : Int32) (p1 : Int32) (M : qM) : Option (Int32 × qM) :=
  (qrI M 8 6 p0).bind fun v1 =>
  (jTa_run p1 M).bind fun M2 =>
  (jTa_gainsOf p0 M2).bind fun r3 =>
  qlt (qI M2 41 7 r3) fun M4 =>
  (qlp (σ := (Int32 × Int32 × qM)) (ρ := (Int32 × qM)) (
    fun q => qu3 q fun x5 x6 M7 =>
    if (M7.1 6 1 : Int32) ≤ (x6 : Int32) then
      some (.inr (x5, M7))
    else
      (qwI M7 8 6 p0 x6).bind fun M12 =>
      ((
        if (x6 : Int32) = (v1 : Int32) then
          some M12
        else
          (jTa_run p1 M12).bind fun M20 =>
          some M20) : Option qM).bind fun M13 =>
      ((
        if (x6 : Int32) = (v1 : Int32) then
          some (M13.1 41 7)
        else
          (jTa_gainsOf p0 M13).bind fun r19 =>
          some r19) : Option Int32).bind fun x14 =>
      qlt ((
        if (x5 : Int32) = ((-1) : Int32) then
          true
        else
          if (x14 : Int32) ≤ (M13.1 41 6 : Int32) then
            false
          else
            true) : Bool) fun z15 =>
      if z15 = true then
        qlt (qI M13 41 6 x14) fun M16 =>
        qlt (x6 + 1 : Int32) fun x17 =>
        some (.inl (x6, x17, M16))
      else
        qlt (x6 + 1 : Int32) fun x18 =>
        some (.inl (x5, x18, M13))) ((-1), 0, M4)).bind fun r10 =>
  qu2 r10 fun x8 M9 =>
  (qwI M9 8 6 p0 v1).bind fun M11 =>
  some (x8, M11)

noncomputable def jRo_isThere (M : qM) : Bool :=
  qlt ((
    if (M.1 49 5 : Int32) ≤ (0 : Int32) then
      false
    else
      true) : Bool) fun z1 =>
  z1

noncomputable def jRo_begin (p0 : Int32) (p1 : Int32) (p2 : Int32) (M : qM) : Option qM :=
  qlt (qI M 49 0 p0) fun M1 =>
  qlt (qI M1 49 1 p1) fun M2 =>
  qlt (qI M2 49 5 p2) fun M3 =>
  (jJ7_fill_53178 50 5 M3).bind fun M4 =>
  qlt (qI M4 49 17 (-1)) fun M5 =>
  some M5

noncomputable def jRo_goneByNow (M : qM) : Option Int64 :=
  (qlp (σ := (Int64 × Int32)) (ρ := Int64) (
    fun q => qu2 q fun x1 x2 =>
    if (10 : Int32) ≤ (x2 : Int32) then
      some (.inr x1)
    else
      (M.2.2 49 11).bind fun a5 =>
      (qrJ M a5 10 x2).bind fun v6 =>
      qlt (x1 + (v6 * ((x2 : Int32).toInt64)) : Int64) fun x7 =>
      qlt (x2 + 1 : Int32) fun x8 =>
      some (.inl (x7, x8))) (0, 0)).bind fun x3 =>
  some x3

noncomputable def jRo_weight (p0 : Int32) (p1 : Int32) (p2 : Int32) (M : qM) : Option Int64 :=
  (qrT (q_sv 6) 100 ((p0 * 10) + p1)).bind fun v1 =>
  (qrJ M 57 110 ((p2 * 10) + p1)).bind fun v2 =>
  (qrJ M 57 110 ((((10 - p2) * 10) + p0) - p1)).bind fun v3 =>
  some ((((v1 : Int32).toInt64) * v2) * v3)

noncomputable def jRo_goOn (p0 : Int32) (p1 : Int32) (p2 : Int32) (M : qM) : Option qM :=
  (M.2.2 49 12).bind fun a1 =>
  (jJ7_fill_d0a16 a1 0 M).bind fun M2 =>
  (qlp (σ := (Int64 × Int64 × Int32 × qM)) (ρ := (Int64 × Int64 × qM)) (
    fun q => qu4 q fun x3 x4 x5 M6 =>
    if (p0 : Int32) < (x5 : Int32) then
      some (.inr (x3, x4, M6))
    else
      qlt (p0 - x5 : Int32) fun x17 =>
      (qrJ M6 57 110 (100 + x17)).bind fun v18 =>
      (qlp (σ := (Int64 × Int64 × Int32 × qM)) (ρ := (Int64 × Int64 × qM)) (
        fun q => qu4 q fun x19 x20 x21 M22 =>
        if (x17 : Int32) < (x21 : Int32) then
          some (.inr (x19, x20, M22))
        else
          (M22.2.2 49 11).bind fun a28 =>
          (qrJ M22 a28 10 x5).bind fun v29 =>
          if (lg_cmp v29 0 : Int32) ≤ (0 : Int32) then
            some (.inr (x19, x20, M22))
          else
            if (lg_cmp v18 0 : Int32) ≤ (0 : Int32) then
              some (.inr (x19, x20, M22))
            else
              (M22.2.2 49 11).bind fun a30 =>
              (qrJ M22 a30 10 x5).bind fun v31 =>
              (jRo_weight x17 x21 p1 M22).bind fun r32 =>
              (qdvJ (v31 * r32) v18).bind fun v33 =>
              (M22.2.2 49 12).bind fun a34 =>
              (qrJ M22 a34 10 (x5 + x21)).bind fun v35 =>
              (qwJ M22 a34 10 (x5 + x21) (v35 + v33)).bind fun M36 =>
              qlt ((
                if (M36.1 49 1 : Int32) ≤ (x5 : Int32) then
                  0
                else
                  if (x5 + x21 : Int32) < (M36.1 49 1 : Int32) then
                    0
                  else
                    v33) : Int64) fun x37 =>
              qlt (x19 + x37 : Int64) fun x38 =>
              ((
                if (M36.1 49 1 : Int32) ≤ (x5 : Int32) then
                  some 0
                else
                  if (x5 + x21 : Int32) < ((M36.1 49 1) - 1 : Int32) then
                    some 0
                  else
                    (qdvJ v33 (((x21 + 1) : Int32).toInt64)).bind fun v42 =>
                    some v42) : Option Int64).bind fun x39 =>
              qlt (x20 + x39 : Int64) fun x40 =>
              qlt (x21 + 1 : Int32) fun x41 =>
              some (.inl (x38, x40, x41, M36))) (x3, x4, 0, M6)).bind fun r26 =>
      qu3 r26 fun x23 x24 M25 =>
      qlt (x5 + 1 : Int32) fun x27 =>
      some (.inl (x23, x24, x27, M25))) (0, 0, 0, M2)).bind fun r10 =>
  qu3 r10 fun x7 x8 M9 =>
  (qwJ M9 51 12 p2 x7).bind fun M11 =>
  (qwJ M11 54 12 p2 x8).bind fun M12 =>
  (M12.2.2 49 11).bind fun a13 =>
  (M12.2.2 49 12).bind fun a14 =>
  qlt (qR M12 49 11 (some a14)) fun M15 =>
  qlt (qR M15 49 12 (some a13)) fun M16 =>
  some M16

noncomputable def jRo_follow (p0 : Int32) (p1 : Nat) (p2 : Int32) (M : qM) : Option qM :=
  (M.2.2 49 11).bind fun a1 =>
  (jJ7_fill_d0a16 a1 0 M).bind fun M2 =>
  (M2.2.2 49 11).bind fun a3 =>
  (qwJ M2 a3 10 0 1000000000).bind fun M4 =>
  (qlp (σ := (Int32 × qM)) (ρ := qM) (
    fun q => qu2 q fun x5 M6 =>
    if (p2 : Int32) ≤ (x5 : Int32) then
      some (.inr M6)
    else
      (jRo_goneByNow M6).bind fun r11 =>
      (qwJ M6 52 13 x5 r11).bind fun M12 =>
      (qrI M12 p1 12 x5).bind fun v13 =>
      (jRo_goOn p0 v13 x5 M12).bind fun M14 =>
      qlt (x5 + 1 : Int32) fun x15 =>
      some (.inl (x15, M14))) (0, M4)).bind fun M7 =>
  (jRo_goneByNow M7).bind fun r9 =>
  (qwJ M7 52 13 p2 r9).bind fun M10 =>
  some M10

noncomputable def jRo_followAll (M : qM) : Option qM :=
  (jRo_follow (M.1 49 0) 50 (M.1 49 5) M).bind fun M1 =>
  some M1

noncomputable def jRo_takenUpTo (p0 : Int32) (M : qM) : Option Int64 :=
  (qlp (σ := (Int64 × Int32)) (ρ := Int64) (
    fun q => qu2 q fun x1 x2 =>
    if (p0 : Int32) < (x2 : Int32) then
      some (.inr x1)
    else
      (qrJ M 51 12 x2).bind fun v5 =>
      qlt (x1 + v5 : Int64) fun x6 =>
      qlt (x2 + 1 : Int32) fun x7 =>
      some (.inl (x6, x7))) (0, 0)).bind fun x3 =>
  some x3

noncomputable def jRo_never (M : qM) : Option Int64 :=
  (jRo_takenUpTo ((M.1 49 5) - 1) M).bind fun r1 =>
  some (1000000000 - r1)

noncomputable def jRo_meanMinute (M : qM) : Option Int32 :=
  (jRo_never M).bind fun r1 =>
  qlt (r1 * (((M.1 49 5) : Int32).toInt64) : Int64) fun x2 =>
  (qlp (σ := (Int64 × Int32)) (ρ := Int64) (
    fun q => qu2 q fun x3 x4 =>
    if (M.1 49 5 : Int32) ≤ (x4 : Int32) then
      some (.inr x3)
    else
      (qrJ M 51 12 x4).bind fun v7 =>
      qlt (x3 + (v7 * ((x4 : Int32).toInt64)) : Int64) fun x8 =>
      qlt (x4 + 1 : Int32) fun x9 =>
      some (.inl (x8, x9))) (x2, 0)).bind fun x5 =>
  some (((x5 / 1000) : Int64).toInt32)

noncomputable def jRo_weigh (p0 : Nat) (M : qM) : Option qM :=
  (jRo_follow ((M.1 49 0) - 1) p0 (M.1 49 5) M).bind fun M1 =>
  (qlp (σ := (Int32 × qM)) (ρ := qM) (
    fun q => qu2 q fun x2 M3 =>
    if (M3.1 49 5 : Int32) ≤ (x2 : Int32) then
      some (.inr M3)
    else
      qlt (((jmaxI 0 ((M3.1 49 2) - ((M3.1 49 3) * x2))) : Int32).toInt64 : Int64) fun x7 =>
      (qrJ M3 54 12 x2).bind fun v8 =>
      (qwJ M3 53 13 x2 ((v8 * x7) - ((1000000000 * (((M3.1 49 4) : Int32).toInt64)) * ((x2 : Int32).toInt64)))).bind fun M9 =>
      qlt (x2 + 1 : Int32) fun x10 =>
      some (.inl (x10, M9))) (0, M1)).bind fun M4 =>
  (qwJ M4 53 13 (M4.1 49 5) (((-1000000000) * (((M4.1 49 4) : Int32).toInt64)) * (((M4.1 49 5) : Int32).toInt64))).bind fun M6 =>
  some M6

noncomputable def jRo_greatest (M : qM) : Option Int32 :=
  (qlp (σ := (Int32 × Int32)) (ρ := Int32) (
    fun q => qu2 q fun x1 x2 =>
    if (M.1 49 5 : Int32) < (x2 : Int32) then
      some (.inr x1)
    else
      (qrJ M 53 13 x2).bind fun v5 =>
      (qrJ M 53 13 x1).bind fun v6 =>
      qlt ((
        if (lg_cmp v5 v6 : Int32) ≤ (0 : Int32) then
          x1
        else
          x2) : Int32) fun x7 =>
      qlt (x2 + 1 : Int32) fun x8 =>
      some (.inl (x7, x8))) (0, 1)).bind fun x3 =>
  some x3

noncomputable def jRo_restsBy (p0 : Int32) (p1 : Nat) (M : qM) : Option (Bool × qM) :=
  (jRo_weigh p1 M).bind fun M1 =>
  (jRo_greatest M1).bind fun r2 =>
  (qrJ M1 53 13 r2).bind fun v3 =>
  qlt (v3 - (1000000000 * ((p0 : Int32).toInt64)) : Int64) fun x4 =>
  (qlp (σ := Int32) (ρ := (Unit ⊕ (Unit ⊕ Unit))) (
    fun x5 =>
    if (M1.1 49 5 : Int32) ≤ (x5 : Int32) then
      some (.inr (.inr (.inr ())))
    else
      (qrI M1 p1 12 x5).bind fun v9 =>
      if (v9 : Int32) ≤ (0 : Int32) then
        (qrI M1 p1 12 x5).bind fun v10 =>
        if (v10 : Int32) = (10 : Int32) then
          some (.inr (.inr (.inl ())))
        else
          qlt (x5 + 1 : Int32) fun x11 =>
          some (.inl x11)
      else
        (qrJ M1 53 13 x5).bind fun v12 =>
        if (0 : Int32) ≤ (lg_cmp v12 x4 : Int32) then
          (qrI M1 p1 12 x5).bind fun v13 =>
          if (v13 : Int32) = (10 : Int32) then
            some (.inr (.inr (.inl ())))
          else
            qlt (x5 + 1 : Int32) fun x14 =>
            some (.inl x14)
        else
          some (.inr (.inl ()))) 0).bind fun r6 =>
  qse r6 (fun r6 =>
    some (false, M1)) (fun r6 =>
    qse r6 (fun r6 =>
      some (true, M1)) (fun r6 =>
      (qrJ M1 53 13 (M1.1 49 5)).bind fun v7 =>
      qlt ((
        if (lg_cmp v7 x4 : Int32) < (0 : Int32) then
          false
        else
          true) : Bool) fun z8 =>
      some (z8, M1)))

noncomputable def jRo_search (p0 : Int32) (M : qM) : Option qM :=
  if (p0 : Int32) = (M.1 49 17 : Int32) then
    some M
  else
    (qlp (σ := (Int32 × Int32)) (ρ := Int32) (
      fun q => qu2 q fun x1 x2 =>
      if (M.1 49 5 : Int32) ≤ (x2 : Int32) then
        some (.inr x1)
      else
        if (3 : Int32) ≤ (x2 : Int32) then
          some (.inr x1)
        else
          qlt (x1 * 11 : Int32) fun x27 =>
          qlt (x2 + 1 : Int32) fun x28 =>
          some (.inl (x27, x28))) (1, 0)).bind fun x3 =>
    qlt (qI M 49 16 0) fun M5 =>
    (qlp (σ := (Int32 × qM)) (ρ := qM) (
      fun q => qu2 q fun x6 M7 =>
      if (x3 : Int32) ≤ (x6 : Int32) then
        some (.inr M7)
      else
        qlt ((M7.1 49 5) - 1 : Int32) fun x11 =>
        (qlp (σ := (Int32 × Int32 × qM)) (ρ := qM) (
          fun q => qu3 q fun x12 x13 M14 =>
          if (x13 : Int32) < (0 : Int32) then
            some (.inr M14)
          else
            (qwI M14 58 12 x13 (x12 - x12 / 11 * 11)).bind fun M24 =>
            qlt (x12 / 11 : Int32) fun x25 =>
            qlt (x13 + (-1) : Int32) fun x26 =>
            some (.inl (x25, x26, M24))) (x6, x11, M7)).bind fun M15 =>
        (jRo_restsBy p0 58 M15).bind fun w17 =>
        qu2 w17 fun r18 M19 =>
        ((
          if (b2i r18 : Int32) = (0 : Int32) then
            some M19
          else
            (qwI M19 59 1331 (M19.1 49 16) x6).bind fun M22 =>
            qlt (qI M22 49 16 ((M22.1 49 16) + 1)) fun M23 =>
            some M23) : Option qM).bind fun M20 =>
        qlt (x6 + 1 : Int32) fun x21 =>
        some (.inl (x21, M20))) (0, M5)).bind fun M8 =>
    qlt (qI M8 49 17 p0) fun M10 =>
    some M10

noncomputable def jRo_likeliest (p0 : Int32) (M : qM) : Option (Int32 × qM) :=
  (qcp M 50 12 0 58 12 0 (M.1 49 5)).bind fun M1 =>
  (qlp (σ := (Int64 × Int32 × Int32 × qM)) (ρ := (Int32 × qM)) (
    fun q => qu4 q fun x2 x3 x4 M5 =>
    if (p0 : Int32) < (x4 : Int32) then
      some (.inr (x3, M5))
    else
      (qlp (σ := (Int64 × Int32 × Int32 × qM)) (ρ := (Int64 × Int32 × qM)) (
        fun q => qu4 q fun x9 x10 x11 M12 =>
        if (10 : Int32) < (x11 : Int32) then
          some (.inr (x9, x10, M12))
        else
          (qwI M12 58 12 x4 x11).bind fun M20 =>
          (jRo_follow (M20.1 49 0) 58 (p0 + 1) M20).bind fun M21 =>
          (jRo_takenUpTo p0 M21).bind fun r22 =>
          qlt ((
            if (lg_cmp r22 x9 : Int32) ≤ (0 : Int32) then
              (x9, x10)
            else
              qlt ((x4 * 11) + x11 : Int32) fun x27 =>
              (r22, x27)) : (Int64 × Int32)) fun w25 =>
          qu2 w25 fun x23 x24 =>
          qlt (x11 + 1 : Int32) fun x26 =>
          some (.inl (x23, x24, x26, M21))) (x2, x3, 0, M5)).bind fun r16 =>
      qu3 r16 fun x13 x14 M15 =>
      (qrI M15 50 12 x4).bind fun v17 =>
      (qwI M15 58 12 x4 v17).bind fun M18 =>
      qlt (x4 + 1 : Int32) fun x19 =>
      some (.inl (x13, x14, x19, M18))) ((-1), 0, 0, M1)).bind fun r8 =>
  qu2 r8 fun x6 M7 =>
  some (x6, M7)

noncomputable def jTo_began (M : qM) : Bool :=
  qlt ((
    if M.2.2 60 0 = none then
      false
    else
      true) : Bool) fun z1 =>
  z1

noncomputable def jTo_begin (p0 : Nat) (p1 : Int32) (M : qM) : Option qM :=
  qlt (qR M 60 0 (some p0)) fun M1 =>
  qlt (qI M1 60 1 p1) fun M2 =>
  (jJ7_fill_53178 61 (-1) M2).bind fun M3 =>
  some M3

noncomputable def jTo_rankBesideOthers (p0 : Int32) (M : qM) : Option qM :=
  (jJ7_fill_53178 63 0 M).bind fun M1 =>
  (jJ7_fill_53178 64 1 M1).bind fun M2 =>
  (qlp (σ := (Int32 × qM)) (ρ := qM) (
    fun q => qu2 q fun x3 M4 =>
    (M4.2.2 60 0).bind fun a17 =>
    if (M4.1 a17 2 : Int32) ≤ (x3 : Int32) then
      some (.inr M4)
    else
      (qrI M4 61 20 x3).bind fun v18 =>
      ((
        if (x3 : Int32) = (p0 : Int32) then
          some M4
        else
          if (b2i (jTc_isOf v18 61) : Int32) = (0 : Int32) then
            some M4
          else
            (qrI M4 63 61 v18).bind fun v21 =>
            (qwI M4 63 61 v18 (v21 + 1)).bind fun M22 =>
            (qrI M22 64 61 v18).bind fun v23 =>
            qlt ((
              if (p0 : Int32) ≤ (x3 : Int32) then
                false
              else
                true) : Bool) fun z24 =>
            (qwI M22 64 61 v18 (v23 + (b2i z24))).bind fun M25 =>
            some M25) : Option qM).bind fun M19 =>
      qlt (x3 + 1 : Int32) fun x20 =>
      some (.inl (x20, M19))) (0, M2)).bind fun M5 =>
  (qlp (σ := (Int32 × Int32 × qM)) (ρ := qM) (
    fun q => qu3 q fun x7 x8 M9 =>
    if (60 : Int32) < (x8 : Int32) then
      some (.inr M9)
    else
      (qrI M9 64 61 x8).bind fun v12 =>
      (qwI M9 64 61 x8 (v12 + x7)).bind fun M13 =>
      (qrI M13 63 61 x8).bind fun v14 =>
      qlt (x7 + v14 : Int32) fun x15 =>
      qlt (x8 + 1 : Int32) fun x16 =>
      some (.inl (x15, x16, M13))) (0, 0, M5)).bind fun M10 =>
  some M10

noncomputable def jTo_hasBy (p0 : Int32) (M : qM) : Option Bool :=
  (M.2.2 60 0).bind fun a1 =>
  (jVi_ofThing a1 (M.1 60 1) 0 M).bind fun r2 =>
  ((
    if (p0 : Int32) < (r2 : Int32) then
      some false
    else
      (M.2.2 60 0).bind fun a4 =>
      (jVi_ofThing a4 (M.1 60 1) 1 M).bind fun r5 =>
      if (r2 + r5 : Int32) ≤ (p0 : Int32) then
        some false
      else
        some true) : Option Bool).bind fun z3 =>
  some z3

noncomputable def jTo_gainBy (p0 : Int32) (p1 : Int32) (M : qM) : Option Int32 :=
  (M.2.2 60 0).bind fun a1 =>
  (jVi_ofPerson a1 p0 2 M).bind fun r2 =>
  if (b2i (jTc_isOf p1 61) : Int32) = (0 : Int32) then
    some ((-r2) * 60)
  else
    (qrI M 64 61 p1).bind fun v3 =>
    (jTo_hasBy v3 M).bind fun r4 =>
    ((
      if (b2i r4 : Int32) = (0 : Int32) then
        some 0
      else
        (M.2.2 60 0).bind fun a6 =>
        (jVi_worthIn a6 (M.1 60 1) p1 M).bind fun r7 =>
        some r7) : Option Int32).bind fun x5 =>
    some (x5 - (r2 * p1))

noncomputable def jTo_bestBesideOthers (p0 : Int32) (M : qM) : Option Int32 :=
  (jTo_gainBy p0 0 M).bind fun r1 =>
  (qlp (σ := (Int32 × Int32 × Int32)) (ρ := (Int32 × Int32)) (
    fun q => qu3 q fun x2 x3 x4 =>
    if (60 : Int32) < (x4 : Int32) then
      some (.inr (x2, x3))
    else
      (jTo_gainBy p0 x4 M).bind fun r10 =>
      qlt ((
        if (r10 : Int32) ≤ (x3 : Int32) then
          (x2, x3)
        else
          (x4, r10)) : (Int32 × Int32)) fun w13 =>
      qu2 w13 fun x11 x12 =>
      qlt (x4 + 1 : Int32) fun x14 =>
      some (.inl (x11, x12, x14))) (0, r1, 1)).bind fun r7 =>
  qu2 r7 fun x5 x6 =>
  (jTo_gainBy p0 (-1) M).bind fun r8 =>
  qlt ((
    if (r8 : Int32) ≤ (x6 : Int32) then
      x5
    else
      (-1)) : Int32) fun x9 =>
  some x9

noncomputable def jTo_rankOf (p0 : Int32) (M : qM) : Option (Int32 × qM) :=
  (jTo_rankBesideOthers p0 M).bind fun M1 =>
  (qrI M1 61 20 p0).bind fun v2 =>
  ((
    if (b2i (jTc_isOf v2 61) : Int32) = (0 : Int32) then
      some (-1)
    else
      (qrI M1 61 20 p0).bind fun v4 =>
      (qrI M1 64 61 v4).bind fun v5 =>
      some v5) : Option Int32).bind fun x3 =>
  some (x3, M1)

noncomputable def jTo_gainOf (p0 : Int32) (M : qM) : Option (Int32 × qM) :=
  (jTo_rankBesideOthers p0 M).bind fun M1 =>
  (qrI M1 61 20 p0).bind fun v2 =>
  (jTo_gainBy p0 v2 M1).bind fun r3 =>
  some (r3, M1)

noncomputable def jTo_answerOf (p0 : Int32) (M : qM) : Option (Int32 × qM) :=
  (jTo_rankBesideOthers p0 M).bind fun M1 =>
  (jTo_bestBesideOthers p0 M1).bind fun r2 =>
  some (r2, M1)

noncomputable def jTo_regretOf (p0 : Int32) (M : qM) : Option (Int32 × qM) :=
  (jTo_answerOf p0 M).bind fun w1 =>
  qu2 w1 fun r2 M3 =>
  (jTo_gainBy p0 r2 M3).bind fun r4 =>
  (qrI M3 61 20 p0).bind fun v5 =>
  (jTo_gainBy p0 v5 M3).bind fun r6 =>
  some (r4 - r6, M3)

noncomputable def jTo_takeTurns (M : qM) : Option (Int32 × qM) :=
  (qcp M 61 20 0 62 20 0 20).bind fun M1 =>
  (qlp (σ := (Int32 × Int32 × qM)) (ρ := (qM ⊕ ((Int32 × qM) ⊕ qM))) (
    fun q => qu3 q fun x2 x3 M4 =>
    if (1000 : Int32) < (x3 : Int32) then
      some (.inr (.inr (.inr M4)))
    else
      (qlp (σ := (Int32 × Int32 × qM)) (ρ := (Int32 × qM)) (
        fun q => qu3 q fun x12 x13 M14 =>
        (M14.2.2 60 0).bind fun a19 =>
        if (M14.1 a19 2 : Int32) ≤ (x13 : Int32) then
          some (.inr (x12, M14))
        else
          if (1000 : Int32) < (x12 : Int32) then
            some (.inr (x12, M14))
          else
            (jTo_regretOf x13 M14).bind fun w20 =>
            qu2 w20 fun r21 M22 =>
            ((
              if (r21 : Int32) ≤ (0 : Int32) then
                some (x12, M22)
              else
                (jTo_answerOf x13 M22).bind fun w27 =>
                qu2 w27 fun r28 M29 =>
                (qwI M29 61 20 x13 r28).bind fun M30 =>
                qlt (x12 + 1 : Int32) fun x31 =>
                some (x31, M30)) : Option (Int32 × qM)).bind fun w25 =>
            qu2 w25 fun x23 M24 =>
            qlt (x13 + 1 : Int32) fun x26 =>
            some (.inl (x23, x26, M24))) (x2, 0, M4)).bind fun r17 =>
      qu2 r17 fun x15 M16 =>
      if (x15 : Int32) ≤ (1000 : Int32) then
        if (x15 : Int32) = (x2 : Int32) then
          some (.inr (.inr (.inl (x15, M16))))
        else
          qlt (x3 + 1 : Int32) fun x18 =>
          some (.inl (x15, x18, M16))
      else
        some (.inr (.inl M16))) (0, 0, M1)).bind fun r9 =>
  qse r9 (fun M5 =>
    (qcp M5 62 20 0 61 20 0 20).bind fun M10 =>
    some ((-1), M10)) (fun r9 =>
    qse r9 (fun r9 =>
      qu2 r9 fun x6 M7 =>
      some (x6, M7)) (fun M8 =>
      (qcp M8 62 20 0 61 20 0 20).bind fun M11 =>
      some ((-1), M11)))

noncomputable def jTo_exchange (p0 : Int32) (p1 : Int32) (M : qM) : Option qM :=
  (qrI M 61 20 p0).bind fun v1 =>
  (qrI M 61 20 p1).bind fun v2 =>
  (qwI M 61 20 p0 v2).bind fun M3 =>
  (qwI M3 61 20 p1 v1).bind fun M4 =>
  some M4

noncomputable def jTo_gainBySwap (p0 : Int32) (p1 : Int32) (M : qM) : Option (Int32 × qM) :=
  (jTo_gainOf p0 M).bind fun w1 =>
  qu2 w1 fun r2 M3 =>
  (jTo_gainOf p1 M3).bind fun w4 =>
  qu2 w4 fun r5 M6 =>
  qlt (r2 + r5 : Int32) fun x7 =>
  (jTo_exchange p0 p1 M6).bind fun M8 =>
  (jTo_gainOf p0 M8).bind fun w9 =>
  qu2 w9 fun r10 M11 =>
  (jTo_gainOf p1 M11).bind fun w12 =>
  qu2 w12 fun r13 M14 =>
  qlt (r10 + r13 : Int32) fun x15 =>
  (jTo_exchange p0 p1 M14).bind fun M16 =>
  some (x15 - x7, M16)

noncomputable def jTo_fullest (M : qM) : Option (Int32 × qM) :=
  (jTo_rankBesideOthers (-1) M).bind fun M1 =>
  (qlp (σ := (Int32 × Int32 × Int32)) (ρ := Int32) (
    fun q => qu3 q fun x2 x3 x4 =>
    if (60 : Int32) < (x4 : Int32) then
      some (.inr x2)
    else
      (qrI M1 63 61 x4).bind fun v7 =>
      ((
        if (v7 : Int32) ≤ (x3 : Int32) then
          some (x2, x3)
        else
          (qrI M1 63 61 x4).bind fun v12 =>
          some (x4, v12)) : Option (Int32 × Int32)).bind fun w10 =>
      qu2 w10 fun x8 x9 =>
      qlt (x4 + 1 : Int32) fun x11 =>
      some (.inl (x8, x9, x11))) ((-1), 0, 0)).bind fun x5 =>
  some (x5, M1)

noncomputable def jTo_firstWithPlace (p0 : Int32) (M : qM) : Option (Int32 × qM) :=
  (jTo_rankBesideOthers p0 M).bind fun M1 =>
  (qlp (σ := Int32) (ρ := (Int32 ⊕ Unit)) (
    fun x2 =>
    if (60 : Int32) < (x2 : Int32) then
      some (.inr (.inr ()))
    else
      (qrI M1 64 61 x2).bind fun v5 =>
      (jTo_hasBy v5 M1).bind fun r6 =>
      if (b2i r6 : Int32) = (0 : Int32) then
        qlt (x2 + 1 : Int32) fun x7 =>
        some (.inl x7)
      else
        some (.inr (.inl x2))) 0).bind fun r4 =>
  qse r4 (fun x3 =>
    some (x3, M1)) (fun r4 =>
    some ((-1), M1))

noncomputable def jTr_rankOf (p0 : Int32) (p1 : Int32) (M : qM) : Option Int32 :=
  (qlp (σ := (Int32 × Int32)) (ρ := Int32) (
    fun q => qu2 q fun x1 x2 =>
    if (p1 : Int32) ≤ (x2 : Int32) then
      some (.inr x1)
    else
      (M.2.2 65 3).bind fun a5 =>
      (qrI M a5 20 x2).bind fun v6 =>
      qlt ((
        if (v6 : Int32) = ((-1) : Int32) then
          false
        else
          true) : Bool) fun z7 =>
      (M.2.2 65 3).bind fun a8 =>
      (qrI M a8 20 x2).bind fun v9 =>
      (M.2.2 65 3).bind fun a10 =>
      (qrI M a10 20 p0).bind fun v11 =>
      ((
        if (v9 : Int32) < (v11 : Int32) then
          some true
        else
          (M.2.2 65 3).bind fun a16 =>
          (qrI M a16 20 x2).bind fun v17 =>
          (M.2.2 65 3).bind fun a18 =>
          (qrI M a18 20 p0).bind fun v19 =>
          if (v17 : Int32) = (v19 : Int32) then
            if (p0 : Int32) ≤ (x2 : Int32) then
              some false
            else
              some true
          else
            some false) : Option Bool).bind fun z12 =>
      qlt ((
        if (b2i z7 : Int32) = (0 : Int32) then
          false
        else
          if (b2i z12 : Int32) = (0 : Int32) then
            false
          else
            true) : Bool) fun z13 =>
      qlt (x1 + (b2i z13) : Int32) fun x14 =>
      qlt (x2 + 1 : Int32) fun x15 =>
      some (.inl (x14, x15))) (1, 0)).bind fun x3 =>
  some x3

noncomputable def jTr_visit (p0 : Nat) (p1 : Int32) (p2 : Int32) (M : qM) : Option qM :=
  (jVi_ofThing p0 p1 0 M).bind fun r1 =>
  (jVi_ofThing p0 p1 1 M).bind fun r2 =>
  qlt (r1 + r2 : Int32) fun x3 =>
  (M.2.2 65 4).bind fun a4 =>
  (jJ7_fill_53178 a4 (-1) M).bind fun M5 =>
  (qlp (σ := (Int32 × qM)) (ρ := qM) (
    fun q => qu2 q fun x6 M7 =>
    if (M7.1 p0 2 : Int32) ≤ (x6 : Int32) then
      some (.inr M7)
    else
      (M7.2.2 65 3).bind fun a10 =>
      (qrI M7 a10 20 x6).bind fun v11 =>
      ((
        if (v11 : Int32) = ((-1) : Int32) then
          some M7
        else
          (qrI M7 68 20 x6).bind fun v14 =>
          (qwI M7 68 20 x6 (v14 + 1)).bind fun M15 =>
          (jTr_rankOf x6 (M15.1 p0 2) M15).bind fun r16 =>
          if (r1 : Int32) ≤ (r16 : Int32) then
            if (x3 : Int32) ≤ (r16 : Int32) then
              some M15
            else
              (qwI M15 66 20 x6 p1).bind fun M17 =>
              (M17.2.2 65 3).bind fun a18 =>
              (qrI M17 a18 20 x6).bind fun v19 =>
              (qwI M17 67 20 x6 v19).bind fun M20 =>
              some M20
          else
            (M15.2.2 65 4).bind fun a21 =>
            (M15.2.2 65 3).bind fun a22 =>
            (qrI M15 a22 20 x6).bind fun v23 =>
            (qwI M15 a21 20 x6 (v23 + p2)).bind fun M24 =>
            some M24) : Option qM).bind fun M12 =>
      qlt (x6 + 1 : Int32) fun x13 =>
      some (.inl (x13, M12))) (0, M5)).bind fun M8 =>
  some M8

noncomputable def jTr_walk (p1 : Int32) (M : qM) : Option qM :=
  (jJ7_fill_53178 66 (-1) M).bind fun M1 =>
  (jJ7_fill_53178 67 (-1) M1).bind fun M2 =>
  (jJ7_fill_53178 68 0 M2).bind fun M3 =>
  (M3.2.2 65 3).bind fun a4 =>
  (qcp M3 61 20 0 a4 20 0 20).bind fun M5 =>
  (qlp (σ := (Int32 × qM)) (ρ := qM) (
    fun q => qu2 q fun x6 M7 =>
    (M7.2.2 60 0).bind fun a10 =>
    if (M7.1 a10 0 : Int32) ≤ (x6 : Int32) then
      some (.inr M7)
    else
      (M7.2.2 60 0).bind fun a11 =>
      (jTr_visit a11 x6 p1 M7).bind fun M12 =>
      (M12.2.2 65 3).bind fun a13 =>
      (M12.2.2 65 4).bind fun a14 =>
      qlt (qR M12 65 3 (some a14)) fun M15 =>
      qlt (qR M15 65 4 (some a13)) fun M16 =>
      qlt (x6 + 1 : Int32) fun x17 =>
      some (.inl (x17, M16))) (0, M5)).bind fun M8 =>
  some M8

noncomputable def jVr_readItems (p0 : Nat) (p1 : Nat) (p2 : Nat) (p3 : Nat) (p4 : Int32) (M : qM) : Option (Bool × qM) :=
  (qlp (σ := (Int32 × Int32 × qM)) (ρ := (qM ⊕ (qM ⊕ (qM ⊕ (qM ⊕ qM))))) (
    fun q => qu3 q fun x1 x2 M3 =>
    if (4 : Int32) < (x2 : Int32) then
      some (.inr (.inr (.inr (.inr (.inr M3)))))
    else
      (jTp_peekAmong p0 M3).bind fun w16 =>
      qu2 w16 fun r17 M18 =>
      if (r17 : Int32) < (0 : Int32) then
        some (.inr (.inl M18))
      else
        if (r17 : Int32) < (4 : Int32) then
          if ((x1 >>> (r17 &&& 31)) &&& 1 : Int32) = (0 : Int32) then
            qlt (x1 ||| (1 <<< (r17 &&& 31)) : Int32) fun x19 =>
            qlt (qI M18 1 2 ((M18.1 1 2) + 1)) fun M20 =>
            (jTp_takeNumber 3 M20).bind fun w21 =>
            qu2 w21 fun r22 M23 =>
            if (r22 : Int32) = ((-1) : Int32) then
              some (.inr (.inr (.inr (.inl M23))))
            else
              (qrT (q_sv p1) 4 r17).bind fun v24 =>
              if (r22 : Int32) < (v24 : Int32) then
                some (.inr (.inr (.inr (.inr (.inl M23)))))
              else
                (qrT (q_sv p2) 4 r17).bind fun v25 =>
                if (r22 : Int32) ≤ (v25 : Int32) then
                  (qwI M23 p3 (q_al p3) (p4 + r17) r22).bind fun M26 =>
                  qlt (x2 + 1 : Int32) fun x27 =>
                  some (.inl (x19, x27, M26))
                else
                  some (.inr (.inr (.inr (.inr (.inl M23)))))
          else
            some (.inr (.inr (.inl M18)))
        else
          some (.inr (.inl M18))) (0, 0, M)).bind fun r9 =>
  qse r9 (fun M4 =>
    some (true, M4)) (fun r9 =>
    qse r9 (fun M5 =>
      qlt (jTp_fail (M5.1 1 2) M5) fun w10 =>
      qu2 w10 fun r11 M12 =>
      some (r11, M12)) (fun r9 =>
      qse r9 (fun M6 =>
        some (false, M6)) (fun r9 =>
        qse r9 (fun M7 =>
          qlt (jTp_fail ((M7.1 1 2) - 1) M7) fun w13 =>
          qu2 w13 fun r14 M15 =>
          some (r14, M15)) (fun M8 =>
          some (true, M8)))))

noncomputable def jVr_readClause (p0 : Nat) (M : qM) : Option (Bool × qM) :=
  (jTp_peek M).bind fun w1 =>
  qu2 w1 fun r2 M3 =>
  if (r2 : Int32) = (116 : Int32) then
    if (4 : Int32) ≤ (M3.1 p0 0 : Int32) then
      qlt ((
        if (r2 : Int32) = (115 : Int32) then
          if (M3.1 p0 1 : Int32) < (6 : Int32) then
            false
          else
            true
        else
          true) : Bool) fun z24 =>
      if z24 = true then
        qlt (jTp_fail (M3.1 1 2) M3) fun w25 =>
        qu2 w25 fun r26 M27 =>
        some (r26, M27)
      else
        qlt (qI M3 1 2 ((M3.1 1 2) + 1)) fun M28 =>
        (jVi_addSort p0 M28).bind fun w29 =>
        qu2 w29 fun r30 M31 =>
        (jVr_readItems 1 4 5 (p0 + 2) r30 M31).bind fun w32 =>
        qu2 w32 fun r33 M34 =>
        if (b2i r33 : Int32) = (0 : Int32) then
          some (false, M34)
        else
          (jVi_settlePeople p0 M34).bind fun w35 =>
          qu2 w35 fun r36 M37 =>
          qlt ((
            if (b2i r36 : Int32) = (0 : Int32) then
              qlt (jTp_fail (M37.1 1 2) M37) fun w41 =>
              qu2 w41 fun r42 M43 =>
              if (b2i r42 : Int32) = (0 : Int32) then
                (false, M43)
              else
                (true, M43)
            else
              (true, M37)) : (Bool × qM)) fun w40 =>
          qu2 w40 fun z38 M39 =>
          some (z38, M39)
    else
      qlt (qI M3 1 2 ((M3.1 1 2) + 1)) fun M44 =>
      (jVi_addThing p0 M44).bind fun w45 =>
      qu2 w45 fun r46 M47 =>
      (jVr_readItems 0 2 3 (p0 + 1) r46 M47).bind fun w48 =>
      qu2 w48 fun r49 M50 =>
      some (r49, M50)
  else
    qlt ((
      if (r2 : Int32) = (115 : Int32) then
        if (M3.1 p0 1 : Int32) < (6 : Int32) then
          false
        else
          true
      else
        true) : Bool) fun z4 =>
    if z4 = true then
      qlt (jTp_fail (M3.1 1 2) M3) fun w5 =>
      qu2 w5 fun r6 M7 =>
      some (r6, M7)
    else
      qlt (qI M3 1 2 ((M3.1 1 2) + 1)) fun M8 =>
      (jVi_addSort p0 M8).bind fun w9 =>
      qu2 w9 fun r10 M11 =>
      (jVr_readItems 1 4 5 (p0 + 2) r10 M11).bind fun w12 =>
      qu2 w12 fun r13 M14 =>
      if (b2i r13 : Int32) = (0 : Int32) then
        some (false, M14)
      else
        (jVi_settlePeople p0 M14).bind fun w15 =>
        qu2 w15 fun r16 M17 =>
        qlt ((
          if (b2i r16 : Int32) = (0 : Int32) then
            qlt (jTp_fail (M17.1 1 2) M17) fun w21 =>
            qu2 w21 fun r22 M23 =>
            if (b2i r22 : Int32) = (0 : Int32) then
              (false, M23)
            else
              (true, M23)
          else
            (true, M17)) : (Bool × qM)) fun w20 =>
        qu2 w20 fun z18 M19 =>
        some (z18, M19)

noncomputable def jVr_read (p0 : Nat) (M : qM) : Option (Int32 × qM) :=
  qlt (jTp_rewind M) fun M1 =>
  qlt (jVi_clear p0 M1) fun M2 =>
  (qlp (σ := (Int32 × qM)) (ρ := (qM ⊕ (qM ⊕ (qM ⊕ qM)))) (
    fun q => qu2 q fun x3 M4 =>
    if (10 : Int32) < (x3 : Int32) then
      some (.inr (.inr (.inr (.inr M4))))
    else
      (jVr_readClause p0 M4).bind fun w11 =>
      qu2 w11 fun r12 M13 =>
      if (b2i r12 : Int32) = (0 : Int32) then
        some (.inr (.inl M13))
      else
        (jTp_peek M13).bind fun w14 =>
        qu2 w14 fun r15 M16 =>
        if (r15 : Int32) = ((-1) : Int32) then
          some (.inr (.inr (.inl M16)))
        else
          if (r15 : Int32) = (59 : Int32) then
            if (x3 : Int32) = (10 : Int32) then
              some (.inr (.inr (.inr (.inl M16))))
            else
              qlt (qI M16 1 2 ((M16.1 1 2) + 1)) fun M17 =>
              qlt (x3 + 1 : Int32) fun x18 =>
              some (.inl (x18, M17))
          else
            some (.inr (.inr (.inr (.inl M16))))) (1, M2)).bind fun r9 =>
  qse r9 (fun M5 =>
    some (M5.1 1 3, M5)) (fun r9 =>
    qse r9 (fun M6 =>
      qlt ((
        if (M6.1 p0 0 : Int32) ≤ (0 : Int32) then
          M6.1 1 2
        else
          if (M6.1 p0 1 : Int32) ≤ (0 : Int32) then
            M6.1 1 2
          else
            (-1)) : Int32) fun x10 =>
      some (x10, M6)) (fun r9 =>
      qse r9 (fun M7 =>
        some (M7.1 1 2, M7)) (fun M8 =>
        some (M8.1 1 2, M8))))

noncomputable def jWr_openAt (p0 : Int32) (M : qM) : Bool × qM :=
  if (p0 : Int32) < (6 : Int32) then
    qlt (qI M 1 2 ((M.1 1 2) + 1)) fun M1 =>
    (true, M1)
  else
    qlt (jTp_fail (M.1 1 2) M) fun w2 =>
    qu2 w2 fun r3 M4 =>
    (r3, M4)

noncomputable def jWr_readAtomF (rc : Int32 → qM → Option (Bool × qM)) (p0 : Int32) (M : qM) : Option (Bool × qM) :=
  (jTp_peek M).bind fun w1 =>
  qu2 w1 fun r2 M3 =>
  if (r2 : Int32) = (91 : Int32) then
    qlt (jWr_openAt p0 M3) fun w22 =>
    qu2 w22 fun r23 M24 =>
    ((
      if (b2i r23 : Int32) = (0 : Int32) then
        some (false, M24)
      else
        (rc (p0 + 1) M24).bind fun w28 =>
        qu2 w28 fun r29 M30 =>
        if (b2i r29 : Int32) = (0 : Int32) then
          some (false, M30)
        else
          (jTp_take 93 M30).bind fun w31 =>
          qu2 w31 fun r32 M33 =>
          if (b2i r32 : Int32) = (0 : Int32) then
            some (false, M33)
          else
            some (true, M33)) : Option (Bool × qM)).bind fun w27 =>
    qu2 w27 fun z25 M26 =>
    some (z25, M26)
  else
    (jTp_peekAmong 2 M3).bind fun w4 =>
    qu2 w4 fun r5 M6 =>
    if (r5 : Int32) < (0 : Int32) then
      (jTp_takeNumber 4 M6).bind fun w7 =>
      qu2 w7 fun r8 M9 =>
      ((
        if (r8 : Int32) = ((-1) : Int32) then
          some (false, M9)
        else
          (M9.2.2 4 1).bind fun a13 =>
          (jWy_add a13 48 r8 M9).bind fun w14 =>
          qu2 w14 fun r15 M16 =>
          if (b2i r15 : Int32) = (0 : Int32) then
            some (false, M16)
          else
            some (true, M16)) : Option (Bool × qM)).bind fun w12 =>
      qu2 w12 fun z10 M11 =>
      some (z10, M11)
    else
      qlt (qI M6 1 2 ((M6.1 1 2) + 1)) fun M17 =>
      (M17.2.2 4 1).bind fun a18 =>
      (jWy_add a18 97 r5 M17).bind fun w19 =>
      qu2 w19 fun r20 M21 =>
      some (r20, M21)

noncomputable def jWr_readTermF (rc : Int32 → qM → Option (Bool × qM)) (p0 : Int32) (M : qM) : Option (Bool × qM) :=
  (jWr_readAtomF rc p0 M).bind fun w1 =>
  qu2 w1 fun r2 M3 =>
  (jTp_peek M3).bind fun w4 =>
  qu2 w4 fun r5 M6 =>
  (qlp (σ := (Bool × Int32 × qM)) (ρ := (Bool × qM)) (
    fun q => qu3 q fun z7 x8 M9 =>
    if (b2i z7 : Int32) = (0 : Int32) then
      some (.inr (z7, M9))
    else
      if (x8 : Int32) = (42 : Int32) then
        if (M9.1 1 1 : Int32) ≤ (M9.1 1 2 : Int32) then
          some (.inr (z7, M9))
        else
          qlt (qI M9 1 2 ((M9.1 1 2) + 1)) fun M13 =>
          (jWr_readAtomF rc p0 M13).bind fun w14 =>
          qu2 w14 fun r15 M16 =>
          ((
            if (b2i r15 : Int32) = (0 : Int32) then
              some (false, M16)
            else
              (M16.2.2 4 1).bind fun a23 =>
              (jWy_add a23 x8 0 M16).bind fun w24 =>
              qu2 w24 fun r25 M26 =>
              if (b2i r25 : Int32) = (0 : Int32) then
                some (false, M26)
              else
                some (true, M26)) : Option (Bool × qM)).bind fun w19 =>
          qu2 w19 fun z17 M18 =>
          (jTp_peek M18).bind fun w20 =>
          qu2 w20 fun r21 M22 =>
          some (.inl (z17, r21, M22))
      else
        if (x8 : Int32) = (47 : Int32) then
          if (M9.1 1 1 : Int32) ≤ (M9.1 1 2 : Int32) then
            some (.inr (z7, M9))
          else
            qlt (qI M9 1 2 ((M9.1 1 2) + 1)) fun M27 =>
            (jWr_readAtomF rc p0 M27).bind fun w28 =>
            qu2 w28 fun r29 M30 =>
            ((
              if (b2i r29 : Int32) = (0 : Int32) then
                some (false, M30)
              else
                (M30.2.2 4 1).bind fun a37 =>
                (jWy_add a37 x8 0 M30).bind fun w38 =>
                qu2 w38 fun r39 M40 =>
                if (b2i r39 : Int32) = (0 : Int32) then
                  some (false, M40)
                else
                  some (true, M40)) : Option (Bool × qM)).bind fun w33 =>
            qu2 w33 fun z31 M32 =>
            (jTp_peek M32).bind fun w34 =>
            qu2 w34 fun r35 M36 =>
            some (.inl (z31, r35, M36))
        else
          some (.inr (z7, M9))) (r2, r5, M6)).bind fun r12 =>
  qu2 r12 fun z10 M11 =>
  some (z10, M11)

noncomputable def jWr_readSumF (rc : Int32 → qM → Option (Bool × qM)) (p0 : Int32) (M : qM) : Option (Bool × qM) :=
  (jWr_readTermF rc p0 M).bind fun w1 =>
  qu2 w1 fun r2 M3 =>
  (jTp_peek M3).bind fun w4 =>
  qu2 w4 fun r5 M6 =>
  (qlp (σ := (Bool × Int32 × qM)) (ρ := (Bool × qM)) (
    fun q => qu3 q fun z7 x8 M9 =>
    if (b2i z7 : Int32) = (0 : Int32) then
      some (.inr (z7, M9))
    else
      if (x8 : Int32) = (43 : Int32) then
        if (M9.1 1 1 : Int32) ≤ (M9.1 1 2 : Int32) then
          some (.inr (z7, M9))
        else
          qlt (qI M9 1 2 ((M9.1 1 2) + 1)) fun M13 =>
          (jWr_readTermF rc p0 M13).bind fun w14 =>
          qu2 w14 fun r15 M16 =>
          ((
            if (b2i r15 : Int32) = (0 : Int32) then
              some (false, M16)
            else
              (M16.2.2 4 1).bind fun a23 =>
              (jWy_add a23 x8 0 M16).bind fun w24 =>
              qu2 w24 fun r25 M26 =>
              if (b2i r25 : Int32) = (0 : Int32) then
                some (false, M26)
              else
                some (true, M26)) : Option (Bool × qM)).bind fun w19 =>
          qu2 w19 fun z17 M18 =>
          (jTp_peek M18).bind fun w20 =>
          qu2 w20 fun r21 M22 =>
          some (.inl (z17, r21, M22))
      else
        if (x8 : Int32) = (45 : Int32) then
          if (M9.1 1 1 : Int32) ≤ (M9.1 1 2 : Int32) then
            some (.inr (z7, M9))
          else
            qlt (qI M9 1 2 ((M9.1 1 2) + 1)) fun M27 =>
            (jWr_readTermF rc p0 M27).bind fun w28 =>
            qu2 w28 fun r29 M30 =>
            ((
              if (b2i r29 : Int32) = (0 : Int32) then
                some (false, M30)
              else
                (M30.2.2 4 1).bind fun a37 =>
                (jWy_add a37 x8 0 M30).bind fun w38 =>
                qu2 w38 fun r39 M40 =>
                if (b2i r39 : Int32) = (0 : Int32) then
                  some (false, M40)
                else
                  some (true, M40)) : Option (Bool × qM)).bind fun w33 =>
            qu2 w33 fun z31 M32 =>
            (jTp_peek M32).bind fun w34 =>
            qu2 w34 fun r35 M36 =>
            some (.inl (z31, r35, M36))
        else
          some (.inr (z7, M9))) (r2, r5, M6)).bind fun r12 =>
  qu2 r12 fun z10 M11 =>
  some (z10, M11)

noncomputable def jWr_readSumN (n : Nat) : Int32 → qM → Option (Bool × qM) := Nat.rec (fun _ _ => none) (fun _ rc => jWr_readSumF rc) n
noncomputable def jWr_readAtom (p0 : Int32) (M : qM) : Option (Bool × qM) := jWr_readAtomF (jWr_readSumN 8) p0 M
noncomputable def jWr_readTerm (p0 : Int32) (M : qM) : Option (Bool × qM) := jWr_readTermF (jWr_readSumN 8) p0 M
noncomputable def jWr_readSum (p0 : Int32) (M : qM) : Option (Bool × qM) := jWr_readSumF (jWr_readSumN 8) p0 M

noncomputable def jWr_isComparison (p0 : Int32) : Bool :=
  qlt ((
    if (p0 : Int32) = (61 : Int32) then
      true
    else
      if (p0 : Int32) = (60 : Int32) then
        true
      else
        if (p0 : Int32) = (62 : Int32) then
          true
        else
          false) : Bool) fun z1 =>
  z1

noncomputable def jWr_readTruthF (rc : Int32 → Bool → qM → Option (Bool × qM)) (p0 : Int32) (p1 : Bool) (M : qM) : Option (Bool × qM) :=
  (rc p0 p1 M).bind fun w1 =>
  qu2 w1 fun r2 M3 =>
  (qlp (σ := (Bool × qM)) (ρ := (Bool × qM)) (
    fun q => qu2 q fun z4 M5 =>
    if (b2i z4 : Int32) = (0 : Int32) then
      some (.inr (z4, M5))
    else
      (jTp_peek M5).bind fun w9 =>
      qu2 w9 fun r10 M11 =>
      if (r10 : Int32) = (38 : Int32) then
        if (M11.1 1 1 : Int32) ≤ (M11.1 1 2 : Int32) then
          some (.inr (z4, M11))
        else
          qlt (qI M11 1 2 ((M11.1 1 2) + 1)) fun M12 =>
          (rc p0 false M12).bind fun w13 =>
          qu2 w13 fun r14 M15 =>
          ((
            if (b2i r14 : Int32) = (0 : Int32) then
              some (false, M15)
            else
              (M15.2.2 4 1).bind fun a19 =>
              (jWy_add a19 38 0 M15).bind fun w20 =>
              qu2 w20 fun r21 M22 =>
              if (b2i r21 : Int32) = (0 : Int32) then
                some (false, M22)
              else
                some (true, M22)) : Option (Bool × qM)).bind fun w18 =>
          qu2 w18 fun z16 M17 =>
          some (.inl (z16, M17))
      else
        some (.inr (z4, M11))) (r2, M3)).bind fun r8 =>
  qu2 r8 fun z6 M7 =>
  some (z6, M7)

noncomputable def jWr_readConditionF (rc : Int32 → Bool → qM → Option (Bool × qM)) (p0 : Int32) (p1 : Bool) (M : qM) : Option (Bool × qM) :=
  (jWr_readTruthF rc p0 p1 M).bind fun w1 =>
  qu2 w1 fun r2 M3 =>
  (qlp (σ := (Bool × qM)) (ρ := (Bool × qM)) (
    fun q => qu2 q fun z4 M5 =>
    if (b2i z4 : Int32) = (0 : Int32) then
      some (.inr (z4, M5))
    else
      (jTp_peek M5).bind fun w9 =>
      qu2 w9 fun r10 M11 =>
      if (r10 : Int32) = (124 : Int32) then
        if (M11.1 1 1 : Int32) ≤ (M11.1 1 2 : Int32) then
          some (.inr (z4, M11))
        else
          qlt (qI M11 1 2 ((M11.1 1 2) + 1)) fun M12 =>
          (jWr_readTruthF rc p0 false M12).bind fun w13 =>
          qu2 w13 fun r14 M15 =>
          ((
            if (b2i r14 : Int32) = (0 : Int32) then
              some (false, M15)
            else
              (M15.2.2 4 1).bind fun a19 =>
              (jWy_add a19 124 0 M15).bind fun w20 =>
              qu2 w20 fun r21 M22 =>
              if (b2i r21 : Int32) = (0 : Int32) then
                some (false, M22)
              else
                some (true, M22)) : Option (Bool × qM)).bind fun w18 =>
          qu2 w18 fun z16 M17 =>
          some (.inl (z16, M17))
      else
        some (.inr (z4, M11))) (r2, M3)).bind fun r8 =>
  qu2 r8 fun z6 M7 =>
  some (z6, M7)

noncomputable def jWr_readUnitF (rc : Int32 → Bool → qM → Option (Bool × qM)) (p0 : Int32) (p1 : Bool) (M : qM) : Option (Bool × qM) :=
  (jTp_peek M).bind fun w1 =>
  qu2 w1 fun r2 M3 =>
  if (b2i p1 : Int32) = (0 : Int32) then
    if (r2 : Int32) = (33 : Int32) then
      qlt (jWr_openAt p0 M3) fun w176 =>
      qu2 w176 fun r177 M178 =>
      ((
        if (b2i r177 : Int32) = (0 : Int32) then
          some (false, M178)
        else
          (rc (p0 + 1) false M178).bind fun w182 =>
          qu2 w182 fun r183 M184 =>
          if (b2i r183 : Int32) = (0 : Int32) then
            some (false, M184)
          else
            (M184.2.2 4 1).bind fun a185 =>
            (jWy_add a185 33 0 M184).bind fun w186 =>
            qu2 w186 fun r187 M188 =>
            if (b2i r187 : Int32) = (0 : Int32) then
              some (false, M188)
            else
              some (true, M188)) : Option (Bool × qM)).bind fun w181 =>
      qu2 w181 fun z179 M180 =>
      some (z179, M180)
    else
      if (b2i p1 : Int32) = (0 : Int32) then
        if (r2 : Int32) = (40 : Int32) then
          qlt (jWr_openAt p0 M3) fun w164 =>
          qu2 w164 fun r165 M166 =>
          ((
            if (b2i r165 : Int32) = (0 : Int32) then
              some (false, M166)
            else
              (jWr_readConditionF rc (p0 + 1) false M166).bind fun w170 =>
              qu2 w170 fun r171 M172 =>
              if (b2i r171 : Int32) = (0 : Int32) then
                some (false, M172)
              else
                (jTp_take 41 M172).bind fun w173 =>
                qu2 w173 fun r174 M175 =>
                if (b2i r174 : Int32) = (0 : Int32) then
                  some (false, M175)
                else
                  some (true, M175)) : Option (Bool × qM)).bind fun w169 =>
          qu2 w169 fun z167 M168 =>
          some (z167, M168)
        else
          if (b2i p1 : Int32) = (0 : Int32) then
            (jWr_readSum p0 M3).bind fun w144 =>
            qu2 w144 fun r145 M146 =>
            if (b2i r145 : Int32) = (0 : Int32) then
              some (false, M146)
            else
              (jTp_peek M146).bind fun w147 =>
              qu2 w147 fun r148 M149 =>
              if (b2i (jWr_isComparison r148) : Int32) = (0 : Int32) then
                qlt (jTp_fail (M149.1 1 2) M149) fun w161 =>
                qu2 w161 fun r162 M163 =>
                some (r162, M163)
              else
                qlt (qI M149 1 2 ((M149.1 1 2) + 1)) fun M150 =>
                (jWr_readSum p0 M150).bind fun w151 =>
                qu2 w151 fun r152 M153 =>
                ((
                  if (b2i r152 : Int32) = (0 : Int32) then
                    some (false, M153)
                  else
                    (M153.2.2 4 1).bind fun a157 =>
                    (jWy_add a157 r148 0 M153).bind fun w158 =>
                    qu2 w158 fun r159 M160 =>
                    if (b2i r159 : Int32) = (0 : Int32) then
                      some (false, M160)
                    else
                      some (true, M160)) : Option (Bool × qM)).bind fun w156 =>
                qu2 w156 fun z154 M155 =>
                some (z154, M155)
          else
            (jTp_peek M3).bind fun w127 =>
            qu2 w127 fun r128 M129 =>
            if (b2i (jWr_isComparison r128) : Int32) = (0 : Int32) then
              qlt (jTp_fail (M129.1 1 2) M129) fun w141 =>
              qu2 w141 fun r142 M143 =>
              some (r142, M143)
            else
              qlt (qI M129 1 2 ((M129.1 1 2) + 1)) fun M130 =>
              (jWr_readSum p0 M130).bind fun w131 =>
              qu2 w131 fun r132 M133 =>
              ((
                if (b2i r132 : Int32) = (0 : Int32) then
                  some (false, M133)
                else
                  (M133.2.2 4 1).bind fun a137 =>
                  (jWy_add a137 r128 0 M133).bind fun w138 =>
                  qu2 w138 fun r139 M140 =>
                  if (b2i r139 : Int32) = (0 : Int32) then
                    some (false, M140)
                  else
                    some (true, M140)) : Option (Bool × qM)).bind fun w136 =>
              qu2 w136 fun z134 M135 =>
              some (z134, M135)
      else
        if (b2i p1 : Int32) = (0 : Int32) then
          (jWr_readSum p0 M3).bind fun w107 =>
          qu2 w107 fun r108 M109 =>
          if (b2i r108 : Int32) = (0 : Int32) then
            some (false, M109)
          else
            (jTp_peek M109).bind fun w110 =>
            qu2 w110 fun r111 M112 =>
            if (b2i (jWr_isComparison r111) : Int32) = (0 : Int32) then
              qlt (jTp_fail (M112.1 1 2) M112) fun w124 =>
              qu2 w124 fun r125 M126 =>
              some (r125, M126)
            else
              qlt (qI M112 1 2 ((M112.1 1 2) + 1)) fun M113 =>
              (jWr_readSum p0 M113).bind fun w114 =>
              qu2 w114 fun r115 M116 =>
              ((
                if (b2i r115 : Int32) = (0 : Int32) then
                  some (false, M116)
                else
                  (M116.2.2 4 1).bind fun a120 =>
                  (jWy_add a120 r111 0 M116).bind fun w121 =>
                  qu2 w121 fun r122 M123 =>
                  if (b2i r122 : Int32) = (0 : Int32) then
                    some (false, M123)
                  else
                    some (true, M123)) : Option (Bool × qM)).bind fun w119 =>
              qu2 w119 fun z117 M118 =>
              some (z117, M118)
        else
          (jTp_peek M3).bind fun w90 =>
          qu2 w90 fun r91 M92 =>
          if (b2i (jWr_isComparison r91) : Int32) = (0 : Int32) then
            qlt (jTp_fail (M92.1 1 2) M92) fun w104 =>
            qu2 w104 fun r105 M106 =>
            some (r105, M106)
          else
            qlt (qI M92 1 2 ((M92.1 1 2) + 1)) fun M93 =>
            (jWr_readSum p0 M93).bind fun w94 =>
            qu2 w94 fun r95 M96 =>
            ((
              if (b2i r95 : Int32) = (0 : Int32) then
                some (false, M96)
              else
                (M96.2.2 4 1).bind fun a100 =>
                (jWy_add a100 r91 0 M96).bind fun w101 =>
                qu2 w101 fun r102 M103 =>
                if (b2i r102 : Int32) = (0 : Int32) then
                  some (false, M103)
                else
                  some (true, M103)) : Option (Bool × qM)).bind fun w99 =>
            qu2 w99 fun z97 M98 =>
            some (z97, M98)
  else
    if (b2i p1 : Int32) = (0 : Int32) then
      if (r2 : Int32) = (40 : Int32) then
        qlt (jWr_openAt p0 M3) fun w78 =>
        qu2 w78 fun r79 M80 =>
        ((
          if (b2i r79 : Int32) = (0 : Int32) then
            some (false, M80)
          else
            (jWr_readConditionF rc (p0 + 1) false M80).bind fun w84 =>
            qu2 w84 fun r85 M86 =>
            if (b2i r85 : Int32) = (0 : Int32) then
              some (false, M86)
            else
              (jTp_take 41 M86).bind fun w87 =>
              qu2 w87 fun r88 M89 =>
              if (b2i r88 : Int32) = (0 : Int32) then
                some (false, M89)
              else
                some (true, M89)) : Option (Bool × qM)).bind fun w83 =>
        qu2 w83 fun z81 M82 =>
        some (z81, M82)
      else
        if (b2i p1 : Int32) = (0 : Int32) then
          (jWr_readSum p0 M3).bind fun w58 =>
          qu2 w58 fun r59 M60 =>
          if (b2i r59 : Int32) = (0 : Int32) then
            some (false, M60)
          else
            (jTp_peek M60).bind fun w61 =>
            qu2 w61 fun r62 M63 =>
            if (b2i (jWr_isComparison r62) : Int32) = (0 : Int32) then
              qlt (jTp_fail (M63.1 1 2) M63) fun w75 =>
              qu2 w75 fun r76 M77 =>
              some (r76, M77)
            else
              qlt (qI M63 1 2 ((M63.1 1 2) + 1)) fun M64 =>
              (jWr_readSum p0 M64).bind fun w65 =>
              qu2 w65 fun r66 M67 =>
              ((
                if (b2i r66 : Int32) = (0 : Int32) then
                  some (false, M67)
                else
                  (M67.2.2 4 1).bind fun a71 =>
                  (jWy_add a71 r62 0 M67).bind fun w72 =>
                  qu2 w72 fun r73 M74 =>
                  if (b2i r73 : Int32) = (0 : Int32) then
                    some (false, M74)
                  else
                    some (true, M74)) : Option (Bool × qM)).bind fun w70 =>
              qu2 w70 fun z68 M69 =>
              some (z68, M69)
        else
          (jTp_peek M3).bind fun w41 =>
          qu2 w41 fun r42 M43 =>
          if (b2i (jWr_isComparison r42) : Int32) = (0 : Int32) then
            qlt (jTp_fail (M43.1 1 2) M43) fun w55 =>
            qu2 w55 fun r56 M57 =>
            some (r56, M57)
          else
            qlt (qI M43 1 2 ((M43.1 1 2) + 1)) fun M44 =>
            (jWr_readSum p0 M44).bind fun w45 =>
            qu2 w45 fun r46 M47 =>
            ((
              if (b2i r46 : Int32) = (0 : Int32) then
                some (false, M47)
              else
                (M47.2.2 4 1).bind fun a51 =>
                (jWy_add a51 r42 0 M47).bind fun w52 =>
                qu2 w52 fun r53 M54 =>
                if (b2i r53 : Int32) = (0 : Int32) then
                  some (false, M54)
                else
                  some (true, M54)) : Option (Bool × qM)).bind fun w50 =>
            qu2 w50 fun z48 M49 =>
            some (z48, M49)
    else
      if (b2i p1 : Int32) = (0 : Int32) then
        (jWr_readSum p0 M3).bind fun w21 =>
        qu2 w21 fun r22 M23 =>
        if (b2i r22 : Int32) = (0 : Int32) then
          some (false, M23)
        else
          (jTp_peek M23).bind fun w24 =>
          qu2 w24 fun r25 M26 =>
          if (b2i (jWr_isComparison r25) : Int32) = (0 : Int32) then
            qlt (jTp_fail (M26.1 1 2) M26) fun w38 =>
            qu2 w38 fun r39 M40 =>
            some (r39, M40)
          else
            qlt (qI M26 1 2 ((M26.1 1 2) + 1)) fun M27 =>
            (jWr_readSum p0 M27).bind fun w28 =>
            qu2 w28 fun r29 M30 =>
            ((
              if (b2i r29 : Int32) = (0 : Int32) then
                some (false, M30)
              else
                (M30.2.2 4 1).bind fun a34 =>
                (jWy_add a34 r25 0 M30).bind fun w35 =>
                qu2 w35 fun r36 M37 =>
                if (b2i r36 : Int32) = (0 : Int32) then
                  some (false, M37)
                else
                  some (true, M37)) : Option (Bool × qM)).bind fun w33 =>
            qu2 w33 fun z31 M32 =>
            some (z31, M32)
      else
        (jTp_peek M3).bind fun w4 =>
        qu2 w4 fun r5 M6 =>
        if (b2i (jWr_isComparison r5) : Int32) = (0 : Int32) then
          qlt (jTp_fail (M6.1 1 2) M6) fun w18 =>
          qu2 w18 fun r19 M20 =>
          some (r19, M20)
        else
          qlt (qI M6 1 2 ((M6.1 1 2) + 1)) fun M7 =>
          (jWr_readSum p0 M7).bind fun w8 =>
          qu2 w8 fun r9 M10 =>
          ((
            if (b2i r9 : Int32) = (0 : Int32) then
              some (false, M10)
            else
              (M10.2.2 4 1).bind fun a14 =>
              (jWy_add a14 r5 0 M10).bind fun w15 =>
              qu2 w15 fun r16 M17 =>
              if (b2i r16 : Int32) = (0 : Int32) then
                some (false, M17)
              else
                some (true, M17)) : Option (Bool × qM)).bind fun w13 =>
          qu2 w13 fun z11 M12 =>
          some (z11, M12)

noncomputable def jWr_readUnitN (n : Nat) : Int32 → Bool → qM → Option (Bool × qM) := Nat.rec (fun _ _ _ => none) (fun _ rc => jWr_readUnitF rc) n
noncomputable def jWr_readTruth (p0 : Int32) (p1 : Bool) (M : qM) : Option (Bool × qM) := jWr_readTruthF (jWr_readUnitN 8) p0 p1 M
noncomputable def jWr_readCondition (p0 : Int32) (p1 : Bool) (M : qM) : Option (Bool × qM) := jWr_readConditionF (jWr_readUnitN 8) p0 p1 M
noncomputable def jWr_readUnit (p0 : Int32) (p1 : Bool) (M : qM) : Option (Bool × qM) := jWr_readUnitF (jWr_readUnitN 8) p0 p1 M

noncomputable def jWr_readClause (M : qM) : Option (Bool × qM) :=
  (jTp_take 121 M).bind fun w1 =>
  qu2 w1 fun r2 M3 =>
  if (b2i r2 : Int32) = (0 : Int32) then
    some (false, M3)
  else
    (jTp_take 58 M3).bind fun w4 =>
    qu2 w4 fun r5 M6 =>
    if (b2i r5 : Int32) = (0 : Int32) then
      some (false, M6)
    else
      (jTp_peek M6).bind fun w7 =>
      qu2 w7 fun r8 M9 =>
      qlt ((
        if (r8 : Int32) = (33 : Int32) then
          false
        else
          if (r8 : Int32) = (40 : Int32) then
            false
          else
            true) : Bool) fun z10 =>
      if (b2i z10 : Int32) = (0 : Int32) then
        if (b2i z10 : Int32) = (0 : Int32) then
          (jWr_readCondition 0 z10 M9).bind fun w11 =>
          qu2 w11 fun r12 M13 =>
          if (b2i r12 : Int32) = (0 : Int32) then
            some (false, M13)
          else
            (jTp_take 63 M13).bind fun w14 =>
            qu2 w14 fun r15 M16 =>
            if (b2i r15 : Int32) = (0 : Int32) then
              some (false, M16)
            else
              (M16.2.2 4 1).bind fun a17 =>
              qlt (M16.1 a17 2 : Int32) fun x18 =>
              (M16.2.2 4 1).bind fun a19 =>
              (jWy_add a19 63 0 M16).bind fun w20 =>
              qu2 w20 fun r21 M22 =>
              (jWr_readSum 0 M22).bind fun w23 =>
              qu2 w23 fun r24 M25 =>
              ((
                if (b2i r24 : Int32) = (0 : Int32) then
                  some (false, M25)
                else
                  (M25.2.2 4 1).bind fun a32 =>
                  (jWy_add a32 59 0 M25).bind fun w33 =>
                  qu2 w33 fun r34 M35 =>
                  if (b2i r34 : Int32) = (0 : Int32) then
                    some (false, M35)
                  else
                    some (true, M35)) : Option (Bool × qM)).bind fun w28 =>
              qu2 w28 fun z26 M27 =>
              (M27.2.2 4 1).bind fun a29 =>
              (M27.2.2 4 1).bind fun a30 =>
              (jWy_leadTo a29 x18 (M27.1 a30 2) M27).bind fun M31 =>
              some (z26, M31)
        else
          (jTp_peek M9).bind fun w36 =>
          qu2 w36 fun r37 M38 =>
          if (b2i (jWr_isComparison r37) : Int32) = (0 : Int32) then
            (M38.2.2 4 1).bind fun a64 =>
            (jWy_add a64 59 0 M38).bind fun w65 =>
            qu2 w65 fun r66 M67 =>
            some (r66, M67)
          else
            (jWr_readCondition 0 z10 M38).bind fun w39 =>
            qu2 w39 fun r40 M41 =>
            if (b2i r40 : Int32) = (0 : Int32) then
              some (false, M41)
            else
              (jTp_take 63 M41).bind fun w42 =>
              qu2 w42 fun r43 M44 =>
              if (b2i r43 : Int32) = (0 : Int32) then
                some (false, M44)
              else
                (M44.2.2 4 1).bind fun a45 =>
                qlt (M44.1 a45 2 : Int32) fun x46 =>
                (M44.2.2 4 1).bind fun a47 =>
                (jWy_add a47 63 0 M44).bind fun w48 =>
                qu2 w48 fun r49 M50 =>
                (jWr_readSum 0 M50).bind fun w51 =>
                qu2 w51 fun r52 M53 =>
                ((
                  if (b2i r52 : Int32) = (0 : Int32) then
                    some (false, M53)
                  else
                    (M53.2.2 4 1).bind fun a60 =>
                    (jWy_add a60 59 0 M53).bind fun w61 =>
                    qu2 w61 fun r62 M63 =>
                    if (b2i r62 : Int32) = (0 : Int32) then
                      some (false, M63)
                    else
                      some (true, M63)) : Option (Bool × qM)).bind fun w56 =>
                qu2 w56 fun z54 M55 =>
                (M55.2.2 4 1).bind fun a57 =>
                (M55.2.2 4 1).bind fun a58 =>
                (jWy_leadTo a57 x46 (M55.1 a58 2) M55).bind fun M59 =>
                some (z54, M59)
      else
        (jWr_readSum 0 M9).bind fun w68 =>
        qu2 w68 fun r69 M70 =>
        if (b2i r69 : Int32) = (0 : Int32) then
          some (false, M70)
        else
          if (b2i z10 : Int32) = (0 : Int32) then
            (jWr_readCondition 0 z10 M70).bind fun w71 =>
            qu2 w71 fun r72 M73 =>
            if (b2i r72 : Int32) = (0 : Int32) then
              some (false, M73)
            else
              (jTp_take 63 M73).bind fun w74 =>
              qu2 w74 fun r75 M76 =>
              if (b2i r75 : Int32) = (0 : Int32) then
                some (false, M76)
              else
                (M76.2.2 4 1).bind fun a77 =>
                qlt (M76.1 a77 2 : Int32) fun x78 =>
                (M76.2.2 4 1).bind fun a79 =>
                (jWy_add a79 63 0 M76).bind fun w80 =>
                qu2 w80 fun r81 M82 =>
                (jWr_readSum 0 M82).bind fun w83 =>
                qu2 w83 fun r84 M85 =>
                ((
                  if (b2i r84 : Int32) = (0 : Int32) then
                    some (false, M85)
                  else
                    (M85.2.2 4 1).bind fun a92 =>
                    (jWy_add a92 59 0 M85).bind fun w93 =>
                    qu2 w93 fun r94 M95 =>
                    if (b2i r94 : Int32) = (0 : Int32) then
                      some (false, M95)
                    else
                      some (true, M95)) : Option (Bool × qM)).bind fun w88 =>
                qu2 w88 fun z86 M87 =>
                (M87.2.2 4 1).bind fun a89 =>
                (M87.2.2 4 1).bind fun a90 =>
                (jWy_leadTo a89 x78 (M87.1 a90 2) M87).bind fun M91 =>
                some (z86, M91)
          else
            (jTp_peek M70).bind fun w96 =>
            qu2 w96 fun r97 M98 =>
            if (b2i (jWr_isComparison r97) : Int32) = (0 : Int32) then
              (M98.2.2 4 1).bind fun a124 =>
              (jWy_add a124 59 0 M98).bind fun w125 =>
              qu2 w125 fun r126 M127 =>
              some (r126, M127)
            else
              (jWr_readCondition 0 z10 M98).bind fun w99 =>
              qu2 w99 fun r100 M101 =>
              if (b2i r100 : Int32) = (0 : Int32) then
                some (false, M101)
              else
                (jTp_take 63 M101).bind fun w102 =>
                qu2 w102 fun r103 M104 =>
                if (b2i r103 : Int32) = (0 : Int32) then
                  some (false, M104)
                else
                  (M104.2.2 4 1).bind fun a105 =>
                  qlt (M104.1 a105 2 : Int32) fun x106 =>
                  (M104.2.2 4 1).bind fun a107 =>
                  (jWy_add a107 63 0 M104).bind fun w108 =>
                  qu2 w108 fun r109 M110 =>
                  (jWr_readSum 0 M110).bind fun w111 =>
                  qu2 w111 fun r112 M113 =>
                  ((
                    if (b2i r112 : Int32) = (0 : Int32) then
                      some (false, M113)
                    else
                      (M113.2.2 4 1).bind fun a120 =>
                      (jWy_add a120 59 0 M113).bind fun w121 =>
                      qu2 w121 fun r122 M123 =>
                      if (b2i r122 : Int32) = (0 : Int32) then
                        some (false, M123)
                      else
                        some (true, M123)) : Option (Bool × qM)).bind fun w116 =>
                  qu2 w116 fun z114 M115 =>
                  (M115.2.2 4 1).bind fun a117 =>
                  (M115.2.2 4 1).bind fun a118 =>
                  (jWy_leadTo a117 x106 (M115.1 a118 2) M115).bind fun M119 =>
                  some (z114, M119)

noncomputable def jWr_read (p0 : Nat) (M : qM) : Option (Int32 × qM) :=
  qlt (jTp_rewind M) fun M1 =>
  qlt (qR M1 4 1 (some p0)) fun M2 =>
  (M2.2.2 4 1).bind fun a3 =>
  qlt (qI M2 a3 2 0) fun M4 =>
  (qlp (σ := (Int32 × qM)) (ρ := (qM ⊕ (qM ⊕ (qM ⊕ qM)))) (
    fun q => qu2 q fun x5 M6 =>
    if (160 : Int32) ≤ (x5 : Int32) then
      some (.inr (.inr (.inr (.inr M6))))
    else
      (jWr_readClause M6).bind fun w12 =>
      qu2 w12 fun r13 M14 =>
      if (b2i r13 : Int32) = (0 : Int32) then
        some (.inr (.inl M14))
      else
        (jTp_peek M14).bind fun w15 =>
        qu2 w15 fun r16 M17 =>
        if (r16 : Int32) = ((-1) : Int32) then
          some (.inr (.inr (.inl M17)))
        else
          (jTp_take 59 M17).bind fun w18 =>
          qu2 w18 fun r19 M20 =>
          if (b2i r19 : Int32) = (0 : Int32) then
            some (.inr (.inr (.inr (.inl M20))))
          else
            qlt (x5 + 1 : Int32) fun x21 =>
            some (.inl (x21, M20))) (0, M4)).bind fun r11 =>
  qse r11 (fun M7 =>
    some (M7.1 1 3, M7)) (fun r11 =>
    qse r11 (fun M8 =>
      some ((-1), M8)) (fun r11 =>
      qse r11 (fun M9 =>
        some (M9.1 1 3, M9)) (fun M10 =>
        some (M10.1 1 2, M10))))

noncomputable def jTc_feed (p0 : Int32) (p1 : Int32) (p2 : Int32) (p3 : Int32) (p4 : Int32) (M : qM) : Option (Int32 × qM) :=
  (jTp_bytesOf p0).bind fun r1 =>
  (jTp_bytesOf p1).bind fun r2 =>
  (jTp_bytesOf p2).bind fun r3 =>
  (jTp_bytesOf p3).bind fun r4 =>
  (jTp_bytesOf p4).bind fun r5 =>
  qlt ((((r1 + r2) + r3) + r4) + r5 : Int32) fun x6 =>
  if ((M.1 1 1) + x6 : Int32) ≤ (160 : Int32) then
    (jTp_add p0 M).bind fun M7 =>
    (jTp_add p1 M7).bind fun M8 =>
    (jTp_add p2 M8).bind fun M9 =>
    (jTp_add p3 M9).bind fun M10 =>
    (jTp_add p4 M10).bind fun M11 =>
    some (M11.1 1 1, M11)
  else
    some ((-1), M)

noncomputable def jTc_end (p0 : Int32) (M : qM) : Bool × qM :=
  if (p0 : Int32) < (0 : Int32) then
    (false, M)
  else
    if (p0 : Int32) ≤ (M.1 1 1 : Int32) then
      qlt (qI M 1 1 p0) fun M1 =>
      (true, M1)
    else
      (false, M)

noncomputable def jTc_fault (p0 : Int32) (M : qM) : Option (Int32 × qM) :=
  if (p0 : Int32) = (0 : Int32) then
    (qix 5 (M.1 0 4)).bind fun t6 =>
    (jVr_read (71 + 4 * t6) M).bind fun w7 =>
    qu2 w7 fun r8 M9 =>
    some (r8, M9)
  else
    if (p0 : Int32) = (1 : Int32) then
      (jCu_spare M).bind fun r1 =>
      (r1).bind fun a2 =>
      qgd (q_way a2) (
        (jWr_read a2 M).bind fun w3 =>
        qu2 w3 fun r4 M5 =>
        some (r4, M5))
    else
      some ((-2), M)

noncomputable def jTc_text (p0 : Int32) (M : qM) : Option (Int32 × qM) :=
  (jTc_fault p0 M).bind fun w1 =>
  qu2 w1 fun r2 M3 =>
  if (r2 : Int32) = ((-1) : Int32) then
    qlt ((
      if (p0 : Int32) = (0 : Int32) then
        M3.1 0 4
      else
        M3.1 6 1) : Int32) fun x4 =>
    qlt ((
      if (p0 : Int32) = (0 : Int32) then
        4
      else
        6) : Int32) fun x5 =>
    if (x4 : Int32) < (x5 : Int32) then
      qlt ((
        if (p0 : Int32) = (0 : Int32) then
          qlt (qI M3 0 4 ((M3.1 0 4) + 1)) fun M9 =>
          M9
        else
          qlt (qI M3 6 1 ((M3.1 6 1) + 1)) fun M8 =>
          M8) : qM) fun M6 =>
      qlt (qI M6 1 1 0) fun M7 =>
      some (x4, M7)
    else
      some ((-1), M3)
  else
    some ((-1), M3)

noncomputable def jTc_isVillage (p0 : Int32) (M : qM) : Bool :=
  (jTc_isOf p0 (M.1 0 4))

noncomputable def jTc_village (p0 : Int32) (p1 : Int32) (M : qM) : Option Int32 :=
  if (b2i (jTc_isVillage p0 M) : Int32) = (0 : Int32) then
    none
  else
    if (b2i (jTc_isOf p1 3) : Int32) = (0 : Int32) then
      none
    else
      (qix 5 p0).bind fun t1 =>
      qlt ((
        if (p1 : Int32) = (0 : Int32) then
          M.1 (71 + 4 * t1) 0
        else
          if (p1 : Int32) = (1 : Int32) then
            M.1 (71 + 4 * t1) 1
          else
            M.1 (71 + 4 * t1) 2) : Int32) fun x2 =>
      some x2

noncomputable def jTc_isThing (p0 : Int32) (p1 : Int32) (M : qM) : Option Bool :=
  ((
    if (b2i (jTc_isVillage p0 M) : Int32) = (0 : Int32) then
      some false
    else
      (qix 5 p0).bind fun t2 =>
      if (b2i (jTc_isOf p1 (M.1 (71 + 4 * t2) 0)) : Int32) = (0 : Int32) then
        some false
      else
        some true) : Option Bool).bind fun z1 =>
  some z1

noncomputable def jTc_thing (p0 : Int32) (p1 : Int32) (p2 : Int32) (M : qM) : Option Int32 :=
  (jTc_isThing p0 p1 M).bind fun r1 =>
  if (b2i r1 : Int32) = (0 : Int32) then
    some (-1)
  else
    if (b2i (jTc_isOf p2 4) : Int32) = (0 : Int32) then
      some (-1)
    else
      (qix 5 p0).bind fun t2 =>
      (jVi_ofThing (71 + 4 * t2) p1 p2 M).bind fun r3 =>
      some r3

noncomputable def jTc_sort (p0 : Int32) (p1 : Int32) (p2 : Int32) (M : qM) : Option Int32 :=
  if (b2i (jTc_isVillage p0 M) : Int32) = (0 : Int32) then
    some (-1)
  else
    (qix 5 p0).bind fun t1 =>
    if (b2i (jTc_isOf p1 (M.1 (71 + 4 * t1) 1)) : Int32) = (0 : Int32) then
      some (-1)
    else
      if (b2i (jTc_isOf p2 4) : Int32) = (0 : Int32) then
        some (-1)
      else
        (qix 5 p0).bind fun t2 =>
        (jVi_ofSort (71 + 4 * t2) p1 p2 M).bind fun r3 =>
        some r3

noncomputable def jTc_of (p0 : Int32) (p1 : Int32) (M : qM) : Option Int32 :=
  if (b2i (jTc_isVillage p0 M) : Int32) = (0 : Int32) then
    some (-1)
  else
    (qix 5 p0).bind fun t1 =>
    if (b2i (jTc_isOf p1 (M.1 (71 + 4 * t1) 2)) : Int32) = (0 : Int32) then
      some (-1)
    else
      (qix 5 p0).bind fun t2 =>
      (qrI M (71 + 4 * t2 + 3) 20 p1).bind fun v3 =>
      some v3

noncomputable def jTc_way (p0 : Int32) (p1 : Int32) (M : qM) : Option (Bool × qM) :=
  if (b2i (jTc_isOf p0 6) : Int32) = (0 : Int32) then
    some (false, M)
  else
    if (b2i (jTc_isOf p1 6) : Int32) = (0 : Int32) then
      some (false, M)
    else
      (qwI M 8 6 p0 p1).bind fun M1 =>
      some (true, M1)

noncomputable def jTc_wayOf (p0 : Int32) (M : qM) : Option Int32 :=
  ((
    if (b2i (jTc_isOf p0 6) : Int32) = (0 : Int32) then
      some (-1)
    else
      (qrI M 8 6 p0).bind fun v2 =>
      some v2) : Option Int32).bind fun x1 =>
  some x1

noncomputable def jTc_count (p0 : Int32) (M : qM) : Option Int32 :=
  if (p0 : Int32) = 0 then
    some (M.1 0 4)
  else
    if (p0 : Int32) = 1 then
      some (M.1 6 1)
    else
      if (p0 : Int32) = 2 then
        some (M.1 1 1)
      else
        if (p0 : Int32) = 3 then
          some (M.1 0 12)
        else
          if (p0 : Int32) = 4 then
            qlt ((
              if (b2i (jRo_isThere M) : Int32) = (0 : Int32) then
                (-1)
              else
                M.1 49 5) : Int32) fun x1 =>
            some x1
          else
            if (p0 : Int32) = 5 then
              ((
                if (b2i (jMo_began 33 M) : Int32) = (0 : Int32) then
                  some (-1)
                else
                  (M.2.2 33 0).bind fun a3 =>
                  some (M.1 a3 2)) : Option Int32).bind fun x2 =>
              some x2
            else
              if (p0 : Int32) = 6 then
                ((
                  if (b2i (jTo_began M) : Int32) = (0 : Int32) then
                    some (-1)
                  else
                    (M.2.2 60 0).bind fun a5 =>
                    some (M.1 a5 2)) : Option Int32).bind fun x4 =>
                some x4
              else
                some (-1000000)

noncomputable def jTc_start (p0 : Int32) (p1 : Int32) (p2 : Int32) (p3 : Int64) (M : qM) : Option (Bool × qM) :=
  (jTc_isThing p0 p1 M).bind fun r1 =>
  if (b2i r1 : Int32) = (0 : Int32) then
    some (false, M)
  else
    if (b2i (jTc_isOf p2 2) : Int32) = (0 : Int32) then
      some (false, M)
    else
      (qix 5 p0).bind fun t2 =>
      (jMo_beOf 33 (71 + 4 * t2) p1 p2 M).bind fun M3 =>
      (jMo_begin 33 p3 M3).bind fun M4 =>
      some (true, M4)

noncomputable def jTc_minutes (p0 : Int32) (M : qM) : Option (Int32 × qM) :=
  if (b2i (jMo_began 33 M) : Int32) = (0 : Int32) then
    some ((-1), M)
  else
    if (p0 : Int32) < (1 : Int32) then
      some ((-1), M)
    else
      if (p0 : Int32) ≤ (61 : Int32) then
        (jMo_pass 33 p0 M).bind fun w1 =>
        qu2 w1 fun r2 M3 =>
        some (r2, M3)
      else
        some ((-1), M)

noncomputable def jTc_isPerson (p0 : Int32) (M : qM) : Option Bool :=
  ((
    if (b2i (jMo_began 33 M) : Int32) = (0 : Int32) then
      some false
    else
      (M.2.2 33 0).bind fun a2 =>
      if (b2i (jTc_isOf p0 (M.1 a2 2)) : Int32) = (0 : Int32) then
        some false
      else
        some true) : Option Bool).bind fun z1 =>
  some z1

noncomputable def jTc_who (p0 : Int32) (p1 : Int32) (M : qM) : Option Int32 :=
  (jTc_isPerson p0 M).bind fun r1 =>
  if (b2i r1 : Int32) = (0 : Int32) then
    some (-1000000)
  else
    if (p1 : Int32) = 0 then
      (jMo_stateOf 33 p0 M).bind fun r2 =>
      some r2
    else
      if (p1 : Int32) = 1 then
        (qrI M 34 20 p0).bind fun v3 =>
        some v3
      else
        if (p1 : Int32) = 2 then
          (jMo_minuteOf 33 p0 M).bind fun r4 =>
          some r4
        else
          if (p1 : Int32) = 3 then
            (qrI M 35 20 p0).bind fun v5 =>
            some v5
          else
            if (p1 : Int32) = 4 then
              (jMo_has 33 p0 M).bind fun r6 =>
              qlt ((
                if (b2i r6 : Int32) = (0 : Int32) then
                  false
                else
                  true) : Bool) fun z7 =>
              some (b2i z7)
            else
              if (p1 : Int32) = 5 then
                (jMo_gainOf 33 p0 M).bind fun r8 =>
                some r8
              else
                some (-1000000)

noncomputable def jTc_about (p0 : Int32) (M : qM) : Option Int32 :=
  if (b2i (jMo_began 33 M) : Int32) = (0 : Int32) then
    some (-1000000)
  else
    if (p0 : Int32) = 0 then
      some (M.1 33 8)
    else
      if (p0 : Int32) = 1 then
        some (M.1 33 9)
      else
        if (p0 : Int32) = 2 then
          some (M.1 33 10)
        else
          if (p0 : Int32) = 3 then
            (jMo_underway 33 M).bind fun r1 =>
            some r1
          else
            if (p0 : Int32) = 4 then
              some (M.1 33 11)
            else
              if (p0 : Int32) = 5 then
                qlt ((
                  if (M.1 33 12 : Int32) = (0 : Int32) then
                    false
                  else
                    true) : Bool) fun z2 =>
                some (b2i z2)
              else
                if (p0 : Int32) = 6 then
                  some (M.1 33 13)
                else
                  if (p0 : Int32) = 7 then
                    some (M.1 33 14)
                  else
                    some (-1000000)

noncomputable def jTc_image (M : qM) : Option (Int32 × qM) :=
  if (b2i (jMo_began 33 M) : Int32) = (0 : Int32) then
    some ((-1), M)
  else
    (jMo_copy 37 33 M).bind fun M1 =>
    some (M1.1 37 8, M1)

noncomputable def jTc_back (M : qM) : Option (Int32 × qM) :=
  if (b2i (jMo_began 37 M) : Int32) = (0 : Int32) then
    some ((-1), M)
  else
    (jMo_copy 33 37 M).bind fun M1 =>
    some (M1.1 33 8, M1)

noncomputable def jTc_isSeeds (p0 : Int32) : Bool :=
  qlt ((
    if (p0 : Int32) < (1 : Int32) then
      false
    else
      if (40 : Int32) < (p0 : Int32) then
        false
      else
        true) : Bool) fun z1 =>
  z1

noncomputable def jTc_runPlain (p0 : Int32) (M : qM) : Option qM :=
  (jTa_takeAfter 33 M).bind fun M1 =>
  (jTa_run p0 M1).bind fun M2 =>
  some M2

noncomputable def jTc_odds (p0 : Int32) (p1 : Int32) (p2 : Int32) (M : qM) : Option (Int32 × qM) :=
  (jTc_isPerson p0 M).bind fun r1 =>
  if (b2i r1 : Int32) = (0 : Int32) then
    some ((-1000000), M)
  else
    if (b2i (jTc_isSeeds p1) : Int32) = (0 : Int32) then
      some ((-1000000), M)
    else
      if (b2i (jTc_isOf p2 2) : Int32) = (0 : Int32) then
        some ((-1000000), M)
      else
        (jTc_runPlain p1 M).bind fun M2 =>
        ((
          if (p2 : Int32) = (0 : Int32) then
            (jTa_hadBy p0 M2).bind fun r5 =>
            some r5
          else
            (qrI M2 46 20 p0).bind fun v4 =>
            some v4) : Option Int32).bind fun x3 =>
        some (x3, M2)

noncomputable def jTc_lateBy (p0 : Int32) (p1 : Int32) (M : qM) : Option (Int32 × qM) :=
  (jTa_takeAfter 33 M).bind fun M1 =>
  qlt (qI M1 42 3 p0) fun M2 =>
  (jTa_run p1 M2).bind fun M3 =>
  (jTa_late M3).bind fun r4 =>
  some (r4, M3)

noncomputable def jTc_law (p0 : Int32) (p1 : Int32) (M : qM) : Option (Int32 × qM) :=
  if (b2i (jMo_began 33 M) : Int32) = (0 : Int32) then
    some ((-1), M)
  else
    if (b2i (jTc_isSeeds p1) : Int32) = (0 : Int32) then
      some ((-1), M)
    else
      if (p0 : Int32) = ((-1) : Int32) then
        qlt ((
          if (p0 : Int32) = ((-1) : Int32) then
            M.1 33 3
          else
            p0) : Int32) fun x1 =>
        (jTc_lateBy x1 p1 M).bind fun w2 =>
        qu2 w2 fun r3 M4 =>
        some (r3, M4)
      else
        if (p0 : Int32) < (1 : Int32) then
          some ((-1), M)
        else
          if (p0 : Int32) ≤ (9 : Int32) then
            qlt ((
              if (p0 : Int32) = ((-1) : Int32) then
                M.1 33 3
              else
                p0) : Int32) fun x5 =>
            (jTc_lateBy x5 p1 M).bind fun w6 =>
            qu2 w6 fun r7 M8 =>
            some (r7, M8)
          else
            some ((-1), M)

noncomputable def jTc_which (p0 : Int32) (M : qM) : Option (Int32 × qM) :=
  if (b2i (jMo_began 33 M) : Int32) = (0 : Int32) then
    some ((-1), M)
  else
    if (b2i (jTc_isSeeds p0) : Int32) = (0 : Int32) then
      some ((-1), M)
    else
      (jTc_lateBy 1 p0 M).bind fun w1 =>
      qu2 w1 fun r2 M3 =>
      (qlp (σ := (Int32 × Int32 × Int32 × qM)) (ρ := (Int32 × qM)) (
        fun q => qu4 q fun x4 x5 x6 M7 =>
        if (9 : Int32) < (x6 : Int32) then
          some (.inr (x5, M7))
        else
          (jTc_lateBy x6 p0 M7).bind fun w11 =>
          qu2 w11 fun r12 M13 =>
          qlt ((
            if (x4 : Int32) ≤ (r12 : Int32) then
              (x4, x5)
            else
              (r12, x6)) : (Int32 × Int32)) fun w16 =>
          qu2 w16 fun x14 x15 =>
          qlt (x6 + 1 : Int32) fun x17 =>
          some (.inl (x14, x15, x17, M13))) (r2, 1, 2, M3)).bind fun r10 =>
      qu2 r10 fun x8 M9 =>
      some (x8, M9)

noncomputable def jTc_quiet (p0 : Int32) (M : qM) : Option (Int32 × qM) :=
  if (b2i (jMo_began 33 M) : Int32) = (0 : Int32) then
    some ((-1), M)
  else
    if (b2i (jTc_isSeeds p0) : Int32) = (0 : Int32) then
      some ((-1), M)
    else
      (qlp (σ := (Int32 × Int32 × qM)) (ρ := (Int32 × qM)) (
        fun q => qu3 q fun x1 x2 M3 =>
        if (9 : Int32) < (x2 : Int32) then
          some (.inr (x1, M3))
        else
          (jTc_lateBy x2 p0 M3).bind fun w7 =>
          qu2 w7 fun r8 M9 =>
          qlt ((
            if (M9.1 41 5 : Int32) = (0 : Int32) then
              x1
            else
              qlt (x1 ||| (1 <<< ((x2 - 1) &&& 31)) : Int32) fun x12 =>
              x12) : Int32) fun x10 =>
          qlt (x2 + 1 : Int32) fun x11 =>
          some (.inl (x10, x11, M9))) (0, 1, M)).bind fun r6 =>
      qu2 r6 fun x4 M5 =>
      some (x4, M5)

noncomputable def jTc_isPair (p0 : Int32) (p1 : Int32) (M : qM) : Option Bool :=
  (jTc_isPerson p0 M).bind fun r1 =>
  ((
    if (b2i r1 : Int32) = (0 : Int32) then
      some false
    else
      (jTc_isPerson p1 M).bind fun r3 =>
      if (b2i r3 : Int32) = (0 : Int32) then
        some false
      else
        if (p0 : Int32) = (p1 : Int32) then
          some false
        else
          some true) : Option Bool).bind fun z2 =>
  some z2

noncomputable def jTc_runSent (p0 : Int32) (p1 : Int32) (M : qM) : Option qM :=
  (jTa_takeAfter 33 M).bind fun M1 =>
  qlt (qI M1 42 5 p0) fun M2 =>
  (jTa_run p1 M2).bind fun M3 =>
  some M3

noncomputable def jTc_pay (p0 : Int32) (p1 : Int32) (p2 : Int32) (M : qM) : Option (Int32 × qM) :=
  (jTc_isPair p0 p1 M).bind fun r1 =>
  if (b2i r1 : Int32) = (0 : Int32) then
    some ((-1000000), M)
  else
    if (b2i (jTc_isSeeds p2) : Int32) = (0 : Int32) then
      some ((-1000000), M)
    else
      (jTc_runPlain p2 M).bind fun M2 =>
      (qrI M2 46 20 p0).bind fun v3 =>
      (jTc_runSent p1 p2 M2).bind fun M4 =>
      (qrI M4 46 20 p0).bind fun v5 =>
      some (v5 - v3, M4)

noncomputable def jTc_price (p0 : Int32) (p1 : Int32) (M : qM) : Option (Int32 × qM) :=
  (jTc_isPerson p0 M).bind fun r1 =>
  if (b2i r1 : Int32) = (0 : Int32) then
    some ((-1), M)
  else
    if (b2i (jTc_isSeeds p1) : Int32) = (0 : Int32) then
      some ((-1), M)
    else
      (jTc_runPlain p1 M).bind fun M2 =>
      (qrI M2 46 20 p0).bind fun v3 =>
      (jTc_runSent p0 p1 M2).bind fun M4 =>
      (qrI M4 46 20 p0).bind fun v5 =>
      some (jmaxI 0 (v3 - v5), M4)

noncomputable def jTc_isSortOfMorning (p0 : Int32) (M : qM) : Option Bool :=
  ((
    if (b2i (jMo_began 33 M) : Int32) = (0 : Int32) then
      some false
    else
      (M.2.2 33 0).bind fun a2 =>
      if (b2i (jTc_isOf p0 (M.1 a2 1)) : Int32) = (0 : Int32) then
        some false
      else
        some true) : Option Bool).bind fun z1 =>
  some z1

noncomputable def jTc_strangers (p0 : Int32) (p1 : Int32) (M : qM) : Option (Int32 × qM) :=
  (jTc_isSortOfMorning p0 M).bind fun r1 =>
  if (b2i r1 : Int32) = (0 : Int32) then
    some ((-1000000), M)
  else
    if (b2i (jTc_isSeeds p1) : Int32) = (0 : Int32) then
      some ((-1000000), M)
    else
      (jTc_runPlain p1 M).bind fun M2 =>
      (jTa_late M2).bind fun r3 =>
      qlt (qI M2 42 6 p0) fun M4 =>
      (jTa_run p1 M4).bind fun M5 =>
      (jTa_late M5).bind fun r6 =>
      some (r6 - r3, M5)

noncomputable def jTc_isMinuteOrNone (p0 : Int32) : Bool :=
  qlt ((
    if (p0 : Int32) = ((-1) : Int32) then
      true
    else
      if (b2i (jTc_isOf p0 61) : Int32) = (0 : Int32) then
        false
      else
        true) : Bool) fun z1 =>
  z1

noncomputable def jTc_ends (p0 : Int32) (p1 : Int32) (M : qM) : Option (Int32 × qM) :=
  if (b2i (jMo_began 33 M) : Int32) = (0 : Int32) then
    some ((-1), M)
  else
    if (b2i (jTc_isSeeds p1) : Int32) = (0 : Int32) then
      some ((-1), M)
    else
      if (b2i (jTc_isMinuteOrNone p0) : Int32) = (0 : Int32) then
        some ((-1), M)
      else
        (jTc_runPlain p1 M).bind fun M1 =>
        (jTa_endsIn p0 M1).bind fun r2 =>
        some (r2, M1)

noncomputable def jTc_both (p0 : Int32) (p1 : Int32) (p2 : Int32) (M : qM) : Option (Int32 × qM) :=
  (jTc_isPair p0 p1 M).bind fun r1 =>
  if (b2i r1 : Int32) = (0 : Int32) then
    some ((-1), M)
  else
    if (b2i (jTc_isSeeds p2) : Int32) = (0 : Int32) then
      some ((-1), M)
    else
      (jTc_runPlain p2 M).bind fun M2 =>
      (jTa_hadByBoth p0 p1 M2).bind fun r3 =>
      some (r3, M2)

noncomputable def jTc_kin (p0 : Int32) (p1 : Int32) (p2 : Int32) (M : qM) : Option (Int32 × qM) :=
  (jTc_isPair p0 p1 M).bind fun r1 =>
  if (b2i r1 : Int32) = (0 : Int32) then
    some ((-1000000), M)
  else
    if (b2i (jTc_isSeeds p2) : Int32) = (0 : Int32) then
      some ((-1000000), M)
    else
      (jTc_runPlain p2 M).bind fun M2 =>
      (qrI M2 46 20 p0).bind fun v3 =>
      (qrI M2 46 20 p1).bind fun v4 =>
      qlt (v3 + v4 : Int32) fun x5 =>
      (jTc_runSent p0 p2 M2).bind fun M6 =>
      (qrI M6 46 20 p0).bind fun v7 =>
      (qrI M6 46 20 p1).bind fun v8 =>
      some ((v7 + v8) - x5, M6)

noncomputable def jTc_lateLooking (p0 : Int32) (p1 : Int32) (M : qM) : Option (Int32 × qM) :=
  (jTa_takeAfter 33 M).bind fun M1 =>
  qlt (qI M1 42 2 p0) fun M2 =>
  (jTa_run p1 M2).bind fun M3 =>
  (jTa_late M3).bind fun r4 =>
  some (r4, M3)

noncomputable def jTc_seen (p0 : Int32) (M : qM) : Option (Int32 × qM) :=
  if (b2i (jMo_began 33 M) : Int32) = (0 : Int32) then
    some ((-1000000), M)
  else
    if (b2i (jTc_isSeeds p0) : Int32) = (0 : Int32) then
      some ((-1000000), M)
    else
      (jTc_lateLooking 1 p0 M).bind fun w1 =>
      qu2 w1 fun r2 M3 =>
      (jTc_lateLooking 0 p0 M3).bind fun w4 =>
      qu2 w4 fun r5 M6 =>
      some (r2 - r5, M6)

noncomputable def jTc_gains (p0 : Int32) (p1 : Int32) (M : qM) : Option (Int32 × qM) :=
  (jTc_isSortOfMorning p0 M).bind fun r1 =>
  if (b2i r1 : Int32) = (0 : Int32) then
    some ((-1000000), M)
  else
    if (b2i (jTc_isSeeds p1) : Int32) = (0 : Int32) then
      some ((-1000000), M)
    else
      (jTc_runPlain p1 M).bind fun M2 =>
      (jTa_gainsOf p0 M2).bind fun r3 =>
      some (r3, M2)

noncomputable def jTc_better (p0 : Int32) (p1 : Int32) (M : qM) : Option (Int32 × qM) :=
  if (M.1 6 1 : Int32) = (0 : Int32) then
    some ((-1), M)
  else
    (jTc_isSortOfMorning p0 M).bind fun r1 =>
    if (b2i r1 : Int32) = (0 : Int32) then
      some ((-1), M)
    else
      if (b2i (jTc_isSeeds p1) : Int32) = (0 : Int32) then
        some ((-1), M)
      else
        (jTa_takeAfter 33 M).bind fun M2 =>
        (jTa_bestWay p0 p1 M2).bind fun w3 =>
        qu2 w3 fun r4 M5 =>
        some (r4, M5)

noncomputable def jTc_agree (p0 : Int32) (M : qM) : Option (Int32 × qM) :=
  if (M.1 6 1 : Int32) = (0 : Int32) then
    some ((-1), M)
  else
    if (b2i (jMo_began 33 M) : Int32) = (0 : Int32) then
      some ((-1), M)
    else
      if (b2i (jTc_isSeeds p0) : Int32) = (0 : Int32) then
        some ((-1), M)
      else
        (jCu_keep M).bind fun M1 =>
        (jTa_takeAfter 33 M1).bind fun M2 =>
        (qlp (σ := (Int32 × Int32 × qM)) (ρ := (qM ⊕ ((Int32 × qM) ⊕ qM))) (
          fun q => qu3 q fun x3 x4 M5 =>
          if (30 : Int32) < (x4 : Int32) then
            some (.inr (.inr (.inr M5)))
          else
            (qlp (σ := (Int32 × Int32 × qM)) (ρ := (Int32 × qM)) (
              fun q => qu3 q fun x13 x14 M15 =>
              (M15.2.2 33 0).bind fun a20 =>
              if (M15.1 a20 1 : Int32) ≤ (x14 : Int32) then
                some (.inr (x13, M15))
              else
                if (30 : Int32) < (x13 : Int32) then
                  some (.inr (x13, M15))
                else
                  (jTa_bestWay x14 p0 M15).bind fun w21 =>
                  qu2 w21 fun r22 M23 =>
                  ((
                    if (M23.1 41 6 : Int32) ≤ (M23.1 41 7 : Int32) then
                      some (x13, M23)
                    else
                      (qwI M23 8 6 x14 r22).bind fun M28 =>
                      qlt (x13 + 1 : Int32) fun x29 =>
                      some (x29, M28)) : Option (Int32 × qM)).bind fun w26 =>
                  qu2 w26 fun x24 M25 =>
                  qlt (x14 + 1 : Int32) fun x27 =>
                  some (.inl (x24, x27, M25))) (x3, 0, M5)).bind fun r18 =>
            qu2 r18 fun x16 M17 =>
            if (x16 : Int32) ≤ (30 : Int32) then
              if (x16 : Int32) = (x3 : Int32) then
                some (.inr (.inr (.inl (x16, M17))))
              else
                qlt (x4 + 1 : Int32) fun x19 =>
                some (.inl (x16, x19, M17))
            else
              some (.inr (.inl M17))) (0, 0, M2)).bind fun r10 =>
        qse r10 (fun M6 =>
          (jCu_restore M6).bind fun M11 =>
          some ((-1), M11)) (fun r10 =>
          qse r10 (fun r10 =>
            qu2 r10 fun x7 M8 =>
            some (x7, M8)) (fun M9 =>
            (jCu_restore M9).bind fun M12 =>
            some ((-1), M12)))

noncomputable def jTc_row (p0 : Int32) (p1 : Int32) (p2 : Int32) (p3 : Int32) (p4 : Int32) (p5 : Int32) (M : qM) : Option (Bool × qM) :=
  qlt ((
    if (p0 : Int32) < (2 : Int32) then
      false
    else
      if (9 : Int32) < (p0 : Int32) then
        false
      else
        if (p1 : Int32) < (1 : Int32) then
          false
        else
          if (p0 : Int32) < (p1 : Int32) then
            false
          else
            true) : Bool) fun z1 =>
  if (b2i z1 : Int32) = (0 : Int32) then
    some (false, M)
  else
    if (b2i (jTc_isOf p2 1000) : Int32) = (0 : Int32) then
      some (false, M)
    else
      if (b2i (jTc_isOf p3 100) : Int32) = (0 : Int32) then
        some (false, M)
      else
        if (b2i (jTc_isOf p4 100) : Int32) = (0 : Int32) then
          some (false, M)
        else
          if (p5 : Int32) < (1 : Int32) then
            some (false, M)
          else
            if (p5 : Int32) ≤ (12 : Int32) then
              (jRo_begin p0 p1 p5 M).bind fun M2 =>
              qlt (qI M2 49 2 p2) fun M3 =>
              qlt (qI M3 49 3 p3) fun M4 =>
              qlt (qI M4 49 4 p4) fun M5 =>
              some (true, M5)
            else
              some (false, M)

noncomputable def jTc_chance (p0 : Int32) (p1 : Int32) (M : qM) : Option (Bool × qM) :=
  if (b2i (jRo_isThere M) : Int32) = (0 : Int32) then
    some (false, M)
  else
    if (b2i (jTc_isOf p0 (M.1 49 5)) : Int32) = (0 : Int32) then
      some (false, M)
    else
      if (b2i (jTc_isOf p1 11) : Int32) = (0 : Int32) then
        some (false, M)
      else
        (qwI M 50 12 p0 p1).bind fun M1 =>
        some (true, M1)

noncomputable def jTc_taken (p0 : Int32) (M : qM) : Option (Int32 × qM) :=
  qlt ((
    if (b2i (jRo_isThere M) : Int32) = (0 : Int32) then
      true
    else
      if (p0 : Int32) = ((-1) : Int32) then
        false
      else
        if (b2i (jTc_isOf p0 (M.1 49 5)) : Int32) = (0 : Int32) then
          true
        else
          false) : Bool) fun z1 =>
  if z1 = true then
    some ((-1), M)
  else
    (jRo_followAll M).bind fun M2 =>
    ((
      if (p0 : Int32) = ((-1) : Int32) then
        (jRo_never M2).bind fun r5 =>
        some r5
      else
        (qrJ M2 51 12 p0).bind fun v4 =>
        some v4) : Option Int64).bind fun x3 =>
    some ((x3 : Int64).toInt32, M2)

noncomputable def jTc_value (p0 : Int32) (M : qM) : Option (Int64 × qM) :=
  if (b2i (jRo_isThere M) : Int32) = (0 : Int32) then
    none
  else
    if (b2i (jTc_isOf p0 ((M.1 49 5) + 1)) : Int32) = (0 : Int32) then
      none
    else
      (jRo_weigh 50 M).bind fun M1 =>
      (qrJ M1 53 13 p0).bind fun v2 =>
      some (v2, M1)

noncomputable def jTc_best (M : qM) : Option (Int32 × qM) :=
  if (b2i (jRo_isThere M) : Int32) = (0 : Int32) then
    some ((-1), M)
  else
    (jRo_weigh 50 M).bind fun M1 =>
    (jRo_greatest M1).bind fun r2 =>
    some (r2, M1)

noncomputable def jTc_rest (p0 : Int32) (M : qM) : Option (Int32 × qM) :=
  if (b2i (jRo_isThere M) : Int32) = (0 : Int32) then
    some ((-1), M)
  else
    if (b2i (jTc_isOf p0 100) : Int32) = (0 : Int32) then
      some ((-1), M)
    else
      (jRo_restsBy p0 50 M).bind fun w1 =>
      qu2 w1 fun r2 M3 =>
      qlt ((
        if (b2i r2 : Int32) = (0 : Int32) then
          false
        else
          true) : Bool) fun z4 =>
      some (b2i z4, M3)

noncomputable def jTc_found (p0 : Int32) (p1 : Int32) (M : qM) : Option (Int32 × qM) :=
  if (b2i (jRo_isThere M) : Int32) = (0 : Int32) then
    some ((-1), M)
  else
    if (3 : Int32) < (M.1 49 5 : Int32) then
      some ((-1), M)
    else
      if (b2i (jTc_isOf p0 100) : Int32) = (0 : Int32) then
        some ((-1), M)
      else
        (jRo_search p0 M).bind fun M1 =>
        if (p1 : Int32) = ((-1) : Int32) then
          some (M1.1 49 16, M1)
        else
          ((
            if (b2i (jTc_isOf p1 (M1.1 49 16)) : Int32) = (0 : Int32) then
              some (-1)
            else
              (qrI M1 59 1331 p1).bind fun v3 =>
              some v3) : Option Int32).bind fun x2 =>
          some (x2, M1)

noncomputable def jTc_mean (M : qM) : Option (Int32 × qM) :=
  if (b2i (jRo_isThere M) : Int32) = (0 : Int32) then
    some ((-1), M)
  else
    (jRo_followAll M).bind fun M1 =>
    (jRo_meanMinute M1).bind fun r2 =>
    some (r2, M1)

noncomputable def jTc_gone (p0 : Int32) (M : qM) : Option (Int64 × qM) :=
  if (b2i (jRo_isThere M) : Int32) = (0 : Int32) then
    some ((-1), M)
  else
    if (b2i (jTc_isOf p0 ((M.1 49 5) + 1)) : Int32) = (0 : Int32) then
      some ((-1), M)
    else
      (jRo_followAll M).bind fun M1 =>
      (qrJ M1 52 13 p0).bind fun v2 =>
      some (v2, M1)

noncomputable def jTc_like (p0 : Int32) (M : qM) : Option (Int32 × qM) :=
  if (b2i (jRo_isThere M) : Int32) = (0 : Int32) then
    some ((-1), M)
  else
    if (b2i (jTc_isOf p0 (M.1 49 5)) : Int32) = (0 : Int32) then
      some ((-1), M)
    else
      (jRo_likeliest p0 M).bind fun w1 =>
      qu2 w1 fun r2 M3 =>
      some (r2, M3)

noncomputable def jTc_tell (p0 : Int32) (p1 : Int32) (M : qM) : Option (Bool × qM) :=
  (jTc_isThing p0 p1 M).bind fun r1 =>
  if (b2i r1 : Int32) = (0 : Int32) then
    some (false, M)
  else
    (qix 5 p0).bind fun t2 =>
    (jTo_begin (71 + 4 * t2) p1 M).bind fun M3 =>
    some (true, M3)

noncomputable def jTc_isTold (p0 : Int32) (M : qM) : Option Bool :=
  ((
    if (b2i (jTo_began M) : Int32) = (0 : Int32) then
      some false
    else
      (M.2.2 60 0).bind fun a2 =>
      if (b2i (jTc_isOf p0 (M.1 a2 2)) : Int32) = (0 : Int32) then
        some false
      else
        some true) : Option Bool).bind fun z1 =>
  some z1

noncomputable def jTc_came (p0 : Int32) (p1 : Int32) (M : qM) : Option (Bool × qM) :=
  (jTc_isTold p0 M).bind fun r1 =>
  if (b2i r1 : Int32) = (0 : Int32) then
    some (false, M)
  else
    if (b2i (jTc_isMinuteOrNone p1) : Int32) = (0 : Int32) then
      some (false, M)
    else
      (qwI M 61 20 p0 p1).bind fun M2 =>
      some (true, M2)

noncomputable def jTc_told (p0 : Int32) (p1 : Int32) (M : qM) : Option (Int32 × qM) :=
  (jTc_isTold p0 M).bind fun r1 =>
  if (b2i r1 : Int32) = (0 : Int32) then
    some ((-1000000), M)
  else
    if (p1 : Int32) = 0 then
      (qrI M 61 20 p0).bind fun v2 =>
      some (v2, M)
    else
      if (p1 : Int32) = 1 then
        (jTo_rankOf p0 M).bind fun w3 =>
        qu2 w3 fun r4 M5 =>
        some (r4, M5)
      else
        if (p1 : Int32) = 2 then
          (jTo_gainOf p0 M).bind fun w6 =>
          qu2 w6 fun r7 M8 =>
          some (r7, M8)
        else
          if (p1 : Int32) = 3 then
            (jTo_answerOf p0 M).bind fun w9 =>
            qu2 w9 fun r10 M11 =>
            some (r10, M11)
          else
            if (p1 : Int32) = 4 then
              (jTo_regretOf p0 M).bind fun w12 =>
              qu2 w12 fun r13 M14 =>
              some (r13, M14)
            else
              some ((-1000000), M)

noncomputable def jTc_ill (M : qM) : Option (Int32 × qM) :=
  if (b2i (jTo_began M) : Int32) = (0 : Int32) then
    some ((-1), M)
  else
    (qlp (σ := (Int32 × Int32 × qM)) (ρ := (Int32 × qM)) (
      fun q => qu3 q fun x1 x2 M3 =>
      (M3.2.2 60 0).bind fun a7 =>
      if (M3.1 a7 2 : Int32) ≤ (x2 : Int32) then
        some (.inr (x1, M3))
      else
        (jTo_regretOf x2 M3).bind fun w8 =>
        qu2 w8 fun r9 M10 =>
        qlt ((
          if (r9 : Int32) ≤ (0 : Int32) then
            x1
          else
            qlt (x1 ||| (1 <<< (x2 &&& 31)) : Int32) fun x13 =>
            x13) : Int32) fun x11 =>
        qlt (x2 + 1 : Int32) fun x12 =>
        some (.inl (x11, x12, M10))) (0, 0, M)).bind fun r6 =>
    qu2 r6 fun x4 M5 =>
    some (x4, M5)

noncomputable def jTc_settle (M : qM) : Option (Int32 × qM) :=
  ((
    if (b2i (jTo_began M) : Int32) = (0 : Int32) then
      some ((-1), M)
    else
      (jTo_takeTurns M).bind fun w4 =>
      qu2 w4 fun r5 M6 =>
      some (r5, M6)) : Option (Int32 × qM)).bind fun w3 =>
  qu2 w3 fun x1 M2 =>
  some (x1, M2)

noncomputable def jTc_between (p0 : Int32) (M : qM) : Bool × qM :=
  if (b2i (jTc_isOf p0 10) : Int32) = (0 : Int32) then
    (false, M)
  else
    qlt (qI M 0 12 p0) fun M1 =>
    (true, M1)

noncomputable def jTc_round (p0 : Int32) (p1 : Int32) (M : qM) : Option (Int32 × qM) :=
  (jTc_isTold p0 M).bind fun r1 =>
  if (b2i r1 : Int32) = (0 : Int32) then
    some ((-1000000), M)
  else
    if (b2i (jTc_isOf p1 3) : Int32) = (0 : Int32) then
      some ((-1000000), M)
    else
      (jTr_walk (M.1 0 12) M).bind fun M2 =>
      ((
        if (p1 : Int32) = (0 : Int32) then
          (qrI M2 66 20 p0).bind fun v6 =>
          some v6
        else
          if (p1 : Int32) = (1 : Int32) then
            (qrI M2 67 20 p0).bind fun v5 =>
            some v5
          else
            (qrI M2 68 20 p0).bind fun v4 =>
            some v4) : Option Int32).bind fun x3 =>
      some (x3, M2)

noncomputable def jTc_swap (p0 : Int32) (p1 : Int32) (M : qM) : Option (Int32 × qM) :=
  (jTc_isTold p0 M).bind fun r1 =>
  if (b2i r1 : Int32) = (0 : Int32) then
    some ((-1000000), M)
  else
    (jTc_isTold p1 M).bind fun r2 =>
    if (b2i r2 : Int32) = (0 : Int32) then
      some ((-1000000), M)
    else
      if (p0 : Int32) = (p1 : Int32) then
        some ((-1000000), M)
      else
        (jTo_gainBySwap p0 p1 M).bind fun w3 =>
        qu2 w3 fun r4 M5 =>
        some (r4, M5)

noncomputable def jTc_crowd (M : qM) : Option (Int32 × qM) :=
  ((
    if (b2i (jTo_began M) : Int32) = (0 : Int32) then
      some ((-1), M)
    else
      (jTo_fullest M).bind fun w4 =>
      qu2 w4 fun r5 M6 =>
      some (r5, M6)) : Option (Int32 × qM)).bind fun w3 =>
  qu2 w3 fun x1 M2 =>
  some (x1, M2)

noncomputable def jTc_free (p0 : Int32) (M : qM) : Option (Int32 × qM) :=
  (jTc_isTold p0 M).bind fun r1 =>
  ((
    if (b2i r1 : Int32) = (0 : Int32) then
      some ((-1), M)
    else
      (jTo_firstWithPlace p0 M).bind fun w5 =>
      qu2 w5 fun r6 M7 =>
      some (r6, M7)) : Option (Int32 × qM)).bind fun w4 =>
  qu2 w4 fun x2 M3 =>
  some (x2, M3)

noncomputable def jMd_in (p0 : Int32) (p1 : Int32) (p2 : Int32) : Bool :=
  qlt ((
    if (p0 : Int32) < (p1 : Int32) then
      false
    else
      if (p2 : Int32) < (p0 : Int32) then
        false
      else
        true) : Bool) fun z1 =>
  z1

noncomputable def jMd_has (p0 : Int32) (p1 : Int32) : Bool :=
  qlt ((
    if ((p0 >>> (p1 &&& 31)) &&& 1 : Int32) = (1 : Int32) then
      true
    else
      false) : Bool) fun z1 =>
  z1

noncomputable def jMd_thrown (M : qM) : Int32 :=
  M.1 91 0

noncomputable def jMd_byteOf (p0 : Int32) (p1 : Int32) (p2 : Int32) (p3 : Int32) (p4 : Int32) (p5 : Int32) : Int32 :=
  qlt ((
    if (4 : Int32) ≤ (p5 : Int32) then
      if (8 : Int32) ≤ (p5 : Int32) then
        if (12 : Int32) ≤ (p5 : Int32) then
          if (16 : Int32) ≤ (p5 : Int32) then
            p4
          else
            p3
        else
          p2
      else
        p1
    else
      p0) : Int32) fun x1 =>
  (x1 >>> ((24 - (8 * (p5 - p5 / 4 * 4))) &&& 31)) &&& 255

noncomputable def jMd_feed (p0 : Int32) (p1 : Int32) (p2 : Int32) (p3 : Int32) (p4 : Int32) (M : qM) : Option (Int32 × qM) :=
  (qlp (σ := (Int32 × Int32)) (ρ := Int32) (
    fun q => qu2 q fun x1 x2 =>
    if (20 : Int32) ≤ (x2 : Int32) then
      some (.inr x1)
    else
      qlt ((
        if ((jMd_byteOf p0 p1 p2 p3 p4 x2) : Int32) = (0 : Int32) then
          false
        else
          true) : Bool) fun z14 =>
      qlt (x1 + (b2i z14) : Int32) fun x15 =>
      qlt (x2 + 1 : Int32) fun x16 =>
      some (.inl (x15, x16))) (0, 0)).bind fun x3 =>
  if ((M.1 91 2) + x3 : Int32) ≤ (160 : Int32) then
    (qlp (σ := (Int32 × qM)) (ρ := qM) (
      fun q => qu2 q fun x5 M6 =>
      if (20 : Int32) ≤ (x5 : Int32) then
        some (.inr M6)
      else
        qlt ((jMd_byteOf p0 p1 p2 p3 p4 x5) : Int32) fun x9 =>
        ((
          if (x9 : Int32) = (0 : Int32) then
            some M6
          else
            (qwI M6 92 160 (M6.1 91 2) x9).bind fun M12 =>
            qlt (qI M12 91 2 ((M12.1 91 2) + 1)) fun M13 =>
            some M13) : Option qM).bind fun M10 =>
        qlt (x5 + 1 : Int32) fun x11 =>
        some (.inl (x11, M10))) (0, M)).bind fun M7 =>
    some (M7.1 91 2, M7)
  else
    some ((-1), M)

noncomputable def jMd_end (p0 : Int32) (M : qM) : Bool × qM :=
  if (p0 : Int32) < (0 : Int32) then
    (false, M)
  else
    if (p0 : Int32) ≤ (M.1 91 2 : Int32) then
      qlt (qI M 91 2 p0) fun M1 =>
      (true, M1)
    else
      (false, M)

noncomputable def jMd_here (M : qM) : Option Int32 :=
  ((
    if (M.1 91 2 : Int32) ≤ (M.1 91 3 : Int32) then
      some (-1)
    else
      (qrI M 92 160 (M.1 91 3)).bind fun v2 =>
      some v2) : Option Int32).bind fun x1 =>
  some x1

noncomputable def jMd_look (M : qM) : Option (Int32 × qM) :=
  (qlp (σ := qM) (ρ := qM) (
    fun M1 =>
    (jMd_here M1).bind fun r5 =>
    if (r5 : Int32) = (32 : Int32) then
      qlt (qI M1 91 3 ((M1.1 91 3) + 1)) fun M6 =>
      some (.inl M6)
    else
      some (.inr M1)) M).bind fun M2 =>
  (jMd_here M2).bind fun r4 =>
  some (r4, M2)

noncomputable def jMd_bad (M : qM) : qM :=
  qlt ((
    if (M.1 91 4 : Int32) = ((-1) : Int32) then
      M.1 91 3
    else
      M.1 91 4) : Int32) fun x1 =>
  qlt (qI M 91 4 x1) fun M2 =>
  M2

noncomputable def jMd_isDigit (p0 : Int32) : Bool :=
  qlt ((
    if (p0 : Int32) < (48 : Int32) then
      false
    else
      if (57 : Int32) < (p0 : Int32) then
        false
      else
        true) : Bool) fun z1 =>
  z1

noncomputable def jMd_put (p0 : Int32) (p1 : Int32) (M : qM) : Option qM :=
  (qrI M 95 7 (M.1 91 14)).bind fun v1 =>
  (qwI M 93 2380 ((340 * (M.1 91 14)) + v1) p0).bind fun M2 =>
  (qrI M2 95 7 (M2.1 91 14)).bind fun v3 =>
  (qwI M2 94 2380 ((340 * (M2.1 91 14)) + v3) p1).bind fun M4 =>
  (qrI M4 95 7 (M4.1 91 14)).bind fun v5 =>
  (qwI M4 95 7 (M4.1 91 14) (v5 + 1)).bind fun M6 =>
  some M6

noncomputable def jMd_letterOf (p0 : Int32) : Int32 :=
  qlt ((
    if (p0 : Int32) = (116 : Int32) then
      0
    else
      if (p0 : Int32) = (104 : Int32) then
        1
      else
        if (p0 : Int32) = (103 : Int32) then
          2
        else
          if (p0 : Int32) = (110 : Int32) then
            3
          else
            if (p0 : Int32) = (114 : Int32) then
              4
            else
              if (p0 : Int32) = (111 : Int32) then
                5
              else
                if (p0 : Int32) = (118 : Int32) then
                  6
                else
                  if (p0 : Int32) = (99 : Int32) then
                    7
                  else
                    (-1)) : Int32) fun x1 =>
  x1

noncomputable def jMd_opens (M : qM) : qM :=
  qlt ((
    if (M.1 91 5 : Int32) = (6 : Int32) then
      qlt (jMd_bad M) fun M4 =>
      M4
    else
      M) : qM) fun M1 =>
  qlt (qI M1 91 5 ((M1.1 91 5) + 1)) fun M2 =>
  qlt (qI M2 91 3 ((M2.1 91 3) + 1)) fun M3 =>
  M3

noncomputable def jMd_closes (p0 : Int32) (M : qM) : Option qM :=
  ((
    if (M.1 91 4 : Int32) = ((-1) : Int32) then
      (jMd_look M).bind fun w4 =>
      qu2 w4 fun r5 M6 =>
      if (r5 : Int32) = (p0 : Int32) then
        some M6
      else
        qlt (jMd_bad M6) fun M7 =>
        some M7
    else
      some M) : Option qM).bind fun M1 =>
  qlt (qI M1 91 3 ((M1.1 91 3) + 1)) fun M2 =>
  qlt (qI M2 91 5 ((M2.1 91 5) - 1)) fun M3 =>
  some M3

noncomputable def jMd_plainNumber (M : qM) : Option (Int32 × qM) :=
  (qlp (σ := (Int32 × Int32 × qM)) (ρ := (Int32 × qM)) (
    fun q => qu3 q fun x1 x2 M3 =>
    if (4 : Int32) ≤ (x2 : Int32) then
      some (.inr (x1, M3))
    else
      (jMd_here M3).bind fun r10 =>
      if (b2i (jMd_isDigit r10) : Int32) = (0 : Int32) then
        some (.inr (x1, M3))
      else
        (jMd_here M3).bind fun r11 =>
        qlt (((10 * x1) + r11) - 48 : Int32) fun x12 =>
        qlt (qI M3 91 3 ((M3.1 91 3) + 1)) fun M13 =>
        qlt (x2 + 1 : Int32) fun x14 =>
        some (.inl (x12, x14, M13))) (0, 0, M)).bind fun r6 =>
  qu2 r6 fun x4 M5 =>
  (jMd_here M5).bind fun r7 =>
  qlt ((
    if (b2i (jMd_isDigit r7) : Int32) = (0 : Int32) then
      M5
    else
      qlt (jMd_bad M5) fun M9 =>
      M9) : qM) fun M8 =>
  some (x4, M8)

noncomputable def jMd_atomF (rc : qM → Option qM) (M : qM) : Option qM :=
  (jMd_look M).bind fun w1 =>
  qu2 w1 fun r2 M3 =>
  ((
    if (b2i (jMd_isDigit r2) : Int32) = (0 : Int32) then
      if ((jMd_letterOf r2) : Int32) = ((-1) : Int32) then
        if (r2 : Int32) = (91 : Int32) then
          qlt (jMd_opens M3) fun M6 =>
          if (M6.1 91 4 : Int32) = ((-1) : Int32) then
            (rc M6).bind fun M7 =>
            (jMd_closes 93 M7).bind fun M8 =>
            some M8
          else
            some M6
        else
          qlt (jMd_bad M3) fun M5 =>
          some M5
      else
        qlt (qI M3 91 3 ((M3.1 91 3) + 1)) fun M9 =>
        (jMd_put 1 (jMd_letterOf r2) M9).bind fun M10 =>
        some M10
    else
      (jMd_plainNumber M3).bind fun w11 =>
      qu2 w11 fun r12 M13 =>
      (jMd_put 0 r12 M13).bind fun M14 =>
      some M14) : Option qM).bind fun M4 =>
  some M4

noncomputable def jMd_termF (rc : qM → Option qM) (M : qM) : Option qM :=
  (jMd_atomF rc M).bind fun M1 =>
  ((
    if (M1.1 91 4 : Int32) = ((-1) : Int32) then
      (jMd_look M1).bind fun w20 =>
      qu2 w20 fun r21 M22 =>
      some (r21, M22)
    else
      some ((-1), M1)) : Option (Int32 × qM)).bind fun w4 =>
  qu2 w4 fun x2 M3 =>
  (qlp (σ := (Int32 × qM)) (ρ := qM) (
    fun q => qu2 q fun x5 M6 =>
    qlt ((
      if (x5 : Int32) = (42 : Int32) then
        true
      else
        if (x5 : Int32) = (47 : Int32) then
          true
        else
          false) : Bool) fun z9 =>
    if z9 = true then
      qlt (qI M6 91 3 ((M6.1 91 3) + 1)) fun M10 =>
      (jMd_atomF rc M10).bind fun M11 =>
      qlt ((
        if (x5 : Int32) = (42 : Int32) then
          4
        else
          5) : Int32) fun x12 =>
      (jMd_put x12 0 M11).bind fun M13 =>
      ((
        if (M13.1 91 4 : Int32) = ((-1) : Int32) then
          (jMd_look M13).bind fun w17 =>
          qu2 w17 fun r18 M19 =>
          some (r18, M19)
        else
          some ((-1), M13)) : Option (Int32 × qM)).bind fun w16 =>
      qu2 w16 fun x14 M15 =>
      some (.inl (x14, M15))
    else
      some (.inr M6)) (x2, M3)).bind fun M7 =>
  some M7

noncomputable def jMd_sumF (rc : qM → Option qM) (M : qM) : Option qM :=
  (jMd_termF rc M).bind fun M1 =>
  ((
    if (M1.1 91 4 : Int32) = ((-1) : Int32) then
      (jMd_look M1).bind fun w20 =>
      qu2 w20 fun r21 M22 =>
      some (r21, M22)
    else
      some ((-1), M1)) : Option (Int32 × qM)).bind fun w4 =>
  qu2 w4 fun x2 M3 =>
  (qlp (σ := (Int32 × qM)) (ρ := qM) (
    fun q => qu2 q fun x5 M6 =>
    qlt ((
      if (x5 : Int32) = (43 : Int32) then
        true
      else
        if (x5 : Int32) = (45 : Int32) then
          true
        else
          false) : Bool) fun z9 =>
    if z9 = true then
      qlt (qI M6 91 3 ((M6.1 91 3) + 1)) fun M10 =>
      (jMd_termF rc M10).bind fun M11 =>
      qlt ((
        if (x5 : Int32) = (43 : Int32) then
          2
        else
          3) : Int32) fun x12 =>
      (jMd_put x12 0 M11).bind fun M13 =>
      ((
        if (M13.1 91 4 : Int32) = ((-1) : Int32) then
          (jMd_look M13).bind fun w17 =>
          qu2 w17 fun r18 M19 =>
          some (r18, M19)
        else
          some ((-1), M13)) : Option (Int32 × qM)).bind fun w16 =>
      qu2 w16 fun x14 M15 =>
      some (.inl (x14, M15))
    else
      some (.inr M6)) (x2, M3)).bind fun M7 =>
  some M7

noncomputable def jMd_sumN (n : Nat) : qM → Option qM := Nat.rec (fun  _ => none) (fun _ rc => jMd_sumF rc) n
noncomputable def jMd_atom (M : qM) : Option qM := jMd_atomF (jMd_sumN 8) M
noncomputable def jMd_term (M : qM) : Option qM := jMd_termF (jMd_sumN 8) M
noncomputable def jMd_sum (M : qM) : Option qM := jMd_sumF (jMd_sumN 8) M

noncomputable def jMd_isSign (p0 : Int32) : Bool :=
  qlt ((
    if (p0 : Int32) = (61 : Int32) then
      true
    else
      if (p0 : Int32) = (60 : Int32) then
        true
      else
        if (p0 : Int32) = (62 : Int32) then
          true
        else
          false) : Bool) fun z1 =>
  z1

noncomputable def jMd_compare (M : qM) : Option qM :=
  ((
    if (M.1 91 4 : Int32) = ((-1) : Int32) then
      (jMd_look M).bind fun w9 =>
      qu2 w9 fun r10 M11 =>
      some (r10, M11)
    else
      some ((-1), M)) : Option (Int32 × qM)).bind fun w3 =>
  qu2 w3 fun x1 M2 =>
  if (b2i (jMd_isSign x1) : Int32) = (0 : Int32) then
    qlt (jMd_bad M2) fun M8 =>
    some M8
  else
    qlt (qI M2 91 3 ((M2.1 91 3) + 1)) fun M4 =>
    (jMd_sum M4).bind fun M5 =>
    qlt ((
      if (x1 : Int32) = (61 : Int32) then
        6
      else
        if (x1 : Int32) = (60 : Int32) then
          7
        else
          8) : Int32) fun x6 =>
    (jMd_put x6 0 M5).bind fun M7 =>
    some M7

noncomputable def jMd_goOnAndF (rc : qM → Option qM) (M : qM) : Option qM :=
  (qlp (σ := qM) (ρ := qM) (
    fun M1 =>
    if (M1.1 91 4 : Int32) = ((-1) : Int32) then
      (jMd_look M1).bind fun w4 =>
      qu2 w4 fun r5 M6 =>
      if (r5 : Int32) = (38 : Int32) then
        qlt (qI M6 91 3 ((M6.1 91 3) + 1)) fun M7 =>
        (rc M7).bind fun M8 =>
        (jMd_put 10 0 M8).bind fun M9 =>
        some (.inl M9)
      else
        some (.inr M6)
    else
      some (.inr M1)) M).bind fun M2 =>
  some M2

noncomputable def jMd_goOnOrF (rc : qM → Option qM) (M : qM) : Option qM :=
  (qlp (σ := qM) (ρ := qM) (
    fun M1 =>
    if (M1.1 91 4 : Int32) = ((-1) : Int32) then
      (jMd_look M1).bind fun w4 =>
      qu2 w4 fun r5 M6 =>
      if (r5 : Int32) = (124 : Int32) then
        qlt (qI M6 91 3 ((M6.1 91 3) + 1)) fun M7 =>
        (rc M7).bind fun M8 =>
        (jMd_goOnAndF rc M8).bind fun M9 =>
        (jMd_put 11 0 M9).bind fun M10 =>
        some (.inl M10)
      else
        some (.inr M6)
    else
      some (.inr M1)) M).bind fun M2 =>
  some M2

noncomputable def jMd_conditionF (rc : qM → Option qM) (M : qM) : Option qM :=
  (rc M).bind fun M1 =>
  (jMd_goOnAndF rc M1).bind fun M2 =>
  (jMd_goOnOrF rc M2).bind fun M3 =>
  some M3

noncomputable def jMd_unitF (rc : qM → Option qM) (M : qM) : Option qM :=
  (jMd_look M).bind fun w1 =>
  qu2 w1 fun r2 M3 =>
  ((
    if (r2 : Int32) = (33 : Int32) then
      qlt (jMd_opens M3) fun M10 =>
      if (M10.1 91 4 : Int32) = ((-1) : Int32) then
        (rc M10).bind fun M11 =>
        (jMd_put 9 0 M11).bind fun M12 =>
        qlt (qI M12 91 5 ((M12.1 91 5) - 1)) fun M13 =>
        some M13
      else
        some M10
    else
      if (r2 : Int32) = (40 : Int32) then
        qlt (jMd_opens M3) fun M7 =>
        if (M7.1 91 4 : Int32) = ((-1) : Int32) then
          (jMd_conditionF rc M7).bind fun M8 =>
          (jMd_closes 41 M8).bind fun M9 =>
          some M9
        else
          some M7
      else
        (jMd_sum M3).bind fun M5 =>
        if (M5.1 91 4 : Int32) = ((-1) : Int32) then
          (jMd_compare M5).bind fun M6 =>
          some M6
        else
          some M5) : Option qM).bind fun M4 =>
  some M4

noncomputable def jMd_unitN (n : Nat) : qM → Option qM := Nat.rec (fun  _ => none) (fun _ rc => jMd_unitF rc) n
noncomputable def jMd_goOnAnd (M : qM) : Option qM := jMd_goOnAndF (jMd_unitN 8) M
noncomputable def jMd_goOnOr (M : qM) : Option qM := jMd_goOnOrF (jMd_unitN 8) M
noncomputable def jMd_condition (M : qM) : Option qM := jMd_conditionF (jMd_unitN 8) M
noncomputable def jMd_unit (M : qM) : Option qM := jMd_unitF (jMd_unitN 8) M

noncomputable def jMd_clause (M : qM) : Option qM :=
  (qrI M 96 7 (M.1 91 14)).bind fun v1 =>
  qlt ((90 * (M.1 91 14)) + v1 : Int32) fun x2 =>
  ((
    if (M.1 91 4 : Int32) = ((-1) : Int32) then
      (jMd_look M).bind fun w55 =>
      qu2 w55 fun r56 M57 =>
      if (r56 : Int32) = (121 : Int32) then
        some M57
      else
        qlt (jMd_bad M57) fun M58 =>
        some M58
    else
      some M) : Option qM).bind fun M3 =>
  qlt (qI M3 91 3 ((M3.1 91 3) + 1)) fun M4 =>
  ((
    if (M4.1 91 4 : Int32) = ((-1) : Int32) then
      (jMd_look M4).bind fun w51 =>
      qu2 w51 fun r52 M53 =>
      if (r52 : Int32) = (58 : Int32) then
        some M53
      else
        qlt (jMd_bad M53) fun M54 =>
        some M54
    else
      some M4) : Option qM).bind fun M5 =>
  qlt (qI M5 91 3 ((M5.1 91 3) + 1)) fun M6 =>
  if (M6.1 91 4 : Int32) = ((-1) : Int32) then
    (qrI M6 95 7 (M6.1 91 14)).bind fun v7 =>
    (qwI M6 97 630 x2 v7).bind fun M8 =>
    (jMd_look M8).bind fun w9 =>
    qu2 w9 fun r10 M11 =>
    ((
      if (r10 : Int32) = (33 : Int32) then
        some (true, M11)
      else
        (jMd_look M11).bind fun w48 =>
        qu2 w48 fun r49 M50 =>
        if (r49 : Int32) = (40 : Int32) then
          some (true, M50)
        else
          some (false, M50)) : Option (Bool × qM)).bind fun w14 =>
    qu2 w14 fun z12 M13 =>
    ((
      if (b2i z12 : Int32) = (0 : Int32) then
        (jMd_sum M13).bind fun M37 =>
        ((
          if (M37.1 91 4 : Int32) = ((-1) : Int32) then
            (jMd_look M37).bind fun w44 =>
            qu2 w44 fun r45 M46 =>
            if (b2i (jMd_isSign r45) : Int32) = (0 : Int32) then
              some (false, M46)
            else
              some (true, M46)
          else
            some (false, M37)) : Option (Bool × qM)).bind fun w40 =>
        qu2 w40 fun z38 M39 =>
        if (b2i z38 : Int32) = (0 : Int32) then
          some (z38, M39)
        else
          (jMd_compare M39).bind fun M41 =>
          (jMd_goOnAnd M41).bind fun M42 =>
          (jMd_goOnOr M42).bind fun M43 =>
          some (z38, M43)
      else
        (jMd_condition M13).bind fun M47 =>
        some (z12, M47)) : Option (Bool × qM)).bind fun w17 =>
    qu2 w17 fun z15 M16 =>
    (qrI M16 97 630 x2).bind fun v18 =>
    (qwI M16 98 630 x2 v18).bind fun M19 =>
    qlt ((
      if (b2i z15 : Int32) = (0 : Int32) then
        false
      else
        if (M19.1 91 4 : Int32) = ((-1) : Int32) then
          true
        else
          false) : Bool) fun z20 =>
    if z20 = true then
      (jMd_look M19).bind fun w21 =>
      qu2 w21 fun r22 M23 =>
      if (r22 : Int32) = (63 : Int32) then
        qlt (qI M23 91 3 ((M23.1 91 3) + 1)) fun M24 =>
        (qrI M24 95 7 (M24.1 91 14)).bind fun v25 =>
        (qwI M24 98 630 x2 v25).bind fun M26 =>
        (jMd_sum M26).bind fun M27 =>
        (qrI M27 95 7 (M27.1 91 14)).bind fun v28 =>
        (qwI M27 99 630 x2 v28).bind fun M29 =>
        (qrI M29 96 7 (M29.1 91 14)).bind fun v30 =>
        (qwI M29 96 7 (M29.1 91 14) (v30 + 1)).bind fun M31 =>
        some M31
      else
        qlt (jMd_bad M23) fun M32 =>
        some M32
    else
      (qrI M19 95 7 (M19.1 91 14)).bind fun v33 =>
      (qwI M19 99 630 x2 v33).bind fun M34 =>
      (qrI M34 96 7 (M34.1 91 14)).bind fun v35 =>
      (qwI M34 96 7 (M34.1 91 14) (v35 + 1)).bind fun M36 =>
      some M36
  else
    some M6

noncomputable def jMd_open (p0 : Int32) (M : qM) : Option qM :=
  qlt (qI M 91 14 p0) fun M1 =>
  qlt (qI M1 91 3 0) fun M2 =>
  qlt (qI M2 91 4 (-1)) fun M3 =>
  qlt (qI M3 91 5 0) fun M4 =>
  (qwI M4 95 7 p0 0).bind fun M5 =>
  (qwI M5 96 7 p0 0).bind fun M6 =>
  some M6

noncomputable def jMd_atEnd (M : qM) : Option (Int32 × qM) :=
  ((
    if (M.1 91 4 : Int32) = ((-1) : Int32) then
      (jMd_look M).bind fun w2 =>
      qu2 w2 fun r3 M4 =>
      if (r3 : Int32) = ((-1) : Int32) then
        some M4
      else
        qlt (jMd_bad M4) fun M5 =>
        some M5
    else
      some M) : Option qM).bind fun M1 =>
  some (M1.1 91 4, M1)

noncomputable def jMd_readWay (p0 : Int32) (M : qM) : Option (Int32 × qM) :=
  (jMd_open p0 M).bind fun M1 =>
  (jMd_clause M1).bind fun M2 =>
  (qlp (σ := qM) (ρ := qM) (
    fun M3 =>
    if (M3.1 91 4 : Int32) = ((-1) : Int32) then
      (jMd_look M3).bind fun w9 =>
      qu2 w9 fun r10 M11 =>
      if (r10 : Int32) = (59 : Int32) then
        qlt (qI M11 91 3 ((M11.1 91 3) + 1)) fun M12 =>
        (jMd_clause M12).bind fun M13 =>
        some (.inl M13)
      else
        some (.inr M11)
    else
      some (.inr M3)) M2).bind fun M4 =>
  (jMd_atEnd M4).bind fun w6 =>
  qu2 w6 fun r7 M8 =>
  some (r7, M8)

noncomputable def jMd_bounded (p0 : Int64) : Int32 :=
  ((jmaxJ (-1000000) (jminJ 1000000 p0)) : Int64).toInt32

noncomputable def jMd_worked (p0 : Int32) (p1 : Int64) (p2 : Int64) : Option Int32 :=
  if (p0 : Int32) = 2 then
    some (jMd_bounded (p1 + p2))
  else
    if (p0 : Int32) = 3 then
      some (jMd_bounded (p1 - p2))
    else
      if (p0 : Int32) = 4 then
        some (jMd_bounded (p1 * p2))
      else
        if (p0 : Int32) = 5 then
          ((
            if (lg_cmp p2 0 : Int32) = (0 : Int32) then
              some 0
            else
              (qdvJ p1 p2).bind fun v2 =>
              some (jMd_bounded v2)) : Option Int32).bind fun x1 =>
          some x1
        else
          if (p0 : Int32) = 6 then
            qlt ((
              if (lg_cmp p1 p2 : Int32) = (0 : Int32) then
                true
              else
                false) : Bool) fun z3 =>
            some (b2i z3)
          else
            if (p0 : Int32) = 7 then
              qlt ((
                if (0 : Int32) ≤ (lg_cmp p1 p2 : Int32) then
                  false
                else
                  true) : Bool) fun z4 =>
              some (b2i z4)
            else
              if (p0 : Int32) = 8 then
                qlt ((
                  if (lg_cmp p1 p2 : Int32) ≤ (0 : Int32) then
                    false
                  else
                    true) : Bool) fun z5 =>
                some (b2i z5)
              else
                if (p0 : Int32) = 10 then
                  qlt ((
                    if (lg_cmp p1 0 : Int32) = (0 : Int32) then
                      false
                    else
                      if (lg_cmp p2 0 : Int32) = (0 : Int32) then
                        false
                      else
                        true) : Bool) fun z6 =>
                  some (b2i z6)
                else
                  qlt ((
                    if (lg_cmp p1 0 : Int32) = (0 : Int32) then
                      if (lg_cmp p2 0 : Int32) = (0 : Int32) then
                        false
                      else
                        true
                    else
                      true) : Bool) fun z7 =>
                  some (b2i z7)

noncomputable def jMd_workOut (p0 : Int32) (p1 : Int32) (p2 : Int32) (M : qM) : Option (Int32 × qM) :=
  qlt ((340 * p0) + p1 : Int32) fun x1 =>
  (qlp (σ := (Int32 × Int32 × qM)) (ρ := qM) (
    fun q => qu3 q fun x2 x3 M4 =>
    if ((340 * p0) + p2 : Int32) ≤ (x3 : Int32) then
      some (.inr M4)
    else
      (qrI M4 93 2380 x3).bind fun v8 =>
      ((
        if (v8 : Int32) = (0 : Int32) then
          (qrI M4 93 2380 x3).bind fun v13 =>
          ((
            if (v13 : Int32) = (0 : Int32) then
              (qrI M4 94 2380 x3).bind fun v19 =>
              some v19
            else
              (qrI M4 94 2380 x3).bind fun v17 =>
              (qrI M4 100 8 v17).bind fun v18 =>
              some v18) : Option Int32).bind fun x14 =>
          (qwI M4 101 80 x2 x14).bind fun M15 =>
          qlt (x2 + 1 : Int32) fun x16 =>
          some (x16, M15)
        else
          (qrI M4 93 2380 x3).bind fun v20 =>
          if (v20 : Int32) = (1 : Int32) then
            (qrI M4 93 2380 x3).bind fun v30 =>
            ((
              if (v30 : Int32) = (0 : Int32) then
                (qrI M4 94 2380 x3).bind fun v36 =>
                some v36
              else
                (qrI M4 94 2380 x3).bind fun v34 =>
                (qrI M4 100 8 v34).bind fun v35 =>
                some v35) : Option Int32).bind fun x31 =>
            (qwI M4 101 80 x2 x31).bind fun M32 =>
            qlt (x2 + 1 : Int32) fun x33 =>
            some (x33, M32)
          else
            (qrI M4 93 2380 x3).bind fun v21 =>
            if (v21 : Int32) = (9 : Int32) then
              (qrI M4 101 80 (x2 - 1)).bind fun v28 =>
              (qwI M4 101 80 (x2 - 1) (1 - v28)).bind fun M29 =>
              some (x2, M29)
            else
              qlt (x2 + (-1) : Int32) fun x22 =>
              (qrI M4 93 2380 x3).bind fun v23 =>
              (qrI M4 101 80 (x22 - 1)).bind fun v24 =>
              (qrI M4 101 80 x22).bind fun v25 =>
              (jMd_worked v23 ((v24 : Int32).toInt64) ((v25 : Int32).toInt64)).bind fun r26 =>
              (qwI M4 101 80 (x22 - 1) r26).bind fun M27 =>
              some (x22, M27)) : Option (Int32 × qM)).bind fun w11 =>
      qu2 w11 fun x9 M10 =>
      qlt (x3 + 1 : Int32) fun x12 =>
      some (.inl (x9, x12, M10))) (0, x1, M)).bind fun M5 =>
  (qrI M5 101 80 0).bind fun v7 =>
  some (v7, M5)

noncomputable def jMd_worthOf (p0 : Int32) (M : qM) : Option (Int32 × qM) :=
  qlt (90 * p0 : Int32) fun x1 =>
  (qlp (σ := (Int32 × qM)) (ρ := ((Int32 × qM) ⊕ qM)) (
    fun q => qu2 q fun x2 M3 =>
    (qrI M3 96 7 p0).bind fun v13 =>
    if ((90 * p0) + v13 : Int32) ≤ (x2 : Int32) then
      some (.inr (.inr M3))
    else
      (qrI M3 97 630 x2).bind fun v14 =>
      (qrI M3 98 630 x2).bind fun v15 =>
      if (v14 : Int32) = (v15 : Int32) then
        some (.inr (.inl (x2, M3)))
      else
        (qrI M3 97 630 x2).bind fun v16 =>
        (qrI M3 98 630 x2).bind fun v17 =>
        (jMd_workOut p0 v16 v17 M3).bind fun w18 =>
        qu2 w18 fun r19 M20 =>
        if (r19 : Int32) = (0 : Int32) then
          qlt (x2 + 1 : Int32) fun x21 =>
          some (.inl (x21, M20))
        else
          some (.inr (.inl (x2, M20)))) (x1, M)).bind fun r7 =>
  qse r7 (fun r7 =>
    qu2 r7 fun x4 M5 =>
    (qrI M5 98 630 x4).bind fun v8 =>
    (qrI M5 99 630 x4).bind fun v9 =>
    (jMd_workOut p0 v8 v9 M5).bind fun w10 =>
    qu2 w10 fun r11 M12 =>
    some (r11, M12)) (fun M6 =>
    some (0, M6))

noncomputable def jMd_numberOf (p0 : Bool) (p1 : Int32) : Int32 :=
  if (b2i p0 : Int32) = (0 : Int32) then
    qlt ((
      if (p1 : Int32) = (109 : Int32) then
        0
      else
        if (p1 : Int32) = (100 : Int32) then
          1
        else
          if (p1 : Int32) = (99 : Int32) then
            2
          else
            if (p1 : Int32) = (107 : Int32) then
              3
            else
              (-1)) : Int32) fun x1 =>
    x1
  else
    qlt ((
      if (p1 : Int32) = (110 : Int32) then
        0
      else
        if (p1 : Int32) = (112 : Int32) then
          1
        else
          if (p1 : Int32) = (119 : Int32) then
            2
          else
            if (p1 : Int32) = (102 : Int32) then
              3
            else
              (-1)) : Int32) fun x2 =>
    x2

noncomputable def jMd_lowest (p0 : Bool) (p1 : Int32) : Int32 :=
  qlt ((
    if (b2i p0 : Int32) = (0 : Int32) then
      if (p1 : Int32) = (0 : Int32) then
        true
      else
        false
    else
      if (2 : Int32) ≤ (p1 : Int32) then
        false
      else
        true) : Bool) fun z1 =>
  b2i z1

noncomputable def jMd_highest (p0 : Bool) (p1 : Int32) : Int32 :=
  qlt ((
    if (b2i p0 : Int32) = (0 : Int32) then
      if (2 : Int32) ≤ (p1 : Int32) then
        if (p1 : Int32) = (2 : Int32) then
          99
        else
          1
      else
        9
    else
      if (p1 : Int32) = (0 : Int32) then
        9
      else
        if (p1 : Int32) = (1 : Int32) then
          3
        else
          if (p1 : Int32) = (2 : Int32) then
            999
          else
            99) : Int32) fun x1 =>
  x1

noncomputable def jMd_usual (p0 : Bool) (p1 : Int32) : Int32 :=
  qlt ((
    if (b2i p0 : Int32) = (0 : Int32) then
      if (p1 : Int32) = (2 : Int32) then
        0
      else
        1
    else
      if (p1 : Int32) = (0 : Int32) then
        3
      else
        if (p1 : Int32) = (1 : Int32) then
          1
        else
          if (p1 : Int32) = (2 : Int32) then
            100
          else
            0) : Int32) fun x1 =>
  x1

noncomputable def jMd_number (p0 : Int32) (p1 : Int32) (M : qM) : Option (Int32 × qM) :=
  (jMd_look M).bind fun w1 =>
  qu2 w1 fun r2 M3 =>
  if (b2i (jMd_isDigit r2) : Int32) = (0 : Int32) then
    qlt (jMd_bad M3) fun M20 =>
    some (p0, M20)
  else
    (qlp (σ := (Int32 × Int32 × qM)) (ρ := (Int32 × qM)) (
      fun q => qu3 q fun x4 x5 M6 =>
      if (3 : Int32) ≤ (x5 : Int32) then
        some (.inr (x4, M6))
      else
        (jMd_here M6).bind fun r15 =>
        if (b2i (jMd_isDigit r15) : Int32) = (0 : Int32) then
          some (.inr (x4, M6))
        else
          (jMd_here M6).bind fun r16 =>
          qlt (((10 * x4) + r16) - 48 : Int32) fun x17 =>
          qlt (qI M6 91 3 ((M6.1 91 3) + 1)) fun M18 =>
          qlt (x5 + 1 : Int32) fun x19 =>
          some (.inl (x17, x19, M18))) (0, 0, M3)).bind fun r9 =>
    qu2 r9 fun x7 M8 =>
    (jMd_here M8).bind fun r10 =>
    qlt ((
      if (b2i (jMd_isDigit r10) : Int32) = (0 : Int32) then
        if (b2i (jMd_in x7 p0 p1) : Int32) = (0 : Int32) then
          qlt (qI M8 91 3 ((M8.1 91 3) - 1)) fun M12 =>
          qlt (jMd_bad M12) fun M13 =>
          M13
        else
          M8
      else
        qlt (jMd_bad M8) fun M14 =>
        M14) : qM) fun M11 =>
    some (x7, M11)

noncomputable def jMd_part (p0 : Int32) (M : qM) : Option qM :=
  (jMd_look M).bind fun w1 =>
  qu2 w1 fun r2 M3 =>
  qlt ((
    if (r2 : Int32) = (116 : Int32) then
      true
    else
      false) : Bool) fun z4 =>
  ((
    if (r2 : Int32) = (116 : Int32) then
      if (b2i z4 : Int32) = (0 : Int32) then
        if (b2i z4 : Int32) = (0 : Int32) then
          (qrI M3 103 5 p0).bind fun v50 =>
          if (v50 : Int32) = (6 : Int32) then
            some true
          else
            some false
        else
          some false
      else
        (qrI M3 102 5 p0).bind fun v51 =>
        if (v51 : Int32) = (4 : Int32) then
          some true
        else
          if (b2i z4 : Int32) = (0 : Int32) then
            (qrI M3 103 5 p0).bind fun v52 =>
            if (v52 : Int32) = (6 : Int32) then
              some true
            else
              some false
          else
            some false
    else
      if (r2 : Int32) = (115 : Int32) then
        if (b2i z4 : Int32) = (0 : Int32) then
          if (b2i z4 : Int32) = (0 : Int32) then
            (qrI M3 103 5 p0).bind fun v53 =>
            if (v53 : Int32) = (6 : Int32) then
              some true
            else
              some false
          else
            some false
        else
          (qrI M3 102 5 p0).bind fun v54 =>
          if (v54 : Int32) = (4 : Int32) then
            some true
          else
            if (b2i z4 : Int32) = (0 : Int32) then
              (qrI M3 103 5 p0).bind fun v55 =>
              if (v55 : Int32) = (6 : Int32) then
                some true
              else
                some false
            else
              some false
      else
        some true) : Option Bool).bind fun z5 =>
  if z5 = true then
    qlt (jMd_bad M3) fun M6 =>
    some M6
  else
    qlt (qI M3 91 3 ((M3.1 91 3) + 1)) fun M7 =>
    qlt ((
      if (b2i z4 : Int32) = (0 : Int32) then
        106
      else
        105) : Nat) fun a8 =>
    ((
      if (b2i z4 : Int32) = (0 : Int32) then
        (qrI M7 103 5 p0).bind fun v48 =>
        some (4 * ((6 * p0) + v48))
      else
        (qrI M7 102 5 p0).bind fun v49 =>
        some (4 * ((4 * p0) + v49))) : Option Int32).bind fun x9 =>
    (qlp (σ := (Int32 × qM)) (ρ := qM) (
      fun q => qu2 q fun x10 M11 =>
      if (4 : Int32) ≤ (x10 : Int32) then
        some (.inr M11)
      else
        (qwI M11 a8 (q_al a8) (x9 + x10) (jMd_usual z4 x10)).bind fun M46 =>
        qlt (x10 + 1 : Int32) fun x47 =>
        some (.inl (x47, M46))) (0, M7)).bind fun M12 =>
    (qlp (σ := (Int32 × qM)) (ρ := qM) (
      fun q => qu2 q fun x14 M15 =>
      if (M15.1 91 4 : Int32) = ((-1) : Int32) then
        (jMd_look M15).bind fun w34 =>
        qu2 w34 fun r35 M36 =>
        if ((jMd_numberOf z4 r35) : Int32) = ((-1) : Int32) then
          some (.inr M36)
        else
          (jMd_here M36).bind fun r37 =>
          if (b2i (jMd_has x14 (jMd_numberOf z4 r37)) : Int32) = (0 : Int32) then
            (jMd_here M36).bind fun r38 =>
            qlt ((jMd_numberOf z4 r38) : Int32) fun x39 =>
            qlt (x14 ||| (1 <<< (x39 &&& 31)) : Int32) fun x40 =>
            qlt (qI M36 91 3 ((M36.1 91 3) + 1)) fun M41 =>
            (jMd_number (jMd_lowest z4 x39) (jMd_highest z4 x39) M41).bind fun w42 =>
            qu2 w42 fun r43 M44 =>
            (qwI M44 a8 (q_al a8) (x9 + x39) r43).bind fun M45 =>
            some (.inl (x40, M45))
          else
            some (.inr M36)
      else
        some (.inr M15)) (0, M12)).bind fun M16 =>
    (qrI M16 102 5 p0).bind fun v18 =>
    qlt ((
      if (b2i z4 : Int32) = (0 : Int32) then
        false
      else
        true) : Bool) fun z19 =>
    (qwI M16 102 5 p0 (v18 + (b2i z19))).bind fun M20 =>
    (qrI M20 103 5 p0).bind fun v21 =>
    qlt ((
      if (b2i z4 : Int32) = (0 : Int32) then
        true
      else
        false) : Bool) fun z22 =>
    (qwI M20 103 5 p0 (v21 + (b2i z22))).bind fun M23 =>
    (qrI M23 104 5 p0).bind fun v24 =>
    ((
      if (b2i z4 : Int32) = (0 : Int32) then
        (qrI M23 a8 (q_al a8) x9).bind fun v33 =>
        some v33
      else
        some 0) : Option Int32).bind fun x25 =>
    (qwI M23 104 5 p0 (v24 + x25)).bind fun M26 =>
    (jMd_look M26).bind fun w27 =>
    qu2 w27 fun r28 M29 =>
    (qrI M29 104 5 p0).bind fun v30 =>
    qlt ((
      if (v30 : Int32) ≤ (20 : Int32) then
        M29
      else
        qlt (jMd_bad M29) fun M32 =>
        M32) : qM) fun M31 =>
    some M31

noncomputable def jMd_readVillage (p0 : Int32) (M : qM) : Option (Int32 × qM) :=
  qlt (qI M 91 3 0) fun M1 =>
  qlt (qI M1 91 4 (-1)) fun M2 =>
  (qwI M2 102 5 p0 0).bind fun M3 =>
  (qwI M3 103 5 p0 0).bind fun M4 =>
  (qwI M4 104 5 p0 0).bind fun M5 =>
  (jMd_part p0 M5).bind fun M6 =>
  (qlp (σ := (Int32 × qM)) (ρ := qM) (
    fun q => qu2 q fun x7 M8 =>
    if (M8.1 91 4 : Int32) = ((-1) : Int32) then
      (jMd_look M8).bind fun w19 =>
      qu2 w19 fun r20 M21 =>
      if (r20 : Int32) = (59 : Int32) then
        if (10 : Int32) ≤ (x7 : Int32) then
          some (.inr M21)
        else
          qlt (qI M21 91 3 ((M21.1 91 3) + 1)) fun M22 =>
          (jMd_part p0 M22).bind fun M23 =>
          qlt (x7 + 1 : Int32) fun x24 =>
          some (.inl (x24, M23))
      else
        some (.inr M21)
    else
      some (.inr M8)) (1, M6)).bind fun M9 =>
  ((
    if (M9.1 91 4 : Int32) = ((-1) : Int32) then
      (jMd_look M9).bind fun w12 =>
      qu2 w12 fun r13 M14 =>
      ((
        if (r13 : Int32) = ((-1) : Int32) then
          (qrI M14 102 5 p0).bind fun v17 =>
          if (v17 : Int32) = (0 : Int32) then
            some true
          else
            (qrI M14 103 5 p0).bind fun v18 =>
            if (v18 : Int32) = (0 : Int32) then
              some true
            else
              some false
        else
          some true) : Option Bool).bind fun z15 =>
      if z15 = true then
        qlt (jMd_bad M14) fun M16 =>
        some M16
      else
        some M14
    else
      some M9) : Option qM).bind fun M11 =>
  some (M11.1 91 4, M11)

noncomputable def jMd_fault (p0 : Int32) (M : qM) : Option (Int32 × qM) :=
  ((
    if (p0 : Int32) = (0 : Int32) then
      (jMd_readVillage 4 M).bind fun w7 =>
      qu2 w7 fun r8 M9 =>
      some (r8, M9)
    else
      if (p0 : Int32) = (1 : Int32) then
        (jMd_readWay 6 M).bind fun w4 =>
        qu2 w4 fun r5 M6 =>
        some (r5, M6)
      else
        some ((-2), M)) : Option (Int32 × qM)).bind fun w3 =>
  qu2 w3 fun x1 M2 =>
  some (x1, M2)

noncomputable def jMd_text (p0 : Int32) (M : qM) : Option (Int32 × qM) :=
  qlt ((
    if (p0 : Int32) = (0 : Int32) then
      if (4 : Int32) ≤ (M.1 91 22 : Int32) then
        false
      else
        true
    else
      false) : Bool) fun z1 =>
  if z1 = true then
    (jMd_readVillage (M.1 91 22) M).bind fun w2 =>
    qu2 w2 fun r3 M4 =>
    if (r3 : Int32) = ((-1) : Int32) then
      qlt (qI M4 91 2 0) fun M10 =>
      qlt (qI M10 91 22 ((M10.1 91 22) + 1)) fun M11 =>
      some ((M11.1 91 22) - 1, M11)
    else
      if (p0 : Int32) = (1 : Int32) then
        if (6 : Int32) ≤ (M4.1 91 13 : Int32) then
          some ((-1), M4)
        else
          (jMd_readWay (M4.1 91 13) M4).bind fun w5 =>
          qu2 w5 fun r6 M7 =>
          if (r6 : Int32) = ((-1) : Int32) then
            qlt (qI M7 91 2 0) fun M8 =>
            qlt (qI M8 91 13 ((M8.1 91 13) + 1)) fun M9 =>
            some ((M9.1 91 13) - 1, M9)
          else
            some ((-1), M7)
      else
        some ((-1), M4)
  else
    if (p0 : Int32) = (1 : Int32) then
      if (6 : Int32) ≤ (M.1 91 13 : Int32) then
        some ((-1), M)
      else
        (jMd_readWay (M.1 91 13) M).bind fun w12 =>
        qu2 w12 fun r13 M14 =>
        if (r13 : Int32) = ((-1) : Int32) then
          qlt (qI M14 91 2 0) fun M15 =>
          qlt (qI M15 91 13 ((M15.1 91 13) + 1)) fun M16 =>
          some ((M16.1 91 13) - 1, M16)
        else
          some ((-1), M14)
    else
      some ((-1), M)

noncomputable def jMd_isVillage (p0 : Int32) (M : qM) : Bool :=
  (jMd_in p0 0 ((M.1 91 22) - 1))

noncomputable def jMd_isThing (p0 : Int32) (p1 : Int32) (M : qM) : Option Bool :=
  ((
    if (b2i (jMd_isVillage p0 M) : Int32) = (0 : Int32) then
      some false
    else
      (qrI M 102 5 p0).bind fun v2 =>
      if (b2i (jMd_in p1 0 (v2 - 1)) : Int32) = (0 : Int32) then
        some false
      else
        some true) : Option Bool).bind fun z1 =>
  some z1

noncomputable def jMd_village (p0 : Int32) (p1 : Int32) (M : qM) : Option (Int32 × qM) :=
  qlt ((
    if (b2i (jMd_isVillage p0 M) : Int32) = (0 : Int32) then
      true
    else
      if (b2i (jMd_in p1 0 2) : Int32) = (0 : Int32) then
        true
      else
        false) : Bool) fun z1 =>
  qlt (qI M 91 0 (b2i z1)) fun M2 =>
  ((
    if (M2.1 91 0 : Int32) = (1 : Int32) then
      some 0
    else
      if (p1 : Int32) = (0 : Int32) then
        (qrI M2 102 5 p0).bind fun v6 =>
        some v6
      else
        if (p1 : Int32) = (1 : Int32) then
          (qrI M2 103 5 p0).bind fun v5 =>
          some v5
        else
          (qrI M2 104 5 p0).bind fun v4 =>
          some v4) : Option Int32).bind fun x3 =>
  some (x3, M2)

noncomputable def jMd_thingAt (p0 : Int32) (p1 : Int32) (p2 : Int32) (M : qM) : Option Int32 :=
  (qrI M 105 80 ((4 * ((4 * p0) + p1)) + p2)).bind fun v1 =>
  some v1

noncomputable def jMd_sortAt (p0 : Int32) (p1 : Int32) (p2 : Int32) (M : qM) : Option Int32 :=
  (qrI M 106 120 ((4 * ((6 * p0) + p1)) + p2)).bind fun v1 =>
  some v1

noncomputable def jMd_thing (p0 : Int32) (p1 : Int32) (p2 : Int32) (M : qM) : Option Int32 :=
  (jMd_isThing p0 p1 M).bind fun r1 =>
  ((
    if (b2i r1 : Int32) = (0 : Int32) then
      some (-1)
    else
      if (b2i (jMd_in p2 0 3) : Int32) = (0 : Int32) then
        some (-1)
      else
        (jMd_thingAt p0 p1 p2 M).bind fun r3 =>
        some r3) : Option Int32).bind fun x2 =>
  some x2

noncomputable def jMd_sort (p0 : Int32) (p1 : Int32) (p2 : Int32) (M : qM) : Option Int32 :=
  ((
    if (b2i (jMd_isVillage p0 M) : Int32) = (0 : Int32) then
      some (-1)
    else
      (qrI M 103 5 p0).bind fun v2 =>
      if (b2i (jMd_in p1 0 (v2 - 1)) : Int32) = (0 : Int32) then
        some (-1)
      else
        if (b2i (jMd_in p2 0 3) : Int32) = (0 : Int32) then
          some (-1)
        else
          (jMd_sortAt p0 p1 p2 M).bind fun r3 =>
          some r3) : Option Int32).bind fun x1 =>
  some x1

noncomputable def jMd_sortOf (p0 : Int32) (p1 : Int32) (M : qM) : Option Int32 :=
  (qlp (σ := (Int32 × Int32)) (ρ := Int32) (
    fun q => qu2 q fun x1 x2 =>
    (jMd_sortAt p0 x2 0 M).bind fun r5 =>
    if (x1 : Int32) < (r5 : Int32) then
      some (.inr x2)
    else
      (jMd_sortAt p0 x2 0 M).bind fun r6 =>
      qlt (x1 - r6 : Int32) fun x7 =>
      qlt (x2 + 1 : Int32) fun x8 =>
      some (.inl (x7, x8))) (p1, 0)).bind fun x3 =>
  some x3

noncomputable def jMd_of (p0 : Int32) (p1 : Int32) (M : qM) : Option Int32 :=
  ((
    if (b2i (jMd_isVillage p0 M) : Int32) = (0 : Int32) then
      some (-1)
    else
      (qrI M 104 5 p0).bind fun v2 =>
      if (b2i (jMd_in p1 0 (v2 - 1)) : Int32) = (0 : Int32) then
        some (-1)
      else
        (jMd_sortOf p0 p1 M).bind fun r3 =>
        some r3) : Option Int32).bind fun x1 =>
  some x1

noncomputable def jMd_way (p0 : Int32) (p1 : Int32) (M : qM) : Option (Bool × qM) :=
  if (b2i (jMd_in p0 0 5) : Int32) = (0 : Int32) then
    some (false, M)
  else
    if (b2i (jMd_in p1 0 5) : Int32) = (0 : Int32) then
      some (false, M)
    else
      (qwI M 107 6 p0 p1).bind fun M1 =>
      some (true, M1)

noncomputable def jMd_begin (p0 : Int64) (M : qM) : Option qM :=
  (qlp (σ := (Int32 × qM)) (ρ := qM) (
    fun q => qu2 q fun x1 M2 =>
    if (20 : Int32) ≤ (x1 : Int32) then
      some (.inr M2)
    else
      (qwI M2 108 20 x1 (-1)).bind fun M9 =>
      (qwI M9 109 20 x1 (-1)).bind fun M10 =>
      (qwI M10 110 20 x1 (-1)).bind fun M11 =>
      qlt (x1 + 1 : Int32) fun x12 =>
      some (.inl (x12, M11))) (0, M)).bind fun M3 =>
  qlt (qI M3 91 30 0) fun M5 =>
  qlt (qI M5 91 31 0) fun M6 =>
  qlt (qI M6 91 34 0) fun M7 =>
  qlt (qJ M7 91 35 p0) fun M8 =>
  some M8

noncomputable def jMd_places (M : qM) : Option Int32 :=
  (jMd_thingAt (M.1 91 27) (M.1 91 28) 1 M).bind fun r1 =>
  some r1

noncomputable def jMd_many (M : qM) : Option Int32 :=
  (qrI M 104 5 (M.1 91 27)).bind fun v1 =>
  some v1

noncomputable def jMd_had (M : qM) : Option Int32 :=
  (jMd_places M).bind fun r1 =>
  some (jmaxI 0 (jminI r1 (((M.1 91 31) - (M.1 91 32)) + 1)))

noncomputable def jMd_comes (p0 : Int32) (M : qM) : Option qM :=
  qlt (qI M 91 31 ((M.1 91 31) + 1)) fun M1 =>
  (qwI M1 109 20 p0 (M1.1 91 30)).bind fun M2 =>
  (qwI M2 110 20 p0 (M2.1 91 31)).bind fun M3 =>
  some M3

noncomputable def jMd_isWaiting (p0 : Int32) (M : qM) : Option Bool :=
  (qrI M 108 20 p0).bind fun v1 =>
  qlt ((
    if (v1 : Int32) = ((-1) : Int32) then
      true
    else
      false) : Bool) fun z2 =>
  some z2

noncomputable def jMd_isOnWay (p0 : Int32) (M : qM) : Option Bool :=
  (qrI M 108 20 p0).bind fun v1 =>
  ((
    if (v1 : Int32) = ((-1) : Int32) then
      some false
    else
      (qrI M 109 20 p0).bind fun v3 =>
      if (v3 : Int32) = ((-1) : Int32) then
        some true
      else
        some false) : Option Bool).bind fun z2 =>
  some z2

noncomputable def jMd_waiting (p0 : Int32) (p1 : Int32) (M : qM) : Option Int32 :=
  (qlp (σ := (Int32 × Int32)) (ρ := Int32) (
    fun q => qu2 q fun x1 x2 =>
    (jMd_many M).bind fun r5 =>
    if (r5 : Int32) ≤ (x2 : Int32) then
      some (.inr x1)
    else
      ((
        if (x2 : Int32) = (p0 : Int32) then
          some false
        else
          (jMd_isWaiting x2 M).bind fun r9 =>
          if (b2i r9 : Int32) = (0 : Int32) then
            some false
          else
            if (p1 : Int32) = ((-1) : Int32) then
              some true
            else
              (jMd_sortOf (M.1 91 27) x2 M).bind fun r10 =>
              if (r10 : Int32) = (p1 : Int32) then
                some true
              else
                some false) : Option Bool).bind fun z6 =>
      qlt (x1 + (b2i z6) : Int32) fun x7 =>
      qlt (x2 + 1 : Int32) fun x8 =>
      some (.inl (x7, x8))) (0, 0)).bind fun x3 =>
  some x3

noncomputable def jMd_onWay (M : qM) : Option Int32 :=
  (qlp (σ := (Int32 × Int32)) (ρ := Int32) (
    fun q => qu2 q fun x1 x2 =>
    (jMd_many M).bind fun r5 =>
    if (r5 : Int32) ≤ (x2 : Int32) then
      some (.inr x1)
    else
      (jMd_isOnWay x2 M).bind fun r6 =>
      qlt ((
        if (b2i r6 : Int32) = (0 : Int32) then
          false
        else
          true) : Bool) fun z7 =>
      qlt (x1 + (b2i z7) : Int32) fun x8 =>
      qlt (x2 + 1 : Int32) fun x9 =>
      some (.inl (x8, x9))) (0, 0)).bind fun x3 =>
  some x3

noncomputable def jMd_draw (M : qM) : Int32 × qM :=
  qlt (qJ M 91 35 (((M.2.1 91 35) * 6364136223846793005) + 1442695040888963407)) fun M1 =>
  (((((((M1.2.1 91 35) : Int64).toUInt64 >>> ((33 : Int32).toInt64.toUInt64 &&& Int64.toUInt64 63)).toInt64) - ((((M1.2.1 91 35) : Int64).toUInt64 >>> ((33 : Int32).toInt64.toUInt64 &&& Int64.toUInt64 63)).toInt64) / 10 * 10) : Int64).toInt32, M1)

noncomputable def jMd_goesNow (p0 : Int32) (M : qM) : Option (Bool × qM) :=
  (jMd_sortOf (M.1 91 27) p0 M).bind fun r1 =>
  if (b2i (jMd_has (M.1 91 36) p0) : Int32) = (0 : Int32) then
    (jMd_sortAt (M.1 91 27) r1 3 M).bind fun r2 =>
    if (r2 : Int32) = (0 : Int32) then
      some (true, M)
    else
      if (r1 : Int32) = (M.1 91 37 : Int32) then
        some (true, M)
      else
        qlt (jMd_draw M) fun w3 =>
        qu2 w3 fun r4 M5 =>
        (qrI M5 107 6 r1).bind fun v6 =>
        if (v6 : Int32) < (M5.1 91 13 : Int32) then
          (qwI M5 100 8 0 (M5.1 91 30)).bind fun M7 =>
          (qwI M7 100 8 1 (M7.1 91 31)).bind fun M8 =>
          ((
            if (M8.1 91 29 : Int32) = (1 : Int32) then
              (jMd_onWay M8).bind fun r26 =>
              some r26
            else
              some 0) : Option Int32).bind fun x9 =>
          (qwI M8 100 8 2 x9).bind fun M10 =>
          (qwI M10 100 8 3 (M10.1 91 32)).bind fun M11 =>
          (jMd_waiting p0 r1 M11).bind fun r12 =>
          (qwI M11 100 8 4 r12).bind fun M13 =>
          (jMd_waiting p0 (-1) M13).bind fun r14 =>
          (qwI M13 100 8 5 r14).bind fun M15 =>
          (jMd_thingAt (M15.1 91 27) (M15.1 91 28) 2 M15).bind fun r16 =>
          (jMd_thingAt (M15.1 91 27) (M15.1 91 28) 3 M15).bind fun r17 =>
          (qwI M15 100 8 6 (jmaxI 0 (r16 - (r17 * (M15.1 91 30))))).bind fun M18 =>
          (jMd_sortAt (M18.1 91 27) r1 2 M18).bind fun r19 =>
          (qwI M18 100 8 7 r19).bind fun M20 =>
          (qrI M20 107 6 r1).bind fun v21 =>
          (jMd_worthOf v21 M20).bind fun w22 =>
          qu2 w22 fun r23 M24 =>
          qlt ((
            if (r23 : Int32) ≤ (r4 : Int32) then
              false
            else
              true) : Bool) fun z25 =>
          some (z25, M24)
        else
          some (false, M5)
  else
    some (true, M)

noncomputable def jMd_minuteOnce (M : qM) : Option (Bool × qM) :=
  (qlp (σ := (Int32 × qM)) (ρ := qM) (
    fun q => qu2 q fun x1 M2 =>
    (jMd_many M2).bind fun r31 =>
    if (r31 : Int32) ≤ (x1 : Int32) then
      some (.inr M2)
    else
      (jMd_isOnWay x1 M2).bind fun r32 =>
      ((
        if (b2i r32 : Int32) = (0 : Int32) then
          some M2
        else
          (qrI M2 108 20 x1).bind fun v35 =>
          (jMd_sortOf (M2.1 91 27) x1 M2).bind fun r36 =>
          (jMd_sortAt (M2.1 91 27) r36 1 M2).bind fun r37 =>
          if (v35 + r37 : Int32) = (M2.1 91 30 : Int32) then
            (jMd_comes x1 M2).bind fun M38 =>
            some M38
          else
            some M2) : Option qM).bind fun M33 =>
      qlt (x1 + 1 : Int32) fun x34 =>
      some (.inl (x34, M33))) (0, M)).bind fun M3 =>
  (jMd_had M3).bind fun r5 =>
  (jMd_places M3).bind fun r6 =>
  ((
    if (r5 : Int32) = (r6 : Int32) then
      some true
    else
      (jMd_waiting (-1) (-1) M3).bind fun r29 =>
      (jMd_onWay M3).bind fun r30 =>
      if (r29 + r30 : Int32) = (0 : Int32) then
        some true
      else
        some false) : Option Bool).bind fun z7 =>
  qlt (qI M3 91 34 (b2i z7)) fun M8 =>
  if (M8.1 91 34 : Int32) = (0 : Int32) then
    (qlp (σ := (Int32 × qM)) (ρ := qM) (
      fun q => qu2 q fun x9 M10 =>
      (jMd_many M10).bind fun r16 =>
      if (r16 : Int32) ≤ (x9 : Int32) then
        some (.inr M10)
      else
        (jMd_isWaiting x9 M10).bind fun r17 =>
        ((
          if (b2i r17 : Int32) = (0 : Int32) then
            some M10
          else
            (jMd_had M10).bind fun r20 =>
            (jMd_places M10).bind fun r21 =>
            if (r21 : Int32) ≤ (r20 : Int32) then
              some M10
            else
              (jMd_goesNow x9 M10).bind fun w22 =>
              qu2 w22 fun r23 M24 =>
              if (b2i r23 : Int32) = (0 : Int32) then
                some M24
              else
                (qwI M24 108 20 x9 (M24.1 91 30)).bind fun M25 =>
                (jMd_sortOf (M25.1 91 27) x9 M25).bind fun r26 =>
                (jMd_sortAt (M25.1 91 27) r26 1 M25).bind fun r27 =>
                if (r27 : Int32) = (0 : Int32) then
                  (jMd_comes x9 M25).bind fun M28 =>
                  some M28
                else
                  some M25) : Option qM).bind fun M18 =>
        qlt (x9 + 1 : Int32) fun x19 =>
        some (.inl (x19, M18))) (0, M8)).bind fun M11 =>
    qlt (qI M11 91 30 ((M11.1 91 30) + 1)) fun M13 =>
    qlt ((
      if (M13.1 91 30 : Int32) ≤ (60 : Int32) then
        false
      else
        true) : Bool) fun z14 =>
    qlt (qI M13 91 34 (b2i z14)) fun M15 =>
    some (true, M15)
  else
    some (false, M8)

noncomputable def jMd_whole (p0 : Int64) (M : qM) : Option qM :=
  (jMd_begin p0 M).bind fun M1 =>
  (qlp (σ := qM) (ρ := qM) (
    fun M2 =>
    if (M2.1 91 34 : Int32) = (0 : Int32) then
      (jMd_minuteOnce M2).bind fun w5 =>
      qu2 w5 fun r6 M7 =>
      some (.inl M7)
    else
      some (.inr M2)) M1).bind fun M3 =>
  some M3

noncomputable def jMd_start (p0 : Int32) (p1 : Int32) (p2 : Int32) (p3 : Int64) (M : qM) : Option (Bool × qM) :=
  (jMd_isThing p0 p1 M).bind fun r1 =>
  if (b2i r1 : Int32) = (0 : Int32) then
    some (false, M)
  else
    if (b2i (jMd_in p2 0 1) : Int32) = (0 : Int32) then
      some (false, M)
    else
      qlt (qI M 91 27 p0) fun M2 =>
      qlt (qI M2 91 28 p1) fun M3 =>
      qlt (qI M3 91 29 p2) fun M4 =>
      (jMd_thingAt p0 p1 0 M4).bind fun r5 =>
      qlt (qI M4 91 32 r5) fun M6 =>
      qlt (qI M6 91 33 1) fun M7 =>
      (jMd_begin p3 M7).bind fun M8 =>
      some (true, M8)

noncomputable def jMd_minutes (p0 : Int32) (M : qM) : Option (Int32 × qM) :=
  if (M.1 91 33 : Int32) = (0 : Int32) then
    some ((-1), M)
  else
    if (b2i (jMd_in p0 1 61) : Int32) = (0 : Int32) then
      some ((-1), M)
    else
      (qlp (σ := (Int32 × qM)) (ρ := (Int32 × qM)) (
        fun q => qu2 q fun x1 M2 =>
        if (p0 : Int32) ≤ (x1 : Int32) then
          some (.inr (x1, M2))
        else
          if (M2.1 91 34 : Int32) = (0 : Int32) then
            (jMd_minuteOnce M2).bind fun w6 =>
            qu2 w6 fun r7 M8 =>
            qlt ((
              if (b2i r7 : Int32) = (0 : Int32) then
                false
              else
                true) : Bool) fun z9 =>
            qlt (x1 + (b2i z9) : Int32) fun x10 =>
            some (.inl (x10, M8))
          else
            some (.inr (x1, M2))) (0, M)).bind fun r5 =>
      qu2 r5 fun x3 M4 =>
      some (x3, M4)

noncomputable def jMd_hasPlace (p0 : Int32) (M : qM) : Option Bool :=
  (qrI M 110 20 p0).bind fun v1 =>
  ((
    if (v1 : Int32) = ((-1) : Int32) then
      some false
    else
      (qrI M 110 20 p0).bind fun v3 =>
      (jMd_places M).bind fun r4 =>
      if (b2i (jMd_in v3 (M.1 91 32) (((M.1 91 32) + r4) - 1)) : Int32) = (0 : Int32) then
        some false
      else
        some true) : Option Bool).bind fun z2 =>
  some z2

noncomputable def jMd_gain (p0 : Int32) (M : qM) : Option Int32 :=
  (qrI M 108 20 p0).bind fun v1 =>
  ((
    if (v1 : Int32) = ((-1) : Int32) then
      some (M.1 91 30)
    else
      (qrI M 108 20 p0).bind fun v12 =>
      some v12) : Option Int32).bind fun x2 =>
  (jMd_sortOf (M.1 91 27) p0 M).bind fun r3 =>
  (jMd_sortAt (M.1 91 27) r3 2 M).bind fun r4 =>
  qlt (r4 * x2 : Int32) fun x5 =>
  (jMd_thingAt (M.1 91 27) (M.1 91 28) 2 M).bind fun r6 =>
  (jMd_thingAt (M.1 91 27) (M.1 91 28) 3 M).bind fun r7 =>
  (qrI M 109 20 p0).bind fun v8 =>
  qlt (r6 - (r7 * v8) : Int32) fun x9 =>
  (jMd_hasPlace p0 M).bind fun r10 =>
  qlt ((
    if (b2i r10 : Int32) = (0 : Int32) then
      0
    else
      jmaxI 0 x9) : Int32) fun x11 =>
  some (x11 - x5)

noncomputable def jMd_isPerson (p0 : Int32) (M : qM) : Option Bool :=
  ((
    if (M.1 91 33 : Int32) = (0 : Int32) then
      some false
    else
      (jMd_many M).bind fun r2 =>
      if (b2i (jMd_in p0 0 (r2 - 1)) : Int32) = (0 : Int32) then
        some false
      else
        some true) : Option Bool).bind fun z1 =>
  some z1

noncomputable def jMd_who (p0 : Int32) (p1 : Int32) (M : qM) : Option Int32 :=
  (jMd_isPerson p0 M).bind fun r1 =>
  if (b2i r1 : Int32) = (0 : Int32) then
    some (-1000000)
  else
    if (p1 : Int32) = 0 then
      (jMd_isWaiting p0 M).bind fun r2 =>
      ((
        if (b2i r2 : Int32) = (0 : Int32) then
          (jMd_isOnWay p0 M).bind fun r4 =>
          if (b2i r4 : Int32) = (0 : Int32) then
            some 2
          else
            some 1
        else
          some 0) : Option Int32).bind fun x3 =>
      some x3
    else
      if (p1 : Int32) = 1 then
        (qrI M 108 20 p0).bind fun v5 =>
        some v5
      else
        if (p1 : Int32) = 2 then
          (qrI M 109 20 p0).bind fun v6 =>
          some v6
        else
          if (p1 : Int32) = 3 then
            (qrI M 110 20 p0).bind fun v7 =>
            some v7
          else
            if (p1 : Int32) = 4 then
              (jMd_hasPlace p0 M).bind fun r8 =>
              qlt ((
                if (b2i r8 : Int32) = (0 : Int32) then
                  false
                else
                  true) : Bool) fun z9 =>
              some (b2i z9)
            else
              if (p1 : Int32) = 5 then
                (jMd_gain p0 M).bind fun r10 =>
                some r10
              else
                some (-1000000)

noncomputable def jMd_fullAt (M : qM) : Option Int32 :=
  (qlp (σ := Int32) (ρ := (Int32 ⊕ Unit)) (
    fun x1 =>
    (jMd_many M).bind fun r5 =>
    if (r5 : Int32) ≤ (x1 : Int32) then
      some (.inr (.inr ()))
    else
      (qrI M 110 20 x1).bind fun v6 =>
      (jMd_places M).bind fun r7 =>
      if (v6 : Int32) = (((M.1 91 32) + r7) - 1 : Int32) then
        some (.inr (.inl x1))
      else
        qlt (x1 + 1 : Int32) fun x8 =>
        some (.inl x8)) 0).bind fun r3 =>
  qse r3 (fun x2 =>
    (qrI M 109 20 x2).bind fun v4 =>
    some v4) (fun r3 =>
    some (-1))

noncomputable def jMd_lastWho (M : qM) : Option Int32 :=
  (qlp (σ := (Int32 × Int32)) (ρ := Int32) (
    fun q => qu2 q fun x1 x2 =>
    (jMd_many M).bind fun r5 =>
    if (r5 : Int32) ≤ (x2 : Int32) then
      some (.inr x1)
    else
      (jMd_hasPlace x2 M).bind fun r6 =>
      ((
        if (b2i r6 : Int32) = (0 : Int32) then
          some x1
        else
          if (x1 : Int32) = ((-1) : Int32) then
            some x2
          else
            (qrI M 110 20 x2).bind fun v9 =>
            (qrI M 110 20 x1).bind fun v10 =>
            if (v9 : Int32) ≤ (v10 : Int32) then
              some x1
            else
              some x2) : Option Int32).bind fun x7 =>
      qlt (x2 + 1 : Int32) fun x8 =>
      some (.inl (x7, x8))) ((-1), 0)).bind fun x3 =>
  some x3

noncomputable def jMd_about (p0 : Int32) (M : qM) : Option Int32 :=
  if (M.1 91 33 : Int32) = (0 : Int32) then
    some (-1000000)
  else
    if (p0 : Int32) = 0 then
      some (M.1 91 30)
    else
      if (p0 : Int32) = 1 then
        some (M.1 91 31)
      else
        if (p0 : Int32) = 2 then
          (jMd_waiting (-1) (-1) M).bind fun r1 =>
          some r1
        else
          if (p0 : Int32) = 3 then
            (jMd_onWay M).bind fun r2 =>
            some r2
          else
            if (p0 : Int32) = 4 then
              (jMd_had M).bind fun r3 =>
              some r3
            else
              if (p0 : Int32) = 5 then
                qlt ((
                  if (M.1 91 34 : Int32) = (0 : Int32) then
                    false
                  else
                    true) : Bool) fun z4 =>
                some (b2i z4)
              else
                if (p0 : Int32) = 6 then
                  (jMd_fullAt M).bind fun r5 =>
                  some r5
                else
                  if (p0 : Int32) = 7 then
                    (jMd_lastWho M).bind fun r6 =>
                    some r6
                  else
                    some (-1000000)

noncomputable def jMd_keepTo (p0 : Nat) (M : qM) : Option qM :=
  (qlp (σ := (Int32 × qM)) (ρ := qM) (
    fun q => qu2 q fun x1 M2 =>
    if (20 : Int32) ≤ (x1 : Int32) then
      some (.inr M2)
    else
      (qrI M2 108 20 x1).bind fun v5 =>
      (qwI M2 p0 60 x1 v5).bind fun M6 =>
      (qrI M6 109 20 x1).bind fun v7 =>
      (qwI M6 p0 60 (20 + x1) v7).bind fun M8 =>
      (qrI M8 110 20 x1).bind fun v9 =>
      (qwI M8 p0 60 (40 + x1) v9).bind fun M10 =>
      qlt (x1 + 1 : Int32) fun x11 =>
      some (.inl (x11, M10))) (0, M)).bind fun M3 =>
  some M3

noncomputable def jMd_takeFrom (p0 : Nat) (M : qM) : Option qM :=
  (qlp (σ := (Int32 × qM)) (ρ := qM) (
    fun q => qu2 q fun x1 M2 =>
    if (20 : Int32) ≤ (x1 : Int32) then
      some (.inr M2)
    else
      (qrI M2 p0 60 x1).bind fun v5 =>
      (qwI M2 108 20 x1 v5).bind fun M6 =>
      (qrI M6 p0 60 (20 + x1)).bind fun v7 =>
      (qwI M6 109 20 x1 v7).bind fun M8 =>
      (qrI M8 p0 60 (40 + x1)).bind fun v9 =>
      (qwI M8 110 20 x1 v9).bind fun M10 =>
      qlt (x1 + 1 : Int32) fun x11 =>
      some (.inl (x11, M10))) (0, M)).bind fun M3 =>
  some M3

noncomputable def jMd_putAside (M : qM) : Option qM :=
  (jMd_keepTo 111 M).bind fun M1 =>
  qlt (qI M1 91 39 (M1.1 91 30)) fun M2 =>
  qlt (qI M2 91 40 (M2.1 91 31)) fun M3 =>
  (qtb (M3.1 91 34)).bind fun b4 =>
  qlt (qI M3 91 41 (M3.1 91 34)) fun M5 =>
  qlt (qJ M5 91 42 (M5.2.1 91 35)) fun M6 =>
  some M6

noncomputable def jMd_takeBack (M : qM) : Option qM :=
  (jMd_takeFrom 111 M).bind fun M1 =>
  qlt (qI M1 91 30 (M1.1 91 39)) fun M2 =>
  qlt (qI M2 91 31 (M2.1 91 40)) fun M3 =>
  (qtb (M3.1 91 41)).bind fun b4 =>
  qlt (qI M3 91 34 (M3.1 91 41)) fun M5 =>
  qlt (qJ M5 91 35 (M5.2.1 91 42)) fun M6 =>
  (jMd_thingAt (M6.1 91 27) (M6.1 91 28) 0 M6).bind fun r7 =>
  qlt (qI M6 91 32 r7) fun M8 =>
  qlt (qI M8 91 36 0) fun M9 =>
  qlt (qI M9 91 37 (-1)) fun M10 =>
  some M10

noncomputable def jMd_areSeeds (p0 : Int32) : Bool :=
  (jMd_in p0 1 40)

noncomputable def jMd_allAtOnce (M : qM) : Option Bool :=
  (qlp (σ := Int32) (ρ := (Unit ⊕ Unit)) (
    fun x1 =>
    (jMd_many M).bind fun r3 =>
    if (r3 : Int32) ≤ (x1 : Int32) then
      some (.inr (.inr ()))
    else
      (qrI M 108 20 x1).bind fun v4 =>
      if (v4 : Int32) = (0 : Int32) then
        qlt (x1 + 1 : Int32) fun x5 =>
        some (.inl x5)
      else
        some (.inr (.inl ()))) 0).bind fun r2 =>
  qse r2 (fun r2 =>
    some false) (fun r2 =>
    some true)

noncomputable def jMd_over (p0 : Int32) (p1 : Int32) (p2 : Int32) (M : qM) : Option (Int32 × qM) :=
  (qlp (σ := (Int32 × Int32 × qM)) (ρ := (Int32 × qM)) (
    fun q => qu3 q fun x1 x2 M3 =>
    if (p0 : Int32) ≤ (x2 : Int32) then
      some (.inr (x1, M3))
    else
      (jMd_whole ((x2 : Int32).toInt64) M3).bind fun M7 =>
      (jMd_fullAt M7).bind fun r8 =>
      ((
        if (p2 : Int32) = (0 : Int32) then
          (jMd_hasPlace p1 M7).bind fun r14 =>
          if (b2i r14 : Int32) = (0 : Int32) then
            some 0
          else
            some 1
        else
          if (p2 : Int32) = (1 : Int32) then
            (jMd_gain p1 M7).bind fun r13 =>
            some r13
          else
            if (p2 : Int32) = (2 : Int32) then
              if (r8 : Int32) = ((-1) : Int32) then
                some 60
              else
                some r8
            else
              (jMd_allAtOnce M7).bind fun r12 =>
              if (b2i r12 : Int32) = (0 : Int32) then
                some 0
              else
                some 1) : Option Int32).bind fun x9 =>
      qlt (x1 + x9 : Int32) fun x10 =>
      qlt (x2 + 1 : Int32) fun x11 =>
      some (.inl (x10, x11, M7))) (0, 0, M)).bind fun r6 =>
  qu2 r6 fun x4 M5 =>
  some (x4, M5)

noncomputable def jMd_odds (p0 : Int32) (p1 : Int32) (p2 : Int32) (M : qM) : Option (Int32 × qM) :=
  (jMd_isPerson p0 M).bind fun r1 =>
  if (b2i r1 : Int32) = (0 : Int32) then
    some ((-1000000), M)
  else
    if (b2i (jMd_areSeeds p1) : Int32) = (0 : Int32) then
      some ((-1000000), M)
    else
      if (b2i (jMd_in p2 0 1) : Int32) = (0 : Int32) then
        some ((-1000000), M)
      else
        (jMd_putAside M).bind fun M2 =>
        (jMd_over p1 p0 p2 M2).bind fun w3 =>
        qu2 w3 fun r4 M5 =>
        (jMd_takeBack M5).bind fun M6 =>
        some (r4, M6)

noncomputable def jMd_law (p0 : Int32) (p1 : Int32) (M : qM) : Option (Int32 × qM) :=
  qlt ((
    if (M.1 91 33 : Int32) = (0 : Int32) then
      true
    else
      if (b2i (jMd_areSeeds p1) : Int32) = (0 : Int32) then
        true
      else
        if (p0 : Int32) = ((-1) : Int32) then
          false
        else
          if (b2i (jMd_in p0 1 9) : Int32) = (0 : Int32) then
            true
          else
            false) : Bool) fun z1 =>
  if z1 = true then
    some ((-1), M)
  else
    (jMd_putAside M).bind fun M2 =>
    qlt ((
      if (p0 : Int32) = ((-1) : Int32) then
        M2.1 91 32
      else
        p0) : Int32) fun x3 =>
    qlt (qI M2 91 32 x3) fun M4 =>
    (jMd_over p1 (-1) 2 M4).bind fun w5 =>
    qu2 w5 fun r6 M7 =>
    (jMd_takeBack M7).bind fun M8 =>
    some (r6, M8)

noncomputable def jMd_which (p0 : Int32) (M : qM) : Option (Int32 × qM) :=
  if (M.1 91 33 : Int32) = (0 : Int32) then
    some ((-1), M)
  else
    if (b2i (jMd_areSeeds p0) : Int32) = (0 : Int32) then
      some ((-1), M)
    else
      (jMd_putAside M).bind fun M1 =>
      (qlp (σ := (Int32 × Int32 × Int32 × qM)) (ρ := (Int32 × qM)) (
        fun q => qu4 q fun x2 x3 x4 M5 =>
        if (9 : Int32) < (x4 : Int32) then
          some (.inr (x2, M5))
        else
          qlt (qI M5 91 32 x4) fun M10 =>
          (jMd_over p0 (-1) 2 M10).bind fun w11 =>
          qu2 w11 fun r12 M13 =>
          qlt ((
            if (x2 : Int32) = ((-1) : Int32) then
              (x4, r12)
            else
              if (x3 : Int32) ≤ (r12 : Int32) then
                (x2, x3)
              else
                (x4, r12)) : (Int32 × Int32)) fun w16 =>
          qu2 w16 fun x14 x15 =>
          qlt (x4 + 1 : Int32) fun x17 =>
          some (.inl (x14, x15, x17, M13))) ((-1), 0, 1, M1)).bind fun r8 =>
      qu2 r8 fun x6 M7 =>
      (jMd_takeBack M7).bind fun M9 =>
      some (x6, M9)

noncomputable def jMd_quiet (p0 : Int32) (M : qM) : Option (Int32 × qM) :=
  if (M.1 91 33 : Int32) = (0 : Int32) then
    some ((-1), M)
  else
    if (b2i (jMd_areSeeds p0) : Int32) = (0 : Int32) then
      some ((-1), M)
    else
      (jMd_putAside M).bind fun M1 =>
      (qlp (σ := (Int32 × Int32 × qM)) (ρ := (Int32 × qM)) (
        fun q => qu3 q fun x2 x3 M4 =>
        if (9 : Int32) < (x3 : Int32) then
          some (.inr (x2, M4))
        else
          qlt (qI M4 91 32 x3) fun M9 =>
          (jMd_over p0 (-1) 3 M9).bind fun w10 =>
          qu2 w10 fun r11 M12 =>
          qlt ((
            if (r11 : Int32) = (p0 : Int32) then
              1 <<< ((x3 - 1) &&& 31)
            else
              0) : Int32) fun x13 =>
          qlt (x2 ||| x13 : Int32) fun x14 =>
          qlt (x3 + 1 : Int32) fun x15 =>
          some (.inl (x14, x15, M12))) (0, 1, M1)).bind fun r7 =>
      qu2 r7 fun x5 M6 =>
      (jMd_takeBack M6).bind fun M8 =>
      some (x5, M8)

noncomputable def jMd_pay (p0 : Int32) (p1 : Int32) (p2 : Int32) (M : qM) : Option (Int32 × qM) :=
  (jMd_isPerson p0 M).bind fun r1 =>
  if (b2i r1 : Int32) = (0 : Int32) then
    some ((-1000000), M)
  else
    (jMd_isPerson p1 M).bind fun r2 =>
    if (b2i r2 : Int32) = (0 : Int32) then
      some ((-1000000), M)
    else
      if (p0 : Int32) = (p1 : Int32) then
        some ((-1000000), M)
      else
        if (b2i (jMd_areSeeds p2) : Int32) = (0 : Int32) then
          some ((-1000000), M)
        else
          (jMd_putAside M).bind fun M3 =>
          (jMd_over p2 p0 1 M3).bind fun w4 =>
          qu2 w4 fun r5 M6 =>
          qlt (qI M6 91 36 (1 <<< (p1 &&& 31))) fun M7 =>
          (jMd_over p2 p0 1 M7).bind fun w8 =>
          qu2 w8 fun r9 M10 =>
          qlt (r9 - r5 : Int32) fun x11 =>
          (jMd_takeBack M10).bind fun M12 =>
          some (x11, M12)

noncomputable def jMd_price (p0 : Int32) (p1 : Int32) (M : qM) : Option (Int32 × qM) :=
  (jMd_isPerson p0 M).bind fun r1 =>
  if (b2i r1 : Int32) = (0 : Int32) then
    some ((-1), M)
  else
    if (b2i (jMd_areSeeds p1) : Int32) = (0 : Int32) then
      some ((-1), M)
    else
      (jMd_putAside M).bind fun M2 =>
      (jMd_over p1 p0 1 M2).bind fun w3 =>
      qu2 w3 fun r4 M5 =>
      qlt (qI M5 91 36 (1 <<< (p0 &&& 31))) fun M6 =>
      (jMd_over p1 p0 1 M6).bind fun w7 =>
      qu2 w7 fun r8 M9 =>
      qlt (jmaxI 0 (r4 - r8) : Int32) fun x10 =>
      (jMd_takeBack M9).bind fun M11 =>
      some (x10, M11)

noncomputable def jMd_strangers (p0 : Int32) (p1 : Int32) (M : qM) : Option (Int32 × qM) :=
  if (M.1 91 33 : Int32) = (0 : Int32) then
    some ((-1000000), M)
  else
    (qrI M 103 5 (M.1 91 27)).bind fun v1 =>
    if (b2i (jMd_in p0 0 (v1 - 1)) : Int32) = (0 : Int32) then
      some ((-1000000), M)
    else
      if (b2i (jMd_areSeeds p1) : Int32) = (0 : Int32) then
        some ((-1000000), M)
      else
        (jMd_putAside M).bind fun M2 =>
        (jMd_over p1 (-1) 2 M2).bind fun w3 =>
        qu2 w3 fun r4 M5 =>
        qlt (qI M5 91 37 p0) fun M6 =>
        (jMd_over p1 (-1) 2 M6).bind fun w7 =>
        qu2 w7 fun r8 M9 =>
        qlt (r8 - r4 : Int32) fun x10 =>
        (jMd_takeBack M9).bind fun M11 =>
        some (x10, M11)

noncomputable def jMd_row (p0 : Int32) (p1 : Int32) (p2 : Int32) (p3 : Int32) (p4 : Int32) (p5 : Int32) (M : qM) : Option (Bool × qM) :=
  if (b2i (jMd_in p0 2 9) : Int32) = (0 : Int32) then
    some (false, M)
  else
    if (b2i (jMd_in p1 1 p0) : Int32) = (0 : Int32) then
      some (false, M)
    else
      if (b2i (jMd_in p2 0 999) : Int32) = (0 : Int32) then
        some (false, M)
      else
        if (b2i (jMd_in p3 0 99) : Int32) = (0 : Int32) then
          some (false, M)
        else
          if (b2i (jMd_in p4 0 99) : Int32) = (0 : Int32) then
            some (false, M)
          else
            if (b2i (jMd_in p5 1 12) : Int32) = (0 : Int32) then
              some (false, M)
            else
              qlt (qI M 91 43 p0) fun M1 =>
              qlt (qI M1 91 44 p1) fun M2 =>
              qlt (qI M2 91 45 p2) fun M3 =>
              qlt (qI M3 91 46 p3) fun M4 =>
              qlt (qI M4 91 47 p4) fun M5 =>
              qlt (qI M5 91 48 p5) fun M6 =>
              (qlp (σ := (Int32 × qM)) (ρ := qM) (
                fun q => qu2 q fun x7 M8 =>
                if (12 : Int32) ≤ (x7 : Int32) then
                  some (.inr M8)
                else
                  (qwI M8 112 12 x7 5).bind fun M11 =>
                  qlt (x7 + 1 : Int32) fun x12 =>
                  some (.inl (x12, M11))) (0, M6)).bind fun M9 =>
              some (true, M9)

noncomputable def jMd_chance (p0 : Int32) (p1 : Int32) (M : qM) : Option (Bool × qM) :=
  if (M.1 91 48 : Int32) = ((-1) : Int32) then
    some (false, M)
  else
    if (b2i (jMd_in p0 0 ((M.1 91 48) - 1)) : Int32) = (0 : Int32) then
      some (false, M)
    else
      if (b2i (jMd_in p1 0 10) : Int32) = (0 : Int32) then
        some (false, M)
      else
        (qwI M 112 12 p0 p1).bind fun M1 =>
        some (true, M1)

noncomputable def jMd_power (p0 : Int32) (p1 : Int32) : Option Int64 :=
  (qlp (σ := (Int64 × Int32)) (ρ := Int64) (
    fun q => qu2 q fun x1 x2 =>
    if (p1 : Int32) ≤ (x2 : Int32) then
      some (.inr x1)
    else
      qlt (x1 * ((p0 : Int32).toInt64) : Int64) fun x5 =>
      qlt (x2 + 1 : Int32) fun x6 =>
      some (.inl (x5, x6))) (1, 0)).bind fun x3 =>
  some x3

noncomputable def jMd_choose (p0 : Int32) (p1 : Int32) : Option Int64 :=
  (qlp (σ := (Int64 × Int32)) (ρ := Int64) (
    fun q => qu2 q fun x1 x2 =>
    if (p1 : Int32) < (x2 : Int32) then
      some (.inr x1)
    else
      (qdvJ (x1 * ((((p0 - p1) + x2) : Int32).toInt64)) ((x2 : Int32).toInt64)).bind fun v5 =>
      qlt (x2 + 1 : Int32) fun x6 =>
      some (.inl (v5, x6))) (1, 1)).bind fun x3 =>
  some x3

noncomputable def jMd_more (p0 : Int32) (p1 : Int32) (p2 : Int32) (p3 : Int32) (M : qM) : Option Int64 :=
  qlt (p0 - p2 : Int32) fun x1 =>
  (jMd_choose x1 p3).bind fun r2 =>
  (qrI M 112 12 p1).bind fun v3 =>
  (jMd_power v3 p3).bind fun r4 =>
  (qrI M 112 12 p1).bind fun v5 =>
  (jMd_power (10 - v5) (x1 - p3)).bind fun r6 =>
  (qrJ M 114 10 p2).bind fun v7 =>
  (jMd_power 10 x1).bind fun r8 =>
  (qdvJ (((r2 * r4) * r6) * v7) r8).bind fun v9 =>
  some v9

noncomputable def jMd_firstParts (M : qM) : Option qM :=
  (qlp (σ := (Int32 × qM)) (ρ := qM) (
    fun q => qu2 q fun x1 M2 =>
    if (10 : Int32) ≤ (x1 : Int32) then
      some (.inr M2)
    else
      qlt ((
        if (x1 : Int32) = (0 : Int32) then
          1000000000
        else
          0) : Int64) fun x5 =>
      (qwJ M2 114 10 x1 x5).bind fun M6 =>
      qlt (x1 + 1 : Int32) fun x7 =>
      some (.inl (x7, M6))) (0, M)).bind fun M3 =>
  some M3

noncomputable def jMd_nextParts (p0 : Int32) (p1 : Int32) (M : qM) : Option qM :=
  (qlp (σ := (Int32 × qM)) (ρ := qM) (
    fun q => qu2 q fun x1 M2 =>
    if (10 : Int32) ≤ (x1 : Int32) then
      some (.inr M2)
    else
      (qwJ M2 115 10 x1 0).bind fun M25 =>
      qlt (x1 + 1 : Int32) fun x26 =>
      some (.inl (x26, M25))) (0, M)).bind fun M3 =>
  (qlp (σ := (Int32 × qM)) (ρ := qM) (
    fun q => qu2 q fun x5 M6 =>
    if (p0 : Int32) < (x5 : Int32) then
      some (.inr M6)
    else
      (qlp (σ := (Int32 × qM)) (ρ := qM) (
        fun q => qu2 q fun x16 M17 =>
        if (p0 - x5 : Int32) < (x16 : Int32) then
          some (.inr M17)
        else
          (qrJ M17 115 10 (x5 + x16)).bind fun v21 =>
          (jMd_more p0 p1 x5 x16 M17).bind fun r22 =>
          (qwJ M17 115 10 (x5 + x16) (v21 + r22)).bind fun M23 =>
          qlt (x16 + 1 : Int32) fun x24 =>
          some (.inl (x24, M23))) (0, M6)).bind fun M18 =>
      qlt (x5 + 1 : Int32) fun x20 =>
      some (.inl (x20, M18))) (0, M3)).bind fun M7 =>
  (qlp (σ := (Int32 × qM)) (ρ := qM) (
    fun q => qu2 q fun x9 M10 =>
    if (10 : Int32) ≤ (x9 : Int32) then
      some (.inr M10)
    else
      (qrJ M10 115 10 x9).bind fun v13 =>
      (qwJ M10 114 10 x9 v13).bind fun M14 =>
      qlt (x9 + 1 : Int32) fun x15 =>
      some (.inl (x15, M14))) (0, M7)).bind fun M11 =>
  some M11

noncomputable def jMd_takenIn (p0 : Int32) (M : qM) : Option Int64 :=
  (qlp (σ := (Int64 × Int32)) (ρ := Int64) (
    fun q => qu2 q fun x1 x2 =>
    if (M.1 91 44 : Int32) ≤ (x2 : Int32) then
      some (.inr x1)
    else
      qlt ((M.1 91 44) - x2 : Int32) fun x5 =>
      (qlp (σ := (Int64 × Int32)) (ρ := Int64) (
        fun q => qu2 q fun x6 x7 =>
        if ((M.1 91 43) - x2 : Int32) < (x7 : Int32) then
          some (.inr x6)
        else
          (jMd_more (M.1 91 43) p0 x2 x7 M).bind fun r11 =>
          qlt (x6 + r11 : Int64) fun x12 =>
          qlt (x7 + 1 : Int32) fun x13 =>
          some (.inl (x12, x13))) (x1, x5)).bind fun x8 =>
      qlt (x2 + 1 : Int32) fun x10 =>
      some (.inl (x8, x10))) (0, 0)).bind fun x3 =>
  some x3

noncomputable def jMd_taken (p0 : Int32) (M : qM) : Option (Int32 × qM) :=
  if (M.1 91 48 : Int32) = ((-1) : Int32) then
    some ((-1), M)
  else
    if (b2i (jMd_in p0 (-1) ((M.1 91 48) - 1)) : Int32) = (0 : Int32) then
      some ((-1), M)
    else
      (jMd_firstParts M).bind fun M1 =>
      (qlp (σ := (Int64 × Int32 × qM)) (ρ := ((Int64 × qM) ⊕ (Int64 × qM))) (
        fun q => qu3 q fun x2 x3 M4 =>
        if (M4.1 91 48 : Int32) ≤ (x3 : Int32) then
          some (.inr (.inr (x2, M4)))
        else
          (jMd_takenIn x3 M4).bind fun r10 =>
          if (x3 : Int32) = (p0 : Int32) then
            some (.inr (.inl (r10, M4)))
          else
            qlt (x2 - r10 : Int64) fun x11 =>
            (jMd_nextParts (M4.1 91 43) x3 M4).bind fun M12 =>
            qlt (x3 + 1 : Int32) fun x13 =>
            some (.inl (x11, x13, M12))) (1000000000, 0, M1)).bind fun r9 =>
      qse r9 (fun r9 =>
        qu2 r9 fun x5 M6 =>
        some ((x5 : Int64).toInt32, M6)) (fun r9 =>
        qu2 r9 fun x7 M8 =>
        some ((x7 : Int64).toInt32, M8))

noncomputable def jMd_valueOf (p0 : Int32) (M : qM) : Option (Int64 × qM) :=
  if (p0 : Int32) = (M.1 91 48 : Int32) then
    some (((-(((M.1 91 47) : Int32).toInt64)) * (((M.1 91 48) : Int32).toInt64)) * 1000000000, M)
  else
    (jMd_firstParts M).bind fun M1 =>
    (qlp (σ := (Int32 × qM)) (ρ := qM) (
      fun q => qu2 q fun x2 M3 =>
      if (p0 : Int32) ≤ (x2 : Int32) then
        some (.inr M3)
      else
        (jMd_nextParts ((M3.1 91 43) - 1) x2 M3).bind fun M20 =>
        qlt (x2 + 1 : Int32) fun x21 =>
        some (.inl (x21, M20))) (0, M1)).bind fun M4 =>
    (qlp (σ := (Int64 × Int32)) (ρ := Int64) (
      fun q => qu2 q fun x6 x7 =>
      if (M4.1 91 44 : Int32) ≤ (x7 : Int32) then
        some (.inr x6)
      else
        qlt (((M4.1 91 44) - 1) - x7 : Int32) fun x10 =>
        (qlp (σ := (Int64 × Int32)) (ρ := Int64) (
          fun q => qu2 q fun x11 x12 =>
          if (((M4.1 91 43) - 1) - x7 : Int32) < (x12 : Int32) then
            some (.inr x11)
          else
            (jMd_more ((M4.1 91 43) - 1) p0 x7 x12 M4).bind fun r16 =>
            (qdvJ r16 (((x12 + 1) : Int32).toInt64)).bind fun v17 =>
            qlt (x11 + v17 : Int64) fun x18 =>
            qlt (x12 + 1 : Int32) fun x19 =>
            some (.inl (x18, x19))) (x6, x10)).bind fun x13 =>
        qlt (x7 + 1 : Int32) fun x15 =>
        some (.inl (x13, x15))) (0, 0)).bind fun x8 =>
    some ((x8 * (((jmaxI 0 ((M4.1 91 45) - ((M4.1 91 46) * p0))) : Int32).toInt64)) - (((((M4.1 91 47) : Int32).toInt64) * ((p0 : Int32).toInt64)) * 1000000000), M4)

noncomputable def jMd_value (p0 : Int32) (M : qM) : Option (Int64 × qM) :=
  qlt ((
    if (M.1 91 48 : Int32) = ((-1) : Int32) then
      true
    else
      if (b2i (jMd_in p0 0 (M.1 91 48)) : Int32) = (0 : Int32) then
        true
      else
        false) : Bool) fun z1 =>
  qlt (qI M 91 0 (b2i z1)) fun M2 =>
  ((
    if (M2.1 91 0 : Int32) = (1 : Int32) then
      some (0, M2)
    else
      (jMd_valueOf p0 M2).bind fun w6 =>
      qu2 w6 fun r7 M8 =>
      some (r7, M8)) : Option (Int64 × qM)).bind fun w5 =>
  qu2 w5 fun x3 M4 =>
  some (x3, M4)

noncomputable def jMd_bestOf (M : qM) : Option (Int32 × qM) :=
  (qlp (σ := (Int32 × Int32 × qM)) (ρ := (Int32 × qM)) (
    fun q => qu3 q fun x1 x2 M3 =>
    if (M3.1 91 48 : Int32) < (x2 : Int32) then
      some (.inr (x1, M3))
    else
      (jMd_valueOf x2 M3).bind fun w7 =>
      qu2 w7 fun r8 M9 =>
      (jMd_valueOf x1 M9).bind fun w10 =>
      qu2 w10 fun r11 M12 =>
      qlt ((
        if (lg_cmp r8 r11 : Int32) ≤ (0 : Int32) then
          x1
        else
          x2) : Int32) fun x13 =>
      qlt (x2 + 1 : Int32) fun x14 =>
      some (.inl (x13, x14, M12))) (0, 1, M)).bind fun r6 =>
  qu2 r6 fun x4 M5 =>
  some (x4, M5)

noncomputable def jMd_best (M : qM) : Option (Int32 × qM) :=
  ((
    if (M.1 91 48 : Int32) = ((-1) : Int32) then
      some ((-1), M)
    else
      (jMd_bestOf M).bind fun w4 =>
      qu2 w4 fun r5 M6 =>
      some (r5, M6)) : Option (Int32 × qM)).bind fun w3 =>
  qu2 w3 fun x1 M2 =>
  some (x1, M2)

noncomputable def jMd_rests (p0 : Int32) (M : qM) : Option (Bool × qM) :=
  (jMd_bestOf M).bind fun w1 =>
  qu2 w1 fun r2 M3 =>
  (jMd_valueOf r2 M3).bind fun w4 =>
  qu2 w4 fun r5 M6 =>
  qlt (r5 - (((p0 : Int32).toInt64) * 1000000000) : Int64) fun x7 =>
  (qlp (σ := (Bool × Int32 × qM)) (ρ := (qM ⊕ (Bool × qM))) (
    fun q => qu3 q fun z8 x9 M10 =>
    if (M10.1 91 48 : Int32) ≤ (x9 : Int32) then
      some (.inr (.inr (z8, M10)))
    else
      ((
        if (b2i z8 : Int32) = (0 : Int32) then
          some false
        else
          (qrI M10 112 12 x9).bind fun v31 =>
          if (v31 : Int32) ≤ (0 : Int32) then
            some false
          else
            some true) : Option Bool).bind fun z21 =>
      if z21 = true then
        (jMd_valueOf x9 M10).bind fun w22 =>
        qu2 w22 fun r23 M24 =>
        if (0 : Int32) ≤ (lg_cmp r23 x7 : Int32) then
          ((
            if (b2i z8 : Int32) = (0 : Int32) then
              some false
            else
              (qrI M24 112 12 x9).bind fun v27 =>
              if (10 : Int32) ≤ (v27 : Int32) then
                some false
              else
                some true) : Option Bool).bind fun z25 =>
          qlt (x9 + 1 : Int32) fun x26 =>
          some (.inl (z25, x26, M24))
        else
          some (.inr (.inl M24))
      else
        ((
          if (b2i z8 : Int32) = (0 : Int32) then
            some false
          else
            (qrI M10 112 12 x9).bind fun v30 =>
            if (10 : Int32) ≤ (v30 : Int32) then
              some false
            else
              some true) : Option Bool).bind fun z28 =>
        qlt (x9 + 1 : Int32) fun x29 =>
        some (.inl (z28, x29, M10))) (true, 0, M6)).bind fun r14 =>
  qse r14 (fun M11 =>
    some (false, M11)) (fun r14 =>
    qu2 r14 fun z12 M13 =>
    ((
      if (b2i z12 : Int32) = (0 : Int32) then
        some (true, M13)
      else
        (jMd_valueOf (M13.1 91 48) M13).bind fun w18 =>
        qu2 w18 fun r19 M20 =>
        if (lg_cmp r19 x7 : Int32) < (0 : Int32) then
          some (false, M20)
        else
          some (true, M20)) : Option (Bool × qM)).bind fun w17 =>
    qu2 w17 fun z15 M16 =>
    some (z15, M16))

noncomputable def jMd_rest (p0 : Int32) (M : qM) : Option (Int32 × qM) :=
  ((
    if (M.1 91 48 : Int32) = ((-1) : Int32) then
      some ((-1), M)
    else
      if (b2i (jMd_in p0 0 99) : Int32) = (0 : Int32) then
        some ((-1), M)
      else
        (jMd_rests p0 M).bind fun w4 =>
        qu2 w4 fun r5 M6 =>
        if (b2i r5 : Int32) = (0 : Int32) then
          some (0, M6)
        else
          some (1, M6)) : Option (Int32 × qM)).bind fun w3 =>
  qu2 w3 fun x1 M2 =>
  some (x1, M2)

noncomputable def jMd_found (p0 : Int32) (p1 : Int32) (M : qM) : Option (Int32 × qM) :=
  if (b2i (jMd_in (M.1 91 48) 1 3) : Int32) = (0 : Int32) then
    some ((-1), M)
  else
    if (b2i (jMd_in p0 0 99) : Int32) = (0 : Int32) then
      some ((-1), M)
    else
      (qlp (σ := (Int32 × qM)) (ρ := qM) (
        fun q => qu2 q fun x1 M2 =>
        if (12 : Int32) ≤ (x1 : Int32) then
          some (.inr M2)
        else
          (qrI M2 112 12 x1).bind fun v41 =>
          (qwI M2 113 12 x1 v41).bind fun M42 =>
          qlt (x1 + 1 : Int32) fun x43 =>
          some (.inl (x43, M42))) (0, M)).bind fun M3 =>
      (jMd_power 11 (M3.1 91 48)).bind fun r5 =>
      qlt ((r5 : Int64).toInt32 : Int32) fun x6 =>
      (qlp (σ := (Int32 × Int32 × Int32 × qM)) (ρ := (Int32 × Int32 × qM)) (
        fun q => qu4 q fun x7 x8 x9 M10 =>
        if (x6 : Int32) ≤ (x9 : Int32) then
          some (.inr (x7, x8, M10))
        else
          qlt ((M10.1 91 48) - 1 : Int32) fun x23 =>
          (qlp (σ := (Int32 × Int32 × qM)) (ρ := qM) (
            fun q => qu3 q fun x24 x25 M26 =>
            if (x25 : Int32) < (0 : Int32) then
              some (.inr M26)
            else
              (qwI M26 112 12 x25 (x24 - x24 / 11 * 11)).bind fun M38 =>
              qlt (x24 / 11 : Int32) fun x39 =>
              qlt (x25 + (-1) : Int32) fun x40 =>
              some (.inl (x39, x40, M38))) (x9, x23, M10)).bind fun M27 =>
          (jMd_rests p0 M27).bind fun w29 =>
          qu2 w29 fun r30 M31 =>
          qlt ((
            if (b2i r30 : Int32) = (0 : Int32) then
              (x7, x8)
            else
              qlt ((
                if (x7 : Int32) = (p1 : Int32) then
                  x9
                else
                  x8) : Int32) fun x36 =>
              qlt (x7 + 1 : Int32) fun x37 =>
              (x37, x36)) : (Int32 × Int32)) fun w34 =>
          qu2 w34 fun x32 x33 =>
          qlt (x9 + 1 : Int32) fun x35 =>
          some (.inl (x32, x33, x35, M31))) (0, (-1), 0, M3)).bind fun r14 =>
      qu3 r14 fun x11 x12 M13 =>
      (qlp (σ := (Int32 × qM)) (ρ := qM) (
        fun q => qu2 q fun x15 M16 =>
        if (12 : Int32) ≤ (x15 : Int32) then
          some (.inr M16)
        else
          (qrI M16 113 12 x15).bind fun v20 =>
          (qwI M16 112 12 x15 v20).bind fun M21 =>
          qlt (x15 + 1 : Int32) fun x22 =>
          some (.inl (x22, M21))) (0, M13)).bind fun M17 =>
      qlt ((
        if (p1 : Int32) = ((-1) : Int32) then
          x11
        else
          x12) : Int32) fun x19 =>
      some (x19, M17)

noncomputable def jMd_tell (p0 : Int32) (p1 : Int32) (M : qM) : Option (Bool × qM) :=
  (jMd_isThing p0 p1 M).bind fun r1 =>
  if (b2i r1 : Int32) = (0 : Int32) then
    some (false, M)
  else
    qlt (qI M 91 55 p0) fun M2 =>
    qlt (qI M2 91 56 p1) fun M3 =>
    (qlp (σ := (Int32 × qM)) (ρ := qM) (
      fun q => qu2 q fun x4 M5 =>
      if (20 : Int32) ≤ (x4 : Int32) then
        some (.inr M5)
      else
        (qwI M5 116 20 x4 (-1)).bind fun M8 =>
        qlt (x4 + 1 : Int32) fun x9 =>
        some (.inl (x9, M8))) (0, M3)).bind fun M6 =>
    some (true, M6)

noncomputable def jMd_isTold (p0 : Int32) (M : qM) : Option Bool :=
  ((
    if (M.1 91 55 : Int32) = ((-1) : Int32) then
      some false
    else
      (qrI M 104 5 (M.1 91 55)).bind fun v2 =>
      if (b2i (jMd_in p0 0 (v2 - 1)) : Int32) = (0 : Int32) then
        some false
      else
        some true) : Option Bool).bind fun z1 =>
  some z1

noncomputable def jMd_came (p0 : Int32) (p1 : Int32) (M : qM) : Option (Bool × qM) :=
  (jMd_isTold p0 M).bind fun r1 =>
  if (b2i r1 : Int32) = (0 : Int32) then
    some (false, M)
  else
    if (b2i (jMd_in p1 (-1) 60) : Int32) = (0 : Int32) then
      some (false, M)
    else
      (qwI M 116 20 p0 p1).bind fun M2 =>
      some (true, M2)

noncomputable def jMd_toldRank (p0 : Int32) (M : qM) : Option Int32 :=
  (qrI M 116 20 p0).bind fun v1 =>
  if (v1 : Int32) = ((-1) : Int32) then
    some (-1)
  else
    (qlp (σ := (Int32 × Int32)) (ρ := Int32) (
      fun q => qu2 q fun x2 x3 =>
      (qrI M 104 5 (M.1 91 55)).bind fun v6 =>
      if (v6 : Int32) ≤ (x3 : Int32) then
        some (.inr x2)
      else
        ((
          if (x3 : Int32) = (p0 : Int32) then
            some false
          else
            (qrI M 116 20 x3).bind fun v10 =>
            if (v10 : Int32) = ((-1) : Int32) then
              some false
            else
              (qrI M 116 20 x3).bind fun v11 =>
              (qrI M 116 20 p0).bind fun v12 =>
              if (v11 : Int32) < (v12 : Int32) then
                some true
              else
                (qrI M 116 20 x3).bind fun v13 =>
                (qrI M 116 20 p0).bind fun v14 =>
                if (v13 : Int32) = (v14 : Int32) then
                  if (p0 : Int32) ≤ (x3 : Int32) then
                    some false
                  else
                    some true
                else
                  some false) : Option Bool).bind fun z7 =>
        qlt (x2 + (b2i z7) : Int32) fun x8 =>
        qlt (x3 + 1 : Int32) fun x9 =>
        some (.inl (x8, x9))) (1, 0)).bind fun x4 =>
    some x4

noncomputable def jMd_toldGain (p0 : Int32) (M : qM) : Option Int32 :=
  qlt (M.1 91 55 : Int32) fun x1 =>
  (jMd_thingAt x1 (M.1 91 56) 0 M).bind fun r2 =>
  (jMd_sortOf x1 p0 M).bind fun r3 =>
  (jMd_sortAt x1 r3 2 M).bind fun r4 =>
  (qrI M 116 20 p0).bind fun v5 =>
  if (v5 : Int32) = ((-1) : Int32) then
    some ((-r4) * 60)
  else
    (jMd_toldRank p0 M).bind fun r6 =>
    (jMd_thingAt x1 (M.1 91 56) 1 M).bind fun r7 =>
    ((
      if (b2i (jMd_in r6 r2 ((r2 + r7) - 1)) : Int32) = (0 : Int32) then
        some 0
      else
        (jMd_thingAt x1 (M.1 91 56) 2 M).bind fun r10 =>
        (jMd_thingAt x1 (M.1 91 56) 3 M).bind fun r11 =>
        (qrI M 116 20 p0).bind fun v12 =>
        some (jmaxI 0 (r10 - (r11 * v12)))) : Option Int32).bind fun x8 =>
    (qrI M 116 20 p0).bind fun v9 =>
    some (x8 - (r4 * v9))

noncomputable def jMd_answer (p0 : Int32) (M : qM) : Option (Int32 × qM) :=
  (qrI M 116 20 p0).bind fun v1 =>
  (qwI M 116 20 p0 0).bind fun M2 =>
  (jMd_toldGain p0 M2).bind fun r3 =>
  (qlp (σ := (Int32 × Int32 × Int32 × qM)) (ρ := (Int32 × Int32 × qM)) (
    fun q => qu4 q fun x4 x5 x6 M7 =>
    if (60 : Int32) < (x6 : Int32) then
      some (.inr (x4, x5, M7))
    else
      (qwI M7 116 20 p0 x6).bind fun M16 =>
      (jMd_toldGain p0 M16).bind fun r17 =>
      qlt ((
        if (r17 : Int32) ≤ (x5 : Int32) then
          x4
        else
          x6) : Int32) fun x18 =>
      qlt (jmaxI x5 r17 : Int32) fun x19 =>
      qlt (x6 + 1 : Int32) fun x20 =>
      some (.inl (x18, x19, x20, M16))) (0, r3, 1, M2)).bind fun r11 =>
  qu3 r11 fun x8 x9 M10 =>
  (qwI M10 116 20 p0 (-1)).bind fun M12 =>
  (jMd_toldGain p0 M12).bind fun r13 =>
  qlt ((
    if (r13 : Int32) ≤ (x9 : Int32) then
      x8
    else
      (-1)) : Int32) fun x14 =>
  (qwI M12 116 20 p0 v1).bind fun M15 =>
  some (x14, M15)

noncomputable def jMd_regret (p0 : Int32) (M : qM) : Option (Int32 × qM) :=
  (qrI M 116 20 p0).bind fun v1 =>
  (jMd_toldGain p0 M).bind fun r2 =>
  (jMd_answer p0 M).bind fun w3 =>
  qu2 w3 fun r4 M5 =>
  (qwI M5 116 20 p0 r4).bind fun M6 =>
  (jMd_toldGain p0 M6).bind fun r7 =>
  qlt (r7 - r2 : Int32) fun x8 =>
  (qwI M6 116 20 p0 v1).bind fun M9 =>
  some (x8, M9)

noncomputable def jMd_told (p0 : Int32) (p1 : Int32) (M : qM) : Option (Int32 × qM) :=
  (jMd_isTold p0 M).bind fun r1 =>
  if (b2i r1 : Int32) = (0 : Int32) then
    some ((-1000000), M)
  else
    if (p1 : Int32) = 0 then
      (qrI M 116 20 p0).bind fun v2 =>
      some (v2, M)
    else
      if (p1 : Int32) = 1 then
        (jMd_toldRank p0 M).bind fun r3 =>
        some (r3, M)
      else
        if (p1 : Int32) = 2 then
          (jMd_toldGain p0 M).bind fun r4 =>
          some (r4, M)
        else
          if (p1 : Int32) = 3 then
            (jMd_answer p0 M).bind fun w5 =>
            qu2 w5 fun r6 M7 =>
            some (r6, M7)
          else
            if (p1 : Int32) = 4 then
              (jMd_regret p0 M).bind fun w8 =>
              qu2 w8 fun r9 M10 =>
              some (r9, M10)
            else
              some ((-1000000), M)

noncomputable def jMd_ill (M : qM) : Option (Int32 × qM) :=
  if (M.1 91 55 : Int32) = ((-1) : Int32) then
    some ((-1), M)
  else
    (qlp (σ := (Int32 × Int32 × qM)) (ρ := (Int32 × qM)) (
      fun q => qu3 q fun x1 x2 M3 =>
      (qrI M3 104 5 (M3.1 91 55)).bind fun v7 =>
      if (v7 : Int32) ≤ (x2 : Int32) then
        some (.inr (x1, M3))
      else
        (jMd_regret x2 M3).bind fun w8 =>
        qu2 w8 fun r9 M10 =>
        qlt ((
          if (r9 : Int32) ≤ (0 : Int32) then
            0
          else
            1 <<< (x2 &&& 31)) : Int32) fun x11 =>
        qlt (x1 ||| x11 : Int32) fun x12 =>
        qlt (x2 + 1 : Int32) fun x13 =>
        some (.inl (x12, x13, M10))) (0, 0, M)).bind fun r6 =>
    qu2 r6 fun x4 M5 =>
    some (x4, M5)

noncomputable def jMd_settle (M : qM) : Option (Int32 × qM) :=
  if (M.1 91 55 : Int32) = ((-1) : Int32) then
    some ((-1), M)
  else
    (qlp (σ := (Int32 × qM)) (ρ := qM) (
      fun q => qu2 q fun x1 M2 =>
      if (20 : Int32) ≤ (x1 : Int32) then
        some (.inr M2)
      else
        (qrI M2 116 20 x1).bind fun v37 =>
        (qwI M2 117 20 x1 v37).bind fun M38 =>
        qlt (x1 + 1 : Int32) fun x39 =>
        some (.inl (x39, M38))) (0, M)).bind fun M3 =>
    (qlp (σ := (Int32 × Int32 × Int32 × qM)) (ρ := (Int32 × qM)) (
      fun q => qu4 q fun x5 x6 x7 M8 =>
      (qrI M8 104 5 (M8.1 91 55)).bind fun v19 =>
      if (v19 : Int32) ≤ (x6 : Int32) then
        some (.inr (x5, M8))
      else
        if (1000 : Int32) < (x5 : Int32) then
          some (.inr (x5, M8))
        else
          (jMd_regret x7 M8).bind fun w20 =>
          qu2 w20 fun r21 M22 =>
          qlt ((
            if (r21 : Int32) ≤ (0 : Int32) then
              false
            else
              true) : Bool) fun z23 =>
          ((
            if (b2i z23 : Int32) = (0 : Int32) then
              (qrI M22 116 20 x7).bind fun v33 =>
              some (v33, M22)
            else
              (jMd_answer x7 M22).bind fun w34 =>
              qu2 w34 fun r35 M36 =>
              some (r35, M36)) : Option (Int32 × qM)).bind fun w26 =>
          qu2 w26 fun x24 M25 =>
          (qwI M25 116 20 x7 x24).bind fun M27 =>
          qlt ((
            if (b2i z23 : Int32) = (0 : Int32) then
              false
            else
              true) : Bool) fun z28 =>
          qlt (x5 + (b2i z28) : Int32) fun x29 =>
          qlt ((
            if (b2i z23 : Int32) = (0 : Int32) then
              x6 + 1
            else
              0) : Int32) fun x30 =>
          (qrI M27 104 5 (M27.1 91 55)).bind fun v31 =>
          (qrmI (x7 + 1) v31).bind fun v32 =>
          some (.inl (x29, x30, v32, M27))) (0, 0, 0, M3)).bind fun r11 =>
    qu2 r11 fun x9 M10 =>
    if (1000 : Int32) < (x9 : Int32) then
      (qlp (σ := (Int32 × qM)) (ρ := qM) (
        fun q => qu2 q fun x12 M13 =>
        if (20 : Int32) ≤ (x12 : Int32) then
          some (.inr M13)
        else
          (qrI M13 117 20 x12).bind fun v16 =>
          (qwI M13 116 20 x12 v16).bind fun M17 =>
          qlt (x12 + 1 : Int32) fun x18 =>
          some (.inl (x18, M17))) (0, M10)).bind fun M14 =>
      some ((-1), M14)
    else
      some (x9, M10)

noncomputable def jMd_between (p0 : Int32) (M : qM) : Bool × qM :=
  if (b2i (jMd_in p0 0 9) : Int32) = (0 : Int32) then
    (false, M)
  else
    qlt (qI M 91 57 p0) fun M1 =>
    (true, M1)

noncomputable def jMd_rankAmong (p0 : Int32) (M : qM) : Option Int32 :=
  (qlp (σ := (Int32 × Int32)) (ρ := Int32) (
    fun q => qu2 q fun x1 x2 =>
    (qrI M 104 5 (M.1 91 55)).bind fun v5 =>
    if (v5 : Int32) ≤ (x2 : Int32) then
      some (.inr x1)
    else
      ((
        if (x2 : Int32) = (p0 : Int32) then
          some false
        else
          (qrI M 118 20 x2).bind fun v9 =>
          if (v9 : Int32) = ((-1) : Int32) then
            some false
          else
            (qrI M 118 20 x2).bind fun v10 =>
            (qrI M 118 20 p0).bind fun v11 =>
            if (v10 : Int32) < (v11 : Int32) then
              some true
            else
              (qrI M 118 20 x2).bind fun v12 =>
              (qrI M 118 20 p0).bind fun v13 =>
              if (v12 : Int32) = (v13 : Int32) then
                if (p0 : Int32) ≤ (x2 : Int32) then
                  some false
                else
                  some true
              else
                some false) : Option Bool).bind fun z6 =>
      qlt (x1 + (b2i z6) : Int32) fun x7 =>
      qlt (x2 + 1 : Int32) fun x8 =>
      some (.inl (x7, x8))) (1, 0)).bind fun x3 =>
  some x3

noncomputable def jMd_round (p0 : Int32) (p1 : Int32) (M : qM) : Option (Int32 × qM) :=
  (jMd_isTold p0 M).bind fun r1 =>
  if (b2i r1 : Int32) = (0 : Int32) then
    some ((-1000000), M)
  else
    if (b2i (jMd_in p1 0 2) : Int32) = (0 : Int32) then
      some ((-1000000), M)
    else
      (qrI M 104 5 (M.1 91 55)).bind fun v2 =>
      (qlp (σ := (Int32 × qM)) (ρ := qM) (
        fun q => qu2 q fun x3 M4 =>
        if (v2 : Int32) ≤ (x3 : Int32) then
          some (.inr M4)
        else
          (qrI M4 116 20 x3).bind fun v43 =>
          (qwI M4 118 20 x3 v43).bind fun M44 =>
          qlt (x3 + 1 : Int32) fun x45 =>
          some (.inl (x45, M44))) (0, M)).bind fun M5 =>
      (qlp (σ := (Int32 × Int32 × qM)) (ρ := ((Int32 × qM) ⊕ (Int32 × qM))) (
        fun q => qu3 q fun x7 x8 M9 =>
        (qrI M9 102 5 (M9.1 91 55)).bind fun v18 =>
        if (v18 : Int32) ≤ (x8 : Int32) then
          some (.inr (.inr (x7, M9)))
        else
          (qrI M9 118 20 p0).bind fun v19 =>
          if (v19 : Int32) = ((-1) : Int32) then
            some (.inr (.inr (x7, M9)))
          else
            qlt (x7 + 1 : Int32) fun x20 =>
            (jMd_thingAt (M9.1 91 55) x8 0 M9).bind fun r21 =>
            ((
              if (2 : Int32) ≤ (p1 : Int32) then
                some false
              else
                (jMd_rankAmong p0 M9).bind fun r41 =>
                (jMd_thingAt (M9.1 91 55) x8 1 M9).bind fun r42 =>
                if (b2i (jMd_in r41 r21 ((r21 + r42) - 1)) : Int32) = (0 : Int32) then
                  some false
                else
                  some true) : Option Bool).bind fun z22 =>
            if z22 = true then
              some (.inr (.inl (x8, M9)))
            else
              (qlp (σ := (Int32 × qM)) (ρ := qM) (
                fun q => qu2 q fun x23 M24 =>
                if (v2 : Int32) ≤ (x23 : Int32) then
                  some (.inr M24)
                else
                  (qrI M24 118 20 x23).bind fun v35 =>
                  ((
                    if (v35 : Int32) = ((-1) : Int32) then
                      some (-1)
                    else
                      (jMd_rankAmong x23 M24).bind fun r39 =>
                      if (r21 : Int32) ≤ (r39 : Int32) then
                        some (-1)
                      else
                        (qrI M24 118 20 x23).bind fun v40 =>
                        some (v40 + (M24.1 91 57))) : Option Int32).bind fun x36 =>
                  (qwI M24 119 20 x23 x36).bind fun M37 =>
                  qlt (x23 + 1 : Int32) fun x38 =>
                  some (.inl (x38, M37))) (0, M9)).bind fun M25 =>
              (qlp (σ := (Int32 × qM)) (ρ := qM) (
                fun q => qu2 q fun x27 M28 =>
                if (v2 : Int32) ≤ (x27 : Int32) then
                  some (.inr M28)
                else
                  (qrI M28 119 20 x27).bind fun v32 =>
                  (qwI M28 118 20 x27 v32).bind fun M33 =>
                  qlt (x27 + 1 : Int32) fun x34 =>
                  some (.inl (x34, M33))) (0, M25)).bind fun M29 =>
              qlt (x8 + 1 : Int32) fun x31 =>
              some (.inl (x20, x31, M29))) (0, 0, M5)).bind fun r14 =>
      qse r14 (fun r14 =>
        qu2 r14 fun x10 M11 =>
        ((
          if (p1 : Int32) = (0 : Int32) then
            some x10
          else
            (qrI M11 118 20 p0).bind fun v16 =>
            some v16) : Option Int32).bind fun x15 =>
        some (x15, M11)) (fun r14 =>
        qu2 r14 fun x12 M13 =>
        qlt ((
          if (p1 : Int32) = (2 : Int32) then
            x12
          else
            (-1)) : Int32) fun x17 =>
        some (x17, M13))

noncomputable def jMd_image (M : qM) : Option (Int32 × qM) :=
  if (M.1 91 33 : Int32) = (0 : Int32) then
    some ((-1), M)
  else
    (jMd_keepTo 120 M).bind fun M1 =>
    qlt (qI M1 91 61 (M1.1 91 27)) fun M2 =>
    qlt (qI M2 91 62 (M2.1 91 28)) fun M3 =>
    qlt (qI M3 91 63 (M3.1 91 29)) fun M4 =>
    qlt (qI M4 91 64 (M4.1 91 30)) fun M5 =>
    qlt (qI M5 91 65 (M5.1 91 31)) fun M6 =>
    (qtb (M6.1 91 34)).bind fun b7 =>
    qlt (qI M6 91 66 (M6.1 91 34)) fun M8 =>
    qlt (qJ M8 91 67 (M8.2.1 91 35)) fun M9 =>
    some (M9.1 91 30, M9)

noncomputable def jMd_back (M : qM) : Option (Int32 × qM) :=
  if (M.1 91 64 : Int32) = ((-1) : Int32) then
    some ((-1), M)
  else
    (jMd_takeFrom 120 M).bind fun M1 =>
    qlt (qI M1 91 27 (M1.1 91 61)) fun M2 =>
    qlt (qI M2 91 28 (M2.1 91 62)) fun M3 =>
    qlt (qI M3 91 29 (M3.1 91 63)) fun M4 =>
    (jMd_thingAt (M4.1 91 27) (M4.1 91 28) 0 M4).bind fun r5 =>
    qlt (qI M4 91 32 r5) fun M6 =>
    qlt (qI M6 91 30 (M6.1 91 64)) fun M7 =>
    qlt (qI M7 91 31 (M7.1 91 65)) fun M8 =>
    (qtb (M8.1 91 66)).bind fun b9 =>
    qlt (qI M8 91 34 (M8.1 91 66)) fun M10 =>
    qlt (qJ M10 91 35 (M10.2.1 91 67)) fun M11 =>
    some (M11.1 91 30, M11)

noncomputable def jMd_ends (p0 : Int32) (p1 : Int32) (M : qM) : Option (Int32 × qM) :=
  if (M.1 91 33 : Int32) = (0 : Int32) then
    some ((-1), M)
  else
    if (b2i (jMd_areSeeds p1) : Int32) = (0 : Int32) then
      some ((-1), M)
    else
      if (b2i (jMd_in p0 (-1) 60) : Int32) = (0 : Int32) then
        some ((-1), M)
      else
        (jMd_putAside M).bind fun M1 =>
        (qlp (σ := (Int32 × Int32 × qM)) (ρ := (Int32 × qM)) (
          fun q => qu3 q fun x2 x3 M4 =>
          if (p1 : Int32) ≤ (x3 : Int32) then
            some (.inr (x2, M4))
          else
            (jMd_whole ((x3 : Int32).toInt64) M4).bind fun M9 =>
            (jMd_fullAt M9).bind fun r10 =>
            qlt ((
              if (r10 : Int32) = (p0 : Int32) then
                true
              else
                false) : Bool) fun z11 =>
            qlt (x2 + (b2i z11) : Int32) fun x12 =>
            qlt (x3 + 1 : Int32) fun x13 =>
            some (.inl (x12, x13, M9))) (0, 0, M1)).bind fun r7 =>
        qu2 r7 fun x5 M6 =>
        (jMd_takeBack M6).bind fun M8 =>
        some (x5, M8)

noncomputable def jMd_both (p0 : Int32) (p1 : Int32) (p2 : Int32) (M : qM) : Option (Int32 × qM) :=
  (jMd_isPerson p0 M).bind fun r1 =>
  if (b2i r1 : Int32) = (0 : Int32) then
    some ((-1), M)
  else
    (jMd_isPerson p1 M).bind fun r2 =>
    if (b2i r2 : Int32) = (0 : Int32) then
      some ((-1), M)
    else
      if (p0 : Int32) = (p1 : Int32) then
        some ((-1), M)
      else
        if (b2i (jMd_areSeeds p2) : Int32) = (0 : Int32) then
          some ((-1), M)
        else
          (jMd_putAside M).bind fun M3 =>
          (qlp (σ := (Int32 × Int32 × qM)) (ρ := (Int32 × qM)) (
            fun q => qu3 q fun x4 x5 M6 =>
            if (p2 : Int32) ≤ (x5 : Int32) then
              some (.inr (x4, M6))
            else
              (jMd_whole ((x5 : Int32).toInt64) M6).bind fun M11 =>
              (jMd_hasPlace p0 M11).bind fun r12 =>
              ((
                if (b2i r12 : Int32) = (0 : Int32) then
                  some false
                else
                  (jMd_hasPlace p1 M11).bind fun r16 =>
                  if (b2i r16 : Int32) = (0 : Int32) then
                    some false
                  else
                    some true) : Option Bool).bind fun z13 =>
              qlt (x4 + (b2i z13) : Int32) fun x14 =>
              qlt (x5 + 1 : Int32) fun x15 =>
              some (.inl (x14, x15, M11))) (0, 0, M3)).bind fun r9 =>
          qu2 r9 fun x7 M8 =>
          (jMd_takeBack M8).bind fun M10 =>
          some (x7, M10)

noncomputable def jMd_kin (p0 : Int32) (p1 : Int32) (p2 : Int32) (M : qM) : Option (Int32 × qM) :=
  (jMd_isPerson p0 M).bind fun r1 =>
  if (b2i r1 : Int32) = (0 : Int32) then
    some ((-1000000), M)
  else
    (jMd_isPerson p1 M).bind fun r2 =>
    if (b2i r2 : Int32) = (0 : Int32) then
      some ((-1000000), M)
    else
      if (p0 : Int32) = (p1 : Int32) then
        some ((-1000000), M)
      else
        if (b2i (jMd_areSeeds p2) : Int32) = (0 : Int32) then
          some ((-1000000), M)
        else
          (jMd_putAside M).bind fun M3 =>
          (jMd_over p2 p0 1 M3).bind fun w4 =>
          qu2 w4 fun r5 M6 =>
          (jMd_over p2 p1 1 M6).bind fun w7 =>
          qu2 w7 fun r8 M9 =>
          qlt (r5 + r8 : Int32) fun x10 =>
          qlt (qI M9 91 36 (1 <<< (p0 &&& 31))) fun M11 =>
          (jMd_over p2 p0 1 M11).bind fun w12 =>
          qu2 w12 fun r13 M14 =>
          (jMd_over p2 p1 1 M14).bind fun w15 =>
          qu2 w15 fun r16 M17 =>
          qlt ((r13 + r16) - x10 : Int32) fun x18 =>
          (jMd_takeBack M17).bind fun M19 =>
          some (x18, M19)

noncomputable def jMd_seen (p0 : Int32) (M : qM) : Option (Int32 × qM) :=
  if (M.1 91 33 : Int32) = (0 : Int32) then
    some ((-1000000), M)
  else
    if (b2i (jMd_areSeeds p0) : Int32) = (0 : Int32) then
      some ((-1000000), M)
    else
      qlt (M.1 91 29 : Int32) fun x1 =>
      (jMd_putAside M).bind fun M2 =>
      qlt (qI M2 91 29 1) fun M3 =>
      (jMd_over p0 (-1) 2 M3).bind fun w4 =>
      qu2 w4 fun r5 M6 =>
      qlt (qI M6 91 29 0) fun M7 =>
      (jMd_over p0 (-1) 2 M7).bind fun w8 =>
      qu2 w8 fun r9 M10 =>
      qlt (r5 - r9 : Int32) fun x11 =>
      qlt (qI M10 91 29 x1) fun M12 =>
      (jMd_takeBack M12).bind fun M13 =>
      some (x11, M13)

noncomputable def jMd_gainsOf (p0 : Int32) (p1 : Int32) (M : qM) : Option (Int32 × qM) :=
  (qlp (σ := (Int32 × Int32 × qM)) (ρ := (Int32 × qM)) (
    fun q => qu3 q fun x1 x2 M3 =>
    if (p1 : Int32) ≤ (x2 : Int32) then
      some (.inr (x1, M3))
    else
      (jMd_whole ((x2 : Int32).toInt64) M3).bind fun M7 =>
      (qlp (σ := (Int32 × Int32)) (ρ := Int32) (
        fun q => qu2 q fun x8 x9 =>
        (jMd_many M7).bind fun r13 =>
        if (r13 : Int32) ≤ (x9 : Int32) then
          some (.inr x8)
        else
          (jMd_sortOf (M7.1 91 27) x9 M7).bind fun r14 =>
          ((
            if (r14 : Int32) = (p0 : Int32) then
              (jMd_gain x9 M7).bind fun r18 =>
              some r18
            else
              some 0) : Option Int32).bind fun x15 =>
          qlt (x8 + x15 : Int32) fun x16 =>
          qlt (x9 + 1 : Int32) fun x17 =>
          some (.inl (x16, x17))) (x1, 0)).bind fun x10 =>
      qlt (x2 + 1 : Int32) fun x12 =>
      some (.inl (x10, x12, M7))) (0, 0, M)).bind fun r6 =>
  qu2 r6 fun x4 M5 =>
  some (x4, M5)

noncomputable def jMd_isSort (p0 : Int32) (M : qM) : Option Bool :=
  ((
    if (M.1 91 33 : Int32) = (0 : Int32) then
      some false
    else
      (qrI M 103 5 (M.1 91 27)).bind fun v2 =>
      if (b2i (jMd_in p0 0 (v2 - 1)) : Int32) = (0 : Int32) then
        some false
      else
        some true) : Option Bool).bind fun z1 =>
  some z1

noncomputable def jMd_gains (p0 : Int32) (p1 : Int32) (M : qM) : Option (Int32 × qM) :=
  (jMd_isSort p0 M).bind fun r1 =>
  if (b2i r1 : Int32) = (0 : Int32) then
    some ((-1000000), M)
  else
    if (b2i (jMd_areSeeds p1) : Int32) = (0 : Int32) then
      some ((-1000000), M)
    else
      (jMd_putAside M).bind fun M2 =>
      (jMd_gainsOf p0 p1 M2).bind fun w3 =>
      qu2 w3 fun r4 M5 =>
      (jMd_takeBack M5).bind fun M6 =>
      some (r4, M6)

noncomputable def jMd_betterOf (p0 : Int32) (p1 : Int32) (M : qM) : Option (Int32 × qM) :=
  (qrI M 107 6 p0).bind fun v1 =>
  (qlp (σ := (Int32 × Int32 × qM)) (ρ := (Int32 × qM)) (
    fun q => qu3 q fun x2 x3 M4 =>
    if (M4.1 91 13 : Int32) ≤ (x3 : Int32) then
      some (.inr (x2, M4))
    else
      (qwI M4 107 6 p0 x3).bind fun M9 =>
      (jMd_gainsOf p0 p1 M9).bind fun w10 =>
      qu2 w10 fun r11 M12 =>
      qlt ((
        if (x3 : Int32) = (0 : Int32) then
          true
        else
          if (r11 : Int32) ≤ (M12.1 91 68 : Int32) then
            false
          else
            true) : Bool) fun z13 =>
      if z13 = true then
        qlt (qI M12 91 68 r11) fun M14 =>
        qlt (x3 + 1 : Int32) fun x15 =>
        some (.inl (x3, x15, M14))
      else
        qlt (x3 + 1 : Int32) fun x16 =>
        some (.inl (x2, x16, M12))) (0, 0, M)).bind fun r7 =>
  qu2 r7 fun x5 M6 =>
  (qwI M6 107 6 p0 v1).bind fun M8 =>
  some (x5, M8)

noncomputable def jMd_better (p0 : Int32) (p1 : Int32) (M : qM) : Option (Int32 × qM) :=
  (jMd_isSort p0 M).bind fun r1 =>
  if (b2i r1 : Int32) = (0 : Int32) then
    some ((-1), M)
  else
    if (b2i (jMd_areSeeds p1) : Int32) = (0 : Int32) then
      some ((-1), M)
    else
      if (M.1 91 13 : Int32) = (0 : Int32) then
        some ((-1), M)
      else
        (jMd_putAside M).bind fun M2 =>
        (jMd_betterOf p0 p1 M2).bind fun w3 =>
        qu2 w3 fun r4 M5 =>
        (jMd_takeBack M5).bind fun M6 =>
        some (r4, M6)

noncomputable def jMd_agree (p0 : Int32) (M : qM) : Option (Int32 × qM) :=
  if (M.1 91 33 : Int32) = (0 : Int32) then
    some ((-1), M)
  else
    if (b2i (jMd_areSeeds p0) : Int32) = (0 : Int32) then
      some ((-1), M)
    else
      if (M.1 91 13 : Int32) = (0 : Int32) then
        some ((-1), M)
      else
        (jMd_putAside M).bind fun M1 =>
        (qlp (σ := (Int32 × qM)) (ρ := qM) (
          fun q => qu2 q fun x2 M3 =>
          if (6 : Int32) ≤ (x2 : Int32) then
            some (.inr M3)
          else
            (qrI M3 107 6 x2).bind fun v38 =>
            (qwI M3 121 6 x2 v38).bind fun M39 =>
            qlt (x2 + 1 : Int32) fun x40 =>
            some (.inl (x40, M39))) (0, M1)).bind fun M4 =>
        (qlp (σ := (Int32 × Int32 × Int32 × qM)) (ρ := (Int32 × qM)) (
          fun q => qu4 q fun x6 x7 x8 M9 =>
          (qrI M9 103 5 (M9.1 91 27)).bind fun v22 =>
          if (v22 : Int32) ≤ (x7 : Int32) then
            some (.inr (x6, M9))
          else
            if (30 : Int32) < (x6 : Int32) then
              some (.inr (x6, M9))
            else
              (jMd_betterOf x8 p0 M9).bind fun w23 =>
              qu2 w23 fun r24 M25 =>
              (jMd_gainsOf x8 p0 M25).bind fun w26 =>
              qu2 w26 fun r27 M28 =>
              qlt ((
                if (M25.1 91 68 : Int32) ≤ (r27 : Int32) then
                  false
                else
                  true) : Bool) fun z29 =>
              ((
                if (b2i z29 : Int32) = (0 : Int32) then
                  (qrI M28 107 6 x8).bind fun v37 =>
                  some v37
                else
                  some r24) : Option Int32).bind fun x30 =>
              (qwI M28 107 6 x8 x30).bind fun M31 =>
              qlt ((
                if (b2i z29 : Int32) = (0 : Int32) then
                  false
                else
                  true) : Bool) fun z32 =>
              qlt (x6 + (b2i z32) : Int32) fun x33 =>
              qlt ((
                if (b2i z29 : Int32) = (0 : Int32) then
                  x7 + 1
                else
                  0) : Int32) fun x34 =>
              (qrI M31 103 5 (M31.1 91 27)).bind fun v35 =>
              (qrmI (x8 + 1) v35).bind fun v36 =>
              some (.inl (x33, x34, v36, M31))) (0, 0, 0, M4)).bind fun r12 =>
        qu2 r12 fun x10 M11 =>
        (qlp (σ := (Int32 × qM)) (ρ := qM) (
          fun q => qu2 q fun x13 M14 =>
          if (6 : Int32) ≤ (x13 : Int32) then
            some (.inr M14)
          else
            if (x10 : Int32) ≤ (30 : Int32) then
              some (.inr M14)
            else
              (qrI M14 121 6 x13).bind fun v19 =>
              (qwI M14 107 6 x13 v19).bind fun M20 =>
              qlt (x13 + 1 : Int32) fun x21 =>
              some (.inl (x21, M20))) (0, M11)).bind fun M15 =>
        (jMd_takeBack M15).bind fun M17 =>
        qlt ((
          if (x10 : Int32) ≤ (30 : Int32) then
            x10
          else
            (-1)) : Int32) fun x18 =>
        some (x18, M17)

noncomputable def jMd_wayOf (p0 : Int32) (M : qM) : Option Int32 :=
  ((
    if (b2i (jMd_in p0 0 5) : Int32) = (0 : Int32) then
      some (-1)
    else
      (qrI M 107 6 p0).bind fun v2 =>
      some v2) : Option Int32).bind fun x1 =>
  some x1

noncomputable def jMd_mean (M : qM) : Option (Int32 × qM) :=
  if (M.1 91 48 : Int32) = ((-1) : Int32) then
    some ((-1), M)
  else
    (jMd_firstParts M).bind fun M1 =>
    (qlp (σ := (Int64 × Int64 × Int32 × qM)) (ρ := (Int64 × Int64 × qM)) (
      fun q => qu4 q fun x2 x3 x4 M5 =>
      if (M5.1 91 48 : Int32) ≤ (x4 : Int32) then
        some (.inr (x2, x3, M5))
      else
        (jMd_takenIn x4 M5).bind fun r10 =>
        qlt (x3 + (r10 * ((x4 : Int32).toInt64)) : Int64) fun x11 =>
        qlt (x2 - r10 : Int64) fun x12 =>
        (jMd_nextParts (M5.1 91 43) x4 M5).bind fun M13 =>
        qlt (x4 + 1 : Int32) fun x14 =>
        some (.inl (x12, x11, x14, M13))) (1000000000, 0, 0, M1)).bind fun r9 =>
    qu3 r9 fun x6 x7 M8 =>
    some ((((x7 + (x6 * (((M8.1 91 48) : Int32).toInt64))) / 1000) : Int64).toInt32, M8)

noncomputable def jMd_gone (p0 : Int32) (M : qM) : Option (Int64 × qM) :=
  if (b2i (jMd_in p0 0 (M.1 91 48)) : Int32) = (0 : Int32) then
    some ((-1), M)
  else
    (jMd_firstParts M).bind fun M1 =>
    (qlp (σ := (Int32 × qM)) (ρ := qM) (
      fun q => qu2 q fun x2 M3 =>
      if (p0 : Int32) ≤ (x2 : Int32) then
        some (.inr M3)
      else
        (jMd_nextParts (M3.1 91 43) x2 M3).bind fun M13 =>
        qlt (x2 + 1 : Int32) fun x14 =>
        some (.inl (x14, M13))) (0, M1)).bind fun M4 =>
    (qlp (σ := (Int64 × Int32)) (ρ := Int64) (
      fun q => qu2 q fun x6 x7 =>
      if (M4.1 91 43 : Int32) < (x7 : Int32) then
        some (.inr x6)
      else
        (qrJ M4 114 10 x7).bind fun v10 =>
        qlt (x6 + (v10 * ((x7 : Int32).toInt64)) : Int64) fun x11 =>
        qlt (x7 + 1 : Int32) fun x12 =>
        some (.inl (x11, x12))) (0, 0)).bind fun x8 =>
    some (x8, M4)

noncomputable def jMd_takenBy (p0 : Int32) (M : qM) : Option (Int64 × qM) :=
  (jMd_firstParts M).bind fun M1 =>
  (qlp (σ := (Int64 × Int32 × qM)) (ρ := (Int64 × qM)) (
    fun q => qu3 q fun x2 x3 M4 =>
    if (p0 : Int32) < (x3 : Int32) then
      some (.inr (x2, M4))
    else
      (jMd_takenIn x3 M4).bind fun r8 =>
      qlt (x2 + r8 : Int64) fun x9 =>
      (jMd_nextParts (M4.1 91 43) x3 M4).bind fun M10 =>
      qlt (x3 + 1 : Int32) fun x11 =>
      some (.inl (x9, x11, M10))) (0, 0, M1)).bind fun r7 =>
  qu2 r7 fun x5 M6 =>
  some (x5, M6)

noncomputable def jMd_like (p0 : Int32) (M : qM) : Option (Int32 × qM) :=
  if (b2i (jMd_in p0 0 ((M.1 91 48) - 1)) : Int32) = (0 : Int32) then
    some ((-1), M)
  else
    (qlp (σ := (Int32 × Int64 × Int32 × qM)) (ρ := (Int32 × qM)) (
      fun q => qu4 q fun x1 x2 x3 M4 =>
      if (M4.1 91 48 : Int32) ≤ (x3 : Int32) then
        some (.inr (x1, M4))
      else
        (qrI M4 112 12 x3).bind fun v8 =>
        (qlp (σ := (Int32 × Int64 × Int32 × qM)) (ρ := (Int32 × Int64 × qM)) (
          fun q => qu4 q fun x9 x10 x11 M12 =>
          if (10 : Int32) < (x11 : Int32) then
            some (.inr (x9, x10, M12))
          else
            (qwI M12 112 12 x3 x11).bind fun M19 =>
            (jMd_takenBy p0 M19).bind fun w20 =>
            qu2 w20 fun r21 M22 =>
            qlt ((
              if (x9 : Int32) = ((-1) : Int32) then
                true
              else
                if (lg_cmp r21 x10 : Int32) ≤ (0 : Int32) then
                  false
                else
                  true) : Bool) fun z23 =>
            if z23 = true then
              qlt ((11 * x3) + x11 : Int32) fun x24 =>
              qlt (x11 + 1 : Int32) fun x25 =>
              some (.inl (x24, r21, x25, M22))
            else
              qlt (x11 + 1 : Int32) fun x26 =>
              some (.inl (x9, x10, x26, M22))) (x1, x2, 0, M4)).bind fun r16 =>
        qu3 r16 fun x13 x14 M15 =>
        (qwI M15 112 12 x3 v8).bind fun M17 =>
        qlt (x3 + 1 : Int32) fun x18 =>
        some (.inl (x13, x14, x18, M17))) ((-1), 0, 0, M)).bind fun r7 =>
    qu2 r7 fun x5 M6 =>
    some (x5, M6)

noncomputable def jMd_swap (p0 : Int32) (p1 : Int32) (M : qM) : Option (Int32 × qM) :=
  (jMd_isTold p0 M).bind fun r1 =>
  if (b2i r1 : Int32) = (0 : Int32) then
    some ((-1000000), M)
  else
    (jMd_isTold p1 M).bind fun r2 =>
    if (b2i r2 : Int32) = (0 : Int32) then
      some ((-1000000), M)
    else
      if (p0 : Int32) = (p1 : Int32) then
        some ((-1000000), M)
      else
        (jMd_toldGain p0 M).bind fun r3 =>
        (jMd_toldGain p1 M).bind fun r4 =>
        qlt (r3 + r4 : Int32) fun x5 =>
        (qrI M 116 20 p0).bind fun v6 =>
        (qrI M 116 20 p1).bind fun v7 =>
        (qwI M 116 20 p0 v7).bind fun M8 =>
        (qwI M8 116 20 p1 v6).bind fun M9 =>
        (jMd_toldGain p0 M9).bind fun r10 =>
        (jMd_toldGain p1 M9).bind fun r11 =>
        qlt ((r10 + r11) - x5 : Int32) fun x12 =>
        (qwI M9 116 20 p0 v6).bind fun M13 =>
        (qwI M13 116 20 p1 v7).bind fun M14 =>
        some (x12, M14)

noncomputable def jMd_crowd (M : qM) : Option Int32 :=
  (qlp (σ := (Int32 × Int32 × Int32)) (ρ := Int32) (
    fun q => qu3 q fun x1 x2 x3 =>
    if (60 : Int32) < (x3 : Int32) then
      some (.inr x1)
    else
      if (M.1 91 55 : Int32) = ((-1) : Int32) then
        some (.inr x1)
      else
        (qlp (σ := (Int32 × Int32)) (ρ := Int32) (
          fun q => qu2 q fun x6 x7 =>
          (qrI M 104 5 (M.1 91 55)).bind fun v13 =>
          if (v13 : Int32) ≤ (x7 : Int32) then
            some (.inr x6)
          else
            (qrI M 116 20 x7).bind fun v14 =>
            qlt ((
              if (v14 : Int32) = (x3 : Int32) then
                true
              else
                false) : Bool) fun z15 =>
            qlt (x6 + (b2i z15) : Int32) fun x16 =>
            qlt (x7 + 1 : Int32) fun x17 =>
            some (.inl (x16, x17))) (0, 0)).bind fun x8 =>
        qlt ((
          if (x8 : Int32) ≤ (x2 : Int32) then
            x1
          else
            x3) : Int32) fun x10 =>
        qlt (jmaxI x2 x8 : Int32) fun x11 =>
        qlt (x3 + 1 : Int32) fun x12 =>
        some (.inl (x10, x11, x12))) ((-1), 0, 0)).bind fun x4 =>
  some x4

noncomputable def jMd_free (p0 : Int32) (M : qM) : Option (Int32 × qM) :=
  (jMd_isTold p0 M).bind fun r1 =>
  if (b2i r1 : Int32) = (0 : Int32) then
    some ((-1), M)
  else
    (qrI M 116 20 p0).bind fun v2 =>
    (jMd_thingAt (M.1 91 55) (M.1 91 56) 0 M).bind fun r3 =>
    (qlp (σ := (Int32 × Int32 × qM)) (ρ := (Int32 × qM)) (
      fun q => qu3 q fun x4 x5 M6 =>
      if (60 : Int32) < (x5 : Int32) then
        some (.inr (x4, M6))
      else
        if (x4 : Int32) = ((-1) : Int32) then
          (qwI M6 116 20 p0 x5).bind fun M11 =>
          (jMd_toldRank p0 M11).bind fun r12 =>
          (jMd_thingAt (M11.1 91 55) (M11.1 91 56) 1 M11).bind fun r13 =>
          qlt ((
            if (b2i (jMd_in r12 r3 ((r3 + r13) - 1)) : Int32) = (0 : Int32) then
              (-1)
            else
              x5) : Int32) fun x14 =>
          qlt (x5 + 1 : Int32) fun x15 =>
          some (.inl (x14, x15, M11))
        else
          some (.inr (x4, M6))) ((-1), 0, M)).bind fun r9 =>
    qu2 r9 fun x7 M8 =>
    (qwI M8 116 20 p0 v2).bind fun M10 =>
    some (x7, M10)

noncomputable def jMd_count (p0 : Int32) (M : qM) : Option Int32 :=
  if (p0 : Int32) = 0 then
    some (M.1 91 22)
  else
    if (p0 : Int32) = 1 then
      some (M.1 91 13)
    else
      if (p0 : Int32) = 2 then
        some (M.1 91 2)
      else
        if (p0 : Int32) = 3 then
          some (M.1 91 57)
        else
          if (p0 : Int32) = 4 then
            some (M.1 91 48)
          else
            if (p0 : Int32) = 5 then
              ((
                if (M.1 91 33 : Int32) = (0 : Int32) then
                  some (-1)
                else
                  (jMd_many M).bind fun r2 =>
                  some r2) : Option Int32).bind fun x1 =>
              some x1
            else
              if (p0 : Int32) = 6 then
                ((
                  if (M.1 91 55 : Int32) = ((-1) : Int32) then
                    some (-1)
                  else
                    (qrI M 104 5 (M.1 91 55)).bind fun v4 =>
                    some v4) : Option Int32).bind fun x3 =>
                some x3
              else
                some (-1000000)

