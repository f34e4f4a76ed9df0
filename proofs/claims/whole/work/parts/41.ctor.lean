noncomputable def jTp_init (M : qM) : qM :=
  qlt (qR M 1 0 (some 2)) fun M1 =>
  qlt (qI M1 1 1 0) fun M2 =>
  qlt (qI M2 1 2 0) fun M3 =>
  qlt (qI M3 1 3 (-1)) fun M4 =>
  M4

noncomputable def jVr_init (M : qM) : qM :=
  qlt (qR M 3 0 (some 1)) fun M1 =>
  M1

noncomputable def jWr_init (M : qM) : qM :=
  qlt (qR M 4 1 none) fun M1 =>
  qlt (qR M1 4 0 (some 1)) fun M2 =>
  M2

noncomputable def jWy_init (k : Nat) (M : qM) : qM :=
  qlt (qR M k 0 (some (k + 1))) fun M1 =>
  qlt (qR M1 k 1 (some (k + 2))) fun M2 =>
  qlt (qI M2 k 2 0) fun M3 =>
  M3

noncomputable def jCu_init (M : qM) : Option qM :=
  qlt (qR M 6 0 (some 7)) fun M1 =>
  qlt (qI M1 6 1 0) fun M2 =>
  qlt (qR M2 6 2 (some 8)) fun M3 =>
  qlt (qR M3 6 3 (some 9)) fun M4 =>
  qlt (qR M4 6 4 (some 10)) fun M5 =>
  qlt (qR M5 6 5 (some 11)) fun M6 =>
  (M6.2.2 6 0).bind fun a7 =>
  qgd (a7 == 7) (
    (M6.2.2 6 0).bind fun a8 =>
    qgd (a8 == 7) (
      qlt (jWy_init 12 M6) fun M9 =>
      qlt (qR M9 7 (0 : Int32).toNatClampNeg (some 12)) fun M10 =>
      (M10.2.2 6 0).bind fun a11 =>
      qgd (a11 == 7) (
        (M10.2.2 6 0).bind fun a12 =>
        qgd (a12 == 7) (
          qlt (jWy_init 15 M10) fun M13 =>
          qlt (qR M13 7 (1 : Int32).toNatClampNeg (some 15)) fun M14 =>
          (M14.2.2 6 0).bind fun a15 =>
          qgd (a15 == 7) (
            (M14.2.2 6 0).bind fun a16 =>
            qgd (a16 == 7) (
              qlt (jWy_init 18 M14) fun M17 =>
              qlt (qR M17 7 (2 : Int32).toNatClampNeg (some 18)) fun M18 =>
              (M18.2.2 6 0).bind fun a19 =>
              qgd (a19 == 7) (
                (M18.2.2 6 0).bind fun a20 =>
                qgd (a20 == 7) (
                  qlt (jWy_init 21 M18) fun M21 =>
                  qlt (qR M21 7 (3 : Int32).toNatClampNeg (some 21)) fun M22 =>
                  (M22.2.2 6 0).bind fun a23 =>
                  qgd (a23 == 7) (
                    (M22.2.2 6 0).bind fun a24 =>
                    qgd (a24 == 7) (
                      qlt (jWy_init 24 M22) fun M25 =>
                      qlt (qR M25 7 (4 : Int32).toNatClampNeg (some 24)) fun M26 =>
                      (M26.2.2 6 0).bind fun a27 =>
                      qgd (a27 == 7) (
                        (M26.2.2 6 0).bind fun a28 =>
                        qgd (a28 == 7) (
                          qlt (jWy_init 27 M26) fun M29 =>
                          qlt (qR M29 7 (5 : Int32).toNatClampNeg (some 27)) fun M30 =>
                          (M30.2.2 6 0).bind fun a31 =>
                          qgd (a31 == 7) (
                            (M30.2.2 6 0).bind fun a32 =>
                            qgd (a32 == 7) (
                              qlt (jWy_init 30 M30) fun M33 =>
                              qlt (qR M33 7 (6 : Int32).toNatClampNeg (some 30)) fun M34 =>
                              (M34.2.2 6 0).bind fun a35 =>
                              qgd (a35 == 7) (
                                some M34)))))))))))))))

noncomputable def jMo_init (k : Nat) (M : qM) : qM :=
  qlt (qR M k 0 none) fun M1 =>
  qlt (qI M1 k 1 0) fun M2 =>
  qlt (qI M2 k 2 0) fun M3 =>
  qlt (qI M3 k 3 0) fun M4 =>
  qlt (qI M4 k 4 0) fun M5 =>
  qlt (qI M5 k 5 (-1)) fun M6 =>
  qlt (qI M6 k 6 (-1)) fun M7 =>
  qlt (qJ M7 k 7 0) fun M8 =>
  qlt (qI M8 k 8 0) fun M9 =>
  qlt (qI M9 k 9 0) fun M10 =>
  qlt (qI M10 k 10 0) fun M11 =>
  qlt (qI M11 k 11 0) fun M12 =>
  qlt (qI M12 k 12 0) fun M13 =>
  qlt (qI M13 k 13 (-1)) fun M14 =>
  qlt (qI M14 k 14 (-1)) fun M15 =>
  qlt (qR M15 k 15 (some (k + 1))) fun M16 =>
  qlt (qR M16 k 16 (some (k + 2))) fun M17 =>
  qlt (qR M17 k 17 (some (k + 3))) fun M18 =>
  M18

noncomputable def jTa_init (M : qM) : qM :=
  qlt (jMo_init 42 M) fun M1 =>
  qlt (qR M1 41 0 (some 42)) fun M2 =>
  qlt (qR M2 41 1 (some 46)) fun M3 =>
  qlt (qR M3 41 2 (some 47)) fun M4 =>
  qlt (qR M4 41 3 (some 48)) fun M5 =>
  qlt (qI M5 41 4 0) fun M6 =>
  qlt (qI M6 41 5 0) fun M7 =>
  qlt (qI M7 41 6 0) fun M8 =>
  qlt (qI M8 41 7 0) fun M9 =>
  M9

noncomputable def jRo_init (M : qM) : Option qM :=
  qlt (qI M 49 0 0) fun M1 =>
  qlt (qI M1 49 1 0) fun M2 =>
  qlt (qI M2 49 2 0) fun M3 =>
  qlt (qI M3 49 3 0) fun M4 =>
  qlt (qI M4 49 4 0) fun M5 =>
  qlt (qI M5 49 5 0) fun M6 =>
  qlt (qR M6 49 6 (some 50)) fun M7 =>
  qlt (qR M7 49 7 (some 51)) fun M8 =>
  qlt (qR M8 49 8 (some 52)) fun M9 =>
  qlt (qR M9 49 9 (some 53)) fun M10 =>
  qlt (qR M10 49 10 (some 54)) fun M11 =>
  qlt (qR M11 49 11 (some 55)) fun M12 =>
  qlt (qR M12 49 12 (some 56)) fun M13 =>
  qlt (qR M13 49 13 (some 57)) fun M14 =>
  qlt (qR M14 49 14 (some 58)) fun M15 =>
  qlt (qR M15 49 15 (some 59)) fun M16 =>
  qlt (qI M16 49 16 0) fun M17 =>
  qlt (qI M17 49 17 (-1)) fun M18 =>
  (qlp (σ := (Int32 × qM)) (ρ := qM) (
    fun q => qu2 q fun x19 M20 =>
    if (11 : Int32) ≤ (x19 : Int32) then
      some (.inr M20)
    else
      (qlp (σ := (Int64 × Int32 × qM)) (ρ := qM) (
        fun q => qu3 q fun x23 x24 M25 =>
        if (10 : Int32) ≤ (x24 : Int32) then
          some (.inr M25)
        else
          (M25.2.2 49 13).bind fun a29 =>
          qgd (a29 == 57) (
            (qwJ M25 57 110 ((x19 * 10) + x24) x23).bind fun M30 =>
            qlt (x23 * ((x19 : Int32).toInt64) : Int64) fun x31 =>
            qlt (x24 + 1 : Int32) fun x32 =>
            some (.inl (x31, x32, M30)))) (1, 0, M20)).bind fun M26 =>
      qlt (x19 + 1 : Int32) fun x28 =>
      some (.inl (x28, M26))) (0, M18)).bind fun M21 =>
  some M21

noncomputable def jTo_init (M : qM) : qM :=
  qlt (qR M 60 0 none) fun M1 =>
  qlt (qI M1 60 1 0) fun M2 =>
  qlt (qR M2 60 2 (some 61)) fun M3 =>
  qlt (qR M3 60 3 (some 62)) fun M4 =>
  qlt (qR M4 60 4 (some 63)) fun M5 =>
  qlt (qR M5 60 5 (some 64)) fun M6 =>
  M6

noncomputable def jTr_init (M : qM) : qM :=
  qlt (qR M 65 0 (some 66)) fun M1 =>
  qlt (qR M1 65 1 (some 67)) fun M2 =>
  qlt (qR M2 65 2 (some 68)) fun M3 =>
  qlt (qR M3 65 3 (some 69)) fun M4 =>
  qlt (qR M4 65 4 (some 70)) fun M5 =>
  M5

noncomputable def jVi_init (k : Nat) (M : qM) : qM :=
  qlt (qI M k 0 0) fun M1 =>
  qlt (qI M1 k 1 0) fun M2 =>
  qlt (qI M2 k 2 0) fun M3 =>
  qlt (qR M3 k 3 (some (k + 1))) fun M4 =>
  qlt (qR M4 k 4 (some (k + 2))) fun M5 =>
  qlt (qR M5 k 5 (some (k + 3))) fun M6 =>
  M6

noncomputable def jTc_init (M : qM) : Option qM :=
  qlt (jTp_init M) fun M1 =>
  qlt (qR M1 0 0 (some 1)) fun M2 =>
  (M2.2.2 0 0).bind fun a3 =>
  qgd (a3 == 1) (
    qlt (jVr_init M2) fun M4 =>
    qlt (qR M4 0 1 (some 3)) fun M5 =>
    (M5.2.2 0 0).bind fun a6 =>
    qgd (a6 == 1) (
      qlt (jWr_init M5) fun M7 =>
      qlt (qR M7 0 2 (some 4)) fun M8 =>
      qlt (qR M8 0 3 (some 5)) fun M9 =>
      qlt (qI M9 0 4 0) fun M10 =>
      (jCu_init M10).bind fun M11 =>
      qlt (qR M11 0 5 (some 6)) fun M12 =>
      qlt (jMo_init 33 M12) fun M13 =>
      qlt (qR M13 0 6 (some 33)) fun M14 =>
      qlt (jMo_init 37 M14) fun M15 =>
      qlt (qR M15 0 7 (some 37)) fun M16 =>
      qlt (jTa_init M16) fun M17 =>
      qlt (qR M17 0 8 (some 41)) fun M18 =>
      (jRo_init M18).bind fun M19 =>
      qlt (qR M19 0 9 (some 49)) fun M20 =>
      qlt (jTo_init M20) fun M21 =>
      qlt (qR M21 0 10 (some 60)) fun M22 =>
      qlt (jTr_init M22) fun M23 =>
      qlt (qR M23 0 11 (some 65)) fun M24 =>
      qlt (qI M24 0 12 1) fun M25 =>
      (M25.2.2 0 3).bind fun a26 =>
      qgd (a26 == 5) (
        (M25.2.2 0 3).bind fun a27 =>
        qgd (a27 == 5) (
          qlt (jVi_init 71 M25) fun M28 =>
          qlt (qR M28 5 (0 : Int32).toNatClampNeg (some 71)) fun M29 =>
          (M29.2.2 0 3).bind fun a30 =>
          qgd (a30 == 5) (
            (M29.2.2 0 3).bind fun a31 =>
            qgd (a31 == 5) (
              qlt (jVi_init 75 M29) fun M32 =>
              qlt (qR M32 5 (1 : Int32).toNatClampNeg (some 75)) fun M33 =>
              (M33.2.2 0 3).bind fun a34 =>
              qgd (a34 == 5) (
                (M33.2.2 0 3).bind fun a35 =>
                qgd (a35 == 5) (
                  qlt (jVi_init 79 M33) fun M36 =>
                  qlt (qR M36 5 (2 : Int32).toNatClampNeg (some 79)) fun M37 =>
                  (M37.2.2 0 3).bind fun a38 =>
                  qgd (a38 == 5) (
                    (M37.2.2 0 3).bind fun a39 =>
                    qgd (a39 == 5) (
                      qlt (jVi_init 83 M37) fun M40 =>
                      qlt (qR M40 5 (3 : Int32).toNatClampNeg (some 83)) fun M41 =>
                      (M41.2.2 0 3).bind fun a42 =>
                      qgd (a42 == 5) (
                        (M41.2.2 0 3).bind fun a43 =>
                        qgd (a43 == 5) (
                          qlt (jVi_init 87 M41) fun M44 =>
                          qlt (qR M44 5 (4 : Int32).toNatClampNeg (some 87)) fun M45 =>
                          (M45.2.2 0 3).bind fun a46 =>
                          qgd (a46 == 5) (
                            some M45)))))))))))))

noncomputable def jMd_init (M : qM) : qM :=
  qlt (qR M 91 1 (some 92)) fun M1 =>
  qlt (qR M1 91 6 (some 93)) fun M2 =>
  qlt (qR M2 91 7 (some 94)) fun M3 =>
  qlt (qR M3 91 8 (some 95)) fun M4 =>
  qlt (qR M4 91 9 (some 96)) fun M5 =>
  qlt (qR M5 91 10 (some 97)) fun M6 =>
  qlt (qR M6 91 11 (some 98)) fun M7 =>
  qlt (qR M7 91 12 (some 99)) fun M8 =>
  qlt (qR M8 91 15 (some 100)) fun M9 =>
  qlt (qR M9 91 16 (some 101)) fun M10 =>
  qlt (qR M10 91 17 (some 102)) fun M11 =>
  qlt (qR M11 91 18 (some 103)) fun M12 =>
  qlt (qR M12 91 19 (some 104)) fun M13 =>
  qlt (qR M13 91 20 (some 105)) fun M14 =>
  qlt (qR M14 91 21 (some 106)) fun M15 =>
  qlt (qR M15 91 23 (some 107)) fun M16 =>
  qlt (qR M16 91 24 (some 108)) fun M17 =>
  qlt (qR M17 91 25 (some 109)) fun M18 =>
  qlt (qR M18 91 26 (some 110)) fun M19 =>
  qlt (qI M19 91 37 (-1)) fun M20 =>
  qlt (qR M20 91 38 (some 111)) fun M21 =>
  qlt (qI M21 91 48 (-1)) fun M22 =>
  qlt (qR M22 91 49 (some 112)) fun M23 =>
  qlt (qR M23 91 50 (some 113)) fun M24 =>
  qlt (qR M24 91 51 (some 114)) fun M25 =>
  qlt (qR M25 91 52 (some 115)) fun M26 =>
  qlt (qR M26 91 53 (some 116)) fun M27 =>
  qlt (qR M27 91 54 (some 117)) fun M28 =>
  qlt (qI M28 91 55 (-1)) fun M29 =>
  qlt (qI M29 91 57 1) fun M30 =>
  qlt (qR M30 91 58 (some 118)) fun M31 =>
  qlt (qR M31 91 59 (some 119)) fun M32 =>
  qlt (qR M32 91 60 (some 120)) fun M33 =>
  qlt (qI M33 91 64 (-1)) fun M34 =>
  qlt (qR M34 91 69 (some 121)) fun M35 =>
  M35

theorem cw_X0_11 : c_Fw RX0 11 0 0 3 true (.array (.object "ThirdComer$Way")) := ⟨RX0, TX0, 6, tyX0, qc_0, by decide, by decide, q_in _ 109 (by decide +kernel) rfl, by decide, by decide +kernel, rfl⟩
theorem cw_X0_17 : c_Fw RX0 17 0 1 0 false .int := ⟨RX0, TX0, 6, tyX0, qc_0, by decide, by decide, q_in _ 110 (by decide +kernel) rfl, by decide, by decide +kernel, rfl⟩
theorem cw_X0_21 : c_Fw RX0 21 0 2 3 true (.array .int) := ⟨RX0, TX0, 6, tyX0, qc_0, by decide, by decide, q_in _ 113 (by decide +kernel) rfl, by decide, by decide +kernel, rfl⟩
theorem cw_X0_25 : c_Fw RX0 25 0 3 3 true (.array .int) := ⟨RX0, TX0, 6, tyX0, qc_0, by decide, by decide, q_in _ 116 (by decide +kernel) rfl, by decide, by decide +kernel, rfl⟩
theorem cw_X0_28 : c_Fw RX0 28 0 4 3 true (.array .int) := ⟨RX0, TX0, 6, tyX0, qc_0, by decide, by decide, q_in _ 117 (by decide +kernel) rfl, by decide, by decide +kernel, rfl⟩
theorem cw_X0_31 : c_Fw RX0 31 0 5 3 true (.array .int) := ⟨RX0, TX0, 6, tyX0, qc_0, by decide, by decide, q_in _ 119 (by decide +kernel) rfl, by decide, by decide +kernel, rfl⟩
theorem cw_X10_15 : c_Fw RX10 15 10 0 3 true (.object "ThirdComer$Tape") := ⟨RX10, TX10, 2, tyX10, qc_10, by decide, by decide, q_in _ 76 (by decide +kernel) rfl, by decide, by decide +kernel, rfl⟩
theorem cw_X10_9 : c_Fw RX10 9 10 1 2 false (.object "ThirdComer$Way") := ⟨RX10, TX10, 2, tyX10, qc_10, by decide, by decide, q_in _ 77 (by decide +kernel) rfl, by decide, by decide +kernel, rfl⟩
theorem cw_X11_10 : c_Fw RX11 10 11 0 3 true (.object "ThirdComer$Tape") := ⟨RX11, TX11, 13, tyX11, qc_11, by decide, by decide, q_in _ 418 (by decide +kernel) rfl, by decide, by decide +kernel, rfl⟩
theorem cw_X11_21 : c_Fw RX11 21 11 1 3 true (.object "ThirdComer$VillageReader") := ⟨RX11, TX11, 13, tyX11, qc_11, by decide, by decide, q_in _ 419 (by decide +kernel) rfl, by decide, by decide +kernel, rfl⟩
theorem cw_X11_28 : c_Fw RX11 28 11 2 3 true (.object "ThirdComer$WayReader") := ⟨RX11, TX11, 13, tyX11, qc_11, by decide, by decide, q_in _ 420 (by decide +kernel) rfl, by decide, by decide +kernel, rfl⟩
theorem cw_X11_34 : c_Fw RX11 34 11 3 3 true (.array (.object "ThirdComer$Village")) := ⟨RX11, TX11, 13, tyX11, qc_11, by decide, by decide, q_in _ 421 (by decide +kernel) rfl, by decide, by decide +kernel, rfl⟩
theorem cw_X11_38 : c_Fw RX11 38 11 4 0 false .int := ⟨RX11, TX11, 13, tyX11, qc_11, by decide, by decide, q_in _ 422 (by decide +kernel) rfl, by decide, by decide +kernel, rfl⟩
theorem cw_X11_45 : c_Fw RX11 45 11 5 3 true (.object "ThirdComer$Customs") := ⟨RX11, TX11, 13, tyX11, qc_11, by decide, by decide, q_in _ 423 (by decide +kernel) rfl, by decide, by decide +kernel, rfl⟩
theorem cw_X11_52 : c_Fw RX11 52 11 6 3 true (.object "ThirdComer$Morning") := ⟨RX11, TX11, 13, tyX11, qc_11, by decide, by decide, q_in _ 424 (by decide +kernel) rfl, by decide, by decide +kernel, rfl⟩
theorem cw_X11_56 : c_Fw RX11 56 11 7 3 true (.object "ThirdComer$Morning") := ⟨RX11, TX11, 13, tyX11, qc_11, by decide, by decide, q_in _ 425 (by decide +kernel) rfl, by decide, by decide +kernel, rfl⟩
theorem cw_X11_62 : c_Fw RX11 62 11 8 3 true (.object "ThirdComer$Tally") := ⟨RX11, TX11, 13, tyX11, qc_11, by decide, by decide, q_in _ 426 (by decide +kernel) rfl, by decide, by decide +kernel, rfl⟩
theorem cw_X11_69 : c_Fw RX11 69 11 9 3 true (.object "ThirdComer$Row") := ⟨RX11, TX11, 13, tyX11, qc_11, by decide, by decide, q_in _ 427 (by decide +kernel) rfl, by decide, by decide +kernel, rfl⟩
theorem cw_X11_76 : c_Fw RX11 76 11 10 3 true (.object "ThirdComer$Told") := ⟨RX11, TX11, 13, tyX11, qc_11, by decide, by decide, q_in _ 428 (by decide +kernel) rfl, by decide, by decide +kernel, rfl⟩
theorem cw_X11_83 : c_Fw RX11 83 11 11 3 true (.object "ThirdComer$Tour") := ⟨RX11, TX11, 13, tyX11, qc_11, by decide, by decide, q_in _ 429 (by decide +kernel) rfl, by decide, by decide +kernel, rfl⟩
theorem cw_X11_87 : c_Fw RX11 87 11 12 0 false .int := ⟨RX11, TX11, 13, tyX11, qc_11, by decide, by decide, q_in _ 430 (by decide +kernel) rfl, by decide, by decide +kernel, rfl⟩
theorem cw_X12_102 : c_Fw RX12 102 12 58 3 true (.array .int) := ⟨RX12, TX12, 70, tyX12, qc_12, by decide, by decide, q_in _ 1422 (by decide +kernel) rfl, by decide, by decide +kernel, rfl⟩
theorem cw_X12_105 : c_Fw RX12 105 12 59 3 true (.array .int) := ⟨RX12, TX12, 70, tyX12, qc_12, by decide, by decide, q_in _ 1423 (by decide +kernel) rfl, by decide, by decide +kernel, rfl⟩
theorem cw_X12_108 : c_Fw RX12 108 12 60 3 true (.array .int) := ⟨RX12, TX12, 70, tyX12, qc_12, by decide, by decide, q_in _ 1424 (by decide +kernel) rfl, by decide, by decide +kernel, rfl⟩
theorem cw_X12_111 : c_Fw RX12 111 12 64 0 false .int := ⟨RX12, TX12, 70, tyX12, qc_12, by decide, by decide, q_in _ 1428 (by decide +kernel) rfl, by decide, by decide +kernel, rfl⟩
theorem cw_X12_114 : c_Fw RX12 114 12 69 3 true (.array .int) := ⟨RX12, TX12, 70, tyX12, qc_12, by decide, by decide, q_in _ 1433 (by decide +kernel) rfl, by decide, by decide +kernel, rfl⟩
theorem cw_X12_13 : c_Fw RX12 13 12 6 3 true (.array .int) := ⟨RX12, TX12, 70, tyX12, qc_12, by decide, by decide, q_in _ 1370 (by decide +kernel) rfl, by decide, by decide +kernel, rfl⟩
theorem cw_X12_16 : c_Fw RX12 16 12 7 3 true (.array .int) := ⟨RX12, TX12, 70, tyX12, qc_12, by decide, by decide, q_in _ 1371 (by decide +kernel) rfl, by decide, by decide +kernel, rfl⟩
theorem cw_X12_19 : c_Fw RX12 19 12 8 3 true (.array .int) := ⟨RX12, TX12, 70, tyX12, qc_12, by decide, by decide, q_in _ 1372 (by decide +kernel) rfl, by decide, by decide +kernel, rfl⟩
theorem cw_X12_22 : c_Fw RX12 22 12 9 3 true (.array .int) := ⟨RX12, TX12, 70, tyX12, qc_12, by decide, by decide, q_in _ 1373 (by decide +kernel) rfl, by decide, by decide +kernel, rfl⟩
theorem cw_X12_25 : c_Fw RX12 25 12 10 3 true (.array .int) := ⟨RX12, TX12, 70, tyX12, qc_12, by decide, by decide, q_in _ 1374 (by decide +kernel) rfl, by decide, by decide +kernel, rfl⟩
theorem cw_X12_28 : c_Fw RX12 28 12 11 3 true (.array .int) := ⟨RX12, TX12, 70, tyX12, qc_12, by decide, by decide, q_in _ 1375 (by decide +kernel) rfl, by decide, by decide +kernel, rfl⟩
theorem cw_X12_31 : c_Fw RX12 31 12 12 3 true (.array .int) := ⟨RX12, TX12, 70, tyX12, qc_12, by decide, by decide, q_in _ 1376 (by decide +kernel) rfl, by decide, by decide +kernel, rfl⟩
theorem cw_X12_34 : c_Fw RX12 34 12 15 3 true (.array .int) := ⟨RX12, TX12, 70, tyX12, qc_12, by decide, by decide, q_in _ 1379 (by decide +kernel) rfl, by decide, by decide +kernel, rfl⟩
theorem cw_X12_37 : c_Fw RX12 37 12 16 3 true (.array .int) := ⟨RX12, TX12, 70, tyX12, qc_12, by decide, by decide, q_in _ 1380 (by decide +kernel) rfl, by decide, by decide +kernel, rfl⟩
theorem cw_X12_40 : c_Fw RX12 40 12 17 3 true (.array .int) := ⟨RX12, TX12, 70, tyX12, qc_12, by decide, by decide, q_in _ 1381 (by decide +kernel) rfl, by decide, by decide +kernel, rfl⟩
theorem cw_X12_43 : c_Fw RX12 43 12 18 3 true (.array .int) := ⟨RX12, TX12, 70, tyX12, qc_12, by decide, by decide, q_in _ 1382 (by decide +kernel) rfl, by decide, by decide +kernel, rfl⟩
theorem cw_X12_46 : c_Fw RX12 46 12 19 3 true (.array .int) := ⟨RX12, TX12, 70, tyX12, qc_12, by decide, by decide, q_in _ 1383 (by decide +kernel) rfl, by decide, by decide +kernel, rfl⟩
theorem cw_X12_49 : c_Fw RX12 49 12 20 3 true (.array .int) := ⟨RX12, TX12, 70, tyX12, qc_12, by decide, by decide, q_in _ 1384 (by decide +kernel) rfl, by decide, by decide +kernel, rfl⟩
theorem cw_X12_52 : c_Fw RX12 52 12 21 3 true (.array .int) := ⟨RX12, TX12, 70, tyX12, qc_12, by decide, by decide, q_in _ 1385 (by decide +kernel) rfl, by decide, by decide +kernel, rfl⟩
theorem cw_X12_55 : c_Fw RX12 55 12 23 3 true (.array .int) := ⟨RX12, TX12, 70, tyX12, qc_12, by decide, by decide, q_in _ 1387 (by decide +kernel) rfl, by decide, by decide +kernel, rfl⟩
theorem cw_X12_58 : c_Fw RX12 58 12 24 3 true (.array .int) := ⟨RX12, TX12, 70, tyX12, qc_12, by decide, by decide, q_in _ 1388 (by decide +kernel) rfl, by decide, by decide +kernel, rfl⟩
theorem cw_X12_61 : c_Fw RX12 61 12 25 3 true (.array .int) := ⟨RX12, TX12, 70, tyX12, qc_12, by decide, by decide, q_in _ 1389 (by decide +kernel) rfl, by decide, by decide +kernel, rfl⟩
theorem cw_X12_64 : c_Fw RX12 64 12 26 3 true (.array .int) := ⟨RX12, TX12, 70, tyX12, qc_12, by decide, by decide, q_in _ 1390 (by decide +kernel) rfl, by decide, by decide +kernel, rfl⟩
theorem cw_X12_67 : c_Fw RX12 67 12 37 0 false .int := ⟨RX12, TX12, 70, tyX12, qc_12, by decide, by decide, q_in _ 1401 (by decide +kernel) rfl, by decide, by decide +kernel, rfl⟩
theorem cw_X12_71 : c_Fw RX12 71 12 38 3 true (.array .int) := ⟨RX12, TX12, 70, tyX12, qc_12, by decide, by decide, q_in _ 1402 (by decide +kernel) rfl, by decide, by decide +kernel, rfl⟩
theorem cw_X12_74 : c_Fw RX12 74 12 48 0 false .int := ⟨RX12, TX12, 70, tyX12, qc_12, by decide, by decide, q_in _ 1412 (by decide +kernel) rfl, by decide, by decide +kernel, rfl⟩
theorem cw_X12_77 : c_Fw RX12 77 12 49 3 true (.array .int) := ⟨RX12, TX12, 70, tyX12, qc_12, by decide, by decide, q_in _ 1413 (by decide +kernel) rfl, by decide, by decide +kernel, rfl⟩
theorem cw_X12_80 : c_Fw RX12 80 12 50 3 true (.array .int) := ⟨RX12, TX12, 70, tyX12, qc_12, by decide, by decide, q_in _ 1414 (by decide +kernel) rfl, by decide, by decide +kernel, rfl⟩
theorem cw_X12_83 : c_Fw RX12 83 12 51 3 true (.array .long) := ⟨RX12, TX12, 70, tyX12, qc_12, by decide, by decide, q_in _ 1415 (by decide +kernel) rfl, by decide, by decide +kernel, rfl⟩
theorem cw_X12_87 : c_Fw RX12 87 12 52 3 true (.array .long) := ⟨RX12, TX12, 70, tyX12, qc_12, by decide, by decide, q_in _ 1416 (by decide +kernel) rfl, by decide, by decide +kernel, rfl⟩
theorem cw_X12_9 : c_Fw RX12 9 12 1 3 true (.array .int) := ⟨RX12, TX12, 70, tyX12, qc_12, by decide, by decide, q_in _ 1365 (by decide +kernel) rfl, by decide, by decide +kernel, rfl⟩
theorem cw_X12_90 : c_Fw RX12 90 12 53 3 true (.array .int) := ⟨RX12, TX12, 70, tyX12, qc_12, by decide, by decide, q_in _ 1417 (by decide +kernel) rfl, by decide, by decide +kernel, rfl⟩
theorem cw_X12_93 : c_Fw RX12 93 12 54 3 true (.array .int) := ⟨RX12, TX12, 70, tyX12, qc_12, by decide, by decide, q_in _ 1418 (by decide +kernel) rfl, by decide, by decide +kernel, rfl⟩
theorem cw_X12_96 : c_Fw RX12 96 12 55 0 false .int := ⟨RX12, TX12, 70, tyX12, qc_12, by decide, by decide, q_in _ 1419 (by decide +kernel) rfl, by decide, by decide +kernel, rfl⟩
theorem cw_X12_99 : c_Fw RX12 99 12 57 0 false .int := ⟨RX12, TX12, 70, tyX12, qc_12, by decide, by decide, q_in _ 1421 (by decide +kernel) rfl, by decide, by decide +kernel, rfl⟩
theorem cw_X1_15 : c_Fw RX1 15 1 1 0 false .int := ⟨RX1, TX1, 18, tyX1, qc_1, by decide, by decide, q_in _ 143 (by decide +kernel) rfl, by decide, by decide +kernel, rfl⟩
theorem cw_X1_19 : c_Fw RX1 19 1 2 0 false .int := ⟨RX1, TX1, 18, tyX1, qc_1, by decide, by decide, q_in _ 145 (by decide +kernel) rfl, by decide, by decide +kernel, rfl⟩
theorem cw_X1_22 : c_Fw RX1 22 1 3 0 false .int := ⟨RX1, TX1, 18, tyX1, qc_1, by decide, by decide, q_in _ 148 (by decide +kernel) rfl, by decide, by decide +kernel, rfl⟩
theorem cw_X1_25 : c_Fw RX1 25 1 4 0 false .int := ⟨RX1, TX1, 18, tyX1, qc_1, by decide, by decide, q_in _ 150 (by decide +kernel) rfl, by decide, by decide +kernel, rfl⟩
theorem cw_X1_28 : c_Fw RX1 28 1 5 0 false .int := ⟨RX1, TX1, 18, tyX1, qc_1, by decide, by decide, q_in _ 151 (by decide +kernel) rfl, by decide, by decide +kernel, rfl⟩
theorem cw_X1_31 : c_Fw RX1 31 1 6 0 false .int := ⟨RX1, TX1, 18, tyX1, qc_1, by decide, by decide, q_in _ 153 (by decide +kernel) rfl, by decide, by decide +kernel, rfl⟩
theorem cw_X1_34 : c_Fw RX1 34 1 7 1 false .long := ⟨RX1, TX1, 18, tyX1, qc_1, by decide, by decide, q_in _ 155 (by decide +kernel) rfl, by decide, by decide +kernel, rfl⟩
theorem cw_X1_38 : c_Fw RX1 38 1 8 0 false .int := ⟨RX1, TX1, 18, tyX1, qc_1, by decide, by decide, q_in _ 156 (by decide +kernel) rfl, by decide, by decide +kernel, rfl⟩
theorem cw_X1_41 : c_Fw RX1 41 1 9 0 false .int := ⟨RX1, TX1, 18, tyX1, qc_1, by decide, by decide, q_in _ 158 (by decide +kernel) rfl, by decide, by decide +kernel, rfl⟩
theorem cw_X1_44 : c_Fw RX1 44 1 10 0 false .int := ⟨RX1, TX1, 18, tyX1, qc_1, by decide, by decide, q_in _ 160 (by decide +kernel) rfl, by decide, by decide +kernel, rfl⟩
theorem cw_X1_47 : c_Fw RX1 47 1 11 0 false .int := ⟨RX1, TX1, 18, tyX1, qc_1, by decide, by decide, q_in _ 162 (by decide +kernel) rfl, by decide, by decide +kernel, rfl⟩
theorem cw_X1_50 : c_Fw RX1 50 1 12 0 false .boolean := ⟨RX1, TX1, 18, tyX1, qc_1, by decide, by decide, q_in _ 164 (by decide +kernel) rfl, by decide, by decide +kernel, rfl⟩
theorem cw_X1_54 : c_Fw RX1 54 1 13 0 false .int := ⟨RX1, TX1, 18, tyX1, qc_1, by decide, by decide, q_in _ 166 (by decide +kernel) rfl, by decide, by decide +kernel, rfl⟩
theorem cw_X1_57 : c_Fw RX1 57 1 14 0 false .int := ⟨RX1, TX1, 18, tyX1, qc_1, by decide, by decide, q_in _ 169 (by decide +kernel) rfl, by decide, by decide +kernel, rfl⟩
theorem cw_X1_60 : c_Fw RX1 60 1 15 3 true (.array .int) := ⟨RX1, TX1, 18, tyX1, qc_1, by decide, by decide, q_in _ 171 (by decide +kernel) rfl, by decide, by decide +kernel, rfl⟩
theorem cw_X1_64 : c_Fw RX1 64 1 16 3 true (.array .int) := ⟨RX1, TX1, 18, tyX1, qc_1, by decide, by decide, q_in _ 174 (by decide +kernel) rfl, by decide, by decide +kernel, rfl⟩
theorem cw_X1_67 : c_Fw RX1 67 1 17 3 true (.array .int) := ⟨RX1, TX1, 18, tyX1, qc_1, by decide, by decide, q_in _ 176 (by decide +kernel) rfl, by decide, by decide +kernel, rfl⟩
theorem cw_X1_9 : c_Fw RX1 9 1 0 2 false (.object "ThirdComer$Village") := ⟨RX1, TX1, 18, tyX1, qc_1, by decide, by decide, q_in _ 140 (by decide +kernel) rfl, by decide, by decide +kernel, rfl⟩
theorem cw_X2_11 : c_Fw RX2 11 2 0 0 false .int := ⟨RX2, TX2, 18, tyX2, qc_2, by decide, by decide, q_in _ 258 (by decide +kernel) rfl, by decide, by decide +kernel, rfl⟩
theorem cw_X2_15 : c_Fw RX2 15 2 1 0 false .int := ⟨RX2, TX2, 18, tyX2, qc_2, by decide, by decide, q_in _ 259 (by decide +kernel) rfl, by decide, by decide +kernel, rfl⟩
theorem cw_X2_18 : c_Fw RX2 18 2 2 0 false .int := ⟨RX2, TX2, 18, tyX2, qc_2, by decide, by decide, q_in _ 260 (by decide +kernel) rfl, by decide, by decide +kernel, rfl⟩
theorem cw_X2_21 : c_Fw RX2 21 2 3 0 false .int := ⟨RX2, TX2, 18, tyX2, qc_2, by decide, by decide, q_in _ 262 (by decide +kernel) rfl, by decide, by decide +kernel, rfl⟩
theorem cw_X2_24 : c_Fw RX2 24 2 4 0 false .int := ⟨RX2, TX2, 18, tyX2, qc_2, by decide, by decide, q_in _ 264 (by decide +kernel) rfl, by decide, by decide +kernel, rfl⟩
theorem cw_X2_27 : c_Fw RX2 27 2 5 0 false .int := ⟨RX2, TX2, 18, tyX2, qc_2, by decide, by decide, q_in _ 266 (by decide +kernel) rfl, by decide, by decide +kernel, rfl⟩
theorem cw_X2_30 : c_Fw RX2 30 2 6 3 true (.array .int) := ⟨RX2, TX2, 18, tyX2, qc_2, by decide, by decide, q_in _ 268 (by decide +kernel) rfl, by decide, by decide +kernel, rfl⟩
theorem cw_X2_34 : c_Fw RX2 34 2 7 3 true (.array .long) := ⟨RX2, TX2, 18, tyX2, qc_2, by decide, by decide, q_in _ 270 (by decide +kernel) rfl, by decide, by decide +kernel, rfl⟩
theorem cw_X2_38 : c_Fw RX2 38 2 8 3 true (.array .long) := ⟨RX2, TX2, 18, tyX2, qc_2, by decide, by decide, q_in _ 272 (by decide +kernel) rfl, by decide, by decide +kernel, rfl⟩
theorem cw_X2_41 : c_Fw RX2 41 2 9 3 true (.array .long) := ⟨RX2, TX2, 18, tyX2, qc_2, by decide, by decide, q_in _ 274 (by decide +kernel) rfl, by decide, by decide +kernel, rfl⟩
theorem cw_X2_44 : c_Fw RX2 44 2 10 3 true (.array .long) := ⟨RX2, TX2, 18, tyX2, qc_2, by decide, by decide, q_in _ 276 (by decide +kernel) rfl, by decide, by decide +kernel, rfl⟩
theorem cw_X2_47 : c_Fw RX2 47 2 11 2 false (.array .long) := ⟨RX2, TX2, 18, tyX2, qc_2, by decide, by decide, q_in _ 277 (by decide +kernel) rfl, by decide, by decide +kernel, rfl⟩
theorem cw_X2_50 : c_Fw RX2 50 2 12 2 false (.array .long) := ⟨RX2, TX2, 18, tyX2, qc_2, by decide, by decide, q_in _ 278 (by decide +kernel) rfl, by decide, by decide +kernel, rfl⟩
theorem cw_X2_53 : c_Fw RX2 53 2 13 3 true (.array .long) := ⟨RX2, TX2, 18, tyX2, qc_2, by decide, by decide, q_in _ 279 (by decide +kernel) rfl, by decide, by decide +kernel, rfl⟩
theorem cw_X2_56 : c_Fw RX2 56 2 14 3 true (.array .int) := ⟨RX2, TX2, 18, tyX2, qc_2, by decide, by decide, q_in _ 280 (by decide +kernel) rfl, by decide, by decide +kernel, rfl⟩
theorem cw_X2_59 : c_Fw RX2 59 2 15 3 true (.array .int) := ⟨RX2, TX2, 18, tyX2, qc_2, by decide, by decide, q_in _ 281 (by decide +kernel) rfl, by decide, by decide +kernel, rfl⟩
theorem cw_X2_62 : c_Fw RX2 62 2 16 0 false .int := ⟨RX2, TX2, 18, tyX2, qc_2, by decide, by decide, q_in _ 283 (by decide +kernel) rfl, by decide, by decide +kernel, rfl⟩
theorem cw_X2_65 : c_Fw RX2 65 2 17 0 false .int := ⟨RX2, TX2, 18, tyX2, qc_2, by decide, by decide, q_in _ 285 (by decide +kernel) rfl, by decide, by decide +kernel, rfl⟩
theorem cw_X3_12 : c_Fw RX3 12 3 0 3 true (.object "ThirdComer$Morning") := ⟨RX3, TX3, 8, tyX3, qc_3, by decide, by decide, q_in _ 222 (by decide +kernel) rfl, by decide, by decide +kernel, rfl⟩
theorem cw_X3_18 : c_Fw RX3 18 3 1 3 true (.array .int) := ⟨RX3, TX3, 8, tyX3, qc_3, by decide, by decide, q_in _ 224 (by decide +kernel) rfl, by decide, by decide +kernel, rfl⟩
theorem cw_X3_22 : c_Fw RX3 22 3 2 3 true (.array .int) := ⟨RX3, TX3, 8, tyX3, qc_3, by decide, by decide, q_in _ 226 (by decide +kernel) rfl, by decide, by decide +kernel, rfl⟩
theorem cw_X3_25 : c_Fw RX3 25 3 3 3 true (.array .int) := ⟨RX3, TX3, 8, tyX3, qc_3, by decide, by decide, q_in _ 227 (by decide +kernel) rfl, by decide, by decide +kernel, rfl⟩
theorem cw_X3_28 : c_Fw RX3 28 3 4 0 false .int := ⟨RX3, TX3, 8, tyX3, qc_3, by decide, by decide, q_in _ 228 (by decide +kernel) rfl, by decide, by decide +kernel, rfl⟩
theorem cw_X3_32 : c_Fw RX3 32 3 5 0 false .boolean := ⟨RX3, TX3, 8, tyX3, qc_3, by decide, by decide, q_in _ 229 (by decide +kernel) rfl, by decide, by decide +kernel, rfl⟩
theorem cw_X3_36 : c_Fw RX3 36 3 6 0 false .int := ⟨RX3, TX3, 8, tyX3, qc_3, by decide, by decide, q_in _ 231 (by decide +kernel) rfl, by decide, by decide +kernel, rfl⟩
theorem cw_X3_39 : c_Fw RX3 39 3 7 0 false .int := ⟨RX3, TX3, 8, tyX3, qc_3, by decide, by decide, q_in _ 233 (by decide +kernel) rfl, by decide, by decide +kernel, rfl⟩
theorem cw_X4_15 : c_Fw RX4 15 4 1 0 false .int := ⟨RX4, TX4, 4, tyX4, qc_4, by decide, by decide, q_in _ 41 (by decide +kernel) rfl, by decide, by decide +kernel, rfl⟩
theorem cw_X4_19 : c_Fw RX4 19 4 2 0 false .int := ⟨RX4, TX4, 4, tyX4, qc_4, by decide, by decide, q_in _ 44 (by decide +kernel) rfl, by decide, by decide +kernel, rfl⟩
theorem cw_X4_22 : c_Fw RX4 22 4 3 0 false .int := ⟨RX4, TX4, 4, tyX4, qc_4, by decide, by decide, q_in _ 47 (by decide +kernel) rfl, by decide, by decide +kernel, rfl⟩
theorem cw_X4_9 : c_Fw RX4 9 4 0 3 true (.array .int) := ⟨RX4, TX4, 4, tyX4, qc_4, by decide, by decide, q_in _ 40 (by decide +kernel) rfl, by decide, by decide +kernel, rfl⟩
theorem cw_X5_15 : c_Fw RX5 15 5 1 0 false .int := ⟨RX5, TX5, 6, tyX5, qc_5, by decide, by decide, q_in _ 333 (by decide +kernel) rfl, by decide, by decide +kernel, rfl⟩
theorem cw_X5_19 : c_Fw RX5 19 5 2 3 true (.array .int) := ⟨RX5, TX5, 6, tyX5, qc_5, by decide, by decide, q_in _ 334 (by decide +kernel) rfl, by decide, by decide +kernel, rfl⟩
theorem cw_X5_23 : c_Fw RX5 23 5 3 3 true (.array .int) := ⟨RX5, TX5, 6, tyX5, qc_5, by decide, by decide, q_in _ 337 (by decide +kernel) rfl, by decide, by decide +kernel, rfl⟩
theorem cw_X5_26 : c_Fw RX5 26 5 4 3 true (.array .int) := ⟨RX5, TX5, 6, tyX5, qc_5, by decide, by decide, q_in _ 338 (by decide +kernel) rfl, by decide, by decide +kernel, rfl⟩
theorem cw_X5_29 : c_Fw RX5 29 5 5 3 true (.array .int) := ⟨RX5, TX5, 6, tyX5, qc_5, by decide, by decide, q_in _ 339 (by decide +kernel) rfl, by decide, by decide +kernel, rfl⟩
theorem cw_X5_9 : c_Fw RX5 9 5 0 2 false (.object "ThirdComer$Village") := ⟨RX5, TX5, 6, tyX5, qc_5, by decide, by decide, q_in _ 330 (by decide +kernel) rfl, by decide, by decide +kernel, rfl⟩
theorem cw_X6_15 : c_Fw RX6 15 6 1 3 true (.array .int) := ⟨RX6, TX6, 5, tyX6, qc_6, by decide, by decide, q_in _ 361 (by decide +kernel) rfl, by decide, by decide +kernel, rfl⟩
theorem cw_X6_18 : c_Fw RX6 18 6 2 3 true (.array .int) := ⟨RX6, TX6, 5, tyX6, qc_6, by decide, by decide, q_in _ 363 (by decide +kernel) rfl, by decide, by decide +kernel, rfl⟩
theorem cw_X6_21 : c_Fw RX6 21 6 3 2 false (.array .int) := ⟨RX6, TX6, 5, tyX6, qc_6, by decide, by decide, q_in _ 365 (by decide +kernel) rfl, by decide, by decide +kernel, rfl⟩
theorem cw_X6_24 : c_Fw RX6 24 6 4 2 false (.array .int) := ⟨RX6, TX6, 5, tyX6, qc_6, by decide, by decide, q_in _ 366 (by decide +kernel) rfl, by decide, by decide +kernel, rfl⟩
theorem cw_X6_9 : c_Fw RX6 9 6 0 3 true (.array .int) := ⟨RX6, TX6, 5, tyX6, qc_6, by decide, by decide, q_in _ 359 (by decide +kernel) rfl, by decide, by decide +kernel, rfl⟩
theorem cw_X7_15 : c_Fw RX7 15 7 1 0 false .int := ⟨RX7, TX7, 6, tyX7, qc_7, by decide, by decide, q_in _ 387 (by decide +kernel) rfl, by decide, by decide +kernel, rfl⟩
theorem cw_X7_18 : c_Fw RX7 18 7 2 0 false .int := ⟨RX7, TX7, 6, tyX7, qc_7, by decide, by decide, q_in _ 391 (by decide +kernel) rfl, by decide, by decide +kernel, rfl⟩
theorem cw_X7_21 : c_Fw RX7 21 7 3 3 true (.array .int) := ⟨RX7, TX7, 6, tyX7, qc_7, by decide, by decide, q_in _ 397 (by decide +kernel) rfl, by decide, by decide +kernel, rfl⟩
theorem cw_X7_25 : c_Fw RX7 25 7 4 3 true (.array .int) := ⟨RX7, TX7, 6, tyX7, qc_7, by decide, by decide, q_in _ 399 (by decide +kernel) rfl, by decide, by decide +kernel, rfl⟩
theorem cw_X7_28 : c_Fw RX7 28 7 5 3 true (.array .int) := ⟨RX7, TX7, 6, tyX7, qc_7, by decide, by decide, q_in _ 401 (by decide +kernel) rfl, by decide, by decide +kernel, rfl⟩
theorem cw_X7_9 : c_Fw RX7 9 7 0 0 false .int := ⟨RX7, TX7, 6, tyX7, qc_7, by decide, by decide, q_in _ 383 (by decide +kernel) rfl, by decide, by decide +kernel, rfl⟩
theorem cw_X8_9 : c_Fw RX8 9 8 0 3 true (.object "ThirdComer$Tape") := ⟨RX8, TX8, 1, tyX8, qc_8, by decide, by decide, q_in _ 66 (by decide +kernel) rfl, by decide, by decide +kernel, rfl⟩
theorem cw_X9_15 : c_Fw RX9 15 9 1 3 true (.array .int) := ⟨RX9, TX9, 3, tyX9, qc_9, by decide, by decide, q_in _ 99 (by decide +kernel) rfl, by decide, by decide +kernel, rfl⟩
theorem cw_X9_18 : c_Fw RX9 18 9 2 0 false .int := ⟨RX9, TX9, 3, tyX9, qc_9, by decide, by decide, q_in _ 100 (by decide +kernel) rfl, by decide, by decide +kernel, rfl⟩
theorem cw_X9_9 : c_Fw RX9 9 9 0 3 true (.array .int) := ⟨RX9, TX9, 3, tyX9, qc_9, by decide, by decide, q_in _ 98 (by decide +kernel) rfl, by decide, by decide +kernel, rfl⟩
theorem km_X0_init : c_Km yX0_init cX0_init 2 0 := ⟨q_in _ 89 (by decide +kernel) rfl, q_in _ 5 (by decide +kernel) rfl, by decide +kernel, rfl, q_in _ 88 (by decide +kernel) rfl⟩
theorem km_X10_init : c_Km yX10_init cX10_init 2 1 := ⟨q_in _ 74 (by decide +kernel) rfl, q_in _ 4 (by decide +kernel) rfl, by decide +kernel, rfl, q_in _ 73 (by decide +kernel) rfl⟩
theorem km_X1_init : c_Km yX1_init cX1_init 1 0 := ⟨q_in _ 138 (by decide +kernel) rfl, q_in _ 7 (by decide +kernel) rfl, by decide +kernel, rfl, q_in _ 137 (by decide +kernel) rfl⟩
theorem km_X2_init : c_Km yX2_init cX2_init 5 0 := ⟨q_in _ 256 (by decide +kernel) rfl, q_in _ 9 (by decide +kernel) rfl, by decide +kernel, rfl, q_in _ 255 (by decide +kernel) rfl⟩
theorem km_X3_init : c_Km yX3_init cX3_init 1 0 := ⟨q_in _ 218 (by decide +kernel) rfl, q_in _ 8 (by decide +kernel) rfl, by decide +kernel, rfl, q_in _ 217 (by decide +kernel) rfl⟩
theorem km_X4_init : c_Km yX4_init cX4_init 1 0 := ⟨q_in _ 38 (by decide +kernel) rfl, q_in _ 2 (by decide +kernel) rfl, by decide +kernel, rfl, q_in _ 37 (by decide +kernel) rfl⟩
theorem km_X5_init : c_Km yX5_init cX5_init 1 0 := ⟨q_in _ 328 (by decide +kernel) rfl, q_in _ 10 (by decide +kernel) rfl, by decide +kernel, rfl, q_in _ 327 (by decide +kernel) rfl⟩
theorem km_X6_init : c_Km yX6_init cX6_init 1 0 := ⟨q_in _ 357 (by decide +kernel) rfl, q_in _ 11 (by decide +kernel) rfl, by decide +kernel, rfl, q_in _ 356 (by decide +kernel) rfl⟩
theorem km_X7_init : c_Km yX7_init cX7_init 1 0 := ⟨q_in _ 381 (by decide +kernel) rfl, q_in _ 12 (by decide +kernel) rfl, by decide +kernel, rfl, q_in _ 380 (by decide +kernel) rfl⟩
theorem km_X8_init : c_Km yX8_init cX8_init 2 1 := ⟨q_in _ 64 (by decide +kernel) rfl, q_in _ 3 (by decide +kernel) rfl, by decide +kernel, rfl, q_in _ 63 (by decide +kernel) rfl⟩
theorem km_X9_init : c_Km yX9_init cX9_init 1 0 := ⟨q_in _ 96 (by decide +kernel) rfl, q_in _ 6 (by decide +kernel) rfl, by decide +kernel, rfl, q_in _ 95 (by decide +kernel) rfl⟩
theorem qd_0 : ∀ j, j < 6 → defaultValue (tyX0 j) = (match q_tg 0 j with | 0 => Value.int 0 | 1 => Value.long 0 | 2 => Value.null | 3 => Value.null | _ => Value.null) := by decide +kernel
theorem qd_1 : ∀ j, j < 18 → defaultValue (tyX1 j) = (match q_tg 1 j with | 0 => Value.int 0 | 1 => Value.long 0 | 2 => Value.null | 3 => Value.null | _ => Value.null) := by decide +kernel
theorem qd_10 : ∀ j, j < 2 → defaultValue (tyX10 j) = (match q_tg 10 j with | 0 => Value.int 0 | 1 => Value.long 0 | 2 => Value.null | 3 => Value.null | _ => Value.null) := by decide +kernel
theorem qd_2 : ∀ j, j < 18 → defaultValue (tyX2 j) = (match q_tg 2 j with | 0 => Value.int 0 | 1 => Value.long 0 | 2 => Value.null | 3 => Value.null | _ => Value.null) := by decide +kernel
theorem qd_3 : ∀ j, j < 8 → defaultValue (tyX3 j) = (match q_tg 3 j with | 0 => Value.int 0 | 1 => Value.long 0 | 2 => Value.null | 3 => Value.null | _ => Value.null) := by decide +kernel
theorem qd_4 : ∀ j, j < 4 → defaultValue (tyX4 j) = (match q_tg 4 j with | 0 => Value.int 0 | 1 => Value.long 0 | 2 => Value.null | 3 => Value.null | _ => Value.null) := by decide +kernel
theorem qd_5 : ∀ j, j < 6 → defaultValue (tyX5 j) = (match q_tg 5 j with | 0 => Value.int 0 | 1 => Value.long 0 | 2 => Value.null | 3 => Value.null | _ => Value.null) := by decide +kernel
theorem qd_6 : ∀ j, j < 5 → defaultValue (tyX6 j) = (match q_tg 6 j with | 0 => Value.int 0 | 1 => Value.long 0 | 2 => Value.null | 3 => Value.null | _ => Value.null) := by decide +kernel
theorem qd_7 : ∀ j, j < 6 → defaultValue (tyX7 j) = (match q_tg 7 j with | 0 => Value.int 0 | 1 => Value.long 0 | 2 => Value.null | 3 => Value.null | _ => Value.null) := by decide +kernel
theorem qd_8 : ∀ j, j < 1 → defaultValue (tyX8 j) = (match q_tg 8 j with | 0 => Value.int 0 | 1 => Value.long 0 | 2 => Value.null | 3 => Value.null | _ => Value.null) := by decide +kernel
theorem qd_9 : ∀ j, j < 3 → defaultValue (tyX9 j) = (match q_tg 9 j with | 0 => Value.int 0 | 1 => Value.long 0 | 2 => Value.null | 3 => Value.null | _ => Value.null) := by decide +kernel
theorem dX4_init_0 : decode cX4_init 0 = .ok (.aload_n 0, 1) := by decide +kernel
theorem dX4_init_1 : decode cX4_init 1 = .ok (.invokespecial 3, 3) := by decide +kernel
theorem dX4_init_4 : decode cX4_init 4 = .ok (.aload_n 0, 1) := by decide +kernel
theorem dX4_init_5 : decode cX4_init 5 = .ok (.sipush 160, 3) := by decide +kernel
theorem dX4_init_8 : decode cX4_init 8 = .ok (.newarray .int, 2) := by decide +kernel
theorem dX4_init_10 : decode cX4_init 10 = .ok (.putfield 9, 3) := by decide +kernel
theorem dX4_init_13 : decode cX4_init 13 = .ok (.aload_n 0, 1) := by decide +kernel
theorem dX4_init_14 : decode cX4_init 14 = .ok (.iconst 0, 1) := by decide +kernel
theorem dX4_init_15 : decode cX4_init 15 = .ok (.putfield 15, 3) := by decide +kernel
theorem dX4_init_18 : decode cX4_init 18 = .ok (.aload_n 0, 1) := by decide +kernel
theorem dX4_init_19 : decode cX4_init 19 = .ok (.iconst 0, 1) := by decide +kernel
theorem dX4_init_20 : decode cX4_init 20 = .ok (.putfield 19, 3) := by decide +kernel
theorem dX4_init_23 : decode cX4_init 23 = .ok (.aload_n 0, 1) := by decide +kernel
theorem dX4_init_24 : decode cX4_init 24 = .ok (.iconst (-1), 1) := by decide +kernel
theorem dX4_init_25 : decode cX4_init 25 = .ok (.putfield 22, 3) := by decide +kernel
theorem dX4_init_28 : decode cX4_init 28 = .ok (.return_, 1) := by decide +kernel
set_option maxRecDepth 100000 in
set_option maxHeartbeats 4000000 in
theorem ci_X4_init (l : Launch) (X : qX) (B : Nat) {M MR : qM} (hf : jTp_init M = MR) : c_Met l X B yX4_init cX4_init 1 1 1 160 (2) (3) M MR [.ref (X.1 1)] := by
  refine c_enter (by decide) (Nat.le_of_ble_eq_true rfl) rfl ?_
  intro p e s m args below meth c hE hin hrt hlk H locs hH ls hl
  have hx := hE.1
  have hb := hE.2.1
  have hl : lv_has ls 1 [(0, .ref (X.1 1))] := hl
  unfold jTp_init at hf
  refine lv_aload_n hx hb dX4_init_0 rfl (lv_at hl 0 rfl) ?_
  refine cz_obj (rest := []) hE (q_in _ 39 (by decide +kernel) rfl) (q_in _ 32 (by decide +kernel) rfl) (q_in _ 33 (by decide +kernel) rfl) hl.1 (by decide) (Nat.le_of_ble_eq_true rfl) dX4_init_1 ?_
  refine lv_aload_n hx hb dX4_init_4 rfl (lv_at hl 0 rfl) ?_
  refine lv_sipush (v := 160) hx hb dX4_init_5 (by decide) ?_
  refine cz_newI (n := 160) hE hH (by decide) qk_2 (q_in _ 59 (by decide +kernel) rfl) (by decide) (by decide) (by decide) (Nat.le_of_ble_eq_true rfl) (Nat.le_of_ble_eq_true rfl) dX4_init_8 (fun H hH => ?_)
  replace hH : c_H X B (3) M s H locs := hH
  refine W.cs (cells' := 1) (slots' := 160) rfl rfl ?_
  obtain ⟨M1, eM1, hf⟩ := st_lty hf
  refine cz_pR hin hE hH cw_X4_9 (Or.inr rfl) (by decide) qk_1 eM1 ⟨rfl, rfl⟩ dX4_init_10 (fun H locs hH => ?_)
  refine lv_aload_n hx hb dX4_init_13 rfl (lv_at hl 0 rfl) ?_
  refine lv_iconst (v := 0) hx hb dX4_init_14 (by decide) ?_
  obtain ⟨M2, eM2, hf⟩ := st_lty hf
  refine cz_pI hin hE hH cw_X4_15 (by decide) qk_1 eM2 dX4_init_15 (fun H locs hH => ?_)
  refine lv_aload_n hx hb dX4_init_18 rfl (lv_at hl 0 rfl) ?_
  refine lv_iconst (v := 0) hx hb dX4_init_19 (by decide) ?_
  obtain ⟨M3, eM3, hf⟩ := st_lty hf
  refine cz_pI hin hE hH cw_X4_19 (by decide) qk_1 eM3 dX4_init_20 (fun H locs hH => ?_)
  refine lv_aload_n hx hb dX4_init_23 rfl (lv_at hl 0 rfl) ?_
  refine lv_iconst (v := (-1)) hx hb dX4_init_24 (by decide) ?_
  obtain ⟨M4, eM4, hf⟩ := st_lty hf
  refine cz_pI hin hE hH cw_X4_22 (by decide) qk_1 eM4 dX4_init_25 (fun H locs hH => ?_)
  subst hf
  exact cz_ret hE hrt hlk hH (by decide) (by decide) dX4_init_28

theorem dX8_init_0 : decode cX8_init 0 = .ok (.aload_n 0, 1) := by decide +kernel
theorem dX8_init_1 : decode cX8_init 1 = .ok (.invokespecial 3, 3) := by decide +kernel
theorem dX8_init_4 : decode cX8_init 4 = .ok (.aload_n 0, 1) := by decide +kernel
theorem dX8_init_5 : decode cX8_init 5 = .ok (.aload_n 1, 1) := by decide +kernel
theorem dX8_init_6 : decode cX8_init 6 = .ok (.putfield 9, 3) := by decide +kernel
theorem dX8_init_9 : decode cX8_init 9 = .ok (.return_, 1) := by decide +kernel
set_option maxRecDepth 100000 in
set_option maxHeartbeats 4000000 in
theorem ci_X8_init (l : Launch) (X : qX) (B : Nat) {M MR : qM} (hf : jVr_init M = MR) : c_Met l X B yX8_init cX8_init 2 1 0 0 (4) (4) M MR [.ref (X.1 3), .ref (X.1 1)] := by
  refine c_enter (by decide) (Nat.le_of_ble_eq_true rfl) rfl ?_
  intro p e s m args below meth c hE hin hrt hlk H locs hH ls hl
  have hx := hE.1
  have hb := hE.2.1
  have hl : lv_has ls 2 [(0, .ref (X.1 3)), (1, .ref (X.1 1))] := hl
  unfold jVr_init at hf
  refine lv_aload_n hx hb dX8_init_0 rfl (lv_at hl 0 rfl) ?_
  refine cz_obj (rest := []) hE (q_in _ 65 (by decide +kernel) rfl) (q_in _ 32 (by decide +kernel) rfl) (q_in _ 33 (by decide +kernel) rfl) hl.1 (by decide) (Nat.le_of_ble_eq_true rfl) dX8_init_1 ?_
  refine lv_aload_n hx hb dX8_init_4 rfl (lv_at hl 0 rfl) ?_
  refine lv_aload_n hx hb dX8_init_5 rfl (lv_at hl 1 rfl) ?_
  obtain ⟨M1, eM1, hf⟩ := st_lty hf
  refine cz_pR hin hE hH cw_X8_9 (Or.inr rfl) (by decide) qk_3 eM1 ⟨rfl, rfl⟩ dX8_init_6 (fun H locs hH => ?_)
  subst hf
  exact cz_ret hE hrt hlk hH (by decide) (by decide) dX8_init_9

theorem dX10_init_0 : decode cX10_init 0 = .ok (.aload_n 0, 1) := by decide +kernel
theorem dX10_init_1 : decode cX10_init 1 = .ok (.invokespecial 3, 3) := by decide +kernel
theorem dX10_init_4 : decode cX10_init 4 = .ok (.aload_n 0, 1) := by decide +kernel
theorem dX10_init_5 : decode cX10_init 5 = .ok (.aconst_null, 1) := by decide +kernel
theorem dX10_init_6 : decode cX10_init 6 = .ok (.putfield 9, 3) := by decide +kernel
theorem dX10_init_9 : decode cX10_init 9 = .ok (.aload_n 0, 1) := by decide +kernel
theorem dX10_init_10 : decode cX10_init 10 = .ok (.aload_n 1, 1) := by decide +kernel
theorem dX10_init_11 : decode cX10_init 11 = .ok (.putfield 15, 3) := by decide +kernel
theorem dX10_init_14 : decode cX10_init 14 = .ok (.return_, 1) := by decide +kernel
set_option maxRecDepth 100000 in
set_option maxHeartbeats 4000000 in
theorem ci_X10_init (l : Launch) (X : qX) (B : Nat) {M MR : qM} (hf : jWr_init M = MR) : c_Met l X B yX10_init cX10_init 2 1 0 0 (5) (5) M MR [.ref (X.1 4), .ref (X.1 1)] := by
  refine c_enter (by decide) (Nat.le_of_ble_eq_true rfl) rfl ?_
  intro p e s m args below meth c hE hin hrt hlk H locs hH ls hl
  have hx := hE.1
  have hb := hE.2.1
  have hl : lv_has ls 2 [(0, .ref (X.1 4)), (1, .ref (X.1 1))] := hl
  unfold jWr_init at hf
  refine lv_aload_n hx hb dX10_init_0 rfl (lv_at hl 0 rfl) ?_
  refine cz_obj (rest := []) hE (q_in _ 75 (by decide +kernel) rfl) (q_in _ 32 (by decide +kernel) rfl) (q_in _ 33 (by decide +kernel) rfl) hl.1 (by decide) (Nat.le_of_ble_eq_true rfl) dX10_init_1 ?_
  refine lv_aload_n hx hb dX10_init_4 rfl (lv_at hl 0 rfl) ?_
  refine lv_null hx hb dX10_init_5 ?_
  obtain ⟨M1, eM1, hf⟩ := st_lty hf
  refine cz_pN hin hE hH cw_X10_9 (Or.inl rfl) (by decide) qk_4 eM1 ⟨rfl, rfl⟩ dX10_init_6 (fun H locs hH => ?_)
  refine lv_aload_n hx hb dX10_init_9 rfl (lv_at hl 0 rfl) ?_
  refine lv_aload_n hx hb dX10_init_10 rfl (lv_at hl 1 rfl) ?_
  obtain ⟨M2, eM2, hf⟩ := st_lty hf
  refine cz_pR hin hE hH cw_X10_15 (Or.inr rfl) (by decide) qk_4 eM2 ⟨rfl, rfl⟩ dX10_init_11 (fun H locs hH => ?_)
  subst hf
  exact cz_ret hE hrt hlk hH (by decide) (by decide) dX10_init_14

theorem dX9_init_0 : decode cX9_init 0 = .ok (.aload_n 0, 1) := by decide +kernel
theorem dX9_init_1 : decode cX9_init 1 = .ok (.invokespecial 3, 3) := by decide +kernel
theorem dX9_init_4 : decode cX9_init 4 = .ok (.aload_n 0, 1) := by decide +kernel
theorem dX9_init_5 : decode cX9_init 5 = .ok (.sipush 160, 3) := by decide +kernel
theorem dX9_init_8 : decode cX9_init 8 = .ok (.newarray .int, 2) := by decide +kernel
theorem dX9_init_10 : decode cX9_init 10 = .ok (.putfield 9, 3) := by decide +kernel
theorem dX9_init_13 : decode cX9_init 13 = .ok (.aload_n 0, 1) := by decide +kernel
theorem dX9_init_14 : decode cX9_init 14 = .ok (.sipush 160, 3) := by decide +kernel
theorem dX9_init_17 : decode cX9_init 17 = .ok (.newarray .int, 2) := by decide +kernel
theorem dX9_init_19 : decode cX9_init 19 = .ok (.putfield 15, 3) := by decide +kernel
theorem dX9_init_22 : decode cX9_init 22 = .ok (.aload_n 0, 1) := by decide +kernel
theorem dX9_init_23 : decode cX9_init 23 = .ok (.iconst 0, 1) := by decide +kernel
theorem dX9_init_24 : decode cX9_init 24 = .ok (.putfield 18, 3) := by decide +kernel
theorem dX9_init_27 : decode cX9_init 27 = .ok (.return_, 1) := by decide +kernel
set_option maxRecDepth 100000 in
set_option maxHeartbeats 4000000 in
theorem ci_X9_init (l : Launch) (X : qX) (B : Nat) {k : Nat} {M MR : qM} (hk : q_way k = true) (hf : jWy_init k M = MR) : c_Met l X B yX9_init cX9_init 1 1 2 320 (k + 1) (k + 3) M MR [.ref (X.1 k)] := by
  refine c_enter (by decide) (Nat.le_of_ble_eq_true rfl) rfl ?_
  intro p e s m args below meth c hE hin hrt hlk H locs hH ls hl
  have hx := hE.1
  have hb := hE.2.1
  have hl : lv_has ls 1 [(0, .ref (X.1 k))] := hl
  unfold jWy_init at hf
  refine lv_aload_n hx hb dX9_init_0 rfl (lv_at hl 0 rfl) ?_
  refine cz_obj (rest := []) hE (q_in _ 97 (by decide +kernel) rfl) (q_in _ 32 (by decide +kernel) rfl) (q_in _ 33 (by decide +kernel) rfl) hl.1 (by decide) (Nat.le_of_ble_eq_true rfl) dX9_init_1 ?_
  refine lv_aload_n hx hb dX9_init_4 rfl (lv_at hl 0 rfl) ?_
  refine lv_sipush (v := 160) hx hb dX9_init_5 (by decide) ?_
  refine cz_newI (n := 160) hE hH (q_way_1 hk).2.1 (q_way_1 hk) (q_in _ 59 (by decide +kernel) rfl) (by decide) (by decide) (by decide) (Nat.le_of_ble_eq_true rfl) (Nat.le_of_ble_eq_true rfl) dX9_init_8 (fun H hH => ?_)
  replace hH : c_H X B (k + 2) M s H locs := hH
  refine W.cs (cells' := 1) (slots' := 160) rfl rfl ?_
  obtain ⟨M1, eM1, hf⟩ := st_lty hf
  refine cz_pR hin hE hH cw_X9_9 (Or.inr rfl) (by omega) (q_way_0 hk) eM1 ⟨rfl, rfl⟩ dX9_init_10 (fun H locs hH => ?_)
  refine lv_aload_n hx hb dX9_init_13 rfl (lv_at hl 0 rfl) ?_
  refine lv_sipush (v := 160) hx hb dX9_init_14 (by decide) ?_
  refine cz_newI (n := 160) hE hH (q_way_2 hk).2.1 (q_way_2 hk) (q_in _ 59 (by decide +kernel) rfl) (by decide) (by decide) (by decide) (Nat.le_of_ble_eq_true rfl) (Nat.le_of_ble_eq_true rfl) dX9_init_17 (fun H hH => ?_)
  replace hH : c_H X B (k + 3) M1 s H locs := hH
  refine W.cs (cells' := 2) (slots' := 320) rfl rfl ?_
  obtain ⟨M2, eM2, hf⟩ := st_lty hf
  refine cz_pR hin hE hH cw_X9_15 (Or.inr rfl) (by omega) (q_way_0 hk) eM2 ⟨rfl, rfl⟩ dX9_init_19 (fun H locs hH => ?_)
  refine lv_aload_n hx hb dX9_init_22 rfl (lv_at hl 0 rfl) ?_
  refine lv_iconst (v := 0) hx hb dX9_init_23 (by decide) ?_
  obtain ⟨M3, eM3, hf⟩ := st_lty hf
  refine cz_pI hin hE hH cw_X9_18 (by omega) (q_way_0 hk) eM3 dX9_init_24 (fun H locs hH => ?_)
  subst hf
  exact cz_ret hE hrt hlk hH (by decide) (by decide) dX9_init_27

theorem dX0_init_0 : decode cX0_init 0 = .ok (.aload_n 0, 1) := by decide +kernel
theorem dX0_init_1 : decode cX0_init 1 = .ok (.invokespecial 3, 3) := by decide +kernel
theorem dX0_init_4 : decode cX0_init 4 = .ok (.aload_n 0, 1) := by decide +kernel
theorem dX0_init_5 : decode cX0_init 5 = .ok (.bipush 7, 2) := by decide +kernel
theorem dX0_init_7 : decode cX0_init 7 = .ok (.anewarray 9, 3) := by decide +kernel
theorem dX0_init_10 : decode cX0_init 10 = .ok (.putfield 11, 3) := by decide +kernel
theorem dX0_init_13 : decode cX0_init 13 = .ok (.aload_n 0, 1) := by decide +kernel
theorem dX0_init_14 : decode cX0_init 14 = .ok (.iconst 0, 1) := by decide +kernel
theorem dX0_init_15 : decode cX0_init 15 = .ok (.putfield 17, 3) := by decide +kernel
theorem dX0_init_18 : decode cX0_init 18 = .ok (.aload_n 0, 1) := by decide +kernel
theorem dX0_init_19 : decode cX0_init 19 = .ok (.bipush 6, 2) := by decide +kernel
theorem dX0_init_21 : decode cX0_init 21 = .ok (.newarray .int, 2) := by decide +kernel
theorem dX0_init_23 : decode cX0_init 23 = .ok (.putfield 21, 3) := by decide +kernel
theorem dX0_init_26 : decode cX0_init 26 = .ok (.aload_n 0, 1) := by decide +kernel
theorem dX0_init_27 : decode cX0_init 27 = .ok (.bipush 6, 2) := by decide +kernel
theorem dX0_init_29 : decode cX0_init 29 = .ok (.newarray .int, 2) := by decide +kernel
theorem dX0_init_31 : decode cX0_init 31 = .ok (.putfield 25, 3) := by decide +kernel
theorem dX0_init_34 : decode cX0_init 34 = .ok (.aload_n 0, 1) := by decide +kernel
theorem dX0_init_35 : decode cX0_init 35 = .ok (.bipush 8, 2) := by decide +kernel
theorem dX0_init_37 : decode cX0_init 37 = .ok (.newarray .int, 2) := by decide +kernel
theorem dX0_init_39 : decode cX0_init 39 = .ok (.putfield 28, 3) := by decide +kernel
theorem dX0_init_42 : decode cX0_init 42 = .ok (.aload_n 0, 1) := by decide +kernel
theorem dX0_init_43 : decode cX0_init 43 = .ok (.bipush 64, 2) := by decide +kernel
theorem dX0_init_45 : decode cX0_init 45 = .ok (.newarray .int, 2) := by decide +kernel
theorem dX0_init_47 : decode cX0_init 47 = .ok (.putfield 31, 3) := by decide +kernel
theorem dX0_init_50 : decode cX0_init 50 = .ok (.iconst 0, 1) := by decide +kernel
theorem dX0_init_51 : decode cX0_init 51 = .ok (.istore_n 1, 1) := by decide +kernel
theorem dX0_init_52 : decode cX0_init 52 = .ok (.iload_n 1, 1) := by decide +kernel
theorem dX0_init_53 : decode cX0_init 53 = .ok (.aload_n 0, 1) := by decide +kernel
theorem dX0_init_54 : decode cX0_init 54 = .ok (.getfield 11, 3) := by decide +kernel
theorem dX0_init_57 : decode cX0_init 57 = .ok (.arraylength, 1) := by decide +kernel
theorem dX0_init_58 : decode cX0_init 58 = .ok (.if_icmp .ge 22, 3) := by decide +kernel
theorem dX0_init_61 : decode cX0_init 61 = .ok (.aload_n 0, 1) := by decide +kernel
theorem dX0_init_62 : decode cX0_init 62 = .ok (.getfield 11, 3) := by decide +kernel
theorem dX0_init_65 : decode cX0_init 65 = .ok (.iload_n 1, 1) := by decide +kernel
theorem dX0_init_66 : decode cX0_init 66 = .ok (.new 9, 3) := by decide +kernel
theorem dX0_init_69 : decode cX0_init 69 = .ok (.dup, 1) := by decide +kernel
theorem dX0_init_70 : decode cX0_init 70 = .ok (.invokespecial 34, 3) := by decide +kernel
theorem dX0_init_73 : decode cX0_init 73 = .ok (.aastore, 1) := by decide +kernel
theorem dX0_init_74 : decode cX0_init 74 = .ok (.iinc 1 1, 3) := by decide +kernel
theorem dX0_init_77 : decode cX0_init 77 = .ok (.goto (-25), 3) := by decide +kernel
theorem dX0_init_80 : decode cX0_init 80 = .ok (.return_, 1) := by decide +kernel
set_option maxRecDepth 100000 in
set_option maxHeartbeats 4000000 in
theorem ci_X0_init (l : Launch) (X : qX) (B : Nat) {M MR : qM} (hf : jCu_init M = some MR) : c_Met l X B yX0_init cX0_init 2 2 26 2352 (7) (33) M MR [.ref (X.1 6)] := by
  refine c_enter (by decide) (Nat.le_of_ble_eq_true rfl) rfl ?_
  intro p e s m args below meth c hE hin hrt hlk H locs hH ls hl
  have hx := hE.1
  have hb := hE.2.1
  have hl : lv_has ls 2 [(0, .ref (X.1 6))] := hl
  unfold jCu_init at hf
  refine lv_aload_n hx hb dX0_init_0 rfl (lv_at hl 0 rfl) ?_
  refine cz_obj (rest := []) hE (q_in _ 90 (by decide +kernel) rfl) (q_in _ 32 (by decide +kernel) rfl) (q_in _ 33 (by decide +kernel) rfl) hl.1 (by decide) (Nat.le_of_ble_eq_true rfl) dX0_init_1 ?_
  refine lv_aload_n hx hb dX0_init_4 rfl (lv_at hl 0 rfl) ?_
  refine lv_bipush (v := 7) hx hb dX0_init_5 (by decide) ?_
  refine cz_newY (n := 7) hE hH (by decide) qk_7 (q_in _ 91 (by decide +kernel) rfl) (by decide) (by decide) (by decide) (Nat.le_of_ble_eq_true rfl) (Nat.le_of_ble_eq_true rfl) dX0_init_7 (fun H hH => ?_)
  replace hH : c_H X B (8) M s H locs := hH
  refine W.cs (cells' := 1) (slots' := 7) rfl rfl ?_
  obtain ⟨M1, eM1, hf⟩ := st_lty hf
  refine cz_pR hin hE hH cw_X0_11 (Or.inr rfl) (by decide) qk_6 eM1 ⟨rfl, rfl⟩ dX0_init_10 (fun H locs hH => ?_)
  refine lv_aload_n hx hb dX0_init_13 rfl (lv_at hl 0 rfl) ?_
  refine lv_iconst (v := 0) hx hb dX0_init_14 (by decide) ?_
  obtain ⟨M2, eM2, hf⟩ := st_lty hf
  refine cz_pI hin hE hH cw_X0_17 (by decide) qk_6 eM2 dX0_init_15 (fun H locs hH => ?_)
  refine lv_aload_n hx hb dX0_init_18 rfl (lv_at hl 0 rfl) ?_
  refine lv_bipush (v := 6) hx hb dX0_init_19 (by decide) ?_
  refine cz_newI (n := 6) hE hH (by decide) qk_8 (q_in _ 59 (by decide +kernel) rfl) (by decide) (by decide) (by decide) (Nat.le_of_ble_eq_true rfl) (Nat.le_of_ble_eq_true rfl) dX0_init_21 (fun H hH => ?_)
  replace hH : c_H X B (9) M2 s H locs := hH
  refine W.cs (cells' := 2) (slots' := 13) rfl rfl ?_
  obtain ⟨M3, eM3, hf⟩ := st_lty hf
  refine cz_pR hin hE hH cw_X0_21 (Or.inr rfl) (by decide) qk_6 eM3 ⟨rfl, rfl⟩ dX0_init_23 (fun H locs hH => ?_)
  refine lv_aload_n hx hb dX0_init_26 rfl (lv_at hl 0 rfl) ?_
  refine lv_bipush (v := 6) hx hb dX0_init_27 (by decide) ?_
  refine cz_newI (n := 6) hE hH (by decide) qk_9 (q_in _ 59 (by decide +kernel) rfl) (by decide) (by decide) (by decide) (Nat.le_of_ble_eq_true rfl) (Nat.le_of_ble_eq_true rfl) dX0_init_29 (fun H hH => ?_)
  replace hH : c_H X B (10) M3 s H locs := hH
  refine W.cs (cells' := 3) (slots' := 19) rfl rfl ?_
  obtain ⟨M4, eM4, hf⟩ := st_lty hf
  refine cz_pR hin hE hH cw_X0_25 (Or.inr rfl) (by decide) qk_6 eM4 ⟨rfl, rfl⟩ dX0_init_31 (fun H locs hH => ?_)
  refine lv_aload_n hx hb dX0_init_34 rfl (lv_at hl 0 rfl) ?_
  refine lv_bipush (v := 8) hx hb dX0_init_35 (by decide) ?_
  refine cz_newI (n := 8) hE hH (by decide) qk_10 (q_in _ 59 (by decide +kernel) rfl) (by decide) (by decide) (by decide) (Nat.le_of_ble_eq_true rfl) (Nat.le_of_ble_eq_true rfl) dX0_init_37 (fun H hH => ?_)
  replace hH : c_H X B (11) M4 s H locs := hH
  refine W.cs (cells' := 4) (slots' := 27) rfl rfl ?_
  obtain ⟨M5, eM5, hf⟩ := st_lty hf
  refine cz_pR hin hE hH cw_X0_28 (Or.inr rfl) (by decide) qk_6 eM5 ⟨rfl, rfl⟩ dX0_init_39 (fun H locs hH => ?_)
  refine lv_aload_n hx hb dX0_init_42 rfl (lv_at hl 0 rfl) ?_
  refine lv_bipush (v := 64) hx hb dX0_init_43 (by decide) ?_
  refine cz_newI (n := 64) hE hH (by decide) qk_11 (q_in _ 59 (by decide +kernel) rfl) (by decide) (by decide) (by decide) (Nat.le_of_ble_eq_true rfl) (Nat.le_of_ble_eq_true rfl) dX0_init_45 (fun H hH => ?_)
  replace hH : c_H X B (12) M5 s H locs := hH
  refine W.cs (cells' := 5) (slots' := 91) rfl rfl ?_
  obtain ⟨M6, eM6, hf⟩ := st_lty hf
  refine cz_pR hin hE hH cw_X0_31 (Or.inr rfl) (by decide) qk_6 eM6 ⟨rfl, rfl⟩ dX0_init_47 (fun H locs hH => ?_)
  refine lv_iconst (v := 0) hx hb dX0_init_50 (by decide) ?_
  refine lv_istore_n (lv' := [(1, .int 0), (0, .ref (X.1 6))]) hx hb dX0_init_51 rfl hl (by decide) rfl (fun ls hl => ?_)
  refine lv_iload_n hx hb dX0_init_52 rfl (lv_at hl 0 rfl) ?_
  refine lv_aload_n hx hb dX0_init_53 rfl (lv_at hl 1 rfl) ?_
  obtain ⟨a7, ea7, hf⟩ := st_bd hf
  obtain ⟨ga7, hf⟩ := st_gd hf
  rw [eq_of_beq ga7] at ea7
  refine cz_gR hE hH fr_X0_11 (Or.inr rfl) (by decide) qk_6 ea7 dX0_init_54 ?_
  refine cz_alY (v := 7) hE hH (by decide) qk_7 (by decide) dX0_init_57 ?_
  refine lv_icmp_ge (tgt := 80) hx hb dX0_init_58 (by decide) (fun hc => ?_) (fun hc => ?_)
  · exact absurd hc (by decide)
  refine lv_aload_n hx hb dX0_init_61 rfl (lv_at hl 1 rfl) ?_
  obtain ⟨a8, ea8, hf⟩ := st_bd hf
  obtain ⟨ga8, hf⟩ := st_gd hf
  rw [eq_of_beq ga8] at ea8
  refine cz_gR hE hH fr_X0_11 (Or.inr rfl) (by decide) qk_6 ea8 dX0_init_62 ?_
  refine lv_iload_n hx hb dX0_init_65 rfl (lv_at hl 0 rfl) ?_
  refine cz_new hE hH qc_9 (by decide) qk_12 (q_in _ 91 (by decide +kernel) rfl) (q_in _ 93 (by decide +kernel) rfl) (q_in _ 6 (by decide +kernel) rfl) qd_9 (Nat.le_of_ble_eq_true rfl) (Nat.le_of_ble_eq_true rfl) dX0_init_66 (fun H hH => ?_)
  replace hH : c_H X B (13) M6 s H locs := hH
  refine W.cs (cells' := 6) (slots' := 94) rfl rfl ?_
  refine lv_dup hx hb dX0_init_69 rfl ?_
  obtain ⟨M9, eM9, hf⟩ := st_lty hf
  refine cz_callN (As := []) (rest := [.ref (X.1 12), .int 0, .ref (X.1 7)]) 1 hE hH (ci_X9_init l X B (by decide) (hf := eM9.symm)) km_X9_init (by decide) rfl (Nat.le_of_ble_eq_true rfl) (Nat.le_of_ble_eq_true rfl) rfl hl.1 rfl (Nat.le_of_ble_eq_true rfl) (Nat.le_of_ble_eq_true rfl) (Nat.le_of_ble_eq_true rfl) dX0_init_70 (fun H locs hH => ?_)
  replace hH : c_H X B (15) M9 s H locs := hH
  refine W.cs (cells' := 8) (slots' := 414) rfl rfl ?_
  obtain ⟨M10, eM10, hf⟩ := st_lty hf
  refine cz_astY hE hH (by decide) qk_7 (by decide) qk_12 (by decide) eM10 dX0_init_73 (fun H locs hH => ?_)
  refine lv_iinc (v := 1) (lv' := [(1, .int 1), (0, .ref (X.1 6))]) hx hb dX0_init_74 hl (k := 0) rfl (by decide) (by decide) rfl (fun ls hl => ?_)
  refine lv_goto (tgt := 52) hx hb dX0_init_77 (by decide) ?_
  refine lv_iload_n hx hb dX0_init_52 rfl (lv_at hl 0 rfl) ?_
  refine lv_aload_n hx hb dX0_init_53 rfl (lv_at hl 1 rfl) ?_
  obtain ⟨a11, ea11, hf⟩ := st_bd hf
  obtain ⟨ga11, hf⟩ := st_gd hf
  rw [eq_of_beq ga11] at ea11
  refine cz_gR hE hH fr_X0_11 (Or.inr rfl) (by decide) qk_6 ea11 dX0_init_54 ?_
  refine cz_alY (v := 7) hE hH (by decide) qk_7 (by decide) dX0_init_57 ?_
  refine lv_icmp_ge (tgt := 80) hx hb dX0_init_58 (by decide) (fun hc => ?_) (fun hc => ?_)
  · exact absurd hc (by decide)
  refine lv_aload_n hx hb dX0_init_61 rfl (lv_at hl 1 rfl) ?_
  obtain ⟨a12, ea12, hf⟩ := st_bd hf
  obtain ⟨ga12, hf⟩ := st_gd hf
  rw [eq_of_beq ga12] at ea12
  refine cz_gR hE hH fr_X0_11 (Or.inr rfl) (by decide) qk_6 ea12 dX0_init_62 ?_
  refine lv_iload_n hx hb dX0_init_65 rfl (lv_at hl 0 rfl) ?_
  refine cz_new hE hH qc_9 (by decide) qk_15 (q_in _ 91 (by decide +kernel) rfl) (q_in _ 93 (by decide +kernel) rfl) (q_in _ 6 (by decide +kernel) rfl) qd_9 (Nat.le_of_ble_eq_true rfl) (Nat.le_of_ble_eq_true rfl) dX0_init_66 (fun H hH => ?_)
  replace hH : c_H X B (16) M10 s H locs := hH
  refine W.cs (cells' := 9) (slots' := 417) rfl rfl ?_
  refine lv_dup hx hb dX0_init_69 rfl ?_
  obtain ⟨M13, eM13, hf⟩ := st_lty hf
  refine cz_callN (As := []) (rest := [.ref (X.1 15), .int 1, .ref (X.1 7)]) 1 hE hH (ci_X9_init l X B (by decide) (hf := eM13.symm)) km_X9_init (by decide) rfl (Nat.le_of_ble_eq_true rfl) (Nat.le_of_ble_eq_true rfl) rfl hl.1 rfl (Nat.le_of_ble_eq_true rfl) (Nat.le_of_ble_eq_true rfl) (Nat.le_of_ble_eq_true rfl) dX0_init_70 (fun H locs hH => ?_)
  replace hH : c_H X B (18) M13 s H locs := hH
  refine W.cs (cells' := 11) (slots' := 737) rfl rfl ?_
  obtain ⟨M14, eM14, hf⟩ := st_lty hf
  refine cz_astY hE hH (by decide) qk_7 (by decide) qk_15 (by decide) eM14 dX0_init_73 (fun H locs hH => ?_)
  refine lv_iinc (v := 2) (lv' := [(1, .int 2), (0, .ref (X.1 6))]) hx hb dX0_init_74 hl (k := 0) rfl (by decide) (by decide) rfl (fun ls hl => ?_)
  refine lv_goto (tgt := 52) hx hb dX0_init_77 (by decide) ?_
  refine lv_iload_n hx hb dX0_init_52 rfl (lv_at hl 0 rfl) ?_
  refine lv_aload_n hx hb dX0_init_53 rfl (lv_at hl 1 rfl) ?_
  obtain ⟨a15, ea15, hf⟩ := st_bd hf
  obtain ⟨ga15, hf⟩ := st_gd hf
  rw [eq_of_beq ga15] at ea15
  refine cz_gR hE hH fr_X0_11 (Or.inr rfl) (by decide) qk_6 ea15 dX0_init_54 ?_
  refine cz_alY (v := 7) hE hH (by decide) qk_7 (by decide) dX0_init_57 ?_
  refine lv_icmp_ge (tgt := 80) hx hb dX0_init_58 (by decide) (fun hc => ?_) (fun hc => ?_)
  · exact absurd hc (by decide)
  refine lv_aload_n hx hb dX0_init_61 rfl (lv_at hl 1 rfl) ?_
  obtain ⟨a16, ea16, hf⟩ := st_bd hf
  obtain ⟨ga16, hf⟩ := st_gd hf
  rw [eq_of_beq ga16] at ea16
  refine cz_gR hE hH fr_X0_11 (Or.inr rfl) (by decide) qk_6 ea16 dX0_init_62 ?_
  refine lv_iload_n hx hb dX0_init_65 rfl (lv_at hl 0 rfl) ?_
  refine cz_new hE hH qc_9 (by decide) qk_18 (q_in _ 91 (by decide +kernel) rfl) (q_in _ 93 (by decide +kernel) rfl) (q_in _ 6 (by decide +kernel) rfl) qd_9 (Nat.le_of_ble_eq_true rfl) (Nat.le_of_ble_eq_true rfl) dX0_init_66 (fun H hH => ?_)
  replace hH : c_H X B (19) M14 s H locs := hH
  refine W.cs (cells' := 12) (slots' := 740) rfl rfl ?_
  refine lv_dup hx hb dX0_init_69 rfl ?_
  obtain ⟨M17, eM17, hf⟩ := st_lty hf
  refine cz_callN (As := []) (rest := [.ref (X.1 18), .int 2, .ref (X.1 7)]) 1 hE hH (ci_X9_init l X B (by decide) (hf := eM17.symm)) km_X9_init (by decide) rfl (Nat.le_of_ble_eq_true rfl) (Nat.le_of_ble_eq_true rfl) rfl hl.1 rfl (Nat.le_of_ble_eq_true rfl) (Nat.le_of_ble_eq_true rfl) (Nat.le_of_ble_eq_true rfl) dX0_init_70 (fun H locs hH => ?_)
  replace hH : c_H X B (21) M17 s H locs := hH
  refine W.cs (cells' := 14) (slots' := 1060) rfl rfl ?_
  obtain ⟨M18, eM18, hf⟩ := st_lty hf
  refine cz_astY hE hH (by decide) qk_7 (by decide) qk_18 (by decide) eM18 dX0_init_73 (fun H locs hH => ?_)
  refine lv_iinc (v := 3) (lv' := [(1, .int 3), (0, .ref (X.1 6))]) hx hb dX0_init_74 hl (k := 0) rfl (by decide) (by decide) rfl (fun ls hl => ?_)
  refine lv_goto (tgt := 52) hx hb dX0_init_77 (by decide) ?_
  refine lv_iload_n hx hb dX0_init_52 rfl (lv_at hl 0 rfl) ?_
  refine lv_aload_n hx hb dX0_init_53 rfl (lv_at hl 1 rfl) ?_
  obtain ⟨a19, ea19, hf⟩ := st_bd hf
  obtain ⟨ga19, hf⟩ := st_gd hf
  rw [eq_of_beq ga19] at ea19
  refine cz_gR hE hH fr_X0_11 (Or.inr rfl) (by decide) qk_6 ea19 dX0_init_54 ?_
  refine cz_alY (v := 7) hE hH (by decide) qk_7 (by decide) dX0_init_57 ?_
  refine lv_icmp_ge (tgt := 80) hx hb dX0_init_58 (by decide) (fun hc => ?_) (fun hc => ?_)
  · exact absurd hc (by decide)
  refine lv_aload_n hx hb dX0_init_61 rfl (lv_at hl 1 rfl) ?_
  obtain ⟨a20, ea20, hf⟩ := st_bd hf
  obtain ⟨ga20, hf⟩ := st_gd hf
  rw [eq_of_beq ga20] at ea20
  refine cz_gR hE hH fr_X0_11 (Or.inr rfl) (by decide) qk_6 ea20 dX0_init_62 ?_
  refine lv_iload_n hx hb dX0_init_65 rfl (lv_at hl 0 rfl) ?_
  refine cz_new hE hH qc_9 (by decide) qk_21 (q_in _ 91 (by decide +kernel) rfl) (q_in _ 93 (by decide +kernel) rfl) (q_in _ 6 (by decide +kernel) rfl) qd_9 (Nat.le_of_ble_eq_true rfl) (Nat.le_of_ble_eq_true rfl) dX0_init_66 (fun H hH => ?_)
  replace hH : c_H X B (22) M18 s H locs := hH
  refine W.cs (cells' := 15) (slots' := 1063) rfl rfl ?_
  refine lv_dup hx hb dX0_init_69 rfl ?_
  obtain ⟨M21, eM21, hf⟩ := st_lty hf
  refine cz_callN (As := []) (rest := [.ref (X.1 21), .int 3, .ref (X.1 7)]) 1 hE hH (ci_X9_init l X B (by decide) (hf := eM21.symm)) km_X9_init (by decide) rfl (Nat.le_of_ble_eq_true rfl) (Nat.le_of_ble_eq_true rfl) rfl hl.1 rfl (Nat.le_of_ble_eq_true rfl) (Nat.le_of_ble_eq_true rfl) (Nat.le_of_ble_eq_true rfl) dX0_init_70 (fun H locs hH => ?_)
  replace hH : c_H X B (24) M21 s H locs := hH
  refine W.cs (cells' := 17) (slots' := 1383) rfl rfl ?_
  obtain ⟨M22, eM22, hf⟩ := st_lty hf
  refine cz_astY hE hH (by decide) qk_7 (by decide) qk_21 (by decide) eM22 dX0_init_73 (fun H locs hH => ?_)
  refine lv_iinc (v := 4) (lv' := [(1, .int 4), (0, .ref (X.1 6))]) hx hb dX0_init_74 hl (k := 0) rfl (by decide) (by decide) rfl (fun ls hl => ?_)
  refine lv_goto (tgt := 52) hx hb dX0_init_77 (by decide) ?_
  refine lv_iload_n hx hb dX0_init_52 rfl (lv_at hl 0 rfl) ?_
  refine lv_aload_n hx hb dX0_init_53 rfl (lv_at hl 1 rfl) ?_
  obtain ⟨a23, ea23, hf⟩ := st_bd hf
  obtain ⟨ga23, hf⟩ := st_gd hf
  rw [eq_of_beq ga23] at ea23
  refine cz_gR hE hH fr_X0_11 (Or.inr rfl) (by decide) qk_6 ea23 dX0_init_54 ?_
  refine cz_alY (v := 7) hE hH (by decide) qk_7 (by decide) dX0_init_57 ?_
  refine lv_icmp_ge (tgt := 80) hx hb dX0_init_58 (by decide) (fun hc => ?_) (fun hc => ?_)
  · exact absurd hc (by decide)
  refine lv_aload_n hx hb dX0_init_61 rfl (lv_at hl 1 rfl) ?_
  obtain ⟨a24, ea24, hf⟩ := st_bd hf
  obtain ⟨ga24, hf⟩ := st_gd hf
  rw [eq_of_beq ga24] at ea24
  refine cz_gR hE hH fr_X0_11 (Or.inr rfl) (by decide) qk_6 ea24 dX0_init_62 ?_
  refine lv_iload_n hx hb dX0_init_65 rfl (lv_at hl 0 rfl) ?_
  refine cz_new hE hH qc_9 (by decide) qk_24 (q_in _ 91 (by decide +kernel) rfl) (q_in _ 93 (by decide +kernel) rfl) (q_in _ 6 (by decide +kernel) rfl) qd_9 (Nat.le_of_ble_eq_true rfl) (Nat.le_of_ble_eq_true rfl) dX0_init_66 (fun H hH => ?_)
  replace hH : c_H X B (25) M22 s H locs := hH
  refine W.cs (cells' := 18) (slots' := 1386) rfl rfl ?_
  refine lv_dup hx hb dX0_init_69 rfl ?_
  obtain ⟨M25, eM25, hf⟩ := st_lty hf
  refine cz_callN (As := []) (rest := [.ref (X.1 24), .int 4, .ref (X.1 7)]) 1 hE hH (ci_X9_init l X B (by decide) (hf := eM25.symm)) km_X9_init (by decide) rfl (Nat.le_of_ble_eq_true rfl) (Nat.le_of_ble_eq_true rfl) rfl hl.1 rfl (Nat.le_of_ble_eq_true rfl) (Nat.le_of_ble_eq_true rfl) (Nat.le_of_ble_eq_true rfl) dX0_init_70 (fun H locs hH => ?_)
  replace hH : c_H X B (27) M25 s H locs := hH
  refine W.cs (cells' := 20) (slots' := 1706) rfl rfl ?_
  obtain ⟨M26, eM26, hf⟩ := st_lty hf
  refine cz_astY hE hH (by decide) qk_7 (by decide) qk_24 (by decide) eM26 dX0_init_73 (fun H locs hH => ?_)
  refine lv_iinc (v := 5) (lv' := [(1, .int 5), (0, .ref (X.1 6))]) hx hb dX0_init_74 hl (k := 0) rfl (by decide) (by decide) rfl (fun ls hl => ?_)
  refine lv_goto (tgt := 52) hx hb dX0_init_77 (by decide) ?_
  refine lv_iload_n hx hb dX0_init_52 rfl (lv_at hl 0 rfl) ?_
  refine lv_aload_n hx hb dX0_init_53 rfl (lv_at hl 1 rfl) ?_
  obtain ⟨a27, ea27, hf⟩ := st_bd hf
  obtain ⟨ga27, hf⟩ := st_gd hf
  rw [eq_of_beq ga27] at ea27
  refine cz_gR hE hH fr_X0_11 (Or.inr rfl) (by decide) qk_6 ea27 dX0_init_54 ?_
  refine cz_alY (v := 7) hE hH (by decide) qk_7 (by decide) dX0_init_57 ?_
  refine lv_icmp_ge (tgt := 80) hx hb dX0_init_58 (by decide) (fun hc => ?_) (fun hc => ?_)
  · exact absurd hc (by decide)
  refine lv_aload_n hx hb dX0_init_61 rfl (lv_at hl 1 rfl) ?_
  obtain ⟨a28, ea28, hf⟩ := st_bd hf
  obtain ⟨ga28, hf⟩ := st_gd hf
  rw [eq_of_beq ga28] at ea28
  refine cz_gR hE hH fr_X0_11 (Or.inr rfl) (by decide) qk_6 ea28 dX0_init_62 ?_
  refine lv_iload_n hx hb dX0_init_65 rfl (lv_at hl 0 rfl) ?_
  refine cz_new hE hH qc_9 (by decide) qk_27 (q_in _ 91 (by decide +kernel) rfl) (q_in _ 93 (by decide +kernel) rfl) (q_in _ 6 (by decide +kernel) rfl) qd_9 (Nat.le_of_ble_eq_true rfl) (Nat.le_of_ble_eq_true rfl) dX0_init_66 (fun H hH => ?_)
  replace hH : c_H X B (28) M26 s H locs := hH
  refine W.cs (cells' := 21) (slots' := 1709) rfl rfl ?_
  refine lv_dup hx hb dX0_init_69 rfl ?_
  obtain ⟨M29, eM29, hf⟩ := st_lty hf
  refine cz_callN (As := []) (rest := [.ref (X.1 27), .int 5, .ref (X.1 7)]) 1 hE hH (ci_X9_init l X B (by decide) (hf := eM29.symm)) km_X9_init (by decide) rfl (Nat.le_of_ble_eq_true rfl) (Nat.le_of_ble_eq_true rfl) rfl hl.1 rfl (Nat.le_of_ble_eq_true rfl) (Nat.le_of_ble_eq_true rfl) (Nat.le_of_ble_eq_true rfl) dX0_init_70 (fun H locs hH => ?_)
  replace hH : c_H X B (30) M29 s H locs := hH
  refine W.cs (cells' := 23) (slots' := 2029) rfl rfl ?_
  obtain ⟨M30, eM30, hf⟩ := st_lty hf
  refine cz_astY hE hH (by decide) qk_7 (by decide) qk_27 (by decide) eM30 dX0_init_73 (fun H locs hH => ?_)
  refine lv_iinc (v := 6) (lv' := [(1, .int 6), (0, .ref (X.1 6))]) hx hb dX0_init_74 hl (k := 0) rfl (by decide) (by decide) rfl (fun ls hl => ?_)
  refine lv_goto (tgt := 52) hx hb dX0_init_77 (by decide) ?_
  refine lv_iload_n hx hb dX0_init_52 rfl (lv_at hl 0 rfl) ?_
  refine lv_aload_n hx hb dX0_init_53 rfl (lv_at hl 1 rfl) ?_
  obtain ⟨a31, ea31, hf⟩ := st_bd hf
  obtain ⟨ga31, hf⟩ := st_gd hf
  rw [eq_of_beq ga31] at ea31
  refine cz_gR hE hH fr_X0_11 (Or.inr rfl) (by decide) qk_6 ea31 dX0_init_54 ?_
  refine cz_alY (v := 7) hE hH (by decide) qk_7 (by decide) dX0_init_57 ?_
  refine lv_icmp_ge (tgt := 80) hx hb dX0_init_58 (by decide) (fun hc => ?_) (fun hc => ?_)
  · exact absurd hc (by decide)
  refine lv_aload_n hx hb dX0_init_61 rfl (lv_at hl 1 rfl) ?_
  obtain ⟨a32, ea32, hf⟩ := st_bd hf
  obtain ⟨ga32, hf⟩ := st_gd hf
  rw [eq_of_beq ga32] at ea32
  refine cz_gR hE hH fr_X0_11 (Or.inr rfl) (by decide) qk_6 ea32 dX0_init_62 ?_
  refine lv_iload_n hx hb dX0_init_65 rfl (lv_at hl 0 rfl) ?_
  refine cz_new hE hH qc_9 (by decide) qk_30 (q_in _ 91 (by decide +kernel) rfl) (q_in _ 93 (by decide +kernel) rfl) (q_in _ 6 (by decide +kernel) rfl) qd_9 (Nat.le_of_ble_eq_true rfl) (Nat.le_of_ble_eq_true rfl) dX0_init_66 (fun H hH => ?_)
  replace hH : c_H X B (31) M30 s H locs := hH
  refine W.cs (cells' := 24) (slots' := 2032) rfl rfl ?_
  refine lv_dup hx hb dX0_init_69 rfl ?_
  obtain ⟨M33, eM33, hf⟩ := st_lty hf
  refine cz_callN (As := []) (rest := [.ref (X.1 30), .int 6, .ref (X.1 7)]) 1 hE hH (ci_X9_init l X B (by decide) (hf := eM33.symm)) km_X9_init (by decide) rfl (Nat.le_of_ble_eq_true rfl) (Nat.le_of_ble_eq_true rfl) rfl hl.1 rfl (Nat.le_of_ble_eq_true rfl) (Nat.le_of_ble_eq_true rfl) (Nat.le_of_ble_eq_true rfl) dX0_init_70 (fun H locs hH => ?_)
  replace hH : c_H X B (33) M33 s H locs := hH
  refine W.cs (cells' := 26) (slots' := 2352) rfl rfl ?_
  obtain ⟨M34, eM34, hf⟩ := st_lty hf
  refine cz_astY hE hH (by decide) qk_7 (by decide) qk_30 (by decide) eM34 dX0_init_73 (fun H locs hH => ?_)
  refine lv_iinc (v := 7) (lv' := [(1, .int 7), (0, .ref (X.1 6))]) hx hb dX0_init_74 hl (k := 0) rfl (by decide) (by decide) rfl (fun ls hl => ?_)
  refine lv_goto (tgt := 52) hx hb dX0_init_77 (by decide) ?_
  refine lv_iload_n hx hb dX0_init_52 rfl (lv_at hl 0 rfl) ?_
  refine lv_aload_n hx hb dX0_init_53 rfl (lv_at hl 1 rfl) ?_
  obtain ⟨a35, ea35, hf⟩ := st_bd hf
  obtain ⟨ga35, hf⟩ := st_gd hf
  rw [eq_of_beq ga35] at ea35
  refine cz_gR hE hH fr_X0_11 (Or.inr rfl) (by decide) qk_6 ea35 dX0_init_54 ?_
  refine cz_alY (v := 7) hE hH (by decide) qk_7 (by decide) dX0_init_57 ?_
  refine lv_icmp_ge (tgt := 80) hx hb dX0_init_58 (by decide) (fun hc => ?_) (fun hc => ?_)
  rotate_left
  · exact absurd (by decide) hc
  replace hf := Option.some.inj hf
  subst hf
  exact cz_ret hE hrt hlk hH (by decide) (by decide) dX0_init_80

theorem dX1_init_0 : decode cX1_init 0 = .ok (.aload_n 0, 1) := by decide +kernel
theorem dX1_init_1 : decode cX1_init 1 = .ok (.invokespecial 3, 3) := by decide +kernel
theorem dX1_init_4 : decode cX1_init 4 = .ok (.aload_n 0, 1) := by decide +kernel
theorem dX1_init_5 : decode cX1_init 5 = .ok (.aconst_null, 1) := by decide +kernel
theorem dX1_init_6 : decode cX1_init 6 = .ok (.putfield 9, 3) := by decide +kernel
theorem dX1_init_9 : decode cX1_init 9 = .ok (.aload_n 0, 1) := by decide +kernel
theorem dX1_init_10 : decode cX1_init 10 = .ok (.iconst 0, 1) := by decide +kernel
theorem dX1_init_11 : decode cX1_init 11 = .ok (.putfield 15, 3) := by decide +kernel
theorem dX1_init_14 : decode cX1_init 14 = .ok (.aload_n 0, 1) := by decide +kernel
theorem dX1_init_15 : decode cX1_init 15 = .ok (.iconst 0, 1) := by decide +kernel
theorem dX1_init_16 : decode cX1_init 16 = .ok (.putfield 19, 3) := by decide +kernel
theorem dX1_init_19 : decode cX1_init 19 = .ok (.aload_n 0, 1) := by decide +kernel
theorem dX1_init_20 : decode cX1_init 20 = .ok (.iconst 0, 1) := by decide +kernel
theorem dX1_init_21 : decode cX1_init 21 = .ok (.putfield 22, 3) := by decide +kernel
theorem dX1_init_24 : decode cX1_init 24 = .ok (.aload_n 0, 1) := by decide +kernel
theorem dX1_init_25 : decode cX1_init 25 = .ok (.iconst 0, 1) := by decide +kernel
theorem dX1_init_26 : decode cX1_init 26 = .ok (.putfield 25, 3) := by decide +kernel
theorem dX1_init_29 : decode cX1_init 29 = .ok (.aload_n 0, 1) := by decide +kernel
theorem dX1_init_30 : decode cX1_init 30 = .ok (.iconst (-1), 1) := by decide +kernel
theorem dX1_init_31 : decode cX1_init 31 = .ok (.putfield 28, 3) := by decide +kernel
theorem dX1_init_34 : decode cX1_init 34 = .ok (.aload_n 0, 1) := by decide +kernel
theorem dX1_init_35 : decode cX1_init 35 = .ok (.iconst (-1), 1) := by decide +kernel
theorem dX1_init_36 : decode cX1_init 36 = .ok (.putfield 31, 3) := by decide +kernel
theorem dX1_init_39 : decode cX1_init 39 = .ok (.aload_n 0, 1) := by decide +kernel
theorem dX1_init_40 : decode cX1_init 40 = .ok (.lconst 0, 1) := by decide +kernel
theorem dX1_init_41 : decode cX1_init 41 = .ok (.putfield 34, 3) := by decide +kernel
theorem dX1_init_44 : decode cX1_init 44 = .ok (.aload_n 0, 1) := by decide +kernel
theorem dX1_init_45 : decode cX1_init 45 = .ok (.iconst 0, 1) := by decide +kernel
theorem dX1_init_46 : decode cX1_init 46 = .ok (.putfield 38, 3) := by decide +kernel
theorem dX1_init_49 : decode cX1_init 49 = .ok (.aload_n 0, 1) := by decide +kernel
theorem dX1_init_50 : decode cX1_init 50 = .ok (.iconst 0, 1) := by decide +kernel
theorem dX1_init_51 : decode cX1_init 51 = .ok (.putfield 41, 3) := by decide +kernel
theorem dX1_init_54 : decode cX1_init 54 = .ok (.aload_n 0, 1) := by decide +kernel
theorem dX1_init_55 : decode cX1_init 55 = .ok (.iconst 0, 1) := by decide +kernel
theorem dX1_init_56 : decode cX1_init 56 = .ok (.putfield 44, 3) := by decide +kernel
theorem dX1_init_59 : decode cX1_init 59 = .ok (.aload_n 0, 1) := by decide +kernel
theorem dX1_init_60 : decode cX1_init 60 = .ok (.iconst 0, 1) := by decide +kernel
theorem dX1_init_61 : decode cX1_init 61 = .ok (.putfield 47, 3) := by decide +kernel
theorem dX1_init_64 : decode cX1_init 64 = .ok (.aload_n 0, 1) := by decide +kernel
theorem dX1_init_65 : decode cX1_init 65 = .ok (.iconst 0, 1) := by decide +kernel
theorem dX1_init_66 : decode cX1_init 66 = .ok (.putfield 50, 3) := by decide +kernel
theorem dX1_init_69 : decode cX1_init 69 = .ok (.aload_n 0, 1) := by decide +kernel
theorem dX1_init_70 : decode cX1_init 70 = .ok (.iconst (-1), 1) := by decide +kernel
theorem dX1_init_71 : decode cX1_init 71 = .ok (.putfield 54, 3) := by decide +kernel
theorem dX1_init_74 : decode cX1_init 74 = .ok (.aload_n 0, 1) := by decide +kernel
theorem dX1_init_75 : decode cX1_init 75 = .ok (.iconst (-1), 1) := by decide +kernel
theorem dX1_init_76 : decode cX1_init 76 = .ok (.putfield 57, 3) := by decide +kernel
theorem dX1_init_79 : decode cX1_init 79 = .ok (.aload_n 0, 1) := by decide +kernel
theorem dX1_init_80 : decode cX1_init 80 = .ok (.bipush 20, 2) := by decide +kernel
theorem dX1_init_82 : decode cX1_init 82 = .ok (.newarray .int, 2) := by decide +kernel
theorem dX1_init_84 : decode cX1_init 84 = .ok (.putfield 60, 3) := by decide +kernel
theorem dX1_init_87 : decode cX1_init 87 = .ok (.aload_n 0, 1) := by decide +kernel
theorem dX1_init_88 : decode cX1_init 88 = .ok (.bipush 20, 2) := by decide +kernel
theorem dX1_init_90 : decode cX1_init 90 = .ok (.newarray .int, 2) := by decide +kernel
theorem dX1_init_92 : decode cX1_init 92 = .ok (.putfield 64, 3) := by decide +kernel
theorem dX1_init_95 : decode cX1_init 95 = .ok (.aload_n 0, 1) := by decide +kernel
theorem dX1_init_96 : decode cX1_init 96 = .ok (.bipush 6, 2) := by decide +kernel
theorem dX1_init_98 : decode cX1_init 98 = .ok (.newarray .int, 2) := by decide +kernel
theorem dX1_init_100 : decode cX1_init 100 = .ok (.putfield 67, 3) := by decide +kernel
theorem dX1_init_103 : decode cX1_init 103 = .ok (.return_, 1) := by decide +kernel
set_option maxRecDepth 100000 in
set_option maxHeartbeats 4000000 in
theorem ci_X1_init (l : Launch) (X : qX) (B : Nat) {k : Nat} {M MR : qM} (hk : q_mor k = true) (hf : jMo_init k M = MR) : c_Met l X B yX1_init cX1_init 1 1 3 46 (k + 1) (k + 4) M MR [.ref (X.1 k)] := by
  refine c_enter (by decide) (Nat.le_of_ble_eq_true rfl) rfl ?_
  intro p e s m args below meth c hE hin hrt hlk H locs hH ls hl
  have hx := hE.1
  have hb := hE.2.1
  have hl : lv_has ls 1 [(0, .ref (X.1 k))] := hl
  unfold jMo_init at hf
  refine lv_aload_n hx hb dX1_init_0 rfl (lv_at hl 0 rfl) ?_
  refine cz_obj (rest := []) hE (q_in _ 139 (by decide +kernel) rfl) (q_in _ 32 (by decide +kernel) rfl) (q_in _ 33 (by decide +kernel) rfl) hl.1 (by decide) (Nat.le_of_ble_eq_true rfl) dX1_init_1 ?_
  refine lv_aload_n hx hb dX1_init_4 rfl (lv_at hl 0 rfl) ?_
  refine lv_null hx hb dX1_init_5 ?_
  obtain ⟨M1, eM1, hf⟩ := st_lty hf
  refine cz_pN hin hE hH cw_X1_9 (Or.inl rfl) (by omega) (q_mor_0 hk) eM1 ⟨rfl, rfl⟩ dX1_init_6 (fun H locs hH => ?_)
  refine lv_aload_n hx hb dX1_init_9 rfl (lv_at hl 0 rfl) ?_
  refine lv_iconst (v := 0) hx hb dX1_init_10 (by decide) ?_
  obtain ⟨M2, eM2, hf⟩ := st_lty hf
  refine cz_pI hin hE hH cw_X1_15 (by omega) (q_mor_0 hk) eM2 dX1_init_11 (fun H locs hH => ?_)
  refine lv_aload_n hx hb dX1_init_14 rfl (lv_at hl 0 rfl) ?_
  refine lv_iconst (v := 0) hx hb dX1_init_15 (by decide) ?_
  obtain ⟨M3, eM3, hf⟩ := st_lty hf
  refine cz_pI hin hE hH cw_X1_19 (by omega) (q_mor_0 hk) eM3 dX1_init_16 (fun H locs hH => ?_)
  refine lv_aload_n hx hb dX1_init_19 rfl (lv_at hl 0 rfl) ?_
  refine lv_iconst (v := 0) hx hb dX1_init_20 (by decide) ?_
  obtain ⟨M4, eM4, hf⟩ := st_lty hf
  refine cz_pI hin hE hH cw_X1_22 (by omega) (q_mor_0 hk) eM4 dX1_init_21 (fun H locs hH => ?_)
  refine lv_aload_n hx hb dX1_init_24 rfl (lv_at hl 0 rfl) ?_
  refine lv_iconst (v := 0) hx hb dX1_init_25 (by decide) ?_
  obtain ⟨M5, eM5, hf⟩ := st_lty hf
  refine cz_pI hin hE hH cw_X1_25 (by omega) (q_mor_0 hk) eM5 dX1_init_26 (fun H locs hH => ?_)
  refine lv_aload_n hx hb dX1_init_29 rfl (lv_at hl 0 rfl) ?_
  refine lv_iconst (v := (-1)) hx hb dX1_init_30 (by decide) ?_
  obtain ⟨M6, eM6, hf⟩ := st_lty hf
  refine cz_pI hin hE hH cw_X1_28 (by omega) (q_mor_0 hk) eM6 dX1_init_31 (fun H locs hH => ?_)
  refine lv_aload_n hx hb dX1_init_34 rfl (lv_at hl 0 rfl) ?_
  refine lv_iconst (v := (-1)) hx hb dX1_init_35 (by decide) ?_
  obtain ⟨M7, eM7, hf⟩ := st_lty hf
  refine cz_pI hin hE hH cw_X1_31 (by omega) (q_mor_0 hk) eM7 dX1_init_36 (fun H locs hH => ?_)
  refine lv_aload_n hx hb dX1_init_39 rfl (lv_at hl 0 rfl) ?_
  refine lv_lconst (v := 0) hx hb dX1_init_40 (by decide) ?_
  obtain ⟨M8, eM8, hf⟩ := st_lty hf
  refine cz_pJ hin hE hH cw_X1_34 (by omega) (q_mor_0 hk) eM8 dX1_init_41 (fun H locs hH => ?_)
  refine lv_aload_n hx hb dX1_init_44 rfl (lv_at hl 0 rfl) ?_
  refine lv_iconst (v := 0) hx hb dX1_init_45 (by decide) ?_
  obtain ⟨M9, eM9, hf⟩ := st_lty hf
  refine cz_pI hin hE hH cw_X1_38 (by omega) (q_mor_0 hk) eM9 dX1_init_46 (fun H locs hH => ?_)
  refine lv_aload_n hx hb dX1_init_49 rfl (lv_at hl 0 rfl) ?_
  refine lv_iconst (v := 0) hx hb dX1_init_50 (by decide) ?_
  obtain ⟨M10, eM10, hf⟩ := st_lty hf
  refine cz_pI hin hE hH cw_X1_41 (by omega) (q_mor_0 hk) eM10 dX1_init_51 (fun H locs hH => ?_)
  refine lv_aload_n hx hb dX1_init_54 rfl (lv_at hl 0 rfl) ?_
  refine lv_iconst (v := 0) hx hb dX1_init_55 (by decide) ?_
  obtain ⟨M11, eM11, hf⟩ := st_lty hf
  refine cz_pI hin hE hH cw_X1_44 (by omega) (q_mor_0 hk) eM11 dX1_init_56 (fun H locs hH => ?_)
  refine lv_aload_n hx hb dX1_init_59 rfl (lv_at hl 0 rfl) ?_
  refine lv_iconst (v := 0) hx hb dX1_init_60 (by decide) ?_
  obtain ⟨M12, eM12, hf⟩ := st_lty hf
  refine cz_pI hin hE hH cw_X1_47 (by omega) (q_mor_0 hk) eM12 dX1_init_61 (fun H locs hH => ?_)
  refine lv_aload_n hx hb dX1_init_64 rfl (lv_at hl 0 rfl) ?_
  refine lv_iconst (v := 0) hx hb dX1_init_65 (by decide) ?_
  obtain ⟨M13, eM13, hf⟩ := st_lty hf
  refine cz_pZ hin hE hH cw_X1_50 (by omega) (q_mor_0 hk) ⟨rfl, rfl⟩ eM13 dX1_init_66 (fun H locs hH => ?_)
  refine lv_aload_n hx hb dX1_init_69 rfl (lv_at hl 0 rfl) ?_
  refine lv_iconst (v := (-1)) hx hb dX1_init_70 (by decide) ?_
  obtain ⟨M14, eM14, hf⟩ := st_lty hf
  refine cz_pI hin hE hH cw_X1_54 (by omega) (q_mor_0 hk) eM14 dX1_init_71 (fun H locs hH => ?_)
  refine lv_aload_n hx hb dX1_init_74 rfl (lv_at hl 0 rfl) ?_
  refine lv_iconst (v := (-1)) hx hb dX1_init_75 (by decide) ?_
  obtain ⟨M15, eM15, hf⟩ := st_lty hf
  refine cz_pI hin hE hH cw_X1_57 (by omega) (q_mor_0 hk) eM15 dX1_init_76 (fun H locs hH => ?_)
  refine lv_aload_n hx hb dX1_init_79 rfl (lv_at hl 0 rfl) ?_
  refine lv_bipush (v := 20) hx hb dX1_init_80 (by decide) ?_
  refine cz_newI (n := 20) hE hH (q_mor_1 hk).2.1 (q_mor_1 hk) (q_in _ 59 (by decide +kernel) rfl) (by decide) (by decide) (by decide) (Nat.le_of_ble_eq_true rfl) (Nat.le_of_ble_eq_true rfl) dX1_init_82 (fun H hH => ?_)
  replace hH : c_H X B (k + 2) M15 s H locs := hH
  refine W.cs (cells' := 1) (slots' := 20) rfl rfl ?_
  obtain ⟨M16, eM16, hf⟩ := st_lty hf
  refine cz_pR hin hE hH cw_X1_60 (Or.inr rfl) (by omega) (q_mor_0 hk) eM16 ⟨rfl, rfl⟩ dX1_init_84 (fun H locs hH => ?_)
  refine lv_aload_n hx hb dX1_init_87 rfl (lv_at hl 0 rfl) ?_
  refine lv_bipush (v := 20) hx hb dX1_init_88 (by decide) ?_
  refine cz_newI (n := 20) hE hH (q_mor_2 hk).2.1 (q_mor_2 hk) (q_in _ 59 (by decide +kernel) rfl) (by decide) (by decide) (by decide) (Nat.le_of_ble_eq_true rfl) (Nat.le_of_ble_eq_true rfl) dX1_init_90 (fun H hH => ?_)
  replace hH : c_H X B (k + 3) M16 s H locs := hH
  refine W.cs (cells' := 2) (slots' := 40) rfl rfl ?_
  obtain ⟨M17, eM17, hf⟩ := st_lty hf
  refine cz_pR hin hE hH cw_X1_64 (Or.inr rfl) (by omega) (q_mor_0 hk) eM17 ⟨rfl, rfl⟩ dX1_init_92 (fun H locs hH => ?_)
  refine lv_aload_n hx hb dX1_init_95 rfl (lv_at hl 0 rfl) ?_
  refine lv_bipush (v := 6) hx hb dX1_init_96 (by decide) ?_
  refine cz_newI (n := 6) hE hH (q_mor_3 hk).2.1 (q_mor_3 hk) (q_in _ 59 (by decide +kernel) rfl) (by decide) (by decide) (by decide) (Nat.le_of_ble_eq_true rfl) (Nat.le_of_ble_eq_true rfl) dX1_init_98 (fun H hH => ?_)
  replace hH : c_H X B (k + 4) M17 s H locs := hH
  refine W.cs (cells' := 3) (slots' := 46) rfl rfl ?_
  obtain ⟨M18, eM18, hf⟩ := st_lty hf
  refine cz_pR hin hE hH cw_X1_67 (Or.inr rfl) (by omega) (q_mor_0 hk) eM18 ⟨rfl, rfl⟩ dX1_init_100 (fun H locs hH => ?_)
  subst hf
  exact cz_ret hE hrt hlk hH (by decide) (by decide) dX1_init_103

theorem dX3_init_0 : decode cX3_init 0 = .ok (.aload_n 0, 1) := by decide +kernel
theorem dX3_init_1 : decode cX3_init 1 = .ok (.invokespecial 3, 3) := by decide +kernel
theorem dX3_init_4 : decode cX3_init 4 = .ok (.aload_n 0, 1) := by decide +kernel
theorem dX3_init_5 : decode cX3_init 5 = .ok (.new 9, 3) := by decide +kernel
theorem dX3_init_8 : decode cX3_init 8 = .ok (.dup, 1) := by decide +kernel
theorem dX3_init_9 : decode cX3_init 9 = .ok (.invokespecial 11, 3) := by decide +kernel
theorem dX3_init_12 : decode cX3_init 12 = .ok (.putfield 12, 3) := by decide +kernel
theorem dX3_init_15 : decode cX3_init 15 = .ok (.aload_n 0, 1) := by decide +kernel
theorem dX3_init_16 : decode cX3_init 16 = .ok (.bipush 20, 2) := by decide +kernel
theorem dX3_init_18 : decode cX3_init 18 = .ok (.newarray .int, 2) := by decide +kernel
theorem dX3_init_20 : decode cX3_init 20 = .ok (.putfield 18, 3) := by decide +kernel
theorem dX3_init_23 : decode cX3_init 23 = .ok (.aload_n 0, 1) := by decide +kernel
theorem dX3_init_24 : decode cX3_init 24 = .ok (.bipush 40, 2) := by decide +kernel
theorem dX3_init_26 : decode cX3_init 26 = .ok (.newarray .int, 2) := by decide +kernel
theorem dX3_init_28 : decode cX3_init 28 = .ok (.putfield 22, 3) := by decide +kernel
theorem dX3_init_31 : decode cX3_init 31 = .ok (.aload_n 0, 1) := by decide +kernel
theorem dX3_init_32 : decode cX3_init 32 = .ok (.bipush 40, 2) := by decide +kernel
theorem dX3_init_34 : decode cX3_init 34 = .ok (.newarray .int, 2) := by decide +kernel
theorem dX3_init_36 : decode cX3_init 36 = .ok (.putfield 25, 3) := by decide +kernel
theorem dX3_init_39 : decode cX3_init 39 = .ok (.aload_n 0, 1) := by decide +kernel
theorem dX3_init_40 : decode cX3_init 40 = .ok (.iconst 0, 1) := by decide +kernel
theorem dX3_init_41 : decode cX3_init 41 = .ok (.putfield 28, 3) := by decide +kernel
theorem dX3_init_44 : decode cX3_init 44 = .ok (.aload_n 0, 1) := by decide +kernel
theorem dX3_init_45 : decode cX3_init 45 = .ok (.iconst 0, 1) := by decide +kernel
theorem dX3_init_46 : decode cX3_init 46 = .ok (.putfield 32, 3) := by decide +kernel
theorem dX3_init_49 : decode cX3_init 49 = .ok (.aload_n 0, 1) := by decide +kernel
theorem dX3_init_50 : decode cX3_init 50 = .ok (.iconst 0, 1) := by decide +kernel
theorem dX3_init_51 : decode cX3_init 51 = .ok (.putfield 36, 3) := by decide +kernel
theorem dX3_init_54 : decode cX3_init 54 = .ok (.aload_n 0, 1) := by decide +kernel
theorem dX3_init_55 : decode cX3_init 55 = .ok (.iconst 0, 1) := by decide +kernel
theorem dX3_init_56 : decode cX3_init 56 = .ok (.putfield 39, 3) := by decide +kernel
theorem dX3_init_59 : decode cX3_init 59 = .ok (.return_, 1) := by decide +kernel
set_option maxRecDepth 100000 in
set_option maxHeartbeats 4000000 in
theorem ci_X3_init (l : Launch) (X : qX) (B : Nat) {M MR : qM} (hf : jTa_init M = MR) : c_Met l X B yX3_init cX3_init 1 2 7 164 (42) (49) M MR [.ref (X.1 41)] := by
  refine c_enter (by decide) (Nat.le_of_ble_eq_true rfl) rfl ?_
  intro p e s m args below meth c hE hin hrt hlk H locs hH ls hl
  have hx := hE.1
  have hb := hE.2.1
  have hl : lv_has ls 1 [(0, .ref (X.1 41))] := hl
  unfold jTa_init at hf
  refine lv_aload_n hx hb dX3_init_0 rfl (lv_at hl 0 rfl) ?_
  refine cz_obj (rest := []) hE (q_in _ 219 (by decide +kernel) rfl) (q_in _ 32 (by decide +kernel) rfl) (q_in _ 33 (by decide +kernel) rfl) hl.1 (by decide) (Nat.le_of_ble_eq_true rfl) dX3_init_1 ?_
  refine lv_aload_n hx hb dX3_init_4 rfl (lv_at hl 0 rfl) ?_
  refine cz_new hE hH qc_1 (by decide) qk_42 (q_in _ 220 (by decide +kernel) rfl) (q_in _ 135 (by decide +kernel) rfl) (q_in _ 7 (by decide +kernel) rfl) qd_1 (Nat.le_of_ble_eq_true rfl) (Nat.le_of_ble_eq_true rfl) dX3_init_5 (fun H hH => ?_)
  replace hH : c_H X B (43) M s H locs := hH
  refine W.cs (cells' := 1) (slots' := 18) rfl rfl ?_
  refine lv_dup hx hb dX3_init_8 rfl ?_
  obtain ⟨M1, eM1, hf⟩ := st_lty hf
  refine cz_callN (As := []) (rest := [.ref (X.1 42), .ref (X.1 41)]) 4 hE hH (ci_X1_init l X B (by decide) (hf := eM1.symm)) km_X1_init (by decide) rfl (Nat.le_of_ble_eq_true rfl) (Nat.le_of_ble_eq_true rfl) rfl hl.1 rfl (Nat.le_of_ble_eq_true rfl) (Nat.le_of_ble_eq_true rfl) (Nat.le_of_ble_eq_true rfl) dX3_init_9 (fun H locs hH => ?_)
  replace hH : c_H X B (46) M1 s H locs := hH
  refine W.cs (cells' := 4) (slots' := 64) rfl rfl ?_
  obtain ⟨M2, eM2, hf⟩ := st_lty hf
  refine cz_pR hin hE hH cw_X3_12 (Or.inr rfl) (by decide) qk_41 eM2 ⟨rfl, rfl⟩ dX3_init_12 (fun H locs hH => ?_)
  refine lv_aload_n hx hb dX3_init_15 rfl (lv_at hl 0 rfl) ?_
  refine lv_bipush (v := 20) hx hb dX3_init_16 (by decide) ?_
  refine cz_newI (n := 20) hE hH (by decide) qk_46 (q_in _ 59 (by decide +kernel) rfl) (by decide) (by decide) (by decide) (Nat.le_of_ble_eq_true rfl) (Nat.le_of_ble_eq_true rfl) dX3_init_18 (fun H hH => ?_)
  replace hH : c_H X B (47) M2 s H locs := hH
  refine W.cs (cells' := 5) (slots' := 84) rfl rfl ?_
  obtain ⟨M3, eM3, hf⟩ := st_lty hf
  refine cz_pR hin hE hH cw_X3_18 (Or.inr rfl) (by decide) qk_41 eM3 ⟨rfl, rfl⟩ dX3_init_20 (fun H locs hH => ?_)
  refine lv_aload_n hx hb dX3_init_23 rfl (lv_at hl 0 rfl) ?_
  refine lv_bipush (v := 40) hx hb dX3_init_24 (by decide) ?_
  refine cz_newI (n := 40) hE hH (by decide) qk_47 (q_in _ 59 (by decide +kernel) rfl) (by decide) (by decide) (by decide) (Nat.le_of_ble_eq_true rfl) (Nat.le_of_ble_eq_true rfl) dX3_init_26 (fun H hH => ?_)
  replace hH : c_H X B (48) M3 s H locs := hH
  refine W.cs (cells' := 6) (slots' := 124) rfl rfl ?_
  obtain ⟨M4, eM4, hf⟩ := st_lty hf
  refine cz_pR hin hE hH cw_X3_22 (Or.inr rfl) (by decide) qk_41 eM4 ⟨rfl, rfl⟩ dX3_init_28 (fun H locs hH => ?_)
  refine lv_aload_n hx hb dX3_init_31 rfl (lv_at hl 0 rfl) ?_
  refine lv_bipush (v := 40) hx hb dX3_init_32 (by decide) ?_
  refine cz_newI (n := 40) hE hH (by decide) qk_48 (q_in _ 59 (by decide +kernel) rfl) (by decide) (by decide) (by decide) (Nat.le_of_ble_eq_true rfl) (Nat.le_of_ble_eq_true rfl) dX3_init_34 (fun H hH => ?_)
  replace hH : c_H X B (49) M4 s H locs := hH
  refine W.cs (cells' := 7) (slots' := 164) rfl rfl ?_
  obtain ⟨M5, eM5, hf⟩ := st_lty hf
  refine cz_pR hin hE hH cw_X3_25 (Or.inr rfl) (by decide) qk_41 eM5 ⟨rfl, rfl⟩ dX3_init_36 (fun H locs hH => ?_)
  refine lv_aload_n hx hb dX3_init_39 rfl (lv_at hl 0 rfl) ?_
  refine lv_iconst (v := 0) hx hb dX3_init_40 (by decide) ?_
  obtain ⟨M6, eM6, hf⟩ := st_lty hf
  refine cz_pI hin hE hH cw_X3_28 (by decide) qk_41 eM6 dX3_init_41 (fun H locs hH => ?_)
  refine lv_aload_n hx hb dX3_init_44 rfl (lv_at hl 0 rfl) ?_
  refine lv_iconst (v := 0) hx hb dX3_init_45 (by decide) ?_
  obtain ⟨M7, eM7, hf⟩ := st_lty hf
  refine cz_pZ hin hE hH cw_X3_32 (by decide) qk_41 ⟨rfl, rfl⟩ eM7 dX3_init_46 (fun H locs hH => ?_)
  refine lv_aload_n hx hb dX3_init_49 rfl (lv_at hl 0 rfl) ?_
  refine lv_iconst (v := 0) hx hb dX3_init_50 (by decide) ?_
  obtain ⟨M8, eM8, hf⟩ := st_lty hf
  refine cz_pI hin hE hH cw_X3_36 (by decide) qk_41 eM8 dX3_init_51 (fun H locs hH => ?_)
  refine lv_aload_n hx hb dX3_init_54 rfl (lv_at hl 0 rfl) ?_
  refine lv_iconst (v := 0) hx hb dX3_init_55 (by decide) ?_
  obtain ⟨M9, eM9, hf⟩ := st_lty hf
  refine cz_pI hin hE hH cw_X3_39 (by decide) qk_41 eM9 dX3_init_56 (fun H locs hH => ?_)
  subst hf
  exact cz_ret hE hrt hlk hH (by decide) (by decide) dX3_init_59

theorem dX2_init_0 : decode cX2_init 0 = .ok (.aload_n 0, 1) := by decide +kernel
theorem dX2_init_1 : decode cX2_init 1 = .ok (.invokespecial 5, 3) := by decide +kernel
theorem dX2_init_4 : decode cX2_init 4 = .ok (.aload_n 0, 1) := by decide +kernel
theorem dX2_init_5 : decode cX2_init 5 = .ok (.iconst 0, 1) := by decide +kernel
theorem dX2_init_6 : decode cX2_init 6 = .ok (.putfield 11, 3) := by decide +kernel
theorem dX2_init_9 : decode cX2_init 9 = .ok (.aload_n 0, 1) := by decide +kernel
theorem dX2_init_10 : decode cX2_init 10 = .ok (.iconst 0, 1) := by decide +kernel
theorem dX2_init_11 : decode cX2_init 11 = .ok (.putfield 15, 3) := by decide +kernel
theorem dX2_init_14 : decode cX2_init 14 = .ok (.aload_n 0, 1) := by decide +kernel
theorem dX2_init_15 : decode cX2_init 15 = .ok (.iconst 0, 1) := by decide +kernel
theorem dX2_init_16 : decode cX2_init 16 = .ok (.putfield 18, 3) := by decide +kernel
theorem dX2_init_19 : decode cX2_init 19 = .ok (.aload_n 0, 1) := by decide +kernel
theorem dX2_init_20 : decode cX2_init 20 = .ok (.iconst 0, 1) := by decide +kernel
theorem dX2_init_21 : decode cX2_init 21 = .ok (.putfield 21, 3) := by decide +kernel
theorem dX2_init_24 : decode cX2_init 24 = .ok (.aload_n 0, 1) := by decide +kernel
theorem dX2_init_25 : decode cX2_init 25 = .ok (.iconst 0, 1) := by decide +kernel
theorem dX2_init_26 : decode cX2_init 26 = .ok (.putfield 24, 3) := by decide +kernel
theorem dX2_init_29 : decode cX2_init 29 = .ok (.aload_n 0, 1) := by decide +kernel
theorem dX2_init_30 : decode cX2_init 30 = .ok (.iconst 0, 1) := by decide +kernel
theorem dX2_init_31 : decode cX2_init 31 = .ok (.putfield 27, 3) := by decide +kernel
theorem dX2_init_34 : decode cX2_init 34 = .ok (.aload_n 0, 1) := by decide +kernel
theorem dX2_init_35 : decode cX2_init 35 = .ok (.bipush 12, 2) := by decide +kernel
theorem dX2_init_37 : decode cX2_init 37 = .ok (.newarray .int, 2) := by decide +kernel
theorem dX2_init_39 : decode cX2_init 39 = .ok (.putfield 30, 3) := by decide +kernel
theorem dX2_init_42 : decode cX2_init 42 = .ok (.aload_n 0, 1) := by decide +kernel
theorem dX2_init_43 : decode cX2_init 43 = .ok (.bipush 12, 2) := by decide +kernel
theorem dX2_init_45 : decode cX2_init 45 = .ok (.newarray .long, 2) := by decide +kernel
theorem dX2_init_47 : decode cX2_init 47 = .ok (.putfield 34, 3) := by decide +kernel
theorem dX2_init_50 : decode cX2_init 50 = .ok (.aload_n 0, 1) := by decide +kernel
theorem dX2_init_51 : decode cX2_init 51 = .ok (.bipush 13, 2) := by decide +kernel
theorem dX2_init_53 : decode cX2_init 53 = .ok (.newarray .long, 2) := by decide +kernel
theorem dX2_init_55 : decode cX2_init 55 = .ok (.putfield 38, 3) := by decide +kernel
theorem dX2_init_58 : decode cX2_init 58 = .ok (.aload_n 0, 1) := by decide +kernel
theorem dX2_init_59 : decode cX2_init 59 = .ok (.bipush 13, 2) := by decide +kernel
theorem dX2_init_61 : decode cX2_init 61 = .ok (.newarray .long, 2) := by decide +kernel
theorem dX2_init_63 : decode cX2_init 63 = .ok (.putfield 41, 3) := by decide +kernel
theorem dX2_init_66 : decode cX2_init 66 = .ok (.aload_n 0, 1) := by decide +kernel
theorem dX2_init_67 : decode cX2_init 67 = .ok (.bipush 12, 2) := by decide +kernel
theorem dX2_init_69 : decode cX2_init 69 = .ok (.newarray .long, 2) := by decide +kernel
theorem dX2_init_71 : decode cX2_init 71 = .ok (.putfield 44, 3) := by decide +kernel
theorem dX2_init_74 : decode cX2_init 74 = .ok (.aload_n 0, 1) := by decide +kernel
theorem dX2_init_75 : decode cX2_init 75 = .ok (.bipush 10, 2) := by decide +kernel
theorem dX2_init_77 : decode cX2_init 77 = .ok (.newarray .long, 2) := by decide +kernel
theorem dX2_init_79 : decode cX2_init 79 = .ok (.putfield 47, 3) := by decide +kernel
theorem dX2_init_82 : decode cX2_init 82 = .ok (.aload_n 0, 1) := by decide +kernel
theorem dX2_init_83 : decode cX2_init 83 = .ok (.bipush 10, 2) := by decide +kernel
theorem dX2_init_85 : decode cX2_init 85 = .ok (.newarray .long, 2) := by decide +kernel
theorem dX2_init_87 : decode cX2_init 87 = .ok (.putfield 50, 3) := by decide +kernel
theorem dX2_init_90 : decode cX2_init 90 = .ok (.aload_n 0, 1) := by decide +kernel
theorem dX2_init_91 : decode cX2_init 91 = .ok (.bipush 110, 2) := by decide +kernel
theorem dX2_init_93 : decode cX2_init 93 = .ok (.newarray .long, 2) := by decide +kernel
theorem dX2_init_95 : decode cX2_init 95 = .ok (.putfield 53, 3) := by decide +kernel
theorem dX2_init_98 : decode cX2_init 98 = .ok (.aload_n 0, 1) := by decide +kernel
theorem dX2_init_99 : decode cX2_init 99 = .ok (.bipush 12, 2) := by decide +kernel
theorem dX2_init_101 : decode cX2_init 101 = .ok (.newarray .int, 2) := by decide +kernel
theorem dX2_init_103 : decode cX2_init 103 = .ok (.putfield 56, 3) := by decide +kernel
theorem dX2_init_106 : decode cX2_init 106 = .ok (.aload_n 0, 1) := by decide +kernel
theorem dX2_init_107 : decode cX2_init 107 = .ok (.sipush 1331, 3) := by decide +kernel
theorem dX2_init_110 : decode cX2_init 110 = .ok (.newarray .int, 2) := by decide +kernel
theorem dX2_init_112 : decode cX2_init 112 = .ok (.putfield 59, 3) := by decide +kernel
theorem dX2_init_115 : decode cX2_init 115 = .ok (.aload_n 0, 1) := by decide +kernel
theorem dX2_init_116 : decode cX2_init 116 = .ok (.iconst 0, 1) := by decide +kernel
theorem dX2_init_117 : decode cX2_init 117 = .ok (.putfield 62, 3) := by decide +kernel
theorem dX2_init_120 : decode cX2_init 120 = .ok (.aload_n 0, 1) := by decide +kernel
theorem dX2_init_121 : decode cX2_init 121 = .ok (.iconst (-1), 1) := by decide +kernel
theorem dX2_init_122 : decode cX2_init 122 = .ok (.putfield 65, 3) := by decide +kernel
theorem dX2_init_125 : decode cX2_init 125 = .ok (.iconst 0, 1) := by decide +kernel
theorem dX2_init_126 : decode cX2_init 126 = .ok (.istore_n 1, 1) := by decide +kernel
theorem dX2_init_127 : decode cX2_init 127 = .ok (.iload_n 1, 1) := by decide +kernel
theorem dX2_init_128 : decode cX2_init 128 = .ok (.bipush 11, 2) := by decide +kernel
theorem dX2_init_130 : decode cX2_init 130 = .ok (.if_icmp .ge 45, 3) := by decide +kernel
theorem dX2_init_133 : decode cX2_init 133 = .ok (.lconst 1, 1) := by decide +kernel
theorem dX2_init_134 : decode cX2_init 134 = .ok (.lstore_n 2, 1) := by decide +kernel
theorem dX2_init_135 : decode cX2_init 135 = .ok (.iconst 0, 1) := by decide +kernel
theorem dX2_init_136 : decode cX2_init 136 = .ok (.istore 4, 2) := by decide +kernel
theorem dX2_init_138 : decode cX2_init 138 = .ok (.iload 4, 2) := by decide +kernel
theorem dX2_init_140 : decode cX2_init 140 = .ok (.bipush 10, 2) := by decide +kernel
theorem dX2_init_142 : decode cX2_init 142 = .ok (.if_icmp .ge 27, 3) := by decide +kernel
theorem dX2_init_145 : decode cX2_init 145 = .ok (.aload_n 0, 1) := by decide +kernel
theorem dX2_init_146 : decode cX2_init 146 = .ok (.getfield 53, 3) := by decide +kernel
theorem dX2_init_149 : decode cX2_init 149 = .ok (.iload_n 1, 1) := by decide +kernel
theorem dX2_init_150 : decode cX2_init 150 = .ok (.bipush 10, 2) := by decide +kernel
theorem dX2_init_152 : decode cX2_init 152 = .ok (.imul, 1) := by decide +kernel
theorem dX2_init_153 : decode cX2_init 153 = .ok (.iload 4, 2) := by decide +kernel
theorem dX2_init_155 : decode cX2_init 155 = .ok (.iadd, 1) := by decide +kernel
theorem dX2_init_156 : decode cX2_init 156 = .ok (.lload_n 2, 1) := by decide +kernel
theorem dX2_init_157 : decode cX2_init 157 = .ok (.lastore, 1) := by decide +kernel
theorem dX2_init_158 : decode cX2_init 158 = .ok (.lload_n 2, 1) := by decide +kernel
theorem dX2_init_159 : decode cX2_init 159 = .ok (.iload_n 1, 1) := by decide +kernel
theorem dX2_init_160 : decode cX2_init 160 = .ok (.i2l, 1) := by decide +kernel
theorem dX2_init_161 : decode cX2_init 161 = .ok (.lmul, 1) := by decide +kernel
theorem dX2_init_162 : decode cX2_init 162 = .ok (.lstore_n 2, 1) := by decide +kernel
theorem dX2_init_163 : decode cX2_init 163 = .ok (.iinc 4 1, 3) := by decide +kernel
theorem dX2_init_166 : decode cX2_init 166 = .ok (.goto (-28), 3) := by decide +kernel
theorem dX2_init_169 : decode cX2_init 169 = .ok (.iinc 1 1, 3) := by decide +kernel
theorem dX2_init_172 : decode cX2_init 172 = .ok (.goto (-45), 3) := by decide +kernel
theorem dX2_init_175 : decode cX2_init 175 = .ok (.return_, 1) := by decide +kernel
set_option maxRecDepth 100000 in
set_option maxHeartbeats 4000000 in
theorem ci_X2_init (l : Launch) (X : qX) (B : Nat) {M MR : qM} (hf : jRo_init M = some MR) : c_Met l X B yX2_init cX2_init 5 1 10 1535 (50) (60) M MR [.ref (X.1 49)] := by
  refine c_enter (by decide) (Nat.le_of_ble_eq_true rfl) rfl ?_
  intro p e s m args below meth c hE hin hrt hlk H locs hH ls hl
  have hx := hE.1
  have hb := hE.2.1
  have hl : lv_has ls 5 [(0, .ref (X.1 49))] := hl
  unfold jRo_init at hf
  refine lv_aload_n hx hb dX2_init_0 rfl (lv_at hl 0 rfl) ?_
  refine cz_obj (rest := []) hE (q_in _ 257 (by decide +kernel) rfl) (q_in _ 32 (by decide +kernel) rfl) (q_in _ 33 (by decide +kernel) rfl) hl.1 (by decide) (Nat.le_of_ble_eq_true rfl) dX2_init_1 ?_
  refine lv_aload_n hx hb dX2_init_4 rfl (lv_at hl 0 rfl) ?_
  refine lv_iconst (v := 0) hx hb dX2_init_5 (by decide) ?_
  obtain ⟨M1, eM1, hf⟩ := st_lty hf
  refine cz_pI hin hE hH cw_X2_11 (by decide) qk_49 eM1 dX2_init_6 (fun H locs hH => ?_)
  refine lv_aload_n hx hb dX2_init_9 rfl (lv_at hl 0 rfl) ?_
  refine lv_iconst (v := 0) hx hb dX2_init_10 (by decide) ?_
  obtain ⟨M2, eM2, hf⟩ := st_lty hf
  refine cz_pI hin hE hH cw_X2_15 (by decide) qk_49 eM2 dX2_init_11 (fun H locs hH => ?_)
  refine lv_aload_n hx hb dX2_init_14 rfl (lv_at hl 0 rfl) ?_
  refine lv_iconst (v := 0) hx hb dX2_init_15 (by decide) ?_
  obtain ⟨M3, eM3, hf⟩ := st_lty hf
  refine cz_pI hin hE hH cw_X2_18 (by decide) qk_49 eM3 dX2_init_16 (fun H locs hH => ?_)
  refine lv_aload_n hx hb dX2_init_19 rfl (lv_at hl 0 rfl) ?_
  refine lv_iconst (v := 0) hx hb dX2_init_20 (by decide) ?_
  obtain ⟨M4, eM4, hf⟩ := st_lty hf
  refine cz_pI hin hE hH cw_X2_21 (by decide) qk_49 eM4 dX2_init_21 (fun H locs hH => ?_)
  refine lv_aload_n hx hb dX2_init_24 rfl (lv_at hl 0 rfl) ?_
  refine lv_iconst (v := 0) hx hb dX2_init_25 (by decide) ?_
  obtain ⟨M5, eM5, hf⟩ := st_lty hf
  refine cz_pI hin hE hH cw_X2_24 (by decide) qk_49 eM5 dX2_init_26 (fun H locs hH => ?_)
  refine lv_aload_n hx hb dX2_init_29 rfl (lv_at hl 0 rfl) ?_
  refine lv_iconst (v := 0) hx hb dX2_init_30 (by decide) ?_
  obtain ⟨M6, eM6, hf⟩ := st_lty hf
  refine cz_pI hin hE hH cw_X2_27 (by decide) qk_49 eM6 dX2_init_31 (fun H locs hH => ?_)
  refine lv_aload_n hx hb dX2_init_34 rfl (lv_at hl 0 rfl) ?_
  refine lv_bipush (v := 12) hx hb dX2_init_35 (by decide) ?_
  refine cz_newI (n := 12) hE hH (by decide) qk_50 (q_in _ 59 (by decide +kernel) rfl) (by decide) (by decide) (by decide) (Nat.le_of_ble_eq_true rfl) (Nat.le_of_ble_eq_true rfl) dX2_init_37 (fun H hH => ?_)
  replace hH : c_H X B (51) M6 s H locs := hH
  refine W.cs (cells' := 1) (slots' := 12) rfl rfl ?_
  obtain ⟨M7, eM7, hf⟩ := st_lty hf
  refine cz_pR hin hE hH cw_X2_30 (Or.inr rfl) (by decide) qk_49 eM7 ⟨rfl, rfl⟩ dX2_init_39 (fun H locs hH => ?_)
  refine lv_aload_n hx hb dX2_init_42 rfl (lv_at hl 0 rfl) ?_
  refine lv_bipush (v := 12) hx hb dX2_init_43 (by decide) ?_
  refine cz_newJ (n := 12) hE hH (by decide) qk_51 (q_in _ 323 (by decide +kernel) rfl) (by decide) (by decide) (by decide) (Nat.le_of_ble_eq_true rfl) (Nat.le_of_ble_eq_true rfl) dX2_init_45 (fun H hH => ?_)
  replace hH : c_H X B (52) M7 s H locs := hH
  refine W.cs (cells' := 2) (slots' := 24) rfl rfl ?_
  obtain ⟨M8, eM8, hf⟩ := st_lty hf
  refine cz_pR hin hE hH cw_X2_34 (Or.inr rfl) (by decide) qk_49 eM8 ⟨rfl, rfl⟩ dX2_init_47 (fun H locs hH => ?_)
  refine lv_aload_n hx hb dX2_init_50 rfl (lv_at hl 0 rfl) ?_
  refine lv_bipush (v := 13) hx hb dX2_init_51 (by decide) ?_
  refine cz_newJ (n := 13) hE hH (by decide) qk_52 (q_in _ 323 (by decide +kernel) rfl) (by decide) (by decide) (by decide) (Nat.le_of_ble_eq_true rfl) (Nat.le_of_ble_eq_true rfl) dX2_init_53 (fun H hH => ?_)
  replace hH : c_H X B (53) M8 s H locs := hH
  refine W.cs (cells' := 3) (slots' := 37) rfl rfl ?_
  obtain ⟨M9, eM9, hf⟩ := st_lty hf
  refine cz_pR hin hE hH cw_X2_38 (Or.inr rfl) (by decide) qk_49 eM9 ⟨rfl, rfl⟩ dX2_init_55 (fun H locs hH => ?_)
  refine lv_aload_n hx hb dX2_init_58 rfl (lv_at hl 0 rfl) ?_
  refine lv_bipush (v := 13) hx hb dX2_init_59 (by decide) ?_
  refine cz_newJ (n := 13) hE hH (by decide) qk_53 (q_in _ 323 (by decide +kernel) rfl) (by decide) (by decide) (by decide) (Nat.le_of_ble_eq_true rfl) (Nat.le_of_ble_eq_true rfl) dX2_init_61 (fun H hH => ?_)
  replace hH : c_H X B (54) M9 s H locs := hH
  refine W.cs (cells' := 4) (slots' := 50) rfl rfl ?_
  obtain ⟨M10, eM10, hf⟩ := st_lty hf
  refine cz_pR hin hE hH cw_X2_41 (Or.inr rfl) (by decide) qk_49 eM10 ⟨rfl, rfl⟩ dX2_init_63 (fun H locs hH => ?_)
  refine lv_aload_n hx hb dX2_init_66 rfl (lv_at hl 0 rfl) ?_
  refine lv_bipush (v := 12) hx hb dX2_init_67 (by decide) ?_
  refine cz_newJ (n := 12) hE hH (by decide) qk_54 (q_in _ 323 (by decide +kernel) rfl) (by decide) (by decide) (by decide) (Nat.le_of_ble_eq_true rfl) (Nat.le_of_ble_eq_true rfl) dX2_init_69 (fun H hH => ?_)
  replace hH : c_H X B (55) M10 s H locs := hH
  refine W.cs (cells' := 5) (slots' := 62) rfl rfl ?_
  obtain ⟨M11, eM11, hf⟩ := st_lty hf
  refine cz_pR hin hE hH cw_X2_44 (Or.inr rfl) (by decide) qk_49 eM11 ⟨rfl, rfl⟩ dX2_init_71 (fun H locs hH => ?_)
  refine lv_aload_n hx hb dX2_init_74 rfl (lv_at hl 0 rfl) ?_
  refine lv_bipush (v := 10) hx hb dX2_init_75 (by decide) ?_
  refine cz_newJ (n := 10) hE hH (by decide) qk_55 (q_in _ 323 (by decide +kernel) rfl) (by decide) (by decide) (by decide) (Nat.le_of_ble_eq_true rfl) (Nat.le_of_ble_eq_true rfl) dX2_init_77 (fun H hH => ?_)
  replace hH : c_H X B (56) M11 s H locs := hH
  refine W.cs (cells' := 6) (slots' := 72) rfl rfl ?_
  obtain ⟨M12, eM12, hf⟩ := st_lty hf
  refine cz_pR hin hE hH cw_X2_47 (Or.inl rfl) (by decide) qk_49 eM12 ⟨rfl, rfl⟩ dX2_init_79 (fun H locs hH => ?_)
  refine lv_aload_n hx hb dX2_init_82 rfl (lv_at hl 0 rfl) ?_
  refine lv_bipush (v := 10) hx hb dX2_init_83 (by decide) ?_
  refine cz_newJ (n := 10) hE hH (by decide) qk_56 (q_in _ 323 (by decide +kernel) rfl) (by decide) (by decide) (by decide) (Nat.le_of_ble_eq_true rfl) (Nat.le_of_ble_eq_true rfl) dX2_init_85 (fun H hH => ?_)
  replace hH : c_H X B (57) M12 s H locs := hH
  refine W.cs (cells' := 7) (slots' := 82) rfl rfl ?_
  obtain ⟨M13, eM13, hf⟩ := st_lty hf
  refine cz_pR hin hE hH cw_X2_50 (Or.inl rfl) (by decide) qk_49 eM13 ⟨rfl, rfl⟩ dX2_init_87 (fun H locs hH => ?_)
  refine lv_aload_n hx hb dX2_init_90 rfl (lv_at hl 0 rfl) ?_
  refine lv_bipush (v := 110) hx hb dX2_init_91 (by decide) ?_
  refine cz_newJ (n := 110) hE hH (by decide) qk_57 (q_in _ 323 (by decide +kernel) rfl) (by decide) (by decide) (by decide) (Nat.le_of_ble_eq_true rfl) (Nat.le_of_ble_eq_true rfl) dX2_init_93 (fun H hH => ?_)
  replace hH : c_H X B (58) M13 s H locs := hH
  refine W.cs (cells' := 8) (slots' := 192) rfl rfl ?_
  obtain ⟨M14, eM14, hf⟩ := st_lty hf
  refine cz_pR hin hE hH cw_X2_53 (Or.inr rfl) (by decide) qk_49 eM14 ⟨rfl, rfl⟩ dX2_init_95 (fun H locs hH => ?_)
  refine lv_aload_n hx hb dX2_init_98 rfl (lv_at hl 0 rfl) ?_
  refine lv_bipush (v := 12) hx hb dX2_init_99 (by decide) ?_
  refine cz_newI (n := 12) hE hH (by decide) qk_58 (q_in _ 59 (by decide +kernel) rfl) (by decide) (by decide) (by decide) (Nat.le_of_ble_eq_true rfl) (Nat.le_of_ble_eq_true rfl) dX2_init_101 (fun H hH => ?_)
  replace hH : c_H X B (59) M14 s H locs := hH
  refine W.cs (cells' := 9) (slots' := 204) rfl rfl ?_
  obtain ⟨M15, eM15, hf⟩ := st_lty hf
  refine cz_pR hin hE hH cw_X2_56 (Or.inr rfl) (by decide) qk_49 eM15 ⟨rfl, rfl⟩ dX2_init_103 (fun H locs hH => ?_)
  refine lv_aload_n hx hb dX2_init_106 rfl (lv_at hl 0 rfl) ?_
  refine lv_sipush (v := 1331) hx hb dX2_init_107 (by decide) ?_
  refine cz_newI (n := 1331) hE hH (by decide) qk_59 (q_in _ 59 (by decide +kernel) rfl) (by decide) (by decide) (by decide) (Nat.le_of_ble_eq_true rfl) (Nat.le_of_ble_eq_true rfl) dX2_init_110 (fun H hH => ?_)
  replace hH : c_H X B (60) M15 s H locs := hH
  refine W.cs (cells' := 10) (slots' := 1535) rfl rfl ?_
  obtain ⟨M16, eM16, hf⟩ := st_lty hf
  refine cz_pR hin hE hH cw_X2_59 (Or.inr rfl) (by decide) qk_49 eM16 ⟨rfl, rfl⟩ dX2_init_112 (fun H locs hH => ?_)
  refine lv_aload_n hx hb dX2_init_115 rfl (lv_at hl 0 rfl) ?_
  refine lv_iconst (v := 0) hx hb dX2_init_116 (by decide) ?_
  obtain ⟨M17, eM17, hf⟩ := st_lty hf
  refine cz_pI hin hE hH cw_X2_62 (by decide) qk_49 eM17 dX2_init_117 (fun H locs hH => ?_)
  refine lv_aload_n hx hb dX2_init_120 rfl (lv_at hl 0 rfl) ?_
  refine lv_iconst (v := (-1)) hx hb dX2_init_121 (by decide) ?_
  obtain ⟨M18, eM18, hf⟩ := st_lty hf
  refine cz_pI hin hE hH cw_X2_65 (by decide) qk_49 eM18 dX2_init_122 (fun H locs hH => ?_)
  refine lv_iconst (v := 0) hx hb dX2_init_125 (by decide) ?_
  refine lv_istore_n (lv' := [(1, .int 0), (0, .ref (X.1 49))]) hx hb dX2_init_126 rfl hl (by decide) rfl (fun ls hl => ?_)
  refine W.widen (k := 10) (n := 1535) (by decide) (by decide) ?_
  obtain ⟨M21, hlp, hf⟩ := st_bd hf
  have hX : (fun M21 => ∀ (ls : Array Slot) (H : Heap) (locs : List Loc), c_H X B (60) M21 s H locs → lv_has ls 5 [] → W p l e (c_rm 1 10 1535) s m args below meth c H locs 10 1535 (MQ below (c_Qv X B (60) MR) args s 10 1535 (c_A B)) (F0 m 175 ls []) : qM → Prop) M21 := by
    intro ls H locs hH hl
    replace hf := Option.some.inj hf
    subst hf
    exact cz_ret hE hrt hlk hH (by decide) (by decide) dX2_init_175
  clear hf
  have hG := qlp_ind (r := M21) (fun q => qu2 q (fun x19 M20 => ∀ (ls : Array Slot) (H : Heap) (locs : List Loc), c_H X B (60) M20 s H locs → lv_has ls 5 [(0, .ref (X.1 49)), (1, .int x19)] → W p l e (c_rm 1 10 1535) s m args below meth c H locs 10 1535 (MQ below (c_Qv X B (60) MR) args s 10 1535 (c_A B)) (F0 m 127 ls []))) (by
      intro q o hf hK1 hK2
      obtain ⟨x19, M20⟩ := q
      replace hf := st_u2 hf
      intro ls H locs hH hl
      refine lv_iload_n hx hb dX2_init_127 rfl (lv_at hl 1 rfl) ?_
      refine lv_bipush (v := 11) hx hb dX2_init_128 (by decide) ?_
      refine lv_icmp_ge (tgt := 175) hx hb dX2_init_130 (by decide) (fun hc => ?_) (fun hc => ?_)
      · replace hf := (if_pos hc).symm.trans hf
        replace hf := hK2 _ (Option.some.inj hf).symm
        subst hf
        exact hX ls H locs hH (lv_sub hl [] rfl)
      · replace hf := (if_neg hc).symm.trans hf
        refine lv_lconst (v := 1) hx hb dX2_init_133 (by decide) ?_
        refine lv_lstore_n (lv' := [(2, .long 1), (0, .ref (X.1 49)), (1, .int x19)]) hx hb dX2_init_134 rfl hl (by decide) rfl (fun ls hl => ?_)
        refine lv_iconst (v := 0) hx hb dX2_init_135 (by decide) ?_
        refine lv_istore (lv' := [(4, .int 0), (2, .long 1), (0, .ref (X.1 49)), (1, .int x19)]) hx hb dX2_init_136 hl (by decide) rfl (fun ls hl => ?_)
        refine W.widen (k := 10) (n := 1535) (by decide) (by decide) ?_
        obtain ⟨M26, hlp, hf⟩ := st_bd hf
        have hX : (fun M26 => ∀ (ls : Array Slot) (H : Heap) (locs : List Loc), c_H X B (60) M26 s H locs → lv_has ls 5 [(0, .ref (X.1 49)), (1, .int x19)] → W p l e (c_rm 1 10 1535) s m args below meth c H locs 10 1535 (MQ below (c_Qv X B (60) MR) args s 10 1535 (c_A B)) (F0 m 169 ls []) : qM → Prop) M26 := by
          intro ls H locs hH hl
          obtain ⟨x28, ex28, hf⟩ := st_lty hf
          refine lv_iinc (v := x28) (lv' := [(1, .int x28), (0, .ref (X.1 49))]) hx hb dX2_init_169 hl (k := 1) rfl (by rw [ex28]; rfl) (by decide) rfl (fun ls hl => ?_)
          refine lv_goto (tgt := 127) hx hb dX2_init_172 (by decide) ?_
          exact hK1 _ (Option.some.inj hf).symm ls H locs hH (lv_sub hl [1, 0] rfl)
        clear hf
        have hG := qlp_ind (r := M26) (fun q => qu3 q (fun x23 x24 M25 => ∀ (ls : Array Slot) (H : Heap) (locs : List Loc), c_H X B (60) M25 s H locs → lv_has ls 5 [(0, .ref (X.1 49)), (1, .int x19), (2, .long x23), (4, .int x24)] → W p l e (c_rm 1 10 1535) s m args below meth c H locs 10 1535 (MQ below (c_Qv X B (60) MR) args s 10 1535 (c_A B)) (F0 m 138 ls []))) (by
            intro q o hf hK1 hK2
            obtain ⟨x23, x24, M25⟩ := q
            replace hf := st_u3 hf
            intro ls H locs hH hl
            refine lv_iload hx hb dX2_init_138 (lv_at hl 3 rfl) ?_
            refine lv_bipush (v := 10) hx hb dX2_init_140 (by decide) ?_
            refine lv_icmp_ge (tgt := 169) hx hb dX2_init_142 (by decide) (fun hc => ?_) (fun hc => ?_)
            · replace hf := (if_pos hc).symm.trans hf
              replace hf := hK2 _ (Option.some.inj hf).symm
              subst hf
              exact hX ls H locs hH (lv_sub hl [0, 1] rfl)
            · replace hf := (if_neg hc).symm.trans hf
              refine lv_aload_n hx hb dX2_init_145 rfl (lv_at hl 0 rfl) ?_
              obtain ⟨a29, ea29, hf⟩ := st_bd hf
              obtain ⟨ga29, hf⟩ := st_gd hf
              rw [eq_of_beq ga29] at ea29
              refine cz_gR hE hH fr_X2_53 (Or.inr rfl) (by decide) qk_49 ea29 dX2_init_146 ?_
              refine lv_iload_n hx hb dX2_init_149 rfl (lv_at hl 1 rfl) ?_
              refine lv_bipush (v := 10) hx hb dX2_init_150 (by decide) ?_
              refine lv_imul hx hb dX2_init_152 ?_
              refine lv_iload hx hb dX2_init_153 (lv_at hl 3 rfl) ?_
              refine lv_iadd hx hb dX2_init_155 ?_
              refine lv_lload_n hx hb dX2_init_156 rfl (lv_at hl 2 rfl) ?_
              obtain ⟨M30, eM30, hf⟩ := st_bd hf
              refine cz_last hE hH (by decide) qk_57 eM30 dX2_init_157 (fun H locs hH => ?_)
              refine lv_lload_n hx hb dX2_init_158 rfl (lv_at hl 2 rfl) ?_
              refine lv_iload_n hx hb dX2_init_159 rfl (lv_at hl 1 rfl) ?_
              refine lv_i2l (v := (x19 : Int32).toInt64) hx hb dX2_init_160 rfl ?_
              refine lv_lmul hx hb dX2_init_161 ?_
              refine lv_topl (fun x31 ex31 => ?_)
              replace hf := st_lt hf ex31
              refine lv_lstore_n (lv' := [(2, .long x31), (0, .ref (X.1 49)), (1, .int x19), (4, .int x24)]) hx hb dX2_init_162 rfl hl (by decide) rfl (fun ls hl => ?_)
              obtain ⟨x32, ex32, hf⟩ := st_lty hf
              refine lv_iinc (v := x32) (lv' := [(4, .int x32), (2, .long x31), (0, .ref (X.1 49)), (1, .int x19)]) hx hb dX2_init_163 hl (k := 3) rfl (by rw [ex32]; rfl) (by decide) rfl (fun ls hl => ?_)
              refine lv_goto (tgt := 138) hx hb dX2_init_166 (by decide) ?_
              exact hK1 _ (Option.some.inj hf).symm ls H locs hH (lv_sub hl [2, 3, 1, 0] rfl)) _ hlp
        exact hG ls H locs hH (lv_sub hl [2, 3, 1, 0] rfl)) _ hlp
  exact hG ls H locs hH (lv_sub hl [1, 0] rfl)

theorem dX5_init_0 : decode cX5_init 0 = .ok (.aload_n 0, 1) := by decide +kernel
theorem dX5_init_1 : decode cX5_init 1 = .ok (.invokespecial 3, 3) := by decide +kernel
theorem dX5_init_4 : decode cX5_init 4 = .ok (.aload_n 0, 1) := by decide +kernel
theorem dX5_init_5 : decode cX5_init 5 = .ok (.aconst_null, 1) := by decide +kernel
theorem dX5_init_6 : decode cX5_init 6 = .ok (.putfield 9, 3) := by decide +kernel
theorem dX5_init_9 : decode cX5_init 9 = .ok (.aload_n 0, 1) := by decide +kernel
theorem dX5_init_10 : decode cX5_init 10 = .ok (.iconst 0, 1) := by decide +kernel
theorem dX5_init_11 : decode cX5_init 11 = .ok (.putfield 15, 3) := by decide +kernel
theorem dX5_init_14 : decode cX5_init 14 = .ok (.aload_n 0, 1) := by decide +kernel
theorem dX5_init_15 : decode cX5_init 15 = .ok (.bipush 20, 2) := by decide +kernel
theorem dX5_init_17 : decode cX5_init 17 = .ok (.newarray .int, 2) := by decide +kernel
theorem dX5_init_19 : decode cX5_init 19 = .ok (.putfield 19, 3) := by decide +kernel
theorem dX5_init_22 : decode cX5_init 22 = .ok (.aload_n 0, 1) := by decide +kernel
theorem dX5_init_23 : decode cX5_init 23 = .ok (.bipush 20, 2) := by decide +kernel
theorem dX5_init_25 : decode cX5_init 25 = .ok (.newarray .int, 2) := by decide +kernel
theorem dX5_init_27 : decode cX5_init 27 = .ok (.putfield 23, 3) := by decide +kernel
theorem dX5_init_30 : decode cX5_init 30 = .ok (.aload_n 0, 1) := by decide +kernel
theorem dX5_init_31 : decode cX5_init 31 = .ok (.bipush 61, 2) := by decide +kernel
theorem dX5_init_33 : decode cX5_init 33 = .ok (.newarray .int, 2) := by decide +kernel
theorem dX5_init_35 : decode cX5_init 35 = .ok (.putfield 26, 3) := by decide +kernel
theorem dX5_init_38 : decode cX5_init 38 = .ok (.aload_n 0, 1) := by decide +kernel
theorem dX5_init_39 : decode cX5_init 39 = .ok (.bipush 61, 2) := by decide +kernel
theorem dX5_init_41 : decode cX5_init 41 = .ok (.newarray .int, 2) := by decide +kernel
theorem dX5_init_43 : decode cX5_init 43 = .ok (.putfield 29, 3) := by decide +kernel
theorem dX5_init_46 : decode cX5_init 46 = .ok (.return_, 1) := by decide +kernel
set_option maxRecDepth 100000 in
set_option maxHeartbeats 4000000 in
theorem ci_X5_init (l : Launch) (X : qX) (B : Nat) {M MR : qM} (hf : jTo_init M = MR) : c_Met l X B yX5_init cX5_init 1 1 4 162 (61) (65) M MR [.ref (X.1 60)] := by
  refine c_enter (by decide) (Nat.le_of_ble_eq_true rfl) rfl ?_
  intro p e s m args below meth c hE hin hrt hlk H locs hH ls hl
  have hx := hE.1
  have hb := hE.2.1
  have hl : lv_has ls 1 [(0, .ref (X.1 60))] := hl
  unfold jTo_init at hf
  refine lv_aload_n hx hb dX5_init_0 rfl (lv_at hl 0 rfl) ?_
  refine cz_obj (rest := []) hE (q_in _ 329 (by decide +kernel) rfl) (q_in _ 32 (by decide +kernel) rfl) (q_in _ 33 (by decide +kernel) rfl) hl.1 (by decide) (Nat.le_of_ble_eq_true rfl) dX5_init_1 ?_
  refine lv_aload_n hx hb dX5_init_4 rfl (lv_at hl 0 rfl) ?_
  refine lv_null hx hb dX5_init_5 ?_
  obtain ⟨M1, eM1, hf⟩ := st_lty hf
  refine cz_pN hin hE hH cw_X5_9 (Or.inl rfl) (by decide) qk_60 eM1 ⟨rfl, rfl⟩ dX5_init_6 (fun H locs hH => ?_)
  refine lv_aload_n hx hb dX5_init_9 rfl (lv_at hl 0 rfl) ?_
  refine lv_iconst (v := 0) hx hb dX5_init_10 (by decide) ?_
  obtain ⟨M2, eM2, hf⟩ := st_lty hf
  refine cz_pI hin hE hH cw_X5_15 (by decide) qk_60 eM2 dX5_init_11 (fun H locs hH => ?_)
  refine lv_aload_n hx hb dX5_init_14 rfl (lv_at hl 0 rfl) ?_
  refine lv_bipush (v := 20) hx hb dX5_init_15 (by decide) ?_
  refine cz_newI (n := 20) hE hH (by decide) qk_61 (q_in _ 59 (by decide +kernel) rfl) (by decide) (by decide) (by decide) (Nat.le_of_ble_eq_true rfl) (Nat.le_of_ble_eq_true rfl) dX5_init_17 (fun H hH => ?_)
  replace hH : c_H X B (62) M2 s H locs := hH
  refine W.cs (cells' := 1) (slots' := 20) rfl rfl ?_
  obtain ⟨M3, eM3, hf⟩ := st_lty hf
  refine cz_pR hin hE hH cw_X5_19 (Or.inr rfl) (by decide) qk_60 eM3 ⟨rfl, rfl⟩ dX5_init_19 (fun H locs hH => ?_)
  refine lv_aload_n hx hb dX5_init_22 rfl (lv_at hl 0 rfl) ?_
  refine lv_bipush (v := 20) hx hb dX5_init_23 (by decide) ?_
  refine cz_newI (n := 20) hE hH (by decide) qk_62 (q_in _ 59 (by decide +kernel) rfl) (by decide) (by decide) (by decide) (Nat.le_of_ble_eq_true rfl) (Nat.le_of_ble_eq_true rfl) dX5_init_25 (fun H hH => ?_)
  replace hH : c_H X B (63) M3 s H locs := hH
  refine W.cs (cells' := 2) (slots' := 40) rfl rfl ?_
  obtain ⟨M4, eM4, hf⟩ := st_lty hf
  refine cz_pR hin hE hH cw_X5_23 (Or.inr rfl) (by decide) qk_60 eM4 ⟨rfl, rfl⟩ dX5_init_27 (fun H locs hH => ?_)
  refine lv_aload_n hx hb dX5_init_30 rfl (lv_at hl 0 rfl) ?_
  refine lv_bipush (v := 61) hx hb dX5_init_31 (by decide) ?_
  refine cz_newI (n := 61) hE hH (by decide) qk_63 (q_in _ 59 (by decide +kernel) rfl) (by decide) (by decide) (by decide) (Nat.le_of_ble_eq_true rfl) (Nat.le_of_ble_eq_true rfl) dX5_init_33 (fun H hH => ?_)
  replace hH : c_H X B (64) M4 s H locs := hH
  refine W.cs (cells' := 3) (slots' := 101) rfl rfl ?_
  obtain ⟨M5, eM5, hf⟩ := st_lty hf
  refine cz_pR hin hE hH cw_X5_26 (Or.inr rfl) (by decide) qk_60 eM5 ⟨rfl, rfl⟩ dX5_init_35 (fun H locs hH => ?_)
  refine lv_aload_n hx hb dX5_init_38 rfl (lv_at hl 0 rfl) ?_
  refine lv_bipush (v := 61) hx hb dX5_init_39 (by decide) ?_
  refine cz_newI (n := 61) hE hH (by decide) qk_64 (q_in _ 59 (by decide +kernel) rfl) (by decide) (by decide) (by decide) (Nat.le_of_ble_eq_true rfl) (Nat.le_of_ble_eq_true rfl) dX5_init_41 (fun H hH => ?_)
  replace hH : c_H X B (65) M5 s H locs := hH
  refine W.cs (cells' := 4) (slots' := 162) rfl rfl ?_
  obtain ⟨M6, eM6, hf⟩ := st_lty hf
  refine cz_pR hin hE hH cw_X5_29 (Or.inr rfl) (by decide) qk_60 eM6 ⟨rfl, rfl⟩ dX5_init_43 (fun H locs hH => ?_)
  subst hf
  exact cz_ret hE hrt hlk hH (by decide) (by decide) dX5_init_46

theorem dX6_init_0 : decode cX6_init 0 = .ok (.aload_n 0, 1) := by decide +kernel
theorem dX6_init_1 : decode cX6_init 1 = .ok (.invokespecial 3, 3) := by decide +kernel
theorem dX6_init_4 : decode cX6_init 4 = .ok (.aload_n 0, 1) := by decide +kernel
theorem dX6_init_5 : decode cX6_init 5 = .ok (.bipush 20, 2) := by decide +kernel
theorem dX6_init_7 : decode cX6_init 7 = .ok (.newarray .int, 2) := by decide +kernel
theorem dX6_init_9 : decode cX6_init 9 = .ok (.putfield 9, 3) := by decide +kernel
theorem dX6_init_12 : decode cX6_init 12 = .ok (.aload_n 0, 1) := by decide +kernel
theorem dX6_init_13 : decode cX6_init 13 = .ok (.bipush 20, 2) := by decide +kernel
theorem dX6_init_15 : decode cX6_init 15 = .ok (.newarray .int, 2) := by decide +kernel
theorem dX6_init_17 : decode cX6_init 17 = .ok (.putfield 15, 3) := by decide +kernel
theorem dX6_init_20 : decode cX6_init 20 = .ok (.aload_n 0, 1) := by decide +kernel
theorem dX6_init_21 : decode cX6_init 21 = .ok (.bipush 20, 2) := by decide +kernel
theorem dX6_init_23 : decode cX6_init 23 = .ok (.newarray .int, 2) := by decide +kernel
theorem dX6_init_25 : decode cX6_init 25 = .ok (.putfield 18, 3) := by decide +kernel
theorem dX6_init_28 : decode cX6_init 28 = .ok (.aload_n 0, 1) := by decide +kernel
theorem dX6_init_29 : decode cX6_init 29 = .ok (.bipush 20, 2) := by decide +kernel
theorem dX6_init_31 : decode cX6_init 31 = .ok (.newarray .int, 2) := by decide +kernel
theorem dX6_init_33 : decode cX6_init 33 = .ok (.putfield 21, 3) := by decide +kernel
theorem dX6_init_36 : decode cX6_init 36 = .ok (.aload_n 0, 1) := by decide +kernel
theorem dX6_init_37 : decode cX6_init 37 = .ok (.bipush 20, 2) := by decide +kernel
theorem dX6_init_39 : decode cX6_init 39 = .ok (.newarray .int, 2) := by decide +kernel
theorem dX6_init_41 : decode cX6_init 41 = .ok (.putfield 24, 3) := by decide +kernel
theorem dX6_init_44 : decode cX6_init 44 = .ok (.return_, 1) := by decide +kernel
set_option maxRecDepth 100000 in
set_option maxHeartbeats 4000000 in
theorem ci_X6_init (l : Launch) (X : qX) (B : Nat) {M MR : qM} (hf : jTr_init M = MR) : c_Met l X B yX6_init cX6_init 1 1 5 100 (66) (71) M MR [.ref (X.1 65)] := by
  refine c_enter (by decide) (Nat.le_of_ble_eq_true rfl) rfl ?_
  intro p e s m args below meth c hE hin hrt hlk H locs hH ls hl
  have hx := hE.1
  have hb := hE.2.1
  have hl : lv_has ls 1 [(0, .ref (X.1 65))] := hl
  unfold jTr_init at hf
  refine lv_aload_n hx hb dX6_init_0 rfl (lv_at hl 0 rfl) ?_
  refine cz_obj (rest := []) hE (q_in _ 358 (by decide +kernel) rfl) (q_in _ 32 (by decide +kernel) rfl) (q_in _ 33 (by decide +kernel) rfl) hl.1 (by decide) (Nat.le_of_ble_eq_true rfl) dX6_init_1 ?_
  refine lv_aload_n hx hb dX6_init_4 rfl (lv_at hl 0 rfl) ?_
  refine lv_bipush (v := 20) hx hb dX6_init_5 (by decide) ?_
  refine cz_newI (n := 20) hE hH (by decide) qk_66 (q_in _ 59 (by decide +kernel) rfl) (by decide) (by decide) (by decide) (Nat.le_of_ble_eq_true rfl) (Nat.le_of_ble_eq_true rfl) dX6_init_7 (fun H hH => ?_)
  replace hH : c_H X B (67) M s H locs := hH
  refine W.cs (cells' := 1) (slots' := 20) rfl rfl ?_
  obtain ⟨M1, eM1, hf⟩ := st_lty hf
  refine cz_pR hin hE hH cw_X6_9 (Or.inr rfl) (by decide) qk_65 eM1 ⟨rfl, rfl⟩ dX6_init_9 (fun H locs hH => ?_)
  refine lv_aload_n hx hb dX6_init_12 rfl (lv_at hl 0 rfl) ?_
  refine lv_bipush (v := 20) hx hb dX6_init_13 (by decide) ?_
  refine cz_newI (n := 20) hE hH (by decide) qk_67 (q_in _ 59 (by decide +kernel) rfl) (by decide) (by decide) (by decide) (Nat.le_of_ble_eq_true rfl) (Nat.le_of_ble_eq_true rfl) dX6_init_15 (fun H hH => ?_)
  replace hH : c_H X B (68) M1 s H locs := hH
  refine W.cs (cells' := 2) (slots' := 40) rfl rfl ?_
  obtain ⟨M2, eM2, hf⟩ := st_lty hf
  refine cz_pR hin hE hH cw_X6_15 (Or.inr rfl) (by decide) qk_65 eM2 ⟨rfl, rfl⟩ dX6_init_17 (fun H locs hH => ?_)
  refine lv_aload_n hx hb dX6_init_20 rfl (lv_at hl 0 rfl) ?_
  refine lv_bipush (v := 20) hx hb dX6_init_21 (by decide) ?_
  refine cz_newI (n := 20) hE hH (by decide) qk_68 (q_in _ 59 (by decide +kernel) rfl) (by decide) (by decide) (by decide) (Nat.le_of_ble_eq_true rfl) (Nat.le_of_ble_eq_true rfl) dX6_init_23 (fun H hH => ?_)
  replace hH : c_H X B (69) M2 s H locs := hH
  refine W.cs (cells' := 3) (slots' := 60) rfl rfl ?_
  obtain ⟨M3, eM3, hf⟩ := st_lty hf
  refine cz_pR hin hE hH cw_X6_18 (Or.inr rfl) (by decide) qk_65 eM3 ⟨rfl, rfl⟩ dX6_init_25 (fun H locs hH => ?_)
  refine lv_aload_n hx hb dX6_init_28 rfl (lv_at hl 0 rfl) ?_
  refine lv_bipush (v := 20) hx hb dX6_init_29 (by decide) ?_
  refine cz_newI (n := 20) hE hH (by decide) qk_69 (q_in _ 59 (by decide +kernel) rfl) (by decide) (by decide) (by decide) (Nat.le_of_ble_eq_true rfl) (Nat.le_of_ble_eq_true rfl) dX6_init_31 (fun H hH => ?_)
  replace hH : c_H X B (70) M3 s H locs := hH
  refine W.cs (cells' := 4) (slots' := 80) rfl rfl ?_
  obtain ⟨M4, eM4, hf⟩ := st_lty hf
  refine cz_pR hin hE hH cw_X6_21 (Or.inl rfl) (by decide) qk_65 eM4 ⟨rfl, rfl⟩ dX6_init_33 (fun H locs hH => ?_)
  refine lv_aload_n hx hb dX6_init_36 rfl (lv_at hl 0 rfl) ?_
  refine lv_bipush (v := 20) hx hb dX6_init_37 (by decide) ?_
  refine cz_newI (n := 20) hE hH (by decide) qk_70 (q_in _ 59 (by decide +kernel) rfl) (by decide) (by decide) (by decide) (Nat.le_of_ble_eq_true rfl) (Nat.le_of_ble_eq_true rfl) dX6_init_39 (fun H hH => ?_)
  replace hH : c_H X B (71) M4 s H locs := hH
  refine W.cs (cells' := 5) (slots' := 100) rfl rfl ?_
  obtain ⟨M5, eM5, hf⟩ := st_lty hf
  refine cz_pR hin hE hH cw_X6_24 (Or.inl rfl) (by decide) qk_65 eM5 ⟨rfl, rfl⟩ dX6_init_41 (fun H locs hH => ?_)
  subst hf
  exact cz_ret hE hrt hlk hH (by decide) (by decide) dX6_init_44

theorem dX7_init_0 : decode cX7_init 0 = .ok (.aload_n 0, 1) := by decide +kernel
theorem dX7_init_1 : decode cX7_init 1 = .ok (.invokespecial 3, 3) := by decide +kernel
theorem dX7_init_4 : decode cX7_init 4 = .ok (.aload_n 0, 1) := by decide +kernel
theorem dX7_init_5 : decode cX7_init 5 = .ok (.iconst 0, 1) := by decide +kernel
theorem dX7_init_6 : decode cX7_init 6 = .ok (.putfield 9, 3) := by decide +kernel
theorem dX7_init_9 : decode cX7_init 9 = .ok (.aload_n 0, 1) := by decide +kernel
theorem dX7_init_10 : decode cX7_init 10 = .ok (.iconst 0, 1) := by decide +kernel
theorem dX7_init_11 : decode cX7_init 11 = .ok (.putfield 15, 3) := by decide +kernel
theorem dX7_init_14 : decode cX7_init 14 = .ok (.aload_n 0, 1) := by decide +kernel
theorem dX7_init_15 : decode cX7_init 15 = .ok (.iconst 0, 1) := by decide +kernel
theorem dX7_init_16 : decode cX7_init 16 = .ok (.putfield 18, 3) := by decide +kernel
theorem dX7_init_19 : decode cX7_init 19 = .ok (.aload_n 0, 1) := by decide +kernel
theorem dX7_init_20 : decode cX7_init 20 = .ok (.bipush 16, 2) := by decide +kernel
theorem dX7_init_22 : decode cX7_init 22 = .ok (.newarray .int, 2) := by decide +kernel
theorem dX7_init_24 : decode cX7_init 24 = .ok (.putfield 21, 3) := by decide +kernel
theorem dX7_init_27 : decode cX7_init 27 = .ok (.aload_n 0, 1) := by decide +kernel
theorem dX7_init_28 : decode cX7_init 28 = .ok (.bipush 24, 2) := by decide +kernel
theorem dX7_init_30 : decode cX7_init 30 = .ok (.newarray .int, 2) := by decide +kernel
theorem dX7_init_32 : decode cX7_init 32 = .ok (.putfield 25, 3) := by decide +kernel
theorem dX7_init_35 : decode cX7_init 35 = .ok (.aload_n 0, 1) := by decide +kernel
theorem dX7_init_36 : decode cX7_init 36 = .ok (.bipush 20, 2) := by decide +kernel
theorem dX7_init_38 : decode cX7_init 38 = .ok (.newarray .int, 2) := by decide +kernel
theorem dX7_init_40 : decode cX7_init 40 = .ok (.putfield 28, 3) := by decide +kernel
theorem dX7_init_43 : decode cX7_init 43 = .ok (.return_, 1) := by decide +kernel
set_option maxRecDepth 100000 in
set_option maxHeartbeats 4000000 in
theorem ci_X7_init (l : Launch) (X : qX) (B : Nat) {k : Nat} {M MR : qM} (hk : q_vil k = true) (hf : jVi_init k M = MR) : c_Met l X B yX7_init cX7_init 1 1 3 60 (k + 1) (k + 4) M MR [.ref (X.1 k)] := by
  refine c_enter (by decide) (Nat.le_of_ble_eq_true rfl) rfl ?_
  intro p e s m args below meth c hE hin hrt hlk H locs hH ls hl
  have hx := hE.1
  have hb := hE.2.1
  have hl : lv_has ls 1 [(0, .ref (X.1 k))] := hl
  unfold jVi_init at hf
  refine lv_aload_n hx hb dX7_init_0 rfl (lv_at hl 0 rfl) ?_
  refine cz_obj (rest := []) hE (q_in _ 382 (by decide +kernel) rfl) (q_in _ 32 (by decide +kernel) rfl) (q_in _ 33 (by decide +kernel) rfl) hl.1 (by decide) (Nat.le_of_ble_eq_true rfl) dX7_init_1 ?_
  refine lv_aload_n hx hb dX7_init_4 rfl (lv_at hl 0 rfl) ?_
  refine lv_iconst (v := 0) hx hb dX7_init_5 (by decide) ?_
  obtain ⟨M1, eM1, hf⟩ := st_lty hf
  refine cz_pI hin hE hH cw_X7_9 (by omega) (q_vil_0 hk) eM1 dX7_init_6 (fun H locs hH => ?_)
  refine lv_aload_n hx hb dX7_init_9 rfl (lv_at hl 0 rfl) ?_
  refine lv_iconst (v := 0) hx hb dX7_init_10 (by decide) ?_
  obtain ⟨M2, eM2, hf⟩ := st_lty hf
  refine cz_pI hin hE hH cw_X7_15 (by omega) (q_vil_0 hk) eM2 dX7_init_11 (fun H locs hH => ?_)
  refine lv_aload_n hx hb dX7_init_14 rfl (lv_at hl 0 rfl) ?_
  refine lv_iconst (v := 0) hx hb dX7_init_15 (by decide) ?_
  obtain ⟨M3, eM3, hf⟩ := st_lty hf
  refine cz_pI hin hE hH cw_X7_18 (by omega) (q_vil_0 hk) eM3 dX7_init_16 (fun H locs hH => ?_)
  refine lv_aload_n hx hb dX7_init_19 rfl (lv_at hl 0 rfl) ?_
  refine lv_bipush (v := 16) hx hb dX7_init_20 (by decide) ?_
  refine cz_newI (n := 16) hE hH (q_vil_1 hk).2.1 (q_vil_1 hk) (q_in _ 59 (by decide +kernel) rfl) (by decide) (by decide) (by decide) (Nat.le_of_ble_eq_true rfl) (Nat.le_of_ble_eq_true rfl) dX7_init_22 (fun H hH => ?_)
  replace hH : c_H X B (k + 2) M3 s H locs := hH
  refine W.cs (cells' := 1) (slots' := 16) rfl rfl ?_
  obtain ⟨M4, eM4, hf⟩ := st_lty hf
  refine cz_pR hin hE hH cw_X7_21 (Or.inr rfl) (by omega) (q_vil_0 hk) eM4 ⟨rfl, rfl⟩ dX7_init_24 (fun H locs hH => ?_)
  refine lv_aload_n hx hb dX7_init_27 rfl (lv_at hl 0 rfl) ?_
  refine lv_bipush (v := 24) hx hb dX7_init_28 (by decide) ?_
  refine cz_newI (n := 24) hE hH (q_vil_2 hk).2.1 (q_vil_2 hk) (q_in _ 59 (by decide +kernel) rfl) (by decide) (by decide) (by decide) (Nat.le_of_ble_eq_true rfl) (Nat.le_of_ble_eq_true rfl) dX7_init_30 (fun H hH => ?_)
  replace hH : c_H X B (k + 3) M4 s H locs := hH
  refine W.cs (cells' := 2) (slots' := 40) rfl rfl ?_
  obtain ⟨M5, eM5, hf⟩ := st_lty hf
  refine cz_pR hin hE hH cw_X7_25 (Or.inr rfl) (by omega) (q_vil_0 hk) eM5 ⟨rfl, rfl⟩ dX7_init_32 (fun H locs hH => ?_)
  refine lv_aload_n hx hb dX7_init_35 rfl (lv_at hl 0 rfl) ?_
  refine lv_bipush (v := 20) hx hb dX7_init_36 (by decide) ?_
  refine cz_newI (n := 20) hE hH (q_vil_3 hk).2.1 (q_vil_3 hk) (q_in _ 59 (by decide +kernel) rfl) (by decide) (by decide) (by decide) (Nat.le_of_ble_eq_true rfl) (Nat.le_of_ble_eq_true rfl) dX7_init_38 (fun H hH => ?_)
  replace hH : c_H X B (k + 4) M5 s H locs := hH
  refine W.cs (cells' := 3) (slots' := 60) rfl rfl ?_
  obtain ⟨M6, eM6, hf⟩ := st_lty hf
  refine cz_pR hin hE hH cw_X7_28 (Or.inr rfl) (by omega) (q_vil_0 hk) eM6 ⟨rfl, rfl⟩ dX7_init_40 (fun H locs hH => ?_)
  subst hf
  exact cz_ret hE hrt hlk hH (by decide) (by decide) dX7_init_43

theorem dX11_init_0 : decode cX11_init 0 = .ok (.aload_n 0, 1) := by decide +kernel
theorem dX11_init_1 : decode cX11_init 1 = .ok (.invokespecial 1, 3) := by decide +kernel
theorem dX11_init_4 : decode cX11_init 4 = .ok (.aload_n 0, 1) := by decide +kernel
theorem dX11_init_5 : decode cX11_init 5 = .ok (.new 7, 3) := by decide +kernel
theorem dX11_init_8 : decode cX11_init 8 = .ok (.dup, 1) := by decide +kernel
theorem dX11_init_9 : decode cX11_init 9 = .ok (.invokespecial 9, 3) := by decide +kernel
theorem dX11_init_12 : decode cX11_init 12 = .ok (.putfield 10, 3) := by decide +kernel
theorem dX11_init_15 : decode cX11_init 15 = .ok (.aload_n 0, 1) := by decide +kernel
theorem dX11_init_16 : decode cX11_init 16 = .ok (.new 16, 3) := by decide +kernel
theorem dX11_init_19 : decode cX11_init 19 = .ok (.dup, 1) := by decide +kernel
theorem dX11_init_20 : decode cX11_init 20 = .ok (.aload_n 0, 1) := by decide +kernel
theorem dX11_init_21 : decode cX11_init 21 = .ok (.getfield 10, 3) := by decide +kernel
theorem dX11_init_24 : decode cX11_init 24 = .ok (.invokespecial 18, 3) := by decide +kernel
theorem dX11_init_27 : decode cX11_init 27 = .ok (.putfield 21, 3) := by decide +kernel
theorem dX11_init_30 : decode cX11_init 30 = .ok (.aload_n 0, 1) := by decide +kernel
theorem dX11_init_31 : decode cX11_init 31 = .ok (.new 25, 3) := by decide +kernel
theorem dX11_init_34 : decode cX11_init 34 = .ok (.dup, 1) := by decide +kernel
theorem dX11_init_35 : decode cX11_init 35 = .ok (.aload_n 0, 1) := by decide +kernel
theorem dX11_init_36 : decode cX11_init 36 = .ok (.getfield 10, 3) := by decide +kernel
theorem dX11_init_39 : decode cX11_init 39 = .ok (.invokespecial 27, 3) := by decide +kernel
theorem dX11_init_42 : decode cX11_init 42 = .ok (.putfield 28, 3) := by decide +kernel
theorem dX11_init_45 : decode cX11_init 45 = .ok (.aload_n 0, 1) := by decide +kernel
theorem dX11_init_46 : decode cX11_init 46 = .ok (.iconst 5, 1) := by decide +kernel
theorem dX11_init_47 : decode cX11_init 47 = .ok (.anewarray 32, 3) := by decide +kernel
theorem dX11_init_50 : decode cX11_init 50 = .ok (.putfield 34, 3) := by decide +kernel
theorem dX11_init_53 : decode cX11_init 53 = .ok (.aload_n 0, 1) := by decide +kernel
theorem dX11_init_54 : decode cX11_init 54 = .ok (.iconst 0, 1) := by decide +kernel
theorem dX11_init_55 : decode cX11_init 55 = .ok (.putfield 38, 3) := by decide +kernel
theorem dX11_init_58 : decode cX11_init 58 = .ok (.aload_n 0, 1) := by decide +kernel
theorem dX11_init_59 : decode cX11_init 59 = .ok (.new 42, 3) := by decide +kernel
theorem dX11_init_62 : decode cX11_init 62 = .ok (.dup, 1) := by decide +kernel
theorem dX11_init_63 : decode cX11_init 63 = .ok (.invokespecial 44, 3) := by decide +kernel
theorem dX11_init_66 : decode cX11_init 66 = .ok (.putfield 45, 3) := by decide +kernel
theorem dX11_init_69 : decode cX11_init 69 = .ok (.aload_n 0, 1) := by decide +kernel
theorem dX11_init_70 : decode cX11_init 70 = .ok (.new 49, 3) := by decide +kernel
theorem dX11_init_73 : decode cX11_init 73 = .ok (.dup, 1) := by decide +kernel
theorem dX11_init_74 : decode cX11_init 74 = .ok (.invokespecial 51, 3) := by decide +kernel
theorem dX11_init_77 : decode cX11_init 77 = .ok (.putfield 52, 3) := by decide +kernel
theorem dX11_init_80 : decode cX11_init 80 = .ok (.aload_n 0, 1) := by decide +kernel
theorem dX11_init_81 : decode cX11_init 81 = .ok (.new 49, 3) := by decide +kernel
theorem dX11_init_84 : decode cX11_init 84 = .ok (.dup, 1) := by decide +kernel
theorem dX11_init_85 : decode cX11_init 85 = .ok (.invokespecial 51, 3) := by decide +kernel
theorem dX11_init_88 : decode cX11_init 88 = .ok (.putfield 56, 3) := by decide +kernel
theorem dX11_init_91 : decode cX11_init 91 = .ok (.aload_n 0, 1) := by decide +kernel
theorem dX11_init_92 : decode cX11_init 92 = .ok (.new 59, 3) := by decide +kernel
theorem dX11_init_95 : decode cX11_init 95 = .ok (.dup, 1) := by decide +kernel
theorem dX11_init_96 : decode cX11_init 96 = .ok (.invokespecial 61, 3) := by decide +kernel
theorem dX11_init_99 : decode cX11_init 99 = .ok (.putfield 62, 3) := by decide +kernel
theorem dX11_init_102 : decode cX11_init 102 = .ok (.aload_n 0, 1) := by decide +kernel
theorem dX11_init_103 : decode cX11_init 103 = .ok (.new 66, 3) := by decide +kernel
theorem dX11_init_106 : decode cX11_init 106 = .ok (.dup, 1) := by decide +kernel
theorem dX11_init_107 : decode cX11_init 107 = .ok (.invokespecial 68, 3) := by decide +kernel
theorem dX11_init_110 : decode cX11_init 110 = .ok (.putfield 69, 3) := by decide +kernel
theorem dX11_init_113 : decode cX11_init 113 = .ok (.aload_n 0, 1) := by decide +kernel
theorem dX11_init_114 : decode cX11_init 114 = .ok (.new 73, 3) := by decide +kernel
theorem dX11_init_117 : decode cX11_init 117 = .ok (.dup, 1) := by decide +kernel
theorem dX11_init_118 : decode cX11_init 118 = .ok (.invokespecial 75, 3) := by decide +kernel
theorem dX11_init_121 : decode cX11_init 121 = .ok (.putfield 76, 3) := by decide +kernel
theorem dX11_init_124 : decode cX11_init 124 = .ok (.aload_n 0, 1) := by decide +kernel
theorem dX11_init_125 : decode cX11_init 125 = .ok (.new 80, 3) := by decide +kernel
theorem dX11_init_128 : decode cX11_init 128 = .ok (.dup, 1) := by decide +kernel
theorem dX11_init_129 : decode cX11_init 129 = .ok (.invokespecial 82, 3) := by decide +kernel
theorem dX11_init_132 : decode cX11_init 132 = .ok (.putfield 83, 3) := by decide +kernel
theorem dX11_init_135 : decode cX11_init 135 = .ok (.aload_n 0, 1) := by decide +kernel
theorem dX11_init_136 : decode cX11_init 136 = .ok (.iconst 1, 1) := by decide +kernel
theorem dX11_init_137 : decode cX11_init 137 = .ok (.putfield 87, 3) := by decide +kernel
theorem dX11_init_140 : decode cX11_init 140 = .ok (.iconst 0, 1) := by decide +kernel
theorem dX11_init_141 : decode cX11_init 141 = .ok (.istore_n 1, 1) := by decide +kernel
theorem dX11_init_142 : decode cX11_init 142 = .ok (.iload_n 1, 1) := by decide +kernel
theorem dX11_init_143 : decode cX11_init 143 = .ok (.aload_n 0, 1) := by decide +kernel
theorem dX11_init_144 : decode cX11_init 144 = .ok (.getfield 34, 3) := by decide +kernel
theorem dX11_init_147 : decode cX11_init 147 = .ok (.arraylength, 1) := by decide +kernel
theorem dX11_init_148 : decode cX11_init 148 = .ok (.if_icmp .ge 22, 3) := by decide +kernel
theorem dX11_init_151 : decode cX11_init 151 = .ok (.aload_n 0, 1) := by decide +kernel
theorem dX11_init_152 : decode cX11_init 152 = .ok (.getfield 34, 3) := by decide +kernel
theorem dX11_init_155 : decode cX11_init 155 = .ok (.iload_n 1, 1) := by decide +kernel
theorem dX11_init_156 : decode cX11_init 156 = .ok (.new 32, 3) := by decide +kernel
theorem dX11_init_159 : decode cX11_init 159 = .ok (.dup, 1) := by decide +kernel
theorem dX11_init_160 : decode cX11_init 160 = .ok (.invokespecial 90, 3) := by decide +kernel
theorem dX11_init_163 : decode cX11_init 163 = .ok (.aastore, 1) := by decide +kernel
theorem dX11_init_164 : decode cX11_init 164 = .ok (.iinc 1 1, 3) := by decide +kernel
theorem dX11_init_167 : decode cX11_init 167 = .ok (.goto (-25), 3) := by decide +kernel
theorem dX11_init_170 : decode cX11_init 170 = .ok (.return_, 1) := by decide +kernel
set_option maxRecDepth 100000 in
set_option maxHeartbeats 4000000 in
theorem ci_X11_init (l : Launch) (X : qX) (B : Nat) {M MR : qM} (hf : jTc_init M = some MR) : c_Met l X B yX11_init cX11_init 2 3 90 4986 (1) (91) M MR [.ref (X.1 0)] := by
  refine c_enter (by decide) (Nat.le_of_ble_eq_true rfl) rfl ?_
  intro p e s m args below meth c hE hin hrt hlk H locs hH ls hl
  have hx := hE.1
  have hb := hE.2.1
  have hl : lv_has ls 2 [(0, .ref (X.1 0))] := hl
  unfold jTc_init at hf
  refine lv_aload_n hx hb dX11_init_0 rfl (lv_at hl 0 rfl) ?_
  refine cz_obj (rest := []) hE (q_in _ 31 (by decide +kernel) rfl) (q_in _ 32 (by decide +kernel) rfl) (q_in _ 33 (by decide +kernel) rfl) hl.1 (by decide) (Nat.le_of_ble_eq_true rfl) dX11_init_1 ?_
  refine lv_aload_n hx hb dX11_init_4 rfl (lv_at hl 0 rfl) ?_
  refine cz_new hE hH qc_4 (by decide) qk_1 (q_in _ 34 (by decide +kernel) rfl) (q_in _ 35 (by decide +kernel) rfl) (q_in _ 2 (by decide +kernel) rfl) qd_4 (Nat.le_of_ble_eq_true rfl) (Nat.le_of_ble_eq_true rfl) dX11_init_5 (fun H hH => ?_)
  replace hH : c_H X B (2) M s H locs := hH
  refine W.cs (cells' := 1) (slots' := 4) rfl rfl ?_
  refine lv_dup hx hb dX11_init_8 rfl ?_
  obtain ⟨M1, eM1, hf⟩ := st_lty hf
  refine cz_callN (As := []) (rest := [.ref (X.1 1), .ref (X.1 0)]) 0 hE hH (ci_X4_init l X B (hf := eM1.symm)) km_X4_init (by decide) rfl (Nat.le_of_ble_eq_true rfl) (Nat.le_of_ble_eq_true rfl) rfl hl.1 rfl (Nat.le_of_ble_eq_true rfl) (Nat.le_of_ble_eq_true rfl) (Nat.le_of_ble_eq_true rfl) dX11_init_9 (fun H locs hH => ?_)
  replace hH : c_H X B (3) M1 s H locs := hH
  refine W.cs (cells' := 2) (slots' := 164) rfl rfl ?_
  obtain ⟨M2, eM2, hf⟩ := st_lty hf
  refine cz_pR hin hE hH cw_X11_10 (Or.inr rfl) (by decide) qk_0 eM2 ⟨rfl, rfl⟩ dX11_init_12 (fun H locs hH => ?_)
  refine lv_aload_n hx hb dX11_init_15 rfl (lv_at hl 0 rfl) ?_
  refine cz_new hE hH qc_8 (by decide) qk_3 (q_in _ 60 (by decide +kernel) rfl) (q_in _ 61 (by decide +kernel) rfl) (q_in _ 3 (by decide +kernel) rfl) qd_8 (Nat.le_of_ble_eq_true rfl) (Nat.le_of_ble_eq_true rfl) dX11_init_16 (fun H hH => ?_)
  replace hH : c_H X B (4) M2 s H locs := hH
  refine W.cs (cells' := 3) (slots' := 165) rfl rfl ?_
  refine lv_dup hx hb dX11_init_19 rfl ?_
  refine lv_aload_n hx hb dX11_init_20 rfl (lv_at hl 0 rfl) ?_
  obtain ⟨a3, ea3, hf⟩ := st_bd hf
  obtain ⟨ga3, hf⟩ := st_gd hf
  rw [eq_of_beq ga3] at ea3
  refine cz_gR hE hH fr_X11_10 (Or.inr rfl) (by decide) qk_0 ea3 dX11_init_21 ?_
  obtain ⟨M4, eM4, hf⟩ := st_lty hf
  refine cz_callI (As := [.ref (X.1 1)]) (rest := [.ref (X.1 3), .ref (X.1 0)]) hE hH (ci_X8_init l X B (hf := eM4.symm)) km_X8_init (q_in _ 62 (by decide +kernel) rfl) (Nat.le_of_ble_eq_true rfl) (Nat.le_of_ble_eq_true rfl) rfl hl.1 rfl (Nat.le_of_ble_eq_true rfl) (Nat.le_of_ble_eq_true rfl) (Nat.le_of_ble_eq_true rfl) dX11_init_24 (fun H locs hH => ?_)
  replace hH : c_H X B (4) M4 s H locs := hH
  refine W.cs (cells' := 3) (slots' := 165) rfl rfl ?_
  obtain ⟨M5, eM5, hf⟩ := st_lty hf
  refine cz_pR hin hE hH cw_X11_21 (Or.inr rfl) (by decide) qk_0 eM5 ⟨rfl, rfl⟩ dX11_init_27 (fun H locs hH => ?_)
  refine lv_aload_n hx hb dX11_init_30 rfl (lv_at hl 0 rfl) ?_
  refine cz_new hE hH qc_10 (by decide) qk_4 (q_in _ 70 (by decide +kernel) rfl) (q_in _ 71 (by decide +kernel) rfl) (q_in _ 4 (by decide +kernel) rfl) qd_10 (Nat.le_of_ble_eq_true rfl) (Nat.le_of_ble_eq_true rfl) dX11_init_31 (fun H hH => ?_)
  replace hH : c_H X B (5) M5 s H locs := hH
  refine W.cs (cells' := 4) (slots' := 167) rfl rfl ?_
  refine lv_dup hx hb dX11_init_34 rfl ?_
  refine lv_aload_n hx hb dX11_init_35 rfl (lv_at hl 0 rfl) ?_
  obtain ⟨a6, ea6, hf⟩ := st_bd hf
  obtain ⟨ga6, hf⟩ := st_gd hf
  rw [eq_of_beq ga6] at ea6
  refine cz_gR hE hH fr_X11_10 (Or.inr rfl) (by decide) qk_0 ea6 dX11_init_36 ?_
  obtain ⟨M7, eM7, hf⟩ := st_lty hf
  refine cz_callI (As := [.ref (X.1 1)]) (rest := [.ref (X.1 4), .ref (X.1 0)]) hE hH (ci_X10_init l X B (hf := eM7.symm)) km_X10_init (q_in _ 72 (by decide +kernel) rfl) (Nat.le_of_ble_eq_true rfl) (Nat.le_of_ble_eq_true rfl) rfl hl.1 rfl (Nat.le_of_ble_eq_true rfl) (Nat.le_of_ble_eq_true rfl) (Nat.le_of_ble_eq_true rfl) dX11_init_39 (fun H locs hH => ?_)
  replace hH : c_H X B (5) M7 s H locs := hH
  refine W.cs (cells' := 4) (slots' := 167) rfl rfl ?_
  obtain ⟨M8, eM8, hf⟩ := st_lty hf
  refine cz_pR hin hE hH cw_X11_28 (Or.inr rfl) (by decide) qk_0 eM8 ⟨rfl, rfl⟩ dX11_init_42 (fun H locs hH => ?_)
  refine lv_aload_n hx hb dX11_init_45 rfl (lv_at hl 0 rfl) ?_
  refine lv_iconst (v := 5) hx hb dX11_init_46 (by decide) ?_
  refine cz_newV (n := 5) hE hH (by decide) qk_5 (q_in _ 83 (by decide +kernel) rfl) (by decide) (by decide) (by decide) (Nat.le_of_ble_eq_true rfl) (Nat.le_of_ble_eq_true rfl) dX11_init_47 (fun H hH => ?_)
  replace hH : c_H X B (6) M8 s H locs := hH
  refine W.cs (cells' := 5) (slots' := 172) rfl rfl ?_
  obtain ⟨M9, eM9, hf⟩ := st_lty hf
  refine cz_pR hin hE hH cw_X11_34 (Or.inr rfl) (by decide) qk_0 eM9 ⟨rfl, rfl⟩ dX11_init_50 (fun H locs hH => ?_)
  refine lv_aload_n hx hb dX11_init_53 rfl (lv_at hl 0 rfl) ?_
  refine lv_iconst (v := 0) hx hb dX11_init_54 (by decide) ?_
  obtain ⟨M10, eM10, hf⟩ := st_lty hf
  refine cz_pI hin hE hH cw_X11_38 (by decide) qk_0 eM10 dX11_init_55 (fun H locs hH => ?_)
  refine lv_aload_n hx hb dX11_init_58 rfl (lv_at hl 0 rfl) ?_
  refine cz_new hE hH qc_0 (by decide) qk_6 (q_in _ 85 (by decide +kernel) rfl) (q_in _ 86 (by decide +kernel) rfl) (q_in _ 5 (by decide +kernel) rfl) qd_0 (Nat.le_of_ble_eq_true rfl) (Nat.le_of_ble_eq_true rfl) dX11_init_59 (fun H hH => ?_)
  replace hH : c_H X B (7) M10 s H locs := hH
  refine W.cs (cells' := 6) (slots' := 178) rfl rfl ?_
  refine lv_dup hx hb dX11_init_62 rfl ?_
  obtain ⟨M11, eM11, hf⟩ := st_bd hf
  refine cz_callI (As := []) (rest := [.ref (X.1 6), .ref (X.1 0)]) hE hH (ci_X0_init l X B (hf := eM11)) km_X0_init (q_in _ 87 (by decide +kernel) rfl) (Nat.le_of_ble_eq_true rfl) (Nat.le_of_ble_eq_true rfl) rfl hl.1 rfl (Nat.le_of_ble_eq_true rfl) (Nat.le_of_ble_eq_true rfl) (Nat.le_of_ble_eq_true rfl) dX11_init_63 (fun H locs hH => ?_)
  replace hH : c_H X B (33) M11 s H locs := hH
  refine W.cs (cells' := 32) (slots' := 2530) rfl rfl ?_
  obtain ⟨M12, eM12, hf⟩ := st_lty hf
  refine cz_pR hin hE hH cw_X11_45 (Or.inr rfl) (by decide) qk_0 eM12 ⟨rfl, rfl⟩ dX11_init_66 (fun H locs hH => ?_)
  refine lv_aload_n hx hb dX11_init_69 rfl (lv_at hl 0 rfl) ?_
  refine cz_new hE hH qc_1 (by decide) qk_33 (q_in _ 134 (by decide +kernel) rfl) (q_in _ 135 (by decide +kernel) rfl) (q_in _ 7 (by decide +kernel) rfl) qd_1 (Nat.le_of_ble_eq_true rfl) (Nat.le_of_ble_eq_true rfl) dX11_init_70 (fun H hH => ?_)
  replace hH : c_H X B (34) M12 s H locs := hH
  refine W.cs (cells' := 33) (slots' := 2548) rfl rfl ?_
  refine lv_dup hx hb dX11_init_73 rfl ?_
  obtain ⟨M13, eM13, hf⟩ := st_lty hf
  refine cz_callN (As := []) (rest := [.ref (X.1 33), .ref (X.1 0)]) 2 hE hH (ci_X1_init l X B (by decide) (hf := eM13.symm)) km_X1_init (by decide) rfl (Nat.le_of_ble_eq_true rfl) (Nat.le_of_ble_eq_true rfl) rfl hl.1 rfl (Nat.le_of_ble_eq_true rfl) (Nat.le_of_ble_eq_true rfl) (Nat.le_of_ble_eq_true rfl) dX11_init_74 (fun H locs hH => ?_)
  replace hH : c_H X B (37) M13 s H locs := hH
  refine W.cs (cells' := 36) (slots' := 2594) rfl rfl ?_
  obtain ⟨M14, eM14, hf⟩ := st_lty hf
  refine cz_pR hin hE hH cw_X11_52 (Or.inr rfl) (by decide) qk_0 eM14 ⟨rfl, rfl⟩ dX11_init_77 (fun H locs hH => ?_)
  refine lv_aload_n hx hb dX11_init_80 rfl (lv_at hl 0 rfl) ?_
  refine cz_new hE hH qc_1 (by decide) qk_37 (q_in _ 134 (by decide +kernel) rfl) (q_in _ 135 (by decide +kernel) rfl) (q_in _ 7 (by decide +kernel) rfl) qd_1 (Nat.le_of_ble_eq_true rfl) (Nat.le_of_ble_eq_true rfl) dX11_init_81 (fun H hH => ?_)
  replace hH : c_H X B (38) M14 s H locs := hH
  refine W.cs (cells' := 37) (slots' := 2612) rfl rfl ?_
  refine lv_dup hx hb dX11_init_84 rfl ?_
  obtain ⟨M15, eM15, hf⟩ := st_lty hf
  refine cz_callN (As := []) (rest := [.ref (X.1 37), .ref (X.1 0)]) 2 hE hH (ci_X1_init l X B (by decide) (hf := eM15.symm)) km_X1_init (by decide) rfl (Nat.le_of_ble_eq_true rfl) (Nat.le_of_ble_eq_true rfl) rfl hl.1 rfl (Nat.le_of_ble_eq_true rfl) (Nat.le_of_ble_eq_true rfl) (Nat.le_of_ble_eq_true rfl) dX11_init_85 (fun H locs hH => ?_)
  replace hH : c_H X B (41) M15 s H locs := hH
  refine W.cs (cells' := 40) (slots' := 2658) rfl rfl ?_
  obtain ⟨M16, eM16, hf⟩ := st_lty hf
  refine cz_pR hin hE hH cw_X11_56 (Or.inr rfl) (by decide) qk_0 eM16 ⟨rfl, rfl⟩ dX11_init_88 (fun H locs hH => ?_)
  refine lv_aload_n hx hb dX11_init_91 rfl (lv_at hl 0 rfl) ?_
  refine cz_new hE hH qc_3 (by decide) qk_41 (q_in _ 214 (by decide +kernel) rfl) (q_in _ 215 (by decide +kernel) rfl) (q_in _ 8 (by decide +kernel) rfl) qd_3 (Nat.le_of_ble_eq_true rfl) (Nat.le_of_ble_eq_true rfl) dX11_init_92 (fun H hH => ?_)
  replace hH : c_H X B (42) M16 s H locs := hH
  refine W.cs (cells' := 41) (slots' := 2666) rfl rfl ?_
  refine lv_dup hx hb dX11_init_95 rfl ?_
  obtain ⟨M17, eM17, hf⟩ := st_lty hf
  refine cz_callN (As := []) (rest := [.ref (X.1 41), .ref (X.1 0)]) 3 hE hH (ci_X3_init l X B (hf := eM17.symm)) km_X3_init (by decide) rfl (Nat.le_of_ble_eq_true rfl) (Nat.le_of_ble_eq_true rfl) rfl hl.1 rfl (Nat.le_of_ble_eq_true rfl) (Nat.le_of_ble_eq_true rfl) (Nat.le_of_ble_eq_true rfl) dX11_init_96 (fun H locs hH => ?_)
  replace hH : c_H X B (49) M17 s H locs := hH
  refine W.cs (cells' := 48) (slots' := 2830) rfl rfl ?_
  obtain ⟨M18, eM18, hf⟩ := st_lty hf
  refine cz_pR hin hE hH cw_X11_62 (Or.inr rfl) (by decide) qk_0 eM18 ⟨rfl, rfl⟩ dX11_init_99 (fun H locs hH => ?_)
  refine lv_aload_n hx hb dX11_init_102 rfl (lv_at hl 0 rfl) ?_
  refine cz_new hE hH qc_2 (by decide) qk_49 (q_in _ 252 (by decide +kernel) rfl) (q_in _ 253 (by decide +kernel) rfl) (q_in _ 9 (by decide +kernel) rfl) qd_2 (Nat.le_of_ble_eq_true rfl) (Nat.le_of_ble_eq_true rfl) dX11_init_103 (fun H hH => ?_)
  replace hH : c_H X B (50) M18 s H locs := hH
  refine W.cs (cells' := 49) (slots' := 2848) rfl rfl ?_
  refine lv_dup hx hb dX11_init_106 rfl ?_
  obtain ⟨M19, eM19, hf⟩ := st_bd hf
  refine cz_callI (As := []) (rest := [.ref (X.1 49), .ref (X.1 0)]) hE hH (ci_X2_init l X B (hf := eM19)) km_X2_init (q_in _ 254 (by decide +kernel) rfl) (Nat.le_of_ble_eq_true rfl) (Nat.le_of_ble_eq_true rfl) rfl hl.1 rfl (Nat.le_of_ble_eq_true rfl) (Nat.le_of_ble_eq_true rfl) (Nat.le_of_ble_eq_true rfl) dX11_init_107 (fun H locs hH => ?_)
  replace hH : c_H X B (60) M19 s H locs := hH
  refine W.cs (cells' := 59) (slots' := 4383) rfl rfl ?_
  obtain ⟨M20, eM20, hf⟩ := st_lty hf
  refine cz_pR hin hE hH cw_X11_69 (Or.inr rfl) (by decide) qk_0 eM20 ⟨rfl, rfl⟩ dX11_init_110 (fun H locs hH => ?_)
  refine lv_aload_n hx hb dX11_init_113 rfl (lv_at hl 0 rfl) ?_
  refine cz_new hE hH qc_5 (by decide) qk_60 (q_in _ 324 (by decide +kernel) rfl) (q_in _ 325 (by decide +kernel) rfl) (q_in _ 10 (by decide +kernel) rfl) qd_5 (Nat.le_of_ble_eq_true rfl) (Nat.le_of_ble_eq_true rfl) dX11_init_114 (fun H hH => ?_)
  replace hH : c_H X B (61) M20 s H locs := hH
  refine W.cs (cells' := 60) (slots' := 4389) rfl rfl ?_
  refine lv_dup hx hb dX11_init_117 rfl ?_
  obtain ⟨M21, eM21, hf⟩ := st_lty hf
  refine cz_callN (As := []) (rest := [.ref (X.1 60), .ref (X.1 0)]) 5 hE hH (ci_X5_init l X B (hf := eM21.symm)) km_X5_init (by decide) rfl (Nat.le_of_ble_eq_true rfl) (Nat.le_of_ble_eq_true rfl) rfl hl.1 rfl (Nat.le_of_ble_eq_true rfl) (Nat.le_of_ble_eq_true rfl) (Nat.le_of_ble_eq_true rfl) dX11_init_118 (fun H locs hH => ?_)
  replace hH : c_H X B (65) M21 s H locs := hH
  refine W.cs (cells' := 64) (slots' := 4551) rfl rfl ?_
  obtain ⟨M22, eM22, hf⟩ := st_lty hf
  refine cz_pR hin hE hH cw_X11_76 (Or.inr rfl) (by decide) qk_0 eM22 ⟨rfl, rfl⟩ dX11_init_121 (fun H locs hH => ?_)
  refine lv_aload_n hx hb dX11_init_124 rfl (lv_at hl 0 rfl) ?_
  refine cz_new hE hH qc_6 (by decide) qk_65 (q_in _ 353 (by decide +kernel) rfl) (q_in _ 354 (by decide +kernel) rfl) (q_in _ 11 (by decide +kernel) rfl) qd_6 (Nat.le_of_ble_eq_true rfl) (Nat.le_of_ble_eq_true rfl) dX11_init_125 (fun H hH => ?_)
  replace hH : c_H X B (66) M22 s H locs := hH
  refine W.cs (cells' := 65) (slots' := 4556) rfl rfl ?_
  refine lv_dup hx hb dX11_init_128 rfl ?_
  obtain ⟨M23, eM23, hf⟩ := st_lty hf
  refine cz_callN (As := []) (rest := [.ref (X.1 65), .ref (X.1 0)]) 6 hE hH (ci_X6_init l X B (hf := eM23.symm)) km_X6_init (by decide) rfl (Nat.le_of_ble_eq_true rfl) (Nat.le_of_ble_eq_true rfl) rfl hl.1 rfl (Nat.le_of_ble_eq_true rfl) (Nat.le_of_ble_eq_true rfl) (Nat.le_of_ble_eq_true rfl) dX11_init_129 (fun H locs hH => ?_)
  replace hH : c_H X B (71) M23 s H locs := hH
  refine W.cs (cells' := 70) (slots' := 4656) rfl rfl ?_
  obtain ⟨M24, eM24, hf⟩ := st_lty hf
  refine cz_pR hin hE hH cw_X11_83 (Or.inr rfl) (by decide) qk_0 eM24 ⟨rfl, rfl⟩ dX11_init_132 (fun H locs hH => ?_)
  refine lv_aload_n hx hb dX11_init_135 rfl (lv_at hl 0 rfl) ?_
  refine lv_iconst (v := 1) hx hb dX11_init_136 (by decide) ?_
  obtain ⟨M25, eM25, hf⟩ := st_lty hf
  refine cz_pI hin hE hH cw_X11_87 (by decide) qk_0 eM25 dX11_init_137 (fun H locs hH => ?_)
  refine lv_iconst (v := 0) hx hb dX11_init_140 (by decide) ?_
  refine lv_istore_n (lv' := [(1, .int 0), (0, .ref (X.1 0))]) hx hb dX11_init_141 rfl hl (by decide) rfl (fun ls hl => ?_)
  refine lv_iload_n hx hb dX11_init_142 rfl (lv_at hl 0 rfl) ?_
  refine lv_aload_n hx hb dX11_init_143 rfl (lv_at hl 1 rfl) ?_
  obtain ⟨a26, ea26, hf⟩ := st_bd hf
  obtain ⟨ga26, hf⟩ := st_gd hf
  rw [eq_of_beq ga26] at ea26
  refine cz_gR hE hH fr_X11_34 (Or.inr rfl) (by decide) qk_0 ea26 dX11_init_144 ?_
  refine cz_alV (v := 5) hE hH (by decide) qk_5 (by decide) dX11_init_147 ?_
  refine lv_icmp_ge (tgt := 170) hx hb dX11_init_148 (by decide) (fun hc => ?_) (fun hc => ?_)
  · exact absurd hc (by decide)
  refine lv_aload_n hx hb dX11_init_151 rfl (lv_at hl 1 rfl) ?_
  obtain ⟨a27, ea27, hf⟩ := st_bd hf
  obtain ⟨ga27, hf⟩ := st_gd hf
  rw [eq_of_beq ga27] at ea27
  refine cz_gR hE hH fr_X11_34 (Or.inr rfl) (by decide) qk_0 ea27 dX11_init_152 ?_
  refine lv_iload_n hx hb dX11_init_155 rfl (lv_at hl 0 rfl) ?_
  refine cz_new hE hH qc_7 (by decide) qk_71 (q_in _ 83 (by decide +kernel) rfl) (q_in _ 378 (by decide +kernel) rfl) (q_in _ 12 (by decide +kernel) rfl) qd_7 (Nat.le_of_ble_eq_true rfl) (Nat.le_of_ble_eq_true rfl) dX11_init_156 (fun H hH => ?_)
  replace hH : c_H X B (72) M25 s H locs := hH
  refine W.cs (cells' := 71) (slots' := 4662) rfl rfl ?_
  refine lv_dup hx hb dX11_init_159 rfl ?_
  obtain ⟨M28, eM28, hf⟩ := st_lty hf
  refine cz_callN (As := []) (rest := [.ref (X.1 71), .int 0, .ref (X.1 5)]) 7 hE hH (ci_X7_init l X B (by decide) (hf := eM28.symm)) km_X7_init (by decide) rfl (Nat.le_of_ble_eq_true rfl) (Nat.le_of_ble_eq_true rfl) rfl hl.1 rfl (Nat.le_of_ble_eq_true rfl) (Nat.le_of_ble_eq_true rfl) (Nat.le_of_ble_eq_true rfl) dX11_init_160 (fun H locs hH => ?_)
  replace hH : c_H X B (75) M28 s H locs := hH
  refine W.cs (cells' := 74) (slots' := 4722) rfl rfl ?_
  obtain ⟨M29, eM29, hf⟩ := st_lty hf
  refine cz_astV hE hH (by decide) qk_5 (by decide) qk_71 (by decide) eM29 dX11_init_163 (fun H locs hH => ?_)
  refine lv_iinc (v := 1) (lv' := [(1, .int 1), (0, .ref (X.1 0))]) hx hb dX11_init_164 hl (k := 0) rfl (by decide) (by decide) rfl (fun ls hl => ?_)
  refine lv_goto (tgt := 142) hx hb dX11_init_167 (by decide) ?_
  refine lv_iload_n hx hb dX11_init_142 rfl (lv_at hl 0 rfl) ?_
  refine lv_aload_n hx hb dX11_init_143 rfl (lv_at hl 1 rfl) ?_
  obtain ⟨a30, ea30, hf⟩ := st_bd hf
  obtain ⟨ga30, hf⟩ := st_gd hf
  rw [eq_of_beq ga30] at ea30
  refine cz_gR hE hH fr_X11_34 (Or.inr rfl) (by decide) qk_0 ea30 dX11_init_144 ?_
  refine cz_alV (v := 5) hE hH (by decide) qk_5 (by decide) dX11_init_147 ?_
  refine lv_icmp_ge (tgt := 170) hx hb dX11_init_148 (by decide) (fun hc => ?_) (fun hc => ?_)
  · exact absurd hc (by decide)
  refine lv_aload_n hx hb dX11_init_151 rfl (lv_at hl 1 rfl) ?_
  obtain ⟨a31, ea31, hf⟩ := st_bd hf
  obtain ⟨ga31, hf⟩ := st_gd hf
  rw [eq_of_beq ga31] at ea31
  refine cz_gR hE hH fr_X11_34 (Or.inr rfl) (by decide) qk_0 ea31 dX11_init_152 ?_
  refine lv_iload_n hx hb dX11_init_155 rfl (lv_at hl 0 rfl) ?_
  refine cz_new hE hH qc_7 (by decide) qk_75 (q_in _ 83 (by decide +kernel) rfl) (q_in _ 378 (by decide +kernel) rfl) (q_in _ 12 (by decide +kernel) rfl) qd_7 (Nat.le_of_ble_eq_true rfl) (Nat.le_of_ble_eq_true rfl) dX11_init_156 (fun H hH => ?_)
  replace hH : c_H X B (76) M29 s H locs := hH
  refine W.cs (cells' := 75) (slots' := 4728) rfl rfl ?_
  refine lv_dup hx hb dX11_init_159 rfl ?_
  obtain ⟨M32, eM32, hf⟩ := st_lty hf
  refine cz_callN (As := []) (rest := [.ref (X.1 75), .int 1, .ref (X.1 5)]) 7 hE hH (ci_X7_init l X B (by decide) (hf := eM32.symm)) km_X7_init (by decide) rfl (Nat.le_of_ble_eq_true rfl) (Nat.le_of_ble_eq_true rfl) rfl hl.1 rfl (Nat.le_of_ble_eq_true rfl) (Nat.le_of_ble_eq_true rfl) (Nat.le_of_ble_eq_true rfl) dX11_init_160 (fun H locs hH => ?_)
  replace hH : c_H X B (79) M32 s H locs := hH
  refine W.cs (cells' := 78) (slots' := 4788) rfl rfl ?_
  obtain ⟨M33, eM33, hf⟩ := st_lty hf
  refine cz_astV hE hH (by decide) qk_5 (by decide) qk_75 (by decide) eM33 dX11_init_163 (fun H locs hH => ?_)
  refine lv_iinc (v := 2) (lv' := [(1, .int 2), (0, .ref (X.1 0))]) hx hb dX11_init_164 hl (k := 0) rfl (by decide) (by decide) rfl (fun ls hl => ?_)
  refine lv_goto (tgt := 142) hx hb dX11_init_167 (by decide) ?_
  refine lv_iload_n hx hb dX11_init_142 rfl (lv_at hl 0 rfl) ?_
  refine lv_aload_n hx hb dX11_init_143 rfl (lv_at hl 1 rfl) ?_
  obtain ⟨a34, ea34, hf⟩ := st_bd hf
  obtain ⟨ga34, hf⟩ := st_gd hf
  rw [eq_of_beq ga34] at ea34
  refine cz_gR hE hH fr_X11_34 (Or.inr rfl) (by decide) qk_0 ea34 dX11_init_144 ?_
  refine cz_alV (v := 5) hE hH (by decide) qk_5 (by decide) dX11_init_147 ?_
  refine lv_icmp_ge (tgt := 170) hx hb dX11_init_148 (by decide) (fun hc => ?_) (fun hc => ?_)
  · exact absurd hc (by decide)
  refine lv_aload_n hx hb dX11_init_151 rfl (lv_at hl 1 rfl) ?_
  obtain ⟨a35, ea35, hf⟩ := st_bd hf
  obtain ⟨ga35, hf⟩ := st_gd hf
  rw [eq_of_beq ga35] at ea35
  refine cz_gR hE hH fr_X11_34 (Or.inr rfl) (by decide) qk_0 ea35 dX11_init_152 ?_
  refine lv_iload_n hx hb dX11_init_155 rfl (lv_at hl 0 rfl) ?_
  refine cz_new hE hH qc_7 (by decide) qk_79 (q_in _ 83 (by decide +kernel) rfl) (q_in _ 378 (by decide +kernel) rfl) (q_in _ 12 (by decide +kernel) rfl) qd_7 (Nat.le_of_ble_eq_true rfl) (Nat.le_of_ble_eq_true rfl) dX11_init_156 (fun H hH => ?_)
  replace hH : c_H X B (80) M33 s H locs := hH
  refine W.cs (cells' := 79) (slots' := 4794) rfl rfl ?_
  refine lv_dup hx hb dX11_init_159 rfl ?_
  obtain ⟨M36, eM36, hf⟩ := st_lty hf
  refine cz_callN (As := []) (rest := [.ref (X.1 79), .int 2, .ref (X.1 5)]) 7 hE hH (ci_X7_init l X B (by decide) (hf := eM36.symm)) km_X7_init (by decide) rfl (Nat.le_of_ble_eq_true rfl) (Nat.le_of_ble_eq_true rfl) rfl hl.1 rfl (Nat.le_of_ble_eq_true rfl) (Nat.le_of_ble_eq_true rfl) (Nat.le_of_ble_eq_true rfl) dX11_init_160 (fun H locs hH => ?_)
  replace hH : c_H X B (83) M36 s H locs := hH
  refine W.cs (cells' := 82) (slots' := 4854) rfl rfl ?_
  obtain ⟨M37, eM37, hf⟩ := st_lty hf
  refine cz_astV hE hH (by decide) qk_5 (by decide) qk_79 (by decide) eM37 dX11_init_163 (fun H locs hH => ?_)
  refine lv_iinc (v := 3) (lv' := [(1, .int 3), (0, .ref (X.1 0))]) hx hb dX11_init_164 hl (k := 0) rfl (by decide) (by decide) rfl (fun ls hl => ?_)
  refine lv_goto (tgt := 142) hx hb dX11_init_167 (by decide) ?_
  refine lv_iload_n hx hb dX11_init_142 rfl (lv_at hl 0 rfl) ?_
  refine lv_aload_n hx hb dX11_init_143 rfl (lv_at hl 1 rfl) ?_
  obtain ⟨a38, ea38, hf⟩ := st_bd hf
  obtain ⟨ga38, hf⟩ := st_gd hf
  rw [eq_of_beq ga38] at ea38
  refine cz_gR hE hH fr_X11_34 (Or.inr rfl) (by decide) qk_0 ea38 dX11_init_144 ?_
  refine cz_alV (v := 5) hE hH (by decide) qk_5 (by decide) dX11_init_147 ?_
  refine lv_icmp_ge (tgt := 170) hx hb dX11_init_148 (by decide) (fun hc => ?_) (fun hc => ?_)
  · exact absurd hc (by decide)
  refine lv_aload_n hx hb dX11_init_151 rfl (lv_at hl 1 rfl) ?_
  obtain ⟨a39, ea39, hf⟩ := st_bd hf
  obtain ⟨ga39, hf⟩ := st_gd hf
  rw [eq_of_beq ga39] at ea39
  refine cz_gR hE hH fr_X11_34 (Or.inr rfl) (by decide) qk_0 ea39 dX11_init_152 ?_
  refine lv_iload_n hx hb dX11_init_155 rfl (lv_at hl 0 rfl) ?_
  refine cz_new hE hH qc_7 (by decide) qk_83 (q_in _ 83 (by decide +kernel) rfl) (q_in _ 378 (by decide +kernel) rfl) (q_in _ 12 (by decide +kernel) rfl) qd_7 (Nat.le_of_ble_eq_true rfl) (Nat.le_of_ble_eq_true rfl) dX11_init_156 (fun H hH => ?_)
  replace hH : c_H X B (84) M37 s H locs := hH
  refine W.cs (cells' := 83) (slots' := 4860) rfl rfl ?_
  refine lv_dup hx hb dX11_init_159 rfl ?_
  obtain ⟨M40, eM40, hf⟩ := st_lty hf
  refine cz_callN (As := []) (rest := [.ref (X.1 83), .int 3, .ref (X.1 5)]) 7 hE hH (ci_X7_init l X B (by decide) (hf := eM40.symm)) km_X7_init (by decide) rfl (Nat.le_of_ble_eq_true rfl) (Nat.le_of_ble_eq_true rfl) rfl hl.1 rfl (Nat.le_of_ble_eq_true rfl) (Nat.le_of_ble_eq_true rfl) (Nat.le_of_ble_eq_true rfl) dX11_init_160 (fun H locs hH => ?_)
  replace hH : c_H X B (87) M40 s H locs := hH
  refine W.cs (cells' := 86) (slots' := 4920) rfl rfl ?_
  obtain ⟨M41, eM41, hf⟩ := st_lty hf
  refine cz_astV hE hH (by decide) qk_5 (by decide) qk_83 (by decide) eM41 dX11_init_163 (fun H locs hH => ?_)
  refine lv_iinc (v := 4) (lv' := [(1, .int 4), (0, .ref (X.1 0))]) hx hb dX11_init_164 hl (k := 0) rfl (by decide) (by decide) rfl (fun ls hl => ?_)
  refine lv_goto (tgt := 142) hx hb dX11_init_167 (by decide) ?_
  refine lv_iload_n hx hb dX11_init_142 rfl (lv_at hl 0 rfl) ?_
  refine lv_aload_n hx hb dX11_init_143 rfl (lv_at hl 1 rfl) ?_
  obtain ⟨a42, ea42, hf⟩ := st_bd hf
  obtain ⟨ga42, hf⟩ := st_gd hf
  rw [eq_of_beq ga42] at ea42
  refine cz_gR hE hH fr_X11_34 (Or.inr rfl) (by decide) qk_0 ea42 dX11_init_144 ?_
  refine cz_alV (v := 5) hE hH (by decide) qk_5 (by decide) dX11_init_147 ?_
  refine lv_icmp_ge (tgt := 170) hx hb dX11_init_148 (by decide) (fun hc => ?_) (fun hc => ?_)
  · exact absurd hc (by decide)
  refine lv_aload_n hx hb dX11_init_151 rfl (lv_at hl 1 rfl) ?_
  obtain ⟨a43, ea43, hf⟩ := st_bd hf
  obtain ⟨ga43, hf⟩ := st_gd hf
  rw [eq_of_beq ga43] at ea43
  refine cz_gR hE hH fr_X11_34 (Or.inr rfl) (by decide) qk_0 ea43 dX11_init_152 ?_
  refine lv_iload_n hx hb dX11_init_155 rfl (lv_at hl 0 rfl) ?_
  refine cz_new hE hH qc_7 (by decide) qk_87 (q_in _ 83 (by decide +kernel) rfl) (q_in _ 378 (by decide +kernel) rfl) (q_in _ 12 (by decide +kernel) rfl) qd_7 (Nat.le_of_ble_eq_true rfl) (Nat.le_of_ble_eq_true rfl) dX11_init_156 (fun H hH => ?_)
  replace hH : c_H X B (88) M41 s H locs := hH
  refine W.cs (cells' := 87) (slots' := 4926) rfl rfl ?_
  refine lv_dup hx hb dX11_init_159 rfl ?_
  obtain ⟨M44, eM44, hf⟩ := st_lty hf
  refine cz_callN (As := []) (rest := [.ref (X.1 87), .int 4, .ref (X.1 5)]) 7 hE hH (ci_X7_init l X B (by decide) (hf := eM44.symm)) km_X7_init (by decide) rfl (Nat.le_of_ble_eq_true rfl) (Nat.le_of_ble_eq_true rfl) rfl hl.1 rfl (Nat.le_of_ble_eq_true rfl) (Nat.le_of_ble_eq_true rfl) (Nat.le_of_ble_eq_true rfl) dX11_init_160 (fun H locs hH => ?_)
  replace hH : c_H X B (91) M44 s H locs := hH
  refine W.cs (cells' := 90) (slots' := 4986) rfl rfl ?_
  obtain ⟨M45, eM45, hf⟩ := st_lty hf
  refine cz_astV hE hH (by decide) qk_5 (by decide) qk_87 (by decide) eM45 dX11_init_163 (fun H locs hH => ?_)
  refine lv_iinc (v := 5) (lv' := [(1, .int 5), (0, .ref (X.1 0))]) hx hb dX11_init_164 hl (k := 0) rfl (by decide) (by decide) rfl (fun ls hl => ?_)
  refine lv_goto (tgt := 142) hx hb dX11_init_167 (by decide) ?_
  refine lv_iload_n hx hb dX11_init_142 rfl (lv_at hl 0 rfl) ?_
  refine lv_aload_n hx hb dX11_init_143 rfl (lv_at hl 1 rfl) ?_
  obtain ⟨a46, ea46, hf⟩ := st_bd hf
  obtain ⟨ga46, hf⟩ := st_gd hf
  rw [eq_of_beq ga46] at ea46
  refine cz_gR hE hH fr_X11_34 (Or.inr rfl) (by decide) qk_0 ea46 dX11_init_144 ?_
  refine cz_alV (v := 5) hE hH (by decide) qk_5 (by decide) dX11_init_147 ?_
  refine lv_icmp_ge (tgt := 170) hx hb dX11_init_148 (by decide) (fun hc => ?_) (fun hc => ?_)
  rotate_left
  · exact absurd (by decide) hc
  replace hf := Option.some.inj hf
  subst hf
  exact cz_ret hE hrt hlk hH (by decide) (by decide) dX11_init_170

theorem dX12_init_0 : decode cX12_init 0 = .ok (.aload_n 0, 1) := by decide +kernel
theorem dX12_init_1 : decode cX12_init 1 = .ok (.invokespecial 3, 3) := by decide +kernel
theorem dX12_init_4 : decode cX12_init 4 = .ok (.aload_n 0, 1) := by decide +kernel
theorem dX12_init_5 : decode cX12_init 5 = .ok (.sipush 160, 3) := by decide +kernel
theorem dX12_init_8 : decode cX12_init 8 = .ok (.newarray .int, 2) := by decide +kernel
theorem dX12_init_10 : decode cX12_init 10 = .ok (.putfield 9, 3) := by decide +kernel
theorem dX12_init_13 : decode cX12_init 13 = .ok (.aload_n 0, 1) := by decide +kernel
theorem dX12_init_14 : decode cX12_init 14 = .ok (.sipush 2380, 3) := by decide +kernel
theorem dX12_init_17 : decode cX12_init 17 = .ok (.newarray .int, 2) := by decide +kernel
theorem dX12_init_19 : decode cX12_init 19 = .ok (.putfield 13, 3) := by decide +kernel
theorem dX12_init_22 : decode cX12_init 22 = .ok (.aload_n 0, 1) := by decide +kernel
theorem dX12_init_23 : decode cX12_init 23 = .ok (.sipush 2380, 3) := by decide +kernel
theorem dX12_init_26 : decode cX12_init 26 = .ok (.newarray .int, 2) := by decide +kernel
theorem dX12_init_28 : decode cX12_init 28 = .ok (.putfield 16, 3) := by decide +kernel
theorem dX12_init_31 : decode cX12_init 31 = .ok (.aload_n 0, 1) := by decide +kernel
theorem dX12_init_32 : decode cX12_init 32 = .ok (.bipush 7, 2) := by decide +kernel
theorem dX12_init_34 : decode cX12_init 34 = .ok (.newarray .int, 2) := by decide +kernel
theorem dX12_init_36 : decode cX12_init 36 = .ok (.putfield 19, 3) := by decide +kernel
theorem dX12_init_39 : decode cX12_init 39 = .ok (.aload_n 0, 1) := by decide +kernel
theorem dX12_init_40 : decode cX12_init 40 = .ok (.bipush 7, 2) := by decide +kernel
theorem dX12_init_42 : decode cX12_init 42 = .ok (.newarray .int, 2) := by decide +kernel
theorem dX12_init_44 : decode cX12_init 44 = .ok (.putfield 22, 3) := by decide +kernel
theorem dX12_init_47 : decode cX12_init 47 = .ok (.aload_n 0, 1) := by decide +kernel
theorem dX12_init_48 : decode cX12_init 48 = .ok (.sipush 630, 3) := by decide +kernel
theorem dX12_init_51 : decode cX12_init 51 = .ok (.newarray .int, 2) := by decide +kernel
theorem dX12_init_53 : decode cX12_init 53 = .ok (.putfield 25, 3) := by decide +kernel
theorem dX12_init_56 : decode cX12_init 56 = .ok (.aload_n 0, 1) := by decide +kernel
theorem dX12_init_57 : decode cX12_init 57 = .ok (.sipush 630, 3) := by decide +kernel
theorem dX12_init_60 : decode cX12_init 60 = .ok (.newarray .int, 2) := by decide +kernel
theorem dX12_init_62 : decode cX12_init 62 = .ok (.putfield 28, 3) := by decide +kernel
theorem dX12_init_65 : decode cX12_init 65 = .ok (.aload_n 0, 1) := by decide +kernel
theorem dX12_init_66 : decode cX12_init 66 = .ok (.sipush 630, 3) := by decide +kernel
theorem dX12_init_69 : decode cX12_init 69 = .ok (.newarray .int, 2) := by decide +kernel
theorem dX12_init_71 : decode cX12_init 71 = .ok (.putfield 31, 3) := by decide +kernel
theorem dX12_init_74 : decode cX12_init 74 = .ok (.aload_n 0, 1) := by decide +kernel
theorem dX12_init_75 : decode cX12_init 75 = .ok (.bipush 8, 2) := by decide +kernel
theorem dX12_init_77 : decode cX12_init 77 = .ok (.newarray .int, 2) := by decide +kernel
theorem dX12_init_79 : decode cX12_init 79 = .ok (.putfield 34, 3) := by decide +kernel
theorem dX12_init_82 : decode cX12_init 82 = .ok (.aload_n 0, 1) := by decide +kernel
theorem dX12_init_83 : decode cX12_init 83 = .ok (.bipush 80, 2) := by decide +kernel
theorem dX12_init_85 : decode cX12_init 85 = .ok (.newarray .int, 2) := by decide +kernel
theorem dX12_init_87 : decode cX12_init 87 = .ok (.putfield 37, 3) := by decide +kernel
theorem dX12_init_90 : decode cX12_init 90 = .ok (.aload_n 0, 1) := by decide +kernel
theorem dX12_init_91 : decode cX12_init 91 = .ok (.iconst 5, 1) := by decide +kernel
theorem dX12_init_92 : decode cX12_init 92 = .ok (.newarray .int, 2) := by decide +kernel
theorem dX12_init_94 : decode cX12_init 94 = .ok (.putfield 40, 3) := by decide +kernel
theorem dX12_init_97 : decode cX12_init 97 = .ok (.aload_n 0, 1) := by decide +kernel
theorem dX12_init_98 : decode cX12_init 98 = .ok (.iconst 5, 1) := by decide +kernel
theorem dX12_init_99 : decode cX12_init 99 = .ok (.newarray .int, 2) := by decide +kernel
theorem dX12_init_101 : decode cX12_init 101 = .ok (.putfield 43, 3) := by decide +kernel
theorem dX12_init_104 : decode cX12_init 104 = .ok (.aload_n 0, 1) := by decide +kernel
theorem dX12_init_105 : decode cX12_init 105 = .ok (.iconst 5, 1) := by decide +kernel
theorem dX12_init_106 : decode cX12_init 106 = .ok (.newarray .int, 2) := by decide +kernel
theorem dX12_init_108 : decode cX12_init 108 = .ok (.putfield 46, 3) := by decide +kernel
theorem dX12_init_111 : decode cX12_init 111 = .ok (.aload_n 0, 1) := by decide +kernel
theorem dX12_init_112 : decode cX12_init 112 = .ok (.bipush 80, 2) := by decide +kernel
theorem dX12_init_114 : decode cX12_init 114 = .ok (.newarray .int, 2) := by decide +kernel
theorem dX12_init_116 : decode cX12_init 116 = .ok (.putfield 49, 3) := by decide +kernel
theorem dX12_init_119 : decode cX12_init 119 = .ok (.aload_n 0, 1) := by decide +kernel
theorem dX12_init_120 : decode cX12_init 120 = .ok (.bipush 120, 2) := by decide +kernel
theorem dX12_init_122 : decode cX12_init 122 = .ok (.newarray .int, 2) := by decide +kernel
theorem dX12_init_124 : decode cX12_init 124 = .ok (.putfield 52, 3) := by decide +kernel
theorem dX12_init_127 : decode cX12_init 127 = .ok (.aload_n 0, 1) := by decide +kernel
theorem dX12_init_128 : decode cX12_init 128 = .ok (.bipush 6, 2) := by decide +kernel
theorem dX12_init_130 : decode cX12_init 130 = .ok (.newarray .int, 2) := by decide +kernel
theorem dX12_init_132 : decode cX12_init 132 = .ok (.putfield 55, 3) := by decide +kernel
theorem dX12_init_135 : decode cX12_init 135 = .ok (.aload_n 0, 1) := by decide +kernel
theorem dX12_init_136 : decode cX12_init 136 = .ok (.bipush 20, 2) := by decide +kernel
theorem dX12_init_138 : decode cX12_init 138 = .ok (.newarray .int, 2) := by decide +kernel
theorem dX12_init_140 : decode cX12_init 140 = .ok (.putfield 58, 3) := by decide +kernel
theorem dX12_init_143 : decode cX12_init 143 = .ok (.aload_n 0, 1) := by decide +kernel
theorem dX12_init_144 : decode cX12_init 144 = .ok (.bipush 20, 2) := by decide +kernel
theorem dX12_init_146 : decode cX12_init 146 = .ok (.newarray .int, 2) := by decide +kernel
theorem dX12_init_148 : decode cX12_init 148 = .ok (.putfield 61, 3) := by decide +kernel
theorem dX12_init_151 : decode cX12_init 151 = .ok (.aload_n 0, 1) := by decide +kernel
theorem dX12_init_152 : decode cX12_init 152 = .ok (.bipush 20, 2) := by decide +kernel
theorem dX12_init_154 : decode cX12_init 154 = .ok (.newarray .int, 2) := by decide +kernel
theorem dX12_init_156 : decode cX12_init 156 = .ok (.putfield 64, 3) := by decide +kernel
theorem dX12_init_159 : decode cX12_init 159 = .ok (.aload_n 0, 1) := by decide +kernel
theorem dX12_init_160 : decode cX12_init 160 = .ok (.iconst (-1), 1) := by decide +kernel
theorem dX12_init_161 : decode cX12_init 161 = .ok (.putfield 67, 3) := by decide +kernel
theorem dX12_init_164 : decode cX12_init 164 = .ok (.aload_n 0, 1) := by decide +kernel
theorem dX12_init_165 : decode cX12_init 165 = .ok (.bipush 60, 2) := by decide +kernel
theorem dX12_init_167 : decode cX12_init 167 = .ok (.newarray .int, 2) := by decide +kernel
theorem dX12_init_169 : decode cX12_init 169 = .ok (.putfield 71, 3) := by decide +kernel
theorem dX12_init_172 : decode cX12_init 172 = .ok (.aload_n 0, 1) := by decide +kernel
theorem dX12_init_173 : decode cX12_init 173 = .ok (.iconst (-1), 1) := by decide +kernel
theorem dX12_init_174 : decode cX12_init 174 = .ok (.putfield 74, 3) := by decide +kernel
theorem dX12_init_177 : decode cX12_init 177 = .ok (.aload_n 0, 1) := by decide +kernel
theorem dX12_init_178 : decode cX12_init 178 = .ok (.bipush 12, 2) := by decide +kernel
theorem dX12_init_180 : decode cX12_init 180 = .ok (.newarray .int, 2) := by decide +kernel
theorem dX12_init_182 : decode cX12_init 182 = .ok (.putfield 77, 3) := by decide +kernel
theorem dX12_init_185 : decode cX12_init 185 = .ok (.aload_n 0, 1) := by decide +kernel
theorem dX12_init_186 : decode cX12_init 186 = .ok (.bipush 12, 2) := by decide +kernel
theorem dX12_init_188 : decode cX12_init 188 = .ok (.newarray .int, 2) := by decide +kernel
theorem dX12_init_190 : decode cX12_init 190 = .ok (.putfield 80, 3) := by decide +kernel
theorem dX12_init_193 : decode cX12_init 193 = .ok (.aload_n 0, 1) := by decide +kernel
theorem dX12_init_194 : decode cX12_init 194 = .ok (.bipush 10, 2) := by decide +kernel
theorem dX12_init_196 : decode cX12_init 196 = .ok (.newarray .long, 2) := by decide +kernel
theorem dX12_init_198 : decode cX12_init 198 = .ok (.putfield 83, 3) := by decide +kernel
theorem dX12_init_201 : decode cX12_init 201 = .ok (.aload_n 0, 1) := by decide +kernel
theorem dX12_init_202 : decode cX12_init 202 = .ok (.bipush 10, 2) := by decide +kernel
theorem dX12_init_204 : decode cX12_init 204 = .ok (.newarray .long, 2) := by decide +kernel
theorem dX12_init_206 : decode cX12_init 206 = .ok (.putfield 87, 3) := by decide +kernel
theorem dX12_init_209 : decode cX12_init 209 = .ok (.aload_n 0, 1) := by decide +kernel
theorem dX12_init_210 : decode cX12_init 210 = .ok (.bipush 20, 2) := by decide +kernel
theorem dX12_init_212 : decode cX12_init 212 = .ok (.newarray .int, 2) := by decide +kernel
theorem dX12_init_214 : decode cX12_init 214 = .ok (.putfield 90, 3) := by decide +kernel
theorem dX12_init_217 : decode cX12_init 217 = .ok (.aload_n 0, 1) := by decide +kernel
theorem dX12_init_218 : decode cX12_init 218 = .ok (.bipush 20, 2) := by decide +kernel
theorem dX12_init_220 : decode cX12_init 220 = .ok (.newarray .int, 2) := by decide +kernel
theorem dX12_init_222 : decode cX12_init 222 = .ok (.putfield 93, 3) := by decide +kernel
theorem dX12_init_225 : decode cX12_init 225 = .ok (.aload_n 0, 1) := by decide +kernel
theorem dX12_init_226 : decode cX12_init 226 = .ok (.iconst (-1), 1) := by decide +kernel
theorem dX12_init_227 : decode cX12_init 227 = .ok (.putfield 96, 3) := by decide +kernel
theorem dX12_init_230 : decode cX12_init 230 = .ok (.aload_n 0, 1) := by decide +kernel
theorem dX12_init_231 : decode cX12_init 231 = .ok (.iconst 1, 1) := by decide +kernel
theorem dX12_init_232 : decode cX12_init 232 = .ok (.putfield 99, 3) := by decide +kernel
theorem dX12_init_235 : decode cX12_init 235 = .ok (.aload_n 0, 1) := by decide +kernel
theorem dX12_init_236 : decode cX12_init 236 = .ok (.bipush 20, 2) := by decide +kernel
theorem dX12_init_238 : decode cX12_init 238 = .ok (.newarray .int, 2) := by decide +kernel
theorem dX12_init_240 : decode cX12_init 240 = .ok (.putfield 102, 3) := by decide +kernel
theorem dX12_init_243 : decode cX12_init 243 = .ok (.aload_n 0, 1) := by decide +kernel
theorem dX12_init_244 : decode cX12_init 244 = .ok (.bipush 20, 2) := by decide +kernel
theorem dX12_init_246 : decode cX12_init 246 = .ok (.newarray .int, 2) := by decide +kernel
theorem dX12_init_248 : decode cX12_init 248 = .ok (.putfield 105, 3) := by decide +kernel
theorem dX12_init_251 : decode cX12_init 251 = .ok (.aload_n 0, 1) := by decide +kernel
theorem dX12_init_252 : decode cX12_init 252 = .ok (.bipush 60, 2) := by decide +kernel
theorem dX12_init_254 : decode cX12_init 254 = .ok (.newarray .int, 2) := by decide +kernel
theorem dX12_init_256 : decode cX12_init 256 = .ok (.putfield 108, 3) := by decide +kernel
theorem dX12_init_259 : decode cX12_init 259 = .ok (.aload_n 0, 1) := by decide +kernel
theorem dX12_init_260 : decode cX12_init 260 = .ok (.iconst (-1), 1) := by decide +kernel
theorem dX12_init_261 : decode cX12_init 261 = .ok (.putfield 111, 3) := by decide +kernel
theorem dX12_init_264 : decode cX12_init 264 = .ok (.aload_n 0, 1) := by decide +kernel
theorem dX12_init_265 : decode cX12_init 265 = .ok (.bipush 6, 2) := by decide +kernel
theorem dX12_init_267 : decode cX12_init 267 = .ok (.newarray .int, 2) := by decide +kernel
theorem dX12_init_269 : decode cX12_init 269 = .ok (.putfield 114, 3) := by decide +kernel
theorem dX12_init_272 : decode cX12_init 272 = .ok (.return_, 1) := by decide +kernel
set_option maxRecDepth 100000 in
set_option maxHeartbeats 4000000 in
theorem ci_X12_init (l : Launch) (X : qX) (B : Nat) {M MR : qM} (hf : jMd_init M = MR) : c_Met l X B yX12_init cX12_init 1 1 30 7443 (92) (122) M MR [.ref (X.1 91)] := by
  refine c_enter (by decide) (Nat.le_of_ble_eq_true rfl) rfl ?_
  intro p e s m args below meth c hE hin hrt hlk H locs hH ls hl
  have hx := hE.1
  have hb := hE.2.1
  have hl : lv_has ls 1 [(0, .ref (X.1 91))] := hl
  unfold jMd_init at hf
  refine lv_aload_n hx hb dX12_init_0 rfl (lv_at hl 0 rfl) ?_
  refine cz_obj (rest := []) hE (q_in _ 1363 (by decide +kernel) rfl) (q_in _ 32 (by decide +kernel) rfl) (q_in _ 33 (by decide +kernel) rfl) hl.1 (by decide) (Nat.le_of_ble_eq_true rfl) dX12_init_1 ?_
  refine lv_aload_n hx hb dX12_init_4 rfl (lv_at hl 0 rfl) ?_
  refine lv_sipush (v := 160) hx hb dX12_init_5 (by decide) ?_
  refine cz_newI (n := 160) hE hH (by decide) qk_92 (q_in _ 59 (by decide +kernel) rfl) (by decide) (by decide) (by decide) (Nat.le_of_ble_eq_true rfl) (Nat.le_of_ble_eq_true rfl) dX12_init_8 (fun H hH => ?_)
  replace hH : c_H X B (93) M s H locs := hH
  refine W.cs (cells' := 1) (slots' := 160) rfl rfl ?_
  obtain ⟨M1, eM1, hf⟩ := st_lty hf
  refine cz_pR hin hE hH cw_X12_9 (Or.inr rfl) (by decide) qk_91 eM1 ⟨rfl, rfl⟩ dX12_init_10 (fun H locs hH => ?_)
  refine lv_aload_n hx hb dX12_init_13 rfl (lv_at hl 0 rfl) ?_
  refine lv_sipush (v := 2380) hx hb dX12_init_14 (by decide) ?_
  refine cz_newI (n := 2380) hE hH (by decide) qk_93 (q_in _ 59 (by decide +kernel) rfl) (by decide) (by decide) (by decide) (Nat.le_of_ble_eq_true rfl) (Nat.le_of_ble_eq_true rfl) dX12_init_17 (fun H hH => ?_)
  replace hH : c_H X B (94) M1 s H locs := hH
  refine W.cs (cells' := 2) (slots' := 2540) rfl rfl ?_
  obtain ⟨M2, eM2, hf⟩ := st_lty hf
  refine cz_pR hin hE hH cw_X12_13 (Or.inr rfl) (by decide) qk_91 eM2 ⟨rfl, rfl⟩ dX12_init_19 (fun H locs hH => ?_)
  refine lv_aload_n hx hb dX12_init_22 rfl (lv_at hl 0 rfl) ?_
  refine lv_sipush (v := 2380) hx hb dX12_init_23 (by decide) ?_
  refine cz_newI (n := 2380) hE hH (by decide) qk_94 (q_in _ 59 (by decide +kernel) rfl) (by decide) (by decide) (by decide) (Nat.le_of_ble_eq_true rfl) (Nat.le_of_ble_eq_true rfl) dX12_init_26 (fun H hH => ?_)
  replace hH : c_H X B (95) M2 s H locs := hH
  refine W.cs (cells' := 3) (slots' := 4920) rfl rfl ?_
  obtain ⟨M3, eM3, hf⟩ := st_lty hf
  refine cz_pR hin hE hH cw_X12_16 (Or.inr rfl) (by decide) qk_91 eM3 ⟨rfl, rfl⟩ dX12_init_28 (fun H locs hH => ?_)
  refine lv_aload_n hx hb dX12_init_31 rfl (lv_at hl 0 rfl) ?_
  refine lv_bipush (v := 7) hx hb dX12_init_32 (by decide) ?_
  refine cz_newI (n := 7) hE hH (by decide) qk_95 (q_in _ 59 (by decide +kernel) rfl) (by decide) (by decide) (by decide) (Nat.le_of_ble_eq_true rfl) (Nat.le_of_ble_eq_true rfl) dX12_init_34 (fun H hH => ?_)
  replace hH : c_H X B (96) M3 s H locs := hH
  refine W.cs (cells' := 4) (slots' := 4927) rfl rfl ?_
  obtain ⟨M4, eM4, hf⟩ := st_lty hf
  refine cz_pR hin hE hH cw_X12_19 (Or.inr rfl) (by decide) qk_91 eM4 ⟨rfl, rfl⟩ dX12_init_36 (fun H locs hH => ?_)
  refine lv_aload_n hx hb dX12_init_39 rfl (lv_at hl 0 rfl) ?_
  refine lv_bipush (v := 7) hx hb dX12_init_40 (by decide) ?_
  refine cz_newI (n := 7) hE hH (by decide) qk_96 (q_in _ 59 (by decide +kernel) rfl) (by decide) (by decide) (by decide) (Nat.le_of_ble_eq_true rfl) (Nat.le_of_ble_eq_true rfl) dX12_init_42 (fun H hH => ?_)
  replace hH : c_H X B (97) M4 s H locs := hH
  refine W.cs (cells' := 5) (slots' := 4934) rfl rfl ?_
  obtain ⟨M5, eM5, hf⟩ := st_lty hf
  refine cz_pR hin hE hH cw_X12_22 (Or.inr rfl) (by decide) qk_91 eM5 ⟨rfl, rfl⟩ dX12_init_44 (fun H locs hH => ?_)
  refine lv_aload_n hx hb dX12_init_47 rfl (lv_at hl 0 rfl) ?_
  refine lv_sipush (v := 630) hx hb dX12_init_48 (by decide) ?_
  refine cz_newI (n := 630) hE hH (by decide) qk_97 (q_in _ 59 (by decide +kernel) rfl) (by decide) (by decide) (by decide) (Nat.le_of_ble_eq_true rfl) (Nat.le_of_ble_eq_true rfl) dX12_init_51 (fun H hH => ?_)
  replace hH : c_H X B (98) M5 s H locs := hH
  refine W.cs (cells' := 6) (slots' := 5564) rfl rfl ?_
  obtain ⟨M6, eM6, hf⟩ := st_lty hf
  refine cz_pR hin hE hH cw_X12_25 (Or.inr rfl) (by decide) qk_91 eM6 ⟨rfl, rfl⟩ dX12_init_53 (fun H locs hH => ?_)
  refine lv_aload_n hx hb dX12_init_56 rfl (lv_at hl 0 rfl) ?_
  refine lv_sipush (v := 630) hx hb dX12_init_57 (by decide) ?_
  refine cz_newI (n := 630) hE hH (by decide) qk_98 (q_in _ 59 (by decide +kernel) rfl) (by decide) (by decide) (by decide) (Nat.le_of_ble_eq_true rfl) (Nat.le_of_ble_eq_true rfl) dX12_init_60 (fun H hH => ?_)
  replace hH : c_H X B (99) M6 s H locs := hH
  refine W.cs (cells' := 7) (slots' := 6194) rfl rfl ?_
  obtain ⟨M7, eM7, hf⟩ := st_lty hf
  refine cz_pR hin hE hH cw_X12_28 (Or.inr rfl) (by decide) qk_91 eM7 ⟨rfl, rfl⟩ dX12_init_62 (fun H locs hH => ?_)
  refine lv_aload_n hx hb dX12_init_65 rfl (lv_at hl 0 rfl) ?_
  refine lv_sipush (v := 630) hx hb dX12_init_66 (by decide) ?_
  refine cz_newI (n := 630) hE hH (by decide) qk_99 (q_in _ 59 (by decide +kernel) rfl) (by decide) (by decide) (by decide) (Nat.le_of_ble_eq_true rfl) (Nat.le_of_ble_eq_true rfl) dX12_init_69 (fun H hH => ?_)
  replace hH : c_H X B (100) M7 s H locs := hH
  refine W.cs (cells' := 8) (slots' := 6824) rfl rfl ?_
  obtain ⟨M8, eM8, hf⟩ := st_lty hf
  refine cz_pR hin hE hH cw_X12_31 (Or.inr rfl) (by decide) qk_91 eM8 ⟨rfl, rfl⟩ dX12_init_71 (fun H locs hH => ?_)
  refine lv_aload_n hx hb dX12_init_74 rfl (lv_at hl 0 rfl) ?_
  refine lv_bipush (v := 8) hx hb dX12_init_75 (by decide) ?_
  refine cz_newI (n := 8) hE hH (by decide) qk_100 (q_in _ 59 (by decide +kernel) rfl) (by decide) (by decide) (by decide) (Nat.le_of_ble_eq_true rfl) (Nat.le_of_ble_eq_true rfl) dX12_init_77 (fun H hH => ?_)
  replace hH : c_H X B (101) M8 s H locs := hH
  refine W.cs (cells' := 9) (slots' := 6832) rfl rfl ?_
  obtain ⟨M9, eM9, hf⟩ := st_lty hf
  refine cz_pR hin hE hH cw_X12_34 (Or.inr rfl) (by decide) qk_91 eM9 ⟨rfl, rfl⟩ dX12_init_79 (fun H locs hH => ?_)
  refine lv_aload_n hx hb dX12_init_82 rfl (lv_at hl 0 rfl) ?_
  refine lv_bipush (v := 80) hx hb dX12_init_83 (by decide) ?_
  refine cz_newI (n := 80) hE hH (by decide) qk_101 (q_in _ 59 (by decide +kernel) rfl) (by decide) (by decide) (by decide) (Nat.le_of_ble_eq_true rfl) (Nat.le_of_ble_eq_true rfl) dX12_init_85 (fun H hH => ?_)
  replace hH : c_H X B (102) M9 s H locs := hH
  refine W.cs (cells' := 10) (slots' := 6912) rfl rfl ?_
  obtain ⟨M10, eM10, hf⟩ := st_lty hf
  refine cz_pR hin hE hH cw_X12_37 (Or.inr rfl) (by decide) qk_91 eM10 ⟨rfl, rfl⟩ dX12_init_87 (fun H locs hH => ?_)
  refine lv_aload_n hx hb dX12_init_90 rfl (lv_at hl 0 rfl) ?_
  refine lv_iconst (v := 5) hx hb dX12_init_91 (by decide) ?_
  refine cz_newI (n := 5) hE hH (by decide) qk_102 (q_in _ 59 (by decide +kernel) rfl) (by decide) (by decide) (by decide) (Nat.le_of_ble_eq_true rfl) (Nat.le_of_ble_eq_true rfl) dX12_init_92 (fun H hH => ?_)
  replace hH : c_H X B (103) M10 s H locs := hH
  refine W.cs (cells' := 11) (slots' := 6917) rfl rfl ?_
  obtain ⟨M11, eM11, hf⟩ := st_lty hf
  refine cz_pR hin hE hH cw_X12_40 (Or.inr rfl) (by decide) qk_91 eM11 ⟨rfl, rfl⟩ dX12_init_94 (fun H locs hH => ?_)
  refine lv_aload_n hx hb dX12_init_97 rfl (lv_at hl 0 rfl) ?_
  refine lv_iconst (v := 5) hx hb dX12_init_98 (by decide) ?_
  refine cz_newI (n := 5) hE hH (by decide) qk_103 (q_in _ 59 (by decide +kernel) rfl) (by decide) (by decide) (by decide) (Nat.le_of_ble_eq_true rfl) (Nat.le_of_ble_eq_true rfl) dX12_init_99 (fun H hH => ?_)
  replace hH : c_H X B (104) M11 s H locs := hH
  refine W.cs (cells' := 12) (slots' := 6922) rfl rfl ?_
  obtain ⟨M12, eM12, hf⟩ := st_lty hf
  refine cz_pR hin hE hH cw_X12_43 (Or.inr rfl) (by decide) qk_91 eM12 ⟨rfl, rfl⟩ dX12_init_101 (fun H locs hH => ?_)
  refine lv_aload_n hx hb dX12_init_104 rfl (lv_at hl 0 rfl) ?_
  refine lv_iconst (v := 5) hx hb dX12_init_105 (by decide) ?_
  refine cz_newI (n := 5) hE hH (by decide) qk_104 (q_in _ 59 (by decide +kernel) rfl) (by decide) (by decide) (by decide) (Nat.le_of_ble_eq_true rfl) (Nat.le_of_ble_eq_true rfl) dX12_init_106 (fun H hH => ?_)
  replace hH : c_H X B (105) M12 s H locs := hH
  refine W.cs (cells' := 13) (slots' := 6927) rfl rfl ?_
  obtain ⟨M13, eM13, hf⟩ := st_lty hf
  refine cz_pR hin hE hH cw_X12_46 (Or.inr rfl) (by decide) qk_91 eM13 ⟨rfl, rfl⟩ dX12_init_108 (fun H locs hH => ?_)
  refine lv_aload_n hx hb dX12_init_111 rfl (lv_at hl 0 rfl) ?_
  refine lv_bipush (v := 80) hx hb dX12_init_112 (by decide) ?_
  refine cz_newI (n := 80) hE hH (by decide) qk_105 (q_in _ 59 (by decide +kernel) rfl) (by decide) (by decide) (by decide) (Nat.le_of_ble_eq_true rfl) (Nat.le_of_ble_eq_true rfl) dX12_init_114 (fun H hH => ?_)
  replace hH : c_H X B (106) M13 s H locs := hH
  refine W.cs (cells' := 14) (slots' := 7007) rfl rfl ?_
  obtain ⟨M14, eM14, hf⟩ := st_lty hf
  refine cz_pR hin hE hH cw_X12_49 (Or.inr rfl) (by decide) qk_91 eM14 ⟨rfl, rfl⟩ dX12_init_116 (fun H locs hH => ?_)
  refine lv_aload_n hx hb dX12_init_119 rfl (lv_at hl 0 rfl) ?_
  refine lv_bipush (v := 120) hx hb dX12_init_120 (by decide) ?_
  refine cz_newI (n := 120) hE hH (by decide) qk_106 (q_in _ 59 (by decide +kernel) rfl) (by decide) (by decide) (by decide) (Nat.le_of_ble_eq_true rfl) (Nat.le_of_ble_eq_true rfl) dX12_init_122 (fun H hH => ?_)
  replace hH : c_H X B (107) M14 s H locs := hH
  refine W.cs (cells' := 15) (slots' := 7127) rfl rfl ?_
  obtain ⟨M15, eM15, hf⟩ := st_lty hf
  refine cz_pR hin hE hH cw_X12_52 (Or.inr rfl) (by decide) qk_91 eM15 ⟨rfl, rfl⟩ dX12_init_124 (fun H locs hH => ?_)
  refine lv_aload_n hx hb dX12_init_127 rfl (lv_at hl 0 rfl) ?_
  refine lv_bipush (v := 6) hx hb dX12_init_128 (by decide) ?_
  refine cz_newI (n := 6) hE hH (by decide) qk_107 (q_in _ 59 (by decide +kernel) rfl) (by decide) (by decide) (by decide) (Nat.le_of_ble_eq_true rfl) (Nat.le_of_ble_eq_true rfl) dX12_init_130 (fun H hH => ?_)
  replace hH : c_H X B (108) M15 s H locs := hH
  refine W.cs (cells' := 16) (slots' := 7133) rfl rfl ?_
  obtain ⟨M16, eM16, hf⟩ := st_lty hf
  refine cz_pR hin hE hH cw_X12_55 (Or.inr rfl) (by decide) qk_91 eM16 ⟨rfl, rfl⟩ dX12_init_132 (fun H locs hH => ?_)
  refine lv_aload_n hx hb dX12_init_135 rfl (lv_at hl 0 rfl) ?_
  refine lv_bipush (v := 20) hx hb dX12_init_136 (by decide) ?_
  refine cz_newI (n := 20) hE hH (by decide) qk_108 (q_in _ 59 (by decide +kernel) rfl) (by decide) (by decide) (by decide) (Nat.le_of_ble_eq_true rfl) (Nat.le_of_ble_eq_true rfl) dX12_init_138 (fun H hH => ?_)
  replace hH : c_H X B (109) M16 s H locs := hH
  refine W.cs (cells' := 17) (slots' := 7153) rfl rfl ?_
  obtain ⟨M17, eM17, hf⟩ := st_lty hf
  refine cz_pR hin hE hH cw_X12_58 (Or.inr rfl) (by decide) qk_91 eM17 ⟨rfl, rfl⟩ dX12_init_140 (fun H locs hH => ?_)
  refine lv_aload_n hx hb dX12_init_143 rfl (lv_at hl 0 rfl) ?_
  refine lv_bipush (v := 20) hx hb dX12_init_144 (by decide) ?_
  refine cz_newI (n := 20) hE hH (by decide) qk_109 (q_in _ 59 (by decide +kernel) rfl) (by decide) (by decide) (by decide) (Nat.le_of_ble_eq_true rfl) (Nat.le_of_ble_eq_true rfl) dX12_init_146 (fun H hH => ?_)
  replace hH : c_H X B (110) M17 s H locs := hH
  refine W.cs (cells' := 18) (slots' := 7173) rfl rfl ?_
  obtain ⟨M18, eM18, hf⟩ := st_lty hf
  refine cz_pR hin hE hH cw_X12_61 (Or.inr rfl) (by decide) qk_91 eM18 ⟨rfl, rfl⟩ dX12_init_148 (fun H locs hH => ?_)
  refine lv_aload_n hx hb dX12_init_151 rfl (lv_at hl 0 rfl) ?_
  refine lv_bipush (v := 20) hx hb dX12_init_152 (by decide) ?_
  refine cz_newI (n := 20) hE hH (by decide) qk_110 (q_in _ 59 (by decide +kernel) rfl) (by decide) (by decide) (by decide) (Nat.le_of_ble_eq_true rfl) (Nat.le_of_ble_eq_true rfl) dX12_init_154 (fun H hH => ?_)
  replace hH : c_H X B (111) M18 s H locs := hH
  refine W.cs (cells' := 19) (slots' := 7193) rfl rfl ?_
  obtain ⟨M19, eM19, hf⟩ := st_lty hf
  refine cz_pR hin hE hH cw_X12_64 (Or.inr rfl) (by decide) qk_91 eM19 ⟨rfl, rfl⟩ dX12_init_156 (fun H locs hH => ?_)
  refine lv_aload_n hx hb dX12_init_159 rfl (lv_at hl 0 rfl) ?_
  refine lv_iconst (v := (-1)) hx hb dX12_init_160 (by decide) ?_
  obtain ⟨M20, eM20, hf⟩ := st_lty hf
  refine cz_pI hin hE hH cw_X12_67 (by decide) qk_91 eM20 dX12_init_161 (fun H locs hH => ?_)
  refine lv_aload_n hx hb dX12_init_164 rfl (lv_at hl 0 rfl) ?_
  refine lv_bipush (v := 60) hx hb dX12_init_165 (by decide) ?_
  refine cz_newI (n := 60) hE hH (by decide) qk_111 (q_in _ 59 (by decide +kernel) rfl) (by decide) (by decide) (by decide) (Nat.le_of_ble_eq_true rfl) (Nat.le_of_ble_eq_true rfl) dX12_init_167 (fun H hH => ?_)
  replace hH : c_H X B (112) M20 s H locs := hH
  refine W.cs (cells' := 20) (slots' := 7253) rfl rfl ?_
  obtain ⟨M21, eM21, hf⟩ := st_lty hf
  refine cz_pR hin hE hH cw_X12_71 (Or.inr rfl) (by decide) qk_91 eM21 ⟨rfl, rfl⟩ dX12_init_169 (fun H locs hH => ?_)
  refine lv_aload_n hx hb dX12_init_172 rfl (lv_at hl 0 rfl) ?_
  refine lv_iconst (v := (-1)) hx hb dX12_init_173 (by decide) ?_
  obtain ⟨M22, eM22, hf⟩ := st_lty hf
  refine cz_pI hin hE hH cw_X12_74 (by decide) qk_91 eM22 dX12_init_174 (fun H locs hH => ?_)
  refine lv_aload_n hx hb dX12_init_177 rfl (lv_at hl 0 rfl) ?_
  refine lv_bipush (v := 12) hx hb dX12_init_178 (by decide) ?_
  refine cz_newI (n := 12) hE hH (by decide) qk_112 (q_in _ 59 (by decide +kernel) rfl) (by decide) (by decide) (by decide) (Nat.le_of_ble_eq_true rfl) (Nat.le_of_ble_eq_true rfl) dX12_init_180 (fun H hH => ?_)
  replace hH : c_H X B (113) M22 s H locs := hH
  refine W.cs (cells' := 21) (slots' := 7265) rfl rfl ?_
  obtain ⟨M23, eM23, hf⟩ := st_lty hf
  refine cz_pR hin hE hH cw_X12_77 (Or.inr rfl) (by decide) qk_91 eM23 ⟨rfl, rfl⟩ dX12_init_182 (fun H locs hH => ?_)
  refine lv_aload_n hx hb dX12_init_185 rfl (lv_at hl 0 rfl) ?_
  refine lv_bipush (v := 12) hx hb dX12_init_186 (by decide) ?_
  refine cz_newI (n := 12) hE hH (by decide) qk_113 (q_in _ 59 (by decide +kernel) rfl) (by decide) (by decide) (by decide) (Nat.le_of_ble_eq_true rfl) (Nat.le_of_ble_eq_true rfl) dX12_init_188 (fun H hH => ?_)
  replace hH : c_H X B (114) M23 s H locs := hH
  refine W.cs (cells' := 22) (slots' := 7277) rfl rfl ?_
  obtain ⟨M24, eM24, hf⟩ := st_lty hf
  refine cz_pR hin hE hH cw_X12_80 (Or.inr rfl) (by decide) qk_91 eM24 ⟨rfl, rfl⟩ dX12_init_190 (fun H locs hH => ?_)
  refine lv_aload_n hx hb dX12_init_193 rfl (lv_at hl 0 rfl) ?_
  refine lv_bipush (v := 10) hx hb dX12_init_194 (by decide) ?_
  refine cz_newJ (n := 10) hE hH (by decide) qk_114 (q_in _ 323 (by decide +kernel) rfl) (by decide) (by decide) (by decide) (Nat.le_of_ble_eq_true rfl) (Nat.le_of_ble_eq_true rfl) dX12_init_196 (fun H hH => ?_)
  replace hH : c_H X B (115) M24 s H locs := hH
  refine W.cs (cells' := 23) (slots' := 7287) rfl rfl ?_
  obtain ⟨M25, eM25, hf⟩ := st_lty hf
  refine cz_pR hin hE hH cw_X12_83 (Or.inr rfl) (by decide) qk_91 eM25 ⟨rfl, rfl⟩ dX12_init_198 (fun H locs hH => ?_)
  refine lv_aload_n hx hb dX12_init_201 rfl (lv_at hl 0 rfl) ?_
  refine lv_bipush (v := 10) hx hb dX12_init_202 (by decide) ?_
  refine cz_newJ (n := 10) hE hH (by decide) qk_115 (q_in _ 323 (by decide +kernel) rfl) (by decide) (by decide) (by decide) (Nat.le_of_ble_eq_true rfl) (Nat.le_of_ble_eq_true rfl) dX12_init_204 (fun H hH => ?_)
  replace hH : c_H X B (116) M25 s H locs := hH
  refine W.cs (cells' := 24) (slots' := 7297) rfl rfl ?_
  obtain ⟨M26, eM26, hf⟩ := st_lty hf
  refine cz_pR hin hE hH cw_X12_87 (Or.inr rfl) (by decide) qk_91 eM26 ⟨rfl, rfl⟩ dX12_init_206 (fun H locs hH => ?_)
  refine lv_aload_n hx hb dX12_init_209 rfl (lv_at hl 0 rfl) ?_
  refine lv_bipush (v := 20) hx hb dX12_init_210 (by decide) ?_
  refine cz_newI (n := 20) hE hH (by decide) qk_116 (q_in _ 59 (by decide +kernel) rfl) (by decide) (by decide) (by decide) (Nat.le_of_ble_eq_true rfl) (Nat.le_of_ble_eq_true rfl) dX12_init_212 (fun H hH => ?_)
  replace hH : c_H X B (117) M26 s H locs := hH
  refine W.cs (cells' := 25) (slots' := 7317) rfl rfl ?_
  obtain ⟨M27, eM27, hf⟩ := st_lty hf
  refine cz_pR hin hE hH cw_X12_90 (Or.inr rfl) (by decide) qk_91 eM27 ⟨rfl, rfl⟩ dX12_init_214 (fun H locs hH => ?_)
  refine lv_aload_n hx hb dX12_init_217 rfl (lv_at hl 0 rfl) ?_
  refine lv_bipush (v := 20) hx hb dX12_init_218 (by decide) ?_
  refine cz_newI (n := 20) hE hH (by decide) qk_117 (q_in _ 59 (by decide +kernel) rfl) (by decide) (by decide) (by decide) (Nat.le_of_ble_eq_true rfl) (Nat.le_of_ble_eq_true rfl) dX12_init_220 (fun H hH => ?_)
  replace hH : c_H X B (118) M27 s H locs := hH
  refine W.cs (cells' := 26) (slots' := 7337) rfl rfl ?_
  obtain ⟨M28, eM28, hf⟩ := st_lty hf
  refine cz_pR hin hE hH cw_X12_93 (Or.inr rfl) (by decide) qk_91 eM28 ⟨rfl, rfl⟩ dX12_init_222 (fun H locs hH => ?_)
  refine lv_aload_n hx hb dX12_init_225 rfl (lv_at hl 0 rfl) ?_
  refine lv_iconst (v := (-1)) hx hb dX12_init_226 (by decide) ?_
  obtain ⟨M29, eM29, hf⟩ := st_lty hf
  refine cz_pI hin hE hH cw_X12_96 (by decide) qk_91 eM29 dX12_init_227 (fun H locs hH => ?_)
  refine lv_aload_n hx hb dX12_init_230 rfl (lv_at hl 0 rfl) ?_
  refine lv_iconst (v := 1) hx hb dX12_init_231 (by decide) ?_
  obtain ⟨M30, eM30, hf⟩ := st_lty hf
  refine cz_pI hin hE hH cw_X12_99 (by decide) qk_91 eM30 dX12_init_232 (fun H locs hH => ?_)
  refine lv_aload_n hx hb dX12_init_235 rfl (lv_at hl 0 rfl) ?_
  refine lv_bipush (v := 20) hx hb dX12_init_236 (by decide) ?_
  refine cz_newI (n := 20) hE hH (by decide) qk_118 (q_in _ 59 (by decide +kernel) rfl) (by decide) (by decide) (by decide) (Nat.le_of_ble_eq_true rfl) (Nat.le_of_ble_eq_true rfl) dX12_init_238 (fun H hH => ?_)
  replace hH : c_H X B (119) M30 s H locs := hH
  refine W.cs (cells' := 27) (slots' := 7357) rfl rfl ?_
  obtain ⟨M31, eM31, hf⟩ := st_lty hf
  refine cz_pR hin hE hH cw_X12_102 (Or.inr rfl) (by decide) qk_91 eM31 ⟨rfl, rfl⟩ dX12_init_240 (fun H locs hH => ?_)
  refine lv_aload_n hx hb dX12_init_243 rfl (lv_at hl 0 rfl) ?_
  refine lv_bipush (v := 20) hx hb dX12_init_244 (by decide) ?_
  refine cz_newI (n := 20) hE hH (by decide) qk_119 (q_in _ 59 (by decide +kernel) rfl) (by decide) (by decide) (by decide) (Nat.le_of_ble_eq_true rfl) (Nat.le_of_ble_eq_true rfl) dX12_init_246 (fun H hH => ?_)
  replace hH : c_H X B (120) M31 s H locs := hH
  refine W.cs (cells' := 28) (slots' := 7377) rfl rfl ?_
  obtain ⟨M32, eM32, hf⟩ := st_lty hf
  refine cz_pR hin hE hH cw_X12_105 (Or.inr rfl) (by decide) qk_91 eM32 ⟨rfl, rfl⟩ dX12_init_248 (fun H locs hH => ?_)
  refine lv_aload_n hx hb dX12_init_251 rfl (lv_at hl 0 rfl) ?_
  refine lv_bipush (v := 60) hx hb dX12_init_252 (by decide) ?_
  refine cz_newI (n := 60) hE hH (by decide) qk_120 (q_in _ 59 (by decide +kernel) rfl) (by decide) (by decide) (by decide) (Nat.le_of_ble_eq_true rfl) (Nat.le_of_ble_eq_true rfl) dX12_init_254 (fun H hH => ?_)
  replace hH : c_H X B (121) M32 s H locs := hH
  refine W.cs (cells' := 29) (slots' := 7437) rfl rfl ?_
  obtain ⟨M33, eM33, hf⟩ := st_lty hf
  refine cz_pR hin hE hH cw_X12_108 (Or.inr rfl) (by decide) qk_91 eM33 ⟨rfl, rfl⟩ dX12_init_256 (fun H locs hH => ?_)
  refine lv_aload_n hx hb dX12_init_259 rfl (lv_at hl 0 rfl) ?_
  refine lv_iconst (v := (-1)) hx hb dX12_init_260 (by decide) ?_
  obtain ⟨M34, eM34, hf⟩ := st_lty hf
  refine cz_pI hin hE hH cw_X12_111 (by decide) qk_91 eM34 dX12_init_261 (fun H locs hH => ?_)
  refine lv_aload_n hx hb dX12_init_264 rfl (lv_at hl 0 rfl) ?_
  refine lv_bipush (v := 6) hx hb dX12_init_265 (by decide) ?_
  refine cz_newI (n := 6) hE hH (by decide) qk_121 (q_in _ 59 (by decide +kernel) rfl) (by decide) (by decide) (by decide) (Nat.le_of_ble_eq_true rfl) (Nat.le_of_ble_eq_true rfl) dX12_init_267 (fun H hH => ?_)
  replace hH : c_H X B (122) M34 s H locs := hH
  refine W.cs (cells' := 30) (slots' := 7443) rfl rfl ?_
  obtain ⟨M35, eM35, hf⟩ := st_lty hf
  refine cz_pR hin hE hH cw_X12_114 (Or.inr rfl) (by decide) qk_91 eM35 ⟨rfl, rfl⟩ dX12_init_269 (fun H locs hH => ?_)
  subst hf
  exact cz_ret hE hrt hlk hH (by decide) (by decide) dX12_init_272

