theorem vc_X2_at_0 {μ : mzM} {Q : Option mzV → mzM → Prop} {o0 x1 x2 : Int} (h :
    (if x1 < 0 then
    Q (some (vI 0)) μ
    else
    (if x1 < (μ 3 o0 1) then
      (if x2 < 0 then
        Q (some (vI 0)) μ
        else
        (if x2 < (μ 3 o0 2) then
          (zin (x2 * (μ 3 o0 1)) ∧ (zin ((x2 * (μ 3 o0 1)) + x1) ∧ (if ((x2 * (μ 3 o0 1)) + x1) < 144 then
            ((0 ≤ ((x2 * (μ 3 o0 1)) + x1) ∧ ((x2 * (μ 3 o0 1)) + x1) < 144) ∧ Q (some (vI (μ 4 o0 ((x2 * (μ 3 o0 1)) + x1)))) μ)
            else
            Q (some (vI 0)) μ)))
          else
          Q (some (vI 0)) μ))
      else
      Q (some (vI 0)) μ))) :
    ZW f_X2_at 0 [vR 3 o0, vI x1, vI x2, none] [] μ Q := mvc_at zcd zml (C := zc13) rfl 38 0 h
theorem vc_X2_samePart_0 {μ : mzM} {Q : Option mzV → mzM → Prop} {o0 o3 x1 x2 x4 x5 : Int} (h :
    ZW f_X2_samePart 2 [vR 3 o0, vI x1, vI x2, vR 3 o3, vI x4, vI x5, vI 0, none, none] [] μ Q) :
    ZW f_X2_samePart 0 [vR 3 o0, vI x1, vI x2, vR 3 o3, vI x4, vI x5, none, none, none] [] μ Q := mvc_at zcd zml (C := zc20) rfl 71 0 h
theorem vc_X2_samePart_2 {μ : mzM} {Q : Option mzV → mzM → Prop} {o0 o3 x1 x2 x4 x5 x6 : Int} {v7 v8 : mzV} (h :
    (if x6 < 16 then
    (((4 : Int) ≠ 0 ∧ zin (Int.tdiv x6 4)) ∧ (zin (x2 + (Int.tdiv x6 4)) ∧ (zin ((x2 + (Int.tdiv x6 4)) * (μ 3 o0 1)) ∧ (zin (((x2 + (Int.tdiv x6 4)) * (μ 3 o0 1)) + x1) ∧ ((4 : Int) ≠ 0 ∧ (zin ((((x2 + (Int.tdiv x6 4)) * (μ 3 o0 1)) + x1) + (Int.tmod x6 4)) ∧ (((4 : Int) ≠ 0 ∧ zin (Int.tdiv x6 4)) ∧ (zin (x5 + (Int.tdiv x6 4)) ∧ (zin ((x5 + (Int.tdiv x6 4)) * (μ 3 o3 1)) ∧ (zin (((x5 + (Int.tdiv x6 4)) * (μ 3 o3 1)) + x4) ∧ ((4 : Int) ≠ 0 ∧ (zin ((((x5 + (Int.tdiv x6 4)) * (μ 3 o3 1)) + x4) + (Int.tmod x6 4)) ∧ (if ((((x2 + (Int.tdiv x6 4)) * (μ 3 o0 1)) + x1) + (Int.tmod x6 4)) < 0 then
      Q (some (vI 0)) μ
      else
      (if ((((x2 + (Int.tdiv x6 4)) * (μ 3 o0 1)) + x1) + (Int.tmod x6 4)) < 144 then
        (if ((((x5 + (Int.tdiv x6 4)) * (μ 3 o3 1)) + x4) + (Int.tmod x6 4)) < 0 then
          Q (some (vI 0)) μ
          else
          (if ((((x5 + (Int.tdiv x6 4)) * (μ 3 o3 1)) + x4) + (Int.tmod x6 4)) < 144 then
            ((0 ≤ ((((x2 + (Int.tdiv x6 4)) * (μ 3 o0 1)) + x1) + (Int.tmod x6 4)) ∧ ((((x2 + (Int.tdiv x6 4)) * (μ 3 o0 1)) + x1) + (Int.tmod x6 4)) < 144) ∧ ((0 ≤ ((((x5 + (Int.tdiv x6 4)) * (μ 3 o3 1)) + x4) + (Int.tmod x6 4)) ∧ ((((x5 + (Int.tdiv x6 4)) * (μ 3 o3 1)) + x4) + (Int.tmod x6 4)) < 144) ∧ (if (μ 4 o0 ((((x2 + (Int.tdiv x6 4)) * (μ 3 o0 1)) + x1) + (Int.tmod x6 4))) = (μ 4 o3 ((((x5 + (Int.tdiv x6 4)) * (μ 3 o3 1)) + x4) + (Int.tmod x6 4))) then
              (zin (x6 + 1) ∧ ZW f_X2_samePart 2 [vR 3 o0, vI x1, vI x2, vR 3 o3, vI x4, vI x5, vI (x6 + 1), vI ((((x2 + (Int.tdiv x6 4)) * (μ 3 o0 1)) + x1) + (Int.tmod x6 4)), vI ((((x5 + (Int.tdiv x6 4)) * (μ 3 o3 1)) + x4) + (Int.tmod x6 4))] [] μ Q)
              else
              Q (some (vI 0)) μ)))
            else
            Q (some (vI 0)) μ))
        else
        Q (some (vI 0)) μ))))))))))))))
    else
    Q (some (vI 1)) μ)) :
    ZW f_X2_samePart 2 [vR 3 o0, vI x1, vI x2, vR 3 o3, vI x4, vI x5, vI x6, v7, v8] [] μ Q := mvc_at zcd zml (C := zc20) rfl 71 2 h
theorem vc_X2_cellsUnlike_0 {μ : mzM} {Q : Option mzV → mzM → Prop} {o0 o1 : Int} (h :
    ZW f_X2_cellsUnlike 4 [vR 3 o0, vR 3 o1, vI 0, vI 0] [] μ Q) :
    ZW f_X2_cellsUnlike 0 [vR 3 o0, vR 3 o1, none, none] [] μ Q := mvc_at zcd zml (C := zc21) rfl 28 0 h
theorem vc_X2_cellsUnlike_4 {μ : mzM} {Q : Option mzV → mzM → Prop} {o0 o1 x2 x3 : Int} (h :
    (zin ((μ 3 o0 1) * (μ 3 o0 2)) ∧ (if x3 < ((μ 3 o0 1) * (μ 3 o0 2)) then
    ZI f_X2_numbered [vR 3 o0, vI x3] μ (fun r2 ν1 =>
      ZI f_X2_numbered [vR 3 o1, vI x3] ν1 (fun r4 ν3 =>
      (if r2 = r4 then
      (zin (x3 + 1) ∧ ZW f_X2_cellsUnlike 4 [vR 3 o0, vR 3 o1, vI x2, vI (x3 + 1)] [] ν3 Q)
      else
      (zin (x2 + 1) ∧ (zin (x3 + 1) ∧ ZW f_X2_cellsUnlike 4 [vR 3 o0, vR 3 o1, vI (x2 + 1), vI (x3 + 1)] [] ν3 Q)))))
    else
    Q (some (vI x2)) μ))) :
    ZW f_X2_cellsUnlike 4 [vR 3 o0, vR 3 o1, vI x2, vI x3] [] μ Q := mvc_at zcd zml (C := zc21) rfl 28 4 h
theorem vc_X0_encode_0 {μ : mzM} {Q : Option mzV → mzM → Prop} {o0 o1 o2 x3 : Int} (h :
    (if x3 = (-1) then
    ZW f_X0_encode 20 [vR 11 o0, vR 2 o1, vR 1 o2, vI x3, vR 99 0, vI 0] [] (mup (mup (mup μ 2 o1 2 x3) 2 o1 4 0) 2 o1 3 2) Q
    else
    ZR f_X6_imageOf 3 [vR 1 o2, vI x3] μ (fun r2 ν1 =>
      ZW f_X0_encode 20 [vR 11 o0, vR 2 o1, vR 1 o2, vI x3, vR 3 r2, vI 0] [] (mup (mup (mup ν1 2 o1 2 x3) 2 o1 4 0) 2 o1 3 2) Q))) :
    ZW f_X0_encode 0 [vR 11 o0, vR 2 o1, vR 1 o2, vI x3, none, none] [] μ Q := mvc_at zcd zml (C := zc0) rfl 52 0 h
theorem vc_X0_encode_20 {μ : mzM} {Q : Option mzV → mzM → Prop} {o0 o1 o2 x3 x5 : Int} (h :
    ZI f_X2_blocks [vR 3 o1] μ (fun r2 ν1 =>
    (if x5 < r2 then
    ZI f_X0_encodeRaw [vR 11 o0, vR 2 o1, vI x5] ν1 (fun r4 ν3 =>
      (zin ((ν1 2 o1 3) + r4) ∧ (zin (x5 + 1) ∧ ZW f_X0_encode 20 [vR 11 o0, vR 2 o1, vR 1 o2, vI x3, vR 99 0, vI (x5 + 1)] [] (mup ν3 2 o1 3 ((ν1 2 o1 3) + r4)) Q)))
    else
    Q none ν1))) :
    ZW f_X0_encode 20 [vR 11 o0, vR 2 o1, vR 1 o2, vI x3, vR 99 0, vI x5] [] μ Q := mvc_at zcd zml (C := zc0) rfl 52 20 h
theorem vc_X0_encode_20b {μ : mzM} {Q : Option mzV → mzM → Prop} {o0 o1 o2 o4 x3 x5 : Int} (h :
    ZI f_X2_blocks [vR 3 o1] μ (fun r2 ν1 =>
    (if x5 < r2 then
    ZI f_X0_encodeWith [vR 11 o0, vR 2 o1, vI x5, vR 3 o4, vI (ν1 1 o2 4)] ν1 (fun r4 ν3 =>
      (zin ((ν1 2 o1 3) + r4) ∧ (zin (x5 + 1) ∧ ZW f_X0_encode 20 [vR 11 o0, vR 2 o1, vR 1 o2, vI x3, vR 3 o4, vI (x5 + 1)] [] (mup ν3 2 o1 3 ((ν1 2 o1 3) + r4)) Q)))
    else
    Q none ν1))) :
    ZW f_X0_encode 20 [vR 11 o0, vR 2 o1, vR 1 o2, vI x3, vR 3 o4, vI x5] [] μ Q := mvc_at zcd zml (C := zc0) rfl 52 20 h
theorem vc_X8_readsToken_0 {μ : mzM} {Q : Option mzV → mzM → Prop} {o0 : Int} (h :
    ZI f_X8_here [vR 20 o0] μ (fun r2 ν1 =>
    (if r2 = 32 then
    (zin ((ν1 20 o0 5) + 1) ∧ ZW f_X8_readsToken 0 [vR 20 o0, none] [] (mup ν1 20 o0 5 ((ν1 20 o0 5) + 1)) Q)
    else
    ZI f_X8_here [vR 20 o0] (mup (mup ν1 20 o0 6 (ν1 20 o0 5)) 33 o0 0 0) (fun r4 ν3 =>
      (if r4 = 45 then
      (if ((mup ν3 20 o0 9 1) 20 o0 9) = 0 then
        (zin (((mup ν3 20 o0 9 1) 20 o0 5) + 0) ∧ (if ((mup (mup ν3 20 o0 9 1) 20 o0 5 (((mup ν3 20 o0 9 1) 20 o0 5) + 0)) 20 o0 9) = 0 then
          ZI f_X8_here [vR 20 o0] (mup (mup ν3 20 o0 9 1) 20 o0 5 (((mup ν3 20 o0 9 1) 20 o0 5) + 0)) (fun r6 ν5 =>
            ZI f_X8_in [vI r6, vI 97, vI 122] ν5 (fun r8 ν7 =>
            (if r8 = 0 then
            ZW f_X8_readsToken 87 [vR 20 o0, none] [vR 20 o0] ν7 Q
            else
            ZW f_X8_readsToken 50 [vR 20 o0, none] [] (mup ν7 20 o0 7 1) Q)))
          else
          ZW f_X8_readsToken 87 [vR 20 o0, none] [vR 20 o0] (mup (mup ν3 20 o0 9 1) 20 o0 5 (((mup ν3 20 o0 9 1) 20 o0 5) + 0)) Q))
        else
        (zin (((mup ν3 20 o0 9 1) 20 o0 5) + 1) ∧ (if ((mup (mup ν3 20 o0 9 1) 20 o0 5 (((mup ν3 20 o0 9 1) 20 o0 5) + 1)) 20 o0 9) = 0 then
          ZI f_X8_here [vR 20 o0] (mup (mup ν3 20 o0 9 1) 20 o0 5 (((mup ν3 20 o0 9 1) 20 o0 5) + 1)) (fun r10 ν9 =>
            ZI f_X8_in [vI r10, vI 97, vI 122] ν9 (fun r12 ν11 =>
            (if r12 = 0 then
            ZW f_X8_readsToken 87 [vR 20 o0, none] [vR 20 o0] ν11 Q
            else
            ZW f_X8_readsToken 50 [vR 20 o0, none] [] (mup ν11 20 o0 7 1) Q)))
          else
          ZW f_X8_readsToken 87 [vR 20 o0, none] [vR 20 o0] (mup (mup ν3 20 o0 9 1) 20 o0 5 (((mup ν3 20 o0 9 1) 20 o0 5) + 1)) Q)))
      else
      (if ((mup ν3 20 o0 9 0) 20 o0 9) = 0 then
        (zin (((mup ν3 20 o0 9 0) 20 o0 5) + 0) ∧ (if ((mup (mup ν3 20 o0 9 0) 20 o0 5 (((mup ν3 20 o0 9 0) 20 o0 5) + 0)) 20 o0 9) = 0 then
          ZI f_X8_here [vR 20 o0] (mup (mup ν3 20 o0 9 0) 20 o0 5 (((mup ν3 20 o0 9 0) 20 o0 5) + 0)) (fun r14 ν13 =>
            ZI f_X8_in [vI r14, vI 97, vI 122] ν13 (fun r16 ν15 =>
            (if r16 = 0 then
            ZW f_X8_readsToken 87 [vR 20 o0, none] [vR 20 o0] ν15 Q
            else
            ZW f_X8_readsToken 50 [vR 20 o0, none] [] (mup ν15 20 o0 7 1) Q)))
          else
          ZW f_X8_readsToken 87 [vR 20 o0, none] [vR 20 o0] (mup (mup ν3 20 o0 9 0) 20 o0 5 (((mup ν3 20 o0 9 0) 20 o0 5) + 0)) Q))
        else
        (zin (((mup ν3 20 o0 9 0) 20 o0 5) + 1) ∧ (if ((mup (mup ν3 20 o0 9 0) 20 o0 5 (((mup ν3 20 o0 9 0) 20 o0 5) + 1)) 20 o0 9) = 0 then
          ZI f_X8_here [vR 20 o0] (mup (mup ν3 20 o0 9 0) 20 o0 5 (((mup ν3 20 o0 9 0) 20 o0 5) + 1)) (fun r18 ν17 =>
            ZI f_X8_in [vI r18, vI 97, vI 122] ν17 (fun r20 ν19 =>
            (if r20 = 0 then
            ZW f_X8_readsToken 87 [vR 20 o0, none] [vR 20 o0] ν19 Q
            else
            ZW f_X8_readsToken 50 [vR 20 o0, none] [] (mup ν19 20 o0 7 1) Q)))
          else
          ZW f_X8_readsToken 87 [vR 20 o0, none] [vR 20 o0] (mup (mup ν3 20 o0 9 0) 20 o0 5 (((mup ν3 20 o0 9 0) 20 o0 5) + 1)) Q)))))))) :
    ZW f_X8_readsToken 0 [vR 20 o0, none] [] μ Q := mvc_at zcd zml (C := zc116) rfl 191 0 h
theorem vc_X8_readsToken_50 {μ : mzM} {Q : Option mzV → mzM → Prop} {o0 : Int} (h :
    ZI f_X8_here [vR 20 o0] μ (fun r2 ν1 =>
    ZI f_X8_in [vI r2, vI 97, vI 122] ν1 (fun r4 ν3 =>
    (if r4 = 0 then
    Q none ν3
    else
    (zin ((ν3 20 o0 5) - (ν3 20 o0 6)) ∧ (if ((ν3 20 o0 5) - (ν3 20 o0 6)) < 8 then
      (zin6 (27 * (ν3 33 o0 0)) ∧ ZI f_X8_here [vR 20 o0] ν3 (fun r6 ν5 =>
        (zin6 ((27 * (ν3 33 o0 0)) + r6) ∧ (zin6 (((27 * (ν3 33 o0 0)) + r6) - 97) ∧ (zin6 ((((27 * (ν3 33 o0 0)) + r6) - 97) + 1) ∧ (zin (((mup ν5 33 o0 0 ((((27 * (ν3 33 o0 0)) + r6) - 97) + 1)) 20 o0 5) + 1) ∧ ZW f_X8_readsToken 50 [vR 20 o0, none] [] (mup (mup ν5 33 o0 0 ((((27 * (ν3 33 o0 0)) + r6) - 97) + 1)) 20 o0 5 (((mup ν5 33 o0 0 ((((27 * (ν3 33 o0 0)) + r6) - 97) + 1)) 20 o0 5) + 1)) Q))))))
      else
      (zin (((mup ν3 33 o0 0 (-1)) 20 o0 5) + 1) ∧ ZW f_X8_readsToken 50 [vR 20 o0, none] [] (mup (mup ν3 33 o0 0 (-1)) 20 o0 5 (((mup ν3 33 o0 0 (-1)) 20 o0 5) + 1)) Q))))))) :
    ZW f_X8_readsToken 50 [vR 20 o0, none] [] μ Q := mvc_at zcd zml (C := zc116) rfl 191 50 h
theorem vc_X8_readsToken_87 {μ : mzM} {Q : Option mzV → mzM → Prop} {o0 q0 : Int} (h :
    ZI f_X8_here [vR 20 q0] μ (fun r2 ν1 =>
    ZI f_X8_in [vI r2, vI 48, vI 57] ν1 (fun r4 ν3 =>
    (if r4 = 0 then
    (if (ν3 20 o0 9) = 0 then
      ZI f_X8_here [vR 20 o0] ν3 (fun r6 ν5 =>
        (if r6 < 0 then
        (if ((mup ν5 20 o0 7 0) 20 o0 9) = 0 then
          ZI f_X8_here [vR 20 o0] (mup ν5 20 o0 7 0) (fun r8 ν7 =>
            (if r8 < 0 then
            (zin (((mup ν5 20 o0 7 0) 20 o0 5) + 0) ∧ Q none (mup ν7 20 o0 5 (((mup ν5 20 o0 7 0) 20 o0 5) + 0)))
            else
            (zin (((mup ν5 20 o0 7 0) 20 o0 5) + 1) ∧ Q none (mup ν7 20 o0 5 (((mup ν5 20 o0 7 0) 20 o0 5) + 1)))))
          else
          (zin (((mup ν5 20 o0 7 0) 20 o0 5) + 0) ∧ Q none (mup (mup ν5 20 o0 7 0) 20 o0 5 (((mup ν5 20 o0 7 0) 20 o0 5) + 0))))
        else
        ZI f_X8_here [vR 20 o0] ν5 (fun r10 ν9 =>
          (if r10 = 59 then
          (if ((mup ν9 20 o0 7 3) 20 o0 9) = 0 then
            ZI f_X8_here [vR 20 o0] (mup ν9 20 o0 7 3) (fun r12 ν11 =>
              (if r12 < 0 then
              (zin (((mup ν9 20 o0 7 3) 20 o0 5) + 0) ∧ Q none (mup ν11 20 o0 5 (((mup ν9 20 o0 7 3) 20 o0 5) + 0)))
              else
              (zin (((mup ν9 20 o0 7 3) 20 o0 5) + 1) ∧ Q none (mup ν11 20 o0 5 (((mup ν9 20 o0 7 3) 20 o0 5) + 1)))))
            else
            (zin (((mup ν9 20 o0 7 3) 20 o0 5) + 0) ∧ Q none (mup (mup ν9 20 o0 7 3) 20 o0 5 (((mup ν9 20 o0 7 3) 20 o0 5) + 0))))
          else
          (if ((mup ν9 20 o0 7 4) 20 o0 9) = 0 then
            ZI f_X8_here [vR 20 o0] (mup ν9 20 o0 7 4) (fun r14 ν13 =>
              (if r14 < 0 then
              (zin (((mup ν9 20 o0 7 4) 20 o0 5) + 0) ∧ Q none (mup ν13 20 o0 5 (((mup ν9 20 o0 7 4) 20 o0 5) + 0)))
              else
              (zin (((mup ν9 20 o0 7 4) 20 o0 5) + 1) ∧ Q none (mup ν13 20 o0 5 (((mup ν9 20 o0 7 4) 20 o0 5) + 1)))))
            else
            (zin (((mup ν9 20 o0 7 4) 20 o0 5) + 0) ∧ Q none (mup (mup ν9 20 o0 7 4) 20 o0 5 (((mup ν9 20 o0 7 4) 20 o0 5) + 0))))))))
      else
      (if ((mup ν3 20 o0 7 4) 20 o0 9) = 0 then
        ZI f_X8_here [vR 20 o0] (mup ν3 20 o0 7 4) (fun r16 ν15 =>
          (if r16 < 0 then
          (zin (((mup ν3 20 o0 7 4) 20 o0 5) + 0) ∧ Q none (mup ν15 20 o0 5 (((mup ν3 20 o0 7 4) 20 o0 5) + 0)))
          else
          (zin (((mup ν3 20 o0 7 4) 20 o0 5) + 1) ∧ Q none (mup ν15 20 o0 5 (((mup ν3 20 o0 7 4) 20 o0 5) + 1)))))
        else
        (zin (((mup ν3 20 o0 7 4) 20 o0 5) + 0) ∧ Q none (mup (mup ν3 20 o0 7 4) 20 o0 5 (((mup ν3 20 o0 7 4) 20 o0 5) + 0)))))
    else
    ZW f_X8_readsToken 95 [vR 20 o0, vI (ν3 20 o0 5)] [] ν3 Q)))) :
    ZW f_X8_readsToken 87 [vR 20 o0, none] [vR 20 q0] μ Q := mvc_at zcd zml (C := zc116) rfl 191 87 h
theorem vc_X8_readsToken_95 {μ : mzM} {Q : Option mzV → mzM → Prop} {o0 x1 : Int} (h :
    ZI f_X8_here [vR 20 o0] μ (fun r2 ν1 =>
    ZI f_X8_in [vI r2, vI 48, vI 57] ν1 (fun r4 ν3 =>
    (if r4 = 0 then
    (zin ((ν3 20 o0 5) - x1) ∧ (if (2 : Int) < ((ν3 20 o0 5) - x1) then
      Q none (mup ν3 20 o0 7 4)
      else
      ((0 ≤ x1 ∧ x1 < 160) ∧ (if (ν3 23 0 x1) = 48 then
        (zin ((ν3 20 o0 5) - x1) ∧ (if (1 : Int) < ((ν3 20 o0 5) - x1) then
          Q none (mup ν3 20 o0 7 4)
          else
          Q none (mup ν3 20 o0 7 2)))
        else
        Q none (mup ν3 20 o0 7 2)))))
    else
    (if (zcmp (ν3 33 o0 0) 1000) < 0 then
      (zin6 (10 * (ν3 33 o0 0)) ∧ ZI f_X8_here [vR 20 o0] ν3 (fun r6 ν5 =>
        (zin6 ((10 * (ν3 33 o0 0)) + r6) ∧ (zin6 (((10 * (ν3 33 o0 0)) + r6) - 48) ∧ (zin (((mup ν5 33 o0 0 (((10 * (ν3 33 o0 0)) + r6) - 48)) 20 o0 5) + 1) ∧ ZW f_X8_readsToken 95 [vR 20 o0, vI x1] [] (mup (mup ν5 33 o0 0 (((10 * (ν3 33 o0 0)) + r6) - 48)) 20 o0 5 (((mup ν5 33 o0 0 (((10 * (ν3 33 o0 0)) + r6) - 48)) 20 o0 5) + 1)) Q)))))
      else
      (zin (((mup ν3 33 o0 0 (ν3 33 o0 0)) 20 o0 5) + 1) ∧ ZW f_X8_readsToken 95 [vR 20 o0, vI x1] [] (mup (mup ν3 33 o0 0 (ν3 33 o0 0)) 20 o0 5 (((mup ν3 33 o0 0 (ν3 33 o0 0)) 20 o0 5) + 1)) Q)))))) :
    ZW f_X8_readsToken 95 [vR 20 o0, vI x1] [] μ Q := mvc_at zcd zml (C := zc116) rfl 191 95 h
theorem vc_X8_draw_0 {μ : mzM} {Q : Option mzV → mzM → Prop} {o0 : Int} (h :
    ZW f_X8_draw 2 [vR 20 o0, vI 0] [] μ Q) :
    ZW f_X8_draw 0 [vR 20 o0, none] [] μ Q := mvc_at zcd zml (C := zc125) rfl 61 0 h
theorem vc_X8_draw_2 {μ : mzM} {Q : Option mzV → mzM → Prop} {o0 x1 : Int} (h :
    (if x1 < 144 then
    (zin (6 + x1) ∧ ((0 ≤ (6 + x1) ∧ (6 + x1) < 1880) ∧ ((0 ≤ x1 ∧ x1 < 144) ∧ (zin (x1 + 1) ∧ ZW f_X8_draw 2 [vR 20 o0, vI (x1 + 1)] [] (mup μ 25 0 x1 (μ 21 0 (6 + x1))) Q))))
    else
    ZV f_X8_readsToken [vR 20 o0] (mup (mup μ 20 o0 5 0) 20 o0 10 0) (fun ν1 =>
      ZW f_X8_draw 27 [vR 20 o0, vI 0] [] ν1 Q))) :
    ZW f_X8_draw 2 [vR 20 o0, vI x1] [] μ Q := mvc_at zcd zml (C := zc125) rfl 61 2 h
theorem vc_X8_draw_27 {μ : mzM} {Q : Option mzV → mzM → Prop} {o0 x1 : Int} (h :
    (if (μ 20 o0 10) = 0 then
    (if (μ 20 o0 7) = 0 then
      ZV f_X8_exchanges [vR 20 o0] μ (fun ν1 =>
        (if (ν1 20 o0 10) = 0 then
        ZV f_X8_note [vR 20 o0] ν1 (fun ν2 =>
          ZV f_X8_exchanges [vR 20 o0] ν2 (fun ν3 =>
          Q (some (vI x1)) (mup ν3 20 o0 4 0)))
        else
        (zin ((-10) - (ν1 20 o0 6)) ∧ Q (some (vI ((-10) - (ν1 20 o0 6)))) ν1)))
      else
      ZV f_X8_readsCommand [vR 20 o0] μ (fun ν4 =>
        (zin (x1 + 1) ∧ ZW f_X8_draw 27 [vR 20 o0, vI (x1 + 1)] [] ν4 Q)))
    else
    ZV f_X8_exchanges [vR 20 o0] μ (fun ν5 =>
      (if (ν5 20 o0 10) = 0 then
      ZV f_X8_note [vR 20 o0] ν5 (fun ν6 =>
        ZV f_X8_exchanges [vR 20 o0] ν6 (fun ν7 =>
        Q (some (vI x1)) (mup ν7 20 o0 4 0)))
      else
      (zin ((-10) - (ν5 20 o0 6)) ∧ Q (some (vI ((-10) - (ν5 20 o0 6)))) ν5))))) :
    ZW f_X8_draw 27 [vR 20 o0, vI x1] [] μ Q := mvc_at zcd zml (C := zc125) rfl 61 27 h
