theorem vc_X0_encode_0 {μ : mzM} {Q : Option mzV → mzM → Prop} {o0 o1 o2 x3 : Int} (h :
    (if x3 = (-1) then
    (((0 : Int) = 0 ∨ (0 : Int) = 1) ∧ ZW f_X0_encode 20 [vR 11 o0, vR 2 o1, vR 1 o2, vI x3, vR 99 0, vI 0] [] (mup (mup (mup μ 2 o1 2 x3) 2 o1 4 0) 2 o1 3 2) Q)
    else
    ZR f_X6_imageOf 3 [vR 1 o2, vI x3] μ (fun r2 ν1 =>
      (((0 : Int) = 0 ∨ (0 : Int) = 1) ∧ ZW f_X0_encode 20 [vR 11 o0, vR 2 o1, vR 1 o2, vI x3, vR 3 r2, vI 0] [] (mup (mup (mup ν1 2 o1 2 x3) 2 o1 4 0) 2 o1 3 2) Q)))) :
    ZW f_X0_encode 0 [vR 11 o0, vR 2 o1, vR 1 o2, vI x3, none, none] [] μ Q := mvc_at zcd zml (C := zc0) rfl 52 0 h
theorem vc_X0_encode_20 {μ : mzM} {Q : Option mzV → mzM → Prop} {o0 o1 o2 x3 x5 : Int} (h :
    ZI f_X2_blocks [vR 3 o1] μ (fun r2 ν1 =>
    (if x5 < r2 then
    ZI f_X0_encodeRaw [vR 11 o0, vR 2 o1, vI x5] ν1 (fun r4 ν3 =>
      (zin ((ν1 2 o1 3) + r4) ∧ (zin (x5 + 1) ∧ ZW f_X0_encode 20 [vR 11 o0, vR 2 o1, vR 1 o2, vI x3, vR 99 0, vI (x5 + 1)] [] (mup ν3 2 o1 3 ((ν1 2 o1 3) + r4)) Q)))
    else
    Q none ν1))) :
    ZW f_X0_encode 20 [vR 11 o0, vR 2 o1, vR 1 o2, vI x3, vR 99 0, vI x5] [] μ Q := mvc_at zcd zml (C := zc0) rfl 52 20 h
theorem vc_X0_encode_20b {μ : mzM} {Q : Option mzV → mzM → Prop} {o0 o1 o2 o4 x3 x5 : Int} (h :
    ZI f_X2_blocks [vR 3 o1] μ (fun r2 ν1 =>
    (if x5 < r2 then
    ZI f_X0_encodeWith [vR 11 o0, vR 2 o1, vI x5, vR 3 o4, vI (ν1 1 o2 4)] ν1 (fun r4 ν3 =>
      (zin ((ν1 2 o1 3) + r4) ∧ (zin (x5 + 1) ∧ ZW f_X0_encode 20 [vR 11 o0, vR 2 o1, vR 1 o2, vI x3, vR 3 o4, vI (x5 + 1)] [] (mup ν3 2 o1 3 ((ν1 2 o1 3) + r4)) Q)))
    else
    Q none ν1))) :
    ZW f_X0_encode 20 [vR 11 o0, vR 2 o1, vR 1 o2, vI x3, vR 3 o4, vI x5] [] μ Q := mvc_at zcd zml (C := zc0) rfl 52 20 h
theorem vc_X0_encodeRaw_0 {μ : mzM} {Q : Option mzV → mzM → Prop} {o0 o1 x2 : Int} (h :
    ZV f_X4_read [vR 12 0, vR 3 o1, vR 99 0, vI x2] μ (fun ν1 =>
    ZV f_X1_setCode [vR 2 o1, vI x2, vI 3, vI 0, vI 0, vI (ν1 12 0 2)] ν1 (fun ν2 =>
    (zin (2 * (ν2 12 0 2)) ∧ (zin (2 + (2 * (ν2 12 0 2))) ∧ Q (some (vI (2 + (2 * (ν2 12 0 2))))) ν2))))) :
    ZW f_X0_encodeRaw 0 [vR 11 o0, vR 2 o1, vI x2] [] μ Q := mvc_at zcd zml (C := zc1) rfl 29 0 h
theorem vc_X0_encodeWith_0 {μ : mzM} {Q : Option mzV → mzM → Prop} {o0 o1 o3 x2 x4 : Int} (h :
    ZI f_X2_left [vR 3 o1, vI x2] μ (fun r2 ν1 =>
    ZI f_X2_top [vR 3 o1, vI x2] ν1 (fun r4 ν3 =>
    ZI f_X2_samePart [vR 3 o1, vI r2, vI r4, vR 3 o3, vI r2, vI r4] ν3 (fun r6 ν5 =>
    (if r6 = 0 then
    ZI f_X0_findMove [vR 11 o0, vR 3 o1, vI r2, vI r4, vR 3 o3, vI x4] ν5 (fun r8 ν7 =>
      (if r8 = 0 then
      ZV f_X4_read [vR 12 0, vR 3 o1, vR 99 0, vI x2] ν7 (fun ν9 =>
        ZV f_X4_read [vR 12 1, vR 3 o1, vR 3 o3, vI x2] ν9 (fun ν10 =>
        (if (ν10 12 0 2) < (ν10 12 1 2) then
        ZV f_X1_setCode [vR 2 o1, vI x2, vI 3, vI 0, vI 0, vI (ν10 12 0 2)] ν10 (fun ν11 =>
          (zin (2 * (ν11 12 0 2)) ∧ (zin (2 + (2 * (ν11 12 0 2))) ∧ Q (some (vI (2 + (2 * (ν11 12 0 2))))) ν11)))
        else
        ZV f_X1_setCode [vR 2 o1, vI x2, vI 2, vI 0, vI 0, vI (ν10 12 1 2)] ν10 (fun ν12 =>
          (zin (2 * (ν12 12 1 2)) ∧ (zin (2 + (2 * (ν12 12 1 2))) ∧ Q (some (vI (2 + (2 * (ν12 12 1 2))))) ν12))))))
      else
      ZV f_X1_setCode [vR 2 o1, vI x2, vI 1, vI (ν7 11 o0 2), vI (ν7 11 o0 3), vI 0] ν7 (fun ν13 =>
        Q (some (vI 3)) ν13)))
    else
    ZV f_X1_setCode [vR 2 o1, vI x2, vI 0, vI 0, vI 0, vI 0] ν5 (fun ν14 =>
      Q (some (vI 1)) ν14)))))) :
    ZW f_X0_encodeWith 0 [vR 11 o0, vR 2 o1, vI x2, vR 3 o3, vI x4, none, none] [] μ Q := mvc_at zcd zml (C := zc2) rfl 108 0 h
theorem vc_X0_findMove_0 {μ : mzM} {Q : Option mzV → mzM → Prop} {o0 o1 o4 x2 x3 x5 : Int} (h :
    ZW f_X0_findMove 2 [vR 11 o0, vR 3 o1, vI x2, vI x3, vR 3 o4, vI x5, vI 1, none, none, none] [] μ Q) :
    ZW f_X0_findMove 0 [vR 11 o0, vR 3 o1, vI x2, vI x3, vR 3 o4, vI x5, none, none, none, none] [] μ Q := mvc_at zcd zml (C := zc3) rfl 79 0 h
theorem vc_X0_findMove_2 {μ : mzM} {Q : Option mzV → mzM → Prop} {o0 o1 o4 x2 x3 x5 x6 : Int} {v7 v8 v9 : mzV} (h :
    (zin (2 * x5) ∧ (if (2 * x5) < x6 then
    Q (some (vI 0)) μ
    else
    ZW f_X0_findMove 10 [vR 11 o0, vR 3 o1, vI x2, vI x3, vR 3 o4, vI x5, vI x6, vI (zw (-x5)), v8, v9] [] μ Q))) :
    ZW f_X0_findMove 2 [vR 11 o0, vR 3 o1, vI x2, vI x3, vR 3 o4, vI x5, vI x6, v7, v8, v9] [] μ Q := mvc_at zcd zml (C := zc3) rfl 79 2 h
theorem vc_X0_findMove_10 {μ : mzM} {Q : Option mzV → mzM → Prop} {o0 o1 o4 x2 x3 x5 x6 x7 : Int} {v8 v9 : mzV} (h :
    (if x5 < x7 then
    (zin (x6 + 1) ∧ ZW f_X0_findMove 2 [vR 11 o0, vR 3 o1, vI x2, vI x3, vR 3 o4, vI x5, vI (x6 + 1), vI x7, v8, v9] [] μ Q)
    else
    ZI f_J9_abs_0f7a4 [vI x7] μ (fun r2 ν1 =>
      (zin (x6 - r2) ∧ (if (x6 - r2) < 0 then
      (zin (x7 + 1) ∧ ZW f_X0_findMove 10 [vR 11 o0, vR 3 o1, vI x2, vI x3, vR 3 o4, vI x5, vI x6, vI (x7 + 1), vI (x6 - r2), v9] [] ν1 Q)
      else
      (if x5 < (x6 - r2) then
        (zin (x7 + 1) ∧ ZW f_X0_findMove 10 [vR 11 o0, vR 3 o1, vI x2, vI x3, vR 3 o4, vI x5, vI x6, vI (x7 + 1), vI (x6 - r2), v9] [] ν1 Q)
        else
        ZW f_X0_findMove 27 [vR 11 o0, vR 3 o1, vI x2, vI x3, vR 3 o4, vI x5, vI x6, vI x7, vI (x6 - r2), vI (zw (-(x6 - r2)))] [] ν1 Q)))))) :
    ZW f_X0_findMove 10 [vR 11 o0, vR 3 o1, vI x2, vI x3, vR 3 o4, vI x5, vI x6, vI x7, v8, v9] [] μ Q := mvc_at zcd zml (C := zc3) rfl 79 10 h
theorem vc_X0_findMove_27 {μ : mzM} {Q : Option mzV → mzM → Prop} {o0 o1 o4 x2 x3 x5 x6 x7 x8 x9 : Int} (h :
    (if x8 < x9 then
    (zin (x7 + 1) ∧ ZW f_X0_findMove 10 [vR 11 o0, vR 3 o1, vI x2, vI x3, vR 3 o4, vI x5, vI x6, vI (x7 + 1), vI x8, vI x9] [] μ Q)
    else
    (zin (x2 + x9) ∧ (zin (x3 + x7) ∧ ZI f_X2_hasPart [vR 3 o4, vI (x2 + x9), vI (x3 + x7)] μ (fun r2 ν1 =>
      (if r2 = 0 then
      (zin (2 * x8) ∧ ZI f_J9_max_7cf53 [vI 1, vI (2 * x8)] ν1 (fun r4 ν3 =>
        (zin (x9 + r4) ∧ ZW f_X0_findMove 27 [vR 11 o0, vR 3 o1, vI x2, vI x3, vR 3 o4, vI x5, vI x6, vI x7, vI x8, vI (x9 + r4)] [] ν3 Q)))
      else
      (zin (x2 + x9) ∧ (zin (x3 + x7) ∧ ZI f_X2_samePart [vR 3 o1, vI x2, vI x3, vR 3 o4, vI (x2 + x9), vI (x3 + x7)] ν1 (fun r6 ν5 =>
        (if r6 = 0 then
        (zin (2 * x8) ∧ ZI f_J9_max_7cf53 [vI 1, vI (2 * x8)] ν5 (fun r8 ν7 =>
          (zin (x9 + r8) ∧ ZW f_X0_findMove 27 [vR 11 o0, vR 3 o1, vI x2, vI x3, vR 3 o4, vI x5, vI x6, vI x7, vI x8, vI (x9 + r8)] [] ν7 Q)))
        else
        Q (some (vI 1)) (mup (mup ν5 11 o0 2 x9) 11 o0 3 x7))))))))))) :
    ZW f_X0_findMove 27 [vR 11 o0, vR 3 o1, vI x2, vI x3, vR 3 o4, vI x5, vI x6, vI x7, vI x8, vI x9] [] μ Q := mvc_at zcd zml (C := zc3) rfl 79 27 h
theorem vc_X1_take_0 {μ : mzM} {Q : Option mzV → mzM → Prop} {o0 o1 : Int} (h :
    ZV f_X2_take [vR 3 o0, vR 3 o1] μ (fun ν1 =>
    (((0 ≤ (36 : Int) ∧ 0 ≤ (0 : Int) ∧ 0 ≤ (0 : Int)) ∧ ((0 : Int) + 36 ≤ 36 ∧ (0 : Int) + 36 ≤ 36)) ∧ ((((mup (mup (mcp ν1 5 o1 0 5 o0 0 36) 2 o0 2 ((mcp ν1 5 o1 0 5 o0 0 36) 2 o1 2)) 2 o0 3 ((mup (mcp ν1 5 o1 0 5 o0 0 36) 2 o0 2 ((mcp ν1 5 o1 0 5 o0 0 36) 2 o1 2)) 2 o1 3)) 2 o1 4) = 0 ∨ ((mup (mup (mcp ν1 5 o1 0 5 o0 0 36) 2 o0 2 ((mcp ν1 5 o1 0 5 o0 0 36) 2 o1 2)) 2 o0 3 ((mup (mcp ν1 5 o1 0 5 o0 0 36) 2 o0 2 ((mcp ν1 5 o1 0 5 o0 0 36) 2 o1 2)) 2 o1 3)) 2 o1 4) = 1) ∧ Q none (mup (mup (mup (mcp ν1 5 o1 0 5 o0 0 36) 2 o0 2 ((mcp ν1 5 o1 0 5 o0 0 36) 2 o1 2)) 2 o0 3 ((mup (mcp ν1 5 o1 0 5 o0 0 36) 2 o0 2 ((mcp ν1 5 o1 0 5 o0 0 36) 2 o1 2)) 2 o1 3)) 2 o0 4 ((mup (mup (mcp ν1 5 o1 0 5 o0 0 36) 2 o0 2 ((mcp ν1 5 o1 0 5 o0 0 36) 2 o1 2)) 2 o0 3 ((mup (mcp ν1 5 o1 0 5 o0 0 36) 2 o0 2 ((mcp ν1 5 o1 0 5 o0 0 36) 2 o1 2)) 2 o1 3)) 2 o1 4)))))) :
    ZW f_X1_take 0 [vR 2 o0, vR 2 o1] [] μ Q := mvc_at zcd zml (C := zc4) rfl 31 0 h
theorem vc_X1_codePart_0 {μ : mzM} {Q : Option mzV → mzM → Prop} {o0 x1 x2 : Int} (h :
    (zin (x1 * 4) ∧ (zin ((x1 * 4) + x2) ∧ (if ((x1 * 4) + x2) < 0 then
    Q (some (vI 0)) μ
    else
    (if ((x1 * 4) + x2) < 36 then
      ((0 ≤ ((x1 * 4) + x2) ∧ ((x1 * 4) + x2) < 36) ∧ Q (some (vI (μ 5 o0 ((x1 * 4) + x2)))) μ)
      else
      Q (some (vI 0)) μ))))) :
    ZW f_X1_codePart 0 [vR 2 o0, vI x1, vI x2, none] [] μ Q := mvc_at zcd zml (C := zc5) rfl 25 0 h
theorem vc_X1_setCode_0 {μ : mzM} {Q : Option mzV → mzM → Prop} {o0 x1 x2 x3 x4 x5 : Int} (h :
    (zin (x1 * 4) ∧ (if (x1 * 4) < 0 then
    Q none μ
    else
    (zin ((x1 * 4) + 3) ∧ (if ((x1 * 4) + 3) < 36 then
      (zin ((x1 * 4) + 0) ∧ ((0 ≤ ((x1 * 4) + 0) ∧ ((x1 * 4) + 0) < 36) ∧ (zin ((x1 * 4) + 1) ∧ ((0 ≤ ((x1 * 4) + 1) ∧ ((x1 * 4) + 1) < 36) ∧ (zin ((x1 * 4) + 2) ∧ ((0 ≤ ((x1 * 4) + 2) ∧ ((x1 * 4) + 2) < 36) ∧ (zin ((x1 * 4) + 3) ∧ ((0 ≤ ((x1 * 4) + 3) ∧ ((x1 * 4) + 3) < 36) ∧ Q none (mup (mup (mup (mup μ 5 o0 ((x1 * 4) + 0) x2) 5 o0 ((x1 * 4) + 1) x3) 5 o0 ((x1 * 4) + 2) x4) 5 o0 ((x1 * 4) + 3) x5)))))))))
      else
      Q none μ))))) :
    ZW f_X1_setCode 0 [vR 2 o0, vI x1, vI x2, vI x3, vI x4, vI x5, none] [] μ Q := mvc_at zcd zml (C := zc6) rfl 47 0 h
theorem vc_X1_codesOfKind_0 {μ : mzM} {Q : Option mzV → mzM → Prop} {o0 x1 : Int} (h :
    ZW f_X1_codesOfKind 4 [vR 2 o0, vI x1, vI 0, vI 0] [] μ Q) :
    ZW f_X1_codesOfKind 0 [vR 2 o0, vI x1, none, none] [] μ Q := mvc_at zcd zml (C := zc7) rfl 25 0 h
theorem vc_X1_codesOfKind_4 {μ : mzM} {Q : Option mzV → mzM → Prop} {o0 x1 x2 x3 : Int} (h :
    ZI f_X2_blocks [vR 3 o0] μ (fun r2 ν1 =>
    (if x3 < r2 then
    ZI f_X1_codePart [vR 2 o0, vI x3, vI 0] ν1 (fun r4 ν3 =>
      (if r4 = x1 then
      (zin (x2 + 1) ∧ (zin (x3 + 1) ∧ ZW f_X1_codesOfKind 4 [vR 2 o0, vI x1, vI (x2 + 1), vI (x3 + 1)] [] ν3 Q))
      else
      (zin (x3 + 1) ∧ ZW f_X1_codesOfKind 4 [vR 2 o0, vI x1, vI x2, vI (x3 + 1)] [] ν3 Q)))
    else
    Q (some (vI x2)) ν1))) :
    ZW f_X1_codesOfKind 4 [vR 2 o0, vI x1, vI x2, vI x3] [] μ Q := mvc_at zcd zml (C := zc7) rfl 25 4 h
theorem vc_X2_reset_0 {μ : mzM} {Q : Option mzV → mzM → Prop} {o0 x1 x2 : Int} (h :
    ZW f_X2_reset 8 [vR 3 o0, vI x1, vI x2, vI 0] [] (mup (mup μ 3 o0 1 x1) 3 o0 2 x2) Q) :
    ZW f_X2_reset 0 [vR 3 o0, vI x1, vI x2, none] [] μ Q := mvc_at zcd zml (C := zc8) rfl 26 0 h
theorem vc_X2_reset_8 {μ : mzM} {Q : Option mzV → mzM → Prop} {o0 x1 x2 x3 : Int} (h :
    (if x3 < 144 then
    ((0 ≤ x3 ∧ x3 < 144) ∧ (zin (x3 + 1) ∧ ZW f_X2_reset 8 [vR 3 o0, vI x1, vI x2, vI (x3 + 1)] [] (mup μ 4 o0 x3 0) Q))
    else
    Q none μ)) :
    ZW f_X2_reset 8 [vR 3 o0, vI x1, vI x2, vI x3] [] μ Q := mvc_at zcd zml (C := zc8) rfl 26 8 h
theorem vc_X2_take_0 {μ : mzM} {Q : Option mzV → mzM → Prop} {o0 o1 : Int} (h :
    (((0 ≤ (144 : Int) ∧ 0 ≤ (0 : Int) ∧ 0 ≤ (0 : Int)) ∧ ((0 : Int) + 144 ≤ 144 ∧ (0 : Int) + 144 ≤ 144)) ∧ Q none (mcp (mup (mup μ 3 o0 1 (μ 3 o1 1)) 3 o0 2 ((mup μ 3 o0 1 (μ 3 o1 1)) 3 o1 2)) 4 o1 0 4 o0 0 144))) :
    ZW f_X2_take 0 [vR 3 o0, vR 3 o1] [] μ Q := mvc_at zcd zml (C := zc9) rfl 22 0 h
theorem vc_X2_hasCell_0 {μ : mzM} {Q : Option mzV → mzM → Prop} {o0 x1 : Int} (h :
    (if x1 < 0 then
    Q (some (vI 0)) μ
    else
    (zin ((μ 3 o0 1) * (μ 3 o0 2)) ∧ (if x1 < ((μ 3 o0 1) * (μ 3 o0 2)) then
      Q (some (vI 1)) μ
      else
      Q (some (vI 0)) μ)))) :
    ZW f_X2_hasCell 0 [vR 3 o0, vI x1] [] μ Q := mvc_at zcd zml (C := zc10) rfl 18 0 h
theorem vc_X2_numbered_0 {μ : mzM} {Q : Option mzV → mzM → Prop} {o0 x1 : Int} (h :
    (if x1 < 0 then
    Q (some (vI 0)) μ
    else
    (if x1 < 144 then
      ((0 ≤ x1 ∧ x1 < 144) ∧ Q (some (vI (μ 4 o0 x1))) μ)
      else
      Q (some (vI 0)) μ))) :
    ZW f_X2_numbered 0 [vR 3 o0, vI x1] [] μ Q := mvc_at zcd zml (C := zc11) rfl 19 0 h
theorem vc_X2_putNumbered_0 {μ : mzM} {Q : Option mzV → mzM → Prop} {o0 x1 x2 : Int} (h :
    (if x1 < 0 then
    Q none μ
    else
    (if x1 < 144 then
      ((0 ≤ x1 ∧ x1 < 144) ∧ Q none (mup μ 4 o0 x1 x2))
      else
      Q none μ))) :
    ZW f_X2_putNumbered 0 [vR 3 o0, vI x1, vI x2] [] μ Q := mvc_at zcd zml (C := zc12) rfl 18 0 h
theorem vc_X2_at_0 {μ : mzM} {Q : Option mzV → mzM → Prop} {o0 x1 x2 : Int} (h :
    (if x1 < 0 then
    Q (some (vI 0)) μ
    else
    (if x1 < (μ 3 o0 1) then
      (if x2 < 0 then
        Q (some (vI 0)) μ
        else
        (if x2 < (μ 3 o0 2) then
          (zin (x2 * (μ 3 o0 1)) ∧ (zin ((x2 * (μ 3 o0 1)) + x1) ∧ (if ((x2 * (μ 3 o0 1)) + x1) < 144 then
            ((0 ≤ ((x2 * (μ 3 o0 1)) + x1) ∧ ((x2 * (μ 3 o0 1)) + x1) < 144) ∧ Q (some (vI (μ 4 o0 ((x2 * (μ 3 o0 1)) + x1)))) μ)
            else
            Q (some (vI 0)) μ)))
          else
          Q (some (vI 0)) μ))
      else
      Q (some (vI 0)) μ))) :
    ZW f_X2_at 0 [vR 3 o0, vI x1, vI x2, none] [] μ Q := mvc_at zcd zml (C := zc13) rfl 38 0 h
theorem vc_X2_blocks_0 {μ : mzM} {Q : Option mzV → mzM → Prop} {o0 : Int} (h :
    (((4 : Int) ≠ 0 ∧ zin (Int.tdiv (μ 3 o0 1) 4)) ∧ (((4 : Int) ≠ 0 ∧ zin (Int.tdiv (μ 3 o0 2) 4)) ∧ (zin ((Int.tdiv (μ 3 o0 1) 4) * (Int.tdiv (μ 3 o0 2) 4)) ∧ Q (some (vI ((Int.tdiv (μ 3 o0 1) 4) * (Int.tdiv (μ 3 o0 2) 4)))) μ)))) :
    ZW f_X2_blocks 0 [vR 3 o0] [] μ Q := mvc_at zcd zml (C := zc14) rfl 15 0 h
theorem vc_X2_left_0 {μ : mzM} {Q : Option mzV → mzM → Prop} {o0 x1 : Int} (h :
    (((4 : Int) ≠ 0 ∧ zin (Int.tdiv (μ 3 o0 1) 4)) ∧ ZI f_J9_max_7cf53 [vI 1, vI (Int.tdiv (μ 3 o0 1) 4)] μ (fun r2 ν1 =>
    (r2 ≠ 0 ∧ (zin (4 * (Int.tmod x1 r2)) ∧ Q (some (vI (4 * (Int.tmod x1 r2)))) ν1))))) :
    ZW f_X2_left 0 [vR 3 o0, vI x1] [] μ Q := mvc_at zcd zml (C := zc15) rfl 16 0 h
theorem vc_X2_top_0 {μ : mzM} {Q : Option mzV → mzM → Prop} {o0 x1 : Int} (h :
    (((4 : Int) ≠ 0 ∧ zin (Int.tdiv (μ 3 o0 1) 4)) ∧ ZI f_J9_max_7cf53 [vI 1, vI (Int.tdiv (μ 3 o0 1) 4)] μ (fun r2 ν1 =>
    ((r2 ≠ 0 ∧ zin (Int.tdiv x1 r2)) ∧ (zin (4 * (Int.tdiv x1 r2)) ∧ Q (some (vI (4 * (Int.tdiv x1 r2)))) ν1))))) :
    ZW f_X2_top 0 [vR 3 o0, vI x1] [] μ Q := mvc_at zcd zml (C := zc16) rfl 16 0 h
theorem vc_X2_hasPart_0 {μ : mzM} {Q : Option mzV → mzM → Prop} {o0 x1 x2 : Int} (h :
    (if x1 < 0 then
    Q (some (vI 0)) μ
    else
    (zin ((μ 3 o0 1) - 4) ∧ (if ((μ 3 o0 1) - 4) < x1 then
      Q (some (vI 0)) μ
      else
      (if x2 < 0 then
        Q (some (vI 0)) μ
        else
        (zin ((μ 3 o0 2) - 4) ∧ (if ((μ 3 o0 2) - 4) < x2 then
          Q (some (vI 0)) μ
          else
          Q (some (vI 1)) μ))))))) :
    ZW f_X2_hasPart 0 [vR 3 o0, vI x1, vI x2] [] μ Q := mvc_at zcd zml (C := zc17) rfl 25 0 h
theorem vc_X2_samePart_0 {μ : mzM} {Q : Option mzV → mzM → Prop} {o0 o3 x1 x2 x4 x5 : Int} (h :
    ZW f_X2_samePart 2 [vR 3 o0, vI x1, vI x2, vR 3 o3, vI x4, vI x5, vI 0, none, none] [] μ Q) :
    ZW f_X2_samePart 0 [vR 3 o0, vI x1, vI x2, vR 3 o3, vI x4, vI x5, none, none, none] [] μ Q := mvc_at zcd zml (C := zc18) rfl 71 0 h
theorem vc_X2_samePart_2 {μ : mzM} {Q : Option mzV → mzM → Prop} {o0 o3 x1 x2 x4 x5 x6 : Int} {v7 v8 : mzV} (h :
    (if x6 < 16 then
    (((4 : Int) ≠ 0 ∧ zin (Int.tdiv x6 4)) ∧ (zin (x2 + (Int.tdiv x6 4)) ∧ (zin ((x2 + (Int.tdiv x6 4)) * (μ 3 o0 1)) ∧ (zin (((x2 + (Int.tdiv x6 4)) * (μ 3 o0 1)) + x1) ∧ ((4 : Int) ≠ 0 ∧ (zin ((((x2 + (Int.tdiv x6 4)) * (μ 3 o0 1)) + x1) + (Int.tmod x6 4)) ∧ (((4 : Int) ≠ 0 ∧ zin (Int.tdiv x6 4)) ∧ (zin (x5 + (Int.tdiv x6 4)) ∧ (zin ((x5 + (Int.tdiv x6 4)) * (μ 3 o3 1)) ∧ (zin (((x5 + (Int.tdiv x6 4)) * (μ 3 o3 1)) + x4) ∧ ((4 : Int) ≠ 0 ∧ (zin ((((x5 + (Int.tdiv x6 4)) * (μ 3 o3 1)) + x4) + (Int.tmod x6 4)) ∧ (if ((((x2 + (Int.tdiv x6 4)) * (μ 3 o0 1)) + x1) + (Int.tmod x6 4)) < 0 then
      Q (some (vI 0)) μ
      else
      (if ((((x2 + (Int.tdiv x6 4)) * (μ 3 o0 1)) + x1) + (Int.tmod x6 4)) < 144 then
        (if ((((x5 + (Int.tdiv x6 4)) * (μ 3 o3 1)) + x4) + (Int.tmod x6 4)) < 0 then
          Q (some (vI 0)) μ
          else
          (if ((((x5 + (Int.tdiv x6 4)) * (μ 3 o3 1)) + x4) + (Int.tmod x6 4)) < 144 then
            ((0 ≤ ((((x2 + (Int.tdiv x6 4)) * (μ 3 o0 1)) + x1) + (Int.tmod x6 4)) ∧ ((((x2 + (Int.tdiv x6 4)) * (μ 3 o0 1)) + x1) + (Int.tmod x6 4)) < 144) ∧ ((0 ≤ ((((x5 + (Int.tdiv x6 4)) * (μ 3 o3 1)) + x4) + (Int.tmod x6 4)) ∧ ((((x5 + (Int.tdiv x6 4)) * (μ 3 o3 1)) + x4) + (Int.tmod x6 4)) < 144) ∧ (if (μ 4 o0 ((((x2 + (Int.tdiv x6 4)) * (μ 3 o0 1)) + x1) + (Int.tmod x6 4))) = (μ 4 o3 ((((x5 + (Int.tdiv x6 4)) * (μ 3 o3 1)) + x4) + (Int.tmod x6 4))) then
              (zin (x6 + 1) ∧ ZW f_X2_samePart 2 [vR 3 o0, vI x1, vI x2, vR 3 o3, vI x4, vI x5, vI (x6 + 1), vI ((((x2 + (Int.tdiv x6 4)) * (μ 3 o0 1)) + x1) + (Int.tmod x6 4)), vI ((((x5 + (Int.tdiv x6 4)) * (μ 3 o3 1)) + x4) + (Int.tmod x6 4))] [] μ Q)
              else
              Q (some (vI 0)) μ)))
            else
            Q (some (vI 0)) μ))
        else
        Q (some (vI 0)) μ))))))))))))))
    else
    Q (some (vI 1)) μ)) :
    ZW f_X2_samePart 2 [vR 3 o0, vI x1, vI x2, vR 3 o3, vI x4, vI x5, vI x6, v7, v8] [] μ Q := mvc_at zcd zml (C := zc18) rfl 71 2 h
theorem vc_X2_cellsUnlike_0 {μ : mzM} {Q : Option mzV → mzM → Prop} {o0 o1 : Int} (h :
    ZW f_X2_cellsUnlike 4 [vR 3 o0, vR 3 o1, vI 0, vI 0] [] μ Q) :
    ZW f_X2_cellsUnlike 0 [vR 3 o0, vR 3 o1, none, none] [] μ Q := mvc_at zcd zml (C := zc19) rfl 28 0 h
theorem vc_X2_cellsUnlike_4 {μ : mzM} {Q : Option mzV → mzM → Prop} {o0 o1 x2 x3 : Int} (h :
    (zin ((μ 3 o0 1) * (μ 3 o0 2)) ∧ (if x3 < ((μ 3 o0 1) * (μ 3 o0 2)) then
    ZI f_X2_numbered [vR 3 o0, vI x3] μ (fun r2 ν1 =>
      ZI f_X2_numbered [vR 3 o1, vI x3] ν1 (fun r4 ν3 =>
      (if r2 = r4 then
      (zin (x3 + 1) ∧ ZW f_X2_cellsUnlike 4 [vR 3 o0, vR 3 o1, vI x2, vI (x3 + 1)] [] ν3 Q)
      else
      (zin (x2 + 1) ∧ (zin (x3 + 1) ∧ ZW f_X2_cellsUnlike 4 [vR 3 o0, vR 3 o1, vI (x2 + 1), vI (x3 + 1)] [] ν3 Q)))))
    else
    Q (some (vI x2)) μ))) :
    ZW f_X2_cellsUnlike 4 [vR 3 o0, vR 3 o1, vI x2, vI x3] [] μ Q := mvc_at zcd zml (C := zc19) rfl 28 4 h
theorem vc_X3_plan_0 {μ : mzM} {Q : Option mzV → mzM → Prop} {o0 o1 o2 o3 : Int} (h :
    ZI f_J9_min_7cf53 [vI (μ 1 o1 3), vI 10] μ (fun r2 ν1 =>
    ZV f_X3_measure [vR 15 o0, vR 1 o1, vR 11 o2, vR 2 o3, vI r2] ν1 (fun ν3 =>
    ZI f_X3_costOf [vR 15 o0, vI 1, vI r2, vI (ν3 1 o1 6)] ν3 (fun r5 ν4 =>
    ZW f_X3_plan 24 [vR 15 o0, vR 1 o1, vR 11 o2, vR 2 o3, vI r2, vI 3, none, none] [] (mup (mup ν4 15 o0 2 r5) 15 o0 3 1) Q)))) :
    ZW f_X3_plan 0 [vR 15 o0, vR 1 o1, vR 11 o2, vR 2 o3, none, none, none, none] [] μ Q := mvc_at zcd zml (C := zc20) rfl 70 0 h
theorem vc_X3_plan_24 {μ : mzM} {Q : Option mzV → mzM → Prop} {o0 o1 o2 o3 x4 x5 : Int} {v6 v7 : mzV} (h :
    (if x5 < (zshl 1 x4) then
    ZI f_X3_costOf [vR 15 o0, vI x5, vI x4, vI (μ 1 o1 6)] μ (fun r2 ν1 =>
      ZI f_J6_bitCount_0f7a4 [vI x5] ν1 (fun r4 ν3 =>
      ZI f_J6_bitCount_0f7a4 [vI (ν3 15 o0 3)] ν3 (fun r6 ν5 =>
      (if r4 < r6 then
      (if r2 < (ν5 15 o0 2) then
        (zin (x5 + 2) ∧ ZW f_X3_plan 24 [vR 15 o0, vR 1 o1, vR 11 o2, vR 2 o3, vI x4, vI (x5 + 2), vI r2, vI 1] [] (mup (mup ν5 15 o0 2 r2) 15 o0 3 x5) Q)
        else
        (if r2 = (ν5 15 o0 2) then
          (zin (x5 + 2) ∧ ZW f_X3_plan 24 [vR 15 o0, vR 1 o1, vR 11 o2, vR 2 o3, vI x4, vI (x5 + 2), vI r2, vI 1] [] (mup (mup ν5 15 o0 2 r2) 15 o0 3 x5) Q)
          else
          (zin (x5 + 2) ∧ ZW f_X3_plan 24 [vR 15 o0, vR 1 o1, vR 11 o2, vR 2 o3, vI x4, vI (x5 + 2), vI r2, vI 1] [] ν5 Q)))
      else
      (if r2 < (ν5 15 o0 2) then
        (zin (x5 + 2) ∧ ZW f_X3_plan 24 [vR 15 o0, vR 1 o1, vR 11 o2, vR 2 o3, vI x4, vI (x5 + 2), vI r2, vI 0] [] (mup (mup ν5 15 o0 2 r2) 15 o0 3 x5) Q)
        else
        (if r2 = (ν5 15 o0 2) then
          (zin (x5 + 2) ∧ ZW f_X3_plan 24 [vR 15 o0, vR 1 o1, vR 11 o2, vR 2 o3, vI x4, vI (x5 + 2), vI r2, vI 0] [] ν5 Q)
          else
          (zin (x5 + 2) ∧ ZW f_X3_plan 24 [vR 15 o0, vR 1 o1, vR 11 o2, vR 2 o3, vI x4, vI (x5 + 2), vI r2, vI 0] [] ν5 Q)))))))
    else
    Q none μ)) :
    ZW f_X3_plan 24 [vR 15 o0, vR 1 o1, vR 11 o2, vR 2 o3, vI x4, vI x5, v6, v7] [] μ Q := mvc_at zcd zml (C := zc20) rfl 70 24 h
theorem vc_X3_measure_0 {μ : mzM} {Q : Option mzV → mzM → Prop} {o0 o1 o2 o3 x4 : Int} (h :
    ZW f_X3_measure 2 [vR 15 o0, vR 1 o1, vR 11 o2, vR 2 o3, vI x4, vI 0] [] μ Q) :
    ZW f_X3_measure 0 [vR 15 o0, vR 1 o1, vR 11 o2, vR 2 o3, vI x4, none] [] μ Q := mvc_at zcd zml (C := zc21) rfl 55 0 h
theorem vc_X3_measure_2 {μ : mzM} {Q : Option mzV → mzM → Prop} {o0 o1 o2 o3 x4 x5 : Int} (h :
    (if x5 < x4 then
    (if x5 < 10 then
      (if x5 < 10 then
        ZR f_X6_imageOf 3 [vR 1 o1, vI x5] μ (fun r2 ν1 =>
          ZV f_X2_take [vR 3 o3, vR 3 r2] ν1 (fun ν3 =>
          ZV f_X0_encode [vR 11 o2, vR 2 o3, vR 1 o1, vI (-1)] ν3 (fun ν4 =>
          ((0 ≤ x5 ∧ x5 < 10) ∧ (if (0 : Int) < x5 then
          (zin (x5 - 1) ∧ ZV f_X0_encode [vR 11 o2, vR 2 o3, vR 1 o1, vI (x5 - 1)] (mup ν4 16 0 x5 (ν4 2 o3 3)) (fun ν5 =>
            ((0 ≤ x5 ∧ x5 < 10) ∧ (zin (x5 + 1) ∧ ZW f_X3_measure 2 [vR 15 o0, vR 1 o1, vR 11 o2, vR 2 o3, vI x4, vI (x5 + 1)] [] (mup ν5 17 0 x5 (ν5 2 o3 3)) Q))))
          else
          (zin (x5 + 1) ∧ ZW f_X3_measure 2 [vR 15 o0, vR 1 o1, vR 11 o2, vR 2 o3, vI x4, vI (x5 + 1)] [] (mup ν4 16 0 x5 (ν4 2 o3 3)) Q))))))
        else
        Q none μ)
      else
      Q none μ)
    else
    Q none μ)) :
    ZW f_X3_measure 2 [vR 15 o0, vR 1 o1, vR 11 o2, vR 2 o3, vI x4, vI x5] [] μ Q := mvc_at zcd zml (C := zc21) rfl 55 2 h
theorem vc_X3_costOf_0 {μ : mzM} {Q : Option mzV → mzM → Prop} {o0 x1 x2 x3 : Int} (h :
    ZW f_X3_costOf 8 [vR 15 o0, vI x1, vI x2, vI x3, vI 0, vI 0, vI 0, vI 0, none, none] [] μ Q) :
    ZW f_X3_costOf 0 [vR 15 o0, vI x1, vI x2, vI x3, none, none, none, none, none, none] [] μ Q := mvc_at zcd zml (C := zc22) rfl 73 0 h
theorem vc_X3_costOf_8 {μ : mzM} {Q : Option mzV → mzM → Prop} {o0 x1 x2 x3 x4 x5 x6 x7 : Int} {v8 v9 : mzV} (h :
    (if x7 < x2 then
    (if x7 < 10 then
      (if x7 < 10 then
        (if (zand (zshr x1 x7) 1) = 1 then
          ((0 ≤ x7 ∧ x7 < 10) ∧ (zin (x4 + (μ 16 0 x7)) ∧ ZI f_J9_max_7cf53 [vI x6, vI (μ 16 0 x7)] μ (fun r2 ν1 =>
            (zin (x7 + 1) ∧ ZW f_X3_costOf 8 [vR 15 o0, vI x1, vI x2, vI x3, vI (x4 + (μ 16 0 x7)), vI (μ 16 0 x7), vI r2, vI (x7 + 1), vI 1, vI (μ 16 0 x7)] [] ν1 Q))))
          else
          ((0 ≤ x7 ∧ x7 < 10) ∧ (zin (x4 + (μ 17 0 x7)) ∧ (zin (x5 + (μ 17 0 x7)) ∧ ZI f_J9_max_7cf53 [vI x6, vI (x5 + (μ 17 0 x7))] μ (fun r4 ν3 =>
            (zin (x7 + 1) ∧ ZW f_X3_costOf 8 [vR 15 o0, vI x1, vI x2, vI x3, vI (x4 + (μ 17 0 x7)), vI (x5 + (μ 17 0 x7)), vI r4, vI (x7 + 1), vI 0, vI (μ 17 0 x7)] [] ν3 Q))))))
        else
        (zin (x3 * x6) ∧ (zin (x4 + (x3 * x6)) ∧ Q (some (vI (x4 + (x3 * x6)))) μ)))
      else
      (zin (x3 * x6) ∧ (zin (x4 + (x3 * x6)) ∧ Q (some (vI (x4 + (x3 * x6)))) μ)))
    else
    (zin (x3 * x6) ∧ (zin (x4 + (x3 * x6)) ∧ Q (some (vI (x4 + (x3 * x6)))) μ)))) :
    ZW f_X3_costOf 8 [vR 15 o0, vI x1, vI x2, vI x3, vI x4, vI x5, vI x6, vI x7, v8, v9] [] μ Q := mvc_at zcd zml (C := zc22) rfl 73 8 h
theorem vc_X3_referenceOf_0 {μ : mzM} {Q : Option mzV → mzM → Prop} {o0 x1 : Int} (h :
    (if (zand (zshr (μ 15 o0 3) x1) 1) = 1 then
    Q (some (vI (-1))) μ
    else
    (zin (x1 - 1) ∧ Q (some (vI (x1 - 1))) μ))) :
    ZW f_X3_referenceOf 0 [vR 15 o0, vI x1] [] μ Q := mvc_at zcd zml (C := zc23) rfl 19 0 h
theorem vc_X4_read_0 {μ : mzM} {Q : Option mzV → mzM → Prop} {o0 o1 o2 x3 : Int} (h :
    ZI f_X2_left [vR 3 o1, vI x3] μ (fun r2 ν1 =>
    ZI f_X2_top [vR 3 o1, vI x3] ν1 (fun r4 ν3 =>
    ZW f_X4_read 13 [vR 12 o0, vR 3 o1, vR 3 o2, vI x3, vI r2, vI r4, vI 0, none, none, none] [] (mup ν3 12 o0 2 0) Q))) :
    ZW f_X4_read 0 [vR 12 o0, vR 3 o1, vR 3 o2, vI x3, none, none, none, none, none, none] [] μ Q := mvc_at zcd zml (C := zc24) rfl 55 0 h
theorem vc_X4_read_0b {μ : mzM} {Q : Option mzV → mzM → Prop} {o0 o1 x3 : Int} (h :
    ZI f_X2_left [vR 3 o1, vI x3] μ (fun r2 ν1 =>
    ZI f_X2_top [vR 3 o1, vI x3] ν1 (fun r4 ν3 =>
    ZW f_X4_read 13 [vR 12 o0, vR 3 o1, vR 99 0, vI x3, vI r2, vI r4, vI 0, none, none, none] [] (mup ν3 12 o0 2 0) Q))) :
    ZW f_X4_read 0 [vR 12 o0, vR 3 o1, vR 99 0, vI x3, none, none, none, none, none, none] [] μ Q := mvc_at zcd zml (C := zc24) rfl 55 0 h
theorem vc_X4_read_13 {μ : mzM} {Q : Option mzV → mzM → Prop} {o0 o1 o2 x3 x4 x5 x6 : Int} {v7 v8 v9 : mzV} (h :
    (if x6 < 16 then
    ((4 : Int) ≠ 0 ∧ (zin (x4 + (Int.tmod x6 4)) ∧ (((4 : Int) ≠ 0 ∧ zin (Int.tdiv x6 4)) ∧ (zin (x5 + (Int.tdiv x6 4)) ∧ ZI f_X2_at [vR 3 o1, vI (x4 + (Int.tmod x6 4)), vI (x5 + (Int.tdiv x6 4))] μ (fun r2 ν1 =>
      ZI f_X2_at [vR 3 o2, vI (x4 + (Int.tmod x6 4)), vI (x5 + (Int.tdiv x6 4))] ν1 (fun r4 ν3 =>
      (zin (r2 - r4) ∧ ZV f_X4_addCell [vR 12 o0, vI (zand (r2 - r4) 15)] ν3 (fun ν5 =>
      (zin (x6 + 1) ∧ ZW f_X4_read 13 [vR 12 o0, vR 3 o1, vR 3 o2, vI x3, vI x4, vI x5, vI (x6 + 1), vI (x4 + (Int.tmod x6 4)), vI (x5 + (Int.tdiv x6 4)), vI (zand (r2 - r4) 15)] [] ν5 Q)))))))))
    else
    Q none μ)) :
    ZW f_X4_read 13 [vR 12 o0, vR 3 o1, vR 3 o2, vI x3, vI x4, vI x5, vI x6, v7, v8, v9] [] μ Q := mvc_at zcd zml (C := zc24) rfl 55 13 h
theorem vc_X4_read_13b {μ : mzM} {Q : Option mzV → mzM → Prop} {o0 o1 x3 x4 x5 x6 : Int} {v7 v8 v9 : mzV} (h :
    (if x6 < 16 then
    ((4 : Int) ≠ 0 ∧ (zin (x4 + (Int.tmod x6 4)) ∧ (((4 : Int) ≠ 0 ∧ zin (Int.tdiv x6 4)) ∧ (zin (x5 + (Int.tdiv x6 4)) ∧ ZI f_X2_at [vR 3 o1, vI (x4 + (Int.tmod x6 4)), vI (x5 + (Int.tdiv x6 4))] μ (fun r2 ν1 =>
      ZV f_X4_addCell [vR 12 o0, vI r2] ν1 (fun ν3 =>
      (zin (x6 + 1) ∧ ZW f_X4_read 13 [vR 12 o0, vR 3 o1, vR 99 0, vI x3, vI x4, vI x5, vI (x6 + 1), vI (x4 + (Int.tmod x6 4)), vI (x5 + (Int.tdiv x6 4)), vI r2] [] ν3 Q)))))))
    else
    Q none μ)) :
    ZW f_X4_read 13 [vR 12 o0, vR 3 o1, vR 99 0, vI x3, vI x4, vI x5, vI x6, v7, v8, v9] [] μ Q := mvc_at zcd zml (C := zc24) rfl 55 13 h
theorem vc_X4_addCell_0 {μ : mzM} {Q : Option mzV → mzM → Prop} {o0 x1 : Int} (h :
    (zin ((μ 12 o0 2) - 1) ∧ (if ((μ 12 o0 2) - 1) < 0 then
    (if (μ 12 o0 2) < 0 then
      Q none μ
      else
      (if (μ 12 o0 2) < 16 then
        (if (μ 12 o0 2) < 16 then
          ((0 ≤ (μ 12 o0 2) ∧ (μ 12 o0 2) < 16) ∧ ((0 ≤ ((mup μ 13 o0 (μ 12 o0 2) 1) 12 o0 2) ∧ ((mup μ 13 o0 (μ 12 o0 2) 1) 12 o0 2) < 16) ∧ (zin (((mup (mup μ 13 o0 (μ 12 o0 2) 1) 14 o0 ((mup μ 13 o0 (μ 12 o0 2) 1) 12 o0 2) x1) 12 o0 2) + 1) ∧ Q none (mup (mup (mup μ 13 o0 (μ 12 o0 2) 1) 14 o0 ((mup μ 13 o0 (μ 12 o0 2) 1) 12 o0 2) x1) 12 o0 2 (((mup (mup μ 13 o0 (μ 12 o0 2) 1) 14 o0 ((mup μ 13 o0 (μ 12 o0 2) 1) 12 o0 2) x1) 12 o0 2) + 1)))))
          else
          Q none μ)
        else
        Q none μ))
    else
    (if ((μ 12 o0 2) - 1) < 16 then
      ((0 ≤ ((μ 12 o0 2) - 1) ∧ ((μ 12 o0 2) - 1) < 16) ∧ (if (μ 14 o0 ((μ 12 o0 2) - 1)) = x1 then
        (if ((μ 12 o0 2) - 1) < 16 then
          ((0 ≤ ((μ 12 o0 2) - 1) ∧ ((μ 12 o0 2) - 1) < 16) ∧ (zin ((μ 13 o0 ((μ 12 o0 2) - 1)) + 1) ∧ ((0 ≤ ((μ 12 o0 2) - 1) ∧ ((μ 12 o0 2) - 1) < 16) ∧ Q none (mup μ 13 o0 ((μ 12 o0 2) - 1) ((μ 13 o0 ((μ 12 o0 2) - 1)) + 1)))))
          else
          (if (μ 12 o0 2) < 0 then
            Q none μ
            else
            (if (μ 12 o0 2) < 16 then
              (if (μ 12 o0 2) < 16 then
                ((0 ≤ (μ 12 o0 2) ∧ (μ 12 o0 2) < 16) ∧ ((0 ≤ ((mup μ 13 o0 (μ 12 o0 2) 1) 12 o0 2) ∧ ((mup μ 13 o0 (μ 12 o0 2) 1) 12 o0 2) < 16) ∧ (zin (((mup (mup μ 13 o0 (μ 12 o0 2) 1) 14 o0 ((mup μ 13 o0 (μ 12 o0 2) 1) 12 o0 2) x1) 12 o0 2) + 1) ∧ Q none (mup (mup (mup μ 13 o0 (μ 12 o0 2) 1) 14 o0 ((mup μ 13 o0 (μ 12 o0 2) 1) 12 o0 2) x1) 12 o0 2 (((mup (mup μ 13 o0 (μ 12 o0 2) 1) 14 o0 ((mup μ 13 o0 (μ 12 o0 2) 1) 12 o0 2) x1) 12 o0 2) + 1)))))
                else
                Q none μ)
              else
              Q none μ)))
        else
        (if (μ 12 o0 2) < 0 then
          Q none μ
          else
          (if (μ 12 o0 2) < 16 then
            (if (μ 12 o0 2) < 16 then
              ((0 ≤ (μ 12 o0 2) ∧ (μ 12 o0 2) < 16) ∧ ((0 ≤ ((mup μ 13 o0 (μ 12 o0 2) 1) 12 o0 2) ∧ ((mup μ 13 o0 (μ 12 o0 2) 1) 12 o0 2) < 16) ∧ (zin (((mup (mup μ 13 o0 (μ 12 o0 2) 1) 14 o0 ((mup μ 13 o0 (μ 12 o0 2) 1) 12 o0 2) x1) 12 o0 2) + 1) ∧ Q none (mup (mup (mup μ 13 o0 (μ 12 o0 2) 1) 14 o0 ((mup μ 13 o0 (μ 12 o0 2) 1) 12 o0 2) x1) 12 o0 2 (((mup (mup μ 13 o0 (μ 12 o0 2) 1) 14 o0 ((mup μ 13 o0 (μ 12 o0 2) 1) 12 o0 2) x1) 12 o0 2) + 1)))))
              else
              Q none μ)
            else
            Q none μ))))
      else
      (if (μ 12 o0 2) < 0 then
        Q none μ
        else
        (if (μ 12 o0 2) < 16 then
          (if (μ 12 o0 2) < 16 then
            ((0 ≤ (μ 12 o0 2) ∧ (μ 12 o0 2) < 16) ∧ ((0 ≤ ((mup μ 13 o0 (μ 12 o0 2) 1) 12 o0 2) ∧ ((mup μ 13 o0 (μ 12 o0 2) 1) 12 o0 2) < 16) ∧ (zin (((mup (mup μ 13 o0 (μ 12 o0 2) 1) 14 o0 ((mup μ 13 o0 (μ 12 o0 2) 1) 12 o0 2) x1) 12 o0 2) + 1) ∧ Q none (mup (mup (mup μ 13 o0 (μ 12 o0 2) 1) 14 o0 ((mup μ 13 o0 (μ 12 o0 2) 1) 12 o0 2) x1) 12 o0 2 (((mup (mup μ 13 o0 (μ 12 o0 2) 1) 14 o0 ((mup μ 13 o0 (μ 12 o0 2) 1) 12 o0 2) x1) 12 o0 2) + 1)))))
            else
            Q none μ)
          else
          Q none μ)))))) :
    ZW f_X4_addCell 0 [vR 12 o0, vI x1, none, none] [] μ Q := mvc_at zcd zml (C := zc25) rfl 77 0 h
theorem vc_X6_take_0 {μ : mzM} {Q : Option mzV → mzM → Prop} {o0 o1 : Int} (h :
    ZV f_X2_take [vR 3 (78 + o0), vR 3 (78 + o1)] μ (fun ν1 =>
    ZW f_X6_take 23 [vR 1 o0, vR 1 o1, vI 0] [] (mup (mup (mup (mup ν1 1 o0 3 (ν1 1 o1 3)) 1 o0 4 ((mup ν1 1 o0 3 (ν1 1 o1 3)) 1 o1 4)) 1 o0 5 ((mup (mup ν1 1 o0 3 (ν1 1 o1 3)) 1 o0 4 ((mup ν1 1 o0 3 (ν1 1 o1 3)) 1 o1 4)) 1 o1 5)) 1 o0 6 ((mup (mup (mup ν1 1 o0 3 (ν1 1 o1 3)) 1 o0 4 ((mup ν1 1 o0 3 (ν1 1 o1 3)) 1 o1 4)) 1 o0 5 ((mup (mup ν1 1 o0 3 (ν1 1 o1 3)) 1 o0 4 ((mup ν1 1 o0 3 (ν1 1 o1 3)) 1 o1 4)) 1 o1 5)) 1 o1 6)) Q)) :
    ZW f_X6_take 0 [vR 1 o0, vR 1 o1, none] [] μ Q := mvc_at zcd zml (C := zc26) rfl 42 0 h
theorem vc_X6_take_23 {μ : mzM} {Q : Option mzV → mzM → Prop} {o0 o1 x2 : Int} (h :
    (if x2 < (μ 1 o0 3) then
    ZR f_X6_frameAt 2 [vR 1 o0, vI x2] μ (fun r2 ν1 =>
      ZR f_X6_frameAt 2 [vR 1 o1, vI x2] ν1 (fun r4 ν3 =>
      ZV f_X1_take [vR 2 r2, vR 2 r4] ν3 (fun ν5 =>
      (zin (x2 + 1) ∧ ZW f_X6_take 23 [vR 1 o0, vR 1 o1, vI (x2 + 1)] [] ν5 Q))))
    else
    Q none μ)) :
    ZW f_X6_take 23 [vR 1 o0, vR 1 o1, vI x2] [] μ Q := mvc_at zcd zml (C := zc26) rfl 42 23 h
theorem vc_X6_frameAt_0 {μ : mzM} {Q : Option mzV → mzM → Prop} {o0 x1 : Int} (h :
    (if x1 < 0 then
    Q (some (vR 2 (11 * o0 + 10))) μ
    else
    (if x1 < 10 then
      ((0 ≤ x1 ∧ x1 < 10) ∧ Q (some (vR 2 (11 * o0 + x1))) μ)
      else
      Q (some (vR 2 (11 * o0 + 10))) μ))) :
    ZW f_X6_frameAt 0 [vR 1 o0, vI x1] [] μ Q := mvc_at zcd zml (C := zc27) rfl 20 0 h
theorem vc_X6_isFrame_0 {μ : mzM} {Q : Option mzV → mzM → Prop} {o0 x1 : Int} (h :
    (if x1 < 0 then
    Q (some (vI 0)) μ
    else
    (if x1 < (μ 1 o0 3) then
      Q (some (vI 1)) μ
      else
      Q (some (vI 0)) μ))) :
    ZW f_X6_isFrame 0 [vR 1 o0, vI x1] [] μ Q := mvc_at zcd zml (C := zc28) rfl 15 0 h
theorem vc_X6_isImage_0 {μ : mzM} {Q : Option mzV → mzM → Prop} {o0 x1 : Int} (h :
    (if x1 = (-1) then
    Q (some (vI 1)) μ
    else
    ZI f_X6_isFrame [vR 1 o0, vI x1] μ (fun r2 ν1 =>
      (if r2 = 0 then
      Q (some (vI 0)) ν1
      else
      Q (some (vI 1)) ν1)))) :
    ZW f_X6_isImage 0 [vR 1 o0, vI x1] [] μ Q := mvc_at zcd zml (C := zc29) rfl 16 0 h
theorem vc_X6_imageOf_0 {μ : mzM} {Q : Option mzV → mzM → Prop} {o0 x1 : Int} (h :
    (if x1 = (-1) then
    Q (some (vR 3 (78 + o0))) μ
    else
    ZR f_X6_frameAt 2 [vR 1 o0, vI x1] μ (fun r2 ν1 =>
      Q (some (vR 3 r2)) ν1))) :
    ZW f_X6_imageOf 0 [vR 1 o0, vI x1] [] μ Q := mvc_at zcd zml (C := zc30) rfl 16 0 h
theorem vc_X6_isReadable_0 {μ : mzM} {Q : Option mzV → mzM → Prop} {o0 x1 : Int} (h :
    ZW f_X6_isReadable 4 [vR 1 o0, vI x1, vI x1, vI 0] [] μ Q) :
    ZW f_X6_isReadable 0 [vR 1 o0, vI x1, none, none] [] μ Q := mvc_at zcd zml (C := zc31) rfl 30 0 h
theorem vc_X6_isReadable_4 {μ : mzM} {Q : Option mzV → mzM → Prop} {o0 x1 x2 x3 : Int} (h :
    (if x3 < 10 then
    (if x2 < 0 then
      Q (some (vI 1)) μ
      else
      ZR f_X6_frameAt 2 [vR 1 o0, vI x2] μ (fun r2 ν1 =>
        (if (ν1 2 r2 4) = 0 then
        ZR f_X6_frameAt 2 [vR 1 o0, vI x2] ν1 (fun r4 ν3 =>
          (zin (x3 + 1) ∧ ZW f_X6_isReadable 4 [vR 1 o0, vI x1, vI (ν3 2 r4 2), vI (x3 + 1)] [] ν3 Q))
        else
        Q (some (vI 0)) ν1)))
    else
    Q (some (vI 1)) μ)) :
    ZW f_X6_isReadable 4 [vR 1 o0, vI x1, vI x2, vI x3] [] μ Q := mvc_at zcd zml (C := zc31) rfl 30 4 h
theorem vc_X6_mayBeReference_0 {μ : mzM} {Q : Option mzV → mzM → Prop} {o0 x1 : Int} (h :
    ZI f_X6_isReadable [vR 1 o0, vI x1] μ (fun r2 ν1 =>
    (if r2 = 0 then
    Q (some (vI 0)) ν1
    else
    ZI f_X6_depthOf [vR 1 o0, vI x1] ν1 (fun r4 ν3 =>
      (if r4 < (ν3 1 o0 5) then
      Q (some (vI 1)) ν3
      else
      Q (some (vI 0)) ν3))))) :
    ZW f_X6_mayBeReference 0 [vR 1 o0, vI x1] [] μ Q := mvc_at zcd zml (C := zc32) rfl 19 0 h
theorem vc_X6_depthOf_0 {μ : mzM} {Q : Option mzV → mzM → Prop} {o0 x1 : Int} (h :
    ZR f_X6_frameAt 2 [vR 1 o0, vI x1] μ (fun r2 ν1 =>
    ZW f_X6_depthOf 9 [vR 1 o0, vI x1, vI 0, vI (ν1 2 r2 2), vI 0] [] ν1 Q)) :
    ZW f_X6_depthOf 0 [vR 1 o0, vI x1, none, none, none] [] μ Q := mvc_at zcd zml (C := zc33) rfl 29 0 h
theorem vc_X6_depthOf_9 {μ : mzM} {Q : Option mzV → mzM → Prop} {o0 x1 x2 x3 x4 : Int} (h :
    (if x4 < 10 then
    (if x3 < 0 then
      Q (some (vI x2)) μ
      else
      (zin (x2 + 1) ∧ ZR f_X6_frameAt 2 [vR 1 o0, vI x3] μ (fun r2 ν1 =>
        (zin (x4 + 1) ∧ ZW f_X6_depthOf 9 [vR 1 o0, vI x1, vI (x2 + 1), vI (ν1 2 r2 2), vI (x4 + 1)] [] ν1 Q))))
    else
    Q (some (vI x2)) μ)) :
    ZW f_X6_depthOf 9 [vR 1 o0, vI x1, vI x2, vI x3, vI x4] [] μ Q := mvc_at zcd zml (C := zc33) rfl 29 9 h
theorem vc_X6_seekCost_0 {μ : mzM} {Q : Option mzV → mzM → Prop} {o0 x1 : Int} (h :
    ZW f_X6_seekCost 6 [vR 1 o0, vI x1, vI 0, vI x1, vI 0] [] μ Q) :
    ZW f_X6_seekCost 0 [vR 1 o0, vI x1, none, none, none] [] μ Q := mvc_at zcd zml (C := zc34) rfl 32 0 h
theorem vc_X6_seekCost_6 {μ : mzM} {Q : Option mzV → mzM → Prop} {o0 x1 x2 x3 x4 : Int} (h :
    (if x4 < 10 then
    (if x3 < 0 then
      Q (some (vI x2)) μ
      else
      ZR f_X6_frameAt 2 [vR 1 o0, vI x3] μ (fun r2 ν1 =>
        (zin (x2 + (ν1 2 r2 3)) ∧ ZR f_X6_frameAt 2 [vR 1 o0, vI x3] ν1 (fun r4 ν3 =>
        (zin (x4 + 1) ∧ ZW f_X6_seekCost 6 [vR 1 o0, vI x1, vI (x2 + (ν1 2 r2 3)), vI (ν3 2 r4 2), vI (x4 + 1)] [] ν3 Q)))))
    else
    Q (some (vI x2)) μ)) :
    ZW f_X6_seekCost 6 [vR 1 o0, vI x1, vI x2, vI x3, vI x4] [] μ Q := mvc_at zcd zml (C := zc34) rfl 32 6 h
theorem vc_X6_chainHas_0 {μ : mzM} {Q : Option mzV → mzM → Prop} {o0 x1 x2 : Int} (h :
    ZW f_X6_chainHas 4 [vR 1 o0, vI x1, vI x2, vI x1, vI 0] [] μ Q) :
    ZW f_X6_chainHas 0 [vR 1 o0, vI x1, vI x2, none, none] [] μ Q := mvc_at zcd zml (C := zc35) rfl 28 0 h
theorem vc_X6_chainHas_4 {μ : mzM} {Q : Option mzV → mzM → Prop} {o0 x1 x2 x3 x4 : Int} (h :
    (if x4 < 10 then
    (if x3 < 0 then
      Q (some (vI 0)) μ
      else
      (if x3 = x2 then
        Q (some (vI 1)) μ
        else
        ZR f_X6_frameAt 2 [vR 1 o0, vI x3] μ (fun r2 ν1 =>
          (zin (x4 + 1) ∧ ZW f_X6_chainHas 4 [vR 1 o0, vI x1, vI x2, vI (ν1 2 r2 2), vI (x4 + 1)] [] ν1 Q))))
    else
    Q (some (vI 0)) μ)) :
    ZW f_X6_chainHas 4 [vR 1 o0, vI x1, vI x2, vI x3, vI x4] [] μ Q := mvc_at zcd zml (C := zc35) rfl 28 4 h
theorem vc_X6_readableFrames_0 {μ : mzM} {Q : Option mzV → mzM → Prop} {o0 : Int} (h :
    ZW f_X6_readableFrames 4 [vR 1 o0, vI 0, vI 0] [] μ Q) :
    ZW f_X6_readableFrames 0 [vR 1 o0, none, none] [] μ Q := mvc_at zcd zml (C := zc36) rfl 22 0 h
theorem vc_X6_readableFrames_4 {μ : mzM} {Q : Option mzV → mzM → Prop} {o0 x1 x2 : Int} (h :
    (if x2 < (μ 1 o0 3) then
    ZI f_X6_isReadable [vR 1 o0, vI x2] μ (fun r2 ν1 =>
      (if r2 = 0 then
      (zin (x2 + 1) ∧ ZW f_X6_readableFrames 4 [vR 1 o0, vI x1, vI (x2 + 1)] [] ν1 Q)
      else
      (zin (x1 + 1) ∧ (zin (x2 + 1) ∧ ZW f_X6_readableFrames 4 [vR 1 o0, vI (x1 + 1), vI (x2 + 1)] [] ν1 Q))))
    else
    Q (some (vI x1)) μ)) :
    ZW f_X6_readableFrames 4 [vR 1 o0, vI x1, vI x2] [] μ Q := mvc_at zcd zml (C := zc36) rfl 22 4 h
theorem vc_X6_costOfRecords_0 {μ : mzM} {Q : Option mzV → mzM → Prop} {o0 : Int} (h :
    ZW f_X6_costOfRecords 4 [vR 1 o0, vI 0, vI 0] [] μ Q) :
    ZW f_X6_costOfRecords 0 [vR 1 o0, none, none] [] μ Q := mvc_at zcd zml (C := zc37) rfl 24 0 h
theorem vc_X6_costOfRecords_4 {μ : mzM} {Q : Option mzV → mzM → Prop} {o0 x1 x2 : Int} (h :
    (if x2 < (μ 1 o0 3) then
    ZR f_X6_frameAt 2 [vR 1 o0, vI x2] μ (fun r2 ν1 =>
      (zin (x1 + (ν1 2 r2 3)) ∧ (zin (x2 + 1) ∧ ZW f_X6_costOfRecords 4 [vR 1 o0, vI (x1 + (ν1 2 r2 3)), vI (x2 + 1)] [] ν1 Q)))
    else
    Q (some (vI x1)) μ)) :
    ZW f_X6_costOfRecords 4 [vR 1 o0, vI x1, vI x2] [] μ Q := mvc_at zcd zml (C := zc37) rfl 24 4 h
theorem vc_X7_setSize_0 {μ : mzM} {Q : Option mzV → mzM → Prop} {o0 x1 x2 : Int} (h :
    ZI f_X7_isSize [vI x1] μ (fun r2 ν1 =>
    (if r2 = 0 then
    Q (some (vI (-1))) ν1
    else
    ZI f_X7_isSize [vI x2] ν1 (fun r4 ν3 =>
      (if r4 = 0 then
      Q (some (vI (-1))) ν3
      else
      ZV f_X7_save [vR 0 o0] ν3 (fun ν5 =>
        ZV f_X2_reset [vR 3 78, vI x1, vI x2] (mup ν5 1 0 3 0) (fun ν6 =>
        ZI f_X2_blocks [vR 3 78] ν6 (fun r8 ν7 =>
        Q (some (vI r8)) ν7)))))))) :
    ZW f_X7_setSize 0 [vR 0 o0, vI x1, vI x2] [] μ Q := mvc_at zcd zml (C := zc38) rfl 30 0 h
theorem vc_X7_setCell_0 {μ : mzM} {Q : Option mzV → mzM → Prop} {o0 x1 x2 : Int} (h :
    ZI f_X2_hasCell [vR 3 78, vI x1] μ (fun r2 ν1 =>
    (if r2 = 0 then
    Q (some (vI (-1))) ν1
    else
    (if x2 < 0 then
      Q (some (vI (-1))) ν1
      else
      (if (15 : Int) < x2 then
        Q (some (vI (-1))) ν1
        else
        ZV f_X7_save [vR 0 o0] ν1 (fun ν3 =>
          ZI f_X2_numbered [vR 3 78, vI x1] ν3 (fun r5 ν4 =>
          ZV f_X2_putNumbered [vR 3 78, vI x1, vI x2] ν4 (fun ν6 =>
          Q (some (vI r5)) ν6)))))))) :
    ZW f_X7_setCell 0 [vR 0 o0, vI x1, vI x2, none] [] μ Q := mvc_at zcd zml (C := zc39) rfl 34 0 h
theorem vc_X7_cell_0 {μ : mzM} {Q : Option mzV → mzM → Prop} {o0 x1 : Int} (h :
    ZI f_X2_hasCell [vR 3 78, vI x1] μ (fun r2 ν1 =>
    (if r2 = 0 then
    Q (some (vI (-1))) ν1
    else
    ZI f_X2_numbered [vR 3 78, vI x1] ν1 (fun r4 ν3 =>
      Q (some (vI r4)) ν3)))) :
    ZW f_X7_cell 0 [vR 0 o0, vI x1] [] μ Q := mvc_at zcd zml (C := zc40) rfl 19 0 h
theorem vc_X7_addKey_0 {μ : mzM} {Q : Option mzV → mzM → Prop} {o0 : Int} (h :
    (if (μ 1 0 3) < 10 then
    ZI f_X7_add [vR 0 o0, vI (-1)] μ (fun r2 ν1 =>
      Q (some (vI r2)) ν1)
    else
    Q (some (vI (-3))) μ)) :
    ZW f_X7_addKey 0 [vR 0 o0] [] μ Q := mvc_at zcd zml (C := zc41) rfl 16 0 h
theorem vc_X7_addDelta_0 {μ : mzM} {Q : Option mzV → mzM → Prop} {o0 x1 : Int} (h :
    ZI f_X6_isFrame [vR 1 0, vI x1] μ (fun r2 ν1 =>
    (if r2 = 0 then
    Q (some (vI (-1))) ν1
    else
    ZI f_X6_mayBeReference [vR 1 0, vI x1] ν1 (fun r4 ν3 =>
      (if r4 = 0 then
      Q (some (vI (-2))) ν3
      else
      (if (ν3 1 0 3) < 10 then
        ZI f_X7_add [vR 0 o0, vI x1] ν3 (fun r6 ν5 =>
          Q (some (vI r6)) ν5)
        else
        Q (some (vI (-3))) ν3)))))) :
    ZW f_X7_addDelta 0 [vR 0 o0, vI x1] [] μ Q := mvc_at zcd zml (C := zc42) rfl 30 0 h
theorem vc_X7_addChosen_0 {μ : mzM} {Q : Option mzV → mzM → Prop} {o0 : Int} (h :
    (if (μ 1 0 3) < 10 then
    ZI f_X7_chosenReference [vR 0 o0] μ (fun r2 ν1 =>
      ZI f_X7_add [vR 0 o0, vI r2] ν1 (fun r4 ν3 =>
      Q (some (vI r4)) ν3))
    else
    Q (some (vI (-3))) μ)) :
    ZW f_X7_addChosen 0 [vR 0 o0] [] μ Q := mvc_at zcd zml (C := zc43) rfl 17 0 h
theorem vc_X7_removeLast_0 {μ : mzM} {Q : Option mzV → mzM → Prop} {o0 : Int} (h :
    (if (μ 1 0 3) < 1 then
    Q (some (vI (-2))) μ
    else
    ZV f_X7_save [vR 0 o0] μ (fun ν1 =>
      (zin ((ν1 1 0 3) - 1) ∧ Q (some (vI ((mup ν1 1 0 3 ((ν1 1 0 3) - 1)) 1 0 3))) (mup ν1 1 0 3 ((ν1 1 0 3) - 1)))))) :
    ZW f_X7_removeLast 0 [vR 0 o0] [] μ Q := mvc_at zcd zml (C := zc44) rfl 25 0 h
theorem vc_X7_recode_0 {μ : mzM} {Q : Option mzV → mzM → Prop} {o0 : Int} (h :
    (if (μ 1 0 3) < 1 then
    Q (some (vI (-2))) μ
    else
    ZV f_X7_save [vR 0 o0] μ (fun ν1 =>
      ZV f_X3_plan [vR 15 0, vR 1 0, vR 11 0, vR 2 77] ν1 (fun ν2 =>
      ZW f_X7_recode 20 [vR 0 o0, vI 0] [] ν2 Q)))) :
    ZW f_X7_recode 0 [vR 0 o0, none] [] μ Q := mvc_at zcd zml (C := zc45) rfl 49 0 h
theorem vc_X7_recode_20 {μ : mzM} {Q : Option mzV → mzM → Prop} {o0 x1 : Int} (h :
    (if x1 < (μ 1 0 3) then
    ZR f_X6_frameAt 2 [vR 1 0, vI x1] μ (fun r2 ν1 =>
      ZI f_X3_referenceOf [vR 15 0, vI x1] ν1 (fun r4 ν3 =>
      ZV f_X0_encode [vR 11 0, vR 2 r2, vR 1 0, vI r4] ν3 (fun ν5 =>
      (zin (x1 + 1) ∧ ZW f_X7_recode 20 [vR 0 o0, vI (x1 + 1)] [] ν5 Q))))
    else
    Q (some (vI (μ 15 0 2))) μ)) :
    ZW f_X7_recode 20 [vR 0 o0, vI x1] [] μ Q := mvc_at zcd zml (C := zc45) rfl 49 20 h
theorem vc_X7_setLimits_0 {μ : mzM} {Q : Option mzV → mzM → Prop} {o0 x1 x2 x3 : Int} (h :
    (if x1 < 0 then
    Q (some (vI (-1))) μ
    else
    (if (4 : Int) < x1 then
      Q (some (vI (-1))) μ
      else
      (if x2 < 0 then
        Q (some (vI (-1))) μ
        else
        (if (9 : Int) < x2 then
          Q (some (vI (-1))) μ
          else
          (if x3 < 0 then
            Q (some (vI (-1))) μ
            else
            (if (9 : Int) < x3 then
              Q (some (vI (-1))) μ
              else
              ZV f_X7_save [vR 0 o0] μ (fun ν1 =>
                (if (ν1 1 0 4) = x1 then
                (if (ν1 1 0 5) = x2 then
                  (if (ν1 1 0 6) = x3 then
                    Q (some (vI 0)) (mup (mup (mup ν1 1 0 4 x1) 1 0 5 x2) 1 0 6 x3)
                    else
                    Q (some (vI 1)) (mup (mup (mup ν1 1 0 4 x1) 1 0 5 x2) 1 0 6 x3))
                  else
                  Q (some (vI 1)) (mup (mup (mup ν1 1 0 4 x1) 1 0 5 x2) 1 0 6 x3))
                else
                Q (some (vI 1)) (mup (mup (mup ν1 1 0 4 x1) 1 0 5 x2) 1 0 6 x3)))))))))) :
    ZW f_X7_setLimits 0 [vR 0 o0, vI x1, vI x2, vI x3, none] [] μ Q := mvc_at zcd zml (C := zc46) rfl 63 0 h
theorem vc_X7_setLost_0 {μ : mzM} {Q : Option mzV → mzM → Prop} {o0 x1 x2 : Int} (h :
    ZI f_X6_isFrame [vR 1 0, vI x1] μ (fun r2 ν1 =>
    (if r2 = 0 then
    Q (some (vI (-1))) ν1
    else
    (if x2 < 0 then
      Q (some (vI (-1))) ν1
      else
      (if (1 : Int) < x2 then
        Q (some (vI (-1))) ν1
        else
        (if x2 = 1 then
          ZR f_X6_frameAt 2 [vR 1 0, vI x1] ν1 (fun r4 ν3 =>
            (if (ν3 2 r4 4) = 1 then
            Q (some (vI (-2))) ν3
            else
            ZV f_X7_save [vR 0 o0] ν3 (fun ν5 =>
              ZR f_X6_frameAt 2 [vR 1 0, vI x1] ν5 (fun r7 ν6 =>
              (((1 : Int) = 0 ∨ (1 : Int) = 1) ∧ ZI f_X6_readableFrames [vR 1 0] (mup ν6 2 r7 4 1) (fun r9 ν8 =>
              Q (some (vI r9)) ν8))))))
          else
          ZR f_X6_frameAt 2 [vR 1 0, vI x1] ν1 (fun r11 ν10 =>
            (if (ν10 2 r11 4) = 0 then
            Q (some (vI (-2))) ν10
            else
            ZV f_X7_save [vR 0 o0] ν10 (fun ν12 =>
              ZR f_X6_frameAt 2 [vR 1 0, vI x1] ν12 (fun r14 ν13 =>
              (((0 : Int) = 0 ∨ (0 : Int) = 1) ∧ ZI f_X6_readableFrames [vR 1 0] (mup ν13 2 r14 4 0) (fun r16 ν15 =>
              Q (some (vI r16)) ν15)))))))))))) :
    ZW f_X7_setLost 0 [vR 0 o0, vI x1, vI x2, none] [] μ Q := mvc_at zcd zml (C := zc47) rfl 45 0 h
theorem vc_X7_frame_0 {μ : mzM} {Q : Option mzV → mzM → Prop} {o0 x1 x2 : Int} (h :
    ZI f_X6_isFrame [vR 1 0, vI x1] μ (fun r2 ν1 =>
    (if r2 = 0 then
    Q (some (vI (-1))) ν1
    else
    ZR f_X6_frameAt 2 [vR 1 0, vI x1] ν1 (fun r4 ν3 =>
      (if x2 = 0 then
      (if (ν3 2 r4 2) = (-1) then
        Q (some (vI (-9))) ν3
        else
        Q (some (vI (ν3 2 r4 2))) ν3)
      else
      (if x2 = 1 then
      Q (some (vI (ν3 2 r4 3))) ν3
      else
      (if x2 = 2 then
      ZI f_X6_seekCost [vR 1 0, vI x1] ν3 (fun r6 ν5 =>
        Q (some (vI r6)) ν5)
      else
      (if x2 = 3 then
      ZI f_X6_depthOf [vR 1 0, vI x1] ν3 (fun r8 ν7 =>
        Q (some (vI r8)) ν7)
      else
      (if x2 = 4 then
      ZI f_X6_isReadable [vR 1 0, vI x1] ν3 (fun r10 ν9 =>
        (if r10 = 0 then
        Q (some (vI 0)) ν9
        else
        Q (some (vI 1)) ν9))
      else
      (if x2 = 5 then
      ZI f_X1_codesOfKind [vR 2 r4, vI 0] ν3 (fun r12 ν11 =>
        Q (some (vI r12)) ν11)
      else
      (if x2 = 6 then
      ZI f_X1_codesOfKind [vR 2 r4, vI 1] ν3 (fun r14 ν13 =>
        Q (some (vI r14)) ν13)
      else
      (if x2 = 7 then
      ZI f_X1_codesOfKind [vR 2 r4, vI 2] ν3 (fun r16 ν15 =>
        Q (some (vI r16)) ν15)
      else
      (if x2 = 8 then
      ZI f_X1_codesOfKind [vR 2 r4, vI 3] ν3 (fun r18 ν17 =>
        Q (some (vI r18)) ν17)
      else
      Q (some (vI (-1))) ν3))))))))))))) :
    ZW f_X7_frame 0 [vR 0 o0, vI x1, vI x2, none] [] μ Q := mvc_at zcd zml (C := zc48) rfl 68 0 h
theorem vc_X7_pixel_0 {μ : mzM} {Q : Option mzV → mzM → Prop} {o0 x1 x2 : Int} (h :
    ZI f_X6_isFrame [vR 1 0, vI x1] μ (fun r2 ν1 =>
    (if r2 = 0 then
    Q (some (vI (-1))) ν1
    else
    ZI f_X2_hasCell [vR 3 78, vI x2] ν1 (fun r4 ν3 =>
      (if r4 = 0 then
      Q (some (vI (-1))) ν3
      else
      ZI f_X6_isReadable [vR 1 0, vI x1] ν3 (fun r6 ν5 =>
        (if r6 = 0 then
        Q (some (vI (-2))) ν5
        else
        ZR f_X6_imageOf 3 [vR 1 0, vI x1] ν5 (fun r8 ν7 =>
          ZI f_X2_numbered [vR 3 r8, vI x2] ν7 (fun r10 ν9 =>
          Q (some (vI r10)) ν9))))))))) :
    ZW f_X7_pixel 0 [vR 0 o0, vI x1, vI x2] [] μ Q := mvc_at zcd zml (C := zc49) rfl 32 0 h
theorem vc_X7_count_0 {μ : mzM} {Q : Option mzV → mzM → Prop} {o0 x1 : Int} (h :
    (if x1 = 0 then
    Q (some (vI (μ 3 78 1))) μ
    else
    (if x1 = 1 then
    Q (some (vI (μ 3 78 2))) μ
    else
    (if x1 = 2 then
    Q (some (vI (μ 1 0 3))) μ
    else
    (if x1 = 3 then
    Q (some (vI (μ 1 0 4))) μ
    else
    (if x1 = 4 then
    Q (some (vI (μ 1 0 5))) μ
    else
    (if x1 = 5 then
    Q (some (vI (μ 1 0 6))) μ
    else
    (if x1 = 6 then
    ZI f_X6_costOfRecords [vR 1 0] μ (fun r2 ν1 =>
      Q (some (vI r2)) ν1)
    else
    (if x1 = 7 then
    ZI f_X6_readableFrames [vR 1 0] μ (fun r4 ν3 =>
      Q (some (vI r4)) ν3)
    else
    (if x1 = 8 then
    Q (some (vI (μ 8 0 1))) μ
    else
    (if x1 = 9 then
    Q (some (vI (μ 0 o0 3))) μ
    else
    Q (some (vI (-1))) μ))))))))))) :
    ZW f_X7_count 0 [vR 0 o0, vI x1] [] μ Q := mvc_at zcd zml (C := zc50) rfl 50 0 h
theorem vc_X7_costWith_0 {μ : mzM} {Q : Option mzV → mzM → Prop} {o0 x1 : Int} (h :
    ZI f_X6_isImage [vR 1 0, vI x1] μ (fun r2 ν1 =>
    (if r2 = 0 then
    Q (some (vI (-1))) ν1
    else
    ZI f_X6_isReadable [vR 1 0, vI x1] ν1 (fun r4 ν3 =>
      (if r4 = 0 then
      Q (some (vI (-2))) ν3
      else
      ZI f_X7_costOfCanvas [vR 0 o0, vI x1] ν3 (fun r6 ν5 =>
        Q (some (vI r6)) ν5)))))) :
    ZW f_X7_costWith 0 [vR 0 o0, vI x1] [] μ Q := mvc_at zcd zml (C := zc51) rfl 23 0 h
theorem vc_X7_difference_0 {μ : mzM} {Q : Option mzV → mzM → Prop} {o0 x1 x2 : Int} (h :
    ZI f_X6_isImage [vR 1 0, vI x1] μ (fun r2 ν1 =>
    (if r2 = 0 then
    Q (some (vI (-1))) ν1
    else
    ZI f_X6_isImage [vR 1 0, vI x2] ν1 (fun r4 ν3 =>
      (if r4 = 0 then
      Q (some (vI (-1))) ν3
      else
      ZI f_X6_isReadable [vR 1 0, vI x1] ν3 (fun r6 ν5 =>
        (if r6 = 0 then
        Q (some (vI (-2))) ν5
        else
        ZI f_X6_isReadable [vR 1 0, vI x2] ν5 (fun r8 ν7 =>
          (if r8 = 0 then
          Q (some (vI (-2))) ν7
          else
          ZR f_X6_imageOf 3 [vR 1 0, vI x1] ν7 (fun r10 ν9 =>
            ZR f_X6_imageOf 3 [vR 1 0, vI x2] ν9 (fun r12 ν11 =>
            ZI f_X2_cellsUnlike [vR 3 r10, vR 3 r12] ν11 (fun r14 ν13 =>
            Q (some (vI r14)) ν13)))))))))))) :
    ZW f_X7_difference 0 [vR 0 o0, vI x1, vI x2] [] μ Q := mvc_at zcd zml (C := zc52) rfl 39 0 h
theorem vc_X7_greatestSeek_0 {μ : mzM} {Q : Option mzV → mzM → Prop} {o0 : Int} (h :
    (if (μ 1 0 3) < 1 then
    Q (some (vI (-9))) μ
    else
    ZW f_X7_greatestSeek 11 [vR 0 o0, vI 0, vI 0] [] μ Q)) :
    ZW f_X7_greatestSeek 0 [vR 0 o0, none, none] [] μ Q := mvc_at zcd zml (C := zc53) rfl 32 0 h
theorem vc_X7_greatestSeek_11 {μ : mzM} {Q : Option mzV → mzM → Prop} {o0 x1 x2 : Int} (h :
    (if x2 < (μ 1 0 3) then
    ZI f_X6_seekCost [vR 1 0, vI x2] μ (fun r2 ν1 =>
      ZI f_J9_max_7cf53 [vI x1, vI r2] ν1 (fun r4 ν3 =>
      (zin (x2 + 1) ∧ ZW f_X7_greatestSeek 11 [vR 0 o0, vI r4, vI (x2 + 1)] [] ν3 Q)))
    else
    Q (some (vI x1)) μ)) :
    ZW f_X7_greatestSeek 11 [vR 0 o0, vI x1, vI x2] [] μ Q := mvc_at zcd zml (C := zc53) rfl 32 11 h
theorem vc_X7_dependents_0 {μ : mzM} {Q : Option mzV → mzM → Prop} {o0 x1 : Int} (h :
    ZI f_X6_isFrame [vR 1 0, vI x1] μ (fun r2 ν1 =>
    (if r2 = 0 then
    Q (some (vI (-1))) ν1
    else
    ZW f_X7_dependents 11 [vR 0 o0, vI x1, vI 0, vI 0] [] ν1 Q))) :
    ZW f_X7_dependents 0 [vR 0 o0, vI x1, none, none] [] μ Q := mvc_at zcd zml (C := zc54) rfl 32 0 h
theorem vc_X7_dependents_11 {μ : mzM} {Q : Option mzV → mzM → Prop} {o0 x1 x2 x3 : Int} (h :
    (if x3 < (μ 1 0 3) then
    ZI f_X6_chainHas [vR 1 0, vI x3, vI x1] μ (fun r2 ν1 =>
      (if r2 = 0 then
      (zin (x3 + 1) ∧ ZW f_X7_dependents 11 [vR 0 o0, vI x1, vI x2, vI (x3 + 1)] [] ν1 Q)
      else
      (zin (x2 + 1) ∧ (zin (x3 + 1) ∧ ZW f_X7_dependents 11 [vR 0 o0, vI x1, vI (x2 + 1), vI (x3 + 1)] [] ν1 Q))))
    else
    Q (some (vI x2)) μ)) :
    ZW f_X7_dependents 11 [vR 0 o0, vI x1, vI x2, vI x3] [] μ Q := mvc_at zcd zml (C := zc54) rfl 32 11 h
theorem vc_X7_planCost_0 {μ : mzM} {Q : Option mzV → mzM → Prop} {o0 : Int} (h :
    (if (μ 1 0 3) < 1 then
    Q (some (vI (-9))) μ
    else
    ZV f_X3_plan [vR 15 0, vR 1 0, vR 11 0, vR 2 77] μ (fun ν1 =>
      Q (some (vI (ν1 15 0 2))) ν1))) :
    ZW f_X7_planCost 0 [vR 0 o0] [] μ Q := mvc_at zcd zml (C := zc55) rfl 25 0 h
theorem vc_X7_undo_0 {μ : mzM} {Q : Option mzV → mzM → Prop} {o0 : Int} (h :
    (if (μ 0 o0 3) < 1 then
    Q (some (vI (-2))) μ
    else
    (zin ((μ 0 o0 3) - 1) ∧ ZR f_X7_savedSlot 1 [vR 0 o0, vI ((mup μ 0 o0 3 ((μ 0 o0 3) - 1)) 0 o0 3)] (mup μ 0 o0 3 ((μ 0 o0 3) - 1)) (fun r2 ν1 =>
      ZV f_X6_take [vR 1 0, vR 1 r2] ν1 (fun ν3 =>
      Q (some (vI (ν3 0 o0 3))) ν3))))) :
    ZW f_X7_undo 0 [vR 0 o0] [] μ Q := mvc_at zcd zml (C := zc56) rfl 27 0 h
theorem vc_X7_isSize_0 {μ : mzM} {Q : Option mzV → mzM → Prop} {x0 : Int} (h :
    (if x0 = 4 then
    Q (some (vI 1)) μ
    else
    (if x0 = 8 then
      Q (some (vI 1)) μ
      else
      (if x0 = 12 then
        Q (some (vI 1)) μ
        else
        Q (some (vI 0)) μ)))) :
    ZW f_X7_isSize 0 [vI x0] [] μ Q := mvc_at zcd zml (C := zc57) rfl 18 0 h
theorem vc_X7_save_0 {μ : mzM} {Q : Option mzV → mzM → Prop} {o0 : Int} (h :
    ZR f_X7_savedSlot 1 [vR 0 o0, vI (μ 0 o0 3)] μ (fun r2 ν1 =>
    ZV f_X6_take [vR 1 r2, vR 1 0] ν1 (fun ν3 =>
    (if (ν3 0 o0 3) < 6 then
    (zin ((ν3 0 o0 3) + 1) ∧ Q none (mup ν3 0 o0 3 ((ν3 0 o0 3) + 1)))
    else
    (zin ((ν3 0 o0 2) + 1) ∧ ((6 : Int) ≠ 0 ∧ Q none (mup ν3 0 o0 2 (Int.tmod ((ν3 0 o0 2) + 1) 6)))))))) :
    ZW f_X7_save 0 [vR 0 o0] [] μ Q := mvc_at zcd zml (C := zc58) rfl 32 0 h
theorem vc_X7_savedSlot_0 {μ : mzM} {Q : Option mzV → mzM → Prop} {o0 x1 : Int} (h :
    (zin ((μ 0 o0 2) + x1) ∧ ((6 : Int) ≠ 0 ∧ (if (Int.tmod ((μ 0 o0 2) + x1) 6) < 0 then
    Q (some (vR 1 0)) μ
    else
    (if (Int.tmod ((μ 0 o0 2) + x1) 6) < 6 then
      ((0 ≤ (Int.tmod ((μ 0 o0 2) + x1) 6) ∧ (Int.tmod ((μ 0 o0 2) + x1) 6) < 6) ∧ Q (some (vR 1 (1 + (Int.tmod ((μ 0 o0 2) + x1) 6)))) μ)
      else
      Q (some (vR 1 0)) μ))))) :
    ZW f_X7_savedSlot 0 [vR 0 o0, vI x1, none] [] μ Q := mvc_at zcd zml (C := zc59) rfl 27 0 h
theorem vc_X7_add_0 {μ : mzM} {Q : Option mzV → mzM → Prop} {o0 x1 : Int} (h :
    ZV f_X7_save [vR 0 o0] μ (fun ν1 =>
    ZR f_X6_frameAt 2 [vR 1 0, vI (ν1 1 0 3)] ν1 (fun r3 ν2 =>
    ZV f_X2_take [vR 3 r3, vR 3 78] ν2 (fun ν4 =>
    ZV f_X0_encode [vR 11 0, vR 2 r3, vR 1 0, vI x1] ν4 (fun ν5 =>
    (zin ((ν5 1 0 3) + 1) ∧ Q (some (vI ((mup ν5 1 0 3 ((ν5 1 0 3) + 1)) 2 r3 3))) (mup ν5 1 0 3 ((ν5 1 0 3) + 1)))))))) :
    ZW f_X7_add 0 [vR 0 o0, vI x1, none] [] μ Q := mvc_at zcd zml (C := zc60) rfl 37 0 h
theorem vc_X7_costOfCanvas_0 {μ : mzM} {Q : Option mzV → mzM → Prop} {o0 x1 : Int} (h :
    ZV f_X2_take [vR 3 77, vR 3 78] μ (fun ν1 =>
    ZV f_X0_encode [vR 11 0, vR 2 77, vR 1 0, vI x1] ν1 (fun ν2 =>
    Q (some (vI (ν2 2 77 3))) ν2))) :
    ZW f_X7_costOfCanvas 0 [vR 0 o0, vI x1] [] μ Q := mvc_at zcd zml (C := zc61) rfl 24 0 h
theorem vc_X7_chosenReference_0 {μ : mzM} {Q : Option mzV → mzM → Prop} {o0 : Int} (h :
    ZI f_X7_costOfCanvas [vR 0 o0, vI (-1)] μ (fun r2 ν1 =>
    ZW f_X7_chosenReference 10 [vR 0 o0, vI (-1), vI r2, vI 0, vI 0, none, none] [] ν1 Q)) :
    ZW f_X7_chosenReference 0 [vR 0 o0, none, none, none, none, none, none] [] μ Q := mvc_at zcd zml (C := zc62) rfl 56 0 h
theorem vc_X7_chosenReference_10 {μ : mzM} {Q : Option mzV → mzM → Prop} {o0 x1 x2 x3 x4 : Int} {v5 v6 : mzV} (h :
    (if x4 < (μ 1 0 3) then
    ZI f_X6_mayBeReference [vR 1 0, vI x4] μ (fun r2 ν1 =>
      (if r2 = 0 then
      (zin (x4 + 1) ∧ ZW f_X7_chosenReference 10 [vR 0 o0, vI x1, vI x2, vI x3, vI (x4 + 1), v5, v6] [] ν1 Q)
      else
      ZI f_X7_costOfCanvas [vR 0 o0, vI x4] ν1 (fun r4 ν3 =>
        ZI f_X6_depthOf [vR 1 0, vI x4] ν3 (fun r6 ν5 =>
        (zin (r6 + 1) ∧ (if r4 < x2 then
        (zin (x4 + 1) ∧ ZW f_X7_chosenReference 10 [vR 0 o0, vI x4, vI r4, vI (r6 + 1), vI (x4 + 1), vI r4, vI (r6 + 1)] [] ν5 Q)
        else
        (if r4 = x2 then
          (if x3 < (r6 + 1) then
            (zin (x4 + 1) ∧ ZW f_X7_chosenReference 10 [vR 0 o0, vI x1, vI x2, vI x3, vI (x4 + 1), vI r4, vI (r6 + 1)] [] ν5 Q)
            else
            (zin (x4 + 1) ∧ ZW f_X7_chosenReference 10 [vR 0 o0, vI x4, vI r4, vI (r6 + 1), vI (x4 + 1), vI r4, vI (r6 + 1)] [] ν5 Q))
          else
          (zin (x4 + 1) ∧ ZW f_X7_chosenReference 10 [vR 0 o0, vI x1, vI x2, vI x3, vI (x4 + 1), vI r4, vI (r6 + 1)] [] ν5 Q))))))))
    else
    Q (some (vI x1)) μ)) :
    ZW f_X7_chosenReference 10 [vR 0 o0, vI x1, vI x2, vI x3, vI x4, v5, v6] [] μ Q := mvc_at zcd zml (C := zc62) rfl 56 10 h
theorem vc_J6_bitCount_0f7a4_0 {μ : mzM} {Q : Option mzV → mzM → Prop} {x0 : Int} (h :
    (zin (x0 - (zand (zushr x0 1) 1431655765)) ∧ (zin ((zand (x0 - (zand (zushr x0 1) 1431655765)) 858993459) + (zand (zushr (x0 - (zand (zushr x0 1) 1431655765)) 2) 858993459)) ∧ (zin (((zand (x0 - (zand (zushr x0 1) 1431655765)) 858993459) + (zand (zushr (x0 - (zand (zushr x0 1) 1431655765)) 2) 858993459)) + (zushr ((zand (x0 - (zand (zushr x0 1) 1431655765)) 858993459) + (zand (zushr (x0 - (zand (zushr x0 1) 1431655765)) 2) 858993459)) 4)) ∧ (zin ((zand (((zand (x0 - (zand (zushr x0 1) 1431655765)) 858993459) + (zand (zushr (x0 - (zand (zushr x0 1) 1431655765)) 2) 858993459)) + (zushr ((zand (x0 - (zand (zushr x0 1) 1431655765)) 858993459) + (zand (zushr (x0 - (zand (zushr x0 1) 1431655765)) 2) 858993459)) 4)) 252645135) + (zushr (zand (((zand (x0 - (zand (zushr x0 1) 1431655765)) 858993459) + (zand (zushr (x0 - (zand (zushr x0 1) 1431655765)) 2) 858993459)) + (zushr ((zand (x0 - (zand (zushr x0 1) 1431655765)) 858993459) + (zand (zushr (x0 - (zand (zushr x0 1) 1431655765)) 2) 858993459)) 4)) 252645135) 8)) ∧ (zin (((zand (((zand (x0 - (zand (zushr x0 1) 1431655765)) 858993459) + (zand (zushr (x0 - (zand (zushr x0 1) 1431655765)) 2) 858993459)) + (zushr ((zand (x0 - (zand (zushr x0 1) 1431655765)) 858993459) + (zand (zushr (x0 - (zand (zushr x0 1) 1431655765)) 2) 858993459)) 4)) 252645135) + (zushr (zand (((zand (x0 - (zand (zushr x0 1) 1431655765)) 858993459) + (zand (zushr (x0 - (zand (zushr x0 1) 1431655765)) 2) 858993459)) + (zushr ((zand (x0 - (zand (zushr x0 1) 1431655765)) 858993459) + (zand (zushr (x0 - (zand (zushr x0 1) 1431655765)) 2) 858993459)) 4)) 252645135) 8)) + (zushr ((zand (((zand (x0 - (zand (zushr x0 1) 1431655765)) 858993459) + (zand (zushr (x0 - (zand (zushr x0 1) 1431655765)) 2) 858993459)) + (zushr ((zand (x0 - (zand (zushr x0 1) 1431655765)) 858993459) + (zand (zushr (x0 - (zand (zushr x0 1) 1431655765)) 2) 858993459)) 4)) 252645135) + (zushr (zand (((zand (x0 - (zand (zushr x0 1) 1431655765)) 858993459) + (zand (zushr (x0 - (zand (zushr x0 1) 1431655765)) 2) 858993459)) + (zushr ((zand (x0 - (zand (zushr x0 1) 1431655765)) 858993459) + (zand (zushr (x0 - (zand (zushr x0 1) 1431655765)) 2) 858993459)) 4)) 252645135) 8)) 16)) ∧ Q (some (vI (zand (((zand (((zand (x0 - (zand (zushr x0 1) 1431655765)) 858993459) + (zand (zushr (x0 - (zand (zushr x0 1) 1431655765)) 2) 858993459)) + (zushr ((zand (x0 - (zand (zushr x0 1) 1431655765)) 858993459) + (zand (zushr (x0 - (zand (zushr x0 1) 1431655765)) 2) 858993459)) 4)) 252645135) + (zushr (zand (((zand (x0 - (zand (zushr x0 1) 1431655765)) 858993459) + (zand (zushr (x0 - (zand (zushr x0 1) 1431655765)) 2) 858993459)) + (zushr ((zand (x0 - (zand (zushr x0 1) 1431655765)) 858993459) + (zand (zushr (x0 - (zand (zushr x0 1) 1431655765)) 2) 858993459)) 4)) 252645135) 8)) + (zushr ((zand (((zand (x0 - (zand (zushr x0 1) 1431655765)) 858993459) + (zand (zushr (x0 - (zand (zushr x0 1) 1431655765)) 2) 858993459)) + (zushr ((zand (x0 - (zand (zushr x0 1) 1431655765)) 858993459) + (zand (zushr (x0 - (zand (zushr x0 1) 1431655765)) 2) 858993459)) 4)) 252645135) + (zushr (zand (((zand (x0 - (zand (zushr x0 1) 1431655765)) 858993459) + (zand (zushr (x0 - (zand (zushr x0 1) 1431655765)) 2) 858993459)) + (zushr ((zand (x0 - (zand (zushr x0 1) 1431655765)) 858993459) + (zand (zushr (x0 - (zand (zushr x0 1) 1431655765)) 2) 858993459)) 4)) 252645135) 8)) 16)) 63))) μ)))))) :
    ZW f_J6_bitCount_0f7a4 0 [vI x0] [] μ Q := mvc_at zcd zml (C := zc63) rfl 47 0 h
theorem vc_J9_abs_0f7a4_0 {μ : mzM} {Q : Option mzV → mzM → Prop} {x0 : Int} (h :
    (if x0 < 0 then
    Q (some (vI (zw (-x0)))) μ
    else
    Q (some (vI x0)) μ)) :
    ZW f_J9_abs_0f7a4 0 [vI x0] [] μ Q := mvc_at zcd zml (C := zc64) rfl 12 0 h
theorem vc_J9_max_7cf53_0 {μ : mzM} {Q : Option mzV → mzM → Prop} {x0 x1 : Int} (h :
    (if x0 < x1 then
    Q (some (vI x1)) μ
    else
    Q (some (vI x0)) μ)) :
    ZW f_J9_max_7cf53 0 [vI x0, vI x1] [] μ Q := mvc_at zcd zml (C := zc65) rfl 12 0 h
theorem vc_J9_min_7cf53_0 {μ : mzM} {Q : Option mzV → mzM → Prop} {x0 x1 : Int} (h :
    (if x1 < x0 then
    Q (some (vI x1)) μ
    else
    Q (some (vI x0)) μ)) :
    ZW f_J9_min_7cf53 0 [vI x0, vI x1] [] μ Q := mvc_at zcd zml (C := zc66) rfl 12 0 h
theorem vc_L_cell_0 {μ : mzM} {Q : Option mzV → mzM → Prop} {o0 x1 : Int} (h :
    (if x1 < (μ 33 0 1) then
    ((0 ≤ x1 ∧ x1 < (μ 33 0 1)) ∧ Q (some (vI (μ 32 o0 x1))) μ)
    else
    (zin (x1 + 3) ∧ (zin (7919 * (x1 + 3)) ∧ (zin (x1 + 11) ∧ (zin ((7919 * (x1 + 3)) * (x1 + 11)) ∧ Q (some (vI ((7919 * (x1 + 3)) * (x1 + 11)))) μ)))))) :
    ZW f_L_cell 0 [vR 32 o0, vI x1] [] μ Q := mvc_at zcd zml (C := zc67) rfl 23 0 h
theorem vc_L_low_0 {μ : mzM} {Q : Option mzV → mzM → Prop} {x0 x1 : Int} (h :
    (x1 ≠ 0 ∧ Q (some (vI (Int.tmod (zand x0 2147483647) x1))) μ)) :
    ZW f_L_low 0 [vI x0, vI x1] [] μ Q := mvc_at zcd zml (C := zc68) rfl 11 0 h
theorem vc_L_tale_0 {μ : mzM} {Q : Option mzV → mzM → Prop} {o0 : Int} (h :
    ZW f_L_tale 4 [vR 0 o0, vL 3, none, vI 0, none] [] μ Q) :
    ZW f_L_tale 0 [vR 0 o0, none, none, none, none] [] μ Q := mvc_at zcd zml (C := zc69) rfl 91 0 h
theorem vc_L_tale_4 {μ : mzM} {Q : Option mzV → mzM → Prop} {o0 x1 x3 : Int} (h :
    (if x3 < 9 then
    ZI f_X7_count [vR 0 o0, vI x3] μ (fun r2 ν1 =>
      (zin (x3 + 1) ∧ ZW f_L_tale 4 [vR 0 o0, vL (zw6 ((zw6 (x1 * 31)) + r2)), none, vI (x3 + 1), none] [] ν1 Q))
    else
    ZW f_L_tale 20 [vR 0 o0, vL x1, none, vI 0, none] [] μ Q)) :
    ZW f_L_tale 4 [vR 0 o0, vL x1, none, vI x3, none] [] μ Q := mvc_at zcd zml (C := zc69) rfl 91 4 h
theorem vc_L_tale_20 {μ : mzM} {Q : Option mzV → mzM → Prop} {o0 x1 x3 : Int} (h :
    ZI f_X7_count [vR 0 o0, vI 0] μ (fun r2 ν1 =>
    ZI f_X7_count [vR 0 o0, vI 1] ν1 (fun r4 ν3 =>
    (zin (r2 * r4) ∧ (if x3 < (r2 * r4) then
    ZI f_X7_cell [vR 0 o0, vI x3] ν3 (fun r6 ν5 =>
      (zin (x3 + 1) ∧ ZW f_L_tale 20 [vR 0 o0, vL (zw6 ((zw6 (x1 * 37)) + r6)), none, vI (x3 + 1), none] [] ν5 Q))
    else
    ZW f_L_tale 42 [vR 0 o0, vL x1, none, vI 0, none] [] ν3 Q))))) :
    ZW f_L_tale 20 [vR 0 o0, vL x1, none, vI x3, none] [] μ Q := mvc_at zcd zml (C := zc69) rfl 91 20 h
theorem vc_L_tale_42 {μ : mzM} {Q : Option mzV → mzM → Prop} {o0 x1 x3 : Int} {v4 : mzV} (h :
    ZI f_X7_count [vR 0 o0, vI 2] μ (fun r2 ν1 =>
    (if x3 < r2 then
    ZW f_L_tale 49 [vR 0 o0, vL x1, none, vI x3, vI 0] [] ν1 Q
    else
    Q (some (vL x1)) ν1))) :
    ZW f_L_tale 42 [vR 0 o0, vL x1, none, vI x3, v4] [] μ Q := mvc_at zcd zml (C := zc69) rfl 91 42 h
theorem vc_L_tale_49 {μ : mzM} {Q : Option mzV → mzM → Prop} {o0 x1 x3 x4 : Int} (h :
    (if x4 < 9 then
    ZI f_X7_frame [vR 0 o0, vI x3, vI x4] μ (fun r2 ν1 =>
      (zin (x4 + 1) ∧ ZW f_L_tale 49 [vR 0 o0, vL (zw6 ((zw6 (x1 * 41)) + r2)), none, vI x3, vI (x4 + 1)] [] ν1 Q))
    else
    ZI f_X7_pixel [vR 0 o0, vI x3, vI 0] μ (fun r4 ν3 =>
      ZI f_X7_pixel [vR 0 o0, vI x3, vI 9] ν3 (fun r6 ν5 =>
      (zin (x3 + 1) ∧ ZW f_L_tale 42 [vR 0 o0, vL (zw6 ((zw6 ((zw6 (x1 * 43)) + r4)) + (zw6 (3 * r6)))), none, vI (x3 + 1), vI x4] [] ν5 Q))))) :
    ZW f_L_tale 49 [vR 0 o0, vL x1, none, vI x3, vI x4] [] μ Q := mvc_at zcd zml (C := zc69) rfl 91 49 h
theorem vc_L_does_0 {μ : mzM} {Q : Option mzV → mzM → Prop} {o0 x1 : Int} (h :
    (if (zand x1 15) = 0 then
    (if (zand (zshr x1 4) 7) = 0 then
      ZI f_L_low [vI (zshr x1 7), vI 3] μ (fun r2 ν1 =>
        (zin (4 * r2) ∧ ZI f_X7_setSize [vR 0 o0, vI (4 * r2), vI 8] ν1 (fun r4 ν3 =>
        Q (some (vI r4)) ν3)))
      else
      ZI f_X7_recode [vR 0 o0] μ (fun r6 ν5 =>
        Q (some (vI r6)) ν5))
    else
    (if (zand x1 15) = 1 then
    ZI f_L_low [vI (zshr x1 4), vI 6] μ (fun r8 ν7 =>
      ZI f_L_low [vI (zshr x1 7), vI 6] ν7 (fun r10 ν9 =>
      ZI f_L_low [vI (zshr x1 10), vI 5] ν9 (fun r12 ν11 =>
      ZI f_X7_setLimits [vR 0 o0, vI r8, vI r10, vI r12] ν11 (fun r14 ν13 =>
      Q (some (vI r14)) ν13))))
    else
    (if (zand x1 15) = 2 then
    ZI f_X7_removeLast [vR 0 o0] μ (fun r16 ν15 =>
      Q (some (vI r16)) ν15)
    else
    (if (zand x1 15) = 3 then
    ZI f_L_low [vI (zshr x1 4), vI 6] μ (fun r18 ν17 =>
      ZI f_X7_setLost [vR 0 o0, vI r18, vI (zand (zshr x1 7) 1)] ν17 (fun r20 ν19 =>
      Q (some (vI r20)) ν19))
    else
    (if (zand x1 15) = 4 then
    ZI f_L_low [vI (zshr x1 4), vI 6] μ (fun r22 ν21 =>
      ZI f_X7_setLost [vR 0 o0, vI r22, vI (zand (zshr x1 7) 1)] ν21 (fun r24 ν23 =>
      Q (some (vI r24)) ν23))
    else
    (if (zand x1 15) = 5 then
    ZI f_X7_addKey [vR 0 o0] μ (fun r26 ν25 =>
      Q (some (vI r26)) ν25)
    else
    (if (zand x1 15) = 6 then
    ZI f_L_low [vI (zshr x1 4), vI 6] μ (fun r28 ν27 =>
      ZI f_X7_addDelta [vR 0 o0, vI r28] ν27 (fun r30 ν29 =>
      Q (some (vI r30)) ν29))
    else
    (if (zand x1 15) = 7 then
    ZI f_L_low [vI (zshr x1 4), vI 6] μ (fun r32 ν31 =>
      ZI f_X7_addDelta [vR 0 o0, vI r32] ν31 (fun r34 ν33 =>
      Q (some (vI r34)) ν33))
    else
    (if (zand x1 15) = 8 then
    ZI f_X7_addChosen [vR 0 o0] μ (fun r36 ν35 =>
      Q (some (vI r36)) ν35)
    else
    (if (zand x1 15) = 9 then
    ZI f_X7_addChosen [vR 0 o0] μ (fun r38 ν37 =>
      Q (some (vI r38)) ν37)
    else
    ZI f_L_low [vI (zshr x1 4), vI 66] μ (fun r40 ν39 =>
      ZI f_L_low [vI (zshr x1 11), vI 17] ν39 (fun r42 ν41 =>
      ZI f_X7_setCell [vR 0 o0, vI r40, vI r42] ν41 (fun r44 ν43 =>
      Q (some (vI r44)) ν43)))))))))))))) :
    ZW f_L_does 0 [vR 0 o0, vI x1] [] μ Q := mvc_at zcd zml (C := zc70) rfl 90 0 h
theorem vc_L_law_4 {μ : mzM} {Q : Option mzV → mzM → Prop} {o0 o1 : Int} (h :
    ZW f_L_law 8 [vR 32 o0, vR 0 o1, vI 0, vI 0, none, none, none, none, none, none, none, none, none, none, none] [] μ Q) :
    ZW f_L_law 4 [vR 32 o0, vR 0 o1, none, none, none, none, none, none, none, none, none, none, none, none, none] [] μ Q := mvc_at zcd zml (C := zc71) rfl 253 4 h
theorem vc_L_law_8 {μ : mzM} {Q : Option mzV → mzM → Prop} {o0 o1 x2 x3 : Int} {v4 v5 v7 v8 v9 v10 v11 v12 v13 v14 : mzV} (h :
    (if x3 < 40 then
    ZI f_L_cell [vR 32 o0, vI x3] μ (fun r2 ν1 =>
      ZL f_L_tale [vR 0 o1] ν1 (fun r4 ν3 =>
      ZI f_X7_count [vR 0 o1, vI 2] ν3 (fun r6 ν5 =>
      ZI f_X7_costWith [vR 0 o1, vI (-1)] ν5 (fun r8 ν7 =>
      ZI f_L_does [vR 0 o1, vI r2] ν7 (fun r10 ν9 =>
      (if r10 < 0 then
      ZL f_L_tale [vR 0 o1] ν9 (fun r12 ν11 =>
        (if (zcmp r12 r4) = 0 then
        (if r10 < 0 then
          ZW f_L_law 56 [vR 32 o0, vR 0 o1, vI x2, vI x3, vI r2, vL r4, none, vI r6, vI r8, vI r10, vI 0, v11, v12, v13, v14] [vI 0] ν11 Q
          else
          (if (4 : Int) < (zand r2 15) then
            (if (zand r2 15) < 10 then
              ZW f_L_law 56 [vR 32 o0, vR 0 o1, vI x2, vI x3, vI r2, vL r4, none, vI r6, vI r8, vI r10, vI 1, v11, v12, v13, v14] [vI 1] ν11 Q
              else
              ZW f_L_law 56 [vR 32 o0, vR 0 o1, vI x2, vI x3, vI r2, vL r4, none, vI r6, vI r8, vI r10, vI 0, v11, v12, v13, v14] [vI 0] ν11 Q)
            else
            ZW f_L_law 56 [vR 32 o0, vR 0 o1, vI x2, vI x3, vI r2, vL r4, none, vI r6, vI r8, vI r10, vI 0, v11, v12, v13, v14] [vI 0] ν11 Q))
        else
        Q (some (vI 0)) ν11))
      else
      (if r10 < 0 then
        ZW f_L_law 56 [vR 32 o0, vR 0 o1, vI x2, vI x3, vI r2, vL r4, none, vI r6, vI r8, vI r10, vI 0, v11, v12, v13, v14] [vI 0] ν9 Q
        else
        (if (4 : Int) < (zand r2 15) then
          (if (zand r2 15) < 10 then
            ZW f_L_law 56 [vR 32 o0, vR 0 o1, vI x2, vI x3, vI r2, vL r4, none, vI r6, vI r8, vI r10, vI 1, v11, v12, v13, v14] [vI 1] ν9 Q
            else
            ZW f_L_law 56 [vR 32 o0, vR 0 o1, vI x2, vI x3, vI r2, vL r4, none, vI r6, vI r8, vI r10, vI 0, v11, v12, v13, v14] [vI 0] ν9 Q)
          else
          ZW f_L_law 56 [vR 32 o0, vR 0 o1, vI x2, vI x3, vI r2, vL r4, none, vI r6, vI r8, vI r10, vI 0, v11, v12, v13, v14] [vI 0] ν9 Q))))))))
    else
    ZI f_X7_count [vR 0 o1, vI 2] μ (fun r14 ν13 =>
      ZI f_X7_planCost [vR 0 o1] ν13 (fun r16 ν15 =>
      (if r14 = 0 then
      (if r16 = (-9) then
        (if r14 = 0 then
          Q (some (vI 1)) ν15
          else
          ZI f_X7_recode [vR 0 o1] ν15 (fun r18 ν17 =>
            (if r18 = r16 then
            ZI f_X7_planCost [vR 0 o1] ν17 (fun r20 ν19 =>
              (if r20 = r16 then
              ZI f_X7_count [vR 0 o1, vI 6] ν19 (fun r22 ν21 =>
                ZI f_X7_count [vR 0 o1, vI 5] ν21 (fun r24 ν23 =>
                ZI f_X7_greatestSeek [vR 0 o1] ν23 (fun r26 ν25 =>
                (zin (r24 * r26) ∧ (zin (r22 + (r24 * r26)) ∧ (if (r22 + (r24 * r26)) = r16 then
                Q (some (vI 1)) ν25
                else
                Q (some (vI 0)) ν25))))))
              else
              Q (some (vI 0)) ν19))
            else
            Q (some (vI 0)) ν17)))
        else
        Q (some (vI 0)) ν15)
      else
      (if r16 = (-9) then
        Q (some (vI 0)) ν15
        else
        (if r14 = 0 then
          Q (some (vI 1)) ν15
          else
          ZI f_X7_recode [vR 0 o1] ν15 (fun r28 ν27 =>
            (if r28 = r16 then
            ZI f_X7_planCost [vR 0 o1] ν27 (fun r30 ν29 =>
              (if r30 = r16 then
              ZI f_X7_count [vR 0 o1, vI 6] ν29 (fun r32 ν31 =>
                ZI f_X7_count [vR 0 o1, vI 5] ν31 (fun r34 ν33 =>
                ZI f_X7_greatestSeek [vR 0 o1] ν33 (fun r36 ν35 =>
                (zin (r34 * r36) ∧ (zin (r32 + (r34 * r36)) ∧ (if (r32 + (r34 * r36)) = r16 then
                Q (some (vI 1)) ν35
                else
                Q (some (vI 0)) ν35))))))
              else
              Q (some (vI 0)) ν29))
            else
            Q (some (vI 0)) ν27))))))))) :
    ZW f_L_law 8 [vR 32 o0, vR 0 o1, vI x2, vI x3, v4, v5, none, v7, v8, v9, v10, v11, v12, v13, v14] [] μ Q := mvc_at zcd zml (C := zc71) rfl 253 8 h
theorem vc_L_law_56 {μ : mzM} {Q : Option mzV → mzM → Prop} {o0 o1 x2 x3 x4 x5 x7 x8 x9 x10 y0 : Int} {v11 v12 v13 v14 : mzV} (h :
    (if y0 = 0 then
    (if x9 < 0 then
      ZW f_L_law 99 [vR 32 o0, vR 0 o1, vI x2, vI x3, vI x4, vL x5, none, vI x7, vI x8, vI x9, vI x10, v11, v12, v13, v14] [vI x9] μ Q
      else
      (if x2 < 6 then
        (zin (x2 + 1) ∧ ZW f_L_law 99 [vR 32 o0, vR 0 o1, vI (x2 + 1), vI x3, vI x4, vL x5, none, vI x7, vI x8, vI x9, vI x10, v11, v12, v13, v14] [vI x9] μ Q)
        else
        ZW f_L_law 99 [vR 32 o0, vR 0 o1, vI 6, vI x3, vI x4, vL x5, none, vI x7, vI x8, vI x9, vI x10, v11, v12, v13, v14] [vI x9] μ Q))
    else
    ZI f_X7_count [vR 0 o1, vI 2] μ (fun r2 ν1 =>
      (zin (x7 + 1) ∧ (if r2 = (x7 + 1) then
      ZI f_X7_frame [vR 0 o1, vI x7, vI 1] ν1 (fun r4 ν3 =>
        (if r4 = x9 then
        ZI f_X7_difference [vR 0 o1, vI x7, vI (-1)] ν3 (fun r6 ν5 =>
          (if r6 = 0 then
          (if (7 : Int) < (zand x4 15) then
            (if x8 < x9 then
              Q (some (vI 0)) ν5
              else
              (if x9 < 0 then
                ZW f_L_law 99 [vR 32 o0, vR 0 o1, vI x2, vI x3, vI x4, vL x5, none, vI x7, vI x8, vI x9, vI x10, v11, v12, v13, v14] [vI x9] ν5 Q
                else
                (if x2 < 6 then
                  (zin (x2 + 1) ∧ ZW f_L_law 99 [vR 32 o0, vR 0 o1, vI (x2 + 1), vI x3, vI x4, vL x5, none, vI x7, vI x8, vI x9, vI x10, v11, v12, v13, v14] [vI x9] ν5 Q)
                  else
                  ZW f_L_law 99 [vR 32 o0, vR 0 o1, vI 6, vI x3, vI x4, vL x5, none, vI x7, vI x8, vI x9, vI x10, v11, v12, v13, v14] [vI x9] ν5 Q)))
            else
            (if x9 < 0 then
              ZW f_L_law 99 [vR 32 o0, vR 0 o1, vI x2, vI x3, vI x4, vL x5, none, vI x7, vI x8, vI x9, vI x10, v11, v12, v13, v14] [vI x9] ν5 Q
              else
              (if x2 < 6 then
                (zin (x2 + 1) ∧ ZW f_L_law 99 [vR 32 o0, vR 0 o1, vI (x2 + 1), vI x3, vI x4, vL x5, none, vI x7, vI x8, vI x9, vI x10, v11, v12, v13, v14] [vI x9] ν5 Q)
                else
                ZW f_L_law 99 [vR 32 o0, vR 0 o1, vI 6, vI x3, vI x4, vL x5, none, vI x7, vI x8, vI x9, vI x10, v11, v12, v13, v14] [vI x9] ν5 Q)))
          else
          Q (some (vI 0)) ν5))
        else
        Q (some (vI 0)) ν3))
      else
      Q (some (vI 0)) ν1))))) :
    ZW f_L_law 56 [vR 32 o0, vR 0 o1, vI x2, vI x3, vI x4, vL x5, none, vI x7, vI x8, vI x9, vI x10, v11, v12, v13, v14] [vI y0] μ Q := mvc_at zcd zml (C := zc71) rfl 253 56 h
theorem vc_L_law_99 {μ : mzM} {Q : Option mzV → mzM → Prop} {o0 o1 x2 x3 x4 x5 x7 x8 x9 x10 y0 : Int} {v11 v12 v13 v14 : mzV} (h :
    (if y0 < 0 then
    ZI f_X7_count [vR 0 o1, vI 9] μ (fun r2 ν1 =>
      (if r2 = x2 then
      ZW f_L_law 131 [vR 32 o0, vR 0 o1, vI x2, vI x3, vI x4, vL x5, none, vI x7, vI x8, vI x9, vI x10, vI 0, vI 0, v13, v14] [] ν1 Q
      else
      Q (some (vI 0)) ν1))
    else
    (if (zand (zshr x4 26) 3) = 0 then
      ZI f_X7_undo [vR 0 o1] μ (fun r4 ν3 =>
        (zin (x2 - 1) ∧ (if r4 = (x2 - 1) then
        ZL f_L_tale [vR 0 o1] ν3 (fun r6 ν5 =>
          (if (zcmp r6 x5) = 0 then
          (zin (x2 + (-1)) ∧ ZI f_X7_count [vR 0 o1, vI 9] ν5 (fun r8 ν7 =>
            (if r8 = (x2 + (-1)) then
            ZW f_L_law 131 [vR 32 o0, vR 0 o1, vI (x2 + (-1)), vI x3, vI x4, vL x5, none, vI x7, vI x8, vI x9, vI x10, vI 0, vI 0, v13, v14] [] ν7 Q
            else
            Q (some (vI 0)) ν7)))
          else
          Q (some (vI 0)) ν5))
        else
        Q (some (vI 0)) ν3)))
      else
      ZI f_X7_count [vR 0 o1, vI 9] μ (fun r10 ν9 =>
        (if r10 = x2 then
        ZW f_L_law 131 [vR 32 o0, vR 0 o1, vI x2, vI x3, vI x4, vL x5, none, vI x7, vI x8, vI x9, vI x10, vI 0, vI 0, v13, v14] [] ν9 Q
        else
        Q (some (vI 0)) ν9))))) :
    ZW f_L_law 99 [vR 32 o0, vR 0 o1, vI x2, vI x3, vI x4, vL x5, none, vI x7, vI x8, vI x9, vI x10, v11, v12, v13, v14] [vI y0] μ Q := mvc_at zcd zml (C := zc71) rfl 253 99 h
theorem vc_L_law_131 {μ : mzM} {Q : Option mzV → mzM → Prop} {o0 o1 x2 x3 x4 x5 x7 x8 x9 x10 x11 x12 : Int} {v13 v14 : mzV} (h :
    ZI f_X7_count [vR 0 o1, vI 2] μ (fun r2 ν1 =>
    (if x12 < r2 then
    ZW f_L_law 140 [vR 32 o0, vR 0 o1, vI x2, vI x3, vI x4, vL x5, none, vI x7, vI x8, vI x9, vI x10, vI x11, vI x12, vI 0, vI 5] [] ν1 Q
    else
    ZI f_X7_count [vR 0 o1, vI 7] ν1 (fun r4 ν3 =>
      (if x11 = r4 then
      (zin (x3 + 1) ∧ ZW f_L_law 8 [vR 32 o0, vR 0 o1, vI x2, vI (x3 + 1), vI x4, vL x5, none, vI x7, vI x8, vI x9, vI x10, vI x11, vI x12, v13, v14] [] ν3 Q)
      else
      Q (some (vI 0)) ν3))))) :
    ZW f_L_law 131 [vR 32 o0, vR 0 o1, vI x2, vI x3, vI x4, vL x5, none, vI x7, vI x8, vI x9, vI x10, vI x11, vI x12, v13, v14] [] μ Q := mvc_at zcd zml (C := zc71) rfl 253 131 h
theorem vc_L_law_140 {μ : mzM} {Q : Option mzV → mzM → Prop} {o0 o1 x2 x3 x4 x5 x7 x8 x9 x10 x11 x12 x13 x14 : Int} (h :
    (if x14 < 9 then
    ZI f_X7_frame [vR 0 o1, vI x12, vI x14] μ (fun r2 ν1 =>
      (zin (x13 + r2) ∧ (zin (x14 + 1) ∧ ZW f_L_law 140 [vR 32 o0, vR 0 o1, vI x2, vI x3, vI x4, vL x5, none, vI x7, vI x8, vI x9, vI x10, vI x11, vI x12, vI (x13 + r2), vI (x14 + 1)] [] ν1 Q)))
    else
    ZI f_X7_frame [vR 0 o1, vI x12, vI 4] μ (fun r4 ν3 =>
      (zin (x11 + r4) ∧ ZI f_X7_count [vR 0 o1, vI 0] ν3 (fun r6 ν5 =>
      ZI f_X7_count [vR 0 o1, vI 1] ν5 (fun r8 ν7 =>
      (zin (r6 * r8) ∧ (((16 : Int) ≠ 0 ∧ zin (Int.tdiv (r6 * r8) 16)) ∧ (if x13 = (Int.tdiv (r6 * r8) 16) then
      ZI f_X7_frame [vR 0 o1, vI x12, vI 2] ν7 (fun r10 ν9 =>
        ZI f_X7_frame [vR 0 o1, vI x12, vI 1] ν9 (fun r12 ν11 =>
        (if r10 < r12 then
        Q (some (vI 0)) ν11
        else
        ZI f_X7_frame [vR 0 o1, vI x12, vI 0] ν11 (fun r14 ν13 =>
          (if r14 < x12 then
          ZI f_X7_dependents [vR 0 o1, vI x12] ν13 (fun r16 ν15 =>
            (if r16 < 1 then
            Q (some (vI 0)) ν15
            else
            (zin (x12 + 1) ∧ ZW f_L_law 131 [vR 32 o0, vR 0 o1, vI x2, vI x3, vI x4, vL x5, none, vI x7, vI x8, vI x9, vI x10, vI (x11 + r4), vI (x12 + 1), vI x13, vI x14] [] ν15 Q)))
          else
          Q (some (vI 0)) ν13)))))
      else
      Q (some (vI 0)) ν7))))))))) :
    ZW f_L_law 140 [vR 32 o0, vR 0 o1, vI x2, vI x3, vI x4, vL x5, none, vI x7, vI x8, vI x9, vI x10, vI x11, vI x12, vI x13, vI x14] [] μ Q := mvc_at zcd zml (C := zc71) rfl 253 140 h
