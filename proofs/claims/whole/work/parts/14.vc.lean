theorem vc_X0_encode_0 {μ : mzM} {Q : Option mzV → mzM → Prop} {o0 o1 o2 x3 : Int} (h :
    (if x3 = (-1) then
    (((0 : Int) = 0 ∨ (0 : Int) = 1) ∧ ZW f_X0_encode 20 [vR 11 o0, vR 2 o1, vR 1 o2, vI x3, vR 99 0, vI 0] [] (mup (mup (mup μ 2 o1 2 x3) 2 o1 4 0) 2 o1 3 2) Q)
    else
    ZR f_X6_imageOf 3 [vR 1 o2, vI x3] μ (fun r2 ν1 =>
      (((0 : Int) = 0 ∨ (0 : Int) = 1) ∧ ZW f_X0_encode 20 [vR 11 o0, vR 2 o1, vR 1 o2, vI x3, vR 3 r2, vI 0] [] (mup (mup (mup ν1 2 o1 2 x3) 2 o1 4 0) 2 o1 3 2) Q)))) :
    ZW f_X0_encode 0 [vR 11 o0, vR 2 o1, vR 1 o2, vI x3, none, none] [] μ Q := mvc_at zcd zml (C := zc0) rfl 52 0 h
theorem vc_X0_encode_20 {μ : mzM} {Q : Option mzV → mzM → Prop} {o0 o1 o2 x3 x5 : Int} (h :
    ZI f_X2_blocks [vR 3 o1] μ (fun r2 ν1 =>
    (if x5 < r2 then
    ZI f_X0_encodeRaw [vR 11 o0, vR 2 o1, vI x5] ν1 (fun r4 ν3 =>
      (zin ((ν1 2 o1 3) + r4) ∧ (zin (x5 + 1) ∧ ZW f_X0_encode 20 [vR 11 o0, vR 2 o1, vR 1 o2, vI x3, vR 99 0, vI (x5 + 1)] [] (mup ν3 2 o1 3 ((ν1 2 o1 3) + r4)) Q)))
    else
    Q none ν1))) :
    ZW f_X0_encode 20 [vR 11 o0, vR 2 o1, vR 1 o2, vI x3, vR 99 0, vI x5] [] μ Q := mvc_at zcd zml (C := zc0) rfl 52 20 h
theorem vc_X0_encode_20b {μ : mzM} {Q : Option mzV → mzM → Prop} {o0 o1 o2 o4 x3 x5 : Int} (h :
    ZI f_X2_blocks [vR 3 o1] μ (fun r2 ν1 =>
    (if x5 < r2 then
    ZI f_X0_encodeWith [vR 11 o0, vR 2 o1, vI x5, vR 3 o4, vI (ν1 1 o2 4)] ν1 (fun r4 ν3 =>
      (zin ((ν1 2 o1 3) + r4) ∧ (zin (x5 + 1) ∧ ZW f_X0_encode 20 [vR 11 o0, vR 2 o1, vR 1 o2, vI x3, vR 3 o4, vI (x5 + 1)] [] (mup ν3 2 o1 3 ((ν1 2 o1 3) + r4)) Q)))
    else
    Q none ν1))) :
    ZW f_X0_encode 20 [vR 11 o0, vR 2 o1, vR 1 o2, vI x3, vR 3 o4, vI x5] [] μ Q := mvc_at zcd zml (C := zc0) rfl 52 20 h
theorem vc_X0_encodeRaw_0 {μ : mzM} {Q : Option mzV → mzM → Prop} {o0 o1 x2 : Int} (h :
    ZV f_X4_read [vR 12 0, vR 3 o1, vR 99 0, vI x2] μ (fun ν1 =>
    ZV f_X1_setCode [vR 2 o1, vI x2, vI 3, vI 0, vI 0, vI (ν1 12 0 2)] ν1 (fun ν2 =>
    (zin (2 * (ν2 12 0 2)) ∧ (zin (2 + (2 * (ν2 12 0 2))) ∧ Q (some (vI (2 + (2 * (ν2 12 0 2))))) ν2))))) :
    ZW f_X0_encodeRaw 0 [vR 11 o0, vR 2 o1, vI x2] [] μ Q := mvc_at zcd zml (C := zc1) rfl 29 0 h
theorem vc_X0_encodeWith_0 {μ : mzM} {Q : Option mzV → mzM → Prop} {o0 o1 o3 x2 x4 : Int} (h :
    ZI f_X2_left [vR 3 o1, vI x2] μ (fun r2 ν1 =>
    ZI f_X2_top [vR 3 o1, vI x2] ν1 (fun r4 ν3 =>
    ZI f_X2_samePart [vR 3 o1, vI r2, vI r4, vR 3 o3, vI r2, vI r4] ν3 (fun r6 ν5 =>
    (if r6 = 0 then
    ZI f_X0_findMove [vR 11 o0, vR 3 o1, vI r2, vI r4, vR 3 o3, vI x4] ν5 (fun r8 ν7 =>
      (if r8 = 0 then
      ZV f_X4_read [vR 12 0, vR 3 o1, vR 99 0, vI x2] ν7 (fun ν9 =>
        ZV f_X4_read [vR 12 1, vR 3 o1, vR 3 o3, vI x2] ν9 (fun ν10 =>
        (if (ν10 12 0 2) < (ν10 12 1 2) then
        ZV f_X1_setCode [vR 2 o1, vI x2, vI 3, vI 0, vI 0, vI (ν10 12 0 2)] ν10 (fun ν11 =>
          (zin (2 * (ν11 12 0 2)) ∧ (zin (2 + (2 * (ν11 12 0 2))) ∧ Q (some (vI (2 + (2 * (ν11 12 0 2))))) ν11)))
        else
        ZV f_X1_setCode [vR 2 o1, vI x2, vI 2, vI 0, vI 0, vI (ν10 12 1 2)] ν10 (fun ν12 =>
          (zin (2 * (ν12 12 1 2)) ∧ (zin (2 + (2 * (ν12 12 1 2))) ∧ Q (some (vI (2 + (2 * (ν12 12 1 2))))) ν12))))))
      else
      ZV f_X1_setCode [vR 2 o1, vI x2, vI 1, vI (ν7 11 o0 2), vI (ν7 11 o0 3), vI 0] ν7 (fun ν13 =>
        Q (some (vI 3)) ν13)))
    else
    ZV f_X1_setCode [vR 2 o1, vI x2, vI 0, vI 0, vI 0, vI 0] ν5 (fun ν14 =>
      Q (some (vI 1)) ν14)))))) :
    ZW f_X0_encodeWith 0 [vR 11 o0, vR 2 o1, vI x2, vR 3 o3, vI x4, none, none] [] μ Q := mvc_at zcd zml (C := zc2) rfl 108 0 h
theorem vc_X0_findMove_0 {μ : mzM} {Q : Option mzV → mzM → Prop} {o0 o1 o4 x2 x3 x5 : Int} (h :
    ZW f_X0_findMove 2 [vR 11 o0, vR 3 o1, vI x2, vI x3, vR 3 o4, vI x5, vI 1, none, none, none] [] μ Q) :
    ZW f_X0_findMove 0 [vR 11 o0, vR 3 o1, vI x2, vI x3, vR 3 o4, vI x5, none, none, none, none] [] μ Q := mvc_at zcd zml (C := zc3) rfl 79 0 h
theorem vc_X0_findMove_2 {μ : mzM} {Q : Option mzV → mzM → Prop} {o0 o1 o4 x2 x3 x5 x6 : Int} {v7 v8 v9 : mzV} (h :
    (zin (2 * x5) ∧ (if (2 * x5) < x6 then
    Q (some (vI 0)) μ
    else
    ZW f_X0_findMove 10 [vR 11 o0, vR 3 o1, vI x2, vI x3, vR 3 o4, vI x5, vI x6, vI (zw (-x5)), v8, v9] [] μ Q))) :
    ZW f_X0_findMove 2 [vR 11 o0, vR 3 o1, vI x2, vI x3, vR 3 o4, vI x5, vI x6, v7, v8, v9] [] μ Q := mvc_at zcd zml (C := zc3) rfl 79 2 h
theorem vc_X0_findMove_10 {μ : mzM} {Q : Option mzV → mzM → Prop} {o0 o1 o4 x2 x3 x5 x6 x7 : Int} {v8 v9 : mzV} (h :
    (if x5 < x7 then
    (zin (x6 + 1) ∧ ZW f_X0_findMove 2 [vR 11 o0, vR 3 o1, vI x2, vI x3, vR 3 o4, vI x5, vI (x6 + 1), vI x7, v8, v9] [] μ Q)
    else
    ZI f_J9_abs_0f7a4 [vI x7] μ (fun r2 ν1 =>
      (zin (x6 - r2) ∧ (if (x6 - r2) < 0 then
      (zin (x7 + 1) ∧ ZW f_X0_findMove 10 [vR 11 o0, vR 3 o1, vI x2, vI x3, vR 3 o4, vI x5, vI x6, vI (x7 + 1), vI (x6 - r2), v9] [] ν1 Q)
      else
      (if x5 < (x6 - r2) then
        (zin (x7 + 1) ∧ ZW f_X0_findMove 10 [vR 11 o0, vR 3 o1, vI x2, vI x3, vR 3 o4, vI x5, vI x6, vI (x7 + 1), vI (x6 - r2), v9] [] ν1 Q)
        else
        ZW f_X0_findMove 27 [vR 11 o0, vR 3 o1, vI x2, vI x3, vR 3 o4, vI x5, vI x6, vI x7, vI (x6 - r2), vI (zw (-(x6 - r2)))] [] ν1 Q)))))) :
    ZW f_X0_findMove 10 [vR 11 o0, vR 3 o1, vI x2, vI x3, vR 3 o4, vI x5, vI x6, vI x7, v8, v9] [] μ Q := mvc_at zcd zml (C := zc3) rfl 79 10 h
theorem vc_X0_findMove_27 {μ : mzM} {Q : Option mzV → mzM → Prop} {o0 o1 o4 x2 x3 x5 x6 x7 x8 x9 : Int} (h :
    (if x8 < x9 then
    (zin (x7 + 1) ∧ ZW f_X0_findMove 10 [vR 11 o0, vR 3 o1, vI x2, vI x3, vR 3 o4, vI x5, vI x6, vI (x7 + 1), vI x8, vI x9] [] μ Q)
    else
    (zin (x2 + x9) ∧ (zin (x3 + x7) ∧ ZI f_X2_hasPart [vR 3 o4, vI (x2 + x9), vI (x3 + x7)] μ (fun r2 ν1 =>
      (if r2 = 0 then
      (zin (2 * x8) ∧ ZI f_J9_max_7cf53 [vI 1, vI (2 * x8)] ν1 (fun r4 ν3 =>
        (zin (x9 + r4) ∧ ZW f_X0_findMove 27 [vR 11 o0, vR 3 o1, vI x2, vI x3, vR 3 o4, vI x5, vI x6, vI x7, vI x8, vI (x9 + r4)] [] ν3 Q)))
      else
      (zin (x2 + x9) ∧ (zin (x3 + x7) ∧ ZI f_X2_samePart [vR 3 o1, vI x2, vI x3, vR 3 o4, vI (x2 + x9), vI (x3 + x7)] ν1 (fun r6 ν5 =>
        (if r6 = 0 then
        (zin (2 * x8) ∧ ZI f_J9_max_7cf53 [vI 1, vI (2 * x8)] ν5 (fun r8 ν7 =>
          (zin (x9 + r8) ∧ ZW f_X0_findMove 27 [vR 11 o0, vR 3 o1, vI x2, vI x3, vR 3 o4, vI x5, vI x6, vI x7, vI x8, vI (x9 + r8)] [] ν7 Q)))
        else
        Q (some (vI 1)) (mup (mup ν5 11 o0 2 x9) 11 o0 3 x7))))))))))) :
    ZW f_X0_findMove 27 [vR 11 o0, vR 3 o1, vI x2, vI x3, vR 3 o4, vI x5, vI x6, vI x7, vI x8, vI x9] [] μ Q := mvc_at zcd zml (C := zc3) rfl 79 27 h
theorem vc_X1_take_0 {μ : mzM} {Q : Option mzV → mzM → Prop} {o0 o1 : Int} (h :
    ZV f_X2_take [vR 3 o0, vR 3 o1] μ (fun ν1 =>
    (((0 ≤ (36 : Int) ∧ 0 ≤ (0 : Int) ∧ 0 ≤ (0 : Int)) ∧ ((0 : Int) + 36 ≤ 36 ∧ (0 : Int) + 36 ≤ 36)) ∧ ((((mup (mup (mcp ν1 5 o1 0 5 o0 0 36) 2 o0 2 ((mcp ν1 5 o1 0 5 o0 0 36) 2 o1 2)) 2 o0 3 ((mup (mcp ν1 5 o1 0 5 o0 0 36) 2 o0 2 ((mcp ν1 5 o1 0 5 o0 0 36) 2 o1 2)) 2 o1 3)) 2 o1 4) = 0 ∨ ((mup (mup (mcp ν1 5 o1 0 5 o0 0 36) 2 o0 2 ((mcp ν1 5 o1 0 5 o0 0 36) 2 o1 2)) 2 o0 3 ((mup (mcp ν1 5 o1 0 5 o0 0 36) 2 o0 2 ((mcp ν1 5 o1 0 5 o0 0 36) 2 o1 2)) 2 o1 3)) 2 o1 4) = 1) ∧ Q none (mup (mup (mup (mcp ν1 5 o1 0 5 o0 0 36) 2 o0 2 ((mcp ν1 5 o1 0 5 o0 0 36) 2 o1 2)) 2 o0 3 ((mup (mcp ν1 5 o1 0 5 o0 0 36) 2 o0 2 ((mcp ν1 5 o1 0 5 o0 0 36) 2 o1 2)) 2 o1 3)) 2 o0 4 ((mup (mup (mcp ν1 5 o1 0 5 o0 0 36) 2 o0 2 ((mcp ν1 5 o1 0 5 o0 0 36) 2 o1 2)) 2 o0 3 ((mup (mcp ν1 5 o1 0 5 o0 0 36) 2 o0 2 ((mcp ν1 5 o1 0 5 o0 0 36) 2 o1 2)) 2 o1 3)) 2 o1 4)))))) :
    ZW f_X1_take 0 [vR 2 o0, vR 2 o1] [] μ Q := mvc_at zcd zml (C := zc4) rfl 31 0 h
theorem vc_X1_codePart_0 {μ : mzM} {Q : Option mzV → mzM → Prop} {o0 x1 x2 : Int} (h :
    (zin (x1 * 4) ∧ (zin ((x1 * 4) + x2) ∧ (if ((x1 * 4) + x2) < 0 then
    Q (some (vI 0)) μ
    else
    (if ((x1 * 4) + x2) < 36 then
      ((0 ≤ ((x1 * 4) + x2) ∧ ((x1 * 4) + x2) < 36) ∧ Q (some (vI (μ 5 o0 ((x1 * 4) + x2)))) μ)
      else
      Q (some (vI 0)) μ))))) :
    ZW f_X1_codePart 0 [vR 2 o0, vI x1, vI x2, none] [] μ Q := mvc_at zcd zml (C := zc5) rfl 25 0 h
theorem vc_X1_setCode_0 {μ : mzM} {Q : Option mzV → mzM → Prop} {o0 x1 x2 x3 x4 x5 : Int} (h :
    (zin (x1 * 4) ∧ (if (x1 * 4) < 0 then
    Q none μ
    else
    (zin ((x1 * 4) + 3) ∧ (if ((x1 * 4) + 3) < 36 then
      (zin ((x1 * 4) + 0) ∧ ((0 ≤ ((x1 * 4) + 0) ∧ ((x1 * 4) + 0) < 36) ∧ (zin ((x1 * 4) + 1) ∧ ((0 ≤ ((x1 * 4) + 1) ∧ ((x1 * 4) + 1) < 36) ∧ (zin ((x1 * 4) + 2) ∧ ((0 ≤ ((x1 * 4) + 2) ∧ ((x1 * 4) + 2) < 36) ∧ (zin ((x1 * 4) + 3) ∧ ((0 ≤ ((x1 * 4) + 3) ∧ ((x1 * 4) + 3) < 36) ∧ Q none (mup (mup (mup (mup μ 5 o0 ((x1 * 4) + 0) x2) 5 o0 ((x1 * 4) + 1) x3) 5 o0 ((x1 * 4) + 2) x4) 5 o0 ((x1 * 4) + 3) x5)))))))))
      else
      Q none μ))))) :
    ZW f_X1_setCode 0 [vR 2 o0, vI x1, vI x2, vI x3, vI x4, vI x5, none] [] μ Q := mvc_at zcd zml (C := zc6) rfl 47 0 h
theorem vc_X1_codesOfKind_0 {μ : mzM} {Q : Option mzV → mzM → Prop} {o0 x1 : Int} (h :
    ZW f_X1_codesOfKind 4 [vR 2 o0, vI x1, vI 0, vI 0] [] μ Q) :
    ZW f_X1_codesOfKind 0 [vR 2 o0, vI x1, none, none] [] μ Q := mvc_at zcd zml (C := zc7) rfl 25 0 h
theorem vc_X1_codesOfKind_4 {μ : mzM} {Q : Option mzV → mzM → Prop} {o0 x1 x2 x3 : Int} (h :
    ZI f_X2_blocks [vR 3 o0] μ (fun r2 ν1 =>
    (if x3 < r2 then
    ZI f_X1_codePart [vR 2 o0, vI x3, vI 0] ν1 (fun r4 ν3 =>
      (if r4 = x1 then
      (zin (x2 + 1) ∧ (zin (x3 + 1) ∧ ZW f_X1_codesOfKind 4 [vR 2 o0, vI x1, vI (x2 + 1), vI (x3 + 1)] [] ν3 Q))
      else
      (zin (x3 + 1) ∧ ZW f_X1_codesOfKind 4 [vR 2 o0, vI x1, vI x2, vI (x3 + 1)] [] ν3 Q)))
    else
    Q (some (vI x2)) ν1))) :
    ZW f_X1_codesOfKind 4 [vR 2 o0, vI x1, vI x2, vI x3] [] μ Q := mvc_at zcd zml (C := zc7) rfl 25 4 h
theorem vc_X2_reset_0 {μ : mzM} {Q : Option mzV → mzM → Prop} {o0 x1 x2 : Int} (h :
    ZW f_X2_reset 8 [vR 3 o0, vI x1, vI x2, vI 0] [] (mup (mup μ 3 o0 1 x1) 3 o0 2 x2) Q) :
    ZW f_X2_reset 0 [vR 3 o0, vI x1, vI x2, none] [] μ Q := mvc_at zcd zml (C := zc8) rfl 26 0 h
theorem vc_X2_reset_8 {μ : mzM} {Q : Option mzV → mzM → Prop} {o0 x1 x2 x3 : Int} (h :
    (if x3 < 144 then
    ((0 ≤ x3 ∧ x3 < 144) ∧ (zin (x3 + 1) ∧ ZW f_X2_reset 8 [vR 3 o0, vI x1, vI x2, vI (x3 + 1)] [] (mup μ 4 o0 x3 0) Q))
    else
    Q none μ)) :
    ZW f_X2_reset 8 [vR 3 o0, vI x1, vI x2, vI x3] [] μ Q := mvc_at zcd zml (C := zc8) rfl 26 8 h
theorem vc_X2_take_0 {μ : mzM} {Q : Option mzV → mzM → Prop} {o0 o1 : Int} (h :
    (((0 ≤ (144 : Int) ∧ 0 ≤ (0 : Int) ∧ 0 ≤ (0 : Int)) ∧ ((0 : Int) + 144 ≤ 144 ∧ (0 : Int) + 144 ≤ 144)) ∧ Q none (mcp (mup (mup μ 3 o0 1 (μ 3 o1 1)) 3 o0 2 ((mup μ 3 o0 1 (μ 3 o1 1)) 3 o1 2)) 4 o1 0 4 o0 0 144))) :
    ZW f_X2_take 0 [vR 3 o0, vR 3 o1] [] μ Q := mvc_at zcd zml (C := zc9) rfl 22 0 h
theorem vc_X2_hasCell_0 {μ : mzM} {Q : Option mzV → mzM → Prop} {o0 x1 : Int} (h :
    (if x1 < 0 then
    Q (some (vI 0)) μ
    else
    (zin ((μ 3 o0 1) * (μ 3 o0 2)) ∧ (if x1 < ((μ 3 o0 1) * (μ 3 o0 2)) then
      Q (some (vI 1)) μ
      else
      Q (some (vI 0)) μ)))) :
    ZW f_X2_hasCell 0 [vR 3 o0, vI x1] [] μ Q := mvc_at zcd zml (C := zc10) rfl 18 0 h
theorem vc_X2_numbered_0 {μ : mzM} {Q : Option mzV → mzM → Prop} {o0 x1 : Int} (h :
    (if x1 < 0 then
    Q (some (vI 0)) μ
    else
    (if x1 < 144 then
      ((0 ≤ x1 ∧ x1 < 144) ∧ Q (some (vI (μ 4 o0 x1))) μ)
      else
      Q (some (vI 0)) μ))) :
    ZW f_X2_numbered 0 [vR 3 o0, vI x1] [] μ Q := mvc_at zcd zml (C := zc11) rfl 19 0 h
theorem vc_X2_putNumbered_0 {μ : mzM} {Q : Option mzV → mzM → Prop} {o0 x1 x2 : Int} (h :
    (if x1 < 0 then
    Q none μ
    else
    (if x1 < 144 then
      ((0 ≤ x1 ∧ x1 < 144) ∧ Q none (mup μ 4 o0 x1 x2))
      else
      Q none μ))) :
    ZW f_X2_putNumbered 0 [vR 3 o0, vI x1, vI x2] [] μ Q := mvc_at zcd zml (C := zc12) rfl 18 0 h
theorem vc_X2_at_0 {μ : mzM} {Q : Option mzV → mzM → Prop} {o0 x1 x2 : Int} (h :
    (if x1 < 0 then
    Q (some (vI 0)) μ
    else
    (if x1 < (μ 3 o0 1) then
      (if x2 < 0 then
        Q (some (vI 0)) μ
        else
        (if x2 < (μ 3 o0 2) then
          (zin (x2 * (μ 3 o0 1)) ∧ (zin ((x2 * (μ 3 o0 1)) + x1) ∧ (if ((x2 * (μ 3 o0 1)) + x1) < 144 then
            ((0 ≤ ((x2 * (μ 3 o0 1)) + x1) ∧ ((x2 * (μ 3 o0 1)) + x1) < 144) ∧ Q (some (vI (μ 4 o0 ((x2 * (μ 3 o0 1)) + x1)))) μ)
            else
            Q (some (vI 0)) μ)))
          else
          Q (some (vI 0)) μ))
      else
      Q (some (vI 0)) μ))) :
    ZW f_X2_at 0 [vR 3 o0, vI x1, vI x2, none] [] μ Q := mvc_at zcd zml (C := zc13) rfl 38 0 h
theorem vc_X2_blocks_0 {μ : mzM} {Q : Option mzV → mzM → Prop} {o0 : Int} (h :
    (((4 : Int) ≠ 0 ∧ zin (Int.tdiv (μ 3 o0 1) 4)) ∧ (((4 : Int) ≠ 0 ∧ zin (Int.tdiv (μ 3 o0 2) 4)) ∧ (zin ((Int.tdiv (μ 3 o0 1) 4) * (Int.tdiv (μ 3 o0 2) 4)) ∧ Q (some (vI ((Int.tdiv (μ 3 o0 1) 4) * (Int.tdiv (μ 3 o0 2) 4)))) μ)))) :
    ZW f_X2_blocks 0 [vR 3 o0] [] μ Q := mvc_at zcd zml (C := zc14) rfl 15 0 h
theorem vc_X2_hasBlock_0 {μ : mzM} {Q : Option mzV → mzM → Prop} {o0 x1 : Int} (h :
    (if x1 < 0 then
    Q (some (vI 0)) μ
    else
    ZI f_X2_blocks [vR 3 o0] μ (fun r2 ν1 =>
      (if x1 < r2 then
      Q (some (vI 1)) ν1
      else
      Q (some (vI 0)) ν1)))) :
    ZW f_X2_hasBlock 0 [vR 3 o0, vI x1] [] μ Q := mvc_at zcd zml (C := zc15) rfl 15 0 h
theorem vc_X2_left_0 {μ : mzM} {Q : Option mzV → mzM → Prop} {o0 x1 : Int} (h :
    (((4 : Int) ≠ 0 ∧ zin (Int.tdiv (μ 3 o0 1) 4)) ∧ ZI f_J9_max_7cf53 [vI 1, vI (Int.tdiv (μ 3 o0 1) 4)] μ (fun r2 ν1 =>
    (r2 ≠ 0 ∧ (zin (4 * (Int.tmod x1 r2)) ∧ Q (some (vI (4 * (Int.tmod x1 r2)))) ν1))))) :
    ZW f_X2_left 0 [vR 3 o0, vI x1] [] μ Q := mvc_at zcd zml (C := zc16) rfl 16 0 h
theorem vc_X2_top_0 {μ : mzM} {Q : Option mzV → mzM → Prop} {o0 x1 : Int} (h :
    (((4 : Int) ≠ 0 ∧ zin (Int.tdiv (μ 3 o0 1) 4)) ∧ ZI f_J9_max_7cf53 [vI 1, vI (Int.tdiv (μ 3 o0 1) 4)] μ (fun r2 ν1 =>
    ((r2 ≠ 0 ∧ zin (Int.tdiv x1 r2)) ∧ (zin (4 * (Int.tdiv x1 r2)) ∧ Q (some (vI (4 * (Int.tdiv x1 r2)))) ν1))))) :
    ZW f_X2_top 0 [vR 3 o0, vI x1] [] μ Q := mvc_at zcd zml (C := zc17) rfl 16 0 h
theorem vc_X2_hasPart_0 {μ : mzM} {Q : Option mzV → mzM → Prop} {o0 x1 x2 : Int} (h :
    (if x1 < 0 then
    Q (some (vI 0)) μ
    else
    (zin ((μ 3 o0 1) - 4) ∧ (if ((μ 3 o0 1) - 4) < x1 then
      Q (some (vI 0)) μ
      else
      (if x2 < 0 then
        Q (some (vI 0)) μ
        else
        (zin ((μ 3 o0 2) - 4) ∧ (if ((μ 3 o0 2) - 4) < x2 then
          Q (some (vI 0)) μ
          else
          Q (some (vI 1)) μ))))))) :
    ZW f_X2_hasPart 0 [vR 3 o0, vI x1, vI x2] [] μ Q := mvc_at zcd zml (C := zc18) rfl 25 0 h
theorem vc_X2_partDigest_0 {μ : mzM} {Q : Option mzV → mzM → Prop} {o0 x1 x2 : Int} (h :
    ZW f_X2_partDigest 4 [vR 3 o0, vI x1, vI x2, vI 7, vI 0] [] μ Q) :
    ZW f_X2_partDigest 0 [vR 3 o0, vI x1, vI x2, none, none] [] μ Q := mvc_at zcd zml (C := zc19) rfl 35 0 h
theorem vc_X2_partDigest_4 {μ : mzM} {Q : Option mzV → mzM → Prop} {o0 x1 x2 x3 x4 : Int} (h :
    (if x4 < 16 then
    (zin (x3 * 31) ∧ ((4 : Int) ≠ 0 ∧ (zin (x1 + (Int.tmod x4 4)) ∧ (((4 : Int) ≠ 0 ∧ zin (Int.tdiv x4 4)) ∧ (zin (x2 + (Int.tdiv x4 4)) ∧ ZI f_X2_at [vR 3 o0, vI (x1 + (Int.tmod x4 4)), vI (x2 + (Int.tdiv x4 4))] μ (fun r2 ν1 =>
      (zin ((x3 * 31) + r2) ∧ ((9973 : Int) ≠ 0 ∧ (zin (x4 + 1) ∧ ZW f_X2_partDigest 4 [vR 3 o0, vI x1, vI x2, vI (Int.tmod ((x3 * 31) + r2) 9973), vI (x4 + 1)] [] ν1 Q)))))))))
    else
    Q (some (vI x3)) μ)) :
    ZW f_X2_partDigest 4 [vR 3 o0, vI x1, vI x2, vI x3, vI x4] [] μ Q := mvc_at zcd zml (C := zc19) rfl 35 4 h
theorem vc_X2_samePart_0 {μ : mzM} {Q : Option mzV → mzM → Prop} {o0 o3 x1 x2 x4 x5 : Int} (h :
    ZW f_X2_samePart 2 [vR 3 o0, vI x1, vI x2, vR 3 o3, vI x4, vI x5, vI 0, none, none] [] μ Q) :
    ZW f_X2_samePart 0 [vR 3 o0, vI x1, vI x2, vR 3 o3, vI x4, vI x5, none, none, none] [] μ Q := mvc_at zcd zml (C := zc20) rfl 71 0 h
theorem vc_X2_samePart_2 {μ : mzM} {Q : Option mzV → mzM → Prop} {o0 o3 x1 x2 x4 x5 x6 : Int} {v7 v8 : mzV} (h :
    (if x6 < 16 then
    (((4 : Int) ≠ 0 ∧ zin (Int.tdiv x6 4)) ∧ (zin (x2 + (Int.tdiv x6 4)) ∧ (zin ((x2 + (Int.tdiv x6 4)) * (μ 3 o0 1)) ∧ (zin (((x2 + (Int.tdiv x6 4)) * (μ 3 o0 1)) + x1) ∧ ((4 : Int) ≠ 0 ∧ (zin ((((x2 + (Int.tdiv x6 4)) * (μ 3 o0 1)) + x1) + (Int.tmod x6 4)) ∧ (((4 : Int) ≠ 0 ∧ zin (Int.tdiv x6 4)) ∧ (zin (x5 + (Int.tdiv x6 4)) ∧ (zin ((x5 + (Int.tdiv x6 4)) * (μ 3 o3 1)) ∧ (zin (((x5 + (Int.tdiv x6 4)) * (μ 3 o3 1)) + x4) ∧ ((4 : Int) ≠ 0 ∧ (zin ((((x5 + (Int.tdiv x6 4)) * (μ 3 o3 1)) + x4) + (Int.tmod x6 4)) ∧ (if ((((x2 + (Int.tdiv x6 4)) * (μ 3 o0 1)) + x1) + (Int.tmod x6 4)) < 0 then
      Q (some (vI 0)) μ
      else
      (if ((((x2 + (Int.tdiv x6 4)) * (μ 3 o0 1)) + x1) + (Int.tmod x6 4)) < 144 then
        (if ((((x5 + (Int.tdiv x6 4)) * (μ 3 o3 1)) + x4) + (Int.tmod x6 4)) < 0 then
          Q (some (vI 0)) μ
          else
          (if ((((x5 + (Int.tdiv x6 4)) * (μ 3 o3 1)) + x4) + (Int.tmod x6 4)) < 144 then
            ((0 ≤ ((((x2 + (Int.tdiv x6 4)) * (μ 3 o0 1)) + x1) + (Int.tmod x6 4)) ∧ ((((x2 + (Int.tdiv x6 4)) * (μ 3 o0 1)) + x1) + (Int.tmod x6 4)) < 144) ∧ ((0 ≤ ((((x5 + (Int.tdiv x6 4)) * (μ 3 o3 1)) + x4) + (Int.tmod x6 4)) ∧ ((((x5 + (Int.tdiv x6 4)) * (μ 3 o3 1)) + x4) + (Int.tmod x6 4)) < 144) ∧ (if (μ 4 o0 ((((x2 + (Int.tdiv x6 4)) * (μ 3 o0 1)) + x1) + (Int.tmod x6 4))) = (μ 4 o3 ((((x5 + (Int.tdiv x6 4)) * (μ 3 o3 1)) + x4) + (Int.tmod x6 4))) then
              (zin (x6 + 1) ∧ ZW f_X2_samePart 2 [vR 3 o0, vI x1, vI x2, vR 3 o3, vI x4, vI x5, vI (x6 + 1), vI ((((x2 + (Int.tdiv x6 4)) * (μ 3 o0 1)) + x1) + (Int.tmod x6 4)), vI ((((x5 + (Int.tdiv x6 4)) * (μ 3 o3 1)) + x4) + (Int.tmod x6 4))] [] μ Q)
              else
              Q (some (vI 0)) μ)))
            else
            Q (some (vI 0)) μ))
        else
        Q (some (vI 0)) μ))))))))))))))
    else
    Q (some (vI 1)) μ)) :
    ZW f_X2_samePart 2 [vR 3 o0, vI x1, vI x2, vR 3 o3, vI x4, vI x5, vI x6, v7, v8] [] μ Q := mvc_at zcd zml (C := zc20) rfl 71 2 h
theorem vc_X2_cellsUnlike_0 {μ : mzM} {Q : Option mzV → mzM → Prop} {o0 o1 : Int} (h :
    ZW f_X2_cellsUnlike 4 [vR 3 o0, vR 3 o1, vI 0, vI 0] [] μ Q) :
    ZW f_X2_cellsUnlike 0 [vR 3 o0, vR 3 o1, none, none] [] μ Q := mvc_at zcd zml (C := zc21) rfl 28 0 h
theorem vc_X2_cellsUnlike_4 {μ : mzM} {Q : Option mzV → mzM → Prop} {o0 o1 x2 x3 : Int} (h :
    (zin ((μ 3 o0 1) * (μ 3 o0 2)) ∧ (if x3 < ((μ 3 o0 1) * (μ 3 o0 2)) then
    ZI f_X2_numbered [vR 3 o0, vI x3] μ (fun r2 ν1 =>
      ZI f_X2_numbered [vR 3 o1, vI x3] ν1 (fun r4 ν3 =>
      (if r2 = r4 then
      (zin (x3 + 1) ∧ ZW f_X2_cellsUnlike 4 [vR 3 o0, vR 3 o1, vI x2, vI (x3 + 1)] [] ν3 Q)
      else
      (zin (x2 + 1) ∧ (zin (x3 + 1) ∧ ZW f_X2_cellsUnlike 4 [vR 3 o0, vR 3 o1, vI (x2 + 1), vI (x3 + 1)] [] ν3 Q)))))
    else
    Q (some (vI x2)) μ))) :
    ZW f_X2_cellsUnlike 4 [vR 3 o0, vR 3 o1, vI x2, vI x3] [] μ Q := mvc_at zcd zml (C := zc21) rfl 28 4 h
theorem vc_X2_fillBox_0 {μ : mzM} {Q : Option mzV → mzM → Prop} {o0 x1 x2 x3 x4 x5 : Int} (h :
    ZW f_X2_fillBox 2 [vR 3 o0, vI x1, vI x2, vI x3, vI x4, vI x5, vI x2, none] [] μ Q) :
    ZW f_X2_fillBox 0 [vR 3 o0, vI x1, vI x2, vI x3, vI x4, vI x5, none, none] [] μ Q := mvc_at zcd zml (C := zc22) rfl 39 0 h
theorem vc_X2_fillBox_2 {μ : mzM} {Q : Option mzV → mzM → Prop} {o0 x1 x2 x3 x4 x5 x6 : Int} {v7 : mzV} (h :
    (zin (x2 + x4) ∧ ZI f_J9_min_7cf53 [vI (μ 3 o0 2), vI (x2 + x4)] μ (fun r2 ν1 =>
    (if x6 < r2 then
    ZW f_X2_fillBox 12 [vR 3 o0, vI x1, vI x2, vI x3, vI x4, vI x5, vI x6, vI x1] [] ν1 Q
    else
    Q none ν1)))) :
    ZW f_X2_fillBox 2 [vR 3 o0, vI x1, vI x2, vI x3, vI x4, vI x5, vI x6, v7] [] μ Q := mvc_at zcd zml (C := zc22) rfl 39 2 h
theorem vc_X2_fillBox_12 {μ : mzM} {Q : Option mzV → mzM → Prop} {o0 x1 x2 x3 x4 x5 x6 x7 : Int} (h :
    (zin (x1 + x3) ∧ ZI f_J9_min_7cf53 [vI (μ 3 o0 1), vI (x1 + x3)] μ (fun r2 ν1 =>
    (if x7 < r2 then
    (zin (x6 * (ν1 3 o0 1)) ∧ (zin ((x6 * (ν1 3 o0 1)) + x7) ∧ ZV f_X2_putNumbered [vR 3 o0, vI ((x6 * (ν1 3 o0 1)) + x7), vI x5] ν1 (fun ν3 =>
      (zin (x7 + 1) ∧ ZW f_X2_fillBox 12 [vR 3 o0, vI x1, vI x2, vI x3, vI x4, vI x5, vI x6, vI (x7 + 1)] [] ν3 Q))))
    else
    (zin (x6 + 1) ∧ ZW f_X2_fillBox 2 [vR 3 o0, vI x1, vI x2, vI x3, vI x4, vI x5, vI (x6 + 1), vI x7] [] ν1 Q))))) :
    ZW f_X2_fillBox 12 [vR 3 o0, vI x1, vI x2, vI x3, vI x4, vI x5, vI x6, vI x7] [] μ Q := mvc_at zcd zml (C := zc22) rfl 39 12 h
theorem vc_X2_takeShifted_0 {μ : mzM} {Q : Option mzV → mzM → Prop} {o0 o1 x2 x3 : Int} (h :
    ZW f_X2_takeShifted 2 [vR 3 o0, vR 3 o1, vI x2, vI x3, vI 0, none] [] μ Q) :
    ZW f_X2_takeShifted 0 [vR 3 o0, vR 3 o1, vI x2, vI x3, none, none] [] μ Q := mvc_at zcd zml (C := zc23) rfl 38 0 h
theorem vc_X2_takeShifted_2 {μ : mzM} {Q : Option mzV → mzM → Prop} {o0 o1 x2 x3 x4 : Int} {v5 : mzV} (h :
    (if x4 < (μ 3 o0 2) then
    ZW f_X2_takeShifted 8 [vR 3 o0, vR 3 o1, vI x2, vI x3, vI x4, vI 0] [] μ Q
    else
    Q none μ)) :
    ZW f_X2_takeShifted 2 [vR 3 o0, vR 3 o1, vI x2, vI x3, vI x4, v5] [] μ Q := mvc_at zcd zml (C := zc23) rfl 38 2 h
theorem vc_X2_takeShifted_8 {μ : mzM} {Q : Option mzV → mzM → Prop} {o0 o1 x2 x3 x4 x5 : Int} (h :
    (if x5 < (μ 3 o0 1) then
    (zin (x4 * (μ 3 o0 1)) ∧ (zin ((x4 * (μ 3 o0 1)) + x5) ∧ (zin (x5 - x2) ∧ (zin (x4 - x3) ∧ ZI f_X2_at [vR 3 o1, vI (x5 - x2), vI (x4 - x3)] μ (fun r2 ν1 =>
      ZV f_X2_putNumbered [vR 3 o0, vI ((x4 * (μ 3 o0 1)) + x5), vI r2] ν1 (fun ν3 =>
      (zin (x5 + 1) ∧ ZW f_X2_takeShifted 8 [vR 3 o0, vR 3 o1, vI x2, vI x3, vI x4, vI (x5 + 1)] [] ν3 Q)))))))
    else
    (zin (x4 + 1) ∧ ZW f_X2_takeShifted 2 [vR 3 o0, vR 3 o1, vI x2, vI x3, vI (x4 + 1), vI x5] [] μ Q))) :
    ZW f_X2_takeShifted 8 [vR 3 o0, vR 3 o1, vI x2, vI x3, vI x4, vI x5] [] μ Q := mvc_at zcd zml (C := zc23) rfl 38 8 h
theorem vc_X2_swapValues_0 {μ : mzM} {Q : Option mzV → mzM → Prop} {o0 x1 x2 : Int} (h :
    ZW f_X2_swapValues 2 [vR 3 o0, vI x1, vI x2, vI 0] [] μ Q) :
    ZW f_X2_swapValues 0 [vR 3 o0, vI x1, vI x2, none] [] μ Q := mvc_at zcd zml (C := zc24) rfl 38 0 h
theorem vc_X2_swapValues_2 {μ : mzM} {Q : Option mzV → mzM → Prop} {o0 x1 x2 x3 : Int} (h :
    (if x3 < 144 then
    ((0 ≤ x3 ∧ x3 < 144) ∧ (if (μ 4 o0 x3) = x1 then
      ((0 ≤ x3 ∧ x3 < 144) ∧ (zin (x3 + 1) ∧ ZW f_X2_swapValues 2 [vR 3 o0, vI x1, vI x2, vI (x3 + 1)] [] (mup μ 4 o0 x3 x2) Q))
      else
      ((0 ≤ x3 ∧ x3 < 144) ∧ (if (μ 4 o0 x3) = x2 then
        ((0 ≤ x3 ∧ x3 < 144) ∧ (zin (x3 + 1) ∧ ZW f_X2_swapValues 2 [vR 3 o0, vI x1, vI x2, vI (x3 + 1)] [] (mup μ 4 o0 x3 x1) Q))
        else
        (zin (x3 + 1) ∧ ZW f_X2_swapValues 2 [vR 3 o0, vI x1, vI x2, vI (x3 + 1)] [] μ Q)))))
    else
    Q none μ)) :
    ZW f_X2_swapValues 2 [vR 3 o0, vI x1, vI x2, vI x3] [] μ Q := mvc_at zcd zml (C := zc24) rfl 38 2 h
theorem vc_X3_plan_0 {μ : mzM} {Q : Option mzV → mzM → Prop} {o0 o1 o2 o3 : Int} (h :
    ZI f_J9_min_7cf53 [vI (μ 1 o1 3), vI 10] μ (fun r2 ν1 =>
    ZV f_X3_measure [vR 15 o0, vR 1 o1, vR 11 o2, vR 2 o3, vI r2] ν1 (fun ν3 =>
    ZI f_X3_costOf [vR 15 o0, vI 1, vI r2, vI (ν3 1 o1 6)] ν3 (fun r5 ν4 =>
    ZW f_X3_plan 24 [vR 15 o0, vR 1 o1, vR 11 o2, vR 2 o3, vI r2, vI 3, none, none] [] (mup (mup ν4 15 o0 2 r5) 15 o0 3 1) Q)))) :
    ZW f_X3_plan 0 [vR 15 o0, vR 1 o1, vR 11 o2, vR 2 o3, none, none, none, none] [] μ Q := mvc_at zcd zml (C := zc25) rfl 70 0 h
theorem vc_X3_plan_24 {μ : mzM} {Q : Option mzV → mzM → Prop} {o0 o1 o2 o3 x4 x5 : Int} {v6 v7 : mzV} (h :
    (if x5 < (zshl 1 x4) then
    ZI f_X3_costOf [vR 15 o0, vI x5, vI x4, vI (μ 1 o1 6)] μ (fun r2 ν1 =>
      ZI f_J6_bitCount_0f7a4 [vI x5] ν1 (fun r4 ν3 =>
      ZI f_J6_bitCount_0f7a4 [vI (ν3 15 o0 3)] ν3 (fun r6 ν5 =>
      (if r4 < r6 then
      (if r2 < (ν5 15 o0 2) then
        (zin (x5 + 2) ∧ ZW f_X3_plan 24 [vR 15 o0, vR 1 o1, vR 11 o2, vR 2 o3, vI x4, vI (x5 + 2), vI r2, vI 1] [] (mup (mup ν5 15 o0 2 r2) 15 o0 3 x5) Q)
        else
        (if r2 = (ν5 15 o0 2) then
          (zin (x5 + 2) ∧ ZW f_X3_plan 24 [vR 15 o0, vR 1 o1, vR 11 o2, vR 2 o3, vI x4, vI (x5 + 2), vI r2, vI 1] [] (mup (mup ν5 15 o0 2 r2) 15 o0 3 x5) Q)
          else
          (zin (x5 + 2) ∧ ZW f_X3_plan 24 [vR 15 o0, vR 1 o1, vR 11 o2, vR 2 o3, vI x4, vI (x5 + 2), vI r2, vI 1] [] ν5 Q)))
      else
      (if r2 < (ν5 15 o0 2) then
        (zin (x5 + 2) ∧ ZW f_X3_plan 24 [vR 15 o0, vR 1 o1, vR 11 o2, vR 2 o3, vI x4, vI (x5 + 2), vI r2, vI 0] [] (mup (mup ν5 15 o0 2 r2) 15 o0 3 x5) Q)
        else
        (if r2 = (ν5 15 o0 2) then
          (zin (x5 + 2) ∧ ZW f_X3_plan 24 [vR 15 o0, vR 1 o1, vR 11 o2, vR 2 o3, vI x4, vI (x5 + 2), vI r2, vI 0] [] ν5 Q)
          else
          (zin (x5 + 2) ∧ ZW f_X3_plan 24 [vR 15 o0, vR 1 o1, vR 11 o2, vR 2 o3, vI x4, vI (x5 + 2), vI r2, vI 0] [] ν5 Q)))))))
    else
    Q none μ)) :
    ZW f_X3_plan 24 [vR 15 o0, vR 1 o1, vR 11 o2, vR 2 o3, vI x4, vI x5, v6, v7] [] μ Q := mvc_at zcd zml (C := zc25) rfl 70 24 h
theorem vc_X3_measure_0 {μ : mzM} {Q : Option mzV → mzM → Prop} {o0 o1 o2 o3 x4 : Int} (h :
    ZW f_X3_measure 2 [vR 15 o0, vR 1 o1, vR 11 o2, vR 2 o3, vI x4, vI 0] [] μ Q) :
    ZW f_X3_measure 0 [vR 15 o0, vR 1 o1, vR 11 o2, vR 2 o3, vI x4, none] [] μ Q := mvc_at zcd zml (C := zc26) rfl 55 0 h
theorem vc_X3_measure_2 {μ : mzM} {Q : Option mzV → mzM → Prop} {o0 o1 o2 o3 x4 x5 : Int} (h :
    (if x5 < x4 then
    (if x5 < 10 then
      (if x5 < 10 then
        ZR f_X6_imageOf 3 [vR 1 o1, vI x5] μ (fun r2 ν1 =>
          ZV f_X2_take [vR 3 o3, vR 3 r2] ν1 (fun ν3 =>
          ZV f_X0_encode [vR 11 o2, vR 2 o3, vR 1 o1, vI (-1)] ν3 (fun ν4 =>
          ((0 ≤ x5 ∧ x5 < 10) ∧ (if (0 : Int) < x5 then
          (zin (x5 - 1) ∧ ZV f_X0_encode [vR 11 o2, vR 2 o3, vR 1 o1, vI (x5 - 1)] (mup ν4 16 0 x5 (ν4 2 o3 3)) (fun ν5 =>
            ((0 ≤ x5 ∧ x5 < 10) ∧ (zin (x5 + 1) ∧ ZW f_X3_measure 2 [vR 15 o0, vR 1 o1, vR 11 o2, vR 2 o3, vI x4, vI (x5 + 1)] [] (mup ν5 17 0 x5 (ν5 2 o3 3)) Q))))
          else
          (zin (x5 + 1) ∧ ZW f_X3_measure 2 [vR 15 o0, vR 1 o1, vR 11 o2, vR 2 o3, vI x4, vI (x5 + 1)] [] (mup ν4 16 0 x5 (ν4 2 o3 3)) Q))))))
        else
        Q none μ)
      else
      Q none μ)
    else
    Q none μ)) :
    ZW f_X3_measure 2 [vR 15 o0, vR 1 o1, vR 11 o2, vR 2 o3, vI x4, vI x5] [] μ Q := mvc_at zcd zml (C := zc26) rfl 55 2 h
theorem vc_X3_costOf_0 {μ : mzM} {Q : Option mzV → mzM → Prop} {o0 x1 x2 x3 : Int} (h :
    ZW f_X3_costOf 8 [vR 15 o0, vI x1, vI x2, vI x3, vI 0, vI 0, vI 0, vI 0, none, none] [] μ Q) :
    ZW f_X3_costOf 0 [vR 15 o0, vI x1, vI x2, vI x3, none, none, none, none, none, none] [] μ Q := mvc_at zcd zml (C := zc27) rfl 73 0 h
theorem vc_X3_costOf_8 {μ : mzM} {Q : Option mzV → mzM → Prop} {o0 x1 x2 x3 x4 x5 x6 x7 : Int} {v8 v9 : mzV} (h :
    (if x7 < x2 then
    (if x7 < 10 then
      (if x7 < 10 then
        (if (zand (zshr x1 x7) 1) = 1 then
          ((0 ≤ x7 ∧ x7 < 10) ∧ (zin (x4 + (μ 16 0 x7)) ∧ ZI f_J9_max_7cf53 [vI x6, vI (μ 16 0 x7)] μ (fun r2 ν1 =>
            (zin (x7 + 1) ∧ ZW f_X3_costOf 8 [vR 15 o0, vI x1, vI x2, vI x3, vI (x4 + (μ 16 0 x7)), vI (μ 16 0 x7), vI r2, vI (x7 + 1), vI 1, vI (μ 16 0 x7)] [] ν1 Q))))
          else
          ((0 ≤ x7 ∧ x7 < 10) ∧ (zin (x4 + (μ 17 0 x7)) ∧ (zin (x5 + (μ 17 0 x7)) ∧ ZI f_J9_max_7cf53 [vI x6, vI (x5 + (μ 17 0 x7))] μ (fun r4 ν3 =>
            (zin (x7 + 1) ∧ ZW f_X3_costOf 8 [vR 15 o0, vI x1, vI x2, vI x3, vI (x4 + (μ 17 0 x7)), vI (x5 + (μ 17 0 x7)), vI r4, vI (x7 + 1), vI 0, vI (μ 17 0 x7)] [] ν3 Q))))))
        else
        (zin (x3 * x6) ∧ (zin (x4 + (x3 * x6)) ∧ Q (some (vI (x4 + (x3 * x6)))) μ)))
      else
      (zin (x3 * x6) ∧ (zin (x4 + (x3 * x6)) ∧ Q (some (vI (x4 + (x3 * x6)))) μ)))
    else
    (zin (x3 * x6) ∧ (zin (x4 + (x3 * x6)) ∧ Q (some (vI (x4 + (x3 * x6)))) μ)))) :
    ZW f_X3_costOf 8 [vR 15 o0, vI x1, vI x2, vI x3, vI x4, vI x5, vI x6, vI x7, v8, v9] [] μ Q := mvc_at zcd zml (C := zc27) rfl 73 8 h
theorem vc_X3_referenceOf_0 {μ : mzM} {Q : Option mzV → mzM → Prop} {o0 x1 : Int} (h :
    (if (zand (zshr (μ 15 o0 3) x1) 1) = 1 then
    Q (some (vI (-1))) μ
    else
    (zin (x1 - 1) ∧ Q (some (vI (x1 - 1))) μ))) :
    ZW f_X3_referenceOf 0 [vR 15 o0, vI x1] [] μ Q := mvc_at zcd zml (C := zc28) rfl 19 0 h
theorem vc_X4_read_0 {μ : mzM} {Q : Option mzV → mzM → Prop} {o0 o1 o2 x3 : Int} (h :
    ZI f_X2_left [vR 3 o1, vI x3] μ (fun r2 ν1 =>
    ZI f_X2_top [vR 3 o1, vI x3] ν1 (fun r4 ν3 =>
    ZW f_X4_read 13 [vR 12 o0, vR 3 o1, vR 3 o2, vI x3, vI r2, vI r4, vI 0, none, none, none] [] (mup ν3 12 o0 2 0) Q))) :
    ZW f_X4_read 0 [vR 12 o0, vR 3 o1, vR 3 o2, vI x3, none, none, none, none, none, none] [] μ Q := mvc_at zcd zml (C := zc29) rfl 55 0 h
theorem vc_X4_read_0b {μ : mzM} {Q : Option mzV → mzM → Prop} {o0 o1 x3 : Int} (h :
    ZI f_X2_left [vR 3 o1, vI x3] μ (fun r2 ν1 =>
    ZI f_X2_top [vR 3 o1, vI x3] ν1 (fun r4 ν3 =>
    ZW f_X4_read 13 [vR 12 o0, vR 3 o1, vR 99 0, vI x3, vI r2, vI r4, vI 0, none, none, none] [] (mup ν3 12 o0 2 0) Q))) :
    ZW f_X4_read 0 [vR 12 o0, vR 3 o1, vR 99 0, vI x3, none, none, none, none, none, none] [] μ Q := mvc_at zcd zml (C := zc29) rfl 55 0 h
theorem vc_X4_read_13 {μ : mzM} {Q : Option mzV → mzM → Prop} {o0 o1 o2 x3 x4 x5 x6 : Int} {v7 v8 v9 : mzV} (h :
    (if x6 < 16 then
    ((4 : Int) ≠ 0 ∧ (zin (x4 + (Int.tmod x6 4)) ∧ (((4 : Int) ≠ 0 ∧ zin (Int.tdiv x6 4)) ∧ (zin (x5 + (Int.tdiv x6 4)) ∧ ZI f_X2_at [vR 3 o1, vI (x4 + (Int.tmod x6 4)), vI (x5 + (Int.tdiv x6 4))] μ (fun r2 ν1 =>
      ZI f_X2_at [vR 3 o2, vI (x4 + (Int.tmod x6 4)), vI (x5 + (Int.tdiv x6 4))] ν1 (fun r4 ν3 =>
      (zin (r2 - r4) ∧ ZV f_X4_addCell [vR 12 o0, vI (zand (r2 - r4) 15)] ν3 (fun ν5 =>
      (zin (x6 + 1) ∧ ZW f_X4_read 13 [vR 12 o0, vR 3 o1, vR 3 o2, vI x3, vI x4, vI x5, vI (x6 + 1), vI (x4 + (Int.tmod x6 4)), vI (x5 + (Int.tdiv x6 4)), vI (zand (r2 - r4) 15)] [] ν5 Q)))))))))
    else
    Q none μ)) :
    ZW f_X4_read 13 [vR 12 o0, vR 3 o1, vR 3 o2, vI x3, vI x4, vI x5, vI x6, v7, v8, v9] [] μ Q := mvc_at zcd zml (C := zc29) rfl 55 13 h
theorem vc_X4_read_13b {μ : mzM} {Q : Option mzV → mzM → Prop} {o0 o1 x3 x4 x5 x6 : Int} {v7 v8 v9 : mzV} (h :
    (if x6 < 16 then
    ((4 : Int) ≠ 0 ∧ (zin (x4 + (Int.tmod x6 4)) ∧ (((4 : Int) ≠ 0 ∧ zin (Int.tdiv x6 4)) ∧ (zin (x5 + (Int.tdiv x6 4)) ∧ ZI f_X2_at [vR 3 o1, vI (x4 + (Int.tmod x6 4)), vI (x5 + (Int.tdiv x6 4))] μ (fun r2 ν1 =>
      ZV f_X4_addCell [vR 12 o0, vI r2] ν1 (fun ν3 =>
      (zin (x6 + 1) ∧ ZW f_X4_read 13 [vR 12 o0, vR 3 o1, vR 99 0, vI x3, vI x4, vI x5, vI (x6 + 1), vI (x4 + (Int.tmod x6 4)), vI (x5 + (Int.tdiv x6 4)), vI r2] [] ν3 Q)))))))
    else
    Q none μ)) :
    ZW f_X4_read 13 [vR 12 o0, vR 3 o1, vR 99 0, vI x3, vI x4, vI x5, vI x6, v7, v8, v9] [] μ Q := mvc_at zcd zml (C := zc29) rfl 55 13 h
theorem vc_X4_addCell_0 {μ : mzM} {Q : Option mzV → mzM → Prop} {o0 x1 : Int} (h :
    (zin ((μ 12 o0 2) - 1) ∧ (if ((μ 12 o0 2) - 1) < 0 then
    (if (μ 12 o0 2) < 0 then
      Q none μ
      else
      (if (μ 12 o0 2) < 16 then
        (if (μ 12 o0 2) < 16 then
          ((0 ≤ (μ 12 o0 2) ∧ (μ 12 o0 2) < 16) ∧ ((0 ≤ ((mup μ 13 o0 (μ 12 o0 2) 1) 12 o0 2) ∧ ((mup μ 13 o0 (μ 12 o0 2) 1) 12 o0 2) < 16) ∧ (zin (((mup (mup μ 13 o0 (μ 12 o0 2) 1) 14 o0 ((mup μ 13 o0 (μ 12 o0 2) 1) 12 o0 2) x1) 12 o0 2) + 1) ∧ Q none (mup (mup (mup μ 13 o0 (μ 12 o0 2) 1) 14 o0 ((mup μ 13 o0 (μ 12 o0 2) 1) 12 o0 2) x1) 12 o0 2 (((mup (mup μ 13 o0 (μ 12 o0 2) 1) 14 o0 ((mup μ 13 o0 (μ 12 o0 2) 1) 12 o0 2) x1) 12 o0 2) + 1)))))
          else
          Q none μ)
        else
        Q none μ))
    else
    (if ((μ 12 o0 2) - 1) < 16 then
      ((0 ≤ ((μ 12 o0 2) - 1) ∧ ((μ 12 o0 2) - 1) < 16) ∧ (if (μ 14 o0 ((μ 12 o0 2) - 1)) = x1 then
        (if ((μ 12 o0 2) - 1) < 16 then
          ((0 ≤ ((μ 12 o0 2) - 1) ∧ ((μ 12 o0 2) - 1) < 16) ∧ (zin ((μ 13 o0 ((μ 12 o0 2) - 1)) + 1) ∧ ((0 ≤ ((μ 12 o0 2) - 1) ∧ ((μ 12 o0 2) - 1) < 16) ∧ Q none (mup μ 13 o0 ((μ 12 o0 2) - 1) ((μ 13 o0 ((μ 12 o0 2) - 1)) + 1)))))
          else
          (if (μ 12 o0 2) < 0 then
            Q none μ
            else
            (if (μ 12 o0 2) < 16 then
              (if (μ 12 o0 2) < 16 then
                ((0 ≤ (μ 12 o0 2) ∧ (μ 12 o0 2) < 16) ∧ ((0 ≤ ((mup μ 13 o0 (μ 12 o0 2) 1) 12 o0 2) ∧ ((mup μ 13 o0 (μ 12 o0 2) 1) 12 o0 2) < 16) ∧ (zin (((mup (mup μ 13 o0 (μ 12 o0 2) 1) 14 o0 ((mup μ 13 o0 (μ 12 o0 2) 1) 12 o0 2) x1) 12 o0 2) + 1) ∧ Q none (mup (mup (mup μ 13 o0 (μ 12 o0 2) 1) 14 o0 ((mup μ 13 o0 (μ 12 o0 2) 1) 12 o0 2) x1) 12 o0 2 (((mup (mup μ 13 o0 (μ 12 o0 2) 1) 14 o0 ((mup μ 13 o0 (μ 12 o0 2) 1) 12 o0 2) x1) 12 o0 2) + 1)))))
                else
                Q none μ)
              else
              Q none μ)))
        else
        (if (μ 12 o0 2) < 0 then
          Q none μ
          else
          (if (μ 12 o0 2) < 16 then
            (if (μ 12 o0 2) < 16 then
              ((0 ≤ (μ 12 o0 2) ∧ (μ 12 o0 2) < 16) ∧ ((0 ≤ ((mup μ 13 o0 (μ 12 o0 2) 1) 12 o0 2) ∧ ((mup μ 13 o0 (μ 12 o0 2) 1) 12 o0 2) < 16) ∧ (zin (((mup (mup μ 13 o0 (μ 12 o0 2) 1) 14 o0 ((mup μ 13 o0 (μ 12 o0 2) 1) 12 o0 2) x1) 12 o0 2) + 1) ∧ Q none (mup (mup (mup μ 13 o0 (μ 12 o0 2) 1) 14 o0 ((mup μ 13 o0 (μ 12 o0 2) 1) 12 o0 2) x1) 12 o0 2 (((mup (mup μ 13 o0 (μ 12 o0 2) 1) 14 o0 ((mup μ 13 o0 (μ 12 o0 2) 1) 12 o0 2) x1) 12 o0 2) + 1)))))
              else
              Q none μ)
            else
            Q none μ))))
      else
      (if (μ 12 o0 2) < 0 then
        Q none μ
        else
        (if (μ 12 o0 2) < 16 then
          (if (μ 12 o0 2) < 16 then
            ((0 ≤ (μ 12 o0 2) ∧ (μ 12 o0 2) < 16) ∧ ((0 ≤ ((mup μ 13 o0 (μ 12 o0 2) 1) 12 o0 2) ∧ ((mup μ 13 o0 (μ 12 o0 2) 1) 12 o0 2) < 16) ∧ (zin (((mup (mup μ 13 o0 (μ 12 o0 2) 1) 14 o0 ((mup μ 13 o0 (μ 12 o0 2) 1) 12 o0 2) x1) 12 o0 2) + 1) ∧ Q none (mup (mup (mup μ 13 o0 (μ 12 o0 2) 1) 14 o0 ((mup μ 13 o0 (μ 12 o0 2) 1) 12 o0 2) x1) 12 o0 2 (((mup (mup μ 13 o0 (μ 12 o0 2) 1) 14 o0 ((mup μ 13 o0 (μ 12 o0 2) 1) 12 o0 2) x1) 12 o0 2) + 1)))))
            else
            Q none μ)
          else
          Q none μ)))))) :
    ZW f_X4_addCell 0 [vR 12 o0, vI x1, none, none] [] μ Q := mvc_at zcd zml (C := zc30) rfl 77 0 h
theorem vc_X4_lengthOf_0 {μ : mzM} {Q : Option mzV → mzM → Prop} {o0 x1 : Int} (h :
    (if x1 < 0 then
    Q (some (vI 0)) μ
    else
    (if x1 < 16 then
      ((0 ≤ x1 ∧ x1 < 16) ∧ Q (some (vI (μ 13 o0 x1))) μ)
      else
      Q (some (vI 0)) μ))) :
    ZW f_X4_lengthOf 0 [vR 12 o0, vI x1] [] μ Q := mvc_at zcd zml (C := zc31) rfl 19 0 h
theorem vc_X4_valueOf_0 {μ : mzM} {Q : Option mzV → mzM → Prop} {o0 x1 : Int} (h :
    (if x1 < 0 then
    Q (some (vI 0)) μ
    else
    (if x1 < 16 then
      ((0 ≤ x1 ∧ x1 < 16) ∧ Q (some (vI (μ 14 o0 x1))) μ)
      else
      Q (some (vI 0)) μ))) :
    ZW f_X4_valueOf 0 [vR 12 o0, vI x1] [] μ Q := mvc_at zcd zml (C := zc32) rfl 19 0 h
theorem vc_X5_append_0 {μ : mzM} {Q : Option mzV → mzM → Prop} {o0 x1 : Int} (h :
    (if (μ 8 o0 1) < 0 then
    Q (some (vI (μ 8 o0 1))) μ
    else
    (if (μ 8 o0 1) < 160 then
      ((0 ≤ (μ 8 o0 1) ∧ (μ 8 o0 1) < 160) ∧ (zin (((mup μ 9 0 (μ 8 o0 1) (x1 % 65536)) 8 o0 1) + 1) ∧ Q (some (vI ((mup (mup μ 9 0 (μ 8 o0 1) (x1 % 65536)) 8 o0 1 (((mup μ 9 0 (μ 8 o0 1) (x1 % 65536)) 8 o0 1) + 1)) 8 o0 1))) (mup (mup μ 9 0 (μ 8 o0 1) (x1 % 65536)) 8 o0 1 (((mup μ 9 0 (μ 8 o0 1) (x1 % 65536)) 8 o0 1) + 1))))
      else
      Q (some (vI (μ 8 o0 1))) μ))) :
    ZW f_X5_append 0 [vR 8 o0, vI x1] [] μ Q := mvc_at zcd zml (C := zc33) rfl 29 0 h
theorem vc_X5_wordOf_0 {μ : mzM} {Q : Option mzV → mzM → Prop} {x0 : Int} (h :
    (if x0 = 0 then
    Q (some (vR 30 0)) μ
    else
    (if x0 = 1 then
    Q (some (vR 30 1)) μ
    else
    (if x0 = 2 then
    Q (some (vR 30 2)) μ
    else
    (if x0 = 3 then
    Q (some (vR 30 3)) μ
    else
    Q (some (vR 30 4)) μ))))) :
    ZW f_X5_wordOf 0 [vI x0] [] μ Q := mvc_at zcd zml (C := zc34) rfl 17 0 h
theorem vc_X5_argumentsOf_0 {μ : mzM} {Q : Option mzV → mzM → Prop} {x0 : Int} (h :
    (if x0 = 0 then
    Q (some (vR 30 5)) μ
    else
    (if x0 = 1 then
    Q (some (vR 30 6)) μ
    else
    (if x0 = 2 then
    Q (some (vR 30 7)) μ
    else
    (if x0 = 3 then
    Q (some (vR 30 8)) μ
    else
    Q (some (vR 30 9)) μ))))) :
    ZW f_X5_argumentsOf 0 [vI x0] [] μ Q := mvc_at zcd zml (C := zc35) rfl 17 0 h
theorem vc_X5_errorPosition_0 {μ : mzM} {Q : Option mzV → mzM → Prop} {o0 o1 : Int} (h :
    ZW f_X5_errorPosition 8 [vR 8 o0, vR 1 o1, vI 0] [] (mup (mup μ 8 o0 4 0) 8 o0 7 0) Q) :
    ZW f_X5_errorPosition 0 [vR 8 o0, vR 1 o1, none] [] μ Q := mvc_at zcd zml (C := zc36) rfl 35 0 h
theorem vc_X5_errorPosition_8 {μ : mzM} {Q : Option mzV → mzM → Prop} {o0 o1 x2 : Int} (h :
    (if (160 : Int) < x2 then
    Q (some (vI (μ 8 o0 3))) μ
    else
    ZV f_X5_nextToken [vR 8 o0] μ (fun ν1 =>
      (if (ν1 8 o0 2) = 0 then
      Q (some (vI (-1))) ν1
      else
      ZI f_X5_readCommand [vR 8 o0, vR 1 o1] ν1 (fun r3 ν2 =>
        (if r3 = 0 then
        Q (some (vI (ν2 8 o0 3))) ν2
        else
        (zin (x2 + 1) ∧ ZW f_X5_errorPosition 8 [vR 8 o0, vR 1 o1, vI (x2 + 1)] [] ν2 Q))))))) :
    ZW f_X5_errorPosition 8 [vR 8 o0, vR 1 o1, vI x2] [] μ Q := mvc_at zcd zml (C := zc36) rfl 35 8 h
theorem vc_X5_readCommand_0 {μ : mzM} {Q : Option mzV → mzM → Prop} {o0 o1 : Int} (h :
    ZI f_X5_commandOfToken [vR 8 o0] μ (fun r2 ν1 =>
    (if r2 < 0 then
    Q (some (vI 0)) ν1
    else
    ZV f_X5_addToProgram [vR 8 o0, vI r2] ν1 (fun ν3 =>
      ZR f_X5_argumentsOf 30 [vI r2] ν3 (fun r5 ν4 =>
      ZW f_X5_readCommand 15 [vR 8 o0, vR 1 o1, vI r2, vR 30 r5, vI 0] [] ν4 Q))))) :
    ZW f_X5_readCommand 0 [vR 8 o0, vR 1 o1, none, none, none] [] μ Q := mvc_at zcd zml (C := zc37) rfl 60 0 h
theorem vc_X5_readCommand_15 {μ : mzM} {Q : Option mzV → mzM → Prop} {o0 o1 o3 x2 x4 : Int} (h :
    ZI f_J0_length_8abf5 [vR 30 o3] μ (fun r2 ν1 =>
    (if x4 < r2 then
    ZV f_X5_nextToken [vR 8 o0] ν1 (fun ν3 =>
      ZI f_X5_readNumber [vR 8 o0] ν3 (fun r5 ν4 =>
      (if r5 = 0 then
      Q (some (vI 0)) ν4
      else
      ZI f_J0_charAt_5068e [vR 30 o3, vI x4] ν4 (fun r7 ν6 =>
        ZI f_X5_isAllowed [vR 8 o0, vI r7, vR 1 o1] ν6 (fun r9 ν8 =>
        (if r9 = 0 then
        Q (some (vI 0)) ν8
        else
        ZV f_X5_addToProgram [vR 8 o0, vI (ν8 8 o0 5)] ν8 (fun ν10 =>
          (zin (x4 + 1) ∧ ZW f_X5_readCommand 15 [vR 8 o0, vR 1 o1, vI x2, vR 30 o3, vI (x4 + 1)] [] ν10 Q))))))))
    else
    ZV f_X5_nextToken [vR 8 o0] ν1 (fun ν11 =>
      (if (ν11 8 o0 2) = 3 then
      ZI f_X5_signAt [vR 8 o0, vI (ν11 8 o0 3)] ν11 (fun r13 ν12 =>
        (if r13 = 59 then
        Q (some (vI 1)) ν12
        else
        Q (some (vI 0)) ν12))
      else
      Q (some (vI 0)) ν11))))) :
    ZW f_X5_readCommand 15 [vR 8 o0, vR 1 o1, vI x2, vR 30 o3, vI x4] [] μ Q := mvc_at zcd zml (C := zc37) rfl 60 15 h
theorem vc_X5_addToProgram_0 {μ : mzM} {Q : Option mzV → mzM → Prop} {o0 x1 : Int} (h :
    (if (μ 8 o0 7) < 0 then
    Q none μ
    else
    (if (μ 8 o0 7) < 160 then
      ((0 ≤ (μ 8 o0 7) ∧ (μ 8 o0 7) < 160) ∧ (zin (((mup μ 10 0 (μ 8 o0 7) x1) 8 o0 7) + 1) ∧ Q none (mup (mup μ 10 0 (μ 8 o0 7) x1) 8 o0 7 (((mup μ 10 0 (μ 8 o0 7) x1) 8 o0 7) + 1))))
      else
      Q none μ))) :
    ZW f_X5_addToProgram 0 [vR 8 o0, vI x1] [] μ Q := mvc_at zcd zml (C := zc38) rfl 27 0 h
theorem vc_X5_nextToken_0 {μ : mzM} {Q : Option mzV → mzM → Prop} {o0 : Int} (h :
    ZW f_X5_nextToken 4 [vR 8 o0, none] [] (mup μ 8 o0 3 (μ 8 o0 4)) Q) :
    ZW f_X5_nextToken 0 [vR 8 o0, none] [] μ Q := mvc_at zcd zml (C := zc39) rfl 106 0 h
theorem vc_X5_nextToken_4 {μ : mzM} {Q : Option mzV → mzM → Prop} {o0 : Int} (h :
    (if (μ 8 o0 3) < (μ 8 o0 1) then
    ZI f_X5_signAt [vR 8 o0, vI (μ 8 o0 3)] μ (fun r2 ν1 =>
      (if r2 = 32 then
      (zin ((ν1 8 o0 3) + 1) ∧ ZW f_X5_nextToken 4 [vR 8 o0, none] [] (mup ν1 8 o0 3 ((ν1 8 o0 3) + 1)) Q)
      else
      (if ((mup ν1 8 o0 4 (ν1 8 o0 3)) 8 o0 3) < ((mup ν1 8 o0 4 (ν1 8 o0 3)) 8 o0 1) then
        (zin (((mup ν1 8 o0 4 (ν1 8 o0 3)) 8 o0 4) + 1) ∧ ZI f_X5_signAt [vR 8 o0, vI ((mup (mup ν1 8 o0 4 (ν1 8 o0 3)) 8 o0 4 (((mup ν1 8 o0 4 (ν1 8 o0 3)) 8 o0 4) + 1)) 8 o0 3)] (mup (mup ν1 8 o0 4 (ν1 8 o0 3)) 8 o0 4 (((mup ν1 8 o0 4 (ν1 8 o0 3)) 8 o0 4) + 1)) (fun r4 ν3 =>
          ZI f_X5_isLetter [vI r4] ν3 (fun r6 ν5 =>
          (if r6 = 0 then
          (if r4 = 45 then
            ZW f_X5_nextToken 79 [vR 8 o0, vI r4] [] (mup ν5 8 o0 2 2) Q
            else
            ZI f_X5_isDigit [vI r4] ν5 (fun r8 ν7 =>
              (if r8 = 0 then
              Q none (mup ν7 8 o0 2 3)
              else
              ZW f_X5_nextToken 79 [vR 8 o0, vI r4] [] (mup ν7 8 o0 2 2) Q)))
          else
          ZW f_X5_nextToken 52 [vR 8 o0, vI r4] [] (mup ν5 8 o0 2 1) Q))))
        else
        Q none (mup (mup ν1 8 o0 4 (ν1 8 o0 3)) 8 o0 2 0))))
    else
    (if ((mup μ 8 o0 4 (μ 8 o0 3)) 8 o0 3) < ((mup μ 8 o0 4 (μ 8 o0 3)) 8 o0 1) then
      (zin (((mup μ 8 o0 4 (μ 8 o0 3)) 8 o0 4) + 1) ∧ ZI f_X5_signAt [vR 8 o0, vI ((mup (mup μ 8 o0 4 (μ 8 o0 3)) 8 o0 4 (((mup μ 8 o0 4 (μ 8 o0 3)) 8 o0 4) + 1)) 8 o0 3)] (mup (mup μ 8 o0 4 (μ 8 o0 3)) 8 o0 4 (((mup μ 8 o0 4 (μ 8 o0 3)) 8 o0 4) + 1)) (fun r10 ν9 =>
        ZI f_X5_isLetter [vI r10] ν9 (fun r12 ν11 =>
        (if r12 = 0 then
        (if r10 = 45 then
          ZW f_X5_nextToken 79 [vR 8 o0, vI r10] [] (mup ν11 8 o0 2 2) Q
          else
          ZI f_X5_isDigit [vI r10] ν11 (fun r14 ν13 =>
            (if r14 = 0 then
            Q none (mup ν13 8 o0 2 3)
            else
            ZW f_X5_nextToken 79 [vR 8 o0, vI r10] [] (mup ν13 8 o0 2 2) Q)))
        else
        ZW f_X5_nextToken 52 [vR 8 o0, vI r10] [] (mup ν11 8 o0 2 1) Q))))
      else
      Q none (mup (mup μ 8 o0 4 (μ 8 o0 3)) 8 o0 2 0)))) :
    ZW f_X5_nextToken 4 [vR 8 o0, none] [] μ Q := mvc_at zcd zml (C := zc39) rfl 106 4 h
theorem vc_X5_nextToken_52 {μ : mzM} {Q : Option mzV → mzM → Prop} {o0 x1 : Int} (h :
    (if (μ 8 o0 4) < (μ 8 o0 1) then
    ZI f_X5_signAt [vR 8 o0, vI (μ 8 o0 4)] μ (fun r2 ν1 =>
      ZI f_X5_isLetter [vI r2] ν1 (fun r4 ν3 =>
      (if r4 = 0 then
      Q none ν3
      else
      (zin ((ν3 8 o0 4) + 1) ∧ ZW f_X5_nextToken 52 [vR 8 o0, vI x1] [] (mup ν3 8 o0 4 ((ν3 8 o0 4) + 1)) Q))))
    else
    Q none μ)) :
    ZW f_X5_nextToken 52 [vR 8 o0, vI x1] [] μ Q := mvc_at zcd zml (C := zc39) rfl 106 52 h
theorem vc_X5_nextToken_79 {μ : mzM} {Q : Option mzV → mzM → Prop} {o0 x1 : Int} (h :
    (if (μ 8 o0 4) < (μ 8 o0 1) then
    ZI f_X5_signAt [vR 8 o0, vI (μ 8 o0 4)] μ (fun r2 ν1 =>
      ZI f_X5_isDigit [vI r2] ν1 (fun r4 ν3 =>
      (if r4 = 0 then
      Q none ν3
      else
      (zin ((ν3 8 o0 4) + 1) ∧ ZW f_X5_nextToken 79 [vR 8 o0, vI x1] [] (mup ν3 8 o0 4 ((ν3 8 o0 4) + 1)) Q))))
    else
    Q none μ)) :
    ZW f_X5_nextToken 79 [vR 8 o0, vI x1] [] μ Q := mvc_at zcd zml (C := zc39) rfl 106 79 h
theorem vc_X5_signAt_0 {μ : mzM} {Q : Option mzV → mzM → Prop} {o0 x1 : Int} (h :
    (if x1 < 0 then
    Q (some (vI 32)) μ
    else
    (if x1 < (μ 8 o0 1) then
      (if x1 < 160 then
        ((0 ≤ x1 ∧ x1 < 160) ∧ Q (some (vI ((μ 9 0 x1) % 65536))) μ)
        else
        Q (some (vI 32)) μ)
      else
      Q (some (vI 32)) μ))) :
    ZW f_X5_signAt 0 [vR 8 o0, vI x1] [] μ Q := mvc_at zcd zml (C := zc40) rfl 23 0 h
theorem vc_X5_isLetter_0 {μ : mzM} {Q : Option mzV → mzM → Prop} {x0 : Int} (h :
    (if x0 < 97 then
    Q (some (vI 0)) μ
    else
    (if (122 : Int) < x0 then
      Q (some (vI 0)) μ
      else
      Q (some (vI 1)) μ))) :
    ZW f_X5_isLetter 0 [vI x0] [] μ Q := mvc_at zcd zml (C := zc41) rfl 15 0 h
theorem vc_X5_isDigit_0 {μ : mzM} {Q : Option mzV → mzM → Prop} {x0 : Int} (h :
    (if x0 < 48 then
    Q (some (vI 0)) μ
    else
    (if (57 : Int) < x0 then
      Q (some (vI 0)) μ
      else
      Q (some (vI 1)) μ))) :
    ZW f_X5_isDigit 0 [vI x0] [] μ Q := mvc_at zcd zml (C := zc42) rfl 15 0 h
theorem vc_X5_commandOfToken_0 {μ : mzM} {Q : Option mzV → mzM → Prop} {o0 : Int} (h :
    ZW f_X5_commandOfToken 2 [vR 8 o0, vI 0] [] μ Q) :
    ZW f_X5_commandOfToken 0 [vR 8 o0, none] [] μ Q := mvc_at zcd zml (C := zc43) rfl 25 0 h
theorem vc_X5_commandOfToken_2 {μ : mzM} {Q : Option mzV → mzM → Prop} {o0 x1 : Int} (h :
    (if x1 < 5 then
    (if (μ 8 o0 2) = 1 then
      ZR f_X5_wordOf 30 [vI x1] μ (fun r2 ν1 =>
        ZI f_X5_isToken [vR 8 o0, vR 30 r2] ν1 (fun r4 ν3 =>
        (if r4 = 0 then
        (zin (x1 + 1) ∧ ZW f_X5_commandOfToken 2 [vR 8 o0, vI (x1 + 1)] [] ν3 Q)
        else
        Q (some (vI x1)) ν3)))
      else
      Q (some (vI (-1))) μ)
    else
    Q (some (vI (-1))) μ)) :
    ZW f_X5_commandOfToken 2 [vR 8 o0, vI x1] [] μ Q := mvc_at zcd zml (C := zc43) rfl 25 2 h
theorem vc_X5_isToken_0 {μ : mzM} {Q : Option mzV → mzM → Prop} {o0 o1 : Int} (h :
    (zin ((μ 8 o0 4) - (μ 8 o0 3)) ∧ ZI f_J0_length_8abf5 [vR 30 o1] μ (fun r2 ν1 =>
    (if ((μ 8 o0 4) - (μ 8 o0 3)) = r2 then
    ZW f_X5_isToken 12 [vR 8 o0, vR 30 o1, vI 0] [] ν1 Q
    else
    Q (some (vI 0)) ν1)))) :
    ZW f_X5_isToken 0 [vR 8 o0, vR 30 o1, none] [] μ Q := mvc_at zcd zml (C := zc44) rfl 37 0 h
theorem vc_X5_isToken_12 {μ : mzM} {Q : Option mzV → mzM → Prop} {o0 o1 x2 : Int} (h :
    ZI f_J0_length_8abf5 [vR 30 o1] μ (fun r2 ν1 =>
    (if x2 < r2 then
    (zin ((ν1 8 o0 3) + x2) ∧ ZI f_X5_signAt [vR 8 o0, vI ((ν1 8 o0 3) + x2)] ν1 (fun r4 ν3 =>
      ZI f_J0_charAt_5068e [vR 30 o1, vI x2] ν3 (fun r6 ν5 =>
      (if r4 = r6 then
      (zin (x2 + 1) ∧ ZW f_X5_isToken 12 [vR 8 o0, vR 30 o1, vI (x2 + 1)] [] ν5 Q)
      else
      Q (some (vI 0)) ν5))))
    else
    Q (some (vI 1)) ν1))) :
    ZW f_X5_isToken 12 [vR 8 o0, vR 30 o1, vI x2] [] μ Q := mvc_at zcd zml (C := zc44) rfl 37 12 h
theorem vc_X5_readNumber_0 {μ : mzM} {Q : Option mzV → mzM → Prop} {o0 : Int} (h :
    (if (μ 8 o0 2) = 2 then
    ZI f_X5_signAt [vR 8 o0, vI (μ 8 o0 3)] μ (fun r2 ν1 =>
      (if r2 = 45 then
      (zin ((ν1 8 o0 3) + 1) ∧ (zin ((ν1 8 o0 4) - ((ν1 8 o0 3) + 1)) ∧ (if ((ν1 8 o0 4) - ((ν1 8 o0 3) + 1)) < 1 then
        Q (some (vI 0)) ν1
        else
        (if (2 : Int) < ((ν1 8 o0 4) - ((ν1 8 o0 3) + 1)) then
          Q (some (vI 0)) ν1
          else
          (if ((ν1 8 o0 4) - ((ν1 8 o0 3) + 1)) = 2 then
            ZI f_X5_signAt [vR 8 o0, vI ((ν1 8 o0 3) + 1)] ν1 (fun r4 ν3 =>
              (if r4 = 48 then
              Q (some (vI 0)) ν3
              else
              ZW f_X5_readNumber 44 [vR 8 o0, vI ((ν1 8 o0 3) + 1), vI ((ν1 8 o0 4) - ((ν1 8 o0 3) + 1))] [vI ((ν1 8 o0 3) + 1), vR 8 o0, vR 8 o0] ν3 Q))
            else
            ZW f_X5_readNumber 44 [vR 8 o0, vI ((ν1 8 o0 3) + 1), vI ((ν1 8 o0 4) - ((ν1 8 o0 3) + 1))] [vI ((ν1 8 o0 3) + 1), vR 8 o0, vR 8 o0] ν1 Q)))))
      else
      (zin ((ν1 8 o0 4) - (ν1 8 o0 3)) ∧ (if ((ν1 8 o0 4) - (ν1 8 o0 3)) < 1 then
        Q (some (vI 0)) ν1
        else
        (if (2 : Int) < ((ν1 8 o0 4) - (ν1 8 o0 3)) then
          Q (some (vI 0)) ν1
          else
          (if ((ν1 8 o0 4) - (ν1 8 o0 3)) = 2 then
            ZI f_X5_signAt [vR 8 o0, vI (ν1 8 o0 3)] ν1 (fun r6 ν5 =>
              (if r6 = 48 then
              Q (some (vI 0)) ν5
              else
              ZW f_X5_readNumber 44 [vR 8 o0, vI (ν1 8 o0 3), vI ((ν1 8 o0 4) - (ν1 8 o0 3))] [vI (ν1 8 o0 3), vR 8 o0, vR 8 o0] ν5 Q))
            else
            ZW f_X5_readNumber 44 [vR 8 o0, vI (ν1 8 o0 3), vI ((ν1 8 o0 4) - (ν1 8 o0 3))] [vI (ν1 8 o0 3), vR 8 o0, vR 8 o0] ν1 Q))))))
    else
    Q (some (vI 0)) μ)) :
    ZW f_X5_readNumber 0 [vR 8 o0, none, none] [] μ Q := mvc_at zcd zml (C := zc45) rfl 81 0 h
theorem vc_X5_readNumber_44 {μ : mzM} {Q : Option mzV → mzM → Prop} {o0 q0 q1 x1 x2 y2 : Int} (h :
    ZI f_X5_signAt [vR 8 q1, vI y2] μ (fun r2 ν1 =>
    (zin (r2 - 48) ∧ (if x2 = 2 then
    (zin (10 * ((mup ν1 8 q0 5 (r2 - 48)) 8 o0 5)) ∧ (zin (x1 + 1) ∧ ZI f_X5_signAt [vR 8 o0, vI (x1 + 1)] (mup ν1 8 q0 5 (r2 - 48)) (fun r4 ν3 =>
      (zin (r4 - 48) ∧ (zin ((10 * ((mup ν1 8 q0 5 (r2 - 48)) 8 o0 5)) + (r4 - 48)) ∧ (if ((mup ν3 8 o0 5 ((10 * ((mup ν1 8 q0 5 (r2 - 48)) 8 o0 5)) + (r4 - 48))) 8 o0 3) < x1 then
      Q (some (vI 1)) (mup (mup ν3 8 o0 5 ((10 * ((mup ν1 8 q0 5 (r2 - 48)) 8 o0 5)) + (r4 - 48))) 8 o0 5 (zw (-((mup ν3 8 o0 5 ((10 * ((mup ν1 8 q0 5 (r2 - 48)) 8 o0 5)) + (r4 - 48))) 8 o0 5))))
      else
      Q (some (vI 1)) (mup ν3 8 o0 5 ((10 * ((mup ν1 8 q0 5 (r2 - 48)) 8 o0 5)) + (r4 - 48)))))))))
    else
    (if ((mup ν1 8 q0 5 (r2 - 48)) 8 o0 3) < x1 then
      Q (some (vI 1)) (mup (mup ν1 8 q0 5 (r2 - 48)) 8 o0 5 (zw (-((mup ν1 8 q0 5 (r2 - 48)) 8 o0 5))))
      else
      Q (some (vI 1)) (mup ν1 8 q0 5 (r2 - 48))))))) :
    ZW f_X5_readNumber 44 [vR 8 o0, vI x1, vI x2] [vI y2, vR 8 q1, vR 8 q0] μ Q := mvc_at zcd zml (C := zc45) rfl 81 44 h
theorem vc_X5_isAllowed_0 {μ : mzM} {Q : Option mzV → mzM → Prop} {o0 o2 x1 : Int} (h :
    (if x1 = 119 then
    (if (μ 8 o0 5) < (-12) then
      Q (some (vI 0)) μ
      else
      (if (12 : Int) < (μ 8 o0 5) then
        Q (some (vI 0)) μ
        else
        Q (some (vI 1)) μ))
    else
    ZI f_X5_signAt [vR 8 o0, vI (μ 8 o0 3)] μ (fun r2 ν1 =>
      (if r2 = 45 then
      Q (some (vI 0)) ν1
      else
      (if x1 = 102 then
        ZI f_X6_isFrame [vR 1 o2, vI (ν1 8 o0 5)] ν1 (fun r4 ν3 =>
          (if r4 = 0 then
          Q (some (vI 0)) ν3
          else
          ZI f_X6_isReadable [vR 1 o2, vI (ν3 8 o0 5)] ν3 (fun r6 ν5 =>
            (if r6 = 0 then
            Q (some (vI 0)) ν5
            else
            Q (some (vI 1)) ν5))))
        else
        (if x1 = 118 then
          (if (15 : Int) < (ν1 8 o0 5) then
            Q (some (vI 0)) ν1
            else
            Q (some (vI 1)) ν1)
          else
          (if (12 : Int) < (ν1 8 o0 5) then
            Q (some (vI 0)) ν1
            else
            Q (some (vI 1)) ν1))))))) :
    ZW f_X5_isAllowed 0 [vR 8 o0, vI x1, vR 1 o2] [] μ Q := mvc_at zcd zml (C := zc46) rfl 58 0 h
theorem vc_X5_carryOut_0 {μ : mzM} {Q : Option mzV → mzM → Prop} {o0 o1 o2 : Int} (h :
    ZW f_X5_carryOut 4 [vR 8 o0, vR 1 o1, vR 3 o2, vI 0, vI 0, none] [] μ Q) :
    ZW f_X5_carryOut 0 [vR 8 o0, vR 1 o1, vR 3 o2, none, none, none] [] μ Q := mvc_at zcd zml (C := zc47) rfl 37 0 h
theorem vc_X5_carryOut_4 {μ : mzM} {Q : Option mzV → mzM → Prop} {o0 o1 o2 x3 x4 : Int} {v5 : mzV} (h :
    (if x4 < (μ 8 o0 7) then
    ZI f_X5_programAt [vR 8 o0, vI x4] μ (fun r2 ν1 =>
      (zin (x4 + 1) ∧ ZV f_X5_apply [vR 8 o0, vI r2, vI (x4 + 1), vR 1 o1, vR 3 o2] ν1 (fun ν3 =>
      ZR f_X5_argumentsOf 30 [vI r2] ν3 (fun r5 ν4 =>
      ZI f_J0_length_8abf5 [vR 30 r5] ν4 (fun r7 ν6 =>
      (zin (1 + r7) ∧ (zin (x4 + (1 + r7)) ∧ (zin (x3 + 1) ∧ ZW f_X5_carryOut 4 [vR 8 o0, vR 1 o1, vR 3 o2, vI (x3 + 1), vI (x4 + (1 + r7)), vI r2] [] ν6 Q))))))))
    else
    Q (some (vI x3)) μ)) :
    ZW f_X5_carryOut 4 [vR 8 o0, vR 1 o1, vR 3 o2, vI x3, vI x4, v5] [] μ Q := mvc_at zcd zml (C := zc47) rfl 37 4 h
theorem vc_X5_programAt_0 {μ : mzM} {Q : Option mzV → mzM → Prop} {o0 x1 : Int} (h :
    (if x1 < 0 then
    Q (some (vI 0)) μ
    else
    (if x1 < 160 then
      ((0 ≤ x1 ∧ x1 < 160) ∧ Q (some (vI (μ 10 0 x1))) μ)
      else
      Q (some (vI 0)) μ))) :
    ZW f_X5_programAt 0 [vR 8 o0, vI x1] [] μ Q := mvc_at zcd zml (C := zc48) rfl 19 0 h
theorem vc_X5_apply_0 {μ : mzM} {Q : Option mzV → mzM → Prop} {o0 o3 o4 x1 x2 : Int} (h :
    ZI f_X5_programAt [vR 8 o0, vI x2] μ (fun r2 ν1 =>
    (zin (x2 + 1) ∧ ZI f_X5_programAt [vR 8 o0, vI (x2 + 1)] ν1 (fun r4 ν3 =>
    (if x1 = 0 then
    ZV f_X2_fillBox [vR 3 (78 + o3), vI 0, vI 0, vI (ν3 3 (78 + o3) 1), vI (ν3 3 (78 + o3) 2), vI r2] ν3 (fun ν5 =>
      Q none ν5)
    else
    (if x1 = 1 then
    (zin (x2 + 2) ∧ ZI f_X5_programAt [vR 8 o0, vI (x2 + 2)] ν3 (fun r7 ν6 =>
      (zin (x2 + 3) ∧ ZI f_X5_programAt [vR 8 o0, vI (x2 + 3)] ν6 (fun r9 ν8 =>
      (zin (x2 + 4) ∧ ZI f_X5_programAt [vR 8 o0, vI (x2 + 4)] ν8 (fun r11 ν10 =>
      ZV f_X2_fillBox [vR 3 (78 + o3), vI r2, vI r4, vI r7, vI r9, vI r11] ν10 (fun ν12 =>
      Q none ν12)))))))
    else
    (if x1 = 2 then
    ZV f_X2_take [vR 3 o4, vR 3 (78 + o3)] ν3 (fun ν13 =>
      ZV f_X2_takeShifted [vR 3 (78 + o3), vR 3 o4, vI r2, vI r4] ν13 (fun ν14 =>
      Q none ν14))
    else
    (if x1 = 3 then
    ZV f_X2_swapValues [vR 3 (78 + o3), vI r2, vI r4] ν3 (fun ν15 =>
      Q none ν15)
    else
    ZR f_X6_imageOf 3 [vR 1 o3, vI r2] ν3 (fun r17 ν16 =>
      ZV f_X2_take [vR 3 (78 + o3), vR 3 r17] ν16 (fun ν18 =>
      Q none ν18)))))))))) :
    ZW f_X5_apply 0 [vR 8 o0, vI x1, vI x2, vR 1 o3, vR 3 o4, none, none, none] [] μ Q := mvc_at zcd zml (C := zc49) rfl 70 0 h
theorem vc_X6_take_0 {μ : mzM} {Q : Option mzV → mzM → Prop} {o0 o1 : Int} (h :
    ZV f_X2_take [vR 3 (78 + o0), vR 3 (78 + o1)] μ (fun ν1 =>
    ZW f_X6_take 23 [vR 1 o0, vR 1 o1, vI 0] [] (mup (mup (mup (mup ν1 1 o0 3 (ν1 1 o1 3)) 1 o0 4 ((mup ν1 1 o0 3 (ν1 1 o1 3)) 1 o1 4)) 1 o0 5 ((mup (mup ν1 1 o0 3 (ν1 1 o1 3)) 1 o0 4 ((mup ν1 1 o0 3 (ν1 1 o1 3)) 1 o1 4)) 1 o1 5)) 1 o0 6 ((mup (mup (mup ν1 1 o0 3 (ν1 1 o1 3)) 1 o0 4 ((mup ν1 1 o0 3 (ν1 1 o1 3)) 1 o1 4)) 1 o0 5 ((mup (mup ν1 1 o0 3 (ν1 1 o1 3)) 1 o0 4 ((mup ν1 1 o0 3 (ν1 1 o1 3)) 1 o1 4)) 1 o1 5)) 1 o1 6)) Q)) :
    ZW f_X6_take 0 [vR 1 o0, vR 1 o1, none] [] μ Q := mvc_at zcd zml (C := zc50) rfl 42 0 h
theorem vc_X6_take_23 {μ : mzM} {Q : Option mzV → mzM → Prop} {o0 o1 x2 : Int} (h :
    (if x2 < (μ 1 o0 3) then
    ZR f_X6_frameAt 2 [vR 1 o0, vI x2] μ (fun r2 ν1 =>
      ZR f_X6_frameAt 2 [vR 1 o1, vI x2] ν1 (fun r4 ν3 =>
      ZV f_X1_take [vR 2 r2, vR 2 r4] ν3 (fun ν5 =>
      (zin (x2 + 1) ∧ ZW f_X6_take 23 [vR 1 o0, vR 1 o1, vI (x2 + 1)] [] ν5 Q))))
    else
    Q none μ)) :
    ZW f_X6_take 23 [vR 1 o0, vR 1 o1, vI x2] [] μ Q := mvc_at zcd zml (C := zc50) rfl 42 23 h
theorem vc_X6_frameAt_0 {μ : mzM} {Q : Option mzV → mzM → Prop} {o0 x1 : Int} (h :
    (if x1 < 0 then
    Q (some (vR 2 (11 * o0 + 10))) μ
    else
    (if x1 < 10 then
      ((0 ≤ x1 ∧ x1 < 10) ∧ Q (some (vR 2 (11 * o0 + x1))) μ)
      else
      Q (some (vR 2 (11 * o0 + 10))) μ))) :
    ZW f_X6_frameAt 0 [vR 1 o0, vI x1] [] μ Q := mvc_at zcd zml (C := zc51) rfl 20 0 h
theorem vc_X6_isFrame_0 {μ : mzM} {Q : Option mzV → mzM → Prop} {o0 x1 : Int} (h :
    (if x1 < 0 then
    Q (some (vI 0)) μ
    else
    (if x1 < (μ 1 o0 3) then
      Q (some (vI 1)) μ
      else
      Q (some (vI 0)) μ))) :
    ZW f_X6_isFrame 0 [vR 1 o0, vI x1] [] μ Q := mvc_at zcd zml (C := zc52) rfl 15 0 h
theorem vc_X6_isImage_0 {μ : mzM} {Q : Option mzV → mzM → Prop} {o0 x1 : Int} (h :
    (if x1 = (-1) then
    Q (some (vI 1)) μ
    else
    ZI f_X6_isFrame [vR 1 o0, vI x1] μ (fun r2 ν1 =>
      (if r2 = 0 then
      Q (some (vI 0)) ν1
      else
      Q (some (vI 1)) ν1)))) :
    ZW f_X6_isImage 0 [vR 1 o0, vI x1] [] μ Q := mvc_at zcd zml (C := zc53) rfl 16 0 h
theorem vc_X6_imageOf_0 {μ : mzM} {Q : Option mzV → mzM → Prop} {o0 x1 : Int} (h :
    (if x1 = (-1) then
    Q (some (vR 3 (78 + o0))) μ
    else
    ZR f_X6_frameAt 2 [vR 1 o0, vI x1] μ (fun r2 ν1 =>
      Q (some (vR 3 r2)) ν1))) :
    ZW f_X6_imageOf 0 [vR 1 o0, vI x1] [] μ Q := mvc_at zcd zml (C := zc54) rfl 16 0 h
theorem vc_X6_isReadable_0 {μ : mzM} {Q : Option mzV → mzM → Prop} {o0 x1 : Int} (h :
    ZW f_X6_isReadable 4 [vR 1 o0, vI x1, vI x1, vI 0] [] μ Q) :
    ZW f_X6_isReadable 0 [vR 1 o0, vI x1, none, none] [] μ Q := mvc_at zcd zml (C := zc55) rfl 30 0 h
theorem vc_X6_isReadable_4 {μ : mzM} {Q : Option mzV → mzM → Prop} {o0 x1 x2 x3 : Int} (h :
    (if x3 < 10 then
    (if x2 < 0 then
      Q (some (vI 1)) μ
      else
      ZR f_X6_frameAt 2 [vR 1 o0, vI x2] μ (fun r2 ν1 =>
        (if (ν1 2 r2 4) = 0 then
        ZR f_X6_frameAt 2 [vR 1 o0, vI x2] ν1 (fun r4 ν3 =>
          (zin (x3 + 1) ∧ ZW f_X6_isReadable 4 [vR 1 o0, vI x1, vI (ν3 2 r4 2), vI (x3 + 1)] [] ν3 Q))
        else
        Q (some (vI 0)) ν1)))
    else
    Q (some (vI 1)) μ)) :
    ZW f_X6_isReadable 4 [vR 1 o0, vI x1, vI x2, vI x3] [] μ Q := mvc_at zcd zml (C := zc55) rfl 30 4 h
theorem vc_X6_mayBeReference_0 {μ : mzM} {Q : Option mzV → mzM → Prop} {o0 x1 : Int} (h :
    ZI f_X6_isReadable [vR 1 o0, vI x1] μ (fun r2 ν1 =>
    (if r2 = 0 then
    Q (some (vI 0)) ν1
    else
    ZI f_X6_depthOf [vR 1 o0, vI x1] ν1 (fun r4 ν3 =>
      (if r4 < (ν3 1 o0 5) then
      Q (some (vI 1)) ν3
      else
      Q (some (vI 0)) ν3))))) :
    ZW f_X6_mayBeReference 0 [vR 1 o0, vI x1] [] μ Q := mvc_at zcd zml (C := zc56) rfl 19 0 h
theorem vc_X6_depthOf_0 {μ : mzM} {Q : Option mzV → mzM → Prop} {o0 x1 : Int} (h :
    ZR f_X6_frameAt 2 [vR 1 o0, vI x1] μ (fun r2 ν1 =>
    ZW f_X6_depthOf 9 [vR 1 o0, vI x1, vI 0, vI (ν1 2 r2 2), vI 0] [] ν1 Q)) :
    ZW f_X6_depthOf 0 [vR 1 o0, vI x1, none, none, none] [] μ Q := mvc_at zcd zml (C := zc57) rfl 29 0 h
theorem vc_X6_depthOf_9 {μ : mzM} {Q : Option mzV → mzM → Prop} {o0 x1 x2 x3 x4 : Int} (h :
    (if x4 < 10 then
    (if x3 < 0 then
      Q (some (vI x2)) μ
      else
      (zin (x2 + 1) ∧ ZR f_X6_frameAt 2 [vR 1 o0, vI x3] μ (fun r2 ν1 =>
        (zin (x4 + 1) ∧ ZW f_X6_depthOf 9 [vR 1 o0, vI x1, vI (x2 + 1), vI (ν1 2 r2 2), vI (x4 + 1)] [] ν1 Q))))
    else
    Q (some (vI x2)) μ)) :
    ZW f_X6_depthOf 9 [vR 1 o0, vI x1, vI x2, vI x3, vI x4] [] μ Q := mvc_at zcd zml (C := zc57) rfl 29 9 h
theorem vc_X6_seekCost_0 {μ : mzM} {Q : Option mzV → mzM → Prop} {o0 x1 : Int} (h :
    ZW f_X6_seekCost 6 [vR 1 o0, vI x1, vI 0, vI x1, vI 0] [] μ Q) :
    ZW f_X6_seekCost 0 [vR 1 o0, vI x1, none, none, none] [] μ Q := mvc_at zcd zml (C := zc58) rfl 32 0 h
theorem vc_X6_seekCost_6 {μ : mzM} {Q : Option mzV → mzM → Prop} {o0 x1 x2 x3 x4 : Int} (h :
    (if x4 < 10 then
    (if x3 < 0 then
      Q (some (vI x2)) μ
      else
      ZR f_X6_frameAt 2 [vR 1 o0, vI x3] μ (fun r2 ν1 =>
        (zin (x2 + (ν1 2 r2 3)) ∧ ZR f_X6_frameAt 2 [vR 1 o0, vI x3] ν1 (fun r4 ν3 =>
        (zin (x4 + 1) ∧ ZW f_X6_seekCost 6 [vR 1 o0, vI x1, vI (x2 + (ν1 2 r2 3)), vI (ν3 2 r4 2), vI (x4 + 1)] [] ν3 Q)))))
    else
    Q (some (vI x2)) μ)) :
    ZW f_X6_seekCost 6 [vR 1 o0, vI x1, vI x2, vI x3, vI x4] [] μ Q := mvc_at zcd zml (C := zc58) rfl 32 6 h
theorem vc_X6_chainHas_0 {μ : mzM} {Q : Option mzV → mzM → Prop} {o0 x1 x2 : Int} (h :
    ZW f_X6_chainHas 4 [vR 1 o0, vI x1, vI x2, vI x1, vI 0] [] μ Q) :
    ZW f_X6_chainHas 0 [vR 1 o0, vI x1, vI x2, none, none] [] μ Q := mvc_at zcd zml (C := zc59) rfl 28 0 h
theorem vc_X6_chainHas_4 {μ : mzM} {Q : Option mzV → mzM → Prop} {o0 x1 x2 x3 x4 : Int} (h :
    (if x4 < 10 then
    (if x3 < 0 then
      Q (some (vI 0)) μ
      else
      (if x3 = x2 then
        Q (some (vI 1)) μ
        else
        ZR f_X6_frameAt 2 [vR 1 o0, vI x3] μ (fun r2 ν1 =>
          (zin (x4 + 1) ∧ ZW f_X6_chainHas 4 [vR 1 o0, vI x1, vI x2, vI (ν1 2 r2 2), vI (x4 + 1)] [] ν1 Q))))
    else
    Q (some (vI 0)) μ)) :
    ZW f_X6_chainHas 4 [vR 1 o0, vI x1, vI x2, vI x3, vI x4] [] μ Q := mvc_at zcd zml (C := zc59) rfl 28 4 h
theorem vc_X6_readableFrames_0 {μ : mzM} {Q : Option mzV → mzM → Prop} {o0 : Int} (h :
    ZW f_X6_readableFrames 4 [vR 1 o0, vI 0, vI 0] [] μ Q) :
    ZW f_X6_readableFrames 0 [vR 1 o0, none, none] [] μ Q := mvc_at zcd zml (C := zc60) rfl 22 0 h
theorem vc_X6_readableFrames_4 {μ : mzM} {Q : Option mzV → mzM → Prop} {o0 x1 x2 : Int} (h :
    (if x2 < (μ 1 o0 3) then
    ZI f_X6_isReadable [vR 1 o0, vI x2] μ (fun r2 ν1 =>
      (if r2 = 0 then
      (zin (x2 + 1) ∧ ZW f_X6_readableFrames 4 [vR 1 o0, vI x1, vI (x2 + 1)] [] ν1 Q)
      else
      (zin (x1 + 1) ∧ (zin (x2 + 1) ∧ ZW f_X6_readableFrames 4 [vR 1 o0, vI (x1 + 1), vI (x2 + 1)] [] ν1 Q))))
    else
    Q (some (vI x1)) μ)) :
    ZW f_X6_readableFrames 4 [vR 1 o0, vI x1, vI x2] [] μ Q := mvc_at zcd zml (C := zc60) rfl 22 4 h
theorem vc_X6_costOfRecords_0 {μ : mzM} {Q : Option mzV → mzM → Prop} {o0 : Int} (h :
    ZW f_X6_costOfRecords 4 [vR 1 o0, vI 0, vI 0] [] μ Q) :
    ZW f_X6_costOfRecords 0 [vR 1 o0, none, none] [] μ Q := mvc_at zcd zml (C := zc61) rfl 24 0 h
theorem vc_X6_costOfRecords_4 {μ : mzM} {Q : Option mzV → mzM → Prop} {o0 x1 x2 : Int} (h :
    (if x2 < (μ 1 o0 3) then
    ZR f_X6_frameAt 2 [vR 1 o0, vI x2] μ (fun r2 ν1 =>
      (zin (x1 + (ν1 2 r2 3)) ∧ (zin (x2 + 1) ∧ ZW f_X6_costOfRecords 4 [vR 1 o0, vI (x1 + (ν1 2 r2 3)), vI (x2 + 1)] [] ν1 Q)))
    else
    Q (some (vI x1)) μ)) :
    ZW f_X6_costOfRecords 4 [vR 1 o0, vI x1, vI x2] [] μ Q := mvc_at zcd zml (C := zc61) rfl 24 4 h
theorem vc_X7_setSize_0 {μ : mzM} {Q : Option mzV → mzM → Prop} {o0 x1 x2 : Int} (h :
    ZI f_X7_isSize [vI x1] μ (fun r2 ν1 =>
    (if r2 = 0 then
    Q (some (vI (-1))) ν1
    else
    ZI f_X7_isSize [vI x2] ν1 (fun r4 ν3 =>
      (if r4 = 0 then
      Q (some (vI (-1))) ν3
      else
      ZV f_X7_save [vR 0 o0] ν3 (fun ν5 =>
        ZV f_X2_reset [vR 3 78, vI x1, vI x2] (mup ν5 1 0 3 0) (fun ν6 =>
        ZI f_X2_blocks [vR 3 78] ν6 (fun r8 ν7 =>
        Q (some (vI r8)) ν7)))))))) :
    ZW f_X7_setSize 0 [vR 0 o0, vI x1, vI x2] [] μ Q := mvc_at zcd zml (C := zc62) rfl 30 0 h
theorem vc_X7_setCell_0 {μ : mzM} {Q : Option mzV → mzM → Prop} {o0 x1 x2 : Int} (h :
    ZI f_X2_hasCell [vR 3 78, vI x1] μ (fun r2 ν1 =>
    (if r2 = 0 then
    Q (some (vI (-1))) ν1
    else
    (if x2 < 0 then
      Q (some (vI (-1))) ν1
      else
      (if (15 : Int) < x2 then
        Q (some (vI (-1))) ν1
        else
        ZV f_X7_save [vR 0 o0] ν1 (fun ν3 =>
          ZI f_X2_numbered [vR 3 78, vI x1] ν3 (fun r5 ν4 =>
          ZV f_X2_putNumbered [vR 3 78, vI x1, vI x2] ν4 (fun ν6 =>
          Q (some (vI r5)) ν6)))))))) :
    ZW f_X7_setCell 0 [vR 0 o0, vI x1, vI x2, none] [] μ Q := mvc_at zcd zml (C := zc63) rfl 34 0 h
theorem vc_X7_cell_0 {μ : mzM} {Q : Option mzV → mzM → Prop} {o0 x1 : Int} (h :
    ZI f_X2_hasCell [vR 3 78, vI x1] μ (fun r2 ν1 =>
    (if r2 = 0 then
    Q (some (vI (-1))) ν1
    else
    ZI f_X2_numbered [vR 3 78, vI x1] ν1 (fun r4 ν3 =>
      Q (some (vI r4)) ν3)))) :
    ZW f_X7_cell 0 [vR 0 o0, vI x1] [] μ Q := mvc_at zcd zml (C := zc64) rfl 19 0 h
theorem vc_X7_appendCharacter_0 {μ : mzM} {Q : Option mzV → mzM → Prop} {o0 x1 : Int} (h :
    (if x1 < 0 then
    Q (some (vI (-1))) μ
    else
    (if (255 : Int) < x1 then
      Q (some (vI (-1))) μ
      else
      (if (μ 8 0 1) < 160 then
        ZI f_X5_append [vR 8 0, vI (x1 % 65536)] μ (fun r2 ν1 =>
          Q (some (vI r2)) ν1)
        else
        Q (some (vI (-3))) μ)))) :
    ZW f_X7_appendCharacter 0 [vR 0 o0, vI x1] [] μ Q := mvc_at zcd zml (C := zc65) rfl 25 0 h
theorem vc_X7_clearText_0 {μ : mzM} {Q : Option mzV → mzM → Prop} {o0 : Int} (h :
    Q (some (vI (μ 8 0 1))) (mup μ 8 0 1 0)) :
    ZW f_X7_clearText 0 [vR 0 o0, none] [] μ Q := mvc_at zcd zml (C := zc66) rfl 15 0 h
theorem vc_X7_draw_0 {μ : mzM} {Q : Option mzV → mzM → Prop} {o0 : Int} (h :
    ZI f_X5_errorPosition [vR 8 0, vR 1 0] μ (fun r2 ν1 =>
    (if r2 < 0 then
    ZV f_X7_save [vR 0 o0] ν1 (fun ν3 =>
      ZI f_X5_carryOut [vR 8 0, vR 1 0, vR 3 85] ν3 (fun r5 ν4 =>
      Q (some (vI r5)) (mup ν4 8 0 1 0)))
    else
    (zin ((-10) - r2) ∧ Q (some (vI ((-10) - r2))) ν1)))) :
    ZW f_X7_draw 0 [vR 0 o0, none, none] [] μ Q := mvc_at zcd zml (C := zc67) rfl 33 0 h
theorem vc_X7_digest_0 {μ : mzM} {Q : Option mzV → mzM → Prop} {o0 x1 x2 x3 : Int} (h :
    ZI f_X6_isImage [vR 1 0, vI x1] μ (fun r2 ν1 =>
    (if r2 = 0 then
    Q (some (vI (-1))) ν1
    else
    ZI f_X2_hasPart [vR 3 78, vI x2, vI x3] ν1 (fun r4 ν3 =>
      (if r4 = 0 then
      Q (some (vI (-1))) ν3
      else
      ZI f_X6_isReadable [vR 1 0, vI x1] ν3 (fun r6 ν5 =>
        (if r6 = 0 then
        Q (some (vI (-2))) ν5
        else
        ZR f_X6_imageOf 3 [vR 1 0, vI x1] ν5 (fun r8 ν7 =>
          ZI f_X2_partDigest [vR 3 r8, vI x2, vI x3] ν7 (fun r10 ν9 =>
          Q (some (vI r10)) ν9))))))))) :
    ZW f_X7_digest 0 [vR 0 o0, vI x1, vI x2, vI x3] [] μ Q := mvc_at zcd zml (C := zc68) rfl 34 0 h
theorem vc_X7_addKey_0 {μ : mzM} {Q : Option mzV → mzM → Prop} {o0 : Int} (h :
    (if (μ 1 0 3) < 10 then
    ZI f_X7_add [vR 0 o0, vI (-1)] μ (fun r2 ν1 =>
      Q (some (vI r2)) ν1)
    else
    Q (some (vI (-3))) μ)) :
    ZW f_X7_addKey 0 [vR 0 o0] [] μ Q := mvc_at zcd zml (C := zc69) rfl 16 0 h
theorem vc_X7_addDelta_0 {μ : mzM} {Q : Option mzV → mzM → Prop} {o0 x1 : Int} (h :
    ZI f_X6_isFrame [vR 1 0, vI x1] μ (fun r2 ν1 =>
    (if r2 = 0 then
    Q (some (vI (-1))) ν1
    else
    ZI f_X6_mayBeReference [vR 1 0, vI x1] ν1 (fun r4 ν3 =>
      (if r4 = 0 then
      Q (some (vI (-2))) ν3
      else
      (if (ν3 1 0 3) < 10 then
        ZI f_X7_add [vR 0 o0, vI x1] ν3 (fun r6 ν5 =>
          Q (some (vI r6)) ν5)
        else
        Q (some (vI (-3))) ν3)))))) :
    ZW f_X7_addDelta 0 [vR 0 o0, vI x1] [] μ Q := mvc_at zcd zml (C := zc70) rfl 30 0 h
theorem vc_X7_addChosen_0 {μ : mzM} {Q : Option mzV → mzM → Prop} {o0 : Int} (h :
    (if (μ 1 0 3) < 10 then
    ZI f_X7_chosenReference [vR 0 o0] μ (fun r2 ν1 =>
      ZI f_X7_add [vR 0 o0, vI r2] ν1 (fun r4 ν3 =>
      Q (some (vI r4)) ν3))
    else
    Q (some (vI (-3))) μ)) :
    ZW f_X7_addChosen 0 [vR 0 o0] [] μ Q := mvc_at zcd zml (C := zc71) rfl 17 0 h
theorem vc_X7_removeLast_0 {μ : mzM} {Q : Option mzV → mzM → Prop} {o0 : Int} (h :
    (if (μ 1 0 3) < 1 then
    Q (some (vI (-2))) μ
    else
    ZV f_X7_save [vR 0 o0] μ (fun ν1 =>
      (zin ((ν1 1 0 3) - 1) ∧ Q (some (vI ((mup ν1 1 0 3 ((ν1 1 0 3) - 1)) 1 0 3))) (mup ν1 1 0 3 ((ν1 1 0 3) - 1)))))) :
    ZW f_X7_removeLast 0 [vR 0 o0] [] μ Q := mvc_at zcd zml (C := zc72) rfl 25 0 h
theorem vc_X7_recode_0 {μ : mzM} {Q : Option mzV → mzM → Prop} {o0 : Int} (h :
    (if (μ 1 0 3) < 1 then
    Q (some (vI (-2))) μ
    else
    ZV f_X7_save [vR 0 o0] μ (fun ν1 =>
      ZV f_X3_plan [vR 15 0, vR 1 0, vR 11 0, vR 2 77] ν1 (fun ν2 =>
      ZW f_X7_recode 20 [vR 0 o0, vI 0] [] ν2 Q)))) :
    ZW f_X7_recode 0 [vR 0 o0, none] [] μ Q := mvc_at zcd zml (C := zc73) rfl 49 0 h
theorem vc_X7_recode_20 {μ : mzM} {Q : Option mzV → mzM → Prop} {o0 x1 : Int} (h :
    (if x1 < (μ 1 0 3) then
    ZR f_X6_frameAt 2 [vR 1 0, vI x1] μ (fun r2 ν1 =>
      ZI f_X3_referenceOf [vR 15 0, vI x1] ν1 (fun r4 ν3 =>
      ZV f_X0_encode [vR 11 0, vR 2 r2, vR 1 0, vI r4] ν3 (fun ν5 =>
      (zin (x1 + 1) ∧ ZW f_X7_recode 20 [vR 0 o0, vI (x1 + 1)] [] ν5 Q))))
    else
    Q (some (vI (μ 15 0 2))) μ)) :
    ZW f_X7_recode 20 [vR 0 o0, vI x1] [] μ Q := mvc_at zcd zml (C := zc73) rfl 49 20 h
theorem vc_X7_setLimits_0 {μ : mzM} {Q : Option mzV → mzM → Prop} {o0 x1 x2 x3 : Int} (h :
    (if x1 < 0 then
    Q (some (vI (-1))) μ
    else
    (if (4 : Int) < x1 then
      Q (some (vI (-1))) μ
      else
      (if x2 < 0 then
        Q (some (vI (-1))) μ
        else
        (if (9 : Int) < x2 then
          Q (some (vI (-1))) μ
          else
          (if x3 < 0 then
            Q (some (vI (-1))) μ
            else
            (if (9 : Int) < x3 then
              Q (some (vI (-1))) μ
              else
              ZV f_X7_save [vR 0 o0] μ (fun ν1 =>
                (if (ν1 1 0 4) = x1 then
                (if (ν1 1 0 5) = x2 then
                  (if (ν1 1 0 6) = x3 then
                    Q (some (vI 0)) (mup (mup (mup ν1 1 0 4 x1) 1 0 5 x2) 1 0 6 x3)
                    else
                    Q (some (vI 1)) (mup (mup (mup ν1 1 0 4 x1) 1 0 5 x2) 1 0 6 x3))
                  else
                  Q (some (vI 1)) (mup (mup (mup ν1 1 0 4 x1) 1 0 5 x2) 1 0 6 x3))
                else
                Q (some (vI 1)) (mup (mup (mup ν1 1 0 4 x1) 1 0 5 x2) 1 0 6 x3)))))))))) :
    ZW f_X7_setLimits 0 [vR 0 o0, vI x1, vI x2, vI x3, none] [] μ Q := mvc_at zcd zml (C := zc74) rfl 63 0 h
theorem vc_X7_setLost_0 {μ : mzM} {Q : Option mzV → mzM → Prop} {o0 x1 x2 : Int} (h :
    ZI f_X6_isFrame [vR 1 0, vI x1] μ (fun r2 ν1 =>
    (if r2 = 0 then
    Q (some (vI (-1))) ν1
    else
    (if x2 < 0 then
      Q (some (vI (-1))) ν1
      else
      (if (1 : Int) < x2 then
        Q (some (vI (-1))) ν1
        else
        (if x2 = 1 then
          ZR f_X6_frameAt 2 [vR 1 0, vI x1] ν1 (fun r4 ν3 =>
            (if (ν3 2 r4 4) = 1 then
            Q (some (vI (-2))) ν3
            else
            ZV f_X7_save [vR 0 o0] ν3 (fun ν5 =>
              ZR f_X6_frameAt 2 [vR 1 0, vI x1] ν5 (fun r7 ν6 =>
              (((1 : Int) = 0 ∨ (1 : Int) = 1) ∧ ZI f_X6_readableFrames [vR 1 0] (mup ν6 2 r7 4 1) (fun r9 ν8 =>
              Q (some (vI r9)) ν8))))))
          else
          ZR f_X6_frameAt 2 [vR 1 0, vI x1] ν1 (fun r11 ν10 =>
            (if (ν10 2 r11 4) = 0 then
            Q (some (vI (-2))) ν10
            else
            ZV f_X7_save [vR 0 o0] ν10 (fun ν12 =>
              ZR f_X6_frameAt 2 [vR 1 0, vI x1] ν12 (fun r14 ν13 =>
              (((0 : Int) = 0 ∨ (0 : Int) = 1) ∧ ZI f_X6_readableFrames [vR 1 0] (mup ν13 2 r14 4 0) (fun r16 ν15 =>
              Q (some (vI r16)) ν15)))))))))))) :
    ZW f_X7_setLost 0 [vR 0 o0, vI x1, vI x2, none] [] μ Q := mvc_at zcd zml (C := zc75) rfl 45 0 h
theorem vc_X7_frame_0 {μ : mzM} {Q : Option mzV → mzM → Prop} {o0 x1 x2 : Int} (h :
    ZI f_X6_isFrame [vR 1 0, vI x1] μ (fun r2 ν1 =>
    (if r2 = 0 then
    Q (some (vI (-1))) ν1
    else
    ZR f_X6_frameAt 2 [vR 1 0, vI x1] ν1 (fun r4 ν3 =>
      (if x2 = 0 then
      (if (ν3 2 r4 2) = (-1) then
        Q (some (vI (-9))) ν3
        else
        Q (some (vI (ν3 2 r4 2))) ν3)
      else
      (if x2 = 1 then
      Q (some (vI (ν3 2 r4 3))) ν3
      else
      (if x2 = 2 then
      ZI f_X6_seekCost [vR 1 0, vI x1] ν3 (fun r6 ν5 =>
        Q (some (vI r6)) ν5)
      else
      (if x2 = 3 then
      ZI f_X6_depthOf [vR 1 0, vI x1] ν3 (fun r8 ν7 =>
        Q (some (vI r8)) ν7)
      else
      (if x2 = 4 then
      ZI f_X6_isReadable [vR 1 0, vI x1] ν3 (fun r10 ν9 =>
        (if r10 = 0 then
        Q (some (vI 0)) ν9
        else
        Q (some (vI 1)) ν9))
      else
      (if x2 = 5 then
      ZI f_X1_codesOfKind [vR 2 r4, vI 0] ν3 (fun r12 ν11 =>
        Q (some (vI r12)) ν11)
      else
      (if x2 = 6 then
      ZI f_X1_codesOfKind [vR 2 r4, vI 1] ν3 (fun r14 ν13 =>
        Q (some (vI r14)) ν13)
      else
      (if x2 = 7 then
      ZI f_X1_codesOfKind [vR 2 r4, vI 2] ν3 (fun r16 ν15 =>
        Q (some (vI r16)) ν15)
      else
      (if x2 = 8 then
      ZI f_X1_codesOfKind [vR 2 r4, vI 3] ν3 (fun r18 ν17 =>
        Q (some (vI r18)) ν17)
      else
      Q (some (vI (-1))) ν3))))))))))))) :
    ZW f_X7_frame 0 [vR 0 o0, vI x1, vI x2, none] [] μ Q := mvc_at zcd zml (C := zc76) rfl 68 0 h
theorem vc_X7_code_0 {μ : mzM} {Q : Option mzV → mzM → Prop} {o0 x1 x2 x3 : Int} (h :
    ZI f_X6_isFrame [vR 1 0, vI x1] μ (fun r2 ν1 =>
    (if r2 = 0 then
    Q (some (vI (-1))) ν1
    else
    ZI f_X2_hasBlock [vR 3 78, vI x2] ν1 (fun r4 ν3 =>
      (if r4 = 0 then
      Q (some (vI (-1))) ν3
      else
      (if x3 < 0 then
        Q (some (vI (-1))) ν3
        else
        (if x3 < 4 then
          ZR f_X6_frameAt 2 [vR 1 0, vI x1] ν3 (fun r6 ν5 =>
            ZI f_X1_codePart [vR 2 r6, vI x2, vI 0] ν5 (fun r8 ν7 =>
            (if x3 = 1 then
            (if r8 = 1 then
              (if x3 = 3 then
                (if r8 = 2 then
                  ZI f_X1_codePart [vR 2 r6, vI x2, vI x3] ν7 (fun r10 ν9 =>
                    Q (some (vI r10)) ν9)
                  else
                  (if r8 = 3 then
                    ZI f_X1_codePart [vR 2 r6, vI x2, vI x3] ν7 (fun r12 ν11 =>
                      Q (some (vI r12)) ν11)
                    else
                    Q (some (vI (-9))) ν7))
                else
                ZI f_X1_codePart [vR 2 r6, vI x2, vI x3] ν7 (fun r14 ν13 =>
                  Q (some (vI r14)) ν13))
              else
              Q (some (vI (-9))) ν7)
            else
            (if x3 = 2 then
              (if r8 = 1 then
                (if x3 = 3 then
                  (if r8 = 2 then
                    ZI f_X1_codePart [vR 2 r6, vI x2, vI x3] ν7 (fun r16 ν15 =>
                      Q (some (vI r16)) ν15)
                    else
                    (if r8 = 3 then
                      ZI f_X1_codePart [vR 2 r6, vI x2, vI x3] ν7 (fun r18 ν17 =>
                        Q (some (vI r18)) ν17)
                      else
                      Q (some (vI (-9))) ν7))
                  else
                  ZI f_X1_codePart [vR 2 r6, vI x2, vI x3] ν7 (fun r20 ν19 =>
                    Q (some (vI r20)) ν19))
                else
                Q (some (vI (-9))) ν7)
              else
              (if x3 = 3 then
                (if r8 = 2 then
                  ZI f_X1_codePart [vR 2 r6, vI x2, vI x3] ν7 (fun r22 ν21 =>
                    Q (some (vI r22)) ν21)
                  else
                  (if r8 = 3 then
                    ZI f_X1_codePart [vR 2 r6, vI x2, vI x3] ν7 (fun r24 ν23 =>
                      Q (some (vI r24)) ν23)
                    else
                    Q (some (vI (-9))) ν7))
                else
                ZI f_X1_codePart [vR 2 r6, vI x2, vI x3] ν7 (fun r26 ν25 =>
                  Q (some (vI r26)) ν25))))))
          else
          Q (some (vI (-1))) ν3))))))) :
    ZW f_X7_code 0 [vR 0 o0, vI x1, vI x2, vI x3, none, none] [] μ Q := mvc_at zcd zml (C := zc77) rfl 62 0 h
theorem vc_X7_run_0 {μ : mzM} {Q : Option mzV → mzM → Prop} {o0 x1 x2 x3 x4 : Int} (h :
    ZI f_X6_isFrame [vR 1 0, vI x1] μ (fun r2 ν1 =>
    (if r2 = 0 then
    Q (some (vI (-1))) ν1
    else
    ZI f_X2_hasBlock [vR 3 78, vI x2] ν1 (fun r4 ν3 =>
      (if r4 = 0 then
      Q (some (vI (-1))) ν3
      else
      (if x3 < 0 then
        Q (some (vI (-1))) ν3
        else
        (if x4 < 0 then
          Q (some (vI (-1))) ν3
          else
          (if (1 : Int) < x4 then
            Q (some (vI (-1))) ν3
            else
            ZR f_X6_frameAt 2 [vR 1 0, vI x1] ν3 (fun r6 ν5 =>
              ZI f_X1_codePart [vR 2 r6, vI x2, vI 0] ν5 (fun r8 ν7 =>
              (if r8 = 2 then
              (if r8 = 2 then
                ZR f_X6_frameAt 2 [vR 1 0, vI (ν7 2 r6 2)] ν7 (fun r10 ν9 =>
                  ZV f_X4_read [vR 12 0, vR 3 r6, vR 3 r10, vI x2] ν9 (fun ν11 =>
                  (if x3 < (ν11 12 0 2) then
                  (if x4 = 0 then
                    ZI f_X4_lengthOf [vR 12 0, vI x3] ν11 (fun r13 ν12 =>
                      Q (some (vI r13)) ν12)
                    else
                    ZI f_X4_valueOf [vR 12 0, vI x3] ν11 (fun r15 ν14 =>
                      Q (some (vI r15)) ν14))
                  else
                  Q (some (vI (-9))) ν11)))
                else
                ZV f_X4_read [vR 12 0, vR 3 r6, vR 99 0, vI x2] ν7 (fun ν16 =>
                  (if x3 < (ν16 12 0 2) then
                  (if x4 = 0 then
                    ZI f_X4_lengthOf [vR 12 0, vI x3] ν16 (fun r18 ν17 =>
                      Q (some (vI r18)) ν17)
                    else
                    ZI f_X4_valueOf [vR 12 0, vI x3] ν16 (fun r20 ν19 =>
                      Q (some (vI r20)) ν19))
                  else
                  Q (some (vI (-9))) ν16)))
              else
              (if r8 = 3 then
                (if r8 = 2 then
                  ZR f_X6_frameAt 2 [vR 1 0, vI (ν7 2 r6 2)] ν7 (fun r22 ν21 =>
                    ZV f_X4_read [vR 12 0, vR 3 r6, vR 3 r22, vI x2] ν21 (fun ν23 =>
                    (if x3 < (ν23 12 0 2) then
                    (if x4 = 0 then
                      ZI f_X4_lengthOf [vR 12 0, vI x3] ν23 (fun r25 ν24 =>
                        Q (some (vI r25)) ν24)
                      else
                      ZI f_X4_valueOf [vR 12 0, vI x3] ν23 (fun r27 ν26 =>
                        Q (some (vI r27)) ν26))
                    else
                    Q (some (vI (-9))) ν23)))
                  else
                  ZV f_X4_read [vR 12 0, vR 3 r6, vR 99 0, vI x2] ν7 (fun ν28 =>
                    (if x3 < (ν28 12 0 2) then
                    (if x4 = 0 then
                      ZI f_X4_lengthOf [vR 12 0, vI x3] ν28 (fun r30 ν29 =>
                        Q (some (vI r30)) ν29)
                      else
                      ZI f_X4_valueOf [vR 12 0, vI x3] ν28 (fun r32 ν31 =>
                        Q (some (vI r32)) ν31))
                    else
                    Q (some (vI (-9))) ν28)))
                else
                Q (some (vI (-9))) ν7)))))))))))) :
    ZW f_X7_run 0 [vR 0 o0, vI x1, vI x2, vI x3, vI x4, none, none, none, none] [] μ Q := mvc_at zcd zml (C := zc78) rfl 83 0 h
theorem vc_X7_pixel_0 {μ : mzM} {Q : Option mzV → mzM → Prop} {o0 x1 x2 : Int} (h :
    ZI f_X6_isFrame [vR 1 0, vI x1] μ (fun r2 ν1 =>
    (if r2 = 0 then
    Q (some (vI (-1))) ν1
    else
    ZI f_X2_hasCell [vR 3 78, vI x2] ν1 (fun r4 ν3 =>
      (if r4 = 0 then
      Q (some (vI (-1))) ν3
      else
      ZI f_X6_isReadable [vR 1 0, vI x1] ν3 (fun r6 ν5 =>
        (if r6 = 0 then
        Q (some (vI (-2))) ν5
        else
        ZR f_X6_imageOf 3 [vR 1 0, vI x1] ν5 (fun r8 ν7 =>
          ZI f_X2_numbered [vR 3 r8, vI x2] ν7 (fun r10 ν9 =>
          Q (some (vI r10)) ν9))))))))) :
    ZW f_X7_pixel 0 [vR 0 o0, vI x1, vI x2] [] μ Q := mvc_at zcd zml (C := zc79) rfl 32 0 h
theorem vc_X7_count_0 {μ : mzM} {Q : Option mzV → mzM → Prop} {o0 x1 : Int} (h :
    (if x1 = 0 then
    Q (some (vI (μ 3 78 1))) μ
    else
    (if x1 = 1 then
    Q (some (vI (μ 3 78 2))) μ
    else
    (if x1 = 2 then
    Q (some (vI (μ 1 0 3))) μ
    else
    (if x1 = 3 then
    Q (some (vI (μ 1 0 4))) μ
    else
    (if x1 = 4 then
    Q (some (vI (μ 1 0 5))) μ
    else
    (if x1 = 5 then
    Q (some (vI (μ 1 0 6))) μ
    else
    (if x1 = 6 then
    ZI f_X6_costOfRecords [vR 1 0] μ (fun r2 ν1 =>
      Q (some (vI r2)) ν1)
    else
    (if x1 = 7 then
    ZI f_X6_readableFrames [vR 1 0] μ (fun r4 ν3 =>
      Q (some (vI r4)) ν3)
    else
    (if x1 = 8 then
    Q (some (vI (μ 8 0 1))) μ
    else
    (if x1 = 9 then
    Q (some (vI (μ 0 o0 3))) μ
    else
    Q (some (vI (-1))) μ))))))))))) :
    ZW f_X7_count 0 [vR 0 o0, vI x1] [] μ Q := mvc_at zcd zml (C := zc80) rfl 50 0 h
theorem vc_X7_costWith_0 {μ : mzM} {Q : Option mzV → mzM → Prop} {o0 x1 : Int} (h :
    ZI f_X6_isImage [vR 1 0, vI x1] μ (fun r2 ν1 =>
    (if r2 = 0 then
    Q (some (vI (-1))) ν1
    else
    ZI f_X6_isReadable [vR 1 0, vI x1] ν1 (fun r4 ν3 =>
      (if r4 = 0 then
      Q (some (vI (-2))) ν3
      else
      ZI f_X7_costOfCanvas [vR 0 o0, vI x1] ν3 (fun r6 ν5 =>
        Q (some (vI r6)) ν5)))))) :
    ZW f_X7_costWith 0 [vR 0 o0, vI x1] [] μ Q := mvc_at zcd zml (C := zc81) rfl 23 0 h
theorem vc_X7_difference_0 {μ : mzM} {Q : Option mzV → mzM → Prop} {o0 x1 x2 : Int} (h :
    ZI f_X6_isImage [vR 1 0, vI x1] μ (fun r2 ν1 =>
    (if r2 = 0 then
    Q (some (vI (-1))) ν1
    else
    ZI f_X6_isImage [vR 1 0, vI x2] ν1 (fun r4 ν3 =>
      (if r4 = 0 then
      Q (some (vI (-1))) ν3
      else
      ZI f_X6_isReadable [vR 1 0, vI x1] ν3 (fun r6 ν5 =>
        (if r6 = 0 then
        Q (some (vI (-2))) ν5
        else
        ZI f_X6_isReadable [vR 1 0, vI x2] ν5 (fun r8 ν7 =>
          (if r8 = 0 then
          Q (some (vI (-2))) ν7
          else
          ZR f_X6_imageOf 3 [vR 1 0, vI x1] ν7 (fun r10 ν9 =>
            ZR f_X6_imageOf 3 [vR 1 0, vI x2] ν9 (fun r12 ν11 =>
            ZI f_X2_cellsUnlike [vR 3 r10, vR 3 r12] ν11 (fun r14 ν13 =>
            Q (some (vI r14)) ν13)))))))))))) :
    ZW f_X7_difference 0 [vR 0 o0, vI x1, vI x2] [] μ Q := mvc_at zcd zml (C := zc82) rfl 39 0 h
theorem vc_X7_findBlock_0 {μ : mzM} {Q : Option mzV → mzM → Prop} {o0 x1 x2 : Int} (h :
    ZI f_X6_isFrame [vR 1 0, vI x1] μ (fun r2 ν1 =>
    (if r2 = 0 then
    Q (some (vI (-1))) ν1
    else
    ZI f_X2_hasBlock [vR 3 78, vI x2] ν1 (fun r4 ν3 =>
      (if r4 = 0 then
      Q (some (vI (-1))) ν3
      else
      ZI f_X6_isReadable [vR 1 0, vI x1] ν3 (fun r6 ν5 =>
        (if r6 = 0 then
        Q (some (vI (-2))) ν5
        else
        ZR f_X6_imageOf 3 [vR 1 0, vI x1] ν5 (fun r8 ν7 =>
          ZI f_X2_left [vR 3 78, vI x2] ν7 (fun r10 ν9 =>
          ZI f_X2_top [vR 3 78, vI x2] ν9 (fun r12 ν11 =>
          ZW f_X7_findBlock 39 [vR 0 o0, vI x1, vI x2, vR 3 r8, vI r10, vI r12, vI 0, none] [] ν11 Q)))))))))) :
    ZW f_X7_findBlock 0 [vR 0 o0, vI x1, vI x2, none, none, none, none, none] [] μ Q := mvc_at zcd zml (C := zc83) rfl 80 0 h
theorem vc_X7_findBlock_39 {μ : mzM} {Q : Option mzV → mzM → Prop} {o0 o3 x1 x2 x4 x5 x6 : Int} {v7 : mzV} (h :
    (zin ((μ 3 o3 2) - 4) ∧ (if ((μ 3 o3 2) - 4) < x6 then
    Q (some (vI (-9))) μ
    else
    ZW f_X7_findBlock 47 [vR 0 o0, vI x1, vI x2, vR 3 o3, vI x4, vI x5, vI x6, vI 0] [] μ Q))) :
    ZW f_X7_findBlock 39 [vR 0 o0, vI x1, vI x2, vR 3 o3, vI x4, vI x5, vI x6, v7] [] μ Q := mvc_at zcd zml (C := zc83) rfl 80 39 h
theorem vc_X7_findBlock_47 {μ : mzM} {Q : Option mzV → mzM → Prop} {o0 o3 x1 x2 x4 x5 x6 x7 : Int} (h :
    (zin ((μ 3 o3 1) - 4) ∧ (if ((μ 3 o3 1) - 4) < x7 then
    (zin (x6 + 1) ∧ ZW f_X7_findBlock 39 [vR 0 o0, vI x1, vI x2, vR 3 o3, vI x4, vI x5, vI (x6 + 1), vI x7] [] μ Q)
    else
    ZI f_X2_samePart [vR 3 78, vI x4, vI x5, vR 3 o3, vI x7, vI x6] μ (fun r2 ν1 =>
      (if r2 = 0 then
      (zin (x7 + 1) ∧ ZW f_X7_findBlock 47 [vR 0 o0, vI x1, vI x2, vR 3 o3, vI x4, vI x5, vI x6, vI (x7 + 1)] [] ν1 Q)
      else
      (zin (100 * x7) ∧ (zin ((100 * x7) + x6) ∧ Q (some (vI ((100 * x7) + x6))) ν1))))))) :
    ZW f_X7_findBlock 47 [vR 0 o0, vI x1, vI x2, vR 3 o3, vI x4, vI x5, vI x6, vI x7] [] μ Q := mvc_at zcd zml (C := zc83) rfl 80 47 h
theorem vc_X7_falseMatches_0 {μ : mzM} {Q : Option mzV → mzM → Prop} {o0 x1 : Int} (h :
    ZI f_X6_isImage [vR 1 0, vI x1] μ (fun r2 ν1 =>
    (if r2 = 0 then
    Q (some (vI (-1))) ν1
    else
    ZI f_X6_isReadable [vR 1 0, vI x1] ν1 (fun r4 ν3 =>
      (if r4 = 0 then
      Q (some (vI (-2))) ν3
      else
      ZR f_X6_imageOf 3 [vR 1 0, vI x1] ν3 (fun r6 ν5 =>
        ZI f_X7_falsePairs [vR 0 o0, vR 3 r6] ν5 (fun r8 ν7 =>
        Q (some (vI r8)) ν7))))))) :
    ZW f_X7_falseMatches 0 [vR 0 o0, vI x1] [] μ Q := mvc_at zcd zml (C := zc84) rfl 26 0 h
theorem vc_X7_greatestSeek_0 {μ : mzM} {Q : Option mzV → mzM → Prop} {o0 : Int} (h :
    (if (μ 1 0 3) < 1 then
    Q (some (vI (-9))) μ
    else
    ZW f_X7_greatestSeek 11 [vR 0 o0, vI 0, vI 0] [] μ Q)) :
    ZW f_X7_greatestSeek 0 [vR 0 o0, none, none] [] μ Q := mvc_at zcd zml (C := zc85) rfl 32 0 h
theorem vc_X7_greatestSeek_11 {μ : mzM} {Q : Option mzV → mzM → Prop} {o0 x1 x2 : Int} (h :
    (if x2 < (μ 1 0 3) then
    ZI f_X6_seekCost [vR 1 0, vI x2] μ (fun r2 ν1 =>
      ZI f_J9_max_7cf53 [vI x1, vI r2] ν1 (fun r4 ν3 =>
      (zin (x2 + 1) ∧ ZW f_X7_greatestSeek 11 [vR 0 o0, vI r4, vI (x2 + 1)] [] ν3 Q)))
    else
    Q (some (vI x1)) μ)) :
    ZW f_X7_greatestSeek 11 [vR 0 o0, vI x1, vI x2] [] μ Q := mvc_at zcd zml (C := zc85) rfl 32 11 h
theorem vc_X7_dependents_0 {μ : mzM} {Q : Option mzV → mzM → Prop} {o0 x1 : Int} (h :
    ZI f_X6_isFrame [vR 1 0, vI x1] μ (fun r2 ν1 =>
    (if r2 = 0 then
    Q (some (vI (-1))) ν1
    else
    ZW f_X7_dependents 11 [vR 0 o0, vI x1, vI 0, vI 0] [] ν1 Q))) :
    ZW f_X7_dependents 0 [vR 0 o0, vI x1, none, none] [] μ Q := mvc_at zcd zml (C := zc86) rfl 32 0 h
theorem vc_X7_dependents_11 {μ : mzM} {Q : Option mzV → mzM → Prop} {o0 x1 x2 x3 : Int} (h :
    (if x3 < (μ 1 0 3) then
    ZI f_X6_chainHas [vR 1 0, vI x3, vI x1] μ (fun r2 ν1 =>
      (if r2 = 0 then
      (zin (x3 + 1) ∧ ZW f_X7_dependents 11 [vR 0 o0, vI x1, vI x2, vI (x3 + 1)] [] ν1 Q)
      else
      (zin (x2 + 1) ∧ (zin (x3 + 1) ∧ ZW f_X7_dependents 11 [vR 0 o0, vI x1, vI (x2 + 1), vI (x3 + 1)] [] ν1 Q))))
    else
    Q (some (vI x2)) μ)) :
    ZW f_X7_dependents 11 [vR 0 o0, vI x1, vI x2, vI x3] [] μ Q := mvc_at zcd zml (C := zc86) rfl 32 11 h
theorem vc_X7_patch_0 {μ : mzM} {Q : Option mzV → mzM → Prop} {o0 x1 : Int} (h :
    ZI f_X6_isFrame [vR 1 0, vI x1] μ (fun r2 ν1 =>
    (if r2 = 0 then
    Q (some (vI (-1))) ν1
    else
    ZR f_X6_frameAt 2 [vR 1 0, vI x1] ν1 (fun r4 ν3 =>
      (if (ν3 2 r4 4) = 0 then
      Q (some (vI (-2))) ν3
      else
      ZR f_X6_imageOf 3 [vR 1 0, vI x1] ν3 (fun r6 ν5 =>
        ZW f_X7_patch 26 [vR 0 o0, vI x1, vR 3 r6, vI (-9), vI 145, vI 0, none] [] ν5 Q)))))) :
    ZW f_X7_patch 0 [vR 0 o0, vI x1, none, none, none, none, none] [] μ Q := mvc_at zcd zml (C := zc87) rfl 59 0 h
theorem vc_X7_patch_26 {μ : mzM} {Q : Option mzV → mzM → Prop} {o0 o2 x1 x3 x4 x5 : Int} {v6 : mzV} (h :
    (if x5 < (μ 1 0 3) then
    ZI f_X6_isReadable [vR 1 0, vI x5] μ (fun r2 ν1 =>
      (if r2 = 0 then
      (zin (x5 + 1) ∧ ZW f_X7_patch 26 [vR 0 o0, vI x1, vR 3 o2, vI x3, vI x4, vI (x5 + 1), v6] [] ν1 Q)
      else
      ZR f_X6_imageOf 3 [vR 1 0, vI x5] ν1 (fun r4 ν3 =>
        ZI f_X2_cellsUnlike [vR 3 o2, vR 3 r4] ν3 (fun r6 ν5 =>
        (if r6 < x4 then
        (zin (x5 + 1) ∧ ZW f_X7_patch 26 [vR 0 o0, vI x1, vR 3 o2, vI x5, vI r6, vI (x5 + 1), vI r6] [] ν5 Q)
        else
        (zin (x5 + 1) ∧ ZW f_X7_patch 26 [vR 0 o0, vI x1, vR 3 o2, vI x3, vI x4, vI (x5 + 1), vI r6] [] ν5 Q))))))
    else
    Q (some (vI x3)) μ)) :
    ZW f_X7_patch 26 [vR 0 o0, vI x1, vR 3 o2, vI x3, vI x4, vI x5, v6] [] μ Q := mvc_at zcd zml (C := zc87) rfl 59 26 h
theorem vc_X7_planCost_0 {μ : mzM} {Q : Option mzV → mzM → Prop} {o0 : Int} (h :
    (if (μ 1 0 3) < 1 then
    Q (some (vI (-9))) μ
    else
    ZV f_X3_plan [vR 15 0, vR 1 0, vR 11 0, vR 2 77] μ (fun ν1 =>
      Q (some (vI (ν1 15 0 2))) ν1))) :
    ZW f_X7_planCost 0 [vR 0 o0] [] μ Q := mvc_at zcd zml (C := zc88) rfl 25 0 h
theorem vc_X7_planKeys_0 {μ : mzM} {Q : Option mzV → mzM → Prop} {o0 : Int} (h :
    (if (μ 1 0 3) < 1 then
    Q (some (vI (-9))) μ
    else
    ZV f_X3_plan [vR 15 0, vR 1 0, vR 11 0, vR 2 77] μ (fun ν1 =>
      Q (some (vI (ν1 15 0 3))) ν1))) :
    ZW f_X7_planKeys 0 [vR 0 o0] [] μ Q := mvc_at zcd zml (C := zc89) rfl 25 0 h
theorem vc_X7_undo_0 {μ : mzM} {Q : Option mzV → mzM → Prop} {o0 : Int} (h :
    (if (μ 0 o0 3) < 1 then
    Q (some (vI (-2))) μ
    else
    (zin ((μ 0 o0 3) - 1) ∧ ZR f_X7_savedSlot 1 [vR 0 o0, vI ((mup μ 0 o0 3 ((μ 0 o0 3) - 1)) 0 o0 3)] (mup μ 0 o0 3 ((μ 0 o0 3) - 1)) (fun r2 ν1 =>
      ZV f_X6_take [vR 1 0, vR 1 r2] ν1 (fun ν3 =>
      Q (some (vI (ν3 0 o0 3))) ν3))))) :
    ZW f_X7_undo 0 [vR 0 o0] [] μ Q := mvc_at zcd zml (C := zc90) rfl 27 0 h
theorem vc_X7_isSize_0 {μ : mzM} {Q : Option mzV → mzM → Prop} {x0 : Int} (h :
    (if x0 = 4 then
    Q (some (vI 1)) μ
    else
    (if x0 = 8 then
      Q (some (vI 1)) μ
      else
      (if x0 = 12 then
        Q (some (vI 1)) μ
        else
        Q (some (vI 0)) μ)))) :
    ZW f_X7_isSize 0 [vI x0] [] μ Q := mvc_at zcd zml (C := zc91) rfl 18 0 h
theorem vc_X7_save_0 {μ : mzM} {Q : Option mzV → mzM → Prop} {o0 : Int} (h :
    ZR f_X7_savedSlot 1 [vR 0 o0, vI (μ 0 o0 3)] μ (fun r2 ν1 =>
    ZV f_X6_take [vR 1 r2, vR 1 0] ν1 (fun ν3 =>
    (if (ν3 0 o0 3) < 6 then
    (zin ((ν3 0 o0 3) + 1) ∧ Q none (mup ν3 0 o0 3 ((ν3 0 o0 3) + 1)))
    else
    (zin ((ν3 0 o0 2) + 1) ∧ ((6 : Int) ≠ 0 ∧ Q none (mup ν3 0 o0 2 (Int.tmod ((ν3 0 o0 2) + 1) 6)))))))) :
    ZW f_X7_save 0 [vR 0 o0] [] μ Q := mvc_at zcd zml (C := zc92) rfl 32 0 h
theorem vc_X7_savedSlot_0 {μ : mzM} {Q : Option mzV → mzM → Prop} {o0 x1 : Int} (h :
    (zin ((μ 0 o0 2) + x1) ∧ ((6 : Int) ≠ 0 ∧ (if (Int.tmod ((μ 0 o0 2) + x1) 6) < 0 then
    Q (some (vR 1 0)) μ
    else
    (if (Int.tmod ((μ 0 o0 2) + x1) 6) < 6 then
      ((0 ≤ (Int.tmod ((μ 0 o0 2) + x1) 6) ∧ (Int.tmod ((μ 0 o0 2) + x1) 6) < 6) ∧ Q (some (vR 1 (1 + (Int.tmod ((μ 0 o0 2) + x1) 6)))) μ)
      else
      Q (some (vR 1 0)) μ))))) :
    ZW f_X7_savedSlot 0 [vR 0 o0, vI x1, none] [] μ Q := mvc_at zcd zml (C := zc93) rfl 27 0 h
theorem vc_X7_add_0 {μ : mzM} {Q : Option mzV → mzM → Prop} {o0 x1 : Int} (h :
    ZV f_X7_save [vR 0 o0] μ (fun ν1 =>
    ZR f_X6_frameAt 2 [vR 1 0, vI (ν1 1 0 3)] ν1 (fun r3 ν2 =>
    ZV f_X2_take [vR 3 r3, vR 3 78] ν2 (fun ν4 =>
    ZV f_X0_encode [vR 11 0, vR 2 r3, vR 1 0, vI x1] ν4 (fun ν5 =>
    (zin ((ν5 1 0 3) + 1) ∧ Q (some (vI ((mup ν5 1 0 3 ((ν5 1 0 3) + 1)) 2 r3 3))) (mup ν5 1 0 3 ((ν5 1 0 3) + 1)))))))) :
    ZW f_X7_add 0 [vR 0 o0, vI x1, none] [] μ Q := mvc_at zcd zml (C := zc94) rfl 37 0 h
theorem vc_X7_costOfCanvas_0 {μ : mzM} {Q : Option mzV → mzM → Prop} {o0 x1 : Int} (h :
    ZV f_X2_take [vR 3 77, vR 3 78] μ (fun ν1 =>
    ZV f_X0_encode [vR 11 0, vR 2 77, vR 1 0, vI x1] ν1 (fun ν2 =>
    Q (some (vI (ν2 2 77 3))) ν2))) :
    ZW f_X7_costOfCanvas 0 [vR 0 o0, vI x1] [] μ Q := mvc_at zcd zml (C := zc95) rfl 24 0 h
theorem vc_X7_chosenReference_0 {μ : mzM} {Q : Option mzV → mzM → Prop} {o0 : Int} (h :
    ZI f_X7_costOfCanvas [vR 0 o0, vI (-1)] μ (fun r2 ν1 =>
    ZW f_X7_chosenReference 10 [vR 0 o0, vI (-1), vI r2, vI 0, vI 0, none, none] [] ν1 Q)) :
    ZW f_X7_chosenReference 0 [vR 0 o0, none, none, none, none, none, none] [] μ Q := mvc_at zcd zml (C := zc96) rfl 56 0 h
theorem vc_X7_chosenReference_10 {μ : mzM} {Q : Option mzV → mzM → Prop} {o0 x1 x2 x3 x4 : Int} {v5 v6 : mzV} (h :
    (if x4 < (μ 1 0 3) then
    ZI f_X6_mayBeReference [vR 1 0, vI x4] μ (fun r2 ν1 =>
      (if r2 = 0 then
      (zin (x4 + 1) ∧ ZW f_X7_chosenReference 10 [vR 0 o0, vI x1, vI x2, vI x3, vI (x4 + 1), v5, v6] [] ν1 Q)
      else
      ZI f_X7_costOfCanvas [vR 0 o0, vI x4] ν1 (fun r4 ν3 =>
        ZI f_X6_depthOf [vR 1 0, vI x4] ν3 (fun r6 ν5 =>
        (zin (r6 + 1) ∧ (if r4 < x2 then
        (zin (x4 + 1) ∧ ZW f_X7_chosenReference 10 [vR 0 o0, vI x4, vI r4, vI (r6 + 1), vI (x4 + 1), vI r4, vI (r6 + 1)] [] ν5 Q)
        else
        (if r4 = x2 then
          (if x3 < (r6 + 1) then
            (zin (x4 + 1) ∧ ZW f_X7_chosenReference 10 [vR 0 o0, vI x1, vI x2, vI x3, vI (x4 + 1), vI r4, vI (r6 + 1)] [] ν5 Q)
            else
            (zin (x4 + 1) ∧ ZW f_X7_chosenReference 10 [vR 0 o0, vI x4, vI r4, vI (r6 + 1), vI (x4 + 1), vI r4, vI (r6 + 1)] [] ν5 Q))
          else
          (zin (x4 + 1) ∧ ZW f_X7_chosenReference 10 [vR 0 o0, vI x1, vI x2, vI x3, vI (x4 + 1), vI r4, vI (r6 + 1)] [] ν5 Q))))))))
    else
    Q (some (vI x1)) μ)) :
    ZW f_X7_chosenReference 10 [vR 0 o0, vI x1, vI x2, vI x3, vI x4, v5, v6] [] μ Q := mvc_at zcd zml (C := zc96) rfl 56 10 h
theorem vc_X7_falsePairs_0 {μ : mzM} {Q : Option mzV → mzM → Prop} {o0 o1 : Int} (h :
    (zin ((μ 3 o1 1) - 4) ∧ (zin (((μ 3 o1 1) - 4) + 1) ∧ (zin ((μ 3 o1 2) - 4) ∧ (zin (((μ 3 o1 2) - 4) + 1) ∧ (zin ((((μ 3 o1 1) - 4) + 1) * (((μ 3 o1 2) - 4) + 1)) ∧ ZI f_J9_min_7cf53 [vI 81, vI ((((μ 3 o1 1) - 4) + 1) * (((μ 3 o1 2) - 4) + 1))] μ (fun r2 ν1 =>
    (if (((μ 3 o1 1) - 4) + 1) < 1 then
    Q (some (vI 0)) ν1
    else
    ZW f_X7_falsePairs 27 [vR 0 o0, vR 3 o1, vI (((μ 3 o1 1) - 4) + 1), vI r2, vI 0, none, none] [] ν1 Q)))))))) :
    ZW f_X7_falsePairs 0 [vR 0 o0, vR 3 o1, none, none, none, none, none] [] μ Q := mvc_at zcd zml (C := zc97) rfl 95 0 h
theorem vc_X7_falsePairs_27 {μ : mzM} {Q : Option mzV → mzM → Prop} {o0 o1 x2 x3 x4 : Int} (h :
    (if x4 < x3 then
    (x2 ≠ 0 ∧ ((x2 ≠ 0 ∧ zin (Int.tdiv x4 x2)) ∧ ZI f_X2_partDigest [vR 3 o1, vI (Int.tmod x4 x2), vI (Int.tdiv x4 x2)] μ (fun r2 ν1 =>
      ((0 ≤ x4 ∧ x4 < 81) ∧ (zin (x4 + 1) ∧ ZW f_X7_falsePairs 27 [vR 0 o0, vR 3 o1, vI x2, vI x3, vI (x4 + 1), none, none] [] (mup ν1 18 0 x4 r2) Q)))))
    else
    ZW f_X7_falsePairs 48 [vR 0 o0, vR 3 o1, vI x2, vI x3, vI 0, vI 0, none] [] μ Q)) :
    ZW f_X7_falsePairs 27 [vR 0 o0, vR 3 o1, vI x2, vI x3, vI x4, none, none] [] μ Q := mvc_at zcd zml (C := zc97) rfl 95 27 h
theorem vc_X7_falsePairs_48 {μ : mzM} {Q : Option mzV → mzM → Prop} {o0 o1 x2 x3 x4 x5 : Int} {v6 : mzV} (h :
    (if x5 < x3 then
    (zin (x5 + 1) ∧ ZW f_X7_falsePairs 55 [vR 0 o0, vR 3 o1, vI x2, vI x3, vI x4, vI x5, vI (x5 + 1)] [] μ Q)
    else
    Q (some (vI x4)) μ)) :
    ZW f_X7_falsePairs 48 [vR 0 o0, vR 3 o1, vI x2, vI x3, vI x4, vI x5, v6] [] μ Q := mvc_at zcd zml (C := zc97) rfl 95 48 h
theorem vc_X7_falsePairs_55 {μ : mzM} {Q : Option mzV → mzM → Prop} {o0 o1 x2 x3 x4 x5 x6 : Int} (h :
    (if x6 < x3 then
    ((0 ≤ x5 ∧ x5 < 81) ∧ ((0 ≤ x6 ∧ x6 < 81) ∧ (if (μ 18 0 x5) = (μ 18 0 x6) then
      (x2 ≠ 0 ∧ ((x2 ≠ 0 ∧ zin (Int.tdiv x5 x2)) ∧ (x2 ≠ 0 ∧ ((x2 ≠ 0 ∧ zin (Int.tdiv x6 x2)) ∧ ZI f_X2_samePart [vR 3 o1, vI (Int.tmod x5 x2), vI (Int.tdiv x5 x2), vR 3 o1, vI (Int.tmod x6 x2), vI (Int.tdiv x6 x2)] μ (fun r2 ν1 =>
        (if r2 = 0 then
        (zin (x4 + 1) ∧ (zin (x6 + 1) ∧ ZW f_X7_falsePairs 55 [vR 0 o0, vR 3 o1, vI x2, vI x3, vI (x4 + 1), vI x5, vI (x6 + 1)] [] ν1 Q))
        else
        (zin (x6 + 1) ∧ ZW f_X7_falsePairs 55 [vR 0 o0, vR 3 o1, vI x2, vI x3, vI x4, vI x5, vI (x6 + 1)] [] ν1 Q)))))))
      else
      (zin (x6 + 1) ∧ ZW f_X7_falsePairs 55 [vR 0 o0, vR 3 o1, vI x2, vI x3, vI x4, vI x5, vI (x6 + 1)] [] μ Q))))
    else
    (zin (x5 + 1) ∧ ZW f_X7_falsePairs 48 [vR 0 o0, vR 3 o1, vI x2, vI x3, vI x4, vI (x5 + 1), vI x6] [] μ Q))) :
    ZW f_X7_falsePairs 55 [vR 0 o0, vR 3 o1, vI x2, vI x3, vI x4, vI x5, vI x6] [] μ Q := mvc_at zcd zml (C := zc97) rfl 95 55 h
theorem vc_X8_in_0 {μ : mzM} {Q : Option mzV → mzM → Prop} {x0 x1 x2 : Int} (h :
    (if x0 < x1 then
    Q (some (vI 0)) μ
    else
    (if x2 < x0 then
      Q (some (vI 0)) μ
      else
      Q (some (vI 1)) μ))) :
    ZW f_X8_in 0 [vI x0, vI x1, vI x2] [] μ Q := mvc_at zcd zml (C := zc98) rfl 15 0 h
theorem vc_X8_note_0 {μ : mzM} {Q : Option mzV → mzM → Prop} {o0 : Int} (h :
    (if (μ 20 o0 2) = 6 then
    ZW f_X8_note 6 [vR 20 o0, vI 0] [] μ Q
    else
    ZW f_X8_note 29 [vR 20 o0, vI 0] [] μ Q)) :
    ZW f_X8_note 0 [vR 20 o0, none] [] μ Q := mvc_at zcd zml (C := zc99) rfl 59 0 h
theorem vc_X8_note_6 {μ : mzM} {Q : Option mzV → mzM → Prop} {o0 x1 : Int} (h :
    (if x1 < 9400 then
    (zin (x1 + 1880) ∧ ((0 ≤ (x1 + 1880) ∧ (x1 + 1880) < 11280) ∧ ((0 ≤ x1 ∧ x1 < 11280) ∧ (zin (x1 + 1) ∧ ZW f_X8_note 6 [vR 20 o0, vI (x1 + 1)] [] (mup μ 22 0 x1 (μ 22 0 (x1 + 1880))) Q))))
    else
    (zin ((μ 20 o0 2) - 1) ∧ ZW f_X8_note 29 [vR 20 o0, vI 0] [] (mup μ 20 o0 2 ((μ 20 o0 2) - 1)) Q))) :
    ZW f_X8_note 6 [vR 20 o0, vI x1] [] μ Q := mvc_at zcd zml (C := zc99) rfl 59 6 h
theorem vc_X8_note_29 {μ : mzM} {Q : Option mzV → mzM → Prop} {o0 x1 : Int} (h :
    (if x1 < 1880 then
    (zin (1880 * (μ 20 o0 2)) ∧ (zin ((1880 * (μ 20 o0 2)) + x1) ∧ ((0 ≤ x1 ∧ x1 < 1880) ∧ ((0 ≤ ((1880 * (μ 20 o0 2)) + x1) ∧ ((1880 * (μ 20 o0 2)) + x1) < 11280) ∧ (zin (x1 + 1) ∧ ZW f_X8_note 29 [vR 20 o0, vI (x1 + 1)] [] (mup μ 22 0 ((1880 * (μ 20 o0 2)) + x1) (μ 21 0 x1)) Q)))))
    else
    (zin ((μ 20 o0 2) + 1) ∧ Q none (mup μ 20 o0 2 ((μ 20 o0 2) + 1))))) :
    ZW f_X8_note 29 [vR 20 o0, vI x1] [] μ Q := mvc_at zcd zml (C := zc99) rfl 59 29 h
theorem vc_X8_undo_0 {μ : mzM} {Q : Option mzV → mzM → Prop} {o0 : Int} (h :
    (if (μ 20 o0 2) = 0 then
    Q (some (vI (-2))) μ
    else
    (zin ((μ 20 o0 2) - 1) ∧ ZW f_X8_undo 13 [vR 20 o0, vI 0] [] (mup μ 20 o0 2 ((μ 20 o0 2) - 1)) Q))) :
    ZW f_X8_undo 0 [vR 20 o0, none] [] μ Q := mvc_at zcd zml (C := zc100) rfl 39 0 h
theorem vc_X8_undo_13 {μ : mzM} {Q : Option mzV → mzM → Prop} {o0 x1 : Int} (h :
    (if x1 < 1880 then
    (zin (1880 * (μ 20 o0 2)) ∧ (zin ((1880 * (μ 20 o0 2)) + x1) ∧ ((0 ≤ ((1880 * (μ 20 o0 2)) + x1) ∧ ((1880 * (μ 20 o0 2)) + x1) < 11280) ∧ ((0 ≤ x1 ∧ x1 < 1880) ∧ (zin (x1 + 1) ∧ ZW f_X8_undo 13 [vR 20 o0, vI (x1 + 1)] [] (mup μ 21 0 x1 (μ 22 0 ((1880 * (μ 20 o0 2)) + x1))) Q)))))
    else
    Q (some (vI (μ 20 o0 2))) μ)) :
    ZW f_X8_undo 13 [vR 20 o0, vI x1] [] μ Q := mvc_at zcd zml (C := zc100) rfl 39 13 h
theorem vc_X8_cells_0 {μ : mzM} {Q : Option mzV → mzM → Prop} {o0 : Int} (h :
    ((0 ≤ (0 : Int) ∧ (0 : Int) < 1880) ∧ ((0 ≤ (1 : Int) ∧ (1 : Int) < 1880) ∧ (zin ((μ 21 0 0) * (μ 21 0 1)) ∧ Q (some (vI ((μ 21 0 0) * (μ 21 0 1)))) μ)))) :
    ZW f_X8_cells 0 [vR 20 o0] [] μ Q := mvc_at zcd zml (C := zc101) rfl 15 0 h
theorem vc_X8_blocks_0 {μ : mzM} {Q : Option mzV → mzM → Prop} {o0 : Int} (h :
    ZI f_X8_cells [vR 20 o0] μ (fun r2 ν1 =>
    (((16 : Int) ≠ 0 ∧ zin (Int.tdiv r2 16)) ∧ Q (some (vI (Int.tdiv r2 16))) ν1))) :
    ZW f_X8_blocks 0 [vR 20 o0] [] μ Q := mvc_at zcd zml (C := zc102) rfl 10 0 h
theorem vc_X8_isFrame_0 {μ : mzM} {Q : Option mzV → mzM → Prop} {o0 x1 : Int} (h :
    ((0 ≤ (2 : Int) ∧ (2 : Int) < 1880) ∧ (zin ((μ 21 0 2) - 1) ∧ ZI f_X8_in [vI x1, vI 0, vI ((μ 21 0 2) - 1)] μ (fun r2 ν1 =>
    Q (some (vI (r2 % 2))) ν1)))) :
    ZW f_X8_isFrame 0 [vR 20 o0, vI x1] [] μ Q := mvc_at zcd zml (C := zc103) rfl 15 0 h
theorem vc_X8_value_0 {μ : mzM} {Q : Option mzV → mzM → Prop} {o0 x1 x2 : Int} (h :
    (if x1 < 0 then
    (zin (6 + x2) ∧ ((0 ≤ (6 + x2) ∧ (6 + x2) < 1880) ∧ Q (some (vI (μ 21 0 (6 + x2)))) μ))
    else
    (zin (144 * x1) ∧ (zin (150 + (144 * x1)) ∧ (zin ((150 + (144 * x1)) + x2) ∧ ((0 ≤ ((150 + (144 * x1)) + x2) ∧ ((150 + (144 * x1)) + x2) < 1880) ∧ Q (some (vI (μ 21 0 ((150 + (144 * x1)) + x2)))) μ)))))) :
    ZW f_X8_value 0 [vR 20 o0, vI x1, vI x2] [] μ Q := mvc_at zcd zml (C := zc104) rfl 25 0 h
theorem vc_X8_reference_0 {μ : mzM} {Q : Option mzV → mzM → Prop} {o0 x1 : Int} (h :
    (zin (1590 + x1) ∧ ((0 ≤ (1590 + x1) ∧ (1590 + x1) < 1880) ∧ Q (some (vI (μ 21 0 (1590 + x1)))) μ))) :
    ZW f_X8_reference 0 [vR 20 o0, vI x1] [] μ Q := mvc_at zcd zml (C := zc105) rfl 12 0 h
theorem vc_X8_depthOf_0 {μ : mzM} {Q : Option mzV → mzM → Prop} {o0 x1 : Int} (h :
    ZW f_X8_depthOf 4 [vR 20 o0, vI x1, vI 0, vI x1] [] μ Q) :
    ZW f_X8_depthOf 0 [vR 20 o0, vI x1, none, none] [] μ Q := mvc_at zcd zml (C := zc106) rfl 22 0 h
theorem vc_X8_depthOf_4 {μ : mzM} {Q : Option mzV → mzM → Prop} {o0 x1 x2 x3 : Int} (h :
    ZI f_X8_reference [vR 20 o0, vI x3] μ (fun r2 ν1 =>
    (if r2 = (-1) then
    Q (some (vI x2)) ν1
    else
    (zin (x2 + 1) ∧ ZI f_X8_reference [vR 20 o0, vI x3] ν1 (fun r4 ν3 =>
      ZW f_X8_depthOf 4 [vR 20 o0, vI x1, vI (x2 + 1), vI r4] [] ν3 Q))))) :
    ZW f_X8_depthOf 4 [vR 20 o0, vI x1, vI x2, vI x3] [] μ Q := mvc_at zcd zml (C := zc106) rfl 22 4 h
theorem vc_X8_isGood_0 {μ : mzM} {Q : Option mzV → mzM → Prop} {o0 x1 : Int} (h :
    (zin (1600 + x1) ∧ ((0 ≤ (1600 + x1) ∧ (1600 + x1) < 1880) ∧ (if (μ 21 0 (1600 + x1)) = 0 then
    ZW f_X8_isGood 13 [vR 20 o0, vI x1, vI 1, vI x1] [] μ Q
    else
    ZW f_X8_isGood 13 [vR 20 o0, vI x1, vI 0, vI x1] [] μ Q)))) :
    ZW f_X8_isGood 0 [vR 20 o0, vI x1, none, none] [] μ Q := mvc_at zcd zml (C := zc107) rfl 45 0 h
theorem vc_X8_isGood_13 {μ : mzM} {Q : Option mzV → mzM → Prop} {o0 x1 x2 x3 : Int} (h :
    ZI f_X8_reference [vR 20 o0, vI x3] μ (fun r2 ν1 =>
    (if r2 = (-1) then
    Q (some (vI (x2 % 2))) ν1
    else
    (if x2 = 0 then
      Q (some (vI (x2 % 2))) ν1
      else
      ZI f_X8_reference [vR 20 o0, vI x3] ν1 (fun r4 ν3 =>
        (zin (1600 + r4) ∧ ((0 ≤ (1600 + r4) ∧ (1600 + r4) < 1880) ∧ (if (ν3 21 0 (1600 + r4)) = 0 then
        ZI f_X8_reference [vR 20 o0, vI x3] ν3 (fun r6 ν5 =>
          ZW f_X8_isGood 13 [vR 20 o0, vI x1, vI 1, vI r6] [] ν5 Q)
        else
        ZI f_X8_reference [vR 20 o0, vI x3] ν3 (fun r8 ν7 =>
          ZW f_X8_isGood 13 [vR 20 o0, vI x1, vI 0, vI r8] [] ν7 Q))))))))) :
    ZW f_X8_isGood 13 [vR 20 o0, vI x1, vI x2, vI x3] [] μ Q := mvc_at zcd zml (C := zc107) rfl 45 13 h
theorem vc_X8_goods_0 {μ : mzM} {Q : Option mzV → mzM → Prop} {o0 : Int} (h :
    ZW f_X8_goods 4 [vR 20 o0, vI 0, vI 0] [] μ Q) :
    ZW f_X8_goods 0 [vR 20 o0, none, none] [] μ Q := mvc_at zcd zml (C := zc108) rfl 29 0 h
theorem vc_X8_goods_4 {μ : mzM} {Q : Option mzV → mzM → Prop} {o0 x1 x2 : Int} (h :
    ((0 ≤ (2 : Int) ∧ (2 : Int) < 1880) ∧ (if x2 < (μ 21 0 2) then
    ZI f_X8_isGood [vR 20 o0, vI x2] μ (fun r2 ν1 =>
      (if r2 = 0 then
      (zin (x1 + 0) ∧ (zin (x2 + 1) ∧ ZW f_X8_goods 4 [vR 20 o0, vI (x1 + 0), vI (x2 + 1)] [] ν1 Q))
      else
      (zin (x1 + 1) ∧ (zin (x2 + 1) ∧ ZW f_X8_goods 4 [vR 20 o0, vI (x1 + 1), vI (x2 + 1)] [] ν1 Q))))
    else
    Q (some (vI x1)) μ))) :
    ZW f_X8_goods 4 [vR 20 o0, vI x1, vI x2] [] μ Q := mvc_at zcd zml (C := zc108) rfl 29 4 h
theorem vc_X8_setSize_0 {μ : mzM} {Q : Option mzV → mzM → Prop} {o0 x1 x2 : Int} (h :
    ((4 : Int) ≠ 0 ∧ (if (Int.tmod x1 4) = 0 then
    ((4 : Int) ≠ 0 ∧ (if (Int.tmod x2 4) = 0 then
      ZI f_X8_in [vI x1, vI 4, vI 12] μ (fun r2 ν1 =>
        (if r2 = 0 then
        Q (some (vI (-1))) ν1
        else
        ZI f_X8_in [vI x2, vI 4, vI 12] ν1 (fun r4 ν3 =>
          (if r4 = 0 then
          Q (some (vI (-1))) ν3
          else
          ZV f_X8_note [vR 20 o0] ν3 (fun ν5 =>
            ((0 ≤ (0 : Int) ∧ (0 : Int) < 1880) ∧ ((0 ≤ (1 : Int) ∧ (1 : Int) < 1880) ∧ ((0 ≤ (2 : Int) ∧ (2 : Int) < 1880) ∧ ZW f_X8_setSize 39 [vR 20 o0, vI x1, vI x2, vI 6] [] (mup (mup (mup ν5 21 0 0 x1) 21 0 1 x2) 21 0 2 0) Q))))))))
      else
      Q (some (vI (-1))) μ))
    else
    Q (some (vI (-1))) μ))) :
    ZW f_X8_setSize 0 [vR 20 o0, vI x1, vI x2, none] [] μ Q := mvc_at zcd zml (C := zc109) rfl 57 0 h
theorem vc_X8_setSize_39 {μ : mzM} {Q : Option mzV → mzM → Prop} {o0 x1 x2 x3 : Int} (h :
    (if x3 < 1880 then
    ((0 ≤ x3 ∧ x3 < 1880) ∧ (zin (x3 + 1) ∧ ZW f_X8_setSize 39 [vR 20 o0, vI x1, vI x2, vI (x3 + 1)] [] (mup μ 21 0 x3 0) Q))
    else
    ZI f_X8_blocks [vR 20 o0] μ (fun r2 ν1 =>
      Q (some (vI r2)) ν1))) :
    ZW f_X8_setSize 39 [vR 20 o0, vI x1, vI x2, vI x3] [] μ Q := mvc_at zcd zml (C := zc109) rfl 57 39 h
theorem vc_X8_isCell_0 {μ : mzM} {Q : Option mzV → mzM → Prop} {o0 x1 : Int} (h :
    ZI f_X8_cells [vR 20 o0] μ (fun r2 ν1 =>
    (zin (r2 - 1) ∧ ZI f_X8_in [vI x1, vI 0, vI (r2 - 1)] ν1 (fun r4 ν3 =>
    Q (some (vI (r4 % 2))) ν3)))) :
    ZW f_X8_isCell 0 [vR 20 o0, vI x1] [] μ Q := mvc_at zcd zml (C := zc110) rfl 13 0 h
theorem vc_X8_setCell_0 {μ : mzM} {Q : Option mzV → mzM → Prop} {o0 x1 x2 : Int} (h :
    ZI f_X8_isCell [vR 20 o0, vI x1] μ (fun r2 ν1 =>
    (if r2 = 0 then
    Q (some (vI (-1))) ν1
    else
    ZI f_X8_in [vI x2, vI 0, vI 15] ν1 (fun r4 ν3 =>
      (if r4 = 0 then
      Q (some (vI (-1))) ν3
      else
      ZV f_X8_note [vR 20 o0] ν3 (fun ν5 =>
        (zin (6 + x1) ∧ ((0 ≤ (6 + x1) ∧ (6 + x1) < 1880) ∧ (zin (6 + x1) ∧ ((0 ≤ (6 + x1) ∧ (6 + x1) < 1880) ∧ Q (some (vI (ν5 21 0 (6 + x1)))) (mup ν5 21 0 (6 + x1) x2))))))))))) :
    ZW f_X8_setCell 0 [vR 20 o0, vI x1, vI x2, none] [] μ Q := mvc_at zcd zml (C := zc111) rfl 34 0 h
theorem vc_X8_cell_0 {μ : mzM} {Q : Option mzV → mzM → Prop} {o0 x1 : Int} (h :
    ZI f_X8_isCell [vR 20 o0, vI x1] μ (fun r2 ν1 =>
    (if r2 = 0 then
    Q (some (vI (-1))) ν1
    else
    (zin (6 + x1) ∧ ((0 ≤ (6 + x1) ∧ (6 + x1) < 1880) ∧ Q (some (vI (ν1 21 0 (6 + x1)))) ν1))))) :
    ZW f_X8_cell 0 [vR 20 o0, vI x1] [] μ Q := mvc_at zcd zml (C := zc112) rfl 18 0 h
theorem vc_X8_appendCharacter_0 {μ : mzM} {Q : Option mzV → mzM → Prop} {o0 x1 : Int} (h :
    ZI f_X8_in [vI x1, vI 0, vI 255] μ (fun r2 ν1 =>
    (if r2 = 0 then
    Q (some (vI (-1))) ν1
    else
    (if (ν1 20 o0 4) = 160 then
      Q (some (vI (-3))) ν1
      else
      ((0 ≤ (ν1 20 o0 4) ∧ (ν1 20 o0 4) < 160) ∧ (zin (((mup ν1 23 0 (ν1 20 o0 4) (zb (zb x1))) 20 o0 4) + 1) ∧ Q (some (vI ((mup (mup ν1 23 0 (ν1 20 o0 4) (zb (zb x1))) 20 o0 4 (((mup ν1 23 0 (ν1 20 o0 4) (zb (zb x1))) 20 o0 4) + 1)) 20 o0 4))) (mup (mup ν1 23 0 (ν1 20 o0 4) (zb (zb x1))) 20 o0 4 (((mup ν1 23 0 (ν1 20 o0 4) (zb (zb x1))) 20 o0 4) + 1)))))))) :
    ZW f_X8_appendCharacter 0 [vR 20 o0, vI x1] [] μ Q := mvc_at zcd zml (C := zc113) rfl 34 0 h
theorem vc_X8_clearText_0 {μ : mzM} {Q : Option mzV → mzM → Prop} {o0 : Int} (h :
    Q (some (vI (μ 20 o0 4))) (mup μ 20 o0 4 0)) :
    ZW f_X8_clearText 0 [vR 20 o0, none] [] μ Q := mvc_at zcd zml (C := zc114) rfl 13 0 h
theorem vc_X8_here_0 {μ : mzM} {Q : Option mzV → mzM → Prop} {o0 : Int} (h :
    (if (μ 20 o0 5) < (μ 20 o0 4) then
    ((0 ≤ (μ 20 o0 5) ∧ (μ 20 o0 5) < 160) ∧ Q (some (vI (zand (μ 23 0 (μ 20 o0 5)) 255))) μ)
    else
    Q (some (vI (-1))) μ)) :
    ZW f_X8_here 0 [vR 20 o0] [] μ Q := mvc_at zcd zml (C := zc115) rfl 20 0 h
theorem vc_X8_readsToken_0 {μ : mzM} {Q : Option mzV → mzM → Prop} {o0 : Int} (h :
    ZI f_X8_here [vR 20 o0] μ (fun r2 ν1 =>
    (if r2 = 32 then
    (zin ((ν1 20 o0 5) + 1) ∧ ZW f_X8_readsToken 0 [vR 20 o0, none] [] (mup ν1 20 o0 5 ((ν1 20 o0 5) + 1)) Q)
    else
    ZI f_X8_here [vR 20 o0] (mup (mup ν1 20 o0 6 (ν1 20 o0 5)) 33 o0 0 0) (fun r4 ν3 =>
      (if r4 = 45 then
      (((1 : Int) = 0 ∨ (1 : Int) = 1) ∧ (if ((mup ν3 20 o0 9 1) 20 o0 9) = 0 then
        (zin (((mup ν3 20 o0 9 1) 20 o0 5) + 0) ∧ (if ((mup (mup ν3 20 o0 9 1) 20 o0 5 (((mup ν3 20 o0 9 1) 20 o0 5) + 0)) 20 o0 9) = 0 then
          ZI f_X8_here [vR 20 o0] (mup (mup ν3 20 o0 9 1) 20 o0 5 (((mup ν3 20 o0 9 1) 20 o0 5) + 0)) (fun r6 ν5 =>
            ZI f_X8_in [vI r6, vI 97, vI 122] ν5 (fun r8 ν7 =>
            (if r8 = 0 then
            ZW f_X8_readsToken 87 [vR 20 o0, none] [vR 20 o0] ν7 Q
            else
            ZW f_X8_readsToken 50 [vR 20 o0, none] [] (mup ν7 20 o0 7 1) Q)))
          else
          ZW f_X8_readsToken 87 [vR 20 o0, none] [vR 20 o0] (mup (mup ν3 20 o0 9 1) 20 o0 5 (((mup ν3 20 o0 9 1) 20 o0 5) + 0)) Q))
        else
        (zin (((mup ν3 20 o0 9 1) 20 o0 5) + 1) ∧ (if ((mup (mup ν3 20 o0 9 1) 20 o0 5 (((mup ν3 20 o0 9 1) 20 o0 5) + 1)) 20 o0 9) = 0 then
          ZI f_X8_here [vR 20 o0] (mup (mup ν3 20 o0 9 1) 20 o0 5 (((mup ν3 20 o0 9 1) 20 o0 5) + 1)) (fun r10 ν9 =>
            ZI f_X8_in [vI r10, vI 97, vI 122] ν9 (fun r12 ν11 =>
            (if r12 = 0 then
            ZW f_X8_readsToken 87 [vR 20 o0, none] [vR 20 o0] ν11 Q
            else
            ZW f_X8_readsToken 50 [vR 20 o0, none] [] (mup ν11 20 o0 7 1) Q)))
          else
          ZW f_X8_readsToken 87 [vR 20 o0, none] [vR 20 o0] (mup (mup ν3 20 o0 9 1) 20 o0 5 (((mup ν3 20 o0 9 1) 20 o0 5) + 1)) Q))))
      else
      (((0 : Int) = 0 ∨ (0 : Int) = 1) ∧ (if ((mup ν3 20 o0 9 0) 20 o0 9) = 0 then
        (zin (((mup ν3 20 o0 9 0) 20 o0 5) + 0) ∧ (if ((mup (mup ν3 20 o0 9 0) 20 o0 5 (((mup ν3 20 o0 9 0) 20 o0 5) + 0)) 20 o0 9) = 0 then
          ZI f_X8_here [vR 20 o0] (mup (mup ν3 20 o0 9 0) 20 o0 5 (((mup ν3 20 o0 9 0) 20 o0 5) + 0)) (fun r14 ν13 =>
            ZI f_X8_in [vI r14, vI 97, vI 122] ν13 (fun r16 ν15 =>
            (if r16 = 0 then
            ZW f_X8_readsToken 87 [vR 20 o0, none] [vR 20 o0] ν15 Q
            else
            ZW f_X8_readsToken 50 [vR 20 o0, none] [] (mup ν15 20 o0 7 1) Q)))
          else
          ZW f_X8_readsToken 87 [vR 20 o0, none] [vR 20 o0] (mup (mup ν3 20 o0 9 0) 20 o0 5 (((mup ν3 20 o0 9 0) 20 o0 5) + 0)) Q))
        else
        (zin (((mup ν3 20 o0 9 0) 20 o0 5) + 1) ∧ (if ((mup (mup ν3 20 o0 9 0) 20 o0 5 (((mup ν3 20 o0 9 0) 20 o0 5) + 1)) 20 o0 9) = 0 then
          ZI f_X8_here [vR 20 o0] (mup (mup ν3 20 o0 9 0) 20 o0 5 (((mup ν3 20 o0 9 0) 20 o0 5) + 1)) (fun r18 ν17 =>
            ZI f_X8_in [vI r18, vI 97, vI 122] ν17 (fun r20 ν19 =>
            (if r20 = 0 then
            ZW f_X8_readsToken 87 [vR 20 o0, none] [vR 20 o0] ν19 Q
            else
            ZW f_X8_readsToken 50 [vR 20 o0, none] [] (mup ν19 20 o0 7 1) Q)))
          else
          ZW f_X8_readsToken 87 [vR 20 o0, none] [vR 20 o0] (mup (mup ν3 20 o0 9 0) 20 o0 5 (((mup ν3 20 o0 9 0) 20 o0 5) + 1)) Q))))))))) :
    ZW f_X8_readsToken 0 [vR 20 o0, none] [] μ Q := mvc_at zcd zml (C := zc116) rfl 191 0 h
theorem vc_X8_readsToken_50 {μ : mzM} {Q : Option mzV → mzM → Prop} {o0 : Int} (h :
    ZI f_X8_here [vR 20 o0] μ (fun r2 ν1 =>
    ZI f_X8_in [vI r2, vI 97, vI 122] ν1 (fun r4 ν3 =>
    (if r4 = 0 then
    Q none ν3
    else
    (zin ((ν3 20 o0 5) - (ν3 20 o0 6)) ∧ (if ((ν3 20 o0 5) - (ν3 20 o0 6)) < 8 then
      (zin6 (27 * (ν3 33 o0 0)) ∧ ZI f_X8_here [vR 20 o0] ν3 (fun r6 ν5 =>
        (zin6 ((27 * (ν3 33 o0 0)) + r6) ∧ (zin6 (((27 * (ν3 33 o0 0)) + r6) - 97) ∧ (zin6 ((((27 * (ν3 33 o0 0)) + r6) - 97) + 1) ∧ (zin (((mup ν5 33 o0 0 ((((27 * (ν3 33 o0 0)) + r6) - 97) + 1)) 20 o0 5) + 1) ∧ ZW f_X8_readsToken 50 [vR 20 o0, none] [] (mup (mup ν5 33 o0 0 ((((27 * (ν3 33 o0 0)) + r6) - 97) + 1)) 20 o0 5 (((mup ν5 33 o0 0 ((((27 * (ν3 33 o0 0)) + r6) - 97) + 1)) 20 o0 5) + 1)) Q))))))
      else
      (zin (((mup ν3 33 o0 0 (-1)) 20 o0 5) + 1) ∧ ZW f_X8_readsToken 50 [vR 20 o0, none] [] (mup (mup ν3 33 o0 0 (-1)) 20 o0 5 (((mup ν3 33 o0 0 (-1)) 20 o0 5) + 1)) Q))))))) :
    ZW f_X8_readsToken 50 [vR 20 o0, none] [] μ Q := mvc_at zcd zml (C := zc116) rfl 191 50 h
theorem vc_X8_readsToken_87 {μ : mzM} {Q : Option mzV → mzM → Prop} {o0 q0 : Int} (h :
    ZI f_X8_here [vR 20 q0] μ (fun r2 ν1 =>
    ZI f_X8_in [vI r2, vI 48, vI 57] ν1 (fun r4 ν3 =>
    (if r4 = 0 then
    (if (ν3 20 o0 9) = 0 then
      ZI f_X8_here [vR 20 o0] ν3 (fun r6 ν5 =>
        (if r6 < 0 then
        (if ((mup ν5 20 o0 7 0) 20 o0 9) = 0 then
          ZI f_X8_here [vR 20 o0] (mup ν5 20 o0 7 0) (fun r8 ν7 =>
            (if r8 < 0 then
            (zin (((mup ν5 20 o0 7 0) 20 o0 5) + 0) ∧ Q none (mup ν7 20 o0 5 (((mup ν5 20 o0 7 0) 20 o0 5) + 0)))
            else
            (zin (((mup ν5 20 o0 7 0) 20 o0 5) + 1) ∧ Q none (mup ν7 20 o0 5 (((mup ν5 20 o0 7 0) 20 o0 5) + 1)))))
          else
          (zin (((mup ν5 20 o0 7 0) 20 o0 5) + 0) ∧ Q none (mup (mup ν5 20 o0 7 0) 20 o0 5 (((mup ν5 20 o0 7 0) 20 o0 5) + 0))))
        else
        ZI f_X8_here [vR 20 o0] ν5 (fun r10 ν9 =>
          (if r10 = 59 then
          (if ((mup ν9 20 o0 7 3) 20 o0 9) = 0 then
            ZI f_X8_here [vR 20 o0] (mup ν9 20 o0 7 3) (fun r12 ν11 =>
              (if r12 < 0 then
              (zin (((mup ν9 20 o0 7 3) 20 o0 5) + 0) ∧ Q none (mup ν11 20 o0 5 (((mup ν9 20 o0 7 3) 20 o0 5) + 0)))
              else
              (zin (((mup ν9 20 o0 7 3) 20 o0 5) + 1) ∧ Q none (mup ν11 20 o0 5 (((mup ν9 20 o0 7 3) 20 o0 5) + 1)))))
            else
            (zin (((mup ν9 20 o0 7 3) 20 o0 5) + 0) ∧ Q none (mup (mup ν9 20 o0 7 3) 20 o0 5 (((mup ν9 20 o0 7 3) 20 o0 5) + 0))))
          else
          (if ((mup ν9 20 o0 7 4) 20 o0 9) = 0 then
            ZI f_X8_here [vR 20 o0] (mup ν9 20 o0 7 4) (fun r14 ν13 =>
              (if r14 < 0 then
              (zin (((mup ν9 20 o0 7 4) 20 o0 5) + 0) ∧ Q none (mup ν13 20 o0 5 (((mup ν9 20 o0 7 4) 20 o0 5) + 0)))
              else
              (zin (((mup ν9 20 o0 7 4) 20 o0 5) + 1) ∧ Q none (mup ν13 20 o0 5 (((mup ν9 20 o0 7 4) 20 o0 5) + 1)))))
            else
            (zin (((mup ν9 20 o0 7 4) 20 o0 5) + 0) ∧ Q none (mup (mup ν9 20 o0 7 4) 20 o0 5 (((mup ν9 20 o0 7 4) 20 o0 5) + 0))))))))
      else
      (if ((mup ν3 20 o0 7 4) 20 o0 9) = 0 then
        ZI f_X8_here [vR 20 o0] (mup ν3 20 o0 7 4) (fun r16 ν15 =>
          (if r16 < 0 then
          (zin (((mup ν3 20 o0 7 4) 20 o0 5) + 0) ∧ Q none (mup ν15 20 o0 5 (((mup ν3 20 o0 7 4) 20 o0 5) + 0)))
          else
          (zin (((mup ν3 20 o0 7 4) 20 o0 5) + 1) ∧ Q none (mup ν15 20 o0 5 (((mup ν3 20 o0 7 4) 20 o0 5) + 1)))))
        else
        (zin (((mup ν3 20 o0 7 4) 20 o0 5) + 0) ∧ Q none (mup (mup ν3 20 o0 7 4) 20 o0 5 (((mup ν3 20 o0 7 4) 20 o0 5) + 0)))))
    else
    ZW f_X8_readsToken 95 [vR 20 o0, vI (ν3 20 o0 5)] [] ν3 Q)))) :
    ZW f_X8_readsToken 87 [vR 20 o0, none] [vR 20 q0] μ Q := mvc_at zcd zml (C := zc116) rfl 191 87 h
theorem vc_X8_readsToken_95 {μ : mzM} {Q : Option mzV → mzM → Prop} {o0 x1 : Int} (h :
    ZI f_X8_here [vR 20 o0] μ (fun r2 ν1 =>
    ZI f_X8_in [vI r2, vI 48, vI 57] ν1 (fun r4 ν3 =>
    (if r4 = 0 then
    (zin ((ν3 20 o0 5) - x1) ∧ (if (2 : Int) < ((ν3 20 o0 5) - x1) then
      Q none (mup ν3 20 o0 7 4)
      else
      ((0 ≤ x1 ∧ x1 < 160) ∧ (if (ν3 23 0 x1) = 48 then
        (zin ((ν3 20 o0 5) - x1) ∧ (if (1 : Int) < ((ν3 20 o0 5) - x1) then
          Q none (mup ν3 20 o0 7 4)
          else
          Q none (mup ν3 20 o0 7 2)))
        else
        Q none (mup ν3 20 o0 7 2)))))
    else
    (if (zcmp (ν3 33 o0 0) 1000) < 0 then
      (zin6 (10 * (ν3 33 o0 0)) ∧ ZI f_X8_here [vR 20 o0] ν3 (fun r6 ν5 =>
        (zin6 ((10 * (ν3 33 o0 0)) + r6) ∧ (zin6 (((10 * (ν3 33 o0 0)) + r6) - 48) ∧ (zin (((mup ν5 33 o0 0 (((10 * (ν3 33 o0 0)) + r6) - 48)) 20 o0 5) + 1) ∧ ZW f_X8_readsToken 95 [vR 20 o0, vI x1] [] (mup (mup ν5 33 o0 0 (((10 * (ν3 33 o0 0)) + r6) - 48)) 20 o0 5 (((mup ν5 33 o0 0 (((10 * (ν3 33 o0 0)) + r6) - 48)) 20 o0 5) + 1)) Q)))))
      else
      (zin (((mup ν3 33 o0 0 (ν3 33 o0 0)) 20 o0 5) + 1) ∧ ZW f_X8_readsToken 95 [vR 20 o0, vI x1] [] (mup (mup ν3 33 o0 0 (ν3 33 o0 0)) 20 o0 5 (((mup ν3 33 o0 0 (ν3 33 o0 0)) 20 o0 5) + 1)) Q)))))) :
    ZW f_X8_readsToken 95 [vR 20 o0, vI x1] [] μ Q := mvc_at zcd zml (C := zc116) rfl 191 95 h
theorem vc_X8_takes_0 {μ : mzM} {Q : Option mzV → mzM → Prop} {o0 x1 : Int} (h :
    (if (μ 20 o0 10) = 0 then
    (if x1 = 0 then
      (((1 : Int) = 0 ∨ (1 : Int) = 1) ∧ (if ((mup μ 20 o0 10 1) 20 o0 10) = 0 then
        ZV f_X8_readsToken [vR 20 o0] (mup μ 20 o0 10 1) (fun ν1 =>
          Q none ν1)
        else
        Q none (mup μ 20 o0 10 1)))
      else
      (((0 : Int) = 0 ∨ (0 : Int) = 1) ∧ (if ((mup μ 20 o0 10 0) 20 o0 10) = 0 then
        ZV f_X8_readsToken [vR 20 o0] (mup μ 20 o0 10 0) (fun ν2 =>
          Q none ν2)
        else
        Q none (mup μ 20 o0 10 0))))
    else
    (((1 : Int) = 0 ∨ (1 : Int) = 1) ∧ (if ((mup μ 20 o0 10 1) 20 o0 10) = 0 then
      ZV f_X8_readsToken [vR 20 o0] (mup μ 20 o0 10 1) (fun ν3 =>
        Q none ν3)
      else
      Q none (mup μ 20 o0 10 1))))) :
    ZW f_X8_takes 0 [vR 20 o0, vI x1] [] μ Q := mvc_at zcd zml (C := zc117) rfl 21 0 h
theorem vc_X8_takesNumber_0 {μ : mzM} {Q : Option mzV → mzM → Prop} {o0 x1 x2 : Int} (h :
    (if (μ 20 o0 9) = 0 then
    (if (μ 20 o0 7) = 2 then
      ZI f_X8_in [vI (zw (μ 33 o0 0)), vI x1, vI x2] μ (fun r2 ν1 =>
        (if r2 = 0 then
        ZV f_X8_takes [vR 20 o0, vI 0] ν1 (fun ν3 =>
          Q (some (vI 0)) ν3)
        else
        (if (ν1 20 o0 9) = 0 then
          ZV f_X8_takes [vR 20 o0, vI 1] ν1 (fun ν4 =>
            Q (some (vI (zw (μ 33 o0 0)))) ν4)
          else
          (if x1 < 0 then
            ZV f_X8_takes [vR 20 o0, vI 1] ν1 (fun ν5 =>
              Q (some (vI (zw (μ 33 o0 0)))) ν5)
            else
            ZV f_X8_takes [vR 20 o0, vI 0] ν1 (fun ν6 =>
              Q (some (vI 0)) ν6)))))
      else
      ZV f_X8_takes [vR 20 o0, vI 0] μ (fun ν7 =>
        Q (some (vI 0)) ν7))
    else
    (if (μ 20 o0 7) = 2 then
      ZI f_X8_in [vI (zw (-(zw (μ 33 o0 0)))), vI x1, vI x2] μ (fun r9 ν8 =>
        (if r9 = 0 then
        ZV f_X8_takes [vR 20 o0, vI 0] ν8 (fun ν10 =>
          Q (some (vI 0)) ν10)
        else
        (if (ν8 20 o0 9) = 0 then
          ZV f_X8_takes [vR 20 o0, vI 1] ν8 (fun ν11 =>
            Q (some (vI (zw (-(zw (μ 33 o0 0)))))) ν11)
          else
          (if x1 < 0 then
            ZV f_X8_takes [vR 20 o0, vI 1] ν8 (fun ν12 =>
              Q (some (vI (zw (-(zw (μ 33 o0 0)))))) ν12)
            else
            ZV f_X8_takes [vR 20 o0, vI 0] ν8 (fun ν13 =>
              Q (some (vI 0)) ν13)))))
      else
      ZV f_X8_takes [vR 20 o0, vI 0] μ (fun ν14 =>
        Q (some (vI 0)) ν14)))) :
    ZW f_X8_takesNumber 0 [vR 20 o0, vI x1, vI x2, none, none] [] μ Q := mvc_at zcd zml (C := zc118) rfl 44 0 h
theorem vc_X8_place_0 {μ : mzM} {Q : Option mzV → mzM → Prop} {o0 x1 x2 : Int} (h :
    ((0 ≤ (0 : Int) ∧ (0 : Int) < 1880) ∧ (zin (x2 * (μ 21 0 0)) ∧ (zin ((x2 * (μ 21 0 0)) + x1) ∧ Q (some (vI ((x2 * (μ 21 0 0)) + x1))) μ)))) :
    ZW f_X8_place 0 [vR 20 o0, vI x1, vI x2] [] μ Q := mvc_at zcd zml (C := zc119) rfl 14 0 h
theorem vc_X8_keeps_0 {μ : mzM} {Q : Option mzV → mzM → Prop} {o0 : Int} (h :
    ZW f_X8_keeps 2 [vR 20 o0, vI 0] [] μ Q) :
    ZW f_X8_keeps 0 [vR 20 o0, none] [] μ Q := mvc_at zcd zml (C := zc120) rfl 23 0 h
theorem vc_X8_keeps_2 {μ : mzM} {Q : Option mzV → mzM → Prop} {o0 x1 : Int} (h :
    (if x1 < 144 then
    (zin (6 + x1) ∧ ((0 ≤ (6 + x1) ∧ (6 + x1) < 1880) ∧ ((0 ≤ x1 ∧ x1 < 144) ∧ (zin (x1 + 1) ∧ ZW f_X8_keeps 2 [vR 20 o0, vI (x1 + 1)] [] (mup μ 24 0 x1 (μ 21 0 (6 + x1))) Q))))
    else
    Q none μ)) :
    ZW f_X8_keeps 2 [vR 20 o0, vI x1] [] μ Q := mvc_at zcd zml (C := zc120) rfl 23 2 h
theorem vc_X8_fillsBox_0 {μ : mzM} {Q : Option mzV → mzM → Prop} {o0 x1 x2 x3 x4 x5 : Int} (h :
    ZW f_X8_fillsBox 2 [vR 20 o0, vI x1, vI x2, vI x3, vI x4, vI x5, vI 0, none, none] [] μ Q) :
    ZW f_X8_fillsBox 0 [vR 20 o0, vI x1, vI x2, vI x3, vI x4, vI x5, none, none, none] [] μ Q := mvc_at zcd zml (C := zc121) rfl 63 0 h
theorem vc_X8_fillsBox_2 {μ : mzM} {Q : Option mzV → mzM → Prop} {o0 x1 x2 x3 x4 x5 x6 : Int} {v7 v8 : mzV} (h :
    ZI f_X8_cells [vR 20 o0] μ (fun r2 ν1 =>
    (if x6 < r2 then
    (if (ν1 20 o0 10) = 0 then
      ((0 ≤ (0 : Int) ∧ (0 : Int) < 1880) ∧ ((ν1 21 0 0) ≠ 0 ∧ ((0 ≤ (0 : Int) ∧ (0 : Int) < 1880) ∧ (((ν1 21 0 0) ≠ 0 ∧ zin (Int.tdiv x6 (ν1 21 0 0))) ∧ (zin (6 + x6) ∧ (zin (x1 + x3) ∧ (zin ((x1 + x3) - 1) ∧ ZI f_X8_in [vI (Int.tmod x6 (ν1 21 0 0)), vI x1, vI ((x1 + x3) - 1)] ν1 (fun r4 ν3 =>
        (if r4 = 0 then
        (zin (6 + x6) ∧ ((0 ≤ (6 + x6) ∧ (6 + x6) < 1880) ∧ ((0 ≤ (6 + x6) ∧ (6 + x6) < 1880) ∧ (zin (x6 + 1) ∧ ZW f_X8_fillsBox 2 [vR 20 o0, vI x1, vI x2, vI x3, vI x4, vI x5, vI (x6 + 1), vI (Int.tmod x6 (ν1 21 0 0)), vI (Int.tdiv x6 (ν1 21 0 0))] [] (mup ν3 21 0 (6 + x6) (ν3 21 0 (6 + x6))) Q))))
        else
        (zin (x2 + x4) ∧ (zin ((x2 + x4) - 1) ∧ ZI f_X8_in [vI (Int.tdiv x6 (ν1 21 0 0)), vI x2, vI ((x2 + x4) - 1)] ν3 (fun r6 ν5 =>
          (if r6 = 0 then
          (zin (6 + x6) ∧ ((0 ≤ (6 + x6) ∧ (6 + x6) < 1880) ∧ ((0 ≤ (6 + x6) ∧ (6 + x6) < 1880) ∧ (zin (x6 + 1) ∧ ZW f_X8_fillsBox 2 [vR 20 o0, vI x1, vI x2, vI x3, vI x4, vI x5, vI (x6 + 1), vI (Int.tmod x6 (ν1 21 0 0)), vI (Int.tdiv x6 (ν1 21 0 0))] [] (mup ν5 21 0 (6 + x6) (ν5 21 0 (6 + x6))) Q))))
          else
          ((0 ≤ (6 + x6) ∧ (6 + x6) < 1880) ∧ (zin (x6 + 1) ∧ ZW f_X8_fillsBox 2 [vR 20 o0, vI x1, vI x2, vI x3, vI x4, vI x5, vI (x6 + 1), vI (Int.tmod x6 (ν1 21 0 0)), vI (Int.tdiv x6 (ν1 21 0 0))] [] (mup ν5 21 0 (6 + x6) x5) Q)))))))))))))))
      else
      Q none ν1)
    else
    Q none ν1))) :
    ZW f_X8_fillsBox 2 [vR 20 o0, vI x1, vI x2, vI x3, vI x4, vI x5, vI x6, v7, v8] [] μ Q := mvc_at zcd zml (C := zc121) rfl 63 2 h
theorem vc_X8_shifts_0 {μ : mzM} {Q : Option mzV → mzM → Prop} {o0 x1 x2 : Int} (h :
    ZV f_X8_keeps [vR 20 o0] μ (fun ν1 =>
    ZW f_X8_shifts 4 [vR 20 o0, vI x1, vI x2, vI 0, none, none] [] ν1 Q)) :
    ZW f_X8_shifts 0 [vR 20 o0, vI x1, vI x2, none, none, none] [] μ Q := mvc_at zcd zml (C := zc122) rfl 72 0 h
theorem vc_X8_shifts_4 {μ : mzM} {Q : Option mzV → mzM → Prop} {o0 x1 x2 x3 : Int} {v4 v5 : mzV} (h :
    ZI f_X8_cells [vR 20 o0] μ (fun r2 ν1 =>
    (if x3 < r2 then
    (if (ν1 20 o0 10) = 0 then
      ((0 ≤ (0 : Int) ∧ (0 : Int) < 1880) ∧ ((ν1 21 0 0) ≠ 0 ∧ (zin ((Int.tmod x3 (ν1 21 0 0)) - x1) ∧ ((0 ≤ (0 : Int) ∧ (0 : Int) < 1880) ∧ (((ν1 21 0 0) ≠ 0 ∧ zin (Int.tdiv x3 (ν1 21 0 0))) ∧ (zin ((Int.tdiv x3 (ν1 21 0 0)) - x2) ∧ (zin (6 + x3) ∧ ((0 ≤ (0 : Int) ∧ (0 : Int) < 1880) ∧ (zin ((ν1 21 0 0) - 1) ∧ ZI f_X8_in [vI ((Int.tmod x3 (ν1 21 0 0)) - x1), vI 0, vI ((ν1 21 0 0) - 1)] ν1 (fun r4 ν3 =>
        (if r4 = 0 then
        ((0 ≤ (6 + x3) ∧ (6 + x3) < 1880) ∧ (zin (x3 + 1) ∧ ZW f_X8_shifts 4 [vR 20 o0, vI x1, vI x2, vI (x3 + 1), vI ((Int.tmod x3 (ν1 21 0 0)) - x1), vI ((Int.tdiv x3 (ν1 21 0 0)) - x2)] [] (mup ν3 21 0 (6 + x3) 0) Q))
        else
        ((0 ≤ (1 : Int) ∧ (1 : Int) < 1880) ∧ (zin ((ν3 21 0 1) - 1) ∧ ZI f_X8_in [vI ((Int.tdiv x3 (ν1 21 0 0)) - x2), vI 0, vI ((ν3 21 0 1) - 1)] ν3 (fun r6 ν5 =>
          (if r6 = 0 then
          ((0 ≤ (6 + x3) ∧ (6 + x3) < 1880) ∧ (zin (x3 + 1) ∧ ZW f_X8_shifts 4 [vR 20 o0, vI x1, vI x2, vI (x3 + 1), vI ((Int.tmod x3 (ν1 21 0 0)) - x1), vI ((Int.tdiv x3 (ν1 21 0 0)) - x2)] [] (mup ν5 21 0 (6 + x3) 0) Q))
          else
          ZI f_X8_place [vR 20 o0, vI ((Int.tmod x3 (ν1 21 0 0)) - x1), vI ((Int.tdiv x3 (ν1 21 0 0)) - x2)] ν5 (fun r8 ν7 =>
            ((0 ≤ r8 ∧ r8 < 144) ∧ ((0 ≤ (6 + x3) ∧ (6 + x3) < 1880) ∧ (zin (x3 + 1) ∧ ZW f_X8_shifts 4 [vR 20 o0, vI x1, vI x2, vI (x3 + 1), vI ((Int.tmod x3 (ν1 21 0 0)) - x1), vI ((Int.tdiv x3 (ν1 21 0 0)) - x2)] [] (mup ν7 21 0 (6 + x3) (ν7 24 0 r8)) Q)))))))))))))))))))
      else
      Q none ν1)
    else
    Q none ν1))) :
    ZW f_X8_shifts 4 [vR 20 o0, vI x1, vI x2, vI x3, v4, v5] [] μ Q := mvc_at zcd zml (C := zc122) rfl 72 4 h
theorem vc_X8_readsCommand_0 {μ : mzM} {Q : Option mzV → mzM → Prop} {o0 : Int} (h :
    (if (μ 20 o0 7) = 1 then
    (if (zcmp (μ 33 o0 0) 124995) = 0 then
      (if (zcmp (μ 33 o0 0) 1887) = 0 then
        ZW f_X8_readsCommand 28 [vR 20 o0, vL (μ 33 o0 0), none, vI 1, vI 1, none, none, none, none, none, none] [vI (zcmp (μ 33 o0 0) 10261586)] μ Q
        else
        ZW f_X8_readsCommand 28 [vR 20 o0, vL (μ 33 o0 0), none, vI 1, vI 0, none, none, none, none, none, none] [vI (zcmp (μ 33 o0 0) 10261586)] μ Q)
      else
      (if (zcmp (μ 33 o0 0) 1887) = 0 then
        ZW f_X8_readsCommand 28 [vR 20 o0, vL (μ 33 o0 0), none, vI 0, vI 1, none, none, none, none, none, none] [vI (zcmp (μ 33 o0 0) 10261586)] μ Q
        else
        ZW f_X8_readsCommand 28 [vR 20 o0, vL (μ 33 o0 0), none, vI 0, vI 0, none, none, none, none, none, none] [vI (zcmp (μ 33 o0 0) 10261586)] μ Q))
    else
    (if (zcmp (-1) 124995) = 0 then
      (if (zcmp (-1) 1887) = 0 then
        ZW f_X8_readsCommand 28 [vR 20 o0, vL (-1), none, vI 1, vI 1, none, none, none, none, none, none] [vI (zcmp (-1) 10261586)] μ Q
        else
        ZW f_X8_readsCommand 28 [vR 20 o0, vL (-1), none, vI 1, vI 0, none, none, none, none, none, none] [vI (zcmp (-1) 10261586)] μ Q)
      else
      (if (zcmp (-1) 1887) = 0 then
        ZW f_X8_readsCommand 28 [vR 20 o0, vL (-1), none, vI 0, vI 1, none, none, none, none, none, none] [vI (zcmp (-1) 10261586)] μ Q
        else
        ZW f_X8_readsCommand 28 [vR 20 o0, vL (-1), none, vI 0, vI 0, none, none, none, none, none, none] [vI (zcmp (-1) 10261586)] μ Q)))) :
    ZW f_X8_readsCommand 0 [vR 20 o0, none, none, none, none, none, none, none, none, none, none] [] μ Q := mvc_at zcd zml (C := zc123) rfl 233 0 h
theorem vc_X8_readsCommand_28 {μ : mzM} {Q : Option mzV → mzM → Prop} {o0 x1 x3 x4 y0 : Int} (h :
    (if y0 = 0 then
    (if (zcmp x1 390787) = 0 then
      ZW f_X8_readsCommand 43 [vR 20 o0, vL x1, none, vI x3, vI x4, vI 1, vI 1, none, none, none, none] [vI x3, vR 20 o0] μ Q
      else
      ZW f_X8_readsCommand 43 [vR 20 o0, vL x1, none, vI x3, vI x4, vI 1, vI 0, none, none, none, none] [vI x3, vR 20 o0] μ Q)
    else
    (if (zcmp x1 390787) = 0 then
      ZW f_X8_readsCommand 43 [vR 20 o0, vL x1, none, vI x3, vI x4, vI 0, vI 1, none, none, none, none] [vI x3, vR 20 o0] μ Q
      else
      ZW f_X8_readsCommand 43 [vR 20 o0, vL x1, none, vI x3, vI x4, vI 0, vI 0, none, none, none, none] [vI x3, vR 20 o0] μ Q))) :
    ZW f_X8_readsCommand 28 [vR 20 o0, vL x1, none, vI x3, vI x4, none, none, none, none, none, none] [vI y0] μ Q := mvc_at zcd zml (C := zc123) rfl 233 28 h
theorem vc_X8_readsCommand_43 {μ : mzM} {Q : Option mzV → mzM → Prop} {o0 q0 x1 x3 x4 x5 x6 y1 : Int} (h :
    (if y1 = 0 then
    (if x4 = 0 then
      (if x5 = 0 then
        (if x6 = 0 then
          (if (zcmp x1 3544025) = 0 then
            ZW f_X8_readsCommand 57 [vR 20 o0, vL x1, none, vI x3, vI x4, vI x5, vI x6, none, none, none, none] [vI 1, vR 20 q0] μ Q
            else
            ZW f_X8_readsCommand 57 [vR 20 o0, vL x1, none, vI x3, vI x4, vI x5, vI x6, none, none, none, none] [vI 0, vR 20 q0] μ Q)
          else
          ZW f_X8_readsCommand 57 [vR 20 o0, vL x1, none, vI x3, vI x4, vI x5, vI x6, none, none, none, none] [vI 1, vR 20 q0] μ Q)
        else
        ZW f_X8_readsCommand 57 [vR 20 o0, vL x1, none, vI x3, vI x4, vI x5, vI x6, none, none, none, none] [vI 1, vR 20 q0] μ Q)
      else
      ZW f_X8_readsCommand 57 [vR 20 o0, vL x1, none, vI x3, vI x4, vI x5, vI x6, none, none, none, none] [vI 1, vR 20 q0] μ Q)
    else
    ZW f_X8_readsCommand 57 [vR 20 o0, vL x1, none, vI x3, vI x4, vI x5, vI x6, none, none, none, none] [vI 1, vR 20 q0] μ Q)) :
    ZW f_X8_readsCommand 43 [vR 20 o0, vL x1, none, vI x3, vI x4, vI x5, vI x6, none, none, none, none] [vI y1, vR 20 q0] μ Q := mvc_at zcd zml (C := zc123) rfl 233 43 h
theorem vc_X8_readsCommand_57 {μ : mzM} {Q : Option mzV → mzM → Prop} {o0 q0 x1 x3 x4 x5 x6 y1 : Int} (h :
    ZV f_X8_takes [vR 20 q0, vI y1] μ (fun ν1 =>
    (if (ν1 20 o0 10) = 0 then
    (if x3 = 0 then
      (if x4 = 0 then
        (if x5 = 0 then
          (if x6 = 0 then
            (if (ν1 20 o0 7) = 2 then
              (if (ν1 20 o0 9) = 0 then
                ZW f_X8_readsCommand 187 [vR 20 o0, vL x1, none, vI x3, vI x4, vI x5, vI x6, vI (zw (ν1 33 o0 0)), none, none, none] [vI (zw (ν1 33 o0 0)), vR 20 o0, vR 20 o0] ν1 Q
                else
                ZW f_X8_readsCommand 187 [vR 20 o0, vL x1, none, vI x3, vI x4, vI x5, vI x6, vI (-1), none, none, none] [vI (-1), vR 20 o0, vR 20 o0] ν1 Q)
              else
              ZW f_X8_readsCommand 187 [vR 20 o0, vL x1, none, vI x3, vI x4, vI x5, vI x6, vI (-1), none, none, none] [vI (-1), vR 20 o0, vR 20 o0] ν1 Q)
            else
            ZI f_X8_takesNumber [vR 20 o0, vI 0, vI 15] ν1 (fun r3 ν2 =>
              ZI f_X8_takesNumber [vR 20 o0, vI 0, vI 15] ν2 (fun r5 ν4 =>
              ZW f_X8_readsCommand 137 [vR 20 o0, vL x1, none, vI x3, vI x4, vI x5, vI x6, vI r3, vI r5, vI 0, none] [] ν4 Q)))
          else
          ZI f_X8_takesNumber [vR 20 o0, vI (-12), vI 12] ν1 (fun r7 ν6 =>
            ZI f_X8_takesNumber [vR 20 o0, vI (-12), vI 12] ν6 (fun r9 ν8 =>
            ZV f_X8_shifts [vR 20 o0, vI r7, vI r9] ν8 (fun ν10 =>
            (if (ν10 20 o0 7) = 3 then
            ZV f_X8_takes [vR 20 o0, vI 1] ν10 (fun ν11 =>
              Q none ν11)
            else
            ZV f_X8_takes [vR 20 o0, vI 0] ν10 (fun ν12 =>
              Q none ν12))))))
        else
        ZI f_X8_takesNumber [vR 20 o0, vI 0, vI 12] ν1 (fun r14 ν13 =>
          ZI f_X8_takesNumber [vR 20 o0, vI 0, vI 12] ν13 (fun r16 ν15 =>
          ZI f_X8_takesNumber [vR 20 o0, vI 0, vI 12] ν15 (fun r18 ν17 =>
          ZI f_X8_takesNumber [vR 20 o0, vI 0, vI 12] ν17 (fun r20 ν19 =>
          ZI f_X8_takesNumber [vR 20 o0, vI 0, vI 15] ν19 (fun r22 ν21 =>
          ZV f_X8_fillsBox [vR 20 o0, vI r14, vI r16, vI r18, vI r20, vI r22] ν21 (fun ν23 =>
          (if (ν23 20 o0 7) = 3 then
          ZV f_X8_takes [vR 20 o0, vI 1] ν23 (fun ν24 =>
            Q none ν24)
          else
          ZV f_X8_takes [vR 20 o0, vI 0] ν23 (fun ν25 =>
            Q none ν25)))))))))
      else
      ZI f_X8_takesNumber [vR 20 o0, vI 0, vI 15] ν1 (fun r27 ν26 =>
        ZV f_X8_fillsBox [vR 20 o0, vI 0, vI 0, vI 12, vI 12, vI r27] ν26 (fun ν28 =>
        (if (ν28 20 o0 7) = 3 then
        ZV f_X8_takes [vR 20 o0, vI 1] ν28 (fun ν29 =>
          Q none ν29)
        else
        ZV f_X8_takes [vR 20 o0, vI 0] ν28 (fun ν30 =>
          Q none ν30)))))
    else
    Q none ν1))) :
    ZW f_X8_readsCommand 57 [vR 20 o0, vL x1, none, vI x3, vI x4, vI x5, vI x6, none, none, none, none] [vI y1, vR 20 q0] μ Q := mvc_at zcd zml (C := zc123) rfl 233 57 h
theorem vc_X8_readsCommand_137 {μ : mzM} {Q : Option mzV → mzM → Prop} {o0 x1 x3 x4 x5 x6 x7 x8 x9 : Int} {v10 : mzV} (h :
    ZI f_X8_cells [vR 20 o0] μ (fun r2 ν1 =>
    (if x9 < r2 then
    (if (ν1 20 o0 10) = 0 then
      (zin (6 + x9) ∧ ((0 ≤ (6 + x9) ∧ (6 + x9) < 1880) ∧ (zin (6 + x9) ∧ (if (ν1 21 0 (6 + x9)) = x7 then
        ((0 ≤ (6 + x9) ∧ (6 + x9) < 1880) ∧ (zin (x9 + 1) ∧ ZW f_X8_readsCommand 137 [vR 20 o0, vL x1, none, vI x3, vI x4, vI x5, vI x6, vI x7, vI x8, vI (x9 + 1), vI (ν1 21 0 (6 + x9))] [] (mup ν1 21 0 (6 + x9) x8) Q))
        else
        (if (ν1 21 0 (6 + x9)) = x8 then
          ((0 ≤ (6 + x9) ∧ (6 + x9) < 1880) ∧ (zin (x9 + 1) ∧ ZW f_X8_readsCommand 137 [vR 20 o0, vL x1, none, vI x3, vI x4, vI x5, vI x6, vI x7, vI x8, vI (x9 + 1), vI (ν1 21 0 (6 + x9))] [] (mup ν1 21 0 (6 + x9) x7) Q))
          else
          ((0 ≤ (6 + x9) ∧ (6 + x9) < 1880) ∧ (zin (x9 + 1) ∧ ZW f_X8_readsCommand 137 [vR 20 o0, vL x1, none, vI x3, vI x4, vI x5, vI x6, vI x7, vI x8, vI (x9 + 1), vI (ν1 21 0 (6 + x9))] [] (mup ν1 21 0 (6 + x9) (ν1 21 0 (6 + x9))) Q)))))))
      else
      (if (ν1 20 o0 7) = 3 then
        ZV f_X8_takes [vR 20 o0, vI 1] ν1 (fun ν3 =>
          Q none ν3)
        else
        ZV f_X8_takes [vR 20 o0, vI 0] ν1 (fun ν4 =>
          Q none ν4)))
    else
    (if (ν1 20 o0 7) = 3 then
      ZV f_X8_takes [vR 20 o0, vI 1] ν1 (fun ν5 =>
        Q none ν5)
      else
      ZV f_X8_takes [vR 20 o0, vI 0] ν1 (fun ν6 =>
        Q none ν6))))) :
    ZW f_X8_readsCommand 137 [vR 20 o0, vL x1, none, vI x3, vI x4, vI x5, vI x6, vI x7, vI x8, vI x9, v10] [] μ Q := mvc_at zcd zml (C := zc123) rfl 233 137 h
theorem vc_X8_readsCommand_187 {μ : mzM} {Q : Option mzV → mzM → Prop} {o0 q0 q1 x1 x3 x4 x5 x6 x7 y2 : Int} (h :
    ZI f_X8_isFrame [vR 20 q1, vI y2] μ (fun r2 ν1 =>
    (if r2 = 0 then
    ZV f_X8_takes [vR 20 q0, vI 0] ν1 (fun ν3 =>
      ZW f_X8_readsCommand 199 [vR 20 o0, vL x1, none, vI x3, vI x4, vI x5, vI x6, vI x7, vI 0, none, none] [] ν3 Q)
    else
    ZI f_X8_isGood [vR 20 o0, vI x7] ν1 (fun r5 ν4 =>
      (if r5 = 0 then
      ZV f_X8_takes [vR 20 q0, vI 0] ν4 (fun ν6 =>
        ZW f_X8_readsCommand 199 [vR 20 o0, vL x1, none, vI x3, vI x4, vI x5, vI x6, vI x7, vI 0, none, none] [] ν6 Q)
      else
      ZV f_X8_takes [vR 20 q0, vI 1] ν4 (fun ν7 =>
        ZW f_X8_readsCommand 199 [vR 20 o0, vL x1, none, vI x3, vI x4, vI x5, vI x6, vI x7, vI 0, none, none] [] ν7 Q)))))) :
    ZW f_X8_readsCommand 187 [vR 20 o0, vL x1, none, vI x3, vI x4, vI x5, vI x6, vI x7, none, none, none] [vI y2, vR 20 q1, vR 20 q0] μ Q := mvc_at zcd zml (C := zc123) rfl 233 187 h
theorem vc_X8_readsCommand_199 {μ : mzM} {Q : Option mzV → mzM → Prop} {o0 x1 x3 x4 x5 x6 x7 x8 : Int} (h :
    ZI f_X8_cells [vR 20 o0] μ (fun r2 ν1 =>
    (if x8 < r2 then
    (if (ν1 20 o0 10) = 0 then
      (zin (6 + x8) ∧ ZI f_X8_value [vR 20 o0, vI x7, vI x8] ν1 (fun r4 ν3 =>
        ((0 ≤ (6 + x8) ∧ (6 + x8) < 1880) ∧ (zin (x8 + 1) ∧ ZW f_X8_readsCommand 199 [vR 20 o0, vL x1, none, vI x3, vI x4, vI x5, vI x6, vI x7, vI (x8 + 1), none, none] [] (mup ν3 21 0 (6 + x8) r4) Q))))
      else
      (if (ν1 20 o0 7) = 3 then
        ZV f_X8_takes [vR 20 o0, vI 1] ν1 (fun ν5 =>
          Q none ν5)
        else
        ZV f_X8_takes [vR 20 o0, vI 0] ν1 (fun ν6 =>
          Q none ν6)))
    else
    (if (ν1 20 o0 7) = 3 then
      ZV f_X8_takes [vR 20 o0, vI 1] ν1 (fun ν7 =>
        Q none ν7)
      else
      ZV f_X8_takes [vR 20 o0, vI 0] ν1 (fun ν8 =>
        Q none ν8))))) :
    ZW f_X8_readsCommand 199 [vR 20 o0, vL x1, none, vI x3, vI x4, vI x5, vI x6, vI x7, vI x8, none, none] [] μ Q := mvc_at zcd zml (C := zc123) rfl 233 199 h
theorem vc_X8_exchanges_0 {μ : mzM} {Q : Option mzV → mzM → Prop} {o0 : Int} (h :
    ZW f_X8_exchanges 2 [vR 20 o0, vI 0, none] [] μ Q) :
    ZW f_X8_exchanges 0 [vR 20 o0, none, none] [] μ Q := mvc_at zcd zml (C := zc124) rfl 35 0 h
theorem vc_X8_exchanges_2 {μ : mzM} {Q : Option mzV → mzM → Prop} {o0 x1 : Int} {v2 : mzV} (h :
    (if x1 < 144 then
    (zin (6 + x1) ∧ ((0 ≤ (6 + x1) ∧ (6 + x1) < 1880) ∧ (zin (6 + x1) ∧ ((0 ≤ x1 ∧ x1 < 144) ∧ ((0 ≤ (6 + x1) ∧ (6 + x1) < 1880) ∧ ((0 ≤ x1 ∧ x1 < 144) ∧ (zin (x1 + 1) ∧ ZW f_X8_exchanges 2 [vR 20 o0, vI (x1 + 1), vI (μ 21 0 (6 + x1))] [] (mup (mup μ 21 0 (6 + x1) (μ 25 0 x1)) 25 0 x1 (μ 21 0 (6 + x1))) Q)))))))
    else
    Q none μ)) :
    ZW f_X8_exchanges 2 [vR 20 o0, vI x1, v2] [] μ Q := mvc_at zcd zml (C := zc124) rfl 35 2 h
theorem vc_X8_draw_0 {μ : mzM} {Q : Option mzV → mzM → Prop} {o0 : Int} (h :
    ZW f_X8_draw 2 [vR 20 o0, vI 0] [] μ Q) :
    ZW f_X8_draw 0 [vR 20 o0, none] [] μ Q := mvc_at zcd zml (C := zc125) rfl 61 0 h
theorem vc_X8_draw_2 {μ : mzM} {Q : Option mzV → mzM → Prop} {o0 x1 : Int} (h :
    (if x1 < 144 then
    (zin (6 + x1) ∧ ((0 ≤ (6 + x1) ∧ (6 + x1) < 1880) ∧ ((0 ≤ x1 ∧ x1 < 144) ∧ (zin (x1 + 1) ∧ ZW f_X8_draw 2 [vR 20 o0, vI (x1 + 1)] [] (mup μ 25 0 x1 (μ 21 0 (6 + x1))) Q))))
    else
    (((0 : Int) = 0 ∨ (0 : Int) = 1) ∧ ZV f_X8_readsToken [vR 20 o0] (mup (mup μ 20 o0 5 0) 20 o0 10 0) (fun ν1 =>
      ZW f_X8_draw 27 [vR 20 o0, vI 0] [] ν1 Q)))) :
    ZW f_X8_draw 2 [vR 20 o0, vI x1] [] μ Q := mvc_at zcd zml (C := zc125) rfl 61 2 h
theorem vc_X8_draw_27 {μ : mzM} {Q : Option mzV → mzM → Prop} {o0 x1 : Int} (h :
    (if (μ 20 o0 10) = 0 then
    (if (μ 20 o0 7) = 0 then
      ZV f_X8_exchanges [vR 20 o0] μ (fun ν1 =>
        (if (ν1 20 o0 10) = 0 then
        ZV f_X8_note [vR 20 o0] ν1 (fun ν2 =>
          ZV f_X8_exchanges [vR 20 o0] ν2 (fun ν3 =>
          Q (some (vI x1)) (mup ν3 20 o0 4 0)))
        else
        (zin ((-10) - (ν1 20 o0 6)) ∧ Q (some (vI ((-10) - (ν1 20 o0 6)))) ν1)))
      else
      ZV f_X8_readsCommand [vR 20 o0] μ (fun ν4 =>
        (zin (x1 + 1) ∧ ZW f_X8_draw 27 [vR 20 o0, vI (x1 + 1)] [] ν4 Q)))
    else
    ZV f_X8_exchanges [vR 20 o0] μ (fun ν5 =>
      (if (ν5 20 o0 10) = 0 then
      ZV f_X8_note [vR 20 o0] ν5 (fun ν6 =>
        ZV f_X8_exchanges [vR 20 o0] ν6 (fun ν7 =>
        Q (some (vI x1)) (mup ν7 20 o0 4 0)))
      else
      (zin ((-10) - (ν5 20 o0 6)) ∧ Q (some (vI ((-10) - (ν5 20 o0 6)))) ν5))))) :
    ZW f_X8_draw 27 [vR 20 o0, vI x1] [] μ Q := mvc_at zcd zml (C := zc125) rfl 61 27 h
theorem vc_X8_isImage_0 {μ : mzM} {Q : Option mzV → mzM → Prop} {o0 x1 : Int} (h :
    (if x1 = (-1) then
    Q (some (vI 1)) μ
    else
    ZI f_X8_isFrame [vR 20 o0, vI x1] μ (fun r2 ν1 =>
      (if r2 = 0 then
      Q (some (vI 0)) ν1
      else
      Q (some (vI 1)) ν1)))) :
    ZW f_X8_isImage 0 [vR 20 o0, vI x1] [] μ Q := mvc_at zcd zml (C := zc126) rfl 16 0 h
theorem vc_X8_isKnown_0 {μ : mzM} {Q : Option mzV → mzM → Prop} {o0 x1 : Int} (h :
    (if x1 < 0 then
    Q (some (vI 1)) μ
    else
    ZI f_X8_isGood [vR 20 o0, vI x1] μ (fun r2 ν1 =>
      (if r2 = 0 then
      Q (some (vI 0)) ν1
      else
      Q (some (vI 1)) ν1)))) :
    ZW f_X8_isKnown 0 [vR 20 o0, vI x1] [] μ Q := mvc_at zcd zml (C := zc127) rfl 15 0 h
theorem vc_X8_digestOf_0 {μ : mzM} {Q : Option mzV → mzM → Prop} {o0 x1 x2 x3 : Int} (h :
    ZW f_X8_digestOf 4 [vR 20 o0, vI x1, vI x2, vI x3, vI 7, vI 0] [] μ Q) :
    ZW f_X8_digestOf 0 [vR 20 o0, vI x1, vI x2, vI x3, none, none] [] μ Q := mvc_at zcd zml (C := zc128) rfl 38 0 h
theorem vc_X8_digestOf_4 {μ : mzM} {Q : Option mzV → mzM → Prop} {o0 x1 x2 x3 x4 x5 : Int} (h :
    (if x5 < 16 then
    (zin (x4 * 31) ∧ ((4 : Int) ≠ 0 ∧ (zin (x2 + (Int.tmod x5 4)) ∧ (((4 : Int) ≠ 0 ∧ zin (Int.tdiv x5 4)) ∧ (zin (x3 + (Int.tdiv x5 4)) ∧ ZI f_X8_place [vR 20 o0, vI (x2 + (Int.tmod x5 4)), vI (x3 + (Int.tdiv x5 4))] μ (fun r2 ν1 =>
      ZI f_X8_value [vR 20 o0, vI x1, vI r2] ν1 (fun r4 ν3 =>
      (zin ((x4 * 31) + r4) ∧ ((9973 : Int) ≠ 0 ∧ (zin (x5 + 1) ∧ ZW f_X8_digestOf 4 [vR 20 o0, vI x1, vI x2, vI x3, vI (Int.tmod ((x4 * 31) + r4) 9973), vI (x5 + 1)] [] ν3 Q))))))))))
    else
    Q (some (vI x4)) μ)) :
    ZW f_X8_digestOf 4 [vR 20 o0, vI x1, vI x2, vI x3, vI x4, vI x5] [] μ Q := mvc_at zcd zml (C := zc128) rfl 38 4 h
theorem vc_X8_digest_0 {μ : mzM} {Q : Option mzV → mzM → Prop} {o0 x1 x2 x3 : Int} (h :
    ZI f_X8_isImage [vR 20 o0, vI x1] μ (fun r2 ν1 =>
    (if r2 = 0 then
    Q (some (vI (-1))) ν1
    else
    ((0 ≤ (0 : Int) ∧ (0 : Int) < 1880) ∧ (zin ((ν1 21 0 0) - 4) ∧ ZI f_X8_in [vI x2, vI 0, vI ((ν1 21 0 0) - 4)] ν1 (fun r4 ν3 =>
      (if r4 = 0 then
      Q (some (vI (-1))) ν3
      else
      ((0 ≤ (1 : Int) ∧ (1 : Int) < 1880) ∧ (zin ((ν3 21 0 1) - 4) ∧ ZI f_X8_in [vI x3, vI 0, vI ((ν3 21 0 1) - 4)] ν3 (fun r6 ν5 =>
        (if r6 = 0 then
        Q (some (vI (-1))) ν5
        else
        ZI f_X8_isKnown [vR 20 o0, vI x1] ν5 (fun r8 ν7 =>
          (if r8 = 0 then
          Q (some (vI (-2))) ν7
          else
          ZI f_X8_digestOf [vR 20 o0, vI x1, vI x2, vI x3] ν7 (fun r10 ν9 =>
            Q (some (vI r10)) ν9)))))))))))))) :
    ZW f_X8_digest 0 [vR 20 o0, vI x1, vI x2, vI x3] [] μ Q := mvc_at zcd zml (C := zc129) rfl 43 0 h
theorem vc_X8_left_0 {μ : mzM} {Q : Option mzV → mzM → Prop} {o0 x1 : Int} (h :
    ((0 ≤ (0 : Int) ∧ (0 : Int) < 1880) ∧ (((4 : Int) ≠ 0 ∧ zin (Int.tdiv (μ 21 0 0) 4)) ∧ ((Int.tdiv (μ 21 0 0) 4) ≠ 0 ∧ (zin (4 * (Int.tmod x1 (Int.tdiv (μ 21 0 0) 4))) ∧ Q (some (vI (4 * (Int.tmod x1 (Int.tdiv (μ 21 0 0) 4))))) μ))))) :
    ZW f_X8_left 0 [vR 20 o0, vI x1] [] μ Q := mvc_at zcd zml (C := zc130) rfl 16 0 h
theorem vc_X8_top_0 {μ : mzM} {Q : Option mzV → mzM → Prop} {o0 x1 : Int} (h :
    ((0 ≤ (0 : Int) ∧ (0 : Int) < 1880) ∧ (((4 : Int) ≠ 0 ∧ zin (Int.tdiv (μ 21 0 0) 4)) ∧ (((Int.tdiv (μ 21 0 0) 4) ≠ 0 ∧ zin (Int.tdiv x1 (Int.tdiv (μ 21 0 0) 4))) ∧ (zin (4 * (Int.tdiv x1 (Int.tdiv (μ 21 0 0) 4))) ∧ Q (some (vI (4 * (Int.tdiv x1 (Int.tdiv (μ 21 0 0) 4))))) μ))))) :
    ZW f_X8_top 0 [vR 20 o0, vI x1] [] μ Q := mvc_at zcd zml (C := zc131) rfl 16 0 h
theorem vc_X8_given_0 {μ : mzM} {Q : Option mzV → mzM → Prop} {o0 x1 x2 x3 x4 : Int} (h :
    ZI f_X8_left [vR 20 o0, vI x3] μ (fun r2 ν1 =>
    ((4 : Int) ≠ 0 ∧ (zin (r2 + (Int.tmod x4 4)) ∧ ZI f_X8_top [vR 20 o0, vI x3] ν1 (fun r4 ν3 =>
    (((4 : Int) ≠ 0 ∧ zin (Int.tdiv x4 4)) ∧ (zin (r4 + (Int.tdiv x4 4)) ∧ ZI f_X8_place [vR 20 o0, vI (r2 + (Int.tmod x4 4)), vI (r4 + (Int.tdiv x4 4))] ν3 (fun r6 ν5 =>
    (if x2 = (-1) then
    ZI f_X8_value [vR 20 o0, vI x1, vI r6] ν5 (fun r8 ν7 =>
      Q (some (vI r8)) ν7)
    else
    ZI f_X8_value [vR 20 o0, vI x1, vI r6] ν5 (fun r10 ν9 =>
      ZI f_X8_value [vR 20 o0, vI x2, vI r6] ν9 (fun r12 ν11 =>
      (zin (r10 - r12) ∧ (zin ((r10 - r12) + 16) ∧ ((16 : Int) ≠ 0 ∧ Q (some (vI (Int.tmod ((r10 - r12) + 16) 16))) ν11)))))))))))))) :
    ZW f_X8_given 0 [vR 20 o0, vI x1, vI x2, vI x3, vI x4, none] [] μ Q := mvc_at zcd zml (C := zc132) rfl 44 0 h
theorem vc_X8_runsOf_0 {μ : mzM} {Q : Option mzV → mzM → Prop} {o0 x1 x2 x3 : Int} (h :
    ZW f_X8_runsOf 4 [vR 20 o0, vI x1, vI x2, vI x3, vI 1, vI 1] [] μ Q) :
    ZW f_X8_runsOf 0 [vR 20 o0, vI x1, vI x2, vI x3, none, none] [] μ Q := mvc_at zcd zml (C := zc133) rfl 37 0 h
theorem vc_X8_runsOf_4 {μ : mzM} {Q : Option mzV → mzM → Prop} {o0 x1 x2 x3 x4 x5 : Int} (h :
    (if x5 < 16 then
    ZI f_X8_given [vR 20 o0, vI x1, vI x2, vI x3, vI x5] μ (fun r2 ν1 =>
      (zin (x5 - 1) ∧ ZI f_X8_given [vR 20 o0, vI x1, vI x2, vI x3, vI (x5 - 1)] ν1 (fun r4 ν3 =>
      (if r2 = r4 then
      (zin (x4 + 0) ∧ (zin (x5 + 1) ∧ ZW f_X8_runsOf 4 [vR 20 o0, vI x1, vI x2, vI x3, vI (x4 + 0), vI (x5 + 1)] [] ν3 Q))
      else
      (zin (x4 + 1) ∧ (zin (x5 + 1) ∧ ZW f_X8_runsOf 4 [vR 20 o0, vI x1, vI x2, vI x3, vI (x4 + 1), vI (x5 + 1)] [] ν3 Q))))))
    else
    Q (some (vI x4)) μ)) :
    ZW f_X8_runsOf 4 [vR 20 o0, vI x1, vI x2, vI x3, vI x4, vI x5] [] μ Q := mvc_at zcd zml (C := zc133) rfl 37 4 h
theorem vc_X8_isLike_0 {μ : mzM} {Q : Option mzV → mzM → Prop} {o0 x1 x2 x3 x4 x5 : Int} (h :
    ZI f_X8_left [vR 20 o0, vI x3] μ (fun r2 ν1 =>
    (zin (r2 + x4) ∧ ZI f_X8_top [vR 20 o0, vI x3] ν1 (fun r4 ν3 =>
    (zin (r4 + x5) ∧ ((0 ≤ (0 : Int) ∧ (0 : Int) < 1880) ∧ (zin ((ν3 21 0 0) - 4) ∧ ZI f_X8_in [vI (r2 + x4), vI 0, vI ((ν3 21 0 0) - 4)] ν3 (fun r6 ν5 =>
    (if r6 = 0 then
    ZW f_X8_isLike 38 [vR 20 o0, vI x1, vI x2, vI x3, vI x4, vI x5, vI (r2 + x4), vI (r4 + x5), vI 0, vI 0] [] ν5 Q
    else
    ((0 ≤ (1 : Int) ∧ (1 : Int) < 1880) ∧ (zin ((ν5 21 0 1) - 4) ∧ ZI f_X8_in [vI (r4 + x5), vI 0, vI ((ν5 21 0 1) - 4)] ν5 (fun r8 ν7 =>
      (if r8 = 0 then
      ZW f_X8_isLike 38 [vR 20 o0, vI x1, vI x2, vI x3, vI x4, vI x5, vI (r2 + x4), vI (r4 + x5), vI 0, vI 0] [] ν7 Q
      else
      ZW f_X8_isLike 38 [vR 20 o0, vI x1, vI x2, vI x3, vI x4, vI x5, vI (r2 + x4), vI (r4 + x5), vI 1, vI 0] [] ν7 Q))))))))))))) :
    ZW f_X8_isLike 0 [vR 20 o0, vI x1, vI x2, vI x3, vI x4, vI x5, none, none, none, none] [] μ Q := mvc_at zcd zml (C := zc134) rfl 91 0 h
theorem vc_X8_isLike_38 {μ : mzM} {Q : Option mzV → mzM → Prop} {o0 x1 x2 x3 x4 x5 x6 x7 x8 x9 : Int} (h :
    (if x9 < 16 then
    (if x8 = 0 then
      Q (some (vI (x8 % 2))) μ
      else
      ZI f_X8_left [vR 20 o0, vI x3] μ (fun r2 ν1 =>
        ((4 : Int) ≠ 0 ∧ (zin (r2 + (Int.tmod x9 4)) ∧ ZI f_X8_top [vR 20 o0, vI x3] ν1 (fun r4 ν3 =>
        (((4 : Int) ≠ 0 ∧ zin (Int.tdiv x9 4)) ∧ (zin (r4 + (Int.tdiv x9 4)) ∧ ZI f_X8_place [vR 20 o0, vI (r2 + (Int.tmod x9 4)), vI (r4 + (Int.tdiv x9 4))] ν3 (fun r6 ν5 =>
        ZI f_X8_value [vR 20 o0, vI x1, vI r6] ν5 (fun r8 ν7 =>
        ((4 : Int) ≠ 0 ∧ (zin (x6 + (Int.tmod x9 4)) ∧ (((4 : Int) ≠ 0 ∧ zin (Int.tdiv x9 4)) ∧ (zin (x7 + (Int.tdiv x9 4)) ∧ ZI f_X8_place [vR 20 o0, vI (x6 + (Int.tmod x9 4)), vI (x7 + (Int.tdiv x9 4))] ν7 (fun r10 ν9 =>
        ZI f_X8_value [vR 20 o0, vI x2, vI r10] ν9 (fun r12 ν11 =>
        (if r8 = r12 then
        (zin (x9 + 1) ∧ ZW f_X8_isLike 38 [vR 20 o0, vI x1, vI x2, vI x3, vI x4, vI x5, vI x6, vI x7, vI 1, vI (x9 + 1)] [] ν11 Q)
        else
        (zin (x9 + 1) ∧ ZW f_X8_isLike 38 [vR 20 o0, vI x1, vI x2, vI x3, vI x4, vI x5, vI x6, vI x7, vI 0, vI (x9 + 1)] [] ν11 Q)))))))))))))))))
    else
    Q (some (vI (x8 % 2))) μ)) :
    ZW f_X8_isLike 38 [vR 20 o0, vI x1, vI x2, vI x3, vI x4, vI x5, vI x6, vI x7, vI x8, vI x9] [] μ Q := mvc_at zcd zml (C := zc134) rfl 91 38 h
theorem vc_X8_size_0 {μ : mzM} {Q : Option mzV → mzM → Prop} {x0 : Int} (h :
    (if x0 < 0 then
    Q (some (vI (zw (-x0)))) μ
    else
    Q (some (vI x0)) μ)) :
    ZW f_X8_size 0 [vI x0] [] μ Q := mvc_at zcd zml (C := zc135) rfl 12 0 h
theorem vc_X8_finds_0 {μ : mzM} {Q : Option mzV → mzM → Prop} {o0 x1 x2 x3 : Int} (h :
    ((0 ≤ (3 : Int) ∧ (3 : Int) < 1880) ∧ ZW f_X8_finds 10 [vR 20 o0, vI x1, vI x2, vI x3, vI 0, vI (μ 21 0 3), vI (zw (-(μ 21 0 3))), none, none, none] [] μ Q)) :
    ZW f_X8_finds 0 [vR 20 o0, vI x1, vI x2, vI x3, none, none, none, none, none, none] [] μ Q := mvc_at zcd zml (C := zc136) rfl 95 0 h
theorem vc_X8_finds_10 {μ : mzM} {Q : Option mzV → mzM → Prop} {o0 x1 x2 x3 x4 x5 x6 : Int} {v7 v8 v9 : mzV} (h :
    (if x5 < x6 then
    Q (some (vI (x4 % 2))) μ
    else
    ZW f_X8_finds 16 [vR 20 o0, vI x1, vI x2, vI x3, vI x4, vI x5, vI x6, vI (zw (-x5)), v8, v9] [] μ Q)) :
    ZW f_X8_finds 10 [vR 20 o0, vI x1, vI x2, vI x3, vI x4, vI x5, vI x6, v7, v8, v9] [] μ Q := mvc_at zcd zml (C := zc136) rfl 95 10 h
theorem vc_X8_finds_16 {μ : mzM} {Q : Option mzV → mzM → Prop} {o0 x1 x2 x3 x4 x5 x6 x7 : Int} {v8 v9 : mzV} (h :
    (if x5 < x7 then
    (zin (x6 + 1) ∧ ZW f_X8_finds 10 [vR 20 o0, vI x1, vI x2, vI x3, vI x4, vI x5, vI (x6 + 1), vI x7, v8, v9] [] μ Q)
    else
    ZI f_X8_size [vI x7] μ (fun r2 ν1 =>
      ZI f_X8_size [vI x6] ν1 (fun r4 ν3 =>
      (zin (r2 + r4) ∧ (if x4 = 0 then
      (if (0 : Int) < (r2 + r4) then
        ZI f_X8_isLike [vR 20 o0, vI x1, vI x2, vI x3, vI x7, vI x6] ν3 (fun r6 ν5 =>
          (if r6 = 0 then
          (zin (x7 + 1) ∧ ZW f_X8_finds 16 [vR 20 o0, vI x1, vI x2, vI x3, vI x4, vI x5, vI x6, vI (x7 + 1), vI (r2 + r4), vI 1] [] ν5 Q)
          else
          (zin (3 * x3) ∧ (zin ((3 * x3) + 1) ∧ ((0 ≤ ((3 * x3) + 1) ∧ ((3 * x3) + 1) < 27) ∧ (zin (3 * x3) ∧ (zin ((3 * x3) + 2) ∧ ((0 ≤ ((3 * x3) + 2) ∧ ((3 * x3) + 2) < 27) ∧ (zin (x7 + 1) ∧ ZW f_X8_finds 16 [vR 20 o0, vI x1, vI x2, vI x3, vI 1, vI x5, vI x6, vI (x7 + 1), vI (r2 + r4), vI 1] [] (mup (mup ν5 26 0 ((3 * x3) + 1) x7) 26 0 ((3 * x3) + 2) x6) Q)))))))))
        else
        (zin (x7 + 1) ∧ ZW f_X8_finds 16 [vR 20 o0, vI x1, vI x2, vI x3, vI x4, vI x5, vI x6, vI (x7 + 1), vI (r2 + r4), vI 1] [] ν3 Q))
      else
      (zin (3 * x3) ∧ (zin ((3 * x3) + 1) ∧ ((0 ≤ ((3 * x3) + 1) ∧ ((3 * x3) + 1) < 27) ∧ ZI f_X8_size [vI (ν3 26 0 ((3 * x3) + 1))] ν3 (fun r8 ν7 =>
        (zin (3 * x3) ∧ (zin ((3 * x3) + 2) ∧ ((0 ≤ ((3 * x3) + 2) ∧ ((3 * x3) + 2) < 27) ∧ ZI f_X8_size [vI (ν7 26 0 ((3 * x3) + 2))] ν7 (fun r10 ν9 =>
        (zin (r8 + r10) ∧ (if (r2 + r4) < (r8 + r10) then
        (if (0 : Int) < (r2 + r4) then
          ZI f_X8_isLike [vR 20 o0, vI x1, vI x2, vI x3, vI x7, vI x6] ν9 (fun r12 ν11 =>
            (if r12 = 0 then
            (zin (x7 + 1) ∧ ZW f_X8_finds 16 [vR 20 o0, vI x1, vI x2, vI x3, vI x4, vI x5, vI x6, vI (x7 + 1), vI (r2 + r4), vI 1] [] ν11 Q)
            else
            (zin (3 * x3) ∧ (zin ((3 * x3) + 1) ∧ ((0 ≤ ((3 * x3) + 1) ∧ ((3 * x3) + 1) < 27) ∧ (zin (3 * x3) ∧ (zin ((3 * x3) + 2) ∧ ((0 ≤ ((3 * x3) + 2) ∧ ((3 * x3) + 2) < 27) ∧ (zin (x7 + 1) ∧ ZW f_X8_finds 16 [vR 20 o0, vI x1, vI x2, vI x3, vI 1, vI x5, vI x6, vI (x7 + 1), vI (r2 + r4), vI 1] [] (mup (mup ν11 26 0 ((3 * x3) + 1) x7) 26 0 ((3 * x3) + 2) x6) Q)))))))))
          else
          (zin (x7 + 1) ∧ ZW f_X8_finds 16 [vR 20 o0, vI x1, vI x2, vI x3, vI x4, vI x5, vI x6, vI (x7 + 1), vI (r2 + r4), vI 1] [] ν9 Q))
        else
        (if (0 : Int) < (r2 + r4) then
          (zin (x7 + 1) ∧ ZW f_X8_finds 16 [vR 20 o0, vI x1, vI x2, vI x3, vI x4, vI x5, vI x6, vI (x7 + 1), vI (r2 + r4), vI 0] [] ν9 Q)
          else
          (zin (x7 + 1) ∧ ZW f_X8_finds 16 [vR 20 o0, vI x1, vI x2, vI x3, vI x4, vI x5, vI x6, vI (x7 + 1), vI (r2 + r4), vI 0] [] ν9 Q)))))))))))))))))) :
    ZW f_X8_finds 16 [vR 20 o0, vI x1, vI x2, vI x3, vI x4, vI x5, vI x6, vI x7, v8, v9] [] μ Q := mvc_at zcd zml (C := zc136) rfl 95 16 h
theorem vc_X8_codes_0 {μ : mzM} {Q : Option mzV → mzM → Prop} {o0 x1 x2 x3 : Int} (h :
    (zin (3 * x3) ∧ (zin ((3 * x3) + 1) ∧ ((0 ≤ ((3 * x3) + 1) ∧ ((3 * x3) + 1) < 27) ∧ (zin (3 * x3) ∧ (zin ((3 * x3) + 2) ∧ ((0 ≤ ((3 * x3) + 2) ∧ ((3 * x3) + 2) < 27) ∧ ZI f_X8_runsOf [vR 20 o0, vI x1, vI (-1), vI x3] (mup (mup μ 26 0 ((3 * x3) + 1) 0) 26 0 ((3 * x3) + 2) 0) (fun r2 ν1 =>
    (zin (2 * r2) ∧ (zin (2 + (2 * r2)) ∧ (if x2 = (-1) then
    (zin (3 * x3) ∧ ((0 ≤ (3 * x3) ∧ (3 * x3) < 27) ∧ Q (some (vI (2 + (2 * r2)))) (mup ν1 26 0 (3 * x3) 3)))
    else
    ZI f_X8_isLike [vR 20 o0, vI x1, vI x2, vI x3, vI 0, vI 0] ν1 (fun r4 ν3 =>
      (if r4 = 0 then
      ZI f_X8_finds [vR 20 o0, vI x1, vI x2, vI x3] ν3 (fun r6 ν5 =>
        (if r6 = 0 then
        ZI f_X8_runsOf [vR 20 o0, vI x1, vI x2, vI x3] ν5 (fun r8 ν7 =>
          (zin (2 * r8) ∧ (zin (2 + (2 * r8)) ∧ (zin (3 * x3) ∧ (if (2 + (2 * r2)) < (2 + (2 * r8)) then
          ((0 ≤ (3 * x3) ∧ (3 * x3) < 27) ∧ (if (2 + (2 * r2)) < (2 + (2 * r8)) then
            Q (some (vI (2 + (2 * r2)))) (mup ν7 26 0 (3 * x3) 3)
            else
            Q (some (vI (2 + (2 * r8)))) (mup ν7 26 0 (3 * x3) 3)))
          else
          ((0 ≤ (3 * x3) ∧ (3 * x3) < 27) ∧ (if (2 + (2 * r2)) < (2 + (2 * r8)) then
            Q (some (vI (2 + (2 * r2)))) (mup ν7 26 0 (3 * x3) 2)
            else
            Q (some (vI (2 + (2 * r8)))) (mup ν7 26 0 (3 * x3) 2))))))))
        else
        (zin (3 * x3) ∧ ((0 ≤ (3 * x3) ∧ (3 * x3) < 27) ∧ Q (some (vI 3)) (mup ν5 26 0 (3 * x3) 1)))))
      else
      (zin (3 * x3) ∧ ((0 ≤ (3 * x3) ∧ (3 * x3) < 27) ∧ Q (some (vI 1)) (mup ν3 26 0 (3 * x3) 0)))))))))))))))) :
    ZW f_X8_codes 0 [vR 20 o0, vI x1, vI x2, vI x3, none, none] [] μ Q := mvc_at zcd zml (C := zc137) rfl 106 0 h
theorem vc_X8_codesAll_0 {μ : mzM} {Q : Option mzV → mzM → Prop} {o0 x1 x2 : Int} (h :
    ZW f_X8_codesAll 4 [vR 20 o0, vI x1, vI x2, vI 2, vI 0] [] μ Q) :
    ZW f_X8_codesAll 0 [vR 20 o0, vI x1, vI x2, none, none] [] μ Q := mvc_at zcd zml (C := zc138) rfl 25 0 h
theorem vc_X8_codesAll_4 {μ : mzM} {Q : Option mzV → mzM → Prop} {o0 x1 x2 x3 x4 : Int} (h :
    ZI f_X8_blocks [vR 20 o0] μ (fun r2 ν1 =>
    (if x4 < r2 then
    ZI f_X8_codes [vR 20 o0, vI x1, vI x2, vI x4] ν1 (fun r4 ν3 =>
      (zin (x3 + r4) ∧ (zin (x4 + 1) ∧ ZW f_X8_codesAll 4 [vR 20 o0, vI x1, vI x2, vI (x3 + r4), vI (x4 + 1)] [] ν3 Q)))
    else
    Q (some (vI x3)) ν1))) :
    ZW f_X8_codesAll 4 [vR 20 o0, vI x1, vI x2, vI x3, vI x4] [] μ Q := mvc_at zcd zml (C := zc138) rfl 25 4 h
theorem vc_X8_codeAt_0 {μ : mzM} {Q : Option mzV → mzM → Prop} {o0 x1 x2 : Int} (h :
    (zin (27 * x1) ∧ (zin (1610 + (27 * x1)) ∧ (zin (3 * x2) ∧ (zin ((1610 + (27 * x1)) + (3 * x2)) ∧ Q (some (vI ((1610 + (27 * x1)) + (3 * x2)))) μ))))) :
    ZW f_X8_codeAt 0 [vR 20 o0, vI x1, vI x2] [] μ Q := mvc_at zcd zml (C := zc139) rfl 15 0 h
theorem vc_X8_runsIn_0 {μ : mzM} {Q : Option mzV → mzM → Prop} {o0 x1 x2 : Int} (h :
    ZI f_X8_codeAt [vR 20 o0, vI x1, vI x2] μ (fun r2 ν1 =>
    ((0 ≤ r2 ∧ r2 < 1880) ∧ (if (ν1 21 0 r2) = 2 then
    ZI f_X8_reference [vR 20 o0, vI x1] ν1 (fun r4 ν3 =>
      ZI f_X8_runsOf [vR 20 o0, vI x1, vI r4, vI x2] ν3 (fun r6 ν5 =>
      Q (some (vI r6)) ν5))
    else
    (if (ν1 21 0 r2) = 3 then
      ZI f_X8_runsOf [vR 20 o0, vI x1, vI (-1), vI x2] ν1 (fun r8 ν7 =>
        Q (some (vI r8)) ν7)
      else
      Q (some (vI 0)) ν1))))) :
    ZW f_X8_runsIn 0 [vR 20 o0, vI x1, vI x2, none] [] μ Q := mvc_at zcd zml (C := zc140) rfl 35 0 h
theorem vc_X8_costOf_0 {μ : mzM} {Q : Option mzV → mzM → Prop} {o0 x1 : Int} (h :
    ZW f_X8_costOf 4 [vR 20 o0, vI x1, vI 2, vI 0, none] [] μ Q) :
    ZW f_X8_costOf 0 [vR 20 o0, vI x1, none, none, none] [] μ Q := mvc_at zcd zml (C := zc141) rfl 45 0 h
theorem vc_X8_costOf_4 {μ : mzM} {Q : Option mzV → mzM → Prop} {o0 x1 x2 x3 : Int} {v4 : mzV} (h :
    ZI f_X8_blocks [vR 20 o0] μ (fun r2 ν1 =>
    (if x3 < r2 then
    ZI f_X8_codeAt [vR 20 o0, vI x1, vI x3] ν1 (fun r4 ν3 =>
      ((0 ≤ r4 ∧ r4 < 1880) ∧ (if (ν3 21 0 r4) = 0 then
      (zin (x2 + 1) ∧ (zin (x3 + 1) ∧ ZW f_X8_costOf 4 [vR 20 o0, vI x1, vI (x2 + 1), vI (x3 + 1), vI (ν3 21 0 r4)] [] ν3 Q))
      else
      (if (ν3 21 0 r4) = 1 then
        (zin (x2 + 3) ∧ (zin (x3 + 1) ∧ ZW f_X8_costOf 4 [vR 20 o0, vI x1, vI (x2 + 3), vI (x3 + 1), vI (ν3 21 0 r4)] [] ν3 Q))
        else
        ZI f_X8_runsIn [vR 20 o0, vI x1, vI x3] ν3 (fun r6 ν5 =>
          (zin (2 * r6) ∧ (zin (2 + (2 * r6)) ∧ (zin (x2 + (2 + (2 * r6))) ∧ (zin (x3 + 1) ∧ ZW f_X8_costOf 4 [vR 20 o0, vI x1, vI (x2 + (2 + (2 * r6))), vI (x3 + 1), vI (ν3 21 0 r4)] [] ν5 Q)))))))))
    else
    Q (some (vI x2)) ν1))) :
    ZW f_X8_costOf 4 [vR 20 o0, vI x1, vI x2, vI x3, v4] [] μ Q := mvc_at zcd zml (C := zc141) rfl 45 4 h
theorem vc_X8_seekOf_0 {μ : mzM} {Q : Option mzV → mzM → Prop} {o0 x1 : Int} (h :
    ZI f_X8_costOf [vR 20 o0, vI x1] μ (fun r2 ν1 =>
    ZW f_X8_seekOf 6 [vR 20 o0, vI x1, vI r2, vI x1] [] ν1 Q)) :
    ZW f_X8_seekOf 0 [vR 20 o0, vI x1, none, none] [] μ Q := mvc_at zcd zml (C := zc142) rfl 31 0 h
theorem vc_X8_seekOf_6 {μ : mzM} {Q : Option mzV → mzM → Prop} {o0 x1 x2 x3 : Int} (h :
    ZI f_X8_reference [vR 20 o0, vI x3] μ (fun r2 ν1 =>
    (if r2 = (-1) then
    Q (some (vI x2)) ν1
    else
    ZI f_X8_reference [vR 20 o0, vI x3] ν1 (fun r4 ν3 =>
      ZI f_X8_costOf [vR 20 o0, vI r4] ν3 (fun r6 ν5 =>
      (zin (x2 + r6) ∧ ZI f_X8_reference [vR 20 o0, vI x3] ν5 (fun r8 ν7 =>
      ZW f_X8_seekOf 6 [vR 20 o0, vI x1, vI (x2 + r6), vI r8] [] ν7 Q))))))) :
    ZW f_X8_seekOf 6 [vR 20 o0, vI x1, vI x2, vI x3] [] μ Q := mvc_at zcd zml (C := zc142) rfl 31 6 h
theorem vc_X8_records_0 {μ : mzM} {Q : Option mzV → mzM → Prop} {o0 x1 x2 : Int} (h :
    (zin (1590 + x1) ∧ ((0 ≤ (1590 + x1) ∧ (1590 + x1) < 1880) ∧ (zin (1600 + x1) ∧ ((0 ≤ (1600 + x1) ∧ (1600 + x1) < 1880) ∧ ZW f_X8_records 16 [vR 20 o0, vI x1, vI x2, vI 0] [] (mup (mup μ 21 0 (1590 + x1) x2) 21 0 (1600 + x1) 0) Q))))) :
    ZW f_X8_records 0 [vR 20 o0, vI x1, vI x2, none] [] μ Q := mvc_at zcd zml (C := zc143) rfl 41 0 h
theorem vc_X8_records_16 {μ : mzM} {Q : Option mzV → mzM → Prop} {o0 x1 x2 x3 : Int} (h :
    (if x3 < 27 then
    (zin (27 * x1) ∧ (zin (1610 + (27 * x1)) ∧ (zin ((1610 + (27 * x1)) + x3) ∧ ((0 ≤ x3 ∧ x3 < 27) ∧ ((0 ≤ ((1610 + (27 * x1)) + x3) ∧ ((1610 + (27 * x1)) + x3) < 1880) ∧ (zin (x3 + 1) ∧ ZW f_X8_records 16 [vR 20 o0, vI x1, vI x2, vI (x3 + 1)] [] (mup μ 21 0 ((1610 + (27 * x1)) + x3) (μ 26 0 x3)) Q))))))
    else
    Q none μ)) :
    ZW f_X8_records 16 [vR 20 o0, vI x1, vI x2, vI x3] [] μ Q := mvc_at zcd zml (C := zc143) rfl 41 16 h
theorem vc_X8_adds_0 {μ : mzM} {Q : Option mzV → mzM → Prop} {o0 x1 : Int} (h :
    ZV f_X8_note [vR 20 o0] μ (fun ν1 =>
    ((0 ≤ (2 : Int) ∧ (2 : Int) < 1880) ∧ ZI f_X8_codesAll [vR 20 o0, vI (-1), vI x1] ν1 (fun r3 ν2 =>
    ZW f_X8_adds 14 [vR 20 o0, vI x1, vI (ν1 21 0 2), vI r3, vI 0] [] ν2 Q)))) :
    ZW f_X8_adds 0 [vR 20 o0, vI x1, none, none, none] [] μ Q := mvc_at zcd zml (C := zc144) rfl 54 0 h
theorem vc_X8_adds_14 {μ : mzM} {Q : Option mzV → mzM → Prop} {o0 x1 x2 x3 x4 : Int} (h :
    (if x4 < 144 then
    (zin (144 * x2) ∧ (zin (150 + (144 * x2)) ∧ (zin ((150 + (144 * x2)) + x4) ∧ (zin (6 + x4) ∧ ((0 ≤ (6 + x4) ∧ (6 + x4) < 1880) ∧ ((0 ≤ ((150 + (144 * x2)) + x4) ∧ ((150 + (144 * x2)) + x4) < 1880) ∧ (zin (x4 + 1) ∧ ZW f_X8_adds 14 [vR 20 o0, vI x1, vI x2, vI x3, vI (x4 + 1)] [] (mup μ 21 0 ((150 + (144 * x2)) + x4) (μ 21 0 (6 + x4))) Q)))))))
    else
    ZV f_X8_records [vR 20 o0, vI x2, vI x1] μ (fun ν1 =>
      ((0 ≤ (2 : Int) ∧ (2 : Int) < 1880) ∧ (zin ((ν1 21 0 2) + 1) ∧ ((0 ≤ (2 : Int) ∧ (2 : Int) < 1880) ∧ Q (some (vI x3)) (mup ν1 21 0 2 ((ν1 21 0 2) + 1)))))))) :
    ZW f_X8_adds 14 [vR 20 o0, vI x1, vI x2, vI x3, vI x4] [] μ Q := mvc_at zcd zml (C := zc144) rfl 54 14 h
theorem vc_X8_addKey_0 {μ : mzM} {Q : Option mzV → mzM → Prop} {o0 : Int} (h :
    ((0 ≤ (2 : Int) ∧ (2 : Int) < 1880) ∧ (if (μ 21 0 2) = 10 then
    Q (some (vI (-3))) μ
    else
    ZI f_X8_adds [vR 20 o0, vI (-1)] μ (fun r2 ν1 =>
      Q (some (vI r2)) ν1)))) :
    ZW f_X8_addKey 0 [vR 20 o0] [] μ Q := mvc_at zcd zml (C := zc145) rfl 17 0 h
theorem vc_X8_addDelta_0 {μ : mzM} {Q : Option mzV → mzM → Prop} {o0 x1 : Int} (h :
    ZI f_X8_isFrame [vR 20 o0, vI x1] μ (fun r2 ν1 =>
    (if r2 = 0 then
    Q (some (vI (-1))) ν1
    else
    ZI f_X8_isGood [vR 20 o0, vI x1] ν1 (fun r4 ν3 =>
      (if r4 = 0 then
      Q (some (vI (-2))) ν3
      else
      ZI f_X8_depthOf [vR 20 o0, vI x1] ν3 (fun r6 ν5 =>
        ((0 ≤ (4 : Int) ∧ (4 : Int) < 1880) ∧ (if r6 < (ν5 21 0 4) then
        ((0 ≤ (2 : Int) ∧ (2 : Int) < 1880) ∧ (if (ν5 21 0 2) = 10 then
          Q (some (vI (-3))) ν5
          else
          ZI f_X8_adds [vR 20 o0, vI x1] ν5 (fun r8 ν7 =>
            Q (some (vI r8)) ν7)))
        else
        Q (some (vI (-2))) ν5)))))))) :
    ZW f_X8_addDelta 0 [vR 20 o0, vI x1] [] μ Q := mvc_at zcd zml (C := zc146) rfl 37 0 h
theorem vc_X8_addChosen_0 {μ : mzM} {Q : Option mzV → mzM → Prop} {o0 : Int} (h :
    ((0 ≤ (2 : Int) ∧ (2 : Int) < 1880) ∧ (if (μ 21 0 2) = 10 then
    Q (some (vI (-3))) μ
    else
    ZI f_X8_codesAll [vR 20 o0, vI (-1), vI (-1)] μ (fun r2 ν1 =>
      ZW f_X8_addChosen 19 [vR 20 o0, vI (-1), vI r2, vI 0, vI 0, none, none, none] [] ν1 Q)))) :
    ZW f_X8_addChosen 0 [vR 20 o0, none, none, none, none, none, none, none] [] μ Q := mvc_at zcd zml (C := zc147) rfl 90 0 h
theorem vc_X8_addChosen_19 {μ : mzM} {Q : Option mzV → mzM → Prop} {o0 x1 x2 x3 x4 : Int} {v5 v6 v7 : mzV} (h :
    ((0 ≤ (2 : Int) ∧ (2 : Int) < 1880) ∧ (if x4 < (μ 21 0 2) then
    ZI f_X8_isGood [vR 20 o0, vI x4] μ (fun r2 ν1 =>
      (if r2 = 0 then
      (zin (x4 + 1) ∧ ZW f_X8_addChosen 19 [vR 20 o0, vI x1, vI x2, vI x3, vI (x4 + 1), v5, v6, v7] [] ν1 Q)
      else
      ZI f_X8_depthOf [vR 20 o0, vI x4] ν1 (fun r4 ν3 =>
        ((0 ≤ (4 : Int) ∧ (4 : Int) < 1880) ∧ (if r4 < (ν3 21 0 4) then
        ZI f_X8_codesAll [vR 20 o0, vI (-1), vI x4] ν3 (fun r6 ν5 =>
          ZI f_X8_depthOf [vR 20 o0, vI x4] ν5 (fun r8 ν7 =>
          (zin (r8 + 1) ∧ (if r6 < x2 then
          (zin (x4 + 1) ∧ ZW f_X8_addChosen 19 [vR 20 o0, vI x4, vI r6, vI (r8 + 1), vI (x4 + 1), vI r6, vI (r8 + 1), vI 1] [] ν7 Q)
          else
          (if r6 = x2 then
            (if x3 < (r8 + 1) then
              (zin (x4 + 1) ∧ ZW f_X8_addChosen 19 [vR 20 o0, vI x1, vI x2, vI x3, vI (x4 + 1), vI r6, vI (r8 + 1), vI 0] [] ν7 Q)
              else
              (zin (x4 + 1) ∧ ZW f_X8_addChosen 19 [vR 20 o0, vI x4, vI r6, vI (r8 + 1), vI (x4 + 1), vI r6, vI (r8 + 1), vI 1] [] ν7 Q))
            else
            (zin (x4 + 1) ∧ ZW f_X8_addChosen 19 [vR 20 o0, vI x1, vI x2, vI x3, vI (x4 + 1), vI r6, vI (r8 + 1), vI 0] [] ν7 Q))))))
        else
        (zin (x4 + 1) ∧ ZW f_X8_addChosen 19 [vR 20 o0, vI x1, vI x2, vI x3, vI (x4 + 1), v5, v6, v7] [] ν3 Q))))))
    else
    ZI f_X8_adds [vR 20 o0, vI x1] μ (fun r10 ν9 =>
      Q (some (vI r10)) ν9)))) :
    ZW f_X8_addChosen 19 [vR 20 o0, vI x1, vI x2, vI x3, vI x4, v5, v6, v7] [] μ Q := mvc_at zcd zml (C := zc147) rfl 90 19 h
theorem vc_X8_removeLast_0 {μ : mzM} {Q : Option mzV → mzM → Prop} {o0 : Int} (h :
    ((0 ≤ (2 : Int) ∧ (2 : Int) < 1880) ∧ (if (μ 21 0 2) = 0 then
    Q (some (vI (-2))) μ
    else
    ZV f_X8_note [vR 20 o0] μ (fun ν1 =>
      ((0 ≤ (2 : Int) ∧ (2 : Int) < 1880) ∧ (zin ((ν1 21 0 2) - 1) ∧ ((0 ≤ (2 : Int) ∧ (2 : Int) < 1880) ∧ ((0 ≤ (2 : Int) ∧ (2 : Int) < 1880) ∧ Q (some (vI ((mup ν1 21 0 2 ((ν1 21 0 2) - 1)) 21 0 2))) (mup ν1 21 0 2 ((ν1 21 0 2) - 1)))))))))) :
    ZW f_X8_removeLast 0 [vR 20 o0] [] μ Q := mvc_at zcd zml (C := zc148) rfl 27 0 h
theorem vc_X8_planOf_0 {μ : mzM} {Q : Option mzV → mzM → Prop} {o0 x1 : Int} (h :
    ZW f_X8_planOf 8 [vR 20 o0, vI x1, vI 0, vI 0, vI 0, vI 0, none, none] [] μ Q) :
    ZW f_X8_planOf 0 [vR 20 o0, vI x1, none, none, none, none, none, none] [] μ Q := mvc_at zcd zml (C := zc149) rfl 72 0 h
theorem vc_X8_planOf_8 {μ : mzM} {Q : Option mzV → mzM → Prop} {o0 x1 x2 x3 x4 x5 : Int} {v6 v7 : mzV} (h :
    ((0 ≤ (2 : Int) ∧ (2 : Int) < 1880) ∧ (if x5 < (μ 21 0 2) then
    (if (zand (zshr x1 x5) 1) = 1 then
      ((0 ≤ x5 ∧ x5 < 10) ∧ (zin (x2 + (μ 27 0 x5)) ∧ (if x4 < (μ 27 0 x5) then
        (zin (x5 + 1) ∧ ZW f_X8_planOf 8 [vR 20 o0, vI x1, vI (x2 + (μ 27 0 x5)), vI (μ 27 0 x5), vI (μ 27 0 x5), vI (x5 + 1), vI 1, vI (μ 27 0 x5)] [] μ Q)
        else
        (zin (x5 + 1) ∧ ZW f_X8_planOf 8 [vR 20 o0, vI x1, vI (x2 + (μ 27 0 x5)), vI (μ 27 0 x5), vI x4, vI (x5 + 1), vI 1, vI (μ 27 0 x5)] [] μ Q))))
      else
      ((0 ≤ x5 ∧ x5 < 10) ∧ (zin (x2 + (μ 28 0 x5)) ∧ (zin (x3 + (μ 28 0 x5)) ∧ (if x4 < (x3 + (μ 28 0 x5)) then
        (zin (x5 + 1) ∧ ZW f_X8_planOf 8 [vR 20 o0, vI x1, vI (x2 + (μ 28 0 x5)), vI (x3 + (μ 28 0 x5)), vI (x3 + (μ 28 0 x5)), vI (x5 + 1), vI 0, vI (μ 28 0 x5)] [] μ Q)
        else
        (zin (x5 + 1) ∧ ZW f_X8_planOf 8 [vR 20 o0, vI x1, vI (x2 + (μ 28 0 x5)), vI (x3 + (μ 28 0 x5)), vI x4, vI (x5 + 1), vI 0, vI (μ 28 0 x5)] [] μ Q))))))
    else
    ((0 ≤ (5 : Int) ∧ (5 : Int) < 1880) ∧ (zin ((μ 21 0 5) * x4) ∧ (zin (x2 + ((μ 21 0 5) * x4)) ∧ Q (some (vI (x2 + ((μ 21 0 5) * x4)))) μ)))))) :
    ZW f_X8_planOf 8 [vR 20 o0, vI x1, vI x2, vI x3, vI x4, vI x5, v6, v7] [] μ Q := mvc_at zcd zml (C := zc149) rfl 72 8 h
theorem vc_X8_bits_0 {μ : mzM} {Q : Option mzV → mzM → Prop} {x0 : Int} (h :
    ZW f_X8_bits 4 [vI x0, vI 0, vI 0] [] μ Q) :
    ZW f_X8_bits 0 [vI x0, none, none] [] μ Q := mvc_at zcd zml (C := zc150) rfl 24 0 h
theorem vc_X8_bits_4 {μ : mzM} {Q : Option mzV → mzM → Prop} {x0 x1 x2 : Int} (h :
    (if x2 < 10 then
    (zin (x1 + (zand (zshr x0 x2) 1)) ∧ (zin (x2 + 1) ∧ ZW f_X8_bits 4 [vI x0, vI (x1 + (zand (zshr x0 x2) 1)), vI (x2 + 1)] [] μ Q))
    else
    Q (some (vI x1)) μ)) :
    ZW f_X8_bits 4 [vI x0, vI x1, vI x2] [] μ Q := mvc_at zcd zml (C := zc150) rfl 24 4 h
theorem vc_X8_plans_0 {μ : mzM} {Q : Option mzV → mzM → Prop} {o0 : Int} (h :
    ZW f_X8_plans 2 [vR 20 o0, vI 0, none, none, none] [] μ Q) :
    ZW f_X8_plans 0 [vR 20 o0, none, none, none, none] [] μ Q := mvc_at zcd zml (C := zc151) rfl 92 0 h
theorem vc_X8_plans_2 {μ : mzM} {Q : Option mzV → mzM → Prop} {o0 x1 : Int} (h :
    ((0 ≤ (2 : Int) ∧ (2 : Int) < 1880) ∧ (if x1 < (μ 21 0 2) then
    ZI f_X8_codesAll [vR 20 o0, vI x1, vI (-1)] μ (fun r2 ν1 =>
      ((0 ≤ x1 ∧ x1 < 10) ∧ (if x1 = 0 then
      ((0 ≤ x1 ∧ x1 < 10) ∧ (zin (x1 + 1) ∧ ZW f_X8_plans 2 [vR 20 o0, vI (x1 + 1), none, none, none] [] (mup (mup ν1 27 0 x1 r2) 28 0 x1 0) Q))
      else
      (zin (x1 - 1) ∧ ZI f_X8_codesAll [vR 20 o0, vI x1, vI (x1 - 1)] (mup ν1 27 0 x1 r2) (fun r4 ν3 =>
        ((0 ≤ x1 ∧ x1 < 10) ∧ (zin (x1 + 1) ∧ ZW f_X8_plans 2 [vR 20 o0, vI (x1 + 1), none, none, none] [] (mup ν3 28 0 x1 r4) Q)))))))
    else
    ZI f_X8_planOf [vR 20 o0, vI 1] (mup μ 20 o0 16 1) (fun r6 ν5 =>
      ZW f_X8_plans 41 [vR 20 o0, vI r6, vI 3, none, none] [] ν5 Q)))) :
    ZW f_X8_plans 2 [vR 20 o0, vI x1, none, none, none] [] μ Q := mvc_at zcd zml (C := zc151) rfl 92 2 h
theorem vc_X8_plans_41 {μ : mzM} {Q : Option mzV → mzM → Prop} {o0 x1 x2 : Int} {v3 v4 : mzV} (h :
    ((0 ≤ (2 : Int) ∧ (2 : Int) < 1880) ∧ (if x2 < (zshl 1 (μ 21 0 2)) then
    ZI f_X8_planOf [vR 20 o0, vI x2] μ (fun r2 ν1 =>
      (if r2 < x1 then
      (zin (x2 + 2) ∧ ZW f_X8_plans 41 [vR 20 o0, vI r2, vI (x2 + 2), vI r2, vI 1] [] (mup ν1 20 o0 16 x2) Q)
      else
      (if r2 = x1 then
        ZI f_X8_bits [vI x2] ν1 (fun r4 ν3 =>
          ZI f_X8_bits [vI (ν3 20 o0 16)] ν3 (fun r6 ν5 =>
          (if r4 < r6 then
          (zin (x2 + 2) ∧ ZW f_X8_plans 41 [vR 20 o0, vI r2, vI (x2 + 2), vI r2, vI 1] [] (mup ν5 20 o0 16 x2) Q)
          else
          (zin (x2 + 2) ∧ ZW f_X8_plans 41 [vR 20 o0, vI x1, vI (x2 + 2), vI r2, vI 0] [] (mup ν5 20 o0 16 (ν5 20 o0 16)) Q))))
        else
        (zin (x2 + 2) ∧ ZW f_X8_plans 41 [vR 20 o0, vI x1, vI (x2 + 2), vI r2, vI 0] [] (mup ν1 20 o0 16 (ν1 20 o0 16)) Q))))
    else
    Q (some (vI x1)) μ))) :
    ZW f_X8_plans 41 [vR 20 o0, vI x1, vI x2, v3, v4] [] μ Q := mvc_at zcd zml (C := zc151) rfl 92 41 h
theorem vc_X8_recode_0 {μ : mzM} {Q : Option mzV → mzM → Prop} {o0 : Int} (h :
    ((0 ≤ (2 : Int) ∧ (2 : Int) < 1880) ∧ (if (μ 21 0 2) = 0 then
    Q (some (vI (-2))) μ
    else
    ZV f_X8_note [vR 20 o0] μ (fun ν1 =>
      ZI f_X8_plans [vR 20 o0] ν1 (fun r3 ν2 =>
      ZW f_X8_recode 14 [vR 20 o0, vI r3, vI 0, none, none] [] ν2 Q))))) :
    ZW f_X8_recode 0 [vR 20 o0, none, none, none, none] [] μ Q := mvc_at zcd zml (C := zc152) rfl 56 0 h
theorem vc_X8_recode_14 {μ : mzM} {Q : Option mzV → mzM → Prop} {o0 x1 x2 : Int} {v3 v4 : mzV} (h :
    ((0 ≤ (2 : Int) ∧ (2 : Int) < 1880) ∧ (if x2 < (μ 21 0 2) then
    (if (zand (zshr (μ 20 o0 16) x2) 1) = 1 then
      ZI f_X8_codesAll [vR 20 o0, vI x2, vI (-1)] μ (fun r2 ν1 =>
        (if r2 < 0 then
        ZV f_X8_records [vR 20 o0, vI x2, vI (-1)] ν1 (fun ν3 =>
          (zin (x2 + 1) ∧ ZW f_X8_recode 14 [vR 20 o0, vI x1, vI (x2 + 1), vI (-1), vI r2] [] ν3 Q))
        else
        ZV f_X8_records [vR 20 o0, vI x2, vI (-1)] ν1 (fun ν4 =>
          (zin (x2 + 1) ∧ ZW f_X8_recode 14 [vR 20 o0, vI x1, vI (x2 + 1), vI (-1), vI r2] [] ν4 Q))))
      else
      (zin (x2 - 1) ∧ ZI f_X8_codesAll [vR 20 o0, vI x2, vI (x2 - 1)] μ (fun r6 ν5 =>
        (if r6 < 0 then
        ZV f_X8_records [vR 20 o0, vI x2, vI (-1)] ν5 (fun ν7 =>
          (zin (x2 + 1) ∧ ZW f_X8_recode 14 [vR 20 o0, vI x1, vI (x2 + 1), vI (x2 - 1), vI r6] [] ν7 Q))
        else
        ZV f_X8_records [vR 20 o0, vI x2, vI (x2 - 1)] ν5 (fun ν8 =>
          (zin (x2 + 1) ∧ ZW f_X8_recode 14 [vR 20 o0, vI x1, vI (x2 + 1), vI (x2 - 1), vI r6] [] ν8 Q))))))
    else
    Q (some (vI x1)) μ))) :
    ZW f_X8_recode 14 [vR 20 o0, vI x1, vI x2, v3, v4] [] μ Q := mvc_at zcd zml (C := zc152) rfl 56 14 h
theorem vc_X8_planCost_0 {μ : mzM} {Q : Option mzV → mzM → Prop} {o0 : Int} (h :
    ((0 ≤ (2 : Int) ∧ (2 : Int) < 1880) ∧ (if (μ 21 0 2) = 0 then
    Q (some (vI (-9))) μ
    else
    ZI f_X8_plans [vR 20 o0] μ (fun r2 ν1 =>
      Q (some (vI r2)) ν1)))) :
    ZW f_X8_planCost 0 [vR 20 o0] [] μ Q := mvc_at zcd zml (C := zc153) rfl 15 0 h
theorem vc_X8_planKeys_0 {μ : mzM} {Q : Option mzV → mzM → Prop} {o0 : Int} (h :
    ((0 ≤ (2 : Int) ∧ (2 : Int) < 1880) ∧ (if (μ 21 0 2) = 0 then
    Q (some (vI (-9))) μ
    else
    ZI f_X8_plans [vR 20 o0] μ (fun r2 ν1 =>
      (if r2 < 0 then
      Q (some (vI (-9))) ν1
      else
      Q (some (vI (ν1 20 o0 16))) ν1))))) :
    ZW f_X8_planKeys 0 [vR 20 o0] [] μ Q := mvc_at zcd zml (C := zc154) rfl 20 0 h
theorem vc_X8_setLimits_0 {μ : mzM} {Q : Option mzV → mzM → Prop} {o0 x1 x2 x3 : Int} (h :
    ZI f_X8_in [vI x1, vI 0, vI 4] μ (fun r2 ν1 =>
    (if r2 = 0 then
    Q (some (vI (-1))) ν1
    else
    ZI f_X8_in [vI x2, vI 0, vI 9] ν1 (fun r4 ν3 =>
      (if r4 = 0 then
      Q (some (vI (-1))) ν3
      else
      ZI f_X8_in [vI x3, vI 0, vI 9] ν3 (fun r6 ν5 =>
        (if r6 = 0 then
        Q (some (vI (-1))) ν5
        else
        ZV f_X8_note [vR 20 o0] ν5 (fun ν7 =>
          ((0 ≤ (3 : Int) ∧ (3 : Int) < 1880) ∧ (if (ν7 21 0 3) = x1 then
          ((0 ≤ (4 : Int) ∧ (4 : Int) < 1880) ∧ (if (ν7 21 0 4) = x2 then
            ((0 ≤ (5 : Int) ∧ (5 : Int) < 1880) ∧ (if (ν7 21 0 5) = x3 then
              ((0 ≤ (3 : Int) ∧ (3 : Int) < 1880) ∧ ((0 ≤ (4 : Int) ∧ (4 : Int) < 1880) ∧ ((0 ≤ (5 : Int) ∧ (5 : Int) < 1880) ∧ Q (some (vI 0)) (mup (mup (mup ν7 21 0 3 x1) 21 0 4 x2) 21 0 5 x3))))
              else
              ((0 ≤ (3 : Int) ∧ (3 : Int) < 1880) ∧ ((0 ≤ (4 : Int) ∧ (4 : Int) < 1880) ∧ ((0 ≤ (5 : Int) ∧ (5 : Int) < 1880) ∧ Q (some (vI 1)) (mup (mup (mup ν7 21 0 3 x1) 21 0 4 x2) 21 0 5 x3))))))
            else
            ((0 ≤ (3 : Int) ∧ (3 : Int) < 1880) ∧ ((0 ≤ (4 : Int) ∧ (4 : Int) < 1880) ∧ ((0 ≤ (5 : Int) ∧ (5 : Int) < 1880) ∧ Q (some (vI 1)) (mup (mup (mup ν7 21 0 3 x1) 21 0 4 x2) 21 0 5 x3))))))
          else
          ((0 ≤ (3 : Int) ∧ (3 : Int) < 1880) ∧ ((0 ≤ (4 : Int) ∧ (4 : Int) < 1880) ∧ ((0 ≤ (5 : Int) ∧ (5 : Int) < 1880) ∧ Q (some (vI 1)) (mup (mup (mup ν7 21 0 3 x1) 21 0 4 x2) 21 0 5 x3)))))))))))))) :
    ZW f_X8_setLimits 0 [vR 20 o0, vI x1, vI x2, vI x3, none] [] μ Q := mvc_at zcd zml (C := zc155) rfl 67 0 h
theorem vc_X8_setLost_0 {μ : mzM} {Q : Option mzV → mzM → Prop} {o0 x1 x2 : Int} (h :
    ZI f_X8_isFrame [vR 20 o0, vI x1] μ (fun r2 ν1 =>
    (if r2 = 0 then
    Q (some (vI (-1))) ν1
    else
    ZI f_X8_in [vI x2, vI 0, vI 1] ν1 (fun r4 ν3 =>
      (if r4 = 0 then
      Q (some (vI (-1))) ν3
      else
      (zin (1600 + x1) ∧ ((0 ≤ (1600 + x1) ∧ (1600 + x1) < 1880) ∧ (if (ν3 21 0 (1600 + x1)) = x2 then
        Q (some (vI (-2))) ν3
        else
        ZV f_X8_note [vR 20 o0] ν3 (fun ν5 =>
          (zin (1600 + x1) ∧ ((0 ≤ (1600 + x1) ∧ (1600 + x1) < 1880) ∧ ZI f_X8_goods [vR 20 o0] (mup ν5 21 0 (1600 + x1) x2) (fun r7 ν6 =>
          Q (some (vI r7)) ν6)))))))))))) :
    ZW f_X8_setLost 0 [vR 20 o0, vI x1, vI x2] [] μ Q := mvc_at zcd zml (C := zc156) rfl 38 0 h
theorem vc_X8_codesOf_0 {μ : mzM} {Q : Option mzV → mzM → Prop} {o0 x1 x2 : Int} (h :
    ZW f_X8_codesOf 4 [vR 20 o0, vI x1, vI x2, vI 0, vI 0] [] μ Q) :
    ZW f_X8_codesOf 0 [vR 20 o0, vI x1, vI x2, none, none] [] μ Q := mvc_at zcd zml (C := zc157) rfl 32 0 h
theorem vc_X8_codesOf_4 {μ : mzM} {Q : Option mzV → mzM → Prop} {o0 x1 x2 x3 x4 : Int} (h :
    ZI f_X8_blocks [vR 20 o0] μ (fun r2 ν1 =>
    (if x4 < r2 then
    ZI f_X8_codeAt [vR 20 o0, vI x1, vI x4] ν1 (fun r4 ν3 =>
      ((0 ≤ r4 ∧ r4 < 1880) ∧ (if (ν3 21 0 r4) = x2 then
      (zin (x3 + 1) ∧ (zin (x4 + 1) ∧ ZW f_X8_codesOf 4 [vR 20 o0, vI x1, vI x2, vI (x3 + 1), vI (x4 + 1)] [] ν3 Q))
      else
      (zin (x3 + 0) ∧ (zin (x4 + 1) ∧ ZW f_X8_codesOf 4 [vR 20 o0, vI x1, vI x2, vI (x3 + 0), vI (x4 + 1)] [] ν3 Q)))))
    else
    Q (some (vI x3)) ν1))) :
    ZW f_X8_codesOf 4 [vR 20 o0, vI x1, vI x2, vI x3, vI x4] [] μ Q := mvc_at zcd zml (C := zc157) rfl 32 4 h
theorem vc_X8_frame_0 {μ : mzM} {Q : Option mzV → mzM → Prop} {o0 x1 x2 : Int} (h :
    ZI f_X8_isFrame [vR 20 o0, vI x1] μ (fun r2 ν1 =>
    (if r2 = 0 then
    Q (some (vI (-1))) ν1
    else
    ZI f_X8_in [vI x2, vI 0, vI 8] ν1 (fun r4 ν3 =>
      (if r4 = 0 then
      Q (some (vI (-1))) ν3
      else
      (if x2 = 0 then
        ZI f_X8_reference [vR 20 o0, vI x1] ν3 (fun r6 ν5 =>
          (if r6 = (-1) then
          Q (some (vI (-9))) ν5
          else
          ZI f_X8_reference [vR 20 o0, vI x1] ν5 (fun r8 ν7 =>
            Q (some (vI r8)) ν7)))
        else
        (if x2 = 1 then
        ZI f_X8_costOf [vR 20 o0, vI x1] ν3 (fun r10 ν9 =>
          Q (some (vI r10)) ν9)
        else
        (if x2 = 2 then
        ZI f_X8_seekOf [vR 20 o0, vI x1] ν3 (fun r12 ν11 =>
          Q (some (vI r12)) ν11)
        else
        (if x2 = 3 then
        ZI f_X8_depthOf [vR 20 o0, vI x1] ν3 (fun r14 ν13 =>
          Q (some (vI r14)) ν13)
        else
        (if x2 = 4 then
        ZI f_X8_isGood [vR 20 o0, vI x1] ν3 (fun r16 ν15 =>
          (if r16 = 0 then
          Q (some (vI 0)) ν15
          else
          Q (some (vI 1)) ν15))
        else
        (zin (x2 - 5) ∧ ZI f_X8_codesOf [vR 20 o0, vI x1, vI (x2 - 5)] ν3 (fun r18 ν17 =>
          Q (some (vI r18)) ν17)))))))))))) :
    ZW f_X8_frame 0 [vR 20 o0, vI x1, vI x2] [] μ Q := mvc_at zcd zml (C := zc158) rfl 56 0 h
theorem vc_X8_isBlock_0 {μ : mzM} {Q : Option mzV → mzM → Prop} {o0 x1 : Int} (h :
    ZI f_X8_blocks [vR 20 o0] μ (fun r2 ν1 =>
    (zin (r2 - 1) ∧ ZI f_X8_in [vI x1, vI 0, vI (r2 - 1)] ν1 (fun r4 ν3 =>
    Q (some (vI (r4 % 2))) ν3)))) :
    ZW f_X8_isBlock 0 [vR 20 o0, vI x1] [] μ Q := mvc_at zcd zml (C := zc159) rfl 13 0 h
theorem vc_X8_code_0 {μ : mzM} {Q : Option mzV → mzM → Prop} {o0 x1 x2 x3 : Int} (h :
    ZI f_X8_isFrame [vR 20 o0, vI x1] μ (fun r2 ν1 =>
    (if r2 = 0 then
    Q (some (vI (-1))) ν1
    else
    ZI f_X8_isBlock [vR 20 o0, vI x2] ν1 (fun r4 ν3 =>
      (if r4 = 0 then
      Q (some (vI (-1))) ν3
      else
      ZI f_X8_in [vI x3, vI 0, vI 3] ν3 (fun r6 ν5 =>
        (if r6 = 0 then
        Q (some (vI (-1))) ν5
        else
        ZI f_X8_codeAt [vR 20 o0, vI x1, vI x2] ν5 (fun r8 ν7 =>
          ((0 ≤ r8 ∧ r8 < 1880) ∧ (if x3 = 0 then
          Q (some (vI (ν7 21 0 r8))) ν7
          else
          (if x3 = 3 then
            (if (ν7 21 0 r8) < 2 then
              Q (some (vI (-9))) ν7
              else
              ZI f_X8_runsIn [vR 20 o0, vI x1, vI x2] ν7 (fun r10 ν9 =>
                Q (some (vI r10)) ν9))
            else
            (if (ν7 21 0 r8) = 1 then
              ZI f_X8_codeAt [vR 20 o0, vI x1, vI x2] ν7 (fun r12 ν11 =>
                (zin (r12 + x3) ∧ ((0 ≤ (r12 + x3) ∧ (r12 + x3) < 1880) ∧ Q (some (vI (ν11 21 0 (r12 + x3)))) ν11)))
              else
              Q (some (vI (-9))) ν7)))))))))))) :
    ZW f_X8_code 0 [vR 20 o0, vI x1, vI x2, vI x3, none] [] μ Q := mvc_at zcd zml (C := zc160) rfl 60 0 h
theorem vc_X8_run_0 {μ : mzM} {Q : Option mzV → mzM → Prop} {o0 x1 x2 x3 x4 : Int} (h :
    ZI f_X8_isFrame [vR 20 o0, vI x1] μ (fun r2 ν1 =>
    (if r2 = 0 then
    Q (some (vI (-1))) ν1
    else
    ZI f_X8_isBlock [vR 20 o0, vI x2] ν1 (fun r4 ν3 =>
      (if r4 = 0 then
      Q (some (vI (-1))) ν3
      else
      (if x3 < 0 then
        Q (some (vI (-1))) ν3
        else
        ZI f_X8_in [vI x4, vI 0, vI 1] ν3 (fun r6 ν5 =>
          (if r6 = 0 then
          Q (some (vI (-1))) ν5
          else
          ZI f_X8_codeAt [vR 20 o0, vI x1, vI x2] ν5 (fun r8 ν7 =>
            ((0 ≤ r8 ∧ r8 < 1880) ∧ ZI f_X8_runsIn [vR 20 o0, vI x1, vI x2] ν7 (fun r10 ν9 =>
            (if x3 < r10 then
            (if (ν7 21 0 r8) = 2 then
              ZI f_X8_reference [vR 20 o0, vI x1] ν9 (fun r12 ν11 =>
                ZW f_X8_run 50 [vR 20 o0, vI x1, vI x2, vI x3, vI x4, vI (ν7 21 0 r8), vI r12, vI 0, vI 0, vI 0, vI 0] [] ν11 Q)
              else
              ZW f_X8_run 50 [vR 20 o0, vI x1, vI x2, vI x3, vI x4, vI (ν7 21 0 r8), vI (-1), vI 0, vI 0, vI 0, vI 0] [] ν9 Q)
            else
            Q (some (vI (-9))) ν9)))))))))))) :
    ZW f_X8_run 0 [vR 20 o0, vI x1, vI x2, vI x3, vI x4, none, none, none, none, none, none] [] μ Q := mvc_at zcd zml (C := zc161) rfl 110 0 h
theorem vc_X8_run_50 {μ : mzM} {Q : Option mzV → mzM → Prop} {o0 x1 x2 x3 x4 x5 x6 x7 x8 x9 x10 : Int} (h :
    (if x10 < 16 then
    (if (0 : Int) < x10 then
      ZI f_X8_given [vR 20 o0, vI x1, vI x6, vI x2, vI x10] μ (fun r2 ν1 =>
        (zin (x10 - 1) ∧ ZI f_X8_given [vR 20 o0, vI x1, vI x6, vI x2, vI (x10 - 1)] ν1 (fun r4 ν3 =>
        (if r2 = r4 then
        (zin (x7 + 0) ∧ (if (x7 + 0) = x3 then
          (zin (x8 + 1) ∧ (if (x7 + 0) = x3 then
            ZI f_X8_given [vR 20 o0, vI x1, vI x6, vI x2, vI x10] ν3 (fun r6 ν5 =>
              (zin (x10 + 1) ∧ ZW f_X8_run 50 [vR 20 o0, vI x1, vI x2, vI x3, vI x4, vI x5, vI x6, vI (x7 + 0), vI (x8 + 1), vI r6, vI (x10 + 1)] [] ν5 Q))
            else
            (zin (x10 + 1) ∧ ZW f_X8_run 50 [vR 20 o0, vI x1, vI x2, vI x3, vI x4, vI x5, vI x6, vI (x7 + 0), vI (x8 + 1), vI x9, vI (x10 + 1)] [] ν3 Q)))
          else
          (zin (x8 + 0) ∧ (if (x7 + 0) = x3 then
            ZI f_X8_given [vR 20 o0, vI x1, vI x6, vI x2, vI x10] ν3 (fun r8 ν7 =>
              (zin (x10 + 1) ∧ ZW f_X8_run 50 [vR 20 o0, vI x1, vI x2, vI x3, vI x4, vI x5, vI x6, vI (x7 + 0), vI (x8 + 0), vI r8, vI (x10 + 1)] [] ν7 Q))
            else
            (zin (x10 + 1) ∧ ZW f_X8_run 50 [vR 20 o0, vI x1, vI x2, vI x3, vI x4, vI x5, vI x6, vI (x7 + 0), vI (x8 + 0), vI x9, vI (x10 + 1)] [] ν3 Q)))))
        else
        (zin (x7 + 1) ∧ (if (x7 + 1) = x3 then
          (zin (x8 + 1) ∧ (if (x7 + 1) = x3 then
            ZI f_X8_given [vR 20 o0, vI x1, vI x6, vI x2, vI x10] ν3 (fun r10 ν9 =>
              (zin (x10 + 1) ∧ ZW f_X8_run 50 [vR 20 o0, vI x1, vI x2, vI x3, vI x4, vI x5, vI x6, vI (x7 + 1), vI (x8 + 1), vI r10, vI (x10 + 1)] [] ν9 Q))
            else
            (zin (x10 + 1) ∧ ZW f_X8_run 50 [vR 20 o0, vI x1, vI x2, vI x3, vI x4, vI x5, vI x6, vI (x7 + 1), vI (x8 + 1), vI x9, vI (x10 + 1)] [] ν3 Q)))
          else
          (zin (x8 + 0) ∧ (if (x7 + 1) = x3 then
            ZI f_X8_given [vR 20 o0, vI x1, vI x6, vI x2, vI x10] ν3 (fun r12 ν11 =>
              (zin (x10 + 1) ∧ ZW f_X8_run 50 [vR 20 o0, vI x1, vI x2, vI x3, vI x4, vI x5, vI x6, vI (x7 + 1), vI (x8 + 0), vI r12, vI (x10 + 1)] [] ν11 Q))
            else
            (zin (x10 + 1) ∧ ZW f_X8_run 50 [vR 20 o0, vI x1, vI x2, vI x3, vI x4, vI x5, vI x6, vI (x7 + 1), vI (x8 + 0), vI x9, vI (x10 + 1)] [] ν3 Q)))))))))
      else
      (zin (x7 + 0) ∧ (if (x7 + 0) = x3 then
        (zin (x8 + 1) ∧ (if (x7 + 0) = x3 then
          ZI f_X8_given [vR 20 o0, vI x1, vI x6, vI x2, vI x10] μ (fun r14 ν13 =>
            (zin (x10 + 1) ∧ ZW f_X8_run 50 [vR 20 o0, vI x1, vI x2, vI x3, vI x4, vI x5, vI x6, vI (x7 + 0), vI (x8 + 1), vI r14, vI (x10 + 1)] [] ν13 Q))
          else
          (zin (x10 + 1) ∧ ZW f_X8_run 50 [vR 20 o0, vI x1, vI x2, vI x3, vI x4, vI x5, vI x6, vI (x7 + 0), vI (x8 + 1), vI x9, vI (x10 + 1)] [] μ Q)))
        else
        (zin (x8 + 0) ∧ (if (x7 + 0) = x3 then
          ZI f_X8_given [vR 20 o0, vI x1, vI x6, vI x2, vI x10] μ (fun r16 ν15 =>
            (zin (x10 + 1) ∧ ZW f_X8_run 50 [vR 20 o0, vI x1, vI x2, vI x3, vI x4, vI x5, vI x6, vI (x7 + 0), vI (x8 + 0), vI r16, vI (x10 + 1)] [] ν15 Q))
          else
          (zin (x10 + 1) ∧ ZW f_X8_run 50 [vR 20 o0, vI x1, vI x2, vI x3, vI x4, vI x5, vI x6, vI (x7 + 0), vI (x8 + 0), vI x9, vI (x10 + 1)] [] μ Q))))))
    else
    (if x4 = 0 then
      Q (some (vI x8)) μ
      else
      Q (some (vI x9)) μ))) :
    ZW f_X8_run 50 [vR 20 o0, vI x1, vI x2, vI x3, vI x4, vI x5, vI x6, vI x7, vI x8, vI x9, vI x10] [] μ Q := mvc_at zcd zml (C := zc161) rfl 110 50 h
theorem vc_X8_pixel_0 {μ : mzM} {Q : Option mzV → mzM → Prop} {o0 x1 x2 : Int} (h :
    ZI f_X8_isFrame [vR 20 o0, vI x1] μ (fun r2 ν1 =>
    (if r2 = 0 then
    Q (some (vI (-1))) ν1
    else
    ZI f_X8_isCell [vR 20 o0, vI x2] ν1 (fun r4 ν3 =>
      (if r4 = 0 then
      Q (some (vI (-1))) ν3
      else
      ZI f_X8_isGood [vR 20 o0, vI x1] ν3 (fun r6 ν5 =>
        (if r6 = 0 then
        Q (some (vI (-2))) ν5
        else
        ZI f_X8_value [vR 20 o0, vI x1, vI x2] ν5 (fun r8 ν7 =>
          Q (some (vI r8)) ν7)))))))) :
    ZW f_X8_pixel 0 [vR 20 o0, vI x1, vI x2] [] μ Q := mvc_at zcd zml (C := zc162) rfl 26 0 h
theorem vc_X8_count_0 {μ : mzM} {Q : Option mzV → mzM → Prop} {o0 x1 : Int} (h :
    (if x1 = 0 then
    ((0 ≤ x1 ∧ x1 < 1880) ∧ Q (some (vI (μ 21 0 x1))) μ)
    else
    (if x1 = 1 then
    ((0 ≤ x1 ∧ x1 < 1880) ∧ Q (some (vI (μ 21 0 x1))) μ)
    else
    (if x1 = 2 then
    ((0 ≤ x1 ∧ x1 < 1880) ∧ Q (some (vI (μ 21 0 x1))) μ)
    else
    (if x1 = 3 then
    ((0 ≤ x1 ∧ x1 < 1880) ∧ Q (some (vI (μ 21 0 x1))) μ)
    else
    (if x1 = 4 then
    ((0 ≤ x1 ∧ x1 < 1880) ∧ Q (some (vI (μ 21 0 x1))) μ)
    else
    (if x1 = 5 then
    ((0 ≤ x1 ∧ x1 < 1880) ∧ Q (some (vI (μ 21 0 x1))) μ)
    else
    (if x1 = 6 then
    ZW f_X8_count 11 [vR 20 o0, vI x1, vI 0, vI 0] [] μ Q
    else
    (if x1 = 7 then
    ZI f_X8_goods [vR 20 o0] μ (fun r2 ν1 =>
      Q (some (vI r2)) ν1)
    else
    (if x1 = 8 then
    Q (some (vI (μ 20 o0 4))) μ
    else
    (if x1 = 9 then
    Q (some (vI (μ 20 o0 2))) μ
    else
    Q (some (vI (-1))) μ))))))))))) :
    ZW f_X8_count 0 [vR 20 o0, vI x1, none, none] [] μ Q := mvc_at zcd zml (C := zc163) rfl 43 0 h
theorem vc_X8_count_11 {μ : mzM} {Q : Option mzV → mzM → Prop} {o0 x1 x2 x3 : Int} (h :
    ((0 ≤ (2 : Int) ∧ (2 : Int) < 1880) ∧ (if x3 < (μ 21 0 2) then
    ZI f_X8_costOf [vR 20 o0, vI x3] μ (fun r2 ν1 =>
      (zin (x2 + r2) ∧ (zin (x3 + 1) ∧ ZW f_X8_count 11 [vR 20 o0, vI x1, vI (x2 + r2), vI (x3 + 1)] [] ν1 Q)))
    else
    Q (some (vI x2)) μ))) :
    ZW f_X8_count 11 [vR 20 o0, vI x1, vI x2, vI x3] [] μ Q := mvc_at zcd zml (C := zc163) rfl 43 11 h
theorem vc_X8_costWith_0 {μ : mzM} {Q : Option mzV → mzM → Prop} {o0 x1 : Int} (h :
    ZI f_X8_isImage [vR 20 o0, vI x1] μ (fun r2 ν1 =>
    (if r2 = 0 then
    Q (some (vI (-1))) ν1
    else
    ZI f_X8_isKnown [vR 20 o0, vI x1] ν1 (fun r4 ν3 =>
      (if r4 = 0 then
      Q (some (vI (-2))) ν3
      else
      ZI f_X8_codesAll [vR 20 o0, vI (-1), vI x1] ν3 (fun r6 ν5 =>
        Q (some (vI r6)) ν5)))))) :
    ZW f_X8_costWith 0 [vR 20 o0, vI x1] [] μ Q := mvc_at zcd zml (C := zc164) rfl 22 0 h
theorem vc_X8_differing_0 {μ : mzM} {Q : Option mzV → mzM → Prop} {o0 x1 x2 : Int} (h :
    ZW f_X8_differing 4 [vR 20 o0, vI x1, vI x2, vI 0, vI 0] [] μ Q) :
    ZW f_X8_differing 0 [vR 20 o0, vI x1, vI x2, none, none] [] μ Q := mvc_at zcd zml (C := zc165) rfl 32 0 h
theorem vc_X8_differing_4 {μ : mzM} {Q : Option mzV → mzM → Prop} {o0 x1 x2 x3 x4 : Int} (h :
    ZI f_X8_cells [vR 20 o0] μ (fun r2 ν1 =>
    (if x4 < r2 then
    ZI f_X8_value [vR 20 o0, vI x1, vI x4] ν1 (fun r4 ν3 =>
      ZI f_X8_value [vR 20 o0, vI x2, vI x4] ν3 (fun r6 ν5 =>
      (if r4 = r6 then
      (zin (x3 + 0) ∧ (zin (x4 + 1) ∧ ZW f_X8_differing 4 [vR 20 o0, vI x1, vI x2, vI (x3 + 0), vI (x4 + 1)] [] ν5 Q))
      else
      (zin (x3 + 1) ∧ (zin (x4 + 1) ∧ ZW f_X8_differing 4 [vR 20 o0, vI x1, vI x2, vI (x3 + 1), vI (x4 + 1)] [] ν5 Q)))))
    else
    Q (some (vI x3)) ν1))) :
    ZW f_X8_differing 4 [vR 20 o0, vI x1, vI x2, vI x3, vI x4] [] μ Q := mvc_at zcd zml (C := zc165) rfl 32 4 h
theorem vc_X8_difference_0 {μ : mzM} {Q : Option mzV → mzM → Prop} {o0 x1 x2 : Int} (h :
    ZI f_X8_isImage [vR 20 o0, vI x1] μ (fun r2 ν1 =>
    (if r2 = 0 then
    Q (some (vI (-1))) ν1
    else
    ZI f_X8_isImage [vR 20 o0, vI x2] ν1 (fun r4 ν3 =>
      (if r4 = 0 then
      Q (some (vI (-1))) ν3
      else
      ZI f_X8_isKnown [vR 20 o0, vI x1] ν3 (fun r6 ν5 =>
        (if r6 = 0 then
        Q (some (vI (-2))) ν5
        else
        ZI f_X8_isKnown [vR 20 o0, vI x2] ν5 (fun r8 ν7 =>
          (if r8 = 0 then
          Q (some (vI (-2))) ν7
          else
          ZI f_X8_differing [vR 20 o0, vI x1, vI x2] ν7 (fun r10 ν9 =>
            Q (some (vI r10)) ν9)))))))))) :
    ZW f_X8_difference 0 [vR 20 o0, vI x1, vI x2] [] μ Q := mvc_at zcd zml (C := zc166) rfl 30 0 h
theorem vc_X8_areAlike_0 {μ : mzM} {Q : Option mzV → mzM → Prop} {o0 x1 x2 x3 x4 x5 x6 : Int} (h :
    ZW f_X8_areAlike 4 [vR 20 o0, vI x1, vI x2, vI x3, vI x4, vI x5, vI x6, vI 1, vI 0] [] μ Q) :
    ZW f_X8_areAlike 0 [vR 20 o0, vI x1, vI x2, vI x3, vI x4, vI x5, vI x6, none, none] [] μ Q := mvc_at zcd zml (C := zc167) rfl 53 0 h
theorem vc_X8_areAlike_4 {μ : mzM} {Q : Option mzV → mzM → Prop} {o0 x1 x2 x3 x4 x5 x6 x7 x8 : Int} (h :
    (if x8 < 16 then
    (if x7 = 0 then
      (zin (x8 + 1) ∧ ZW f_X8_areAlike 4 [vR 20 o0, vI x1, vI x2, vI x3, vI x4, vI x5, vI x6, vI 0, vI (x8 + 1)] [] μ Q)
      else
      ((4 : Int) ≠ 0 ∧ (zin (x2 + (Int.tmod x8 4)) ∧ (((4 : Int) ≠ 0 ∧ zin (Int.tdiv x8 4)) ∧ (zin (x3 + (Int.tdiv x8 4)) ∧ ZI f_X8_place [vR 20 o0, vI (x2 + (Int.tmod x8 4)), vI (x3 + (Int.tdiv x8 4))] μ (fun r2 ν1 =>
        ZI f_X8_value [vR 20 o0, vI x1, vI r2] ν1 (fun r4 ν3 =>
        ((4 : Int) ≠ 0 ∧ (zin (x5 + (Int.tmod x8 4)) ∧ (((4 : Int) ≠ 0 ∧ zin (Int.tdiv x8 4)) ∧ (zin (x6 + (Int.tdiv x8 4)) ∧ ZI f_X8_place [vR 20 o0, vI (x5 + (Int.tmod x8 4)), vI (x6 + (Int.tdiv x8 4))] ν3 (fun r6 ν5 =>
        ZI f_X8_value [vR 20 o0, vI x4, vI r6] ν5 (fun r8 ν7 =>
        (if r4 = r8 then
        (zin (x8 + 1) ∧ ZW f_X8_areAlike 4 [vR 20 o0, vI x1, vI x2, vI x3, vI x4, vI x5, vI x6, vI 1, vI (x8 + 1)] [] ν7 Q)
        else
        (zin (x8 + 1) ∧ ZW f_X8_areAlike 4 [vR 20 o0, vI x1, vI x2, vI x3, vI x4, vI x5, vI x6, vI 0, vI (x8 + 1)] [] ν7 Q)))))))))))))))
    else
    Q (some (vI (x7 % 2))) μ)) :
    ZW f_X8_areAlike 4 [vR 20 o0, vI x1, vI x2, vI x3, vI x4, vI x5, vI x6, vI x7, vI x8] [] μ Q := mvc_at zcd zml (C := zc167) rfl 53 4 h
theorem vc_X8_findBlock_0 {μ : mzM} {Q : Option mzV → mzM → Prop} {o0 x1 x2 : Int} (h :
    ZI f_X8_isFrame [vR 20 o0, vI x1] μ (fun r2 ν1 =>
    (if r2 = 0 then
    Q (some (vI (-1))) ν1
    else
    ZI f_X8_isBlock [vR 20 o0, vI x2] ν1 (fun r4 ν3 =>
      (if r4 = 0 then
      Q (some (vI (-1))) ν3
      else
      ZI f_X8_isGood [vR 20 o0, vI x1] ν3 (fun r6 ν5 =>
        (if r6 = 0 then
        Q (some (vI (-2))) ν5
        else
        ZW f_X8_findBlock 18 [vR 20 o0, vI x1, vI x2, vI 0, none] [] ν5 Q))))))) :
    ZW f_X8_findBlock 0 [vR 20 o0, vI x1, vI x2, none, none] [] μ Q := mvc_at zcd zml (C := zc168) rfl 66 0 h
theorem vc_X8_findBlock_18 {μ : mzM} {Q : Option mzV → mzM → Prop} {o0 x1 x2 x3 : Int} {v4 : mzV} (h :
    ((0 ≤ (1 : Int) ∧ (1 : Int) < 1880) ∧ (zin ((μ 21 0 1) - 4) ∧ (if ((μ 21 0 1) - 4) < x3 then
    Q (some (vI (-9))) μ
    else
    ZW f_X8_findBlock 28 [vR 20 o0, vI x1, vI x2, vI x3, vI 0] [] μ Q)))) :
    ZW f_X8_findBlock 18 [vR 20 o0, vI x1, vI x2, vI x3, v4] [] μ Q := mvc_at zcd zml (C := zc168) rfl 66 18 h
theorem vc_X8_findBlock_28 {μ : mzM} {Q : Option mzV → mzM → Prop} {o0 x1 x2 x3 x4 : Int} (h :
    ((0 ≤ (0 : Int) ∧ (0 : Int) < 1880) ∧ (zin ((μ 21 0 0) - 4) ∧ (if ((μ 21 0 0) - 4) < x4 then
    (zin (x3 + 1) ∧ ZW f_X8_findBlock 18 [vR 20 o0, vI x1, vI x2, vI (x3 + 1), vI x4] [] μ Q)
    else
    ZI f_X8_left [vR 20 o0, vI x2] μ (fun r2 ν1 =>
      ZI f_X8_top [vR 20 o0, vI x2] ν1 (fun r4 ν3 =>
      ZI f_X8_areAlike [vR 20 o0, vI (-1), vI r2, vI r4, vI x1, vI x4, vI x3] ν3 (fun r6 ν5 =>
      (if r6 = 0 then
      (zin (x4 + 1) ∧ ZW f_X8_findBlock 28 [vR 20 o0, vI x1, vI x2, vI x3, vI (x4 + 1)] [] ν5 Q)
      else
      (zin (100 * x4) ∧ (zin ((100 * x4) + x3) ∧ Q (some (vI ((100 * x4) + x3))) ν5)))))))))) :
    ZW f_X8_findBlock 28 [vR 20 o0, vI x1, vI x2, vI x3, vI x4] [] μ Q := mvc_at zcd zml (C := zc168) rfl 66 28 h
theorem vc_X8_falseMatches_0 {μ : mzM} {Q : Option mzV → mzM → Prop} {o0 x1 : Int} (h :
    ZI f_X8_isImage [vR 20 o0, vI x1] μ (fun r2 ν1 =>
    (if r2 = 0 then
    Q (some (vI (-1))) ν1
    else
    ZI f_X8_isKnown [vR 20 o0, vI x1] ν1 (fun r4 ν3 =>
      (if r4 = 0 then
      Q (some (vI (-2))) ν3
      else
      ((0 ≤ (0 : Int) ∧ (0 : Int) < 1880) ∧ (zin ((ν3 21 0 0) - 3) ∧ ((0 ≤ (1 : Int) ∧ (1 : Int) < 1880) ∧ (zin ((ν3 21 0 1) - 3) ∧ (zin (((ν3 21 0 0) - 3) * ((ν3 21 0 1) - 3)) ∧ ZW f_X8_falseMatches 32 [vR 20 o0, vI x1, vI ((ν3 21 0 0) - 3), vI (((ν3 21 0 0) - 3) * ((ν3 21 0 1) - 3)), vI 0, vI 0, none, none] [] ν3 Q)))))))))) :
    ZW f_X8_falseMatches 0 [vR 20 o0, vI x1, none, none, none, none, none, none] [] μ Q := mvc_at zcd zml (C := zc169) rfl 102 0 h
theorem vc_X8_falseMatches_32 {μ : mzM} {Q : Option mzV → mzM → Prop} {o0 x1 x2 x3 x4 x5 : Int} {v6 v7 : mzV} (h :
    (if x5 < x3 then
    (x2 ≠ 0 ∧ ((x2 ≠ 0 ∧ zin (Int.tdiv x5 x2)) ∧ ZI f_X8_digestOf [vR 20 o0, vI x1, vI (Int.tmod x5 x2), vI (Int.tdiv x5 x2)] μ (fun r2 ν1 =>
      ((0 ≤ x5 ∧ x5 < 81) ∧ ZW f_X8_falseMatches 50 [vR 20 o0, vI x1, vI x2, vI x3, vI x4, vI x5, vI 0, v7] [] (mup ν1 29 0 x5 r2) Q))))
    else
    Q (some (vI x4)) μ)) :
    ZW f_X8_falseMatches 32 [vR 20 o0, vI x1, vI x2, vI x3, vI x4, vI x5, v6, v7] [] μ Q := mvc_at zcd zml (C := zc169) rfl 102 32 h
theorem vc_X8_falseMatches_50 {μ : mzM} {Q : Option mzV → mzM → Prop} {o0 x1 x2 x3 x4 x5 x6 : Int} {v7 : mzV} (h :
    (if x6 < x5 then
    ((0 ≤ x6 ∧ x6 < 81) ∧ ((0 ≤ x5 ∧ x5 < 81) ∧ (if (μ 29 0 x6) = (μ 29 0 x5) then
      (x2 ≠ 0 ∧ ((x2 ≠ 0 ∧ zin (Int.tdiv x5 x2)) ∧ (x2 ≠ 0 ∧ ((x2 ≠ 0 ∧ zin (Int.tdiv x6 x2)) ∧ ZI f_X8_areAlike [vR 20 o0, vI x1, vI (Int.tmod x5 x2), vI (Int.tdiv x5 x2), vI x1, vI (Int.tmod x6 x2), vI (Int.tdiv x6 x2)] μ (fun r2 ν1 =>
        (if r2 = 0 then
        (zin (x4 + 1) ∧ (zin (x6 + 1) ∧ ZW f_X8_falseMatches 50 [vR 20 o0, vI x1, vI x2, vI x3, vI (x4 + 1), vI x5, vI (x6 + 1), vI 1] [] ν1 Q))
        else
        (zin (x4 + 0) ∧ (zin (x6 + 1) ∧ ZW f_X8_falseMatches 50 [vR 20 o0, vI x1, vI x2, vI x3, vI (x4 + 0), vI x5, vI (x6 + 1), vI 0] [] ν1 Q))))))))
      else
      (zin (x4 + 0) ∧ (zin (x6 + 1) ∧ ZW f_X8_falseMatches 50 [vR 20 o0, vI x1, vI x2, vI x3, vI (x4 + 0), vI x5, vI (x6 + 1), vI 0] [] μ Q)))))
    else
    (zin (x5 + 1) ∧ ZW f_X8_falseMatches 32 [vR 20 o0, vI x1, vI x2, vI x3, vI x4, vI (x5 + 1), vI x6, v7] [] μ Q))) :
    ZW f_X8_falseMatches 50 [vR 20 o0, vI x1, vI x2, vI x3, vI x4, vI x5, vI x6, v7] [] μ Q := mvc_at zcd zml (C := zc169) rfl 102 50 h
theorem vc_X8_greatestSeek_0 {μ : mzM} {Q : Option mzV → mzM → Prop} {o0 : Int} (h :
    ZW f_X8_greatestSeek 4 [vR 20 o0, vI (-9), vI 0] [] μ Q) :
    ZW f_X8_greatestSeek 0 [vR 20 o0, none, none] [] μ Q := mvc_at zcd zml (C := zc170) rfl 30 0 h
theorem vc_X8_greatestSeek_4 {μ : mzM} {Q : Option mzV → mzM → Prop} {o0 x1 x2 : Int} (h :
    ((0 ≤ (2 : Int) ∧ (2 : Int) < 1880) ∧ (if x2 < (μ 21 0 2) then
    ZI f_X8_seekOf [vR 20 o0, vI x2] μ (fun r2 ν1 =>
      (if x1 < r2 then
      ZI f_X8_seekOf [vR 20 o0, vI x2] ν1 (fun r4 ν3 =>
        (zin (x2 + 1) ∧ ZW f_X8_greatestSeek 4 [vR 20 o0, vI r4, vI (x2 + 1)] [] ν3 Q))
      else
      (zin (x2 + 1) ∧ ZW f_X8_greatestSeek 4 [vR 20 o0, vI x1, vI (x2 + 1)] [] ν1 Q)))
    else
    Q (some (vI x1)) μ))) :
    ZW f_X8_greatestSeek 4 [vR 20 o0, vI x1, vI x2] [] μ Q := mvc_at zcd zml (C := zc170) rfl 30 4 h
theorem vc_X8_isInChain_0 {μ : mzM} {Q : Option mzV → mzM → Prop} {o0 x1 x2 : Int} (h :
    ZW f_X8_isInChain 2 [vR 20 o0, vI x1, vI x2, vI x2] [] μ Q) :
    ZW f_X8_isInChain 0 [vR 20 o0, vI x1, vI x2, none] [] μ Q := mvc_at zcd zml (C := zc171) rfl 27 0 h
theorem vc_X8_isInChain_2 {μ : mzM} {Q : Option mzV → mzM → Prop} {o0 x1 x2 x3 : Int} (h :
    (if x3 = x1 then
    (if x3 = x1 then
      Q (some (vI 1)) μ
      else
      Q (some (vI 0)) μ)
    else
    ZI f_X8_reference [vR 20 o0, vI x3] μ (fun r2 ν1 =>
      (if r2 = (-1) then
      (if x3 = x1 then
        Q (some (vI 1)) ν1
        else
        Q (some (vI 0)) ν1)
      else
      ZI f_X8_reference [vR 20 o0, vI x3] ν1 (fun r4 ν3 =>
        ZW f_X8_isInChain 2 [vR 20 o0, vI x1, vI x2, vI r4] [] ν3 Q))))) :
    ZW f_X8_isInChain 2 [vR 20 o0, vI x1, vI x2, vI x3] [] μ Q := mvc_at zcd zml (C := zc171) rfl 27 2 h
theorem vc_X8_dependents_0 {μ : mzM} {Q : Option mzV → mzM → Prop} {o0 x1 : Int} (h :
    ZI f_X8_isFrame [vR 20 o0, vI x1] μ (fun r2 ν1 =>
    (if r2 = 0 then
    Q (some (vI (-1))) ν1
    else
    ZW f_X8_dependents 10 [vR 20 o0, vI x1, vI 0, vI 0] [] ν1 Q))) :
    ZW f_X8_dependents 0 [vR 20 o0, vI x1, none, none] [] μ Q := mvc_at zcd zml (C := zc172) rfl 36 0 h
theorem vc_X8_dependents_10 {μ : mzM} {Q : Option mzV → mzM → Prop} {o0 x1 x2 x3 : Int} (h :
    ((0 ≤ (2 : Int) ∧ (2 : Int) < 1880) ∧ (if x3 < (μ 21 0 2) then
    ZI f_X8_isInChain [vR 20 o0, vI x1, vI x3] μ (fun r2 ν1 =>
      (if r2 = 0 then
      (zin (x2 + 0) ∧ (zin (x3 + 1) ∧ ZW f_X8_dependents 10 [vR 20 o0, vI x1, vI (x2 + 0), vI (x3 + 1)] [] ν1 Q))
      else
      (zin (x2 + 1) ∧ (zin (x3 + 1) ∧ ZW f_X8_dependents 10 [vR 20 o0, vI x1, vI (x2 + 1), vI (x3 + 1)] [] ν1 Q))))
    else
    Q (some (vI x2)) μ))) :
    ZW f_X8_dependents 10 [vR 20 o0, vI x1, vI x2, vI x3] [] μ Q := mvc_at zcd zml (C := zc172) rfl 36 10 h
theorem vc_X8_patch_0 {μ : mzM} {Q : Option mzV → mzM → Prop} {o0 x1 : Int} (h :
    ZI f_X8_isFrame [vR 20 o0, vI x1] μ (fun r2 ν1 =>
    (if r2 = 0 then
    Q (some (vI (-1))) ν1
    else
    (zin (1600 + x1) ∧ ((0 ≤ (1600 + x1) ∧ (1600 + x1) < 1880) ∧ (if (ν1 21 0 (1600 + x1)) = 0 then
      Q (some (vI (-2))) ν1
      else
      ZW f_X8_patch 19 [vR 20 o0, vI x1, vI (-9), vI 0, none] [] ν1 Q)))))) :
    ZW f_X8_patch 0 [vR 20 o0, vI x1, none, none, none] [] μ Q := mvc_at zcd zml (C := zc173) rfl 60 0 h
theorem vc_X8_patch_19 {μ : mzM} {Q : Option mzV → mzM → Prop} {o0 x1 x2 x3 : Int} {v4 : mzV} (h :
    ((0 ≤ (2 : Int) ∧ (2 : Int) < 1880) ∧ (if x3 < (μ 21 0 2) then
    ZI f_X8_isGood [vR 20 o0, vI x3] μ (fun r2 ν1 =>
      (if r2 = 0 then
      (zin (x3 + 1) ∧ ZW f_X8_patch 19 [vR 20 o0, vI x1, vI x2, vI (x3 + 1), vI 0] [] ν1 Q)
      else
      (if x2 = (-9) then
        (zin (x3 + 1) ∧ ZW f_X8_patch 19 [vR 20 o0, vI x1, vI x3, vI (x3 + 1), vI 1] [] ν1 Q)
        else
        ZI f_X8_differing [vR 20 o0, vI x1, vI x3] ν1 (fun r4 ν3 =>
          ZI f_X8_differing [vR 20 o0, vI x1, vI x2] ν3 (fun r6 ν5 =>
          (if r4 < r6 then
          (zin (x3 + 1) ∧ ZW f_X8_patch 19 [vR 20 o0, vI x1, vI x3, vI (x3 + 1), vI 1] [] ν5 Q)
          else
          (zin (x3 + 1) ∧ ZW f_X8_patch 19 [vR 20 o0, vI x1, vI x2, vI (x3 + 1), vI 0] [] ν5 Q)))))))
    else
    Q (some (vI x2)) μ))) :
    ZW f_X8_patch 19 [vR 20 o0, vI x1, vI x2, vI x3, v4] [] μ Q := mvc_at zcd zml (C := zc173) rfl 60 19 h
theorem vc_J6_bitCount_0f7a4_0 {μ : mzM} {Q : Option mzV → mzM → Prop} {x0 : Int} (h :
    (zin (x0 - (zand (zushr x0 1) 1431655765)) ∧ (zin ((zand (x0 - (zand (zushr x0 1) 1431655765)) 858993459) + (zand (zushr (x0 - (zand (zushr x0 1) 1431655765)) 2) 858993459)) ∧ (zin (((zand (x0 - (zand (zushr x0 1) 1431655765)) 858993459) + (zand (zushr (x0 - (zand (zushr x0 1) 1431655765)) 2) 858993459)) + (zushr ((zand (x0 - (zand (zushr x0 1) 1431655765)) 858993459) + (zand (zushr (x0 - (zand (zushr x0 1) 1431655765)) 2) 858993459)) 4)) ∧ (zin ((zand (((zand (x0 - (zand (zushr x0 1) 1431655765)) 858993459) + (zand (zushr (x0 - (zand (zushr x0 1) 1431655765)) 2) 858993459)) + (zushr ((zand (x0 - (zand (zushr x0 1) 1431655765)) 858993459) + (zand (zushr (x0 - (zand (zushr x0 1) 1431655765)) 2) 858993459)) 4)) 252645135) + (zushr (zand (((zand (x0 - (zand (zushr x0 1) 1431655765)) 858993459) + (zand (zushr (x0 - (zand (zushr x0 1) 1431655765)) 2) 858993459)) + (zushr ((zand (x0 - (zand (zushr x0 1) 1431655765)) 858993459) + (zand (zushr (x0 - (zand (zushr x0 1) 1431655765)) 2) 858993459)) 4)) 252645135) 8)) ∧ (zin (((zand (((zand (x0 - (zand (zushr x0 1) 1431655765)) 858993459) + (zand (zushr (x0 - (zand (zushr x0 1) 1431655765)) 2) 858993459)) + (zushr ((zand (x0 - (zand (zushr x0 1) 1431655765)) 858993459) + (zand (zushr (x0 - (zand (zushr x0 1) 1431655765)) 2) 858993459)) 4)) 252645135) + (zushr (zand (((zand (x0 - (zand (zushr x0 1) 1431655765)) 858993459) + (zand (zushr (x0 - (zand (zushr x0 1) 1431655765)) 2) 858993459)) + (zushr ((zand (x0 - (zand (zushr x0 1) 1431655765)) 858993459) + (zand (zushr (x0 - (zand (zushr x0 1) 1431655765)) 2) 858993459)) 4)) 252645135) 8)) + (zushr ((zand (((zand (x0 - (zand (zushr x0 1) 1431655765)) 858993459) + (zand (zushr (x0 - (zand (zushr x0 1) 1431655765)) 2) 858993459)) + (zushr ((zand (x0 - (zand (zushr x0 1) 1431655765)) 858993459) + (zand (zushr (x0 - (zand (zushr x0 1) 1431655765)) 2) 858993459)) 4)) 252645135) + (zushr (zand (((zand (x0 - (zand (zushr x0 1) 1431655765)) 858993459) + (zand (zushr (x0 - (zand (zushr x0 1) 1431655765)) 2) 858993459)) + (zushr ((zand (x0 - (zand (zushr x0 1) 1431655765)) 858993459) + (zand (zushr (x0 - (zand (zushr x0 1) 1431655765)) 2) 858993459)) 4)) 252645135) 8)) 16)) ∧ Q (some (vI (zand (((zand (((zand (x0 - (zand (zushr x0 1) 1431655765)) 858993459) + (zand (zushr (x0 - (zand (zushr x0 1) 1431655765)) 2) 858993459)) + (zushr ((zand (x0 - (zand (zushr x0 1) 1431655765)) 858993459) + (zand (zushr (x0 - (zand (zushr x0 1) 1431655765)) 2) 858993459)) 4)) 252645135) + (zushr (zand (((zand (x0 - (zand (zushr x0 1) 1431655765)) 858993459) + (zand (zushr (x0 - (zand (zushr x0 1) 1431655765)) 2) 858993459)) + (zushr ((zand (x0 - (zand (zushr x0 1) 1431655765)) 858993459) + (zand (zushr (x0 - (zand (zushr x0 1) 1431655765)) 2) 858993459)) 4)) 252645135) 8)) + (zushr ((zand (((zand (x0 - (zand (zushr x0 1) 1431655765)) 858993459) + (zand (zushr (x0 - (zand (zushr x0 1) 1431655765)) 2) 858993459)) + (zushr ((zand (x0 - (zand (zushr x0 1) 1431655765)) 858993459) + (zand (zushr (x0 - (zand (zushr x0 1) 1431655765)) 2) 858993459)) 4)) 252645135) + (zushr (zand (((zand (x0 - (zand (zushr x0 1) 1431655765)) 858993459) + (zand (zushr (x0 - (zand (zushr x0 1) 1431655765)) 2) 858993459)) + (zushr ((zand (x0 - (zand (zushr x0 1) 1431655765)) 858993459) + (zand (zushr (x0 - (zand (zushr x0 1) 1431655765)) 2) 858993459)) 4)) 252645135) 8)) 16)) 63))) μ)))))) :
    ZW f_J6_bitCount_0f7a4 0 [vI x0] [] μ Q := mvc_at zcd zml (C := zc174) rfl 47 0 h
theorem vc_J9_abs_0f7a4_0 {μ : mzM} {Q : Option mzV → mzM → Prop} {x0 : Int} (h :
    (if x0 < 0 then
    Q (some (vI (zw (-x0)))) μ
    else
    Q (some (vI x0)) μ)) :
    ZW f_J9_abs_0f7a4 0 [vI x0] [] μ Q := mvc_at zcd zml (C := zc175) rfl 12 0 h
theorem vc_J9_max_7cf53_0 {μ : mzM} {Q : Option mzV → mzM → Prop} {x0 x1 : Int} (h :
    (if x0 < x1 then
    Q (some (vI x1)) μ
    else
    Q (some (vI x0)) μ)) :
    ZW f_J9_max_7cf53 0 [vI x0, vI x1] [] μ Q := mvc_at zcd zml (C := zc176) rfl 12 0 h
theorem vc_J9_min_7cf53_0 {μ : mzM} {Q : Option mzV → mzM → Prop} {x0 x1 : Int} (h :
    (if x1 < x0 then
    Q (some (vI x1)) μ
    else
    Q (some (vI x0)) μ)) :
    ZW f_J9_min_7cf53 0 [vI x0, vI x1] [] μ Q := mvc_at zcd zml (C := zc177) rfl 12 0 h
theorem vc_J0_length_8abf5_0 {μ : mzM} {Q : Option mzV → mzM → Prop} {o0 : Int} (h :
    ZI f_J0_coder_7d493 [vR 30 o0] μ (fun r2 ν1 =>
    Q (some (vI (zshr (zlen 31 o0 μ) r2))) ν1)) :
    ZW f_J0_length_8abf5 0 [vR 30 o0] [] μ Q := mvc_at zcd zml (C := zc178) rfl 12 0 h
theorem vc_J0_charAt_5068e_0 {μ : mzM} {Q : Option mzV → mzM → Prop} {o0 x1 : Int} (h :
    ZI f_J0_isLatin1_aae02 [vR 30 o0] μ (fun r2 ν1 =>
    (if r2 = 0 then
    False
    else
    ZI f_J1_charAt_3b067 [vR 31 o0, vI x1] ν1 (fun r4 ν3 =>
      Q (some (vI (r4 % 65536))) ν3)))) :
    ZW f_J0_charAt_5068e 0 [vR 30 o0, vI x1] [] μ Q := mvc_at zcd zml (C := zc179) rfl 18 0 h
theorem vc_J0_coder_7d493_0 {μ : mzM} {Q : Option mzV → mzM → Prop} {o0 : Int} (h :
    Q (some (vI (zb 0))) μ) :
    ZW f_J0_coder_7d493 0 [vR 30 o0] [] μ Q := mvc_at zcd zml (C := zc180) rfl 12 0 h
theorem vc_J0_isLatin1_aae02_0 {μ : mzM} {Q : Option mzV → mzM → Prop} {o0 : Int} (h :
    Q (some (vI 1)) μ) :
    ZW f_J0_isLatin1_aae02 0 [vR 30 o0] [] μ Q := mvc_at zcd zml (C := zc181) rfl 14 0 h
theorem vc_J0_checkIndex_df160_0 {μ : mzM} {Q : Option mzV → mzM → Prop} {x0 x1 : Int} (h :
    ZI f_J3_checkIndex_8e157 [vI x0, vI x1, vR 98 0] μ (fun r2 ν1 =>
    Q none ν1)) :
    ZW f_J0_checkIndex_df160 0 [vI x0, vI x1] [] μ Q := mvc_at zcd zml (C := zc182) rfl 11 0 h
theorem vc_J1_charAt_3b067_0 {μ : mzM} {Q : Option mzV → mzM → Prop} {o0 x1 : Int} (h :
    ZV f_J0_checkIndex_df160 [vI x1, vI (zlen 31 o0 μ)] μ (fun ν1 =>
    ((0 ≤ x1 ∧ x1 < (zlen 31 o0 ν1)) ∧ Q (some (vI (((zand (zchr o0 x1) 255) % 65536) % 65536))) ν1))) :
    ZW f_J1_charAt_3b067 0 [vR 31 o0, vI x1] [] μ Q := mvc_at zcd zml (C := zc183) rfl 16 0 h
theorem vc_J3_checkIndex_8e157_0 {μ : mzM} {Q : Option mzV → mzM → Prop} {o2 x0 x1 : Int} (h :
    (if x0 < 0 then
    False
    else
    (if x0 < x1 then
      Q (some (vI x0)) μ
      else
      False))) :
    ZW f_J3_checkIndex_8e157 0 [vI x0, vI x1, vR 98 o2] [] μ Q := mvc_at zcd zml (C := zc184) rfl 17 0 h
