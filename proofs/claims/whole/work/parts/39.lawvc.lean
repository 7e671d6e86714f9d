set_option maxRecDepth 100000 in
theorem vc_L_law_8 {μ : mzM} {Q : Option mzV → mzM → Prop} {o0 o1 o2 : Int} (h :
    ZW f_L_law 10 [vR 32 o0, vR 0 o1, vR 20 o2, vI 0] [] μ Q) :
    ZW f_L_law 8 [vR 32 o0, vR 0 o1, vR 20 o2, none] [] μ Q := mvc_at zcd zml (C := zc185) rfl 584 8 h
set_option maxRecDepth 100000 in
theorem vc_L_law_10 {μ : mzM} {Q : Option mzV → mzM → Prop} {o0 o1 o2 x3 : Int} (h :
    (zin ((μ 33 0 1) - 5) ∧ (if ((μ 33 0 1) - 5) < x3 then
    Q (some (vI 1)) μ
    else
    ((0 ≤ x3 ∧ x3 < (μ 33 0 1)) ∧ (if (zand (μ 32 o0 x3) 31) = 0 then
      ZW f_L_law 22 [vR 32 o0, vR 0 o1, vR 20 o2, vI x3] [] μ Q
      else
      (if (zand (μ 32 o0 x3) 31) = 1 then
      ZW f_L_law 49 [vR 32 o0, vR 0 o1, vR 20 o2, vI x3] [] μ Q
      else
      (if (zand (μ 32 o0 x3) 31) = 2 then
      ZW f_L_law 76 [vR 32 o0, vR 0 o1, vR 20 o2, vI x3] [] μ Q
      else
      (if (zand (μ 32 o0 x3) 31) = 3 then
      ZW f_L_law 93 [vR 32 o0, vR 0 o1, vR 20 o2, vI x3] [] μ Q
      else
      (if (zand (μ 32 o0 x3) 31) = 4 then
      ZW f_L_law 110 [vR 32 o0, vR 0 o1, vR 20 o2, vI x3] [] μ Q
      else
      (if (zand (μ 32 o0 x3) 31) = 5 then
      ZW f_L_law 117 [vR 32 o0, vR 0 o1, vR 20 o2, vI x3] [] μ Q
      else
      (if (zand (μ 32 o0 x3) 31) = 6 then
      ZW f_L_law 124 [vR 32 o0, vR 0 o1, vR 20 o2, vI x3] [] μ Q
      else
      (if (zand (μ 32 o0 x3) 31) = 7 then
      ZW f_L_law 161 [vR 32 o0, vR 0 o1, vR 20 o2, vI x3] [] μ Q
      else
      (if (zand (μ 32 o0 x3) 31) = 8 then
      ZW f_L_law 168 [vR 32 o0, vR 0 o1, vR 20 o2, vI x3] [] μ Q
      else
      (if (zand (μ 32 o0 x3) 31) = 9 then
      ZW f_L_law 185 [vR 32 o0, vR 0 o1, vR 20 o2, vI x3] [] μ Q
      else
      (if (zand (μ 32 o0 x3) 31) = 10 then
      ZW f_L_law 192 [vR 32 o0, vR 0 o1, vR 20 o2, vI x3] [] μ Q
      else
      (if (zand (μ 32 o0 x3) 31) = 11 then
      ZW f_L_law 199 [vR 32 o0, vR 0 o1, vR 20 o2, vI x3] [] μ Q
      else
      (if (zand (μ 32 o0 x3) 31) = 12 then
      ZW f_L_law 206 [vR 32 o0, vR 0 o1, vR 20 o2, vI x3] [] μ Q
      else
      (if (zand (μ 32 o0 x3) 31) = 13 then
      ZW f_L_law 243 [vR 32 o0, vR 0 o1, vR 20 o2, vI x3] [] μ Q
      else
      (if (zand (μ 32 o0 x3) 31) = 14 then
      ZW f_L_law 270 [vR 32 o0, vR 0 o1, vR 20 o2, vI x3] [] μ Q
      else
      (if (zand (μ 32 o0 x3) 31) = 15 then
      ZW f_L_law 297 [vR 32 o0, vR 0 o1, vR 20 o2, vI x3] [] μ Q
      else
      (if (zand (μ 32 o0 x3) 31) = 16 then
      ZW f_L_law 334 [vR 32 o0, vR 0 o1, vR 20 o2, vI x3] [] μ Q
      else
      (if (zand (μ 32 o0 x3) 31) = 17 then
      ZW f_L_law 381 [vR 32 o0, vR 0 o1, vR 20 o2, vI x3] [] μ Q
      else
      (if (zand (μ 32 o0 x3) 31) = 18 then
      ZW f_L_law 408 [vR 32 o0, vR 0 o1, vR 20 o2, vI x3] [] μ Q
      else
      (if (zand (μ 32 o0 x3) 31) = 19 then
      ZW f_L_law 425 [vR 32 o0, vR 0 o1, vR 20 o2, vI x3] [] μ Q
      else
      (if (zand (μ 32 o0 x3) 31) = 20 then
      ZW f_L_law 442 [vR 32 o0, vR 0 o1, vR 20 o2, vI x3] [] μ Q
      else
      (if (zand (μ 32 o0 x3) 31) = 21 then
      ZW f_L_law 469 [vR 32 o0, vR 0 o1, vR 20 o2, vI x3] [] μ Q
      else
      (if (zand (μ 32 o0 x3) 31) = 22 then
      ZW f_L_law 496 [vR 32 o0, vR 0 o1, vR 20 o2, vI x3] [] μ Q
      else
      (if (zand (μ 32 o0 x3) 31) = 23 then
      ZW f_L_law 513 [vR 32 o0, vR 0 o1, vR 20 o2, vI x3] [] μ Q
      else
      (if (zand (μ 32 o0 x3) 31) = 24 then
      ZW f_L_law 520 [vR 32 o0, vR 0 o1, vR 20 o2, vI x3] [] μ Q
      else
      (if (zand (μ 32 o0 x3) 31) = 25 then
      ZW f_L_law 537 [vR 32 o0, vR 0 o1, vR 20 o2, vI x3] [] μ Q
      else
      (if (zand (μ 32 o0 x3) 31) = 26 then
      ZW f_L_law 554 [vR 32 o0, vR 0 o1, vR 20 o2, vI x3] [] μ Q
      else
      (if (zand (μ 32 o0 x3) 31) = 27 then
      ZW f_L_law 561 [vR 32 o0, vR 0 o1, vR 20 o2, vI x3] [] μ Q
      else
      (if (zand (μ 32 o0 x3) 31) = 28 then
      ZW f_L_law 568 [vR 32 o0, vR 0 o1, vR 20 o2, vI x3] [] μ Q
      else
      (zin (x3 + 5) ∧ ZW f_L_law 10 [vR 32 o0, vR 0 o1, vR 20 o2, vI (x3 + 5)] [] μ Q)))))))))))))))))))))))))))))))))) :
    ZW f_L_law 10 [vR 32 o0, vR 0 o1, vR 20 o2, vI x3] [] μ Q := mvc_at zcd zml (C := zc185) rfl 584 10 h
set_option maxRecDepth 100000 in
theorem vc_L_law_22 {μ : mzM} {Q : Option mzV → mzM → Prop} {o0 o1 o2 x3 : Int} (h :
    (zin (x3 + 1) ∧ ((0 ≤ (x3 + 1) ∧ (x3 + 1) < (μ 33 0 1)) ∧ (zin (x3 + 2) ∧ ((0 ≤ (x3 + 2) ∧ (x3 + 2) < (μ 33 0 1)) ∧ ZI f_X7_setSize [vR 0 o1, vI (μ 32 o0 (x3 + 1)), vI (μ 32 o0 (x3 + 2))] μ (fun r2 ν1 =>
    (zin (x3 + 1) ∧ ((0 ≤ (x3 + 1) ∧ (x3 + 1) < (ν1 33 0 1)) ∧ (zin (x3 + 2) ∧ ((0 ≤ (x3 + 2) ∧ (x3 + 2) < (ν1 33 0 1)) ∧ ZI f_X8_setSize [vR 20 o2, vI (ν1 32 o0 (x3 + 1)), vI (ν1 32 o0 (x3 + 2))] ν1 (fun r4 ν3 =>
    (if r2 = r4 then
    (zin (x3 + 5) ∧ ZW f_L_law 10 [vR 32 o0, vR 0 o1, vR 20 o2, vI (x3 + 5)] [] ν3 Q)
    else
    Q (some (vI 0)) ν3)))))))))))) :
    ZW f_L_law 22 [vR 32 o0, vR 0 o1, vR 20 o2, vI x3] [] μ Q := mvc_at zcd zml (C := zc185) rfl 584 22 h
set_option maxRecDepth 100000 in
theorem vc_L_law_49 {μ : mzM} {Q : Option mzV → mzM → Prop} {o0 o1 o2 x3 : Int} (h :
    (zin (x3 + 1) ∧ ((0 ≤ (x3 + 1) ∧ (x3 + 1) < (μ 33 0 1)) ∧ (zin (x3 + 2) ∧ ((0 ≤ (x3 + 2) ∧ (x3 + 2) < (μ 33 0 1)) ∧ ZI f_X7_setCell [vR 0 o1, vI (μ 32 o0 (x3 + 1)), vI (μ 32 o0 (x3 + 2))] μ (fun r2 ν1 =>
    (zin (x3 + 1) ∧ ((0 ≤ (x3 + 1) ∧ (x3 + 1) < (ν1 33 0 1)) ∧ (zin (x3 + 2) ∧ ((0 ≤ (x3 + 2) ∧ (x3 + 2) < (ν1 33 0 1)) ∧ ZI f_X8_setCell [vR 20 o2, vI (ν1 32 o0 (x3 + 1)), vI (ν1 32 o0 (x3 + 2))] ν1 (fun r4 ν3 =>
    (if r2 = r4 then
    (zin (x3 + 5) ∧ ZW f_L_law 10 [vR 32 o0, vR 0 o1, vR 20 o2, vI (x3 + 5)] [] ν3 Q)
    else
    Q (some (vI 0)) ν3)))))))))))) :
    ZW f_L_law 49 [vR 32 o0, vR 0 o1, vR 20 o2, vI x3] [] μ Q := mvc_at zcd zml (C := zc185) rfl 584 49 h
set_option maxRecDepth 100000 in
theorem vc_L_law_76 {μ : mzM} {Q : Option mzV → mzM → Prop} {o0 o1 o2 x3 : Int} (h :
    (zin (x3 + 1) ∧ ((0 ≤ (x3 + 1) ∧ (x3 + 1) < (μ 33 0 1)) ∧ ZI f_X7_cell [vR 0 o1, vI (μ 32 o0 (x3 + 1))] μ (fun r2 ν1 =>
    (zin (x3 + 1) ∧ ((0 ≤ (x3 + 1) ∧ (x3 + 1) < (ν1 33 0 1)) ∧ ZI f_X8_cell [vR 20 o2, vI (ν1 32 o0 (x3 + 1))] ν1 (fun r4 ν3 =>
    (if r2 = r4 then
    (zin (x3 + 5) ∧ ZW f_L_law 10 [vR 32 o0, vR 0 o1, vR 20 o2, vI (x3 + 5)] [] ν3 Q)
    else
    Q (some (vI 0)) ν3)))))))) :
    ZW f_L_law 76 [vR 32 o0, vR 0 o1, vR 20 o2, vI x3] [] μ Q := mvc_at zcd zml (C := zc185) rfl 584 76 h
set_option maxRecDepth 100000 in
theorem vc_L_law_93 {μ : mzM} {Q : Option mzV → mzM → Prop} {o0 o1 o2 x3 : Int} (h :
    (zin (x3 + 1) ∧ ((0 ≤ (x3 + 1) ∧ (x3 + 1) < (μ 33 0 1)) ∧ ZI f_X7_appendCharacter [vR 0 o1, vI (μ 32 o0 (x3 + 1))] μ (fun r2 ν1 =>
    (zin (x3 + 1) ∧ ((0 ≤ (x3 + 1) ∧ (x3 + 1) < (ν1 33 0 1)) ∧ ZI f_X8_appendCharacter [vR 20 o2, vI (ν1 32 o0 (x3 + 1))] ν1 (fun r4 ν3 =>
    (if r2 = r4 then
    (zin (x3 + 5) ∧ ZW f_L_law 10 [vR 32 o0, vR 0 o1, vR 20 o2, vI (x3 + 5)] [] ν3 Q)
    else
    Q (some (vI 0)) ν3)))))))) :
    ZW f_L_law 93 [vR 32 o0, vR 0 o1, vR 20 o2, vI x3] [] μ Q := mvc_at zcd zml (C := zc185) rfl 584 93 h
set_option maxRecDepth 100000 in
theorem vc_L_law_110 {μ : mzM} {Q : Option mzV → mzM → Prop} {o0 o1 o2 x3 : Int} (h :
    ZI f_X7_clearText [vR 0 o1] μ (fun r2 ν1 =>
    ZI f_X8_clearText [vR 20 o2] ν1 (fun r4 ν3 =>
    (if r2 = r4 then
    (zin (x3 + 5) ∧ ZW f_L_law 10 [vR 32 o0, vR 0 o1, vR 20 o2, vI (x3 + 5)] [] ν3 Q)
    else
    Q (some (vI 0)) ν3)))) :
    ZW f_L_law 110 [vR 32 o0, vR 0 o1, vR 20 o2, vI x3] [] μ Q := mvc_at zcd zml (C := zc185) rfl 584 110 h
set_option maxRecDepth 100000 in
theorem vc_L_law_117 {μ : mzM} {Q : Option mzV → mzM → Prop} {o0 o1 o2 x3 : Int} (h :
    ZI f_X7_draw [vR 0 o1] μ (fun r2 ν1 =>
    ZI f_X8_draw [vR 20 o2] ν1 (fun r4 ν3 =>
    (if r2 = r4 then
    (zin (x3 + 5) ∧ ZW f_L_law 10 [vR 32 o0, vR 0 o1, vR 20 o2, vI (x3 + 5)] [] ν3 Q)
    else
    Q (some (vI 0)) ν3)))) :
    ZW f_L_law 117 [vR 32 o0, vR 0 o1, vR 20 o2, vI x3] [] μ Q := mvc_at zcd zml (C := zc185) rfl 584 117 h
set_option maxRecDepth 100000 in
theorem vc_L_law_124 {μ : mzM} {Q : Option mzV → mzM → Prop} {o0 o1 o2 x3 : Int} (h :
    (zin (x3 + 1) ∧ ((0 ≤ (x3 + 1) ∧ (x3 + 1) < (μ 33 0 1)) ∧ (zin (x3 + 2) ∧ ((0 ≤ (x3 + 2) ∧ (x3 + 2) < (μ 33 0 1)) ∧ (zin (x3 + 3) ∧ ((0 ≤ (x3 + 3) ∧ (x3 + 3) < (μ 33 0 1)) ∧ ZI f_X7_digest [vR 0 o1, vI (μ 32 o0 (x3 + 1)), vI (μ 32 o0 (x3 + 2)), vI (μ 32 o0 (x3 + 3))] μ (fun r2 ν1 =>
    (zin (x3 + 1) ∧ ((0 ≤ (x3 + 1) ∧ (x3 + 1) < (ν1 33 0 1)) ∧ (zin (x3 + 2) ∧ ((0 ≤ (x3 + 2) ∧ (x3 + 2) < (ν1 33 0 1)) ∧ (zin (x3 + 3) ∧ ((0 ≤ (x3 + 3) ∧ (x3 + 3) < (ν1 33 0 1)) ∧ ZI f_X8_digest [vR 20 o2, vI (ν1 32 o0 (x3 + 1)), vI (ν1 32 o0 (x3 + 2)), vI (ν1 32 o0 (x3 + 3))] ν1 (fun r4 ν3 =>
    (if r2 = r4 then
    (zin (x3 + 5) ∧ ZW f_L_law 10 [vR 32 o0, vR 0 o1, vR 20 o2, vI (x3 + 5)] [] ν3 Q)
    else
    Q (some (vI 0)) ν3)))))))))))))))) :
    ZW f_L_law 124 [vR 32 o0, vR 0 o1, vR 20 o2, vI x3] [] μ Q := mvc_at zcd zml (C := zc185) rfl 584 124 h
set_option maxRecDepth 100000 in
theorem vc_L_law_161 {μ : mzM} {Q : Option mzV → mzM → Prop} {o0 o1 o2 x3 : Int} (h :
    ZI f_X7_addKey [vR 0 o1] μ (fun r2 ν1 =>
    ZI f_X8_addKey [vR 20 o2] ν1 (fun r4 ν3 =>
    (if r2 = r4 then
    (zin (x3 + 5) ∧ ZW f_L_law 10 [vR 32 o0, vR 0 o1, vR 20 o2, vI (x3 + 5)] [] ν3 Q)
    else
    Q (some (vI 0)) ν3)))) :
    ZW f_L_law 161 [vR 32 o0, vR 0 o1, vR 20 o2, vI x3] [] μ Q := mvc_at zcd zml (C := zc185) rfl 584 161 h
set_option maxRecDepth 100000 in
theorem vc_L_law_168 {μ : mzM} {Q : Option mzV → mzM → Prop} {o0 o1 o2 x3 : Int} (h :
    (zin (x3 + 1) ∧ ((0 ≤ (x3 + 1) ∧ (x3 + 1) < (μ 33 0 1)) ∧ ZI f_X7_addDelta [vR 0 o1, vI (μ 32 o0 (x3 + 1))] μ (fun r2 ν1 =>
    (zin (x3 + 1) ∧ ((0 ≤ (x3 + 1) ∧ (x3 + 1) < (ν1 33 0 1)) ∧ ZI f_X8_addDelta [vR 20 o2, vI (ν1 32 o0 (x3 + 1))] ν1 (fun r4 ν3 =>
    (if r2 = r4 then
    (zin (x3 + 5) ∧ ZW f_L_law 10 [vR 32 o0, vR 0 o1, vR 20 o2, vI (x3 + 5)] [] ν3 Q)
    else
    Q (some (vI 0)) ν3)))))))) :
    ZW f_L_law 168 [vR 32 o0, vR 0 o1, vR 20 o2, vI x3] [] μ Q := mvc_at zcd zml (C := zc185) rfl 584 168 h
set_option maxRecDepth 100000 in
theorem vc_L_law_185 {μ : mzM} {Q : Option mzV → mzM → Prop} {o0 o1 o2 x3 : Int} (h :
    ZI f_X7_addChosen [vR 0 o1] μ (fun r2 ν1 =>
    ZI f_X8_addChosen [vR 20 o2] ν1 (fun r4 ν3 =>
    (if r2 = r4 then
    (zin (x3 + 5) ∧ ZW f_L_law 10 [vR 32 o0, vR 0 o1, vR 20 o2, vI (x3 + 5)] [] ν3 Q)
    else
    Q (some (vI 0)) ν3)))) :
    ZW f_L_law 185 [vR 32 o0, vR 0 o1, vR 20 o2, vI x3] [] μ Q := mvc_at zcd zml (C := zc185) rfl 584 185 h
set_option maxRecDepth 100000 in
theorem vc_L_law_192 {μ : mzM} {Q : Option mzV → mzM → Prop} {o0 o1 o2 x3 : Int} (h :
    ZI f_X7_removeLast [vR 0 o1] μ (fun r2 ν1 =>
    ZI f_X8_removeLast [vR 20 o2] ν1 (fun r4 ν3 =>
    (if r2 = r4 then
    (zin (x3 + 5) ∧ ZW f_L_law 10 [vR 32 o0, vR 0 o1, vR 20 o2, vI (x3 + 5)] [] ν3 Q)
    else
    Q (some (vI 0)) ν3)))) :
    ZW f_L_law 192 [vR 32 o0, vR 0 o1, vR 20 o2, vI x3] [] μ Q := mvc_at zcd zml (C := zc185) rfl 584 192 h
set_option maxRecDepth 100000 in
theorem vc_L_law_199 {μ : mzM} {Q : Option mzV → mzM → Prop} {o0 o1 o2 x3 : Int} (h :
    ZI f_X7_recode [vR 0 o1] μ (fun r2 ν1 =>
    ZI f_X8_recode [vR 20 o2] ν1 (fun r4 ν3 =>
    (if r2 = r4 then
    (zin (x3 + 5) ∧ ZW f_L_law 10 [vR 32 o0, vR 0 o1, vR 20 o2, vI (x3 + 5)] [] ν3 Q)
    else
    Q (some (vI 0)) ν3)))) :
    ZW f_L_law 199 [vR 32 o0, vR 0 o1, vR 20 o2, vI x3] [] μ Q := mvc_at zcd zml (C := zc185) rfl 584 199 h
set_option maxRecDepth 100000 in
theorem vc_L_law_206 {μ : mzM} {Q : Option mzV → mzM → Prop} {o0 o1 o2 x3 : Int} (h :
    (zin (x3 + 1) ∧ ((0 ≤ (x3 + 1) ∧ (x3 + 1) < (μ 33 0 1)) ∧ (zin (x3 + 2) ∧ ((0 ≤ (x3 + 2) ∧ (x3 + 2) < (μ 33 0 1)) ∧ (zin (x3 + 3) ∧ ((0 ≤ (x3 + 3) ∧ (x3 + 3) < (μ 33 0 1)) ∧ ZI f_X7_setLimits [vR 0 o1, vI (μ 32 o0 (x3 + 1)), vI (μ 32 o0 (x3 + 2)), vI (μ 32 o0 (x3 + 3))] μ (fun r2 ν1 =>
    (zin (x3 + 1) ∧ ((0 ≤ (x3 + 1) ∧ (x3 + 1) < (ν1 33 0 1)) ∧ (zin (x3 + 2) ∧ ((0 ≤ (x3 + 2) ∧ (x3 + 2) < (ν1 33 0 1)) ∧ (zin (x3 + 3) ∧ ((0 ≤ (x3 + 3) ∧ (x3 + 3) < (ν1 33 0 1)) ∧ ZI f_X8_setLimits [vR 20 o2, vI (ν1 32 o0 (x3 + 1)), vI (ν1 32 o0 (x3 + 2)), vI (ν1 32 o0 (x3 + 3))] ν1 (fun r4 ν3 =>
    (if r2 = r4 then
    (zin (x3 + 5) ∧ ZW f_L_law 10 [vR 32 o0, vR 0 o1, vR 20 o2, vI (x3 + 5)] [] ν3 Q)
    else
    Q (some (vI 0)) ν3)))))))))))))))) :
    ZW f_L_law 206 [vR 32 o0, vR 0 o1, vR 20 o2, vI x3] [] μ Q := mvc_at zcd zml (C := zc185) rfl 584 206 h
set_option maxRecDepth 100000 in
theorem vc_L_law_243 {μ : mzM} {Q : Option mzV → mzM → Prop} {o0 o1 o2 x3 : Int} (h :
    (zin (x3 + 1) ∧ ((0 ≤ (x3 + 1) ∧ (x3 + 1) < (μ 33 0 1)) ∧ (zin (x3 + 2) ∧ ((0 ≤ (x3 + 2) ∧ (x3 + 2) < (μ 33 0 1)) ∧ ZI f_X7_setLost [vR 0 o1, vI (μ 32 o0 (x3 + 1)), vI (μ 32 o0 (x3 + 2))] μ (fun r2 ν1 =>
    (zin (x3 + 1) ∧ ((0 ≤ (x3 + 1) ∧ (x3 + 1) < (ν1 33 0 1)) ∧ (zin (x3 + 2) ∧ ((0 ≤ (x3 + 2) ∧ (x3 + 2) < (ν1 33 0 1)) ∧ ZI f_X8_setLost [vR 20 o2, vI (ν1 32 o0 (x3 + 1)), vI (ν1 32 o0 (x3 + 2))] ν1 (fun r4 ν3 =>
    (if r2 = r4 then
    (zin (x3 + 5) ∧ ZW f_L_law 10 [vR 32 o0, vR 0 o1, vR 20 o2, vI (x3 + 5)] [] ν3 Q)
    else
    Q (some (vI 0)) ν3)))))))))))) :
    ZW f_L_law 243 [vR 32 o0, vR 0 o1, vR 20 o2, vI x3] [] μ Q := mvc_at zcd zml (C := zc185) rfl 584 243 h
set_option maxRecDepth 100000 in
theorem vc_L_law_270 {μ : mzM} {Q : Option mzV → mzM → Prop} {o0 o1 o2 x3 : Int} (h :
    (zin (x3 + 1) ∧ ((0 ≤ (x3 + 1) ∧ (x3 + 1) < (μ 33 0 1)) ∧ (zin (x3 + 2) ∧ ((0 ≤ (x3 + 2) ∧ (x3 + 2) < (μ 33 0 1)) ∧ ZI f_X7_frame [vR 0 o1, vI (μ 32 o0 (x3 + 1)), vI (μ 32 o0 (x3 + 2))] μ (fun r2 ν1 =>
    (zin (x3 + 1) ∧ ((0 ≤ (x3 + 1) ∧ (x3 + 1) < (ν1 33 0 1)) ∧ (zin (x3 + 2) ∧ ((0 ≤ (x3 + 2) ∧ (x3 + 2) < (ν1 33 0 1)) ∧ ZI f_X8_frame [vR 20 o2, vI (ν1 32 o0 (x3 + 1)), vI (ν1 32 o0 (x3 + 2))] ν1 (fun r4 ν3 =>
    (if r2 = r4 then
    (zin (x3 + 5) ∧ ZW f_L_law 10 [vR 32 o0, vR 0 o1, vR 20 o2, vI (x3 + 5)] [] ν3 Q)
    else
    Q (some (vI 0)) ν3)))))))))))) :
    ZW f_L_law 270 [vR 32 o0, vR 0 o1, vR 20 o2, vI x3] [] μ Q := mvc_at zcd zml (C := zc185) rfl 584 270 h
set_option maxRecDepth 100000 in
theorem vc_L_law_297 {μ : mzM} {Q : Option mzV → mzM → Prop} {o0 o1 o2 x3 : Int} (h :
    (zin (x3 + 1) ∧ ((0 ≤ (x3 + 1) ∧ (x3 + 1) < (μ 33 0 1)) ∧ (zin (x3 + 2) ∧ ((0 ≤ (x3 + 2) ∧ (x3 + 2) < (μ 33 0 1)) ∧ (zin (x3 + 3) ∧ ((0 ≤ (x3 + 3) ∧ (x3 + 3) < (μ 33 0 1)) ∧ ZI f_X7_code [vR 0 o1, vI (μ 32 o0 (x3 + 1)), vI (μ 32 o0 (x3 + 2)), vI (μ 32 o0 (x3 + 3))] μ (fun r2 ν1 =>
    (zin (x3 + 1) ∧ ((0 ≤ (x3 + 1) ∧ (x3 + 1) < (ν1 33 0 1)) ∧ (zin (x3 + 2) ∧ ((0 ≤ (x3 + 2) ∧ (x3 + 2) < (ν1 33 0 1)) ∧ (zin (x3 + 3) ∧ ((0 ≤ (x3 + 3) ∧ (x3 + 3) < (ν1 33 0 1)) ∧ ZI f_X8_code [vR 20 o2, vI (ν1 32 o0 (x3 + 1)), vI (ν1 32 o0 (x3 + 2)), vI (ν1 32 o0 (x3 + 3))] ν1 (fun r4 ν3 =>
    (if r2 = r4 then
    (zin (x3 + 5) ∧ ZW f_L_law 10 [vR 32 o0, vR 0 o1, vR 20 o2, vI (x3 + 5)] [] ν3 Q)
    else
    Q (some (vI 0)) ν3)))))))))))))))) :
    ZW f_L_law 297 [vR 32 o0, vR 0 o1, vR 20 o2, vI x3] [] μ Q := mvc_at zcd zml (C := zc185) rfl 584 297 h
set_option maxRecDepth 100000 in
theorem vc_L_law_334 {μ : mzM} {Q : Option mzV → mzM → Prop} {o0 o1 o2 x3 : Int} (h :
    (zin (x3 + 1) ∧ ((0 ≤ (x3 + 1) ∧ (x3 + 1) < (μ 33 0 1)) ∧ (zin (x3 + 2) ∧ ((0 ≤ (x3 + 2) ∧ (x3 + 2) < (μ 33 0 1)) ∧ (zin (x3 + 3) ∧ ((0 ≤ (x3 + 3) ∧ (x3 + 3) < (μ 33 0 1)) ∧ (zin (x3 + 4) ∧ ((0 ≤ (x3 + 4) ∧ (x3 + 4) < (μ 33 0 1)) ∧ ZI f_X7_run [vR 0 o1, vI (μ 32 o0 (x3 + 1)), vI (μ 32 o0 (x3 + 2)), vI (μ 32 o0 (x3 + 3)), vI (μ 32 o0 (x3 + 4))] μ (fun r2 ν1 =>
    (zin (x3 + 1) ∧ ((0 ≤ (x3 + 1) ∧ (x3 + 1) < (ν1 33 0 1)) ∧ (zin (x3 + 2) ∧ ((0 ≤ (x3 + 2) ∧ (x3 + 2) < (ν1 33 0 1)) ∧ (zin (x3 + 3) ∧ ((0 ≤ (x3 + 3) ∧ (x3 + 3) < (ν1 33 0 1)) ∧ (zin (x3 + 4) ∧ ((0 ≤ (x3 + 4) ∧ (x3 + 4) < (ν1 33 0 1)) ∧ ZI f_X8_run [vR 20 o2, vI (ν1 32 o0 (x3 + 1)), vI (ν1 32 o0 (x3 + 2)), vI (ν1 32 o0 (x3 + 3)), vI (ν1 32 o0 (x3 + 4))] ν1 (fun r4 ν3 =>
    (if r2 = r4 then
    (zin (x3 + 5) ∧ ZW f_L_law 10 [vR 32 o0, vR 0 o1, vR 20 o2, vI (x3 + 5)] [] ν3 Q)
    else
    Q (some (vI 0)) ν3)))))))))))))))))))) :
    ZW f_L_law 334 [vR 32 o0, vR 0 o1, vR 20 o2, vI x3] [] μ Q := mvc_at zcd zml (C := zc185) rfl 584 334 h
set_option maxRecDepth 100000 in
theorem vc_L_law_381 {μ : mzM} {Q : Option mzV → mzM → Prop} {o0 o1 o2 x3 : Int} (h :
    (zin (x3 + 1) ∧ ((0 ≤ (x3 + 1) ∧ (x3 + 1) < (μ 33 0 1)) ∧ (zin (x3 + 2) ∧ ((0 ≤ (x3 + 2) ∧ (x3 + 2) < (μ 33 0 1)) ∧ ZI f_X7_pixel [vR 0 o1, vI (μ 32 o0 (x3 + 1)), vI (μ 32 o0 (x3 + 2))] μ (fun r2 ν1 =>
    (zin (x3 + 1) ∧ ((0 ≤ (x3 + 1) ∧ (x3 + 1) < (ν1 33 0 1)) ∧ (zin (x3 + 2) ∧ ((0 ≤ (x3 + 2) ∧ (x3 + 2) < (ν1 33 0 1)) ∧ ZI f_X8_pixel [vR 20 o2, vI (ν1 32 o0 (x3 + 1)), vI (ν1 32 o0 (x3 + 2))] ν1 (fun r4 ν3 =>
    (if r2 = r4 then
    (zin (x3 + 5) ∧ ZW f_L_law 10 [vR 32 o0, vR 0 o1, vR 20 o2, vI (x3 + 5)] [] ν3 Q)
    else
    Q (some (vI 0)) ν3)))))))))))) :
    ZW f_L_law 381 [vR 32 o0, vR 0 o1, vR 20 o2, vI x3] [] μ Q := mvc_at zcd zml (C := zc185) rfl 584 381 h
set_option maxRecDepth 100000 in
theorem vc_L_law_408 {μ : mzM} {Q : Option mzV → mzM → Prop} {o0 o1 o2 x3 : Int} (h :
    (zin (x3 + 1) ∧ ((0 ≤ (x3 + 1) ∧ (x3 + 1) < (μ 33 0 1)) ∧ ZI f_X7_count [vR 0 o1, vI (μ 32 o0 (x3 + 1))] μ (fun r2 ν1 =>
    (zin (x3 + 1) ∧ ((0 ≤ (x3 + 1) ∧ (x3 + 1) < (ν1 33 0 1)) ∧ ZI f_X8_count [vR 20 o2, vI (ν1 32 o0 (x3 + 1))] ν1 (fun r4 ν3 =>
    (if r2 = r4 then
    (zin (x3 + 5) ∧ ZW f_L_law 10 [vR 32 o0, vR 0 o1, vR 20 o2, vI (x3 + 5)] [] ν3 Q)
    else
    Q (some (vI 0)) ν3)))))))) :
    ZW f_L_law 408 [vR 32 o0, vR 0 o1, vR 20 o2, vI x3] [] μ Q := mvc_at zcd zml (C := zc185) rfl 584 408 h
set_option maxRecDepth 100000 in
theorem vc_L_law_425 {μ : mzM} {Q : Option mzV → mzM → Prop} {o0 o1 o2 x3 : Int} (h :
    (zin (x3 + 1) ∧ ((0 ≤ (x3 + 1) ∧ (x3 + 1) < (μ 33 0 1)) ∧ ZI f_X7_costWith [vR 0 o1, vI (μ 32 o0 (x3 + 1))] μ (fun r2 ν1 =>
    (zin (x3 + 1) ∧ ((0 ≤ (x3 + 1) ∧ (x3 + 1) < (ν1 33 0 1)) ∧ ZI f_X8_costWith [vR 20 o2, vI (ν1 32 o0 (x3 + 1))] ν1 (fun r4 ν3 =>
    (if r2 = r4 then
    (zin (x3 + 5) ∧ ZW f_L_law 10 [vR 32 o0, vR 0 o1, vR 20 o2, vI (x3 + 5)] [] ν3 Q)
    else
    Q (some (vI 0)) ν3)))))))) :
    ZW f_L_law 425 [vR 32 o0, vR 0 o1, vR 20 o2, vI x3] [] μ Q := mvc_at zcd zml (C := zc185) rfl 584 425 h
set_option maxRecDepth 100000 in
theorem vc_L_law_442 {μ : mzM} {Q : Option mzV → mzM → Prop} {o0 o1 o2 x3 : Int} (h :
    (zin (x3 + 1) ∧ ((0 ≤ (x3 + 1) ∧ (x3 + 1) < (μ 33 0 1)) ∧ (zin (x3 + 2) ∧ ((0 ≤ (x3 + 2) ∧ (x3 + 2) < (μ 33 0 1)) ∧ ZI f_X7_difference [vR 0 o1, vI (μ 32 o0 (x3 + 1)), vI (μ 32 o0 (x3 + 2))] μ (fun r2 ν1 =>
    (zin (x3 + 1) ∧ ((0 ≤ (x3 + 1) ∧ (x3 + 1) < (ν1 33 0 1)) ∧ (zin (x3 + 2) ∧ ((0 ≤ (x3 + 2) ∧ (x3 + 2) < (ν1 33 0 1)) ∧ ZI f_X8_difference [vR 20 o2, vI (ν1 32 o0 (x3 + 1)), vI (ν1 32 o0 (x3 + 2))] ν1 (fun r4 ν3 =>
    (if r2 = r4 then
    (zin (x3 + 5) ∧ ZW f_L_law 10 [vR 32 o0, vR 0 o1, vR 20 o2, vI (x3 + 5)] [] ν3 Q)
    else
    Q (some (vI 0)) ν3)))))))))))) :
    ZW f_L_law 442 [vR 32 o0, vR 0 o1, vR 20 o2, vI x3] [] μ Q := mvc_at zcd zml (C := zc185) rfl 584 442 h
set_option maxRecDepth 100000 in
theorem vc_L_law_469 {μ : mzM} {Q : Option mzV → mzM → Prop} {o0 o1 o2 x3 : Int} (h :
    (zin (x3 + 1) ∧ ((0 ≤ (x3 + 1) ∧ (x3 + 1) < (μ 33 0 1)) ∧ (zin (x3 + 2) ∧ ((0 ≤ (x3 + 2) ∧ (x3 + 2) < (μ 33 0 1)) ∧ ZI f_X7_findBlock [vR 0 o1, vI (μ 32 o0 (x3 + 1)), vI (μ 32 o0 (x3 + 2))] μ (fun r2 ν1 =>
    (zin (x3 + 1) ∧ ((0 ≤ (x3 + 1) ∧ (x3 + 1) < (ν1 33 0 1)) ∧ (zin (x3 + 2) ∧ ((0 ≤ (x3 + 2) ∧ (x3 + 2) < (ν1 33 0 1)) ∧ ZI f_X8_findBlock [vR 20 o2, vI (ν1 32 o0 (x3 + 1)), vI (ν1 32 o0 (x3 + 2))] ν1 (fun r4 ν3 =>
    (if r2 = r4 then
    (zin (x3 + 5) ∧ ZW f_L_law 10 [vR 32 o0, vR 0 o1, vR 20 o2, vI (x3 + 5)] [] ν3 Q)
    else
    Q (some (vI 0)) ν3)))))))))))) :
    ZW f_L_law 469 [vR 32 o0, vR 0 o1, vR 20 o2, vI x3] [] μ Q := mvc_at zcd zml (C := zc185) rfl 584 469 h
set_option maxRecDepth 100000 in
theorem vc_L_law_496 {μ : mzM} {Q : Option mzV → mzM → Prop} {o0 o1 o2 x3 : Int} (h :
    (zin (x3 + 1) ∧ ((0 ≤ (x3 + 1) ∧ (x3 + 1) < (μ 33 0 1)) ∧ ZI f_X7_falseMatches [vR 0 o1, vI (μ 32 o0 (x3 + 1))] μ (fun r2 ν1 =>
    (zin (x3 + 1) ∧ ((0 ≤ (x3 + 1) ∧ (x3 + 1) < (ν1 33 0 1)) ∧ ZI f_X8_falseMatches [vR 20 o2, vI (ν1 32 o0 (x3 + 1))] ν1 (fun r4 ν3 =>
    (if r2 = r4 then
    (zin (x3 + 5) ∧ ZW f_L_law 10 [vR 32 o0, vR 0 o1, vR 20 o2, vI (x3 + 5)] [] ν3 Q)
    else
    Q (some (vI 0)) ν3)))))))) :
    ZW f_L_law 496 [vR 32 o0, vR 0 o1, vR 20 o2, vI x3] [] μ Q := mvc_at zcd zml (C := zc185) rfl 584 496 h
set_option maxRecDepth 100000 in
theorem vc_L_law_513 {μ : mzM} {Q : Option mzV → mzM → Prop} {o0 o1 o2 x3 : Int} (h :
    ZI f_X7_greatestSeek [vR 0 o1] μ (fun r2 ν1 =>
    ZI f_X8_greatestSeek [vR 20 o2] ν1 (fun r4 ν3 =>
    (if r2 = r4 then
    (zin (x3 + 5) ∧ ZW f_L_law 10 [vR 32 o0, vR 0 o1, vR 20 o2, vI (x3 + 5)] [] ν3 Q)
    else
    Q (some (vI 0)) ν3)))) :
    ZW f_L_law 513 [vR 32 o0, vR 0 o1, vR 20 o2, vI x3] [] μ Q := mvc_at zcd zml (C := zc185) rfl 584 513 h
set_option maxRecDepth 100000 in
theorem vc_L_law_520 {μ : mzM} {Q : Option mzV → mzM → Prop} {o0 o1 o2 x3 : Int} (h :
    (zin (x3 + 1) ∧ ((0 ≤ (x3 + 1) ∧ (x3 + 1) < (μ 33 0 1)) ∧ ZI f_X7_dependents [vR 0 o1, vI (μ 32 o0 (x3 + 1))] μ (fun r2 ν1 =>
    (zin (x3 + 1) ∧ ((0 ≤ (x3 + 1) ∧ (x3 + 1) < (ν1 33 0 1)) ∧ ZI f_X8_dependents [vR 20 o2, vI (ν1 32 o0 (x3 + 1))] ν1 (fun r4 ν3 =>
    (if r2 = r4 then
    (zin (x3 + 5) ∧ ZW f_L_law 10 [vR 32 o0, vR 0 o1, vR 20 o2, vI (x3 + 5)] [] ν3 Q)
    else
    Q (some (vI 0)) ν3)))))))) :
    ZW f_L_law 520 [vR 32 o0, vR 0 o1, vR 20 o2, vI x3] [] μ Q := mvc_at zcd zml (C := zc185) rfl 584 520 h
set_option maxRecDepth 100000 in
theorem vc_L_law_537 {μ : mzM} {Q : Option mzV → mzM → Prop} {o0 o1 o2 x3 : Int} (h :
    (zin (x3 + 1) ∧ ((0 ≤ (x3 + 1) ∧ (x3 + 1) < (μ 33 0 1)) ∧ ZI f_X7_patch [vR 0 o1, vI (μ 32 o0 (x3 + 1))] μ (fun r2 ν1 =>
    (zin (x3 + 1) ∧ ((0 ≤ (x3 + 1) ∧ (x3 + 1) < (ν1 33 0 1)) ∧ ZI f_X8_patch [vR 20 o2, vI (ν1 32 o0 (x3 + 1))] ν1 (fun r4 ν3 =>
    (if r2 = r4 then
    (zin (x3 + 5) ∧ ZW f_L_law 10 [vR 32 o0, vR 0 o1, vR 20 o2, vI (x3 + 5)] [] ν3 Q)
    else
    Q (some (vI 0)) ν3)))))))) :
    ZW f_L_law 537 [vR 32 o0, vR 0 o1, vR 20 o2, vI x3] [] μ Q := mvc_at zcd zml (C := zc185) rfl 584 537 h
set_option maxRecDepth 100000 in
theorem vc_L_law_554 {μ : mzM} {Q : Option mzV → mzM → Prop} {o0 o1 o2 x3 : Int} (h :
    ZI f_X7_planCost [vR 0 o1] μ (fun r2 ν1 =>
    ZI f_X8_planCost [vR 20 o2] ν1 (fun r4 ν3 =>
    (if r2 = r4 then
    (zin (x3 + 5) ∧ ZW f_L_law 10 [vR 32 o0, vR 0 o1, vR 20 o2, vI (x3 + 5)] [] ν3 Q)
    else
    Q (some (vI 0)) ν3)))) :
    ZW f_L_law 554 [vR 32 o0, vR 0 o1, vR 20 o2, vI x3] [] μ Q := mvc_at zcd zml (C := zc185) rfl 584 554 h
set_option maxRecDepth 100000 in
theorem vc_L_law_561 {μ : mzM} {Q : Option mzV → mzM → Prop} {o0 o1 o2 x3 : Int} (h :
    ZI f_X7_planKeys [vR 0 o1] μ (fun r2 ν1 =>
    ZI f_X8_planKeys [vR 20 o2] ν1 (fun r4 ν3 =>
    (if r2 = r4 then
    (zin (x3 + 5) ∧ ZW f_L_law 10 [vR 32 o0, vR 0 o1, vR 20 o2, vI (x3 + 5)] [] ν3 Q)
    else
    Q (some (vI 0)) ν3)))) :
    ZW f_L_law 561 [vR 32 o0, vR 0 o1, vR 20 o2, vI x3] [] μ Q := mvc_at zcd zml (C := zc185) rfl 584 561 h
set_option maxRecDepth 100000 in
theorem vc_L_law_568 {μ : mzM} {Q : Option mzV → mzM → Prop} {o0 o1 o2 x3 : Int} (h :
    ZI f_X7_undo [vR 0 o1] μ (fun r2 ν1 =>
    ZI f_X8_undo [vR 20 o2] ν1 (fun r4 ν3 =>
    (if r2 = r4 then
    (zin (x3 + 5) ∧ ZW f_L_law 10 [vR 32 o0, vR 0 o1, vR 20 o2, vI (x3 + 5)] [] ν3 Q)
    else
    Q (some (vI 0)) ν3)))) :
    ZW f_L_law 568 [vR 32 o0, vR 0 o1, vR 20 o2, vI x3] [] μ Q := mvc_at zcd zml (C := zc185) rfl 584 568 h