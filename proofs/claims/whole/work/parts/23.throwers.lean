theorem mg878 : Cond.classLink RX11 184 NSE ∈ lw_good := List.mem_filter.mpr ⟨List.mem_append_right _ (List.mem_of_getElem? (i := 878) (by decide +kernel)), by decide +kernel⟩
theorem mg22 : Cond.initialized NSE ∈ lw_good := List.mem_filter.mpr ⟨List.mem_append_right _ (List.mem_of_getElem? (i := 22) (by decide +kernel)), by decide +kernel⟩
theorem xo_X11 : xOK RX11 184 188 := by
  refine ⟨mg878, mg22, ?_, by decide +kernel⟩
  intro w hw
  have h : (((xAtS RX11 188).filter goodWord).all (fun w => decide (w ∈ lw_tbl))) = true := by decide +kernel
  have h2 := List.all_eq_true.mp h w hw
  exact List.mem_filter.mpr ⟨of_decide_eq_true h2, (List.mem_filter.mp hw).2⟩
theorem mg875 : Cond.methodLink RX11 181 Y_X11_canBeTraced.y ∈ lw_good := List.mem_filter.mpr ⟨List.mem_append_right _ (List.mem_of_getElem? (i := 875) (by decide +kernel)), by decide +kernel⟩
theorem mg877 : Cond.code Y_X11_canBeTraced.y Y_X11_canBeTraced.cc Y_X11_canBeTraced.nL Y_X11_canBeTraced.rt ∈ lw_good := List.mem_filter.mpr ⟨List.mem_append_right _ (List.mem_of_getElem? (i := 877) (by decide +kernel)), by decide +kernel⟩
theorem mg876 : Cond.static Y_X11_canBeTraced.y ∈ lw_good := List.mem_filter.mpr ⟨List.mem_append_right _ (List.mem_of_getElem? (i := 876) (by decide +kernel)), by decide +kernel⟩
theorem cs_X11_181 : csOK RX11 181 2 Y_X11_canBeTraced := ⟨⟨mg875, mg876, mg1, mg877⟩, ⟨by decide +kernel, by decide +kernel⟩, by decide +kernel, by decide, rfl, rfl⟩
theorem mg944 : Cond.methodLink RX11 204 Y_X9_part.y ∈ lw_good := List.mem_filter.mpr ⟨List.mem_append_right _ (List.mem_of_getElem? (i := 944) (by decide +kernel)), by decide +kernel⟩
theorem mg947 : Cond.code Y_X9_part.y Y_X9_part.cc Y_X9_part.nL Y_X9_part.rt ∈ lw_good := List.mem_filter.mpr ⟨List.mem_append_right _ (List.mem_of_getElem? (i := 947) (by decide +kernel)), by decide +kernel⟩
theorem mg945 : Cond.instanceMethod Y_X9_part.y ∈ lw_good := List.mem_filter.mpr ⟨List.mem_append_right _ (List.mem_of_getElem? (i := 945) (by decide +kernel)), by decide +kernel⟩
theorem mg946 : Cond.selects RX9 yX9_part yX9_part ∈ lw_good := List.mem_filter.mpr ⟨List.mem_append_right _ (List.mem_of_getElem? (i := 946) (by decide +kernel)), by decide +kernel⟩
theorem cv_X11_204 : cvOK RX11 204 9 1 Y_X9_part := ⟨RX9, TX9, 3, rfl, rfl, ⟨mg944, mg945, mg946, mg7, mg947⟩, ⟨by decide +kernel, by decide +kernel⟩, by decide +kernel, by decide, rfl, rfl⟩
theorem d_X11_trace_0 : decode Y_X11_trace.cc 0 = .ok (.aload_n 0, 1) := by decide +kernel
theorem d_X11_trace_1 : decode Y_X11_trace.cc 1 = .ok (.getfield 19, 3) := by decide +kernel
theorem d_X11_trace_4 : decode Y_X11_trace.cc 4 = .ok (.iload_n 1, 1) := by decide +kernel
theorem d_X11_trace_5 : decode Y_X11_trace.cc 5 = .ok (.invokevirtual 98, 3) := by decide +kernel
theorem d_X11_trace_8 : decode Y_X11_trace.cc 8 = .ok (.ifCond .eq 21, 3) := by decide +kernel
theorem d_X11_trace_11 : decode Y_X11_trace.cc 11 = .ok (.iload_n 2, 1) := by decide +kernel
theorem d_X11_trace_12 : decode Y_X11_trace.cc 12 = .ok (.iload_n 3, 1) := by decide +kernel
theorem d_X11_trace_13 : decode Y_X11_trace.cc 13 = .ok (.invokestatic 181, 3) := by decide +kernel
theorem d_X11_trace_16 : decode Y_X11_trace.cc 16 = .ok (.ifCond .eq 13, 3) := by decide +kernel
theorem d_X11_trace_19 : decode Y_X11_trace.cc 19 = .ok (.iload 4, 2) := by decide +kernel
theorem d_X11_trace_21 : decode Y_X11_trace.cc 21 = .ok (.iconst 0, 1) := by decide +kernel
theorem d_X11_trace_22 : decode Y_X11_trace.cc 22 = .ok (.iconst 3, 1) := by decide +kernel
theorem d_X11_trace_23 : decode Y_X11_trace.cc 23 = .ok (.invokestatic 177, 3) := by decide +kernel
theorem d_X11_trace_26 : decode Y_X11_trace.cc 26 = .ok (.ifCond .ne 13, 3) := by decide +kernel
theorem d_X11_trace_29 : decode Y_X11_trace.cc 29 = .ok (.new 184, 3) := by decide +kernel
theorem d_X11_trace_32 : decode Y_X11_trace.cc 32 = .ok (.dup, 1) := by decide +kernel
theorem d_X11_trace_33 : decode Y_X11_trace.cc 33 = .ok (.ldc 186, 2) := by decide +kernel
theorem d_X11_trace_35 : decode Y_X11_trace.cc 35 = .ok (.invokespecial 188, 3) := by decide +kernel
theorem d_X11_trace_38 : decode Y_X11_trace.cc 38 = .ok (.athrow, 1) := by decide +kernel
theorem d_X11_trace_39 : decode Y_X11_trace.cc 39 = .ok (.aload_n 0, 1) := by decide +kernel
theorem d_X11_trace_40 : decode Y_X11_trace.cc 40 = .ok (.getfield 44, 3) := by decide +kernel
theorem d_X11_trace_43 : decode Y_X11_trace.cc 43 = .ok (.iload_n 2, 1) := by decide +kernel
theorem d_X11_trace_44 : decode Y_X11_trace.cc 44 = .ok (.iload_n 3, 1) := by decide +kernel
theorem d_X11_trace_45 : decode Y_X11_trace.cc 45 = .ok (.invokevirtual 191, 3) := by decide +kernel
theorem d_X11_trace_48 : decode Y_X11_trace.cc 48 = .ok (.aload_n 0, 1) := by decide +kernel
theorem d_X11_trace_49 : decode Y_X11_trace.cc 49 = .ok (.getfield 44, 3) := by decide +kernel
theorem d_X11_trace_52 : decode Y_X11_trace.cc 52 = .ok (.aload_n 0, 1) := by decide +kernel
theorem d_X11_trace_53 : decode Y_X11_trace.cc 53 = .ok (.getfield 19, 3) := by decide +kernel
theorem d_X11_trace_56 : decode Y_X11_trace.cc 56 = .ok (.aload_n 0, 1) := by decide +kernel
theorem d_X11_trace_57 : decode Y_X11_trace.cc 57 = .ok (.getfield 29, 3) := by decide +kernel
theorem d_X11_trace_60 : decode Y_X11_trace.cc 60 = .ok (.iload_n 1, 1) := by decide +kernel
theorem d_X11_trace_61 : decode Y_X11_trace.cc 61 = .ok (.invokevirtual 194, 3) := by decide +kernel
theorem d_X11_trace_64 : decode Y_X11_trace.cc 64 = .ok (.ifCond .eq 13, 3) := by decide +kernel
theorem d_X11_trace_67 : decode Y_X11_trace.cc 67 = .ok (.new 184, 3) := by decide +kernel
theorem d_X11_trace_70 : decode Y_X11_trace.cc 70 = .ok (.dup, 1) := by decide +kernel
theorem d_X11_trace_71 : decode Y_X11_trace.cc 71 = .ok (.ldc 198, 2) := by decide +kernel
theorem d_X11_trace_73 : decode Y_X11_trace.cc 73 = .ok (.invokespecial 188, 3) := by decide +kernel
theorem d_X11_trace_76 : decode Y_X11_trace.cc 76 = .ok (.athrow, 1) := by decide +kernel
theorem d_X11_trace_77 : decode Y_X11_trace.cc 77 = .ok (.aload_n 0, 1) := by decide +kernel
theorem d_X11_trace_78 : decode Y_X11_trace.cc 78 = .ok (.getfield 44, 3) := by decide +kernel
theorem d_X11_trace_81 : decode Y_X11_trace.cc 81 = .ok (.aload_n 0, 1) := by decide +kernel
theorem d_X11_trace_82 : decode Y_X11_trace.cc 82 = .ok (.getfield 19, 3) := by decide +kernel
theorem d_X11_trace_85 : decode Y_X11_trace.cc 85 = .ok (.aload_n 0, 1) := by decide +kernel
theorem d_X11_trace_86 : decode Y_X11_trace.cc 86 = .ok (.getfield 29, 3) := by decide +kernel
theorem d_X11_trace_89 : decode Y_X11_trace.cc 89 = .ok (.iload_n 1, 1) := by decide +kernel
theorem d_X11_trace_90 : decode Y_X11_trace.cc 90 = .ok (.aload_n 0, 1) := by decide +kernel
theorem d_X11_trace_91 : decode Y_X11_trace.cc 91 = .ok (.getfield 29, 3) := by decide +kernel
theorem d_X11_trace_94 : decode Y_X11_trace.cc 94 = .ok (.getfield 133, 3) := by decide +kernel
theorem d_X11_trace_97 : decode Y_X11_trace.cc 97 = .ok (.iload_n 1, 1) := by decide +kernel
theorem d_X11_trace_98 : decode Y_X11_trace.cc 98 = .ok (.iaload, 1) := by decide +kernel
theorem d_X11_trace_99 : decode Y_X11_trace.cc 99 = .ok (.invokevirtual 200, 3) := by decide +kernel
theorem d_X11_trace_102 : decode Y_X11_trace.cc 102 = .ok (.aload_n 0, 1) := by decide +kernel
theorem d_X11_trace_103 : decode Y_X11_trace.cc 103 = .ok (.getfield 44, 3) := by decide +kernel
theorem d_X11_trace_106 : decode Y_X11_trace.cc 106 = .ok (.iload 4, 2) := by decide +kernel
theorem d_X11_trace_108 : decode Y_X11_trace.cc 108 = .ok (.invokevirtual 204, 3) := by decide +kernel
theorem d_X11_trace_111 : decode Y_X11_trace.cc 111 = .ok (.lreturn, 1) := by decide +kernel
theorem b_X11_trace {G : MG} {d : Nat} {Q : Option Value → Mm → Prop} {x1 : Int32} {x2 : Int32} {x3 : Int32} {x4 : Int32} {M : Mm} {c : Nat} (hL : Lay c M) (hc : c = 3 ∨ c = 39) (hx_s186_16 : ∀ U, G.X U → vk_R RX11 186 "no such arm, point or part" (G.ad 16) U) (hxf : xFacts G RX11 188) (hx_s198_17 : ∀ U, G.X U → vk_R RX11 198 "out of reach" (G.ad 17) U) (hd5 : 5 ≤ d) (h : (C G Y_X5_hasArm d [.ref (G.b + c), .int x1] M (Ri fun r2 M1 => M1.2.2 = M.2.2 ∧ ((r2 = 0 → Q rX M1) ∧ (¬ r2 = 0 → (C G Y_X11_canBeTraced d [.int x2, .int x3] M1 (Ri fun r5 M4 => M4.2.2 = M1.2.2 ∧ ((r5 = 0 → Q rX M4) ∧ (¬ r5 = 0 → (C G Y_X11_isWithin d [.int x4, .int 0, .int 3] M4 (Ri fun r8 M7 => M7.2.2 = M4.2.2 ∧ ((¬ r8 = 0 → (C G Y_X9_begin d [.ref (G.b + 126), .int x2, .int x3] M7 (Rv fun M10 => M10.2.2 = M7.2.2 ∧ (C G Y_X9_isOut d [.ref (G.b + 126), .ref (G.b + c), .ref (G.b + 75), .int x1] M10 (Ri fun r12 M11 => M11.2.2 = M10.2.2 ∧ ((r12 = 0 → (vp_in x1 6 ∧ (C G Y_X9_copyBy d [.ref (G.b + 126), .ref (G.b + c), .ref (G.b + 75), .int x1, .int (M11.1 81 x1.toNatClampNeg)] M11 (Rv fun M14 => M14.2.2 = M11.2.2 ∧ (C G Y_X9_part d [.ref (G.b + 126), .int x4] M14 (Rj fun r16 M15 => M15.2.2 = M14.2.2 ∧ Q (some (.long r16)) M15)))))) ∧ (¬ r12 = 0 → Q rX M11))))))) ∧ (r8 = 0 → Q rX M7))))))))))))) : CX G Y_X11_trace (d + 1) [.ref (G.b + 0), .int x1, .int x2, .int x3, .int x4] M Q := by
  refine CX.of (by decide) (Nat.le_of_ble_eq_true rfl) (lv := [(0, .ref (G.b + 0)), (1, .int x1), (2, .int x2), (3, .int x3), (4, .int x4)]) rfl rfl ?_
  refine tw_aload_n 0 d_X11_trace_0 rfl rfl ?_
  refine tw_getR f_X11_19 hL s_0 ⟨rfl, rfl⟩ (rr_X11_1 s_0) d_X11_trace_1 ?_
  refine tw_iload_n 1 d_X11_trace_4 rfl rfl ?_
  refine tu_cVi (As := [.int x1]) cv_X11_98 hL (shc hc) rfl (Nat.le_of_ble_eq_true rfl) ⟨Nat.zero_le _, Nat.zero_le _⟩ d_X11_trace_5 h (fun r2 M1 h => ?_)
  have hL_M1 : Lay c M1 := hL.to h.1
  replace h := h.2
  refine tw_if_eq 29 d_X11_trace_8 (by decide) (fun z3 => ?_) (fun z3 => ?_)
  · replace h := h.1 z3
    exact tw_throwS hL_M1 hxf xo_X11 hx_s186_16 rfl (by omega) (Nat.le_of_ble_eq_true rfl) ⟨by decide, by decide⟩ d_X11_trace_29 d_X11_trace_32 d_X11_trace_33 d_X11_trace_35 d_X11_trace_38 h
  · replace h := h.2 z3
    refine tw_iload_n 2 d_X11_trace_11 rfl rfl ?_
    refine tw_iload_n 3 d_X11_trace_12 rfl rfl ?_
    refine tu_cSi (As := [.int x2, .int x3]) cs_X11_181 rfl (Nat.le_of_ble_eq_true rfl) ⟨Nat.zero_le _, Nat.zero_le _⟩ d_X11_trace_13 h (fun r5 M4 h => ?_)
    have hL_M4 : Lay c M4 := hL_M1.to h.1
    replace h := h.2
    refine tw_if_eq 29 d_X11_trace_16 (by decide) (fun z6 => ?_) (fun z6 => ?_)
    · replace h := h.1 z6
      exact tw_throwS hL_M4 hxf xo_X11 hx_s186_16 rfl (by omega) (Nat.le_of_ble_eq_true rfl) ⟨by decide, by decide⟩ d_X11_trace_29 d_X11_trace_32 d_X11_trace_33 d_X11_trace_35 d_X11_trace_38 h
    · replace h := h.2 z6
      refine tw_iload 4 d_X11_trace_19 rfl ?_
      refine tw_iconst d_X11_trace_21 k_0 ?_
      refine tw_iconst d_X11_trace_22 k_3 ?_
      refine tu_cSi (As := [.int x4, .int 0, .int 3]) cs_X11_177 rfl (Nat.le_of_ble_eq_true rfl) ⟨Nat.zero_le _, Nat.zero_le _⟩ d_X11_trace_23 h (fun r8 M7 h => ?_)
      have hL_M7 : Lay c M7 := hL_M4.to h.1
      replace h := h.2
      refine tw_if_ne 39 d_X11_trace_26 (by decide) (fun z9 => ?_) (fun z9 => ?_)
      · replace h := h.1 z9
        refine tw_aload_n 0 d_X11_trace_39 rfl rfl ?_
        refine tw_getR f_X11_44 hL_M7 s_0 ⟨rfl, rfl⟩ (rr_X11_6 s_0) d_X11_trace_40 ?_
        refine tw_iload_n 2 d_X11_trace_43 rfl rfl ?_
        refine tw_iload_n 3 d_X11_trace_44 rfl rfl ?_
        refine tu_cVv (As := [.int x2, .int x3]) cv_X11_191 hL_M7 s_126 rfl (Nat.le_of_ble_eq_true rfl) ⟨Nat.zero_le _, Nat.zero_le _⟩ d_X11_trace_45 h (fun M10 h => ?_)
        have hL_M10 : Lay c M10 := hL_M7.to h.1
        replace h := h.2
        refine tw_aload_n 0 d_X11_trace_48 rfl rfl ?_
        refine tw_getR f_X11_44 hL_M10 s_0 ⟨rfl, rfl⟩ (rr_X11_6 s_0) d_X11_trace_49 ?_
        refine tw_aload_n 0 d_X11_trace_52 rfl rfl ?_
        refine tw_getR f_X11_19 hL_M10 s_0 ⟨rfl, rfl⟩ (rr_X11_1 s_0) d_X11_trace_53 ?_
        refine tw_aload_n 0 d_X11_trace_56 rfl rfl ?_
        refine tw_getR f_X11_29 hL_M10 s_0 ⟨rfl, rfl⟩ (rr_X11_3 s_0) d_X11_trace_57 ?_
        refine tw_iload_n 1 d_X11_trace_60 rfl rfl ?_
        refine tu_cVi (As := [.ref (G.b + c), .ref (G.b + 75), .int x1]) cv_X11_194 hL_M10 s_126 rfl (Nat.le_of_ble_eq_true rfl) ⟨Nat.zero_le _, Nat.zero_le _⟩ d_X11_trace_61 h (fun r12 M11 h => ?_)
        have hL_M11 : Lay c M11 := hL_M10.to h.1
        replace h := h.2
        refine tw_if_eq 77 d_X11_trace_64 (by decide) (fun z13 => ?_) (fun z13 => ?_)
        · replace h := h.1 z13
          refine tw_aload_n 0 d_X11_trace_77 rfl rfl ?_
          refine tw_getR f_X11_44 hL_M11 s_0 ⟨rfl, rfl⟩ (rr_X11_6 s_0) d_X11_trace_78 ?_
          refine tw_aload_n 0 d_X11_trace_81 rfl rfl ?_
          refine tw_getR f_X11_19 hL_M11 s_0 ⟨rfl, rfl⟩ (rr_X11_1 s_0) d_X11_trace_82 ?_
          refine tw_aload_n 0 d_X11_trace_85 rfl rfl ?_
          refine tw_getR f_X11_29 hL_M11 s_0 ⟨rfl, rfl⟩ (rr_X11_3 s_0) d_X11_trace_86 ?_
          refine tw_iload_n 1 d_X11_trace_89 rfl rfl ?_
          refine tw_aload_n 0 d_X11_trace_90 rfl rfl ?_
          refine tw_getR f_X11_29 hL_M11 s_0 ⟨rfl, rfl⟩ (rr_X11_3 s_0) d_X11_trace_91 ?_
          refine tw_getR f_X11_133 hL_M11 s_75 ⟨rfl, rfl⟩ (rr_X7_5 s_75) d_X11_trace_94 ?_
          refine tw_iload_n 1 d_X11_trace_97 rfl rfl ?_
          refine tw_iald hL_M11 s_81 d_X11_trace_98 h.1 ?_
          replace h := h.2
          refine tu_cVv (As := [.ref (G.b + c), .ref (G.b + 75), .int x1, .int (M11.1 81 x1.toNatClampNeg)]) cv_X11_200 hL_M11 s_126 rfl (Nat.le_of_ble_eq_true rfl) ⟨Nat.zero_le _, Nat.zero_le _⟩ d_X11_trace_99 h (fun M14 h => ?_)
          have hL_M14 : Lay c M14 := hL_M11.to h.1
          replace h := h.2
          refine tw_aload_n 0 d_X11_trace_102 rfl rfl ?_
          refine tw_getR f_X11_44 hL_M14 s_0 ⟨rfl, rfl⟩ (rr_X11_6 s_0) d_X11_trace_103 ?_
          refine tw_iload 4 d_X11_trace_106 rfl ?_
          refine tu_cVJ (As := [.int x4]) cv_X11_204 hL_M14 s_126 rfl (Nat.le_of_ble_eq_true rfl) ⟨Nat.zero_le _, Nat.zero_le _⟩ d_X11_trace_108 h (fun r16 M15 h => ?_)
          have hL_M15 : Lay c M15 := hL_M14.to h.1
          replace h := h.2
          exact tw_lret0 rfl ⟨Nat.zero_le _, Nat.zero_le _⟩ d_X11_trace_111 h
        · replace h := h.2 z13
          exact tw_throwS hL_M11 hxf xo_X11 hx_s198_17 rfl (by omega) (Nat.le_of_ble_eq_true rfl) ⟨by decide, by decide⟩ d_X11_trace_67 d_X11_trace_70 d_X11_trace_71 d_X11_trace_73 d_X11_trace_76 h
      · replace h := h.2 z9
        exact tw_throwS hL_M7 hxf xo_X11 hx_s186_16 rfl (by omega) (Nat.le_of_ble_eq_true rfl) ⟨by decide, by decide⟩ d_X11_trace_29 d_X11_trace_32 d_X11_trace_33 d_X11_trace_35 d_X11_trace_38 h
theorem d_X11_draw_0 : decode Y_X11_draw.cc 0 = .ok (.iload_n 1, 1) := by decide +kernel
theorem d_X11_draw_1 : decode Y_X11_draw.cc 1 = .ok (.iload_n 2, 1) := by decide +kernel
theorem d_X11_draw_2 : decode Y_X11_draw.cc 2 = .ok (.invokestatic 181, 3) := by decide +kernel
theorem d_X11_draw_5 : decode Y_X11_draw.cc 5 = .ok (.ifCond .eq 12, 3) := by decide +kernel
theorem d_X11_draw_8 : decode Y_X11_draw.cc 8 = .ok (.iload_n 3, 1) := by decide +kernel
theorem d_X11_draw_9 : decode Y_X11_draw.cc 9 = .ok (.iconst 0, 1) := by decide +kernel
theorem d_X11_draw_10 : decode Y_X11_draw.cc 10 = .ok (.iconst 3, 1) := by decide +kernel
theorem d_X11_draw_11 : decode Y_X11_draw.cc 11 = .ok (.invokestatic 177, 3) := by decide +kernel
theorem d_X11_draw_14 : decode Y_X11_draw.cc 14 = .ok (.ifCond .ne 13, 3) := by decide +kernel
theorem d_X11_draw_17 : decode Y_X11_draw.cc 17 = .ok (.new 184, 3) := by decide +kernel
theorem d_X11_draw_20 : decode Y_X11_draw.cc 20 = .ok (.dup, 1) := by decide +kernel
theorem d_X11_draw_21 : decode Y_X11_draw.cc 21 = .ok (.ldc 228, 2) := by decide +kernel
theorem d_X11_draw_23 : decode Y_X11_draw.cc 23 = .ok (.invokespecial 188, 3) := by decide +kernel
theorem d_X11_draw_26 : decode Y_X11_draw.cc 26 = .ok (.athrow, 1) := by decide +kernel
theorem d_X11_draw_27 : decode Y_X11_draw.cc 27 = .ok (.aload_n 0, 1) := by decide +kernel
theorem d_X11_draw_28 : decode Y_X11_draw.cc 28 = .ok (.iload_n 1, 1) := by decide +kernel
theorem d_X11_draw_29 : decode Y_X11_draw.cc 29 = .ok (.iload_n 2, 1) := by decide +kernel
theorem d_X11_draw_30 : decode Y_X11_draw.cc 30 = .ok (.invokevirtual 230, 3) := by decide +kernel
theorem d_X11_draw_33 : decode Y_X11_draw.cc 33 = .ok (.ifCond .ne 13, 3) := by decide +kernel
theorem d_X11_draw_36 : decode Y_X11_draw.cc 36 = .ok (.new 184, 3) := by decide +kernel
theorem d_X11_draw_39 : decode Y_X11_draw.cc 39 = .ok (.dup, 1) := by decide +kernel
theorem d_X11_draw_40 : decode Y_X11_draw.cc 40 = .ok (.ldc 198, 2) := by decide +kernel
theorem d_X11_draw_42 : decode Y_X11_draw.cc 42 = .ok (.invokespecial 188, 3) := by decide +kernel
theorem d_X11_draw_45 : decode Y_X11_draw.cc 45 = .ok (.athrow, 1) := by decide +kernel
theorem d_X11_draw_46 : decode Y_X11_draw.cc 46 = .ok (.aload_n 0, 1) := by decide +kernel
theorem d_X11_draw_47 : decode Y_X11_draw.cc 47 = .ok (.getfield 44, 3) := by decide +kernel
theorem d_X11_draw_50 : decode Y_X11_draw.cc 50 = .ok (.iload_n 3, 1) := by decide +kernel
theorem d_X11_draw_51 : decode Y_X11_draw.cc 51 = .ok (.invokevirtual 204, 3) := by decide +kernel
theorem d_X11_draw_54 : decode Y_X11_draw.cc 54 = .ok (.lreturn, 1) := by decide +kernel
theorem b_X11_draw {G : MG} {d : Nat} {Q : Option Value → Mm → Prop} {x1 : Int32} {x2 : Int32} {x3 : Int32} {M : Mm} {c : Nat} (hL : Lay c M) (hx_s228_18 : ∀ U, G.X U → vk_R RX11 228 "no such point or part" (G.ad 18) U) (hxf : xFacts G RX11 188) (hx_s198_17 : ∀ U, G.X U → vk_R RX11 198 "out of reach" (G.ad 17) U) (hd5 : 5 ≤ d) (h : (C G Y_X11_canBeTraced d [.int x1, .int x2] M (Ri fun r2 M1 => M1.2.2 = M.2.2 ∧ ((r2 = 0 → Q rX M1) ∧ (¬ r2 = 0 → (C G Y_X11_isWithin d [.int x3, .int 0, .int 3] M1 (Ri fun r5 M4 => M4.2.2 = M1.2.2 ∧ ((¬ r5 = 0 → (C G Y_X11_passChain d [.ref (G.b + 0), .int x1, .int x2] M4 (Ri fun r8 M7 => M7.2.2 = M4.2.2 ∧ ((¬ r8 = 0 → (C G Y_X9_part d [.ref (G.b + 126), .int x3] M7 (Rj fun r11 M10 => M10.2.2 = M7.2.2 ∧ Q (some (.long r11)) M10))) ∧ (r8 = 0 → Q rX M7))))) ∧ (r5 = 0 → Q rX M4))))))))) : CX G Y_X11_draw (d + 1) [.ref (G.b + 0), .int x1, .int x2, .int x3] M Q := by
  refine CX.of (by decide) (Nat.le_of_ble_eq_true rfl) (lv := [(0, .ref (G.b + 0)), (1, .int x1), (2, .int x2), (3, .int x3)]) rfl rfl ?_
  refine tw_iload_n 1 d_X11_draw_0 rfl rfl ?_
  refine tw_iload_n 2 d_X11_draw_1 rfl rfl ?_
  refine tu_cSi (As := [.int x1, .int x2]) cs_X11_181 rfl (Nat.le_of_ble_eq_true rfl) ⟨Nat.zero_le _, Nat.zero_le _⟩ d_X11_draw_2 h (fun r2 M1 h => ?_)
  have hL_M1 : Lay c M1 := hL.to h.1
  replace h := h.2
  refine tw_if_eq 17 d_X11_draw_5 (by decide) (fun z3 => ?_) (fun z3 => ?_)
  · replace h := h.1 z3
    exact tw_throwS hL_M1 hxf xo_X11 hx_s228_18 rfl (by omega) (Nat.le_of_ble_eq_true rfl) ⟨by decide, by decide⟩ d_X11_draw_17 d_X11_draw_20 d_X11_draw_21 d_X11_draw_23 d_X11_draw_26 h
  · replace h := h.2 z3
    refine tw_iload_n 3 d_X11_draw_8 rfl rfl ?_
    refine tw_iconst d_X11_draw_9 k_0 ?_
    refine tw_iconst d_X11_draw_10 k_3 ?_
    refine tu_cSi (As := [.int x3, .int 0, .int 3]) cs_X11_177 rfl (Nat.le_of_ble_eq_true rfl) ⟨Nat.zero_le _, Nat.zero_le _⟩ d_X11_draw_11 h (fun r5 M4 h => ?_)
    have hL_M4 : Lay c M4 := hL_M1.to h.1
    replace h := h.2
    refine tw_if_ne 27 d_X11_draw_14 (by decide) (fun z6 => ?_) (fun z6 => ?_)
    · replace h := h.1 z6
      refine tw_aload_n 0 d_X11_draw_27 rfl rfl ?_
      refine tw_iload_n 1 d_X11_draw_28 rfl rfl ?_
      refine tw_iload_n 2 d_X11_draw_29 rfl rfl ?_
      refine tu_cVi (As := [.int x1, .int x2]) cv_X11_230 hL_M4 s_0 rfl (Nat.le_of_ble_eq_true rfl) ⟨Nat.zero_le _, Nat.zero_le _⟩ d_X11_draw_30 h (fun r8 M7 h => ?_)
      have hL_M7 : Lay c M7 := hL_M4.to h.1
      replace h := h.2
      refine tw_if_ne 46 d_X11_draw_33 (by decide) (fun z9 => ?_) (fun z9 => ?_)
      · replace h := h.1 z9
        refine tw_aload_n 0 d_X11_draw_46 rfl rfl ?_
        refine tw_getR f_X11_44 hL_M7 s_0 ⟨rfl, rfl⟩ (rr_X11_6 s_0) d_X11_draw_47 ?_
        refine tw_iload_n 3 d_X11_draw_50 rfl rfl ?_
        refine tu_cVJ (As := [.int x3]) cv_X11_204 hL_M7 s_126 rfl (Nat.le_of_ble_eq_true rfl) ⟨Nat.zero_le _, Nat.zero_le _⟩ d_X11_draw_51 h (fun r11 M10 h => ?_)
        have hL_M10 : Lay c M10 := hL_M7.to h.1
        replace h := h.2
        exact tw_lret0 rfl ⟨Nat.zero_le _, Nat.zero_le _⟩ d_X11_draw_54 h
      · replace h := h.2 z9
        exact tw_throwS hL_M7 hxf xo_X11 hx_s198_17 rfl (by omega) (Nat.le_of_ble_eq_true rfl) ⟨by decide, by decide⟩ d_X11_draw_36 d_X11_draw_39 d_X11_draw_40 d_X11_draw_42 d_X11_draw_45 h
    · replace h := h.2 z6
      exact tw_throwS hL_M4 hxf xo_X11 hx_s228_18 rfl (by omega) (Nat.le_of_ble_eq_true rfl) ⟨by decide, by decide⟩ d_X11_draw_17 d_X11_draw_20 d_X11_draw_21 d_X11_draw_23 d_X11_draw_26 h
theorem d_X11_crooked_0 : decode Y_X11_crooked.cc 0 = .ok (.aload_n 0, 1) := by decide +kernel
theorem d_X11_crooked_1 : decode Y_X11_crooked.cc 1 = .ok (.getfield 29, 3) := by decide +kernel
theorem d_X11_crooked_4 : decode Y_X11_crooked.cc 4 = .ok (.getfield 252, 3) := by decide +kernel
theorem d_X11_crooked_7 : decode Y_X11_crooked.cc 7 = .ok (.ifCond .eq 14, 3) := by decide +kernel
theorem d_X11_crooked_10 : decode Y_X11_crooked.cc 10 = .ok (.aload_n 0, 1) := by decide +kernel
theorem d_X11_crooked_11 : decode Y_X11_crooked.cc 11 = .ok (.getfield 19, 3) := by decide +kernel
theorem d_X11_crooked_14 : decode Y_X11_crooked.cc 14 = .ok (.iload_n 1, 1) := by decide +kernel
theorem d_X11_crooked_15 : decode Y_X11_crooked.cc 15 = .ok (.invokevirtual 98, 3) := by decide +kernel
theorem d_X11_crooked_18 : decode Y_X11_crooked.cc 18 = .ok (.ifCond .ne 14, 3) := by decide +kernel
theorem d_X11_crooked_21 : decode Y_X11_crooked.cc 21 = .ok (.new 184, 3) := by decide +kernel
theorem d_X11_crooked_24 : decode Y_X11_crooked.cc 24 = .ok (.dup, 1) := by decide +kernel
theorem d_X11_crooked_25 : decode Y_X11_crooked.cc 25 = .ok (.ldc_w 260, 3) := by decide +kernel
theorem d_X11_crooked_28 : decode Y_X11_crooked.cc 28 = .ok (.invokespecial 188, 3) := by decide +kernel
theorem d_X11_crooked_31 : decode Y_X11_crooked.cc 31 = .ok (.athrow, 1) := by decide +kernel
theorem d_X11_crooked_32 : decode Y_X11_crooked.cc 32 = .ok (.aload_n 0, 1) := by decide +kernel
theorem d_X11_crooked_33 : decode Y_X11_crooked.cc 33 = .ok (.iload_n 1, 1) := by decide +kernel
theorem d_X11_crooked_34 : decode Y_X11_crooked.cc 34 = .ok (.invokevirtual 256, 3) := by decide +kernel
theorem d_X11_crooked_37 : decode Y_X11_crooked.cc 37 = .ok (.istore_n 2, 1) := by decide +kernel
theorem d_X11_crooked_38 : decode Y_X11_crooked.cc 38 = .ok (.iload_n 2, 1) := by decide +kernel
theorem d_X11_crooked_39 : decode Y_X11_crooked.cc 39 = .ok (.bipush (-9), 2) := by decide +kernel
theorem d_X11_crooked_41 : decode Y_X11_crooked.cc 41 = .ok (.bipush 9, 2) := by decide +kernel
theorem d_X11_crooked_43 : decode Y_X11_crooked.cc 43 = .ok (.invokestatic 177, 3) := by decide +kernel
theorem d_X11_crooked_46 : decode Y_X11_crooked.cc 46 = .ok (.ifCond .ne 14, 3) := by decide +kernel
theorem d_X11_crooked_49 : decode Y_X11_crooked.cc 49 = .ok (.new 184, 3) := by decide +kernel
theorem d_X11_crooked_52 : decode Y_X11_crooked.cc 52 = .ok (.dup, 1) := by decide +kernel
theorem d_X11_crooked_53 : decode Y_X11_crooked.cc 53 = .ok (.ldc_w 262, 3) := by decide +kernel
theorem d_X11_crooked_56 : decode Y_X11_crooked.cc 56 = .ok (.invokespecial 188, 3) := by decide +kernel
theorem d_X11_crooked_59 : decode Y_X11_crooked.cc 59 = .ok (.athrow, 1) := by decide +kernel
theorem d_X11_crooked_60 : decode Y_X11_crooked.cc 60 = .ok (.iload_n 2, 1) := by decide +kernel
theorem d_X11_crooked_61 : decode Y_X11_crooked.cc 61 = .ok (.ireturn, 1) := by decide +kernel
theorem b_X11_crooked {G : MG} {d : Nat} {Q : Option Value → Mm → Prop} {x1 : Int32} {M : Mm} {c : Nat} (hL : Lay c M) (hc : c = 3 ∨ c = 39) (hx_s260_19 : ∀ U, G.X U → vk_R RX11 260 "no such arm, or no corner seen" (G.ad 19) U) (hxf : xFacts G RX11 188) (hx_s262_20 : ∀ U, G.X U → vk_R RX11 262 "no suspect" (G.ad 20) U) (hd5 : 5 ≤ d) (h : (((M.1 75 10) = 0 → Q rX M) ∧ (¬ (M.1 75 10) = 0 → (C G Y_X5_hasArm d [.ref (G.b + c), .int x1] M (Ri fun r3 M2 => M2.2.2 = M.2.2 ∧ ((¬ r3 = 0 → (C G Y_X11_leastBend d [.ref (G.b + 0), .int x1] M2 (Ri fun r6 M5 => M5.2.2 = M2.2.2 ∧ (C G Y_X11_isWithin d [.int r6, .int (-9), .int 9] M5 (Ri fun r8 M7 => M7.2.2 = M5.2.2 ∧ ((¬ r8 = 0 → Q (some (.int r6)) M7) ∧ (r8 = 0 → Q rX M7))))))) ∧ (r3 = 0 → Q rX M2))))))) : CX G Y_X11_crooked (d + 1) [.ref (G.b + 0), .int x1] M Q := by
  refine CX.of (by decide) (Nat.le_of_ble_eq_true rfl) (lv := [(0, .ref (G.b + 0)), (1, .int x1)]) rfl rfl ?_
  refine tw_aload_n 0 d_X11_crooked_0 rfl rfl ?_
  refine tw_getR f_X11_29 hL s_0 ⟨rfl, rfl⟩ (rr_X11_3 s_0) d_X11_crooked_1 ?_
  refine tw_getI f_X11_252 hL s_75 (Or.inl rfl) d_X11_crooked_4 ?_
  refine tw_if_eq 21 d_X11_crooked_7 (by decide) (fun z1 => ?_) (fun z1 => ?_)
  · replace h := h.1 z1
    exact tw_throwSW hL hxf xo_X11 hx_s260_19 rfl (by omega) (Nat.le_of_ble_eq_true rfl) ⟨by decide, by decide⟩ d_X11_crooked_21 d_X11_crooked_24 d_X11_crooked_25 d_X11_crooked_28 d_X11_crooked_31 h
  · replace h := h.2 z1
    refine tw_aload_n 0 d_X11_crooked_10 rfl rfl ?_
    refine tw_getR f_X11_19 hL s_0 ⟨rfl, rfl⟩ (rr_X11_1 s_0) d_X11_crooked_11 ?_
    refine tw_iload_n 1 d_X11_crooked_14 rfl rfl ?_
    refine tu_cVi (As := [.int x1]) cv_X11_98 hL (shc hc) rfl (Nat.le_of_ble_eq_true rfl) ⟨Nat.zero_le _, Nat.zero_le _⟩ d_X11_crooked_15 h (fun r3 M2 h => ?_)
    have hL_M2 : Lay c M2 := hL.to h.1
    replace h := h.2
    refine tw_if_ne 32 d_X11_crooked_18 (by decide) (fun z4 => ?_) (fun z4 => ?_)
    · replace h := h.1 z4
      refine tw_aload_n 0 d_X11_crooked_32 rfl rfl ?_
      refine tw_iload_n 1 d_X11_crooked_33 rfl rfl ?_
      refine tu_cVi (As := [.int x1]) cv_X11_256 hL_M2 s_0 rfl (Nat.le_of_ble_eq_true rfl) ⟨Nat.zero_le _, Nat.zero_le _⟩ d_X11_crooked_34 h (fun r6 M5 h => ?_)
      have hL_M5 : Lay c M5 := hL_M2.to h.1
      replace h := h.2
      refine tw_istore_n [(2, .int r6), (0, .ref (G.b + 0)), (1, .int x1)] d_X11_crooked_37 rfl (Nat.le_of_ble_eq_true rfl) rfl ?_
      refine tw_iload_n 0 d_X11_crooked_38 rfl rfl ?_
      refine tw_bipush d_X11_crooked_39 kb_m9 ?_
      refine tw_bipush d_X11_crooked_41 kb_9 ?_
      refine tu_cSi (As := [.int r6, .int (-9), .int 9]) cs_X11_177 rfl (Nat.le_of_ble_eq_true rfl) ⟨Nat.zero_le _, Nat.zero_le _⟩ d_X11_crooked_43 h (fun r8 M7 h => ?_)
      have hL_M7 : Lay c M7 := hL_M5.to h.1
      replace h := h.2
      refine tw_if_ne 60 d_X11_crooked_46 (by decide) (fun z9 => ?_) (fun z9 => ?_)
      · replace h := h.1 z9
        refine tw_iload_n 0 d_X11_crooked_60 rfl rfl ?_
        exact tw_iret0 rfl ⟨Nat.zero_le _, Nat.zero_le _⟩ d_X11_crooked_61 h
      · replace h := h.2 z9
        exact tw_throwSW hL_M7 hxf xo_X11 hx_s262_20 rfl (by omega) (Nat.le_of_ble_eq_true rfl) ⟨by decide, by decide⟩ d_X11_crooked_49 d_X11_crooked_52 d_X11_crooked_53 d_X11_crooked_56 d_X11_crooked_59 h
    · replace h := h.2 z4
      exact tw_throwSW hL_M2 hxf xo_X11 hx_s260_19 rfl (by omega) (Nat.le_of_ble_eq_true rfl) ⟨by decide, by decide⟩ d_X11_crooked_21 d_X11_crooked_24 d_X11_crooked_25 d_X11_crooked_28 d_X11_crooked_31 h
theorem mg870 : Cond.classLink RL 13 NSE ∈ lw_good := List.mem_filter.mpr ⟨List.mem_append_right _ (List.mem_of_getElem? (i := 870) (by decide +kernel)), by decide +kernel⟩
theorem hck_L : Cond.classLink RL 13 NSE ∈ lw_good := mg870
def Y_L_trace : MY := (yL_trace, cL_trace, 7, some .int, 1, 6, [(0, 13, 16, 13)])
theorem mg871 : Cond.methodLink RL 7 Y_X11_trace.y ∈ lw_good := List.mem_filter.mpr ⟨List.mem_append_right _ (List.mem_of_getElem? (i := 871) (by decide +kernel)), by decide +kernel⟩
theorem mg874 : Cond.code Y_X11_trace.y Y_X11_trace.cc Y_X11_trace.nL Y_X11_trace.rt ∈ lw_good := List.mem_filter.mpr ⟨List.mem_append_right _ (List.mem_of_getElem? (i := 874) (by decide +kernel)), by decide +kernel⟩
theorem mg872 : Cond.instanceMethod Y_X11_trace.y ∈ lw_good := List.mem_filter.mpr ⟨List.mem_append_right _ (List.mem_of_getElem? (i := 872) (by decide +kernel)), by decide +kernel⟩
theorem mg873 : Cond.selects RX11 yX11_trace yX11_trace ∈ lw_good := List.mem_filter.mpr ⟨List.mem_append_right _ (List.mem_of_getElem? (i := 873) (by decide +kernel)), by decide +kernel⟩
theorem cx_L_7 : cxOK RL 7 11 4 Y_X11_trace := ⟨RX11, TX11, 12, rfl, rfl, ⟨mg871, mg872, mg873, mg1, mg874⟩, ⟨by decide +kernel, by decide +kernel⟩, by decide +kernel, by decide⟩
theorem d_L_trace_0 : decode Y_L_trace.cc 0 = .ok (.aload 5, 2) := by decide +kernel
theorem d_L_trace_2 : decode Y_L_trace.cc 2 = .ok (.iconst 0, 1) := by decide +kernel
theorem d_L_trace_3 : decode Y_L_trace.cc 3 = .ok (.aload_n 0, 1) := by decide +kernel
theorem d_L_trace_4 : decode Y_L_trace.cc 4 = .ok (.iload_n 1, 1) := by decide +kernel
theorem d_L_trace_5 : decode Y_L_trace.cc 5 = .ok (.iload_n 2, 1) := by decide +kernel
theorem d_L_trace_6 : decode Y_L_trace.cc 6 = .ok (.iload_n 3, 1) := by decide +kernel
theorem d_L_trace_7 : decode Y_L_trace.cc 7 = .ok (.iload 4, 2) := by decide +kernel
theorem d_L_trace_9 : decode Y_L_trace.cc 9 = .ok (.invokevirtual 7, 3) := by decide +kernel
theorem d_L_trace_12 : decode Y_L_trace.cc 12 = .ok (.lastore, 1) := by decide +kernel
theorem d_L_trace_13 : decode Y_L_trace.cc 13 = .ok (.goto 7, 3) := by decide +kernel
theorem d_L_trace_16 : decode Y_L_trace.cc 16 = .ok (.astore 6, 2) := by decide +kernel
theorem d_L_trace_18 : decode Y_L_trace.cc 18 = .ok (.iconst 1, 1) := by decide +kernel
theorem d_L_trace_19 : decode Y_L_trace.cc 19 = .ok (.ireturn, 1) := by decide +kernel
theorem d_L_trace_20 : decode Y_L_trace.cc 20 = .ok (.iconst 0, 1) := by decide +kernel
theorem d_L_trace_21 : decode Y_L_trace.cc 21 = .ok (.ireturn, 1) := by decide +kernel
theorem b_L_trace {G : MG} {d : Nat} {Q : Int32 → Mm → Prop} {x1 : Int32} {x2 : Int32} {x3 : Int32} {x4 : Int32} {M : Mm} {c : Nat} (hL : Lay c M) (hcast : ∀ U, G.X U → va_Nw (.castable NSE NSE) U) (h : (CX G Y_X11_trace d [.ref (G.b + 0), .int x1, .int x2, .int x3, .int x4] M (fun r M1 => (∃ r2 : Int64, r = some (.long r2) ∧ M1.2.2 = M.2.2 ∧ (∀ M3 : Mm, M3 = sJ M1 161 (Int32.toNatClampNeg 0) r2 → Q 0 M3)) ∨ (r = rX ∧ M1.2.2 = M.2.2 ∧ Q 1 M1)))) : CW G Y_L_trace (d + 1) [.ref (G.b + 0), .int x1, .int x2, .int x3, .int x4, .ref (G.b + 161)] M (Ri Q) := by
  refine CW.of (by decide) (Nat.le_of_ble_eq_true rfl) (lv := [(0, .ref (G.b + 0)), (1, .int x1), (2, .int x2), (3, .int x3), (4, .int x4), (5, .ref (G.b + 161))]) rfl (fun M h => by obtain ⟨v, h, _⟩ := h; cases h) ?_
  refine tw_aload 5 d_L_trace_0 rfl ?_
  refine tw_iconst d_L_trace_2 k_0 ?_
  refine tw_aload_n 0 d_L_trace_3 rfl rfl ?_
  refine tw_iload_n 1 d_L_trace_4 rfl rfl ?_
  refine tw_iload_n 2 d_L_trace_5 rfl rfl ?_
  refine tw_iload_n 3 d_L_trace_6 rfl rfl ?_
  refine tw_iload 4 d_L_trace_7 rfl ?_
  refine tw_callX (As := [.int x1, .int x2, .int x3, .int x4]) (Q' := fun r N => (∃ v : Int64, r = some (.long v) ∧ _) ∨ (r = rX ∧ _)) cx_L_7 hL s_0 rfl (Nat.le_of_ble_eq_true rfl) ⟨by decide, by decide⟩ d_L_trace_9 h rfl (by decide) (by decide) hck_L hcast (fun r M1 hne h => ?_) (fun M1 h q => ?_)
  · rcases h with ⟨r2, rfl, h⟩ | ⟨h, -⟩
    · have hL_M1 : Lay c M1 := hL.to h.1
      replace h := h.2
      show T _ _ _ _ _ _ _ _ (.long r2 :: _) _
      refine tu_last hL_M1 s_161 d_L_trace_12 (by unfold vp_in; decide) (fun M3 e_M3 hL_M3 => ?_)
      replace h := h M3 e_M3
      refine tw_goto 20 d_L_trace_13 (by decide) ?_
      refine tw_iconst d_L_trace_20 k_0 ?_
      exact tw_iret rfl ⟨by decide, by decide⟩ d_L_trace_21 h
    · exact absurd h hne
  · rcases h with ⟨v, h, -⟩ | ⟨-, h⟩
    · cases h
    · have hL_M1 : Lay c M1 := hL.to h.1
      replace h := h.2
      refine tw_astore [(6, .ref q), (0, .ref (G.b + 0)), (1, .int x1), (2, .int x2), (3, .int x3), (4, .int x4), (5, .ref (G.b + 161))] d_L_trace_16 (Nat.le_of_ble_eq_true rfl) rfl ?_
      refine tw_iconst d_L_trace_18 k_1 ?_
      exact tw_iret rfl ⟨by decide, by decide⟩ d_L_trace_19 h
def Y_L_draw : MY := (yL_draw, cL_draw, 6, some .int, 1, 6, [(0, 11, 14, 13)])
theorem mg952 : Cond.methodLink RL 15 Y_X11_draw.y ∈ lw_good := List.mem_filter.mpr ⟨List.mem_append_right _ (List.mem_of_getElem? (i := 952) (by decide +kernel)), by decide +kernel⟩
theorem mg955 : Cond.code Y_X11_draw.y Y_X11_draw.cc Y_X11_draw.nL Y_X11_draw.rt ∈ lw_good := List.mem_filter.mpr ⟨List.mem_append_right _ (List.mem_of_getElem? (i := 955) (by decide +kernel)), by decide +kernel⟩
theorem mg953 : Cond.instanceMethod Y_X11_draw.y ∈ lw_good := List.mem_filter.mpr ⟨List.mem_append_right _ (List.mem_of_getElem? (i := 953) (by decide +kernel)), by decide +kernel⟩
theorem mg954 : Cond.selects RX11 yX11_draw yX11_draw ∈ lw_good := List.mem_filter.mpr ⟨List.mem_append_right _ (List.mem_of_getElem? (i := 954) (by decide +kernel)), by decide +kernel⟩
theorem cx_L_15 : cxOK RL 15 11 3 Y_X11_draw := ⟨RX11, TX11, 12, rfl, rfl, ⟨mg952, mg953, mg954, mg1, mg955⟩, ⟨by decide +kernel, by decide +kernel⟩, by decide +kernel, by decide⟩
theorem d_L_draw_0 : decode Y_L_draw.cc 0 = .ok (.aload 4, 2) := by decide +kernel
theorem d_L_draw_2 : decode Y_L_draw.cc 2 = .ok (.iconst 0, 1) := by decide +kernel
theorem d_L_draw_3 : decode Y_L_draw.cc 3 = .ok (.aload_n 0, 1) := by decide +kernel
theorem d_L_draw_4 : decode Y_L_draw.cc 4 = .ok (.iload_n 1, 1) := by decide +kernel
theorem d_L_draw_5 : decode Y_L_draw.cc 5 = .ok (.iload_n 2, 1) := by decide +kernel
theorem d_L_draw_6 : decode Y_L_draw.cc 6 = .ok (.iload_n 3, 1) := by decide +kernel
theorem d_L_draw_7 : decode Y_L_draw.cc 7 = .ok (.invokevirtual 15, 3) := by decide +kernel
theorem d_L_draw_10 : decode Y_L_draw.cc 10 = .ok (.lastore, 1) := by decide +kernel
theorem d_L_draw_11 : decode Y_L_draw.cc 11 = .ok (.goto 7, 3) := by decide +kernel
theorem d_L_draw_14 : decode Y_L_draw.cc 14 = .ok (.astore 5, 2) := by decide +kernel
theorem d_L_draw_16 : decode Y_L_draw.cc 16 = .ok (.iconst 1, 1) := by decide +kernel
theorem d_L_draw_17 : decode Y_L_draw.cc 17 = .ok (.ireturn, 1) := by decide +kernel
theorem d_L_draw_18 : decode Y_L_draw.cc 18 = .ok (.iconst 0, 1) := by decide +kernel
theorem d_L_draw_19 : decode Y_L_draw.cc 19 = .ok (.ireturn, 1) := by decide +kernel
theorem b_L_draw {G : MG} {d : Nat} {Q : Int32 → Mm → Prop} {x1 : Int32} {x2 : Int32} {x3 : Int32} {M : Mm} {c : Nat} (hL : Lay c M) (hcast : ∀ U, G.X U → va_Nw (.castable NSE NSE) U) (h : (CX G Y_X11_draw d [.ref (G.b + 0), .int x1, .int x2, .int x3] M (fun r M1 => (∃ r2 : Int64, r = some (.long r2) ∧ M1.2.2 = M.2.2 ∧ (∀ M3 : Mm, M3 = sJ M1 161 (Int32.toNatClampNeg 0) r2 → Q 0 M3)) ∨ (r = rX ∧ M1.2.2 = M.2.2 ∧ Q 1 M1)))) : CW G Y_L_draw (d + 1) [.ref (G.b + 0), .int x1, .int x2, .int x3, .ref (G.b + 161)] M (Ri Q) := by
  refine CW.of (by decide) (Nat.le_of_ble_eq_true rfl) (lv := [(0, .ref (G.b + 0)), (1, .int x1), (2, .int x2), (3, .int x3), (4, .ref (G.b + 161))]) rfl (fun M h => by obtain ⟨v, h, _⟩ := h; cases h) ?_
  refine tw_aload 4 d_L_draw_0 rfl ?_
  refine tw_iconst d_L_draw_2 k_0 ?_
  refine tw_aload_n 0 d_L_draw_3 rfl rfl ?_
  refine tw_iload_n 1 d_L_draw_4 rfl rfl ?_
  refine tw_iload_n 2 d_L_draw_5 rfl rfl ?_
  refine tw_iload_n 3 d_L_draw_6 rfl rfl ?_
  refine tw_callX (As := [.int x1, .int x2, .int x3]) (Q' := fun r N => (∃ v : Int64, r = some (.long v) ∧ _) ∨ (r = rX ∧ _)) cx_L_15 hL s_0 rfl (Nat.le_of_ble_eq_true rfl) ⟨by decide, by decide⟩ d_L_draw_7 h rfl (by decide) (by decide) hck_L hcast (fun r M1 hne h => ?_) (fun M1 h q => ?_)
  · rcases h with ⟨r2, rfl, h⟩ | ⟨h, -⟩
    · have hL_M1 : Lay c M1 := hL.to h.1
      replace h := h.2
      show T _ _ _ _ _ _ _ _ (.long r2 :: _) _
      refine tu_last hL_M1 s_161 d_L_draw_10 (by unfold vp_in; decide) (fun M3 e_M3 hL_M3 => ?_)
      replace h := h M3 e_M3
      refine tw_goto 18 d_L_draw_11 (by decide) ?_
      refine tw_iconst d_L_draw_18 k_0 ?_
      exact tw_iret rfl ⟨by decide, by decide⟩ d_L_draw_19 h
    · exact absurd h hne
  · rcases h with ⟨v, h, -⟩ | ⟨-, h⟩
    · cases h
    · have hL_M1 : Lay c M1 := hL.to h.1
      replace h := h.2
      refine tw_astore [(5, .ref q), (0, .ref (G.b + 0)), (1, .int x1), (2, .int x2), (3, .int x3), (4, .ref (G.b + 161))] d_L_draw_14 (Nat.le_of_ble_eq_true rfl) rfl ?_
      refine tw_iconst d_L_draw_16 k_1 ?_
      exact tw_iret rfl ⟨by decide, by decide⟩ d_L_draw_17 h
def Y_L_crooked : MY := (yL_crooked, cL_crooked, 4, some .int, 1, 6, [(0, 9, 12, 13)])
theorem mg960 : Cond.methodLink RL 19 Y_X11_crooked.y ∈ lw_good := List.mem_filter.mpr ⟨List.mem_append_right _ (List.mem_of_getElem? (i := 960) (by decide +kernel)), by decide +kernel⟩
theorem mg963 : Cond.code Y_X11_crooked.y Y_X11_crooked.cc Y_X11_crooked.nL Y_X11_crooked.rt ∈ lw_good := List.mem_filter.mpr ⟨List.mem_append_right _ (List.mem_of_getElem? (i := 963) (by decide +kernel)), by decide +kernel⟩
theorem mg961 : Cond.instanceMethod Y_X11_crooked.y ∈ lw_good := List.mem_filter.mpr ⟨List.mem_append_right _ (List.mem_of_getElem? (i := 961) (by decide +kernel)), by decide +kernel⟩
theorem mg962 : Cond.selects RX11 yX11_crooked yX11_crooked ∈ lw_good := List.mem_filter.mpr ⟨List.mem_append_right _ (List.mem_of_getElem? (i := 962) (by decide +kernel)), by decide +kernel⟩
theorem cx_L_19 : cxOK RL 19 11 1 Y_X11_crooked := ⟨RX11, TX11, 12, rfl, rfl, ⟨mg960, mg961, mg962, mg1, mg963⟩, ⟨by decide +kernel, by decide +kernel⟩, by decide +kernel, by decide⟩
theorem d_L_crooked_0 : decode Y_L_crooked.cc 0 = .ok (.aload_n 2, 1) := by decide +kernel
theorem d_L_crooked_1 : decode Y_L_crooked.cc 1 = .ok (.iconst 0, 1) := by decide +kernel
theorem d_L_crooked_2 : decode Y_L_crooked.cc 2 = .ok (.aload_n 0, 1) := by decide +kernel
theorem d_L_crooked_3 : decode Y_L_crooked.cc 3 = .ok (.iload_n 1, 1) := by decide +kernel
theorem d_L_crooked_4 : decode Y_L_crooked.cc 4 = .ok (.invokevirtual 19, 3) := by decide +kernel
theorem d_L_crooked_7 : decode Y_L_crooked.cc 7 = .ok (.i2l, 1) := by decide +kernel
theorem d_L_crooked_8 : decode Y_L_crooked.cc 8 = .ok (.lastore, 1) := by decide +kernel
theorem d_L_crooked_9 : decode Y_L_crooked.cc 9 = .ok (.goto 6, 3) := by decide +kernel
theorem d_L_crooked_12 : decode Y_L_crooked.cc 12 = .ok (.astore_n 3, 1) := by decide +kernel
theorem d_L_crooked_13 : decode Y_L_crooked.cc 13 = .ok (.iconst 1, 1) := by decide +kernel
theorem d_L_crooked_14 : decode Y_L_crooked.cc 14 = .ok (.ireturn, 1) := by decide +kernel
theorem d_L_crooked_15 : decode Y_L_crooked.cc 15 = .ok (.iconst 0, 1) := by decide +kernel
theorem d_L_crooked_16 : decode Y_L_crooked.cc 16 = .ok (.ireturn, 1) := by decide +kernel
theorem b_L_crooked {G : MG} {d : Nat} {Q : Int32 → Mm → Prop} {x1 : Int32} {M : Mm} {c : Nat} (hL : Lay c M) (hcast : ∀ U, G.X U → va_Nw (.castable NSE NSE) U) (h : (CX G Y_X11_crooked d [.ref (G.b + 0), .int x1] M (fun r M1 => (∃ r2 : Int32, r = some (.int r2) ∧ M1.2.2 = M.2.2 ∧ (∀ M3 : Mm, M3 = sJ M1 161 (Int32.toNatClampNeg 0) r2.toInt64 → Q 0 M3)) ∨ (r = rX ∧ M1.2.2 = M.2.2 ∧ Q 1 M1)))) : CW G Y_L_crooked (d + 1) [.ref (G.b + 0), .int x1, .ref (G.b + 161)] M (Ri Q) := by
  refine CW.of (by decide) (Nat.le_of_ble_eq_true rfl) (lv := [(0, .ref (G.b + 0)), (1, .int x1), (2, .ref (G.b + 161))]) rfl (fun M h => by obtain ⟨v, h, _⟩ := h; cases h) ?_
  refine tw_aload_n 2 d_L_crooked_0 rfl rfl ?_
  refine tw_iconst d_L_crooked_1 k_0 ?_
  refine tw_aload_n 0 d_L_crooked_2 rfl rfl ?_
  refine tw_iload_n 1 d_L_crooked_3 rfl rfl ?_
  refine tw_callX (As := [.int x1]) (Q' := fun r N => (∃ v : Int32, r = some (.int v) ∧ _) ∨ (r = rX ∧ _)) cx_L_19 hL s_0 rfl (Nat.le_of_ble_eq_true rfl) ⟨by decide, by decide⟩ d_L_crooked_4 h rfl (by decide) (by decide) hck_L hcast (fun r M1 hne h => ?_) (fun M1 h q => ?_)
  · rcases h with ⟨r2, rfl, h⟩ | ⟨h, -⟩
    · have hL_M1 : Lay c M1 := hL.to h.1
      replace h := h.2
      show T _ _ _ _ _ _ _ _ (.int r2 :: _) _
      refine tw_i2l d_L_crooked_7 ?_
      refine tu_last hL_M1 s_161 d_L_crooked_8 (by unfold vp_in; decide) (fun M3 e_M3 hL_M3 => ?_)
      replace h := h M3 e_M3
      refine tw_goto 15 d_L_crooked_9 (by decide) ?_
      refine tw_iconst d_L_crooked_15 k_0 ?_
      exact tw_iret rfl ⟨by decide, by decide⟩ d_L_crooked_16 h
    · exact absurd h hne
  · rcases h with ⟨v, h, -⟩ | ⟨-, h⟩
    · cases h
    · have hL_M1 : Lay c M1 := hL.to h.1
      replace h := h.2
      refine tw_astore_n [(3, .ref q), (0, .ref (G.b + 0)), (1, .int x1), (2, .ref (G.b + 161))] d_L_crooked_12 rfl (Nat.le_of_ble_eq_true rfl) rfl ?_
      refine tw_iconst d_L_crooked_13 k_1 ?_
      exact tw_iret rfl ⟨by decide, by decide⟩ d_L_crooked_14 h
