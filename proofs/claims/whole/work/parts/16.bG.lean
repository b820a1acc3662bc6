theorem d_X12_draw_0 : decode Y_X12_draw.cc 0 = .ok (.aload_n 0, 1) := by decide +kernel
theorem d_X12_draw_1 : decode Y_X12_draw.cc 1 = .ok (.iload_n 1, 1) := by decide +kernel
theorem d_X12_draw_2 : decode Y_X12_draw.cc 2 = .ok (.iload_n 2, 1) := by decide +kernel
theorem d_X12_draw_3 : decode Y_X12_draw.cc 3 = .ok (.iload_n 3, 1) := by decide +kernel
theorem d_X12_draw_4 : decode Y_X12_draw.cc 4 = .ok (.invokestatic 224, 3) := by decide +kernel
theorem d_X12_draw_7 : decode Y_X12_draw.cc 7 = .ok (.ifCond .eq 16, 3) := by decide +kernel
theorem d_X12_draw_10 : decode Y_X12_draw.cc 10 = .ok (.aload_n 0, 1) := by decide +kernel
theorem d_X12_draw_11 : decode Y_X12_draw.cc 11 = .ok (.iload_n 1, 1) := by decide +kernel
theorem d_X12_draw_12 : decode Y_X12_draw.cc 12 = .ok (.iload_n 2, 1) := by decide +kernel
theorem d_X12_draw_13 : decode Y_X12_draw.cc 13 = .ok (.invokevirtual 243, 3) := by decide +kernel
theorem d_X12_draw_16 : decode Y_X12_draw.cc 16 = .ok (.ifCond .eq 7, 3) := by decide +kernel
theorem d_X12_draw_19 : decode Y_X12_draw.cc 19 = .ok (.iconst 0, 1) := by decide +kernel
theorem d_X12_draw_20 : decode Y_X12_draw.cc 20 = .ok (.goto 4, 3) := by decide +kernel
theorem d_X12_draw_23 : decode Y_X12_draw.cc 23 = .ok (.iconst 1, 1) := by decide +kernel
theorem d_X12_draw_24 : decode Y_X12_draw.cc 24 = .ok (.putfield 1, 3) := by decide +kernel
theorem d_X12_draw_27 : decode Y_X12_draw.cc 27 = .ok (.aload_n 0, 1) := by decide +kernel
theorem d_X12_draw_28 : decode Y_X12_draw.cc 28 = .ok (.getfield 1, 3) := by decide +kernel
theorem d_X12_draw_31 : decode Y_X12_draw.cc 31 = .ok (.ifCond .le 7, 3) := by decide +kernel
theorem d_X12_draw_34 : decode Y_X12_draw.cc 34 = .ok (.lconst 0, 1) := by decide +kernel
theorem d_X12_draw_35 : decode Y_X12_draw.cc 35 = .ok (.goto 8, 3) := by decide +kernel
theorem d_X12_draw_38 : decode Y_X12_draw.cc 38 = .ok (.aload_n 0, 1) := by decide +kernel
theorem d_X12_draw_39 : decode Y_X12_draw.cc 39 = .ok (.iload_n 3, 1) := by decide +kernel
theorem d_X12_draw_40 : decode Y_X12_draw.cc 40 = .ok (.invokevirtual 233, 3) := by decide +kernel
theorem d_X12_draw_43 : decode Y_X12_draw.cc 43 = .ok (.lreturn, 1) := by decide +kernel
theorem b_X12_draw {G : MG} {d : Nat} {Q : Int64 → Mm → Prop} {x1 : Int32} {x2 : Int32} {x3 : Int32} {M : Mm} {c : Nat} (hL : Lay c M)  (h : (C G Y_X12_canTrace d [.int x1, .int x2, .int x3] M (Ri fun r2 M1 => M1.2.2 = M.2.2 ∧ ((r2 = 0 → (∀ M4 : Mm, M4 = sI M1 147 0 1 → (((M4.1 147 0) ≤ 0 → (C G Y_X12_part d [.ref (G.b + 147), .int x3] M4 (Rj fun r7 M6 => M6.2.2 = M4.2.2 ∧ Q r7 M6))) ∧ (¬ (M4.1 147 0) ≤ 0 → Q 0 M4)))) ∧ (¬ r2 = 0 → (C G Y_X12_goes d [.ref (G.b + 147), .int x1, .int x2] M1 (Ri fun r9 M8 => M8.2.2 = M1.2.2 ∧ ((r9 = 0 → (∀ M11 : Mm, M11 = sI M8 147 0 1 → (((M11.1 147 0) ≤ 0 → (C G Y_X12_part d [.ref (G.b + 147), .int x3] M11 (Rj fun r14 M13 => M13.2.2 = M11.2.2 ∧ Q r14 M13))) ∧ (¬ (M11.1 147 0) ≤ 0 → Q 0 M11)))) ∧ (¬ r9 = 0 → (∀ M15 : Mm, M15 = sI M8 147 0 0 → (((M15.1 147 0) ≤ 0 → (C G Y_X12_part d [.ref (G.b + 147), .int x3] M15 (Rj fun r18 M17 => M17.2.2 = M15.2.2 ∧ Q r18 M17))) ∧ (¬ (M15.1 147 0) ≤ 0 → Q 0 M15)))))))))))) : C G Y_X12_draw (d + 1) [.ref (G.b + 147), .int x1, .int x2, .int x3] M (Rj Q) := by
  refine C.of (by decide) (Nat.le_of_ble_eq_true rfl) (lv := [(0, .ref (G.b + 147)), (1, .int x1), (2, .int x2), (3, .int x3)]) rfl ?_
  refine tw_aload_n 0 d_X12_draw_0 rfl rfl ?_
  refine tw_iload_n 1 d_X12_draw_1 rfl rfl ?_
  refine tw_iload_n 2 d_X12_draw_2 rfl rfl ?_
  refine tw_iload_n 3 d_X12_draw_3 rfl rfl ?_
  refine tu_cSi (As := [.int x1, .int x2, .int x3]) cs_X12_224 rfl (Nat.le_of_ble_eq_true rfl) ⟨Nat.zero_le _, Nat.zero_le _⟩ d_X12_draw_4 h (fun r2 M1 h => ?_)
  have hL_M1 : Lay c M1 := hL.to h.1
  replace h := h.2
  refine tw_if_eq 23 d_X12_draw_7 (by decide) (fun z3 => ?_) (fun z3 => ?_)
  · replace h := h.1 z3
    refine tw_iconst d_X12_draw_23 k_1 ?_
    refine tu_putI f_X12_1 hL_M1 s_147 rfl rfl d_X12_draw_24 (fun M4 e_M4 hL_M4 => ?_)
    replace h := h M4 e_M4
    refine tw_aload_n 0 d_X12_draw_27 rfl rfl ?_
    refine tw_getI f_X12_1 hL_M4 s_147 (Or.inl rfl) d_X12_draw_28 ?_
    refine tw_if_le 38 d_X12_draw_31 (by decide) (fun z5 => ?_) (fun z5 => ?_)
    · replace h := h.1 z5
      refine tw_aload_n 0 d_X12_draw_38 rfl rfl ?_
      refine tw_iload_n 3 d_X12_draw_39 rfl rfl ?_
      refine tu_cVJ (As := [.int x3]) cv_X12_233 hL_M4 s_147 rfl (Nat.le_of_ble_eq_true rfl) ⟨Nat.zero_le _, Nat.zero_le _⟩ d_X12_draw_40 h (fun r7 M6 h => ?_)
      have hL_M6 : Lay c M6 := hL_M4.to h.1
      replace h := h.2
      exact tw_lret rfl ⟨Nat.zero_le _, Nat.zero_le _⟩ d_X12_draw_43 h
    · replace h := h.2 z5
      refine tw_lconst (v := 0) d_X12_draw_34 rfl ?_
      refine tw_goto 43 d_X12_draw_35 (by decide) ?_
      exact tw_lret rfl ⟨Nat.zero_le _, Nat.zero_le _⟩ d_X12_draw_43 h
  · replace h := h.2 z3
    refine tw_aload_n 0 d_X12_draw_10 rfl rfl ?_
    refine tw_iload_n 1 d_X12_draw_11 rfl rfl ?_
    refine tw_iload_n 2 d_X12_draw_12 rfl rfl ?_
    refine tu_cVi (As := [.int x1, .int x2]) cv_X12_243 hL_M1 s_147 rfl (Nat.le_of_ble_eq_true rfl) ⟨Nat.zero_le _, Nat.zero_le _⟩ d_X12_draw_13 h (fun r9 M8 h => ?_)
    have hL_M8 : Lay c M8 := hL_M1.to h.1
    replace h := h.2
    refine tw_if_eq 23 d_X12_draw_16 (by decide) (fun z10 => ?_) (fun z10 => ?_)
    · replace h := h.1 z10
      refine tw_iconst d_X12_draw_23 k_1 ?_
      refine tu_putI f_X12_1 hL_M8 s_147 rfl rfl d_X12_draw_24 (fun M11 e_M11 hL_M11 => ?_)
      replace h := h M11 e_M11
      refine tw_aload_n 0 d_X12_draw_27 rfl rfl ?_
      refine tw_getI f_X12_1 hL_M11 s_147 (Or.inl rfl) d_X12_draw_28 ?_
      refine tw_if_le 38 d_X12_draw_31 (by decide) (fun z12 => ?_) (fun z12 => ?_)
      · replace h := h.1 z12
        refine tw_aload_n 0 d_X12_draw_38 rfl rfl ?_
        refine tw_iload_n 3 d_X12_draw_39 rfl rfl ?_
        refine tu_cVJ (As := [.int x3]) cv_X12_233 hL_M11 s_147 rfl (Nat.le_of_ble_eq_true rfl) ⟨Nat.zero_le _, Nat.zero_le _⟩ d_X12_draw_40 h (fun r14 M13 h => ?_)
        have hL_M13 : Lay c M13 := hL_M11.to h.1
        replace h := h.2
        exact tw_lret rfl ⟨Nat.zero_le _, Nat.zero_le _⟩ d_X12_draw_43 h
      · replace h := h.2 z12
        refine tw_lconst (v := 0) d_X12_draw_34 rfl ?_
        refine tw_goto 43 d_X12_draw_35 (by decide) ?_
        exact tw_lret rfl ⟨Nat.zero_le _, Nat.zero_le _⟩ d_X12_draw_43 h
    · replace h := h.2 z10
      refine tw_iconst d_X12_draw_19 k_0 ?_
      refine tw_goto 24 d_X12_draw_20 (by decide) ?_
      refine tu_putI f_X12_1 hL_M8 s_147 rfl rfl d_X12_draw_24 (fun M15 e_M15 hL_M15 => ?_)
      replace h := h M15 e_M15
      refine tw_aload_n 0 d_X12_draw_27 rfl rfl ?_
      refine tw_getI f_X12_1 hL_M15 s_147 (Or.inl rfl) d_X12_draw_28 ?_
      refine tw_if_le 38 d_X12_draw_31 (by decide) (fun z16 => ?_) (fun z16 => ?_)
      · replace h := h.1 z16
        refine tw_aload_n 0 d_X12_draw_38 rfl rfl ?_
        refine tw_iload_n 3 d_X12_draw_39 rfl rfl ?_
        refine tu_cVJ (As := [.int x3]) cv_X12_233 hL_M15 s_147 rfl (Nat.le_of_ble_eq_true rfl) ⟨Nat.zero_le _, Nat.zero_le _⟩ d_X12_draw_40 h (fun r18 M17 h => ?_)
        have hL_M17 : Lay c M17 := hL_M15.to h.1
        replace h := h.2
        exact tw_lret rfl ⟨Nat.zero_le _, Nat.zero_le _⟩ d_X12_draw_43 h
      · replace h := h.2 z16
        refine tw_lconst (v := 0) d_X12_draw_34 rfl ?_
        refine tw_goto 43 d_X12_draw_35 (by decide) ?_
        exact tw_lret rfl ⟨Nat.zero_le _, Nat.zero_le _⟩ d_X12_draw_43 h

theorem d_X12_outs_0 : decode Y_X12_outs.cc 0 = .ok (.aload_n 0, 1) := by decide +kernel
theorem d_X12_outs_1 : decode Y_X12_outs.cc 1 = .ok (.iconst 0, 1) := by decide +kernel
theorem d_X12_outs_2 : decode Y_X12_outs.cc 2 = .ok (.putfield 1, 3) := by decide +kernel
theorem d_X12_outs_5 : decode Y_X12_outs.cc 5 = .ok (.aload_n 0, 1) := by decide +kernel
theorem d_X12_outs_6 : decode Y_X12_outs.cc 6 = .ok (.iload_n 1, 1) := by decide +kernel
theorem d_X12_outs_7 : decode Y_X12_outs.cc 7 = .ok (.invokevirtual 193, 3) := by decide +kernel
theorem d_X12_outs_10 : decode Y_X12_outs.cc 10 = .ok (.ifCond .ne 5, 3) := by decide +kernel
theorem d_X12_outs_13 : decode Y_X12_outs.cc 13 = .ok (.iconst (-1), 1) := by decide +kernel
theorem d_X12_outs_14 : decode Y_X12_outs.cc 14 = .ok (.ireturn, 1) := by decide +kernel
theorem d_X12_outs_15 : decode Y_X12_outs.cc 15 = .ok (.iconst 0, 1) := by decide +kernel
theorem d_X12_outs_16 : decode Y_X12_outs.cc 16 = .ok (.istore_n 2, 1) := by decide +kernel
theorem d_X12_outs_17 : decode Y_X12_outs.cc 17 = .ok (.iconst 0, 1) := by decide +kernel
theorem d_X12_outs_18 : decode Y_X12_outs.cc 18 = .ok (.istore_n 3, 1) := by decide +kernel
theorem d_X12_outs_19 : decode Y_X12_outs.cc 19 = .ok (.iload_n 3, 1) := by decide +kernel
theorem d_X12_outs_20 : decode Y_X12_outs.cc 20 = .ok (.aload_n 0, 1) := by decide +kernel
theorem d_X12_outs_21 : decode Y_X12_outs.cc 21 = .ok (.iload_n 1, 1) := by decide +kernel
theorem d_X12_outs_22 : decode Y_X12_outs.cc 22 = .ok (.iconst 3, 1) := by decide +kernel
theorem d_X12_outs_23 : decode Y_X12_outs.cc 23 = .ok (.invokevirtual 200, 3) := by decide +kernel
theorem d_X12_outs_26 : decode Y_X12_outs.cc 26 = .ok (.if_icmp .ge 46, 3) := by decide +kernel
theorem d_X12_outs_29 : decode Y_X12_outs.cc 29 = .ok (.iload_n 2, 1) := by decide +kernel
theorem d_X12_outs_30 : decode Y_X12_outs.cc 30 = .ok (.aload_n 0, 1) := by decide +kernel
theorem d_X12_outs_31 : decode Y_X12_outs.cc 31 = .ok (.aload_n 0, 1) := by decide +kernel
theorem d_X12_outs_32 : decode Y_X12_outs.cc 32 = .ok (.iload_n 1, 1) := by decide +kernel
theorem d_X12_outs_33 : decode Y_X12_outs.cc 33 = .ok (.iconst 4, 1) := by decide +kernel
theorem d_X12_outs_34 : decode Y_X12_outs.cc 34 = .ok (.iconst 2, 1) := by decide +kernel
theorem d_X12_outs_35 : decode Y_X12_outs.cc 35 = .ok (.iload_n 3, 1) := by decide +kernel
theorem d_X12_outs_36 : decode Y_X12_outs.cc 36 = .ok (.imul, 1) := by decide +kernel
theorem d_X12_outs_37 : decode Y_X12_outs.cc 37 = .ok (.iadd, 1) := by decide +kernel
theorem d_X12_outs_38 : decode Y_X12_outs.cc 38 = .ok (.invokevirtual 200, 3) := by decide +kernel
theorem d_X12_outs_41 : decode Y_X12_outs.cc 41 = .ok (.aload_n 0, 1) := by decide +kernel
theorem d_X12_outs_42 : decode Y_X12_outs.cc 42 = .ok (.iload_n 1, 1) := by decide +kernel
theorem d_X12_outs_43 : decode Y_X12_outs.cc 43 = .ok (.iconst 5, 1) := by decide +kernel
theorem d_X12_outs_44 : decode Y_X12_outs.cc 44 = .ok (.iconst 2, 1) := by decide +kernel
theorem d_X12_outs_45 : decode Y_X12_outs.cc 45 = .ok (.iload_n 3, 1) := by decide +kernel
theorem d_X12_outs_46 : decode Y_X12_outs.cc 46 = .ok (.imul, 1) := by decide +kernel
theorem d_X12_outs_47 : decode Y_X12_outs.cc 47 = .ok (.iadd, 1) := by decide +kernel
theorem d_X12_outs_48 : decode Y_X12_outs.cc 48 = .ok (.invokevirtual 200, 3) := by decide +kernel
theorem d_X12_outs_51 : decode Y_X12_outs.cc 51 = .ok (.invokevirtual 243, 3) := by decide +kernel
theorem d_X12_outs_54 : decode Y_X12_outs.cc 54 = .ok (.ifCond .eq 7, 3) := by decide +kernel
theorem d_X12_outs_57 : decode Y_X12_outs.cc 57 = .ok (.iconst 0, 1) := by decide +kernel
theorem d_X12_outs_58 : decode Y_X12_outs.cc 58 = .ok (.goto 6, 3) := by decide +kernel
theorem d_X12_outs_61 : decode Y_X12_outs.cc 61 = .ok (.iconst 1, 1) := by decide +kernel
theorem d_X12_outs_62 : decode Y_X12_outs.cc 62 = .ok (.iload_n 3, 1) := by decide +kernel
theorem d_X12_outs_63 : decode Y_X12_outs.cc 63 = .ok (.ishl, 1) := by decide +kernel
theorem d_X12_outs_64 : decode Y_X12_outs.cc 64 = .ok (.ior, 1) := by decide +kernel
theorem d_X12_outs_65 : decode Y_X12_outs.cc 65 = .ok (.istore_n 2, 1) := by decide +kernel
theorem d_X12_outs_66 : decode Y_X12_outs.cc 66 = .ok (.iinc 3 1, 3) := by decide +kernel
theorem d_X12_outs_69 : decode Y_X12_outs.cc 69 = .ok (.goto (-50), 3) := by decide +kernel
theorem d_X12_outs_72 : decode Y_X12_outs.cc 72 = .ok (.iload_n 2, 1) := by decide +kernel
theorem d_X12_outs_73 : decode Y_X12_outs.cc 73 = .ok (.ireturn, 1) := by decide +kernel
def L_X12_outs_19 (G : MG) (d : Nat) (Q : Int32 → Mm → Prop) (x1 : Int32) (x2 : Int32) (x3 : Int32) (M : Mm) : Prop := T G Y_X12_outs (d + 1) (Ri Q) 0 0 19 [(0, .ref (G.b + 147)), (1, .int x1), (2, .int x2), (3, .int x3)] [] M
theorem b_X12_outs_19 {G : MG} {d : Nat} {Q : Int32 → Mm → Prop} {x1 : Int32} {x2 : Int32} {x3 : Int32} {M : Mm} {c : Nat} (hL : Lay c M)  (h : (C G Y_X12_mapOf d [.ref (G.b + 147), .int x1, .int 3] M (Ri fun r2 M1 => M1.2.2 = M.2.2 ∧ ((r2 ≤ x3 → Q x2 M1) ∧ (¬ r2 ≤ x3 → (C G Y_X12_mapOf d [.ref (G.b + 147), .int x1, .int (4 + (2 * x3))] M1 (Ri fun r5 M4 => M4.2.2 = M1.2.2 ∧ (C G Y_X12_mapOf d [.ref (G.b + 147), .int x1, .int (5 + (2 * x3))] M4 (Ri fun r7 M6 => M6.2.2 = M4.2.2 ∧ (C G Y_X12_goes d [.ref (G.b + 147), .int r5, .int r7] M6 (Ri fun r9 M8 => M8.2.2 = M6.2.2 ∧ ((r9 = 0 → L_X12_outs_19 G d Q x1 (x2 ||| (1 <<< (x3 &&& 31))) (x3 + 1) M8) ∧ (¬ r9 = 0 → L_X12_outs_19 G d Q x1 (x2 ||| 0) (x3 + 1) M8))))))))))))) : L_X12_outs_19 G d Q x1 x2 x3 M := by
  unfold L_X12_outs_19
  refine tw_iload_n 3 d_X12_outs_19 rfl rfl ?_
  refine tw_aload_n 0 d_X12_outs_20 rfl rfl ?_
  refine tw_iload_n 1 d_X12_outs_21 rfl rfl ?_
  refine tw_iconst d_X12_outs_22 k_3 ?_
  refine tu_cVi (As := [.int x1, .int 3]) cv_X12_200 hL s_147 rfl (Nat.le_of_ble_eq_true rfl) ⟨Nat.zero_le _, Nat.zero_le _⟩ d_X12_outs_23 h (fun r2 M1 h => ?_)
  have hL_M1 : Lay c M1 := hL.to h.1
  replace h := h.2
  refine tw_icmp_ge 72 d_X12_outs_26 (by decide) (fun z3 => ?_) (fun z3 => ?_)
  · replace h := h.1 z3
    refine tw_iload_n 2 d_X12_outs_72 rfl rfl ?_
    exact tw_iret rfl ⟨Nat.zero_le _, Nat.zero_le _⟩ d_X12_outs_73 h
  · replace h := h.2 z3
    refine tw_iload_n 2 d_X12_outs_29 rfl rfl ?_
    refine tw_aload_n 0 d_X12_outs_30 rfl rfl ?_
    refine tw_aload_n 0 d_X12_outs_31 rfl rfl ?_
    refine tw_iload_n 1 d_X12_outs_32 rfl rfl ?_
    refine tw_iconst d_X12_outs_33 k_4 ?_
    refine tw_iconst d_X12_outs_34 k_2 ?_
    refine tw_iload_n 3 d_X12_outs_35 rfl rfl ?_
    refine tw_imul d_X12_outs_36 ?_
    refine tw_iadd d_X12_outs_37 ?_
    refine tu_cVi (As := [.int x1, .int (4 + (2 * x3))]) cv_X12_200 hL_M1 s_147 rfl (Nat.le_of_ble_eq_true rfl) ⟨Nat.zero_le _, Nat.zero_le _⟩ d_X12_outs_38 h (fun r5 M4 h => ?_)
    have hL_M4 : Lay c M4 := hL_M1.to h.1
    replace h := h.2
    refine tw_aload_n 0 d_X12_outs_41 rfl rfl ?_
    refine tw_iload_n 1 d_X12_outs_42 rfl rfl ?_
    refine tw_iconst d_X12_outs_43 k_5 ?_
    refine tw_iconst d_X12_outs_44 k_2 ?_
    refine tw_iload_n 3 d_X12_outs_45 rfl rfl ?_
    refine tw_imul d_X12_outs_46 ?_
    refine tw_iadd d_X12_outs_47 ?_
    refine tu_cVi (As := [.int x1, .int (5 + (2 * x3))]) cv_X12_200 hL_M4 s_147 rfl (Nat.le_of_ble_eq_true rfl) ⟨Nat.zero_le _, Nat.zero_le _⟩ d_X12_outs_48 h (fun r7 M6 h => ?_)
    have hL_M6 : Lay c M6 := hL_M4.to h.1
    replace h := h.2
    refine tu_cVi (As := [.int r5, .int r7]) cv_X12_243 hL_M6 s_147 rfl (Nat.le_of_ble_eq_true rfl) ⟨Nat.zero_le _, Nat.zero_le _⟩ d_X12_outs_51 h (fun r9 M8 h => ?_)
    have hL_M8 : Lay c M8 := hL_M6.to h.1
    replace h := h.2
    refine tw_if_eq 61 d_X12_outs_54 (by decide) (fun z10 => ?_) (fun z10 => ?_)
    · replace h := h.1 z10
      refine tw_iconst d_X12_outs_61 k_1 ?_
      refine tw_iload_n 3 d_X12_outs_62 rfl rfl ?_
      refine tw_ishl d_X12_outs_63 ?_
      refine tw_ior d_X12_outs_64 ?_
      refine tw_istore_n [(2, .int (x2 ||| (1 <<< (x3 &&& 31)))), (0, .ref (G.b + 147)), (1, .int x1), (3, .int x3)] d_X12_outs_65 rfl (Nat.le_of_ble_eq_true rfl) rfl ?_
      refine tw_iinc 3 [(3, .int (x3 + 1)), (2, .int (x2 ||| (1 <<< (x3 &&& 31)))), (0, .ref (G.b + 147)), (1, .int x1)] d_X12_outs_66 rfl rfl (Nat.le_of_ble_eq_true rfl) rfl ?_
      refine tw_goto 19 d_X12_outs_69 (by decide) ?_
      exact tw_lv [2, 3, 1, 0] rfl h
    · replace h := h.2 z10
      refine tw_iconst d_X12_outs_57 k_0 ?_
      refine tw_goto 64 d_X12_outs_58 (by decide) ?_
      refine tw_ior d_X12_outs_64 ?_
      refine tw_istore_n [(2, .int (x2 ||| 0)), (0, .ref (G.b + 147)), (1, .int x1), (3, .int x3)] d_X12_outs_65 rfl (Nat.le_of_ble_eq_true rfl) rfl ?_
      refine tw_iinc 3 [(3, .int (x3 + 1)), (2, .int (x2 ||| 0)), (0, .ref (G.b + 147)), (1, .int x1)] d_X12_outs_66 rfl rfl (Nat.le_of_ble_eq_true rfl) rfl ?_
      refine tw_goto 19 d_X12_outs_69 (by decide) ?_
      exact tw_lv [2, 3, 1, 0] rfl h
theorem b_X12_outs {G : MG} {d : Nat} {Q : Int32 → Mm → Prop} {x1 : Int32} {M : Mm} {c : Nat} (hL : Lay c M)  (h : (∀ M1 : Mm, M1 = sI M 147 0 0 → (C G Y_X12_isMap d [.ref (G.b + 147), .int x1] M1 (Ri fun r3 M2 => M2.2.2 = M1.2.2 ∧ ((¬ r3 = 0 → L_X12_outs_19 G d Q x1 0 0 M2) ∧ (r3 = 0 → Q (-1) M2)))))) : C G Y_X12_outs (d + 1) [.ref (G.b + 147), .int x1] M (Ri Q) := by
  refine C.of (by decide) (Nat.le_of_ble_eq_true rfl) (lv := [(0, .ref (G.b + 147)), (1, .int x1)]) rfl ?_
  refine tw_aload_n 0 d_X12_outs_0 rfl rfl ?_
  refine tw_iconst d_X12_outs_1 k_0 ?_
  refine tu_putI f_X12_1 hL s_147 rfl rfl d_X12_outs_2 (fun M1 e_M1 hL_M1 => ?_)
  replace h := h M1 e_M1
  refine tw_aload_n 0 d_X12_outs_5 rfl rfl ?_
  refine tw_iload_n 1 d_X12_outs_6 rfl rfl ?_
  refine tu_cVi (As := [.int x1]) cv_X12_193 hL_M1 s_147 rfl (Nat.le_of_ble_eq_true rfl) ⟨Nat.zero_le _, Nat.zero_le _⟩ d_X12_outs_7 h (fun r3 M2 h => ?_)
  have hL_M2 : Lay c M2 := hL_M1.to h.1
  replace h := h.2
  refine tw_if_ne 15 d_X12_outs_10 (by decide) (fun z4 => ?_) (fun z4 => ?_)
  · replace h := h.1 z4
    refine tw_iconst d_X12_outs_15 k_0 ?_
    refine tw_istore_n [(2, .int 0), (0, .ref (G.b + 147)), (1, .int x1)] d_X12_outs_16 rfl (Nat.le_of_ble_eq_true rfl) rfl ?_
    refine tw_iconst d_X12_outs_17 k_0 ?_
    refine tw_istore_n [(3, .int 0), (2, .int 0), (0, .ref (G.b + 147)), (1, .int x1)] d_X12_outs_18 rfl (Nat.le_of_ble_eq_true rfl) rfl ?_
    exact tw_lv [2, 3, 1, 0] rfl h
  · replace h := h.2 z4
    refine tw_iconst d_X12_outs_13 k_m1 ?_
    exact tw_iret rfl ⟨Nat.zero_le _, Nat.zero_le _⟩ d_X12_outs_14 h

theorem d_X12_fits_0 : decode Y_X12_fits.cc 0 = .ok (.iload_n 1, 1) := by decide +kernel
theorem d_X12_fits_1 : decode Y_X12_fits.cc 1 = .ok (.aload_n 0, 1) := by decide +kernel
theorem d_X12_fits_2 : decode Y_X12_fits.cc 2 = .ok (.invokevirtual 183, 3) := by decide +kernel
theorem d_X12_fits_5 : decode Y_X12_fits.cc 5 = .ok (.if_icmp .eq 8, 3) := by decide +kernel
theorem d_X12_fits_8 : decode Y_X12_fits.cc 8 = .ok (.iload_n 2, 1) := by decide +kernel
theorem d_X12_fits_9 : decode Y_X12_fits.cc 9 = .ok (.iconst 3, 1) := by decide +kernel
theorem d_X12_fits_10 : decode Y_X12_fits.cc 10 = .ok (.if_icmp .ne 74, 3) := by decide +kernel
theorem d_X12_fits_13 : decode Y_X12_fits.cc 13 = .ok (.iload 4, 2) := by decide +kernel
theorem d_X12_fits_15 : decode Y_X12_fits.cc 15 = .ok (.iload 5, 2) := by decide +kernel
theorem d_X12_fits_17 : decode Y_X12_fits.cc 17 = .ok (.if_icmp .ne 66, 3) := by decide +kernel
theorem d_X12_fits_20 : decode Y_X12_fits.cc 20 = .ok (.iload_n 2, 1) := by decide +kernel
theorem d_X12_fits_21 : decode Y_X12_fits.cc 21 = .ok (.aload_n 0, 1) := by decide +kernel
theorem d_X12_fits_22 : decode Y_X12_fits.cc 22 = .ok (.getfield 247, 3) := by decide +kernel
theorem d_X12_fits_25 : decode Y_X12_fits.cc 25 = .ok (.if_icmp .gt 58, 3) := by decide +kernel
theorem d_X12_fits_28 : decode Y_X12_fits.cc 28 = .ok (.aload_n 0, 1) := by decide +kernel
theorem d_X12_fits_29 : decode Y_X12_fits.cc 29 = .ok (.iload_n 2, 1) := by decide +kernel
theorem d_X12_fits_30 : decode Y_X12_fits.cc 30 = .ok (.aload_n 0, 1) := by decide +kernel
theorem d_X12_fits_31 : decode Y_X12_fits.cc 31 = .ok (.getfield 247, 3) := by decide +kernel
theorem d_X12_fits_34 : decode Y_X12_fits.cc 34 = .ok (.if_icmp .ge 7, 3) := by decide +kernel
theorem d_X12_fits_37 : decode Y_X12_fits.cc 37 = .ok (.iconst 1, 1) := by decide +kernel
theorem d_X12_fits_38 : decode Y_X12_fits.cc 38 = .ok (.goto 9, 3) := by decide +kernel
theorem d_X12_fits_41 : decode Y_X12_fits.cc 41 = .ok (.aload_n 0, 1) := by decide +kernel
theorem d_X12_fits_42 : decode Y_X12_fits.cc 42 = .ok (.getfield 250, 3) := by decide +kernel
theorem d_X12_fits_45 : decode Y_X12_fits.cc 45 = .ok (.iconst 1, 1) := by decide +kernel
theorem d_X12_fits_46 : decode Y_X12_fits.cc 46 = .ok (.iadd, 1) := by decide +kernel
theorem d_X12_fits_47 : decode Y_X12_fits.cc 47 = .ok (.putfield 250, 3) := by decide +kernel
theorem d_X12_fits_50 : decode Y_X12_fits.cc 50 = .ok (.aload_n 0, 1) := by decide +kernel
theorem d_X12_fits_51 : decode Y_X12_fits.cc 51 = .ok (.iload_n 2, 1) := by decide +kernel
theorem d_X12_fits_52 : decode Y_X12_fits.cc 52 = .ok (.aload_n 0, 1) := by decide +kernel
theorem d_X12_fits_53 : decode Y_X12_fits.cc 53 = .ok (.getfield 247, 3) := by decide +kernel
theorem d_X12_fits_56 : decode Y_X12_fits.cc 56 = .ok (.if_icmp .lt 11, 3) := by decide +kernel
theorem d_X12_fits_59 : decode Y_X12_fits.cc 59 = .ok (.iload_n 3, 1) := by decide +kernel
theorem d_X12_fits_60 : decode Y_X12_fits.cc 60 = .ok (.aload_n 0, 1) := by decide +kernel
theorem d_X12_fits_61 : decode Y_X12_fits.cc 61 = .ok (.getfield 253, 3) := by decide +kernel
theorem d_X12_fits_64 : decode Y_X12_fits.cc 64 = .ok (.if_icmp .ge 7, 3) := by decide +kernel
theorem d_X12_fits_67 : decode Y_X12_fits.cc 67 = .ok (.iload_n 3, 1) := by decide +kernel
theorem d_X12_fits_68 : decode Y_X12_fits.cc 68 = .ok (.goto 7, 3) := by decide +kernel
theorem d_X12_fits_71 : decode Y_X12_fits.cc 71 = .ok (.aload_n 0, 1) := by decide +kernel
theorem d_X12_fits_72 : decode Y_X12_fits.cc 72 = .ok (.getfield 253, 3) := by decide +kernel
theorem d_X12_fits_75 : decode Y_X12_fits.cc 75 = .ok (.putfield 253, 3) := by decide +kernel
theorem d_X12_fits_78 : decode Y_X12_fits.cc 78 = .ok (.aload_n 0, 1) := by decide +kernel
theorem d_X12_fits_79 : decode Y_X12_fits.cc 79 = .ok (.iload_n 2, 1) := by decide +kernel
theorem d_X12_fits_80 : decode Y_X12_fits.cc 80 = .ok (.putfield 247, 3) := by decide +kernel
theorem d_X12_fits_83 : decode Y_X12_fits.cc 83 = .ok (.return_, 1) := by decide +kernel
theorem d_X12_fits_84 : decode Y_X12_fits.cc 84 = .ok (.aload_n 0, 1) := by decide +kernel
theorem d_X12_fits_85 : decode Y_X12_fits.cc 85 = .ok (.iload_n 1, 1) := by decide +kernel
theorem d_X12_fits_86 : decode Y_X12_fits.cc 86 = .ok (.iconst 1, 1) := by decide +kernel
theorem d_X12_fits_87 : decode Y_X12_fits.cc 87 = .ok (.iadd, 1) := by decide +kernel
theorem d_X12_fits_88 : decode Y_X12_fits.cc 88 = .ok (.iload_n 2, 1) := by decide +kernel
theorem d_X12_fits_89 : decode Y_X12_fits.cc 89 = .ok (.iload_n 3, 1) := by decide +kernel
theorem d_X12_fits_90 : decode Y_X12_fits.cc 90 = .ok (.iload 4, 2) := by decide +kernel
theorem d_X12_fits_92 : decode Y_X12_fits.cc 92 = .ok (.iload 5, 2) := by decide +kernel
theorem d_X12_fits_94 : decode Y_X12_fits.cc 94 = .ok (.invokevirtual 256, 3) := by decide +kernel
theorem d_X12_fits_97 : decode Y_X12_fits.cc 97 = .ok (.iconst 0, 1) := by decide +kernel
theorem d_X12_fits_98 : decode Y_X12_fits.cc 98 = .ok (.istore 6, 2) := by decide +kernel
theorem d_X12_fits_100 : decode Y_X12_fits.cc 100 = .ok (.iload 6, 2) := by decide +kernel
theorem d_X12_fits_102 : decode Y_X12_fits.cc 102 = .ok (.aload_n 0, 1) := by decide +kernel
theorem d_X12_fits_103 : decode Y_X12_fits.cc 103 = .ok (.iload_n 1, 1) := by decide +kernel
theorem d_X12_fits_104 : decode Y_X12_fits.cc 104 = .ok (.iconst 1, 1) := by decide +kernel
theorem d_X12_fits_105 : decode Y_X12_fits.cc 105 = .ok (.invokevirtual 190, 3) := by decide +kernel
theorem d_X12_fits_108 : decode Y_X12_fits.cc 108 = .ok (.if_icmp .ge 75, 3) := by decide +kernel
theorem d_X12_fits_111 : decode Y_X12_fits.cc 111 = .ok (.iconst 0, 1) := by decide +kernel
theorem d_X12_fits_112 : decode Y_X12_fits.cc 112 = .ok (.istore 7, 2) := by decide +kernel
theorem d_X12_fits_114 : decode Y_X12_fits.cc 114 = .ok (.iload 7, 2) := by decide +kernel
theorem d_X12_fits_116 : decode Y_X12_fits.cc 116 = .ok (.aload_n 0, 1) := by decide +kernel
theorem d_X12_fits_117 : decode Y_X12_fits.cc 117 = .ok (.iload_n 1, 1) := by decide +kernel
theorem d_X12_fits_118 : decode Y_X12_fits.cc 118 = .ok (.iconst 1, 1) := by decide +kernel
theorem d_X12_fits_119 : decode Y_X12_fits.cc 119 = .ok (.invokevirtual 190, 3) := by decide +kernel
theorem d_X12_fits_122 : decode Y_X12_fits.cc 122 = .ok (.if_icmp .ge 55, 3) := by decide +kernel
theorem d_X12_fits_125 : decode Y_X12_fits.cc 125 = .ok (.iload 6, 2) := by decide +kernel
theorem d_X12_fits_127 : decode Y_X12_fits.cc 127 = .ok (.iload 7, 2) := by decide +kernel
theorem d_X12_fits_129 : decode Y_X12_fits.cc 129 = .ok (.if_icmp .eq 42, 3) := by decide +kernel
theorem d_X12_fits_132 : decode Y_X12_fits.cc 132 = .ok (.aload_n 0, 1) := by decide +kernel
theorem d_X12_fits_133 : decode Y_X12_fits.cc 133 = .ok (.iload_n 1, 1) := by decide +kernel
theorem d_X12_fits_134 : decode Y_X12_fits.cc 134 = .ok (.iconst 1, 1) := by decide +kernel
theorem d_X12_fits_135 : decode Y_X12_fits.cc 135 = .ok (.iadd, 1) := by decide +kernel
theorem d_X12_fits_136 : decode Y_X12_fits.cc 136 = .ok (.iload_n 2, 1) := by decide +kernel
theorem d_X12_fits_137 : decode Y_X12_fits.cc 137 = .ok (.iconst 1, 1) := by decide +kernel
theorem d_X12_fits_138 : decode Y_X12_fits.cc 138 = .ok (.iadd, 1) := by decide +kernel
theorem d_X12_fits_139 : decode Y_X12_fits.cc 139 = .ok (.iload_n 3, 1) := by decide +kernel
theorem d_X12_fits_140 : decode Y_X12_fits.cc 140 = .ok (.iconst 1, 1) := by decide +kernel
theorem d_X12_fits_141 : decode Y_X12_fits.cc 141 = .ok (.iload_n 1, 1) := by decide +kernel
theorem d_X12_fits_142 : decode Y_X12_fits.cc 142 = .ok (.ishl, 1) := by decide +kernel
theorem d_X12_fits_143 : decode Y_X12_fits.cc 143 = .ok (.ior, 1) := by decide +kernel
theorem d_X12_fits_144 : decode Y_X12_fits.cc 144 = .ok (.iload 4, 2) := by decide +kernel
theorem d_X12_fits_146 : decode Y_X12_fits.cc 146 = .ok (.aload_n 0, 1) := by decide +kernel
theorem d_X12_fits_147 : decode Y_X12_fits.cc 147 = .ok (.iload_n 1, 1) := by decide +kernel
theorem d_X12_fits_148 : decode Y_X12_fits.cc 148 = .ok (.iconst 2, 1) := by decide +kernel
theorem d_X12_fits_149 : decode Y_X12_fits.cc 149 = .ok (.iload 6, 2) := by decide +kernel
theorem d_X12_fits_151 : decode Y_X12_fits.cc 151 = .ok (.iadd, 1) := by decide +kernel
theorem d_X12_fits_152 : decode Y_X12_fits.cc 152 = .ok (.invokevirtual 190, 3) := by decide +kernel
theorem d_X12_fits_155 : decode Y_X12_fits.cc 155 = .ok (.imul, 1) := by decide +kernel
theorem d_X12_fits_156 : decode Y_X12_fits.cc 156 = .ok (.iload 5, 2) := by decide +kernel
theorem d_X12_fits_158 : decode Y_X12_fits.cc 158 = .ok (.aload_n 0, 1) := by decide +kernel
theorem d_X12_fits_159 : decode Y_X12_fits.cc 159 = .ok (.iload_n 1, 1) := by decide +kernel
theorem d_X12_fits_160 : decode Y_X12_fits.cc 160 = .ok (.iconst 2, 1) := by decide +kernel
theorem d_X12_fits_161 : decode Y_X12_fits.cc 161 = .ok (.iload 7, 2) := by decide +kernel
theorem d_X12_fits_163 : decode Y_X12_fits.cc 163 = .ok (.iadd, 1) := by decide +kernel
theorem d_X12_fits_164 : decode Y_X12_fits.cc 164 = .ok (.invokevirtual 190, 3) := by decide +kernel
theorem d_X12_fits_167 : decode Y_X12_fits.cc 167 = .ok (.imul, 1) := by decide +kernel
theorem d_X12_fits_168 : decode Y_X12_fits.cc 168 = .ok (.invokevirtual 256, 3) := by decide +kernel
theorem d_X12_fits_171 : decode Y_X12_fits.cc 171 = .ok (.iinc 7 1, 3) := by decide +kernel
theorem d_X12_fits_174 : decode Y_X12_fits.cc 174 = .ok (.goto (-60), 3) := by decide +kernel
theorem d_X12_fits_177 : decode Y_X12_fits.cc 177 = .ok (.iinc 6 1, 3) := by decide +kernel
theorem d_X12_fits_180 : decode Y_X12_fits.cc 180 = .ok (.goto (-80), 3) := by decide +kernel
theorem d_X12_fits_183 : decode Y_X12_fits.cc 183 = .ok (.return_, 1) := by decide +kernel
def L_X12_fits_13 (G : MG) (d : Nat) (Q : Mm → Prop) (x2 : Int32) (x3 : Int32) (x4 : Int32) (x5 : Int32) (M : Mm) : Prop := T G Y_X12_fits (d + 1) (Rv Q) 0 0 13 [(0, .ref (G.b + 147)), (2, .int x2), (3, .int x3), (4, .int x4), (5, .int x5)] [] M
def L_X12_fits_47 (G : MG) (d : Nat) (Q : Mm → Prop) (x2 : Int32) (x3 : Int32) (sx0 : Int32) (M : Mm) : Prop := T G Y_X12_fits (d + 1) (Rv Q) 0 0 47 [(0, .ref (G.b + 147)), (2, .int x2), (3, .int x3)] [.int sx0, .ref (G.b + 147)] M
def L_X12_fits_100 (G : MG) (d : Nat) (Q : Mm → Prop) (x1 : Int32) (x2 : Int32) (x3 : Int32) (x4 : Int32) (x5 : Int32) (x6 : Int32) (M : Mm) : Prop := T G Y_X12_fits (d + 1) (Rv Q) 0 0 100 [(0, .ref (G.b + 147)), (1, .int x1), (2, .int x2), (3, .int x3), (4, .int x4), (5, .int x5), (6, .int x6)] [] M
def L_X12_fits_114 (G : MG) (d : Nat) (Q : Mm → Prop) (x1 : Int32) (x2 : Int32) (x3 : Int32) (x4 : Int32) (x5 : Int32) (x6 : Int32) (x7 : Int32) (M : Mm) : Prop := T G Y_X12_fits (d + 1) (Rv Q) 0 0 114 [(0, .ref (G.b + 147)), (1, .int x1), (2, .int x2), (3, .int x3), (4, .int x4), (5, .int x5), (6, .int x6), (7, .int x7)] [] M
theorem b_X12_fits_13 {G : MG} {d : Nat} {Q : Mm → Prop} {x2 : Int32} {x3 : Int32} {x4 : Int32} {x5 : Int32} {M : Mm} {c : Nat} (hL : Lay c M)  (h : ((¬ x4 = x5 → Q M) ∧ (x4 = x5 → (((M.1 147 18) < x2 → Q M) ∧ (¬ (M.1 147 18) < x2 → (((M.1 147 18) ≤ x2 → L_X12_fits_47 G d Q x2 x3 ((M.1 147 19) + 1) M) ∧ (¬ (M.1 147 18) ≤ x2 → L_X12_fits_47 G d Q x2 x3 1 M))))))) : L_X12_fits_13 G d Q x2 x3 x4 x5 M := by
  unfold L_X12_fits_13
  refine tw_iload 3 d_X12_fits_13 rfl ?_
  refine tw_iload 4 d_X12_fits_15 rfl ?_
  refine tw_icmp_ne 83 d_X12_fits_17 (by decide) (fun z1 => ?_) (fun z1 => ?_)
  · replace h := h.1 z1
    exact tw_vret rfl ⟨Nat.zero_le _, Nat.zero_le _⟩ d_X12_fits_83 h
  · replace h := h.2 z1
    refine tw_iload_n 1 d_X12_fits_20 rfl rfl ?_
    refine tw_aload_n 0 d_X12_fits_21 rfl rfl ?_
    refine tw_getI f_X12_247 hL s_147 (Or.inl rfl) d_X12_fits_22 ?_
    refine tw_icmp_gt 83 d_X12_fits_25 (by decide) (fun z2 => ?_) (fun z2 => ?_)
    · replace h := h.1 z2
      exact tw_vret rfl ⟨Nat.zero_le _, Nat.zero_le _⟩ d_X12_fits_83 h
    · replace h := h.2 z2
      refine tw_aload_n 0 d_X12_fits_28 rfl rfl ?_
      refine tw_iload_n 1 d_X12_fits_29 rfl rfl ?_
      refine tw_aload_n 0 d_X12_fits_30 rfl rfl ?_
      refine tw_getI f_X12_247 hL s_147 (Or.inl rfl) d_X12_fits_31 ?_
      refine tw_icmp_ge 41 d_X12_fits_34 (by decide) (fun z3 => ?_) (fun z3 => ?_)
      · replace h := h.1 z3
        refine tw_aload_n 0 d_X12_fits_41 rfl rfl ?_
        refine tw_getI f_X12_250 hL s_147 (Or.inl rfl) d_X12_fits_42 ?_
        refine tw_iconst d_X12_fits_45 k_1 ?_
        refine tw_iadd d_X12_fits_46 ?_
        exact tw_lv [0, 1, 2] rfl h
      · replace h := h.2 z3
        refine tw_iconst d_X12_fits_37 k_1 ?_
        refine tw_goto 47 d_X12_fits_38 (by decide) ?_
        exact tw_lv [0, 1, 2] rfl h
theorem b_X12_fits_47 {G : MG} {d : Nat} {Q : Mm → Prop} {x2 : Int32} {x3 : Int32} {sx0 : Int32} {M : Mm} {c : Nat} (hL : Lay c M)  (h : (∀ M1 : Mm, M1 = sI M 147 19 sx0 → ((x2 < (M1.1 147 18) → (∀ M3 : Mm, M3 = sI M1 147 20 x3 → (∀ M4 : Mm, M4 = sI M3 147 18 x2 → Q M4))) ∧ (¬ x2 < (M1.1 147 18) → (((M1.1 147 20) ≤ x3 → (∀ M6 : Mm, M6 = sI M1 147 20 (M1.1 147 20) → (∀ M7 : Mm, M7 = sI M6 147 18 x2 → Q M7))) ∧ (¬ (M1.1 147 20) ≤ x3 → (∀ M8 : Mm, M8 = sI M1 147 20 x3 → (∀ M9 : Mm, M9 = sI M8 147 18 x2 → Q M9)))))))) : L_X12_fits_47 G d Q x2 x3 sx0 M := by
  unfold L_X12_fits_47
  refine tu_putI f_X12_250 hL s_147 rfl rfl d_X12_fits_47 (fun M1 e_M1 hL_M1 => ?_)
  replace h := h M1 e_M1
  refine tw_aload_n 0 d_X12_fits_50 rfl rfl ?_
  refine tw_iload_n 1 d_X12_fits_51 rfl rfl ?_
  refine tw_aload_n 0 d_X12_fits_52 rfl rfl ?_
  refine tw_getI f_X12_247 hL_M1 s_147 (Or.inl rfl) d_X12_fits_53 ?_
  refine tw_icmp_lt 67 d_X12_fits_56 (by decide) (fun z2 => ?_) (fun z2 => ?_)
  · replace h := h.1 z2
    refine tw_iload_n 2 d_X12_fits_67 rfl rfl ?_
    refine tw_goto 75 d_X12_fits_68 (by decide) ?_
    refine tu_putI f_X12_253 hL_M1 s_147 rfl rfl d_X12_fits_75 (fun M3 e_M3 hL_M3 => ?_)
    replace h := h M3 e_M3
    refine tw_aload_n 0 d_X12_fits_78 rfl rfl ?_
    refine tw_iload_n 1 d_X12_fits_79 rfl rfl ?_
    refine tu_putI f_X12_247 hL_M3 s_147 rfl rfl d_X12_fits_80 (fun M4 e_M4 hL_M4 => ?_)
    replace h := h M4 e_M4
    exact tw_vret rfl ⟨Nat.zero_le _, Nat.zero_le _⟩ d_X12_fits_83 h
  · replace h := h.2 z2
    refine tw_iload_n 2 d_X12_fits_59 rfl rfl ?_
    refine tw_aload_n 0 d_X12_fits_60 rfl rfl ?_
    refine tw_getI f_X12_253 hL_M1 s_147 (Or.inl rfl) d_X12_fits_61 ?_
    refine tw_icmp_ge 71 d_X12_fits_64 (by decide) (fun z5 => ?_) (fun z5 => ?_)
    · replace h := h.1 z5
      refine tw_aload_n 0 d_X12_fits_71 rfl rfl ?_
      refine tw_getI f_X12_253 hL_M1 s_147 (Or.inl rfl) d_X12_fits_72 ?_
      refine tu_putI f_X12_253 hL_M1 s_147 rfl rfl d_X12_fits_75 (fun M6 e_M6 hL_M6 => ?_)
      replace h := h M6 e_M6
      refine tw_aload_n 0 d_X12_fits_78 rfl rfl ?_
      refine tw_iload_n 1 d_X12_fits_79 rfl rfl ?_
      refine tu_putI f_X12_247 hL_M6 s_147 rfl rfl d_X12_fits_80 (fun M7 e_M7 hL_M7 => ?_)
      replace h := h M7 e_M7
      exact tw_vret rfl ⟨Nat.zero_le _, Nat.zero_le _⟩ d_X12_fits_83 h
    · replace h := h.2 z5
      refine tw_iload_n 2 d_X12_fits_67 rfl rfl ?_
      refine tw_goto 75 d_X12_fits_68 (by decide) ?_
      refine tu_putI f_X12_253 hL_M1 s_147 rfl rfl d_X12_fits_75 (fun M8 e_M8 hL_M8 => ?_)
      replace h := h M8 e_M8
      refine tw_aload_n 0 d_X12_fits_78 rfl rfl ?_
      refine tw_iload_n 1 d_X12_fits_79 rfl rfl ?_
      refine tu_putI f_X12_247 hL_M8 s_147 rfl rfl d_X12_fits_80 (fun M9 e_M9 hL_M9 => ?_)
      replace h := h M9 e_M9
      exact tw_vret rfl ⟨Nat.zero_le _, Nat.zero_le _⟩ d_X12_fits_83 h
theorem b_X12_fits_100 {G : MG} {d : Nat} {Q : Mm → Prop} {x1 : Int32} {x2 : Int32} {x3 : Int32} {x4 : Int32} {x5 : Int32} {x6 : Int32} {M : Mm} {c : Nat} (hL : Lay c M)  (h : (C G Y_X12_of d [.ref (G.b + 147), .int x1, .int 1] M (Ri fun r2 M1 => M1.2.2 = M.2.2 ∧ ((r2 ≤ x6 → Q M1) ∧ (¬ r2 ≤ x6 → L_X12_fits_114 G d Q x1 x2 x3 x4 x5 x6 0 M1))))) : L_X12_fits_100 G d Q x1 x2 x3 x4 x5 x6 M := by
  unfold L_X12_fits_100
  refine tw_iload 6 d_X12_fits_100 rfl ?_
  refine tw_aload_n 0 d_X12_fits_102 rfl rfl ?_
  refine tw_iload_n 1 d_X12_fits_103 rfl rfl ?_
  refine tw_iconst d_X12_fits_104 k_1 ?_
  refine tu_cVi (As := [.int x1, .int 1]) cv_X12_190 hL s_147 rfl (Nat.le_of_ble_eq_true rfl) ⟨Nat.zero_le _, Nat.zero_le _⟩ d_X12_fits_105 h (fun r2 M1 h => ?_)
  have hL_M1 : Lay c M1 := hL.to h.1
  replace h := h.2
  refine tw_icmp_ge 183 d_X12_fits_108 (by decide) (fun z3 => ?_) (fun z3 => ?_)
  · replace h := h.1 z3
    exact tw_vret rfl ⟨Nat.zero_le _, Nat.zero_le _⟩ d_X12_fits_183 h
  · replace h := h.2 z3
    refine tw_iconst d_X12_fits_111 k_0 ?_
    refine tw_istore [(7, .int 0), (0, .ref (G.b + 147)), (1, .int x1), (2, .int x2), (3, .int x3), (4, .int x4), (5, .int x5), (6, .int x6)] d_X12_fits_112 (Nat.le_of_ble_eq_true rfl) rfl ?_
    exact tw_lv [1, 2, 3, 4, 5, 6, 7, 0] rfl h
theorem b_X12_fits_114 {G : MG} {d : Nat} {Q : Mm → Prop} {x1 : Int32} {x2 : Int32} {x3 : Int32} {x4 : Int32} {x5 : Int32} {x6 : Int32} {x7 : Int32} {M : Mm} {c : Nat} (hL : Lay c M)  (h : (C G Y_X12_of d [.ref (G.b + 147), .int x1, .int 1] M (Ri fun r2 M1 => M1.2.2 = M.2.2 ∧ ((r2 ≤ x7 → L_X12_fits_100 G d Q x1 x2 x3 x4 x5 (x6 + 1) M1) ∧ (¬ r2 ≤ x7 → ((x6 = x7 → L_X12_fits_114 G d Q x1 x2 x3 x4 x5 x6 (x7 + 1) M1) ∧ (¬ x6 = x7 → (C G Y_X12_of d [.ref (G.b + 147), .int x1, .int (2 + x6)] M1 (Ri fun r6 M5 => M5.2.2 = M1.2.2 ∧ (C G Y_X12_of d [.ref (G.b + 147), .int x1, .int (2 + x7)] M5 (Ri fun r8 M7 => M7.2.2 = M5.2.2 ∧ (C G Y_X12_fits d [.ref (G.b + 147), .int (x1 + 1), .int (x2 + 1), .int (x3 ||| (1 <<< (x1 &&& 31))), .int (x4 * r6), .int (x5 * r8)] M7 (Rv fun M9 => M9.2.2 = M7.2.2 ∧ L_X12_fits_114 G d Q x1 x2 x3 x4 x5 x6 (x7 + 1) M9))))))))))))) : L_X12_fits_114 G d Q x1 x2 x3 x4 x5 x6 x7 M := by
  unfold L_X12_fits_114
  refine tw_iload 7 d_X12_fits_114 rfl ?_
  refine tw_aload_n 0 d_X12_fits_116 rfl rfl ?_
  refine tw_iload_n 1 d_X12_fits_117 rfl rfl ?_
  refine tw_iconst d_X12_fits_118 k_1 ?_
  refine tu_cVi (As := [.int x1, .int 1]) cv_X12_190 hL s_147 rfl (Nat.le_of_ble_eq_true rfl) ⟨Nat.zero_le _, Nat.zero_le _⟩ d_X12_fits_119 h (fun r2 M1 h => ?_)
  have hL_M1 : Lay c M1 := hL.to h.1
  replace h := h.2
  refine tw_icmp_ge 177 d_X12_fits_122 (by decide) (fun z3 => ?_) (fun z3 => ?_)
  · replace h := h.1 z3
    refine tw_iinc 6 [(6, .int (x6 + 1)), (0, .ref (G.b + 147)), (1, .int x1), (2, .int x2), (3, .int x3), (4, .int x4), (5, .int x5), (7, .int x7)] d_X12_fits_177 rfl rfl (Nat.le_of_ble_eq_true rfl) rfl ?_
    refine tw_goto 100 d_X12_fits_180 (by decide) ?_
    exact tw_lv [1, 2, 3, 4, 5, 6, 0] rfl h
  · replace h := h.2 z3
    refine tw_iload 6 d_X12_fits_125 rfl ?_
    refine tw_iload 7 d_X12_fits_127 rfl ?_
    refine tw_icmp_eq 171 d_X12_fits_129 (by decide) (fun z4 => ?_) (fun z4 => ?_)
    · replace h := h.1 z4
      refine tw_iinc 7 [(7, .int (x7 + 1)), (0, .ref (G.b + 147)), (1, .int x1), (2, .int x2), (3, .int x3), (4, .int x4), (5, .int x5), (6, .int x6)] d_X12_fits_171 rfl rfl (Nat.le_of_ble_eq_true rfl) rfl ?_
      refine tw_goto 114 d_X12_fits_174 (by decide) ?_
      exact tw_lv [1, 2, 3, 4, 5, 6, 7, 0] rfl h
    · replace h := h.2 z4
      refine tw_aload_n 0 d_X12_fits_132 rfl rfl ?_
      refine tw_iload_n 1 d_X12_fits_133 rfl rfl ?_
      refine tw_iconst d_X12_fits_134 k_1 ?_
      refine tw_iadd d_X12_fits_135 ?_
      refine tw_iload_n 2 d_X12_fits_136 rfl rfl ?_
      refine tw_iconst d_X12_fits_137 k_1 ?_
      refine tw_iadd d_X12_fits_138 ?_
      refine tw_iload_n 3 d_X12_fits_139 rfl rfl ?_
      refine tw_iconst d_X12_fits_140 k_1 ?_
      refine tw_iload_n 1 d_X12_fits_141 rfl rfl ?_
      refine tw_ishl d_X12_fits_142 ?_
      refine tw_ior d_X12_fits_143 ?_
      refine tw_iload 4 d_X12_fits_144 rfl ?_
      refine tw_aload_n 0 d_X12_fits_146 rfl rfl ?_
      refine tw_iload_n 1 d_X12_fits_147 rfl rfl ?_
      refine tw_iconst d_X12_fits_148 k_2 ?_
      refine tw_iload 6 d_X12_fits_149 rfl ?_
      refine tw_iadd d_X12_fits_151 ?_
      refine tu_cVi (As := [.int x1, .int (2 + x6)]) cv_X12_190 hL_M1 s_147 rfl (Nat.le_of_ble_eq_true rfl) ⟨Nat.zero_le _, Nat.zero_le _⟩ d_X12_fits_152 h (fun r6 M5 h => ?_)
      have hL_M5 : Lay c M5 := hL_M1.to h.1
      replace h := h.2
      refine tw_imul d_X12_fits_155 ?_
      refine tw_iload 5 d_X12_fits_156 rfl ?_
      refine tw_aload_n 0 d_X12_fits_158 rfl rfl ?_
      refine tw_iload_n 1 d_X12_fits_159 rfl rfl ?_
      refine tw_iconst d_X12_fits_160 k_2 ?_
      refine tw_iload 7 d_X12_fits_161 rfl ?_
      refine tw_iadd d_X12_fits_163 ?_
      refine tu_cVi (As := [.int x1, .int (2 + x7)]) cv_X12_190 hL_M5 s_147 rfl (Nat.le_of_ble_eq_true rfl) ⟨Nat.zero_le _, Nat.zero_le _⟩ d_X12_fits_164 h (fun r8 M7 h => ?_)
      have hL_M7 : Lay c M7 := hL_M5.to h.1
      replace h := h.2
      refine tw_imul d_X12_fits_167 ?_
      refine tu_cVv (As := [.int (x1 + 1), .int (x2 + 1), .int (x3 ||| (1 <<< (x1 &&& 31))), .int (x4 * r6), .int (x5 * r8)]) cv_X12_256 hL_M7 s_147 rfl (Nat.le_of_ble_eq_true rfl) ⟨Nat.zero_le _, Nat.zero_le _⟩ d_X12_fits_168 h (fun M9 h => ?_)
      have hL_M9 : Lay c M9 := hL_M7.to h.1
      replace h := h.2
      refine tw_iinc 7 [(7, .int (x7 + 1)), (0, .ref (G.b + 147)), (1, .int x1), (2, .int x2), (3, .int x3), (4, .int x4), (5, .int x5), (6, .int x6)] d_X12_fits_171 rfl rfl (Nat.le_of_ble_eq_true rfl) rfl ?_
      refine tw_goto 114 d_X12_fits_174 (by decide) ?_
      exact tw_lv [1, 2, 3, 4, 5, 6, 7, 0] rfl h
theorem b_X12_fits {G : MG} {d : Nat} {Q : Mm → Prop} {x1 : Int32} {x2 : Int32} {x3 : Int32} {x4 : Int32} {x5 : Int32} {M : Mm} {c : Nat} (hL : Lay c M)  (h : (C G Y_X12_arms d [.ref (G.b + 147)] M (Ri fun r2 M1 => M1.2.2 = M.2.2 ∧ ((x1 = r2 → L_X12_fits_13 G d Q x2 x3 x4 x5 M1) ∧ (¬ x1 = r2 → ((¬ x2 = 3 → (C G Y_X12_fits d [.ref (G.b + 147), .int (x1 + 1), .int x2, .int x3, .int x4, .int x5] M1 (Rv fun M5 => M5.2.2 = M1.2.2 ∧ L_X12_fits_100 G d Q x1 x2 x3 x4 x5 0 M5))) ∧ (x2 = 3 → L_X12_fits_13 G d Q x2 x3 x4 x5 M1))))))) : C G Y_X12_fits (d + 1) [.ref (G.b + 147), .int x1, .int x2, .int x3, .int x4, .int x5] M (Rv Q) := by
  refine C.of (by decide) (Nat.le_of_ble_eq_true rfl) (lv := [(0, .ref (G.b + 147)), (1, .int x1), (2, .int x2), (3, .int x3), (4, .int x4), (5, .int x5)]) rfl ?_
  refine tw_iload_n 1 d_X12_fits_0 rfl rfl ?_
  refine tw_aload_n 0 d_X12_fits_1 rfl rfl ?_
  refine tu_cVi (As := []) cv_X12_183 hL s_147 rfl (Nat.le_of_ble_eq_true rfl) ⟨Nat.zero_le _, Nat.zero_le _⟩ d_X12_fits_2 h (fun r2 M1 h => ?_)
  have hL_M1 : Lay c M1 := hL.to h.1
  replace h := h.2
  refine tw_icmp_eq 13 d_X12_fits_5 (by decide) (fun z3 => ?_) (fun z3 => ?_)
  · replace h := h.1 z3
    exact tw_lv [0, 2, 3, 4, 5] rfl h
  · replace h := h.2 z3
    refine tw_iload_n 2 d_X12_fits_8 rfl rfl ?_
    refine tw_iconst d_X12_fits_9 k_3 ?_
    refine tw_icmp_ne 84 d_X12_fits_10 (by decide) (fun z4 => ?_) (fun z4 => ?_)
    · replace h := h.1 z4
      refine tw_aload_n 0 d_X12_fits_84 rfl rfl ?_
      refine tw_iload_n 1 d_X12_fits_85 rfl rfl ?_
      refine tw_iconst d_X12_fits_86 k_1 ?_
      refine tw_iadd d_X12_fits_87 ?_
      refine tw_iload_n 2 d_X12_fits_88 rfl rfl ?_
      refine tw_iload_n 3 d_X12_fits_89 rfl rfl ?_
      refine tw_iload 4 d_X12_fits_90 rfl ?_
      refine tw_iload 5 d_X12_fits_92 rfl ?_
      refine tu_cVv (As := [.int (x1 + 1), .int x2, .int x3, .int x4, .int x5]) cv_X12_256 hL_M1 s_147 rfl (Nat.le_of_ble_eq_true rfl) ⟨Nat.zero_le _, Nat.zero_le _⟩ d_X12_fits_94 h (fun M5 h => ?_)
      have hL_M5 : Lay c M5 := hL_M1.to h.1
      replace h := h.2
      refine tw_iconst d_X12_fits_97 k_0 ?_
      refine tw_istore [(6, .int 0), (0, .ref (G.b + 147)), (1, .int x1), (2, .int x2), (3, .int x3), (4, .int x4), (5, .int x5)] d_X12_fits_98 (Nat.le_of_ble_eq_true rfl) rfl ?_
      exact tw_lv [1, 2, 3, 4, 5, 6, 0] rfl h
    · replace h := h.2 z4
      exact tw_lv [0, 2, 3, 4, 5] rfl h

theorem d_X12_fitted_0 : decode Y_X12_fitted.cc 0 = .ok (.aload_n 0, 1) := by decide +kernel
theorem d_X12_fitted_1 : decode Y_X12_fitted.cc 1 = .ok (.iconst 0, 1) := by decide +kernel
theorem d_X12_fitted_2 : decode Y_X12_fitted.cc 2 = .ok (.putfield 1, 3) := by decide +kernel
theorem d_X12_fitted_5 : decode Y_X12_fitted.cc 5 = .ok (.iload_n 1, 1) := by decide +kernel
theorem d_X12_fitted_6 : decode Y_X12_fitted.cc 6 = .ok (.iconst 1, 1) := by decide +kernel
theorem d_X12_fitted_7 : decode Y_X12_fitted.cc 7 = .ok (.sipush 999, 3) := by decide +kernel
theorem d_X12_fitted_10 : decode Y_X12_fitted.cc 10 = .ok (.invokestatic 196, 3) := by decide +kernel
theorem d_X12_fitted_13 : decode Y_X12_fitted.cc 13 = .ok (.ifCond .eq 23, 3) := by decide +kernel
theorem d_X12_fitted_16 : decode Y_X12_fitted.cc 16 = .ok (.iload_n 2, 1) := by decide +kernel
theorem d_X12_fitted_17 : decode Y_X12_fitted.cc 17 = .ok (.iconst 1, 1) := by decide +kernel
theorem d_X12_fitted_18 : decode Y_X12_fitted.cc 18 = .ok (.sipush 999, 3) := by decide +kernel
theorem d_X12_fitted_21 : decode Y_X12_fitted.cc 21 = .ok (.invokestatic 196, 3) := by decide +kernel
theorem d_X12_fitted_24 : decode Y_X12_fitted.cc 24 = .ok (.ifCond .eq 12, 3) := by decide +kernel
theorem d_X12_fitted_27 : decode Y_X12_fitted.cc 27 = .ok (.iload_n 3, 1) := by decide +kernel
theorem d_X12_fitted_28 : decode Y_X12_fitted.cc 28 = .ok (.iconst 0, 1) := by decide +kernel
theorem d_X12_fitted_29 : decode Y_X12_fitted.cc 29 = .ok (.iconst 2, 1) := by decide +kernel
theorem d_X12_fitted_30 : decode Y_X12_fitted.cc 30 = .ok (.invokestatic 196, 3) := by decide +kernel
theorem d_X12_fitted_33 : decode Y_X12_fitted.cc 33 = .ok (.ifCond .ne 5, 3) := by decide +kernel
theorem d_X12_fitted_36 : decode Y_X12_fitted.cc 36 = .ok (.iconst (-1), 1) := by decide +kernel
theorem d_X12_fitted_37 : decode Y_X12_fitted.cc 37 = .ok (.ireturn, 1) := by decide +kernel
theorem d_X12_fitted_38 : decode Y_X12_fitted.cc 38 = .ok (.aload_n 0, 1) := by decide +kernel
theorem d_X12_fitted_39 : decode Y_X12_fitted.cc 39 = .ok (.iconst 4, 1) := by decide +kernel
theorem d_X12_fitted_40 : decode Y_X12_fitted.cc 40 = .ok (.putfield 247, 3) := by decide +kernel
theorem d_X12_fitted_43 : decode Y_X12_fitted.cc 43 = .ok (.aload_n 0, 1) := by decide +kernel
theorem d_X12_fitted_44 : decode Y_X12_fitted.cc 44 = .ok (.iconst 0, 1) := by decide +kernel
theorem d_X12_fitted_45 : decode Y_X12_fitted.cc 45 = .ok (.putfield 250, 3) := by decide +kernel
theorem d_X12_fitted_48 : decode Y_X12_fitted.cc 48 = .ok (.aload_n 0, 1) := by decide +kernel
theorem d_X12_fitted_49 : decode Y_X12_fitted.cc 49 = .ok (.iconst 0, 1) := by decide +kernel
theorem d_X12_fitted_50 : decode Y_X12_fitted.cc 50 = .ok (.putfield 253, 3) := by decide +kernel
theorem d_X12_fitted_53 : decode Y_X12_fitted.cc 53 = .ok (.aload_n 0, 1) := by decide +kernel
theorem d_X12_fitted_54 : decode Y_X12_fitted.cc 54 = .ok (.iconst 0, 1) := by decide +kernel
theorem d_X12_fitted_55 : decode Y_X12_fitted.cc 55 = .ok (.iconst 0, 1) := by decide +kernel
theorem d_X12_fitted_56 : decode Y_X12_fitted.cc 56 = .ok (.iconst 0, 1) := by decide +kernel
theorem d_X12_fitted_57 : decode Y_X12_fitted.cc 57 = .ok (.iload_n 2, 1) := by decide +kernel
theorem d_X12_fitted_58 : decode Y_X12_fitted.cc 58 = .ok (.iload_n 1, 1) := by decide +kernel
theorem d_X12_fitted_59 : decode Y_X12_fitted.cc 59 = .ok (.invokevirtual 256, 3) := by decide +kernel
theorem d_X12_fitted_62 : decode Y_X12_fitted.cc 62 = .ok (.aload_n 0, 1) := by decide +kernel
theorem d_X12_fitted_63 : decode Y_X12_fitted.cc 63 = .ok (.getfield 247, 3) := by decide +kernel
theorem d_X12_fitted_66 : decode Y_X12_fitted.cc 66 = .ok (.iconst 4, 1) := by decide +kernel
theorem d_X12_fitted_67 : decode Y_X12_fitted.cc 67 = .ok (.if_icmp .ne 7, 3) := by decide +kernel
theorem d_X12_fitted_70 : decode Y_X12_fitted.cc 70 = .ok (.iconst (-1), 1) := by decide +kernel
theorem d_X12_fitted_71 : decode Y_X12_fitted.cc 71 = .ok (.goto 30, 3) := by decide +kernel
theorem d_X12_fitted_74 : decode Y_X12_fitted.cc 74 = .ok (.iload_n 3, 1) := by decide +kernel
theorem d_X12_fitted_75 : decode Y_X12_fitted.cc 75 = .ok (.ifCond .ne 10, 3) := by decide +kernel
theorem d_X12_fitted_78 : decode Y_X12_fitted.cc 78 = .ok (.aload_n 0, 1) := by decide +kernel
theorem d_X12_fitted_79 : decode Y_X12_fitted.cc 79 = .ok (.getfield 247, 3) := by decide +kernel
theorem d_X12_fitted_82 : decode Y_X12_fitted.cc 82 = .ok (.goto 19, 3) := by decide +kernel
theorem d_X12_fitted_85 : decode Y_X12_fitted.cc 85 = .ok (.iload_n 3, 1) := by decide +kernel
theorem d_X12_fitted_86 : decode Y_X12_fitted.cc 86 = .ok (.iconst 1, 1) := by decide +kernel
theorem d_X12_fitted_87 : decode Y_X12_fitted.cc 87 = .ok (.if_icmp .ne 10, 3) := by decide +kernel
theorem d_X12_fitted_90 : decode Y_X12_fitted.cc 90 = .ok (.aload_n 0, 1) := by decide +kernel
theorem d_X12_fitted_91 : decode Y_X12_fitted.cc 91 = .ok (.getfield 250, 3) := by decide +kernel
theorem d_X12_fitted_94 : decode Y_X12_fitted.cc 94 = .ok (.goto 7, 3) := by decide +kernel
theorem d_X12_fitted_97 : decode Y_X12_fitted.cc 97 = .ok (.aload_n 0, 1) := by decide +kernel
theorem d_X12_fitted_98 : decode Y_X12_fitted.cc 98 = .ok (.getfield 253, 3) := by decide +kernel
theorem d_X12_fitted_101 : decode Y_X12_fitted.cc 101 = .ok (.ireturn, 1) := by decide +kernel
theorem b_X12_fitted {G : MG} {d : Nat} {Q : Int32 → Mm → Prop} {x1 : Int32} {x2 : Int32} {x3 : Int32} {M : Mm} {c : Nat} (hL : Lay c M)  (h : (∀ M1 : Mm, M1 = sI M 147 0 0 → (C G Y_X12_within d [.int x1, .int 1, .int 999] M1 (Ri fun r3 M2 => M2.2.2 = M1.2.2 ∧ ((r3 = 0 → Q (-1) M2) ∧ (¬ r3 = 0 → (C G Y_X12_within d [.int x2, .int 1, .int 999] M2 (Ri fun r6 M5 => M5.2.2 = M2.2.2 ∧ ((r6 = 0 → Q (-1) M5) ∧ (¬ r6 = 0 → (C G Y_X12_within d [.int x3, .int 0, .int 2] M5 (Ri fun r9 M8 => M8.2.2 = M5.2.2 ∧ ((¬ r9 = 0 → (∀ M11 : Mm, M11 = sI M8 147 18 4 → (∀ M12 : Mm, M12 = sI M11 147 19 0 → (∀ M13 : Mm, M13 = sI M12 147 20 0 → (C G Y_X12_fits d [.ref (G.b + 147), .int 0, .int 0, .int 0, .int x2, .int x1] M13 (Rv fun M14 => M14.2.2 = M13.2.2 ∧ ((¬ (M14.1 147 18) = 4 → ((¬ x3 = 0 → ((¬ x3 = 1 → Q (M14.1 147 20) M14) ∧ (x3 = 1 → Q (M14.1 147 19) M14))) ∧ (x3 = 0 → Q (M14.1 147 18) M14))) ∧ ((M14.1 147 18) = 4 → Q (-1) M14)))))))) ∧ (r9 = 0 → Q (-1) M8)))))))))))))) : C G Y_X12_fitted (d + 1) [.ref (G.b + 147), .int x1, .int x2, .int x3] M (Ri Q) := by
  refine C.of (by decide) (Nat.le_of_ble_eq_true rfl) (lv := [(0, .ref (G.b + 147)), (1, .int x1), (2, .int x2), (3, .int x3)]) rfl ?_
  refine tw_aload_n 0 d_X12_fitted_0 rfl rfl ?_
  refine tw_iconst d_X12_fitted_1 k_0 ?_
  refine tu_putI f_X12_1 hL s_147 rfl rfl d_X12_fitted_2 (fun M1 e_M1 hL_M1 => ?_)
  replace h := h M1 e_M1
  refine tw_iload_n 1 d_X12_fitted_5 rfl rfl ?_
  refine tw_iconst d_X12_fitted_6 k_1 ?_
  refine tw_sipush d_X12_fitted_7 ks_999 ?_
  refine tu_cSi (As := [.int x1, .int 1, .int 999]) cs_X12_196 rfl (Nat.le_of_ble_eq_true rfl) ⟨Nat.zero_le _, Nat.zero_le _⟩ d_X12_fitted_10 h (fun r3 M2 h => ?_)
  have hL_M2 : Lay c M2 := hL_M1.to h.1
  replace h := h.2
  refine tw_if_eq 36 d_X12_fitted_13 (by decide) (fun z4 => ?_) (fun z4 => ?_)
  · replace h := h.1 z4
    refine tw_iconst d_X12_fitted_36 k_m1 ?_
    exact tw_iret rfl ⟨Nat.zero_le _, Nat.zero_le _⟩ d_X12_fitted_37 h
  · replace h := h.2 z4
    refine tw_iload_n 2 d_X12_fitted_16 rfl rfl ?_
    refine tw_iconst d_X12_fitted_17 k_1 ?_
    refine tw_sipush d_X12_fitted_18 ks_999 ?_
    refine tu_cSi (As := [.int x2, .int 1, .int 999]) cs_X12_196 rfl (Nat.le_of_ble_eq_true rfl) ⟨Nat.zero_le _, Nat.zero_le _⟩ d_X12_fitted_21 h (fun r6 M5 h => ?_)
    have hL_M5 : Lay c M5 := hL_M2.to h.1
    replace h := h.2
    refine tw_if_eq 36 d_X12_fitted_24 (by decide) (fun z7 => ?_) (fun z7 => ?_)
    · replace h := h.1 z7
      refine tw_iconst d_X12_fitted_36 k_m1 ?_
      exact tw_iret rfl ⟨Nat.zero_le _, Nat.zero_le _⟩ d_X12_fitted_37 h
    · replace h := h.2 z7
      refine tw_iload_n 3 d_X12_fitted_27 rfl rfl ?_
      refine tw_iconst d_X12_fitted_28 k_0 ?_
      refine tw_iconst d_X12_fitted_29 k_2 ?_
      refine tu_cSi (As := [.int x3, .int 0, .int 2]) cs_X12_196 rfl (Nat.le_of_ble_eq_true rfl) ⟨Nat.zero_le _, Nat.zero_le _⟩ d_X12_fitted_30 h (fun r9 M8 h => ?_)
      have hL_M8 : Lay c M8 := hL_M5.to h.1
      replace h := h.2
      refine tw_if_ne 38 d_X12_fitted_33 (by decide) (fun z10 => ?_) (fun z10 => ?_)
      · replace h := h.1 z10
        refine tw_aload_n 0 d_X12_fitted_38 rfl rfl ?_
        refine tw_iconst d_X12_fitted_39 k_4 ?_
        refine tu_putI f_X12_247 hL_M8 s_147 rfl rfl d_X12_fitted_40 (fun M11 e_M11 hL_M11 => ?_)
        replace h := h M11 e_M11
        refine tw_aload_n 0 d_X12_fitted_43 rfl rfl ?_
        refine tw_iconst d_X12_fitted_44 k_0 ?_
        refine tu_putI f_X12_250 hL_M11 s_147 rfl rfl d_X12_fitted_45 (fun M12 e_M12 hL_M12 => ?_)
        replace h := h M12 e_M12
        refine tw_aload_n 0 d_X12_fitted_48 rfl rfl ?_
        refine tw_iconst d_X12_fitted_49 k_0 ?_
        refine tu_putI f_X12_253 hL_M12 s_147 rfl rfl d_X12_fitted_50 (fun M13 e_M13 hL_M13 => ?_)
        replace h := h M13 e_M13
        refine tw_aload_n 0 d_X12_fitted_53 rfl rfl ?_
        refine tw_iconst d_X12_fitted_54 k_0 ?_
        refine tw_iconst d_X12_fitted_55 k_0 ?_
        refine tw_iconst d_X12_fitted_56 k_0 ?_
        refine tw_iload_n 2 d_X12_fitted_57 rfl rfl ?_
        refine tw_iload_n 1 d_X12_fitted_58 rfl rfl ?_
        refine tu_cVv (As := [.int 0, .int 0, .int 0, .int x2, .int x1]) cv_X12_256 hL_M13 s_147 rfl (Nat.le_of_ble_eq_true rfl) ⟨Nat.zero_le _, Nat.zero_le _⟩ d_X12_fitted_59 h (fun M14 h => ?_)
        have hL_M14 : Lay c M14 := hL_M13.to h.1
        replace h := h.2
        refine tw_aload_n 0 d_X12_fitted_62 rfl rfl ?_
        refine tw_getI f_X12_247 hL_M14 s_147 (Or.inl rfl) d_X12_fitted_63 ?_
        refine tw_iconst d_X12_fitted_66 k_4 ?_
        refine tw_icmp_ne 74 d_X12_fitted_67 (by decide) (fun z15 => ?_) (fun z15 => ?_)
        · replace h := h.1 z15
          refine tw_iload_n 3 d_X12_fitted_74 rfl rfl ?_
          refine tw_if_ne 85 d_X12_fitted_75 (by decide) (fun z16 => ?_) (fun z16 => ?_)
          · replace h := h.1 z16
            refine tw_iload_n 3 d_X12_fitted_85 rfl rfl ?_
            refine tw_iconst d_X12_fitted_86 k_1 ?_
            refine tw_icmp_ne 97 d_X12_fitted_87 (by decide) (fun z17 => ?_) (fun z17 => ?_)
            · replace h := h.1 z17
              refine tw_aload_n 0 d_X12_fitted_97 rfl rfl ?_
              refine tw_getI f_X12_253 hL_M14 s_147 (Or.inl rfl) d_X12_fitted_98 ?_
              exact tw_iret rfl ⟨Nat.zero_le _, Nat.zero_le _⟩ d_X12_fitted_101 h
            · replace h := h.2 z17
              refine tw_aload_n 0 d_X12_fitted_90 rfl rfl ?_
              refine tw_getI f_X12_250 hL_M14 s_147 (Or.inl rfl) d_X12_fitted_91 ?_
              refine tw_goto 101 d_X12_fitted_94 (by decide) ?_
              exact tw_iret rfl ⟨Nat.zero_le _, Nat.zero_le _⟩ d_X12_fitted_101 h
          · replace h := h.2 z16
            refine tw_aload_n 0 d_X12_fitted_78 rfl rfl ?_
            refine tw_getI f_X12_247 hL_M14 s_147 (Or.inl rfl) d_X12_fitted_79 ?_
            refine tw_goto 101 d_X12_fitted_82 (by decide) ?_
            exact tw_iret rfl ⟨Nat.zero_le _, Nat.zero_le _⟩ d_X12_fitted_101 h
        · replace h := h.2 z15
          refine tw_iconst d_X12_fitted_70 k_m1 ?_
          refine tw_goto 101 d_X12_fitted_71 (by decide) ?_
          exact tw_iret rfl ⟨Nat.zero_le _, Nat.zero_le _⟩ d_X12_fitted_101 h
      · replace h := h.2 z10
        refine tw_iconst d_X12_fitted_36 k_m1 ?_
        exact tw_iret rfl ⟨Nat.zero_le _, Nat.zero_le _⟩ d_X12_fitted_37 h

theorem d_X12_see_0 : decode Y_X12_see.cc 0 = .ok (.aload_n 0, 1) := by decide +kernel
theorem d_X12_see_1 : decode Y_X12_see.cc 1 = .ok (.iconst 0, 1) := by decide +kernel
theorem d_X12_see_2 : decode Y_X12_see.cc 2 = .ok (.putfield 1, 3) := by decide +kernel
theorem d_X12_see_5 : decode Y_X12_see.cc 5 = .ok (.iload_n 1, 1) := by decide +kernel
theorem d_X12_see_6 : decode Y_X12_see.cc 6 = .ok (.iconst 0, 1) := by decide +kernel
theorem d_X12_see_7 : decode Y_X12_see.cc 7 = .ok (.iconst 3, 1) := by decide +kernel
theorem d_X12_see_8 : decode Y_X12_see.cc 8 = .ok (.invokestatic 196, 3) := by decide +kernel
theorem d_X12_see_11 : decode Y_X12_see.cc 11 = .ok (.ifCond .eq 29, 3) := by decide +kernel
theorem d_X12_see_14 : decode Y_X12_see.cc 14 = .ok (.iload_n 2, 1) := by decide +kernel
theorem d_X12_see_15 : decode Y_X12_see.cc 15 = .ok (.sipush (-999), 3) := by decide +kernel
theorem d_X12_see_18 : decode Y_X12_see.cc 18 = .ok (.sipush 999, 3) := by decide +kernel
theorem d_X12_see_21 : decode Y_X12_see.cc 21 = .ok (.invokestatic 196, 3) := by decide +kernel
theorem d_X12_see_24 : decode Y_X12_see.cc 24 = .ok (.ifCond .eq 16, 3) := by decide +kernel
theorem d_X12_see_27 : decode Y_X12_see.cc 27 = .ok (.iload_n 3, 1) := by decide +kernel
theorem d_X12_see_28 : decode Y_X12_see.cc 28 = .ok (.sipush (-999), 3) := by decide +kernel
theorem d_X12_see_31 : decode Y_X12_see.cc 31 = .ok (.sipush 999, 3) := by decide +kernel
theorem d_X12_see_34 : decode Y_X12_see.cc 34 = .ok (.invokestatic 196, 3) := by decide +kernel
theorem d_X12_see_37 : decode Y_X12_see.cc 37 = .ok (.ifCond .ne 5, 3) := by decide +kernel
theorem d_X12_see_40 : decode Y_X12_see.cc 40 = .ok (.iconst 0, 1) := by decide +kernel
theorem d_X12_see_41 : decode Y_X12_see.cc 41 = .ok (.ireturn, 1) := by decide +kernel
theorem d_X12_see_42 : decode Y_X12_see.cc 42 = .ok (.bipush 90, 2) := by decide +kernel
theorem d_X12_see_44 : decode Y_X12_see.cc 44 = .ok (.iconst 3, 1) := by decide +kernel
theorem d_X12_see_45 : decode Y_X12_see.cc 45 = .ok (.iload_n 1, 1) := by decide +kernel
theorem d_X12_see_46 : decode Y_X12_see.cc 46 = .ok (.imul, 1) := by decide +kernel
theorem d_X12_see_47 : decode Y_X12_see.cc 47 = .ok (.iadd, 1) := by decide +kernel
theorem d_X12_see_48 : decode Y_X12_see.cc 48 = .ok (.istore 4, 2) := by decide +kernel
theorem d_X12_see_50 : decode Y_X12_see.cc 50 = .ok (.aload_n 0, 1) := by decide +kernel
theorem d_X12_see_51 : decode Y_X12_see.cc 51 = .ok (.getfield 69, 3) := by decide +kernel
theorem d_X12_see_54 : decode Y_X12_see.cc 54 = .ok (.iload 4, 2) := by decide +kernel
theorem d_X12_see_56 : decode Y_X12_see.cc 56 = .ok (.iconst 1, 1) := by decide +kernel
theorem d_X12_see_57 : decode Y_X12_see.cc 57 = .ok (.iastore, 1) := by decide +kernel
theorem d_X12_see_58 : decode Y_X12_see.cc 58 = .ok (.aload_n 0, 1) := by decide +kernel
theorem d_X12_see_59 : decode Y_X12_see.cc 59 = .ok (.getfield 69, 3) := by decide +kernel
theorem d_X12_see_62 : decode Y_X12_see.cc 62 = .ok (.iload 4, 2) := by decide +kernel
theorem d_X12_see_64 : decode Y_X12_see.cc 64 = .ok (.iconst 1, 1) := by decide +kernel
theorem d_X12_see_65 : decode Y_X12_see.cc 65 = .ok (.iadd, 1) := by decide +kernel
theorem d_X12_see_66 : decode Y_X12_see.cc 66 = .ok (.iload_n 2, 1) := by decide +kernel
theorem d_X12_see_67 : decode Y_X12_see.cc 67 = .ok (.iastore, 1) := by decide +kernel
theorem d_X12_see_68 : decode Y_X12_see.cc 68 = .ok (.aload_n 0, 1) := by decide +kernel
theorem d_X12_see_69 : decode Y_X12_see.cc 69 = .ok (.getfield 69, 3) := by decide +kernel
theorem d_X12_see_72 : decode Y_X12_see.cc 72 = .ok (.iload 4, 2) := by decide +kernel
theorem d_X12_see_74 : decode Y_X12_see.cc 74 = .ok (.iconst 2, 1) := by decide +kernel
theorem d_X12_see_75 : decode Y_X12_see.cc 75 = .ok (.iadd, 1) := by decide +kernel
theorem d_X12_see_76 : decode Y_X12_see.cc 76 = .ok (.iload_n 3, 1) := by decide +kernel
theorem d_X12_see_77 : decode Y_X12_see.cc 77 = .ok (.iastore, 1) := by decide +kernel
theorem d_X12_see_78 : decode Y_X12_see.cc 78 = .ok (.iconst 1, 1) := by decide +kernel
theorem d_X12_see_79 : decode Y_X12_see.cc 79 = .ok (.ireturn, 1) := by decide +kernel
theorem b_X12_see {G : MG} {d : Nat} {Q : Int32 → Mm → Prop} {x1 : Int32} {x2 : Int32} {x3 : Int32} {M : Mm} {c : Nat} (hL : Lay c M)  (h : (∀ M1 : Mm, M1 = sI M 147 0 0 → (C G Y_X12_within d [.int x1, .int 0, .int 3] M1 (Ri fun r3 M2 => M2.2.2 = M1.2.2 ∧ ((r3 = 0 → Q 0 M2) ∧ (¬ r3 = 0 → (C G Y_X12_within d [.int x2, .int (-999), .int 999] M2 (Ri fun r6 M5 => M5.2.2 = M2.2.2 ∧ ((r6 = 0 → Q 0 M5) ∧ (¬ r6 = 0 → (C G Y_X12_within d [.int x3, .int (-999), .int 999] M5 (Ri fun r9 M8 => M8.2.2 = M5.2.2 ∧ ((¬ r9 = 0 → (vp_in (90 + (3 * x1)) 660 ∧ ∀ M11 : Mm, M11 = sI M8 153 (90 + (3 * x1)).toNatClampNeg 1 → (vp_in ((90 + (3 * x1)) + 1) 660 ∧ ∀ M12 : Mm, M12 = sI M11 153 ((90 + (3 * x1)) + 1).toNatClampNeg x2 → (vp_in ((90 + (3 * x1)) + 2) 660 ∧ ∀ M13 : Mm, M13 = sI M12 153 ((90 + (3 * x1)) + 2).toNatClampNeg x3 → Q 1 M13)))) ∧ (r9 = 0 → Q 0 M8)))))))))))))) : C G Y_X12_see (d + 1) [.ref (G.b + 147), .int x1, .int x2, .int x3] M (Ri Q) := by
  refine C.of (by decide) (Nat.le_of_ble_eq_true rfl) (lv := [(0, .ref (G.b + 147)), (1, .int x1), (2, .int x2), (3, .int x3)]) rfl ?_
  refine tw_aload_n 0 d_X12_see_0 rfl rfl ?_
  refine tw_iconst d_X12_see_1 k_0 ?_
  refine tu_putI f_X12_1 hL s_147 rfl rfl d_X12_see_2 (fun M1 e_M1 hL_M1 => ?_)
  replace h := h M1 e_M1
  refine tw_iload_n 1 d_X12_see_5 rfl rfl ?_
  refine tw_iconst d_X12_see_6 k_0 ?_
  refine tw_iconst d_X12_see_7 k_3 ?_
  refine tu_cSi (As := [.int x1, .int 0, .int 3]) cs_X12_196 rfl (Nat.le_of_ble_eq_true rfl) ⟨Nat.zero_le _, Nat.zero_le _⟩ d_X12_see_8 h (fun r3 M2 h => ?_)
  have hL_M2 : Lay c M2 := hL_M1.to h.1
  replace h := h.2
  refine tw_if_eq 40 d_X12_see_11 (by decide) (fun z4 => ?_) (fun z4 => ?_)
  · replace h := h.1 z4
    refine tw_iconst d_X12_see_40 k_0 ?_
    exact tw_zret (ty := .boolean) rfl rfl ⟨Nat.zero_le _, Nat.zero_le _⟩ d_X12_see_41 h
  · replace h := h.2 z4
    refine tw_iload_n 2 d_X12_see_14 rfl rfl ?_
    refine tw_sipush d_X12_see_15 ks_m999 ?_
    refine tw_sipush d_X12_see_18 ks_999 ?_
    refine tu_cSi (As := [.int x2, .int (-999), .int 999]) cs_X12_196 rfl (Nat.le_of_ble_eq_true rfl) ⟨Nat.zero_le _, Nat.zero_le _⟩ d_X12_see_21 h (fun r6 M5 h => ?_)
    have hL_M5 : Lay c M5 := hL_M2.to h.1
    replace h := h.2
    refine tw_if_eq 40 d_X12_see_24 (by decide) (fun z7 => ?_) (fun z7 => ?_)
    · replace h := h.1 z7
      refine tw_iconst d_X12_see_40 k_0 ?_
      exact tw_zret (ty := .boolean) rfl rfl ⟨Nat.zero_le _, Nat.zero_le _⟩ d_X12_see_41 h
    · replace h := h.2 z7
      refine tw_iload_n 3 d_X12_see_27 rfl rfl ?_
      refine tw_sipush d_X12_see_28 ks_m999 ?_
      refine tw_sipush d_X12_see_31 ks_999 ?_
      refine tu_cSi (As := [.int x3, .int (-999), .int 999]) cs_X12_196 rfl (Nat.le_of_ble_eq_true rfl) ⟨Nat.zero_le _, Nat.zero_le _⟩ d_X12_see_34 h (fun r9 M8 h => ?_)
      have hL_M8 : Lay c M8 := hL_M5.to h.1
      replace h := h.2
      refine tw_if_ne 42 d_X12_see_37 (by decide) (fun z10 => ?_) (fun z10 => ?_)
      · replace h := h.1 z10
        refine tw_bipush d_X12_see_42 kb_90 ?_
        refine tw_iconst d_X12_see_44 k_3 ?_
        refine tw_iload_n 1 d_X12_see_45 rfl rfl ?_
        refine tw_imul d_X12_see_46 ?_
        refine tw_iadd d_X12_see_47 ?_
        refine tw_istore [(4, .int (90 + (3 * x1))), (0, .ref (G.b + 147)), (1, .int x1), (2, .int x2), (3, .int x3)] d_X12_see_48 (Nat.le_of_ble_eq_true rfl) rfl ?_
        refine tw_aload_n 1 d_X12_see_50 rfl rfl ?_
        refine tw_getR f_X12_69 hL_M8 s_147 ⟨rfl, rfl⟩ (rr_X12_10 s_147) d_X12_see_51 ?_
        refine tw_iload 0 d_X12_see_54 rfl ?_
        refine tw_iconst d_X12_see_56 k_1 ?_
        refine tu_iast hL_M8 s_153 d_X12_see_57 h.1 (fun M11 e_M11 hL_M11 => ?_)
        replace h := h.2 M11 e_M11
        refine tw_aload_n 1 d_X12_see_58 rfl rfl ?_
        refine tw_getR f_X12_69 hL_M11 s_147 ⟨rfl, rfl⟩ (rr_X12_10 s_147) d_X12_see_59 ?_
        refine tw_iload 0 d_X12_see_62 rfl ?_
        refine tw_iconst d_X12_see_64 k_1 ?_
        refine tw_iadd d_X12_see_65 ?_
        refine tw_iload_n 3 d_X12_see_66 rfl rfl ?_
        refine tu_iast hL_M11 s_153 d_X12_see_67 h.1 (fun M12 e_M12 hL_M12 => ?_)
        replace h := h.2 M12 e_M12
        refine tw_aload_n 1 d_X12_see_68 rfl rfl ?_
        refine tw_getR f_X12_69 hL_M12 s_147 ⟨rfl, rfl⟩ (rr_X12_10 s_147) d_X12_see_69 ?_
        refine tw_iload 0 d_X12_see_72 rfl ?_
        refine tw_iconst d_X12_see_74 k_2 ?_
        refine tw_iadd d_X12_see_75 ?_
        refine tw_iload_n 4 d_X12_see_76 rfl rfl ?_
        refine tu_iast hL_M12 s_153 d_X12_see_77 h.1 (fun M13 e_M13 hL_M13 => ?_)
        replace h := h.2 M13 e_M13
        refine tw_iconst d_X12_see_78 k_1 ?_
        exact tw_zret (ty := .boolean) rfl rfl ⟨Nat.zero_le _, Nat.zero_le _⟩ d_X12_see_79 h
      · replace h := h.2 z10
        refine tw_iconst d_X12_see_40 k_0 ?_
        exact tw_zret (ty := .boolean) rfl rfl ⟨Nat.zero_le _, Nat.zero_le _⟩ d_X12_see_41 h

theorem d_X12_clear_0 : decode Y_X12_clear.cc 0 = .ok (.aload_n 0, 1) := by decide +kernel
theorem d_X12_clear_1 : decode Y_X12_clear.cc 1 = .ok (.iconst 0, 1) := by decide +kernel
theorem d_X12_clear_2 : decode Y_X12_clear.cc 2 = .ok (.putfield 1, 3) := by decide +kernel
theorem d_X12_clear_5 : decode Y_X12_clear.cc 5 = .ok (.iconst 0, 1) := by decide +kernel
theorem d_X12_clear_6 : decode Y_X12_clear.cc 6 = .ok (.istore_n 1, 1) := by decide +kernel
theorem d_X12_clear_7 : decode Y_X12_clear.cc 7 = .ok (.iload_n 1, 1) := by decide +kernel
theorem d_X12_clear_8 : decode Y_X12_clear.cc 8 = .ok (.iconst 4, 1) := by decide +kernel
theorem d_X12_clear_9 : decode Y_X12_clear.cc 9 = .ok (.if_icmp .ge 21, 3) := by decide +kernel
theorem d_X12_clear_12 : decode Y_X12_clear.cc 12 = .ok (.aload_n 0, 1) := by decide +kernel
theorem d_X12_clear_13 : decode Y_X12_clear.cc 13 = .ok (.getfield 69, 3) := by decide +kernel
theorem d_X12_clear_16 : decode Y_X12_clear.cc 16 = .ok (.bipush 90, 2) := by decide +kernel
theorem d_X12_clear_18 : decode Y_X12_clear.cc 18 = .ok (.iconst 3, 1) := by decide +kernel
theorem d_X12_clear_19 : decode Y_X12_clear.cc 19 = .ok (.iload_n 1, 1) := by decide +kernel
theorem d_X12_clear_20 : decode Y_X12_clear.cc 20 = .ok (.imul, 1) := by decide +kernel
theorem d_X12_clear_21 : decode Y_X12_clear.cc 21 = .ok (.iadd, 1) := by decide +kernel
theorem d_X12_clear_22 : decode Y_X12_clear.cc 22 = .ok (.iconst 0, 1) := by decide +kernel
theorem d_X12_clear_23 : decode Y_X12_clear.cc 23 = .ok (.iastore, 1) := by decide +kernel
theorem d_X12_clear_24 : decode Y_X12_clear.cc 24 = .ok (.iinc 1 1, 3) := by decide +kernel
theorem d_X12_clear_27 : decode Y_X12_clear.cc 27 = .ok (.goto (-20), 3) := by decide +kernel
theorem d_X12_clear_30 : decode Y_X12_clear.cc 30 = .ok (.iconst 1, 1) := by decide +kernel
theorem d_X12_clear_31 : decode Y_X12_clear.cc 31 = .ok (.ireturn, 1) := by decide +kernel
def L_X12_clear_7 (G : MG) (d : Nat) (Q : Int32 → Mm → Prop) (x1 : Int32) (M : Mm) : Prop := T G Y_X12_clear (d + 1) (Ri Q) 0 0 7 [(0, .ref (G.b + 147)), (1, .int x1)] [] M
theorem b_X12_clear_7 {G : MG} {d : Nat} {Q : Int32 → Mm → Prop} {x1 : Int32} {M : Mm} {c : Nat} (hL : Lay c M)  (h : ((4 ≤ x1 → Q 1 M) ∧ (¬ 4 ≤ x1 → (vp_in (90 + (3 * x1)) 660 ∧ ∀ M2 : Mm, M2 = sI M 153 (90 + (3 * x1)).toNatClampNeg 0 → L_X12_clear_7 G d Q (x1 + 1) M2)))) : L_X12_clear_7 G d Q x1 M := by
  unfold L_X12_clear_7
  refine tw_iload_n 1 d_X12_clear_7 rfl rfl ?_
  refine tw_iconst d_X12_clear_8 k_4 ?_
  refine tw_icmp_ge 30 d_X12_clear_9 (by decide) (fun z1 => ?_) (fun z1 => ?_)
  · replace h := h.1 z1
    refine tw_iconst d_X12_clear_30 k_1 ?_
    exact tw_zret (ty := .boolean) rfl rfl ⟨Nat.zero_le _, Nat.zero_le _⟩ d_X12_clear_31 h
  · replace h := h.2 z1
    refine tw_aload_n 0 d_X12_clear_12 rfl rfl ?_
    refine tw_getR f_X12_69 hL s_147 ⟨rfl, rfl⟩ (rr_X12_10 s_147) d_X12_clear_13 ?_
    refine tw_bipush d_X12_clear_16 kb_90 ?_
    refine tw_iconst d_X12_clear_18 k_3 ?_
    refine tw_iload_n 1 d_X12_clear_19 rfl rfl ?_
    refine tw_imul d_X12_clear_20 ?_
    refine tw_iadd d_X12_clear_21 ?_
    refine tw_iconst d_X12_clear_22 k_0 ?_
    refine tu_iast hL s_153 d_X12_clear_23 h.1 (fun M2 e_M2 hL_M2 => ?_)
    replace h := h.2 M2 e_M2
    refine tw_iinc 1 [(1, .int (x1 + 1)), (0, .ref (G.b + 147))] d_X12_clear_24 rfl rfl (Nat.le_of_ble_eq_true rfl) rfl ?_
    refine tw_goto 7 d_X12_clear_27 (by decide) ?_
    exact tw_lv [1, 0] rfl h
theorem b_X12_clear {G : MG} {d : Nat} {Q : Int32 → Mm → Prop}  {M : Mm} {c : Nat} (hL : Lay c M)  (h : (∀ M1 : Mm, M1 = sI M 147 0 0 → L_X12_clear_7 G d Q 0 M1)) : C G Y_X12_clear (d + 1) [.ref (G.b + 147)] M (Ri Q) := by
  refine C.of (by decide) (Nat.le_of_ble_eq_true rfl) (lv := [(0, .ref (G.b + 147))]) rfl ?_
  refine tw_aload_n 0 d_X12_clear_0 rfl rfl ?_
  refine tw_iconst d_X12_clear_1 k_0 ?_
  refine tu_putI f_X12_1 hL s_147 rfl rfl d_X12_clear_2 (fun M1 e_M1 hL_M1 => ?_)
  replace h := h M1 e_M1
  refine tw_iconst d_X12_clear_5 k_0 ?_
  refine tw_istore_n [(1, .int 0), (0, .ref (G.b + 147))] d_X12_clear_6 rfl (Nat.le_of_ble_eq_true rfl) rfl ?_
  exact tw_lv [1, 0] rfl h

theorem d_X12_seen_0 : decode Y_X12_seen.cc 0 = .ok (.iconst 0, 1) := by decide +kernel
theorem d_X12_seen_1 : decode Y_X12_seen.cc 1 = .ok (.istore_n 1, 1) := by decide +kernel
theorem d_X12_seen_2 : decode Y_X12_seen.cc 2 = .ok (.iconst 0, 1) := by decide +kernel
theorem d_X12_seen_3 : decode Y_X12_seen.cc 3 = .ok (.istore_n 2, 1) := by decide +kernel
theorem d_X12_seen_4 : decode Y_X12_seen.cc 4 = .ok (.iload_n 2, 1) := by decide +kernel
theorem d_X12_seen_5 : decode Y_X12_seen.cc 5 = .ok (.iconst 4, 1) := by decide +kernel
theorem d_X12_seen_6 : decode Y_X12_seen.cc 6 = .ok (.if_icmp .ge 23, 3) := by decide +kernel
theorem d_X12_seen_9 : decode Y_X12_seen.cc 9 = .ok (.iload_n 1, 1) := by decide +kernel
theorem d_X12_seen_10 : decode Y_X12_seen.cc 10 = .ok (.aload_n 0, 1) := by decide +kernel
theorem d_X12_seen_11 : decode Y_X12_seen.cc 11 = .ok (.getfield 69, 3) := by decide +kernel
theorem d_X12_seen_14 : decode Y_X12_seen.cc 14 = .ok (.bipush 90, 2) := by decide +kernel
theorem d_X12_seen_16 : decode Y_X12_seen.cc 16 = .ok (.iconst 3, 1) := by decide +kernel
theorem d_X12_seen_17 : decode Y_X12_seen.cc 17 = .ok (.iload_n 2, 1) := by decide +kernel
theorem d_X12_seen_18 : decode Y_X12_seen.cc 18 = .ok (.imul, 1) := by decide +kernel
theorem d_X12_seen_19 : decode Y_X12_seen.cc 19 = .ok (.iadd, 1) := by decide +kernel
theorem d_X12_seen_20 : decode Y_X12_seen.cc 20 = .ok (.iaload, 1) := by decide +kernel
theorem d_X12_seen_21 : decode Y_X12_seen.cc 21 = .ok (.iadd, 1) := by decide +kernel
theorem d_X12_seen_22 : decode Y_X12_seen.cc 22 = .ok (.istore_n 1, 1) := by decide +kernel
theorem d_X12_seen_23 : decode Y_X12_seen.cc 23 = .ok (.iinc 2 1, 3) := by decide +kernel
theorem d_X12_seen_26 : decode Y_X12_seen.cc 26 = .ok (.goto (-22), 3) := by decide +kernel
theorem d_X12_seen_29 : decode Y_X12_seen.cc 29 = .ok (.iload_n 1, 1) := by decide +kernel
theorem d_X12_seen_30 : decode Y_X12_seen.cc 30 = .ok (.ireturn, 1) := by decide +kernel
def L_X12_seen_4 (G : MG) (d : Nat) (Q : Int32 → Mm → Prop) (x1 : Int32) (x2 : Int32) (M : Mm) : Prop := T G Y_X12_seen (d + 1) (Ri Q) 0 0 4 [(0, .ref (G.b + 147)), (1, .int x1), (2, .int x2)] [] M
theorem b_X12_seen_4 {G : MG} {d : Nat} {Q : Int32 → Mm → Prop} {x1 : Int32} {x2 : Int32} {M : Mm} {c : Nat} (hL : Lay c M)  (h : ((4 ≤ x2 → Q x1 M) ∧ (¬ 4 ≤ x2 → (vp_in (90 + (3 * x2)) 660 ∧ L_X12_seen_4 G d Q (x1 + (M.1 153 (90 + (3 * x2)).toNatClampNeg)) (x2 + 1) M)))) : L_X12_seen_4 G d Q x1 x2 M := by
  unfold L_X12_seen_4
  refine tw_iload_n 2 d_X12_seen_4 rfl rfl ?_
  refine tw_iconst d_X12_seen_5 k_4 ?_
  refine tw_icmp_ge 29 d_X12_seen_6 (by decide) (fun z1 => ?_) (fun z1 => ?_)
  · replace h := h.1 z1
    refine tw_iload_n 1 d_X12_seen_29 rfl rfl ?_
    exact tw_iret rfl ⟨Nat.zero_le _, Nat.zero_le _⟩ d_X12_seen_30 h
  · replace h := h.2 z1
    refine tw_iload_n 1 d_X12_seen_9 rfl rfl ?_
    refine tw_aload_n 0 d_X12_seen_10 rfl rfl ?_
    refine tw_getR f_X12_69 hL s_147 ⟨rfl, rfl⟩ (rr_X12_10 s_147) d_X12_seen_11 ?_
    refine tw_bipush d_X12_seen_14 kb_90 ?_
    refine tw_iconst d_X12_seen_16 k_3 ?_
    refine tw_iload_n 2 d_X12_seen_17 rfl rfl ?_
    refine tw_imul d_X12_seen_18 ?_
    refine tw_iadd d_X12_seen_19 ?_
    refine tw_iald hL s_153 d_X12_seen_20 h.1 ?_
    replace h := h.2
    refine tw_iadd d_X12_seen_21 ?_
    refine tw_istore_n [(1, .int (x1 + (M.1 153 (90 + (3 * x2)).toNatClampNeg))), (0, .ref (G.b + 147)), (2, .int x2)] d_X12_seen_22 rfl (Nat.le_of_ble_eq_true rfl) rfl ?_
    refine tw_iinc 2 [(2, .int (x2 + 1)), (1, .int (x1 + (M.1 153 (90 + (3 * x2)).toNatClampNeg))), (0, .ref (G.b + 147))] d_X12_seen_23 rfl rfl (Nat.le_of_ble_eq_true rfl) rfl ?_
    refine tw_goto 4 d_X12_seen_26 (by decide) ?_
    exact tw_lv [2, 1, 0] rfl h
theorem b_X12_seen {G : MG} {d : Nat} {Q : Int32 → Mm → Prop}  {M : Mm} {c : Nat} (hL : Lay c M)  (h : L_X12_seen_4 G d Q 0 0 M) : C G Y_X12_seen (d + 1) [.ref (G.b + 147)] M (Ri Q) := by
  refine C.of (by decide) (Nat.le_of_ble_eq_true rfl) (lv := [(0, .ref (G.b + 147))]) rfl ?_
  refine tw_iconst d_X12_seen_0 k_0 ?_
  refine tw_istore_n [(1, .int 0), (0, .ref (G.b + 147))] d_X12_seen_1 rfl (Nat.le_of_ble_eq_true rfl) rfl ?_
  refine tw_iconst d_X12_seen_2 k_0 ?_
  refine tw_istore_n [(2, .int 0), (1, .int 0), (0, .ref (G.b + 147))] d_X12_seen_3 rfl (Nat.le_of_ble_eq_true rfl) rfl ?_
  exact tw_lv [2, 1, 0] rfl h

theorem d_X12_drawsAll_0 : decode Y_X12_drawsAll.cc 0 = .ok (.iconst 1, 1) := by decide +kernel
theorem d_X12_drawsAll_1 : decode Y_X12_drawsAll.cc 1 = .ok (.istore_n 3, 1) := by decide +kernel
theorem d_X12_drawsAll_2 : decode Y_X12_drawsAll.cc 2 = .ok (.iconst 0, 1) := by decide +kernel
theorem d_X12_drawsAll_3 : decode Y_X12_drawsAll.cc 3 = .ok (.istore 4, 2) := by decide +kernel
theorem d_X12_drawsAll_5 : decode Y_X12_drawsAll.cc 5 = .ok (.iload 4, 2) := by decide +kernel
theorem d_X12_drawsAll_7 : decode Y_X12_drawsAll.cc 7 = .ok (.iconst 4, 1) := by decide +kernel
theorem d_X12_drawsAll_8 : decode Y_X12_drawsAll.cc 8 = .ok (.if_icmp .ge 125, 3) := by decide +kernel
theorem d_X12_drawsAll_11 : decode Y_X12_drawsAll.cc 11 = .ok (.iload_n 3, 1) := by decide +kernel
theorem d_X12_drawsAll_12 : decode Y_X12_drawsAll.cc 12 = .ok (.ifCond .eq 121, 3) := by decide +kernel
theorem d_X12_drawsAll_15 : decode Y_X12_drawsAll.cc 15 = .ok (.bipush 90, 2) := by decide +kernel
theorem d_X12_drawsAll_17 : decode Y_X12_drawsAll.cc 17 = .ok (.iconst 3, 1) := by decide +kernel
theorem d_X12_drawsAll_18 : decode Y_X12_drawsAll.cc 18 = .ok (.iload 4, 2) := by decide +kernel
theorem d_X12_drawsAll_20 : decode Y_X12_drawsAll.cc 20 = .ok (.imul, 1) := by decide +kernel
theorem d_X12_drawsAll_21 : decode Y_X12_drawsAll.cc 21 = .ok (.iadd, 1) := by decide +kernel
theorem d_X12_drawsAll_22 : decode Y_X12_drawsAll.cc 22 = .ok (.istore 5, 2) := by decide +kernel
theorem d_X12_drawsAll_24 : decode Y_X12_drawsAll.cc 24 = .ok (.aload_n 0, 1) := by decide +kernel
theorem d_X12_drawsAll_25 : decode Y_X12_drawsAll.cc 25 = .ok (.getfield 69, 3) := by decide +kernel
theorem d_X12_drawsAll_28 : decode Y_X12_drawsAll.cc 28 = .ok (.iload 5, 2) := by decide +kernel
theorem d_X12_drawsAll_30 : decode Y_X12_drawsAll.cc 30 = .ok (.iaload, 1) := by decide +kernel
theorem d_X12_drawsAll_31 : decode Y_X12_drawsAll.cc 31 = .ok (.iconst 1, 1) := by decide +kernel
theorem d_X12_drawsAll_32 : decode Y_X12_drawsAll.cc 32 = .ok (.if_icmp .ne 95, 3) := by decide +kernel
theorem d_X12_drawsAll_35 : decode Y_X12_drawsAll.cc 35 = .ok (.aload_n 0, 1) := by decide +kernel
theorem d_X12_drawsAll_36 : decode Y_X12_drawsAll.cc 36 = .ok (.iload 4, 2) := by decide +kernel
theorem d_X12_drawsAll_38 : decode Y_X12_drawsAll.cc 38 = .ok (.iconst 1, 1) := by decide +kernel
theorem d_X12_drawsAll_39 : decode Y_X12_drawsAll.cc 39 = .ok (.if_icmp .eq 9, 3) := by decide +kernel
theorem d_X12_drawsAll_42 : decode Y_X12_drawsAll.cc 42 = .ok (.iload 4, 2) := by decide +kernel
theorem d_X12_drawsAll_44 : decode Y_X12_drawsAll.cc 44 = .ok (.iconst 2, 1) := by decide +kernel
theorem d_X12_drawsAll_45 : decode Y_X12_drawsAll.cc 45 = .ok (.if_icmp .ne 8, 3) := by decide +kernel
theorem d_X12_drawsAll_48 : decode Y_X12_drawsAll.cc 48 = .ok (.bipush 10, 2) := by decide +kernel
theorem d_X12_drawsAll_50 : decode Y_X12_drawsAll.cc 50 = .ok (.goto 4, 3) := by decide +kernel
theorem d_X12_drawsAll_53 : decode Y_X12_drawsAll.cc 53 = .ok (.iconst 0, 1) := by decide +kernel
theorem d_X12_drawsAll_54 : decode Y_X12_drawsAll.cc 54 = .ok (.iload 4, 2) := by decide +kernel
theorem d_X12_drawsAll_56 : decode Y_X12_drawsAll.cc 56 = .ok (.iconst 1, 1) := by decide +kernel
theorem d_X12_drawsAll_57 : decode Y_X12_drawsAll.cc 57 = .ok (.if_icmp .le 8, 3) := by decide +kernel
theorem d_X12_drawsAll_60 : decode Y_X12_drawsAll.cc 60 = .ok (.bipush 10, 2) := by decide +kernel
theorem d_X12_drawsAll_62 : decode Y_X12_drawsAll.cc 62 = .ok (.goto 4, 3) := by decide +kernel
theorem d_X12_drawsAll_65 : decode Y_X12_drawsAll.cc 65 = .ok (.iconst 0, 1) := by decide +kernel
theorem d_X12_drawsAll_66 : decode Y_X12_drawsAll.cc 66 = .ok (.invokevirtual 221, 3) := by decide +kernel
theorem d_X12_drawsAll_69 : decode Y_X12_drawsAll.cc 69 = .ok (.aload_n 0, 1) := by decide +kernel
theorem d_X12_drawsAll_70 : decode Y_X12_drawsAll.cc 70 = .ok (.iload_n 1, 1) := by decide +kernel
theorem d_X12_drawsAll_71 : decode Y_X12_drawsAll.cc 71 = .ok (.iload_n 2, 1) := by decide +kernel
theorem d_X12_drawsAll_72 : decode Y_X12_drawsAll.cc 72 = .ok (.invokevirtual 230, 3) := by decide +kernel
theorem d_X12_drawsAll_75 : decode Y_X12_drawsAll.cc 75 = .ok (.aload_n 0, 1) := by decide +kernel
theorem d_X12_drawsAll_76 : decode Y_X12_drawsAll.cc 76 = .ok (.getfield 207, 3) := by decide +kernel
theorem d_X12_drawsAll_79 : decode Y_X12_drawsAll.cc 79 = .ok (.aload_n 0, 1) := by decide +kernel
theorem d_X12_drawsAll_80 : decode Y_X12_drawsAll.cc 80 = .ok (.getfield 69, 3) := by decide +kernel
theorem d_X12_drawsAll_83 : decode Y_X12_drawsAll.cc 83 = .ok (.iload 5, 2) := by decide +kernel
theorem d_X12_drawsAll_85 : decode Y_X12_drawsAll.cc 85 = .ok (.iconst 1, 1) := by decide +kernel
theorem d_X12_drawsAll_86 : decode Y_X12_drawsAll.cc 86 = .ok (.iadd, 1) := by decide +kernel
theorem d_X12_drawsAll_87 : decode Y_X12_drawsAll.cc 87 = .ok (.iaload, 1) := by decide +kernel
theorem d_X12_drawsAll_88 : decode Y_X12_drawsAll.cc 88 = .ok (.i2l, 1) := by decide +kernel
theorem d_X12_drawsAll_89 : decode Y_X12_drawsAll.cc 89 = .ok (.aload_n 0, 1) := by decide +kernel
theorem d_X12_drawsAll_90 : decode Y_X12_drawsAll.cc 90 = .ok (.getfield 214, 3) := by decide +kernel
theorem d_X12_drawsAll_93 : decode Y_X12_drawsAll.cc 93 = .ok (.lmul, 1) := by decide +kernel
theorem d_X12_drawsAll_94 : decode Y_X12_drawsAll.cc 94 = .ok (.lcmp, 1) := by decide +kernel
theorem d_X12_drawsAll_95 : decode Y_X12_drawsAll.cc 95 = .ok (.ifCond .ne 30, 3) := by decide +kernel
theorem d_X12_drawsAll_98 : decode Y_X12_drawsAll.cc 98 = .ok (.aload_n 0, 1) := by decide +kernel
theorem d_X12_drawsAll_99 : decode Y_X12_drawsAll.cc 99 = .ok (.getfield 211, 3) := by decide +kernel
theorem d_X12_drawsAll_102 : decode Y_X12_drawsAll.cc 102 = .ok (.aload_n 0, 1) := by decide +kernel
theorem d_X12_drawsAll_103 : decode Y_X12_drawsAll.cc 103 = .ok (.getfield 69, 3) := by decide +kernel
theorem d_X12_drawsAll_106 : decode Y_X12_drawsAll.cc 106 = .ok (.iload 5, 2) := by decide +kernel
theorem d_X12_drawsAll_108 : decode Y_X12_drawsAll.cc 108 = .ok (.iconst 2, 1) := by decide +kernel
theorem d_X12_drawsAll_109 : decode Y_X12_drawsAll.cc 109 = .ok (.iadd, 1) := by decide +kernel
theorem d_X12_drawsAll_110 : decode Y_X12_drawsAll.cc 110 = .ok (.iaload, 1) := by decide +kernel
theorem d_X12_drawsAll_111 : decode Y_X12_drawsAll.cc 111 = .ok (.i2l, 1) := by decide +kernel
theorem d_X12_drawsAll_112 : decode Y_X12_drawsAll.cc 112 = .ok (.aload_n 0, 1) := by decide +kernel
theorem d_X12_drawsAll_113 : decode Y_X12_drawsAll.cc 113 = .ok (.getfield 214, 3) := by decide +kernel
theorem d_X12_drawsAll_116 : decode Y_X12_drawsAll.cc 116 = .ok (.lmul, 1) := by decide +kernel
theorem d_X12_drawsAll_117 : decode Y_X12_drawsAll.cc 117 = .ok (.lcmp, 1) := by decide +kernel
theorem d_X12_drawsAll_118 : decode Y_X12_drawsAll.cc 118 = .ok (.ifCond .ne 7, 3) := by decide +kernel
theorem d_X12_drawsAll_121 : decode Y_X12_drawsAll.cc 121 = .ok (.iconst 1, 1) := by decide +kernel
theorem d_X12_drawsAll_122 : decode Y_X12_drawsAll.cc 122 = .ok (.goto 4, 3) := by decide +kernel
theorem d_X12_drawsAll_125 : decode Y_X12_drawsAll.cc 125 = .ok (.iconst 0, 1) := by decide +kernel
theorem d_X12_drawsAll_126 : decode Y_X12_drawsAll.cc 126 = .ok (.istore_n 3, 1) := by decide +kernel
theorem d_X12_drawsAll_127 : decode Y_X12_drawsAll.cc 127 = .ok (.iinc 4 1, 3) := by decide +kernel
theorem d_X12_drawsAll_130 : decode Y_X12_drawsAll.cc 130 = .ok (.goto (-125), 3) := by decide +kernel
theorem d_X12_drawsAll_133 : decode Y_X12_drawsAll.cc 133 = .ok (.iload_n 3, 1) := by decide +kernel
theorem d_X12_drawsAll_134 : decode Y_X12_drawsAll.cc 134 = .ok (.ireturn, 1) := by decide +kernel
def L_X12_drawsAll_5 (G : MG) (d : Nat) (Q : Int32 → Mm → Prop) (x1 : Int32) (x2 : Int32) (x3 : Int32) (x4 : Int32) (M : Mm) : Prop := T G Y_X12_drawsAll (d + 1) (Ri Q) 0 0 5 [(0, .ref (G.b + 147)), (1, .int x1), (2, .int x2), (3, .int x3), (4, .int x4)] [] M
def L_X12_drawsAll_66 (G : MG) (d : Nat) (Q : Int32 → Mm → Prop) (x1 : Int32) (x2 : Int32) (x4 : Int32) (x5 : Int32) (sx0 : Int32) (sx1 : Int32) (M : Mm) : Prop := T G Y_X12_drawsAll (d + 1) (Ri Q) 0 0 66 [(0, .ref (G.b + 147)), (1, .int x1), (2, .int x2), (4, .int x4), (5, .int x5)] [.int sx0, .int sx1, .ref (G.b + 147)] M
theorem b_X12_drawsAll_5 {G : MG} {d : Nat} {Q : Int32 → Mm → Prop} {x1 : Int32} {x2 : Int32} {x3 : Int32} {x4 : Int32} {M : Mm} {c : Nat} (hL : Lay c M)  (h : ((4 ≤ x4 → ((x3 = 0 ∨ x3 = 1) ∧ Q x3 M)) ∧ (¬ 4 ≤ x4 → ((x3 = 0 → ((x3 = 0 ∨ x3 = 1) ∧ Q x3 M)) ∧ (¬ x3 = 0 → (vp_in (90 + (3 * x4)) 660 ∧ ((¬ (M.1 153 (90 + (3 * x4)).toNatClampNeg) = 1 → L_X12_drawsAll_5 G d Q x1 x2 x3 (x4 + 1) M) ∧ ((M.1 153 (90 + (3 * x4)).toNatClampNeg) = 1 → ((x4 = 1 → ((x4 ≤ 1 → L_X12_drawsAll_66 G d Q x1 x2 x4 (90 + (3 * x4)) 0 10 M) ∧ (¬ x4 ≤ 1 → L_X12_drawsAll_66 G d Q x1 x2 x4 (90 + (3 * x4)) 10 10 M))) ∧ (¬ x4 = 1 → ((¬ x4 = 2 → ((x4 ≤ 1 → L_X12_drawsAll_66 G d Q x1 x2 x4 (90 + (3 * x4)) 0 0 M) ∧ (¬ x4 ≤ 1 → L_X12_drawsAll_66 G d Q x1 x2 x4 (90 + (3 * x4)) 10 0 M))) ∧ (x4 = 2 → ((x4 ≤ 1 → L_X12_drawsAll_66 G d Q x1 x2 x4 (90 + (3 * x4)) 0 10 M) ∧ (¬ x4 ≤ 1 → L_X12_drawsAll_66 G d Q x1 x2 x4 (90 + (3 * x4)) 10 10 M)))))))))))))) : L_X12_drawsAll_5 G d Q x1 x2 x3 x4 M := by
  unfold L_X12_drawsAll_5
  refine tw_iload 4 d_X12_drawsAll_5 rfl ?_
  refine tw_iconst d_X12_drawsAll_7 k_4 ?_
  refine tw_icmp_ge 133 d_X12_drawsAll_8 (by decide) (fun z1 => ?_) (fun z1 => ?_)
  · replace h := h.1 z1
    refine tw_iload_n 3 d_X12_drawsAll_133 rfl rfl ?_
    exact tw_zret (ty := .boolean) rfl (nzb h.1) ⟨Nat.zero_le _, Nat.zero_le _⟩ d_X12_drawsAll_134 h.2
  · replace h := h.2 z1
    refine tw_iload_n 3 d_X12_drawsAll_11 rfl rfl ?_
    refine tw_if_eq 133 d_X12_drawsAll_12 (by decide) (fun z2 => ?_) (fun z2 => ?_)
    · replace h := h.1 z2
      refine tw_iload_n 3 d_X12_drawsAll_133 rfl rfl ?_
      exact tw_zret (ty := .boolean) rfl (nzb h.1) ⟨Nat.zero_le _, Nat.zero_le _⟩ d_X12_drawsAll_134 h.2
    · replace h := h.2 z2
      refine tw_bipush d_X12_drawsAll_15 kb_90 ?_
      refine tw_iconst d_X12_drawsAll_17 k_3 ?_
      refine tw_iload 4 d_X12_drawsAll_18 rfl ?_
      refine tw_imul d_X12_drawsAll_20 ?_
      refine tw_iadd d_X12_drawsAll_21 ?_
      refine tw_istore [(5, .int (90 + (3 * x4))), (0, .ref (G.b + 147)), (1, .int x1), (2, .int x2), (3, .int x3), (4, .int x4)] d_X12_drawsAll_22 (Nat.le_of_ble_eq_true rfl) rfl ?_
      refine tw_aload_n 1 d_X12_drawsAll_24 rfl rfl ?_
      refine tw_getR f_X12_69 hL s_147 ⟨rfl, rfl⟩ (rr_X12_10 s_147) d_X12_drawsAll_25 ?_
      refine tw_iload 0 d_X12_drawsAll_28 rfl ?_
      refine tw_iald hL s_153 d_X12_drawsAll_30 h.1 ?_
      replace h := h.2
      refine tw_iconst d_X12_drawsAll_31 k_1 ?_
      refine tw_icmp_ne 127 d_X12_drawsAll_32 (by decide) (fun z3 => ?_) (fun z3 => ?_)
      · replace h := h.1 z3
        refine tw_iinc 5 [(4, .int (x4 + 1)), (5, .int (90 + (3 * x4))), (0, .ref (G.b + 147)), (1, .int x1), (2, .int x2), (3, .int x3)] d_X12_drawsAll_127 rfl rfl (Nat.le_of_ble_eq_true rfl) rfl ?_
        refine tw_goto 5 d_X12_drawsAll_130 (by decide) ?_
        exact tw_lv [2, 3, 4, 5, 0] rfl h
      · replace h := h.2 z3
        refine tw_aload_n 1 d_X12_drawsAll_35 rfl rfl ?_
        refine tw_iload 5 d_X12_drawsAll_36 rfl ?_
        refine tw_iconst d_X12_drawsAll_38 k_1 ?_
        refine tw_icmp_eq 48 d_X12_drawsAll_39 (by decide) (fun z4 => ?_) (fun z4 => ?_)
        · replace h := h.1 z4
          refine tw_bipush d_X12_drawsAll_48 kb_10 ?_
          refine tw_goto 54 d_X12_drawsAll_50 (by decide) ?_
          refine tw_iload 5 d_X12_drawsAll_54 rfl ?_
          refine tw_iconst d_X12_drawsAll_56 k_1 ?_
          refine tw_icmp_le 65 d_X12_drawsAll_57 (by decide) (fun z5 => ?_) (fun z5 => ?_)
          · replace h := h.1 z5
            refine tw_iconst d_X12_drawsAll_65 k_0 ?_
            exact tw_lv [1, 2, 3, 5, 0] rfl h
          · replace h := h.2 z5
            refine tw_bipush d_X12_drawsAll_60 kb_10 ?_
            refine tw_goto 66 d_X12_drawsAll_62 (by decide) ?_
            exact tw_lv [1, 2, 3, 5, 0] rfl h
        · replace h := h.2 z4
          refine tw_iload 5 d_X12_drawsAll_42 rfl ?_
          refine tw_iconst d_X12_drawsAll_44 k_2 ?_
          refine tw_icmp_ne 53 d_X12_drawsAll_45 (by decide) (fun z6 => ?_) (fun z6 => ?_)
          · replace h := h.1 z6
            refine tw_iconst d_X12_drawsAll_53 k_0 ?_
            refine tw_iload 5 d_X12_drawsAll_54 rfl ?_
            refine tw_iconst d_X12_drawsAll_56 k_1 ?_
            refine tw_icmp_le 65 d_X12_drawsAll_57 (by decide) (fun z7 => ?_) (fun z7 => ?_)
            · replace h := h.1 z7
              refine tw_iconst d_X12_drawsAll_65 k_0 ?_
              exact tw_lv [1, 2, 3, 5, 0] rfl h
            · replace h := h.2 z7
              refine tw_bipush d_X12_drawsAll_60 kb_10 ?_
              refine tw_goto 66 d_X12_drawsAll_62 (by decide) ?_
              exact tw_lv [1, 2, 3, 5, 0] rfl h
          · replace h := h.2 z6
            refine tw_bipush d_X12_drawsAll_48 kb_10 ?_
            refine tw_goto 54 d_X12_drawsAll_50 (by decide) ?_
            refine tw_iload 5 d_X12_drawsAll_54 rfl ?_
            refine tw_iconst d_X12_drawsAll_56 k_1 ?_
            refine tw_icmp_le 65 d_X12_drawsAll_57 (by decide) (fun z8 => ?_) (fun z8 => ?_)
            · replace h := h.1 z8
              refine tw_iconst d_X12_drawsAll_65 k_0 ?_
              exact tw_lv [1, 2, 3, 5, 0] rfl h
            · replace h := h.2 z8
              refine tw_bipush d_X12_drawsAll_60 kb_10 ?_
              refine tw_goto 66 d_X12_drawsAll_62 (by decide) ?_
              exact tw_lv [1, 2, 3, 5, 0] rfl h
theorem b_X12_drawsAll_66 {G : MG} {d : Nat} {Q : Int32 → Mm → Prop} {x1 : Int32} {x2 : Int32} {x4 : Int32} {x5 : Int32} {sx0 : Int32} {sx1 : Int32} {M : Mm} {c : Nat} (hL : Lay c M)  (h : (C G Y_X12_starts d [.ref (G.b + 147), .int sx1, .int sx0] M (Rv fun M1 => M1.2.2 = M.2.2 ∧ (C G Y_X12_traces d [.ref (G.b + 147), .int x1, .int x2] M1 (Rv fun M2 => M2.2.2 = M1.2.2 ∧ (vp_in (x5 + 1) 660 ∧ ((¬ (M2.2.1 147 15) = (((M2.1 153 (x5 + 1).toNatClampNeg).toInt64) * (M2.2.1 147 17)) → L_X12_drawsAll_5 G d Q x1 x2 0 (x4 + 1) M2) ∧ ((M2.2.1 147 15) = (((M2.1 153 (x5 + 1).toNatClampNeg).toInt64) * (M2.2.1 147 17)) → (vp_in (x5 + 2) 660 ∧ ((¬ (M2.2.1 147 16) = (((M2.1 153 (x5 + 2).toNatClampNeg).toInt64) * (M2.2.1 147 17)) → L_X12_drawsAll_5 G d Q x1 x2 0 (x4 + 1) M2) ∧ ((M2.2.1 147 16) = (((M2.1 153 (x5 + 2).toNatClampNeg).toInt64) * (M2.2.1 147 17)) → L_X12_drawsAll_5 G d Q x1 x2 1 (x4 + 1) M2))))))))))) : L_X12_drawsAll_66 G d Q x1 x2 x4 x5 sx0 sx1 M := by
  unfold L_X12_drawsAll_66
  refine tu_cVv (As := [.int sx1, .int sx0]) cv_X12_221 hL s_147 rfl (Nat.le_of_ble_eq_true rfl) ⟨Nat.zero_le _, Nat.zero_le _⟩ d_X12_drawsAll_66 h (fun M1 h => ?_)
  have hL_M1 : Lay c M1 := hL.to h.1
  replace h := h.2
  refine tw_aload_n 0 d_X12_drawsAll_69 rfl rfl ?_
  refine tw_iload_n 1 d_X12_drawsAll_70 rfl rfl ?_
  refine tw_iload_n 2 d_X12_drawsAll_71 rfl rfl ?_
  refine tu_cVv (As := [.int x1, .int x2]) cv_X12_230 hL_M1 s_147 rfl (Nat.le_of_ble_eq_true rfl) ⟨Nat.zero_le _, Nat.zero_le _⟩ d_X12_drawsAll_72 h (fun M2 h => ?_)
  have hL_M2 : Lay c M2 := hL_M1.to h.1
  replace h := h.2
  refine tw_aload_n 0 d_X12_drawsAll_75 rfl rfl ?_
  refine tw_getJ f_X12_207 hL_M2 s_147 rfl d_X12_drawsAll_76 ?_
  refine tw_aload_n 0 d_X12_drawsAll_79 rfl rfl ?_
  refine tw_getR f_X12_69 hL_M2 s_147 ⟨rfl, rfl⟩ (rr_X12_10 s_147) d_X12_drawsAll_80 ?_
  refine tw_iload 4 d_X12_drawsAll_83 rfl ?_
  refine tw_iconst d_X12_drawsAll_85 k_1 ?_
  refine tw_iadd d_X12_drawsAll_86 ?_
  refine tw_iald hL_M2 s_153 d_X12_drawsAll_87 h.1 ?_
  replace h := h.2
  refine tw_i2l d_X12_drawsAll_88 ?_
  refine tw_aload_n 0 d_X12_drawsAll_89 rfl rfl ?_
  refine tw_getJ f_X12_214 hL_M2 s_147 rfl d_X12_drawsAll_90 ?_
  refine tw_lmul d_X12_drawsAll_93 ?_
  refine tw_lcmp_ne 125 d_X12_drawsAll_94 d_X12_drawsAll_95 (by decide) (fun z3 => ?_) (fun z3 => ?_)
  · replace h := h.1 z3
    refine tw_iconst d_X12_drawsAll_125 k_0 ?_
    refine tw_istore_n [(3, .int 0), (0, .ref (G.b + 147)), (1, .int x1), (2, .int x2), (4, .int x4), (5, .int x5)] d_X12_drawsAll_126 rfl (Nat.le_of_ble_eq_true rfl) rfl ?_
    refine tw_iinc 4 [(4, .int (x4 + 1)), (3, .int 0), (0, .ref (G.b + 147)), (1, .int x1), (2, .int x2), (5, .int x5)] d_X12_drawsAll_127 rfl rfl (Nat.le_of_ble_eq_true rfl) rfl ?_
    refine tw_goto 5 d_X12_drawsAll_130 (by decide) ?_
    exact tw_lv [2, 3, 4, 1, 0] rfl h
  · replace h := h.2 z3
    refine tw_aload_n 0 d_X12_drawsAll_98 rfl rfl ?_
    refine tw_getJ f_X12_211 hL_M2 s_147 rfl d_X12_drawsAll_99 ?_
    refine tw_aload_n 0 d_X12_drawsAll_102 rfl rfl ?_
    refine tw_getR f_X12_69 hL_M2 s_147 ⟨rfl, rfl⟩ (rr_X12_10 s_147) d_X12_drawsAll_103 ?_
    refine tw_iload 4 d_X12_drawsAll_106 rfl ?_
    refine tw_iconst d_X12_drawsAll_108 k_2 ?_
    refine tw_iadd d_X12_drawsAll_109 ?_
    refine tw_iald hL_M2 s_153 d_X12_drawsAll_110 h.1 ?_
    replace h := h.2
    refine tw_i2l d_X12_drawsAll_111 ?_
    refine tw_aload_n 0 d_X12_drawsAll_112 rfl rfl ?_
    refine tw_getJ f_X12_214 hL_M2 s_147 rfl d_X12_drawsAll_113 ?_
    refine tw_lmul d_X12_drawsAll_116 ?_
    refine tw_lcmp_ne 125 d_X12_drawsAll_117 d_X12_drawsAll_118 (by decide) (fun z4 => ?_) (fun z4 => ?_)
    · replace h := h.1 z4
      refine tw_iconst d_X12_drawsAll_125 k_0 ?_
      refine tw_istore_n [(3, .int 0), (0, .ref (G.b + 147)), (1, .int x1), (2, .int x2), (4, .int x4), (5, .int x5)] d_X12_drawsAll_126 rfl (Nat.le_of_ble_eq_true rfl) rfl ?_
      refine tw_iinc 4 [(4, .int (x4 + 1)), (3, .int 0), (0, .ref (G.b + 147)), (1, .int x1), (2, .int x2), (5, .int x5)] d_X12_drawsAll_127 rfl rfl (Nat.le_of_ble_eq_true rfl) rfl ?_
      refine tw_goto 5 d_X12_drawsAll_130 (by decide) ?_
      exact tw_lv [2, 3, 4, 1, 0] rfl h
    · replace h := h.2 z4
      refine tw_iconst d_X12_drawsAll_121 k_1 ?_
      refine tw_goto 126 d_X12_drawsAll_122 (by decide) ?_
      refine tw_istore_n [(3, .int 1), (0, .ref (G.b + 147)), (1, .int x1), (2, .int x2), (4, .int x4), (5, .int x5)] d_X12_drawsAll_126 rfl (Nat.le_of_ble_eq_true rfl) rfl ?_
      refine tw_iinc 4 [(4, .int (x4 + 1)), (3, .int 1), (0, .ref (G.b + 147)), (1, .int x1), (2, .int x2), (5, .int x5)] d_X12_drawsAll_127 rfl rfl (Nat.le_of_ble_eq_true rfl) rfl ?_
      refine tw_goto 5 d_X12_drawsAll_130 (by decide) ?_
      exact tw_lv [2, 3, 4, 1, 0] rfl h
theorem b_X12_drawsAll {G : MG} {d : Nat} {Q : Int32 → Mm → Prop} {x1 : Int32} {x2 : Int32} {M : Mm} {c : Nat} (hL : Lay c M)  (h : L_X12_drawsAll_5 G d Q x1 x2 1 0 M) : C G Y_X12_drawsAll (d + 1) [.ref (G.b + 147), .int x1, .int x2] M (Ri Q) := by
  refine C.of (by decide) (Nat.le_of_ble_eq_true rfl) (lv := [(0, .ref (G.b + 147)), (1, .int x1), (2, .int x2)]) rfl ?_
  refine tw_iconst d_X12_drawsAll_0 k_1 ?_
  refine tw_istore_n [(3, .int 1), (0, .ref (G.b + 147)), (1, .int x1), (2, .int x2)] d_X12_drawsAll_1 rfl (Nat.le_of_ble_eq_true rfl) rfl ?_
  refine tw_iconst d_X12_drawsAll_2 k_0 ?_
  refine tw_istore [(4, .int 0), (3, .int 1), (0, .ref (G.b + 147)), (1, .int x1), (2, .int x2)] d_X12_drawsAll_3 (Nat.le_of_ble_eq_true rfl) rfl ?_
  exact tw_lv [2, 3, 4, 1, 0] rfl h

theorem d_X12_findBend_0 : decode Y_X12_findBend.cc 0 = .ok (.bipush (-9), 2) := by decide +kernel
theorem d_X12_findBend_2 : decode Y_X12_findBend.cc 2 = .ok (.istore_n 2, 1) := by decide +kernel
theorem d_X12_findBend_3 : decode Y_X12_findBend.cc 3 = .ok (.iload_n 2, 1) := by decide +kernel
theorem d_X12_findBend_4 : decode Y_X12_findBend.cc 4 = .ok (.bipush 10, 2) := by decide +kernel
theorem d_X12_findBend_6 : decode Y_X12_findBend.cc 6 = .ok (.if_icmp .ge 20, 3) := by decide +kernel
theorem d_X12_findBend_9 : decode Y_X12_findBend.cc 9 = .ok (.aload_n 0, 1) := by decide +kernel
theorem d_X12_findBend_10 : decode Y_X12_findBend.cc 10 = .ok (.iload_n 1, 1) := by decide +kernel
theorem d_X12_findBend_11 : decode Y_X12_findBend.cc 11 = .ok (.iload_n 2, 1) := by decide +kernel
theorem d_X12_findBend_12 : decode Y_X12_findBend.cc 12 = .ok (.invokevirtual 260, 3) := by decide +kernel
theorem d_X12_findBend_15 : decode Y_X12_findBend.cc 15 = .ok (.ifCond .eq 5, 3) := by decide +kernel
theorem d_X12_findBend_18 : decode Y_X12_findBend.cc 18 = .ok (.iload_n 2, 1) := by decide +kernel
theorem d_X12_findBend_19 : decode Y_X12_findBend.cc 19 = .ok (.ireturn, 1) := by decide +kernel
theorem d_X12_findBend_20 : decode Y_X12_findBend.cc 20 = .ok (.iinc 2 1, 3) := by decide +kernel
theorem d_X12_findBend_23 : decode Y_X12_findBend.cc 23 = .ok (.goto (-20), 3) := by decide +kernel
theorem d_X12_findBend_26 : decode Y_X12_findBend.cc 26 = .ok (.bipush 99, 2) := by decide +kernel
theorem d_X12_findBend_28 : decode Y_X12_findBend.cc 28 = .ok (.ireturn, 1) := by decide +kernel
def L_X12_findBend_3 (G : MG) (d : Nat) (Q : Int32 → Mm → Prop) (x1 : Int32) (x2 : Int32) (M : Mm) : Prop := T G Y_X12_findBend (d + 1) (Ri Q) 0 0 3 [(0, .ref (G.b + 147)), (1, .int x1), (2, .int x2)] [] M
theorem b_X12_findBend_3 {G : MG} {d : Nat} {Q : Int32 → Mm → Prop} {x1 : Int32} {x2 : Int32} {M : Mm} {c : Nat} (hL : Lay c M)  (h : ((10 ≤ x2 → Q 99 M) ∧ (¬ 10 ≤ x2 → (C G Y_X12_drawsAll d [.ref (G.b + 147), .int x1, .int x2] M (Ri fun r3 M2 => M2.2.2 = M.2.2 ∧ ((r3 = 0 → L_X12_findBend_3 G d Q x1 (x2 + 1) M2) ∧ (¬ r3 = 0 → Q x2 M2))))))) : L_X12_findBend_3 G d Q x1 x2 M := by
  unfold L_X12_findBend_3
  refine tw_iload_n 2 d_X12_findBend_3 rfl rfl ?_
  refine tw_bipush d_X12_findBend_4 kb_10 ?_
  refine tw_icmp_ge 26 d_X12_findBend_6 (by decide) (fun z1 => ?_) (fun z1 => ?_)
  · replace h := h.1 z1
    refine tw_bipush d_X12_findBend_26 kb_99 ?_
    exact tw_iret rfl ⟨Nat.zero_le _, Nat.zero_le _⟩ d_X12_findBend_28 h
  · replace h := h.2 z1
    refine tw_aload_n 0 d_X12_findBend_9 rfl rfl ?_
    refine tw_iload_n 1 d_X12_findBend_10 rfl rfl ?_
    refine tw_iload_n 2 d_X12_findBend_11 rfl rfl ?_
    refine tu_cVi (As := [.int x1, .int x2]) cv_X12_260 hL s_147 rfl (Nat.le_of_ble_eq_true rfl) ⟨Nat.zero_le _, Nat.zero_le _⟩ d_X12_findBend_12 h (fun r3 M2 h => ?_)
    have hL_M2 : Lay c M2 := hL.to h.1
    replace h := h.2
    refine tw_if_eq 20 d_X12_findBend_15 (by decide) (fun z4 => ?_) (fun z4 => ?_)
    · replace h := h.1 z4
      refine tw_iinc 2 [(2, .int (x2 + 1)), (0, .ref (G.b + 147)), (1, .int x1)] d_X12_findBend_20 rfl rfl (Nat.le_of_ble_eq_true rfl) rfl ?_
      refine tw_goto 3 d_X12_findBend_23 (by decide) ?_
      exact tw_lv [1, 2, 0] rfl h
    · replace h := h.2 z4
      refine tw_iload_n 2 d_X12_findBend_18 rfl rfl ?_
      exact tw_iret rfl ⟨Nat.zero_le _, Nat.zero_le _⟩ d_X12_findBend_19 h
theorem b_X12_findBend {G : MG} {d : Nat} {Q : Int32 → Mm → Prop} {x1 : Int32} {M : Mm} {c : Nat} (hL : Lay c M)  (h : L_X12_findBend_3 G d Q x1 (-9) M) : C G Y_X12_findBend (d + 1) [.ref (G.b + 147), .int x1] M (Ri Q) := by
  refine C.of (by decide) (Nat.le_of_ble_eq_true rfl) (lv := [(0, .ref (G.b + 147)), (1, .int x1)]) rfl ?_
  refine tw_bipush d_X12_findBend_0 kb_m9 ?_
  refine tw_istore_n [(2, .int (-9)), (0, .ref (G.b + 147)), (1, .int x1)] d_X12_findBend_2 rfl (Nat.le_of_ble_eq_true rfl) rfl ?_
  exact tw_lv [1, 2, 0] rfl h

theorem d_X12_suspects_0 : decode Y_X12_suspects.cc 0 = .ok (.aload_n 0, 1) := by decide +kernel
theorem d_X12_suspects_1 : decode Y_X12_suspects.cc 1 = .ok (.iconst 0, 1) := by decide +kernel
theorem d_X12_suspects_2 : decode Y_X12_suspects.cc 2 = .ok (.putfield 1, 3) := by decide +kernel
theorem d_X12_suspects_5 : decode Y_X12_suspects.cc 5 = .ok (.aload_n 0, 1) := by decide +kernel
theorem d_X12_suspects_6 : decode Y_X12_suspects.cc 6 = .ok (.invokevirtual 263, 3) := by decide +kernel
theorem d_X12_suspects_9 : decode Y_X12_suspects.cc 9 = .ok (.ifCond .ne 5, 3) := by decide +kernel
theorem d_X12_suspects_12 : decode Y_X12_suspects.cc 12 = .ok (.iconst (-1), 1) := by decide +kernel
theorem d_X12_suspects_13 : decode Y_X12_suspects.cc 13 = .ok (.ireturn, 1) := by decide +kernel
theorem d_X12_suspects_14 : decode Y_X12_suspects.cc 14 = .ok (.iconst 0, 1) := by decide +kernel
theorem d_X12_suspects_15 : decode Y_X12_suspects.cc 15 = .ok (.istore_n 1, 1) := by decide +kernel
theorem d_X12_suspects_16 : decode Y_X12_suspects.cc 16 = .ok (.iconst 0, 1) := by decide +kernel
theorem d_X12_suspects_17 : decode Y_X12_suspects.cc 17 = .ok (.istore_n 2, 1) := by decide +kernel
theorem d_X12_suspects_18 : decode Y_X12_suspects.cc 18 = .ok (.iload_n 2, 1) := by decide +kernel
theorem d_X12_suspects_19 : decode Y_X12_suspects.cc 19 = .ok (.aload_n 0, 1) := by decide +kernel
theorem d_X12_suspects_20 : decode Y_X12_suspects.cc 20 = .ok (.invokevirtual 183, 3) := by decide +kernel
theorem d_X12_suspects_23 : decode Y_X12_suspects.cc 23 = .ok (.if_icmp .ge 29, 3) := by decide +kernel
theorem d_X12_suspects_26 : decode Y_X12_suspects.cc 26 = .ok (.iload_n 1, 1) := by decide +kernel
theorem d_X12_suspects_27 : decode Y_X12_suspects.cc 27 = .ok (.aload_n 0, 1) := by decide +kernel
theorem d_X12_suspects_28 : decode Y_X12_suspects.cc 28 = .ok (.iload_n 2, 1) := by decide +kernel
theorem d_X12_suspects_29 : decode Y_X12_suspects.cc 29 = .ok (.invokevirtual 266, 3) := by decide +kernel
theorem d_X12_suspects_32 : decode Y_X12_suspects.cc 32 = .ok (.bipush 99, 2) := by decide +kernel
theorem d_X12_suspects_34 : decode Y_X12_suspects.cc 34 = .ok (.if_icmp .ge 9, 3) := by decide +kernel
theorem d_X12_suspects_37 : decode Y_X12_suspects.cc 37 = .ok (.iconst 1, 1) := by decide +kernel
theorem d_X12_suspects_38 : decode Y_X12_suspects.cc 38 = .ok (.iload_n 2, 1) := by decide +kernel
theorem d_X12_suspects_39 : decode Y_X12_suspects.cc 39 = .ok (.ishl, 1) := by decide +kernel
theorem d_X12_suspects_40 : decode Y_X12_suspects.cc 40 = .ok (.goto 4, 3) := by decide +kernel
theorem d_X12_suspects_43 : decode Y_X12_suspects.cc 43 = .ok (.iconst 0, 1) := by decide +kernel
theorem d_X12_suspects_44 : decode Y_X12_suspects.cc 44 = .ok (.ior, 1) := by decide +kernel
theorem d_X12_suspects_45 : decode Y_X12_suspects.cc 45 = .ok (.istore_n 1, 1) := by decide +kernel
theorem d_X12_suspects_46 : decode Y_X12_suspects.cc 46 = .ok (.iinc 2 1, 3) := by decide +kernel
theorem d_X12_suspects_49 : decode Y_X12_suspects.cc 49 = .ok (.goto (-31), 3) := by decide +kernel
theorem d_X12_suspects_52 : decode Y_X12_suspects.cc 52 = .ok (.iload_n 1, 1) := by decide +kernel
theorem d_X12_suspects_53 : decode Y_X12_suspects.cc 53 = .ok (.ireturn, 1) := by decide +kernel
def L_X12_suspects_18 (G : MG) (d : Nat) (Q : Int32 → Mm → Prop) (x1 : Int32) (x2 : Int32) (M : Mm) : Prop := T G Y_X12_suspects (d + 1) (Ri Q) 0 0 18 [(0, .ref (G.b + 147)), (1, .int x1), (2, .int x2)] [] M
theorem b_X12_suspects_18 {G : MG} {d : Nat} {Q : Int32 → Mm → Prop} {x1 : Int32} {x2 : Int32} {M : Mm} {c : Nat} (hL : Lay c M)  (h : (C G Y_X12_arms d [.ref (G.b + 147)] M (Ri fun r2 M1 => M1.2.2 = M.2.2 ∧ ((r2 ≤ x2 → Q x1 M1) ∧ (¬ r2 ≤ x2 → (C G Y_X12_findBend d [.ref (G.b + 147), .int x2] M1 (Ri fun r5 M4 => M4.2.2 = M1.2.2 ∧ ((99 ≤ r5 → L_X12_suspects_18 G d Q (x1 ||| 0) (x2 + 1) M4) ∧ (¬ 99 ≤ r5 → L_X12_suspects_18 G d Q (x1 ||| (1 <<< (x2 &&& 31))) (x2 + 1) M4))))))))) : L_X12_suspects_18 G d Q x1 x2 M := by
  unfold L_X12_suspects_18
  refine tw_iload_n 2 d_X12_suspects_18 rfl rfl ?_
  refine tw_aload_n 0 d_X12_suspects_19 rfl rfl ?_
  refine tu_cVi (As := []) cv_X12_183 hL s_147 rfl (Nat.le_of_ble_eq_true rfl) ⟨Nat.zero_le _, Nat.zero_le _⟩ d_X12_suspects_20 h (fun r2 M1 h => ?_)
  have hL_M1 : Lay c M1 := hL.to h.1
  replace h := h.2
  refine tw_icmp_ge 52 d_X12_suspects_23 (by decide) (fun z3 => ?_) (fun z3 => ?_)
  · replace h := h.1 z3
    refine tw_iload_n 1 d_X12_suspects_52 rfl rfl ?_
    exact tw_iret rfl ⟨Nat.zero_le _, Nat.zero_le _⟩ d_X12_suspects_53 h
  · replace h := h.2 z3
    refine tw_iload_n 1 d_X12_suspects_26 rfl rfl ?_
    refine tw_aload_n 0 d_X12_suspects_27 rfl rfl ?_
    refine tw_iload_n 2 d_X12_suspects_28 rfl rfl ?_
    refine tu_cVi (As := [.int x2]) cv_X12_266 hL_M1 s_147 rfl (Nat.le_of_ble_eq_true rfl) ⟨Nat.zero_le _, Nat.zero_le _⟩ d_X12_suspects_29 h (fun r5 M4 h => ?_)
    have hL_M4 : Lay c M4 := hL_M1.to h.1
    replace h := h.2
    refine tw_bipush d_X12_suspects_32 kb_99 ?_
    refine tw_icmp_ge 43 d_X12_suspects_34 (by decide) (fun z6 => ?_) (fun z6 => ?_)
    · replace h := h.1 z6
      refine tw_iconst d_X12_suspects_43 k_0 ?_
      refine tw_ior d_X12_suspects_44 ?_
      refine tw_istore_n [(1, .int (x1 ||| 0)), (0, .ref (G.b + 147)), (2, .int x2)] d_X12_suspects_45 rfl (Nat.le_of_ble_eq_true rfl) rfl ?_
      refine tw_iinc 2 [(2, .int (x2 + 1)), (1, .int (x1 ||| 0)), (0, .ref (G.b + 147))] d_X12_suspects_46 rfl rfl (Nat.le_of_ble_eq_true rfl) rfl ?_
      refine tw_goto 18 d_X12_suspects_49 (by decide) ?_
      exact tw_lv [2, 1, 0] rfl h
    · replace h := h.2 z6
      refine tw_iconst d_X12_suspects_37 k_1 ?_
      refine tw_iload_n 2 d_X12_suspects_38 rfl rfl ?_
      refine tw_ishl d_X12_suspects_39 ?_
      refine tw_goto 44 d_X12_suspects_40 (by decide) ?_
      refine tw_ior d_X12_suspects_44 ?_
      refine tw_istore_n [(1, .int (x1 ||| (1 <<< (x2 &&& 31)))), (0, .ref (G.b + 147)), (2, .int x2)] d_X12_suspects_45 rfl (Nat.le_of_ble_eq_true rfl) rfl ?_
      refine tw_iinc 2 [(2, .int (x2 + 1)), (1, .int (x1 ||| (1 <<< (x2 &&& 31)))), (0, .ref (G.b + 147))] d_X12_suspects_46 rfl rfl (Nat.le_of_ble_eq_true rfl) rfl ?_
      refine tw_goto 18 d_X12_suspects_49 (by decide) ?_
      exact tw_lv [2, 1, 0] rfl h
theorem b_X12_suspects {G : MG} {d : Nat} {Q : Int32 → Mm → Prop}  {M : Mm} {c : Nat} (hL : Lay c M)  (h : (∀ M1 : Mm, M1 = sI M 147 0 0 → (C G Y_X12_seen d [.ref (G.b + 147)] M1 (Ri fun r3 M2 => M2.2.2 = M1.2.2 ∧ ((¬ r3 = 0 → L_X12_suspects_18 G d Q 0 0 M2) ∧ (r3 = 0 → Q (-1) M2)))))) : C G Y_X12_suspects (d + 1) [.ref (G.b + 147)] M (Ri Q) := by
  refine C.of (by decide) (Nat.le_of_ble_eq_true rfl) (lv := [(0, .ref (G.b + 147))]) rfl ?_
  refine tw_aload_n 0 d_X12_suspects_0 rfl rfl ?_
  refine tw_iconst d_X12_suspects_1 k_0 ?_
  refine tu_putI f_X12_1 hL s_147 rfl rfl d_X12_suspects_2 (fun M1 e_M1 hL_M1 => ?_)
  replace h := h M1 e_M1
  refine tw_aload_n 0 d_X12_suspects_5 rfl rfl ?_
  refine tu_cVi (As := []) cv_X12_263 hL_M1 s_147 rfl (Nat.le_of_ble_eq_true rfl) ⟨Nat.zero_le _, Nat.zero_le _⟩ d_X12_suspects_6 h (fun r3 M2 h => ?_)
  have hL_M2 : Lay c M2 := hL_M1.to h.1
  replace h := h.2
  refine tw_if_ne 14 d_X12_suspects_9 (by decide) (fun z4 => ?_) (fun z4 => ?_)
  · replace h := h.1 z4
    refine tw_iconst d_X12_suspects_14 k_0 ?_
    refine tw_istore_n [(1, .int 0), (0, .ref (G.b + 147))] d_X12_suspects_15 rfl (Nat.le_of_ble_eq_true rfl) rfl ?_
    refine tw_iconst d_X12_suspects_16 k_0 ?_
    refine tw_istore_n [(2, .int 0), (1, .int 0), (0, .ref (G.b + 147))] d_X12_suspects_17 rfl (Nat.le_of_ble_eq_true rfl) rfl ?_
    exact tw_lv [2, 1, 0] rfl h
  · replace h := h.2 z4
    refine tw_iconst d_X12_suspects_12 k_m1 ?_
    exact tw_iret rfl ⟨Nat.zero_le _, Nat.zero_le _⟩ d_X12_suspects_13 h

theorem d_X12_crooked_0 : decode Y_X12_crooked.cc 0 = .ok (.aload_n 0, 1) := by decide +kernel
theorem d_X12_crooked_1 : decode Y_X12_crooked.cc 1 = .ok (.aload_n 0, 1) := by decide +kernel
theorem d_X12_crooked_2 : decode Y_X12_crooked.cc 2 = .ok (.iload_n 1, 1) := by decide +kernel
theorem d_X12_crooked_3 : decode Y_X12_crooked.cc 3 = .ok (.invokevirtual 187, 3) := by decide +kernel
theorem d_X12_crooked_6 : decode Y_X12_crooked.cc 6 = .ok (.ifCond .eq 24, 3) := by decide +kernel
theorem d_X12_crooked_9 : decode Y_X12_crooked.cc 9 = .ok (.aload_n 0, 1) := by decide +kernel
theorem d_X12_crooked_10 : decode Y_X12_crooked.cc 10 = .ok (.invokevirtual 263, 3) := by decide +kernel
theorem d_X12_crooked_13 : decode Y_X12_crooked.cc 13 = .ok (.ifCond .le 17, 3) := by decide +kernel
theorem d_X12_crooked_16 : decode Y_X12_crooked.cc 16 = .ok (.aload_n 0, 1) := by decide +kernel
theorem d_X12_crooked_17 : decode Y_X12_crooked.cc 17 = .ok (.iload_n 1, 1) := by decide +kernel
theorem d_X12_crooked_18 : decode Y_X12_crooked.cc 18 = .ok (.invokevirtual 266, 3) := by decide +kernel
theorem d_X12_crooked_21 : decode Y_X12_crooked.cc 21 = .ok (.bipush 99, 2) := by decide +kernel
theorem d_X12_crooked_23 : decode Y_X12_crooked.cc 23 = .ok (.if_icmp .ge 7, 3) := by decide +kernel
theorem d_X12_crooked_26 : decode Y_X12_crooked.cc 26 = .ok (.iconst 0, 1) := by decide +kernel
theorem d_X12_crooked_27 : decode Y_X12_crooked.cc 27 = .ok (.goto 4, 3) := by decide +kernel
theorem d_X12_crooked_30 : decode Y_X12_crooked.cc 30 = .ok (.iconst 1, 1) := by decide +kernel
theorem d_X12_crooked_31 : decode Y_X12_crooked.cc 31 = .ok (.putfield 1, 3) := by decide +kernel
theorem d_X12_crooked_34 : decode Y_X12_crooked.cc 34 = .ok (.aload_n 0, 1) := by decide +kernel
theorem d_X12_crooked_35 : decode Y_X12_crooked.cc 35 = .ok (.getfield 1, 3) := by decide +kernel
theorem d_X12_crooked_38 : decode Y_X12_crooked.cc 38 = .ok (.ifCond .le 7, 3) := by decide +kernel
theorem d_X12_crooked_41 : decode Y_X12_crooked.cc 41 = .ok (.iconst 0, 1) := by decide +kernel
theorem d_X12_crooked_42 : decode Y_X12_crooked.cc 42 = .ok (.goto 8, 3) := by decide +kernel
theorem d_X12_crooked_45 : decode Y_X12_crooked.cc 45 = .ok (.aload_n 0, 1) := by decide +kernel
theorem d_X12_crooked_46 : decode Y_X12_crooked.cc 46 = .ok (.iload_n 1, 1) := by decide +kernel
theorem d_X12_crooked_47 : decode Y_X12_crooked.cc 47 = .ok (.invokevirtual 266, 3) := by decide +kernel
theorem d_X12_crooked_50 : decode Y_X12_crooked.cc 50 = .ok (.ireturn, 1) := by decide +kernel
theorem b_X12_crooked {G : MG} {d : Nat} {Q : Int32 → Mm → Prop} {x1 : Int32} {M : Mm} {c : Nat} (hL : Lay c M)  (h : (C G Y_X12_isArm d [.ref (G.b + 147), .int x1] M (Ri fun r2 M1 => M1.2.2 = M.2.2 ∧ ((r2 = 0 → (∀ M4 : Mm, M4 = sI M1 147 0 1 → (((M4.1 147 0) ≤ 0 → (C G Y_X12_findBend d [.ref (G.b + 147), .int x1] M4 (Ri fun r7 M6 => M6.2.2 = M4.2.2 ∧ Q r7 M6))) ∧ (¬ (M4.1 147 0) ≤ 0 → Q 0 M4)))) ∧ (¬ r2 = 0 → (C G Y_X12_seen d [.ref (G.b + 147)] M1 (Ri fun r9 M8 => M8.2.2 = M1.2.2 ∧ ((r9 ≤ 0 → (∀ M11 : Mm, M11 = sI M8 147 0 1 → (((M11.1 147 0) ≤ 0 → (C G Y_X12_findBend d [.ref (G.b + 147), .int x1] M11 (Ri fun r14 M13 => M13.2.2 = M11.2.2 ∧ Q r14 M13))) ∧ (¬ (M11.1 147 0) ≤ 0 → Q 0 M11)))) ∧ (¬ r9 ≤ 0 → (C G Y_X12_findBend d [.ref (G.b + 147), .int x1] M8 (Ri fun r16 M15 => M15.2.2 = M8.2.2 ∧ ((99 ≤ r16 → (∀ M18 : Mm, M18 = sI M15 147 0 1 → (((M18.1 147 0) ≤ 0 → (C G Y_X12_findBend d [.ref (G.b + 147), .int x1] M18 (Ri fun r21 M20 => M20.2.2 = M18.2.2 ∧ Q r21 M20))) ∧ (¬ (M18.1 147 0) ≤ 0 → Q 0 M18)))) ∧ (¬ 99 ≤ r16 → (∀ M22 : Mm, M22 = sI M15 147 0 0 → (((M22.1 147 0) ≤ 0 → (C G Y_X12_findBend d [.ref (G.b + 147), .int x1] M22 (Ri fun r25 M24 => M24.2.2 = M22.2.2 ∧ Q r25 M24))) ∧ (¬ (M22.1 147 0) ≤ 0 → Q 0 M22)))))))))))))))) : C G Y_X12_crooked (d + 1) [.ref (G.b + 147), .int x1] M (Ri Q) := by
  refine C.of (by decide) (Nat.le_of_ble_eq_true rfl) (lv := [(0, .ref (G.b + 147)), (1, .int x1)]) rfl ?_
  refine tw_aload_n 0 d_X12_crooked_0 rfl rfl ?_
  refine tw_aload_n 0 d_X12_crooked_1 rfl rfl ?_
  refine tw_iload_n 1 d_X12_crooked_2 rfl rfl ?_
  refine tu_cVi (As := [.int x1]) cv_X12_187 hL s_147 rfl (Nat.le_of_ble_eq_true rfl) ⟨Nat.zero_le _, Nat.zero_le _⟩ d_X12_crooked_3 h (fun r2 M1 h => ?_)
  have hL_M1 : Lay c M1 := hL.to h.1
  replace h := h.2
  refine tw_if_eq 30 d_X12_crooked_6 (by decide) (fun z3 => ?_) (fun z3 => ?_)
  · replace h := h.1 z3
    refine tw_iconst d_X12_crooked_30 k_1 ?_
    refine tu_putI f_X12_1 hL_M1 s_147 rfl rfl d_X12_crooked_31 (fun M4 e_M4 hL_M4 => ?_)
    replace h := h M4 e_M4
    refine tw_aload_n 0 d_X12_crooked_34 rfl rfl ?_
    refine tw_getI f_X12_1 hL_M4 s_147 (Or.inl rfl) d_X12_crooked_35 ?_
    refine tw_if_le 45 d_X12_crooked_38 (by decide) (fun z5 => ?_) (fun z5 => ?_)
    · replace h := h.1 z5
      refine tw_aload_n 0 d_X12_crooked_45 rfl rfl ?_
      refine tw_iload_n 1 d_X12_crooked_46 rfl rfl ?_
      refine tu_cVi (As := [.int x1]) cv_X12_266 hL_M4 s_147 rfl (Nat.le_of_ble_eq_true rfl) ⟨Nat.zero_le _, Nat.zero_le _⟩ d_X12_crooked_47 h (fun r7 M6 h => ?_)
      have hL_M6 : Lay c M6 := hL_M4.to h.1
      replace h := h.2
      exact tw_iret rfl ⟨Nat.zero_le _, Nat.zero_le _⟩ d_X12_crooked_50 h
    · replace h := h.2 z5
      refine tw_iconst d_X12_crooked_41 k_0 ?_
      refine tw_goto 50 d_X12_crooked_42 (by decide) ?_
      exact tw_iret rfl ⟨Nat.zero_le _, Nat.zero_le _⟩ d_X12_crooked_50 h
  · replace h := h.2 z3
    refine tw_aload_n 0 d_X12_crooked_9 rfl rfl ?_
    refine tu_cVi (As := []) cv_X12_263 hL_M1 s_147 rfl (Nat.le_of_ble_eq_true rfl) ⟨Nat.zero_le _, Nat.zero_le _⟩ d_X12_crooked_10 h (fun r9 M8 h => ?_)
    have hL_M8 : Lay c M8 := hL_M1.to h.1
    replace h := h.2
    refine tw_if_le 30 d_X12_crooked_13 (by decide) (fun z10 => ?_) (fun z10 => ?_)
    · replace h := h.1 z10
      refine tw_iconst d_X12_crooked_30 k_1 ?_
      refine tu_putI f_X12_1 hL_M8 s_147 rfl rfl d_X12_crooked_31 (fun M11 e_M11 hL_M11 => ?_)
      replace h := h M11 e_M11
      refine tw_aload_n 0 d_X12_crooked_34 rfl rfl ?_
      refine tw_getI f_X12_1 hL_M11 s_147 (Or.inl rfl) d_X12_crooked_35 ?_
      refine tw_if_le 45 d_X12_crooked_38 (by decide) (fun z12 => ?_) (fun z12 => ?_)
      · replace h := h.1 z12
        refine tw_aload_n 0 d_X12_crooked_45 rfl rfl ?_
        refine tw_iload_n 1 d_X12_crooked_46 rfl rfl ?_
        refine tu_cVi (As := [.int x1]) cv_X12_266 hL_M11 s_147 rfl (Nat.le_of_ble_eq_true rfl) ⟨Nat.zero_le _, Nat.zero_le _⟩ d_X12_crooked_47 h (fun r14 M13 h => ?_)
        have hL_M13 : Lay c M13 := hL_M11.to h.1
        replace h := h.2
        exact tw_iret rfl ⟨Nat.zero_le _, Nat.zero_le _⟩ d_X12_crooked_50 h
      · replace h := h.2 z12
        refine tw_iconst d_X12_crooked_41 k_0 ?_
        refine tw_goto 50 d_X12_crooked_42 (by decide) ?_
        exact tw_iret rfl ⟨Nat.zero_le _, Nat.zero_le _⟩ d_X12_crooked_50 h
    · replace h := h.2 z10
      refine tw_aload_n 0 d_X12_crooked_16 rfl rfl ?_
      refine tw_iload_n 1 d_X12_crooked_17 rfl rfl ?_
      refine tu_cVi (As := [.int x1]) cv_X12_266 hL_M8 s_147 rfl (Nat.le_of_ble_eq_true rfl) ⟨Nat.zero_le _, Nat.zero_le _⟩ d_X12_crooked_18 h (fun r16 M15 h => ?_)
      have hL_M15 : Lay c M15 := hL_M8.to h.1
      replace h := h.2
      refine tw_bipush d_X12_crooked_21 kb_99 ?_
      refine tw_icmp_ge 30 d_X12_crooked_23 (by decide) (fun z17 => ?_) (fun z17 => ?_)
      · replace h := h.1 z17
        refine tw_iconst d_X12_crooked_30 k_1 ?_
        refine tu_putI f_X12_1 hL_M15 s_147 rfl rfl d_X12_crooked_31 (fun M18 e_M18 hL_M18 => ?_)
        replace h := h M18 e_M18
        refine tw_aload_n 0 d_X12_crooked_34 rfl rfl ?_
        refine tw_getI f_X12_1 hL_M18 s_147 (Or.inl rfl) d_X12_crooked_35 ?_
        refine tw_if_le 45 d_X12_crooked_38 (by decide) (fun z19 => ?_) (fun z19 => ?_)
        · replace h := h.1 z19
          refine tw_aload_n 0 d_X12_crooked_45 rfl rfl ?_
          refine tw_iload_n 1 d_X12_crooked_46 rfl rfl ?_
          refine tu_cVi (As := [.int x1]) cv_X12_266 hL_M18 s_147 rfl (Nat.le_of_ble_eq_true rfl) ⟨Nat.zero_le _, Nat.zero_le _⟩ d_X12_crooked_47 h (fun r21 M20 h => ?_)
          have hL_M20 : Lay c M20 := hL_M18.to h.1
          replace h := h.2
          exact tw_iret rfl ⟨Nat.zero_le _, Nat.zero_le _⟩ d_X12_crooked_50 h
        · replace h := h.2 z19
          refine tw_iconst d_X12_crooked_41 k_0 ?_
          refine tw_goto 50 d_X12_crooked_42 (by decide) ?_
          exact tw_iret rfl ⟨Nat.zero_le _, Nat.zero_le _⟩ d_X12_crooked_50 h
      · replace h := h.2 z17
        refine tw_iconst d_X12_crooked_26 k_0 ?_
        refine tw_goto 31 d_X12_crooked_27 (by decide) ?_
        refine tu_putI f_X12_1 hL_M15 s_147 rfl rfl d_X12_crooked_31 (fun M22 e_M22 hL_M22 => ?_)
        replace h := h M22 e_M22
        refine tw_aload_n 0 d_X12_crooked_34 rfl rfl ?_
        refine tw_getI f_X12_1 hL_M22 s_147 (Or.inl rfl) d_X12_crooked_35 ?_
        refine tw_if_le 45 d_X12_crooked_38 (by decide) (fun z23 => ?_) (fun z23 => ?_)
        · replace h := h.1 z23
          refine tw_aload_n 0 d_X12_crooked_45 rfl rfl ?_
          refine tw_iload_n 1 d_X12_crooked_46 rfl rfl ?_
          refine tu_cVi (As := [.int x1]) cv_X12_266 hL_M22 s_147 rfl (Nat.le_of_ble_eq_true rfl) ⟨Nat.zero_le _, Nat.zero_le _⟩ d_X12_crooked_47 h (fun r25 M24 h => ?_)
          have hL_M24 : Lay c M24 := hL_M22.to h.1
          replace h := h.2
          exact tw_iret rfl ⟨Nat.zero_le _, Nat.zero_le _⟩ d_X12_crooked_50 h
        · replace h := h.2 z23
          refine tw_iconst d_X12_crooked_41 k_0 ?_
          refine tw_goto 50 d_X12_crooked_42 (by decide) ?_
          exact tw_iret rfl ⟨Nat.zero_le _, Nat.zero_le _⟩ d_X12_crooked_50 h

theorem d_X12_findShakes_0 : decode Y_X12_findShakes.cc 0 = .ok (.aload_n 0, 1) := by decide +kernel
theorem d_X12_findShakes_1 : decode Y_X12_findShakes.cc 1 = .ok (.lconst 0, 1) := by decide +kernel
theorem d_X12_findShakes_2 : decode Y_X12_findShakes.cc 2 = .ok (.putfield 269, 3) := by decide +kernel
theorem d_X12_findShakes_5 : decode Y_X12_findShakes.cc 5 = .ok (.aload_n 0, 1) := by decide +kernel
theorem d_X12_findShakes_6 : decode Y_X12_findShakes.cc 6 = .ok (.lconst 1, 1) := by decide +kernel
theorem d_X12_findShakes_7 : decode Y_X12_findShakes.cc 7 = .ok (.putfield 272, 3) := by decide +kernel
theorem d_X12_findShakes_10 : decode Y_X12_findShakes.cc 10 = .ok (.iconst 0, 1) := by decide +kernel
theorem d_X12_findShakes_11 : decode Y_X12_findShakes.cc 11 = .ok (.istore_n 2, 1) := by decide +kernel
theorem d_X12_findShakes_12 : decode Y_X12_findShakes.cc 12 = .ok (.iload_n 2, 1) := by decide +kernel
theorem d_X12_findShakes_13 : decode Y_X12_findShakes.cc 13 = .ok (.aload_n 0, 1) := by decide +kernel
theorem d_X12_findShakes_14 : decode Y_X12_findShakes.cc 14 = .ok (.invokevirtual 237, 3) := by decide +kernel
theorem d_X12_findShakes_17 : decode Y_X12_findShakes.cc 17 = .ok (.if_icmp .ge 81, 3) := by decide +kernel
theorem d_X12_findShakes_20 : decode Y_X12_findShakes.cc 20 = .ok (.aload_n 1, 1) := by decide +kernel
theorem d_X12_findShakes_21 : decode Y_X12_findShakes.cc 21 = .ok (.iload_n 2, 1) := by decide +kernel
theorem d_X12_findShakes_22 : decode Y_X12_findShakes.cc 22 = .ok (.iaload, 1) := by decide +kernel
theorem d_X12_findShakes_23 : decode Y_X12_findShakes.cc 23 = .ok (.istore_n 3, 1) := by decide +kernel
theorem d_X12_findShakes_24 : decode Y_X12_findShakes.cc 24 = .ok (.aload_n 0, 1) := by decide +kernel
theorem d_X12_findShakes_25 : decode Y_X12_findShakes.cc 25 = .ok (.iload_n 3, 1) := by decide +kernel
theorem d_X12_findShakes_26 : decode Y_X12_findShakes.cc 26 = .ok (.bipush 12, 2) := by decide +kernel
theorem d_X12_findShakes_28 : decode Y_X12_findShakes.cc 28 = .ok (.invokevirtual 190, 3) := by decide +kernel
theorem d_X12_findShakes_31 : decode Y_X12_findShakes.cc 31 = .ok (.aload_n 0, 1) := by decide +kernel
theorem d_X12_findShakes_32 : decode Y_X12_findShakes.cc 32 = .ok (.iload_n 3, 1) := by decide +kernel
theorem d_X12_findShakes_33 : decode Y_X12_findShakes.cc 33 = .ok (.iconst 0, 1) := by decide +kernel
theorem d_X12_findShakes_34 : decode Y_X12_findShakes.cc 34 = .ok (.invokevirtual 190, 3) := by decide +kernel
theorem d_X12_findShakes_37 : decode Y_X12_findShakes.cc 37 = .ok (.iconst 3, 1) := by decide +kernel
theorem d_X12_findShakes_38 : decode Y_X12_findShakes.cc 38 = .ok (.if_icmp .ne 7, 3) := by decide +kernel
theorem d_X12_findShakes_41 : decode Y_X12_findShakes.cc 41 = .ok (.iconst 2, 1) := by decide +kernel
theorem d_X12_findShakes_42 : decode Y_X12_findShakes.cc 42 = .ok (.goto 4, 3) := by decide +kernel
theorem d_X12_findShakes_45 : decode Y_X12_findShakes.cc 45 = .ok (.iconst 1, 1) := by decide +kernel
theorem d_X12_findShakes_46 : decode Y_X12_findShakes.cc 46 = .ok (.imul, 1) := by decide +kernel
theorem d_X12_findShakes_47 : decode Y_X12_findShakes.cc 47 = .ok (.istore 4, 2) := by decide +kernel
theorem d_X12_findShakes_49 : decode Y_X12_findShakes.cc 49 = .ok (.aload_n 0, 1) := by decide +kernel
theorem d_X12_findShakes_50 : decode Y_X12_findShakes.cc 50 = .ok (.aload_n 0, 1) := by decide +kernel
theorem d_X12_findShakes_51 : decode Y_X12_findShakes.cc 51 = .ok (.getfield 269, 3) := by decide +kernel
theorem d_X12_findShakes_54 : decode Y_X12_findShakes.cc 54 = .ok (.iload 4, 2) := by decide +kernel
theorem d_X12_findShakes_56 : decode Y_X12_findShakes.cc 56 = .ok (.i2l, 1) := by decide +kernel
theorem d_X12_findShakes_57 : decode Y_X12_findShakes.cc 57 = .ok (.aload_n 0, 1) := by decide +kernel
theorem d_X12_findShakes_58 : decode Y_X12_findShakes.cc 58 = .ok (.getfield 272, 3) := by decide +kernel
theorem d_X12_findShakes_61 : decode Y_X12_findShakes.cc 61 = .ok (.lmul, 1) := by decide +kernel
theorem d_X12_findShakes_62 : decode Y_X12_findShakes.cc 62 = .ok (.ladd, 1) := by decide +kernel
theorem d_X12_findShakes_63 : decode Y_X12_findShakes.cc 63 = .ok (.aload_n 0, 1) := by decide +kernel
theorem d_X12_findShakes_64 : decode Y_X12_findShakes.cc 64 = .ok (.iload_n 3, 1) := by decide +kernel
theorem d_X12_findShakes_65 : decode Y_X12_findShakes.cc 65 = .ok (.bipush 6, 2) := by decide +kernel
theorem d_X12_findShakes_67 : decode Y_X12_findShakes.cc 67 = .ok (.invokevirtual 190, 3) := by decide +kernel
theorem d_X12_findShakes_70 : decode Y_X12_findShakes.cc 70 = .ok (.i2l, 1) := by decide +kernel
theorem d_X12_findShakes_71 : decode Y_X12_findShakes.cc 71 = .ok (.lmul, 1) := by decide +kernel
theorem d_X12_findShakes_72 : decode Y_X12_findShakes.cc 72 = .ok (.putfield 269, 3) := by decide +kernel
theorem d_X12_findShakes_75 : decode Y_X12_findShakes.cc 75 = .ok (.aload_n 0, 1) := by decide +kernel
theorem d_X12_findShakes_76 : decode Y_X12_findShakes.cc 76 = .ok (.aload_n 0, 1) := by decide +kernel
theorem d_X12_findShakes_77 : decode Y_X12_findShakes.cc 77 = .ok (.getfield 272, 3) := by decide +kernel
theorem d_X12_findShakes_80 : decode Y_X12_findShakes.cc 80 = .ok (.aload_n 0, 1) := by decide +kernel
theorem d_X12_findShakes_81 : decode Y_X12_findShakes.cc 81 = .ok (.iload_n 3, 1) := by decide +kernel
theorem d_X12_findShakes_82 : decode Y_X12_findShakes.cc 82 = .ok (.bipush 7, 2) := by decide +kernel
theorem d_X12_findShakes_84 : decode Y_X12_findShakes.cc 84 = .ok (.invokevirtual 190, 3) := by decide +kernel
theorem d_X12_findShakes_87 : decode Y_X12_findShakes.cc 87 = .ok (.i2l, 1) := by decide +kernel
theorem d_X12_findShakes_88 : decode Y_X12_findShakes.cc 88 = .ok (.lmul, 1) := by decide +kernel
theorem d_X12_findShakes_89 : decode Y_X12_findShakes.cc 89 = .ok (.putfield 272, 3) := by decide +kernel
theorem d_X12_findShakes_92 : decode Y_X12_findShakes.cc 92 = .ok (.iinc 2 1, 3) := by decide +kernel
theorem d_X12_findShakes_95 : decode Y_X12_findShakes.cc 95 = .ok (.goto (-83), 3) := by decide +kernel
theorem d_X12_findShakes_98 : decode Y_X12_findShakes.cc 98 = .ok (.aload_n 0, 1) := by decide +kernel
theorem d_X12_findShakes_99 : decode Y_X12_findShakes.cc 99 = .ok (.getfield 269, 3) := by decide +kernel
theorem d_X12_findShakes_102 : decode Y_X12_findShakes.cc 102 = .ok (.aload_n 0, 1) := by decide +kernel
theorem d_X12_findShakes_103 : decode Y_X12_findShakes.cc 103 = .ok (.getfield 272, 3) := by decide +kernel
theorem d_X12_findShakes_106 : decode Y_X12_findShakes.cc 106 = .ok (.invokestatic 179, 3) := by decide +kernel
theorem d_X12_findShakes_109 : decode Y_X12_findShakes.cc 109 = .ok (.lstore_n 2, 1) := by decide +kernel
theorem d_X12_findShakes_110 : decode Y_X12_findShakes.cc 110 = .ok (.aload_n 0, 1) := by decide +kernel
theorem d_X12_findShakes_111 : decode Y_X12_findShakes.cc 111 = .ok (.aload_n 0, 1) := by decide +kernel
theorem d_X12_findShakes_112 : decode Y_X12_findShakes.cc 112 = .ok (.getfield 269, 3) := by decide +kernel
theorem d_X12_findShakes_115 : decode Y_X12_findShakes.cc 115 = .ok (.lload_n 2, 1) := by decide +kernel
theorem d_X12_findShakes_116 : decode Y_X12_findShakes.cc 116 = .ok (.ldiv, 1) := by decide +kernel
theorem d_X12_findShakes_117 : decode Y_X12_findShakes.cc 117 = .ok (.putfield 269, 3) := by decide +kernel
theorem d_X12_findShakes_120 : decode Y_X12_findShakes.cc 120 = .ok (.aload_n 0, 1) := by decide +kernel
theorem d_X12_findShakes_121 : decode Y_X12_findShakes.cc 121 = .ok (.aload_n 0, 1) := by decide +kernel
theorem d_X12_findShakes_122 : decode Y_X12_findShakes.cc 122 = .ok (.getfield 272, 3) := by decide +kernel
theorem d_X12_findShakes_125 : decode Y_X12_findShakes.cc 125 = .ok (.lload_n 2, 1) := by decide +kernel
theorem d_X12_findShakes_126 : decode Y_X12_findShakes.cc 126 = .ok (.ldiv, 1) := by decide +kernel
theorem d_X12_findShakes_127 : decode Y_X12_findShakes.cc 127 = .ok (.putfield 272, 3) := by decide +kernel
theorem d_X12_findShakes_130 : decode Y_X12_findShakes.cc 130 = .ok (.return_, 1) := by decide +kernel
def L_X12_findShakes_12 (G : MG) (d : Nat) (Q : Mm → Prop) (o1 : Nat) (x2 : Int32) (M : Mm) : Prop := T G Y_X12_findShakes (d + 1) (Rv Q) 0 0 12 [(0, .ref (G.b + 147)), (1, .ref (G.b + o1)), (2, .int x2)] [] M
def L_X12_findShakes_46 (G : MG) (d : Nat) (Q : Mm → Prop) (o1 : Nat) (x2 : Int32) (x3 : Int32) (sx0 : Int32) (sx1 : Int32) (M : Mm) : Prop := T G Y_X12_findShakes (d + 1) (Rv Q) 0 0 46 [(0, .ref (G.b + 147)), (1, .ref (G.b + o1)), (2, .int x2), (3, .int x3)] [.int sx0, .int sx1] M
theorem b_X12_findShakes_12 {G : MG} {d : Nat} {Q : Mm → Prop} {o1 : Nat} {x2 : Int32} {M : Mm} {c : Nat} (hL : Lay c M) {n1 : Nat} (ho1 : sh o1 = some (.inl (0, n1))) (h : (C G Y_X12_chained d [.ref (G.b + 147)] M (Ri fun r2 M1 => M1.2.2 = M.2.2 ∧ ((r2 ≤ x2 → (C G Y_X12_common d [.long (M1.2.1 147 21), .long (M1.2.1 147 22)] M1 (Rj fun r5 M4 => M4.2.2 = M1.2.2 ∧ (¬ r5 = 0 ∧ (∀ M6 : Mm, M6 = sJ M4 147 21 ((M4.2.1 147 21) / r5) → (¬ r5 = 0 ∧ (∀ M7 : Mm, M7 = sJ M6 147 22 ((M6.2.1 147 22) / r5) → Q M7))))))) ∧ (¬ r2 ≤ x2 → (vp_in x2 n1 ∧ (C G Y_X12_of d [.ref (G.b + 147), .int (M1.1 o1 x2.toNatClampNeg), .int 12] M1 (Ri fun r9 M8 => M8.2.2 = M1.2.2 ∧ (C G Y_X12_of d [.ref (G.b + 147), .int (M1.1 o1 x2.toNatClampNeg), .int 0] M8 (Ri fun r11 M10 => M10.2.2 = M8.2.2 ∧ ((¬ r11 = 3 → L_X12_findShakes_46 G d Q o1 x2 (M1.1 o1 x2.toNatClampNeg) 1 r9 M10) ∧ (r11 = 3 → L_X12_findShakes_46 G d Q o1 x2 (M1.1 o1 x2.toNatClampNeg) 2 r9 M10)))))))))))) : L_X12_findShakes_12 G d Q o1 x2 M := by
  unfold L_X12_findShakes_12
  refine tw_iload_n 2 d_X12_findShakes_12 rfl rfl ?_
  refine tw_aload_n 0 d_X12_findShakes_13 rfl rfl ?_
  refine tu_cVi (As := []) cv_X12_237 hL s_147 rfl (Nat.le_of_ble_eq_true rfl) ⟨Nat.zero_le _, Nat.zero_le _⟩ d_X12_findShakes_14 h (fun r2 M1 h => ?_)
  have hL_M1 : Lay c M1 := hL.to h.1
  replace h := h.2
  refine tw_icmp_ge 98 d_X12_findShakes_17 (by decide) (fun z3 => ?_) (fun z3 => ?_)
  · replace h := h.1 z3
    refine tw_aload_n 0 d_X12_findShakes_98 rfl rfl ?_
    refine tw_getJ f_X12_269 hL_M1 s_147 rfl d_X12_findShakes_99 ?_
    refine tw_aload_n 0 d_X12_findShakes_102 rfl rfl ?_
    refine tw_getJ f_X12_272 hL_M1 s_147 rfl d_X12_findShakes_103 ?_
    refine tu_cSJ (As := [.long (M1.2.1 147 21), .long (M1.2.1 147 22)]) cs_X12_179 rfl (Nat.le_of_ble_eq_true rfl) ⟨Nat.zero_le _, Nat.zero_le _⟩ d_X12_findShakes_106 h (fun r5 M4 h => ?_)
    have hL_M4 : Lay c M4 := hL_M1.to h.1
    replace h := h.2
    refine tw_lstore_n [(2, .long r5), (0, .ref (G.b + 147)), (1, .ref (G.b + o1))] d_X12_findShakes_109 rfl (Nat.le_of_ble_eq_true rfl) rfl ?_
    refine tw_aload_n 1 d_X12_findShakes_110 rfl rfl ?_
    refine tw_aload_n 1 d_X12_findShakes_111 rfl rfl ?_
    refine tw_getJ f_X12_269 hL_M4 s_147 rfl d_X12_findShakes_112 ?_
    refine tw_lload_n 0 d_X12_findShakes_115 rfl rfl ?_
    refine tw_ldiv d_X12_findShakes_116 h.1 ?_
    replace h := h.2
    refine tu_putJ f_X12_269 hL_M4 s_147 rfl rfl d_X12_findShakes_117 (fun M6 e_M6 hL_M6 => ?_)
    replace h := h M6 e_M6
    refine tw_aload_n 1 d_X12_findShakes_120 rfl rfl ?_
    refine tw_aload_n 1 d_X12_findShakes_121 rfl rfl ?_
    refine tw_getJ f_X12_272 hL_M6 s_147 rfl d_X12_findShakes_122 ?_
    refine tw_lload_n 0 d_X12_findShakes_125 rfl rfl ?_
    refine tw_ldiv d_X12_findShakes_126 h.1 ?_
    replace h := h.2
    refine tu_putJ f_X12_272 hL_M6 s_147 rfl rfl d_X12_findShakes_127 (fun M7 e_M7 hL_M7 => ?_)
    replace h := h M7 e_M7
    exact tw_vret rfl ⟨Nat.zero_le _, Nat.zero_le _⟩ d_X12_findShakes_130 h
  · replace h := h.2 z3
    refine tw_aload_n 1 d_X12_findShakes_20 rfl rfl ?_
    refine tw_iload_n 2 d_X12_findShakes_21 rfl rfl ?_
    refine tw_iald hL_M1 ho1 d_X12_findShakes_22 h.1 ?_
    replace h := h.2
    refine tw_istore_n [(3, .int (M1.1 o1 x2.toNatClampNeg)), (0, .ref (G.b + 147)), (1, .ref (G.b + o1)), (2, .int x2)] d_X12_findShakes_23 rfl (Nat.le_of_ble_eq_true rfl) rfl ?_
    refine tw_aload_n 1 d_X12_findShakes_24 rfl rfl ?_
    refine tw_iload_n 0 d_X12_findShakes_25 rfl rfl ?_
    refine tw_bipush d_X12_findShakes_26 kb_12 ?_
    refine tu_cVi (As := [.int (M1.1 o1 x2.toNatClampNeg), .int 12]) cv_X12_190 hL_M1 s_147 rfl (Nat.le_of_ble_eq_true rfl) ⟨Nat.zero_le _, Nat.zero_le _⟩ d_X12_findShakes_28 h (fun r9 M8 h => ?_)
    have hL_M8 : Lay c M8 := hL_M1.to h.1
    replace h := h.2
    refine tw_aload_n 1 d_X12_findShakes_31 rfl rfl ?_
    refine tw_iload_n 0 d_X12_findShakes_32 rfl rfl ?_
    refine tw_iconst d_X12_findShakes_33 k_0 ?_
    refine tu_cVi (As := [.int (M1.1 o1 x2.toNatClampNeg), .int 0]) cv_X12_190 hL_M8 s_147 rfl (Nat.le_of_ble_eq_true rfl) ⟨Nat.zero_le _, Nat.zero_le _⟩ d_X12_findShakes_34 h (fun r11 M10 h => ?_)
    have hL_M10 : Lay c M10 := hL_M8.to h.1
    replace h := h.2
    refine tw_iconst d_X12_findShakes_37 k_3 ?_
    refine tw_icmp_ne 45 d_X12_findShakes_38 (by decide) (fun z12 => ?_) (fun z12 => ?_)
    · replace h := h.1 z12
      refine tw_iconst d_X12_findShakes_45 k_1 ?_
      exact tw_lv [1, 2, 3, 0] rfl h
    · replace h := h.2 z12
      refine tw_iconst d_X12_findShakes_41 k_2 ?_
      refine tw_goto 46 d_X12_findShakes_42 (by decide) ?_
      exact tw_lv [1, 2, 3, 0] rfl h
theorem b_X12_findShakes_46 {G : MG} {d : Nat} {Q : Mm → Prop} {o1 : Nat} {x2 : Int32} {x3 : Int32} {sx0 : Int32} {sx1 : Int32} {M : Mm} {c : Nat} (hL : Lay c M) {n1 : Nat} (ho1 : sh o1 = some (.inl (0, n1))) (h : (C G Y_X12_of d [.ref (G.b + 147), .int x3, .int 6] M (Ri fun r2 M1 => M1.2.2 = M.2.2 ∧ (∀ M3 : Mm, M3 = sJ M1 147 21 (((M.2.1 147 21) + (((sx1 * sx0).toInt64) * (M.2.1 147 22))) * r2.toInt64) → (C G Y_X12_of d [.ref (G.b + 147), .int x3, .int 7] M3 (Ri fun r5 M4 => M4.2.2 = M3.2.2 ∧ (∀ M6 : Mm, M6 = sJ M4 147 22 ((M3.2.1 147 22) * r5.toInt64) → L_X12_findShakes_12 G d Q o1 (x2 + 1) M6))))))) : L_X12_findShakes_46 G d Q o1 x2 x3 sx0 sx1 M := by
  unfold L_X12_findShakes_46
  refine tw_imul d_X12_findShakes_46 ?_
  refine tw_istore [(4, .int (sx1 * sx0)), (0, .ref (G.b + 147)), (1, .ref (G.b + o1)), (2, .int x2), (3, .int x3)] d_X12_findShakes_47 (Nat.le_of_ble_eq_true rfl) rfl ?_
  refine tw_aload_n 1 d_X12_findShakes_49 rfl rfl ?_
  refine tw_aload_n 1 d_X12_findShakes_50 rfl rfl ?_
  refine tw_getJ f_X12_269 hL s_147 rfl d_X12_findShakes_51 ?_
  refine tw_iload 0 d_X12_findShakes_54 rfl ?_
  refine tw_i2l d_X12_findShakes_56 ?_
  refine tw_aload_n 1 d_X12_findShakes_57 rfl rfl ?_
  refine tw_getJ f_X12_272 hL s_147 rfl d_X12_findShakes_58 ?_
  refine tw_lmul d_X12_findShakes_61 ?_
  refine tw_ladd d_X12_findShakes_62 ?_
  refine tw_aload_n 1 d_X12_findShakes_63 rfl rfl ?_
  refine tw_iload_n 4 d_X12_findShakes_64 rfl rfl ?_
  refine tw_bipush d_X12_findShakes_65 kb_6 ?_
  refine tu_cVi (As := [.int x3, .int 6]) cv_X12_190 hL s_147 rfl (Nat.le_of_ble_eq_true rfl) ⟨Nat.zero_le _, Nat.zero_le _⟩ d_X12_findShakes_67 h (fun r2 M1 h => ?_)
  have hL_M1 : Lay c M1 := hL.to h.1
  replace h := h.2
  refine tw_i2l d_X12_findShakes_70 ?_
  refine tw_lmul d_X12_findShakes_71 ?_
  refine tu_putJ f_X12_269 hL_M1 s_147 rfl rfl d_X12_findShakes_72 (fun M3 e_M3 hL_M3 => ?_)
  replace h := h M3 e_M3
  refine tw_aload_n 1 d_X12_findShakes_75 rfl rfl ?_
  refine tw_aload_n 1 d_X12_findShakes_76 rfl rfl ?_
  refine tw_getJ f_X12_272 hL_M3 s_147 rfl d_X12_findShakes_77 ?_
  refine tw_aload_n 1 d_X12_findShakes_80 rfl rfl ?_
  refine tw_iload_n 4 d_X12_findShakes_81 rfl rfl ?_
  refine tw_bipush d_X12_findShakes_82 kb_7 ?_
  refine tu_cVi (As := [.int x3, .int 7]) cv_X12_190 hL_M3 s_147 rfl (Nat.le_of_ble_eq_true rfl) ⟨Nat.zero_le _, Nat.zero_le _⟩ d_X12_findShakes_84 h (fun r5 M4 h => ?_)
  have hL_M4 : Lay c M4 := hL_M3.to h.1
  replace h := h.2
  refine tw_i2l d_X12_findShakes_87 ?_
  refine tw_lmul d_X12_findShakes_88 ?_
  refine tu_putJ f_X12_272 hL_M4 s_147 rfl rfl d_X12_findShakes_89 (fun M6 e_M6 hL_M6 => ?_)
  replace h := h M6 e_M6
  refine tw_iinc 3 [(2, .int (x2 + 1)), (4, .int (sx1 * sx0)), (0, .ref (G.b + 147)), (1, .ref (G.b + o1)), (3, .int x3)] d_X12_findShakes_92 rfl rfl (Nat.le_of_ble_eq_true rfl) rfl ?_
  refine tw_goto 12 d_X12_findShakes_95 (by decide) ?_
  exact tw_lv [2, 3, 0] rfl h
theorem b_X12_findShakes {G : MG} {d : Nat} {Q : Mm → Prop} {o1 : Nat} {n1 : Nat} {M : Mm} {c : Nat} (hL : Lay c M) (ho1 : sh o1 = some (.inl (0, n1))) (h : (∀ M1 : Mm, M1 = sJ M 147 21 0 → (∀ M2 : Mm, M2 = sJ M1 147 22 1 → L_X12_findShakes_12 G d Q o1 0 M2))) : C G Y_X12_findShakes (d + 1) [.ref (G.b + 147), .ref (G.b + o1)] M (Rv Q) := by
  refine C.of (by decide) (Nat.le_of_ble_eq_true rfl) (lv := [(0, .ref (G.b + 147)), (1, .ref (G.b + o1))]) rfl ?_
  refine tw_aload_n 0 d_X12_findShakes_0 rfl rfl ?_
  refine tw_lconst (v := 0) d_X12_findShakes_1 rfl ?_
  refine tu_putJ f_X12_269 hL s_147 rfl rfl d_X12_findShakes_2 (fun M1 e_M1 hL_M1 => ?_)
  replace h := h M1 e_M1
  refine tw_aload_n 0 d_X12_findShakes_5 rfl rfl ?_
  refine tw_lconst (v := 1) d_X12_findShakes_6 rfl ?_
  refine tu_putJ f_X12_272 hL_M1 s_147 rfl rfl d_X12_findShakes_7 (fun M2 e_M2 hL_M2 => ?_)
  replace h := h M2 e_M2
  refine tw_iconst d_X12_findShakes_10 k_0 ?_
  refine tw_istore_n [(2, .int 0), (0, .ref (G.b + 147)), (1, .ref (G.b + o1))] d_X12_findShakes_11 rfl (Nat.le_of_ble_eq_true rfl) rfl ?_
  exact tw_lv [1, 2, 0] rfl h

theorem d_X12_shakes_0 : decode Y_X12_shakes.cc 0 = .ok (.aload_n 0, 1) := by decide +kernel
theorem d_X12_shakes_1 : decode Y_X12_shakes.cc 1 = .ok (.iconst 0, 1) := by decide +kernel
theorem d_X12_shakes_2 : decode Y_X12_shakes.cc 2 = .ok (.putfield 1, 3) := by decide +kernel
theorem d_X12_shakes_5 : decode Y_X12_shakes.cc 5 = .ok (.iconst 0, 1) := by decide +kernel
theorem d_X12_shakes_6 : decode Y_X12_shakes.cc 6 = .ok (.istore_n 2, 1) := by decide +kernel
theorem d_X12_shakes_7 : decode Y_X12_shakes.cc 7 = .ok (.iload_n 2, 1) := by decide +kernel
theorem d_X12_shakes_8 : decode Y_X12_shakes.cc 8 = .ok (.aload_n 0, 1) := by decide +kernel
theorem d_X12_shakes_9 : decode Y_X12_shakes.cc 9 = .ok (.invokevirtual 237, 3) := by decide +kernel
theorem d_X12_shakes_12 : decode Y_X12_shakes.cc 12 = .ok (.if_icmp .ge 20, 3) := by decide +kernel
theorem d_X12_shakes_15 : decode Y_X12_shakes.cc 15 = .ok (.aload_n 0, 1) := by decide +kernel
theorem d_X12_shakes_16 : decode Y_X12_shakes.cc 16 = .ok (.getfield 82, 3) := by decide +kernel
theorem d_X12_shakes_19 : decode Y_X12_shakes.cc 19 = .ok (.iload_n 2, 1) := by decide +kernel
theorem d_X12_shakes_20 : decode Y_X12_shakes.cc 20 = .ok (.aload_n 0, 1) := by decide +kernel
theorem d_X12_shakes_21 : decode Y_X12_shakes.cc 21 = .ok (.iload_n 2, 1) := by decide +kernel
theorem d_X12_shakes_22 : decode Y_X12_shakes.cc 22 = .ok (.invokevirtual 240, 3) := by decide +kernel
theorem d_X12_shakes_25 : decode Y_X12_shakes.cc 25 = .ok (.iastore, 1) := by decide +kernel
theorem d_X12_shakes_26 : decode Y_X12_shakes.cc 26 = .ok (.iinc 2 1, 3) := by decide +kernel
theorem d_X12_shakes_29 : decode Y_X12_shakes.cc 29 = .ok (.goto (-22), 3) := by decide +kernel
theorem d_X12_shakes_32 : decode Y_X12_shakes.cc 32 = .ok (.aload_n 0, 1) := by decide +kernel
theorem d_X12_shakes_33 : decode Y_X12_shakes.cc 33 = .ok (.aload_n 0, 1) := by decide +kernel
theorem d_X12_shakes_34 : decode Y_X12_shakes.cc 34 = .ok (.getfield 82, 3) := by decide +kernel
theorem d_X12_shakes_37 : decode Y_X12_shakes.cc 37 = .ok (.invokevirtual 275, 3) := by decide +kernel
theorem d_X12_shakes_40 : decode Y_X12_shakes.cc 40 = .ok (.iload_n 1, 1) := by decide +kernel
theorem d_X12_shakes_41 : decode Y_X12_shakes.cc 41 = .ok (.ifCond .ne 10, 3) := by decide +kernel
theorem d_X12_shakes_44 : decode Y_X12_shakes.cc 44 = .ok (.aload_n 0, 1) := by decide +kernel
theorem d_X12_shakes_45 : decode Y_X12_shakes.cc 45 = .ok (.getfield 269, 3) := by decide +kernel
theorem d_X12_shakes_48 : decode Y_X12_shakes.cc 48 = .ok (.goto 18, 3) := by decide +kernel
theorem d_X12_shakes_51 : decode Y_X12_shakes.cc 51 = .ok (.iload_n 1, 1) := by decide +kernel
theorem d_X12_shakes_52 : decode Y_X12_shakes.cc 52 = .ok (.iconst 1, 1) := by decide +kernel
theorem d_X12_shakes_53 : decode Y_X12_shakes.cc 53 = .ok (.if_icmp .ne 10, 3) := by decide +kernel
theorem d_X12_shakes_56 : decode Y_X12_shakes.cc 56 = .ok (.aload_n 0, 1) := by decide +kernel
theorem d_X12_shakes_57 : decode Y_X12_shakes.cc 57 = .ok (.getfield 272, 3) := by decide +kernel
theorem d_X12_shakes_60 : decode Y_X12_shakes.cc 60 = .ok (.goto 6, 3) := by decide +kernel
theorem d_X12_shakes_63 : decode Y_X12_shakes.cc 63 = .ok (.ldc2_w 279, 3) := by decide +kernel
theorem d_X12_shakes_66 : decode Y_X12_shakes.cc 66 = .ok (.lreturn, 1) := by decide +kernel
def L_X12_shakes_7 (G : MG) (d : Nat) (Q : Int64 → Mm → Prop) (x1 : Int32) (x2 : Int32) (M : Mm) : Prop := T G Y_X12_shakes (d + 1) (Rj Q) 0 0 7 [(0, .ref (G.b + 147)), (1, .int x1), (2, .int x2)] [] M
theorem b_X12_shakes_7 {G : MG} {d : Nat} {Q : Int64 → Mm → Prop} {x1 : Int32} {x2 : Int32} {M : Mm} {c : Nat} (hL : Lay c M)  (h : (C G Y_X12_chained d [.ref (G.b + 147)] M (Ri fun r2 M1 => M1.2.2 = M.2.2 ∧ ((r2 ≤ x2 → (C G Y_X12_findShakes d [.ref (G.b + 147), .ref (G.b + 157)] M1 (Rv fun M4 => M4.2.2 = M1.2.2 ∧ ((¬ x1 = 0 → ((¬ x1 = 1 → Q (-1) M4) ∧ (x1 = 1 → Q (M4.2.1 147 22) M4))) ∧ (x1 = 0 → Q (M4.2.1 147 21) M4))))) ∧ (¬ r2 ≤ x2 → (C G Y_X12_chainOf d [.ref (G.b + 147), .int x2] M1 (Ri fun r8 M7 => M7.2.2 = M1.2.2 ∧ (vp_in x2 7 ∧ ∀ M9 : Mm, M9 = sI M7 157 x2.toNatClampNeg r8 → L_X12_shakes_7 G d Q x1 (x2 + 1) M9)))))))) : L_X12_shakes_7 G d Q x1 x2 M := by
  unfold L_X12_shakes_7
  refine tw_iload_n 2 d_X12_shakes_7 rfl rfl ?_
  refine tw_aload_n 0 d_X12_shakes_8 rfl rfl ?_
  refine tu_cVi (As := []) cv_X12_237 hL s_147 rfl (Nat.le_of_ble_eq_true rfl) ⟨Nat.zero_le _, Nat.zero_le _⟩ d_X12_shakes_9 h (fun r2 M1 h => ?_)
  have hL_M1 : Lay c M1 := hL.to h.1
  replace h := h.2
  refine tw_icmp_ge 32 d_X12_shakes_12 (by decide) (fun z3 => ?_) (fun z3 => ?_)
  · replace h := h.1 z3
    refine tw_aload_n 0 d_X12_shakes_32 rfl rfl ?_
    refine tw_aload_n 0 d_X12_shakes_33 rfl rfl ?_
    refine tw_getR f_X12_82 hL_M1 s_147 ⟨rfl, rfl⟩ (rr_X12_23 s_147) d_X12_shakes_34 ?_
    refine tu_cVv (As := [.ref (G.b + 157)]) cv_X12_275 hL_M1 s_147 rfl (Nat.le_of_ble_eq_true rfl) ⟨Nat.zero_le _, Nat.zero_le _⟩ d_X12_shakes_37 h (fun M4 h => ?_)
    have hL_M4 : Lay c M4 := hL_M1.to h.1
    replace h := h.2
    refine tw_iload_n 1 d_X12_shakes_40 rfl rfl ?_
    refine tw_if_ne 51 d_X12_shakes_41 (by decide) (fun z5 => ?_) (fun z5 => ?_)
    · replace h := h.1 z5
      refine tw_iload_n 1 d_X12_shakes_51 rfl rfl ?_
      refine tw_iconst d_X12_shakes_52 k_1 ?_
      refine tw_icmp_ne 63 d_X12_shakes_53 (by decide) (fun z6 => ?_) (fun z6 => ?_)
      · replace h := h.1 z6
        refine tw_ldc2 d_X12_shakes_63 mg1341 ?_
        exact tw_lret rfl ⟨Nat.zero_le _, Nat.zero_le _⟩ d_X12_shakes_66 h
      · replace h := h.2 z6
        refine tw_aload_n 0 d_X12_shakes_56 rfl rfl ?_
        refine tw_getJ f_X12_272 hL_M4 s_147 rfl d_X12_shakes_57 ?_
        refine tw_goto 66 d_X12_shakes_60 (by decide) ?_
        exact tw_lret rfl ⟨Nat.zero_le _, Nat.zero_le _⟩ d_X12_shakes_66 h
    · replace h := h.2 z5
      refine tw_aload_n 0 d_X12_shakes_44 rfl rfl ?_
      refine tw_getJ f_X12_269 hL_M4 s_147 rfl d_X12_shakes_45 ?_
      refine tw_goto 66 d_X12_shakes_48 (by decide) ?_
      exact tw_lret rfl ⟨Nat.zero_le _, Nat.zero_le _⟩ d_X12_shakes_66 h
  · replace h := h.2 z3
    refine tw_aload_n 0 d_X12_shakes_15 rfl rfl ?_
    refine tw_getR f_X12_82 hL_M1 s_147 ⟨rfl, rfl⟩ (rr_X12_23 s_147) d_X12_shakes_16 ?_
    refine tw_iload_n 2 d_X12_shakes_19 rfl rfl ?_
    refine tw_aload_n 0 d_X12_shakes_20 rfl rfl ?_
    refine tw_iload_n 2 d_X12_shakes_21 rfl rfl ?_
    refine tu_cVi (As := [.int x2]) cv_X12_240 hL_M1 s_147 rfl (Nat.le_of_ble_eq_true rfl) ⟨Nat.zero_le _, Nat.zero_le _⟩ d_X12_shakes_22 h (fun r8 M7 h => ?_)
    have hL_M7 : Lay c M7 := hL_M1.to h.1
    replace h := h.2
    refine tu_iast hL_M7 s_157 d_X12_shakes_25 h.1 (fun M9 e_M9 hL_M9 => ?_)
    replace h := h.2 M9 e_M9
    refine tw_iinc 2 [(2, .int (x2 + 1)), (0, .ref (G.b + 147)), (1, .int x1)] d_X12_shakes_26 rfl rfl (Nat.le_of_ble_eq_true rfl) rfl ?_
    refine tw_goto 7 d_X12_shakes_29 (by decide) ?_
    exact tw_lv [1, 2, 0] rfl h
theorem b_X12_shakes {G : MG} {d : Nat} {Q : Int64 → Mm → Prop} {x1 : Int32} {M : Mm} {c : Nat} (hL : Lay c M)  (h : (∀ M1 : Mm, M1 = sI M 147 0 0 → L_X12_shakes_7 G d Q x1 0 M1)) : C G Y_X12_shakes (d + 1) [.ref (G.b + 147), .int x1] M (Rj Q) := by
  refine C.of (by decide) (Nat.le_of_ble_eq_true rfl) (lv := [(0, .ref (G.b + 147)), (1, .int x1)]) rfl ?_
  refine tw_aload_n 0 d_X12_shakes_0 rfl rfl ?_
  refine tw_iconst d_X12_shakes_1 k_0 ?_
  refine tu_putI f_X12_1 hL s_147 rfl rfl d_X12_shakes_2 (fun M1 e_M1 hL_M1 => ?_)
  replace h := h M1 e_M1
  refine tw_iconst d_X12_shakes_5 k_0 ?_
  refine tw_istore_n [(2, .int 0), (0, .ref (G.b + 147)), (1, .int x1)] d_X12_shakes_6 rfl (Nat.le_of_ble_eq_true rfl) rfl ?_
  exact tw_lv [1, 2, 0] rfl h

theorem d_X12_isChained_0 : decode Y_X12_isChained.cc 0 = .ok (.iconst 0, 1) := by decide +kernel
theorem d_X12_isChained_1 : decode Y_X12_isChained.cc 1 = .ok (.istore_n 2, 1) := by decide +kernel
theorem d_X12_isChained_2 : decode Y_X12_isChained.cc 2 = .ok (.iconst 0, 1) := by decide +kernel
theorem d_X12_isChained_3 : decode Y_X12_isChained.cc 3 = .ok (.istore_n 3, 1) := by decide +kernel
theorem d_X12_isChained_4 : decode Y_X12_isChained.cc 4 = .ok (.iload_n 3, 1) := by decide +kernel
theorem d_X12_isChained_5 : decode Y_X12_isChained.cc 5 = .ok (.aload_n 0, 1) := by decide +kernel
theorem d_X12_isChained_6 : decode Y_X12_isChained.cc 6 = .ok (.invokevirtual 237, 3) := by decide +kernel
theorem d_X12_isChained_9 : decode Y_X12_isChained.cc 9 = .ok (.if_icmp .ge 28, 3) := by decide +kernel
theorem d_X12_isChained_12 : decode Y_X12_isChained.cc 12 = .ok (.iload_n 2, 1) := by decide +kernel
theorem d_X12_isChained_13 : decode Y_X12_isChained.cc 13 = .ok (.ifCond .ne 12, 3) := by decide +kernel
theorem d_X12_isChained_16 : decode Y_X12_isChained.cc 16 = .ok (.aload_n 0, 1) := by decide +kernel
theorem d_X12_isChained_17 : decode Y_X12_isChained.cc 17 = .ok (.iload_n 3, 1) := by decide +kernel
theorem d_X12_isChained_18 : decode Y_X12_isChained.cc 18 = .ok (.invokevirtual 240, 3) := by decide +kernel
theorem d_X12_isChained_21 : decode Y_X12_isChained.cc 21 = .ok (.iload_n 1, 1) := by decide +kernel
theorem d_X12_isChained_22 : decode Y_X12_isChained.cc 22 = .ok (.if_icmp .ne 7, 3) := by decide +kernel
theorem d_X12_isChained_25 : decode Y_X12_isChained.cc 25 = .ok (.iconst 1, 1) := by decide +kernel
theorem d_X12_isChained_26 : decode Y_X12_isChained.cc 26 = .ok (.goto 4, 3) := by decide +kernel
theorem d_X12_isChained_29 : decode Y_X12_isChained.cc 29 = .ok (.iconst 0, 1) := by decide +kernel
theorem d_X12_isChained_30 : decode Y_X12_isChained.cc 30 = .ok (.istore_n 2, 1) := by decide +kernel
theorem d_X12_isChained_31 : decode Y_X12_isChained.cc 31 = .ok (.iinc 3 1, 3) := by decide +kernel
theorem d_X12_isChained_34 : decode Y_X12_isChained.cc 34 = .ok (.goto (-30), 3) := by decide +kernel
theorem d_X12_isChained_37 : decode Y_X12_isChained.cc 37 = .ok (.iload_n 2, 1) := by decide +kernel
theorem d_X12_isChained_38 : decode Y_X12_isChained.cc 38 = .ok (.ireturn, 1) := by decide +kernel
def L_X12_isChained_4 (G : MG) (d : Nat) (Q : Int32 → Mm → Prop) (x1 : Int32) (x2 : Int32) (x3 : Int32) (M : Mm) : Prop := T G Y_X12_isChained (d + 1) (Ri Q) 0 0 4 [(0, .ref (G.b + 147)), (1, .int x1), (2, .int x2), (3, .int x3)] [] M
theorem b_X12_isChained_4 {G : MG} {d : Nat} {Q : Int32 → Mm → Prop} {x1 : Int32} {x2 : Int32} {x3 : Int32} {M : Mm} {c : Nat} (hL : Lay c M)  (h : (C G Y_X12_chained d [.ref (G.b + 147)] M (Ri fun r2 M1 => M1.2.2 = M.2.2 ∧ ((r2 ≤ x3 → ((x2 = 0 ∨ x2 = 1) ∧ Q x2 M1)) ∧ (¬ r2 ≤ x3 → ((¬ x2 = 0 → L_X12_isChained_4 G d Q x1 1 (x3 + 1) M1) ∧ (x2 = 0 → (C G Y_X12_chainOf d [.ref (G.b + 147), .int x3] M1 (Ri fun r6 M5 => M5.2.2 = M1.2.2 ∧ ((¬ r6 = x1 → L_X12_isChained_4 G d Q x1 0 (x3 + 1) M5) ∧ (r6 = x1 → L_X12_isChained_4 G d Q x1 1 (x3 + 1) M5))))))))))) : L_X12_isChained_4 G d Q x1 x2 x3 M := by
  unfold L_X12_isChained_4
  refine tw_iload_n 3 d_X12_isChained_4 rfl rfl ?_
  refine tw_aload_n 0 d_X12_isChained_5 rfl rfl ?_
  refine tu_cVi (As := []) cv_X12_237 hL s_147 rfl (Nat.le_of_ble_eq_true rfl) ⟨Nat.zero_le _, Nat.zero_le _⟩ d_X12_isChained_6 h (fun r2 M1 h => ?_)
  have hL_M1 : Lay c M1 := hL.to h.1
  replace h := h.2
  refine tw_icmp_ge 37 d_X12_isChained_9 (by decide) (fun z3 => ?_) (fun z3 => ?_)
  · replace h := h.1 z3
    refine tw_iload_n 2 d_X12_isChained_37 rfl rfl ?_
    exact tw_zret (ty := .boolean) rfl (nzb h.1) ⟨Nat.zero_le _, Nat.zero_le _⟩ d_X12_isChained_38 h.2
  · replace h := h.2 z3
    refine tw_iload_n 2 d_X12_isChained_12 rfl rfl ?_
    refine tw_if_ne 25 d_X12_isChained_13 (by decide) (fun z4 => ?_) (fun z4 => ?_)
    · replace h := h.1 z4
      refine tw_iconst d_X12_isChained_25 k_1 ?_
      refine tw_goto 30 d_X12_isChained_26 (by decide) ?_
      refine tw_istore_n [(2, .int 1), (0, .ref (G.b + 147)), (1, .int x1), (3, .int x3)] d_X12_isChained_30 rfl (Nat.le_of_ble_eq_true rfl) rfl ?_
      refine tw_iinc 3 [(3, .int (x3 + 1)), (2, .int 1), (0, .ref (G.b + 147)), (1, .int x1)] d_X12_isChained_31 rfl rfl (Nat.le_of_ble_eq_true rfl) rfl ?_
      refine tw_goto 4 d_X12_isChained_34 (by decide) ?_
      exact tw_lv [2, 3, 1, 0] rfl h
    · replace h := h.2 z4
      refine tw_aload_n 0 d_X12_isChained_16 rfl rfl ?_
      refine tw_iload_n 3 d_X12_isChained_17 rfl rfl ?_
      refine tu_cVi (As := [.int x3]) cv_X12_240 hL_M1 s_147 rfl (Nat.le_of_ble_eq_true rfl) ⟨Nat.zero_le _, Nat.zero_le _⟩ d_X12_isChained_18 h (fun r6 M5 h => ?_)
      have hL_M5 : Lay c M5 := hL_M1.to h.1
      replace h := h.2
      refine tw_iload_n 1 d_X12_isChained_21 rfl rfl ?_
      refine tw_icmp_ne 29 d_X12_isChained_22 (by decide) (fun z7 => ?_) (fun z7 => ?_)
      · replace h := h.1 z7
        refine tw_iconst d_X12_isChained_29 k_0 ?_
        refine tw_istore_n [(2, .int 0), (0, .ref (G.b + 147)), (1, .int x1), (3, .int x3)] d_X12_isChained_30 rfl (Nat.le_of_ble_eq_true rfl) rfl ?_
        refine tw_iinc 3 [(3, .int (x3 + 1)), (2, .int 0), (0, .ref (G.b + 147)), (1, .int x1)] d_X12_isChained_31 rfl rfl (Nat.le_of_ble_eq_true rfl) rfl ?_
        refine tw_goto 4 d_X12_isChained_34 (by decide) ?_
        exact tw_lv [2, 3, 1, 0] rfl h
      · replace h := h.2 z7
        refine tw_iconst d_X12_isChained_25 k_1 ?_
        refine tw_goto 30 d_X12_isChained_26 (by decide) ?_
        refine tw_istore_n [(2, .int 1), (0, .ref (G.b + 147)), (1, .int x1), (3, .int x3)] d_X12_isChained_30 rfl (Nat.le_of_ble_eq_true rfl) rfl ?_
        refine tw_iinc 3 [(3, .int (x3 + 1)), (2, .int 1), (0, .ref (G.b + 147)), (1, .int x1)] d_X12_isChained_31 rfl rfl (Nat.le_of_ble_eq_true rfl) rfl ?_
        refine tw_goto 4 d_X12_isChained_34 (by decide) ?_
        exact tw_lv [2, 3, 1, 0] rfl h
theorem b_X12_isChained {G : MG} {d : Nat} {Q : Int32 → Mm → Prop} {x1 : Int32} {M : Mm} {c : Nat} (hL : Lay c M)  (h : L_X12_isChained_4 G d Q x1 0 0 M) : C G Y_X12_isChained (d + 1) [.ref (G.b + 147), .int x1] M (Ri Q) := by
  refine C.of (by decide) (Nat.le_of_ble_eq_true rfl) (lv := [(0, .ref (G.b + 147)), (1, .int x1)]) rfl ?_
  refine tw_iconst d_X12_isChained_0 k_0 ?_
  refine tw_istore_n [(2, .int 0), (0, .ref (G.b + 147)), (1, .int x1)] d_X12_isChained_1 rfl (Nat.le_of_ble_eq_true rfl) rfl ?_
  refine tw_iconst d_X12_isChained_2 k_0 ?_
  refine tw_istore_n [(3, .int 0), (2, .int 0), (0, .ref (G.b + 147)), (1, .int x1)] d_X12_isChained_3 rfl (Nat.le_of_ble_eq_true rfl) rfl ?_
  exact tw_lv [2, 3, 1, 0] rfl h

theorem d_X12_triesOrder_0 : decode Y_X12_triesOrder.cc 0 = .ok (.iload_n 1, 1) := by decide +kernel
theorem d_X12_triesOrder_1 : decode Y_X12_triesOrder.cc 1 = .ok (.aload_n 0, 1) := by decide +kernel
theorem d_X12_triesOrder_2 : decode Y_X12_triesOrder.cc 2 = .ok (.invokevirtual 237, 3) := by decide +kernel
theorem d_X12_triesOrder_5 : decode Y_X12_triesOrder.cc 5 = .ok (.if_icmp .ne 84, 3) := by decide +kernel
theorem d_X12_triesOrder_8 : decode Y_X12_triesOrder.cc 8 = .ok (.aload_n 0, 1) := by decide +kernel
theorem d_X12_triesOrder_9 : decode Y_X12_triesOrder.cc 9 = .ok (.aload_n 0, 1) := by decide +kernel
theorem d_X12_triesOrder_10 : decode Y_X12_triesOrder.cc 10 = .ok (.getfield 82, 3) := by decide +kernel
theorem d_X12_triesOrder_13 : decode Y_X12_triesOrder.cc 13 = .ok (.invokevirtual 275, 3) := by decide +kernel
theorem d_X12_triesOrder_16 : decode Y_X12_triesOrder.cc 16 = .ok (.aload_n 0, 1) := by decide +kernel
theorem d_X12_triesOrder_17 : decode Y_X12_triesOrder.cc 17 = .ok (.getfield 281, 3) := by decide +kernel
theorem d_X12_triesOrder_20 : decode Y_X12_triesOrder.cc 20 = .ok (.lconst 0, 1) := by decide +kernel
theorem d_X12_triesOrder_21 : decode Y_X12_triesOrder.cc 21 = .ok (.lcmp, 1) := by decide +kernel
theorem d_X12_triesOrder_22 : decode Y_X12_triesOrder.cc 22 = .ok (.ifCond .eq 25, 3) := by decide +kernel
theorem d_X12_triesOrder_25 : decode Y_X12_triesOrder.cc 25 = .ok (.aload_n 0, 1) := by decide +kernel
theorem d_X12_triesOrder_26 : decode Y_X12_triesOrder.cc 26 = .ok (.getfield 269, 3) := by decide +kernel
theorem d_X12_triesOrder_29 : decode Y_X12_triesOrder.cc 29 = .ok (.aload_n 0, 1) := by decide +kernel
theorem d_X12_triesOrder_30 : decode Y_X12_triesOrder.cc 30 = .ok (.getfield 281, 3) := by decide +kernel
theorem d_X12_triesOrder_33 : decode Y_X12_triesOrder.cc 33 = .ok (.lmul, 1) := by decide +kernel
theorem d_X12_triesOrder_34 : decode Y_X12_triesOrder.cc 34 = .ok (.aload_n 0, 1) := by decide +kernel
theorem d_X12_triesOrder_35 : decode Y_X12_triesOrder.cc 35 = .ok (.getfield 284, 3) := by decide +kernel
theorem d_X12_triesOrder_38 : decode Y_X12_triesOrder.cc 38 = .ok (.aload_n 0, 1) := by decide +kernel
theorem d_X12_triesOrder_39 : decode Y_X12_triesOrder.cc 39 = .ok (.getfield 272, 3) := by decide +kernel
theorem d_X12_triesOrder_42 : decode Y_X12_triesOrder.cc 42 = .ok (.lmul, 1) := by decide +kernel
theorem d_X12_triesOrder_43 : decode Y_X12_triesOrder.cc 43 = .ok (.lcmp, 1) := by decide +kernel
theorem d_X12_triesOrder_44 : decode Y_X12_triesOrder.cc 44 = .ok (.ifCond .ge 44, 3) := by decide +kernel
theorem d_X12_triesOrder_47 : decode Y_X12_triesOrder.cc 47 = .ok (.aload_n 0, 1) := by decide +kernel
theorem d_X12_triesOrder_48 : decode Y_X12_triesOrder.cc 48 = .ok (.aload_n 0, 1) := by decide +kernel
theorem d_X12_triesOrder_49 : decode Y_X12_triesOrder.cc 49 = .ok (.getfield 269, 3) := by decide +kernel
theorem d_X12_triesOrder_52 : decode Y_X12_triesOrder.cc 52 = .ok (.putfield 284, 3) := by decide +kernel
theorem d_X12_triesOrder_55 : decode Y_X12_triesOrder.cc 55 = .ok (.aload_n 0, 1) := by decide +kernel
theorem d_X12_triesOrder_56 : decode Y_X12_triesOrder.cc 56 = .ok (.aload_n 0, 1) := by decide +kernel
theorem d_X12_triesOrder_57 : decode Y_X12_triesOrder.cc 57 = .ok (.getfield 272, 3) := by decide +kernel
theorem d_X12_triesOrder_60 : decode Y_X12_triesOrder.cc 60 = .ok (.putfield 281, 3) := by decide +kernel
theorem d_X12_triesOrder_63 : decode Y_X12_triesOrder.cc 63 = .ok (.iconst 0, 1) := by decide +kernel
theorem d_X12_triesOrder_64 : decode Y_X12_triesOrder.cc 64 = .ok (.istore_n 3, 1) := by decide +kernel
theorem d_X12_triesOrder_65 : decode Y_X12_triesOrder.cc 65 = .ok (.iload_n 3, 1) := by decide +kernel
theorem d_X12_triesOrder_66 : decode Y_X12_triesOrder.cc 66 = .ok (.iload_n 1, 1) := by decide +kernel
theorem d_X12_triesOrder_67 : decode Y_X12_triesOrder.cc 67 = .ok (.if_icmp .ge 21, 3) := by decide +kernel
theorem d_X12_triesOrder_70 : decode Y_X12_triesOrder.cc 70 = .ok (.aload_n 0, 1) := by decide +kernel
theorem d_X12_triesOrder_71 : decode Y_X12_triesOrder.cc 71 = .ok (.getfield 85, 3) := by decide +kernel
theorem d_X12_triesOrder_74 : decode Y_X12_triesOrder.cc 74 = .ok (.iload_n 3, 1) := by decide +kernel
theorem d_X12_triesOrder_75 : decode Y_X12_triesOrder.cc 75 = .ok (.aload_n 0, 1) := by decide +kernel
theorem d_X12_triesOrder_76 : decode Y_X12_triesOrder.cc 76 = .ok (.getfield 82, 3) := by decide +kernel
theorem d_X12_triesOrder_79 : decode Y_X12_triesOrder.cc 79 = .ok (.iload_n 3, 1) := by decide +kernel
theorem d_X12_triesOrder_80 : decode Y_X12_triesOrder.cc 80 = .ok (.iaload, 1) := by decide +kernel
theorem d_X12_triesOrder_81 : decode Y_X12_triesOrder.cc 81 = .ok (.iastore, 1) := by decide +kernel
theorem d_X12_triesOrder_82 : decode Y_X12_triesOrder.cc 82 = .ok (.iinc 3 1, 3) := by decide +kernel
theorem d_X12_triesOrder_85 : decode Y_X12_triesOrder.cc 85 = .ok (.goto (-20), 3) := by decide +kernel
theorem d_X12_triesOrder_88 : decode Y_X12_triesOrder.cc 88 = .ok (.return_, 1) := by decide +kernel
theorem d_X12_triesOrder_89 : decode Y_X12_triesOrder.cc 89 = .ok (.iconst 0, 1) := by decide +kernel
theorem d_X12_triesOrder_90 : decode Y_X12_triesOrder.cc 90 = .ok (.istore_n 3, 1) := by decide +kernel
theorem d_X12_triesOrder_91 : decode Y_X12_triesOrder.cc 91 = .ok (.iload_n 3, 1) := by decide +kernel
theorem d_X12_triesOrder_92 : decode Y_X12_triesOrder.cc 92 = .ok (.aload_n 0, 1) := by decide +kernel
theorem d_X12_triesOrder_93 : decode Y_X12_triesOrder.cc 93 = .ok (.invokevirtual 183, 3) := by decide +kernel
theorem d_X12_triesOrder_96 : decode Y_X12_triesOrder.cc 96 = .ok (.if_icmp .ge 44, 3) := by decide +kernel
theorem d_X12_triesOrder_99 : decode Y_X12_triesOrder.cc 99 = .ok (.aload_n 0, 1) := by decide +kernel
theorem d_X12_triesOrder_100 : decode Y_X12_triesOrder.cc 100 = .ok (.iload_n 3, 1) := by decide +kernel
theorem d_X12_triesOrder_101 : decode Y_X12_triesOrder.cc 101 = .ok (.invokevirtual 287, 3) := by decide +kernel
theorem d_X12_triesOrder_104 : decode Y_X12_triesOrder.cc 104 = .ok (.ifCond .eq 30, 3) := by decide +kernel
theorem d_X12_triesOrder_107 : decode Y_X12_triesOrder.cc 107 = .ok (.iload_n 2, 1) := by decide +kernel
theorem d_X12_triesOrder_108 : decode Y_X12_triesOrder.cc 108 = .ok (.iload_n 3, 1) := by decide +kernel
theorem d_X12_triesOrder_109 : decode Y_X12_triesOrder.cc 109 = .ok (.ishr, 1) := by decide +kernel
theorem d_X12_triesOrder_110 : decode Y_X12_triesOrder.cc 110 = .ok (.iconst 1, 1) := by decide +kernel
theorem d_X12_triesOrder_111 : decode Y_X12_triesOrder.cc 111 = .ok (.iand, 1) := by decide +kernel
theorem d_X12_triesOrder_112 : decode Y_X12_triesOrder.cc 112 = .ok (.ifCond .ne 22, 3) := by decide +kernel
theorem d_X12_triesOrder_115 : decode Y_X12_triesOrder.cc 115 = .ok (.aload_n 0, 1) := by decide +kernel
theorem d_X12_triesOrder_116 : decode Y_X12_triesOrder.cc 116 = .ok (.getfield 82, 3) := by decide +kernel
theorem d_X12_triesOrder_119 : decode Y_X12_triesOrder.cc 119 = .ok (.iload_n 1, 1) := by decide +kernel
theorem d_X12_triesOrder_120 : decode Y_X12_triesOrder.cc 120 = .ok (.iload_n 3, 1) := by decide +kernel
theorem d_X12_triesOrder_121 : decode Y_X12_triesOrder.cc 121 = .ok (.iastore, 1) := by decide +kernel
theorem d_X12_triesOrder_122 : decode Y_X12_triesOrder.cc 122 = .ok (.aload_n 0, 1) := by decide +kernel
theorem d_X12_triesOrder_123 : decode Y_X12_triesOrder.cc 123 = .ok (.iload_n 1, 1) := by decide +kernel
theorem d_X12_triesOrder_124 : decode Y_X12_triesOrder.cc 124 = .ok (.iconst 1, 1) := by decide +kernel
theorem d_X12_triesOrder_125 : decode Y_X12_triesOrder.cc 125 = .ok (.iadd, 1) := by decide +kernel
theorem d_X12_triesOrder_126 : decode Y_X12_triesOrder.cc 126 = .ok (.iload_n 2, 1) := by decide +kernel
theorem d_X12_triesOrder_127 : decode Y_X12_triesOrder.cc 127 = .ok (.iconst 1, 1) := by decide +kernel
theorem d_X12_triesOrder_128 : decode Y_X12_triesOrder.cc 128 = .ok (.iload_n 3, 1) := by decide +kernel
theorem d_X12_triesOrder_129 : decode Y_X12_triesOrder.cc 129 = .ok (.ishl, 1) := by decide +kernel
theorem d_X12_triesOrder_130 : decode Y_X12_triesOrder.cc 130 = .ok (.ior, 1) := by decide +kernel
theorem d_X12_triesOrder_131 : decode Y_X12_triesOrder.cc 131 = .ok (.invokevirtual 290, 3) := by decide +kernel
theorem d_X12_triesOrder_134 : decode Y_X12_triesOrder.cc 134 = .ok (.iinc 3 1, 3) := by decide +kernel
theorem d_X12_triesOrder_137 : decode Y_X12_triesOrder.cc 137 = .ok (.goto (-46), 3) := by decide +kernel
theorem d_X12_triesOrder_140 : decode Y_X12_triesOrder.cc 140 = .ok (.return_, 1) := by decide +kernel
def L_X12_triesOrder_65 (G : MG) (d : Nat) (Q : Mm → Prop) (x1 : Int32) (x3 : Int32) (M : Mm) : Prop := T G Y_X12_triesOrder (d + 1) (Rv Q) 0 0 65 [(0, .ref (G.b + 147)), (1, .int x1), (3, .int x3)] [] M
def L_X12_triesOrder_91 (G : MG) (d : Nat) (Q : Mm → Prop) (x1 : Int32) (x2 : Int32) (x3 : Int32) (M : Mm) : Prop := T G Y_X12_triesOrder (d + 1) (Rv Q) 0 0 91 [(0, .ref (G.b + 147)), (1, .int x1), (2, .int x2), (3, .int x3)] [] M
theorem b_X12_triesOrder_65 {G : MG} {d : Nat} {Q : Mm → Prop} {x1 : Int32} {x3 : Int32} {M : Mm} {c : Nat} (hL : Lay c M)  (h : ((x1 ≤ x3 → Q M) ∧ (¬ x1 ≤ x3 → (vp_in x3 7 ∧ (vp_in x3 7 ∧ ∀ M2 : Mm, M2 = sI M 158 x3.toNatClampNeg (M.1 157 x3.toNatClampNeg) → L_X12_triesOrder_65 G d Q x1 (x3 + 1) M2))))) : L_X12_triesOrder_65 G d Q x1 x3 M := by
  unfold L_X12_triesOrder_65
  refine tw_iload_n 2 d_X12_triesOrder_65 rfl rfl ?_
  refine tw_iload_n 1 d_X12_triesOrder_66 rfl rfl ?_
  refine tw_icmp_ge 88 d_X12_triesOrder_67 (by decide) (fun z1 => ?_) (fun z1 => ?_)
  · replace h := h.1 z1
    exact tw_vret rfl ⟨Nat.zero_le _, Nat.zero_le _⟩ d_X12_triesOrder_88 h
  · replace h := h.2 z1
    refine tw_aload_n 0 d_X12_triesOrder_70 rfl rfl ?_
    refine tw_getR f_X12_85 hL s_147 ⟨rfl, rfl⟩ (rr_X12_24 s_147) d_X12_triesOrder_71 ?_
    refine tw_iload_n 2 d_X12_triesOrder_74 rfl rfl ?_
    refine tw_aload_n 0 d_X12_triesOrder_75 rfl rfl ?_
    refine tw_getR f_X12_82 hL s_147 ⟨rfl, rfl⟩ (rr_X12_23 s_147) d_X12_triesOrder_76 ?_
    refine tw_iload_n 2 d_X12_triesOrder_79 rfl rfl ?_
    refine tw_iald hL s_157 d_X12_triesOrder_80 h.1 ?_
    replace h := h.2
    refine tu_iast hL s_158 d_X12_triesOrder_81 h.1 (fun M2 e_M2 hL_M2 => ?_)
    replace h := h.2 M2 e_M2
    refine tw_iinc 2 [(3, .int (x3 + 1)), (0, .ref (G.b + 147)), (1, .int x1)] d_X12_triesOrder_82 rfl rfl (Nat.le_of_ble_eq_true rfl) rfl ?_
    refine tw_goto 65 d_X12_triesOrder_85 (by decide) ?_
    exact tw_lv [1, 2, 0] rfl h
theorem b_X12_triesOrder_91 {G : MG} {d : Nat} {Q : Mm → Prop} {x1 : Int32} {x2 : Int32} {x3 : Int32} {M : Mm} {c : Nat} (hL : Lay c M)  (h : (C G Y_X12_arms d [.ref (G.b + 147)] M (Ri fun r2 M1 => M1.2.2 = M.2.2 ∧ ((r2 ≤ x3 → Q M1) ∧ (¬ r2 ≤ x3 → (C G Y_X12_isChained d [.ref (G.b + 147), .int x3] M1 (Ri fun r5 M4 => M4.2.2 = M1.2.2 ∧ ((r5 = 0 → L_X12_triesOrder_91 G d Q x1 x2 (x3 + 1) M4) ∧ (¬ r5 = 0 → ((¬ ((x2 >>> (x3 &&& 31)) &&& 1) = 0 → L_X12_triesOrder_91 G d Q x1 x2 (x3 + 1) M4) ∧ (((x2 >>> (x3 &&& 31)) &&& 1) = 0 → (vp_in x1 7 ∧ ∀ M8 : Mm, M8 = sI M4 157 x1.toNatClampNeg x3 → (C G Y_X12_triesOrder d [.ref (G.b + 147), .int (x1 + 1), .int (x2 ||| (1 <<< (x3 &&& 31)))] M8 (Rv fun M9 => M9.2.2 = M8.2.2 ∧ L_X12_triesOrder_91 G d Q x1 x2 (x3 + 1) M9)))))))))))))) : L_X12_triesOrder_91 G d Q x1 x2 x3 M := by
  unfold L_X12_triesOrder_91
  refine tw_iload_n 3 d_X12_triesOrder_91 rfl rfl ?_
  refine tw_aload_n 0 d_X12_triesOrder_92 rfl rfl ?_
  refine tu_cVi (As := []) cv_X12_183 hL s_147 rfl (Nat.le_of_ble_eq_true rfl) ⟨Nat.zero_le _, Nat.zero_le _⟩ d_X12_triesOrder_93 h (fun r2 M1 h => ?_)
  have hL_M1 : Lay c M1 := hL.to h.1
  replace h := h.2
  refine tw_icmp_ge 140 d_X12_triesOrder_96 (by decide) (fun z3 => ?_) (fun z3 => ?_)
  · replace h := h.1 z3
    exact tw_vret rfl ⟨Nat.zero_le _, Nat.zero_le _⟩ d_X12_triesOrder_140 h
  · replace h := h.2 z3
    refine tw_aload_n 0 d_X12_triesOrder_99 rfl rfl ?_
    refine tw_iload_n 3 d_X12_triesOrder_100 rfl rfl ?_
    refine tu_cVi (As := [.int x3]) cv_X12_287 hL_M1 s_147 rfl (Nat.le_of_ble_eq_true rfl) ⟨Nat.zero_le _, Nat.zero_le _⟩ d_X12_triesOrder_101 h (fun r5 M4 h => ?_)
    have hL_M4 : Lay c M4 := hL_M1.to h.1
    replace h := h.2
    refine tw_if_eq 134 d_X12_triesOrder_104 (by decide) (fun z6 => ?_) (fun z6 => ?_)
    · replace h := h.1 z6
      refine tw_iinc 3 [(3, .int (x3 + 1)), (0, .ref (G.b + 147)), (1, .int x1), (2, .int x2)] d_X12_triesOrder_134 rfl rfl (Nat.le_of_ble_eq_true rfl) rfl ?_
      refine tw_goto 91 d_X12_triesOrder_137 (by decide) ?_
      exact tw_lv [1, 2, 3, 0] rfl h
    · replace h := h.2 z6
      refine tw_iload_n 2 d_X12_triesOrder_107 rfl rfl ?_
      refine tw_iload_n 3 d_X12_triesOrder_108 rfl rfl ?_
      refine tw_ishr d_X12_triesOrder_109 ?_
      refine tw_iconst d_X12_triesOrder_110 k_1 ?_
      refine tw_iand d_X12_triesOrder_111 ?_
      refine tw_if_ne 134 d_X12_triesOrder_112 (by decide) (fun z7 => ?_) (fun z7 => ?_)
      · replace h := h.1 z7
        refine tw_iinc 3 [(3, .int (x3 + 1)), (0, .ref (G.b + 147)), (1, .int x1), (2, .int x2)] d_X12_triesOrder_134 rfl rfl (Nat.le_of_ble_eq_true rfl) rfl ?_
        refine tw_goto 91 d_X12_triesOrder_137 (by decide) ?_
        exact tw_lv [1, 2, 3, 0] rfl h
      · replace h := h.2 z7
        refine tw_aload_n 0 d_X12_triesOrder_115 rfl rfl ?_
        refine tw_getR f_X12_82 hL_M4 s_147 ⟨rfl, rfl⟩ (rr_X12_23 s_147) d_X12_triesOrder_116 ?_
        refine tw_iload_n 1 d_X12_triesOrder_119 rfl rfl ?_
        refine tw_iload_n 3 d_X12_triesOrder_120 rfl rfl ?_
        refine tu_iast hL_M4 s_157 d_X12_triesOrder_121 h.1 (fun M8 e_M8 hL_M8 => ?_)
        replace h := h.2 M8 e_M8
        refine tw_aload_n 0 d_X12_triesOrder_122 rfl rfl ?_
        refine tw_iload_n 1 d_X12_triesOrder_123 rfl rfl ?_
        refine tw_iconst d_X12_triesOrder_124 k_1 ?_
        refine tw_iadd d_X12_triesOrder_125 ?_
        refine tw_iload_n 2 d_X12_triesOrder_126 rfl rfl ?_
        refine tw_iconst d_X12_triesOrder_127 k_1 ?_
        refine tw_iload_n 3 d_X12_triesOrder_128 rfl rfl ?_
        refine tw_ishl d_X12_triesOrder_129 ?_
        refine tw_ior d_X12_triesOrder_130 ?_
        refine tu_cVv (As := [.int (x1 + 1), .int (x2 ||| (1 <<< (x3 &&& 31)))]) cv_X12_290 hL_M8 s_147 rfl (Nat.le_of_ble_eq_true rfl) ⟨Nat.zero_le _, Nat.zero_le _⟩ d_X12_triesOrder_131 h (fun M9 h => ?_)
        have hL_M9 : Lay c M9 := hL_M8.to h.1
        replace h := h.2
        refine tw_iinc 3 [(3, .int (x3 + 1)), (0, .ref (G.b + 147)), (1, .int x1), (2, .int x2)] d_X12_triesOrder_134 rfl rfl (Nat.le_of_ble_eq_true rfl) rfl ?_
        refine tw_goto 91 d_X12_triesOrder_137 (by decide) ?_
        exact tw_lv [1, 2, 3, 0] rfl h
theorem b_X12_triesOrder {G : MG} {d : Nat} {Q : Mm → Prop} {x1 : Int32} {x2 : Int32} {M : Mm} {c : Nat} (hL : Lay c M)  (h : (C G Y_X12_chained d [.ref (G.b + 147)] M (Ri fun r2 M1 => M1.2.2 = M.2.2 ∧ ((¬ x1 = r2 → L_X12_triesOrder_91 G d Q x1 x2 0 M1) ∧ (x1 = r2 → (C G Y_X12_findShakes d [.ref (G.b + 147), .ref (G.b + 157)] M1 (Rv fun M4 => M4.2.2 = M1.2.2 ∧ (((M4.2.1 147 26) = 0 → (∀ M6 : Mm, M6 = sJ M4 147 25 (M4.2.1 147 21) → (∀ M7 : Mm, M7 = sJ M6 147 26 (M6.2.1 147 22) → L_X12_triesOrder_65 G d Q x1 0 M7))) ∧ (¬ (M4.2.1 147 26) = 0 → ((((M4.2.1 147 25) * (M4.2.1 147 22)) ≤ ((M4.2.1 147 21) * (M4.2.1 147 26)) → Q M4) ∧ (¬ ((M4.2.1 147 25) * (M4.2.1 147 22)) ≤ ((M4.2.1 147 21) * (M4.2.1 147 26)) → (∀ M9 : Mm, M9 = sJ M4 147 25 (M4.2.1 147 21) → (∀ M10 : Mm, M10 = sJ M9 147 26 (M9.2.1 147 22) → L_X12_triesOrder_65 G d Q x1 0 M10))))))))))))) : C G Y_X12_triesOrder (d + 1) [.ref (G.b + 147), .int x1, .int x2] M (Rv Q) := by
  refine C.of (by decide) (Nat.le_of_ble_eq_true rfl) (lv := [(0, .ref (G.b + 147)), (1, .int x1), (2, .int x2)]) rfl ?_
  refine tw_iload_n 1 d_X12_triesOrder_0 rfl rfl ?_
  refine tw_aload_n 0 d_X12_triesOrder_1 rfl rfl ?_
  refine tu_cVi (As := []) cv_X12_237 hL s_147 rfl (Nat.le_of_ble_eq_true rfl) ⟨Nat.zero_le _, Nat.zero_le _⟩ d_X12_triesOrder_2 h (fun r2 M1 h => ?_)
  have hL_M1 : Lay c M1 := hL.to h.1
  replace h := h.2
  refine tw_icmp_ne 89 d_X12_triesOrder_5 (by decide) (fun z3 => ?_) (fun z3 => ?_)
  · replace h := h.1 z3
    refine tw_iconst d_X12_triesOrder_89 k_0 ?_
    refine tw_istore_n [(3, .int 0), (0, .ref (G.b + 147)), (1, .int x1), (2, .int x2)] d_X12_triesOrder_90 rfl (Nat.le_of_ble_eq_true rfl) rfl ?_
    exact tw_lv [1, 2, 3, 0] rfl h
  · replace h := h.2 z3
    refine tw_aload_n 0 d_X12_triesOrder_8 rfl rfl ?_
    refine tw_aload_n 0 d_X12_triesOrder_9 rfl rfl ?_
    refine tw_getR f_X12_82 hL_M1 s_147 ⟨rfl, rfl⟩ (rr_X12_23 s_147) d_X12_triesOrder_10 ?_
    refine tu_cVv (As := [.ref (G.b + 157)]) cv_X12_275 hL_M1 s_147 rfl (Nat.le_of_ble_eq_true rfl) ⟨Nat.zero_le _, Nat.zero_le _⟩ d_X12_triesOrder_13 h (fun M4 h => ?_)
    have hL_M4 : Lay c M4 := hL_M1.to h.1
    replace h := h.2
    refine tw_aload_n 0 d_X12_triesOrder_16 rfl rfl ?_
    refine tw_getJ f_X12_281 hL_M4 s_147 rfl d_X12_triesOrder_17 ?_
    refine tw_lconst (v := 0) d_X12_triesOrder_20 rfl ?_
    refine tw_lcmp_eq 47 d_X12_triesOrder_21 d_X12_triesOrder_22 (by decide) (fun z5 => ?_) (fun z5 => ?_)
    · replace h := h.1 z5
      refine tw_aload_n 0 d_X12_triesOrder_47 rfl rfl ?_
      refine tw_aload_n 0 d_X12_triesOrder_48 rfl rfl ?_
      refine tw_getJ f_X12_269 hL_M4 s_147 rfl d_X12_triesOrder_49 ?_
      refine tu_putJ f_X12_284 hL_M4 s_147 rfl rfl d_X12_triesOrder_52 (fun M6 e_M6 hL_M6 => ?_)
      replace h := h M6 e_M6
      refine tw_aload_n 0 d_X12_triesOrder_55 rfl rfl ?_
      refine tw_aload_n 0 d_X12_triesOrder_56 rfl rfl ?_
      refine tw_getJ f_X12_272 hL_M6 s_147 rfl d_X12_triesOrder_57 ?_
      refine tu_putJ f_X12_281 hL_M6 s_147 rfl rfl d_X12_triesOrder_60 (fun M7 e_M7 hL_M7 => ?_)
      replace h := h M7 e_M7
      refine tw_iconst d_X12_triesOrder_63 k_0 ?_
      refine tw_istore_n [(3, .int 0), (0, .ref (G.b + 147)), (1, .int x1), (2, .int x2)] d_X12_triesOrder_64 rfl (Nat.le_of_ble_eq_true rfl) rfl ?_
      exact tw_lv [1, 2, 0] rfl h
    · replace h := h.2 z5
      refine tw_aload_n 0 d_X12_triesOrder_25 rfl rfl ?_
      refine tw_getJ f_X12_269 hL_M4 s_147 rfl d_X12_triesOrder_26 ?_
      refine tw_aload_n 0 d_X12_triesOrder_29 rfl rfl ?_
      refine tw_getJ f_X12_281 hL_M4 s_147 rfl d_X12_triesOrder_30 ?_
      refine tw_lmul d_X12_triesOrder_33 ?_
      refine tw_aload_n 0 d_X12_triesOrder_34 rfl rfl ?_
      refine tw_getJ f_X12_284 hL_M4 s_147 rfl d_X12_triesOrder_35 ?_
      refine tw_aload_n 0 d_X12_triesOrder_38 rfl rfl ?_
      refine tw_getJ f_X12_272 hL_M4 s_147 rfl d_X12_triesOrder_39 ?_
      refine tw_lmul d_X12_triesOrder_42 ?_
      refine tw_lcmp_ge 88 d_X12_triesOrder_43 d_X12_triesOrder_44 (by decide) (fun z8 => ?_) (fun z8 => ?_)
      · replace h := h.1 z8
        exact tw_vret rfl ⟨Nat.zero_le _, Nat.zero_le _⟩ d_X12_triesOrder_88 h
      · replace h := h.2 z8
        refine tw_aload_n 0 d_X12_triesOrder_47 rfl rfl ?_
        refine tw_aload_n 0 d_X12_triesOrder_48 rfl rfl ?_
        refine tw_getJ f_X12_269 hL_M4 s_147 rfl d_X12_triesOrder_49 ?_
        refine tu_putJ f_X12_284 hL_M4 s_147 rfl rfl d_X12_triesOrder_52 (fun M9 e_M9 hL_M9 => ?_)
        replace h := h M9 e_M9
        refine tw_aload_n 0 d_X12_triesOrder_55 rfl rfl ?_
        refine tw_aload_n 0 d_X12_triesOrder_56 rfl rfl ?_
        refine tw_getJ f_X12_272 hL_M9 s_147 rfl d_X12_triesOrder_57 ?_
        refine tu_putJ f_X12_281 hL_M9 s_147 rfl rfl d_X12_triesOrder_60 (fun M10 e_M10 hL_M10 => ?_)
        replace h := h M10 e_M10
        refine tw_iconst d_X12_triesOrder_63 k_0 ?_
        refine tw_istore_n [(3, .int 0), (0, .ref (G.b + 147)), (1, .int x1), (2, .int x2)] d_X12_triesOrder_64 rfl (Nat.le_of_ble_eq_true rfl) rfl ?_
        exact tw_lv [1, 2, 0] rfl h

theorem d_X12_steadiest_0 : decode Y_X12_steadiest.cc 0 = .ok (.aload_n 0, 1) := by decide +kernel
theorem d_X12_steadiest_1 : decode Y_X12_steadiest.cc 1 = .ok (.iconst 0, 1) := by decide +kernel
theorem d_X12_steadiest_2 : decode Y_X12_steadiest.cc 2 = .ok (.putfield 1, 3) := by decide +kernel
theorem d_X12_steadiest_5 : decode Y_X12_steadiest.cc 5 = .ok (.iload_n 1, 1) := by decide +kernel
theorem d_X12_steadiest_6 : decode Y_X12_steadiest.cc 6 = .ok (.iconst 0, 1) := by decide +kernel
theorem d_X12_steadiest_7 : decode Y_X12_steadiest.cc 7 = .ok (.iconst 1, 1) := by decide +kernel
theorem d_X12_steadiest_8 : decode Y_X12_steadiest.cc 8 = .ok (.aload_n 0, 1) := by decide +kernel
theorem d_X12_steadiest_9 : decode Y_X12_steadiest.cc 9 = .ok (.invokevirtual 237, 3) := by decide +kernel
theorem d_X12_steadiest_12 : decode Y_X12_steadiest.cc 12 = .ok (.iadd, 1) := by decide +kernel
theorem d_X12_steadiest_13 : decode Y_X12_steadiest.cc 13 = .ok (.invokestatic 196, 3) := by decide +kernel
theorem d_X12_steadiest_16 : decode Y_X12_steadiest.cc 16 = .ok (.ifCond .ne 7, 3) := by decide +kernel
theorem d_X12_steadiest_19 : decode Y_X12_steadiest.cc 19 = .ok (.ldc2_w 279, 3) := by decide +kernel
theorem d_X12_steadiest_22 : decode Y_X12_steadiest.cc 22 = .ok (.lreturn, 1) := by decide +kernel
theorem d_X12_steadiest_23 : decode Y_X12_steadiest.cc 23 = .ok (.aload_n 0, 1) := by decide +kernel
theorem d_X12_steadiest_24 : decode Y_X12_steadiest.cc 24 = .ok (.lconst 0, 1) := by decide +kernel
theorem d_X12_steadiest_25 : decode Y_X12_steadiest.cc 25 = .ok (.putfield 281, 3) := by decide +kernel
theorem d_X12_steadiest_28 : decode Y_X12_steadiest.cc 28 = .ok (.aload_n 0, 1) := by decide +kernel
theorem d_X12_steadiest_29 : decode Y_X12_steadiest.cc 29 = .ok (.iconst 0, 1) := by decide +kernel
theorem d_X12_steadiest_30 : decode Y_X12_steadiest.cc 30 = .ok (.iconst 0, 1) := by decide +kernel
theorem d_X12_steadiest_31 : decode Y_X12_steadiest.cc 31 = .ok (.invokevirtual 290, 3) := by decide +kernel
theorem d_X12_steadiest_34 : decode Y_X12_steadiest.cc 34 = .ok (.iload_n 1, 1) := by decide +kernel
theorem d_X12_steadiest_35 : decode Y_X12_steadiest.cc 35 = .ok (.ifCond .ne 10, 3) := by decide +kernel
theorem d_X12_steadiest_38 : decode Y_X12_steadiest.cc 38 = .ok (.aload_n 0, 1) := by decide +kernel
theorem d_X12_steadiest_39 : decode Y_X12_steadiest.cc 39 = .ok (.getfield 284, 3) := by decide +kernel
theorem d_X12_steadiest_42 : decode Y_X12_steadiest.cc 42 = .ok (.goto 24, 3) := by decide +kernel
theorem d_X12_steadiest_45 : decode Y_X12_steadiest.cc 45 = .ok (.iload_n 1, 1) := by decide +kernel
theorem d_X12_steadiest_46 : decode Y_X12_steadiest.cc 46 = .ok (.iconst 1, 1) := by decide +kernel
theorem d_X12_steadiest_47 : decode Y_X12_steadiest.cc 47 = .ok (.if_icmp .ne 10, 3) := by decide +kernel
theorem d_X12_steadiest_50 : decode Y_X12_steadiest.cc 50 = .ok (.aload_n 0, 1) := by decide +kernel
theorem d_X12_steadiest_51 : decode Y_X12_steadiest.cc 51 = .ok (.getfield 281, 3) := by decide +kernel
theorem d_X12_steadiest_54 : decode Y_X12_steadiest.cc 54 = .ok (.goto 12, 3) := by decide +kernel
theorem d_X12_steadiest_57 : decode Y_X12_steadiest.cc 57 = .ok (.aload_n 0, 1) := by decide +kernel
theorem d_X12_steadiest_58 : decode Y_X12_steadiest.cc 58 = .ok (.getfield 85, 3) := by decide +kernel
theorem d_X12_steadiest_61 : decode Y_X12_steadiest.cc 61 = .ok (.iload_n 1, 1) := by decide +kernel
theorem d_X12_steadiest_62 : decode Y_X12_steadiest.cc 62 = .ok (.iconst 2, 1) := by decide +kernel
theorem d_X12_steadiest_63 : decode Y_X12_steadiest.cc 63 = .ok (.isub, 1) := by decide +kernel
theorem d_X12_steadiest_64 : decode Y_X12_steadiest.cc 64 = .ok (.iaload, 1) := by decide +kernel
theorem d_X12_steadiest_65 : decode Y_X12_steadiest.cc 65 = .ok (.i2l, 1) := by decide +kernel
theorem d_X12_steadiest_66 : decode Y_X12_steadiest.cc 66 = .ok (.lreturn, 1) := by decide +kernel
theorem b_X12_steadiest {G : MG} {d : Nat} {Q : Int64 → Mm → Prop} {x1 : Int32} {M : Mm} {c : Nat} (hL : Lay c M)  (h : (∀ M1 : Mm, M1 = sI M 147 0 0 → (C G Y_X12_chained d [.ref (G.b + 147)] M1 (Ri fun r3 M2 => M2.2.2 = M1.2.2 ∧ (C G Y_X12_within d [.int x1, .int 0, .int (1 + r3)] M2 (Ri fun r5 M4 => M4.2.2 = M2.2.2 ∧ ((¬ r5 = 0 → (∀ M7 : Mm, M7 = sJ M4 147 26 0 → (C G Y_X12_triesOrder d [.ref (G.b + 147), .int 0, .int 0] M7 (Rv fun M8 => M8.2.2 = M7.2.2 ∧ ((¬ x1 = 0 → ((¬ x1 = 1 → (vp_in (x1 - 2) 7 ∧ Q ((M8.1 158 (x1 - 2).toNatClampNeg).toInt64) M8)) ∧ (x1 = 1 → Q (M8.2.1 147 26) M8))) ∧ (x1 = 0 → Q (M8.2.1 147 25) M8)))))) ∧ (r5 = 0 → Q (-1) M4)))))))) : C G Y_X12_steadiest (d + 1) [.ref (G.b + 147), .int x1] M (Rj Q) := by
  refine C.of (by decide) (Nat.le_of_ble_eq_true rfl) (lv := [(0, .ref (G.b + 147)), (1, .int x1)]) rfl ?_
  refine tw_aload_n 0 d_X12_steadiest_0 rfl rfl ?_
  refine tw_iconst d_X12_steadiest_1 k_0 ?_
  refine tu_putI f_X12_1 hL s_147 rfl rfl d_X12_steadiest_2 (fun M1 e_M1 hL_M1 => ?_)
  replace h := h M1 e_M1
  refine tw_iload_n 1 d_X12_steadiest_5 rfl rfl ?_
  refine tw_iconst d_X12_steadiest_6 k_0 ?_
  refine tw_iconst d_X12_steadiest_7 k_1 ?_
  refine tw_aload_n 0 d_X12_steadiest_8 rfl rfl ?_
  refine tu_cVi (As := []) cv_X12_237 hL_M1 s_147 rfl (Nat.le_of_ble_eq_true rfl) ⟨Nat.zero_le _, Nat.zero_le _⟩ d_X12_steadiest_9 h (fun r3 M2 h => ?_)
  have hL_M2 : Lay c M2 := hL_M1.to h.1
  replace h := h.2
  refine tw_iadd d_X12_steadiest_12 ?_
  refine tu_cSi (As := [.int x1, .int 0, .int (1 + r3)]) cs_X12_196 rfl (Nat.le_of_ble_eq_true rfl) ⟨Nat.zero_le _, Nat.zero_le _⟩ d_X12_steadiest_13 h (fun r5 M4 h => ?_)
  have hL_M4 : Lay c M4 := hL_M2.to h.1
  replace h := h.2
  refine tw_if_ne 23 d_X12_steadiest_16 (by decide) (fun z6 => ?_) (fun z6 => ?_)
  · replace h := h.1 z6
    refine tw_aload_n 0 d_X12_steadiest_23 rfl rfl ?_
    refine tw_lconst (v := 0) d_X12_steadiest_24 rfl ?_
    refine tu_putJ f_X12_281 hL_M4 s_147 rfl rfl d_X12_steadiest_25 (fun M7 e_M7 hL_M7 => ?_)
    replace h := h M7 e_M7
    refine tw_aload_n 0 d_X12_steadiest_28 rfl rfl ?_
    refine tw_iconst d_X12_steadiest_29 k_0 ?_
    refine tw_iconst d_X12_steadiest_30 k_0 ?_
    refine tu_cVv (As := [.int 0, .int 0]) cv_X12_290 hL_M7 s_147 rfl (Nat.le_of_ble_eq_true rfl) ⟨Nat.zero_le _, Nat.zero_le _⟩ d_X12_steadiest_31 h (fun M8 h => ?_)
    have hL_M8 : Lay c M8 := hL_M7.to h.1
    replace h := h.2
    refine tw_iload_n 1 d_X12_steadiest_34 rfl rfl ?_
    refine tw_if_ne 45 d_X12_steadiest_35 (by decide) (fun z9 => ?_) (fun z9 => ?_)
    · replace h := h.1 z9
      refine tw_iload_n 1 d_X12_steadiest_45 rfl rfl ?_
      refine tw_iconst d_X12_steadiest_46 k_1 ?_
      refine tw_icmp_ne 57 d_X12_steadiest_47 (by decide) (fun z10 => ?_) (fun z10 => ?_)
      · replace h := h.1 z10
        refine tw_aload_n 0 d_X12_steadiest_57 rfl rfl ?_
        refine tw_getR f_X12_85 hL_M8 s_147 ⟨rfl, rfl⟩ (rr_X12_24 s_147) d_X12_steadiest_58 ?_
        refine tw_iload_n 1 d_X12_steadiest_61 rfl rfl ?_
        refine tw_iconst d_X12_steadiest_62 k_2 ?_
        refine tw_isub d_X12_steadiest_63 ?_
        refine tw_iald hL_M8 s_158 d_X12_steadiest_64 h.1 ?_
        replace h := h.2
        refine tw_i2l d_X12_steadiest_65 ?_
        exact tw_lret rfl ⟨Nat.zero_le _, Nat.zero_le _⟩ d_X12_steadiest_66 h
      · replace h := h.2 z10
        refine tw_aload_n 0 d_X12_steadiest_50 rfl rfl ?_
        refine tw_getJ f_X12_281 hL_M8 s_147 rfl d_X12_steadiest_51 ?_
        refine tw_goto 66 d_X12_steadiest_54 (by decide) ?_
        exact tw_lret rfl ⟨Nat.zero_le _, Nat.zero_le _⟩ d_X12_steadiest_66 h
    · replace h := h.2 z9
      refine tw_aload_n 0 d_X12_steadiest_38 rfl rfl ?_
      refine tw_getJ f_X12_284 hL_M8 s_147 rfl d_X12_steadiest_39 ?_
      refine tw_goto 66 d_X12_steadiest_42 (by decide) ?_
      exact tw_lret rfl ⟨Nat.zero_le _, Nat.zero_le _⟩ d_X12_steadiest_66 h
  · replace h := h.2 z6
    refine tw_ldc2 d_X12_steadiest_19 mg1341 ?_
    exact tw_lret rfl ⟨Nat.zero_le _, Nat.zero_le _⟩ d_X12_steadiest_22 h

theorem d_X12_reached_0 : decode Y_X12_reached.cc 0 = .ok (.iconst 0, 1) := by decide +kernel
theorem d_X12_reached_1 : decode Y_X12_reached.cc 1 = .ok (.istore 5, 2) := by decide +kernel
theorem d_X12_reached_3 : decode Y_X12_reached.cc 3 = .ok (.iconst 0, 1) := by decide +kernel
theorem d_X12_reached_4 : decode Y_X12_reached.cc 4 = .ok (.istore 6, 2) := by decide +kernel
theorem d_X12_reached_6 : decode Y_X12_reached.cc 6 = .ok (.iload 6, 2) := by decide +kernel
theorem d_X12_reached_8 : decode Y_X12_reached.cc 8 = .ok (.aload_n 0, 1) := by decide +kernel
theorem d_X12_reached_9 : decode Y_X12_reached.cc 9 = .ok (.iload_n 1, 1) := by decide +kernel
theorem d_X12_reached_10 : decode Y_X12_reached.cc 10 = .ok (.iconst 3, 1) := by decide +kernel
theorem d_X12_reached_11 : decode Y_X12_reached.cc 11 = .ok (.invokevirtual 200, 3) := by decide +kernel
theorem d_X12_reached_14 : decode Y_X12_reached.cc 14 = .ok (.if_icmp .ge 68, 3) := by decide +kernel
theorem d_X12_reached_17 : decode Y_X12_reached.cc 17 = .ok (.aload_n 0, 1) := by decide +kernel
theorem d_X12_reached_18 : decode Y_X12_reached.cc 18 = .ok (.iload_n 1, 1) := by decide +kernel
theorem d_X12_reached_19 : decode Y_X12_reached.cc 19 = .ok (.iconst 4, 1) := by decide +kernel
theorem d_X12_reached_20 : decode Y_X12_reached.cc 20 = .ok (.iconst 2, 1) := by decide +kernel
theorem d_X12_reached_21 : decode Y_X12_reached.cc 21 = .ok (.iload 6, 2) := by decide +kernel
theorem d_X12_reached_23 : decode Y_X12_reached.cc 23 = .ok (.imul, 1) := by decide +kernel
theorem d_X12_reached_24 : decode Y_X12_reached.cc 24 = .ok (.iadd, 1) := by decide +kernel
theorem d_X12_reached_25 : decode Y_X12_reached.cc 25 = .ok (.invokevirtual 200, 3) := by decide +kernel
theorem d_X12_reached_28 : decode Y_X12_reached.cc 28 = .ok (.iload_n 3, 1) := by decide +kernel
theorem d_X12_reached_29 : decode Y_X12_reached.cc 29 = .ok (.isub, 1) := by decide +kernel
theorem d_X12_reached_30 : decode Y_X12_reached.cc 30 = .ok (.i2l, 1) := by decide +kernel
theorem d_X12_reached_31 : decode Y_X12_reached.cc 31 = .ok (.invokestatic 217, 3) := by decide +kernel
theorem d_X12_reached_34 : decode Y_X12_reached.cc 34 = .ok (.aload_n 0, 1) := by decide +kernel
theorem d_X12_reached_35 : decode Y_X12_reached.cc 35 = .ok (.iload_n 1, 1) := by decide +kernel
theorem d_X12_reached_36 : decode Y_X12_reached.cc 36 = .ok (.iconst 5, 1) := by decide +kernel
theorem d_X12_reached_37 : decode Y_X12_reached.cc 37 = .ok (.iconst 2, 1) := by decide +kernel
theorem d_X12_reached_38 : decode Y_X12_reached.cc 38 = .ok (.iload 6, 2) := by decide +kernel
theorem d_X12_reached_40 : decode Y_X12_reached.cc 40 = .ok (.imul, 1) := by decide +kernel
theorem d_X12_reached_41 : decode Y_X12_reached.cc 41 = .ok (.iadd, 1) := by decide +kernel
theorem d_X12_reached_42 : decode Y_X12_reached.cc 42 = .ok (.invokevirtual 200, 3) := by decide +kernel
theorem d_X12_reached_45 : decode Y_X12_reached.cc 45 = .ok (.iload 4, 2) := by decide +kernel
theorem d_X12_reached_47 : decode Y_X12_reached.cc 47 = .ok (.isub, 1) := by decide +kernel
theorem d_X12_reached_48 : decode Y_X12_reached.cc 48 = .ok (.i2l, 1) := by decide +kernel
theorem d_X12_reached_49 : decode Y_X12_reached.cc 49 = .ok (.invokestatic 217, 3) := by decide +kernel
theorem d_X12_reached_52 : decode Y_X12_reached.cc 52 = .ok (.ladd, 1) := by decide +kernel
theorem d_X12_reached_53 : decode Y_X12_reached.cc 53 = .ok (.lstore 7, 2) := by decide +kernel
theorem d_X12_reached_55 : decode Y_X12_reached.cc 55 = .ok (.iload 5, 2) := by decide +kernel
theorem d_X12_reached_57 : decode Y_X12_reached.cc 57 = .ok (.lload 7, 2) := by decide +kernel
theorem d_X12_reached_59 : decode Y_X12_reached.cc 59 = .ok (.iload_n 2, 1) := by decide +kernel
theorem d_X12_reached_60 : decode Y_X12_reached.cc 60 = .ok (.i2l, 1) := by decide +kernel
theorem d_X12_reached_61 : decode Y_X12_reached.cc 61 = .ok (.lcmp, 1) := by decide +kernel
theorem d_X12_reached_62 : decode Y_X12_reached.cc 62 = .ok (.ifCond .gt 10, 3) := by decide +kernel
theorem d_X12_reached_65 : decode Y_X12_reached.cc 65 = .ok (.iconst 1, 1) := by decide +kernel
theorem d_X12_reached_66 : decode Y_X12_reached.cc 66 = .ok (.iload 6, 2) := by decide +kernel
theorem d_X12_reached_68 : decode Y_X12_reached.cc 68 = .ok (.ishl, 1) := by decide +kernel
theorem d_X12_reached_69 : decode Y_X12_reached.cc 69 = .ok (.goto 4, 3) := by decide +kernel
theorem d_X12_reached_72 : decode Y_X12_reached.cc 72 = .ok (.iconst 0, 1) := by decide +kernel
theorem d_X12_reached_73 : decode Y_X12_reached.cc 73 = .ok (.ior, 1) := by decide +kernel
theorem d_X12_reached_74 : decode Y_X12_reached.cc 74 = .ok (.istore 5, 2) := by decide +kernel
theorem d_X12_reached_76 : decode Y_X12_reached.cc 76 = .ok (.iinc 6 1, 3) := by decide +kernel
theorem d_X12_reached_79 : decode Y_X12_reached.cc 79 = .ok (.goto (-73), 3) := by decide +kernel
theorem d_X12_reached_82 : decode Y_X12_reached.cc 82 = .ok (.iload 5, 2) := by decide +kernel
theorem d_X12_reached_84 : decode Y_X12_reached.cc 84 = .ok (.ireturn, 1) := by decide +kernel
def L_X12_reached_6 (G : MG) (d : Nat) (Q : Int32 → Mm → Prop) (x1 : Int32) (x2 : Int32) (x3 : Int32) (x4 : Int32) (x5 : Int32) (x6 : Int32) (M : Mm) : Prop := T G Y_X12_reached (d + 1) (Ri Q) 0 0 6 [(0, .ref (G.b + 147)), (1, .int x1), (2, .int x2), (3, .int x3), (4, .int x4), (5, .int x5), (6, .int x6)] [] M
theorem b_X12_reached_6 {G : MG} {d : Nat} {Q : Int32 → Mm → Prop} {x1 : Int32} {x2 : Int32} {x3 : Int32} {x4 : Int32} {x5 : Int32} {x6 : Int32} {M : Mm} {c : Nat} (hL : Lay c M)  (h : (C G Y_X12_mapOf d [.ref (G.b + 147), .int x1, .int 3] M (Ri fun r2 M1 => M1.2.2 = M.2.2 ∧ ((r2 ≤ x6 → Q x5 M1) ∧ (¬ r2 ≤ x6 → (C G Y_X12_mapOf d [.ref (G.b + 147), .int x1, .int (4 + (2 * x6))] M1 (Ri fun r5 M4 => M4.2.2 = M1.2.2 ∧ (C G Y_X12_lengthOf d [.long ((r5 - x3).toInt64)] M4 (Rj fun r7 M6 => M6.2.2 = M4.2.2 ∧ (C G Y_X12_mapOf d [.ref (G.b + 147), .int x1, .int (5 + (2 * x6))] M6 (Ri fun r9 M8 => M8.2.2 = M6.2.2 ∧ (C G Y_X12_lengthOf d [.long ((r9 - x4).toInt64)] M8 (Rj fun r11 M10 => M10.2.2 = M8.2.2 ∧ ((x2.toInt64 < (r7 + r11) → L_X12_reached_6 G d Q x1 x2 x3 x4 (x5 ||| 0) (x6 + 1) M10) ∧ (¬ x2.toInt64 < (r7 + r11) → L_X12_reached_6 G d Q x1 x2 x3 x4 (x5 ||| (1 <<< (x6 &&& 31))) (x6 + 1) M10))))))))))))))) : L_X12_reached_6 G d Q x1 x2 x3 x4 x5 x6 M := by
  unfold L_X12_reached_6
  refine tw_iload 6 d_X12_reached_6 rfl ?_
  refine tw_aload_n 0 d_X12_reached_8 rfl rfl ?_
  refine tw_iload_n 1 d_X12_reached_9 rfl rfl ?_
  refine tw_iconst d_X12_reached_10 k_3 ?_
  refine tu_cVi (As := [.int x1, .int 3]) cv_X12_200 hL s_147 rfl (Nat.le_of_ble_eq_true rfl) ⟨Nat.zero_le _, Nat.zero_le _⟩ d_X12_reached_11 h (fun r2 M1 h => ?_)
  have hL_M1 : Lay c M1 := hL.to h.1
  replace h := h.2
  refine tw_icmp_ge 82 d_X12_reached_14 (by decide) (fun z3 => ?_) (fun z3 => ?_)
  · replace h := h.1 z3
    refine tw_iload 5 d_X12_reached_82 rfl ?_
    exact tw_iret rfl ⟨Nat.zero_le _, Nat.zero_le _⟩ d_X12_reached_84 h
  · replace h := h.2 z3
    refine tw_aload_n 0 d_X12_reached_17 rfl rfl ?_
    refine tw_iload_n 1 d_X12_reached_18 rfl rfl ?_
    refine tw_iconst d_X12_reached_19 k_4 ?_
    refine tw_iconst d_X12_reached_20 k_2 ?_
    refine tw_iload 6 d_X12_reached_21 rfl ?_
    refine tw_imul d_X12_reached_23 ?_
    refine tw_iadd d_X12_reached_24 ?_
    refine tu_cVi (As := [.int x1, .int (4 + (2 * x6))]) cv_X12_200 hL_M1 s_147 rfl (Nat.le_of_ble_eq_true rfl) ⟨Nat.zero_le _, Nat.zero_le _⟩ d_X12_reached_25 h (fun r5 M4 h => ?_)
    have hL_M4 : Lay c M4 := hL_M1.to h.1
    replace h := h.2
    refine tw_iload_n 3 d_X12_reached_28 rfl rfl ?_
    refine tw_isub d_X12_reached_29 ?_
    refine tw_i2l d_X12_reached_30 ?_
    refine tu_cSJ (As := [.long ((r5 - x3).toInt64)]) cs_X12_217 rfl (Nat.le_of_ble_eq_true rfl) ⟨Nat.zero_le _, Nat.zero_le _⟩ d_X12_reached_31 h (fun r7 M6 h => ?_)
    have hL_M6 : Lay c M6 := hL_M4.to h.1
    replace h := h.2
    refine tw_aload_n 0 d_X12_reached_34 rfl rfl ?_
    refine tw_iload_n 1 d_X12_reached_35 rfl rfl ?_
    refine tw_iconst d_X12_reached_36 k_5 ?_
    refine tw_iconst d_X12_reached_37 k_2 ?_
    refine tw_iload 6 d_X12_reached_38 rfl ?_
    refine tw_imul d_X12_reached_40 ?_
    refine tw_iadd d_X12_reached_41 ?_
    refine tu_cVi (As := [.int x1, .int (5 + (2 * x6))]) cv_X12_200 hL_M6 s_147 rfl (Nat.le_of_ble_eq_true rfl) ⟨Nat.zero_le _, Nat.zero_le _⟩ d_X12_reached_42 h (fun r9 M8 h => ?_)
    have hL_M8 : Lay c M8 := hL_M6.to h.1
    replace h := h.2
    refine tw_iload 4 d_X12_reached_45 rfl ?_
    refine tw_isub d_X12_reached_47 ?_
    refine tw_i2l d_X12_reached_48 ?_
    refine tu_cSJ (As := [.long ((r9 - x4).toInt64)]) cs_X12_217 rfl (Nat.le_of_ble_eq_true rfl) ⟨Nat.zero_le _, Nat.zero_le _⟩ d_X12_reached_49 h (fun r11 M10 h => ?_)
    have hL_M10 : Lay c M10 := hL_M8.to h.1
    replace h := h.2
    refine tw_ladd d_X12_reached_52 ?_
    refine tw_lstore [(7, .long (r7 + r11)), (0, .ref (G.b + 147)), (1, .int x1), (2, .int x2), (3, .int x3), (4, .int x4), (5, .int x5), (6, .int x6)] d_X12_reached_53 (Nat.le_of_ble_eq_true rfl) rfl ?_
    refine tw_iload 6 d_X12_reached_55 rfl ?_
    refine tw_lload 0 d_X12_reached_57 rfl ?_
    refine tw_iload_n 3 d_X12_reached_59 rfl rfl ?_
    refine tw_i2l d_X12_reached_60 ?_
    refine tw_lcmp_gt 72 d_X12_reached_61 d_X12_reached_62 (by decide) (fun z12 => ?_) (fun z12 => ?_)
    · replace h := h.1 z12
      refine tw_iconst d_X12_reached_72 k_0 ?_
      refine tw_ior d_X12_reached_73 ?_
      refine tw_istore [(5, .int (x5 ||| 0)), (7, .long (r7 + r11)), (0, .ref (G.b + 147)), (1, .int x1), (2, .int x2), (3, .int x3), (4, .int x4), (6, .int x6)] d_X12_reached_74 (Nat.le_of_ble_eq_true rfl) rfl ?_
      refine tw_iinc 7 [(6, .int (x6 + 1)), (5, .int (x5 ||| 0)), (7, .long (r7 + r11)), (0, .ref (G.b + 147)), (1, .int x1), (2, .int x2), (3, .int x3), (4, .int x4)] d_X12_reached_76 rfl rfl (Nat.le_of_ble_eq_true rfl) rfl ?_
      refine tw_goto 6 d_X12_reached_79 (by decide) ?_
      exact tw_lv [3, 4, 5, 6, 7, 1, 0] rfl h
    · replace h := h.2 z12
      refine tw_iconst d_X12_reached_65 k_1 ?_
      refine tw_iload 7 d_X12_reached_66 rfl ?_
      refine tw_ishl d_X12_reached_68 ?_
      refine tw_goto 73 d_X12_reached_69 (by decide) ?_
      refine tw_ior d_X12_reached_73 ?_
      refine tw_istore [(5, .int (x5 ||| (1 <<< (x6 &&& 31)))), (7, .long (r7 + r11)), (0, .ref (G.b + 147)), (1, .int x1), (2, .int x2), (3, .int x3), (4, .int x4), (6, .int x6)] d_X12_reached_74 (Nat.le_of_ble_eq_true rfl) rfl ?_
      refine tw_iinc 7 [(6, .int (x6 + 1)), (5, .int (x5 ||| (1 <<< (x6 &&& 31)))), (7, .long (r7 + r11)), (0, .ref (G.b + 147)), (1, .int x1), (2, .int x2), (3, .int x3), (4, .int x4)] d_X12_reached_76 rfl rfl (Nat.le_of_ble_eq_true rfl) rfl ?_
      refine tw_goto 6 d_X12_reached_79 (by decide) ?_
      exact tw_lv [3, 4, 5, 6, 7, 1, 0] rfl h
theorem b_X12_reached {G : MG} {d : Nat} {Q : Int32 → Mm → Prop} {x1 : Int32} {x2 : Int32} {x3 : Int32} {x4 : Int32} {M : Mm} {c : Nat} (hL : Lay c M)  (h : L_X12_reached_6 G d Q x1 x2 x3 x4 0 0 M) : C G Y_X12_reached (d + 1) [.ref (G.b + 147), .int x1, .int x2, .int x3, .int x4] M (Ri Q) := by
  refine C.of (by decide) (Nat.le_of_ble_eq_true rfl) (lv := [(0, .ref (G.b + 147)), (1, .int x1), (2, .int x2), (3, .int x3), (4, .int x4)]) rfl ?_
  refine tw_iconst d_X12_reached_0 k_0 ?_
  refine tw_istore [(5, .int 0), (0, .ref (G.b + 147)), (1, .int x1), (2, .int x2), (3, .int x3), (4, .int x4)] d_X12_reached_1 (Nat.le_of_ble_eq_true rfl) rfl ?_
  refine tw_iconst d_X12_reached_3 k_0 ?_
  refine tw_istore [(6, .int 0), (5, .int 0), (0, .ref (G.b + 147)), (1, .int x1), (2, .int x2), (3, .int x3), (4, .int x4)] d_X12_reached_4 (Nat.le_of_ble_eq_true rfl) rfl ?_
  exact tw_lv [2, 3, 4, 5, 6, 1, 0] rfl h

theorem d_X12_sheets_0 : decode Y_X12_sheets.cc 0 = .ok (.aload_n 0, 1) := by decide +kernel
theorem d_X12_sheets_1 : decode Y_X12_sheets.cc 1 = .ok (.iconst 0, 1) := by decide +kernel
theorem d_X12_sheets_2 : decode Y_X12_sheets.cc 2 = .ok (.putfield 1, 3) := by decide +kernel
theorem d_X12_sheets_5 : decode Y_X12_sheets.cc 5 = .ok (.aload_n 0, 1) := by decide +kernel
theorem d_X12_sheets_6 : decode Y_X12_sheets.cc 6 = .ok (.iload_n 1, 1) := by decide +kernel
theorem d_X12_sheets_7 : decode Y_X12_sheets.cc 7 = .ok (.invokevirtual 193, 3) := by decide +kernel
theorem d_X12_sheets_10 : decode Y_X12_sheets.cc 10 = .ok (.ifCond .eq 14, 3) := by decide +kernel
theorem d_X12_sheets_13 : decode Y_X12_sheets.cc 13 = .ok (.iload_n 2, 1) := by decide +kernel
theorem d_X12_sheets_14 : decode Y_X12_sheets.cc 14 = .ok (.iconst 0, 1) := by decide +kernel
theorem d_X12_sheets_15 : decode Y_X12_sheets.cc 15 = .ok (.sipush 200, 3) := by decide +kernel
theorem d_X12_sheets_18 : decode Y_X12_sheets.cc 18 = .ok (.invokestatic 196, 3) := by decide +kernel
theorem d_X12_sheets_21 : decode Y_X12_sheets.cc 21 = .ok (.ifCond .ne 5, 3) := by decide +kernel
theorem d_X12_sheets_24 : decode Y_X12_sheets.cc 24 = .ok (.iconst (-1), 1) := by decide +kernel
theorem d_X12_sheets_25 : decode Y_X12_sheets.cc 25 = .ok (.ireturn, 1) := by decide +kernel
theorem d_X12_sheets_26 : decode Y_X12_sheets.cc 26 = .ok (.iconst 0, 1) := by decide +kernel
theorem d_X12_sheets_27 : decode Y_X12_sheets.cc 27 = .ok (.istore_n 3, 1) := by decide +kernel
theorem d_X12_sheets_28 : decode Y_X12_sheets.cc 28 = .ok (.iload_n 3, 1) := by decide +kernel
theorem d_X12_sheets_29 : decode Y_X12_sheets.cc 29 = .ok (.bipush 64, 2) := by decide +kernel
theorem d_X12_sheets_31 : decode Y_X12_sheets.cc 31 = .ok (.if_icmp .ge 16, 3) := by decide +kernel
theorem d_X12_sheets_34 : decode Y_X12_sheets.cc 34 = .ok (.aload_n 0, 1) := by decide +kernel
theorem d_X12_sheets_35 : decode Y_X12_sheets.cc 35 = .ok (.getfield 88, 3) := by decide +kernel
theorem d_X12_sheets_38 : decode Y_X12_sheets.cc 38 = .ok (.iload_n 3, 1) := by decide +kernel
theorem d_X12_sheets_39 : decode Y_X12_sheets.cc 39 = .ok (.iconst 0, 1) := by decide +kernel
theorem d_X12_sheets_40 : decode Y_X12_sheets.cc 40 = .ok (.bastore, 1) := by decide +kernel
theorem d_X12_sheets_41 : decode Y_X12_sheets.cc 41 = .ok (.iinc 3 1, 3) := by decide +kernel
theorem d_X12_sheets_44 : decode Y_X12_sheets.cc 44 = .ok (.goto (-16), 3) := by decide +kernel
theorem d_X12_sheets_47 : decode Y_X12_sheets.cc 47 = .ok (.iconst 0, 1) := by decide +kernel
theorem d_X12_sheets_48 : decode Y_X12_sheets.cc 48 = .ok (.istore_n 3, 1) := by decide +kernel
theorem d_X12_sheets_49 : decode Y_X12_sheets.cc 49 = .ok (.iload_n 3, 1) := by decide +kernel
theorem d_X12_sheets_50 : decode Y_X12_sheets.cc 50 = .ok (.sipush 10000, 3) := by decide +kernel
theorem d_X12_sheets_53 : decode Y_X12_sheets.cc 53 = .ok (.if_icmp .ge 29, 3) := by decide +kernel
theorem d_X12_sheets_56 : decode Y_X12_sheets.cc 56 = .ok (.aload_n 0, 1) := by decide +kernel
theorem d_X12_sheets_57 : decode Y_X12_sheets.cc 57 = .ok (.getfield 88, 3) := by decide +kernel
theorem d_X12_sheets_60 : decode Y_X12_sheets.cc 60 = .ok (.aload_n 0, 1) := by decide +kernel
theorem d_X12_sheets_61 : decode Y_X12_sheets.cc 61 = .ok (.iload_n 1, 1) := by decide +kernel
theorem d_X12_sheets_62 : decode Y_X12_sheets.cc 62 = .ok (.iload_n 2, 1) := by decide +kernel
theorem d_X12_sheets_63 : decode Y_X12_sheets.cc 63 = .ok (.iload_n 3, 1) := by decide +kernel
theorem d_X12_sheets_64 : decode Y_X12_sheets.cc 64 = .ok (.bipush 100, 2) := by decide +kernel
theorem d_X12_sheets_66 : decode Y_X12_sheets.cc 66 = .ok (.irem, 1) := by decide +kernel
theorem d_X12_sheets_67 : decode Y_X12_sheets.cc 67 = .ok (.iload_n 3, 1) := by decide +kernel
theorem d_X12_sheets_68 : decode Y_X12_sheets.cc 68 = .ok (.bipush 100, 2) := by decide +kernel
theorem d_X12_sheets_70 : decode Y_X12_sheets.cc 70 = .ok (.idiv, 1) := by decide +kernel
theorem d_X12_sheets_71 : decode Y_X12_sheets.cc 71 = .ok (.invokevirtual 293, 3) := by decide +kernel
theorem d_X12_sheets_74 : decode Y_X12_sheets.cc 74 = .ok (.iconst 1, 1) := by decide +kernel
theorem d_X12_sheets_75 : decode Y_X12_sheets.cc 75 = .ok (.bastore, 1) := by decide +kernel
theorem d_X12_sheets_76 : decode Y_X12_sheets.cc 76 = .ok (.iinc 3 1, 3) := by decide +kernel
theorem d_X12_sheets_79 : decode Y_X12_sheets.cc 79 = .ok (.goto (-30), 3) := by decide +kernel
theorem d_X12_sheets_82 : decode Y_X12_sheets.cc 82 = .ok (.iconst 1, 1) := by decide +kernel
theorem d_X12_sheets_83 : decode Y_X12_sheets.cc 83 = .ok (.aload_n 0, 1) := by decide +kernel
theorem d_X12_sheets_84 : decode Y_X12_sheets.cc 84 = .ok (.iload_n 1, 1) := by decide +kernel
theorem d_X12_sheets_85 : decode Y_X12_sheets.cc 85 = .ok (.iconst 3, 1) := by decide +kernel
theorem d_X12_sheets_86 : decode Y_X12_sheets.cc 86 = .ok (.invokevirtual 200, 3) := by decide +kernel
theorem d_X12_sheets_89 : decode Y_X12_sheets.cc 89 = .ok (.ishl, 1) := by decide +kernel
theorem d_X12_sheets_90 : decode Y_X12_sheets.cc 90 = .ok (.iconst 1, 1) := by decide +kernel
theorem d_X12_sheets_91 : decode Y_X12_sheets.cc 91 = .ok (.isub, 1) := by decide +kernel
theorem d_X12_sheets_92 : decode Y_X12_sheets.cc 92 = .ok (.istore_n 3, 1) := by decide +kernel
theorem d_X12_sheets_93 : decode Y_X12_sheets.cc 93 = .ok (.iconst 0, 1) := by decide +kernel
theorem d_X12_sheets_94 : decode Y_X12_sheets.cc 94 = .ok (.istore 4, 2) := by decide +kernel
theorem d_X12_sheets_96 : decode Y_X12_sheets.cc 96 = .ok (.iload 4, 2) := by decide +kernel
theorem d_X12_sheets_98 : decode Y_X12_sheets.cc 98 = .ok (.iload_n 3, 1) := by decide +kernel
theorem d_X12_sheets_99 : decode Y_X12_sheets.cc 99 = .ok (.if_icmp .gt 114, 3) := by decide +kernel
theorem d_X12_sheets_102 : decode Y_X12_sheets.cc 102 = .ok (.aload_n 0, 1) := by decide +kernel
theorem d_X12_sheets_103 : decode Y_X12_sheets.cc 103 = .ok (.getfield 91, 3) := by decide +kernel
theorem d_X12_sheets_106 : decode Y_X12_sheets.cc 106 = .ok (.iload 4, 2) := by decide +kernel
theorem d_X12_sheets_108 : decode Y_X12_sheets.cc 108 = .ok (.iload 4, 2) := by decide +kernel
theorem d_X12_sheets_110 : decode Y_X12_sheets.cc 110 = .ok (.ifCond .ne 7, 3) := by decide +kernel
theorem d_X12_sheets_113 : decode Y_X12_sheets.cc 113 = .ok (.iconst 0, 1) := by decide +kernel
theorem d_X12_sheets_114 : decode Y_X12_sheets.cc 114 = .ok (.goto 6, 3) := by decide +kernel
theorem d_X12_sheets_117 : decode Y_X12_sheets.cc 117 = .ok (.ldc_w 297, 3) := by decide +kernel
theorem d_X12_sheets_120 : decode Y_X12_sheets.cc 120 = .ok (.iastore, 1) := by decide +kernel
theorem d_X12_sheets_121 : decode Y_X12_sheets.cc 121 = .ok (.iconst 1, 1) := by decide +kernel
theorem d_X12_sheets_122 : decode Y_X12_sheets.cc 122 = .ok (.istore 5, 2) := by decide +kernel
theorem d_X12_sheets_124 : decode Y_X12_sheets.cc 124 = .ok (.iload 5, 2) := by decide +kernel
theorem d_X12_sheets_126 : decode Y_X12_sheets.cc 126 = .ok (.iload_n 3, 1) := by decide +kernel
theorem d_X12_sheets_127 : decode Y_X12_sheets.cc 127 = .ok (.if_icmp .gt 80, 3) := by decide +kernel
theorem d_X12_sheets_130 : decode Y_X12_sheets.cc 130 = .ok (.aload_n 0, 1) := by decide +kernel
theorem d_X12_sheets_131 : decode Y_X12_sheets.cc 131 = .ok (.getfield 88, 3) := by decide +kernel
theorem d_X12_sheets_134 : decode Y_X12_sheets.cc 134 = .ok (.iload 5, 2) := by decide +kernel
theorem d_X12_sheets_136 : decode Y_X12_sheets.cc 136 = .ok (.baload, 1) := by decide +kernel
theorem d_X12_sheets_137 : decode Y_X12_sheets.cc 137 = .ok (.ifCond .eq 28, 3) := by decide +kernel
theorem d_X12_sheets_140 : decode Y_X12_sheets.cc 140 = .ok (.iload 4, 2) := by decide +kernel
theorem d_X12_sheets_142 : decode Y_X12_sheets.cc 142 = .ok (.iload 5, 2) := by decide +kernel
theorem d_X12_sheets_144 : decode Y_X12_sheets.cc 144 = .ok (.iand, 1) := by decide +kernel
theorem d_X12_sheets_145 : decode Y_X12_sheets.cc 145 = .ok (.ifCond .eq 20, 3) := by decide +kernel
theorem d_X12_sheets_148 : decode Y_X12_sheets.cc 148 = .ok (.iconst 1, 1) := by decide +kernel
theorem d_X12_sheets_149 : decode Y_X12_sheets.cc 149 = .ok (.aload_n 0, 1) := by decide +kernel
theorem d_X12_sheets_150 : decode Y_X12_sheets.cc 150 = .ok (.getfield 91, 3) := by decide +kernel
theorem d_X12_sheets_153 : decode Y_X12_sheets.cc 153 = .ok (.iload 4, 2) := by decide +kernel
theorem d_X12_sheets_155 : decode Y_X12_sheets.cc 155 = .ok (.iload 5, 2) := by decide +kernel
theorem d_X12_sheets_157 : decode Y_X12_sheets.cc 157 = .ok (.iconst (-1), 1) := by decide +kernel
theorem d_X12_sheets_158 : decode Y_X12_sheets.cc 158 = .ok (.ixor, 1) := by decide +kernel
theorem d_X12_sheets_159 : decode Y_X12_sheets.cc 159 = .ok (.iand, 1) := by decide +kernel
theorem d_X12_sheets_160 : decode Y_X12_sheets.cc 160 = .ok (.iaload, 1) := by decide +kernel
theorem d_X12_sheets_161 : decode Y_X12_sheets.cc 161 = .ok (.iadd, 1) := by decide +kernel
theorem d_X12_sheets_162 : decode Y_X12_sheets.cc 162 = .ok (.goto 6, 3) := by decide +kernel
theorem d_X12_sheets_165 : decode Y_X12_sheets.cc 165 = .ok (.ldc_w 297, 3) := by decide +kernel
theorem d_X12_sheets_168 : decode Y_X12_sheets.cc 168 = .ok (.istore 6, 2) := by decide +kernel
theorem d_X12_sheets_170 : decode Y_X12_sheets.cc 170 = .ok (.aload_n 0, 1) := by decide +kernel
theorem d_X12_sheets_171 : decode Y_X12_sheets.cc 171 = .ok (.getfield 91, 3) := by decide +kernel
theorem d_X12_sheets_174 : decode Y_X12_sheets.cc 174 = .ok (.iload 4, 2) := by decide +kernel
theorem d_X12_sheets_176 : decode Y_X12_sheets.cc 176 = .ok (.iload 6, 2) := by decide +kernel
theorem d_X12_sheets_178 : decode Y_X12_sheets.cc 178 = .ok (.aload_n 0, 1) := by decide +kernel
theorem d_X12_sheets_179 : decode Y_X12_sheets.cc 179 = .ok (.getfield 91, 3) := by decide +kernel
theorem d_X12_sheets_182 : decode Y_X12_sheets.cc 182 = .ok (.iload 4, 2) := by decide +kernel
theorem d_X12_sheets_184 : decode Y_X12_sheets.cc 184 = .ok (.iaload, 1) := by decide +kernel
theorem d_X12_sheets_185 : decode Y_X12_sheets.cc 185 = .ok (.if_icmp .ge 8, 3) := by decide +kernel
theorem d_X12_sheets_188 : decode Y_X12_sheets.cc 188 = .ok (.iload 6, 2) := by decide +kernel
theorem d_X12_sheets_190 : decode Y_X12_sheets.cc 190 = .ok (.goto 10, 3) := by decide +kernel
theorem d_X12_sheets_193 : decode Y_X12_sheets.cc 193 = .ok (.aload_n 0, 1) := by decide +kernel
theorem d_X12_sheets_194 : decode Y_X12_sheets.cc 194 = .ok (.getfield 91, 3) := by decide +kernel
theorem d_X12_sheets_197 : decode Y_X12_sheets.cc 197 = .ok (.iload 4, 2) := by decide +kernel
theorem d_X12_sheets_199 : decode Y_X12_sheets.cc 199 = .ok (.iaload, 1) := by decide +kernel
theorem d_X12_sheets_200 : decode Y_X12_sheets.cc 200 = .ok (.iastore, 1) := by decide +kernel
theorem d_X12_sheets_201 : decode Y_X12_sheets.cc 201 = .ok (.iinc 5 1, 3) := by decide +kernel
theorem d_X12_sheets_204 : decode Y_X12_sheets.cc 204 = .ok (.goto (-80), 3) := by decide +kernel
theorem d_X12_sheets_207 : decode Y_X12_sheets.cc 207 = .ok (.iinc 4 1, 3) := by decide +kernel
theorem d_X12_sheets_210 : decode Y_X12_sheets.cc 210 = .ok (.goto (-114), 3) := by decide +kernel
theorem d_X12_sheets_213 : decode Y_X12_sheets.cc 213 = .ok (.aload_n 0, 1) := by decide +kernel
theorem d_X12_sheets_214 : decode Y_X12_sheets.cc 214 = .ok (.getfield 91, 3) := by decide +kernel
theorem d_X12_sheets_217 : decode Y_X12_sheets.cc 217 = .ok (.iload_n 3, 1) := by decide +kernel
theorem d_X12_sheets_218 : decode Y_X12_sheets.cc 218 = .ok (.iaload, 1) := by decide +kernel
theorem d_X12_sheets_219 : decode Y_X12_sheets.cc 219 = .ok (.ireturn, 1) := by decide +kernel
def L_X12_sheets_28 (G : MG) (d : Nat) (Q : Int32 → Mm → Prop) (x1 : Int32) (x2 : Int32) (x3 : Int32) (M : Mm) : Prop := T G Y_X12_sheets (d + 1) (Ri Q) 0 0 28 [(0, .ref (G.b + 147)), (1, .int x1), (2, .int x2), (3, .int x3)] [] M
def L_X12_sheets_49 (G : MG) (d : Nat) (Q : Int32 → Mm → Prop) (x1 : Int32) (x2 : Int32) (x3 : Int32) (M : Mm) : Prop := T G Y_X12_sheets (d + 1) (Ri Q) 0 0 49 [(0, .ref (G.b + 147)), (1, .int x1), (2, .int x2), (3, .int x3)] [] M
def L_X12_sheets_96 (G : MG) (d : Nat) (Q : Int32 → Mm → Prop) (x3 : Int32) (x4 : Int32) (M : Mm) : Prop := T G Y_X12_sheets (d + 1) (Ri Q) 0 0 96 [(0, .ref (G.b + 147)), (3, .int x3), (4, .int x4)] [] M
def L_X12_sheets_124 (G : MG) (d : Nat) (Q : Int32 → Mm → Prop) (x3 : Int32) (x4 : Int32) (x5 : Int32) (M : Mm) : Prop := T G Y_X12_sheets (d + 1) (Ri Q) 0 0 124 [(0, .ref (G.b + 147)), (3, .int x3), (4, .int x4), (5, .int x5)] [] M
def L_X12_sheets_168 (G : MG) (d : Nat) (Q : Int32 → Mm → Prop) (x3 : Int32) (x4 : Int32) (x5 : Int32) (sx0 : Int32) (M : Mm) : Prop := T G Y_X12_sheets (d + 1) (Ri Q) 0 0 168 [(0, .ref (G.b + 147)), (3, .int x3), (4, .int x4), (5, .int x5)] [.int sx0] M
theorem b_X12_sheets_28 {G : MG} {d : Nat} {Q : Int32 → Mm → Prop} {x1 : Int32} {x2 : Int32} {x3 : Int32} {M : Mm} {c : Nat} (hL : Lay c M)  (h : ((64 ≤ x3 → L_X12_sheets_49 G d Q x1 x2 0 M) ∧ (¬ 64 ≤ x3 → (vp_in x3 64 ∧ ∀ M2 : Mm, M2 = sI M 159 x3.toNatClampNeg (vp_nar .boolean 0) → L_X12_sheets_28 G d Q x1 x2 (x3 + 1) M2)))) : L_X12_sheets_28 G d Q x1 x2 x3 M := by
  unfold L_X12_sheets_28
  refine tw_iload_n 3 d_X12_sheets_28 rfl rfl ?_
  refine tw_bipush d_X12_sheets_29 kb_64 ?_
  refine tw_icmp_ge 47 d_X12_sheets_31 (by decide) (fun z1 => ?_) (fun z1 => ?_)
  · replace h := h.1 z1
    refine tw_iconst d_X12_sheets_47 k_0 ?_
    refine tw_istore_n [(3, .int 0), (0, .ref (G.b + 147)), (1, .int x1), (2, .int x2)] d_X12_sheets_48 rfl (Nat.le_of_ble_eq_true rfl) rfl ?_
    exact tw_lv [1, 2, 3, 0] rfl h
  · replace h := h.2 z1
    refine tw_aload_n 0 d_X12_sheets_34 rfl rfl ?_
    refine tw_getR f_X12_88 hL s_147 ⟨rfl, rfl⟩ (rr_X12_27 s_147) d_X12_sheets_35 ?_
    refine tw_iload_n 3 d_X12_sheets_38 rfl rfl ?_
    refine tw_iconst d_X12_sheets_39 k_0 ?_
    refine tu_zast hL s_159 d_X12_sheets_40 h.1 (fun M2 e_M2 hL_M2 => ?_)
    replace h := h.2 M2 e_M2
    refine tw_iinc 3 [(3, .int (x3 + 1)), (0, .ref (G.b + 147)), (1, .int x1), (2, .int x2)] d_X12_sheets_41 rfl rfl (Nat.le_of_ble_eq_true rfl) rfl ?_
    refine tw_goto 28 d_X12_sheets_44 (by decide) ?_
    exact tw_lv [1, 2, 3, 0] rfl h
theorem b_X12_sheets_49 {G : MG} {d : Nat} {Q : Int32 → Mm → Prop} {x1 : Int32} {x2 : Int32} {x3 : Int32} {M : Mm} {c : Nat} (hL : Lay c M)  (h : ((10000 ≤ x3 → (C G Y_X12_mapOf d [.ref (G.b + 147), .int x1, .int 3] M (Ri fun r3 M2 => M2.2.2 = M.2.2 ∧ L_X12_sheets_96 G d Q ((1 <<< (r3 &&& 31)) - 1) 0 M2))) ∧ (¬ 10000 ≤ x3 → (C G Y_X12_reached d [.ref (G.b + 147), .int x1, .int x2, .int (x3 - x3 / 100 * 100), .int (x3 / 100)] M (Ri fun r5 M4 => M4.2.2 = M.2.2 ∧ (vp_in r5 64 ∧ ∀ M6 : Mm, M6 = sI M4 159 r5.toNatClampNeg (vp_nar .boolean 1) → L_X12_sheets_49 G d Q x1 x2 (x3 + 1) M6)))))) : L_X12_sheets_49 G d Q x1 x2 x3 M := by
  unfold L_X12_sheets_49
  refine tw_iload_n 3 d_X12_sheets_49 rfl rfl ?_
  refine tw_sipush d_X12_sheets_50 ks_10000 ?_
  refine tw_icmp_ge 82 d_X12_sheets_53 (by decide) (fun z1 => ?_) (fun z1 => ?_)
  · replace h := h.1 z1
    refine tw_iconst d_X12_sheets_82 k_1 ?_
    refine tw_aload_n 0 d_X12_sheets_83 rfl rfl ?_
    refine tw_iload_n 1 d_X12_sheets_84 rfl rfl ?_
    refine tw_iconst d_X12_sheets_85 k_3 ?_
    refine tu_cVi (As := [.int x1, .int 3]) cv_X12_200 hL s_147 rfl (Nat.le_of_ble_eq_true rfl) ⟨Nat.zero_le _, Nat.zero_le _⟩ d_X12_sheets_86 h (fun r3 M2 h => ?_)
    have hL_M2 : Lay c M2 := hL.to h.1
    replace h := h.2
    refine tw_ishl d_X12_sheets_89 ?_
    refine tw_iconst d_X12_sheets_90 k_1 ?_
    refine tw_isub d_X12_sheets_91 ?_
    refine tw_istore_n [(3, .int ((1 <<< (r3 &&& 31)) - 1)), (0, .ref (G.b + 147)), (1, .int x1), (2, .int x2)] d_X12_sheets_92 rfl (Nat.le_of_ble_eq_true rfl) rfl ?_
    refine tw_iconst d_X12_sheets_93 k_0 ?_
    refine tw_istore [(4, .int 0), (3, .int ((1 <<< (r3 &&& 31)) - 1)), (0, .ref (G.b + 147)), (1, .int x1), (2, .int x2)] d_X12_sheets_94 (Nat.le_of_ble_eq_true rfl) rfl ?_
    exact tw_lv [2, 1, 0] rfl h
  · replace h := h.2 z1
    refine tw_aload_n 0 d_X12_sheets_56 rfl rfl ?_
    refine tw_getR f_X12_88 hL s_147 ⟨rfl, rfl⟩ (rr_X12_27 s_147) d_X12_sheets_57 ?_
    refine tw_aload_n 0 d_X12_sheets_60 rfl rfl ?_
    refine tw_iload_n 1 d_X12_sheets_61 rfl rfl ?_
    refine tw_iload_n 2 d_X12_sheets_62 rfl rfl ?_
    refine tw_iload_n 3 d_X12_sheets_63 rfl rfl ?_
    refine tw_bipush d_X12_sheets_64 kb_100 ?_
    refine tw_irem d_X12_sheets_66 (by decide) ?_
    refine tw_iload_n 3 d_X12_sheets_67 rfl rfl ?_
    refine tw_bipush d_X12_sheets_68 kb_100 ?_
    refine tw_idiv d_X12_sheets_70 (by decide) ?_
    refine tu_cVi (As := [.int x1, .int x2, .int (x3 - x3 / 100 * 100), .int (x3 / 100)]) cv_X12_293 hL s_147 rfl (Nat.le_of_ble_eq_true rfl) ⟨Nat.zero_le _, Nat.zero_le _⟩ d_X12_sheets_71 h (fun r5 M4 h => ?_)
    have hL_M4 : Lay c M4 := hL.to h.1
    replace h := h.2
    refine tw_iconst d_X12_sheets_74 k_1 ?_
    refine tu_zast hL_M4 s_159 d_X12_sheets_75 h.1 (fun M6 e_M6 hL_M6 => ?_)
    replace h := h.2 M6 e_M6
    refine tw_iinc 3 [(3, .int (x3 + 1)), (0, .ref (G.b + 147)), (1, .int x1), (2, .int x2)] d_X12_sheets_76 rfl rfl (Nat.le_of_ble_eq_true rfl) rfl ?_
    refine tw_goto 49 d_X12_sheets_79 (by decide) ?_
    exact tw_lv [1, 2, 3, 0] rfl h
theorem b_X12_sheets_96 {G : MG} {d : Nat} {Q : Int32 → Mm → Prop} {x3 : Int32} {x4 : Int32} {M : Mm} {c : Nat} (hL : Lay c M)  (h : ((x3 < x4 → (vp_in x3 64 ∧ Q (M.1 160 x3.toNatClampNeg) M)) ∧ (¬ x3 < x4 → ((¬ x4 = 0 → (vp_in x4 64 ∧ ∀ M3 : Mm, M3 = sI M 160 x4.toNatClampNeg 100000000 → L_X12_sheets_124 G d Q x3 x4 1 M3)) ∧ (x4 = 0 → (vp_in x4 64 ∧ ∀ M4 : Mm, M4 = sI M 160 x4.toNatClampNeg 0 → L_X12_sheets_124 G d Q x3 x4 1 M4)))))) : L_X12_sheets_96 G d Q x3 x4 M := by
  unfold L_X12_sheets_96
  refine tw_iload 2 d_X12_sheets_96 rfl ?_
  refine tw_iload_n 1 d_X12_sheets_98 rfl rfl ?_
  refine tw_icmp_gt 213 d_X12_sheets_99 (by decide) (fun z1 => ?_) (fun z1 => ?_)
  · replace h := h.1 z1
    refine tw_aload_n 0 d_X12_sheets_213 rfl rfl ?_
    refine tw_getR f_X12_91 hL s_147 ⟨rfl, rfl⟩ (rr_X12_28 s_147) d_X12_sheets_214 ?_
    refine tw_iload_n 1 d_X12_sheets_217 rfl rfl ?_
    refine tw_iald hL s_160 d_X12_sheets_218 h.1 ?_
    replace h := h.2
    exact tw_iret rfl ⟨Nat.zero_le _, Nat.zero_le _⟩ d_X12_sheets_219 h
  · replace h := h.2 z1
    refine tw_aload_n 0 d_X12_sheets_102 rfl rfl ?_
    refine tw_getR f_X12_91 hL s_147 ⟨rfl, rfl⟩ (rr_X12_28 s_147) d_X12_sheets_103 ?_
    refine tw_iload 2 d_X12_sheets_106 rfl ?_
    refine tw_iload 2 d_X12_sheets_108 rfl ?_
    refine tw_if_ne 117 d_X12_sheets_110 (by decide) (fun z2 => ?_) (fun z2 => ?_)
    · replace h := h.1 z2
      refine tw_ldcw d_X12_sheets_117 mg1362 ?_
      refine tu_iast hL s_160 d_X12_sheets_120 h.1 (fun M3 e_M3 hL_M3 => ?_)
      replace h := h.2 M3 e_M3
      refine tw_iconst d_X12_sheets_121 k_1 ?_
      refine tw_istore [(5, .int 1), (0, .ref (G.b + 147)), (3, .int x3), (4, .int x4)] d_X12_sheets_122 (Nat.le_of_ble_eq_true rfl) rfl ?_
      exact tw_lv [1, 2, 3, 0] rfl h
    · replace h := h.2 z2
      refine tw_iconst d_X12_sheets_113 k_0 ?_
      refine tw_goto 120 d_X12_sheets_114 (by decide) ?_
      refine tu_iast hL s_160 d_X12_sheets_120 h.1 (fun M4 e_M4 hL_M4 => ?_)
      replace h := h.2 M4 e_M4
      refine tw_iconst d_X12_sheets_121 k_1 ?_
      refine tw_istore [(5, .int 1), (0, .ref (G.b + 147)), (3, .int x3), (4, .int x4)] d_X12_sheets_122 (Nat.le_of_ble_eq_true rfl) rfl ?_
      exact tw_lv [1, 2, 3, 0] rfl h
theorem b_X12_sheets_124 {G : MG} {d : Nat} {Q : Int32 → Mm → Prop} {x3 : Int32} {x4 : Int32} {x5 : Int32} {M : Mm} {c : Nat} (hL : Lay c M)  (h : ((x3 < x5 → L_X12_sheets_96 G d Q x3 (x4 + 1) M) ∧ (¬ x3 < x5 → (vp_in x5 64 ∧ (((M.1 159 x5.toNatClampNeg) = 0 → L_X12_sheets_168 G d Q x3 x4 x5 100000000 M) ∧ (¬ (M.1 159 x5.toNatClampNeg) = 0 → (((x4 &&& x5) = 0 → L_X12_sheets_168 G d Q x3 x4 x5 100000000 M) ∧ (¬ (x4 &&& x5) = 0 → (vp_in (x4 &&& (x5 ^^^ (-1))) 64 ∧ L_X12_sheets_168 G d Q x3 x4 x5 (1 + (M.1 160 (x4 &&& (x5 ^^^ (-1))).toNatClampNeg)) M))))))))) : L_X12_sheets_124 G d Q x3 x4 x5 M := by
  unfold L_X12_sheets_124
  refine tw_iload 3 d_X12_sheets_124 rfl ?_
  refine tw_iload_n 1 d_X12_sheets_126 rfl rfl ?_
  refine tw_icmp_gt 207 d_X12_sheets_127 (by decide) (fun z1 => ?_) (fun z1 => ?_)
  · replace h := h.1 z1
    refine tw_iinc 2 [(4, .int (x4 + 1)), (0, .ref (G.b + 147)), (3, .int x3), (5, .int x5)] d_X12_sheets_207 rfl rfl (Nat.le_of_ble_eq_true rfl) rfl ?_
    refine tw_goto 96 d_X12_sheets_210 (by decide) ?_
    exact tw_lv [1, 2, 0] rfl h
  · replace h := h.2 z1
    refine tw_aload_n 0 d_X12_sheets_130 rfl rfl ?_
    refine tw_getR f_X12_88 hL s_147 ⟨rfl, rfl⟩ (rr_X12_27 s_147) d_X12_sheets_131 ?_
    refine tw_iload 3 d_X12_sheets_134 rfl ?_
    refine tw_zald hL s_159 d_X12_sheets_136 h.1 ?_
    replace h := h.2
    refine tw_if_eq 165 d_X12_sheets_137 (by decide) (fun z2 => ?_) (fun z2 => ?_)
    · replace h := h.1 z2
      refine tw_ldcw d_X12_sheets_165 mg1362 ?_
      exact tw_lv [0, 1, 2, 3] rfl h
    · replace h := h.2 z2
      refine tw_iload 2 d_X12_sheets_140 rfl ?_
      refine tw_iload 3 d_X12_sheets_142 rfl ?_
      refine tw_iand d_X12_sheets_144 ?_
      refine tw_if_eq 165 d_X12_sheets_145 (by decide) (fun z3 => ?_) (fun z3 => ?_)
      · replace h := h.1 z3
        refine tw_ldcw d_X12_sheets_165 mg1362 ?_
        exact tw_lv [0, 1, 2, 3] rfl h
      · replace h := h.2 z3
        refine tw_iconst d_X12_sheets_148 k_1 ?_
        refine tw_aload_n 0 d_X12_sheets_149 rfl rfl ?_
        refine tw_getR f_X12_91 hL s_147 ⟨rfl, rfl⟩ (rr_X12_28 s_147) d_X12_sheets_150 ?_
        refine tw_iload 2 d_X12_sheets_153 rfl ?_
        refine tw_iload 3 d_X12_sheets_155 rfl ?_
        refine tw_iconst d_X12_sheets_157 k_m1 ?_
        refine tw_ixor d_X12_sheets_158 ?_
        refine tw_iand d_X12_sheets_159 ?_
        refine tw_iald hL s_160 d_X12_sheets_160 h.1 ?_
        replace h := h.2
        refine tw_iadd d_X12_sheets_161 ?_
        refine tw_goto 168 d_X12_sheets_162 (by decide) ?_
        exact tw_lv [0, 1, 2, 3] rfl h
theorem b_X12_sheets_168 {G : MG} {d : Nat} {Q : Int32 → Mm → Prop} {x3 : Int32} {x4 : Int32} {x5 : Int32} {sx0 : Int32} {M : Mm} {c : Nat} (hL : Lay c M)  (h : (vp_in x4 64 ∧ (((M.1 160 x4.toNatClampNeg) ≤ sx0 → (vp_in x4 64 ∧ (vp_in x4 64 ∧ ∀ M2 : Mm, M2 = sI M 160 x4.toNatClampNeg (M.1 160 x4.toNatClampNeg) → L_X12_sheets_124 G d Q x3 x4 (x5 + 1) M2))) ∧ (¬ (M.1 160 x4.toNatClampNeg) ≤ sx0 → (vp_in x4 64 ∧ ∀ M3 : Mm, M3 = sI M 160 x4.toNatClampNeg sx0 → L_X12_sheets_124 G d Q x3 x4 (x5 + 1) M3))))) : L_X12_sheets_168 G d Q x3 x4 x5 sx0 M := by
  unfold L_X12_sheets_168
  refine tw_istore [(6, .int sx0), (0, .ref (G.b + 147)), (3, .int x3), (4, .int x4), (5, .int x5)] d_X12_sheets_168 (Nat.le_of_ble_eq_true rfl) rfl ?_
  refine tw_aload_n 1 d_X12_sheets_170 rfl rfl ?_
  refine tw_getR f_X12_91 hL s_147 ⟨rfl, rfl⟩ (rr_X12_28 s_147) d_X12_sheets_171 ?_
  refine tw_iload 3 d_X12_sheets_174 rfl ?_
  refine tw_iload 0 d_X12_sheets_176 rfl ?_
  refine tw_aload_n 1 d_X12_sheets_178 rfl rfl ?_
  refine tw_getR f_X12_91 hL s_147 ⟨rfl, rfl⟩ (rr_X12_28 s_147) d_X12_sheets_179 ?_
  refine tw_iload 3 d_X12_sheets_182 rfl ?_
  refine tw_iald hL s_160 d_X12_sheets_184 h.1 ?_
  replace h := h.2
  refine tw_icmp_ge 193 d_X12_sheets_185 (by decide) (fun z1 => ?_) (fun z1 => ?_)
  · replace h := h.1 z1
    refine tw_aload_n 1 d_X12_sheets_193 rfl rfl ?_
    refine tw_getR f_X12_91 hL s_147 ⟨rfl, rfl⟩ (rr_X12_28 s_147) d_X12_sheets_194 ?_
    refine tw_iload 3 d_X12_sheets_197 rfl ?_
    refine tw_iald hL s_160 d_X12_sheets_199 h.1 ?_
    replace h := h.2
    refine tu_iast hL s_160 d_X12_sheets_200 h.1 (fun M2 e_M2 hL_M2 => ?_)
    replace h := h.2 M2 e_M2
    refine tw_iinc 4 [(5, .int (x5 + 1)), (6, .int sx0), (0, .ref (G.b + 147)), (3, .int x3), (4, .int x4)] d_X12_sheets_201 rfl rfl (Nat.le_of_ble_eq_true rfl) rfl ?_
    refine tw_goto 124 d_X12_sheets_204 (by decide) ?_
    exact tw_lv [2, 3, 4, 0] rfl h
  · replace h := h.2 z1
    refine tw_iload 0 d_X12_sheets_188 rfl ?_
    refine tw_goto 200 d_X12_sheets_190 (by decide) ?_
    refine tu_iast hL s_160 d_X12_sheets_200 h.1 (fun M3 e_M3 hL_M3 => ?_)
    replace h := h.2 M3 e_M3
    refine tw_iinc 4 [(5, .int (x5 + 1)), (6, .int sx0), (0, .ref (G.b + 147)), (3, .int x3), (4, .int x4)] d_X12_sheets_201 rfl rfl (Nat.le_of_ble_eq_true rfl) rfl ?_
    refine tw_goto 124 d_X12_sheets_204 (by decide) ?_
    exact tw_lv [2, 3, 4, 0] rfl h
theorem b_X12_sheets {G : MG} {d : Nat} {Q : Int32 → Mm → Prop} {x1 : Int32} {x2 : Int32} {M : Mm} {c : Nat} (hL : Lay c M)  (h : (∀ M1 : Mm, M1 = sI M 147 0 0 → (C G Y_X12_isMap d [.ref (G.b + 147), .int x1] M1 (Ri fun r3 M2 => M2.2.2 = M1.2.2 ∧ ((r3 = 0 → Q (-1) M2) ∧ (¬ r3 = 0 → (C G Y_X12_within d [.int x2, .int 0, .int 200] M2 (Ri fun r6 M5 => M5.2.2 = M2.2.2 ∧ ((¬ r6 = 0 → L_X12_sheets_28 G d Q x1 x2 0 M5) ∧ (r6 = 0 → Q (-1) M5)))))))))) : C G Y_X12_sheets (d + 1) [.ref (G.b + 147), .int x1, .int x2] M (Ri Q) := by
  refine C.of (by decide) (Nat.le_of_ble_eq_true rfl) (lv := [(0, .ref (G.b + 147)), (1, .int x1), (2, .int x2)]) rfl ?_
  refine tw_aload_n 0 d_X12_sheets_0 rfl rfl ?_
  refine tw_iconst d_X12_sheets_1 k_0 ?_
  refine tu_putI f_X12_1 hL s_147 rfl rfl d_X12_sheets_2 (fun M1 e_M1 hL_M1 => ?_)
  replace h := h M1 e_M1
  refine tw_aload_n 0 d_X12_sheets_5 rfl rfl ?_
  refine tw_iload_n 1 d_X12_sheets_6 rfl rfl ?_
  refine tu_cVi (As := [.int x1]) cv_X12_193 hL_M1 s_147 rfl (Nat.le_of_ble_eq_true rfl) ⟨Nat.zero_le _, Nat.zero_le _⟩ d_X12_sheets_7 h (fun r3 M2 h => ?_)
  have hL_M2 : Lay c M2 := hL_M1.to h.1
  replace h := h.2
  refine tw_if_eq 24 d_X12_sheets_10 (by decide) (fun z4 => ?_) (fun z4 => ?_)
  · replace h := h.1 z4
    refine tw_iconst d_X12_sheets_24 k_m1 ?_
    exact tw_iret rfl ⟨Nat.zero_le _, Nat.zero_le _⟩ d_X12_sheets_25 h
  · replace h := h.2 z4
    refine tw_iload_n 2 d_X12_sheets_13 rfl rfl ?_
    refine tw_iconst d_X12_sheets_14 k_0 ?_
    refine tw_sipush d_X12_sheets_15 ks_200 ?_
    refine tu_cSi (As := [.int x2, .int 0, .int 200]) cs_X12_196 rfl (Nat.le_of_ble_eq_true rfl) ⟨Nat.zero_le _, Nat.zero_le _⟩ d_X12_sheets_18 h (fun r6 M5 h => ?_)
    have hL_M5 : Lay c M5 := hL_M2.to h.1
    replace h := h.2
    refine tw_if_ne 26 d_X12_sheets_21 (by decide) (fun z7 => ?_) (fun z7 => ?_)
    · replace h := h.1 z7
      refine tw_iconst d_X12_sheets_26 k_0 ?_
      refine tw_istore_n [(3, .int 0), (0, .ref (G.b + 147)), (1, .int x1), (2, .int x2)] d_X12_sheets_27 rfl (Nat.le_of_ble_eq_true rfl) rfl ?_
      exact tw_lv [1, 2, 3, 0] rfl h
    · replace h := h.2 z7
      refine tw_iconst d_X12_sheets_24 k_m1 ?_
      exact tw_iret rfl ⟨Nat.zero_le _, Nat.zero_le _⟩ d_X12_sheets_25 h

theorem d_X12_canCopy_0 : decode Y_X12_canCopy.cc 0 = .ok (.iconst 0, 1) := by decide +kernel
theorem d_X12_canCopy_1 : decode Y_X12_canCopy.cc 1 = .ok (.istore_n 3, 1) := by decide +kernel
theorem d_X12_canCopy_2 : decode Y_X12_canCopy.cc 2 = .ok (.iconst 0, 1) := by decide +kernel
theorem d_X12_canCopy_3 : decode Y_X12_canCopy.cc 3 = .ok (.istore 4, 2) := by decide +kernel
theorem d_X12_canCopy_5 : decode Y_X12_canCopy.cc 5 = .ok (.iload 4, 2) := by decide +kernel
theorem d_X12_canCopy_7 : decode Y_X12_canCopy.cc 7 = .ok (.aload_n 0, 1) := by decide +kernel
theorem d_X12_canCopy_8 : decode Y_X12_canCopy.cc 8 = .ok (.invokevirtual 183, 3) := by decide +kernel
theorem d_X12_canCopy_11 : decode Y_X12_canCopy.cc 11 = .ok (.if_icmp .ge 66, 3) := by decide +kernel
theorem d_X12_canCopy_14 : decode Y_X12_canCopy.cc 14 = .ok (.iload_n 3, 1) := by decide +kernel
theorem d_X12_canCopy_15 : decode Y_X12_canCopy.cc 15 = .ok (.ifCond .ne 50, 3) := by decide +kernel
theorem d_X12_canCopy_18 : decode Y_X12_canCopy.cc 18 = .ok (.aload_n 0, 1) := by decide +kernel
theorem d_X12_canCopy_19 : decode Y_X12_canCopy.cc 19 = .ok (.iload_n 2, 1) := by decide +kernel
theorem d_X12_canCopy_20 : decode Y_X12_canCopy.cc 20 = .ok (.iconst 0, 1) := by decide +kernel
theorem d_X12_canCopy_21 : decode Y_X12_canCopy.cc 21 = .ok (.invokevirtual 200, 3) := by decide +kernel
theorem d_X12_canCopy_24 : decode Y_X12_canCopy.cc 24 = .ok (.aload_n 0, 1) := by decide +kernel
theorem d_X12_canCopy_25 : decode Y_X12_canCopy.cc 25 = .ok (.iload_n 1, 1) := by decide +kernel
theorem d_X12_canCopy_26 : decode Y_X12_canCopy.cc 26 = .ok (.iconst 1, 1) := by decide +kernel
theorem d_X12_canCopy_27 : decode Y_X12_canCopy.cc 27 = .ok (.invokevirtual 200, 3) := by decide +kernel
theorem d_X12_canCopy_30 : decode Y_X12_canCopy.cc 30 = .ok (.imul, 1) := by decide +kernel
theorem d_X12_canCopy_31 : decode Y_X12_canCopy.cc 31 = .ok (.aload_n 0, 1) := by decide +kernel
theorem d_X12_canCopy_32 : decode Y_X12_canCopy.cc 32 = .ok (.iload 4, 2) := by decide +kernel
theorem d_X12_canCopy_34 : decode Y_X12_canCopy.cc 34 = .ok (.bipush 7, 2) := by decide +kernel
theorem d_X12_canCopy_36 : decode Y_X12_canCopy.cc 36 = .ok (.invokevirtual 190, 3) := by decide +kernel
theorem d_X12_canCopy_39 : decode Y_X12_canCopy.cc 39 = .ok (.imul, 1) := by decide +kernel
theorem d_X12_canCopy_40 : decode Y_X12_canCopy.cc 40 = .ok (.aload_n 0, 1) := by decide +kernel
theorem d_X12_canCopy_41 : decode Y_X12_canCopy.cc 41 = .ok (.iload_n 1, 1) := by decide +kernel
theorem d_X12_canCopy_42 : decode Y_X12_canCopy.cc 42 = .ok (.iconst 0, 1) := by decide +kernel
theorem d_X12_canCopy_43 : decode Y_X12_canCopy.cc 43 = .ok (.invokevirtual 200, 3) := by decide +kernel
theorem d_X12_canCopy_46 : decode Y_X12_canCopy.cc 46 = .ok (.aload_n 0, 1) := by decide +kernel
theorem d_X12_canCopy_47 : decode Y_X12_canCopy.cc 47 = .ok (.iload 4, 2) := by decide +kernel
theorem d_X12_canCopy_49 : decode Y_X12_canCopy.cc 49 = .ok (.bipush 6, 2) := by decide +kernel
theorem d_X12_canCopy_51 : decode Y_X12_canCopy.cc 51 = .ok (.invokevirtual 190, 3) := by decide +kernel
theorem d_X12_canCopy_54 : decode Y_X12_canCopy.cc 54 = .ok (.imul, 1) := by decide +kernel
theorem d_X12_canCopy_55 : decode Y_X12_canCopy.cc 55 = .ok (.aload_n 0, 1) := by decide +kernel
theorem d_X12_canCopy_56 : decode Y_X12_canCopy.cc 56 = .ok (.iload_n 2, 1) := by decide +kernel
theorem d_X12_canCopy_57 : decode Y_X12_canCopy.cc 57 = .ok (.iconst 1, 1) := by decide +kernel
theorem d_X12_canCopy_58 : decode Y_X12_canCopy.cc 58 = .ok (.invokevirtual 200, 3) := by decide +kernel
theorem d_X12_canCopy_61 : decode Y_X12_canCopy.cc 61 = .ok (.imul, 1) := by decide +kernel
theorem d_X12_canCopy_62 : decode Y_X12_canCopy.cc 62 = .ok (.if_icmp .ne 7, 3) := by decide +kernel
theorem d_X12_canCopy_65 : decode Y_X12_canCopy.cc 65 = .ok (.iconst 1, 1) := by decide +kernel
theorem d_X12_canCopy_66 : decode Y_X12_canCopy.cc 66 = .ok (.goto 4, 3) := by decide +kernel
theorem d_X12_canCopy_69 : decode Y_X12_canCopy.cc 69 = .ok (.iconst 0, 1) := by decide +kernel
theorem d_X12_canCopy_70 : decode Y_X12_canCopy.cc 70 = .ok (.istore_n 3, 1) := by decide +kernel
theorem d_X12_canCopy_71 : decode Y_X12_canCopy.cc 71 = .ok (.iinc 4 1, 3) := by decide +kernel
theorem d_X12_canCopy_74 : decode Y_X12_canCopy.cc 74 = .ok (.goto (-69), 3) := by decide +kernel
theorem d_X12_canCopy_77 : decode Y_X12_canCopy.cc 77 = .ok (.iload_n 3, 1) := by decide +kernel
theorem d_X12_canCopy_78 : decode Y_X12_canCopy.cc 78 = .ok (.ireturn, 1) := by decide +kernel
def L_X12_canCopy_5 (G : MG) (d : Nat) (Q : Int32 → Mm → Prop) (x1 : Int32) (x2 : Int32) (x3 : Int32) (x4 : Int32) (M : Mm) : Prop := T G Y_X12_canCopy (d + 1) (Ri Q) 0 0 5 [(0, .ref (G.b + 147)), (1, .int x1), (2, .int x2), (3, .int x3), (4, .int x4)] [] M
theorem b_X12_canCopy_5 {G : MG} {d : Nat} {Q : Int32 → Mm → Prop} {x1 : Int32} {x2 : Int32} {x3 : Int32} {x4 : Int32} {M : Mm} {c : Nat} (hL : Lay c M)  (h : (C G Y_X12_arms d [.ref (G.b + 147)] M (Ri fun r2 M1 => M1.2.2 = M.2.2 ∧ ((r2 ≤ x4 → ((x3 = 0 ∨ x3 = 1) ∧ Q x3 M1)) ∧ (¬ r2 ≤ x4 → ((¬ x3 = 0 → L_X12_canCopy_5 G d Q x1 x2 1 (x4 + 1) M1) ∧ (x3 = 0 → (C G Y_X12_mapOf d [.ref (G.b + 147), .int x2, .int 0] M1 (Ri fun r6 M5 => M5.2.2 = M1.2.2 ∧ (C G Y_X12_mapOf d [.ref (G.b + 147), .int x1, .int 1] M5 (Ri fun r8 M7 => M7.2.2 = M5.2.2 ∧ (C G Y_X12_of d [.ref (G.b + 147), .int x4, .int 7] M7 (Ri fun r10 M9 => M9.2.2 = M7.2.2 ∧ (C G Y_X12_mapOf d [.ref (G.b + 147), .int x1, .int 0] M9 (Ri fun r12 M11 => M11.2.2 = M9.2.2 ∧ (C G Y_X12_of d [.ref (G.b + 147), .int x4, .int 6] M11 (Ri fun r14 M13 => M13.2.2 = M11.2.2 ∧ (C G Y_X12_mapOf d [.ref (G.b + 147), .int x2, .int 1] M13 (Ri fun r16 M15 => M15.2.2 = M13.2.2 ∧ ((¬ ((r6 * r8) * r10) = ((r12 * r14) * r16) → L_X12_canCopy_5 G d Q x1 x2 0 (x4 + 1) M15) ∧ (((r6 * r8) * r10) = ((r12 * r14) * r16) → L_X12_canCopy_5 G d Q x1 x2 1 (x4 + 1) M15))))))))))))))))))))) : L_X12_canCopy_5 G d Q x1 x2 x3 x4 M := by
  unfold L_X12_canCopy_5
  refine tw_iload 4 d_X12_canCopy_5 rfl ?_
  refine tw_aload_n 0 d_X12_canCopy_7 rfl rfl ?_
  refine tu_cVi (As := []) cv_X12_183 hL s_147 rfl (Nat.le_of_ble_eq_true rfl) ⟨Nat.zero_le _, Nat.zero_le _⟩ d_X12_canCopy_8 h (fun r2 M1 h => ?_)
  have hL_M1 : Lay c M1 := hL.to h.1
  replace h := h.2
  refine tw_icmp_ge 77 d_X12_canCopy_11 (by decide) (fun z3 => ?_) (fun z3 => ?_)
  · replace h := h.1 z3
    refine tw_iload_n 3 d_X12_canCopy_77 rfl rfl ?_
    exact tw_zret (ty := .boolean) rfl (nzb h.1) ⟨Nat.zero_le _, Nat.zero_le _⟩ d_X12_canCopy_78 h.2
  · replace h := h.2 z3
    refine tw_iload_n 3 d_X12_canCopy_14 rfl rfl ?_
    refine tw_if_ne 65 d_X12_canCopy_15 (by decide) (fun z4 => ?_) (fun z4 => ?_)
    · replace h := h.1 z4
      refine tw_iconst d_X12_canCopy_65 k_1 ?_
      refine tw_goto 70 d_X12_canCopy_66 (by decide) ?_
      refine tw_istore_n [(3, .int 1), (0, .ref (G.b + 147)), (1, .int x1), (2, .int x2), (4, .int x4)] d_X12_canCopy_70 rfl (Nat.le_of_ble_eq_true rfl) rfl ?_
      refine tw_iinc 4 [(4, .int (x4 + 1)), (3, .int 1), (0, .ref (G.b + 147)), (1, .int x1), (2, .int x2)] d_X12_canCopy_71 rfl rfl (Nat.le_of_ble_eq_true rfl) rfl ?_
      refine tw_goto 5 d_X12_canCopy_74 (by decide) ?_
      exact tw_lv [2, 3, 4, 1, 0] rfl h
    · replace h := h.2 z4
      refine tw_aload_n 0 d_X12_canCopy_18 rfl rfl ?_
      refine tw_iload_n 2 d_X12_canCopy_19 rfl rfl ?_
      refine tw_iconst d_X12_canCopy_20 k_0 ?_
      refine tu_cVi (As := [.int x2, .int 0]) cv_X12_200 hL_M1 s_147 rfl (Nat.le_of_ble_eq_true rfl) ⟨Nat.zero_le _, Nat.zero_le _⟩ d_X12_canCopy_21 h (fun r6 M5 h => ?_)
      have hL_M5 : Lay c M5 := hL_M1.to h.1
      replace h := h.2
      refine tw_aload_n 0 d_X12_canCopy_24 rfl rfl ?_
      refine tw_iload_n 1 d_X12_canCopy_25 rfl rfl ?_
      refine tw_iconst d_X12_canCopy_26 k_1 ?_
      refine tu_cVi (As := [.int x1, .int 1]) cv_X12_200 hL_M5 s_147 rfl (Nat.le_of_ble_eq_true rfl) ⟨Nat.zero_le _, Nat.zero_le _⟩ d_X12_canCopy_27 h (fun r8 M7 h => ?_)
      have hL_M7 : Lay c M7 := hL_M5.to h.1
      replace h := h.2
      refine tw_imul d_X12_canCopy_30 ?_
      refine tw_aload_n 0 d_X12_canCopy_31 rfl rfl ?_
      refine tw_iload 4 d_X12_canCopy_32 rfl ?_
      refine tw_bipush d_X12_canCopy_34 kb_7 ?_
      refine tu_cVi (As := [.int x4, .int 7]) cv_X12_190 hL_M7 s_147 rfl (Nat.le_of_ble_eq_true rfl) ⟨Nat.zero_le _, Nat.zero_le _⟩ d_X12_canCopy_36 h (fun r10 M9 h => ?_)
      have hL_M9 : Lay c M9 := hL_M7.to h.1
      replace h := h.2
      refine tw_imul d_X12_canCopy_39 ?_
      refine tw_aload_n 0 d_X12_canCopy_40 rfl rfl ?_
      refine tw_iload_n 1 d_X12_canCopy_41 rfl rfl ?_
      refine tw_iconst d_X12_canCopy_42 k_0 ?_
      refine tu_cVi (As := [.int x1, .int 0]) cv_X12_200 hL_M9 s_147 rfl (Nat.le_of_ble_eq_true rfl) ⟨Nat.zero_le _, Nat.zero_le _⟩ d_X12_canCopy_43 h (fun r12 M11 h => ?_)
      have hL_M11 : Lay c M11 := hL_M9.to h.1
      replace h := h.2
      refine tw_aload_n 0 d_X12_canCopy_46 rfl rfl ?_
      refine tw_iload 4 d_X12_canCopy_47 rfl ?_
      refine tw_bipush d_X12_canCopy_49 kb_6 ?_
      refine tu_cVi (As := [.int x4, .int 6]) cv_X12_190 hL_M11 s_147 rfl (Nat.le_of_ble_eq_true rfl) ⟨Nat.zero_le _, Nat.zero_le _⟩ d_X12_canCopy_51 h (fun r14 M13 h => ?_)
      have hL_M13 : Lay c M13 := hL_M11.to h.1
      replace h := h.2
      refine tw_imul d_X12_canCopy_54 ?_
      refine tw_aload_n 0 d_X12_canCopy_55 rfl rfl ?_
      refine tw_iload_n 2 d_X12_canCopy_56 rfl rfl ?_
      refine tw_iconst d_X12_canCopy_57 k_1 ?_
      refine tu_cVi (As := [.int x2, .int 1]) cv_X12_200 hL_M13 s_147 rfl (Nat.le_of_ble_eq_true rfl) ⟨Nat.zero_le _, Nat.zero_le _⟩ d_X12_canCopy_58 h (fun r16 M15 h => ?_)
      have hL_M15 : Lay c M15 := hL_M13.to h.1
      replace h := h.2
      refine tw_imul d_X12_canCopy_61 ?_
      refine tw_icmp_ne 69 d_X12_canCopy_62 (by decide) (fun z17 => ?_) (fun z17 => ?_)
      · replace h := h.1 z17
        refine tw_iconst d_X12_canCopy_69 k_0 ?_
        refine tw_istore_n [(3, .int 0), (0, .ref (G.b + 147)), (1, .int x1), (2, .int x2), (4, .int x4)] d_X12_canCopy_70 rfl (Nat.le_of_ble_eq_true rfl) rfl ?_
        refine tw_iinc 4 [(4, .int (x4 + 1)), (3, .int 0), (0, .ref (G.b + 147)), (1, .int x1), (2, .int x2)] d_X12_canCopy_71 rfl rfl (Nat.le_of_ble_eq_true rfl) rfl ?_
        refine tw_goto 5 d_X12_canCopy_74 (by decide) ?_
        exact tw_lv [2, 3, 4, 1, 0] rfl h
      · replace h := h.2 z17
        refine tw_iconst d_X12_canCopy_65 k_1 ?_
        refine tw_goto 70 d_X12_canCopy_66 (by decide) ?_
        refine tw_istore_n [(3, .int 1), (0, .ref (G.b + 147)), (1, .int x1), (2, .int x2), (4, .int x4)] d_X12_canCopy_70 rfl (Nat.le_of_ble_eq_true rfl) rfl ?_
        refine tw_iinc 4 [(4, .int (x4 + 1)), (3, .int 1), (0, .ref (G.b + 147)), (1, .int x1), (2, .int x2)] d_X12_canCopy_71 rfl rfl (Nat.le_of_ble_eq_true rfl) rfl ?_
        refine tw_goto 5 d_X12_canCopy_74 (by decide) ?_
        exact tw_lv [2, 3, 4, 1, 0] rfl h
theorem b_X12_canCopy {G : MG} {d : Nat} {Q : Int32 → Mm → Prop} {x1 : Int32} {x2 : Int32} {M : Mm} {c : Nat} (hL : Lay c M)  (h : L_X12_canCopy_5 G d Q x1 x2 0 0 M) : C G Y_X12_canCopy (d + 1) [.ref (G.b + 147), .int x1, .int x2] M (Ri Q) := by
  refine C.of (by decide) (Nat.le_of_ble_eq_true rfl) (lv := [(0, .ref (G.b + 147)), (1, .int x1), (2, .int x2)]) rfl ?_
  refine tw_iconst d_X12_canCopy_0 k_0 ?_
  refine tw_istore_n [(3, .int 0), (0, .ref (G.b + 147)), (1, .int x1), (2, .int x2)] d_X12_canCopy_1 rfl (Nat.le_of_ble_eq_true rfl) rfl ?_
  refine tw_iconst d_X12_canCopy_2 k_0 ?_
  refine tw_istore [(4, .int 0), (3, .int 0), (0, .ref (G.b + 147)), (1, .int x1), (2, .int x2)] d_X12_canCopy_3 (Nat.le_of_ble_eq_true rfl) rfl ?_
  exact tw_lv [2, 3, 4, 1, 0] rfl h

theorem d_X12_unlike_0 : decode Y_X12_unlike.cc 0 = .ok (.iconst 0, 1) := by decide +kernel
theorem d_X12_unlike_1 : decode Y_X12_unlike.cc 1 = .ok (.istore_n 3, 1) := by decide +kernel
theorem d_X12_unlike_2 : decode Y_X12_unlike.cc 2 = .ok (.iconst 0, 1) := by decide +kernel
theorem d_X12_unlike_3 : decode Y_X12_unlike.cc 3 = .ok (.istore 4, 2) := by decide +kernel
theorem d_X12_unlike_5 : decode Y_X12_unlike.cc 5 = .ok (.iload 4, 2) := by decide +kernel
theorem d_X12_unlike_7 : decode Y_X12_unlike.cc 7 = .ok (.bipush 8, 2) := by decide +kernel
theorem d_X12_unlike_9 : decode Y_X12_unlike.cc 9 = .ok (.if_icmp .ge 30, 3) := by decide +kernel
theorem d_X12_unlike_12 : decode Y_X12_unlike.cc 12 = .ok (.iload_n 3, 1) := by decide +kernel
theorem d_X12_unlike_13 : decode Y_X12_unlike.cc 13 = .ok (.aload_n 0, 1) := by decide +kernel
theorem d_X12_unlike_14 : decode Y_X12_unlike.cc 14 = .ok (.iload_n 1, 1) := by decide +kernel
theorem d_X12_unlike_15 : decode Y_X12_unlike.cc 15 = .ok (.iconst 2, 1) := by decide +kernel
theorem d_X12_unlike_16 : decode Y_X12_unlike.cc 16 = .ok (.invokevirtual 200, 3) := by decide +kernel
theorem d_X12_unlike_19 : decode Y_X12_unlike.cc 19 = .ok (.aload_n 0, 1) := by decide +kernel
theorem d_X12_unlike_20 : decode Y_X12_unlike.cc 20 = .ok (.iload_n 2, 1) := by decide +kernel
theorem d_X12_unlike_21 : decode Y_X12_unlike.cc 21 = .ok (.iconst 2, 1) := by decide +kernel
theorem d_X12_unlike_22 : decode Y_X12_unlike.cc 22 = .ok (.invokevirtual 200, 3) := by decide +kernel
theorem d_X12_unlike_25 : decode Y_X12_unlike.cc 25 = .ok (.ixor, 1) := by decide +kernel
theorem d_X12_unlike_26 : decode Y_X12_unlike.cc 26 = .ok (.iload 4, 2) := by decide +kernel
theorem d_X12_unlike_28 : decode Y_X12_unlike.cc 28 = .ok (.ishr, 1) := by decide +kernel
theorem d_X12_unlike_29 : decode Y_X12_unlike.cc 29 = .ok (.iconst 1, 1) := by decide +kernel
theorem d_X12_unlike_30 : decode Y_X12_unlike.cc 30 = .ok (.iand, 1) := by decide +kernel
theorem d_X12_unlike_31 : decode Y_X12_unlike.cc 31 = .ok (.iadd, 1) := by decide +kernel
theorem d_X12_unlike_32 : decode Y_X12_unlike.cc 32 = .ok (.istore_n 3, 1) := by decide +kernel
theorem d_X12_unlike_33 : decode Y_X12_unlike.cc 33 = .ok (.iinc 4 1, 3) := by decide +kernel
theorem d_X12_unlike_36 : decode Y_X12_unlike.cc 36 = .ok (.goto (-31), 3) := by decide +kernel
theorem d_X12_unlike_39 : decode Y_X12_unlike.cc 39 = .ok (.iload_n 3, 1) := by decide +kernel
theorem d_X12_unlike_40 : decode Y_X12_unlike.cc 40 = .ok (.ireturn, 1) := by decide +kernel
def L_X12_unlike_5 (G : MG) (d : Nat) (Q : Int32 → Mm → Prop) (x1 : Int32) (x2 : Int32) (x3 : Int32) (x4 : Int32) (M : Mm) : Prop := T G Y_X12_unlike (d + 1) (Ri Q) 0 0 5 [(0, .ref (G.b + 147)), (1, .int x1), (2, .int x2), (3, .int x3), (4, .int x4)] [] M
theorem b_X12_unlike_5 {G : MG} {d : Nat} {Q : Int32 → Mm → Prop} {x1 : Int32} {x2 : Int32} {x3 : Int32} {x4 : Int32} {M : Mm} {c : Nat} (hL : Lay c M)  (h : ((8 ≤ x4 → Q x3 M) ∧ (¬ 8 ≤ x4 → (C G Y_X12_mapOf d [.ref (G.b + 147), .int x1, .int 2] M (Ri fun r3 M2 => M2.2.2 = M.2.2 ∧ (C G Y_X12_mapOf d [.ref (G.b + 147), .int x2, .int 2] M2 (Ri fun r5 M4 => M4.2.2 = M2.2.2 ∧ L_X12_unlike_5 G d Q x1 x2 (x3 + (((r3 ^^^ r5) >>> (x4 &&& 31)) &&& 1)) (x4 + 1) M4))))))) : L_X12_unlike_5 G d Q x1 x2 x3 x4 M := by
  unfold L_X12_unlike_5
  refine tw_iload 4 d_X12_unlike_5 rfl ?_
  refine tw_bipush d_X12_unlike_7 kb_8 ?_
  refine tw_icmp_ge 39 d_X12_unlike_9 (by decide) (fun z1 => ?_) (fun z1 => ?_)
  · replace h := h.1 z1
    refine tw_iload_n 3 d_X12_unlike_39 rfl rfl ?_
    exact tw_iret rfl ⟨Nat.zero_le _, Nat.zero_le _⟩ d_X12_unlike_40 h
  · replace h := h.2 z1
    refine tw_iload_n 3 d_X12_unlike_12 rfl rfl ?_
    refine tw_aload_n 0 d_X12_unlike_13 rfl rfl ?_
    refine tw_iload_n 1 d_X12_unlike_14 rfl rfl ?_
    refine tw_iconst d_X12_unlike_15 k_2 ?_
    refine tu_cVi (As := [.int x1, .int 2]) cv_X12_200 hL s_147 rfl (Nat.le_of_ble_eq_true rfl) ⟨Nat.zero_le _, Nat.zero_le _⟩ d_X12_unlike_16 h (fun r3 M2 h => ?_)
    have hL_M2 : Lay c M2 := hL.to h.1
    replace h := h.2
    refine tw_aload_n 0 d_X12_unlike_19 rfl rfl ?_
    refine tw_iload_n 2 d_X12_unlike_20 rfl rfl ?_
    refine tw_iconst d_X12_unlike_21 k_2 ?_
    refine tu_cVi (As := [.int x2, .int 2]) cv_X12_200 hL_M2 s_147 rfl (Nat.le_of_ble_eq_true rfl) ⟨Nat.zero_le _, Nat.zero_le _⟩ d_X12_unlike_22 h (fun r5 M4 h => ?_)
    have hL_M4 : Lay c M4 := hL_M2.to h.1
    replace h := h.2
    refine tw_ixor d_X12_unlike_25 ?_
    refine tw_iload 4 d_X12_unlike_26 rfl ?_
    refine tw_ishr d_X12_unlike_28 ?_
    refine tw_iconst d_X12_unlike_29 k_1 ?_
    refine tw_iand d_X12_unlike_30 ?_
    refine tw_iadd d_X12_unlike_31 ?_
    refine tw_istore_n [(3, .int (x3 + (((r3 ^^^ r5) >>> (x4 &&& 31)) &&& 1))), (0, .ref (G.b + 147)), (1, .int x1), (2, .int x2), (4, .int x4)] d_X12_unlike_32 rfl (Nat.le_of_ble_eq_true rfl) rfl ?_
    refine tw_iinc 4 [(4, .int (x4 + 1)), (3, .int (x3 + (((r3 ^^^ r5) >>> (x4 &&& 31)) &&& 1))), (0, .ref (G.b + 147)), (1, .int x1), (2, .int x2)] d_X12_unlike_33 rfl rfl (Nat.le_of_ble_eq_true rfl) rfl ?_
    refine tw_goto 5 d_X12_unlike_36 (by decide) ?_
    exact tw_lv [2, 3, 4, 1, 0] rfl h
theorem b_X12_unlike {G : MG} {d : Nat} {Q : Int32 → Mm → Prop} {x1 : Int32} {x2 : Int32} {M : Mm} {c : Nat} (hL : Lay c M)  (h : L_X12_unlike_5 G d Q x1 x2 0 0 M) : C G Y_X12_unlike (d + 1) [.ref (G.b + 147), .int x1, .int x2] M (Ri Q) := by
  refine C.of (by decide) (Nat.le_of_ble_eq_true rfl) (lv := [(0, .ref (G.b + 147)), (1, .int x1), (2, .int x2)]) rfl ?_
  refine tw_iconst d_X12_unlike_0 k_0 ?_
  refine tw_istore_n [(3, .int 0), (0, .ref (G.b + 147)), (1, .int x1), (2, .int x2)] d_X12_unlike_1 rfl (Nat.le_of_ble_eq_true rfl) rfl ?_
  refine tw_iconst d_X12_unlike_2 k_0 ?_
  refine tw_istore [(4, .int 0), (3, .int 0), (0, .ref (G.b + 147)), (1, .int x1), (2, .int x2)] d_X12_unlike_3 (Nat.le_of_ble_eq_true rfl) rfl ?_
  exact tw_lv [2, 3, 4, 1, 0] rfl h

theorem d_X12_descends_0 : decode Y_X12_descends.cc 0 = .ok (.iconst 1, 1) := by decide +kernel
theorem d_X12_descends_1 : decode Y_X12_descends.cc 1 = .ok (.istore_n 2, 1) := by decide +kernel
theorem d_X12_descends_2 : decode Y_X12_descends.cc 2 = .ok (.iconst 0, 1) := by decide +kernel
theorem d_X12_descends_3 : decode Y_X12_descends.cc 3 = .ok (.istore_n 3, 1) := by decide +kernel
theorem d_X12_descends_4 : decode Y_X12_descends.cc 4 = .ok (.iload_n 3, 1) := by decide +kernel
theorem d_X12_descends_5 : decode Y_X12_descends.cc 5 = .ok (.iload_n 1, 1) := by decide +kernel
theorem d_X12_descends_6 : decode Y_X12_descends.cc 6 = .ok (.if_icmp .ge 71, 3) := by decide +kernel
theorem d_X12_descends_9 : decode Y_X12_descends.cc 9 = .ok (.iload_n 3, 1) := by decide +kernel
theorem d_X12_descends_10 : decode Y_X12_descends.cc 10 = .ok (.istore 4, 2) := by decide +kernel
theorem d_X12_descends_12 : decode Y_X12_descends.cc 12 = .ok (.iconst 0, 1) := by decide +kernel
theorem d_X12_descends_13 : decode Y_X12_descends.cc 13 = .ok (.istore 5, 2) := by decide +kernel
theorem d_X12_descends_15 : decode Y_X12_descends.cc 15 = .ok (.iload 5, 2) := by decide +kernel
theorem d_X12_descends_17 : decode Y_X12_descends.cc 17 = .ok (.iload_n 1, 1) := by decide +kernel
theorem d_X12_descends_18 : decode Y_X12_descends.cc 18 = .ok (.if_icmp .ge 34, 3) := by decide +kernel
theorem d_X12_descends_21 : decode Y_X12_descends.cc 21 = .ok (.iload 4, 2) := by decide +kernel
theorem d_X12_descends_23 : decode Y_X12_descends.cc 23 = .ok (.aload_n 0, 1) := by decide +kernel
theorem d_X12_descends_24 : decode Y_X12_descends.cc 24 = .ok (.getfield 298, 3) := by decide +kernel
theorem d_X12_descends_27 : decode Y_X12_descends.cc 27 = .ok (.if_icmp .ne 10, 3) := by decide +kernel
theorem d_X12_descends_30 : decode Y_X12_descends.cc 30 = .ok (.aload_n 0, 1) := by decide +kernel
theorem d_X12_descends_31 : decode Y_X12_descends.cc 31 = .ok (.getfield 298, 3) := by decide +kernel
theorem d_X12_descends_34 : decode Y_X12_descends.cc 34 = .ok (.goto 10, 3) := by decide +kernel
theorem d_X12_descends_37 : decode Y_X12_descends.cc 37 = .ok (.aload_n 0, 1) := by decide +kernel
theorem d_X12_descends_38 : decode Y_X12_descends.cc 38 = .ok (.getfield 82, 3) := by decide +kernel
theorem d_X12_descends_41 : decode Y_X12_descends.cc 41 = .ok (.iload 4, 2) := by decide +kernel
theorem d_X12_descends_43 : decode Y_X12_descends.cc 43 = .ok (.iaload, 1) := by decide +kernel
theorem d_X12_descends_44 : decode Y_X12_descends.cc 44 = .ok (.istore 4, 2) := by decide +kernel
theorem d_X12_descends_46 : decode Y_X12_descends.cc 46 = .ok (.iinc 5 1, 3) := by decide +kernel
theorem d_X12_descends_49 : decode Y_X12_descends.cc 49 = .ok (.goto (-34), 3) := by decide +kernel
theorem d_X12_descends_52 : decode Y_X12_descends.cc 52 = .ok (.iload_n 2, 1) := by decide +kernel
theorem d_X12_descends_53 : decode Y_X12_descends.cc 53 = .ok (.ifCond .eq 16, 3) := by decide +kernel
theorem d_X12_descends_56 : decode Y_X12_descends.cc 56 = .ok (.iload 4, 2) := by decide +kernel
theorem d_X12_descends_58 : decode Y_X12_descends.cc 58 = .ok (.aload_n 0, 1) := by decide +kernel
theorem d_X12_descends_59 : decode Y_X12_descends.cc 59 = .ok (.getfield 298, 3) := by decide +kernel
theorem d_X12_descends_62 : decode Y_X12_descends.cc 62 = .ok (.if_icmp .ne 7, 3) := by decide +kernel
theorem d_X12_descends_65 : decode Y_X12_descends.cc 65 = .ok (.iconst 1, 1) := by decide +kernel
theorem d_X12_descends_66 : decode Y_X12_descends.cc 66 = .ok (.goto 4, 3) := by decide +kernel
theorem d_X12_descends_69 : decode Y_X12_descends.cc 69 = .ok (.iconst 0, 1) := by decide +kernel
theorem d_X12_descends_70 : decode Y_X12_descends.cc 70 = .ok (.istore_n 2, 1) := by decide +kernel
theorem d_X12_descends_71 : decode Y_X12_descends.cc 71 = .ok (.iinc 3 1, 3) := by decide +kernel
theorem d_X12_descends_74 : decode Y_X12_descends.cc 74 = .ok (.goto (-70), 3) := by decide +kernel
theorem d_X12_descends_77 : decode Y_X12_descends.cc 77 = .ok (.iload_n 2, 1) := by decide +kernel
theorem d_X12_descends_78 : decode Y_X12_descends.cc 78 = .ok (.ireturn, 1) := by decide +kernel
def L_X12_descends_4 (G : MG) (d : Nat) (Q : Int32 → Mm → Prop) (x1 : Int32) (x2 : Int32) (x3 : Int32) (M : Mm) : Prop := T G Y_X12_descends (d + 1) (Ri Q) 0 0 4 [(0, .ref (G.b + 147)), (1, .int x1), (2, .int x2), (3, .int x3)] [] M
def L_X12_descends_15 (G : MG) (d : Nat) (Q : Int32 → Mm → Prop) (x1 : Int32) (x2 : Int32) (x3 : Int32) (x4 : Int32) (x5 : Int32) (M : Mm) : Prop := T G Y_X12_descends (d + 1) (Ri Q) 0 0 15 [(0, .ref (G.b + 147)), (1, .int x1), (2, .int x2), (3, .int x3), (4, .int x4), (5, .int x5)] [] M
theorem b_X12_descends_4 {G : MG} {d : Nat} {Q : Int32 → Mm → Prop} {x1 : Int32} {x2 : Int32} {x3 : Int32} {M : Mm} {c : Nat} (hL : Lay c M)  (h : ((x1 ≤ x3 → ((x2 = 0 ∨ x2 = 1) ∧ Q x2 M)) ∧ (¬ x1 ≤ x3 → L_X12_descends_15 G d Q x1 x2 x3 x3 0 M))) : L_X12_descends_4 G d Q x1 x2 x3 M := by
  unfold L_X12_descends_4
  refine tw_iload_n 3 d_X12_descends_4 rfl rfl ?_
  refine tw_iload_n 1 d_X12_descends_5 rfl rfl ?_
  refine tw_icmp_ge 77 d_X12_descends_6 (by decide) (fun z1 => ?_) (fun z1 => ?_)
  · replace h := h.1 z1
    refine tw_iload_n 2 d_X12_descends_77 rfl rfl ?_
    exact tw_zret (ty := .boolean) rfl (nzb h.1) ⟨Nat.zero_le _, Nat.zero_le _⟩ d_X12_descends_78 h.2
  · replace h := h.2 z1
    refine tw_iload_n 3 d_X12_descends_9 rfl rfl ?_
    refine tw_istore [(4, .int x3), (0, .ref (G.b + 147)), (1, .int x1), (2, .int x2), (3, .int x3)] d_X12_descends_10 (Nat.le_of_ble_eq_true rfl) rfl ?_
    refine tw_iconst d_X12_descends_12 k_0 ?_
    refine tw_istore [(5, .int 0), (4, .int x3), (0, .ref (G.b + 147)), (1, .int x1), (2, .int x2), (3, .int x3)] d_X12_descends_13 (Nat.le_of_ble_eq_true rfl) rfl ?_
    exact tw_lv [2, 3, 4, 5, 1, 0] rfl h
theorem b_X12_descends_15 {G : MG} {d : Nat} {Q : Int32 → Mm → Prop} {x1 : Int32} {x2 : Int32} {x3 : Int32} {x4 : Int32} {x5 : Int32} {M : Mm} {c : Nat} (hL : Lay c M)  (h : ((x1 ≤ x5 → ((x2 = 0 → L_X12_descends_4 G d Q x1 0 (x3 + 1) M) ∧ (¬ x2 = 0 → ((¬ x4 = (M.1 147 30) → L_X12_descends_4 G d Q x1 0 (x3 + 1) M) ∧ (x4 = (M.1 147 30) → L_X12_descends_4 G d Q x1 1 (x3 + 1) M))))) ∧ (¬ x1 ≤ x5 → ((¬ x4 = (M.1 147 30) → (vp_in x4 7 ∧ L_X12_descends_15 G d Q x1 x2 x3 (M.1 157 x4.toNatClampNeg) (x5 + 1) M)) ∧ (x4 = (M.1 147 30) → L_X12_descends_15 G d Q x1 x2 x3 (M.1 147 30) (x5 + 1) M))))) : L_X12_descends_15 G d Q x1 x2 x3 x4 x5 M := by
  unfold L_X12_descends_15
  refine tw_iload 5 d_X12_descends_15 rfl ?_
  refine tw_iload_n 1 d_X12_descends_17 rfl rfl ?_
  refine tw_icmp_ge 52 d_X12_descends_18 (by decide) (fun z1 => ?_) (fun z1 => ?_)
  · replace h := h.1 z1
    refine tw_iload_n 2 d_X12_descends_52 rfl rfl ?_
    refine tw_if_eq 69 d_X12_descends_53 (by decide) (fun z2 => ?_) (fun z2 => ?_)
    · replace h := h.1 z2
      refine tw_iconst d_X12_descends_69 k_0 ?_
      refine tw_istore_n [(2, .int 0), (0, .ref (G.b + 147)), (1, .int x1), (3, .int x3), (4, .int x4), (5, .int x5)] d_X12_descends_70 rfl (Nat.le_of_ble_eq_true rfl) rfl ?_
      refine tw_iinc 3 [(3, .int (x3 + 1)), (2, .int 0), (0, .ref (G.b + 147)), (1, .int x1), (4, .int x4), (5, .int x5)] d_X12_descends_71 rfl rfl (Nat.le_of_ble_eq_true rfl) rfl ?_
      refine tw_goto 4 d_X12_descends_74 (by decide) ?_
      exact tw_lv [2, 3, 1, 0] rfl h
    · replace h := h.2 z2
      refine tw_iload 4 d_X12_descends_56 rfl ?_
      refine tw_aload_n 0 d_X12_descends_58 rfl rfl ?_
      refine tw_getI f_X12_298 hL s_147 (Or.inl rfl) d_X12_descends_59 ?_
      refine tw_icmp_ne 69 d_X12_descends_62 (by decide) (fun z3 => ?_) (fun z3 => ?_)
      · replace h := h.1 z3
        refine tw_iconst d_X12_descends_69 k_0 ?_
        refine tw_istore_n [(2, .int 0), (0, .ref (G.b + 147)), (1, .int x1), (3, .int x3), (4, .int x4), (5, .int x5)] d_X12_descends_70 rfl (Nat.le_of_ble_eq_true rfl) rfl ?_
        refine tw_iinc 3 [(3, .int (x3 + 1)), (2, .int 0), (0, .ref (G.b + 147)), (1, .int x1), (4, .int x4), (5, .int x5)] d_X12_descends_71 rfl rfl (Nat.le_of_ble_eq_true rfl) rfl ?_
        refine tw_goto 4 d_X12_descends_74 (by decide) ?_
        exact tw_lv [2, 3, 1, 0] rfl h
      · replace h := h.2 z3
        refine tw_iconst d_X12_descends_65 k_1 ?_
        refine tw_goto 70 d_X12_descends_66 (by decide) ?_
        refine tw_istore_n [(2, .int 1), (0, .ref (G.b + 147)), (1, .int x1), (3, .int x3), (4, .int x4), (5, .int x5)] d_X12_descends_70 rfl (Nat.le_of_ble_eq_true rfl) rfl ?_
        refine tw_iinc 3 [(3, .int (x3 + 1)), (2, .int 1), (0, .ref (G.b + 147)), (1, .int x1), (4, .int x4), (5, .int x5)] d_X12_descends_71 rfl rfl (Nat.le_of_ble_eq_true rfl) rfl ?_
        refine tw_goto 4 d_X12_descends_74 (by decide) ?_
        exact tw_lv [2, 3, 1, 0] rfl h
  · replace h := h.2 z1
    refine tw_iload 4 d_X12_descends_21 rfl ?_
    refine tw_aload_n 0 d_X12_descends_23 rfl rfl ?_
    refine tw_getI f_X12_298 hL s_147 (Or.inl rfl) d_X12_descends_24 ?_
    refine tw_icmp_ne 37 d_X12_descends_27 (by decide) (fun z4 => ?_) (fun z4 => ?_)
    · replace h := h.1 z4
      refine tw_aload_n 0 d_X12_descends_37 rfl rfl ?_
      refine tw_getR f_X12_82 hL s_147 ⟨rfl, rfl⟩ (rr_X12_23 s_147) d_X12_descends_38 ?_
      refine tw_iload 4 d_X12_descends_41 rfl ?_
      refine tw_iald hL s_157 d_X12_descends_43 h.1 ?_
      replace h := h.2
      refine tw_istore [(4, .int (M.1 157 x4.toNatClampNeg)), (0, .ref (G.b + 147)), (1, .int x1), (2, .int x2), (3, .int x3), (5, .int x5)] d_X12_descends_44 (Nat.le_of_ble_eq_true rfl) rfl ?_
      refine tw_iinc 5 [(5, .int (x5 + 1)), (4, .int (M.1 157 x4.toNatClampNeg)), (0, .ref (G.b + 147)), (1, .int x1), (2, .int x2), (3, .int x3)] d_X12_descends_46 rfl rfl (Nat.le_of_ble_eq_true rfl) rfl ?_
      refine tw_goto 15 d_X12_descends_49 (by decide) ?_
      exact tw_lv [2, 3, 4, 5, 1, 0] rfl h
    · replace h := h.2 z4
      refine tw_aload_n 0 d_X12_descends_30 rfl rfl ?_
      refine tw_getI f_X12_298 hL s_147 (Or.inl rfl) d_X12_descends_31 ?_
      refine tw_goto 44 d_X12_descends_34 (by decide) ?_
      refine tw_istore [(4, .int (M.1 147 30)), (0, .ref (G.b + 147)), (1, .int x1), (2, .int x2), (3, .int x3), (5, .int x5)] d_X12_descends_44 (Nat.le_of_ble_eq_true rfl) rfl ?_
      refine tw_iinc 5 [(5, .int (x5 + 1)), (4, .int (M.1 147 30)), (0, .ref (G.b + 147)), (1, .int x1), (2, .int x2), (3, .int x3)] d_X12_descends_46 rfl rfl (Nat.le_of_ble_eq_true rfl) rfl ?_
      refine tw_goto 15 d_X12_descends_49 (by decide) ?_
      exact tw_lv [2, 3, 4, 5, 1, 0] rfl h
theorem b_X12_descends {G : MG} {d : Nat} {Q : Int32 → Mm → Prop} {x1 : Int32} {M : Mm} {c : Nat} (hL : Lay c M)  (h : L_X12_descends_4 G d Q x1 1 0 M) : C G Y_X12_descends (d + 1) [.ref (G.b + 147), .int x1] M (Ri Q) := by
  refine C.of (by decide) (Nat.le_of_ble_eq_true rfl) (lv := [(0, .ref (G.b + 147)), (1, .int x1)]) rfl ?_
  refine tw_iconst d_X12_descends_0 k_1 ?_
  refine tw_istore_n [(2, .int 1), (0, .ref (G.b + 147)), (1, .int x1)] d_X12_descends_1 rfl (Nat.le_of_ble_eq_true rfl) rfl ?_
  refine tw_iconst d_X12_descends_2 k_0 ?_
  refine tw_istore_n [(3, .int 0), (2, .int 1), (0, .ref (G.b + 147)), (1, .int x1)] d_X12_descends_3 rfl (Nat.le_of_ble_eq_true rfl) rfl ?_
  exact tw_lv [2, 3, 1, 0] rfl h

theorem d_X12_triesFrom_0 : decode Y_X12_triesFrom.cc 0 = .ok (.aload_n 0, 1) := by decide +kernel
theorem d_X12_triesFrom_1 : decode Y_X12_triesFrom.cc 1 = .ok (.getfield 72, 3) := by decide +kernel
theorem d_X12_triesFrom_4 : decode Y_X12_triesFrom.cc 4 = .ok (.iconst 0, 1) := by decide +kernel
theorem d_X12_triesFrom_5 : decode Y_X12_triesFrom.cc 5 = .ok (.iaload, 1) := by decide +kernel
theorem d_X12_triesFrom_6 : decode Y_X12_triesFrom.cc 6 = .ok (.istore_n 3, 1) := by decide +kernel
theorem d_X12_triesFrom_7 : decode Y_X12_triesFrom.cc 7 = .ok (.aload_n 0, 1) := by decide +kernel
theorem d_X12_triesFrom_8 : decode Y_X12_triesFrom.cc 8 = .ok (.getfield 301, 3) := by decide +kernel
theorem d_X12_triesFrom_11 : decode Y_X12_triesFrom.cc 11 = .ok (.ifCond .lt 12, 3) := by decide +kernel
theorem d_X12_triesFrom_14 : decode Y_X12_triesFrom.cc 14 = .ok (.iload_n 2, 1) := by decide +kernel
theorem d_X12_triesFrom_15 : decode Y_X12_triesFrom.cc 15 = .ok (.aload_n 0, 1) := by decide +kernel
theorem d_X12_triesFrom_16 : decode Y_X12_triesFrom.cc 16 = .ok (.getfield 301, 3) := by decide +kernel
theorem d_X12_triesFrom_19 : decode Y_X12_triesFrom.cc 19 = .ok (.if_icmp .lt 4, 3) := by decide +kernel
theorem d_X12_triesFrom_22 : decode Y_X12_triesFrom.cc 22 = .ok (.return_, 1) := by decide +kernel
theorem d_X12_triesFrom_23 : decode Y_X12_triesFrom.cc 23 = .ok (.iload_n 1, 1) := by decide +kernel
theorem d_X12_triesFrom_24 : decode Y_X12_triesFrom.cc 24 = .ok (.iload_n 3, 1) := by decide +kernel
theorem d_X12_triesFrom_25 : decode Y_X12_triesFrom.cc 25 = .ok (.if_icmp .ne 54, 3) := by decide +kernel
theorem d_X12_triesFrom_28 : decode Y_X12_triesFrom.cc 28 = .ok (.aload_n 0, 1) := by decide +kernel
theorem d_X12_triesFrom_29 : decode Y_X12_triesFrom.cc 29 = .ok (.iload_n 3, 1) := by decide +kernel
theorem d_X12_triesFrom_30 : decode Y_X12_triesFrom.cc 30 = .ok (.invokevirtual 304, 3) := by decide +kernel
theorem d_X12_triesFrom_33 : decode Y_X12_triesFrom.cc 33 = .ok (.ifCond .eq 45, 3) := by decide +kernel
theorem d_X12_triesFrom_36 : decode Y_X12_triesFrom.cc 36 = .ok (.aload_n 0, 1) := by decide +kernel
theorem d_X12_triesFrom_37 : decode Y_X12_triesFrom.cc 37 = .ok (.iload_n 2, 1) := by decide +kernel
theorem d_X12_triesFrom_38 : decode Y_X12_triesFrom.cc 38 = .ok (.putfield 301, 3) := by decide +kernel
theorem d_X12_triesFrom_41 : decode Y_X12_triesFrom.cc 41 = .ok (.aload_n 0, 1) := by decide +kernel
theorem d_X12_triesFrom_42 : decode Y_X12_triesFrom.cc 42 = .ok (.aload_n 0, 1) := by decide +kernel
theorem d_X12_triesFrom_43 : decode Y_X12_triesFrom.cc 43 = .ok (.getfield 298, 3) := by decide +kernel
theorem d_X12_triesFrom_46 : decode Y_X12_triesFrom.cc 46 = .ok (.putfield 307, 3) := by decide +kernel
theorem d_X12_triesFrom_49 : decode Y_X12_triesFrom.cc 49 = .ok (.iconst 0, 1) := by decide +kernel
theorem d_X12_triesFrom_50 : decode Y_X12_triesFrom.cc 50 = .ok (.istore 4, 2) := by decide +kernel
theorem d_X12_triesFrom_52 : decode Y_X12_triesFrom.cc 52 = .ok (.iload 4, 2) := by decide +kernel
theorem d_X12_triesFrom_54 : decode Y_X12_triesFrom.cc 54 = .ok (.iload_n 3, 1) := by decide +kernel
theorem d_X12_triesFrom_55 : decode Y_X12_triesFrom.cc 55 = .ok (.if_icmp .ge 23, 3) := by decide +kernel
theorem d_X12_triesFrom_58 : decode Y_X12_triesFrom.cc 58 = .ok (.aload_n 0, 1) := by decide +kernel
theorem d_X12_triesFrom_59 : decode Y_X12_triesFrom.cc 59 = .ok (.getfield 85, 3) := by decide +kernel
theorem d_X12_triesFrom_62 : decode Y_X12_triesFrom.cc 62 = .ok (.iload 4, 2) := by decide +kernel
theorem d_X12_triesFrom_64 : decode Y_X12_triesFrom.cc 64 = .ok (.aload_n 0, 1) := by decide +kernel
theorem d_X12_triesFrom_65 : decode Y_X12_triesFrom.cc 65 = .ok (.getfield 82, 3) := by decide +kernel
theorem d_X12_triesFrom_68 : decode Y_X12_triesFrom.cc 68 = .ok (.iload 4, 2) := by decide +kernel
theorem d_X12_triesFrom_70 : decode Y_X12_triesFrom.cc 70 = .ok (.iaload, 1) := by decide +kernel
theorem d_X12_triesFrom_71 : decode Y_X12_triesFrom.cc 71 = .ok (.iastore, 1) := by decide +kernel
theorem d_X12_triesFrom_72 : decode Y_X12_triesFrom.cc 72 = .ok (.iinc 4 1, 3) := by decide +kernel
theorem d_X12_triesFrom_75 : decode Y_X12_triesFrom.cc 75 = .ok (.goto (-23), 3) := by decide +kernel
theorem d_X12_triesFrom_78 : decode Y_X12_triesFrom.cc 78 = .ok (.return_, 1) := by decide +kernel
theorem d_X12_triesFrom_79 : decode Y_X12_triesFrom.cc 79 = .ok (.iconst 0, 1) := by decide +kernel
theorem d_X12_triesFrom_80 : decode Y_X12_triesFrom.cc 80 = .ok (.istore 4, 2) := by decide +kernel
theorem d_X12_triesFrom_82 : decode Y_X12_triesFrom.cc 82 = .ok (.iload 4, 2) := by decide +kernel
theorem d_X12_triesFrom_84 : decode Y_X12_triesFrom.cc 84 = .ok (.iload_n 3, 1) := by decide +kernel
theorem d_X12_triesFrom_85 : decode Y_X12_triesFrom.cc 85 = .ok (.if_icmp .ge 98, 3) := by decide +kernel
theorem d_X12_triesFrom_88 : decode Y_X12_triesFrom.cc 88 = .ok (.iload_n 1, 1) := by decide +kernel
theorem d_X12_triesFrom_89 : decode Y_X12_triesFrom.cc 89 = .ok (.aload_n 0, 1) := by decide +kernel
theorem d_X12_triesFrom_90 : decode Y_X12_triesFrom.cc 90 = .ok (.getfield 298, 3) := by decide +kernel
theorem d_X12_triesFrom_93 : decode Y_X12_triesFrom.cc 93 = .ok (.if_icmp .ne 20, 3) := by decide +kernel
theorem d_X12_triesFrom_96 : decode Y_X12_triesFrom.cc 96 = .ok (.iload 4, 2) := by decide +kernel
theorem d_X12_triesFrom_98 : decode Y_X12_triesFrom.cc 98 = .ok (.aload_n 0, 1) := by decide +kernel
theorem d_X12_triesFrom_99 : decode Y_X12_triesFrom.cc 99 = .ok (.getfield 298, 3) := by decide +kernel
theorem d_X12_triesFrom_102 : decode Y_X12_triesFrom.cc 102 = .ok (.if_icmp .ne 7, 3) := by decide +kernel
theorem d_X12_triesFrom_105 : decode Y_X12_triesFrom.cc 105 = .ok (.iconst 1, 1) := by decide +kernel
theorem d_X12_triesFrom_106 : decode Y_X12_triesFrom.cc 106 = .ok (.goto 28, 3) := by decide +kernel
theorem d_X12_triesFrom_109 : decode Y_X12_triesFrom.cc 109 = .ok (.iconst 0, 1) := by decide +kernel
theorem d_X12_triesFrom_110 : decode Y_X12_triesFrom.cc 110 = .ok (.goto 24, 3) := by decide +kernel
theorem d_X12_triesFrom_113 : decode Y_X12_triesFrom.cc 113 = .ok (.iload 4, 2) := by decide +kernel
theorem d_X12_triesFrom_115 : decode Y_X12_triesFrom.cc 115 = .ok (.iload_n 1, 1) := by decide +kernel
theorem d_X12_triesFrom_116 : decode Y_X12_triesFrom.cc 116 = .ok (.if_icmp .eq 17, 3) := by decide +kernel
theorem d_X12_triesFrom_119 : decode Y_X12_triesFrom.cc 119 = .ok (.aload_n 0, 1) := by decide +kernel
theorem d_X12_triesFrom_120 : decode Y_X12_triesFrom.cc 120 = .ok (.iload 4, 2) := by decide +kernel
theorem d_X12_triesFrom_122 : decode Y_X12_triesFrom.cc 122 = .ok (.iload_n 1, 1) := by decide +kernel
theorem d_X12_triesFrom_123 : decode Y_X12_triesFrom.cc 123 = .ok (.invokevirtual 310, 3) := by decide +kernel
theorem d_X12_triesFrom_126 : decode Y_X12_triesFrom.cc 126 = .ok (.ifCond .eq 7, 3) := by decide +kernel
theorem d_X12_triesFrom_129 : decode Y_X12_triesFrom.cc 129 = .ok (.iconst 1, 1) := by decide +kernel
theorem d_X12_triesFrom_130 : decode Y_X12_triesFrom.cc 130 = .ok (.goto 4, 3) := by decide +kernel
theorem d_X12_triesFrom_133 : decode Y_X12_triesFrom.cc 133 = .ok (.iconst 0, 1) := by decide +kernel
theorem d_X12_triesFrom_134 : decode Y_X12_triesFrom.cc 134 = .ok (.istore 5, 2) := by decide +kernel
theorem d_X12_triesFrom_136 : decode Y_X12_triesFrom.cc 136 = .ok (.iload 5, 2) := by decide +kernel
theorem d_X12_triesFrom_138 : decode Y_X12_triesFrom.cc 138 = .ok (.ifCond .eq 39, 3) := by decide +kernel
theorem d_X12_triesFrom_141 : decode Y_X12_triesFrom.cc 141 = .ok (.aload_n 0, 1) := by decide +kernel
theorem d_X12_triesFrom_142 : decode Y_X12_triesFrom.cc 142 = .ok (.getfield 82, 3) := by decide +kernel
theorem d_X12_triesFrom_145 : decode Y_X12_triesFrom.cc 145 = .ok (.iload_n 1, 1) := by decide +kernel
theorem d_X12_triesFrom_146 : decode Y_X12_triesFrom.cc 146 = .ok (.iload 4, 2) := by decide +kernel
theorem d_X12_triesFrom_148 : decode Y_X12_triesFrom.cc 148 = .ok (.iastore, 1) := by decide +kernel
theorem d_X12_triesFrom_149 : decode Y_X12_triesFrom.cc 149 = .ok (.aload_n 0, 1) := by decide +kernel
theorem d_X12_triesFrom_150 : decode Y_X12_triesFrom.cc 150 = .ok (.iload_n 1, 1) := by decide +kernel
theorem d_X12_triesFrom_151 : decode Y_X12_triesFrom.cc 151 = .ok (.iconst 1, 1) := by decide +kernel
theorem d_X12_triesFrom_152 : decode Y_X12_triesFrom.cc 152 = .ok (.iadd, 1) := by decide +kernel
theorem d_X12_triesFrom_153 : decode Y_X12_triesFrom.cc 153 = .ok (.iload_n 2, 1) := by decide +kernel
theorem d_X12_triesFrom_154 : decode Y_X12_triesFrom.cc 154 = .ok (.iload_n 1, 1) := by decide +kernel
theorem d_X12_triesFrom_155 : decode Y_X12_triesFrom.cc 155 = .ok (.aload_n 0, 1) := by decide +kernel
theorem d_X12_triesFrom_156 : decode Y_X12_triesFrom.cc 156 = .ok (.getfield 298, 3) := by decide +kernel
theorem d_X12_triesFrom_159 : decode Y_X12_triesFrom.cc 159 = .ok (.if_icmp .ne 7, 3) := by decide +kernel
theorem d_X12_triesFrom_162 : decode Y_X12_triesFrom.cc 162 = .ok (.iconst 0, 1) := by decide +kernel
theorem d_X12_triesFrom_163 : decode Y_X12_triesFrom.cc 163 = .ok (.goto 10, 3) := by decide +kernel
theorem d_X12_triesFrom_166 : decode Y_X12_triesFrom.cc 166 = .ok (.aload_n 0, 1) := by decide +kernel
theorem d_X12_triesFrom_167 : decode Y_X12_triesFrom.cc 167 = .ok (.iload 4, 2) := by decide +kernel
theorem d_X12_triesFrom_169 : decode Y_X12_triesFrom.cc 169 = .ok (.iload_n 1, 1) := by decide +kernel
theorem d_X12_triesFrom_170 : decode Y_X12_triesFrom.cc 170 = .ok (.invokevirtual 313, 3) := by decide +kernel
theorem d_X12_triesFrom_173 : decode Y_X12_triesFrom.cc 173 = .ok (.iadd, 1) := by decide +kernel
theorem d_X12_triesFrom_174 : decode Y_X12_triesFrom.cc 174 = .ok (.invokevirtual 316, 3) := by decide +kernel
theorem d_X12_triesFrom_177 : decode Y_X12_triesFrom.cc 177 = .ok (.iinc 4 1, 3) := by decide +kernel
theorem d_X12_triesFrom_180 : decode Y_X12_triesFrom.cc 180 = .ok (.goto (-98), 3) := by decide +kernel
theorem d_X12_triesFrom_183 : decode Y_X12_triesFrom.cc 183 = .ok (.return_, 1) := by decide +kernel
def L_X12_triesFrom_23 (G : MG) (d : Nat) (Q : Mm → Prop) (x1 : Int32) (x2 : Int32) (x3 : Int32) (M : Mm) : Prop := T G Y_X12_triesFrom (d + 1) (Rv Q) 0 0 23 [(0, .ref (G.b + 147)), (1, .int x1), (2, .int x2), (3, .int x3)] [] M
def L_X12_triesFrom_52 (G : MG) (d : Nat) (Q : Mm → Prop) (x3 : Int32) (x4 : Int32) (M : Mm) : Prop := T G Y_X12_triesFrom (d + 1) (Rv Q) 0 0 52 [(0, .ref (G.b + 147)), (3, .int x3), (4, .int x4)] [] M
def L_X12_triesFrom_82 (G : MG) (d : Nat) (Q : Mm → Prop) (x1 : Int32) (x2 : Int32) (x3 : Int32) (x4 : Int32) (M : Mm) : Prop := T G Y_X12_triesFrom (d + 1) (Rv Q) 0 0 82 [(0, .ref (G.b + 147)), (1, .int x1), (2, .int x2), (3, .int x3), (4, .int x4)] [] M
def L_X12_triesFrom_134 (G : MG) (d : Nat) (Q : Mm → Prop) (x1 : Int32) (x2 : Int32) (x3 : Int32) (x4 : Int32) (sx0 : Int32) (M : Mm) : Prop := T G Y_X12_triesFrom (d + 1) (Rv Q) 0 0 134 [(0, .ref (G.b + 147)), (1, .int x1), (2, .int x2), (3, .int x3), (4, .int x4)] [.int sx0] M
theorem b_X12_triesFrom_23 {G : MG} {d : Nat} {Q : Mm → Prop} {x1 : Int32} {x2 : Int32} {x3 : Int32} {M : Mm} {c : Nat} (hL : Lay c M)  (h : ((¬ x1 = x3 → L_X12_triesFrom_82 G d Q x1 x2 x3 0 M) ∧ (x1 = x3 → (C G Y_X12_descends d [.ref (G.b + 147), .int x3] M (Ri fun r3 M2 => M2.2.2 = M.2.2 ∧ ((r3 = 0 → Q M2) ∧ (¬ r3 = 0 → (∀ M5 : Mm, M5 = sI M2 147 29 x2 → (∀ M6 : Mm, M6 = sI M5 147 31 (M5.1 147 30) → L_X12_triesFrom_52 G d Q x3 0 M6))))))))) : L_X12_triesFrom_23 G d Q x1 x2 x3 M := by
  unfold L_X12_triesFrom_23
  refine tw_iload_n 1 d_X12_triesFrom_23 rfl rfl ?_
  refine tw_iload_n 3 d_X12_triesFrom_24 rfl rfl ?_
  refine tw_icmp_ne 79 d_X12_triesFrom_25 (by decide) (fun z1 => ?_) (fun z1 => ?_)
  · replace h := h.1 z1
    refine tw_iconst d_X12_triesFrom_79 k_0 ?_
    refine tw_istore [(4, .int 0), (0, .ref (G.b + 147)), (1, .int x1), (2, .int x2), (3, .int x3)] d_X12_triesFrom_80 (Nat.le_of_ble_eq_true rfl) rfl ?_
    exact tw_lv [1, 2, 3, 4, 0] rfl h
  · replace h := h.2 z1
    refine tw_aload_n 0 d_X12_triesFrom_28 rfl rfl ?_
    refine tw_iload_n 3 d_X12_triesFrom_29 rfl rfl ?_
    refine tu_cVi (As := [.int x3]) cv_X12_304 hL s_147 rfl (Nat.le_of_ble_eq_true rfl) ⟨Nat.zero_le _, Nat.zero_le _⟩ d_X12_triesFrom_30 h (fun r3 M2 h => ?_)
    have hL_M2 : Lay c M2 := hL.to h.1
    replace h := h.2
    refine tw_if_eq 78 d_X12_triesFrom_33 (by decide) (fun z4 => ?_) (fun z4 => ?_)
    · replace h := h.1 z4
      exact tw_vret rfl ⟨Nat.zero_le _, Nat.zero_le _⟩ d_X12_triesFrom_78 h
    · replace h := h.2 z4
      refine tw_aload_n 0 d_X12_triesFrom_36 rfl rfl ?_
      refine tw_iload_n 2 d_X12_triesFrom_37 rfl rfl ?_
      refine tu_putI f_X12_301 hL_M2 s_147 rfl rfl d_X12_triesFrom_38 (fun M5 e_M5 hL_M5 => ?_)
      replace h := h M5 e_M5
      refine tw_aload_n 0 d_X12_triesFrom_41 rfl rfl ?_
      refine tw_aload_n 0 d_X12_triesFrom_42 rfl rfl ?_
      refine tw_getI f_X12_298 hL_M5 s_147 (Or.inl rfl) d_X12_triesFrom_43 ?_
      refine tu_putI f_X12_307 hL_M5 s_147 rfl rfl d_X12_triesFrom_46 (fun M6 e_M6 hL_M6 => ?_)
      replace h := h M6 e_M6
      refine tw_iconst d_X12_triesFrom_49 k_0 ?_
      refine tw_istore [(4, .int 0), (0, .ref (G.b + 147)), (1, .int x1), (2, .int x2), (3, .int x3)] d_X12_triesFrom_50 (Nat.le_of_ble_eq_true rfl) rfl ?_
      exact tw_lv [1, 4, 0] rfl h
theorem b_X12_triesFrom_52 {G : MG} {d : Nat} {Q : Mm → Prop} {x3 : Int32} {x4 : Int32} {M : Mm} {c : Nat} (hL : Lay c M)  (h : ((x3 ≤ x4 → Q M) ∧ (¬ x3 ≤ x4 → (vp_in x4 7 ∧ (vp_in x4 7 ∧ ∀ M2 : Mm, M2 = sI M 158 x4.toNatClampNeg (M.1 157 x4.toNatClampNeg) → L_X12_triesFrom_52 G d Q x3 (x4 + 1) M2))))) : L_X12_triesFrom_52 G d Q x3 x4 M := by
  unfold L_X12_triesFrom_52
  refine tw_iload 2 d_X12_triesFrom_52 rfl ?_
  refine tw_iload_n 1 d_X12_triesFrom_54 rfl rfl ?_
  refine tw_icmp_ge 78 d_X12_triesFrom_55 (by decide) (fun z1 => ?_) (fun z1 => ?_)
  · replace h := h.1 z1
    exact tw_vret rfl ⟨Nat.zero_le _, Nat.zero_le _⟩ d_X12_triesFrom_78 h
  · replace h := h.2 z1
    refine tw_aload_n 0 d_X12_triesFrom_58 rfl rfl ?_
    refine tw_getR f_X12_85 hL s_147 ⟨rfl, rfl⟩ (rr_X12_24 s_147) d_X12_triesFrom_59 ?_
    refine tw_iload 2 d_X12_triesFrom_62 rfl ?_
    refine tw_aload_n 0 d_X12_triesFrom_64 rfl rfl ?_
    refine tw_getR f_X12_82 hL s_147 ⟨rfl, rfl⟩ (rr_X12_23 s_147) d_X12_triesFrom_65 ?_
    refine tw_iload 2 d_X12_triesFrom_68 rfl ?_
    refine tw_iald hL s_157 d_X12_triesFrom_70 h.1 ?_
    replace h := h.2
    refine tu_iast hL s_158 d_X12_triesFrom_71 h.1 (fun M2 e_M2 hL_M2 => ?_)
    replace h := h.2 M2 e_M2
    refine tw_iinc 2 [(4, .int (x4 + 1)), (0, .ref (G.b + 147)), (3, .int x3)] d_X12_triesFrom_72 rfl rfl (Nat.le_of_ble_eq_true rfl) rfl ?_
    refine tw_goto 52 d_X12_triesFrom_75 (by decide) ?_
    exact tw_lv [1, 2, 0] rfl h
theorem b_X12_triesFrom_82 {G : MG} {d : Nat} {Q : Mm → Prop} {x1 : Int32} {x2 : Int32} {x3 : Int32} {x4 : Int32} {M : Mm} {c : Nat} (hL : Lay c M)  (h : ((x3 ≤ x4 → Q M) ∧ (¬ x3 ≤ x4 → ((¬ x1 = (M.1 147 30) → ((x4 = x1 → L_X12_triesFrom_134 G d Q x1 x2 x3 x4 0 M) ∧ (¬ x4 = x1 → (C G Y_X12_canCopy d [.ref (G.b + 147), .int x4, .int x1] M (Ri fun r5 M4 => M4.2.2 = M.2.2 ∧ ((r5 = 0 → L_X12_triesFrom_134 G d Q x1 x2 x3 x4 0 M4) ∧ (¬ r5 = 0 → L_X12_triesFrom_134 G d Q x1 x2 x3 x4 1 M4))))))) ∧ (x1 = (M.1 147 30) → ((¬ x4 = (M.1 147 30) → L_X12_triesFrom_134 G d Q x1 x2 x3 x4 0 M) ∧ (x4 = (M.1 147 30) → L_X12_triesFrom_134 G d Q x1 x2 x3 x4 1 M))))))) : L_X12_triesFrom_82 G d Q x1 x2 x3 x4 M := by
  unfold L_X12_triesFrom_82
  refine tw_iload 4 d_X12_triesFrom_82 rfl ?_
  refine tw_iload_n 3 d_X12_triesFrom_84 rfl rfl ?_
  refine tw_icmp_ge 183 d_X12_triesFrom_85 (by decide) (fun z1 => ?_) (fun z1 => ?_)
  · replace h := h.1 z1
    exact tw_vret rfl ⟨Nat.zero_le _, Nat.zero_le _⟩ d_X12_triesFrom_183 h
  · replace h := h.2 z1
    refine tw_iload_n 1 d_X12_triesFrom_88 rfl rfl ?_
    refine tw_aload_n 0 d_X12_triesFrom_89 rfl rfl ?_
    refine tw_getI f_X12_298 hL s_147 (Or.inl rfl) d_X12_triesFrom_90 ?_
    refine tw_icmp_ne 113 d_X12_triesFrom_93 (by decide) (fun z2 => ?_) (fun z2 => ?_)
    · replace h := h.1 z2
      refine tw_iload 4 d_X12_triesFrom_113 rfl ?_
      refine tw_iload_n 1 d_X12_triesFrom_115 rfl rfl ?_
      refine tw_icmp_eq 133 d_X12_triesFrom_116 (by decide) (fun z3 => ?_) (fun z3 => ?_)
      · replace h := h.1 z3
        refine tw_iconst d_X12_triesFrom_133 k_0 ?_
        exact tw_lv [0, 1, 2, 3, 4] rfl h
      · replace h := h.2 z3
        refine tw_aload_n 0 d_X12_triesFrom_119 rfl rfl ?_
        refine tw_iload 4 d_X12_triesFrom_120 rfl ?_
        refine tw_iload_n 1 d_X12_triesFrom_122 rfl rfl ?_
        refine tu_cVi (As := [.int x4, .int x1]) cv_X12_310 hL s_147 rfl (Nat.le_of_ble_eq_true rfl) ⟨Nat.zero_le _, Nat.zero_le _⟩ d_X12_triesFrom_123 h (fun r5 M4 h => ?_)
        have hL_M4 : Lay c M4 := hL.to h.1
        replace h := h.2
        refine tw_if_eq 133 d_X12_triesFrom_126 (by decide) (fun z6 => ?_) (fun z6 => ?_)
        · replace h := h.1 z6
          refine tw_iconst d_X12_triesFrom_133 k_0 ?_
          exact tw_lv [0, 1, 2, 3, 4] rfl h
        · replace h := h.2 z6
          refine tw_iconst d_X12_triesFrom_129 k_1 ?_
          refine tw_goto 134 d_X12_triesFrom_130 (by decide) ?_
          exact tw_lv [0, 1, 2, 3, 4] rfl h
    · replace h := h.2 z2
      refine tw_iload 4 d_X12_triesFrom_96 rfl ?_
      refine tw_aload_n 0 d_X12_triesFrom_98 rfl rfl ?_
      refine tw_getI f_X12_298 hL s_147 (Or.inl rfl) d_X12_triesFrom_99 ?_
      refine tw_icmp_ne 109 d_X12_triesFrom_102 (by decide) (fun z7 => ?_) (fun z7 => ?_)
      · replace h := h.1 z7
        refine tw_iconst d_X12_triesFrom_109 k_0 ?_
        refine tw_goto 134 d_X12_triesFrom_110 (by decide) ?_
        exact tw_lv [0, 1, 2, 3, 4] rfl h
      · replace h := h.2 z7
        refine tw_iconst d_X12_triesFrom_105 k_1 ?_
        refine tw_goto 134 d_X12_triesFrom_106 (by decide) ?_
        exact tw_lv [0, 1, 2, 3, 4] rfl h
theorem b_X12_triesFrom_134 {G : MG} {d : Nat} {Q : Mm → Prop} {x1 : Int32} {x2 : Int32} {x3 : Int32} {x4 : Int32} {sx0 : Int32} {M : Mm} {c : Nat} (hL : Lay c M)  (h : ((sx0 = 0 → L_X12_triesFrom_82 G d Q x1 x2 x3 (x4 + 1) M) ∧ (¬ sx0 = 0 → (vp_in x1 7 ∧ ∀ M2 : Mm, M2 = sI M 157 x1.toNatClampNeg x4 → ((¬ x1 = (M2.1 147 30) → (C G Y_X12_unlike d [.ref (G.b + 147), .int x4, .int x1] M2 (Ri fun r5 M4 => M4.2.2 = M2.2.2 ∧ (C G Y_X12_triesFrom d [.ref (G.b + 147), .int (x1 + 1), .int (x2 + r5)] M4 (Rv fun M6 => M6.2.2 = M4.2.2 ∧ L_X12_triesFrom_82 G d Q x1 x2 x3 (x4 + 1) M6))))) ∧ (x1 = (M2.1 147 30) → (C G Y_X12_triesFrom d [.ref (G.b + 147), .int (x1 + 1), .int (x2 + 0)] M2 (Rv fun M7 => M7.2.2 = M2.2.2 ∧ L_X12_triesFrom_82 G d Q x1 x2 x3 (x4 + 1) M7)))))))) : L_X12_triesFrom_134 G d Q x1 x2 x3 x4 sx0 M := by
  unfold L_X12_triesFrom_134
  refine tw_istore [(5, .int sx0), (0, .ref (G.b + 147)), (1, .int x1), (2, .int x2), (3, .int x3), (4, .int x4)] d_X12_triesFrom_134 (Nat.le_of_ble_eq_true rfl) rfl ?_
  refine tw_iload 0 d_X12_triesFrom_136 rfl ?_
  refine tw_if_eq 177 d_X12_triesFrom_138 (by decide) (fun z1 => ?_) (fun z1 => ?_)
  · replace h := h.1 z1
    refine tw_iinc 5 [(4, .int (x4 + 1)), (5, .int sx0), (0, .ref (G.b + 147)), (1, .int x1), (2, .int x2), (3, .int x3)] d_X12_triesFrom_177 rfl rfl (Nat.le_of_ble_eq_true rfl) rfl ?_
    refine tw_goto 82 d_X12_triesFrom_180 (by decide) ?_
    exact tw_lv [2, 3, 4, 5, 0] rfl h
  · replace h := h.2 z1
    refine tw_aload_n 1 d_X12_triesFrom_141 rfl rfl ?_
    refine tw_getR f_X12_82 hL s_147 ⟨rfl, rfl⟩ (rr_X12_23 s_147) d_X12_triesFrom_142 ?_
    refine tw_iload_n 2 d_X12_triesFrom_145 rfl rfl ?_
    refine tw_iload 5 d_X12_triesFrom_146 rfl ?_
    refine tu_iast hL s_157 d_X12_triesFrom_148 h.1 (fun M2 e_M2 hL_M2 => ?_)
    replace h := h.2 M2 e_M2
    refine tw_aload_n 1 d_X12_triesFrom_149 rfl rfl ?_
    refine tw_iload_n 2 d_X12_triesFrom_150 rfl rfl ?_
    refine tw_iconst d_X12_triesFrom_151 k_1 ?_
    refine tw_iadd d_X12_triesFrom_152 ?_
    refine tw_iload_n 3 d_X12_triesFrom_153 rfl rfl ?_
    refine tw_iload_n 2 d_X12_triesFrom_154 rfl rfl ?_
    refine tw_aload_n 1 d_X12_triesFrom_155 rfl rfl ?_
    refine tw_getI f_X12_298 hL_M2 s_147 (Or.inl rfl) d_X12_triesFrom_156 ?_
    refine tw_icmp_ne 166 d_X12_triesFrom_159 (by decide) (fun z3 => ?_) (fun z3 => ?_)
    · replace h := h.1 z3
      refine tw_aload_n 1 d_X12_triesFrom_166 rfl rfl ?_
      refine tw_iload 5 d_X12_triesFrom_167 rfl ?_
      refine tw_iload_n 2 d_X12_triesFrom_169 rfl rfl ?_
      refine tu_cVi (As := [.int x4, .int x1]) cv_X12_313 hL_M2 s_147 rfl (Nat.le_of_ble_eq_true rfl) ⟨Nat.zero_le _, Nat.zero_le _⟩ d_X12_triesFrom_170 h (fun r5 M4 h => ?_)
      have hL_M4 : Lay c M4 := hL_M2.to h.1
      replace h := h.2
      refine tw_iadd d_X12_triesFrom_173 ?_
      refine tu_cVv (As := [.int (x1 + 1), .int (x2 + r5)]) cv_X12_316 hL_M4 s_147 rfl (Nat.le_of_ble_eq_true rfl) ⟨Nat.zero_le _, Nat.zero_le _⟩ d_X12_triesFrom_174 h (fun M6 h => ?_)
      have hL_M6 : Lay c M6 := hL_M4.to h.1
      replace h := h.2
      refine tw_iinc 5 [(4, .int (x4 + 1)), (5, .int sx0), (0, .ref (G.b + 147)), (1, .int x1), (2, .int x2), (3, .int x3)] d_X12_triesFrom_177 rfl rfl (Nat.le_of_ble_eq_true rfl) rfl ?_
      refine tw_goto 82 d_X12_triesFrom_180 (by decide) ?_
      exact tw_lv [2, 3, 4, 5, 0] rfl h
    · replace h := h.2 z3
      refine tw_iconst d_X12_triesFrom_162 k_0 ?_
      refine tw_goto 173 d_X12_triesFrom_163 (by decide) ?_
      refine tw_iadd d_X12_triesFrom_173 ?_
      refine tu_cVv (As := [.int (x1 + 1), .int (x2 + 0)]) cv_X12_316 hL_M2 s_147 rfl (Nat.le_of_ble_eq_true rfl) ⟨Nat.zero_le _, Nat.zero_le _⟩ d_X12_triesFrom_174 h (fun M7 h => ?_)
      have hL_M7 : Lay c M7 := hL_M2.to h.1
      replace h := h.2
      refine tw_iinc 5 [(4, .int (x4 + 1)), (5, .int sx0), (0, .ref (G.b + 147)), (1, .int x1), (2, .int x2), (3, .int x3)] d_X12_triesFrom_177 rfl rfl (Nat.le_of_ble_eq_true rfl) rfl ?_
      refine tw_goto 82 d_X12_triesFrom_180 (by decide) ?_
      exact tw_lv [2, 3, 4, 5, 0] rfl h
theorem b_X12_triesFrom {G : MG} {d : Nat} {Q : Mm → Prop} {x1 : Int32} {x2 : Int32} {M : Mm} {c : Nat} (hL : Lay c M)  (h : (((M.1 147 29) < 0 → L_X12_triesFrom_23 G d Q x1 x2 (M.1 154 (Int32.toNatClampNeg 0)) M) ∧ (¬ (M.1 147 29) < 0 → ((x2 < (M.1 147 29) → L_X12_triesFrom_23 G d Q x1 x2 (M.1 154 (Int32.toNatClampNeg 0)) M) ∧ (¬ x2 < (M.1 147 29) → Q M))))) : C G Y_X12_triesFrom (d + 1) [.ref (G.b + 147), .int x1, .int x2] M (Rv Q) := by
  refine C.of (by decide) (Nat.le_of_ble_eq_true rfl) (lv := [(0, .ref (G.b + 147)), (1, .int x1), (2, .int x2)]) rfl ?_
  refine tw_aload_n 0 d_X12_triesFrom_0 rfl rfl ?_
  refine tw_getR f_X12_72 hL s_147 ⟨rfl, rfl⟩ (rr_X12_11 s_147) d_X12_triesFrom_1 ?_
  refine tw_iconst d_X12_triesFrom_4 k_0 ?_
  refine tw_iald hL s_154 d_X12_triesFrom_5 (by unfold vp_in; decide) ?_
  refine tw_istore_n [(3, .int (M.1 154 (Int32.toNatClampNeg 0))), (0, .ref (G.b + 147)), (1, .int x1), (2, .int x2)] d_X12_triesFrom_6 rfl (Nat.le_of_ble_eq_true rfl) rfl ?_
  refine tw_aload_n 1 d_X12_triesFrom_7 rfl rfl ?_
  refine tw_getI f_X12_301 hL s_147 (Or.inl rfl) d_X12_triesFrom_8 ?_
  refine tw_if_lt 23 d_X12_triesFrom_11 (by decide) (fun z1 => ?_) (fun z1 => ?_)
  · replace h := h.1 z1
    exact tw_lv [1, 2, 3, 0] rfl h
  · replace h := h.2 z1
    refine tw_iload_n 3 d_X12_triesFrom_14 rfl rfl ?_
    refine tw_aload_n 1 d_X12_triesFrom_15 rfl rfl ?_
    refine tw_getI f_X12_301 hL s_147 (Or.inl rfl) d_X12_triesFrom_16 ?_
    refine tw_icmp_lt 23 d_X12_triesFrom_19 (by decide) (fun z2 => ?_) (fun z2 => ?_)
    · replace h := h.1 z2
      exact tw_lv [1, 2, 3, 0] rfl h
    · replace h := h.2 z2
      exact tw_vret rfl ⟨Nat.zero_le _, Nat.zero_le _⟩ d_X12_triesFrom_22 h

theorem d_X12_descent_0 : decode Y_X12_descent.cc 0 = .ok (.aload_n 0, 1) := by decide +kernel
theorem d_X12_descent_1 : decode Y_X12_descent.cc 1 = .ok (.iconst 0, 1) := by decide +kernel
theorem d_X12_descent_2 : decode Y_X12_descent.cc 2 = .ok (.putfield 1, 3) := by decide +kernel
theorem d_X12_descent_5 : decode Y_X12_descent.cc 5 = .ok (.iload_n 1, 1) := by decide +kernel
theorem d_X12_descent_6 : decode Y_X12_descent.cc 6 = .ok (.iconst 0, 1) := by decide +kernel
theorem d_X12_descent_7 : decode Y_X12_descent.cc 7 = .ok (.iconst 1, 1) := by decide +kernel
theorem d_X12_descent_8 : decode Y_X12_descent.cc 8 = .ok (.aload_n 0, 1) := by decide +kernel
theorem d_X12_descent_9 : decode Y_X12_descent.cc 9 = .ok (.getfield 72, 3) := by decide +kernel
theorem d_X12_descent_12 : decode Y_X12_descent.cc 12 = .ok (.iconst 0, 1) := by decide +kernel
theorem d_X12_descent_13 : decode Y_X12_descent.cc 13 = .ok (.iaload, 1) := by decide +kernel
theorem d_X12_descent_14 : decode Y_X12_descent.cc 14 = .ok (.iadd, 1) := by decide +kernel
theorem d_X12_descent_15 : decode Y_X12_descent.cc 15 = .ok (.invokestatic 196, 3) := by decide +kernel
theorem d_X12_descent_18 : decode Y_X12_descent.cc 18 = .ok (.ifCond .eq 12, 3) := by decide +kernel
theorem d_X12_descent_21 : decode Y_X12_descent.cc 21 = .ok (.aload_n 0, 1) := by decide +kernel
theorem d_X12_descent_22 : decode Y_X12_descent.cc 22 = .ok (.getfield 72, 3) := by decide +kernel
theorem d_X12_descent_25 : decode Y_X12_descent.cc 25 = .ok (.iconst 0, 1) := by decide +kernel
theorem d_X12_descent_26 : decode Y_X12_descent.cc 26 = .ok (.iaload, 1) := by decide +kernel
theorem d_X12_descent_27 : decode Y_X12_descent.cc 27 = .ok (.ifCond .ne 5, 3) := by decide +kernel
theorem d_X12_descent_30 : decode Y_X12_descent.cc 30 = .ok (.iconst (-1), 1) := by decide +kernel
theorem d_X12_descent_31 : decode Y_X12_descent.cc 31 = .ok (.ireturn, 1) := by decide +kernel
theorem d_X12_descent_32 : decode Y_X12_descent.cc 32 = .ok (.aload_n 0, 1) := by decide +kernel
theorem d_X12_descent_33 : decode Y_X12_descent.cc 33 = .ok (.iconst (-1), 1) := by decide +kernel
theorem d_X12_descent_34 : decode Y_X12_descent.cc 34 = .ok (.putfield 301, 3) := by decide +kernel
theorem d_X12_descent_37 : decode Y_X12_descent.cc 37 = .ok (.iconst 0, 1) := by decide +kernel
theorem d_X12_descent_38 : decode Y_X12_descent.cc 38 = .ok (.istore_n 2, 1) := by decide +kernel
theorem d_X12_descent_39 : decode Y_X12_descent.cc 39 = .ok (.iload_n 2, 1) := by decide +kernel
theorem d_X12_descent_40 : decode Y_X12_descent.cc 40 = .ok (.aload_n 0, 1) := by decide +kernel
theorem d_X12_descent_41 : decode Y_X12_descent.cc 41 = .ok (.getfield 72, 3) := by decide +kernel
theorem d_X12_descent_44 : decode Y_X12_descent.cc 44 = .ok (.iconst 0, 1) := by decide +kernel
theorem d_X12_descent_45 : decode Y_X12_descent.cc 45 = .ok (.iaload, 1) := by decide +kernel
theorem d_X12_descent_46 : decode Y_X12_descent.cc 46 = .ok (.if_icmp .ge 20, 3) := by decide +kernel
theorem d_X12_descent_49 : decode Y_X12_descent.cc 49 = .ok (.aload_n 0, 1) := by decide +kernel
theorem d_X12_descent_50 : decode Y_X12_descent.cc 50 = .ok (.iload_n 2, 1) := by decide +kernel
theorem d_X12_descent_51 : decode Y_X12_descent.cc 51 = .ok (.putfield 298, 3) := by decide +kernel
theorem d_X12_descent_54 : decode Y_X12_descent.cc 54 = .ok (.aload_n 0, 1) := by decide +kernel
theorem d_X12_descent_55 : decode Y_X12_descent.cc 55 = .ok (.iconst 0, 1) := by decide +kernel
theorem d_X12_descent_56 : decode Y_X12_descent.cc 56 = .ok (.iconst 0, 1) := by decide +kernel
theorem d_X12_descent_57 : decode Y_X12_descent.cc 57 = .ok (.invokevirtual 316, 3) := by decide +kernel
theorem d_X12_descent_60 : decode Y_X12_descent.cc 60 = .ok (.iinc 2 1, 3) := by decide +kernel
theorem d_X12_descent_63 : decode Y_X12_descent.cc 63 = .ok (.goto (-24), 3) := by decide +kernel
theorem d_X12_descent_66 : decode Y_X12_descent.cc 66 = .ok (.aload_n 0, 1) := by decide +kernel
theorem d_X12_descent_67 : decode Y_X12_descent.cc 67 = .ok (.getfield 301, 3) := by decide +kernel
theorem d_X12_descent_70 : decode Y_X12_descent.cc 70 = .ok (.ifCond .ge 7, 3) := by decide +kernel
theorem d_X12_descent_73 : decode Y_X12_descent.cc 73 = .ok (.iconst (-1), 1) := by decide +kernel
theorem d_X12_descent_74 : decode Y_X12_descent.cc 74 = .ok (.goto 34, 3) := by decide +kernel
theorem d_X12_descent_77 : decode Y_X12_descent.cc 77 = .ok (.iload_n 1, 1) := by decide +kernel
theorem d_X12_descent_78 : decode Y_X12_descent.cc 78 = .ok (.ifCond .ne 10, 3) := by decide +kernel
theorem d_X12_descent_81 : decode Y_X12_descent.cc 81 = .ok (.aload_n 0, 1) := by decide +kernel
theorem d_X12_descent_82 : decode Y_X12_descent.cc 82 = .ok (.getfield 301, 3) := by decide +kernel
theorem d_X12_descent_85 : decode Y_X12_descent.cc 85 = .ok (.goto 23, 3) := by decide +kernel
theorem d_X12_descent_88 : decode Y_X12_descent.cc 88 = .ok (.iload_n 1, 1) := by decide +kernel
theorem d_X12_descent_89 : decode Y_X12_descent.cc 89 = .ok (.iconst 1, 1) := by decide +kernel
theorem d_X12_descent_90 : decode Y_X12_descent.cc 90 = .ok (.if_icmp .ne 10, 3) := by decide +kernel
theorem d_X12_descent_93 : decode Y_X12_descent.cc 93 = .ok (.aload_n 0, 1) := by decide +kernel
theorem d_X12_descent_94 : decode Y_X12_descent.cc 94 = .ok (.getfield 307, 3) := by decide +kernel
theorem d_X12_descent_97 : decode Y_X12_descent.cc 97 = .ok (.goto 11, 3) := by decide +kernel
theorem d_X12_descent_100 : decode Y_X12_descent.cc 100 = .ok (.aload_n 0, 1) := by decide +kernel
theorem d_X12_descent_101 : decode Y_X12_descent.cc 101 = .ok (.getfield 85, 3) := by decide +kernel
theorem d_X12_descent_104 : decode Y_X12_descent.cc 104 = .ok (.iload_n 1, 1) := by decide +kernel
theorem d_X12_descent_105 : decode Y_X12_descent.cc 105 = .ok (.iconst 2, 1) := by decide +kernel
theorem d_X12_descent_106 : decode Y_X12_descent.cc 106 = .ok (.isub, 1) := by decide +kernel
theorem d_X12_descent_107 : decode Y_X12_descent.cc 107 = .ok (.iaload, 1) := by decide +kernel
theorem d_X12_descent_108 : decode Y_X12_descent.cc 108 = .ok (.ireturn, 1) := by decide +kernel
def L_X12_descent_39 (G : MG) (d : Nat) (Q : Int32 → Mm → Prop) (x1 : Int32) (x2 : Int32) (M : Mm) : Prop := T G Y_X12_descent (d + 1) (Ri Q) 0 0 39 [(0, .ref (G.b + 147)), (1, .int x1), (2, .int x2)] [] M
theorem b_X12_descent_39 {G : MG} {d : Nat} {Q : Int32 → Mm → Prop} {x1 : Int32} {x2 : Int32} {M : Mm} {c : Nat} (hL : Lay c M)  (h : (((M.1 154 (Int32.toNatClampNeg 0)) ≤ x2 → ((0 ≤ (M.1 147 29) → ((¬ x1 = 0 → ((¬ x1 = 1 → (vp_in (x1 - 2) 7 ∧ Q (M.1 158 (x1 - 2).toNatClampNeg) M)) ∧ (x1 = 1 → Q (M.1 147 31) M))) ∧ (x1 = 0 → Q (M.1 147 29) M))) ∧ (¬ 0 ≤ (M.1 147 29) → Q (-1) M))) ∧ (¬ (M.1 154 (Int32.toNatClampNeg 0)) ≤ x2 → (∀ M5 : Mm, M5 = sI M 147 30 x2 → (C G Y_X12_triesFrom d [.ref (G.b + 147), .int 0, .int 0] M5 (Rv fun M6 => M6.2.2 = M5.2.2 ∧ L_X12_descent_39 G d Q x1 (x2 + 1) M6)))))) : L_X12_descent_39 G d Q x1 x2 M := by
  unfold L_X12_descent_39
  refine tw_iload_n 2 d_X12_descent_39 rfl rfl ?_
  refine tw_aload_n 0 d_X12_descent_40 rfl rfl ?_
  refine tw_getR f_X12_72 hL s_147 ⟨rfl, rfl⟩ (rr_X12_11 s_147) d_X12_descent_41 ?_
  refine tw_iconst d_X12_descent_44 k_0 ?_
  refine tw_iald hL s_154 d_X12_descent_45 (by unfold vp_in; decide) ?_
  refine tw_icmp_ge 66 d_X12_descent_46 (by decide) (fun z1 => ?_) (fun z1 => ?_)
  · replace h := h.1 z1
    refine tw_aload_n 0 d_X12_descent_66 rfl rfl ?_
    refine tw_getI f_X12_301 hL s_147 (Or.inl rfl) d_X12_descent_67 ?_
    refine tw_if_ge 77 d_X12_descent_70 (by decide) (fun z2 => ?_) (fun z2 => ?_)
    · replace h := h.1 z2
      refine tw_iload_n 1 d_X12_descent_77 rfl rfl ?_
      refine tw_if_ne 88 d_X12_descent_78 (by decide) (fun z3 => ?_) (fun z3 => ?_)
      · replace h := h.1 z3
        refine tw_iload_n 1 d_X12_descent_88 rfl rfl ?_
        refine tw_iconst d_X12_descent_89 k_1 ?_
        refine tw_icmp_ne 100 d_X12_descent_90 (by decide) (fun z4 => ?_) (fun z4 => ?_)
        · replace h := h.1 z4
          refine tw_aload_n 0 d_X12_descent_100 rfl rfl ?_
          refine tw_getR f_X12_85 hL s_147 ⟨rfl, rfl⟩ (rr_X12_24 s_147) d_X12_descent_101 ?_
          refine tw_iload_n 1 d_X12_descent_104 rfl rfl ?_
          refine tw_iconst d_X12_descent_105 k_2 ?_
          refine tw_isub d_X12_descent_106 ?_
          refine tw_iald hL s_158 d_X12_descent_107 h.1 ?_
          replace h := h.2
          exact tw_iret rfl ⟨Nat.zero_le _, Nat.zero_le _⟩ d_X12_descent_108 h
        · replace h := h.2 z4
          refine tw_aload_n 0 d_X12_descent_93 rfl rfl ?_
          refine tw_getI f_X12_307 hL s_147 (Or.inl rfl) d_X12_descent_94 ?_
          refine tw_goto 108 d_X12_descent_97 (by decide) ?_
          exact tw_iret rfl ⟨Nat.zero_le _, Nat.zero_le _⟩ d_X12_descent_108 h
      · replace h := h.2 z3
        refine tw_aload_n 0 d_X12_descent_81 rfl rfl ?_
        refine tw_getI f_X12_301 hL s_147 (Or.inl rfl) d_X12_descent_82 ?_
        refine tw_goto 108 d_X12_descent_85 (by decide) ?_
        exact tw_iret rfl ⟨Nat.zero_le _, Nat.zero_le _⟩ d_X12_descent_108 h
    · replace h := h.2 z2
      refine tw_iconst d_X12_descent_73 k_m1 ?_
      refine tw_goto 108 d_X12_descent_74 (by decide) ?_
      exact tw_iret rfl ⟨Nat.zero_le _, Nat.zero_le _⟩ d_X12_descent_108 h
  · replace h := h.2 z1
    refine tw_aload_n 0 d_X12_descent_49 rfl rfl ?_
    refine tw_iload_n 2 d_X12_descent_50 rfl rfl ?_
    refine tu_putI f_X12_298 hL s_147 rfl rfl d_X12_descent_51 (fun M5 e_M5 hL_M5 => ?_)
    replace h := h M5 e_M5
    refine tw_aload_n 0 d_X12_descent_54 rfl rfl ?_
    refine tw_iconst d_X12_descent_55 k_0 ?_
    refine tw_iconst d_X12_descent_56 k_0 ?_
    refine tu_cVv (As := [.int 0, .int 0]) cv_X12_316 hL_M5 s_147 rfl (Nat.le_of_ble_eq_true rfl) ⟨Nat.zero_le _, Nat.zero_le _⟩ d_X12_descent_57 h (fun M6 h => ?_)
    have hL_M6 : Lay c M6 := hL_M5.to h.1
    replace h := h.2
    refine tw_iinc 2 [(2, .int (x2 + 1)), (0, .ref (G.b + 147)), (1, .int x1)] d_X12_descent_60 rfl rfl (Nat.le_of_ble_eq_true rfl) rfl ?_
    refine tw_goto 39 d_X12_descent_63 (by decide) ?_
    exact tw_lv [1, 2, 0] rfl h
theorem b_X12_descent {G : MG} {d : Nat} {Q : Int32 → Mm → Prop} {x1 : Int32} {M : Mm} {c : Nat} (hL : Lay c M)  (h : (∀ M1 : Mm, M1 = sI M 147 0 0 → (C G Y_X12_within d [.int x1, .int 0, .int (1 + (M1.1 154 (Int32.toNatClampNeg 0)))] M1 (Ri fun r3 M2 => M2.2.2 = M1.2.2 ∧ ((r3 = 0 → Q (-1) M2) ∧ (¬ r3 = 0 → ((¬ (M2.1 154 (Int32.toNatClampNeg 0)) = 0 → (∀ M6 : Mm, M6 = sI M2 147 29 (-1) → L_X12_descent_39 G d Q x1 0 M6)) ∧ ((M2.1 154 (Int32.toNatClampNeg 0)) = 0 → Q (-1) M2)))))))) : C G Y_X12_descent (d + 1) [.ref (G.b + 147), .int x1] M (Ri Q) := by
  refine C.of (by decide) (Nat.le_of_ble_eq_true rfl) (lv := [(0, .ref (G.b + 147)), (1, .int x1)]) rfl ?_
  refine tw_aload_n 0 d_X12_descent_0 rfl rfl ?_
  refine tw_iconst d_X12_descent_1 k_0 ?_
  refine tu_putI f_X12_1 hL s_147 rfl rfl d_X12_descent_2 (fun M1 e_M1 hL_M1 => ?_)
  replace h := h M1 e_M1
  refine tw_iload_n 1 d_X12_descent_5 rfl rfl ?_
  refine tw_iconst d_X12_descent_6 k_0 ?_
  refine tw_iconst d_X12_descent_7 k_1 ?_
  refine tw_aload_n 0 d_X12_descent_8 rfl rfl ?_
  refine tw_getR f_X12_72 hL_M1 s_147 ⟨rfl, rfl⟩ (rr_X12_11 s_147) d_X12_descent_9 ?_
  refine tw_iconst d_X12_descent_12 k_0 ?_
  refine tw_iald hL_M1 s_154 d_X12_descent_13 (by unfold vp_in; decide) ?_
  refine tw_iadd d_X12_descent_14 ?_
  refine tu_cSi (As := [.int x1, .int 0, .int (1 + (M1.1 154 (Int32.toNatClampNeg 0)))]) cs_X12_196 rfl (Nat.le_of_ble_eq_true rfl) ⟨Nat.zero_le _, Nat.zero_le _⟩ d_X12_descent_15 h (fun r3 M2 h => ?_)
  have hL_M2 : Lay c M2 := hL_M1.to h.1
  replace h := h.2
  refine tw_if_eq 30 d_X12_descent_18 (by decide) (fun z4 => ?_) (fun z4 => ?_)
  · replace h := h.1 z4
    refine tw_iconst d_X12_descent_30 k_m1 ?_
    exact tw_iret rfl ⟨Nat.zero_le _, Nat.zero_le _⟩ d_X12_descent_31 h
  · replace h := h.2 z4
    refine tw_aload_n 0 d_X12_descent_21 rfl rfl ?_
    refine tw_getR f_X12_72 hL_M2 s_147 ⟨rfl, rfl⟩ (rr_X12_11 s_147) d_X12_descent_22 ?_
    refine tw_iconst d_X12_descent_25 k_0 ?_
    refine tw_iald hL_M2 s_154 d_X12_descent_26 (by unfold vp_in; decide) ?_
    refine tw_if_ne 32 d_X12_descent_27 (by decide) (fun z5 => ?_) (fun z5 => ?_)
    · replace h := h.1 z5
      refine tw_aload_n 0 d_X12_descent_32 rfl rfl ?_
      refine tw_iconst d_X12_descent_33 k_m1 ?_
      refine tu_putI f_X12_301 hL_M2 s_147 rfl rfl d_X12_descent_34 (fun M6 e_M6 hL_M6 => ?_)
      replace h := h M6 e_M6
      refine tw_iconst d_X12_descent_37 k_0 ?_
      refine tw_istore_n [(2, .int 0), (0, .ref (G.b + 147)), (1, .int x1)] d_X12_descent_38 rfl (Nat.le_of_ble_eq_true rfl) rfl ?_
      exact tw_lv [1, 2, 0] rfl h
    · replace h := h.2 z5
      refine tw_iconst d_X12_descent_30 k_m1 ?_
      exact tw_iret rfl ⟨Nat.zero_le _, Nat.zero_le _⟩ d_X12_descent_31 h

theorem d_X12_mark_0 : decode Y_X12_mark.cc 0 = .ok (.aload_n 0, 1) := by decide +kernel
theorem d_X12_mark_1 : decode Y_X12_mark.cc 1 = .ok (.iconst 0, 1) := by decide +kernel
theorem d_X12_mark_2 : decode Y_X12_mark.cc 2 = .ok (.putfield 1, 3) := by decide +kernel
theorem d_X12_mark_5 : decode Y_X12_mark.cc 5 = .ok (.iload_n 1, 1) := by decide +kernel
theorem d_X12_mark_6 : decode Y_X12_mark.cc 6 = .ok (.iconst 0, 1) := by decide +kernel
theorem d_X12_mark_7 : decode Y_X12_mark.cc 7 = .ok (.iconst 3, 1) := by decide +kernel
theorem d_X12_mark_8 : decode Y_X12_mark.cc 8 = .ok (.invokestatic 196, 3) := by decide +kernel
theorem d_X12_mark_11 : decode Y_X12_mark.cc 11 = .ok (.ifCond .eq 16, 3) := by decide +kernel
theorem d_X12_mark_14 : decode Y_X12_mark.cc 14 = .ok (.iload_n 2, 1) := by decide +kernel
theorem d_X12_mark_15 : decode Y_X12_mark.cc 15 = .ok (.ifCond .eq 14, 3) := by decide +kernel
theorem d_X12_mark_18 : decode Y_X12_mark.cc 18 = .ok (.aload_n 0, 1) := by decide +kernel
theorem d_X12_mark_19 : decode Y_X12_mark.cc 19 = .ok (.getfield 78, 3) := by decide +kernel
theorem d_X12_mark_22 : decode Y_X12_mark.cc 22 = .ok (.iload_n 1, 1) := by decide +kernel
theorem d_X12_mark_23 : decode Y_X12_mark.cc 23 = .ok (.baload, 1) := by decide +kernel
theorem d_X12_mark_24 : decode Y_X12_mark.cc 24 = .ok (.ifCond .ne 5, 3) := by decide +kernel
theorem d_X12_mark_27 : decode Y_X12_mark.cc 27 = .ok (.iconst 0, 1) := by decide +kernel
theorem d_X12_mark_28 : decode Y_X12_mark.cc 28 = .ok (.ireturn, 1) := by decide +kernel
theorem d_X12_mark_29 : decode Y_X12_mark.cc 29 = .ok (.aload_n 0, 1) := by decide +kernel
theorem d_X12_mark_30 : decode Y_X12_mark.cc 30 = .ok (.getfield 78, 3) := by decide +kernel
theorem d_X12_mark_33 : decode Y_X12_mark.cc 33 = .ok (.iload_n 1, 1) := by decide +kernel
theorem d_X12_mark_34 : decode Y_X12_mark.cc 34 = .ok (.iconst 1, 1) := by decide +kernel
theorem d_X12_mark_35 : decode Y_X12_mark.cc 35 = .ok (.bastore, 1) := by decide +kernel
theorem d_X12_mark_36 : decode Y_X12_mark.cc 36 = .ok (.aload_n 0, 1) := by decide +kernel
theorem d_X12_mark_37 : decode Y_X12_mark.cc 37 = .ok (.iload_n 2, 1) := by decide +kernel
theorem d_X12_mark_38 : decode Y_X12_mark.cc 38 = .ok (.ifCond .eq 9, 3) := by decide +kernel
theorem d_X12_mark_41 : decode Y_X12_mark.cc 41 = .ok (.iconst 2, 1) := by decide +kernel
theorem d_X12_mark_42 : decode Y_X12_mark.cc 42 = .ok (.iload_n 1, 1) := by decide +kernel
theorem d_X12_mark_43 : decode Y_X12_mark.cc 43 = .ok (.iadd, 1) := by decide +kernel
theorem d_X12_mark_44 : decode Y_X12_mark.cc 44 = .ok (.goto 4, 3) := by decide +kernel
theorem d_X12_mark_47 : decode Y_X12_mark.cc 47 = .ok (.iconst 0, 1) := by decide +kernel
theorem d_X12_mark_48 : decode Y_X12_mark.cc 48 = .ok (.iload_n 2, 1) := by decide +kernel
theorem d_X12_mark_49 : decode Y_X12_mark.cc 49 = .ok (.ifCond .eq 7, 3) := by decide +kernel
theorem d_X12_mark_52 : decode Y_X12_mark.cc 52 = .ok (.iconst 0, 1) := by decide +kernel
theorem d_X12_mark_53 : decode Y_X12_mark.cc 53 = .ok (.goto 6, 3) := by decide +kernel
theorem d_X12_mark_56 : decode Y_X12_mark.cc 56 = .ok (.iconst 2, 1) := by decide +kernel
theorem d_X12_mark_57 : decode Y_X12_mark.cc 57 = .ok (.iload_n 1, 1) := by decide +kernel
theorem d_X12_mark_58 : decode Y_X12_mark.cc 58 = .ok (.iadd, 1) := by decide +kernel
theorem d_X12_mark_59 : decode Y_X12_mark.cc 59 = .ok (.invokevirtual 162, 3) := by decide +kernel
theorem d_X12_mark_62 : decode Y_X12_mark.cc 62 = .ok (.iconst 1, 1) := by decide +kernel
theorem d_X12_mark_63 : decode Y_X12_mark.cc 63 = .ok (.ireturn, 1) := by decide +kernel
def L_X12_mark_29 (G : MG) (d : Nat) (Q : Int32 → Mm → Prop) (x1 : Int32) (x2 : Int32) (M : Mm) : Prop := T G Y_X12_mark (d + 1) (Ri Q) 0 0 29 [(0, .ref (G.b + 147)), (1, .int x1), (2, .int x2)] [] M
theorem b_X12_mark_29 {G : MG} {d : Nat} {Q : Int32 → Mm → Prop} {x1 : Int32} {x2 : Int32} {M : Mm} {c : Nat} (hL : Lay c M)  (h : (vp_in x1 4 ∧ ∀ M1 : Mm, M1 = sI M 156 x1.toNatClampNeg (vp_nar .boolean 1) → ((x2 = 0 → ((x2 = 0 → (C G Y_X12_carry d [.ref (G.b + 147), .int 0, .int (2 + x1)] M1 (Rv fun M4 => M4.2.2 = M1.2.2 ∧ Q 1 M4))) ∧ (¬ x2 = 0 → (C G Y_X12_carry d [.ref (G.b + 147), .int 0, .int 0] M1 (Rv fun M5 => M5.2.2 = M1.2.2 ∧ Q 1 M5))))) ∧ (¬ x2 = 0 → ((x2 = 0 → (C G Y_X12_carry d [.ref (G.b + 147), .int (2 + x1), .int (2 + x1)] M1 (Rv fun M7 => M7.2.2 = M1.2.2 ∧ Q 1 M7))) ∧ (¬ x2 = 0 → (C G Y_X12_carry d [.ref (G.b + 147), .int (2 + x1), .int 0] M1 (Rv fun M8 => M8.2.2 = M1.2.2 ∧ Q 1 M8)))))))) : L_X12_mark_29 G d Q x1 x2 M := by
  unfold L_X12_mark_29
  refine tw_aload_n 0 d_X12_mark_29 rfl rfl ?_
  refine tw_getR f_X12_78 hL s_147 ⟨rfl, rfl⟩ (rr_X12_14 s_147) d_X12_mark_30 ?_
  refine tw_iload_n 1 d_X12_mark_33 rfl rfl ?_
  refine tw_iconst d_X12_mark_34 k_1 ?_
  refine tu_zast hL s_156 d_X12_mark_35 h.1 (fun M1 e_M1 hL_M1 => ?_)
  replace h := h.2 M1 e_M1
  refine tw_aload_n 0 d_X12_mark_36 rfl rfl ?_
  refine tw_iload_n 2 d_X12_mark_37 rfl rfl ?_
  refine tw_if_eq 47 d_X12_mark_38 (by decide) (fun z2 => ?_) (fun z2 => ?_)
  · replace h := h.1 z2
    refine tw_iconst d_X12_mark_47 k_0 ?_
    refine tw_iload_n 2 d_X12_mark_48 rfl rfl ?_
    refine tw_if_eq 56 d_X12_mark_49 (by decide) (fun z3 => ?_) (fun z3 => ?_)
    · replace h := h.1 z3
      refine tw_iconst d_X12_mark_56 k_2 ?_
      refine tw_iload_n 1 d_X12_mark_57 rfl rfl ?_
      refine tw_iadd d_X12_mark_58 ?_
      refine tu_cVv (As := [.int 0, .int (2 + x1)]) cv_X12_162 hL_M1 s_147 rfl (Nat.le_of_ble_eq_true rfl) ⟨Nat.zero_le _, Nat.zero_le _⟩ d_X12_mark_59 h (fun M4 h => ?_)
      have hL_M4 : Lay c M4 := hL_M1.to h.1
      replace h := h.2
      refine tw_iconst d_X12_mark_62 k_1 ?_
      exact tw_zret (ty := .boolean) rfl rfl ⟨Nat.zero_le _, Nat.zero_le _⟩ d_X12_mark_63 h
    · replace h := h.2 z3
      refine tw_iconst d_X12_mark_52 k_0 ?_
      refine tw_goto 59 d_X12_mark_53 (by decide) ?_
      refine tu_cVv (As := [.int 0, .int 0]) cv_X12_162 hL_M1 s_147 rfl (Nat.le_of_ble_eq_true rfl) ⟨Nat.zero_le _, Nat.zero_le _⟩ d_X12_mark_59 h (fun M5 h => ?_)
      have hL_M5 : Lay c M5 := hL_M1.to h.1
      replace h := h.2
      refine tw_iconst d_X12_mark_62 k_1 ?_
      exact tw_zret (ty := .boolean) rfl rfl ⟨Nat.zero_le _, Nat.zero_le _⟩ d_X12_mark_63 h
  · replace h := h.2 z2
    refine tw_iconst d_X12_mark_41 k_2 ?_
    refine tw_iload_n 1 d_X12_mark_42 rfl rfl ?_
    refine tw_iadd d_X12_mark_43 ?_
    refine tw_goto 48 d_X12_mark_44 (by decide) ?_
    refine tw_iload_n 2 d_X12_mark_48 rfl rfl ?_
    refine tw_if_eq 56 d_X12_mark_49 (by decide) (fun z6 => ?_) (fun z6 => ?_)
    · replace h := h.1 z6
      refine tw_iconst d_X12_mark_56 k_2 ?_
      refine tw_iload_n 1 d_X12_mark_57 rfl rfl ?_
      refine tw_iadd d_X12_mark_58 ?_
      refine tu_cVv (As := [.int (2 + x1), .int (2 + x1)]) cv_X12_162 hL_M1 s_147 rfl (Nat.le_of_ble_eq_true rfl) ⟨Nat.zero_le _, Nat.zero_le _⟩ d_X12_mark_59 h (fun M7 h => ?_)
      have hL_M7 : Lay c M7 := hL_M1.to h.1
      replace h := h.2
      refine tw_iconst d_X12_mark_62 k_1 ?_
      exact tw_zret (ty := .boolean) rfl rfl ⟨Nat.zero_le _, Nat.zero_le _⟩ d_X12_mark_63 h
    · replace h := h.2 z6
      refine tw_iconst d_X12_mark_52 k_0 ?_
      refine tw_goto 59 d_X12_mark_53 (by decide) ?_
      refine tu_cVv (As := [.int (2 + x1), .int 0]) cv_X12_162 hL_M1 s_147 rfl (Nat.le_of_ble_eq_true rfl) ⟨Nat.zero_le _, Nat.zero_le _⟩ d_X12_mark_59 h (fun M8 h => ?_)
      have hL_M8 : Lay c M8 := hL_M1.to h.1
      replace h := h.2
      refine tw_iconst d_X12_mark_62 k_1 ?_
      exact tw_zret (ty := .boolean) rfl rfl ⟨Nat.zero_le _, Nat.zero_le _⟩ d_X12_mark_63 h
theorem b_X12_mark {G : MG} {d : Nat} {Q : Int32 → Mm → Prop} {x1 : Int32} {x2 : Int32} {M : Mm} {c : Nat} (hL : Lay c M)  (h : (∀ M1 : Mm, M1 = sI M 147 0 0 → (C G Y_X12_within d [.int x1, .int 0, .int 3] M1 (Ri fun r3 M2 => M2.2.2 = M1.2.2 ∧ ((r3 = 0 → Q 0 M2) ∧ (¬ r3 = 0 → ((x2 = 0 → L_X12_mark_29 G d Q x1 x2 M2) ∧ (¬ x2 = 0 → (vp_in x1 4 ∧ ((¬ (M2.1 156 x1.toNatClampNeg) = 0 → L_X12_mark_29 G d Q x1 x2 M2) ∧ ((M2.1 156 x1.toNatClampNeg) = 0 → Q 0 M2))))))))))) : C G Y_X12_mark (d + 1) [.ref (G.b + 147), .int x1, .int x2] M (Ri Q) := by
  refine C.of (by decide) (Nat.le_of_ble_eq_true rfl) (lv := [(0, .ref (G.b + 147)), (1, .int x1), (2, .int x2)]) rfl ?_
  refine tw_aload_n 0 d_X12_mark_0 rfl rfl ?_
  refine tw_iconst d_X12_mark_1 k_0 ?_
  refine tu_putI f_X12_1 hL s_147 rfl rfl d_X12_mark_2 (fun M1 e_M1 hL_M1 => ?_)
  replace h := h M1 e_M1
  refine tw_iload_n 1 d_X12_mark_5 rfl rfl ?_
  refine tw_iconst d_X12_mark_6 k_0 ?_
  refine tw_iconst d_X12_mark_7 k_3 ?_
  refine tu_cSi (As := [.int x1, .int 0, .int 3]) cs_X12_196 rfl (Nat.le_of_ble_eq_true rfl) ⟨Nat.zero_le _, Nat.zero_le _⟩ d_X12_mark_8 h (fun r3 M2 h => ?_)
  have hL_M2 : Lay c M2 := hL_M1.to h.1
  replace h := h.2
  refine tw_if_eq 27 d_X12_mark_11 (by decide) (fun z4 => ?_) (fun z4 => ?_)
  · replace h := h.1 z4
    refine tw_iconst d_X12_mark_27 k_0 ?_
    exact tw_zret (ty := .boolean) rfl rfl ⟨Nat.zero_le _, Nat.zero_le _⟩ d_X12_mark_28 h
  · replace h := h.2 z4
    refine tw_iload_n 2 d_X12_mark_14 rfl rfl ?_
    refine tw_if_eq 29 d_X12_mark_15 (by decide) (fun z5 => ?_) (fun z5 => ?_)
    · replace h := h.1 z5
      exact tw_lv [0, 1, 2] rfl h
    · replace h := h.2 z5
      refine tw_aload_n 0 d_X12_mark_18 rfl rfl ?_
      refine tw_getR f_X12_78 hL_M2 s_147 ⟨rfl, rfl⟩ (rr_X12_14 s_147) d_X12_mark_19 ?_
      refine tw_iload_n 1 d_X12_mark_22 rfl rfl ?_
      refine tw_zald hL_M2 s_156 d_X12_mark_23 h.1 ?_
      replace h := h.2
      refine tw_if_ne 29 d_X12_mark_24 (by decide) (fun z6 => ?_) (fun z6 => ?_)
      · replace h := h.1 z6
        exact tw_lv [0, 1, 2] rfl h
      · replace h := h.2 z6
        refine tw_iconst d_X12_mark_27 k_0 ?_
        exact tw_zret (ty := .boolean) rfl rfl ⟨Nat.zero_le _, Nat.zero_le _⟩ d_X12_mark_28 h

theorem d_X12_count_0 : decode Y_X12_count.cc 0 = .ok (.aload_n 0, 1) := by decide +kernel
theorem d_X12_count_1 : decode Y_X12_count.cc 1 = .ok (.iconst 0, 1) := by decide +kernel
theorem d_X12_count_2 : decode Y_X12_count.cc 2 = .ok (.putfield 1, 3) := by decide +kernel
theorem d_X12_count_5 : decode Y_X12_count.cc 5 = .ok (.iload_n 1, 1) := by decide +kernel
theorem d_X12_count_6 : decode Y_X12_count.cc 6 = .ok (.tableswitch 61 0 4 #[34, 39, 46, 51, 56], 34) := by decide +kernel
theorem d_X12_count_40 : decode Y_X12_count.cc 40 = .ok (.aload_n 0, 1) := by decide +kernel
theorem d_X12_count_41 : decode Y_X12_count.cc 41 = .ok (.invokevirtual 183, 3) := by decide +kernel
theorem d_X12_count_44 : decode Y_X12_count.cc 44 = .ok (.ireturn, 1) := by decide +kernel
theorem d_X12_count_45 : decode Y_X12_count.cc 45 = .ok (.aload_n 0, 1) := by decide +kernel
theorem d_X12_count_46 : decode Y_X12_count.cc 46 = .ok (.getfield 72, 3) := by decide +kernel
theorem d_X12_count_49 : decode Y_X12_count.cc 49 = .ok (.iconst 0, 1) := by decide +kernel
theorem d_X12_count_50 : decode Y_X12_count.cc 50 = .ok (.iaload, 1) := by decide +kernel
theorem d_X12_count_51 : decode Y_X12_count.cc 51 = .ok (.ireturn, 1) := by decide +kernel
theorem d_X12_count_52 : decode Y_X12_count.cc 52 = .ok (.aload_n 0, 1) := by decide +kernel
theorem d_X12_count_53 : decode Y_X12_count.cc 53 = .ok (.invokevirtual 237, 3) := by decide +kernel
theorem d_X12_count_56 : decode Y_X12_count.cc 56 = .ok (.ireturn, 1) := by decide +kernel
theorem d_X12_count_57 : decode Y_X12_count.cc 57 = .ok (.aload_n 0, 1) := by decide +kernel
theorem d_X12_count_58 : decode Y_X12_count.cc 58 = .ok (.invokevirtual 263, 3) := by decide +kernel
theorem d_X12_count_61 : decode Y_X12_count.cc 61 = .ok (.ireturn, 1) := by decide +kernel
theorem d_X12_count_62 : decode Y_X12_count.cc 62 = .ok (.aload_n 0, 1) := by decide +kernel
theorem d_X12_count_63 : decode Y_X12_count.cc 63 = .ok (.getfield 11, 3) := by decide +kernel
theorem d_X12_count_66 : decode Y_X12_count.cc 66 = .ok (.ireturn, 1) := by decide +kernel
theorem d_X12_count_67 : decode Y_X12_count.cc 67 = .ok (.iconst (-1), 1) := by decide +kernel
theorem d_X12_count_68 : decode Y_X12_count.cc 68 = .ok (.ireturn, 1) := by decide +kernel
theorem b_X12_count {G : MG} {d : Nat} {Q : Int32 → Mm → Prop} {x1 : Int32} {M : Mm} {c : Nat} (hL : Lay c M)  (h : (∀ M1 : Mm, M1 = sI M 147 0 0 → ((x1 = 0 → (C G Y_X12_arms d [.ref (G.b + 147)] M1 (Ri fun r3 M2 => M2.2.2 = M1.2.2 ∧ Q r3 M2))) ∧ (x1 = 1 → Q (M1.1 154 (Int32.toNatClampNeg 0)) M1) ∧ (x1 = 2 → (C G Y_X12_chained d [.ref (G.b + 147)] M1 (Ri fun r5 M4 => M4.2.2 = M1.2.2 ∧ Q r5 M4))) ∧ (x1 = 3 → (C G Y_X12_seen d [.ref (G.b + 147)] M1 (Ri fun r7 M6 => M6.2.2 = M1.2.2 ∧ Q r7 M6))) ∧ (x1 = 4 → Q (M1.1 147 2) M1) ∧ (¬ x1 = 0 → ¬ x1 = 1 → ¬ x1 = 2 → ¬ x1 = 3 → ¬ x1 = 4 → Q (-1) M1)))) : C G Y_X12_count (d + 1) [.ref (G.b + 147), .int x1] M (Ri Q) := by
  refine C.of (by decide) (Nat.le_of_ble_eq_true rfl) (lv := [(0, .ref (G.b + 147)), (1, .int x1)]) rfl ?_
  refine tw_aload_n 0 d_X12_count_0 rfl rfl ?_
  refine tw_iconst d_X12_count_1 k_0 ?_
  refine tu_putI f_X12_1 hL s_147 rfl rfl d_X12_count_2 (fun M1 e_M1 hL_M1 => ?_)
  replace h := h M1 e_M1
  refine tw_iload_n 1 d_X12_count_5 rfl rfl ?_
  by_cases hz0 : x1 = 0
  · replace h := h.1 hz0
    refine tw_tabIn 40 d_X12_count_6 (by rw [hz0]; decide) (by rw [hz0]; decide) (by rw [hz0]; rfl) (by decide) ?_
    refine tw_aload_n 0 d_X12_count_40 rfl rfl ?_
    refine tu_cVi (As := []) cv_X12_183 hL_M1 s_147 rfl (Nat.le_of_ble_eq_true rfl) ⟨Nat.zero_le _, Nat.zero_le _⟩ d_X12_count_41 h (fun r3 M2 h => ?_)
    have hL_M2 : Lay c M2 := hL_M1.to h.1
    replace h := h.2
    exact tw_iret rfl ⟨Nat.zero_le _, Nat.zero_le _⟩ d_X12_count_44 h
  by_cases hz1 : x1 = 1
  · replace h := h.2.1 hz1
    refine tw_tabIn 45 d_X12_count_6 (by rw [hz1]; decide) (by rw [hz1]; decide) (by rw [hz1]; rfl) (by decide) ?_
    refine tw_aload_n 0 d_X12_count_45 rfl rfl ?_
    refine tw_getR f_X12_72 hL_M1 s_147 ⟨rfl, rfl⟩ (rr_X12_11 s_147) d_X12_count_46 ?_
    refine tw_iconst d_X12_count_49 k_0 ?_
    refine tw_iald hL_M1 s_154 d_X12_count_50 (by unfold vp_in; decide) ?_
    exact tw_iret rfl ⟨Nat.zero_le _, Nat.zero_le _⟩ d_X12_count_51 h
  by_cases hz2 : x1 = 2
  · replace h := h.2.2.1 hz2
    refine tw_tabIn 52 d_X12_count_6 (by rw [hz2]; decide) (by rw [hz2]; decide) (by rw [hz2]; rfl) (by decide) ?_
    refine tw_aload_n 0 d_X12_count_52 rfl rfl ?_
    refine tu_cVi (As := []) cv_X12_237 hL_M1 s_147 rfl (Nat.le_of_ble_eq_true rfl) ⟨Nat.zero_le _, Nat.zero_le _⟩ d_X12_count_53 h (fun r5 M4 h => ?_)
    have hL_M4 : Lay c M4 := hL_M1.to h.1
    replace h := h.2
    exact tw_iret rfl ⟨Nat.zero_le _, Nat.zero_le _⟩ d_X12_count_56 h
  by_cases hz3 : x1 = 3
  · replace h := h.2.2.2.1 hz3
    refine tw_tabIn 57 d_X12_count_6 (by rw [hz3]; decide) (by rw [hz3]; decide) (by rw [hz3]; rfl) (by decide) ?_
    refine tw_aload_n 0 d_X12_count_57 rfl rfl ?_
    refine tu_cVi (As := []) cv_X12_263 hL_M1 s_147 rfl (Nat.le_of_ble_eq_true rfl) ⟨Nat.zero_le _, Nat.zero_le _⟩ d_X12_count_58 h (fun r7 M6 h => ?_)
    have hL_M6 : Lay c M6 := hL_M1.to h.1
    replace h := h.2
    exact tw_iret rfl ⟨Nat.zero_le _, Nat.zero_le _⟩ d_X12_count_61 h
  by_cases hz4 : x1 = 4
  · replace h := h.2.2.2.2.1 hz4
    refine tw_tabIn 62 d_X12_count_6 (by rw [hz4]; decide) (by rw [hz4]; decide) (by rw [hz4]; rfl) (by decide) ?_
    refine tw_aload_n 0 d_X12_count_62 rfl rfl ?_
    refine tw_getI f_X12_11 hL_M1 s_147 (Or.inl rfl) d_X12_count_63 ?_
    exact tw_iret rfl ⟨Nat.zero_le _, Nat.zero_le _⟩ d_X12_count_66 h
  replace h := h.2.2.2.2.2 hz0 hz1 hz2 hz3 hz4
  refine tw_tabOut 67 d_X12_count_6 (tab_out_0_4 hz0 hz1 hz2 hz3 hz4) (by decide) ?_
  refine tw_iconst d_X12_count_67 k_m1 ?_
  exact tw_iret rfl ⟨Nat.zero_le _, Nat.zero_le _⟩ d_X12_count_68 h
