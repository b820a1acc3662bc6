theorem d_X12_common_0 : decode Y_X12_common.cc 0 = .ok (.lload_n 0, 1) := by decide +kernel
theorem d_X12_common_1 : decode Y_X12_common.cc 1 = .ok (.lconst 0, 1) := by decide +kernel
theorem d_X12_common_2 : decode Y_X12_common.cc 2 = .ok (.lcmp, 1) := by decide +kernel
theorem d_X12_common_3 : decode Y_X12_common.cc 3 = .ok (.ifCond .ge 8, 3) := by decide +kernel
theorem d_X12_common_6 : decode Y_X12_common.cc 6 = .ok (.lload_n 0, 1) := by decide +kernel
theorem d_X12_common_7 : decode Y_X12_common.cc 7 = .ok (.lneg, 1) := by decide +kernel
theorem d_X12_common_8 : decode Y_X12_common.cc 8 = .ok (.goto 4, 3) := by decide +kernel
theorem d_X12_common_11 : decode Y_X12_common.cc 11 = .ok (.lload_n 0, 1) := by decide +kernel
theorem d_X12_common_12 : decode Y_X12_common.cc 12 = .ok (.lstore 4, 2) := by decide +kernel
theorem d_X12_common_14 : decode Y_X12_common.cc 14 = .ok (.lload_n 2, 1) := by decide +kernel
theorem d_X12_common_15 : decode Y_X12_common.cc 15 = .ok (.lstore 6, 2) := by decide +kernel
theorem d_X12_common_17 : decode Y_X12_common.cc 17 = .ok (.lload 6, 2) := by decide +kernel
theorem d_X12_common_19 : decode Y_X12_common.cc 19 = .ok (.lconst 0, 1) := by decide +kernel
theorem d_X12_common_20 : decode Y_X12_common.cc 20 = .ok (.lcmp, 1) := by decide +kernel
theorem d_X12_common_21 : decode Y_X12_common.cc 21 = .ok (.ifCond .eq 21, 3) := by decide +kernel
theorem d_X12_common_24 : decode Y_X12_common.cc 24 = .ok (.lload 4, 2) := by decide +kernel
theorem d_X12_common_26 : decode Y_X12_common.cc 26 = .ok (.lload 6, 2) := by decide +kernel
theorem d_X12_common_28 : decode Y_X12_common.cc 28 = .ok (.lrem, 1) := by decide +kernel
theorem d_X12_common_29 : decode Y_X12_common.cc 29 = .ok (.lstore 8, 2) := by decide +kernel
theorem d_X12_common_31 : decode Y_X12_common.cc 31 = .ok (.lload 6, 2) := by decide +kernel
theorem d_X12_common_33 : decode Y_X12_common.cc 33 = .ok (.lstore 4, 2) := by decide +kernel
theorem d_X12_common_35 : decode Y_X12_common.cc 35 = .ok (.lload 8, 2) := by decide +kernel
theorem d_X12_common_37 : decode Y_X12_common.cc 37 = .ok (.lstore 6, 2) := by decide +kernel
theorem d_X12_common_39 : decode Y_X12_common.cc 39 = .ok (.goto (-22), 3) := by decide +kernel
theorem d_X12_common_42 : decode Y_X12_common.cc 42 = .ok (.lload 4, 2) := by decide +kernel
theorem d_X12_common_44 : decode Y_X12_common.cc 44 = .ok (.lreturn, 1) := by decide +kernel
def L_X12_common_17 (G : MG) (d : Nat) (Q : Int64 → Mm → Prop) (y4 : Int64) (y6 : Int64) (M : Mm) : Prop := T G Y_X12_common (d + 1) (Rj Q) 0 0 17 [(4, .long y4), (6, .long y6)] [] M
theorem b_X12_common_17 {G : MG} {d : Nat} {Q : Int64 → Mm → Prop} {y4 : Int64} {y6 : Int64} {M : Mm} {c : Nat} (hL : Lay c M)  (h : ((y6 = 0 → Q y4 M) ∧ (¬ y6 = 0 → (¬ y6 = 0 ∧ L_X12_common_17 G d Q y6 (y4 - y4 / y6 * y6) M)))) : L_X12_common_17 G d Q y4 y6 M := by
  unfold L_X12_common_17
  refine tw_lload 1 d_X12_common_17 rfl ?_
  refine tw_lconst (v := 0) d_X12_common_19 rfl ?_
  refine tw_lcmp_eq 42 d_X12_common_20 d_X12_common_21 (by decide) (fun z1 => ?_) (fun z1 => ?_)
  · replace h := h.1 z1
    refine tw_lload 0 d_X12_common_42 rfl ?_
    exact tw_lret rfl ⟨Nat.zero_le _, Nat.zero_le _⟩ d_X12_common_44 h
  · replace h := h.2 z1
    refine tw_lload 0 d_X12_common_24 rfl ?_
    refine tw_lload 1 d_X12_common_26 rfl ?_
    refine tw_lrem d_X12_common_28 h.1 ?_
    replace h := h.2
    refine tw_lstore [(8, .long (y4 - y4 / y6 * y6)), (4, .long y4), (6, .long y6)] d_X12_common_29 (Nat.le_of_ble_eq_true rfl) rfl ?_
    refine tw_lload 2 d_X12_common_31 rfl ?_
    refine tw_lstore [(4, .long y6), (8, .long (y4 - y4 / y6 * y6)), (6, .long y6)] d_X12_common_33 (Nat.le_of_ble_eq_true rfl) rfl ?_
    refine tw_lload 1 d_X12_common_35 rfl ?_
    refine tw_lstore [(6, .long (y4 - y4 / y6 * y6)), (4, .long y6), (8, .long (y4 - y4 / y6 * y6))] d_X12_common_37 (Nat.le_of_ble_eq_true rfl) rfl ?_
    refine tw_goto 17 d_X12_common_39 (by decide) ?_
    exact tw_lv [1, 0] rfl h
theorem b_X12_common {G : MG} {d : Nat} {Q : Int64 → Mm → Prop} {y0 : Int64} {y2 : Int64} {M : Mm} {c : Nat} (hL : Lay c M)  (h : ((0 ≤ y0 → L_X12_common_17 G d Q y0 y2 M) ∧ (¬ 0 ≤ y0 → L_X12_common_17 G d Q (-y0) y2 M))) : C G Y_X12_common (d + 1) [.long y0, .long y2] M (Rj Q) := by
  refine C.of (by decide) (Nat.le_of_ble_eq_true rfl) (lv := [(0, .long y0), (2, .long y2)]) rfl ?_
  refine tw_lload_n 0 d_X12_common_0 rfl rfl ?_
  refine tw_lconst (v := 0) d_X12_common_1 rfl ?_
  refine tw_lcmp_ge 11 d_X12_common_2 d_X12_common_3 (by decide) (fun z1 => ?_) (fun z1 => ?_)
  · replace h := h.1 z1
    refine tw_lload_n 0 d_X12_common_11 rfl rfl ?_
    refine tw_lstore [(4, .long y0), (0, .long y0), (2, .long y2)] d_X12_common_12 (Nat.le_of_ble_eq_true rfl) rfl ?_
    refine tw_lload_n 2 d_X12_common_14 rfl rfl ?_
    refine tw_lstore [(6, .long y2), (4, .long y0), (0, .long y0), (2, .long y2)] d_X12_common_15 (Nat.le_of_ble_eq_true rfl) rfl ?_
    exact tw_lv [1, 0] rfl h
  · replace h := h.2 z1
    refine tw_lload_n 0 d_X12_common_6 rfl rfl ?_
    refine tw_lneg d_X12_common_7 ?_
    refine tw_goto 12 d_X12_common_8 (by decide) ?_
    refine tw_lstore [(4, .long (-y0)), (0, .long y0), (2, .long y2)] d_X12_common_12 (Nat.le_of_ble_eq_true rfl) rfl ?_
    refine tw_lload_n 2 d_X12_common_14 rfl rfl ?_
    refine tw_lstore [(6, .long y2), (4, .long (-y0)), (0, .long y0), (2, .long y2)] d_X12_common_15 (Nat.le_of_ble_eq_true rfl) rfl ?_
    exact tw_lv [1, 0] rfl h

theorem d_X12_arms_0 : decode Y_X12_arms.cc 0 = .ok (.aload_n 0, 1) := by decide +kernel
theorem d_X12_arms_1 : decode Y_X12_arms.cc 1 = .ok (.getfield 69, 3) := by decide +kernel
theorem d_X12_arms_4 : decode Y_X12_arms.cc 4 = .ok (.iconst 0, 1) := by decide +kernel
theorem d_X12_arms_5 : decode Y_X12_arms.cc 5 = .ok (.iaload, 1) := by decide +kernel
theorem d_X12_arms_6 : decode Y_X12_arms.cc 6 = .ok (.ireturn, 1) := by decide +kernel
theorem b_X12_arms {G : MG} {d : Nat} {Q : Int32 → Mm → Prop}  {M : Mm} {c : Nat} (hL : Lay c M)  (h : Q (M.1 153 (Int32.toNatClampNeg 0)) M) : C G Y_X12_arms (d + 1) [.ref (G.b + 147)] M (Ri Q) := by
  refine C.of (by decide) (Nat.le_of_ble_eq_true rfl) (lv := [(0, .ref (G.b + 147))]) rfl ?_
  refine tw_aload_n 0 d_X12_arms_0 rfl rfl ?_
  refine tw_getR f_X12_69 hL s_147 ⟨rfl, rfl⟩ (rr_X12_10 s_147) d_X12_arms_1 ?_
  refine tw_iconst d_X12_arms_4 k_0 ?_
  refine tw_iald hL s_153 d_X12_arms_5 (by unfold vp_in; decide) ?_
  exact tw_iret rfl ⟨Nat.zero_le _, Nat.zero_le _⟩ d_X12_arms_6 h

theorem d_X12_isArm_0 : decode Y_X12_isArm.cc 0 = .ok (.iload_n 1, 1) := by decide +kernel
theorem d_X12_isArm_1 : decode Y_X12_isArm.cc 1 = .ok (.ifCond .lt 15, 3) := by decide +kernel
theorem d_X12_isArm_4 : decode Y_X12_isArm.cc 4 = .ok (.iload_n 1, 1) := by decide +kernel
theorem d_X12_isArm_5 : decode Y_X12_isArm.cc 5 = .ok (.aload_n 0, 1) := by decide +kernel
theorem d_X12_isArm_6 : decode Y_X12_isArm.cc 6 = .ok (.invokevirtual 183, 3) := by decide +kernel
theorem d_X12_isArm_9 : decode Y_X12_isArm.cc 9 = .ok (.if_icmp .ge 7, 3) := by decide +kernel
theorem d_X12_isArm_12 : decode Y_X12_isArm.cc 12 = .ok (.iconst 1, 1) := by decide +kernel
theorem d_X12_isArm_13 : decode Y_X12_isArm.cc 13 = .ok (.goto 4, 3) := by decide +kernel
theorem d_X12_isArm_16 : decode Y_X12_isArm.cc 16 = .ok (.iconst 0, 1) := by decide +kernel
theorem d_X12_isArm_17 : decode Y_X12_isArm.cc 17 = .ok (.ireturn, 1) := by decide +kernel
theorem b_X12_isArm {G : MG} {d : Nat} {Q : Int32 → Mm → Prop} {x1 : Int32} {M : Mm} {c : Nat} (hL : Lay c M)  (h : ((x1 < 0 → Q 0 M) ∧ (¬ x1 < 0 → (C G Y_X12_arms d [.ref (G.b + 147)] M (Ri fun r3 M2 => M2.2.2 = M.2.2 ∧ ((r3 ≤ x1 → Q 0 M2) ∧ (¬ r3 ≤ x1 → Q 1 M2))))))) : C G Y_X12_isArm (d + 1) [.ref (G.b + 147), .int x1] M (Ri Q) := by
  refine C.of (by decide) (Nat.le_of_ble_eq_true rfl) (lv := [(0, .ref (G.b + 147)), (1, .int x1)]) rfl ?_
  refine tw_iload_n 1 d_X12_isArm_0 rfl rfl ?_
  refine tw_if_lt 16 d_X12_isArm_1 (by decide) (fun z1 => ?_) (fun z1 => ?_)
  · replace h := h.1 z1
    refine tw_iconst d_X12_isArm_16 k_0 ?_
    exact tw_zret (ty := .boolean) rfl rfl ⟨Nat.zero_le _, Nat.zero_le _⟩ d_X12_isArm_17 h
  · replace h := h.2 z1
    refine tw_iload_n 1 d_X12_isArm_4 rfl rfl ?_
    refine tw_aload_n 0 d_X12_isArm_5 rfl rfl ?_
    refine tu_cVi (As := []) cv_X12_183 hL s_147 rfl (Nat.le_of_ble_eq_true rfl) ⟨Nat.zero_le _, Nat.zero_le _⟩ d_X12_isArm_6 h (fun r3 M2 h => ?_)
    have hL_M2 : Lay c M2 := hL.to h.1
    replace h := h.2
    refine tw_icmp_ge 16 d_X12_isArm_9 (by decide) (fun z4 => ?_) (fun z4 => ?_)
    · replace h := h.1 z4
      refine tw_iconst d_X12_isArm_16 k_0 ?_
      exact tw_zret (ty := .boolean) rfl rfl ⟨Nat.zero_le _, Nat.zero_le _⟩ d_X12_isArm_17 h
    · replace h := h.2 z4
      refine tw_iconst d_X12_isArm_12 k_1 ?_
      refine tw_goto 17 d_X12_isArm_13 (by decide) ?_
      exact tw_zret (ty := .boolean) rfl rfl ⟨Nat.zero_le _, Nat.zero_le _⟩ d_X12_isArm_17 h

theorem d_X12_isMap_0 : decode Y_X12_isMap.cc 0 = .ok (.iload_n 1, 1) := by decide +kernel
theorem d_X12_isMap_1 : decode Y_X12_isMap.cc 1 = .ok (.ifCond .lt 17, 3) := by decide +kernel
theorem d_X12_isMap_4 : decode Y_X12_isMap.cc 4 = .ok (.iload_n 1, 1) := by decide +kernel
theorem d_X12_isMap_5 : decode Y_X12_isMap.cc 5 = .ok (.aload_n 0, 1) := by decide +kernel
theorem d_X12_isMap_6 : decode Y_X12_isMap.cc 6 = .ok (.getfield 72, 3) := by decide +kernel
theorem d_X12_isMap_9 : decode Y_X12_isMap.cc 9 = .ok (.iconst 0, 1) := by decide +kernel
theorem d_X12_isMap_10 : decode Y_X12_isMap.cc 10 = .ok (.iaload, 1) := by decide +kernel
theorem d_X12_isMap_11 : decode Y_X12_isMap.cc 11 = .ok (.if_icmp .ge 7, 3) := by decide +kernel
theorem d_X12_isMap_14 : decode Y_X12_isMap.cc 14 = .ok (.iconst 1, 1) := by decide +kernel
theorem d_X12_isMap_15 : decode Y_X12_isMap.cc 15 = .ok (.goto 4, 3) := by decide +kernel
theorem d_X12_isMap_18 : decode Y_X12_isMap.cc 18 = .ok (.iconst 0, 1) := by decide +kernel
theorem d_X12_isMap_19 : decode Y_X12_isMap.cc 19 = .ok (.ireturn, 1) := by decide +kernel
theorem b_X12_isMap {G : MG} {d : Nat} {Q : Int32 → Mm → Prop} {x1 : Int32} {M : Mm} {c : Nat} (hL : Lay c M)  (h : ((x1 < 0 → Q 0 M) ∧ (¬ x1 < 0 → (((M.1 154 (Int32.toNatClampNeg 0)) ≤ x1 → Q 0 M) ∧ (¬ (M.1 154 (Int32.toNatClampNeg 0)) ≤ x1 → Q 1 M))))) : C G Y_X12_isMap (d + 1) [.ref (G.b + 147), .int x1] M (Ri Q) := by
  refine C.of (by decide) (Nat.le_of_ble_eq_true rfl) (lv := [(0, .ref (G.b + 147)), (1, .int x1)]) rfl ?_
  refine tw_iload_n 1 d_X12_isMap_0 rfl rfl ?_
  refine tw_if_lt 18 d_X12_isMap_1 (by decide) (fun z1 => ?_) (fun z1 => ?_)
  · replace h := h.1 z1
    refine tw_iconst d_X12_isMap_18 k_0 ?_
    exact tw_zret (ty := .boolean) rfl rfl ⟨Nat.zero_le _, Nat.zero_le _⟩ d_X12_isMap_19 h
  · replace h := h.2 z1
    refine tw_iload_n 1 d_X12_isMap_4 rfl rfl ?_
    refine tw_aload_n 0 d_X12_isMap_5 rfl rfl ?_
    refine tw_getR f_X12_72 hL s_147 ⟨rfl, rfl⟩ (rr_X12_11 s_147) d_X12_isMap_6 ?_
    refine tw_iconst d_X12_isMap_9 k_0 ?_
    refine tw_iald hL s_154 d_X12_isMap_10 (by unfold vp_in; decide) ?_
    refine tw_icmp_ge 18 d_X12_isMap_11 (by decide) (fun z2 => ?_) (fun z2 => ?_)
    · replace h := h.1 z2
      refine tw_iconst d_X12_isMap_18 k_0 ?_
      exact tw_zret (ty := .boolean) rfl rfl ⟨Nat.zero_le _, Nat.zero_le _⟩ d_X12_isMap_19 h
    · replace h := h.2 z2
      refine tw_iconst d_X12_isMap_14 k_1 ?_
      refine tw_goto 19 d_X12_isMap_15 (by decide) ?_
      exact tw_zret (ty := .boolean) rfl rfl ⟨Nat.zero_le _, Nat.zero_le _⟩ d_X12_isMap_19 h

theorem d_X12_of_0 : decode Y_X12_of.cc 0 = .ok (.aload_n 0, 1) := by decide +kernel
theorem d_X12_of_1 : decode Y_X12_of.cc 1 = .ok (.getfield 69, 3) := by decide +kernel
theorem d_X12_of_4 : decode Y_X12_of.cc 4 = .ok (.iconst 1, 1) := by decide +kernel
theorem d_X12_of_5 : decode Y_X12_of.cc 5 = .ok (.bipush 14, 2) := by decide +kernel
theorem d_X12_of_7 : decode Y_X12_of.cc 7 = .ok (.iload_n 1, 1) := by decide +kernel
theorem d_X12_of_8 : decode Y_X12_of.cc 8 = .ok (.imul, 1) := by decide +kernel
theorem d_X12_of_9 : decode Y_X12_of.cc 9 = .ok (.iadd, 1) := by decide +kernel
theorem d_X12_of_10 : decode Y_X12_of.cc 10 = .ok (.iload_n 2, 1) := by decide +kernel
theorem d_X12_of_11 : decode Y_X12_of.cc 11 = .ok (.iadd, 1) := by decide +kernel
theorem d_X12_of_12 : decode Y_X12_of.cc 12 = .ok (.iaload, 1) := by decide +kernel
theorem d_X12_of_13 : decode Y_X12_of.cc 13 = .ok (.ireturn, 1) := by decide +kernel
theorem b_X12_of {G : MG} {d : Nat} {Q : Int32 → Mm → Prop} {x1 : Int32} {x2 : Int32} {M : Mm} {c : Nat} (hL : Lay c M)  (h : (vp_in ((1 + (14 * x1)) + x2) 660 ∧ Q (M.1 153 ((1 + (14 * x1)) + x2).toNatClampNeg) M)) : C G Y_X12_of (d + 1) [.ref (G.b + 147), .int x1, .int x2] M (Ri Q) := by
  refine C.of (by decide) (Nat.le_of_ble_eq_true rfl) (lv := [(0, .ref (G.b + 147)), (1, .int x1), (2, .int x2)]) rfl ?_
  refine tw_aload_n 0 d_X12_of_0 rfl rfl ?_
  refine tw_getR f_X12_69 hL s_147 ⟨rfl, rfl⟩ (rr_X12_10 s_147) d_X12_of_1 ?_
  refine tw_iconst d_X12_of_4 k_1 ?_
  refine tw_bipush d_X12_of_5 kb_14 ?_
  refine tw_iload_n 1 d_X12_of_7 rfl rfl ?_
  refine tw_imul d_X12_of_8 ?_
  refine tw_iadd d_X12_of_9 ?_
  refine tw_iload_n 2 d_X12_of_10 rfl rfl ?_
  refine tw_iadd d_X12_of_11 ?_
  refine tw_iald hL s_153 d_X12_of_12 h.1 ?_
  replace h := h.2
  exact tw_iret rfl ⟨Nat.zero_le _, Nat.zero_le _⟩ d_X12_of_13 h

theorem d_X12_lays_0 : decode Y_X12_lays.cc 0 = .ok (.aload_n 0, 1) := by decide +kernel
theorem d_X12_lays_1 : decode Y_X12_lays.cc 1 = .ok (.getfield 69, 3) := by decide +kernel
theorem d_X12_lays_4 : decode Y_X12_lays.cc 4 = .ok (.iconst 1, 1) := by decide +kernel
theorem d_X12_lays_5 : decode Y_X12_lays.cc 5 = .ok (.bipush 14, 2) := by decide +kernel
theorem d_X12_lays_7 : decode Y_X12_lays.cc 7 = .ok (.iload_n 1, 1) := by decide +kernel
theorem d_X12_lays_8 : decode Y_X12_lays.cc 8 = .ok (.imul, 1) := by decide +kernel
theorem d_X12_lays_9 : decode Y_X12_lays.cc 9 = .ok (.iadd, 1) := by decide +kernel
theorem d_X12_lays_10 : decode Y_X12_lays.cc 10 = .ok (.iload_n 2, 1) := by decide +kernel
theorem d_X12_lays_11 : decode Y_X12_lays.cc 11 = .ok (.iadd, 1) := by decide +kernel
theorem d_X12_lays_12 : decode Y_X12_lays.cc 12 = .ok (.iload_n 3, 1) := by decide +kernel
theorem d_X12_lays_13 : decode Y_X12_lays.cc 13 = .ok (.iastore, 1) := by decide +kernel
theorem d_X12_lays_14 : decode Y_X12_lays.cc 14 = .ok (.return_, 1) := by decide +kernel
theorem b_X12_lays {G : MG} {d : Nat} {Q : Mm → Prop} {x1 : Int32} {x2 : Int32} {x3 : Int32} {M : Mm} {c : Nat} (hL : Lay c M)  (h : (vp_in ((1 + (14 * x1)) + x2) 660 ∧ ∀ M1 : Mm, M1 = sI M 153 ((1 + (14 * x1)) + x2).toNatClampNeg x3 → Q M1)) : C G Y_X12_lays (d + 1) [.ref (G.b + 147), .int x1, .int x2, .int x3] M (Rv Q) := by
  refine C.of (by decide) (Nat.le_of_ble_eq_true rfl) (lv := [(0, .ref (G.b + 147)), (1, .int x1), (2, .int x2), (3, .int x3)]) rfl ?_
  refine tw_aload_n 0 d_X12_lays_0 rfl rfl ?_
  refine tw_getR f_X12_69 hL s_147 ⟨rfl, rfl⟩ (rr_X12_10 s_147) d_X12_lays_1 ?_
  refine tw_iconst d_X12_lays_4 k_1 ?_
  refine tw_bipush d_X12_lays_5 kb_14 ?_
  refine tw_iload_n 1 d_X12_lays_7 rfl rfl ?_
  refine tw_imul d_X12_lays_8 ?_
  refine tw_iadd d_X12_lays_9 ?_
  refine tw_iload_n 2 d_X12_lays_10 rfl rfl ?_
  refine tw_iadd d_X12_lays_11 ?_
  refine tw_iload_n 3 d_X12_lays_12 rfl rfl ?_
  refine tu_iast hL s_153 d_X12_lays_13 h.1 (fun M1 e_M1 hL_M1 => ?_)
  replace h := h.2 M1 e_M1
  exact tw_vret rfl ⟨Nat.zero_le _, Nat.zero_le _⟩ d_X12_lays_14 h

theorem d_X12_mapOf_0 : decode Y_X12_mapOf.cc 0 = .ok (.aload_n 0, 1) := by decide +kernel
theorem d_X12_mapOf_1 : decode Y_X12_mapOf.cc 1 = .ok (.getfield 72, 3) := by decide +kernel
theorem d_X12_mapOf_4 : decode Y_X12_mapOf.cc 4 = .ok (.iconst 1, 1) := by decide +kernel
theorem d_X12_mapOf_5 : decode Y_X12_mapOf.cc 5 = .ok (.bipush 16, 2) := by decide +kernel
theorem d_X12_mapOf_7 : decode Y_X12_mapOf.cc 7 = .ok (.iload_n 1, 1) := by decide +kernel
theorem d_X12_mapOf_8 : decode Y_X12_mapOf.cc 8 = .ok (.imul, 1) := by decide +kernel
theorem d_X12_mapOf_9 : decode Y_X12_mapOf.cc 9 = .ok (.iadd, 1) := by decide +kernel
theorem d_X12_mapOf_10 : decode Y_X12_mapOf.cc 10 = .ok (.iload_n 2, 1) := by decide +kernel
theorem d_X12_mapOf_11 : decode Y_X12_mapOf.cc 11 = .ok (.iadd, 1) := by decide +kernel
theorem d_X12_mapOf_12 : decode Y_X12_mapOf.cc 12 = .ok (.iaload, 1) := by decide +kernel
theorem d_X12_mapOf_13 : decode Y_X12_mapOf.cc 13 = .ok (.ireturn, 1) := by decide +kernel
theorem b_X12_mapOf {G : MG} {d : Nat} {Q : Int32 → Mm → Prop} {x1 : Int32} {x2 : Int32} {M : Mm} {c : Nat} (hL : Lay c M)  (h : (vp_in ((1 + (16 * x1)) + x2) 240 ∧ Q (M.1 154 ((1 + (16 * x1)) + x2).toNatClampNeg) M)) : C G Y_X12_mapOf (d + 1) [.ref (G.b + 147), .int x1, .int x2] M (Ri Q) := by
  refine C.of (by decide) (Nat.le_of_ble_eq_true rfl) (lv := [(0, .ref (G.b + 147)), (1, .int x1), (2, .int x2)]) rfl ?_
  refine tw_aload_n 0 d_X12_mapOf_0 rfl rfl ?_
  refine tw_getR f_X12_72 hL s_147 ⟨rfl, rfl⟩ (rr_X12_11 s_147) d_X12_mapOf_1 ?_
  refine tw_iconst d_X12_mapOf_4 k_1 ?_
  refine tw_bipush d_X12_mapOf_5 kb_16 ?_
  refine tw_iload_n 1 d_X12_mapOf_7 rfl rfl ?_
  refine tw_imul d_X12_mapOf_8 ?_
  refine tw_iadd d_X12_mapOf_9 ?_
  refine tw_iload_n 2 d_X12_mapOf_10 rfl rfl ?_
  refine tw_iadd d_X12_mapOf_11 ?_
  refine tw_iald hL s_154 d_X12_mapOf_12 h.1 ?_
  replace h := h.2
  exact tw_iret rfl ⟨Nat.zero_le _, Nat.zero_le _⟩ d_X12_mapOf_13 h

theorem d_X12_arm_0 : decode Y_X12_arm.cc 0 = .ok (.aload_n 0, 1) := by decide +kernel
theorem d_X12_arm_1 : decode Y_X12_arm.cc 1 = .ok (.iconst 0, 1) := by decide +kernel
theorem d_X12_arm_2 : decode Y_X12_arm.cc 2 = .ok (.putfield 1, 3) := by decide +kernel
theorem d_X12_arm_5 : decode Y_X12_arm.cc 5 = .ok (.aload_n 0, 1) := by decide +kernel
theorem d_X12_arm_6 : decode Y_X12_arm.cc 6 = .ok (.iload_n 1, 1) := by decide +kernel
theorem d_X12_arm_7 : decode Y_X12_arm.cc 7 = .ok (.invokevirtual 187, 3) := by decide +kernel
theorem d_X12_arm_10 : decode Y_X12_arm.cc 10 = .ok (.ifCond .ne 5, 3) := by decide +kernel
theorem d_X12_arm_13 : decode Y_X12_arm.cc 13 = .ok (.iconst (-1), 1) := by decide +kernel
theorem d_X12_arm_14 : decode Y_X12_arm.cc 14 = .ok (.ireturn, 1) := by decide +kernel
theorem d_X12_arm_15 : decode Y_X12_arm.cc 15 = .ok (.iload_n 2, 1) := by decide +kernel
theorem d_X12_arm_16 : decode Y_X12_arm.cc 16 = .ok (.tableswitch 134 0 9 #[56, 63, 71, 79, 87, 95, 103, 111, 119, 127], 56) := by decide +kernel
theorem d_X12_arm_72 : decode Y_X12_arm.cc 72 = .ok (.aload_n 0, 1) := by decide +kernel
theorem d_X12_arm_73 : decode Y_X12_arm.cc 73 = .ok (.iload_n 1, 1) := by decide +kernel
theorem d_X12_arm_74 : decode Y_X12_arm.cc 74 = .ok (.iconst 0, 1) := by decide +kernel
theorem d_X12_arm_75 : decode Y_X12_arm.cc 75 = .ok (.invokevirtual 190, 3) := by decide +kernel
theorem d_X12_arm_78 : decode Y_X12_arm.cc 78 = .ok (.ireturn, 1) := by decide +kernel
theorem d_X12_arm_79 : decode Y_X12_arm.cc 79 = .ok (.aload_n 0, 1) := by decide +kernel
theorem d_X12_arm_80 : decode Y_X12_arm.cc 80 = .ok (.iload_n 1, 1) := by decide +kernel
theorem d_X12_arm_81 : decode Y_X12_arm.cc 81 = .ok (.bipush 6, 2) := by decide +kernel
theorem d_X12_arm_83 : decode Y_X12_arm.cc 83 = .ok (.invokevirtual 190, 3) := by decide +kernel
theorem d_X12_arm_86 : decode Y_X12_arm.cc 86 = .ok (.ireturn, 1) := by decide +kernel
theorem d_X12_arm_87 : decode Y_X12_arm.cc 87 = .ok (.aload_n 0, 1) := by decide +kernel
theorem d_X12_arm_88 : decode Y_X12_arm.cc 88 = .ok (.iload_n 1, 1) := by decide +kernel
theorem d_X12_arm_89 : decode Y_X12_arm.cc 89 = .ok (.bipush 7, 2) := by decide +kernel
theorem d_X12_arm_91 : decode Y_X12_arm.cc 91 = .ok (.invokevirtual 190, 3) := by decide +kernel
theorem d_X12_arm_94 : decode Y_X12_arm.cc 94 = .ok (.ireturn, 1) := by decide +kernel
theorem d_X12_arm_95 : decode Y_X12_arm.cc 95 = .ok (.aload_n 0, 1) := by decide +kernel
theorem d_X12_arm_96 : decode Y_X12_arm.cc 96 = .ok (.iload_n 1, 1) := by decide +kernel
theorem d_X12_arm_97 : decode Y_X12_arm.cc 97 = .ok (.bipush 8, 2) := by decide +kernel
theorem d_X12_arm_99 : decode Y_X12_arm.cc 99 = .ok (.invokevirtual 190, 3) := by decide +kernel
theorem d_X12_arm_102 : decode Y_X12_arm.cc 102 = .ok (.ireturn, 1) := by decide +kernel
theorem d_X12_arm_103 : decode Y_X12_arm.cc 103 = .ok (.aload_n 0, 1) := by decide +kernel
theorem d_X12_arm_104 : decode Y_X12_arm.cc 104 = .ok (.iload_n 1, 1) := by decide +kernel
theorem d_X12_arm_105 : decode Y_X12_arm.cc 105 = .ok (.bipush 9, 2) := by decide +kernel
theorem d_X12_arm_107 : decode Y_X12_arm.cc 107 = .ok (.invokevirtual 190, 3) := by decide +kernel
theorem d_X12_arm_110 : decode Y_X12_arm.cc 110 = .ok (.ireturn, 1) := by decide +kernel
theorem d_X12_arm_111 : decode Y_X12_arm.cc 111 = .ok (.aload_n 0, 1) := by decide +kernel
theorem d_X12_arm_112 : decode Y_X12_arm.cc 112 = .ok (.iload_n 1, 1) := by decide +kernel
theorem d_X12_arm_113 : decode Y_X12_arm.cc 113 = .ok (.bipush 10, 2) := by decide +kernel
theorem d_X12_arm_115 : decode Y_X12_arm.cc 115 = .ok (.invokevirtual 190, 3) := by decide +kernel
theorem d_X12_arm_118 : decode Y_X12_arm.cc 118 = .ok (.ireturn, 1) := by decide +kernel
theorem d_X12_arm_119 : decode Y_X12_arm.cc 119 = .ok (.aload_n 0, 1) := by decide +kernel
theorem d_X12_arm_120 : decode Y_X12_arm.cc 120 = .ok (.iload_n 1, 1) := by decide +kernel
theorem d_X12_arm_121 : decode Y_X12_arm.cc 121 = .ok (.bipush 11, 2) := by decide +kernel
theorem d_X12_arm_123 : decode Y_X12_arm.cc 123 = .ok (.invokevirtual 190, 3) := by decide +kernel
theorem d_X12_arm_126 : decode Y_X12_arm.cc 126 = .ok (.ireturn, 1) := by decide +kernel
theorem d_X12_arm_127 : decode Y_X12_arm.cc 127 = .ok (.aload_n 0, 1) := by decide +kernel
theorem d_X12_arm_128 : decode Y_X12_arm.cc 128 = .ok (.iload_n 1, 1) := by decide +kernel
theorem d_X12_arm_129 : decode Y_X12_arm.cc 129 = .ok (.bipush 12, 2) := by decide +kernel
theorem d_X12_arm_131 : decode Y_X12_arm.cc 131 = .ok (.invokevirtual 190, 3) := by decide +kernel
theorem d_X12_arm_134 : decode Y_X12_arm.cc 134 = .ok (.ireturn, 1) := by decide +kernel
theorem d_X12_arm_135 : decode Y_X12_arm.cc 135 = .ok (.aload_n 0, 1) := by decide +kernel
theorem d_X12_arm_136 : decode Y_X12_arm.cc 136 = .ok (.iload_n 1, 1) := by decide +kernel
theorem d_X12_arm_137 : decode Y_X12_arm.cc 137 = .ok (.bipush 13, 2) := by decide +kernel
theorem d_X12_arm_139 : decode Y_X12_arm.cc 139 = .ok (.invokevirtual 190, 3) := by decide +kernel
theorem d_X12_arm_142 : decode Y_X12_arm.cc 142 = .ok (.ireturn, 1) := by decide +kernel
theorem d_X12_arm_143 : decode Y_X12_arm.cc 143 = .ok (.aload_n 0, 1) := by decide +kernel
theorem d_X12_arm_144 : decode Y_X12_arm.cc 144 = .ok (.iload_n 1, 1) := by decide +kernel
theorem d_X12_arm_145 : decode Y_X12_arm.cc 145 = .ok (.iconst 1, 1) := by decide +kernel
theorem d_X12_arm_146 : decode Y_X12_arm.cc 146 = .ok (.invokevirtual 190, 3) := by decide +kernel
theorem d_X12_arm_149 : decode Y_X12_arm.cc 149 = .ok (.ireturn, 1) := by decide +kernel
theorem d_X12_arm_150 : decode Y_X12_arm.cc 150 = .ok (.iconst (-1), 1) := by decide +kernel
theorem d_X12_arm_151 : decode Y_X12_arm.cc 151 = .ok (.ireturn, 1) := by decide +kernel
theorem b_X12_arm {G : MG} {d : Nat} {Q : Int32 → Mm → Prop} {x1 : Int32} {x2 : Int32} {M : Mm} {c : Nat} (hL : Lay c M)  (h : (∀ M1 : Mm, M1 = sI M 147 0 0 → (C G Y_X12_isArm d [.ref (G.b + 147), .int x1] M1 (Ri fun r3 M2 => M2.2.2 = M1.2.2 ∧ ((¬ r3 = 0 → ((x2 = 0 → (C G Y_X12_of d [.ref (G.b + 147), .int x1, .int 0] M2 (Ri fun r6 M5 => M5.2.2 = M2.2.2 ∧ Q r6 M5))) ∧ (x2 = 1 → (C G Y_X12_of d [.ref (G.b + 147), .int x1, .int 6] M2 (Ri fun r8 M7 => M7.2.2 = M2.2.2 ∧ Q r8 M7))) ∧ (x2 = 2 → (C G Y_X12_of d [.ref (G.b + 147), .int x1, .int 7] M2 (Ri fun r10 M9 => M9.2.2 = M2.2.2 ∧ Q r10 M9))) ∧ (x2 = 3 → (C G Y_X12_of d [.ref (G.b + 147), .int x1, .int 8] M2 (Ri fun r12 M11 => M11.2.2 = M2.2.2 ∧ Q r12 M11))) ∧ (x2 = 4 → (C G Y_X12_of d [.ref (G.b + 147), .int x1, .int 9] M2 (Ri fun r14 M13 => M13.2.2 = M2.2.2 ∧ Q r14 M13))) ∧ (x2 = 5 → (C G Y_X12_of d [.ref (G.b + 147), .int x1, .int 10] M2 (Ri fun r16 M15 => M15.2.2 = M2.2.2 ∧ Q r16 M15))) ∧ (x2 = 6 → (C G Y_X12_of d [.ref (G.b + 147), .int x1, .int 11] M2 (Ri fun r18 M17 => M17.2.2 = M2.2.2 ∧ Q r18 M17))) ∧ (x2 = 7 → (C G Y_X12_of d [.ref (G.b + 147), .int x1, .int 12] M2 (Ri fun r20 M19 => M19.2.2 = M2.2.2 ∧ Q r20 M19))) ∧ (x2 = 8 → (C G Y_X12_of d [.ref (G.b + 147), .int x1, .int 13] M2 (Ri fun r22 M21 => M21.2.2 = M2.2.2 ∧ Q r22 M21))) ∧ (x2 = 9 → (C G Y_X12_of d [.ref (G.b + 147), .int x1, .int 1] M2 (Ri fun r24 M23 => M23.2.2 = M2.2.2 ∧ Q r24 M23))) ∧ (¬ x2 = 0 → ¬ x2 = 1 → ¬ x2 = 2 → ¬ x2 = 3 → ¬ x2 = 4 → ¬ x2 = 5 → ¬ x2 = 6 → ¬ x2 = 7 → ¬ x2 = 8 → ¬ x2 = 9 → Q (-1) M2))) ∧ (r3 = 0 → Q (-1) M2)))))) : C G Y_X12_arm (d + 1) [.ref (G.b + 147), .int x1, .int x2] M (Ri Q) := by
  refine C.of (by decide) (Nat.le_of_ble_eq_true rfl) (lv := [(0, .ref (G.b + 147)), (1, .int x1), (2, .int x2)]) rfl ?_
  refine tw_aload_n 0 d_X12_arm_0 rfl rfl ?_
  refine tw_iconst d_X12_arm_1 k_0 ?_
  refine tu_putI f_X12_1 hL s_147 rfl rfl d_X12_arm_2 (fun M1 e_M1 hL_M1 => ?_)
  replace h := h M1 e_M1
  refine tw_aload_n 0 d_X12_arm_5 rfl rfl ?_
  refine tw_iload_n 1 d_X12_arm_6 rfl rfl ?_
  refine tu_cVi (As := [.int x1]) cv_X12_187 hL_M1 s_147 rfl (Nat.le_of_ble_eq_true rfl) ⟨Nat.zero_le _, Nat.zero_le _⟩ d_X12_arm_7 h (fun r3 M2 h => ?_)
  have hL_M2 : Lay c M2 := hL_M1.to h.1
  replace h := h.2
  refine tw_if_ne 15 d_X12_arm_10 (by decide) (fun z4 => ?_) (fun z4 => ?_)
  · replace h := h.1 z4
    refine tw_iload_n 2 d_X12_arm_15 rfl rfl ?_
    by_cases hz0 : x2 = 0
    · replace h := h.1 hz0
      refine tw_tabIn 72 d_X12_arm_16 (by rw [hz0]; decide) (by rw [hz0]; decide) (by rw [hz0]; rfl) (by decide) ?_
      refine tw_aload_n 0 d_X12_arm_72 rfl rfl ?_
      refine tw_iload_n 1 d_X12_arm_73 rfl rfl ?_
      refine tw_iconst d_X12_arm_74 k_0 ?_
      refine tu_cVi (As := [.int x1, .int 0]) cv_X12_190 hL_M2 s_147 rfl (Nat.le_of_ble_eq_true rfl) ⟨Nat.zero_le _, Nat.zero_le _⟩ d_X12_arm_75 h (fun r6 M5 h => ?_)
      have hL_M5 : Lay c M5 := hL_M2.to h.1
      replace h := h.2
      exact tw_iret rfl ⟨Nat.zero_le _, Nat.zero_le _⟩ d_X12_arm_78 h
    by_cases hz1 : x2 = 1
    · replace h := h.2.1 hz1
      refine tw_tabIn 79 d_X12_arm_16 (by rw [hz1]; decide) (by rw [hz1]; decide) (by rw [hz1]; rfl) (by decide) ?_
      refine tw_aload_n 0 d_X12_arm_79 rfl rfl ?_
      refine tw_iload_n 1 d_X12_arm_80 rfl rfl ?_
      refine tw_bipush d_X12_arm_81 kb_6 ?_
      refine tu_cVi (As := [.int x1, .int 6]) cv_X12_190 hL_M2 s_147 rfl (Nat.le_of_ble_eq_true rfl) ⟨Nat.zero_le _, Nat.zero_le _⟩ d_X12_arm_83 h (fun r8 M7 h => ?_)
      have hL_M7 : Lay c M7 := hL_M2.to h.1
      replace h := h.2
      exact tw_iret rfl ⟨Nat.zero_le _, Nat.zero_le _⟩ d_X12_arm_86 h
    by_cases hz2 : x2 = 2
    · replace h := h.2.2.1 hz2
      refine tw_tabIn 87 d_X12_arm_16 (by rw [hz2]; decide) (by rw [hz2]; decide) (by rw [hz2]; rfl) (by decide) ?_
      refine tw_aload_n 0 d_X12_arm_87 rfl rfl ?_
      refine tw_iload_n 1 d_X12_arm_88 rfl rfl ?_
      refine tw_bipush d_X12_arm_89 kb_7 ?_
      refine tu_cVi (As := [.int x1, .int 7]) cv_X12_190 hL_M2 s_147 rfl (Nat.le_of_ble_eq_true rfl) ⟨Nat.zero_le _, Nat.zero_le _⟩ d_X12_arm_91 h (fun r10 M9 h => ?_)
      have hL_M9 : Lay c M9 := hL_M2.to h.1
      replace h := h.2
      exact tw_iret rfl ⟨Nat.zero_le _, Nat.zero_le _⟩ d_X12_arm_94 h
    by_cases hz3 : x2 = 3
    · replace h := h.2.2.2.1 hz3
      refine tw_tabIn 95 d_X12_arm_16 (by rw [hz3]; decide) (by rw [hz3]; decide) (by rw [hz3]; rfl) (by decide) ?_
      refine tw_aload_n 0 d_X12_arm_95 rfl rfl ?_
      refine tw_iload_n 1 d_X12_arm_96 rfl rfl ?_
      refine tw_bipush d_X12_arm_97 kb_8 ?_
      refine tu_cVi (As := [.int x1, .int 8]) cv_X12_190 hL_M2 s_147 rfl (Nat.le_of_ble_eq_true rfl) ⟨Nat.zero_le _, Nat.zero_le _⟩ d_X12_arm_99 h (fun r12 M11 h => ?_)
      have hL_M11 : Lay c M11 := hL_M2.to h.1
      replace h := h.2
      exact tw_iret rfl ⟨Nat.zero_le _, Nat.zero_le _⟩ d_X12_arm_102 h
    by_cases hz4 : x2 = 4
    · replace h := h.2.2.2.2.1 hz4
      refine tw_tabIn 103 d_X12_arm_16 (by rw [hz4]; decide) (by rw [hz4]; decide) (by rw [hz4]; rfl) (by decide) ?_
      refine tw_aload_n 0 d_X12_arm_103 rfl rfl ?_
      refine tw_iload_n 1 d_X12_arm_104 rfl rfl ?_
      refine tw_bipush d_X12_arm_105 kb_9 ?_
      refine tu_cVi (As := [.int x1, .int 9]) cv_X12_190 hL_M2 s_147 rfl (Nat.le_of_ble_eq_true rfl) ⟨Nat.zero_le _, Nat.zero_le _⟩ d_X12_arm_107 h (fun r14 M13 h => ?_)
      have hL_M13 : Lay c M13 := hL_M2.to h.1
      replace h := h.2
      exact tw_iret rfl ⟨Nat.zero_le _, Nat.zero_le _⟩ d_X12_arm_110 h
    by_cases hz5 : x2 = 5
    · replace h := h.2.2.2.2.2.1 hz5
      refine tw_tabIn 111 d_X12_arm_16 (by rw [hz5]; decide) (by rw [hz5]; decide) (by rw [hz5]; rfl) (by decide) ?_
      refine tw_aload_n 0 d_X12_arm_111 rfl rfl ?_
      refine tw_iload_n 1 d_X12_arm_112 rfl rfl ?_
      refine tw_bipush d_X12_arm_113 kb_10 ?_
      refine tu_cVi (As := [.int x1, .int 10]) cv_X12_190 hL_M2 s_147 rfl (Nat.le_of_ble_eq_true rfl) ⟨Nat.zero_le _, Nat.zero_le _⟩ d_X12_arm_115 h (fun r16 M15 h => ?_)
      have hL_M15 : Lay c M15 := hL_M2.to h.1
      replace h := h.2
      exact tw_iret rfl ⟨Nat.zero_le _, Nat.zero_le _⟩ d_X12_arm_118 h
    by_cases hz6 : x2 = 6
    · replace h := h.2.2.2.2.2.2.1 hz6
      refine tw_tabIn 119 d_X12_arm_16 (by rw [hz6]; decide) (by rw [hz6]; decide) (by rw [hz6]; rfl) (by decide) ?_
      refine tw_aload_n 0 d_X12_arm_119 rfl rfl ?_
      refine tw_iload_n 1 d_X12_arm_120 rfl rfl ?_
      refine tw_bipush d_X12_arm_121 kb_11 ?_
      refine tu_cVi (As := [.int x1, .int 11]) cv_X12_190 hL_M2 s_147 rfl (Nat.le_of_ble_eq_true rfl) ⟨Nat.zero_le _, Nat.zero_le _⟩ d_X12_arm_123 h (fun r18 M17 h => ?_)
      have hL_M17 : Lay c M17 := hL_M2.to h.1
      replace h := h.2
      exact tw_iret rfl ⟨Nat.zero_le _, Nat.zero_le _⟩ d_X12_arm_126 h
    by_cases hz7 : x2 = 7
    · replace h := h.2.2.2.2.2.2.2.1 hz7
      refine tw_tabIn 127 d_X12_arm_16 (by rw [hz7]; decide) (by rw [hz7]; decide) (by rw [hz7]; rfl) (by decide) ?_
      refine tw_aload_n 0 d_X12_arm_127 rfl rfl ?_
      refine tw_iload_n 1 d_X12_arm_128 rfl rfl ?_
      refine tw_bipush d_X12_arm_129 kb_12 ?_
      refine tu_cVi (As := [.int x1, .int 12]) cv_X12_190 hL_M2 s_147 rfl (Nat.le_of_ble_eq_true rfl) ⟨Nat.zero_le _, Nat.zero_le _⟩ d_X12_arm_131 h (fun r20 M19 h => ?_)
      have hL_M19 : Lay c M19 := hL_M2.to h.1
      replace h := h.2
      exact tw_iret rfl ⟨Nat.zero_le _, Nat.zero_le _⟩ d_X12_arm_134 h
    by_cases hz8 : x2 = 8
    · replace h := h.2.2.2.2.2.2.2.2.1 hz8
      refine tw_tabIn 135 d_X12_arm_16 (by rw [hz8]; decide) (by rw [hz8]; decide) (by rw [hz8]; rfl) (by decide) ?_
      refine tw_aload_n 0 d_X12_arm_135 rfl rfl ?_
      refine tw_iload_n 1 d_X12_arm_136 rfl rfl ?_
      refine tw_bipush d_X12_arm_137 kb_13 ?_
      refine tu_cVi (As := [.int x1, .int 13]) cv_X12_190 hL_M2 s_147 rfl (Nat.le_of_ble_eq_true rfl) ⟨Nat.zero_le _, Nat.zero_le _⟩ d_X12_arm_139 h (fun r22 M21 h => ?_)
      have hL_M21 : Lay c M21 := hL_M2.to h.1
      replace h := h.2
      exact tw_iret rfl ⟨Nat.zero_le _, Nat.zero_le _⟩ d_X12_arm_142 h
    by_cases hz9 : x2 = 9
    · replace h := h.2.2.2.2.2.2.2.2.2.1 hz9
      refine tw_tabIn 143 d_X12_arm_16 (by rw [hz9]; decide) (by rw [hz9]; decide) (by rw [hz9]; rfl) (by decide) ?_
      refine tw_aload_n 0 d_X12_arm_143 rfl rfl ?_
      refine tw_iload_n 1 d_X12_arm_144 rfl rfl ?_
      refine tw_iconst d_X12_arm_145 k_1 ?_
      refine tu_cVi (As := [.int x1, .int 1]) cv_X12_190 hL_M2 s_147 rfl (Nat.le_of_ble_eq_true rfl) ⟨Nat.zero_le _, Nat.zero_le _⟩ d_X12_arm_146 h (fun r24 M23 h => ?_)
      have hL_M23 : Lay c M23 := hL_M2.to h.1
      replace h := h.2
      exact tw_iret rfl ⟨Nat.zero_le _, Nat.zero_le _⟩ d_X12_arm_149 h
    replace h := h.2.2.2.2.2.2.2.2.2.2 hz0 hz1 hz2 hz3 hz4 hz5 hz6 hz7 hz8 hz9
    refine tw_tabOut 150 d_X12_arm_16 (tab_out_0_9 hz0 hz1 hz2 hz3 hz4 hz5 hz6 hz7 hz8 hz9) (by decide) ?_
    refine tw_iconst d_X12_arm_150 k_m1 ?_
    exact tw_iret rfl ⟨Nat.zero_le _, Nat.zero_le _⟩ d_X12_arm_151 h
  · replace h := h.2 z4
    refine tw_iconst d_X12_arm_13 k_m1 ?_
    exact tw_iret rfl ⟨Nat.zero_le _, Nat.zero_le _⟩ d_X12_arm_14 h

theorem d_X12_hole_0 : decode Y_X12_hole.cc 0 = .ok (.aload_n 0, 1) := by decide +kernel
theorem d_X12_hole_1 : decode Y_X12_hole.cc 1 = .ok (.iconst 0, 1) := by decide +kernel
theorem d_X12_hole_2 : decode Y_X12_hole.cc 2 = .ok (.putfield 1, 3) := by decide +kernel
theorem d_X12_hole_5 : decode Y_X12_hole.cc 5 = .ok (.aload_n 0, 1) := by decide +kernel
theorem d_X12_hole_6 : decode Y_X12_hole.cc 6 = .ok (.iload_n 1, 1) := by decide +kernel
theorem d_X12_hole_7 : decode Y_X12_hole.cc 7 = .ok (.invokevirtual 187, 3) := by decide +kernel
theorem d_X12_hole_10 : decode Y_X12_hole.cc 10 = .ok (.ifCond .eq 28, 3) := by decide +kernel
theorem d_X12_hole_13 : decode Y_X12_hole.cc 13 = .ok (.iload_n 2, 1) := by decide +kernel
theorem d_X12_hole_14 : decode Y_X12_hole.cc 14 = .ok (.ifCond .lt 24, 3) := by decide +kernel
theorem d_X12_hole_17 : decode Y_X12_hole.cc 17 = .ok (.iload_n 2, 1) := by decide +kernel
theorem d_X12_hole_18 : decode Y_X12_hole.cc 18 = .ok (.aload_n 0, 1) := by decide +kernel
theorem d_X12_hole_19 : decode Y_X12_hole.cc 19 = .ok (.iload_n 1, 1) := by decide +kernel
theorem d_X12_hole_20 : decode Y_X12_hole.cc 20 = .ok (.iconst 1, 1) := by decide +kernel
theorem d_X12_hole_21 : decode Y_X12_hole.cc 21 = .ok (.invokevirtual 190, 3) := by decide +kernel
theorem d_X12_hole_24 : decode Y_X12_hole.cc 24 = .ok (.if_icmp .ge 14, 3) := by decide +kernel
theorem d_X12_hole_27 : decode Y_X12_hole.cc 27 = .ok (.aload_n 0, 1) := by decide +kernel
theorem d_X12_hole_28 : decode Y_X12_hole.cc 28 = .ok (.iload_n 1, 1) := by decide +kernel
theorem d_X12_hole_29 : decode Y_X12_hole.cc 29 = .ok (.iconst 2, 1) := by decide +kernel
theorem d_X12_hole_30 : decode Y_X12_hole.cc 30 = .ok (.iload_n 2, 1) := by decide +kernel
theorem d_X12_hole_31 : decode Y_X12_hole.cc 31 = .ok (.iadd, 1) := by decide +kernel
theorem d_X12_hole_32 : decode Y_X12_hole.cc 32 = .ok (.invokevirtual 190, 3) := by decide +kernel
theorem d_X12_hole_35 : decode Y_X12_hole.cc 35 = .ok (.goto 4, 3) := by decide +kernel
theorem d_X12_hole_38 : decode Y_X12_hole.cc 38 = .ok (.iconst (-1), 1) := by decide +kernel
theorem d_X12_hole_39 : decode Y_X12_hole.cc 39 = .ok (.ireturn, 1) := by decide +kernel
theorem b_X12_hole {G : MG} {d : Nat} {Q : Int32 → Mm → Prop} {x1 : Int32} {x2 : Int32} {M : Mm} {c : Nat} (hL : Lay c M)  (h : (∀ M1 : Mm, M1 = sI M 147 0 0 → (C G Y_X12_isArm d [.ref (G.b + 147), .int x1] M1 (Ri fun r3 M2 => M2.2.2 = M1.2.2 ∧ ((r3 = 0 → Q (-1) M2) ∧ (¬ r3 = 0 → ((x2 < 0 → Q (-1) M2) ∧ (¬ x2 < 0 → (C G Y_X12_of d [.ref (G.b + 147), .int x1, .int 1] M2 (Ri fun r7 M6 => M6.2.2 = M2.2.2 ∧ ((r7 ≤ x2 → Q (-1) M6) ∧ (¬ r7 ≤ x2 → (C G Y_X12_of d [.ref (G.b + 147), .int x1, .int (2 + x2)] M6 (Ri fun r10 M9 => M9.2.2 = M6.2.2 ∧ Q r10 M9)))))))))))))) : C G Y_X12_hole (d + 1) [.ref (G.b + 147), .int x1, .int x2] M (Ri Q) := by
  refine C.of (by decide) (Nat.le_of_ble_eq_true rfl) (lv := [(0, .ref (G.b + 147)), (1, .int x1), (2, .int x2)]) rfl ?_
  refine tw_aload_n 0 d_X12_hole_0 rfl rfl ?_
  refine tw_iconst d_X12_hole_1 k_0 ?_
  refine tu_putI f_X12_1 hL s_147 rfl rfl d_X12_hole_2 (fun M1 e_M1 hL_M1 => ?_)
  replace h := h M1 e_M1
  refine tw_aload_n 0 d_X12_hole_5 rfl rfl ?_
  refine tw_iload_n 1 d_X12_hole_6 rfl rfl ?_
  refine tu_cVi (As := [.int x1]) cv_X12_187 hL_M1 s_147 rfl (Nat.le_of_ble_eq_true rfl) ⟨Nat.zero_le _, Nat.zero_le _⟩ d_X12_hole_7 h (fun r3 M2 h => ?_)
  have hL_M2 : Lay c M2 := hL_M1.to h.1
  replace h := h.2
  refine tw_if_eq 38 d_X12_hole_10 (by decide) (fun z4 => ?_) (fun z4 => ?_)
  · replace h := h.1 z4
    refine tw_iconst d_X12_hole_38 k_m1 ?_
    exact tw_iret rfl ⟨Nat.zero_le _, Nat.zero_le _⟩ d_X12_hole_39 h
  · replace h := h.2 z4
    refine tw_iload_n 2 d_X12_hole_13 rfl rfl ?_
    refine tw_if_lt 38 d_X12_hole_14 (by decide) (fun z5 => ?_) (fun z5 => ?_)
    · replace h := h.1 z5
      refine tw_iconst d_X12_hole_38 k_m1 ?_
      exact tw_iret rfl ⟨Nat.zero_le _, Nat.zero_le _⟩ d_X12_hole_39 h
    · replace h := h.2 z5
      refine tw_iload_n 2 d_X12_hole_17 rfl rfl ?_
      refine tw_aload_n 0 d_X12_hole_18 rfl rfl ?_
      refine tw_iload_n 1 d_X12_hole_19 rfl rfl ?_
      refine tw_iconst d_X12_hole_20 k_1 ?_
      refine tu_cVi (As := [.int x1, .int 1]) cv_X12_190 hL_M2 s_147 rfl (Nat.le_of_ble_eq_true rfl) ⟨Nat.zero_le _, Nat.zero_le _⟩ d_X12_hole_21 h (fun r7 M6 h => ?_)
      have hL_M6 : Lay c M6 := hL_M2.to h.1
      replace h := h.2
      refine tw_icmp_ge 38 d_X12_hole_24 (by decide) (fun z8 => ?_) (fun z8 => ?_)
      · replace h := h.1 z8
        refine tw_iconst d_X12_hole_38 k_m1 ?_
        exact tw_iret rfl ⟨Nat.zero_le _, Nat.zero_le _⟩ d_X12_hole_39 h
      · replace h := h.2 z8
        refine tw_aload_n 0 d_X12_hole_27 rfl rfl ?_
        refine tw_iload_n 1 d_X12_hole_28 rfl rfl ?_
        refine tw_iconst d_X12_hole_29 k_2 ?_
        refine tw_iload_n 2 d_X12_hole_30 rfl rfl ?_
        refine tw_iadd d_X12_hole_31 ?_
        refine tu_cVi (As := [.int x1, .int (2 + x2)]) cv_X12_190 hL_M6 s_147 rfl (Nat.le_of_ble_eq_true rfl) ⟨Nat.zero_le _, Nat.zero_le _⟩ d_X12_hole_32 h (fun r10 M9 h => ?_)
        have hL_M9 : Lay c M9 := hL_M6.to h.1
        replace h := h.2
        refine tw_goto 39 d_X12_hole_35 (by decide) ?_
        exact tw_iret rfl ⟨Nat.zero_le _, Nat.zero_le _⟩ d_X12_hole_39 h

theorem d_X12_map_0 : decode Y_X12_map.cc 0 = .ok (.aload_n 0, 1) := by decide +kernel
theorem d_X12_map_1 : decode Y_X12_map.cc 1 = .ok (.iconst 0, 1) := by decide +kernel
theorem d_X12_map_2 : decode Y_X12_map.cc 2 = .ok (.putfield 1, 3) := by decide +kernel
theorem d_X12_map_5 : decode Y_X12_map.cc 5 = .ok (.aload_n 0, 1) := by decide +kernel
theorem d_X12_map_6 : decode Y_X12_map.cc 6 = .ok (.iload_n 1, 1) := by decide +kernel
theorem d_X12_map_7 : decode Y_X12_map.cc 7 = .ok (.invokevirtual 193, 3) := by decide +kernel
theorem d_X12_map_10 : decode Y_X12_map.cc 10 = .ok (.ifCond .eq 21, 3) := by decide +kernel
theorem d_X12_map_13 : decode Y_X12_map.cc 13 = .ok (.iload_n 2, 1) := by decide +kernel
theorem d_X12_map_14 : decode Y_X12_map.cc 14 = .ok (.iconst 0, 1) := by decide +kernel
theorem d_X12_map_15 : decode Y_X12_map.cc 15 = .ok (.iconst 3, 1) := by decide +kernel
theorem d_X12_map_16 : decode Y_X12_map.cc 16 = .ok (.invokestatic 196, 3) := by decide +kernel
theorem d_X12_map_19 : decode Y_X12_map.cc 19 = .ok (.ifCond .eq 12, 3) := by decide +kernel
theorem d_X12_map_22 : decode Y_X12_map.cc 22 = .ok (.aload_n 0, 1) := by decide +kernel
theorem d_X12_map_23 : decode Y_X12_map.cc 23 = .ok (.iload_n 1, 1) := by decide +kernel
theorem d_X12_map_24 : decode Y_X12_map.cc 24 = .ok (.iload_n 2, 1) := by decide +kernel
theorem d_X12_map_25 : decode Y_X12_map.cc 25 = .ok (.invokevirtual 200, 3) := by decide +kernel
theorem d_X12_map_28 : decode Y_X12_map.cc 28 = .ok (.goto 4, 3) := by decide +kernel
theorem d_X12_map_31 : decode Y_X12_map.cc 31 = .ok (.iconst (-1), 1) := by decide +kernel
theorem d_X12_map_32 : decode Y_X12_map.cc 32 = .ok (.ireturn, 1) := by decide +kernel
theorem b_X12_map {G : MG} {d : Nat} {Q : Int32 → Mm → Prop} {x1 : Int32} {x2 : Int32} {M : Mm} {c : Nat} (hL : Lay c M)  (h : (∀ M1 : Mm, M1 = sI M 147 0 0 → (C G Y_X12_isMap d [.ref (G.b + 147), .int x1] M1 (Ri fun r3 M2 => M2.2.2 = M1.2.2 ∧ ((r3 = 0 → Q (-1) M2) ∧ (¬ r3 = 0 → (C G Y_X12_within d [.int x2, .int 0, .int 3] M2 (Ri fun r6 M5 => M5.2.2 = M2.2.2 ∧ ((r6 = 0 → Q (-1) M5) ∧ (¬ r6 = 0 → (C G Y_X12_mapOf d [.ref (G.b + 147), .int x1, .int x2] M5 (Ri fun r9 M8 => M8.2.2 = M5.2.2 ∧ Q r9 M8)))))))))))) : C G Y_X12_map (d + 1) [.ref (G.b + 147), .int x1, .int x2] M (Ri Q) := by
  refine C.of (by decide) (Nat.le_of_ble_eq_true rfl) (lv := [(0, .ref (G.b + 147)), (1, .int x1), (2, .int x2)]) rfl ?_
  refine tw_aload_n 0 d_X12_map_0 rfl rfl ?_
  refine tw_iconst d_X12_map_1 k_0 ?_
  refine tu_putI f_X12_1 hL s_147 rfl rfl d_X12_map_2 (fun M1 e_M1 hL_M1 => ?_)
  replace h := h M1 e_M1
  refine tw_aload_n 0 d_X12_map_5 rfl rfl ?_
  refine tw_iload_n 1 d_X12_map_6 rfl rfl ?_
  refine tu_cVi (As := [.int x1]) cv_X12_193 hL_M1 s_147 rfl (Nat.le_of_ble_eq_true rfl) ⟨Nat.zero_le _, Nat.zero_le _⟩ d_X12_map_7 h (fun r3 M2 h => ?_)
  have hL_M2 : Lay c M2 := hL_M1.to h.1
  replace h := h.2
  refine tw_if_eq 31 d_X12_map_10 (by decide) (fun z4 => ?_) (fun z4 => ?_)
  · replace h := h.1 z4
    refine tw_iconst d_X12_map_31 k_m1 ?_
    exact tw_iret rfl ⟨Nat.zero_le _, Nat.zero_le _⟩ d_X12_map_32 h
  · replace h := h.2 z4
    refine tw_iload_n 2 d_X12_map_13 rfl rfl ?_
    refine tw_iconst d_X12_map_14 k_0 ?_
    refine tw_iconst d_X12_map_15 k_3 ?_
    refine tu_cSi (As := [.int x2, .int 0, .int 3]) cs_X12_196 rfl (Nat.le_of_ble_eq_true rfl) ⟨Nat.zero_le _, Nat.zero_le _⟩ d_X12_map_16 h (fun r6 M5 h => ?_)
    have hL_M5 : Lay c M5 := hL_M2.to h.1
    replace h := h.2
    refine tw_if_eq 31 d_X12_map_19 (by decide) (fun z7 => ?_) (fun z7 => ?_)
    · replace h := h.1 z7
      refine tw_iconst d_X12_map_31 k_m1 ?_
      exact tw_iret rfl ⟨Nat.zero_le _, Nat.zero_le _⟩ d_X12_map_32 h
    · replace h := h.2 z7
      refine tw_aload_n 0 d_X12_map_22 rfl rfl ?_
      refine tw_iload_n 1 d_X12_map_23 rfl rfl ?_
      refine tw_iload_n 2 d_X12_map_24 rfl rfl ?_
      refine tu_cVi (As := [.int x1, .int x2]) cv_X12_200 hL_M5 s_147 rfl (Nat.le_of_ble_eq_true rfl) ⟨Nat.zero_le _, Nat.zero_le _⟩ d_X12_map_25 h (fun r9 M8 h => ?_)
      have hL_M8 : Lay c M8 := hL_M5.to h.1
      replace h := h.2
      refine tw_goto 32 d_X12_map_28 (by decide) ?_
      exact tw_iret rfl ⟨Nat.zero_le _, Nat.zero_le _⟩ d_X12_map_32 h

theorem d_X12_point_0 : decode Y_X12_point.cc 0 = .ok (.aload_n 0, 1) := by decide +kernel
theorem d_X12_point_1 : decode Y_X12_point.cc 1 = .ok (.iconst 0, 1) := by decide +kernel
theorem d_X12_point_2 : decode Y_X12_point.cc 2 = .ok (.putfield 1, 3) := by decide +kernel
theorem d_X12_point_5 : decode Y_X12_point.cc 5 = .ok (.aload_n 0, 1) := by decide +kernel
theorem d_X12_point_6 : decode Y_X12_point.cc 6 = .ok (.iload_n 1, 1) := by decide +kernel
theorem d_X12_point_7 : decode Y_X12_point.cc 7 = .ok (.invokevirtual 193, 3) := by decide +kernel
theorem d_X12_point_10 : decode Y_X12_point.cc 10 = .ok (.ifCond .eq 40, 3) := by decide +kernel
theorem d_X12_point_13 : decode Y_X12_point.cc 13 = .ok (.iload_n 2, 1) := by decide +kernel
theorem d_X12_point_14 : decode Y_X12_point.cc 14 = .ok (.ifCond .lt 36, 3) := by decide +kernel
theorem d_X12_point_17 : decode Y_X12_point.cc 17 = .ok (.iload_n 2, 1) := by decide +kernel
theorem d_X12_point_18 : decode Y_X12_point.cc 18 = .ok (.aload_n 0, 1) := by decide +kernel
theorem d_X12_point_19 : decode Y_X12_point.cc 19 = .ok (.iload_n 1, 1) := by decide +kernel
theorem d_X12_point_20 : decode Y_X12_point.cc 20 = .ok (.iconst 3, 1) := by decide +kernel
theorem d_X12_point_21 : decode Y_X12_point.cc 21 = .ok (.invokevirtual 200, 3) := by decide +kernel
theorem d_X12_point_24 : decode Y_X12_point.cc 24 = .ok (.if_icmp .ge 26, 3) := by decide +kernel
theorem d_X12_point_27 : decode Y_X12_point.cc 27 = .ok (.aload_n 0, 1) := by decide +kernel
theorem d_X12_point_28 : decode Y_X12_point.cc 28 = .ok (.iload_n 1, 1) := by decide +kernel
theorem d_X12_point_29 : decode Y_X12_point.cc 29 = .ok (.iconst 4, 1) := by decide +kernel
theorem d_X12_point_30 : decode Y_X12_point.cc 30 = .ok (.iconst 2, 1) := by decide +kernel
theorem d_X12_point_31 : decode Y_X12_point.cc 31 = .ok (.iload_n 2, 1) := by decide +kernel
theorem d_X12_point_32 : decode Y_X12_point.cc 32 = .ok (.imul, 1) := by decide +kernel
theorem d_X12_point_33 : decode Y_X12_point.cc 33 = .ok (.iadd, 1) := by decide +kernel
theorem d_X12_point_34 : decode Y_X12_point.cc 34 = .ok (.iload_n 3, 1) := by decide +kernel
theorem d_X12_point_35 : decode Y_X12_point.cc 35 = .ok (.ifCond .eq 7, 3) := by decide +kernel
theorem d_X12_point_38 : decode Y_X12_point.cc 38 = .ok (.iconst 1, 1) := by decide +kernel
theorem d_X12_point_39 : decode Y_X12_point.cc 39 = .ok (.goto 4, 3) := by decide +kernel
theorem d_X12_point_42 : decode Y_X12_point.cc 42 = .ok (.iconst 0, 1) := by decide +kernel
theorem d_X12_point_43 : decode Y_X12_point.cc 43 = .ok (.iadd, 1) := by decide +kernel
theorem d_X12_point_44 : decode Y_X12_point.cc 44 = .ok (.invokevirtual 200, 3) := by decide +kernel
theorem d_X12_point_47 : decode Y_X12_point.cc 47 = .ok (.goto 4, 3) := by decide +kernel
theorem d_X12_point_50 : decode Y_X12_point.cc 50 = .ok (.iconst (-1), 1) := by decide +kernel
theorem d_X12_point_51 : decode Y_X12_point.cc 51 = .ok (.ireturn, 1) := by decide +kernel
theorem b_X12_point {G : MG} {d : Nat} {Q : Int32 → Mm → Prop} {x1 : Int32} {x2 : Int32} {x3 : Int32} {M : Mm} {c : Nat} (hL : Lay c M)  (h : (∀ M1 : Mm, M1 = sI M 147 0 0 → (C G Y_X12_isMap d [.ref (G.b + 147), .int x1] M1 (Ri fun r3 M2 => M2.2.2 = M1.2.2 ∧ ((r3 = 0 → Q (-1) M2) ∧ (¬ r3 = 0 → ((x2 < 0 → Q (-1) M2) ∧ (¬ x2 < 0 → (C G Y_X12_mapOf d [.ref (G.b + 147), .int x1, .int 3] M2 (Ri fun r7 M6 => M6.2.2 = M2.2.2 ∧ ((r7 ≤ x2 → Q (-1) M6) ∧ (¬ r7 ≤ x2 → ((x3 = 0 → (C G Y_X12_mapOf d [.ref (G.b + 147), .int x1, .int ((4 + (2 * x2)) + 0)] M6 (Ri fun r11 M10 => M10.2.2 = M6.2.2 ∧ Q r11 M10))) ∧ (¬ x3 = 0 → (C G Y_X12_mapOf d [.ref (G.b + 147), .int x1, .int ((4 + (2 * x2)) + 1)] M6 (Ri fun r13 M12 => M12.2.2 = M6.2.2 ∧ Q r13 M12)))))))))))))))) : C G Y_X12_point (d + 1) [.ref (G.b + 147), .int x1, .int x2, .int x3] M (Ri Q) := by
  refine C.of (by decide) (Nat.le_of_ble_eq_true rfl) (lv := [(0, .ref (G.b + 147)), (1, .int x1), (2, .int x2), (3, .int x3)]) rfl ?_
  refine tw_aload_n 0 d_X12_point_0 rfl rfl ?_
  refine tw_iconst d_X12_point_1 k_0 ?_
  refine tu_putI f_X12_1 hL s_147 rfl rfl d_X12_point_2 (fun M1 e_M1 hL_M1 => ?_)
  replace h := h M1 e_M1
  refine tw_aload_n 0 d_X12_point_5 rfl rfl ?_
  refine tw_iload_n 1 d_X12_point_6 rfl rfl ?_
  refine tu_cVi (As := [.int x1]) cv_X12_193 hL_M1 s_147 rfl (Nat.le_of_ble_eq_true rfl) ⟨Nat.zero_le _, Nat.zero_le _⟩ d_X12_point_7 h (fun r3 M2 h => ?_)
  have hL_M2 : Lay c M2 := hL_M1.to h.1
  replace h := h.2
  refine tw_if_eq 50 d_X12_point_10 (by decide) (fun z4 => ?_) (fun z4 => ?_)
  · replace h := h.1 z4
    refine tw_iconst d_X12_point_50 k_m1 ?_
    exact tw_iret rfl ⟨Nat.zero_le _, Nat.zero_le _⟩ d_X12_point_51 h
  · replace h := h.2 z4
    refine tw_iload_n 2 d_X12_point_13 rfl rfl ?_
    refine tw_if_lt 50 d_X12_point_14 (by decide) (fun z5 => ?_) (fun z5 => ?_)
    · replace h := h.1 z5
      refine tw_iconst d_X12_point_50 k_m1 ?_
      exact tw_iret rfl ⟨Nat.zero_le _, Nat.zero_le _⟩ d_X12_point_51 h
    · replace h := h.2 z5
      refine tw_iload_n 2 d_X12_point_17 rfl rfl ?_
      refine tw_aload_n 0 d_X12_point_18 rfl rfl ?_
      refine tw_iload_n 1 d_X12_point_19 rfl rfl ?_
      refine tw_iconst d_X12_point_20 k_3 ?_
      refine tu_cVi (As := [.int x1, .int 3]) cv_X12_200 hL_M2 s_147 rfl (Nat.le_of_ble_eq_true rfl) ⟨Nat.zero_le _, Nat.zero_le _⟩ d_X12_point_21 h (fun r7 M6 h => ?_)
      have hL_M6 : Lay c M6 := hL_M2.to h.1
      replace h := h.2
      refine tw_icmp_ge 50 d_X12_point_24 (by decide) (fun z8 => ?_) (fun z8 => ?_)
      · replace h := h.1 z8
        refine tw_iconst d_X12_point_50 k_m1 ?_
        exact tw_iret rfl ⟨Nat.zero_le _, Nat.zero_le _⟩ d_X12_point_51 h
      · replace h := h.2 z8
        refine tw_aload_n 0 d_X12_point_27 rfl rfl ?_
        refine tw_iload_n 1 d_X12_point_28 rfl rfl ?_
        refine tw_iconst d_X12_point_29 k_4 ?_
        refine tw_iconst d_X12_point_30 k_2 ?_
        refine tw_iload_n 2 d_X12_point_31 rfl rfl ?_
        refine tw_imul d_X12_point_32 ?_
        refine tw_iadd d_X12_point_33 ?_
        refine tw_iload_n 3 d_X12_point_34 rfl rfl ?_
        refine tw_if_eq 42 d_X12_point_35 (by decide) (fun z9 => ?_) (fun z9 => ?_)
        · replace h := h.1 z9
          refine tw_iconst d_X12_point_42 k_0 ?_
          refine tw_iadd d_X12_point_43 ?_
          refine tu_cVi (As := [.int x1, .int ((4 + (2 * x2)) + 0)]) cv_X12_200 hL_M6 s_147 rfl (Nat.le_of_ble_eq_true rfl) ⟨Nat.zero_le _, Nat.zero_le _⟩ d_X12_point_44 h (fun r11 M10 h => ?_)
          have hL_M10 : Lay c M10 := hL_M6.to h.1
          replace h := h.2
          refine tw_goto 51 d_X12_point_47 (by decide) ?_
          exact tw_iret rfl ⟨Nat.zero_le _, Nat.zero_le _⟩ d_X12_point_51 h
        · replace h := h.2 z9
          refine tw_iconst d_X12_point_38 k_1 ?_
          refine tw_goto 43 d_X12_point_39 (by decide) ?_
          refine tw_iadd d_X12_point_43 ?_
          refine tu_cVi (As := [.int x1, .int ((4 + (2 * x2)) + 1)]) cv_X12_200 hL_M6 s_147 rfl (Nat.le_of_ble_eq_true rfl) ⟨Nat.zero_le _, Nat.zero_le _⟩ d_X12_point_44 h (fun r13 M12 h => ?_)
          have hL_M12 : Lay c M12 := hL_M6.to h.1
          replace h := h.2
          refine tw_goto 51 d_X12_point_47 (by decide) ?_
          exact tw_iret rfl ⟨Nat.zero_le _, Nat.zero_le _⟩ d_X12_point_51 h

theorem d_X12_set_0 : decode Y_X12_set.cc 0 = .ok (.aload_n 0, 1) := by decide +kernel
theorem d_X12_set_1 : decode Y_X12_set.cc 1 = .ok (.iconst 0, 1) := by decide +kernel
theorem d_X12_set_2 : decode Y_X12_set.cc 2 = .ok (.putfield 1, 3) := by decide +kernel
theorem d_X12_set_5 : decode Y_X12_set.cc 5 = .ok (.aload_n 0, 1) := by decide +kernel
theorem d_X12_set_6 : decode Y_X12_set.cc 6 = .ok (.iload_n 1, 1) := by decide +kernel
theorem d_X12_set_7 : decode Y_X12_set.cc 7 = .ok (.invokevirtual 187, 3) := by decide +kernel
theorem d_X12_set_10 : decode Y_X12_set.cc 10 = .ok (.ifCond .eq 40, 3) := by decide +kernel
theorem d_X12_set_13 : decode Y_X12_set.cc 13 = .ok (.iload_n 2, 1) := by decide +kernel
theorem d_X12_set_14 : decode Y_X12_set.cc 14 = .ok (.iload_n 3, 1) := by decide +kernel
theorem d_X12_set_15 : decode Y_X12_set.cc 15 = .ok (.if_icmp .eq 35, 3) := by decide +kernel
theorem d_X12_set_18 : decode Y_X12_set.cc 18 = .ok (.iload_n 2, 1) := by decide +kernel
theorem d_X12_set_19 : decode Y_X12_set.cc 19 = .ok (.iconst 0, 1) := by decide +kernel
theorem d_X12_set_20 : decode Y_X12_set.cc 20 = .ok (.aload_n 0, 1) := by decide +kernel
theorem d_X12_set_21 : decode Y_X12_set.cc 21 = .ok (.iload_n 1, 1) := by decide +kernel
theorem d_X12_set_22 : decode Y_X12_set.cc 22 = .ok (.iconst 1, 1) := by decide +kernel
theorem d_X12_set_23 : decode Y_X12_set.cc 23 = .ok (.invokevirtual 190, 3) := by decide +kernel
theorem d_X12_set_26 : decode Y_X12_set.cc 26 = .ok (.iconst 1, 1) := by decide +kernel
theorem d_X12_set_27 : decode Y_X12_set.cc 27 = .ok (.isub, 1) := by decide +kernel
theorem d_X12_set_28 : decode Y_X12_set.cc 28 = .ok (.invokestatic 196, 3) := by decide +kernel
theorem d_X12_set_31 : decode Y_X12_set.cc 31 = .ok (.ifCond .eq 19, 3) := by decide +kernel
theorem d_X12_set_34 : decode Y_X12_set.cc 34 = .ok (.iload_n 3, 1) := by decide +kernel
theorem d_X12_set_35 : decode Y_X12_set.cc 35 = .ok (.iconst 0, 1) := by decide +kernel
theorem d_X12_set_36 : decode Y_X12_set.cc 36 = .ok (.aload_n 0, 1) := by decide +kernel
theorem d_X12_set_37 : decode Y_X12_set.cc 37 = .ok (.iload_n 1, 1) := by decide +kernel
theorem d_X12_set_38 : decode Y_X12_set.cc 38 = .ok (.iconst 1, 1) := by decide +kernel
theorem d_X12_set_39 : decode Y_X12_set.cc 39 = .ok (.invokevirtual 190, 3) := by decide +kernel
theorem d_X12_set_42 : decode Y_X12_set.cc 42 = .ok (.iconst 1, 1) := by decide +kernel
theorem d_X12_set_43 : decode Y_X12_set.cc 43 = .ok (.isub, 1) := by decide +kernel
theorem d_X12_set_44 : decode Y_X12_set.cc 44 = .ok (.invokestatic 196, 3) := by decide +kernel
theorem d_X12_set_47 : decode Y_X12_set.cc 47 = .ok (.ifCond .ne 5, 3) := by decide +kernel
theorem d_X12_set_50 : decode Y_X12_set.cc 50 = .ok (.iconst 0, 1) := by decide +kernel
theorem d_X12_set_51 : decode Y_X12_set.cc 51 = .ok (.ireturn, 1) := by decide +kernel
theorem d_X12_set_52 : decode Y_X12_set.cc 52 = .ok (.aload_n 0, 1) := by decide +kernel
theorem d_X12_set_53 : decode Y_X12_set.cc 53 = .ok (.iload_n 1, 1) := by decide +kernel
theorem d_X12_set_54 : decode Y_X12_set.cc 54 = .ok (.bipush 6, 2) := by decide +kernel
theorem d_X12_set_56 : decode Y_X12_set.cc 56 = .ok (.aload_n 0, 1) := by decide +kernel
theorem d_X12_set_57 : decode Y_X12_set.cc 57 = .ok (.iload_n 1, 1) := by decide +kernel
theorem d_X12_set_58 : decode Y_X12_set.cc 58 = .ok (.iconst 2, 1) := by decide +kernel
theorem d_X12_set_59 : decode Y_X12_set.cc 59 = .ok (.iload_n 2, 1) := by decide +kernel
theorem d_X12_set_60 : decode Y_X12_set.cc 60 = .ok (.iadd, 1) := by decide +kernel
theorem d_X12_set_61 : decode Y_X12_set.cc 61 = .ok (.invokevirtual 190, 3) := by decide +kernel
theorem d_X12_set_64 : decode Y_X12_set.cc 64 = .ok (.invokevirtual 203, 3) := by decide +kernel
theorem d_X12_set_67 : decode Y_X12_set.cc 67 = .ok (.aload_n 0, 1) := by decide +kernel
theorem d_X12_set_68 : decode Y_X12_set.cc 68 = .ok (.iload_n 1, 1) := by decide +kernel
theorem d_X12_set_69 : decode Y_X12_set.cc 69 = .ok (.bipush 7, 2) := by decide +kernel
theorem d_X12_set_71 : decode Y_X12_set.cc 71 = .ok (.aload_n 0, 1) := by decide +kernel
theorem d_X12_set_72 : decode Y_X12_set.cc 72 = .ok (.iload_n 1, 1) := by decide +kernel
theorem d_X12_set_73 : decode Y_X12_set.cc 73 = .ok (.iconst 2, 1) := by decide +kernel
theorem d_X12_set_74 : decode Y_X12_set.cc 74 = .ok (.iload_n 3, 1) := by decide +kernel
theorem d_X12_set_75 : decode Y_X12_set.cc 75 = .ok (.iadd, 1) := by decide +kernel
theorem d_X12_set_76 : decode Y_X12_set.cc 76 = .ok (.invokevirtual 190, 3) := by decide +kernel
theorem d_X12_set_79 : decode Y_X12_set.cc 79 = .ok (.invokevirtual 203, 3) := by decide +kernel
theorem d_X12_set_82 : decode Y_X12_set.cc 82 = .ok (.iconst 1, 1) := by decide +kernel
theorem d_X12_set_83 : decode Y_X12_set.cc 83 = .ok (.ireturn, 1) := by decide +kernel
theorem b_X12_set {G : MG} {d : Nat} {Q : Int32 → Mm → Prop} {x1 : Int32} {x2 : Int32} {x3 : Int32} {M : Mm} {c : Nat} (hL : Lay c M)  (h : (∀ M1 : Mm, M1 = sI M 147 0 0 → (C G Y_X12_isArm d [.ref (G.b + 147), .int x1] M1 (Ri fun r3 M2 => M2.2.2 = M1.2.2 ∧ ((r3 = 0 → Q 0 M2) ∧ (¬ r3 = 0 → ((x2 = x3 → Q 0 M2) ∧ (¬ x2 = x3 → (C G Y_X12_of d [.ref (G.b + 147), .int x1, .int 1] M2 (Ri fun r7 M6 => M6.2.2 = M2.2.2 ∧ (C G Y_X12_within d [.int x2, .int 0, .int (r7 - 1)] M6 (Ri fun r9 M8 => M8.2.2 = M6.2.2 ∧ ((r9 = 0 → Q 0 M8) ∧ (¬ r9 = 0 → (C G Y_X12_of d [.ref (G.b + 147), .int x1, .int 1] M8 (Ri fun r12 M11 => M11.2.2 = M8.2.2 ∧ (C G Y_X12_within d [.int x3, .int 0, .int (r12 - 1)] M11 (Ri fun r14 M13 => M13.2.2 = M11.2.2 ∧ ((¬ r14 = 0 → (C G Y_X12_of d [.ref (G.b + 147), .int x1, .int (2 + x2)] M13 (Ri fun r17 M16 => M16.2.2 = M13.2.2 ∧ (C G Y_X12_lays d [.ref (G.b + 147), .int x1, .int 6, .int r17] M16 (Rv fun M18 => M18.2.2 = M16.2.2 ∧ (C G Y_X12_of d [.ref (G.b + 147), .int x1, .int (2 + x3)] M18 (Ri fun r20 M19 => M19.2.2 = M18.2.2 ∧ (C G Y_X12_lays d [.ref (G.b + 147), .int x1, .int 7, .int r20] M19 (Rv fun M21 => M21.2.2 = M19.2.2 ∧ Q 1 M21))))))))) ∧ (r14 = 0 → Q 0 M13)))))))))))))))))))) : C G Y_X12_set (d + 1) [.ref (G.b + 147), .int x1, .int x2, .int x3] M (Ri Q) := by
  refine C.of (by decide) (Nat.le_of_ble_eq_true rfl) (lv := [(0, .ref (G.b + 147)), (1, .int x1), (2, .int x2), (3, .int x3)]) rfl ?_
  refine tw_aload_n 0 d_X12_set_0 rfl rfl ?_
  refine tw_iconst d_X12_set_1 k_0 ?_
  refine tu_putI f_X12_1 hL s_147 rfl rfl d_X12_set_2 (fun M1 e_M1 hL_M1 => ?_)
  replace h := h M1 e_M1
  refine tw_aload_n 0 d_X12_set_5 rfl rfl ?_
  refine tw_iload_n 1 d_X12_set_6 rfl rfl ?_
  refine tu_cVi (As := [.int x1]) cv_X12_187 hL_M1 s_147 rfl (Nat.le_of_ble_eq_true rfl) ⟨Nat.zero_le _, Nat.zero_le _⟩ d_X12_set_7 h (fun r3 M2 h => ?_)
  have hL_M2 : Lay c M2 := hL_M1.to h.1
  replace h := h.2
  refine tw_if_eq 50 d_X12_set_10 (by decide) (fun z4 => ?_) (fun z4 => ?_)
  · replace h := h.1 z4
    refine tw_iconst d_X12_set_50 k_0 ?_
    exact tw_zret (ty := .boolean) rfl rfl ⟨Nat.zero_le _, Nat.zero_le _⟩ d_X12_set_51 h
  · replace h := h.2 z4
    refine tw_iload_n 2 d_X12_set_13 rfl rfl ?_
    refine tw_iload_n 3 d_X12_set_14 rfl rfl ?_
    refine tw_icmp_eq 50 d_X12_set_15 (by decide) (fun z5 => ?_) (fun z5 => ?_)
    · replace h := h.1 z5
      refine tw_iconst d_X12_set_50 k_0 ?_
      exact tw_zret (ty := .boolean) rfl rfl ⟨Nat.zero_le _, Nat.zero_le _⟩ d_X12_set_51 h
    · replace h := h.2 z5
      refine tw_iload_n 2 d_X12_set_18 rfl rfl ?_
      refine tw_iconst d_X12_set_19 k_0 ?_
      refine tw_aload_n 0 d_X12_set_20 rfl rfl ?_
      refine tw_iload_n 1 d_X12_set_21 rfl rfl ?_
      refine tw_iconst d_X12_set_22 k_1 ?_
      refine tu_cVi (As := [.int x1, .int 1]) cv_X12_190 hL_M2 s_147 rfl (Nat.le_of_ble_eq_true rfl) ⟨Nat.zero_le _, Nat.zero_le _⟩ d_X12_set_23 h (fun r7 M6 h => ?_)
      have hL_M6 : Lay c M6 := hL_M2.to h.1
      replace h := h.2
      refine tw_iconst d_X12_set_26 k_1 ?_
      refine tw_isub d_X12_set_27 ?_
      refine tu_cSi (As := [.int x2, .int 0, .int (r7 - 1)]) cs_X12_196 rfl (Nat.le_of_ble_eq_true rfl) ⟨Nat.zero_le _, Nat.zero_le _⟩ d_X12_set_28 h (fun r9 M8 h => ?_)
      have hL_M8 : Lay c M8 := hL_M6.to h.1
      replace h := h.2
      refine tw_if_eq 50 d_X12_set_31 (by decide) (fun z10 => ?_) (fun z10 => ?_)
      · replace h := h.1 z10
        refine tw_iconst d_X12_set_50 k_0 ?_
        exact tw_zret (ty := .boolean) rfl rfl ⟨Nat.zero_le _, Nat.zero_le _⟩ d_X12_set_51 h
      · replace h := h.2 z10
        refine tw_iload_n 3 d_X12_set_34 rfl rfl ?_
        refine tw_iconst d_X12_set_35 k_0 ?_
        refine tw_aload_n 0 d_X12_set_36 rfl rfl ?_
        refine tw_iload_n 1 d_X12_set_37 rfl rfl ?_
        refine tw_iconst d_X12_set_38 k_1 ?_
        refine tu_cVi (As := [.int x1, .int 1]) cv_X12_190 hL_M8 s_147 rfl (Nat.le_of_ble_eq_true rfl) ⟨Nat.zero_le _, Nat.zero_le _⟩ d_X12_set_39 h (fun r12 M11 h => ?_)
        have hL_M11 : Lay c M11 := hL_M8.to h.1
        replace h := h.2
        refine tw_iconst d_X12_set_42 k_1 ?_
        refine tw_isub d_X12_set_43 ?_
        refine tu_cSi (As := [.int x3, .int 0, .int (r12 - 1)]) cs_X12_196 rfl (Nat.le_of_ble_eq_true rfl) ⟨Nat.zero_le _, Nat.zero_le _⟩ d_X12_set_44 h (fun r14 M13 h => ?_)
        have hL_M13 : Lay c M13 := hL_M11.to h.1
        replace h := h.2
        refine tw_if_ne 52 d_X12_set_47 (by decide) (fun z15 => ?_) (fun z15 => ?_)
        · replace h := h.1 z15
          refine tw_aload_n 0 d_X12_set_52 rfl rfl ?_
          refine tw_iload_n 1 d_X12_set_53 rfl rfl ?_
          refine tw_bipush d_X12_set_54 kb_6 ?_
          refine tw_aload_n 0 d_X12_set_56 rfl rfl ?_
          refine tw_iload_n 1 d_X12_set_57 rfl rfl ?_
          refine tw_iconst d_X12_set_58 k_2 ?_
          refine tw_iload_n 2 d_X12_set_59 rfl rfl ?_
          refine tw_iadd d_X12_set_60 ?_
          refine tu_cVi (As := [.int x1, .int (2 + x2)]) cv_X12_190 hL_M13 s_147 rfl (Nat.le_of_ble_eq_true rfl) ⟨Nat.zero_le _, Nat.zero_le _⟩ d_X12_set_61 h (fun r17 M16 h => ?_)
          have hL_M16 : Lay c M16 := hL_M13.to h.1
          replace h := h.2
          refine tu_cVv (As := [.int x1, .int 6, .int r17]) cv_X12_203 hL_M16 s_147 rfl (Nat.le_of_ble_eq_true rfl) ⟨Nat.zero_le _, Nat.zero_le _⟩ d_X12_set_64 h (fun M18 h => ?_)
          have hL_M18 : Lay c M18 := hL_M16.to h.1
          replace h := h.2
          refine tw_aload_n 0 d_X12_set_67 rfl rfl ?_
          refine tw_iload_n 1 d_X12_set_68 rfl rfl ?_
          refine tw_bipush d_X12_set_69 kb_7 ?_
          refine tw_aload_n 0 d_X12_set_71 rfl rfl ?_
          refine tw_iload_n 1 d_X12_set_72 rfl rfl ?_
          refine tw_iconst d_X12_set_73 k_2 ?_
          refine tw_iload_n 3 d_X12_set_74 rfl rfl ?_
          refine tw_iadd d_X12_set_75 ?_
          refine tu_cVi (As := [.int x1, .int (2 + x3)]) cv_X12_190 hL_M18 s_147 rfl (Nat.le_of_ble_eq_true rfl) ⟨Nat.zero_le _, Nat.zero_le _⟩ d_X12_set_76 h (fun r20 M19 h => ?_)
          have hL_M19 : Lay c M19 := hL_M18.to h.1
          replace h := h.2
          refine tu_cVv (As := [.int x1, .int 7, .int r20]) cv_X12_203 hL_M19 s_147 rfl (Nat.le_of_ble_eq_true rfl) ⟨Nat.zero_le _, Nat.zero_le _⟩ d_X12_set_79 h (fun M21 h => ?_)
          have hL_M21 : Lay c M21 := hL_M19.to h.1
          replace h := h.2
          refine tw_iconst d_X12_set_82 k_1 ?_
          exact tw_zret (ty := .boolean) rfl rfl ⟨Nat.zero_le _, Nat.zero_le _⟩ d_X12_set_83 h
        · replace h := h.2 z15
          refine tw_iconst d_X12_set_50 k_0 ?_
          exact tw_zret (ty := .boolean) rfl rfl ⟨Nat.zero_le _, Nat.zero_le _⟩ d_X12_set_51 h

theorem d_X12_turn_0 : decode Y_X12_turn.cc 0 = .ok (.aload_n 0, 1) := by decide +kernel
theorem d_X12_turn_1 : decode Y_X12_turn.cc 1 = .ok (.iconst 0, 1) := by decide +kernel
theorem d_X12_turn_2 : decode Y_X12_turn.cc 2 = .ok (.putfield 1, 3) := by decide +kernel
theorem d_X12_turn_5 : decode Y_X12_turn.cc 5 = .ok (.aload_n 0, 1) := by decide +kernel
theorem d_X12_turn_6 : decode Y_X12_turn.cc 6 = .ok (.iload_n 1, 1) := by decide +kernel
theorem d_X12_turn_7 : decode Y_X12_turn.cc 7 = .ok (.invokevirtual 187, 3) := by decide +kernel
theorem d_X12_turn_10 : decode Y_X12_turn.cc 10 = .ok (.ifCond .eq 22, 3) := by decide +kernel
theorem d_X12_turn_13 : decode Y_X12_turn.cc 13 = .ok (.iload_n 2, 1) := by decide +kernel
theorem d_X12_turn_14 : decode Y_X12_turn.cc 14 = .ok (.iconst 0, 1) := by decide +kernel
theorem d_X12_turn_15 : decode Y_X12_turn.cc 15 = .ok (.iconst 3, 1) := by decide +kernel
theorem d_X12_turn_16 : decode Y_X12_turn.cc 16 = .ok (.invokestatic 196, 3) := by decide +kernel
theorem d_X12_turn_19 : decode Y_X12_turn.cc 19 = .ok (.ifCond .eq 13, 3) := by decide +kernel
theorem d_X12_turn_22 : decode Y_X12_turn.cc 22 = .ok (.aload_n 0, 1) := by decide +kernel
theorem d_X12_turn_23 : decode Y_X12_turn.cc 23 = .ok (.iload_n 1, 1) := by decide +kernel
theorem d_X12_turn_24 : decode Y_X12_turn.cc 24 = .ok (.iconst 0, 1) := by decide +kernel
theorem d_X12_turn_25 : decode Y_X12_turn.cc 25 = .ok (.invokevirtual 190, 3) := by decide +kernel
theorem d_X12_turn_28 : decode Y_X12_turn.cc 28 = .ok (.iconst 2, 1) := by decide +kernel
theorem d_X12_turn_29 : decode Y_X12_turn.cc 29 = .ok (.if_icmp .ne 5, 3) := by decide +kernel
theorem d_X12_turn_32 : decode Y_X12_turn.cc 32 = .ok (.iconst 0, 1) := by decide +kernel
theorem d_X12_turn_33 : decode Y_X12_turn.cc 33 = .ok (.ireturn, 1) := by decide +kernel
theorem d_X12_turn_34 : decode Y_X12_turn.cc 34 = .ok (.aload_n 0, 1) := by decide +kernel
theorem d_X12_turn_35 : decode Y_X12_turn.cc 35 = .ok (.iload_n 1, 1) := by decide +kernel
theorem d_X12_turn_36 : decode Y_X12_turn.cc 36 = .ok (.bipush 8, 2) := by decide +kernel
theorem d_X12_turn_38 : decode Y_X12_turn.cc 38 = .ok (.iload_n 2, 1) := by decide +kernel
theorem d_X12_turn_39 : decode Y_X12_turn.cc 39 = .ok (.invokevirtual 203, 3) := by decide +kernel
theorem d_X12_turn_42 : decode Y_X12_turn.cc 42 = .ok (.iconst 1, 1) := by decide +kernel
theorem d_X12_turn_43 : decode Y_X12_turn.cc 43 = .ok (.ireturn, 1) := by decide +kernel
theorem b_X12_turn {G : MG} {d : Nat} {Q : Int32 → Mm → Prop} {x1 : Int32} {x2 : Int32} {M : Mm} {c : Nat} (hL : Lay c M)  (h : (∀ M1 : Mm, M1 = sI M 147 0 0 → (C G Y_X12_isArm d [.ref (G.b + 147), .int x1] M1 (Ri fun r3 M2 => M2.2.2 = M1.2.2 ∧ ((r3 = 0 → Q 0 M2) ∧ (¬ r3 = 0 → (C G Y_X12_within d [.int x2, .int 0, .int 3] M2 (Ri fun r6 M5 => M5.2.2 = M2.2.2 ∧ ((r6 = 0 → Q 0 M5) ∧ (¬ r6 = 0 → (C G Y_X12_of d [.ref (G.b + 147), .int x1, .int 0] M5 (Ri fun r9 M8 => M8.2.2 = M5.2.2 ∧ ((¬ r9 = 2 → (C G Y_X12_lays d [.ref (G.b + 147), .int x1, .int 8, .int x2] M8 (Rv fun M11 => M11.2.2 = M8.2.2 ∧ Q 1 M11))) ∧ (r9 = 2 → Q 0 M8)))))))))))))) : C G Y_X12_turn (d + 1) [.ref (G.b + 147), .int x1, .int x2] M (Ri Q) := by
  refine C.of (by decide) (Nat.le_of_ble_eq_true rfl) (lv := [(0, .ref (G.b + 147)), (1, .int x1), (2, .int x2)]) rfl ?_
  refine tw_aload_n 0 d_X12_turn_0 rfl rfl ?_
  refine tw_iconst d_X12_turn_1 k_0 ?_
  refine tu_putI f_X12_1 hL s_147 rfl rfl d_X12_turn_2 (fun M1 e_M1 hL_M1 => ?_)
  replace h := h M1 e_M1
  refine tw_aload_n 0 d_X12_turn_5 rfl rfl ?_
  refine tw_iload_n 1 d_X12_turn_6 rfl rfl ?_
  refine tu_cVi (As := [.int x1]) cv_X12_187 hL_M1 s_147 rfl (Nat.le_of_ble_eq_true rfl) ⟨Nat.zero_le _, Nat.zero_le _⟩ d_X12_turn_7 h (fun r3 M2 h => ?_)
  have hL_M2 : Lay c M2 := hL_M1.to h.1
  replace h := h.2
  refine tw_if_eq 32 d_X12_turn_10 (by decide) (fun z4 => ?_) (fun z4 => ?_)
  · replace h := h.1 z4
    refine tw_iconst d_X12_turn_32 k_0 ?_
    exact tw_zret (ty := .boolean) rfl rfl ⟨Nat.zero_le _, Nat.zero_le _⟩ d_X12_turn_33 h
  · replace h := h.2 z4
    refine tw_iload_n 2 d_X12_turn_13 rfl rfl ?_
    refine tw_iconst d_X12_turn_14 k_0 ?_
    refine tw_iconst d_X12_turn_15 k_3 ?_
    refine tu_cSi (As := [.int x2, .int 0, .int 3]) cs_X12_196 rfl (Nat.le_of_ble_eq_true rfl) ⟨Nat.zero_le _, Nat.zero_le _⟩ d_X12_turn_16 h (fun r6 M5 h => ?_)
    have hL_M5 : Lay c M5 := hL_M2.to h.1
    replace h := h.2
    refine tw_if_eq 32 d_X12_turn_19 (by decide) (fun z7 => ?_) (fun z7 => ?_)
    · replace h := h.1 z7
      refine tw_iconst d_X12_turn_32 k_0 ?_
      exact tw_zret (ty := .boolean) rfl rfl ⟨Nat.zero_le _, Nat.zero_le _⟩ d_X12_turn_33 h
    · replace h := h.2 z7
      refine tw_aload_n 0 d_X12_turn_22 rfl rfl ?_
      refine tw_iload_n 1 d_X12_turn_23 rfl rfl ?_
      refine tw_iconst d_X12_turn_24 k_0 ?_
      refine tu_cVi (As := [.int x1, .int 0]) cv_X12_190 hL_M5 s_147 rfl (Nat.le_of_ble_eq_true rfl) ⟨Nat.zero_le _, Nat.zero_le _⟩ d_X12_turn_25 h (fun r9 M8 h => ?_)
      have hL_M8 : Lay c M8 := hL_M5.to h.1
      replace h := h.2
      refine tw_iconst d_X12_turn_28 k_2 ?_
      refine tw_icmp_ne 34 d_X12_turn_29 (by decide) (fun z10 => ?_) (fun z10 => ?_)
      · replace h := h.1 z10
        refine tw_aload_n 0 d_X12_turn_34 rfl rfl ?_
        refine tw_iload_n 1 d_X12_turn_35 rfl rfl ?_
        refine tw_bipush d_X12_turn_36 kb_8 ?_
        refine tw_iload_n 2 d_X12_turn_38 rfl rfl ?_
        refine tu_cVv (As := [.int x1, .int 8, .int x2]) cv_X12_203 hL_M8 s_147 rfl (Nat.le_of_ble_eq_true rfl) ⟨Nat.zero_le _, Nat.zero_le _⟩ d_X12_turn_39 h (fun M11 h => ?_)
        have hL_M11 : Lay c M11 := hL_M8.to h.1
        replace h := h.2
        refine tw_iconst d_X12_turn_42 k_1 ?_
        exact tw_zret (ty := .boolean) rfl rfl ⟨Nat.zero_le _, Nat.zero_le _⟩ d_X12_turn_43 h
      · replace h := h.2 z10
        refine tw_iconst d_X12_turn_32 k_0 ?_
        exact tw_zret (ty := .boolean) rfl rfl ⟨Nat.zero_le _, Nat.zero_le _⟩ d_X12_turn_33 h

theorem d_X12_pin_0 : decode Y_X12_pin.cc 0 = .ok (.aload_n 0, 1) := by decide +kernel
theorem d_X12_pin_1 : decode Y_X12_pin.cc 1 = .ok (.iconst 0, 1) := by decide +kernel
theorem d_X12_pin_2 : decode Y_X12_pin.cc 2 = .ok (.putfield 1, 3) := by decide +kernel
theorem d_X12_pin_5 : decode Y_X12_pin.cc 5 = .ok (.aload_n 0, 1) := by decide +kernel
theorem d_X12_pin_6 : decode Y_X12_pin.cc 6 = .ok (.iload_n 1, 1) := by decide +kernel
theorem d_X12_pin_7 : decode Y_X12_pin.cc 7 = .ok (.invokevirtual 187, 3) := by decide +kernel
theorem d_X12_pin_10 : decode Y_X12_pin.cc 10 = .ok (.ifCond .eq 23, 3) := by decide +kernel
theorem d_X12_pin_13 : decode Y_X12_pin.cc 13 = .ok (.iload_n 2, 1) := by decide +kernel
theorem d_X12_pin_14 : decode Y_X12_pin.cc 14 = .ok (.iconst 0, 1) := by decide +kernel
theorem d_X12_pin_15 : decode Y_X12_pin.cc 15 = .ok (.bipush 99, 2) := by decide +kernel
theorem d_X12_pin_17 : decode Y_X12_pin.cc 17 = .ok (.invokestatic 196, 3) := by decide +kernel
theorem d_X12_pin_20 : decode Y_X12_pin.cc 20 = .ok (.ifCond .eq 13, 3) := by decide +kernel
theorem d_X12_pin_23 : decode Y_X12_pin.cc 23 = .ok (.iload_n 3, 1) := by decide +kernel
theorem d_X12_pin_24 : decode Y_X12_pin.cc 24 = .ok (.iconst 0, 1) := by decide +kernel
theorem d_X12_pin_25 : decode Y_X12_pin.cc 25 = .ok (.bipush 99, 2) := by decide +kernel
theorem d_X12_pin_27 : decode Y_X12_pin.cc 27 = .ok (.invokestatic 196, 3) := by decide +kernel
theorem d_X12_pin_30 : decode Y_X12_pin.cc 30 = .ok (.ifCond .ne 5, 3) := by decide +kernel
theorem d_X12_pin_33 : decode Y_X12_pin.cc 33 = .ok (.iconst 0, 1) := by decide +kernel
theorem d_X12_pin_34 : decode Y_X12_pin.cc 34 = .ok (.ireturn, 1) := by decide +kernel
theorem d_X12_pin_35 : decode Y_X12_pin.cc 35 = .ok (.aload_n 0, 1) := by decide +kernel
theorem d_X12_pin_36 : decode Y_X12_pin.cc 36 = .ok (.iload_n 1, 1) := by decide +kernel
theorem d_X12_pin_37 : decode Y_X12_pin.cc 37 = .ok (.bipush 9, 2) := by decide +kernel
theorem d_X12_pin_39 : decode Y_X12_pin.cc 39 = .ok (.iload_n 2, 1) := by decide +kernel
theorem d_X12_pin_40 : decode Y_X12_pin.cc 40 = .ok (.invokevirtual 203, 3) := by decide +kernel
theorem d_X12_pin_43 : decode Y_X12_pin.cc 43 = .ok (.aload_n 0, 1) := by decide +kernel
theorem d_X12_pin_44 : decode Y_X12_pin.cc 44 = .ok (.iload_n 1, 1) := by decide +kernel
theorem d_X12_pin_45 : decode Y_X12_pin.cc 45 = .ok (.bipush 10, 2) := by decide +kernel
theorem d_X12_pin_47 : decode Y_X12_pin.cc 47 = .ok (.iload_n 3, 1) := by decide +kernel
theorem d_X12_pin_48 : decode Y_X12_pin.cc 48 = .ok (.invokevirtual 203, 3) := by decide +kernel
theorem d_X12_pin_51 : decode Y_X12_pin.cc 51 = .ok (.iconst 1, 1) := by decide +kernel
theorem d_X12_pin_52 : decode Y_X12_pin.cc 52 = .ok (.ireturn, 1) := by decide +kernel
theorem b_X12_pin {G : MG} {d : Nat} {Q : Int32 → Mm → Prop} {x1 : Int32} {x2 : Int32} {x3 : Int32} {M : Mm} {c : Nat} (hL : Lay c M)  (h : (∀ M1 : Mm, M1 = sI M 147 0 0 → (C G Y_X12_isArm d [.ref (G.b + 147), .int x1] M1 (Ri fun r3 M2 => M2.2.2 = M1.2.2 ∧ ((r3 = 0 → Q 0 M2) ∧ (¬ r3 = 0 → (C G Y_X12_within d [.int x2, .int 0, .int 99] M2 (Ri fun r6 M5 => M5.2.2 = M2.2.2 ∧ ((r6 = 0 → Q 0 M5) ∧ (¬ r6 = 0 → (C G Y_X12_within d [.int x3, .int 0, .int 99] M5 (Ri fun r9 M8 => M8.2.2 = M5.2.2 ∧ ((¬ r9 = 0 → (C G Y_X12_lays d [.ref (G.b + 147), .int x1, .int 9, .int x2] M8 (Rv fun M11 => M11.2.2 = M8.2.2 ∧ (C G Y_X12_lays d [.ref (G.b + 147), .int x1, .int 10, .int x3] M11 (Rv fun M12 => M12.2.2 = M11.2.2 ∧ Q 1 M12))))) ∧ (r9 = 0 → Q 0 M8)))))))))))))) : C G Y_X12_pin (d + 1) [.ref (G.b + 147), .int x1, .int x2, .int x3] M (Ri Q) := by
  refine C.of (by decide) (Nat.le_of_ble_eq_true rfl) (lv := [(0, .ref (G.b + 147)), (1, .int x1), (2, .int x2), (3, .int x3)]) rfl ?_
  refine tw_aload_n 0 d_X12_pin_0 rfl rfl ?_
  refine tw_iconst d_X12_pin_1 k_0 ?_
  refine tu_putI f_X12_1 hL s_147 rfl rfl d_X12_pin_2 (fun M1 e_M1 hL_M1 => ?_)
  replace h := h M1 e_M1
  refine tw_aload_n 0 d_X12_pin_5 rfl rfl ?_
  refine tw_iload_n 1 d_X12_pin_6 rfl rfl ?_
  refine tu_cVi (As := [.int x1]) cv_X12_187 hL_M1 s_147 rfl (Nat.le_of_ble_eq_true rfl) ⟨Nat.zero_le _, Nat.zero_le _⟩ d_X12_pin_7 h (fun r3 M2 h => ?_)
  have hL_M2 : Lay c M2 := hL_M1.to h.1
  replace h := h.2
  refine tw_if_eq 33 d_X12_pin_10 (by decide) (fun z4 => ?_) (fun z4 => ?_)
  · replace h := h.1 z4
    refine tw_iconst d_X12_pin_33 k_0 ?_
    exact tw_zret (ty := .boolean) rfl rfl ⟨Nat.zero_le _, Nat.zero_le _⟩ d_X12_pin_34 h
  · replace h := h.2 z4
    refine tw_iload_n 2 d_X12_pin_13 rfl rfl ?_
    refine tw_iconst d_X12_pin_14 k_0 ?_
    refine tw_bipush d_X12_pin_15 kb_99 ?_
    refine tu_cSi (As := [.int x2, .int 0, .int 99]) cs_X12_196 rfl (Nat.le_of_ble_eq_true rfl) ⟨Nat.zero_le _, Nat.zero_le _⟩ d_X12_pin_17 h (fun r6 M5 h => ?_)
    have hL_M5 : Lay c M5 := hL_M2.to h.1
    replace h := h.2
    refine tw_if_eq 33 d_X12_pin_20 (by decide) (fun z7 => ?_) (fun z7 => ?_)
    · replace h := h.1 z7
      refine tw_iconst d_X12_pin_33 k_0 ?_
      exact tw_zret (ty := .boolean) rfl rfl ⟨Nat.zero_le _, Nat.zero_le _⟩ d_X12_pin_34 h
    · replace h := h.2 z7
      refine tw_iload_n 3 d_X12_pin_23 rfl rfl ?_
      refine tw_iconst d_X12_pin_24 k_0 ?_
      refine tw_bipush d_X12_pin_25 kb_99 ?_
      refine tu_cSi (As := [.int x3, .int 0, .int 99]) cs_X12_196 rfl (Nat.le_of_ble_eq_true rfl) ⟨Nat.zero_le _, Nat.zero_le _⟩ d_X12_pin_27 h (fun r9 M8 h => ?_)
      have hL_M8 : Lay c M8 := hL_M5.to h.1
      replace h := h.2
      refine tw_if_ne 35 d_X12_pin_30 (by decide) (fun z10 => ?_) (fun z10 => ?_)
      · replace h := h.1 z10
        refine tw_aload_n 0 d_X12_pin_35 rfl rfl ?_
        refine tw_iload_n 1 d_X12_pin_36 rfl rfl ?_
        refine tw_bipush d_X12_pin_37 kb_9 ?_
        refine tw_iload_n 2 d_X12_pin_39 rfl rfl ?_
        refine tu_cVv (As := [.int x1, .int 9, .int x2]) cv_X12_203 hL_M8 s_147 rfl (Nat.le_of_ble_eq_true rfl) ⟨Nat.zero_le _, Nat.zero_le _⟩ d_X12_pin_40 h (fun M11 h => ?_)
        have hL_M11 : Lay c M11 := hL_M8.to h.1
        replace h := h.2
        refine tw_aload_n 0 d_X12_pin_43 rfl rfl ?_
        refine tw_iload_n 1 d_X12_pin_44 rfl rfl ?_
        refine tw_bipush d_X12_pin_45 kb_10 ?_
        refine tw_iload_n 3 d_X12_pin_47 rfl rfl ?_
        refine tu_cVv (As := [.int x1, .int 10, .int x3]) cv_X12_203 hL_M11 s_147 rfl (Nat.le_of_ble_eq_true rfl) ⟨Nat.zero_le _, Nat.zero_le _⟩ d_X12_pin_48 h (fun M12 h => ?_)
        have hL_M12 : Lay c M12 := hL_M11.to h.1
        replace h := h.2
        refine tw_iconst d_X12_pin_51 k_1 ?_
        exact tw_zret (ty := .boolean) rfl rfl ⟨Nat.zero_le _, Nat.zero_le _⟩ d_X12_pin_52 h
      · replace h := h.2 z10
        refine tw_iconst d_X12_pin_33 k_0 ?_
        exact tw_zret (ty := .boolean) rfl rfl ⟨Nat.zero_le _, Nat.zero_le _⟩ d_X12_pin_34 h

theorem d_X12_bend_0 : decode Y_X12_bend.cc 0 = .ok (.aload_n 0, 1) := by decide +kernel
theorem d_X12_bend_1 : decode Y_X12_bend.cc 1 = .ok (.iconst 0, 1) := by decide +kernel
theorem d_X12_bend_2 : decode Y_X12_bend.cc 2 = .ok (.putfield 1, 3) := by decide +kernel
theorem d_X12_bend_5 : decode Y_X12_bend.cc 5 = .ok (.aload_n 0, 1) := by decide +kernel
theorem d_X12_bend_6 : decode Y_X12_bend.cc 6 = .ok (.iload_n 1, 1) := by decide +kernel
theorem d_X12_bend_7 : decode Y_X12_bend.cc 7 = .ok (.invokevirtual 187, 3) := by decide +kernel
theorem d_X12_bend_10 : decode Y_X12_bend.cc 10 = .ok (.ifCond .eq 13, 3) := by decide +kernel
theorem d_X12_bend_13 : decode Y_X12_bend.cc 13 = .ok (.iload_n 2, 1) := by decide +kernel
theorem d_X12_bend_14 : decode Y_X12_bend.cc 14 = .ok (.iconst 0, 1) := by decide +kernel
theorem d_X12_bend_15 : decode Y_X12_bend.cc 15 = .ok (.bipush 9, 2) := by decide +kernel
theorem d_X12_bend_17 : decode Y_X12_bend.cc 17 = .ok (.invokestatic 196, 3) := by decide +kernel
theorem d_X12_bend_20 : decode Y_X12_bend.cc 20 = .ok (.ifCond .ne 5, 3) := by decide +kernel
theorem d_X12_bend_23 : decode Y_X12_bend.cc 23 = .ok (.iconst 0, 1) := by decide +kernel
theorem d_X12_bend_24 : decode Y_X12_bend.cc 24 = .ok (.ireturn, 1) := by decide +kernel
theorem d_X12_bend_25 : decode Y_X12_bend.cc 25 = .ok (.aload_n 0, 1) := by decide +kernel
theorem d_X12_bend_26 : decode Y_X12_bend.cc 26 = .ok (.iload_n 1, 1) := by decide +kernel
theorem d_X12_bend_27 : decode Y_X12_bend.cc 27 = .ok (.bipush 13, 2) := by decide +kernel
theorem d_X12_bend_29 : decode Y_X12_bend.cc 29 = .ok (.iload_n 2, 1) := by decide +kernel
theorem d_X12_bend_30 : decode Y_X12_bend.cc 30 = .ok (.invokevirtual 203, 3) := by decide +kernel
theorem d_X12_bend_33 : decode Y_X12_bend.cc 33 = .ok (.iconst 1, 1) := by decide +kernel
theorem d_X12_bend_34 : decode Y_X12_bend.cc 34 = .ok (.ireturn, 1) := by decide +kernel
theorem b_X12_bend {G : MG} {d : Nat} {Q : Int32 → Mm → Prop} {x1 : Int32} {x2 : Int32} {M : Mm} {c : Nat} (hL : Lay c M)  (h : (∀ M1 : Mm, M1 = sI M 147 0 0 → (C G Y_X12_isArm d [.ref (G.b + 147), .int x1] M1 (Ri fun r3 M2 => M2.2.2 = M1.2.2 ∧ ((r3 = 0 → Q 0 M2) ∧ (¬ r3 = 0 → (C G Y_X12_within d [.int x2, .int 0, .int 9] M2 (Ri fun r6 M5 => M5.2.2 = M2.2.2 ∧ ((¬ r6 = 0 → (C G Y_X12_lays d [.ref (G.b + 147), .int x1, .int 13, .int x2] M5 (Rv fun M8 => M8.2.2 = M5.2.2 ∧ Q 1 M8))) ∧ (r6 = 0 → Q 0 M5)))))))))) : C G Y_X12_bend (d + 1) [.ref (G.b + 147), .int x1, .int x2] M (Ri Q) := by
  refine C.of (by decide) (Nat.le_of_ble_eq_true rfl) (lv := [(0, .ref (G.b + 147)), (1, .int x1), (2, .int x2)]) rfl ?_
  refine tw_aload_n 0 d_X12_bend_0 rfl rfl ?_
  refine tw_iconst d_X12_bend_1 k_0 ?_
  refine tu_putI f_X12_1 hL s_147 rfl rfl d_X12_bend_2 (fun M1 e_M1 hL_M1 => ?_)
  replace h := h M1 e_M1
  refine tw_aload_n 0 d_X12_bend_5 rfl rfl ?_
  refine tw_iload_n 1 d_X12_bend_6 rfl rfl ?_
  refine tu_cVi (As := [.int x1]) cv_X12_187 hL_M1 s_147 rfl (Nat.le_of_ble_eq_true rfl) ⟨Nat.zero_le _, Nat.zero_le _⟩ d_X12_bend_7 h (fun r3 M2 h => ?_)
  have hL_M2 : Lay c M2 := hL_M1.to h.1
  replace h := h.2
  refine tw_if_eq 23 d_X12_bend_10 (by decide) (fun z4 => ?_) (fun z4 => ?_)
  · replace h := h.1 z4
    refine tw_iconst d_X12_bend_23 k_0 ?_
    exact tw_zret (ty := .boolean) rfl rfl ⟨Nat.zero_le _, Nat.zero_le _⟩ d_X12_bend_24 h
  · replace h := h.2 z4
    refine tw_iload_n 2 d_X12_bend_13 rfl rfl ?_
    refine tw_iconst d_X12_bend_14 k_0 ?_
    refine tw_bipush d_X12_bend_15 kb_9 ?_
    refine tu_cSi (As := [.int x2, .int 0, .int 9]) cs_X12_196 rfl (Nat.le_of_ble_eq_true rfl) ⟨Nat.zero_le _, Nat.zero_le _⟩ d_X12_bend_17 h (fun r6 M5 h => ?_)
    have hL_M5 : Lay c M5 := hL_M2.to h.1
    replace h := h.2
    refine tw_if_ne 25 d_X12_bend_20 (by decide) (fun z7 => ?_) (fun z7 => ?_)
    · replace h := h.1 z7
      refine tw_aload_n 0 d_X12_bend_25 rfl rfl ?_
      refine tw_iload_n 1 d_X12_bend_26 rfl rfl ?_
      refine tw_bipush d_X12_bend_27 kb_13 ?_
      refine tw_iload_n 2 d_X12_bend_29 rfl rfl ?_
      refine tu_cVv (As := [.int x1, .int 13, .int x2]) cv_X12_203 hL_M5 s_147 rfl (Nat.le_of_ble_eq_true rfl) ⟨Nat.zero_le _, Nat.zero_le _⟩ d_X12_bend_30 h (fun M8 h => ?_)
      have hL_M8 : Lay c M8 := hL_M5.to h.1
      replace h := h.2
      refine tw_iconst d_X12_bend_33 k_1 ?_
      exact tw_zret (ty := .boolean) rfl rfl ⟨Nat.zero_le _, Nat.zero_le _⟩ d_X12_bend_34 h
    · replace h := h.2 z7
      refine tw_iconst d_X12_bend_23 k_0 ?_
      exact tw_zret (ty := .boolean) rfl rfl ⟨Nat.zero_le _, Nat.zero_le _⟩ d_X12_bend_24 h

theorem d_X12_starts_0 : decode Y_X12_starts.cc 0 = .ok (.aload_n 0, 1) := by decide +kernel
theorem d_X12_starts_1 : decode Y_X12_starts.cc 1 = .ok (.iload_n 1, 1) := by decide +kernel
theorem d_X12_starts_2 : decode Y_X12_starts.cc 2 = .ok (.i2l, 1) := by decide +kernel
theorem d_X12_starts_3 : decode Y_X12_starts.cc 3 = .ok (.putfield 207, 3) := by decide +kernel
theorem d_X12_starts_6 : decode Y_X12_starts.cc 6 = .ok (.aload_n 0, 1) := by decide +kernel
theorem d_X12_starts_7 : decode Y_X12_starts.cc 7 = .ok (.iload_n 2, 1) := by decide +kernel
theorem d_X12_starts_8 : decode Y_X12_starts.cc 8 = .ok (.i2l, 1) := by decide +kernel
theorem d_X12_starts_9 : decode Y_X12_starts.cc 9 = .ok (.putfield 211, 3) := by decide +kernel
theorem d_X12_starts_12 : decode Y_X12_starts.cc 12 = .ok (.aload_n 0, 1) := by decide +kernel
theorem d_X12_starts_13 : decode Y_X12_starts.cc 13 = .ok (.lconst 1, 1) := by decide +kernel
theorem d_X12_starts_14 : decode Y_X12_starts.cc 14 = .ok (.putfield 214, 3) := by decide +kernel
theorem d_X12_starts_17 : decode Y_X12_starts.cc 17 = .ok (.return_, 1) := by decide +kernel
theorem b_X12_starts {G : MG} {d : Nat} {Q : Mm → Prop} {x1 : Int32} {x2 : Int32} {M : Mm} {c : Nat} (hL : Lay c M)  (h : (∀ M1 : Mm, M1 = sJ M 147 15 x1.toInt64 → (∀ M2 : Mm, M2 = sJ M1 147 16 x2.toInt64 → (∀ M3 : Mm, M3 = sJ M2 147 17 1 → Q M3)))) : C G Y_X12_starts (d + 1) [.ref (G.b + 147), .int x1, .int x2] M (Rv Q) := by
  refine C.of (by decide) (Nat.le_of_ble_eq_true rfl) (lv := [(0, .ref (G.b + 147)), (1, .int x1), (2, .int x2)]) rfl ?_
  refine tw_aload_n 0 d_X12_starts_0 rfl rfl ?_
  refine tw_iload_n 1 d_X12_starts_1 rfl rfl ?_
  refine tw_i2l d_X12_starts_2 ?_
  refine tu_putJ f_X12_207 hL s_147 rfl rfl d_X12_starts_3 (fun M1 e_M1 hL_M1 => ?_)
  replace h := h M1 e_M1
  refine tw_aload_n 0 d_X12_starts_6 rfl rfl ?_
  refine tw_iload_n 2 d_X12_starts_7 rfl rfl ?_
  refine tw_i2l d_X12_starts_8 ?_
  refine tu_putJ f_X12_211 hL_M1 s_147 rfl rfl d_X12_starts_9 (fun M2 e_M2 hL_M2 => ?_)
  replace h := h M2 e_M2
  refine tw_aload_n 0 d_X12_starts_12 rfl rfl ?_
  refine tw_lconst (v := 1) d_X12_starts_13 rfl ?_
  refine tu_putJ f_X12_214 hL_M2 s_147 rfl rfl d_X12_starts_14 (fun M3 e_M3 hL_M3 => ?_)
  replace h := h M3 e_M3
  exact tw_vret rfl ⟨Nat.zero_le _, Nat.zero_le _⟩ d_X12_starts_17 h

theorem d_X12_isOut_0 : decode Y_X12_isOut.cc 0 = .ok (.aload_n 0, 1) := by decide +kernel
theorem d_X12_isOut_1 : decode Y_X12_isOut.cc 1 = .ok (.getfield 207, 3) := by decide +kernel
theorem d_X12_isOut_4 : decode Y_X12_isOut.cc 4 = .ok (.aload_n 0, 1) := by decide +kernel
theorem d_X12_isOut_5 : decode Y_X12_isOut.cc 5 = .ok (.iload_n 1, 1) := by decide +kernel
theorem d_X12_isOut_6 : decode Y_X12_isOut.cc 6 = .ok (.bipush 9, 2) := by decide +kernel
theorem d_X12_isOut_8 : decode Y_X12_isOut.cc 8 = .ok (.invokevirtual 190, 3) := by decide +kernel
theorem d_X12_isOut_11 : decode Y_X12_isOut.cc 11 = .ok (.i2l, 1) := by decide +kernel
theorem d_X12_isOut_12 : decode Y_X12_isOut.cc 12 = .ok (.aload_n 0, 1) := by decide +kernel
theorem d_X12_isOut_13 : decode Y_X12_isOut.cc 13 = .ok (.getfield 214, 3) := by decide +kernel
theorem d_X12_isOut_16 : decode Y_X12_isOut.cc 16 = .ok (.lmul, 1) := by decide +kernel
theorem d_X12_isOut_17 : decode Y_X12_isOut.cc 17 = .ok (.lsub, 1) := by decide +kernel
theorem d_X12_isOut_18 : decode Y_X12_isOut.cc 18 = .ok (.lstore_n 2, 1) := by decide +kernel
theorem d_X12_isOut_19 : decode Y_X12_isOut.cc 19 = .ok (.aload_n 0, 1) := by decide +kernel
theorem d_X12_isOut_20 : decode Y_X12_isOut.cc 20 = .ok (.getfield 211, 3) := by decide +kernel
theorem d_X12_isOut_23 : decode Y_X12_isOut.cc 23 = .ok (.aload_n 0, 1) := by decide +kernel
theorem d_X12_isOut_24 : decode Y_X12_isOut.cc 24 = .ok (.iload_n 1, 1) := by decide +kernel
theorem d_X12_isOut_25 : decode Y_X12_isOut.cc 25 = .ok (.bipush 10, 2) := by decide +kernel
theorem d_X12_isOut_27 : decode Y_X12_isOut.cc 27 = .ok (.invokevirtual 190, 3) := by decide +kernel
theorem d_X12_isOut_30 : decode Y_X12_isOut.cc 30 = .ok (.i2l, 1) := by decide +kernel
theorem d_X12_isOut_31 : decode Y_X12_isOut.cc 31 = .ok (.aload_n 0, 1) := by decide +kernel
theorem d_X12_isOut_32 : decode Y_X12_isOut.cc 32 = .ok (.getfield 214, 3) := by decide +kernel
theorem d_X12_isOut_35 : decode Y_X12_isOut.cc 35 = .ok (.lmul, 1) := by decide +kernel
theorem d_X12_isOut_36 : decode Y_X12_isOut.cc 36 = .ok (.lsub, 1) := by decide +kernel
theorem d_X12_isOut_37 : decode Y_X12_isOut.cc 37 = .ok (.lstore 4, 2) := by decide +kernel
theorem d_X12_isOut_39 : decode Y_X12_isOut.cc 39 = .ok (.lload_n 2, 1) := by decide +kernel
theorem d_X12_isOut_40 : decode Y_X12_isOut.cc 40 = .ok (.invokestatic 217, 3) := by decide +kernel
theorem d_X12_isOut_43 : decode Y_X12_isOut.cc 43 = .ok (.lload 4, 2) := by decide +kernel
theorem d_X12_isOut_45 : decode Y_X12_isOut.cc 45 = .ok (.invokestatic 217, 3) := by decide +kernel
theorem d_X12_isOut_48 : decode Y_X12_isOut.cc 48 = .ok (.ladd, 1) := by decide +kernel
theorem d_X12_isOut_49 : decode Y_X12_isOut.cc 49 = .ok (.aload_n 0, 1) := by decide +kernel
theorem d_X12_isOut_50 : decode Y_X12_isOut.cc 50 = .ok (.iload_n 1, 1) := by decide +kernel
theorem d_X12_isOut_51 : decode Y_X12_isOut.cc 51 = .ok (.bipush 11, 2) := by decide +kernel
theorem d_X12_isOut_53 : decode Y_X12_isOut.cc 53 = .ok (.invokevirtual 190, 3) := by decide +kernel
theorem d_X12_isOut_56 : decode Y_X12_isOut.cc 56 = .ok (.i2l, 1) := by decide +kernel
theorem d_X12_isOut_57 : decode Y_X12_isOut.cc 57 = .ok (.aload_n 0, 1) := by decide +kernel
theorem d_X12_isOut_58 : decode Y_X12_isOut.cc 58 = .ok (.getfield 214, 3) := by decide +kernel
theorem d_X12_isOut_61 : decode Y_X12_isOut.cc 61 = .ok (.lmul, 1) := by decide +kernel
theorem d_X12_isOut_62 : decode Y_X12_isOut.cc 62 = .ok (.lcmp, 1) := by decide +kernel
theorem d_X12_isOut_63 : decode Y_X12_isOut.cc 63 = .ok (.ifCond .le 7, 3) := by decide +kernel
theorem d_X12_isOut_66 : decode Y_X12_isOut.cc 66 = .ok (.iconst 1, 1) := by decide +kernel
theorem d_X12_isOut_67 : decode Y_X12_isOut.cc 67 = .ok (.goto 4, 3) := by decide +kernel
theorem d_X12_isOut_70 : decode Y_X12_isOut.cc 70 = .ok (.iconst 0, 1) := by decide +kernel
theorem d_X12_isOut_71 : decode Y_X12_isOut.cc 71 = .ok (.ireturn, 1) := by decide +kernel
theorem b_X12_isOut {G : MG} {d : Nat} {Q : Int32 → Mm → Prop} {x1 : Int32} {M : Mm} {c : Nat} (hL : Lay c M)  (h : (C G Y_X12_of d [.ref (G.b + 147), .int x1, .int 9] M (Ri fun r2 M1 => M1.2.2 = M.2.2 ∧ (C G Y_X12_of d [.ref (G.b + 147), .int x1, .int 10] M1 (Ri fun r4 M3 => M3.2.2 = M1.2.2 ∧ (C G Y_X12_lengthOf d [.long ((M.2.1 147 15) - (r2.toInt64 * (M1.2.1 147 17)))] M3 (Rj fun r6 M5 => M5.2.2 = M3.2.2 ∧ (C G Y_X12_lengthOf d [.long ((M1.2.1 147 16) - (r4.toInt64 * (M3.2.1 147 17)))] M5 (Rj fun r8 M7 => M7.2.2 = M5.2.2 ∧ (C G Y_X12_of d [.ref (G.b + 147), .int x1, .int 11] M7 (Ri fun r10 M9 => M9.2.2 = M7.2.2 ∧ (((r6 + r8) ≤ (r10.toInt64 * (M9.2.1 147 17)) → Q 0 M9) ∧ (¬ (r6 + r8) ≤ (r10.toInt64 * (M9.2.1 147 17)) → Q 1 M9))))))))))))) : C G Y_X12_isOut (d + 1) [.ref (G.b + 147), .int x1] M (Ri Q) := by
  refine C.of (by decide) (Nat.le_of_ble_eq_true rfl) (lv := [(0, .ref (G.b + 147)), (1, .int x1)]) rfl ?_
  refine tw_aload_n 0 d_X12_isOut_0 rfl rfl ?_
  refine tw_getJ f_X12_207 hL s_147 rfl d_X12_isOut_1 ?_
  refine tw_aload_n 0 d_X12_isOut_4 rfl rfl ?_
  refine tw_iload_n 1 d_X12_isOut_5 rfl rfl ?_
  refine tw_bipush d_X12_isOut_6 kb_9 ?_
  refine tu_cVi (As := [.int x1, .int 9]) cv_X12_190 hL s_147 rfl (Nat.le_of_ble_eq_true rfl) ⟨Nat.zero_le _, Nat.zero_le _⟩ d_X12_isOut_8 h (fun r2 M1 h => ?_)
  have hL_M1 : Lay c M1 := hL.to h.1
  replace h := h.2
  refine tw_i2l d_X12_isOut_11 ?_
  refine tw_aload_n 0 d_X12_isOut_12 rfl rfl ?_
  refine tw_getJ f_X12_214 hL_M1 s_147 rfl d_X12_isOut_13 ?_
  refine tw_lmul d_X12_isOut_16 ?_
  refine tw_lsub d_X12_isOut_17 ?_
  refine tw_lstore_n [(2, .long ((M.2.1 147 15) - (r2.toInt64 * (M1.2.1 147 17)))), (0, .ref (G.b + 147)), (1, .int x1)] d_X12_isOut_18 rfl (Nat.le_of_ble_eq_true rfl) rfl ?_
  refine tw_aload_n 1 d_X12_isOut_19 rfl rfl ?_
  refine tw_getJ f_X12_211 hL_M1 s_147 rfl d_X12_isOut_20 ?_
  refine tw_aload_n 1 d_X12_isOut_23 rfl rfl ?_
  refine tw_iload_n 2 d_X12_isOut_24 rfl rfl ?_
  refine tw_bipush d_X12_isOut_25 kb_10 ?_
  refine tu_cVi (As := [.int x1, .int 10]) cv_X12_190 hL_M1 s_147 rfl (Nat.le_of_ble_eq_true rfl) ⟨Nat.zero_le _, Nat.zero_le _⟩ d_X12_isOut_27 h (fun r4 M3 h => ?_)
  have hL_M3 : Lay c M3 := hL_M1.to h.1
  replace h := h.2
  refine tw_i2l d_X12_isOut_30 ?_
  refine tw_aload_n 1 d_X12_isOut_31 rfl rfl ?_
  refine tw_getJ f_X12_214 hL_M3 s_147 rfl d_X12_isOut_32 ?_
  refine tw_lmul d_X12_isOut_35 ?_
  refine tw_lsub d_X12_isOut_36 ?_
  refine tw_lstore [(4, .long ((M1.2.1 147 16) - (r4.toInt64 * (M3.2.1 147 17)))), (2, .long ((M.2.1 147 15) - (r2.toInt64 * (M1.2.1 147 17)))), (0, .ref (G.b + 147)), (1, .int x1)] d_X12_isOut_37 (Nat.le_of_ble_eq_true rfl) rfl ?_
  refine tw_lload_n 1 d_X12_isOut_39 rfl rfl ?_
  refine tu_cSJ (As := [.long ((M.2.1 147 15) - (r2.toInt64 * (M1.2.1 147 17)))]) cs_X12_217 rfl (Nat.le_of_ble_eq_true rfl) ⟨Nat.zero_le _, Nat.zero_le _⟩ d_X12_isOut_40 h (fun r6 M5 h => ?_)
  have hL_M5 : Lay c M5 := hL_M3.to h.1
  replace h := h.2
  refine tw_lload 0 d_X12_isOut_43 rfl ?_
  refine tu_cSJ (As := [.long ((M1.2.1 147 16) - (r4.toInt64 * (M3.2.1 147 17)))]) cs_X12_217 rfl (Nat.le_of_ble_eq_true rfl) ⟨Nat.zero_le _, Nat.zero_le _⟩ d_X12_isOut_45 h (fun r8 M7 h => ?_)
  have hL_M7 : Lay c M7 := hL_M5.to h.1
  replace h := h.2
  refine tw_ladd d_X12_isOut_48 ?_
  refine tw_aload_n 2 d_X12_isOut_49 rfl rfl ?_
  refine tw_iload_n 3 d_X12_isOut_50 rfl rfl ?_
  refine tw_bipush d_X12_isOut_51 kb_11 ?_
  refine tu_cVi (As := [.int x1, .int 11]) cv_X12_190 hL_M7 s_147 rfl (Nat.le_of_ble_eq_true rfl) ⟨Nat.zero_le _, Nat.zero_le _⟩ d_X12_isOut_53 h (fun r10 M9 h => ?_)
  have hL_M9 : Lay c M9 := hL_M7.to h.1
  replace h := h.2
  refine tw_i2l d_X12_isOut_56 ?_
  refine tw_aload_n 2 d_X12_isOut_57 rfl rfl ?_
  refine tw_getJ f_X12_214 hL_M9 s_147 rfl d_X12_isOut_58 ?_
  refine tw_lmul d_X12_isOut_61 ?_
  refine tw_lcmp_le 70 d_X12_isOut_62 d_X12_isOut_63 (by decide) (fun z11 => ?_) (fun z11 => ?_)
  · replace h := h.1 z11
    refine tw_iconst d_X12_isOut_70 k_0 ?_
    exact tw_zret (ty := .boolean) rfl rfl ⟨Nat.zero_le _, Nat.zero_le _⟩ d_X12_isOut_71 h
  · replace h := h.2 z11
    refine tw_iconst d_X12_isOut_66 k_1 ?_
    refine tw_goto 71 d_X12_isOut_67 (by decide) ?_
    exact tw_zret (ty := .boolean) rfl rfl ⟨Nat.zero_le _, Nat.zero_le _⟩ d_X12_isOut_71 h

theorem d_X12_lengthOf_0 : decode Y_X12_lengthOf.cc 0 = .ok (.lload_n 0, 1) := by decide +kernel
theorem d_X12_lengthOf_1 : decode Y_X12_lengthOf.cc 1 = .ok (.lconst 0, 1) := by decide +kernel
theorem d_X12_lengthOf_2 : decode Y_X12_lengthOf.cc 2 = .ok (.lcmp, 1) := by decide +kernel
theorem d_X12_lengthOf_3 : decode Y_X12_lengthOf.cc 3 = .ok (.ifCond .ge 8, 3) := by decide +kernel
theorem d_X12_lengthOf_6 : decode Y_X12_lengthOf.cc 6 = .ok (.lload_n 0, 1) := by decide +kernel
theorem d_X12_lengthOf_7 : decode Y_X12_lengthOf.cc 7 = .ok (.lneg, 1) := by decide +kernel
theorem d_X12_lengthOf_8 : decode Y_X12_lengthOf.cc 8 = .ok (.goto 4, 3) := by decide +kernel
theorem d_X12_lengthOf_11 : decode Y_X12_lengthOf.cc 11 = .ok (.lload_n 0, 1) := by decide +kernel
theorem d_X12_lengthOf_12 : decode Y_X12_lengthOf.cc 12 = .ok (.lreturn, 1) := by decide +kernel
theorem b_X12_lengthOf {G : MG} {d : Nat} {Q : Int64 → Mm → Prop} {y0 : Int64} {M : Mm} {c : Nat} (hL : Lay c M)  (h : ((0 ≤ y0 → Q y0 M) ∧ (¬ 0 ≤ y0 → Q (-y0) M))) : C G Y_X12_lengthOf (d + 1) [.long y0] M (Rj Q) := by
  refine C.of (by decide) (Nat.le_of_ble_eq_true rfl) (lv := [(0, .long y0)]) rfl ?_
  refine tw_lload_n 0 d_X12_lengthOf_0 rfl rfl ?_
  refine tw_lconst (v := 0) d_X12_lengthOf_1 rfl ?_
  refine tw_lcmp_ge 11 d_X12_lengthOf_2 d_X12_lengthOf_3 (by decide) (fun z1 => ?_) (fun z1 => ?_)
  · replace h := h.1 z1
    refine tw_lload_n 0 d_X12_lengthOf_11 rfl rfl ?_
    exact tw_lret rfl ⟨Nat.zero_le _, Nat.zero_le _⟩ d_X12_lengthOf_12 h
  · replace h := h.2 z1
    refine tw_lload_n 0 d_X12_lengthOf_6 rfl rfl ?_
    refine tw_lneg d_X12_lengthOf_7 ?_
    refine tw_goto 12 d_X12_lengthOf_8 (by decide) ?_
    exact tw_lret rfl ⟨Nat.zero_le _, Nat.zero_le _⟩ d_X12_lengthOf_12 h

theorem d_X12_traces_0 : decode Y_X12_traces.cc 0 = .ok (.aload_n 0, 1) := by decide +kernel
theorem d_X12_traces_1 : decode Y_X12_traces.cc 1 = .ok (.getfield 207, 3) := by decide +kernel
theorem d_X12_traces_4 : decode Y_X12_traces.cc 4 = .ok (.aload_n 0, 1) := by decide +kernel
theorem d_X12_traces_5 : decode Y_X12_traces.cc 5 = .ok (.iload_n 1, 1) := by decide +kernel
theorem d_X12_traces_6 : decode Y_X12_traces.cc 6 = .ok (.bipush 9, 2) := by decide +kernel
theorem d_X12_traces_8 : decode Y_X12_traces.cc 8 = .ok (.invokevirtual 190, 3) := by decide +kernel
theorem d_X12_traces_11 : decode Y_X12_traces.cc 11 = .ok (.i2l, 1) := by decide +kernel
theorem d_X12_traces_12 : decode Y_X12_traces.cc 12 = .ok (.aload_n 0, 1) := by decide +kernel
theorem d_X12_traces_13 : decode Y_X12_traces.cc 13 = .ok (.getfield 214, 3) := by decide +kernel
theorem d_X12_traces_16 : decode Y_X12_traces.cc 16 = .ok (.lmul, 1) := by decide +kernel
theorem d_X12_traces_17 : decode Y_X12_traces.cc 17 = .ok (.lsub, 1) := by decide +kernel
theorem d_X12_traces_18 : decode Y_X12_traces.cc 18 = .ok (.lstore_n 3, 1) := by decide +kernel
theorem d_X12_traces_19 : decode Y_X12_traces.cc 19 = .ok (.aload_n 0, 1) := by decide +kernel
theorem d_X12_traces_20 : decode Y_X12_traces.cc 20 = .ok (.getfield 211, 3) := by decide +kernel
theorem d_X12_traces_23 : decode Y_X12_traces.cc 23 = .ok (.aload_n 0, 1) := by decide +kernel
theorem d_X12_traces_24 : decode Y_X12_traces.cc 24 = .ok (.iload_n 1, 1) := by decide +kernel
theorem d_X12_traces_25 : decode Y_X12_traces.cc 25 = .ok (.bipush 10, 2) := by decide +kernel
theorem d_X12_traces_27 : decode Y_X12_traces.cc 27 = .ok (.invokevirtual 190, 3) := by decide +kernel
theorem d_X12_traces_30 : decode Y_X12_traces.cc 30 = .ok (.i2l, 1) := by decide +kernel
theorem d_X12_traces_31 : decode Y_X12_traces.cc 31 = .ok (.aload_n 0, 1) := by decide +kernel
theorem d_X12_traces_32 : decode Y_X12_traces.cc 32 = .ok (.getfield 214, 3) := by decide +kernel
theorem d_X12_traces_35 : decode Y_X12_traces.cc 35 = .ok (.lmul, 1) := by decide +kernel
theorem d_X12_traces_36 : decode Y_X12_traces.cc 36 = .ok (.lsub, 1) := by decide +kernel
theorem d_X12_traces_37 : decode Y_X12_traces.cc 37 = .ok (.lstore 5, 2) := by decide +kernel
theorem d_X12_traces_39 : decode Y_X12_traces.cc 39 = .ok (.aload_n 0, 1) := by decide +kernel
theorem d_X12_traces_40 : decode Y_X12_traces.cc 40 = .ok (.iload_n 1, 1) := by decide +kernel
theorem d_X12_traces_41 : decode Y_X12_traces.cc 41 = .ok (.iconst 0, 1) := by decide +kernel
theorem d_X12_traces_42 : decode Y_X12_traces.cc 42 = .ok (.invokevirtual 190, 3) := by decide +kernel
theorem d_X12_traces_45 : decode Y_X12_traces.cc 45 = .ok (.iconst 1, 1) := by decide +kernel
theorem d_X12_traces_46 : decode Y_X12_traces.cc 46 = .ok (.if_icmp .ne 8, 3) := by decide +kernel
theorem d_X12_traces_49 : decode Y_X12_traces.cc 49 = .ok (.lload_n 3, 1) := by decide +kernel
theorem d_X12_traces_50 : decode Y_X12_traces.cc 50 = .ok (.lneg, 1) := by decide +kernel
theorem d_X12_traces_51 : decode Y_X12_traces.cc 51 = .ok (.goto 4, 3) := by decide +kernel
theorem d_X12_traces_54 : decode Y_X12_traces.cc 54 = .ok (.lload_n 3, 1) := by decide +kernel
theorem d_X12_traces_55 : decode Y_X12_traces.cc 55 = .ok (.lstore_n 3, 1) := by decide +kernel
theorem d_X12_traces_56 : decode Y_X12_traces.cc 56 = .ok (.iconst 0, 1) := by decide +kernel
theorem d_X12_traces_57 : decode Y_X12_traces.cc 57 = .ok (.istore 7, 2) := by decide +kernel
theorem d_X12_traces_59 : decode Y_X12_traces.cc 59 = .ok (.iload 7, 2) := by decide +kernel
theorem d_X12_traces_61 : decode Y_X12_traces.cc 61 = .ok (.aload_n 0, 1) := by decide +kernel
theorem d_X12_traces_62 : decode Y_X12_traces.cc 62 = .ok (.iload_n 1, 1) := by decide +kernel
theorem d_X12_traces_63 : decode Y_X12_traces.cc 63 = .ok (.bipush 8, 2) := by decide +kernel
theorem d_X12_traces_65 : decode Y_X12_traces.cc 65 = .ok (.invokevirtual 190, 3) := by decide +kernel
theorem d_X12_traces_68 : decode Y_X12_traces.cc 68 = .ok (.if_icmp .ge 20, 3) := by decide +kernel
theorem d_X12_traces_71 : decode Y_X12_traces.cc 71 = .ok (.lload_n 3, 1) := by decide +kernel
theorem d_X12_traces_72 : decode Y_X12_traces.cc 72 = .ok (.lstore 8, 2) := by decide +kernel
theorem d_X12_traces_74 : decode Y_X12_traces.cc 74 = .ok (.lload 5, 2) := by decide +kernel
theorem d_X12_traces_76 : decode Y_X12_traces.cc 76 = .ok (.lneg, 1) := by decide +kernel
theorem d_X12_traces_77 : decode Y_X12_traces.cc 77 = .ok (.lstore_n 3, 1) := by decide +kernel
theorem d_X12_traces_78 : decode Y_X12_traces.cc 78 = .ok (.lload 8, 2) := by decide +kernel
theorem d_X12_traces_80 : decode Y_X12_traces.cc 80 = .ok (.lstore 5, 2) := by decide +kernel
theorem d_X12_traces_82 : decode Y_X12_traces.cc 82 = .ok (.iinc 7 1, 3) := by decide +kernel
theorem d_X12_traces_85 : decode Y_X12_traces.cc 85 = .ok (.goto (-26), 3) := by decide +kernel
theorem d_X12_traces_88 : decode Y_X12_traces.cc 88 = .ok (.ldc2_w 110, 3) := by decide +kernel
theorem d_X12_traces_91 : decode Y_X12_traces.cc 91 = .ok (.lload_n 3, 1) := by decide +kernel
theorem d_X12_traces_92 : decode Y_X12_traces.cc 92 = .ok (.lmul, 1) := by decide +kernel
theorem d_X12_traces_93 : decode Y_X12_traces.cc 93 = .ok (.lload 5, 2) := by decide +kernel
theorem d_X12_traces_95 : decode Y_X12_traces.cc 95 = .ok (.iload_n 2, 1) := by decide +kernel
theorem d_X12_traces_96 : decode Y_X12_traces.cc 96 = .ok (.i2l, 1) := by decide +kernel
theorem d_X12_traces_97 : decode Y_X12_traces.cc 97 = .ok (.lmul, 1) := by decide +kernel
theorem d_X12_traces_98 : decode Y_X12_traces.cc 98 = .ok (.ladd, 1) := by decide +kernel
theorem d_X12_traces_99 : decode Y_X12_traces.cc 99 = .ok (.lstore_n 3, 1) := by decide +kernel
theorem d_X12_traces_100 : decode Y_X12_traces.cc 100 = .ok (.ldc2_w 110, 3) := by decide +kernel
theorem d_X12_traces_103 : decode Y_X12_traces.cc 103 = .ok (.lload 5, 2) := by decide +kernel
theorem d_X12_traces_105 : decode Y_X12_traces.cc 105 = .ok (.lmul, 1) := by decide +kernel
theorem d_X12_traces_106 : decode Y_X12_traces.cc 106 = .ok (.lstore 5, 2) := by decide +kernel
theorem d_X12_traces_108 : decode Y_X12_traces.cc 108 = .ok (.aload_n 0, 1) := by decide +kernel
theorem d_X12_traces_109 : decode Y_X12_traces.cc 109 = .ok (.aload_n 0, 1) := by decide +kernel
theorem d_X12_traces_110 : decode Y_X12_traces.cc 110 = .ok (.getfield 214, 3) := by decide +kernel
theorem d_X12_traces_113 : decode Y_X12_traces.cc 113 = .ok (.ldc2_w 110, 3) := by decide +kernel
theorem d_X12_traces_116 : decode Y_X12_traces.cc 116 = .ok (.lmul, 1) := by decide +kernel
theorem d_X12_traces_117 : decode Y_X12_traces.cc 117 = .ok (.aload_n 0, 1) := by decide +kernel
theorem d_X12_traces_118 : decode Y_X12_traces.cc 118 = .ok (.iload_n 1, 1) := by decide +kernel
theorem d_X12_traces_119 : decode Y_X12_traces.cc 119 = .ok (.bipush 7, 2) := by decide +kernel
theorem d_X12_traces_121 : decode Y_X12_traces.cc 121 = .ok (.invokevirtual 190, 3) := by decide +kernel
theorem d_X12_traces_124 : decode Y_X12_traces.cc 124 = .ok (.i2l, 1) := by decide +kernel
theorem d_X12_traces_125 : decode Y_X12_traces.cc 125 = .ok (.lmul, 1) := by decide +kernel
theorem d_X12_traces_126 : decode Y_X12_traces.cc 126 = .ok (.putfield 214, 3) := by decide +kernel
theorem d_X12_traces_129 : decode Y_X12_traces.cc 129 = .ok (.aload_n 0, 1) := by decide +kernel
theorem d_X12_traces_130 : decode Y_X12_traces.cc 130 = .ok (.aload_n 0, 1) := by decide +kernel
theorem d_X12_traces_131 : decode Y_X12_traces.cc 131 = .ok (.iload_n 1, 1) := by decide +kernel
theorem d_X12_traces_132 : decode Y_X12_traces.cc 132 = .ok (.bipush 9, 2) := by decide +kernel
theorem d_X12_traces_134 : decode Y_X12_traces.cc 134 = .ok (.invokevirtual 190, 3) := by decide +kernel
theorem d_X12_traces_137 : decode Y_X12_traces.cc 137 = .ok (.i2l, 1) := by decide +kernel
theorem d_X12_traces_138 : decode Y_X12_traces.cc 138 = .ok (.aload_n 0, 1) := by decide +kernel
theorem d_X12_traces_139 : decode Y_X12_traces.cc 139 = .ok (.getfield 214, 3) := by decide +kernel
theorem d_X12_traces_142 : decode Y_X12_traces.cc 142 = .ok (.lmul, 1) := by decide +kernel
theorem d_X12_traces_143 : decode Y_X12_traces.cc 143 = .ok (.lload_n 3, 1) := by decide +kernel
theorem d_X12_traces_144 : decode Y_X12_traces.cc 144 = .ok (.aload_n 0, 1) := by decide +kernel
theorem d_X12_traces_145 : decode Y_X12_traces.cc 145 = .ok (.iload_n 1, 1) := by decide +kernel
theorem d_X12_traces_146 : decode Y_X12_traces.cc 146 = .ok (.bipush 6, 2) := by decide +kernel
theorem d_X12_traces_148 : decode Y_X12_traces.cc 148 = .ok (.invokevirtual 190, 3) := by decide +kernel
theorem d_X12_traces_151 : decode Y_X12_traces.cc 151 = .ok (.i2l, 1) := by decide +kernel
theorem d_X12_traces_152 : decode Y_X12_traces.cc 152 = .ok (.lmul, 1) := by decide +kernel
theorem d_X12_traces_153 : decode Y_X12_traces.cc 153 = .ok (.ladd, 1) := by decide +kernel
theorem d_X12_traces_154 : decode Y_X12_traces.cc 154 = .ok (.putfield 207, 3) := by decide +kernel
theorem d_X12_traces_157 : decode Y_X12_traces.cc 157 = .ok (.aload_n 0, 1) := by decide +kernel
theorem d_X12_traces_158 : decode Y_X12_traces.cc 158 = .ok (.aload_n 0, 1) := by decide +kernel
theorem d_X12_traces_159 : decode Y_X12_traces.cc 159 = .ok (.iload_n 1, 1) := by decide +kernel
theorem d_X12_traces_160 : decode Y_X12_traces.cc 160 = .ok (.bipush 10, 2) := by decide +kernel
theorem d_X12_traces_162 : decode Y_X12_traces.cc 162 = .ok (.invokevirtual 190, 3) := by decide +kernel
theorem d_X12_traces_165 : decode Y_X12_traces.cc 165 = .ok (.i2l, 1) := by decide +kernel
theorem d_X12_traces_166 : decode Y_X12_traces.cc 166 = .ok (.aload_n 0, 1) := by decide +kernel
theorem d_X12_traces_167 : decode Y_X12_traces.cc 167 = .ok (.getfield 214, 3) := by decide +kernel
theorem d_X12_traces_170 : decode Y_X12_traces.cc 170 = .ok (.lmul, 1) := by decide +kernel
theorem d_X12_traces_171 : decode Y_X12_traces.cc 171 = .ok (.lload 5, 2) := by decide +kernel
theorem d_X12_traces_173 : decode Y_X12_traces.cc 173 = .ok (.aload_n 0, 1) := by decide +kernel
theorem d_X12_traces_174 : decode Y_X12_traces.cc 174 = .ok (.iload_n 1, 1) := by decide +kernel
theorem d_X12_traces_175 : decode Y_X12_traces.cc 175 = .ok (.bipush 6, 2) := by decide +kernel
theorem d_X12_traces_177 : decode Y_X12_traces.cc 177 = .ok (.invokevirtual 190, 3) := by decide +kernel
theorem d_X12_traces_180 : decode Y_X12_traces.cc 180 = .ok (.i2l, 1) := by decide +kernel
theorem d_X12_traces_181 : decode Y_X12_traces.cc 181 = .ok (.lmul, 1) := by decide +kernel
theorem d_X12_traces_182 : decode Y_X12_traces.cc 182 = .ok (.ladd, 1) := by decide +kernel
theorem d_X12_traces_183 : decode Y_X12_traces.cc 183 = .ok (.putfield 211, 3) := by decide +kernel
theorem d_X12_traces_186 : decode Y_X12_traces.cc 186 = .ok (.return_, 1) := by decide +kernel
def L_X12_traces_59 (G : MG) (d : Nat) (Q : Mm → Prop) (x1 : Int32) (x2 : Int32) (y3 : Int64) (y5 : Int64) (x7 : Int32) (M : Mm) : Prop := T G Y_X12_traces (d + 1) (Rv Q) 0 0 59 [(0, .ref (G.b + 147)), (1, .int x1), (2, .int x2), (3, .long y3), (5, .long y5), (7, .int x7)] [] M
theorem b_X12_traces_59 {G : MG} {d : Nat} {Q : Mm → Prop} {x1 : Int32} {x2 : Int32} {y3 : Int64} {y5 : Int64} {x7 : Int32} {M : Mm} {c : Nat} (hL : Lay c M)  (h : (C G Y_X12_of d [.ref (G.b + 147), .int x1, .int 8] M (Ri fun r2 M1 => M1.2.2 = M.2.2 ∧ ((r2 ≤ x7 → (C G Y_X12_of d [.ref (G.b + 147), .int x1, .int 7] M1 (Ri fun r5 M4 => M4.2.2 = M1.2.2 ∧ (∀ M6 : Mm, M6 = sJ M4 147 17 (((M1.2.1 147 17) * 10) * r5.toInt64) → (C G Y_X12_of d [.ref (G.b + 147), .int x1, .int 9] M6 (Ri fun r8 M7 => M7.2.2 = M6.2.2 ∧ (C G Y_X12_of d [.ref (G.b + 147), .int x1, .int 6] M7 (Ri fun r10 M9 => M9.2.2 = M7.2.2 ∧ (∀ M11 : Mm, M11 = sJ M9 147 15 ((r8.toInt64 * (M7.2.1 147 17)) + (((10 * y3) + (y5 * x2.toInt64)) * r10.toInt64)) → (C G Y_X12_of d [.ref (G.b + 147), .int x1, .int 10] M11 (Ri fun r13 M12 => M12.2.2 = M11.2.2 ∧ (C G Y_X12_of d [.ref (G.b + 147), .int x1, .int 6] M12 (Ri fun r15 M14 => M14.2.2 = M12.2.2 ∧ (∀ M16 : Mm, M16 = sJ M14 147 16 ((r13.toInt64 * (M12.2.1 147 17)) + ((10 * y5) * r15.toInt64)) → Q M16)))))))))))))) ∧ (¬ r2 ≤ x7 → L_X12_traces_59 G d Q x1 x2 (-y5) y3 (x7 + 1) M1))))) : L_X12_traces_59 G d Q x1 x2 y3 y5 x7 M := by
  unfold L_X12_traces_59
  refine tw_iload 5 d_X12_traces_59 rfl ?_
  refine tw_aload_n 0 d_X12_traces_61 rfl rfl ?_
  refine tw_iload_n 1 d_X12_traces_62 rfl rfl ?_
  refine tw_bipush d_X12_traces_63 kb_8 ?_
  refine tu_cVi (As := [.int x1, .int 8]) cv_X12_190 hL s_147 rfl (Nat.le_of_ble_eq_true rfl) ⟨Nat.zero_le _, Nat.zero_le _⟩ d_X12_traces_65 h (fun r2 M1 h => ?_)
  have hL_M1 : Lay c M1 := hL.to h.1
  replace h := h.2
  refine tw_icmp_ge 88 d_X12_traces_68 (by decide) (fun z3 => ?_) (fun z3 => ?_)
  · replace h := h.1 z3
    refine tw_ldc2 d_X12_traces_88 mg1116 ?_
    refine tw_lload_n 3 d_X12_traces_91 rfl rfl ?_
    refine tw_lmul d_X12_traces_92 ?_
    refine tw_lload 4 d_X12_traces_93 rfl ?_
    refine tw_iload_n 2 d_X12_traces_95 rfl rfl ?_
    refine tw_i2l d_X12_traces_96 ?_
    refine tw_lmul d_X12_traces_97 ?_
    refine tw_ladd d_X12_traces_98 ?_
    refine tw_lstore_n [(3, .long ((10 * y3) + (y5 * x2.toInt64))), (0, .ref (G.b + 147)), (1, .int x1), (2, .int x2), (5, .long y5), (7, .int x7)] d_X12_traces_99 rfl (Nat.le_of_ble_eq_true rfl) rfl ?_
    refine tw_ldc2 d_X12_traces_100 mg1116 ?_
    refine tw_lload 4 d_X12_traces_103 rfl ?_
    refine tw_lmul d_X12_traces_105 ?_
    refine tw_lstore [(5, .long (10 * y5)), (3, .long ((10 * y3) + (y5 * x2.toInt64))), (0, .ref (G.b + 147)), (1, .int x1), (2, .int x2), (7, .int x7)] d_X12_traces_106 (Nat.le_of_ble_eq_true rfl) rfl ?_
    refine tw_aload_n 2 d_X12_traces_108 rfl rfl ?_
    refine tw_aload_n 2 d_X12_traces_109 rfl rfl ?_
    refine tw_getJ f_X12_214 hL_M1 s_147 rfl d_X12_traces_110 ?_
    refine tw_ldc2 d_X12_traces_113 mg1116 ?_
    refine tw_lmul d_X12_traces_116 ?_
    refine tw_aload_n 2 d_X12_traces_117 rfl rfl ?_
    refine tw_iload_n 3 d_X12_traces_118 rfl rfl ?_
    refine tw_bipush d_X12_traces_119 kb_7 ?_
    refine tu_cVi (As := [.int x1, .int 7]) cv_X12_190 hL_M1 s_147 rfl (Nat.le_of_ble_eq_true rfl) ⟨Nat.zero_le _, Nat.zero_le _⟩ d_X12_traces_121 h (fun r5 M4 h => ?_)
    have hL_M4 : Lay c M4 := hL_M1.to h.1
    replace h := h.2
    refine tw_i2l d_X12_traces_124 ?_
    refine tw_lmul d_X12_traces_125 ?_
    refine tu_putJ f_X12_214 hL_M4 s_147 rfl rfl d_X12_traces_126 (fun M6 e_M6 hL_M6 => ?_)
    replace h := h M6 e_M6
    refine tw_aload_n 2 d_X12_traces_129 rfl rfl ?_
    refine tw_aload_n 2 d_X12_traces_130 rfl rfl ?_
    refine tw_iload_n 3 d_X12_traces_131 rfl rfl ?_
    refine tw_bipush d_X12_traces_132 kb_9 ?_
    refine tu_cVi (As := [.int x1, .int 9]) cv_X12_190 hL_M6 s_147 rfl (Nat.le_of_ble_eq_true rfl) ⟨Nat.zero_le _, Nat.zero_le _⟩ d_X12_traces_134 h (fun r8 M7 h => ?_)
    have hL_M7 : Lay c M7 := hL_M6.to h.1
    replace h := h.2
    refine tw_i2l d_X12_traces_137 ?_
    refine tw_aload_n 2 d_X12_traces_138 rfl rfl ?_
    refine tw_getJ f_X12_214 hL_M7 s_147 rfl d_X12_traces_139 ?_
    refine tw_lmul d_X12_traces_142 ?_
    refine tw_lload_n 1 d_X12_traces_143 rfl rfl ?_
    refine tw_aload_n 2 d_X12_traces_144 rfl rfl ?_
    refine tw_iload_n 3 d_X12_traces_145 rfl rfl ?_
    refine tw_bipush d_X12_traces_146 kb_6 ?_
    refine tu_cVi (As := [.int x1, .int 6]) cv_X12_190 hL_M7 s_147 rfl (Nat.le_of_ble_eq_true rfl) ⟨Nat.zero_le _, Nat.zero_le _⟩ d_X12_traces_148 h (fun r10 M9 h => ?_)
    have hL_M9 : Lay c M9 := hL_M7.to h.1
    replace h := h.2
    refine tw_i2l d_X12_traces_151 ?_
    refine tw_lmul d_X12_traces_152 ?_
    refine tw_ladd d_X12_traces_153 ?_
    refine tu_putJ f_X12_207 hL_M9 s_147 rfl rfl d_X12_traces_154 (fun M11 e_M11 hL_M11 => ?_)
    replace h := h M11 e_M11
    refine tw_aload_n 2 d_X12_traces_157 rfl rfl ?_
    refine tw_aload_n 2 d_X12_traces_158 rfl rfl ?_
    refine tw_iload_n 3 d_X12_traces_159 rfl rfl ?_
    refine tw_bipush d_X12_traces_160 kb_10 ?_
    refine tu_cVi (As := [.int x1, .int 10]) cv_X12_190 hL_M11 s_147 rfl (Nat.le_of_ble_eq_true rfl) ⟨Nat.zero_le _, Nat.zero_le _⟩ d_X12_traces_162 h (fun r13 M12 h => ?_)
    have hL_M12 : Lay c M12 := hL_M11.to h.1
    replace h := h.2
    refine tw_i2l d_X12_traces_165 ?_
    refine tw_aload_n 2 d_X12_traces_166 rfl rfl ?_
    refine tw_getJ f_X12_214 hL_M12 s_147 rfl d_X12_traces_167 ?_
    refine tw_lmul d_X12_traces_170 ?_
    refine tw_lload 0 d_X12_traces_171 rfl ?_
    refine tw_aload_n 2 d_X12_traces_173 rfl rfl ?_
    refine tw_iload_n 3 d_X12_traces_174 rfl rfl ?_
    refine tw_bipush d_X12_traces_175 kb_6 ?_
    refine tu_cVi (As := [.int x1, .int 6]) cv_X12_190 hL_M12 s_147 rfl (Nat.le_of_ble_eq_true rfl) ⟨Nat.zero_le _, Nat.zero_le _⟩ d_X12_traces_177 h (fun r15 M14 h => ?_)
    have hL_M14 : Lay c M14 := hL_M12.to h.1
    replace h := h.2
    refine tw_i2l d_X12_traces_180 ?_
    refine tw_lmul d_X12_traces_181 ?_
    refine tw_ladd d_X12_traces_182 ?_
    refine tu_putJ f_X12_211 hL_M14 s_147 rfl rfl d_X12_traces_183 (fun M16 e_M16 hL_M16 => ?_)
    replace h := h M16 e_M16
    exact tw_vret rfl ⟨Nat.zero_le _, Nat.zero_le _⟩ d_X12_traces_186 h
  · replace h := h.2 z3
    refine tw_lload_n 3 d_X12_traces_71 rfl rfl ?_
    refine tw_lstore [(8, .long y3), (0, .ref (G.b + 147)), (1, .int x1), (2, .int x2), (3, .long y3), (5, .long y5), (7, .int x7)] d_X12_traces_72 (Nat.le_of_ble_eq_true rfl) rfl ?_
    refine tw_lload 5 d_X12_traces_74 rfl ?_
    refine tw_lneg d_X12_traces_76 ?_
    refine tw_lstore_n [(3, .long (-y5)), (8, .long y3), (0, .ref (G.b + 147)), (1, .int x1), (2, .int x2), (5, .long y5), (7, .int x7)] d_X12_traces_77 rfl (Nat.le_of_ble_eq_true rfl) rfl ?_
    refine tw_lload 1 d_X12_traces_78 rfl ?_
    refine tw_lstore [(5, .long y3), (3, .long (-y5)), (8, .long y3), (0, .ref (G.b + 147)), (1, .int x1), (2, .int x2), (7, .int x7)] d_X12_traces_80 (Nat.le_of_ble_eq_true rfl) rfl ?_
    refine tw_iinc 6 [(7, .int (x7 + 1)), (5, .long y3), (3, .long (-y5)), (8, .long y3), (0, .ref (G.b + 147)), (1, .int x1), (2, .int x2)] d_X12_traces_82 rfl rfl (Nat.le_of_ble_eq_true rfl) rfl ?_
    refine tw_goto 59 d_X12_traces_85 (by decide) ?_
    exact tw_lv [4, 5, 6, 2, 1, 0] rfl h
theorem b_X12_traces {G : MG} {d : Nat} {Q : Mm → Prop} {x1 : Int32} {x2 : Int32} {M : Mm} {c : Nat} (hL : Lay c M)  (h : (C G Y_X12_of d [.ref (G.b + 147), .int x1, .int 9] M (Ri fun r2 M1 => M1.2.2 = M.2.2 ∧ (C G Y_X12_of d [.ref (G.b + 147), .int x1, .int 10] M1 (Ri fun r4 M3 => M3.2.2 = M1.2.2 ∧ (C G Y_X12_of d [.ref (G.b + 147), .int x1, .int 0] M3 (Ri fun r6 M5 => M5.2.2 = M3.2.2 ∧ ((¬ r6 = 1 → L_X12_traces_59 G d Q x1 x2 ((M.2.1 147 15) - (r2.toInt64 * (M1.2.1 147 17))) ((M1.2.1 147 16) - (r4.toInt64 * (M3.2.1 147 17))) 0 M5) ∧ (r6 = 1 → L_X12_traces_59 G d Q x1 x2 (-((M.2.1 147 15) - (r2.toInt64 * (M1.2.1 147 17)))) ((M1.2.1 147 16) - (r4.toInt64 * (M3.2.1 147 17))) 0 M5))))))))) : C G Y_X12_traces (d + 1) [.ref (G.b + 147), .int x1, .int x2] M (Rv Q) := by
  refine C.of (by decide) (Nat.le_of_ble_eq_true rfl) (lv := [(0, .ref (G.b + 147)), (1, .int x1), (2, .int x2)]) rfl ?_
  refine tw_aload_n 0 d_X12_traces_0 rfl rfl ?_
  refine tw_getJ f_X12_207 hL s_147 rfl d_X12_traces_1 ?_
  refine tw_aload_n 0 d_X12_traces_4 rfl rfl ?_
  refine tw_iload_n 1 d_X12_traces_5 rfl rfl ?_
  refine tw_bipush d_X12_traces_6 kb_9 ?_
  refine tu_cVi (As := [.int x1, .int 9]) cv_X12_190 hL s_147 rfl (Nat.le_of_ble_eq_true rfl) ⟨Nat.zero_le _, Nat.zero_le _⟩ d_X12_traces_8 h (fun r2 M1 h => ?_)
  have hL_M1 : Lay c M1 := hL.to h.1
  replace h := h.2
  refine tw_i2l d_X12_traces_11 ?_
  refine tw_aload_n 0 d_X12_traces_12 rfl rfl ?_
  refine tw_getJ f_X12_214 hL_M1 s_147 rfl d_X12_traces_13 ?_
  refine tw_lmul d_X12_traces_16 ?_
  refine tw_lsub d_X12_traces_17 ?_
  refine tw_lstore_n [(3, .long ((M.2.1 147 15) - (r2.toInt64 * (M1.2.1 147 17)))), (0, .ref (G.b + 147)), (1, .int x1), (2, .int x2)] d_X12_traces_18 rfl (Nat.le_of_ble_eq_true rfl) rfl ?_
  refine tw_aload_n 1 d_X12_traces_19 rfl rfl ?_
  refine tw_getJ f_X12_211 hL_M1 s_147 rfl d_X12_traces_20 ?_
  refine tw_aload_n 1 d_X12_traces_23 rfl rfl ?_
  refine tw_iload_n 2 d_X12_traces_24 rfl rfl ?_
  refine tw_bipush d_X12_traces_25 kb_10 ?_
  refine tu_cVi (As := [.int x1, .int 10]) cv_X12_190 hL_M1 s_147 rfl (Nat.le_of_ble_eq_true rfl) ⟨Nat.zero_le _, Nat.zero_le _⟩ d_X12_traces_27 h (fun r4 M3 h => ?_)
  have hL_M3 : Lay c M3 := hL_M1.to h.1
  replace h := h.2
  refine tw_i2l d_X12_traces_30 ?_
  refine tw_aload_n 1 d_X12_traces_31 rfl rfl ?_
  refine tw_getJ f_X12_214 hL_M3 s_147 rfl d_X12_traces_32 ?_
  refine tw_lmul d_X12_traces_35 ?_
  refine tw_lsub d_X12_traces_36 ?_
  refine tw_lstore [(5, .long ((M1.2.1 147 16) - (r4.toInt64 * (M3.2.1 147 17)))), (3, .long ((M.2.1 147 15) - (r2.toInt64 * (M1.2.1 147 17)))), (0, .ref (G.b + 147)), (1, .int x1), (2, .int x2)] d_X12_traces_37 (Nat.le_of_ble_eq_true rfl) rfl ?_
  refine tw_aload_n 2 d_X12_traces_39 rfl rfl ?_
  refine tw_iload_n 3 d_X12_traces_40 rfl rfl ?_
  refine tw_iconst d_X12_traces_41 k_0 ?_
  refine tu_cVi (As := [.int x1, .int 0]) cv_X12_190 hL_M3 s_147 rfl (Nat.le_of_ble_eq_true rfl) ⟨Nat.zero_le _, Nat.zero_le _⟩ d_X12_traces_42 h (fun r6 M5 h => ?_)
  have hL_M5 : Lay c M5 := hL_M3.to h.1
  replace h := h.2
  refine tw_iconst d_X12_traces_45 k_1 ?_
  refine tw_icmp_ne 54 d_X12_traces_46 (by decide) (fun z7 => ?_) (fun z7 => ?_)
  · replace h := h.1 z7
    refine tw_lload_n 1 d_X12_traces_54 rfl rfl ?_
    refine tw_lstore_n [(3, .long ((M.2.1 147 15) - (r2.toInt64 * (M1.2.1 147 17)))), (5, .long ((M1.2.1 147 16) - (r4.toInt64 * (M3.2.1 147 17)))), (0, .ref (G.b + 147)), (1, .int x1), (2, .int x2)] d_X12_traces_55 rfl (Nat.le_of_ble_eq_true rfl) rfl ?_
    refine tw_iconst d_X12_traces_56 k_0 ?_
    refine tw_istore [(7, .int 0), (3, .long ((M.2.1 147 15) - (r2.toInt64 * (M1.2.1 147 17)))), (5, .long ((M1.2.1 147 16) - (r4.toInt64 * (M3.2.1 147 17)))), (0, .ref (G.b + 147)), (1, .int x1), (2, .int x2)] d_X12_traces_57 (Nat.le_of_ble_eq_true rfl) rfl ?_
    exact tw_lv [3, 4, 5, 1, 2, 0] rfl h
  · replace h := h.2 z7
    refine tw_lload_n 1 d_X12_traces_49 rfl rfl ?_
    refine tw_lneg d_X12_traces_50 ?_
    refine tw_goto 55 d_X12_traces_51 (by decide) ?_
    refine tw_lstore_n [(3, .long (-((M.2.1 147 15) - (r2.toInt64 * (M1.2.1 147 17))))), (5, .long ((M1.2.1 147 16) - (r4.toInt64 * (M3.2.1 147 17)))), (0, .ref (G.b + 147)), (1, .int x1), (2, .int x2)] d_X12_traces_55 rfl (Nat.le_of_ble_eq_true rfl) rfl ?_
    refine tw_iconst d_X12_traces_56 k_0 ?_
    refine tw_istore [(7, .int 0), (3, .long (-((M.2.1 147 15) - (r2.toInt64 * (M1.2.1 147 17))))), (5, .long ((M1.2.1 147 16) - (r4.toInt64 * (M3.2.1 147 17)))), (0, .ref (G.b + 147)), (1, .int x1), (2, .int x2)] d_X12_traces_57 (Nat.le_of_ble_eq_true rfl) rfl ?_
    exact tw_lv [3, 4, 5, 1, 2, 0] rfl h

theorem d_X12_part_0 : decode Y_X12_part.cc 0 = .ok (.iload_n 1, 1) := by decide +kernel
theorem d_X12_part_1 : decode Y_X12_part.cc 1 = .ok (.iconst 2, 1) := by decide +kernel
theorem d_X12_part_2 : decode Y_X12_part.cc 2 = .ok (.if_icmp .ge 10, 3) := by decide +kernel
theorem d_X12_part_5 : decode Y_X12_part.cc 5 = .ok (.aload_n 0, 1) := by decide +kernel
theorem d_X12_part_6 : decode Y_X12_part.cc 6 = .ok (.getfield 207, 3) := by decide +kernel
theorem d_X12_part_9 : decode Y_X12_part.cc 9 = .ok (.goto 7, 3) := by decide +kernel
theorem d_X12_part_12 : decode Y_X12_part.cc 12 = .ok (.aload_n 0, 1) := by decide +kernel
theorem d_X12_part_13 : decode Y_X12_part.cc 13 = .ok (.getfield 211, 3) := by decide +kernel
theorem d_X12_part_16 : decode Y_X12_part.cc 16 = .ok (.lstore_n 2, 1) := by decide +kernel
theorem d_X12_part_17 : decode Y_X12_part.cc 17 = .ok (.lload_n 2, 1) := by decide +kernel
theorem d_X12_part_18 : decode Y_X12_part.cc 18 = .ok (.aload_n 0, 1) := by decide +kernel
theorem d_X12_part_19 : decode Y_X12_part.cc 19 = .ok (.getfield 214, 3) := by decide +kernel
theorem d_X12_part_22 : decode Y_X12_part.cc 22 = .ok (.invokestatic 179, 3) := by decide +kernel
theorem d_X12_part_25 : decode Y_X12_part.cc 25 = .ok (.lstore 4, 2) := by decide +kernel
theorem d_X12_part_27 : decode Y_X12_part.cc 27 = .ok (.iload_n 1, 1) := by decide +kernel
theorem d_X12_part_28 : decode Y_X12_part.cc 28 = .ok (.iconst 2, 1) := by decide +kernel
theorem d_X12_part_29 : decode Y_X12_part.cc 29 = .ok (.irem, 1) := by decide +kernel
theorem d_X12_part_30 : decode Y_X12_part.cc 30 = .ok (.ifCond .ne 10, 3) := by decide +kernel
theorem d_X12_part_33 : decode Y_X12_part.cc 33 = .ok (.lload_n 2, 1) := by decide +kernel
theorem d_X12_part_34 : decode Y_X12_part.cc 34 = .ok (.lload 4, 2) := by decide +kernel
theorem d_X12_part_36 : decode Y_X12_part.cc 36 = .ok (.ldiv, 1) := by decide +kernel
theorem d_X12_part_37 : decode Y_X12_part.cc 37 = .ok (.goto 10, 3) := by decide +kernel
theorem d_X12_part_40 : decode Y_X12_part.cc 40 = .ok (.aload_n 0, 1) := by decide +kernel
theorem d_X12_part_41 : decode Y_X12_part.cc 41 = .ok (.getfield 214, 3) := by decide +kernel
theorem d_X12_part_44 : decode Y_X12_part.cc 44 = .ok (.lload 4, 2) := by decide +kernel
theorem d_X12_part_46 : decode Y_X12_part.cc 46 = .ok (.ldiv, 1) := by decide +kernel
theorem d_X12_part_47 : decode Y_X12_part.cc 47 = .ok (.lreturn, 1) := by decide +kernel
def L_X12_part_16 (G : MG) (d : Nat) (Q : Int64 → Mm → Prop) (x1 : Int32) (sy0 : Int64) (M : Mm) : Prop := T G Y_X12_part (d + 1) (Rj Q) 0 0 16 [(0, .ref (G.b + 147)), (1, .int x1)] [.long sy0] M
theorem b_X12_part_16 {G : MG} {d : Nat} {Q : Int64 → Mm → Prop} {x1 : Int32} {sy0 : Int64} {M : Mm} {c : Nat} (hL : Lay c M)  (h : (C G Y_X12_common d [.long sy0, .long (M.2.1 147 17)] M (Rj fun r2 M1 => M1.2.2 = M.2.2 ∧ ((¬ (x1 - x1 / 2 * 2) = 0 → (¬ r2 = 0 ∧ Q ((M1.2.1 147 17) / r2) M1)) ∧ ((x1 - x1 / 2 * 2) = 0 → (¬ r2 = 0 ∧ Q (sy0 / r2) M1)))))) : L_X12_part_16 G d Q x1 sy0 M := by
  unfold L_X12_part_16
  refine tw_lstore_n [(2, .long sy0), (0, .ref (G.b + 147)), (1, .int x1)] d_X12_part_16 rfl (Nat.le_of_ble_eq_true rfl) rfl ?_
  refine tw_lload_n 0 d_X12_part_17 rfl rfl ?_
  refine tw_aload_n 1 d_X12_part_18 rfl rfl ?_
  refine tw_getJ f_X12_214 hL s_147 rfl d_X12_part_19 ?_
  refine tu_cSJ (As := [.long sy0, .long (M.2.1 147 17)]) cs_X12_179 rfl (Nat.le_of_ble_eq_true rfl) ⟨Nat.zero_le _, Nat.zero_le _⟩ d_X12_part_22 h (fun r2 M1 h => ?_)
  have hL_M1 : Lay c M1 := hL.to h.1
  replace h := h.2
  refine tw_lstore [(4, .long r2), (2, .long sy0), (0, .ref (G.b + 147)), (1, .int x1)] d_X12_part_25 (Nat.le_of_ble_eq_true rfl) rfl ?_
  refine tw_iload_n 3 d_X12_part_27 rfl rfl ?_
  refine tw_iconst d_X12_part_28 k_2 ?_
  refine tw_irem d_X12_part_29 (by decide) ?_
  refine tw_if_ne 40 d_X12_part_30 (by decide) (fun z3 => ?_) (fun z3 => ?_)
  · replace h := h.1 z3
    refine tw_aload_n 2 d_X12_part_40 rfl rfl ?_
    refine tw_getJ f_X12_214 hL_M1 s_147 rfl d_X12_part_41 ?_
    refine tw_lload 0 d_X12_part_44 rfl ?_
    refine tw_ldiv d_X12_part_46 h.1 ?_
    replace h := h.2
    exact tw_lret rfl ⟨Nat.zero_le _, Nat.zero_le _⟩ d_X12_part_47 h
  · replace h := h.2 z3
    refine tw_lload_n 1 d_X12_part_33 rfl rfl ?_
    refine tw_lload 0 d_X12_part_34 rfl ?_
    refine tw_ldiv d_X12_part_36 h.1 ?_
    replace h := h.2
    refine tw_goto 47 d_X12_part_37 (by decide) ?_
    exact tw_lret rfl ⟨Nat.zero_le _, Nat.zero_le _⟩ d_X12_part_47 h
theorem b_X12_part {G : MG} {d : Nat} {Q : Int64 → Mm → Prop} {x1 : Int32} {M : Mm} {c : Nat} (hL : Lay c M)  (h : ((2 ≤ x1 → L_X12_part_16 G d Q x1 (M.2.1 147 16) M) ∧ (¬ 2 ≤ x1 → L_X12_part_16 G d Q x1 (M.2.1 147 15) M))) : C G Y_X12_part (d + 1) [.ref (G.b + 147), .int x1] M (Rj Q) := by
  refine C.of (by decide) (Nat.le_of_ble_eq_true rfl) (lv := [(0, .ref (G.b + 147)), (1, .int x1)]) rfl ?_
  refine tw_iload_n 1 d_X12_part_0 rfl rfl ?_
  refine tw_iconst d_X12_part_1 k_2 ?_
  refine tw_icmp_ge 12 d_X12_part_2 (by decide) (fun z1 => ?_) (fun z1 => ?_)
  · replace h := h.1 z1
    refine tw_aload_n 0 d_X12_part_12 rfl rfl ?_
    refine tw_getJ f_X12_211 hL s_147 rfl d_X12_part_13 ?_
    exact tw_lv [0, 1] rfl h
  · replace h := h.2 z1
    refine tw_aload_n 0 d_X12_part_5 rfl rfl ?_
    refine tw_getJ f_X12_207 hL s_147 rfl d_X12_part_6 ?_
    refine tw_goto 16 d_X12_part_9 (by decide) ?_
    exact tw_lv [0, 1] rfl h

theorem d_X12_canTrace_0 : decode Y_X12_canTrace.cc 0 = .ok (.iload_n 0, 1) := by decide +kernel
theorem d_X12_canTrace_1 : decode Y_X12_canTrace.cc 1 = .ok (.sipush (-9999), 3) := by decide +kernel
theorem d_X12_canTrace_4 : decode Y_X12_canTrace.cc 4 = .ok (.sipush 9999, 3) := by decide +kernel
theorem d_X12_canTrace_7 : decode Y_X12_canTrace.cc 7 = .ok (.invokestatic 196, 3) := by decide +kernel
theorem d_X12_canTrace_10 : decode Y_X12_canTrace.cc 10 = .ok (.ifCond .eq 29, 3) := by decide +kernel
theorem d_X12_canTrace_13 : decode Y_X12_canTrace.cc 13 = .ok (.iload_n 1, 1) := by decide +kernel
theorem d_X12_canTrace_14 : decode Y_X12_canTrace.cc 14 = .ok (.sipush (-9999), 3) := by decide +kernel
theorem d_X12_canTrace_17 : decode Y_X12_canTrace.cc 17 = .ok (.sipush 9999, 3) := by decide +kernel
theorem d_X12_canTrace_20 : decode Y_X12_canTrace.cc 20 = .ok (.invokestatic 196, 3) := by decide +kernel
theorem d_X12_canTrace_23 : decode Y_X12_canTrace.cc 23 = .ok (.ifCond .eq 16, 3) := by decide +kernel
theorem d_X12_canTrace_26 : decode Y_X12_canTrace.cc 26 = .ok (.iload_n 2, 1) := by decide +kernel
theorem d_X12_canTrace_27 : decode Y_X12_canTrace.cc 27 = .ok (.iconst 0, 1) := by decide +kernel
theorem d_X12_canTrace_28 : decode Y_X12_canTrace.cc 28 = .ok (.iconst 3, 1) := by decide +kernel
theorem d_X12_canTrace_29 : decode Y_X12_canTrace.cc 29 = .ok (.invokestatic 196, 3) := by decide +kernel
theorem d_X12_canTrace_32 : decode Y_X12_canTrace.cc 32 = .ok (.ifCond .eq 7, 3) := by decide +kernel
theorem d_X12_canTrace_35 : decode Y_X12_canTrace.cc 35 = .ok (.iconst 1, 1) := by decide +kernel
theorem d_X12_canTrace_36 : decode Y_X12_canTrace.cc 36 = .ok (.goto 4, 3) := by decide +kernel
theorem d_X12_canTrace_39 : decode Y_X12_canTrace.cc 39 = .ok (.iconst 0, 1) := by decide +kernel
theorem d_X12_canTrace_40 : decode Y_X12_canTrace.cc 40 = .ok (.ireturn, 1) := by decide +kernel
theorem b_X12_canTrace {G : MG} {d : Nat} {Q : Int32 → Mm → Prop} {x0 : Int32} {x1 : Int32} {x2 : Int32} {M : Mm} {c : Nat} (hL : Lay c M)  (h : (C G Y_X12_within d [.int x0, .int (-9999), .int 9999] M (Ri fun r2 M1 => M1.2.2 = M.2.2 ∧ ((r2 = 0 → Q 0 M1) ∧ (¬ r2 = 0 → (C G Y_X12_within d [.int x1, .int (-9999), .int 9999] M1 (Ri fun r5 M4 => M4.2.2 = M1.2.2 ∧ ((r5 = 0 → Q 0 M4) ∧ (¬ r5 = 0 → (C G Y_X12_within d [.int x2, .int 0, .int 3] M4 (Ri fun r8 M7 => M7.2.2 = M4.2.2 ∧ ((r8 = 0 → Q 0 M7) ∧ (¬ r8 = 0 → Q 1 M7))))))))))))) : C G Y_X12_canTrace (d + 1) [.int x0, .int x1, .int x2] M (Ri Q) := by
  refine C.of (by decide) (Nat.le_of_ble_eq_true rfl) (lv := [(0, .int x0), (1, .int x1), (2, .int x2)]) rfl ?_
  refine tw_iload_n 0 d_X12_canTrace_0 rfl rfl ?_
  refine tw_sipush d_X12_canTrace_1 ks_m9999 ?_
  refine tw_sipush d_X12_canTrace_4 ks_9999 ?_
  refine tu_cSi (As := [.int x0, .int (-9999), .int 9999]) cs_X12_196 rfl (Nat.le_of_ble_eq_true rfl) ⟨Nat.zero_le _, Nat.zero_le _⟩ d_X12_canTrace_7 h (fun r2 M1 h => ?_)
  have hL_M1 : Lay c M1 := hL.to h.1
  replace h := h.2
  refine tw_if_eq 39 d_X12_canTrace_10 (by decide) (fun z3 => ?_) (fun z3 => ?_)
  · replace h := h.1 z3
    refine tw_iconst d_X12_canTrace_39 k_0 ?_
    exact tw_zret (ty := .boolean) rfl rfl ⟨Nat.zero_le _, Nat.zero_le _⟩ d_X12_canTrace_40 h
  · replace h := h.2 z3
    refine tw_iload_n 1 d_X12_canTrace_13 rfl rfl ?_
    refine tw_sipush d_X12_canTrace_14 ks_m9999 ?_
    refine tw_sipush d_X12_canTrace_17 ks_9999 ?_
    refine tu_cSi (As := [.int x1, .int (-9999), .int 9999]) cs_X12_196 rfl (Nat.le_of_ble_eq_true rfl) ⟨Nat.zero_le _, Nat.zero_le _⟩ d_X12_canTrace_20 h (fun r5 M4 h => ?_)
    have hL_M4 : Lay c M4 := hL_M1.to h.1
    replace h := h.2
    refine tw_if_eq 39 d_X12_canTrace_23 (by decide) (fun z6 => ?_) (fun z6 => ?_)
    · replace h := h.1 z6
      refine tw_iconst d_X12_canTrace_39 k_0 ?_
      exact tw_zret (ty := .boolean) rfl rfl ⟨Nat.zero_le _, Nat.zero_le _⟩ d_X12_canTrace_40 h
    · replace h := h.2 z6
      refine tw_iload_n 2 d_X12_canTrace_26 rfl rfl ?_
      refine tw_iconst d_X12_canTrace_27 k_0 ?_
      refine tw_iconst d_X12_canTrace_28 k_3 ?_
      refine tu_cSi (As := [.int x2, .int 0, .int 3]) cs_X12_196 rfl (Nat.le_of_ble_eq_true rfl) ⟨Nat.zero_le _, Nat.zero_le _⟩ d_X12_canTrace_29 h (fun r8 M7 h => ?_)
      have hL_M7 : Lay c M7 := hL_M4.to h.1
      replace h := h.2
      refine tw_if_eq 39 d_X12_canTrace_32 (by decide) (fun z9 => ?_) (fun z9 => ?_)
      · replace h := h.1 z9
        refine tw_iconst d_X12_canTrace_39 k_0 ?_
        exact tw_zret (ty := .boolean) rfl rfl ⟨Nat.zero_le _, Nat.zero_le _⟩ d_X12_canTrace_40 h
      · replace h := h.2 z9
        refine tw_iconst d_X12_canTrace_35 k_1 ?_
        refine tw_goto 40 d_X12_canTrace_36 (by decide) ?_
        exact tw_zret (ty := .boolean) rfl rfl ⟨Nat.zero_le _, Nat.zero_le _⟩ d_X12_canTrace_40 h

theorem d_X12_trace_0 : decode Y_X12_trace.cc 0 = .ok (.aload_n 0, 1) := by decide +kernel
theorem d_X12_trace_1 : decode Y_X12_trace.cc 1 = .ok (.iload_n 2, 1) := by decide +kernel
theorem d_X12_trace_2 : decode Y_X12_trace.cc 2 = .ok (.iload_n 3, 1) := by decide +kernel
theorem d_X12_trace_3 : decode Y_X12_trace.cc 3 = .ok (.invokevirtual 221, 3) := by decide +kernel
theorem d_X12_trace_6 : decode Y_X12_trace.cc 6 = .ok (.aload_n 0, 1) := by decide +kernel
theorem d_X12_trace_7 : decode Y_X12_trace.cc 7 = .ok (.aload_n 0, 1) := by decide +kernel
theorem d_X12_trace_8 : decode Y_X12_trace.cc 8 = .ok (.iload_n 1, 1) := by decide +kernel
theorem d_X12_trace_9 : decode Y_X12_trace.cc 9 = .ok (.invokevirtual 187, 3) := by decide +kernel
theorem d_X12_trace_12 : decode Y_X12_trace.cc 12 = .ok (.ifCond .eq 25, 3) := by decide +kernel
theorem d_X12_trace_15 : decode Y_X12_trace.cc 15 = .ok (.iload_n 2, 1) := by decide +kernel
theorem d_X12_trace_16 : decode Y_X12_trace.cc 16 = .ok (.iload_n 3, 1) := by decide +kernel
theorem d_X12_trace_17 : decode Y_X12_trace.cc 17 = .ok (.iload 4, 2) := by decide +kernel
theorem d_X12_trace_19 : decode Y_X12_trace.cc 19 = .ok (.invokestatic 224, 3) := by decide +kernel
theorem d_X12_trace_22 : decode Y_X12_trace.cc 22 = .ok (.ifCond .eq 15, 3) := by decide +kernel
theorem d_X12_trace_25 : decode Y_X12_trace.cc 25 = .ok (.aload_n 0, 1) := by decide +kernel
theorem d_X12_trace_26 : decode Y_X12_trace.cc 26 = .ok (.iload_n 1, 1) := by decide +kernel
theorem d_X12_trace_27 : decode Y_X12_trace.cc 27 = .ok (.invokevirtual 227, 3) := by decide +kernel
theorem d_X12_trace_30 : decode Y_X12_trace.cc 30 = .ok (.ifCond .ne 7, 3) := by decide +kernel
theorem d_X12_trace_33 : decode Y_X12_trace.cc 33 = .ok (.iconst 0, 1) := by decide +kernel
theorem d_X12_trace_34 : decode Y_X12_trace.cc 34 = .ok (.goto 4, 3) := by decide +kernel
theorem d_X12_trace_37 : decode Y_X12_trace.cc 37 = .ok (.iconst 1, 1) := by decide +kernel
theorem d_X12_trace_38 : decode Y_X12_trace.cc 38 = .ok (.putfield 1, 3) := by decide +kernel
theorem d_X12_trace_41 : decode Y_X12_trace.cc 41 = .ok (.aload_n 0, 1) := by decide +kernel
theorem d_X12_trace_42 : decode Y_X12_trace.cc 42 = .ok (.getfield 1, 3) := by decide +kernel
theorem d_X12_trace_45 : decode Y_X12_trace.cc 45 = .ok (.ifCond .le 5, 3) := by decide +kernel
theorem d_X12_trace_48 : decode Y_X12_trace.cc 48 = .ok (.lconst 0, 1) := by decide +kernel
theorem d_X12_trace_49 : decode Y_X12_trace.cc 49 = .ok (.lreturn, 1) := by decide +kernel
theorem d_X12_trace_50 : decode Y_X12_trace.cc 50 = .ok (.aload_n 0, 1) := by decide +kernel
theorem d_X12_trace_51 : decode Y_X12_trace.cc 51 = .ok (.iload_n 1, 1) := by decide +kernel
theorem d_X12_trace_52 : decode Y_X12_trace.cc 52 = .ok (.aload_n 0, 1) := by decide +kernel
theorem d_X12_trace_53 : decode Y_X12_trace.cc 53 = .ok (.iload_n 1, 1) := by decide +kernel
theorem d_X12_trace_54 : decode Y_X12_trace.cc 54 = .ok (.bipush 13, 2) := by decide +kernel
theorem d_X12_trace_56 : decode Y_X12_trace.cc 56 = .ok (.invokevirtual 190, 3) := by decide +kernel
theorem d_X12_trace_59 : decode Y_X12_trace.cc 59 = .ok (.invokevirtual 230, 3) := by decide +kernel
theorem d_X12_trace_62 : decode Y_X12_trace.cc 62 = .ok (.aload_n 0, 1) := by decide +kernel
theorem d_X12_trace_63 : decode Y_X12_trace.cc 63 = .ok (.iload 4, 2) := by decide +kernel
theorem d_X12_trace_65 : decode Y_X12_trace.cc 65 = .ok (.invokevirtual 233, 3) := by decide +kernel
theorem d_X12_trace_68 : decode Y_X12_trace.cc 68 = .ok (.lreturn, 1) := by decide +kernel
def L_X12_trace_38 (G : MG) (d : Nat) (Q : Int64 → Mm → Prop) (x1 : Int32) (x4 : Int32) (sx0 : Int32) (M : Mm) : Prop := T G Y_X12_trace (d + 1) (Rj Q) 0 0 38 [(0, .ref (G.b + 147)), (1, .int x1), (4, .int x4)] [.int sx0, .ref (G.b + 147)] M
theorem b_X12_trace_38 {G : MG} {d : Nat} {Q : Int64 → Mm → Prop} {x1 : Int32} {x4 : Int32} {sx0 : Int32} {M : Mm} {c : Nat} (hL : Lay c M)  (h : (∀ M1 : Mm, M1 = sI M 147 0 sx0 → (((M1.1 147 0) ≤ 0 → (C G Y_X12_of d [.ref (G.b + 147), .int x1, .int 13] M1 (Ri fun r4 M3 => M3.2.2 = M1.2.2 ∧ (C G Y_X12_traces d [.ref (G.b + 147), .int x1, .int r4] M3 (Rv fun M5 => M5.2.2 = M3.2.2 ∧ (C G Y_X12_part d [.ref (G.b + 147), .int x4] M5 (Rj fun r7 M6 => M6.2.2 = M5.2.2 ∧ Q r7 M6))))))) ∧ (¬ (M1.1 147 0) ≤ 0 → Q 0 M1)))) : L_X12_trace_38 G d Q x1 x4 sx0 M := by
  unfold L_X12_trace_38
  refine tu_putI f_X12_1 hL s_147 rfl rfl d_X12_trace_38 (fun M1 e_M1 hL_M1 => ?_)
  replace h := h M1 e_M1
  refine tw_aload_n 0 d_X12_trace_41 rfl rfl ?_
  refine tw_getI f_X12_1 hL_M1 s_147 (Or.inl rfl) d_X12_trace_42 ?_
  refine tw_if_le 50 d_X12_trace_45 (by decide) (fun z2 => ?_) (fun z2 => ?_)
  · replace h := h.1 z2
    refine tw_aload_n 0 d_X12_trace_50 rfl rfl ?_
    refine tw_iload_n 1 d_X12_trace_51 rfl rfl ?_
    refine tw_aload_n 0 d_X12_trace_52 rfl rfl ?_
    refine tw_iload_n 1 d_X12_trace_53 rfl rfl ?_
    refine tw_bipush d_X12_trace_54 kb_13 ?_
    refine tu_cVi (As := [.int x1, .int 13]) cv_X12_190 hL_M1 s_147 rfl (Nat.le_of_ble_eq_true rfl) ⟨Nat.zero_le _, Nat.zero_le _⟩ d_X12_trace_56 h (fun r4 M3 h => ?_)
    have hL_M3 : Lay c M3 := hL_M1.to h.1
    replace h := h.2
    refine tu_cVv (As := [.int x1, .int r4]) cv_X12_230 hL_M3 s_147 rfl (Nat.le_of_ble_eq_true rfl) ⟨Nat.zero_le _, Nat.zero_le _⟩ d_X12_trace_59 h (fun M5 h => ?_)
    have hL_M5 : Lay c M5 := hL_M3.to h.1
    replace h := h.2
    refine tw_aload_n 0 d_X12_trace_62 rfl rfl ?_
    refine tw_iload 2 d_X12_trace_63 rfl ?_
    refine tu_cVJ (As := [.int x4]) cv_X12_233 hL_M5 s_147 rfl (Nat.le_of_ble_eq_true rfl) ⟨Nat.zero_le _, Nat.zero_le _⟩ d_X12_trace_65 h (fun r7 M6 h => ?_)
    have hL_M6 : Lay c M6 := hL_M5.to h.1
    replace h := h.2
    exact tw_lret rfl ⟨Nat.zero_le _, Nat.zero_le _⟩ d_X12_trace_68 h
  · replace h := h.2 z2
    refine tw_lconst (v := 0) d_X12_trace_48 rfl ?_
    exact tw_lret rfl ⟨Nat.zero_le _, Nat.zero_le _⟩ d_X12_trace_49 h
theorem b_X12_trace {G : MG} {d : Nat} {Q : Int64 → Mm → Prop} {x1 : Int32} {x2 : Int32} {x3 : Int32} {x4 : Int32} {M : Mm} {c : Nat} (hL : Lay c M)  (h : (C G Y_X12_starts d [.ref (G.b + 147), .int x2, .int x3] M (Rv fun M1 => M1.2.2 = M.2.2 ∧ (C G Y_X12_isArm d [.ref (G.b + 147), .int x1] M1 (Ri fun r3 M2 => M2.2.2 = M1.2.2 ∧ ((r3 = 0 → L_X12_trace_38 G d Q x1 x4 1 M2) ∧ (¬ r3 = 0 → (C G Y_X12_canTrace d [.int x2, .int x3, .int x4] M2 (Ri fun r6 M5 => M5.2.2 = M2.2.2 ∧ ((r6 = 0 → L_X12_trace_38 G d Q x1 x4 1 M5) ∧ (¬ r6 = 0 → (C G Y_X12_isOut d [.ref (G.b + 147), .int x1] M5 (Ri fun r9 M8 => M8.2.2 = M5.2.2 ∧ ((¬ r9 = 0 → L_X12_trace_38 G d Q x1 x4 1 M8) ∧ (r9 = 0 → L_X12_trace_38 G d Q x1 x4 0 M8))))))))))))))) : C G Y_X12_trace (d + 1) [.ref (G.b + 147), .int x1, .int x2, .int x3, .int x4] M (Rj Q) := by
  refine C.of (by decide) (Nat.le_of_ble_eq_true rfl) (lv := [(0, .ref (G.b + 147)), (1, .int x1), (2, .int x2), (3, .int x3), (4, .int x4)]) rfl ?_
  refine tw_aload_n 0 d_X12_trace_0 rfl rfl ?_
  refine tw_iload_n 2 d_X12_trace_1 rfl rfl ?_
  refine tw_iload_n 3 d_X12_trace_2 rfl rfl ?_
  refine tu_cVv (As := [.int x2, .int x3]) cv_X12_221 hL s_147 rfl (Nat.le_of_ble_eq_true rfl) ⟨Nat.zero_le _, Nat.zero_le _⟩ d_X12_trace_3 h (fun M1 h => ?_)
  have hL_M1 : Lay c M1 := hL.to h.1
  replace h := h.2
  refine tw_aload_n 0 d_X12_trace_6 rfl rfl ?_
  refine tw_aload_n 0 d_X12_trace_7 rfl rfl ?_
  refine tw_iload_n 1 d_X12_trace_8 rfl rfl ?_
  refine tu_cVi (As := [.int x1]) cv_X12_187 hL_M1 s_147 rfl (Nat.le_of_ble_eq_true rfl) ⟨Nat.zero_le _, Nat.zero_le _⟩ d_X12_trace_9 h (fun r3 M2 h => ?_)
  have hL_M2 : Lay c M2 := hL_M1.to h.1
  replace h := h.2
  refine tw_if_eq 37 d_X12_trace_12 (by decide) (fun z4 => ?_) (fun z4 => ?_)
  · replace h := h.1 z4
    refine tw_iconst d_X12_trace_37 k_1 ?_
    exact tw_lv [0, 1, 4] rfl h
  · replace h := h.2 z4
    refine tw_iload_n 2 d_X12_trace_15 rfl rfl ?_
    refine tw_iload_n 3 d_X12_trace_16 rfl rfl ?_
    refine tw_iload 4 d_X12_trace_17 rfl ?_
    refine tu_cSi (As := [.int x2, .int x3, .int x4]) cs_X12_224 rfl (Nat.le_of_ble_eq_true rfl) ⟨Nat.zero_le _, Nat.zero_le _⟩ d_X12_trace_19 h (fun r6 M5 h => ?_)
    have hL_M5 : Lay c M5 := hL_M2.to h.1
    replace h := h.2
    refine tw_if_eq 37 d_X12_trace_22 (by decide) (fun z7 => ?_) (fun z7 => ?_)
    · replace h := h.1 z7
      refine tw_iconst d_X12_trace_37 k_1 ?_
      exact tw_lv [0, 1, 4] rfl h
    · replace h := h.2 z7
      refine tw_aload_n 0 d_X12_trace_25 rfl rfl ?_
      refine tw_iload_n 1 d_X12_trace_26 rfl rfl ?_
      refine tu_cVi (As := [.int x1]) cv_X12_227 hL_M5 s_147 rfl (Nat.le_of_ble_eq_true rfl) ⟨Nat.zero_le _, Nat.zero_le _⟩ d_X12_trace_27 h (fun r9 M8 h => ?_)
      have hL_M8 : Lay c M8 := hL_M5.to h.1
      replace h := h.2
      refine tw_if_ne 37 d_X12_trace_30 (by decide) (fun z10 => ?_) (fun z10 => ?_)
      · replace h := h.1 z10
        refine tw_iconst d_X12_trace_37 k_1 ?_
        exact tw_lv [0, 1, 4] rfl h
      · replace h := h.2 z10
        refine tw_iconst d_X12_trace_33 k_0 ?_
        refine tw_goto 38 d_X12_trace_34 (by decide) ?_
        exact tw_lv [0, 1, 4] rfl h

theorem d_X12_chained_0 : decode Y_X12_chained.cc 0 = .ok (.aload_n 0, 1) := by decide +kernel
theorem d_X12_chained_1 : decode Y_X12_chained.cc 1 = .ok (.getfield 69, 3) := by decide +kernel
theorem d_X12_chained_4 : decode Y_X12_chained.cc 4 = .ok (.bipush 85, 2) := by decide +kernel
theorem d_X12_chained_6 : decode Y_X12_chained.cc 6 = .ok (.iaload, 1) := by decide +kernel
theorem d_X12_chained_7 : decode Y_X12_chained.cc 7 = .ok (.ireturn, 1) := by decide +kernel
theorem b_X12_chained {G : MG} {d : Nat} {Q : Int32 → Mm → Prop}  {M : Mm} {c : Nat} (hL : Lay c M)  (h : Q (M.1 153 (Int32.toNatClampNeg 85)) M) : C G Y_X12_chained (d + 1) [.ref (G.b + 147)] M (Ri Q) := by
  refine C.of (by decide) (Nat.le_of_ble_eq_true rfl) (lv := [(0, .ref (G.b + 147))]) rfl ?_
  refine tw_aload_n 0 d_X12_chained_0 rfl rfl ?_
  refine tw_getR f_X12_69 hL s_147 ⟨rfl, rfl⟩ (rr_X12_10 s_147) d_X12_chained_1 ?_
  refine tw_bipush d_X12_chained_4 kb_85 ?_
  refine tw_iald hL s_153 d_X12_chained_6 (by unfold vp_in; decide) ?_
  exact tw_iret rfl ⟨Nat.zero_le _, Nat.zero_le _⟩ d_X12_chained_7 h

theorem d_X12_chainOf_0 : decode Y_X12_chainOf.cc 0 = .ok (.aload_n 0, 1) := by decide +kernel
theorem d_X12_chainOf_1 : decode Y_X12_chainOf.cc 1 = .ok (.getfield 69, 3) := by decide +kernel
theorem d_X12_chainOf_4 : decode Y_X12_chainOf.cc 4 = .ok (.bipush 86, 2) := by decide +kernel
theorem d_X12_chainOf_6 : decode Y_X12_chainOf.cc 6 = .ok (.iload_n 1, 1) := by decide +kernel
theorem d_X12_chainOf_7 : decode Y_X12_chainOf.cc 7 = .ok (.iadd, 1) := by decide +kernel
theorem d_X12_chainOf_8 : decode Y_X12_chainOf.cc 8 = .ok (.iaload, 1) := by decide +kernel
theorem d_X12_chainOf_9 : decode Y_X12_chainOf.cc 9 = .ok (.ireturn, 1) := by decide +kernel
theorem b_X12_chainOf {G : MG} {d : Nat} {Q : Int32 → Mm → Prop} {x1 : Int32} {M : Mm} {c : Nat} (hL : Lay c M)  (h : (vp_in (86 + x1) 660 ∧ Q (M.1 153 (86 + x1).toNatClampNeg) M)) : C G Y_X12_chainOf (d + 1) [.ref (G.b + 147), .int x1] M (Ri Q) := by
  refine C.of (by decide) (Nat.le_of_ble_eq_true rfl) (lv := [(0, .ref (G.b + 147)), (1, .int x1)]) rfl ?_
  refine tw_aload_n 0 d_X12_chainOf_0 rfl rfl ?_
  refine tw_getR f_X12_69 hL s_147 ⟨rfl, rfl⟩ (rr_X12_10 s_147) d_X12_chainOf_1 ?_
  refine tw_bipush d_X12_chainOf_4 kb_86 ?_
  refine tw_iload_n 1 d_X12_chainOf_6 rfl rfl ?_
  refine tw_iadd d_X12_chainOf_7 ?_
  refine tw_iald hL s_153 d_X12_chainOf_8 h.1 ?_
  replace h := h.2
  exact tw_iret rfl ⟨Nat.zero_le _, Nat.zero_le _⟩ d_X12_chainOf_9 h

theorem d_X12_chain_0 : decode Y_X12_chain.cc 0 = .ok (.aload_n 0, 1) := by decide +kernel
theorem d_X12_chain_1 : decode Y_X12_chain.cc 1 = .ok (.iconst 0, 1) := by decide +kernel
theorem d_X12_chain_2 : decode Y_X12_chain.cc 2 = .ok (.putfield 1, 3) := by decide +kernel
theorem d_X12_chain_5 : decode Y_X12_chain.cc 5 = .ok (.iload_n 1, 1) := by decide +kernel
theorem d_X12_chain_6 : decode Y_X12_chain.cc 6 = .ok (.ifCond .ge 13, 3) := by decide +kernel
theorem d_X12_chain_9 : decode Y_X12_chain.cc 9 = .ok (.aload_n 0, 1) := by decide +kernel
theorem d_X12_chain_10 : decode Y_X12_chain.cc 10 = .ok (.getfield 69, 3) := by decide +kernel
theorem d_X12_chain_13 : decode Y_X12_chain.cc 13 = .ok (.bipush 85, 2) := by decide +kernel
theorem d_X12_chain_15 : decode Y_X12_chain.cc 15 = .ok (.iconst 0, 1) := by decide +kernel
theorem d_X12_chain_16 : decode Y_X12_chain.cc 16 = .ok (.iastore, 1) := by decide +kernel
theorem d_X12_chain_17 : decode Y_X12_chain.cc 17 = .ok (.iconst 0, 1) := by decide +kernel
theorem d_X12_chain_18 : decode Y_X12_chain.cc 18 = .ok (.ireturn, 1) := by decide +kernel
theorem d_X12_chain_19 : decode Y_X12_chain.cc 19 = .ok (.iconst 0, 1) := by decide +kernel
theorem d_X12_chain_20 : decode Y_X12_chain.cc 20 = .ok (.istore_n 2, 1) := by decide +kernel
theorem d_X12_chain_21 : decode Y_X12_chain.cc 21 = .ok (.iconst 0, 1) := by decide +kernel
theorem d_X12_chain_22 : decode Y_X12_chain.cc 22 = .ok (.istore_n 3, 1) := by decide +kernel
theorem d_X12_chain_23 : decode Y_X12_chain.cc 23 = .ok (.iload_n 3, 1) := by decide +kernel
theorem d_X12_chain_24 : decode Y_X12_chain.cc 24 = .ok (.aload_n 0, 1) := by decide +kernel
theorem d_X12_chain_25 : decode Y_X12_chain.cc 25 = .ok (.invokevirtual 237, 3) := by decide +kernel
theorem d_X12_chain_28 : decode Y_X12_chain.cc 28 = .ok (.if_icmp .ge 28, 3) := by decide +kernel
theorem d_X12_chain_31 : decode Y_X12_chain.cc 31 = .ok (.iload_n 2, 1) := by decide +kernel
theorem d_X12_chain_32 : decode Y_X12_chain.cc 32 = .ok (.ifCond .ne 12, 3) := by decide +kernel
theorem d_X12_chain_35 : decode Y_X12_chain.cc 35 = .ok (.aload_n 0, 1) := by decide +kernel
theorem d_X12_chain_36 : decode Y_X12_chain.cc 36 = .ok (.iload_n 3, 1) := by decide +kernel
theorem d_X12_chain_37 : decode Y_X12_chain.cc 37 = .ok (.invokevirtual 240, 3) := by decide +kernel
theorem d_X12_chain_40 : decode Y_X12_chain.cc 40 = .ok (.iload_n 1, 1) := by decide +kernel
theorem d_X12_chain_41 : decode Y_X12_chain.cc 41 = .ok (.if_icmp .ne 7, 3) := by decide +kernel
theorem d_X12_chain_44 : decode Y_X12_chain.cc 44 = .ok (.iconst 1, 1) := by decide +kernel
theorem d_X12_chain_45 : decode Y_X12_chain.cc 45 = .ok (.goto 4, 3) := by decide +kernel
theorem d_X12_chain_48 : decode Y_X12_chain.cc 48 = .ok (.iconst 0, 1) := by decide +kernel
theorem d_X12_chain_49 : decode Y_X12_chain.cc 49 = .ok (.istore_n 2, 1) := by decide +kernel
theorem d_X12_chain_50 : decode Y_X12_chain.cc 50 = .ok (.iinc 3 1, 3) := by decide +kernel
theorem d_X12_chain_53 : decode Y_X12_chain.cc 53 = .ok (.goto (-30), 3) := by decide +kernel
theorem d_X12_chain_56 : decode Y_X12_chain.cc 56 = .ok (.aload_n 0, 1) := by decide +kernel
theorem d_X12_chain_57 : decode Y_X12_chain.cc 57 = .ok (.iload_n 1, 1) := by decide +kernel
theorem d_X12_chain_58 : decode Y_X12_chain.cc 58 = .ok (.invokevirtual 187, 3) := by decide +kernel
theorem d_X12_chain_61 : decode Y_X12_chain.cc 61 = .ok (.ifCond .eq 15, 3) := by decide +kernel
theorem d_X12_chain_64 : decode Y_X12_chain.cc 64 = .ok (.iload_n 2, 1) := by decide +kernel
theorem d_X12_chain_65 : decode Y_X12_chain.cc 65 = .ok (.ifCond .ne 11, 3) := by decide +kernel
theorem d_X12_chain_68 : decode Y_X12_chain.cc 68 = .ok (.aload_n 0, 1) := by decide +kernel
theorem d_X12_chain_69 : decode Y_X12_chain.cc 69 = .ok (.invokevirtual 237, 3) := by decide +kernel
theorem d_X12_chain_72 : decode Y_X12_chain.cc 72 = .ok (.iconst 4, 1) := by decide +kernel
theorem d_X12_chain_73 : decode Y_X12_chain.cc 73 = .ok (.if_icmp .ne 5, 3) := by decide +kernel
theorem d_X12_chain_76 : decode Y_X12_chain.cc 76 = .ok (.iconst (-1), 1) := by decide +kernel
theorem d_X12_chain_77 : decode Y_X12_chain.cc 77 = .ok (.ireturn, 1) := by decide +kernel
theorem d_X12_chain_78 : decode Y_X12_chain.cc 78 = .ok (.aload_n 0, 1) := by decide +kernel
theorem d_X12_chain_79 : decode Y_X12_chain.cc 79 = .ok (.getfield 69, 3) := by decide +kernel
theorem d_X12_chain_82 : decode Y_X12_chain.cc 82 = .ok (.bipush 86, 2) := by decide +kernel
theorem d_X12_chain_84 : decode Y_X12_chain.cc 84 = .ok (.aload_n 0, 1) := by decide +kernel
theorem d_X12_chain_85 : decode Y_X12_chain.cc 85 = .ok (.invokevirtual 237, 3) := by decide +kernel
theorem d_X12_chain_88 : decode Y_X12_chain.cc 88 = .ok (.iadd, 1) := by decide +kernel
theorem d_X12_chain_89 : decode Y_X12_chain.cc 89 = .ok (.iload_n 1, 1) := by decide +kernel
theorem d_X12_chain_90 : decode Y_X12_chain.cc 90 = .ok (.iastore, 1) := by decide +kernel
theorem d_X12_chain_91 : decode Y_X12_chain.cc 91 = .ok (.aload_n 0, 1) := by decide +kernel
theorem d_X12_chain_92 : decode Y_X12_chain.cc 92 = .ok (.getfield 69, 3) := by decide +kernel
theorem d_X12_chain_95 : decode Y_X12_chain.cc 95 = .ok (.bipush 85, 2) := by decide +kernel
theorem d_X12_chain_97 : decode Y_X12_chain.cc 97 = .ok (.dup2, 1) := by decide +kernel
theorem d_X12_chain_98 : decode Y_X12_chain.cc 98 = .ok (.iaload, 1) := by decide +kernel
theorem d_X12_chain_99 : decode Y_X12_chain.cc 99 = .ok (.iconst 1, 1) := by decide +kernel
theorem d_X12_chain_100 : decode Y_X12_chain.cc 100 = .ok (.iadd, 1) := by decide +kernel
theorem d_X12_chain_101 : decode Y_X12_chain.cc 101 = .ok (.iastore, 1) := by decide +kernel
theorem d_X12_chain_102 : decode Y_X12_chain.cc 102 = .ok (.aload_n 0, 1) := by decide +kernel
theorem d_X12_chain_103 : decode Y_X12_chain.cc 103 = .ok (.invokevirtual 237, 3) := by decide +kernel
theorem d_X12_chain_106 : decode Y_X12_chain.cc 106 = .ok (.ireturn, 1) := by decide +kernel
def L_X12_chain_23 (G : MG) (d : Nat) (Q : Int32 → Mm → Prop) (x1 : Int32) (x2 : Int32) (x3 : Int32) (M : Mm) : Prop := T G Y_X12_chain (d + 1) (Ri Q) 0 0 23 [(0, .ref (G.b + 147)), (1, .int x1), (2, .int x2), (3, .int x3)] [] M
theorem b_X12_chain_23 {G : MG} {d : Nat} {Q : Int32 → Mm → Prop} {x1 : Int32} {x2 : Int32} {x3 : Int32} {M : Mm} {c : Nat} (hL : Lay c M)  (h : (C G Y_X12_chained d [.ref (G.b + 147)] M (Ri fun r2 M1 => M1.2.2 = M.2.2 ∧ ((r2 ≤ x3 → (C G Y_X12_isArm d [.ref (G.b + 147), .int x1] M1 (Ri fun r5 M4 => M4.2.2 = M1.2.2 ∧ ((r5 = 0 → Q (-1) M4) ∧ (¬ r5 = 0 → ((¬ x2 = 0 → Q (-1) M4) ∧ (x2 = 0 → (C G Y_X12_chained d [.ref (G.b + 147)] M4 (Ri fun r9 M8 => M8.2.2 = M4.2.2 ∧ ((¬ r9 = 4 → (C G Y_X12_chained d [.ref (G.b + 147)] M8 (Ri fun r12 M11 => M11.2.2 = M8.2.2 ∧ (vp_in (86 + r12) 660 ∧ ∀ M13 : Mm, M13 = sI M11 153 (86 + r12).toNatClampNeg x1 → (∀ M14 : Mm, M14 = sI M13 153 (Int32.toNatClampNeg 85) ((M13.1 153 (Int32.toNatClampNeg 85)) + 1) → (C G Y_X12_chained d [.ref (G.b + 147)] M14 (Ri fun r16 M15 => M15.2.2 = M14.2.2 ∧ Q r16 M15))))))) ∧ (r9 = 4 → Q (-1) M8))))))))))) ∧ (¬ r2 ≤ x3 → ((¬ x2 = 0 → L_X12_chain_23 G d Q x1 1 (x3 + 1) M1) ∧ (x2 = 0 → (C G Y_X12_chainOf d [.ref (G.b + 147), .int x3] M1 (Ri fun r19 M18 => M18.2.2 = M1.2.2 ∧ ((¬ r19 = x1 → L_X12_chain_23 G d Q x1 0 (x3 + 1) M18) ∧ (r19 = x1 → L_X12_chain_23 G d Q x1 1 (x3 + 1) M18))))))))))) : L_X12_chain_23 G d Q x1 x2 x3 M := by
  unfold L_X12_chain_23
  refine tw_iload_n 3 d_X12_chain_23 rfl rfl ?_
  refine tw_aload_n 0 d_X12_chain_24 rfl rfl ?_
  refine tu_cVi (As := []) cv_X12_237 hL s_147 rfl (Nat.le_of_ble_eq_true rfl) ⟨Nat.zero_le _, Nat.zero_le _⟩ d_X12_chain_25 h (fun r2 M1 h => ?_)
  have hL_M1 : Lay c M1 := hL.to h.1
  replace h := h.2
  refine tw_icmp_ge 56 d_X12_chain_28 (by decide) (fun z3 => ?_) (fun z3 => ?_)
  · replace h := h.1 z3
    refine tw_aload_n 0 d_X12_chain_56 rfl rfl ?_
    refine tw_iload_n 1 d_X12_chain_57 rfl rfl ?_
    refine tu_cVi (As := [.int x1]) cv_X12_187 hL_M1 s_147 rfl (Nat.le_of_ble_eq_true rfl) ⟨Nat.zero_le _, Nat.zero_le _⟩ d_X12_chain_58 h (fun r5 M4 h => ?_)
    have hL_M4 : Lay c M4 := hL_M1.to h.1
    replace h := h.2
    refine tw_if_eq 76 d_X12_chain_61 (by decide) (fun z6 => ?_) (fun z6 => ?_)
    · replace h := h.1 z6
      refine tw_iconst d_X12_chain_76 k_m1 ?_
      exact tw_iret rfl ⟨Nat.zero_le _, Nat.zero_le _⟩ d_X12_chain_77 h
    · replace h := h.2 z6
      refine tw_iload_n 2 d_X12_chain_64 rfl rfl ?_
      refine tw_if_ne 76 d_X12_chain_65 (by decide) (fun z7 => ?_) (fun z7 => ?_)
      · replace h := h.1 z7
        refine tw_iconst d_X12_chain_76 k_m1 ?_
        exact tw_iret rfl ⟨Nat.zero_le _, Nat.zero_le _⟩ d_X12_chain_77 h
      · replace h := h.2 z7
        refine tw_aload_n 0 d_X12_chain_68 rfl rfl ?_
        refine tu_cVi (As := []) cv_X12_237 hL_M4 s_147 rfl (Nat.le_of_ble_eq_true rfl) ⟨Nat.zero_le _, Nat.zero_le _⟩ d_X12_chain_69 h (fun r9 M8 h => ?_)
        have hL_M8 : Lay c M8 := hL_M4.to h.1
        replace h := h.2
        refine tw_iconst d_X12_chain_72 k_4 ?_
        refine tw_icmp_ne 78 d_X12_chain_73 (by decide) (fun z10 => ?_) (fun z10 => ?_)
        · replace h := h.1 z10
          refine tw_aload_n 0 d_X12_chain_78 rfl rfl ?_
          refine tw_getR f_X12_69 hL_M8 s_147 ⟨rfl, rfl⟩ (rr_X12_10 s_147) d_X12_chain_79 ?_
          refine tw_bipush d_X12_chain_82 kb_86 ?_
          refine tw_aload_n 0 d_X12_chain_84 rfl rfl ?_
          refine tu_cVi (As := []) cv_X12_237 hL_M8 s_147 rfl (Nat.le_of_ble_eq_true rfl) ⟨Nat.zero_le _, Nat.zero_le _⟩ d_X12_chain_85 h (fun r12 M11 h => ?_)
          have hL_M11 : Lay c M11 := hL_M8.to h.1
          replace h := h.2
          refine tw_iadd d_X12_chain_88 ?_
          refine tw_iload_n 1 d_X12_chain_89 rfl rfl ?_
          refine tu_iast hL_M11 s_153 d_X12_chain_90 h.1 (fun M13 e_M13 hL_M13 => ?_)
          replace h := h.2 M13 e_M13
          refine tw_aload_n 0 d_X12_chain_91 rfl rfl ?_
          refine tw_getR f_X12_69 hL_M13 s_147 ⟨rfl, rfl⟩ (rr_X12_10 s_147) d_X12_chain_92 ?_
          refine tw_bipush d_X12_chain_95 kb_85 ?_
          refine tw_dup2 d_X12_chain_97 rfl rfl ?_
          refine tw_iald hL_M13 s_153 d_X12_chain_98 (by unfold vp_in; decide) ?_
          refine tw_iconst d_X12_chain_99 k_1 ?_
          refine tw_iadd d_X12_chain_100 ?_
          refine tu_iast hL_M13 s_153 d_X12_chain_101 (by unfold vp_in; decide) (fun M14 e_M14 hL_M14 => ?_)
          replace h := h M14 e_M14
          refine tw_aload_n 0 d_X12_chain_102 rfl rfl ?_
          refine tu_cVi (As := []) cv_X12_237 hL_M14 s_147 rfl (Nat.le_of_ble_eq_true rfl) ⟨Nat.zero_le _, Nat.zero_le _⟩ d_X12_chain_103 h (fun r16 M15 h => ?_)
          have hL_M15 : Lay c M15 := hL_M14.to h.1
          replace h := h.2
          exact tw_iret rfl ⟨Nat.zero_le _, Nat.zero_le _⟩ d_X12_chain_106 h
        · replace h := h.2 z10
          refine tw_iconst d_X12_chain_76 k_m1 ?_
          exact tw_iret rfl ⟨Nat.zero_le _, Nat.zero_le _⟩ d_X12_chain_77 h
  · replace h := h.2 z3
    refine tw_iload_n 2 d_X12_chain_31 rfl rfl ?_
    refine tw_if_ne 44 d_X12_chain_32 (by decide) (fun z17 => ?_) (fun z17 => ?_)
    · replace h := h.1 z17
      refine tw_iconst d_X12_chain_44 k_1 ?_
      refine tw_goto 49 d_X12_chain_45 (by decide) ?_
      refine tw_istore_n [(2, .int 1), (0, .ref (G.b + 147)), (1, .int x1), (3, .int x3)] d_X12_chain_49 rfl (Nat.le_of_ble_eq_true rfl) rfl ?_
      refine tw_iinc 3 [(3, .int (x3 + 1)), (2, .int 1), (0, .ref (G.b + 147)), (1, .int x1)] d_X12_chain_50 rfl rfl (Nat.le_of_ble_eq_true rfl) rfl ?_
      refine tw_goto 23 d_X12_chain_53 (by decide) ?_
      exact tw_lv [2, 3, 1, 0] rfl h
    · replace h := h.2 z17
      refine tw_aload_n 0 d_X12_chain_35 rfl rfl ?_
      refine tw_iload_n 3 d_X12_chain_36 rfl rfl ?_
      refine tu_cVi (As := [.int x3]) cv_X12_240 hL_M1 s_147 rfl (Nat.le_of_ble_eq_true rfl) ⟨Nat.zero_le _, Nat.zero_le _⟩ d_X12_chain_37 h (fun r19 M18 h => ?_)
      have hL_M18 : Lay c M18 := hL_M1.to h.1
      replace h := h.2
      refine tw_iload_n 1 d_X12_chain_40 rfl rfl ?_
      refine tw_icmp_ne 48 d_X12_chain_41 (by decide) (fun z20 => ?_) (fun z20 => ?_)
      · replace h := h.1 z20
        refine tw_iconst d_X12_chain_48 k_0 ?_
        refine tw_istore_n [(2, .int 0), (0, .ref (G.b + 147)), (1, .int x1), (3, .int x3)] d_X12_chain_49 rfl (Nat.le_of_ble_eq_true rfl) rfl ?_
        refine tw_iinc 3 [(3, .int (x3 + 1)), (2, .int 0), (0, .ref (G.b + 147)), (1, .int x1)] d_X12_chain_50 rfl rfl (Nat.le_of_ble_eq_true rfl) rfl ?_
        refine tw_goto 23 d_X12_chain_53 (by decide) ?_
        exact tw_lv [2, 3, 1, 0] rfl h
      · replace h := h.2 z20
        refine tw_iconst d_X12_chain_44 k_1 ?_
        refine tw_goto 49 d_X12_chain_45 (by decide) ?_
        refine tw_istore_n [(2, .int 1), (0, .ref (G.b + 147)), (1, .int x1), (3, .int x3)] d_X12_chain_49 rfl (Nat.le_of_ble_eq_true rfl) rfl ?_
        refine tw_iinc 3 [(3, .int (x3 + 1)), (2, .int 1), (0, .ref (G.b + 147)), (1, .int x1)] d_X12_chain_50 rfl rfl (Nat.le_of_ble_eq_true rfl) rfl ?_
        refine tw_goto 23 d_X12_chain_53 (by decide) ?_
        exact tw_lv [2, 3, 1, 0] rfl h
theorem b_X12_chain {G : MG} {d : Nat} {Q : Int32 → Mm → Prop} {x1 : Int32} {M : Mm} {c : Nat} (hL : Lay c M)  (h : (∀ M1 : Mm, M1 = sI M 147 0 0 → ((0 ≤ x1 → L_X12_chain_23 G d Q x1 0 0 M1) ∧ (¬ 0 ≤ x1 → (∀ M3 : Mm, M3 = sI M1 153 (Int32.toNatClampNeg 85) 0 → Q 0 M3))))) : C G Y_X12_chain (d + 1) [.ref (G.b + 147), .int x1] M (Ri Q) := by
  refine C.of (by decide) (Nat.le_of_ble_eq_true rfl) (lv := [(0, .ref (G.b + 147)), (1, .int x1)]) rfl ?_
  refine tw_aload_n 0 d_X12_chain_0 rfl rfl ?_
  refine tw_iconst d_X12_chain_1 k_0 ?_
  refine tu_putI f_X12_1 hL s_147 rfl rfl d_X12_chain_2 (fun M1 e_M1 hL_M1 => ?_)
  replace h := h M1 e_M1
  refine tw_iload_n 1 d_X12_chain_5 rfl rfl ?_
  refine tw_if_ge 19 d_X12_chain_6 (by decide) (fun z2 => ?_) (fun z2 => ?_)
  · replace h := h.1 z2
    refine tw_iconst d_X12_chain_19 k_0 ?_
    refine tw_istore_n [(2, .int 0), (0, .ref (G.b + 147)), (1, .int x1)] d_X12_chain_20 rfl (Nat.le_of_ble_eq_true rfl) rfl ?_
    refine tw_iconst d_X12_chain_21 k_0 ?_
    refine tw_istore_n [(3, .int 0), (2, .int 0), (0, .ref (G.b + 147)), (1, .int x1)] d_X12_chain_22 rfl (Nat.le_of_ble_eq_true rfl) rfl ?_
    exact tw_lv [2, 3, 1, 0] rfl h
  · replace h := h.2 z2
    refine tw_aload_n 0 d_X12_chain_9 rfl rfl ?_
    refine tw_getR f_X12_69 hL_M1 s_147 ⟨rfl, rfl⟩ (rr_X12_10 s_147) d_X12_chain_10 ?_
    refine tw_bipush d_X12_chain_13 kb_85 ?_
    refine tw_iconst d_X12_chain_15 k_0 ?_
    refine tu_iast hL_M1 s_153 d_X12_chain_16 (by unfold vp_in; decide) (fun M3 e_M3 hL_M3 => ?_)
    replace h := h M3 e_M3
    refine tw_iconst d_X12_chain_17 k_0 ?_
    exact tw_iret rfl ⟨Nat.zero_le _, Nat.zero_le _⟩ d_X12_chain_18 h

theorem d_X12_size_0 : decode Y_X12_size.cc 0 = .ok (.aload_n 0, 1) := by decide +kernel
theorem d_X12_size_1 : decode Y_X12_size.cc 1 = .ok (.iconst 0, 1) := by decide +kernel
theorem d_X12_size_2 : decode Y_X12_size.cc 2 = .ok (.putfield 1, 3) := by decide +kernel
theorem d_X12_size_5 : decode Y_X12_size.cc 5 = .ok (.iconst 1, 1) := by decide +kernel
theorem d_X12_size_6 : decode Y_X12_size.cc 6 = .ok (.istore_n 2, 1) := by decide +kernel
theorem d_X12_size_7 : decode Y_X12_size.cc 7 = .ok (.iconst 1, 1) := by decide +kernel
theorem d_X12_size_8 : decode Y_X12_size.cc 8 = .ok (.istore_n 3, 1) := by decide +kernel
theorem d_X12_size_9 : decode Y_X12_size.cc 9 = .ok (.iconst 0, 1) := by decide +kernel
theorem d_X12_size_10 : decode Y_X12_size.cc 10 = .ok (.istore 4, 2) := by decide +kernel
theorem d_X12_size_12 : decode Y_X12_size.cc 12 = .ok (.iconst 0, 1) := by decide +kernel
theorem d_X12_size_13 : decode Y_X12_size.cc 13 = .ok (.istore 5, 2) := by decide +kernel
theorem d_X12_size_15 : decode Y_X12_size.cc 15 = .ok (.iconst 0, 1) := by decide +kernel
theorem d_X12_size_16 : decode Y_X12_size.cc 16 = .ok (.istore 6, 2) := by decide +kernel
theorem d_X12_size_18 : decode Y_X12_size.cc 18 = .ok (.iload 6, 2) := by decide +kernel
theorem d_X12_size_20 : decode Y_X12_size.cc 20 = .ok (.aload_n 0, 1) := by decide +kernel
theorem d_X12_size_21 : decode Y_X12_size.cc 21 = .ok (.invokevirtual 237, 3) := by decide +kernel
theorem d_X12_size_24 : decode Y_X12_size.cc 24 = .ok (.if_icmp .ge 81, 3) := by decide +kernel
theorem d_X12_size_27 : decode Y_X12_size.cc 27 = .ok (.iload_n 2, 1) := by decide +kernel
theorem d_X12_size_28 : decode Y_X12_size.cc 28 = .ok (.aload_n 0, 1) := by decide +kernel
theorem d_X12_size_29 : decode Y_X12_size.cc 29 = .ok (.aload_n 0, 1) := by decide +kernel
theorem d_X12_size_30 : decode Y_X12_size.cc 30 = .ok (.iload 6, 2) := by decide +kernel
theorem d_X12_size_32 : decode Y_X12_size.cc 32 = .ok (.invokevirtual 240, 3) := by decide +kernel
theorem d_X12_size_35 : decode Y_X12_size.cc 35 = .ok (.bipush 6, 2) := by decide +kernel
theorem d_X12_size_37 : decode Y_X12_size.cc 37 = .ok (.invokevirtual 190, 3) := by decide +kernel
theorem d_X12_size_40 : decode Y_X12_size.cc 40 = .ok (.imul, 1) := by decide +kernel
theorem d_X12_size_41 : decode Y_X12_size.cc 41 = .ok (.istore_n 2, 1) := by decide +kernel
theorem d_X12_size_42 : decode Y_X12_size.cc 42 = .ok (.iload_n 3, 1) := by decide +kernel
theorem d_X12_size_43 : decode Y_X12_size.cc 43 = .ok (.aload_n 0, 1) := by decide +kernel
theorem d_X12_size_44 : decode Y_X12_size.cc 44 = .ok (.aload_n 0, 1) := by decide +kernel
theorem d_X12_size_45 : decode Y_X12_size.cc 45 = .ok (.iload 6, 2) := by decide +kernel
theorem d_X12_size_47 : decode Y_X12_size.cc 47 = .ok (.invokevirtual 240, 3) := by decide +kernel
theorem d_X12_size_50 : decode Y_X12_size.cc 50 = .ok (.bipush 7, 2) := by decide +kernel
theorem d_X12_size_52 : decode Y_X12_size.cc 52 = .ok (.invokevirtual 190, 3) := by decide +kernel
theorem d_X12_size_55 : decode Y_X12_size.cc 55 = .ok (.imul, 1) := by decide +kernel
theorem d_X12_size_56 : decode Y_X12_size.cc 56 = .ok (.istore_n 3, 1) := by decide +kernel
theorem d_X12_size_57 : decode Y_X12_size.cc 57 = .ok (.iload 4, 2) := by decide +kernel
theorem d_X12_size_59 : decode Y_X12_size.cc 59 = .ok (.aload_n 0, 1) := by decide +kernel
theorem d_X12_size_60 : decode Y_X12_size.cc 60 = .ok (.aload_n 0, 1) := by decide +kernel
theorem d_X12_size_61 : decode Y_X12_size.cc 61 = .ok (.iload 6, 2) := by decide +kernel
theorem d_X12_size_63 : decode Y_X12_size.cc 63 = .ok (.invokevirtual 240, 3) := by decide +kernel
theorem d_X12_size_66 : decode Y_X12_size.cc 66 = .ok (.bipush 8, 2) := by decide +kernel
theorem d_X12_size_68 : decode Y_X12_size.cc 68 = .ok (.invokevirtual 190, 3) := by decide +kernel
theorem d_X12_size_71 : decode Y_X12_size.cc 71 = .ok (.iadd, 1) := by decide +kernel
theorem d_X12_size_72 : decode Y_X12_size.cc 72 = .ok (.istore 4, 2) := by decide +kernel
theorem d_X12_size_74 : decode Y_X12_size.cc 74 = .ok (.iload 5, 2) := by decide +kernel
theorem d_X12_size_76 : decode Y_X12_size.cc 76 = .ok (.aload_n 0, 1) := by decide +kernel
theorem d_X12_size_77 : decode Y_X12_size.cc 77 = .ok (.aload_n 0, 1) := by decide +kernel
theorem d_X12_size_78 : decode Y_X12_size.cc 78 = .ok (.iload 6, 2) := by decide +kernel
theorem d_X12_size_80 : decode Y_X12_size.cc 80 = .ok (.invokevirtual 240, 3) := by decide +kernel
theorem d_X12_size_83 : decode Y_X12_size.cc 83 = .ok (.iconst 0, 1) := by decide +kernel
theorem d_X12_size_84 : decode Y_X12_size.cc 84 = .ok (.invokevirtual 190, 3) := by decide +kernel
theorem d_X12_size_87 : decode Y_X12_size.cc 87 = .ok (.iconst 1, 1) := by decide +kernel
theorem d_X12_size_88 : decode Y_X12_size.cc 88 = .ok (.if_icmp .ne 7, 3) := by decide +kernel
theorem d_X12_size_91 : decode Y_X12_size.cc 91 = .ok (.iconst 1, 1) := by decide +kernel
theorem d_X12_size_92 : decode Y_X12_size.cc 92 = .ok (.goto 4, 3) := by decide +kernel
theorem d_X12_size_95 : decode Y_X12_size.cc 95 = .ok (.iconst 0, 1) := by decide +kernel
theorem d_X12_size_96 : decode Y_X12_size.cc 96 = .ok (.iadd, 1) := by decide +kernel
theorem d_X12_size_97 : decode Y_X12_size.cc 97 = .ok (.istore 5, 2) := by decide +kernel
theorem d_X12_size_99 : decode Y_X12_size.cc 99 = .ok (.iinc 6 1, 3) := by decide +kernel
theorem d_X12_size_102 : decode Y_X12_size.cc 102 = .ok (.goto (-84), 3) := by decide +kernel
theorem d_X12_size_105 : decode Y_X12_size.cc 105 = .ok (.iload_n 2, 1) := by decide +kernel
theorem d_X12_size_106 : decode Y_X12_size.cc 106 = .ok (.i2l, 1) := by decide +kernel
theorem d_X12_size_107 : decode Y_X12_size.cc 107 = .ok (.iload_n 3, 1) := by decide +kernel
theorem d_X12_size_108 : decode Y_X12_size.cc 108 = .ok (.i2l, 1) := by decide +kernel
theorem d_X12_size_109 : decode Y_X12_size.cc 109 = .ok (.invokestatic 179, 3) := by decide +kernel
theorem d_X12_size_112 : decode Y_X12_size.cc 112 = .ok (.l2i, 1) := by decide +kernel
theorem d_X12_size_113 : decode Y_X12_size.cc 113 = .ok (.istore 6, 2) := by decide +kernel
theorem d_X12_size_115 : decode Y_X12_size.cc 115 = .ok (.iload_n 1, 1) := by decide +kernel
theorem d_X12_size_116 : decode Y_X12_size.cc 116 = .ok (.ifCond .ne 10, 3) := by decide +kernel
theorem d_X12_size_119 : decode Y_X12_size.cc 119 = .ok (.iload_n 2, 1) := by decide +kernel
theorem d_X12_size_120 : decode Y_X12_size.cc 120 = .ok (.iload 6, 2) := by decide +kernel
theorem d_X12_size_122 : decode Y_X12_size.cc 122 = .ok (.idiv, 1) := by decide +kernel
theorem d_X12_size_123 : decode Y_X12_size.cc 123 = .ok (.goto 40, 3) := by decide +kernel
theorem d_X12_size_126 : decode Y_X12_size.cc 126 = .ok (.iload_n 1, 1) := by decide +kernel
theorem d_X12_size_127 : decode Y_X12_size.cc 127 = .ok (.iconst 1, 1) := by decide +kernel
theorem d_X12_size_128 : decode Y_X12_size.cc 128 = .ok (.if_icmp .ne 10, 3) := by decide +kernel
theorem d_X12_size_131 : decode Y_X12_size.cc 131 = .ok (.iload_n 3, 1) := by decide +kernel
theorem d_X12_size_132 : decode Y_X12_size.cc 132 = .ok (.iload 6, 2) := by decide +kernel
theorem d_X12_size_134 : decode Y_X12_size.cc 134 = .ok (.idiv, 1) := by decide +kernel
theorem d_X12_size_135 : decode Y_X12_size.cc 135 = .ok (.goto 28, 3) := by decide +kernel
theorem d_X12_size_138 : decode Y_X12_size.cc 138 = .ok (.iload_n 1, 1) := by decide +kernel
theorem d_X12_size_139 : decode Y_X12_size.cc 139 = .ok (.iconst 2, 1) := by decide +kernel
theorem d_X12_size_140 : decode Y_X12_size.cc 140 = .ok (.if_icmp .ne 10, 3) := by decide +kernel
theorem d_X12_size_143 : decode Y_X12_size.cc 143 = .ok (.iload 4, 2) := by decide +kernel
theorem d_X12_size_145 : decode Y_X12_size.cc 145 = .ok (.iconst 4, 1) := by decide +kernel
theorem d_X12_size_146 : decode Y_X12_size.cc 146 = .ok (.irem, 1) := by decide +kernel
theorem d_X12_size_147 : decode Y_X12_size.cc 147 = .ok (.goto 16, 3) := by decide +kernel
theorem d_X12_size_150 : decode Y_X12_size.cc 150 = .ok (.iload_n 1, 1) := by decide +kernel
theorem d_X12_size_151 : decode Y_X12_size.cc 151 = .ok (.iconst 3, 1) := by decide +kernel
theorem d_X12_size_152 : decode Y_X12_size.cc 152 = .ok (.if_icmp .ne 10, 3) := by decide +kernel
theorem d_X12_size_155 : decode Y_X12_size.cc 155 = .ok (.iload 5, 2) := by decide +kernel
theorem d_X12_size_157 : decode Y_X12_size.cc 157 = .ok (.iconst 2, 1) := by decide +kernel
theorem d_X12_size_158 : decode Y_X12_size.cc 158 = .ok (.irem, 1) := by decide +kernel
theorem d_X12_size_159 : decode Y_X12_size.cc 159 = .ok (.goto 4, 3) := by decide +kernel
theorem d_X12_size_162 : decode Y_X12_size.cc 162 = .ok (.iconst (-1), 1) := by decide +kernel
theorem d_X12_size_163 : decode Y_X12_size.cc 163 = .ok (.ireturn, 1) := by decide +kernel
def L_X12_size_18 (G : MG) (d : Nat) (Q : Int32 → Mm → Prop) (x1 : Int32) (x2 : Int32) (x3 : Int32) (x4 : Int32) (x5 : Int32) (x6 : Int32) (M : Mm) : Prop := T G Y_X12_size (d + 1) (Ri Q) 0 0 18 [(0, .ref (G.b + 147)), (1, .int x1), (2, .int x2), (3, .int x3), (4, .int x4), (5, .int x5), (6, .int x6)] [] M
theorem b_X12_size_18 {G : MG} {d : Nat} {Q : Int32 → Mm → Prop} {x1 : Int32} {x2 : Int32} {x3 : Int32} {x4 : Int32} {x5 : Int32} {x6 : Int32} {M : Mm} {c : Nat} (hL : Lay c M)  (h : (C G Y_X12_chained d [.ref (G.b + 147)] M (Ri fun r2 M1 => M1.2.2 = M.2.2 ∧ ((r2 ≤ x6 → (C G Y_X12_common d [.long x2.toInt64, .long x3.toInt64] M1 (Rj fun r5 M4 => M4.2.2 = M1.2.2 ∧ ((¬ x1 = 0 → ((¬ x1 = 1 → ((¬ x1 = 2 → ((¬ x1 = 3 → Q (-1) M4) ∧ (x1 = 3 → Q (x5 - x5 / 2 * 2) M4))) ∧ (x1 = 2 → Q (x4 - x4 / 4 * 4) M4))) ∧ (x1 = 1 → (¬ r5.toInt32 = 0 ∧ Q (x3 / r5.toInt32) M4)))) ∧ (x1 = 0 → (¬ r5.toInt32 = 0 ∧ Q (x2 / r5.toInt32) M4)))))) ∧ (¬ r2 ≤ x6 → (C G Y_X12_chainOf d [.ref (G.b + 147), .int x6] M1 (Ri fun r11 M10 => M10.2.2 = M1.2.2 ∧ (C G Y_X12_of d [.ref (G.b + 147), .int r11, .int 6] M10 (Ri fun r13 M12 => M12.2.2 = M10.2.2 ∧ (C G Y_X12_chainOf d [.ref (G.b + 147), .int x6] M12 (Ri fun r15 M14 => M14.2.2 = M12.2.2 ∧ (C G Y_X12_of d [.ref (G.b + 147), .int r15, .int 7] M14 (Ri fun r17 M16 => M16.2.2 = M14.2.2 ∧ (C G Y_X12_chainOf d [.ref (G.b + 147), .int x6] M16 (Ri fun r19 M18 => M18.2.2 = M16.2.2 ∧ (C G Y_X12_of d [.ref (G.b + 147), .int r19, .int 8] M18 (Ri fun r21 M20 => M20.2.2 = M18.2.2 ∧ (C G Y_X12_chainOf d [.ref (G.b + 147), .int x6] M20 (Ri fun r23 M22 => M22.2.2 = M20.2.2 ∧ (C G Y_X12_of d [.ref (G.b + 147), .int r23, .int 0] M22 (Ri fun r25 M24 => M24.2.2 = M22.2.2 ∧ ((¬ r25 = 1 → L_X12_size_18 G d Q x1 (x2 * r13) (x3 * r17) (x4 + r21) (x5 + 0) (x6 + 1) M24) ∧ (r25 = 1 → L_X12_size_18 G d Q x1 (x2 * r13) (x3 * r17) (x4 + r21) (x5 + 1) (x6 + 1) M24))))))))))))))))))))))) : L_X12_size_18 G d Q x1 x2 x3 x4 x5 x6 M := by
  unfold L_X12_size_18
  refine tw_iload 6 d_X12_size_18 rfl ?_
  refine tw_aload_n 0 d_X12_size_20 rfl rfl ?_
  refine tu_cVi (As := []) cv_X12_237 hL s_147 rfl (Nat.le_of_ble_eq_true rfl) ⟨Nat.zero_le _, Nat.zero_le _⟩ d_X12_size_21 h (fun r2 M1 h => ?_)
  have hL_M1 : Lay c M1 := hL.to h.1
  replace h := h.2
  refine tw_icmp_ge 105 d_X12_size_24 (by decide) (fun z3 => ?_) (fun z3 => ?_)
  · replace h := h.1 z3
    refine tw_iload_n 2 d_X12_size_105 rfl rfl ?_
    refine tw_i2l d_X12_size_106 ?_
    refine tw_iload_n 3 d_X12_size_107 rfl rfl ?_
    refine tw_i2l d_X12_size_108 ?_
    refine tu_cSJ (As := [.long x2.toInt64, .long x3.toInt64]) cs_X12_179 rfl (Nat.le_of_ble_eq_true rfl) ⟨Nat.zero_le _, Nat.zero_le _⟩ d_X12_size_109 h (fun r5 M4 h => ?_)
    have hL_M4 : Lay c M4 := hL_M1.to h.1
    replace h := h.2
    refine tw_l2i d_X12_size_112 ?_
    refine tw_istore [(6, .int r5.toInt32), (0, .ref (G.b + 147)), (1, .int x1), (2, .int x2), (3, .int x3), (4, .int x4), (5, .int x5)] d_X12_size_113 (Nat.le_of_ble_eq_true rfl) rfl ?_
    refine tw_iload_n 2 d_X12_size_115 rfl rfl ?_
    refine tw_if_ne 126 d_X12_size_116 (by decide) (fun z6 => ?_) (fun z6 => ?_)
    · replace h := h.1 z6
      refine tw_iload_n 2 d_X12_size_126 rfl rfl ?_
      refine tw_iconst d_X12_size_127 k_1 ?_
      refine tw_icmp_ne 138 d_X12_size_128 (by decide) (fun z7 => ?_) (fun z7 => ?_)
      · replace h := h.1 z7
        refine tw_iload_n 2 d_X12_size_138 rfl rfl ?_
        refine tw_iconst d_X12_size_139 k_2 ?_
        refine tw_icmp_ne 150 d_X12_size_140 (by decide) (fun z8 => ?_) (fun z8 => ?_)
        · replace h := h.1 z8
          refine tw_iload_n 2 d_X12_size_150 rfl rfl ?_
          refine tw_iconst d_X12_size_151 k_3 ?_
          refine tw_icmp_ne 162 d_X12_size_152 (by decide) (fun z9 => ?_) (fun z9 => ?_)
          · replace h := h.1 z9
            refine tw_iconst d_X12_size_162 k_m1 ?_
            exact tw_iret rfl ⟨Nat.zero_le _, Nat.zero_le _⟩ d_X12_size_163 h
          · replace h := h.2 z9
            refine tw_iload 6 d_X12_size_155 rfl ?_
            refine tw_iconst d_X12_size_157 k_2 ?_
            refine tw_irem d_X12_size_158 (by decide) ?_
            refine tw_goto 163 d_X12_size_159 (by decide) ?_
            exact tw_iret rfl ⟨Nat.zero_le _, Nat.zero_le _⟩ d_X12_size_163 h
        · replace h := h.2 z8
          refine tw_iload 5 d_X12_size_143 rfl ?_
          refine tw_iconst d_X12_size_145 k_4 ?_
          refine tw_irem d_X12_size_146 (by decide) ?_
          refine tw_goto 163 d_X12_size_147 (by decide) ?_
          exact tw_iret rfl ⟨Nat.zero_le _, Nat.zero_le _⟩ d_X12_size_163 h
      · replace h := h.2 z7
        refine tw_iload_n 4 d_X12_size_131 rfl rfl ?_
        refine tw_iload 0 d_X12_size_132 rfl ?_
        refine tw_idiv d_X12_size_134 h.1 ?_
        replace h := h.2
        refine tw_goto 163 d_X12_size_135 (by decide) ?_
        exact tw_iret rfl ⟨Nat.zero_le _, Nat.zero_le _⟩ d_X12_size_163 h
    · replace h := h.2 z6
      refine tw_iload_n 3 d_X12_size_119 rfl rfl ?_
      refine tw_iload 0 d_X12_size_120 rfl ?_
      refine tw_idiv d_X12_size_122 h.1 ?_
      replace h := h.2
      refine tw_goto 163 d_X12_size_123 (by decide) ?_
      exact tw_iret rfl ⟨Nat.zero_le _, Nat.zero_le _⟩ d_X12_size_163 h
  · replace h := h.2 z3
    refine tw_iload_n 2 d_X12_size_27 rfl rfl ?_
    refine tw_aload_n 0 d_X12_size_28 rfl rfl ?_
    refine tw_aload_n 0 d_X12_size_29 rfl rfl ?_
    refine tw_iload 6 d_X12_size_30 rfl ?_
    refine tu_cVi (As := [.int x6]) cv_X12_240 hL_M1 s_147 rfl (Nat.le_of_ble_eq_true rfl) ⟨Nat.zero_le _, Nat.zero_le _⟩ d_X12_size_32 h (fun r11 M10 h => ?_)
    have hL_M10 : Lay c M10 := hL_M1.to h.1
    replace h := h.2
    refine tw_bipush d_X12_size_35 kb_6 ?_
    refine tu_cVi (As := [.int r11, .int 6]) cv_X12_190 hL_M10 s_147 rfl (Nat.le_of_ble_eq_true rfl) ⟨Nat.zero_le _, Nat.zero_le _⟩ d_X12_size_37 h (fun r13 M12 h => ?_)
    have hL_M12 : Lay c M12 := hL_M10.to h.1
    replace h := h.2
    refine tw_imul d_X12_size_40 ?_
    refine tw_istore_n [(2, .int (x2 * r13)), (0, .ref (G.b + 147)), (1, .int x1), (3, .int x3), (4, .int x4), (5, .int x5), (6, .int x6)] d_X12_size_41 rfl (Nat.le_of_ble_eq_true rfl) rfl ?_
    refine tw_iload_n 3 d_X12_size_42 rfl rfl ?_
    refine tw_aload_n 1 d_X12_size_43 rfl rfl ?_
    refine tw_aload_n 1 d_X12_size_44 rfl rfl ?_
    refine tw_iload 6 d_X12_size_45 rfl ?_
    refine tu_cVi (As := [.int x6]) cv_X12_240 hL_M12 s_147 rfl (Nat.le_of_ble_eq_true rfl) ⟨Nat.zero_le _, Nat.zero_le _⟩ d_X12_size_47 h (fun r15 M14 h => ?_)
    have hL_M14 : Lay c M14 := hL_M12.to h.1
    replace h := h.2
    refine tw_bipush d_X12_size_50 kb_7 ?_
    refine tu_cVi (As := [.int r15, .int 7]) cv_X12_190 hL_M14 s_147 rfl (Nat.le_of_ble_eq_true rfl) ⟨Nat.zero_le _, Nat.zero_le _⟩ d_X12_size_52 h (fun r17 M16 h => ?_)
    have hL_M16 : Lay c M16 := hL_M14.to h.1
    replace h := h.2
    refine tw_imul d_X12_size_55 ?_
    refine tw_istore_n [(3, .int (x3 * r17)), (2, .int (x2 * r13)), (0, .ref (G.b + 147)), (1, .int x1), (4, .int x4), (5, .int x5), (6, .int x6)] d_X12_size_56 rfl (Nat.le_of_ble_eq_true rfl) rfl ?_
    refine tw_iload 4 d_X12_size_57 rfl ?_
    refine tw_aload_n 2 d_X12_size_59 rfl rfl ?_
    refine tw_aload_n 2 d_X12_size_60 rfl rfl ?_
    refine tw_iload 6 d_X12_size_61 rfl ?_
    refine tu_cVi (As := [.int x6]) cv_X12_240 hL_M16 s_147 rfl (Nat.le_of_ble_eq_true rfl) ⟨Nat.zero_le _, Nat.zero_le _⟩ d_X12_size_63 h (fun r19 M18 h => ?_)
    have hL_M18 : Lay c M18 := hL_M16.to h.1
    replace h := h.2
    refine tw_bipush d_X12_size_66 kb_8 ?_
    refine tu_cVi (As := [.int r19, .int 8]) cv_X12_190 hL_M18 s_147 rfl (Nat.le_of_ble_eq_true rfl) ⟨Nat.zero_le _, Nat.zero_le _⟩ d_X12_size_68 h (fun r21 M20 h => ?_)
    have hL_M20 : Lay c M20 := hL_M18.to h.1
    replace h := h.2
    refine tw_iadd d_X12_size_71 ?_
    refine tw_istore [(4, .int (x4 + r21)), (3, .int (x3 * r17)), (2, .int (x2 * r13)), (0, .ref (G.b + 147)), (1, .int x1), (5, .int x5), (6, .int x6)] d_X12_size_72 (Nat.le_of_ble_eq_true rfl) rfl ?_
    refine tw_iload 5 d_X12_size_74 rfl ?_
    refine tw_aload_n 3 d_X12_size_76 rfl rfl ?_
    refine tw_aload_n 3 d_X12_size_77 rfl rfl ?_
    refine tw_iload 6 d_X12_size_78 rfl ?_
    refine tu_cVi (As := [.int x6]) cv_X12_240 hL_M20 s_147 rfl (Nat.le_of_ble_eq_true rfl) ⟨Nat.zero_le _, Nat.zero_le _⟩ d_X12_size_80 h (fun r23 M22 h => ?_)
    have hL_M22 : Lay c M22 := hL_M20.to h.1
    replace h := h.2
    refine tw_iconst d_X12_size_83 k_0 ?_
    refine tu_cVi (As := [.int r23, .int 0]) cv_X12_190 hL_M22 s_147 rfl (Nat.le_of_ble_eq_true rfl) ⟨Nat.zero_le _, Nat.zero_le _⟩ d_X12_size_84 h (fun r25 M24 h => ?_)
    have hL_M24 : Lay c M24 := hL_M22.to h.1
    replace h := h.2
    refine tw_iconst d_X12_size_87 k_1 ?_
    refine tw_icmp_ne 95 d_X12_size_88 (by decide) (fun z26 => ?_) (fun z26 => ?_)
    · replace h := h.1 z26
      refine tw_iconst d_X12_size_95 k_0 ?_
      refine tw_iadd d_X12_size_96 ?_
      refine tw_istore [(5, .int (x5 + 0)), (4, .int (x4 + r21)), (3, .int (x3 * r17)), (2, .int (x2 * r13)), (0, .ref (G.b + 147)), (1, .int x1), (6, .int x6)] d_X12_size_97 (Nat.le_of_ble_eq_true rfl) rfl ?_
      refine tw_iinc 6 [(6, .int (x6 + 1)), (5, .int (x5 + 0)), (4, .int (x4 + r21)), (3, .int (x3 * r17)), (2, .int (x2 * r13)), (0, .ref (G.b + 147)), (1, .int x1)] d_X12_size_99 rfl rfl (Nat.le_of_ble_eq_true rfl) rfl ?_
      refine tw_goto 18 d_X12_size_102 (by decide) ?_
      exact tw_lv [5, 6, 4, 3, 2, 1, 0] rfl h
    · replace h := h.2 z26
      refine tw_iconst d_X12_size_91 k_1 ?_
      refine tw_goto 96 d_X12_size_92 (by decide) ?_
      refine tw_iadd d_X12_size_96 ?_
      refine tw_istore [(5, .int (x5 + 1)), (4, .int (x4 + r21)), (3, .int (x3 * r17)), (2, .int (x2 * r13)), (0, .ref (G.b + 147)), (1, .int x1), (6, .int x6)] d_X12_size_97 (Nat.le_of_ble_eq_true rfl) rfl ?_
      refine tw_iinc 6 [(6, .int (x6 + 1)), (5, .int (x5 + 1)), (4, .int (x4 + r21)), (3, .int (x3 * r17)), (2, .int (x2 * r13)), (0, .ref (G.b + 147)), (1, .int x1)] d_X12_size_99 rfl rfl (Nat.le_of_ble_eq_true rfl) rfl ?_
      refine tw_goto 18 d_X12_size_102 (by decide) ?_
      exact tw_lv [5, 6, 4, 3, 2, 1, 0] rfl h
theorem b_X12_size {G : MG} {d : Nat} {Q : Int32 → Mm → Prop} {x1 : Int32} {M : Mm} {c : Nat} (hL : Lay c M)  (h : (∀ M1 : Mm, M1 = sI M 147 0 0 → L_X12_size_18 G d Q x1 1 1 0 0 0 M1)) : C G Y_X12_size (d + 1) [.ref (G.b + 147), .int x1] M (Ri Q) := by
  refine C.of (by decide) (Nat.le_of_ble_eq_true rfl) (lv := [(0, .ref (G.b + 147)), (1, .int x1)]) rfl ?_
  refine tw_aload_n 0 d_X12_size_0 rfl rfl ?_
  refine tw_iconst d_X12_size_1 k_0 ?_
  refine tu_putI f_X12_1 hL s_147 rfl rfl d_X12_size_2 (fun M1 e_M1 hL_M1 => ?_)
  replace h := h M1 e_M1
  refine tw_iconst d_X12_size_5 k_1 ?_
  refine tw_istore_n [(2, .int 1), (0, .ref (G.b + 147)), (1, .int x1)] d_X12_size_6 rfl (Nat.le_of_ble_eq_true rfl) rfl ?_
  refine tw_iconst d_X12_size_7 k_1 ?_
  refine tw_istore_n [(3, .int 1), (2, .int 1), (0, .ref (G.b + 147)), (1, .int x1)] d_X12_size_8 rfl (Nat.le_of_ble_eq_true rfl) rfl ?_
  refine tw_iconst d_X12_size_9 k_0 ?_
  refine tw_istore [(4, .int 0), (3, .int 1), (2, .int 1), (0, .ref (G.b + 147)), (1, .int x1)] d_X12_size_10 (Nat.le_of_ble_eq_true rfl) rfl ?_
  refine tw_iconst d_X12_size_12 k_0 ?_
  refine tw_istore [(5, .int 0), (4, .int 0), (3, .int 1), (2, .int 1), (0, .ref (G.b + 147)), (1, .int x1)] d_X12_size_13 (Nat.le_of_ble_eq_true rfl) rfl ?_
  refine tw_iconst d_X12_size_15 k_0 ?_
  refine tw_istore [(6, .int 0), (5, .int 0), (4, .int 0), (3, .int 1), (2, .int 1), (0, .ref (G.b + 147)), (1, .int x1)] d_X12_size_16 (Nat.le_of_ble_eq_true rfl) rfl ?_
  exact tw_lv [5, 6, 4, 3, 2, 1, 0] rfl h

theorem d_X12_goes_0 : decode Y_X12_goes.cc 0 = .ok (.aload_n 0, 1) := by decide +kernel
theorem d_X12_goes_1 : decode Y_X12_goes.cc 1 = .ok (.iload_n 1, 1) := by decide +kernel
theorem d_X12_goes_2 : decode Y_X12_goes.cc 2 = .ok (.iload_n 2, 1) := by decide +kernel
theorem d_X12_goes_3 : decode Y_X12_goes.cc 3 = .ok (.invokevirtual 221, 3) := by decide +kernel
theorem d_X12_goes_6 : decode Y_X12_goes.cc 6 = .ok (.iconst 1, 1) := by decide +kernel
theorem d_X12_goes_7 : decode Y_X12_goes.cc 7 = .ok (.istore_n 3, 1) := by decide +kernel
theorem d_X12_goes_8 : decode Y_X12_goes.cc 8 = .ok (.iconst 0, 1) := by decide +kernel
theorem d_X12_goes_9 : decode Y_X12_goes.cc 9 = .ok (.istore 4, 2) := by decide +kernel
theorem d_X12_goes_11 : decode Y_X12_goes.cc 11 = .ok (.iload 4, 2) := by decide +kernel
theorem d_X12_goes_13 : decode Y_X12_goes.cc 13 = .ok (.aload_n 0, 1) := by decide +kernel
theorem d_X12_goes_14 : decode Y_X12_goes.cc 14 = .ok (.invokevirtual 237, 3) := by decide +kernel
theorem d_X12_goes_17 : decode Y_X12_goes.cc 17 = .ok (.if_icmp .ge 58, 3) := by decide +kernel
theorem d_X12_goes_20 : decode Y_X12_goes.cc 20 = .ok (.iload_n 3, 1) := by decide +kernel
theorem d_X12_goes_21 : decode Y_X12_goes.cc 21 = .ok (.ifCond .eq 54, 3) := by decide +kernel
theorem d_X12_goes_24 : decode Y_X12_goes.cc 24 = .ok (.aload_n 0, 1) := by decide +kernel
theorem d_X12_goes_25 : decode Y_X12_goes.cc 25 = .ok (.aload_n 0, 1) := by decide +kernel
theorem d_X12_goes_26 : decode Y_X12_goes.cc 26 = .ok (.iload 4, 2) := by decide +kernel
theorem d_X12_goes_28 : decode Y_X12_goes.cc 28 = .ok (.invokevirtual 240, 3) := by decide +kernel
theorem d_X12_goes_31 : decode Y_X12_goes.cc 31 = .ok (.invokevirtual 227, 3) := by decide +kernel
theorem d_X12_goes_34 : decode Y_X12_goes.cc 34 = .ok (.ifCond .ne 7, 3) := by decide +kernel
theorem d_X12_goes_37 : decode Y_X12_goes.cc 37 = .ok (.iconst 1, 1) := by decide +kernel
theorem d_X12_goes_38 : decode Y_X12_goes.cc 38 = .ok (.goto 4, 3) := by decide +kernel
theorem d_X12_goes_41 : decode Y_X12_goes.cc 41 = .ok (.iconst 0, 1) := by decide +kernel
theorem d_X12_goes_42 : decode Y_X12_goes.cc 42 = .ok (.istore_n 3, 1) := by decide +kernel
theorem d_X12_goes_43 : decode Y_X12_goes.cc 43 = .ok (.iload_n 3, 1) := by decide +kernel
theorem d_X12_goes_44 : decode Y_X12_goes.cc 44 = .ok (.ifCond .eq 25, 3) := by decide +kernel
theorem d_X12_goes_47 : decode Y_X12_goes.cc 47 = .ok (.aload_n 0, 1) := by decide +kernel
theorem d_X12_goes_48 : decode Y_X12_goes.cc 48 = .ok (.aload_n 0, 1) := by decide +kernel
theorem d_X12_goes_49 : decode Y_X12_goes.cc 49 = .ok (.iload 4, 2) := by decide +kernel
theorem d_X12_goes_51 : decode Y_X12_goes.cc 51 = .ok (.invokevirtual 240, 3) := by decide +kernel
theorem d_X12_goes_54 : decode Y_X12_goes.cc 54 = .ok (.aload_n 0, 1) := by decide +kernel
theorem d_X12_goes_55 : decode Y_X12_goes.cc 55 = .ok (.aload_n 0, 1) := by decide +kernel
theorem d_X12_goes_56 : decode Y_X12_goes.cc 56 = .ok (.iload 4, 2) := by decide +kernel
theorem d_X12_goes_58 : decode Y_X12_goes.cc 58 = .ok (.invokevirtual 240, 3) := by decide +kernel
theorem d_X12_goes_61 : decode Y_X12_goes.cc 61 = .ok (.bipush 13, 2) := by decide +kernel
theorem d_X12_goes_63 : decode Y_X12_goes.cc 63 = .ok (.invokevirtual 190, 3) := by decide +kernel
theorem d_X12_goes_66 : decode Y_X12_goes.cc 66 = .ok (.invokevirtual 230, 3) := by decide +kernel
theorem d_X12_goes_69 : decode Y_X12_goes.cc 69 = .ok (.iinc 4 1, 3) := by decide +kernel
theorem d_X12_goes_72 : decode Y_X12_goes.cc 72 = .ok (.goto (-61), 3) := by decide +kernel
theorem d_X12_goes_75 : decode Y_X12_goes.cc 75 = .ok (.iload_n 3, 1) := by decide +kernel
theorem d_X12_goes_76 : decode Y_X12_goes.cc 76 = .ok (.ireturn, 1) := by decide +kernel
def L_X12_goes_11 (G : MG) (d : Nat) (Q : Int32 → Mm → Prop) (x3 : Int32) (x4 : Int32) (M : Mm) : Prop := T G Y_X12_goes (d + 1) (Ri Q) 0 0 11 [(0, .ref (G.b + 147)), (3, .int x3), (4, .int x4)] [] M
def L_X12_goes_42 (G : MG) (d : Nat) (Q : Int32 → Mm → Prop) (x4 : Int32) (sx0 : Int32) (M : Mm) : Prop := T G Y_X12_goes (d + 1) (Ri Q) 0 0 42 [(0, .ref (G.b + 147)), (4, .int x4)] [.int sx0] M
theorem b_X12_goes_11 {G : MG} {d : Nat} {Q : Int32 → Mm → Prop} {x3 : Int32} {x4 : Int32} {M : Mm} {c : Nat} (hL : Lay c M)  (h : (C G Y_X12_chained d [.ref (G.b + 147)] M (Ri fun r2 M1 => M1.2.2 = M.2.2 ∧ ((r2 ≤ x4 → ((x3 = 0 ∨ x3 = 1) ∧ Q x3 M1)) ∧ (¬ r2 ≤ x4 → ((x3 = 0 → ((x3 = 0 ∨ x3 = 1) ∧ Q x3 M1)) ∧ (¬ x3 = 0 → (C G Y_X12_chainOf d [.ref (G.b + 147), .int x4] M1 (Ri fun r6 M5 => M5.2.2 = M1.2.2 ∧ (C G Y_X12_isOut d [.ref (G.b + 147), .int r6] M5 (Ri fun r8 M7 => M7.2.2 = M5.2.2 ∧ ((¬ r8 = 0 → L_X12_goes_42 G d Q x4 0 M7) ∧ (r8 = 0 → L_X12_goes_42 G d Q x4 1 M7))))))))))))) : L_X12_goes_11 G d Q x3 x4 M := by
  unfold L_X12_goes_11
  refine tw_iload 2 d_X12_goes_11 rfl ?_
  refine tw_aload_n 0 d_X12_goes_13 rfl rfl ?_
  refine tu_cVi (As := []) cv_X12_237 hL s_147 rfl (Nat.le_of_ble_eq_true rfl) ⟨Nat.zero_le _, Nat.zero_le _⟩ d_X12_goes_14 h (fun r2 M1 h => ?_)
  have hL_M1 : Lay c M1 := hL.to h.1
  replace h := h.2
  refine tw_icmp_ge 75 d_X12_goes_17 (by decide) (fun z3 => ?_) (fun z3 => ?_)
  · replace h := h.1 z3
    refine tw_iload_n 1 d_X12_goes_75 rfl rfl ?_
    exact tw_zret (ty := .boolean) rfl (nzb h.1) ⟨Nat.zero_le _, Nat.zero_le _⟩ d_X12_goes_76 h.2
  · replace h := h.2 z3
    refine tw_iload_n 1 d_X12_goes_20 rfl rfl ?_
    refine tw_if_eq 75 d_X12_goes_21 (by decide) (fun z4 => ?_) (fun z4 => ?_)
    · replace h := h.1 z4
      refine tw_iload_n 1 d_X12_goes_75 rfl rfl ?_
      exact tw_zret (ty := .boolean) rfl (nzb h.1) ⟨Nat.zero_le _, Nat.zero_le _⟩ d_X12_goes_76 h.2
    · replace h := h.2 z4
      refine tw_aload_n 0 d_X12_goes_24 rfl rfl ?_
      refine tw_aload_n 0 d_X12_goes_25 rfl rfl ?_
      refine tw_iload 2 d_X12_goes_26 rfl ?_
      refine tu_cVi (As := [.int x4]) cv_X12_240 hL_M1 s_147 rfl (Nat.le_of_ble_eq_true rfl) ⟨Nat.zero_le _, Nat.zero_le _⟩ d_X12_goes_28 h (fun r6 M5 h => ?_)
      have hL_M5 : Lay c M5 := hL_M1.to h.1
      replace h := h.2
      refine tu_cVi (As := [.int r6]) cv_X12_227 hL_M5 s_147 rfl (Nat.le_of_ble_eq_true rfl) ⟨Nat.zero_le _, Nat.zero_le _⟩ d_X12_goes_31 h (fun r8 M7 h => ?_)
      have hL_M7 : Lay c M7 := hL_M5.to h.1
      replace h := h.2
      refine tw_if_ne 41 d_X12_goes_34 (by decide) (fun z9 => ?_) (fun z9 => ?_)
      · replace h := h.1 z9
        refine tw_iconst d_X12_goes_41 k_0 ?_
        exact tw_lv [0, 2] rfl h
      · replace h := h.2 z9
        refine tw_iconst d_X12_goes_37 k_1 ?_
        refine tw_goto 42 d_X12_goes_38 (by decide) ?_
        exact tw_lv [0, 2] rfl h
theorem b_X12_goes_42 {G : MG} {d : Nat} {Q : Int32 → Mm → Prop} {x4 : Int32} {sx0 : Int32} {M : Mm} {c : Nat} (hL : Lay c M)  (h : ((sx0 = 0 → L_X12_goes_11 G d Q sx0 (x4 + 1) M) ∧ (¬ sx0 = 0 → (C G Y_X12_chainOf d [.ref (G.b + 147), .int x4] M (Ri fun r3 M2 => M2.2.2 = M.2.2 ∧ (C G Y_X12_chainOf d [.ref (G.b + 147), .int x4] M2 (Ri fun r5 M4 => M4.2.2 = M2.2.2 ∧ (C G Y_X12_of d [.ref (G.b + 147), .int r5, .int 13] M4 (Ri fun r7 M6 => M6.2.2 = M4.2.2 ∧ (C G Y_X12_traces d [.ref (G.b + 147), .int r3, .int r7] M6 (Rv fun M8 => M8.2.2 = M6.2.2 ∧ L_X12_goes_11 G d Q sx0 (x4 + 1) M8))))))))))) : L_X12_goes_42 G d Q x4 sx0 M := by
  unfold L_X12_goes_42
  refine tw_istore_n [(3, .int sx0), (0, .ref (G.b + 147)), (4, .int x4)] d_X12_goes_42 rfl (Nat.le_of_ble_eq_true rfl) rfl ?_
  refine tw_iload_n 0 d_X12_goes_43 rfl rfl ?_
  refine tw_if_eq 69 d_X12_goes_44 (by decide) (fun z1 => ?_) (fun z1 => ?_)
  · replace h := h.1 z1
    refine tw_iinc 2 [(4, .int (x4 + 1)), (3, .int sx0), (0, .ref (G.b + 147))] d_X12_goes_69 rfl rfl (Nat.le_of_ble_eq_true rfl) rfl ?_
    refine tw_goto 11 d_X12_goes_72 (by decide) ?_
    exact tw_lv [2, 1, 0] rfl h
  · replace h := h.2 z1
    refine tw_aload_n 1 d_X12_goes_47 rfl rfl ?_
    refine tw_aload_n 1 d_X12_goes_48 rfl rfl ?_
    refine tw_iload 2 d_X12_goes_49 rfl ?_
    refine tu_cVi (As := [.int x4]) cv_X12_240 hL s_147 rfl (Nat.le_of_ble_eq_true rfl) ⟨Nat.zero_le _, Nat.zero_le _⟩ d_X12_goes_51 h (fun r3 M2 h => ?_)
    have hL_M2 : Lay c M2 := hL.to h.1
    replace h := h.2
    refine tw_aload_n 1 d_X12_goes_54 rfl rfl ?_
    refine tw_aload_n 1 d_X12_goes_55 rfl rfl ?_
    refine tw_iload 2 d_X12_goes_56 rfl ?_
    refine tu_cVi (As := [.int x4]) cv_X12_240 hL_M2 s_147 rfl (Nat.le_of_ble_eq_true rfl) ⟨Nat.zero_le _, Nat.zero_le _⟩ d_X12_goes_58 h (fun r5 M4 h => ?_)
    have hL_M4 : Lay c M4 := hL_M2.to h.1
    replace h := h.2
    refine tw_bipush d_X12_goes_61 kb_13 ?_
    refine tu_cVi (As := [.int r5, .int 13]) cv_X12_190 hL_M4 s_147 rfl (Nat.le_of_ble_eq_true rfl) ⟨Nat.zero_le _, Nat.zero_le _⟩ d_X12_goes_63 h (fun r7 M6 h => ?_)
    have hL_M6 : Lay c M6 := hL_M4.to h.1
    replace h := h.2
    refine tu_cVv (As := [.int r3, .int r7]) cv_X12_230 hL_M6 s_147 rfl (Nat.le_of_ble_eq_true rfl) ⟨Nat.zero_le _, Nat.zero_le _⟩ d_X12_goes_66 h (fun M8 h => ?_)
    have hL_M8 : Lay c M8 := hL_M6.to h.1
    replace h := h.2
    refine tw_iinc 2 [(4, .int (x4 + 1)), (3, .int sx0), (0, .ref (G.b + 147))] d_X12_goes_69 rfl rfl (Nat.le_of_ble_eq_true rfl) rfl ?_
    refine tw_goto 11 d_X12_goes_72 (by decide) ?_
    exact tw_lv [2, 1, 0] rfl h
theorem b_X12_goes {G : MG} {d : Nat} {Q : Int32 → Mm → Prop} {x1 : Int32} {x2 : Int32} {M : Mm} {c : Nat} (hL : Lay c M)  (h : (C G Y_X12_starts d [.ref (G.b + 147), .int x1, .int x2] M (Rv fun M1 => M1.2.2 = M.2.2 ∧ L_X12_goes_11 G d Q 1 0 M1))) : C G Y_X12_goes (d + 1) [.ref (G.b + 147), .int x1, .int x2] M (Ri Q) := by
  refine C.of (by decide) (Nat.le_of_ble_eq_true rfl) (lv := [(0, .ref (G.b + 147)), (1, .int x1), (2, .int x2)]) rfl ?_
  refine tw_aload_n 0 d_X12_goes_0 rfl rfl ?_
  refine tw_iload_n 1 d_X12_goes_1 rfl rfl ?_
  refine tw_iload_n 2 d_X12_goes_2 rfl rfl ?_
  refine tu_cVv (As := [.int x1, .int x2]) cv_X12_221 hL s_147 rfl (Nat.le_of_ble_eq_true rfl) ⟨Nat.zero_le _, Nat.zero_le _⟩ d_X12_goes_3 h (fun M1 h => ?_)
  have hL_M1 : Lay c M1 := hL.to h.1
  replace h := h.2
  refine tw_iconst d_X12_goes_6 k_1 ?_
  refine tw_istore_n [(3, .int 1), (0, .ref (G.b + 147)), (1, .int x1), (2, .int x2)] d_X12_goes_7 rfl (Nat.le_of_ble_eq_true rfl) rfl ?_
  refine tw_iconst d_X12_goes_8 k_0 ?_
  refine tw_istore [(4, .int 0), (3, .int 1), (0, .ref (G.b + 147)), (1, .int x1), (2, .int x2)] d_X12_goes_9 (Nat.le_of_ble_eq_true rfl) rfl ?_
  exact tw_lv [2, 1, 0] rfl h
