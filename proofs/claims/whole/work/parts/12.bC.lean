theorem d_X10_add_0 : decode Y_X10_add.cc 0 = .ok (.bipush 56, 2) := by decide +kernel
theorem d_X10_add_2 : decode Y_X10_add.cc 2 = .ok (.istore_n 3, 1) := by decide +kernel
theorem d_X10_add_3 : decode Y_X10_add.cc 3 = .ok (.iload_n 3, 1) := by decide +kernel
theorem d_X10_add_4 : decode Y_X10_add.cc 4 = .ok (.ifCond .lt 84, 3) := by decide +kernel
theorem d_X10_add_7 : decode Y_X10_add.cc 7 = .ok (.lload_n 1, 1) := by decide +kernel
theorem d_X10_add_8 : decode Y_X10_add.cc 8 = .ok (.iload_n 3, 1) := by decide +kernel
theorem d_X10_add_9 : decode Y_X10_add.cc 9 = .ok (.lushr, 1) := by decide +kernel
theorem d_X10_add_10 : decode Y_X10_add.cc 10 = .ok (.ldc2_w 15, 3) := by decide +kernel
theorem d_X10_add_13 : decode Y_X10_add.cc 13 = .ok (.land, 1) := by decide +kernel
theorem d_X10_add_14 : decode Y_X10_add.cc 14 = .ok (.l2i, 1) := by decide +kernel
theorem d_X10_add_15 : decode Y_X10_add.cc 15 = .ok (.i2c, 1) := by decide +kernel
theorem d_X10_add_16 : decode Y_X10_add.cc 16 = .ok (.istore 4, 2) := by decide +kernel
theorem d_X10_add_18 : decode Y_X10_add.cc 18 = .ok (.iload 4, 2) := by decide +kernel
theorem d_X10_add_20 : decode Y_X10_add.cc 20 = .ok (.bipush 10, 2) := by decide +kernel
theorem d_X10_add_22 : decode Y_X10_add.cc 22 = .ok (.if_icmp .eq 17, 3) := by decide +kernel
theorem d_X10_add_25 : decode Y_X10_add.cc 25 = .ok (.iload 4, 2) := by decide +kernel
theorem d_X10_add_27 : decode Y_X10_add.cc 27 = .ok (.bipush 32, 2) := by decide +kernel
theorem d_X10_add_29 : decode Y_X10_add.cc 29 = .ok (.if_icmp .lt 14, 3) := by decide +kernel
theorem d_X10_add_32 : decode Y_X10_add.cc 32 = .ok (.iload 4, 2) := by decide +kernel
theorem d_X10_add_34 : decode Y_X10_add.cc 34 = .ok (.bipush 126, 2) := by decide +kernel
theorem d_X10_add_36 : decode Y_X10_add.cc 36 = .ok (.if_icmp .gt 7, 3) := by decide +kernel
theorem d_X10_add_39 : decode Y_X10_add.cc 39 = .ok (.iconst 1, 1) := by decide +kernel
theorem d_X10_add_40 : decode Y_X10_add.cc 40 = .ok (.goto 4, 3) := by decide +kernel
theorem d_X10_add_43 : decode Y_X10_add.cc 43 = .ok (.iconst 0, 1) := by decide +kernel
theorem d_X10_add_44 : decode Y_X10_add.cc 44 = .ok (.istore 5, 2) := by decide +kernel
theorem d_X10_add_46 : decode Y_X10_add.cc 46 = .ok (.iload 5, 2) := by decide +kernel
theorem d_X10_add_48 : decode Y_X10_add.cc 48 = .ok (.ifCond .eq 34, 3) := by decide +kernel
theorem d_X10_add_51 : decode Y_X10_add.cc 51 = .ok (.aload_n 0, 1) := by decide +kernel
theorem d_X10_add_52 : decode Y_X10_add.cc 52 = .ok (.getfield 17, 3) := by decide +kernel
theorem d_X10_add_55 : decode Y_X10_add.cc 55 = .ok (.sipush 1000, 3) := by decide +kernel
theorem d_X10_add_58 : decode Y_X10_add.cc 58 = .ok (.if_icmp .ge 24, 3) := by decide +kernel
theorem d_X10_add_61 : decode Y_X10_add.cc 61 = .ok (.aload_n 0, 1) := by decide +kernel
theorem d_X10_add_62 : decode Y_X10_add.cc 62 = .ok (.getfield 9, 3) := by decide +kernel
theorem d_X10_add_65 : decode Y_X10_add.cc 65 = .ok (.aload_n 0, 1) := by decide +kernel
theorem d_X10_add_66 : decode Y_X10_add.cc 66 = .ok (.getfield 17, 3) := by decide +kernel
theorem d_X10_add_69 : decode Y_X10_add.cc 69 = .ok (.iload 4, 2) := by decide +kernel
theorem d_X10_add_71 : decode Y_X10_add.cc 71 = .ok (.castore, 1) := by decide +kernel
theorem d_X10_add_72 : decode Y_X10_add.cc 72 = .ok (.aload_n 0, 1) := by decide +kernel
theorem d_X10_add_73 : decode Y_X10_add.cc 73 = .ok (.dup, 1) := by decide +kernel
theorem d_X10_add_74 : decode Y_X10_add.cc 74 = .ok (.getfield 17, 3) := by decide +kernel
theorem d_X10_add_77 : decode Y_X10_add.cc 77 = .ok (.iconst 1, 1) := by decide +kernel
theorem d_X10_add_78 : decode Y_X10_add.cc 78 = .ok (.iadd, 1) := by decide +kernel
theorem d_X10_add_79 : decode Y_X10_add.cc 79 = .ok (.putfield 17, 3) := by decide +kernel
theorem d_X10_add_82 : decode Y_X10_add.cc 82 = .ok (.iinc 3 (-8), 3) := by decide +kernel
theorem d_X10_add_85 : decode Y_X10_add.cc 85 = .ok (.goto (-82), 3) := by decide +kernel
theorem d_X10_add_88 : decode Y_X10_add.cc 88 = .ok (.return_, 1) := by decide +kernel
def L_X10_add_3 (G : MG) (d : Nat) (Q : Mm → Prop) (y1 : Int64) (x3 : Int32) (M : Mm) : Prop := T G Y_X10_add (d + 1) (Rv Q) 0 0 3 [(0, .ref (G.b + 1)), (1, .long y1), (3, .int x3)] [] M
def L_X10_add_44 (G : MG) (d : Nat) (Q : Mm → Prop) (y1 : Int64) (x3 : Int32) (x4 : Int32) (sx0 : Int32) (M : Mm) : Prop := T G Y_X10_add (d + 1) (Rv Q) 0 0 44 [(0, .ref (G.b + 1)), (1, .long y1), (3, .int x3), (4, .int x4)] [.int sx0] M
theorem b_X10_add_3 {G : MG} {d : Nat} {Q : Mm → Prop} {y1 : Int64} {x3 : Int32} {M : Mm} {c : Nat} (hL : Lay c M)  (h : ((x3 < 0 → Q M) ∧ (¬ x3 < 0 → ∀ v2 : Int32, v2 = ((((((y1.toUInt64 >>> (x3.toInt64.toUInt64 &&& Int64.toUInt64 63)).toInt64) &&& 255).toInt32).toUInt32 % 65536).toInt32) → ((v2 = 10 → L_X10_add_44 G d Q y1 x3 v2 1 M) ∧ (¬ v2 = 10 → ((v2 < 32 → L_X10_add_44 G d Q y1 x3 v2 0 M) ∧ (¬ v2 < 32 → ((126 < v2 → L_X10_add_44 G d Q y1 x3 v2 0 M) ∧ (¬ 126 < v2 → L_X10_add_44 G d Q y1 x3 v2 1 M))))))))) : L_X10_add_3 G d Q y1 x3 M := by
  unfold L_X10_add_3
  refine tw_iload_n 2 d_X10_add_3 rfl rfl ?_
  refine tw_if_lt 88 d_X10_add_4 (by decide) (fun z1 => ?_) (fun z1 => ?_)
  · replace h := h.1 z1
    exact tw_vret rfl ⟨Nat.zero_le _, Nat.zero_le _⟩ d_X10_add_88 h
  · replace h := h.2 z1
    refine tw_lload_n 1 d_X10_add_7 rfl rfl ?_
    refine tw_iload_n 2 d_X10_add_8 rfl rfl ?_
    refine tw_lushr d_X10_add_9 ?_
    refine tw_ldc2 d_X10_add_10 mg416 ?_
    refine tw_land d_X10_add_13 ?_
    refine tw_l2i d_X10_add_14 ?_
    refine tw_i2c d_X10_add_15 ?_
    refine tw_nmI (fun v2 e_v2 => ?_)
    replace h := h v2 e_v2
    refine tw_istore [(4, .int v2), (0, .ref (G.b + 1)), (1, .long y1), (3, .int x3)] d_X10_add_16 (Nat.le_of_ble_eq_true rfl) rfl ?_
    refine tw_iload 0 d_X10_add_18 rfl ?_
    refine tw_bipush d_X10_add_20 kb_10 ?_
    refine tw_icmp_eq 39 d_X10_add_22 (by decide) (fun z3 => ?_) (fun z3 => ?_)
    · replace h := h.1 z3
      refine tw_iconst d_X10_add_39 k_1 ?_
      refine tw_goto 44 d_X10_add_40 (by decide) ?_
      exact tw_lv [1, 2, 3, 0] rfl h
    · replace h := h.2 z3
      refine tw_iload 0 d_X10_add_25 rfl ?_
      refine tw_bipush d_X10_add_27 kb_32 ?_
      refine tw_icmp_lt 43 d_X10_add_29 (by decide) (fun z4 => ?_) (fun z4 => ?_)
      · replace h := h.1 z4
        refine tw_iconst d_X10_add_43 k_0 ?_
        exact tw_lv [1, 2, 3, 0] rfl h
      · replace h := h.2 z4
        refine tw_iload 0 d_X10_add_32 rfl ?_
        refine tw_bipush d_X10_add_34 kb_126 ?_
        refine tw_icmp_gt 43 d_X10_add_36 (by decide) (fun z5 => ?_) (fun z5 => ?_)
        · replace h := h.1 z5
          refine tw_iconst d_X10_add_43 k_0 ?_
          exact tw_lv [1, 2, 3, 0] rfl h
        · replace h := h.2 z5
          refine tw_iconst d_X10_add_39 k_1 ?_
          refine tw_goto 44 d_X10_add_40 (by decide) ?_
          exact tw_lv [1, 2, 3, 0] rfl h
theorem b_X10_add_44 {G : MG} {d : Nat} {Q : Mm → Prop} {y1 : Int64} {x3 : Int32} {x4 : Int32} {sx0 : Int32} {M : Mm} {c : Nat} (hL : Lay c M)  (h : ((sx0 = 0 → L_X10_add_3 G d Q y1 (x3 + (-8)) M) ∧ (¬ sx0 = 0 → ((1000 ≤ (M.1 1 0) → L_X10_add_3 G d Q y1 (x3 + (-8)) M) ∧ (¬ 1000 ≤ (M.1 1 0) → (vp_in (M.1 1 0) 1000 ∧ ∀ M3 : Mm, M3 = sI M 2 (M.1 1 0).toNatClampNeg (vp_nar .char x4) → (∀ M4 : Mm, M4 = sI M3 1 0 ((M3.1 1 0) + 1) → L_X10_add_3 G d Q y1 (x3 + (-8)) M4))))))) : L_X10_add_44 G d Q y1 x3 x4 sx0 M := by
  unfold L_X10_add_44
  refine tw_istore [(5, .int sx0), (0, .ref (G.b + 1)), (1, .long y1), (3, .int x3), (4, .int x4)] d_X10_add_44 (Nat.le_of_ble_eq_true rfl) rfl ?_
  refine tw_iload 0 d_X10_add_46 rfl ?_
  refine tw_if_eq 82 d_X10_add_48 (by decide) (fun z1 => ?_) (fun z1 => ?_)
  · replace h := h.1 z1
    refine tw_iinc 3 [(3, .int (x3 + (-8))), (5, .int sx0), (0, .ref (G.b + 1)), (1, .long y1), (4, .int x4)] d_X10_add_82 rfl rfl (Nat.le_of_ble_eq_true rfl) rfl ?_
    refine tw_goto 3 d_X10_add_85 (by decide) ?_
    exact tw_lv [2, 3, 0] rfl h
  · replace h := h.2 z1
    refine tw_aload_n 1 d_X10_add_51 rfl rfl ?_
    refine tw_getI f_X10_17 hL s_1 (Or.inl rfl) d_X10_add_52 ?_
    refine tw_sipush d_X10_add_55 ks_1000 ?_
    refine tw_icmp_ge 82 d_X10_add_58 (by decide) (fun z2 => ?_) (fun z2 => ?_)
    · replace h := h.1 z2
      refine tw_iinc 3 [(3, .int (x3 + (-8))), (5, .int sx0), (0, .ref (G.b + 1)), (1, .long y1), (4, .int x4)] d_X10_add_82 rfl rfl (Nat.le_of_ble_eq_true rfl) rfl ?_
      refine tw_goto 3 d_X10_add_85 (by decide) ?_
      exact tw_lv [2, 3, 0] rfl h
    · replace h := h.2 z2
      refine tw_aload_n 1 d_X10_add_61 rfl rfl ?_
      refine tw_getR f_X10_9 hL s_1 ⟨rfl, rfl⟩ (rr_X10_1 s_1) d_X10_add_62 ?_
      refine tw_aload_n 1 d_X10_add_65 rfl rfl ?_
      refine tw_getI f_X10_17 hL s_1 (Or.inl rfl) d_X10_add_66 ?_
      refine tw_iload 4 d_X10_add_69 rfl ?_
      refine tu_cast hL s_2 d_X10_add_71 h.1 (fun M3 e_M3 hL_M3 => ?_)
      replace h := h.2 M3 e_M3
      refine tw_aload_n 1 d_X10_add_72 rfl rfl ?_
      refine tw_dup d_X10_add_73 rfl ?_
      refine tw_getI f_X10_17 hL_M3 s_1 (Or.inl rfl) d_X10_add_74 ?_
      refine tw_iconst d_X10_add_77 k_1 ?_
      refine tw_iadd d_X10_add_78 ?_
      refine tu_putI f_X10_17 hL_M3 s_1 rfl rfl d_X10_add_79 (fun M4 e_M4 hL_M4 => ?_)
      replace h := h M4 e_M4
      refine tw_iinc 3 [(3, .int (x3 + (-8))), (5, .int sx0), (0, .ref (G.b + 1)), (1, .long y1), (4, .int x4)] d_X10_add_82 rfl rfl (Nat.le_of_ble_eq_true rfl) rfl ?_
      refine tw_goto 3 d_X10_add_85 (by decide) ?_
      exact tw_lv [2, 3, 0] rfl h
theorem b_X10_add {G : MG} {d : Nat} {Q : Mm → Prop} {y1 : Int64} {M : Mm} {c : Nat} (hL : Lay c M)  (h : L_X10_add_3 G d Q y1 56 M) : C G Y_X10_add (d + 1) [.ref (G.b + 1), .long y1] M (Rv Q) := by
  refine C.of (by decide) (Nat.le_of_ble_eq_true rfl) (lv := [(0, .ref (G.b + 1)), (1, .long y1)]) rfl ?_
  refine tw_bipush d_X10_add_0 kb_56 ?_
  refine tw_istore_n [(3, .int 56), (0, .ref (G.b + 1)), (1, .long y1)] d_X10_add_2 rfl (Nat.le_of_ble_eq_true rfl) rfl ?_
  exact tw_lv [1, 2, 0] rfl h

theorem d_X10_readOffice_0 : decode Y_X10_readOffice.cc 0 = .ok (.aload_n 1, 1) := by decide +kernel
theorem d_X10_readOffice_1 : decode Y_X10_readOffice.cc 1 = .ok (.iconst 0, 1) := by decide +kernel
theorem d_X10_readOffice_2 : decode Y_X10_readOffice.cc 2 = .ok (.putfield 21, 3) := by decide +kernel
theorem d_X10_readOffice_5 : decode Y_X10_readOffice.cc 5 = .ok (.aload_n 1, 1) := by decide +kernel
theorem d_X10_readOffice_6 : decode Y_X10_readOffice.cc 6 = .ok (.iconst 0, 1) := by decide +kernel
theorem d_X10_readOffice_7 : decode Y_X10_readOffice.cc 7 = .ok (.putfield 26, 3) := by decide +kernel
theorem d_X10_readOffice_10 : decode Y_X10_readOffice.cc 10 = .ok (.aload_n 0, 1) := by decide +kernel
theorem d_X10_readOffice_11 : decode Y_X10_readOffice.cc 11 = .ok (.iconst 0, 1) := by decide +kernel
theorem d_X10_readOffice_12 : decode Y_X10_readOffice.cc 12 = .ok (.putfield 29, 3) := by decide +kernel
theorem d_X10_readOffice_15 : decode Y_X10_readOffice.cc 15 = .ok (.aload_n 0, 1) := by decide +kernel
theorem d_X10_readOffice_16 : decode Y_X10_readOffice.cc 16 = .ok (.iconst 0, 1) := by decide +kernel
theorem d_X10_readOffice_17 : decode Y_X10_readOffice.cc 17 = .ok (.putfield 32, 3) := by decide +kernel
theorem d_X10_readOffice_20 : decode Y_X10_readOffice.cc 20 = .ok (.aload_n 0, 1) := by decide +kernel
theorem d_X10_readOffice_21 : decode Y_X10_readOffice.cc 21 = .ok (.invokevirtual 35, 3) := by decide +kernel
theorem d_X10_readOffice_24 : decode Y_X10_readOffice.cc 24 = .ok (.iconst 0, 1) := by decide +kernel
theorem d_X10_readOffice_25 : decode Y_X10_readOffice.cc 25 = .ok (.istore_n 2, 1) := by decide +kernel
theorem d_X10_readOffice_26 : decode Y_X10_readOffice.cc 26 = .ok (.iload_n 2, 1) := by decide +kernel
theorem d_X10_readOffice_27 : decode Y_X10_readOffice.cc 27 = .ok (.bipush 13, 2) := by decide +kernel
theorem d_X10_readOffice_29 : decode Y_X10_readOffice.cc 29 = .ok (.if_icmp .gt 62, 3) := by decide +kernel
theorem d_X10_readOffice_32 : decode Y_X10_readOffice.cc 32 = .ok (.aload_n 0, 1) := by decide +kernel
theorem d_X10_readOffice_33 : decode Y_X10_readOffice.cc 33 = .ok (.getfield 29, 3) := by decide +kernel
theorem d_X10_readOffice_36 : decode Y_X10_readOffice.cc 36 = .ok (.ifCond .ne 55, 3) := by decide +kernel
theorem d_X10_readOffice_39 : decode Y_X10_readOffice.cc 39 = .ok (.aload_n 0, 1) := by decide +kernel
theorem d_X10_readOffice_40 : decode Y_X10_readOffice.cc 40 = .ok (.getfield 38, 3) := by decide +kernel
theorem d_X10_readOffice_43 : decode Y_X10_readOffice.cc 43 = .ok (.ifCond .eq 48, 3) := by decide +kernel
theorem d_X10_readOffice_46 : decode Y_X10_readOffice.cc 46 = .ok (.aload_n 0, 1) := by decide +kernel
theorem d_X10_readOffice_47 : decode Y_X10_readOffice.cc 47 = .ok (.ldc 41, 2) := by decide +kernel
theorem d_X10_readOffice_49 : decode Y_X10_readOffice.cc 49 = .ok (.invokevirtual 43, 3) := by decide +kernel
theorem d_X10_readOffice_52 : decode Y_X10_readOffice.cc 52 = .ok (.ifCond .eq 11, 3) := by decide +kernel
theorem d_X10_readOffice_55 : decode Y_X10_readOffice.cc 55 = .ok (.aload_n 0, 1) := by decide +kernel
theorem d_X10_readOffice_56 : decode Y_X10_readOffice.cc 56 = .ok (.aload_n 1, 1) := by decide +kernel
theorem d_X10_readOffice_57 : decode Y_X10_readOffice.cc 57 = .ok (.invokevirtual 47, 3) := by decide +kernel
theorem d_X10_readOffice_60 : decode Y_X10_readOffice.cc 60 = .ok (.goto 25, 3) := by decide +kernel
theorem d_X10_readOffice_63 : decode Y_X10_readOffice.cc 63 = .ok (.aload_n 0, 1) := by decide +kernel
theorem d_X10_readOffice_64 : decode Y_X10_readOffice.cc 64 = .ok (.ldc 51, 2) := by decide +kernel
theorem d_X10_readOffice_66 : decode Y_X10_readOffice.cc 66 = .ok (.invokevirtual 43, 3) := by decide +kernel
theorem d_X10_readOffice_69 : decode Y_X10_readOffice.cc 69 = .ok (.ifCond .eq 11, 3) := by decide +kernel
theorem d_X10_readOffice_72 : decode Y_X10_readOffice.cc 72 = .ok (.aload_n 0, 1) := by decide +kernel
theorem d_X10_readOffice_73 : decode Y_X10_readOffice.cc 73 = .ok (.aload_n 1, 1) := by decide +kernel
theorem d_X10_readOffice_74 : decode Y_X10_readOffice.cc 74 = .ok (.invokevirtual 53, 3) := by decide +kernel
theorem d_X10_readOffice_77 : decode Y_X10_readOffice.cc 77 = .ok (.goto 8, 3) := by decide +kernel
theorem d_X10_readOffice_80 : decode Y_X10_readOffice.cc 80 = .ok (.aload_n 0, 1) := by decide +kernel
theorem d_X10_readOffice_81 : decode Y_X10_readOffice.cc 81 = .ok (.iconst 1, 1) := by decide +kernel
theorem d_X10_readOffice_82 : decode Y_X10_readOffice.cc 82 = .ok (.invokevirtual 56, 3) := by decide +kernel
theorem d_X10_readOffice_85 : decode Y_X10_readOffice.cc 85 = .ok (.iinc 2 1, 3) := by decide +kernel
theorem d_X10_readOffice_88 : decode Y_X10_readOffice.cc 88 = .ok (.goto (-62), 3) := by decide +kernel
theorem d_X10_readOffice_91 : decode Y_X10_readOffice.cc 91 = .ok (.aload_n 0, 1) := by decide +kernel
theorem d_X10_readOffice_92 : decode Y_X10_readOffice.cc 92 = .ok (.getfield 29, 3) := by decide +kernel
theorem d_X10_readOffice_95 : decode Y_X10_readOffice.cc 95 = .ok (.ireturn, 1) := by decide +kernel
def L_X10_readOffice_26 (G : MG) (d : Nat) (Q : Int32 → Mm → Prop) (o1 : Nat) (x2 : Int32) (M : Mm) : Prop := T G Y_X10_readOffice (d + 1) (Ri Q) 0 0 26 [(0, .ref (G.b + 1)), (1, .ref (G.b + o1)), (2, .int x2)] [] M
theorem b_X10_readOffice_26 {G : MG} {d : Nat} {Q : Int32 → Mm → Prop} {o1 : Nat} {x2 : Int32} {M : Mm} {c : Nat} (hL : Lay c M) (hx_s41_0 : ∀ U, G.X U → vk_R RX10 41 "arm" (G.ad 0) U) (hx_s51_7 : ∀ U, G.X U → vk_R RX10 51 "map" (G.ad 7) U) (ho1 : sh o1 = some (.inr 5)) (h : ((13 < x2 → Q (M.1 1 6) M) ∧ (¬ 13 < x2 → ((¬ (M.1 1 6) = 0 → Q (M.1 1 6) M) ∧ ((M.1 1 6) = 0 → (((M.1 1 4) = 0 → Q (M.1 1 6) M) ∧ (¬ (M.1 1 4) = 0 → (C G Y_X10_reads d [.ref (G.b + 1), .ref (G.ad 0)] M (Ri fun r5 M4 => M4.2.2 = M.2.2 ∧ ((r5 = 0 → (C G Y_X10_reads d [.ref (G.b + 1), .ref (G.ad 7)] M4 (Ri fun r8 M7 => M7.2.2 = M4.2.2 ∧ ((r8 = 0 → (C G Y_X10_fail d [.ref (G.b + 1), .int 1] M7 (Rv fun M10 => M10.2.2 = M7.2.2 ∧ L_X10_readOffice_26 G d Q o1 (x2 + 1) M10))) ∧ (¬ r8 = 0 → (C G Y_X10_readChart d [.ref (G.b + 1), .ref (G.b + o1)] M7 (Rv fun M11 => M11.2.2 = M7.2.2 ∧ L_X10_readOffice_26 G d Q o1 (x2 + 1) M11))))))) ∧ (¬ r5 = 0 → (C G Y_X10_readArm d [.ref (G.b + 1), .ref (G.b + o1)] M4 (Rv fun M12 => M12.2.2 = M4.2.2 ∧ L_X10_readOffice_26 G d Q o1 (x2 + 1) M12))))))))))))) : L_X10_readOffice_26 G d Q o1 x2 M := by
  unfold L_X10_readOffice_26
  refine tw_iload_n 2 d_X10_readOffice_26 rfl rfl ?_
  refine tw_bipush d_X10_readOffice_27 kb_13 ?_
  refine tw_icmp_gt 91 d_X10_readOffice_29 (by decide) (fun z1 => ?_) (fun z1 => ?_)
  · replace h := h.1 z1
    refine tw_aload_n 0 d_X10_readOffice_91 rfl rfl ?_
    refine tw_getI f_X10_29 hL s_1 (Or.inl rfl) d_X10_readOffice_92 ?_
    exact tw_iret rfl ⟨Nat.zero_le _, Nat.zero_le _⟩ d_X10_readOffice_95 h
  · replace h := h.2 z1
    refine tw_aload_n 0 d_X10_readOffice_32 rfl rfl ?_
    refine tw_getI f_X10_29 hL s_1 (Or.inl rfl) d_X10_readOffice_33 ?_
    refine tw_if_ne 91 d_X10_readOffice_36 (by decide) (fun z2 => ?_) (fun z2 => ?_)
    · replace h := h.1 z2
      refine tw_aload_n 0 d_X10_readOffice_91 rfl rfl ?_
      refine tw_getI f_X10_29 hL s_1 (Or.inl rfl) d_X10_readOffice_92 ?_
      exact tw_iret rfl ⟨Nat.zero_le _, Nat.zero_le _⟩ d_X10_readOffice_95 h
    · replace h := h.2 z2
      refine tw_aload_n 0 d_X10_readOffice_39 rfl rfl ?_
      refine tw_getI f_X10_38 hL s_1 (Or.inl rfl) d_X10_readOffice_40 ?_
      refine tw_if_eq 91 d_X10_readOffice_43 (by decide) (fun z3 => ?_) (fun z3 => ?_)
      · replace h := h.1 z3
        refine tw_aload_n 0 d_X10_readOffice_91 rfl rfl ?_
        refine tw_getI f_X10_29 hL s_1 (Or.inl rfl) d_X10_readOffice_92 ?_
        exact tw_iret rfl ⟨Nat.zero_le _, Nat.zero_le _⟩ d_X10_readOffice_95 h
      · replace h := h.2 z3
        refine tw_aload_n 0 d_X10_readOffice_46 rfl rfl ?_
        refine tw_ldcS hx_s41_0 d_X10_readOffice_47 ?_
        refine tu_cVi (As := [.ref (G.ad 0)]) cv_X10_43 hL s_1 rfl (Nat.le_of_ble_eq_true rfl) ⟨Nat.zero_le _, Nat.zero_le _⟩ d_X10_readOffice_49 h (fun r5 M4 h => ?_)
        have hL_M4 : Lay c M4 := hL.to h.1
        replace h := h.2
        refine tw_if_eq 63 d_X10_readOffice_52 (by decide) (fun z6 => ?_) (fun z6 => ?_)
        · replace h := h.1 z6
          refine tw_aload_n 0 d_X10_readOffice_63 rfl rfl ?_
          refine tw_ldcS hx_s51_7 d_X10_readOffice_64 ?_
          refine tu_cVi (As := [.ref (G.ad 7)]) cv_X10_43 hL_M4 s_1 rfl (Nat.le_of_ble_eq_true rfl) ⟨Nat.zero_le _, Nat.zero_le _⟩ d_X10_readOffice_66 h (fun r8 M7 h => ?_)
          have hL_M7 : Lay c M7 := hL_M4.to h.1
          replace h := h.2
          refine tw_if_eq 80 d_X10_readOffice_69 (by decide) (fun z9 => ?_) (fun z9 => ?_)
          · replace h := h.1 z9
            refine tw_aload_n 0 d_X10_readOffice_80 rfl rfl ?_
            refine tw_iconst d_X10_readOffice_81 k_1 ?_
            refine tu_cVv (As := [.int 1]) cv_X10_56 hL_M7 s_1 rfl (Nat.le_of_ble_eq_true rfl) ⟨Nat.zero_le _, Nat.zero_le _⟩ d_X10_readOffice_82 h (fun M10 h => ?_)
            have hL_M10 : Lay c M10 := hL_M7.to h.1
            replace h := h.2
            refine tw_iinc 2 [(2, .int (x2 + 1)), (0, .ref (G.b + 1)), (1, .ref (G.b + o1))] d_X10_readOffice_85 rfl rfl (Nat.le_of_ble_eq_true rfl) rfl ?_
            refine tw_goto 26 d_X10_readOffice_88 (by decide) ?_
            exact tw_lv [1, 2, 0] rfl h
          · replace h := h.2 z9
            refine tw_aload_n 0 d_X10_readOffice_72 rfl rfl ?_
            refine tw_aload_n 1 d_X10_readOffice_73 rfl rfl ?_
            refine tu_cVv (As := [.ref (G.b + o1)]) cv_X10_53 hL_M7 s_1 rfl (Nat.le_of_ble_eq_true rfl) ⟨Nat.zero_le _, Nat.zero_le _⟩ d_X10_readOffice_74 h (fun M11 h => ?_)
            have hL_M11 : Lay c M11 := hL_M7.to h.1
            replace h := h.2
            refine tw_goto 85 d_X10_readOffice_77 (by decide) ?_
            refine tw_iinc 2 [(2, .int (x2 + 1)), (0, .ref (G.b + 1)), (1, .ref (G.b + o1))] d_X10_readOffice_85 rfl rfl (Nat.le_of_ble_eq_true rfl) rfl ?_
            refine tw_goto 26 d_X10_readOffice_88 (by decide) ?_
            exact tw_lv [1, 2, 0] rfl h
        · replace h := h.2 z6
          refine tw_aload_n 0 d_X10_readOffice_55 rfl rfl ?_
          refine tw_aload_n 1 d_X10_readOffice_56 rfl rfl ?_
          refine tu_cVv (As := [.ref (G.b + o1)]) cv_X10_47 hL_M4 s_1 rfl (Nat.le_of_ble_eq_true rfl) ⟨Nat.zero_le _, Nat.zero_le _⟩ d_X10_readOffice_57 h (fun M12 h => ?_)
          have hL_M12 : Lay c M12 := hL_M4.to h.1
          replace h := h.2
          refine tw_goto 85 d_X10_readOffice_60 (by decide) ?_
          refine tw_iinc 2 [(2, .int (x2 + 1)), (0, .ref (G.b + 1)), (1, .ref (G.b + o1))] d_X10_readOffice_85 rfl rfl (Nat.le_of_ble_eq_true rfl) rfl ?_
          refine tw_goto 26 d_X10_readOffice_88 (by decide) ?_
          exact tw_lv [1, 2, 0] rfl h
theorem b_X10_readOffice {G : MG} {d : Nat} {Q : Int32 → Mm → Prop} {o1 : Nat} {M : Mm} {c : Nat} (hL : Lay c M) (hx_s41_0 : ∀ U, G.X U → vk_R RX10 41 "arm" (G.ad 0) U) (hx_s51_7 : ∀ U, G.X U → vk_R RX10 51 "map" (G.ad 7) U) (ho1 : sh o1 = some (.inr 5)) (h : (∀ M1 : Mm, M1 = sI M o1 2 0 → (∀ M2 : Mm, M2 = sI M1 o1 3 0 → (∀ M3 : Mm, M3 = sI M2 1 6 0 → (∀ M4 : Mm, M4 = sI M3 1 3 0 → (C G Y_X10_advance d [.ref (G.b + 1)] M4 (Rv fun M5 => M5.2.2 = M4.2.2 ∧ L_X10_readOffice_26 G d Q o1 0 M5))))))) : C G Y_X10_readOffice (d + 1) [.ref (G.b + 1), .ref (G.b + o1)] M (Ri Q) := by
  refine C.of (by decide) (Nat.le_of_ble_eq_true rfl) (lv := [(0, .ref (G.b + 1)), (1, .ref (G.b + o1))]) rfl ?_
  refine tw_aload_n 1 d_X10_readOffice_0 rfl rfl ?_
  refine tw_iconst d_X10_readOffice_1 k_0 ?_
  refine tu_putI f_X10_21 hL ho1 rfl rfl d_X10_readOffice_2 (fun M1 e_M1 hL_M1 => ?_)
  replace h := h M1 e_M1
  refine tw_aload_n 1 d_X10_readOffice_5 rfl rfl ?_
  refine tw_iconst d_X10_readOffice_6 k_0 ?_
  refine tu_putI f_X10_26 hL_M1 ho1 rfl rfl d_X10_readOffice_7 (fun M2 e_M2 hL_M2 => ?_)
  replace h := h M2 e_M2
  refine tw_aload_n 0 d_X10_readOffice_10 rfl rfl ?_
  refine tw_iconst d_X10_readOffice_11 k_0 ?_
  refine tu_putI f_X10_29 hL_M2 s_1 rfl rfl d_X10_readOffice_12 (fun M3 e_M3 hL_M3 => ?_)
  replace h := h M3 e_M3
  refine tw_aload_n 0 d_X10_readOffice_15 rfl rfl ?_
  refine tw_iconst d_X10_readOffice_16 k_0 ?_
  refine tu_putI f_X10_32 hL_M3 s_1 rfl rfl d_X10_readOffice_17 (fun M4 e_M4 hL_M4 => ?_)
  replace h := h M4 e_M4
  refine tw_aload_n 0 d_X10_readOffice_20 rfl rfl ?_
  refine tu_cVv (As := []) cv_X10_35 hL_M4 s_1 rfl (Nat.le_of_ble_eq_true rfl) ⟨Nat.zero_le _, Nat.zero_le _⟩ d_X10_readOffice_21 h (fun M5 h => ?_)
  have hL_M5 : Lay c M5 := hL_M4.to h.1
  replace h := h.2
  refine tw_iconst d_X10_readOffice_24 k_0 ?_
  refine tw_istore_n [(2, .int 0), (0, .ref (G.b + 1)), (1, .ref (G.b + o1))] d_X10_readOffice_25 rfl (Nat.le_of_ble_eq_true rfl) rfl ?_
  exact tw_lv [1, 2, 0] rfl h

theorem d_X10_readArm_0 : decode Y_X10_readArm.cc 0 = .ok (.aload_n 1, 1) := by decide +kernel
theorem d_X10_readArm_1 : decode Y_X10_readArm.cc 1 = .ok (.getfield 21, 3) := by decide +kernel
theorem d_X10_readArm_4 : decode Y_X10_readArm.cc 4 = .ok (.bipush 6, 2) := by decide +kernel
theorem d_X10_readArm_6 : decode Y_X10_readArm.cc 6 = .ok (.if_icmp .lt 9, 3) := by decide +kernel
theorem d_X10_readArm_9 : decode Y_X10_readArm.cc 9 = .ok (.aload_n 0, 1) := by decide +kernel
theorem d_X10_readArm_10 : decode Y_X10_readArm.cc 10 = .ok (.iconst 5, 1) := by decide +kernel
theorem d_X10_readArm_11 : decode Y_X10_readArm.cc 11 = .ok (.invokevirtual 56, 3) := by decide +kernel
theorem d_X10_readArm_14 : decode Y_X10_readArm.cc 14 = .ok (.return_, 1) := by decide +kernel
theorem d_X10_readArm_15 : decode Y_X10_readArm.cc 15 = .ok (.aload_n 1, 1) := by decide +kernel
theorem d_X10_readArm_16 : decode Y_X10_readArm.cc 16 = .ok (.getfield 60, 3) := by decide +kernel
theorem d_X10_readArm_19 : decode Y_X10_readArm.cc 19 = .ok (.aload_n 1, 1) := by decide +kernel
theorem d_X10_readArm_20 : decode Y_X10_readArm.cc 20 = .ok (.getfield 21, 3) := by decide +kernel
theorem d_X10_readArm_23 : decode Y_X10_readArm.cc 23 = .ok (.aaload, 1) := by decide +kernel
theorem d_X10_readArm_24 : decode Y_X10_readArm.cc 24 = .ok (.astore_n 2, 1) := by decide +kernel
theorem d_X10_readArm_25 : decode Y_X10_readArm.cc 25 = .ok (.aload_n 0, 1) := by decide +kernel
theorem d_X10_readArm_26 : decode Y_X10_readArm.cc 26 = .ok (.invokevirtual 35, 3) := by decide +kernel
theorem d_X10_readArm_29 : decode Y_X10_readArm.cc 29 = .ok (.aload_n 2, 1) := by decide +kernel
theorem d_X10_readArm_30 : decode Y_X10_readArm.cc 30 = .ok (.aload_n 0, 1) := by decide +kernel
theorem d_X10_readArm_31 : decode Y_X10_readArm.cc 31 = .ok (.aload_n 1, 1) := by decide +kernel
theorem d_X10_readArm_32 : decode Y_X10_readArm.cc 32 = .ok (.invokevirtual 64, 3) := by decide +kernel
theorem d_X10_readArm_35 : decode Y_X10_readArm.cc 35 = .ok (.putfield 68, 3) := by decide +kernel
theorem d_X10_readArm_38 : decode Y_X10_readArm.cc 38 = .ok (.aload_n 2, 1) := by decide +kernel
theorem d_X10_readArm_39 : decode Y_X10_readArm.cc 39 = .ok (.aload_n 0, 1) := by decide +kernel
theorem d_X10_readArm_40 : decode Y_X10_readArm.cc 40 = .ok (.invokevirtual 74, 3) := by decide +kernel
theorem d_X10_readArm_43 : decode Y_X10_readArm.cc 43 = .ok (.putfield 78, 3) := by decide +kernel
theorem d_X10_readArm_46 : decode Y_X10_readArm.cc 46 = .ok (.aload_n 0, 1) := by decide +kernel
theorem d_X10_readArm_47 : decode Y_X10_readArm.cc 47 = .ok (.aload_n 2, 1) := by decide +kernel
theorem d_X10_readArm_48 : decode Y_X10_readArm.cc 48 = .ok (.invokevirtual 81, 3) := by decide +kernel
theorem d_X10_readArm_51 : decode Y_X10_readArm.cc 51 = .ok (.aload_n 2, 1) := by decide +kernel
theorem d_X10_readArm_52 : decode Y_X10_readArm.cc 52 = .ok (.aload_n 0, 1) := by decide +kernel
theorem d_X10_readArm_53 : decode Y_X10_readArm.cc 53 = .ok (.ldc 85, 2) := by decide +kernel
theorem d_X10_readArm_55 : decode Y_X10_readArm.cc 55 = .ok (.iconst 0, 1) := by decide +kernel
theorem d_X10_readArm_56 : decode Y_X10_readArm.cc 56 = .ok (.iconst 3, 1) := by decide +kernel
theorem d_X10_readArm_57 : decode Y_X10_readArm.cc 57 = .ok (.invokevirtual 87, 3) := by decide +kernel
theorem d_X10_readArm_60 : decode Y_X10_readArm.cc 60 = .ok (.putfield 91, 3) := by decide +kernel
theorem d_X10_readArm_63 : decode Y_X10_readArm.cc 63 = .ok (.aload_n 2, 1) := by decide +kernel
theorem d_X10_readArm_64 : decode Y_X10_readArm.cc 64 = .ok (.aload_n 0, 1) := by decide +kernel
theorem d_X10_readArm_65 : decode Y_X10_readArm.cc 65 = .ok (.ldc 94, 2) := by decide +kernel
theorem d_X10_readArm_67 : decode Y_X10_readArm.cc 67 = .ok (.iconst 0, 1) := by decide +kernel
theorem d_X10_readArm_68 : decode Y_X10_readArm.cc 68 = .ok (.bipush 99, 2) := by decide +kernel
theorem d_X10_readArm_70 : decode Y_X10_readArm.cc 70 = .ok (.invokevirtual 87, 3) := by decide +kernel
theorem d_X10_readArm_73 : decode Y_X10_readArm.cc 73 = .ok (.putfield 96, 3) := by decide +kernel
theorem d_X10_readArm_76 : decode Y_X10_readArm.cc 76 = .ok (.aload_n 2, 1) := by decide +kernel
theorem d_X10_readArm_77 : decode Y_X10_readArm.cc 77 = .ok (.aload_n 0, 1) := by decide +kernel
theorem d_X10_readArm_78 : decode Y_X10_readArm.cc 78 = .ok (.iconst 0, 1) := by decide +kernel
theorem d_X10_readArm_79 : decode Y_X10_readArm.cc 79 = .ok (.bipush 99, 2) := by decide +kernel
theorem d_X10_readArm_81 : decode Y_X10_readArm.cc 81 = .ok (.invokevirtual 99, 3) := by decide +kernel
theorem d_X10_readArm_84 : decode Y_X10_readArm.cc 84 = .ok (.putfield 103, 3) := by decide +kernel
theorem d_X10_readArm_87 : decode Y_X10_readArm.cc 87 = .ok (.aload_n 2, 1) := by decide +kernel
theorem d_X10_readArm_88 : decode Y_X10_readArm.cc 88 = .ok (.aload_n 0, 1) := by decide +kernel
theorem d_X10_readArm_89 : decode Y_X10_readArm.cc 89 = .ok (.ldc 106, 2) := by decide +kernel
theorem d_X10_readArm_91 : decode Y_X10_readArm.cc 91 = .ok (.iconst 1, 1) := by decide +kernel
theorem d_X10_readArm_92 : decode Y_X10_readArm.cc 92 = .ok (.sipush 200, 3) := by decide +kernel
theorem d_X10_readArm_95 : decode Y_X10_readArm.cc 95 = .ok (.invokevirtual 87, 3) := by decide +kernel
theorem d_X10_readArm_98 : decode Y_X10_readArm.cc 98 = .ok (.putfield 108, 3) := by decide +kernel
theorem d_X10_readArm_101 : decode Y_X10_readArm.cc 101 = .ok (.aload_n 2, 1) := by decide +kernel
theorem d_X10_readArm_102 : decode Y_X10_readArm.cc 102 = .ok (.aload_n 0, 1) := by decide +kernel
theorem d_X10_readArm_103 : decode Y_X10_readArm.cc 103 = .ok (.ldc 110, 2) := by decide +kernel
theorem d_X10_readArm_105 : decode Y_X10_readArm.cc 105 = .ok (.iconst 0, 1) := by decide +kernel
theorem d_X10_readArm_106 : decode Y_X10_readArm.cc 106 = .ok (.bipush 9, 2) := by decide +kernel
theorem d_X10_readArm_108 : decode Y_X10_readArm.cc 108 = .ok (.invokevirtual 87, 3) := by decide +kernel
theorem d_X10_readArm_111 : decode Y_X10_readArm.cc 111 = .ok (.putfield 112, 3) := by decide +kernel
theorem d_X10_readArm_114 : decode Y_X10_readArm.cc 114 = .ok (.aload_n 2, 1) := by decide +kernel
theorem d_X10_readArm_115 : decode Y_X10_readArm.cc 115 = .ok (.aload_n 0, 1) := by decide +kernel
theorem d_X10_readArm_116 : decode Y_X10_readArm.cc 116 = .ok (.ldc 114, 2) := by decide +kernel
theorem d_X10_readArm_118 : decode Y_X10_readArm.cc 118 = .ok (.invokevirtual 43, 3) := by decide +kernel
theorem d_X10_readArm_121 : decode Y_X10_readArm.cc 121 = .ok (.ifCond .eq 15, 3) := by decide +kernel
theorem d_X10_readArm_124 : decode Y_X10_readArm.cc 124 = .ok (.aload_n 0, 1) := by decide +kernel
theorem d_X10_readArm_125 : decode Y_X10_readArm.cc 125 = .ok (.ldc 114, 2) := by decide +kernel
theorem d_X10_readArm_127 : decode Y_X10_readArm.cc 127 = .ok (.iconst 0, 1) := by decide +kernel
theorem d_X10_readArm_128 : decode Y_X10_readArm.cc 128 = .ok (.bipush 9, 2) := by decide +kernel
theorem d_X10_readArm_130 : decode Y_X10_readArm.cc 130 = .ok (.invokevirtual 87, 3) := by decide +kernel
theorem d_X10_readArm_133 : decode Y_X10_readArm.cc 133 = .ok (.goto 4, 3) := by decide +kernel
theorem d_X10_readArm_136 : decode Y_X10_readArm.cc 136 = .ok (.iconst 0, 1) := by decide +kernel
theorem d_X10_readArm_137 : decode Y_X10_readArm.cc 137 = .ok (.putfield 116, 3) := by decide +kernel
theorem d_X10_readArm_140 : decode Y_X10_readArm.cc 140 = .ok (.aload_n 0, 1) := by decide +kernel
theorem d_X10_readArm_141 : decode Y_X10_readArm.cc 141 = .ok (.bipush 59, 2) := by decide +kernel
theorem d_X10_readArm_143 : decode Y_X10_readArm.cc 143 = .ok (.invokevirtual 119, 3) := by decide +kernel
theorem d_X10_readArm_146 : decode Y_X10_readArm.cc 146 = .ok (.aload_n 1, 1) := by decide +kernel
theorem d_X10_readArm_147 : decode Y_X10_readArm.cc 147 = .ok (.dup, 1) := by decide +kernel
theorem d_X10_readArm_148 : decode Y_X10_readArm.cc 148 = .ok (.getfield 21, 3) := by decide +kernel
theorem d_X10_readArm_151 : decode Y_X10_readArm.cc 151 = .ok (.iconst 1, 1) := by decide +kernel
theorem d_X10_readArm_152 : decode Y_X10_readArm.cc 152 = .ok (.iadd, 1) := by decide +kernel
theorem d_X10_readArm_153 : decode Y_X10_readArm.cc 153 = .ok (.putfield 21, 3) := by decide +kernel
theorem d_X10_readArm_156 : decode Y_X10_readArm.cc 156 = .ok (.return_, 1) := by decide +kernel
theorem b_X10_readArm {G : MG} {d : Nat} {Q : Mm → Prop} {o1 : Nat} {M : Mm} {c : Nat} (hL : Lay c M) (hx_s85_2 : ∀ U, G.X U → vk_R RX10 85 "turn" (G.ad 2) U) (hx_s94_3 : ∀ U, G.X U → vk_R RX10 94 "at" (G.ad 3) U) (hx_s106_4 : ∀ U, G.X U → vk_R RX10 106 "reach" (G.ad 4) U) (hx_s110_5 : ∀ U, G.X U → vk_R RX10 110 "shake" (G.ad 5) U) (hx_s114_6 : ∀ U, G.X U → vk_R RX10 114 "bend" (G.ad 6) U) (ho1 : sh o1 = some (.inr 5)) (h : (((M.1 o1 2) < 6 → (vp_in (M.1 o1 2) 6 ∧ (C G Y_X10_advance d [.ref (G.b + 1)] M (Rv fun M3 => M3.2.2 = M.2.2 ∧ (C G Y_X10_readName d [.ref (G.b + 1), .ref (G.b + o1)] M3 (Rj fun r5 M4 => M4.2.2 = M3.2.2 ∧ (∀ M6 : Mm, M6 = sJ M4 ((o1 + 1) + 2 + 2 * (M.1 o1 2).toNatClampNeg) 0 r5 → (C G Y_X10_readKind d [.ref (G.b + 1)] M6 (Ri fun r8 M7 => M7.2.2 = M6.2.2 ∧ (∀ M9 : Mm, M9 = sI M7 ((o1 + 1) + 2 + 2 * (M.1 o1 2).toNatClampNeg) 1 r8 → (C G Y_X10_readHoles d [.ref (G.b + 1), .ref (G.b + ((o1 + 1) + 2 + 2 * (M.1 o1 2).toNatClampNeg))] M9 (Rv fun M10 => M10.2.2 = M9.2.2 ∧ (C G Y_X10_readNumberBehind d [.ref (G.b + 1), .ref (G.ad 2), .int 0, .int 3] M10 (Ri fun r12 M11 => M11.2.2 = M10.2.2 ∧ (∀ M13 : Mm, M13 = sI M11 ((o1 + 1) + 2 + 2 * (M.1 o1 2).toNatClampNeg) 4 r12 → (C G Y_X10_readNumberBehind d [.ref (G.b + 1), .ref (G.ad 3), .int 0, .int 99] M13 (Ri fun r15 M14 => M14.2.2 = M13.2.2 ∧ (∀ M16 : Mm, M16 = sI M14 ((o1 + 1) + 2 + 2 * (M.1 o1 2).toNatClampNeg) 5 r15 → (C G Y_X10_readNumber d [.ref (G.b + 1), .int 0, .int 99] M16 (Ri fun r18 M17 => M17.2.2 = M16.2.2 ∧ (∀ M19 : Mm, M19 = sI M17 ((o1 + 1) + 2 + 2 * (M.1 o1 2).toNatClampNeg) 6 r18 → (C G Y_X10_readNumberBehind d [.ref (G.b + 1), .ref (G.ad 4), .int 1, .int 200] M19 (Ri fun r21 M20 => M20.2.2 = M19.2.2 ∧ (∀ M22 : Mm, M22 = sI M20 ((o1 + 1) + 2 + 2 * (M.1 o1 2).toNatClampNeg) 7 r21 → (C G Y_X10_readNumberBehind d [.ref (G.b + 1), .ref (G.ad 5), .int 0, .int 9] M22 (Ri fun r24 M23 => M23.2.2 = M22.2.2 ∧ (∀ M25 : Mm, M25 = sI M23 ((o1 + 1) + 2 + 2 * (M.1 o1 2).toNatClampNeg) 8 r24 → (C G Y_X10_reads d [.ref (G.b + 1), .ref (G.ad 6)] M25 (Ri fun r27 M26 => M26.2.2 = M25.2.2 ∧ ((r27 = 0 → (∀ M29 : Mm, M29 = sI M26 ((o1 + 1) + 2 + 2 * (M.1 o1 2).toNatClampNeg) 9 0 → (C G Y_X10_skipSign d [.ref (G.b + 1), .int 59] M29 (Rv fun M30 => M30.2.2 = M29.2.2 ∧ (∀ M31 : Mm, M31 = sI M30 o1 2 ((M30.1 o1 2) + 1) → Q M31))))) ∧ (¬ r27 = 0 → (C G Y_X10_readNumberBehind d [.ref (G.b + 1), .ref (G.ad 6), .int 0, .int 9] M26 (Ri fun r33 M32 => M32.2.2 = M26.2.2 ∧ (∀ M34 : Mm, M34 = sI M32 ((o1 + 1) + 2 + 2 * (M.1 o1 2).toNatClampNeg) 9 r33 → (C G Y_X10_skipSign d [.ref (G.b + 1), .int 59] M34 (Rv fun M35 => M35.2.2 = M34.2.2 ∧ (∀ M36 : Mm, M36 = sI M35 o1 2 ((M35.1 o1 2) + 1) → Q M36))))))))))))))))))))))))))))))))))))) ∧ (¬ (M.1 o1 2) < 6 → (C G Y_X10_fail d [.ref (G.b + 1), .int 5] M (Rv fun M37 => M37.2.2 = M.2.2 ∧ Q M37))))) : C G Y_X10_readArm (d + 1) [.ref (G.b + 1), .ref (G.b + o1)] M (Rv Q) := by
  refine C.of (by decide) (Nat.le_of_ble_eq_true rfl) (lv := [(0, .ref (G.b + 1)), (1, .ref (G.b + o1))]) rfl ?_
  refine tw_aload_n 1 d_X10_readArm_0 rfl rfl ?_
  refine tw_getI f_X10_21 hL ho1 (Or.inl rfl) d_X10_readArm_1 ?_
  refine tw_bipush d_X10_readArm_4 kb_6 ?_
  refine tw_icmp_lt 15 d_X10_readArm_6 (by decide) (fun z1 => ?_) (fun z1 => ?_)
  · replace h := h.1 z1
    refine tw_aload_n 1 d_X10_readArm_15 rfl rfl ?_
    refine tw_getR f_X10_60 hL ho1 ⟨rfl, rfl⟩ (rr_X5_0 ho1) d_X10_readArm_16 ?_
    refine tw_aload_n 1 d_X10_readArm_19 rfl rfl ?_
    refine tw_getI f_X10_21 hL ho1 (Or.inl rfl) d_X10_readArm_20 ?_
    have hin := h.1
    refine tw_aald hL (sr_X5_0 ho1) (by decide) (re_4 (sr_X5_0 ho1)) d_X10_readArm_23 h.1 ?_
    have hs2 := se_4 (sr_X5_0 ho1) (vp_lt h.1)
    replace h := h.2
    refine tw_astore_n [(2, .ref (G.b + ((o1 + 1) + 2 + 2 * (M.1 o1 2).toNatClampNeg))), (0, .ref (G.b + 1)), (1, .ref (G.b + o1))] d_X10_readArm_24 rfl (Nat.le_of_ble_eq_true rfl) rfl ?_
    refine tw_aload_n 1 d_X10_readArm_25 rfl rfl ?_
    refine tu_cVv (As := []) cv_X10_35 hL s_1 rfl (Nat.le_of_ble_eq_true rfl) ⟨Nat.zero_le _, Nat.zero_le _⟩ d_X10_readArm_26 h (fun M3 h => ?_)
    have hL_M3 : Lay c M3 := hL.to h.1
    replace h := h.2
    refine tw_aload_n 0 d_X10_readArm_29 rfl rfl ?_
    refine tw_aload_n 1 d_X10_readArm_30 rfl rfl ?_
    refine tw_aload_n 2 d_X10_readArm_31 rfl rfl ?_
    refine tu_cVJ (As := [.ref (G.b + o1)]) cv_X10_64 hL_M3 s_1 rfl (Nat.le_of_ble_eq_true rfl) ⟨Nat.zero_le _, Nat.zero_le _⟩ d_X10_readArm_32 h (fun r5 M4 h => ?_)
    have hL_M4 : Lay c M4 := hL_M3.to h.1
    replace h := h.2
    refine tu_putJ f_X10_68 hL_M4 hs2 rfl rfl d_X10_readArm_35 (fun M6 e_M6 hL_M6 => ?_)
    replace h := h M6 e_M6
    refine tw_aload_n 0 d_X10_readArm_38 rfl rfl ?_
    refine tw_aload_n 1 d_X10_readArm_39 rfl rfl ?_
    refine tu_cVi (As := []) cv_X10_74 hL_M6 s_1 rfl (Nat.le_of_ble_eq_true rfl) ⟨Nat.zero_le _, Nat.zero_le _⟩ d_X10_readArm_40 h (fun r8 M7 h => ?_)
    have hL_M7 : Lay c M7 := hL_M6.to h.1
    replace h := h.2
    refine tu_putI f_X10_78 hL_M7 hs2 rfl rfl d_X10_readArm_43 (fun M9 e_M9 hL_M9 => ?_)
    replace h := h M9 e_M9
    refine tw_aload_n 1 d_X10_readArm_46 rfl rfl ?_
    refine tw_aload_n 0 d_X10_readArm_47 rfl rfl ?_
    refine tu_cVv (As := [.ref (G.b + ((o1 + 1) + 2 + 2 * (M.1 o1 2).toNatClampNeg))]) cv_X10_81 hL_M9 s_1 rfl (Nat.le_of_ble_eq_true rfl) ⟨Nat.zero_le _, Nat.zero_le _⟩ d_X10_readArm_48 h (fun M10 h => ?_)
    have hL_M10 : Lay c M10 := hL_M9.to h.1
    replace h := h.2
    refine tw_aload_n 0 d_X10_readArm_51 rfl rfl ?_
    refine tw_aload_n 1 d_X10_readArm_52 rfl rfl ?_
    refine tw_ldcS hx_s85_2 d_X10_readArm_53 ?_
    refine tw_iconst d_X10_readArm_55 k_0 ?_
    refine tw_iconst d_X10_readArm_56 k_3 ?_
    refine tu_cVi (As := [.ref (G.ad 2), .int 0, .int 3]) cv_X10_87 hL_M10 s_1 rfl (Nat.le_of_ble_eq_true rfl) ⟨Nat.zero_le _, Nat.zero_le _⟩ d_X10_readArm_57 h (fun r12 M11 h => ?_)
    have hL_M11 : Lay c M11 := hL_M10.to h.1
    replace h := h.2
    refine tu_putI f_X10_91 hL_M11 hs2 rfl rfl d_X10_readArm_60 (fun M13 e_M13 hL_M13 => ?_)
    replace h := h M13 e_M13
    refine tw_aload_n 0 d_X10_readArm_63 rfl rfl ?_
    refine tw_aload_n 1 d_X10_readArm_64 rfl rfl ?_
    refine tw_ldcS hx_s94_3 d_X10_readArm_65 ?_
    refine tw_iconst d_X10_readArm_67 k_0 ?_
    refine tw_bipush d_X10_readArm_68 kb_99 ?_
    refine tu_cVi (As := [.ref (G.ad 3), .int 0, .int 99]) cv_X10_87 hL_M13 s_1 rfl (Nat.le_of_ble_eq_true rfl) ⟨Nat.zero_le _, Nat.zero_le _⟩ d_X10_readArm_70 h (fun r15 M14 h => ?_)
    have hL_M14 : Lay c M14 := hL_M13.to h.1
    replace h := h.2
    refine tu_putI f_X10_96 hL_M14 hs2 rfl rfl d_X10_readArm_73 (fun M16 e_M16 hL_M16 => ?_)
    replace h := h M16 e_M16
    refine tw_aload_n 0 d_X10_readArm_76 rfl rfl ?_
    refine tw_aload_n 1 d_X10_readArm_77 rfl rfl ?_
    refine tw_iconst d_X10_readArm_78 k_0 ?_
    refine tw_bipush d_X10_readArm_79 kb_99 ?_
    refine tu_cVi (As := [.int 0, .int 99]) cv_X10_99 hL_M16 s_1 rfl (Nat.le_of_ble_eq_true rfl) ⟨Nat.zero_le _, Nat.zero_le _⟩ d_X10_readArm_81 h (fun r18 M17 h => ?_)
    have hL_M17 : Lay c M17 := hL_M16.to h.1
    replace h := h.2
    refine tu_putI f_X10_103 hL_M17 hs2 rfl rfl d_X10_readArm_84 (fun M19 e_M19 hL_M19 => ?_)
    replace h := h M19 e_M19
    refine tw_aload_n 0 d_X10_readArm_87 rfl rfl ?_
    refine tw_aload_n 1 d_X10_readArm_88 rfl rfl ?_
    refine tw_ldcS hx_s106_4 d_X10_readArm_89 ?_
    refine tw_iconst d_X10_readArm_91 k_1 ?_
    refine tw_sipush d_X10_readArm_92 ks_200 ?_
    refine tu_cVi (As := [.ref (G.ad 4), .int 1, .int 200]) cv_X10_87 hL_M19 s_1 rfl (Nat.le_of_ble_eq_true rfl) ⟨Nat.zero_le _, Nat.zero_le _⟩ d_X10_readArm_95 h (fun r21 M20 h => ?_)
    have hL_M20 : Lay c M20 := hL_M19.to h.1
    replace h := h.2
    refine tu_putI f_X10_108 hL_M20 hs2 rfl rfl d_X10_readArm_98 (fun M22 e_M22 hL_M22 => ?_)
    replace h := h M22 e_M22
    refine tw_aload_n 0 d_X10_readArm_101 rfl rfl ?_
    refine tw_aload_n 1 d_X10_readArm_102 rfl rfl ?_
    refine tw_ldcS hx_s110_5 d_X10_readArm_103 ?_
    refine tw_iconst d_X10_readArm_105 k_0 ?_
    refine tw_bipush d_X10_readArm_106 kb_9 ?_
    refine tu_cVi (As := [.ref (G.ad 5), .int 0, .int 9]) cv_X10_87 hL_M22 s_1 rfl (Nat.le_of_ble_eq_true rfl) ⟨Nat.zero_le _, Nat.zero_le _⟩ d_X10_readArm_108 h (fun r24 M23 h => ?_)
    have hL_M23 : Lay c M23 := hL_M22.to h.1
    replace h := h.2
    refine tu_putI f_X10_112 hL_M23 hs2 rfl rfl d_X10_readArm_111 (fun M25 e_M25 hL_M25 => ?_)
    replace h := h M25 e_M25
    refine tw_aload_n 0 d_X10_readArm_114 rfl rfl ?_
    refine tw_aload_n 1 d_X10_readArm_115 rfl rfl ?_
    refine tw_ldcS hx_s114_6 d_X10_readArm_116 ?_
    refine tu_cVi (As := [.ref (G.ad 6)]) cv_X10_43 hL_M25 s_1 rfl (Nat.le_of_ble_eq_true rfl) ⟨Nat.zero_le _, Nat.zero_le _⟩ d_X10_readArm_118 h (fun r27 M26 h => ?_)
    have hL_M26 : Lay c M26 := hL_M25.to h.1
    replace h := h.2
    refine tw_if_eq 136 d_X10_readArm_121 (by decide) (fun z28 => ?_) (fun z28 => ?_)
    · replace h := h.1 z28
      refine tw_iconst d_X10_readArm_136 k_0 ?_
      refine tu_putI f_X10_116 hL_M26 hs2 rfl rfl d_X10_readArm_137 (fun M29 e_M29 hL_M29 => ?_)
      replace h := h M29 e_M29
      refine tw_aload_n 1 d_X10_readArm_140 rfl rfl ?_
      refine tw_bipush d_X10_readArm_141 kb_59 ?_
      refine tu_cVv (As := [.int 59]) cv_X10_119 hL_M29 s_1 rfl (Nat.le_of_ble_eq_true rfl) ⟨Nat.zero_le _, Nat.zero_le _⟩ d_X10_readArm_143 h (fun M30 h => ?_)
      have hL_M30 : Lay c M30 := hL_M29.to h.1
      replace h := h.2
      refine tw_aload_n 2 d_X10_readArm_146 rfl rfl ?_
      refine tw_dup d_X10_readArm_147 rfl ?_
      refine tw_getI f_X10_21 hL_M30 ho1 (Or.inl rfl) d_X10_readArm_148 ?_
      refine tw_iconst d_X10_readArm_151 k_1 ?_
      refine tw_iadd d_X10_readArm_152 ?_
      refine tu_putI f_X10_21 hL_M30 ho1 rfl rfl d_X10_readArm_153 (fun M31 e_M31 hL_M31 => ?_)
      replace h := h M31 e_M31
      exact tw_vret rfl ⟨Nat.zero_le _, Nat.zero_le _⟩ d_X10_readArm_156 h
    · replace h := h.2 z28
      refine tw_aload_n 1 d_X10_readArm_124 rfl rfl ?_
      refine tw_ldcS hx_s114_6 d_X10_readArm_125 ?_
      refine tw_iconst d_X10_readArm_127 k_0 ?_
      refine tw_bipush d_X10_readArm_128 kb_9 ?_
      refine tu_cVi (As := [.ref (G.ad 6), .int 0, .int 9]) cv_X10_87 hL_M26 s_1 rfl (Nat.le_of_ble_eq_true rfl) ⟨Nat.zero_le _, Nat.zero_le _⟩ d_X10_readArm_130 h (fun r33 M32 h => ?_)
      have hL_M32 : Lay c M32 := hL_M26.to h.1
      replace h := h.2
      refine tw_goto 137 d_X10_readArm_133 (by decide) ?_
      refine tu_putI f_X10_116 hL_M32 hs2 rfl rfl d_X10_readArm_137 (fun M34 e_M34 hL_M34 => ?_)
      replace h := h M34 e_M34
      refine tw_aload_n 1 d_X10_readArm_140 rfl rfl ?_
      refine tw_bipush d_X10_readArm_141 kb_59 ?_
      refine tu_cVv (As := [.int 59]) cv_X10_119 hL_M34 s_1 rfl (Nat.le_of_ble_eq_true rfl) ⟨Nat.zero_le _, Nat.zero_le _⟩ d_X10_readArm_143 h (fun M35 h => ?_)
      have hL_M35 : Lay c M35 := hL_M34.to h.1
      replace h := h.2
      refine tw_aload_n 2 d_X10_readArm_146 rfl rfl ?_
      refine tw_dup d_X10_readArm_147 rfl ?_
      refine tw_getI f_X10_21 hL_M35 ho1 (Or.inl rfl) d_X10_readArm_148 ?_
      refine tw_iconst d_X10_readArm_151 k_1 ?_
      refine tw_iadd d_X10_readArm_152 ?_
      refine tu_putI f_X10_21 hL_M35 ho1 rfl rfl d_X10_readArm_153 (fun M36 e_M36 hL_M36 => ?_)
      replace h := h M36 e_M36
      exact tw_vret rfl ⟨Nat.zero_le _, Nat.zero_le _⟩ d_X10_readArm_156 h
  · replace h := h.2 z1
    refine tw_aload_n 0 d_X10_readArm_9 rfl rfl ?_
    refine tw_iconst d_X10_readArm_10 k_5 ?_
    refine tu_cVv (As := [.int 5]) cv_X10_56 hL s_1 rfl (Nat.le_of_ble_eq_true rfl) ⟨Nat.zero_le _, Nat.zero_le _⟩ d_X10_readArm_11 h (fun M37 h => ?_)
    have hL_M37 : Lay c M37 := hL.to h.1
    replace h := h.2
    exact tw_vret rfl ⟨Nat.zero_le _, Nat.zero_le _⟩ d_X10_readArm_14 h

theorem d_X10_readChart_0 : decode Y_X10_readChart.cc 0 = .ok (.aload_n 1, 1) := by decide +kernel
theorem d_X10_readChart_1 : decode Y_X10_readChart.cc 1 = .ok (.getfield 26, 3) := by decide +kernel
theorem d_X10_readChart_4 : decode Y_X10_readChart.cc 4 = .ok (.bipush 7, 2) := by decide +kernel
theorem d_X10_readChart_6 : decode Y_X10_readChart.cc 6 = .ok (.if_icmp .lt 9, 3) := by decide +kernel
theorem d_X10_readChart_9 : decode Y_X10_readChart.cc 9 = .ok (.aload_n 0, 1) := by decide +kernel
theorem d_X10_readChart_10 : decode Y_X10_readChart.cc 10 = .ok (.iconst 5, 1) := by decide +kernel
theorem d_X10_readChart_11 : decode Y_X10_readChart.cc 11 = .ok (.invokevirtual 56, 3) := by decide +kernel
theorem d_X10_readChart_14 : decode Y_X10_readChart.cc 14 = .ok (.return_, 1) := by decide +kernel
theorem d_X10_readChart_15 : decode Y_X10_readChart.cc 15 = .ok (.aload_n 1, 1) := by decide +kernel
theorem d_X10_readChart_16 : decode Y_X10_readChart.cc 16 = .ok (.getfield 123, 3) := by decide +kernel
theorem d_X10_readChart_19 : decode Y_X10_readChart.cc 19 = .ok (.aload_n 1, 1) := by decide +kernel
theorem d_X10_readChart_20 : decode Y_X10_readChart.cc 20 = .ok (.getfield 26, 3) := by decide +kernel
theorem d_X10_readChart_23 : decode Y_X10_readChart.cc 23 = .ok (.aaload, 1) := by decide +kernel
theorem d_X10_readChart_24 : decode Y_X10_readChart.cc 24 = .ok (.astore_n 2, 1) := by decide +kernel
theorem d_X10_readChart_25 : decode Y_X10_readChart.cc 25 = .ok (.aload_n 0, 1) := by decide +kernel
theorem d_X10_readChart_26 : decode Y_X10_readChart.cc 26 = .ok (.invokevirtual 35, 3) := by decide +kernel
theorem d_X10_readChart_29 : decode Y_X10_readChart.cc 29 = .ok (.aload_n 2, 1) := by decide +kernel
theorem d_X10_readChart_30 : decode Y_X10_readChart.cc 30 = .ok (.aload_n 0, 1) := by decide +kernel
theorem d_X10_readChart_31 : decode Y_X10_readChart.cc 31 = .ok (.aload_n 1, 1) := by decide +kernel
theorem d_X10_readChart_32 : decode Y_X10_readChart.cc 32 = .ok (.invokevirtual 64, 3) := by decide +kernel
theorem d_X10_readChart_35 : decode Y_X10_readChart.cc 35 = .ok (.putfield 127, 3) := by decide +kernel
theorem d_X10_readChart_38 : decode Y_X10_readChart.cc 38 = .ok (.aload_n 2, 1) := by decide +kernel
theorem d_X10_readChart_39 : decode Y_X10_readChart.cc 39 = .ok (.aload_n 0, 1) := by decide +kernel
theorem d_X10_readChart_40 : decode Y_X10_readChart.cc 40 = .ok (.ldc 130, 2) := by decide +kernel
theorem d_X10_readChart_42 : decode Y_X10_readChart.cc 42 = .ok (.iconst 1, 1) := by decide +kernel
theorem d_X10_readChart_43 : decode Y_X10_readChart.cc 43 = .ok (.bipush 9, 2) := by decide +kernel
theorem d_X10_readChart_45 : decode Y_X10_readChart.cc 45 = .ok (.invokevirtual 87, 3) := by decide +kernel
theorem d_X10_readChart_48 : decode Y_X10_readChart.cc 48 = .ok (.putfield 132, 3) := by decide +kernel
theorem d_X10_readChart_51 : decode Y_X10_readChart.cc 51 = .ok (.aload_n 2, 1) := by decide +kernel
theorem d_X10_readChart_52 : decode Y_X10_readChart.cc 52 = .ok (.aload_n 0, 1) := by decide +kernel
theorem d_X10_readChart_53 : decode Y_X10_readChart.cc 53 = .ok (.ldc 135, 2) := by decide +kernel
theorem d_X10_readChart_55 : decode Y_X10_readChart.cc 55 = .ok (.iconst 1, 1) := by decide +kernel
theorem d_X10_readChart_56 : decode Y_X10_readChart.cc 56 = .ok (.bipush 9, 2) := by decide +kernel
theorem d_X10_readChart_58 : decode Y_X10_readChart.cc 58 = .ok (.invokevirtual 87, 3) := by decide +kernel
theorem d_X10_readChart_61 : decode Y_X10_readChart.cc 61 = .ok (.putfield 137, 3) := by decide +kernel
theorem d_X10_readChart_64 : decode Y_X10_readChart.cc 64 = .ok (.aload_n 2, 1) := by decide +kernel
theorem d_X10_readChart_65 : decode Y_X10_readChart.cc 65 = .ok (.aload_n 0, 1) := by decide +kernel
theorem d_X10_readChart_66 : decode Y_X10_readChart.cc 66 = .ok (.ldc 140, 2) := by decide +kernel
theorem d_X10_readChart_68 : decode Y_X10_readChart.cc 68 = .ok (.iconst 0, 1) := by decide +kernel
theorem d_X10_readChart_69 : decode Y_X10_readChart.cc 69 = .ok (.sipush 255, 3) := by decide +kernel
theorem d_X10_readChart_72 : decode Y_X10_readChart.cc 72 = .ok (.invokevirtual 87, 3) := by decide +kernel
theorem d_X10_readChart_75 : decode Y_X10_readChart.cc 75 = .ok (.putfield 142, 3) := by decide +kernel
theorem d_X10_readChart_78 : decode Y_X10_readChart.cc 78 = .ok (.aload_n 0, 1) := by decide +kernel
theorem d_X10_readChart_79 : decode Y_X10_readChart.cc 79 = .ok (.aload_n 2, 1) := by decide +kernel
theorem d_X10_readChart_80 : decode Y_X10_readChart.cc 80 = .ok (.invokevirtual 144, 3) := by decide +kernel
theorem d_X10_readChart_83 : decode Y_X10_readChart.cc 83 = .ok (.aload_n 0, 1) := by decide +kernel
theorem d_X10_readChart_84 : decode Y_X10_readChart.cc 84 = .ok (.bipush 59, 2) := by decide +kernel
theorem d_X10_readChart_86 : decode Y_X10_readChart.cc 86 = .ok (.invokevirtual 119, 3) := by decide +kernel
theorem d_X10_readChart_89 : decode Y_X10_readChart.cc 89 = .ok (.aload_n 1, 1) := by decide +kernel
theorem d_X10_readChart_90 : decode Y_X10_readChart.cc 90 = .ok (.dup, 1) := by decide +kernel
theorem d_X10_readChart_91 : decode Y_X10_readChart.cc 91 = .ok (.getfield 26, 3) := by decide +kernel
theorem d_X10_readChart_94 : decode Y_X10_readChart.cc 94 = .ok (.iconst 1, 1) := by decide +kernel
theorem d_X10_readChart_95 : decode Y_X10_readChart.cc 95 = .ok (.iadd, 1) := by decide +kernel
theorem d_X10_readChart_96 : decode Y_X10_readChart.cc 96 = .ok (.putfield 26, 3) := by decide +kernel
theorem d_X10_readChart_99 : decode Y_X10_readChart.cc 99 = .ok (.return_, 1) := by decide +kernel
theorem b_X10_readChart {G : MG} {d : Nat} {Q : Mm → Prop} {o1 : Nat} {M : Mm} {c : Nat} (hL : Lay c M) (hx_s130_8 : ∀ U, G.X U → vk_R RX10 130 "size" (G.ad 8) U) (hx_s135_9 : ∀ U, G.X U → vk_R RX10 135 "to" (G.ad 9) U) (hx_s140_10 : ∀ U, G.X U → vk_R RX10 140 "slips" (G.ad 10) U) (ho1 : sh o1 = some (.inr 5)) (h : (((M.1 o1 3) < 7 → (vp_in (M.1 o1 3) 7 ∧ (C G Y_X10_advance d [.ref (G.b + 1)] M (Rv fun M3 => M3.2.2 = M.2.2 ∧ (C G Y_X10_readName d [.ref (G.b + 1), .ref (G.b + o1)] M3 (Rj fun r5 M4 => M4.2.2 = M3.2.2 ∧ (∀ M6 : Mm, M6 = sJ M4 ((o1 + 2) + 13 + 3 * (M.1 o1 3).toNatClampNeg) 0 r5 → (C G Y_X10_readNumberBehind d [.ref (G.b + 1), .ref (G.ad 8), .int 1, .int 9] M6 (Ri fun r8 M7 => M7.2.2 = M6.2.2 ∧ (∀ M9 : Mm, M9 = sI M7 ((o1 + 2) + 13 + 3 * (M.1 o1 3).toNatClampNeg) 1 r8 → (C G Y_X10_readNumberBehind d [.ref (G.b + 1), .ref (G.ad 9), .int 1, .int 9] M9 (Ri fun r11 M10 => M10.2.2 = M9.2.2 ∧ (∀ M12 : Mm, M12 = sI M10 ((o1 + 2) + 13 + 3 * (M.1 o1 3).toNatClampNeg) 2 r11 → (C G Y_X10_readNumberBehind d [.ref (G.b + 1), .ref (G.ad 10), .int 0, .int 255] M12 (Ri fun r14 M13 => M13.2.2 = M12.2.2 ∧ (∀ M15 : Mm, M15 = sI M13 ((o1 + 2) + 13 + 3 * (M.1 o1 3).toNatClampNeg) 3 r14 → (C G Y_X10_readPoints d [.ref (G.b + 1), .ref (G.b + ((o1 + 2) + 13 + 3 * (M.1 o1 3).toNatClampNeg))] M15 (Rv fun M16 => M16.2.2 = M15.2.2 ∧ (C G Y_X10_skipSign d [.ref (G.b + 1), .int 59] M16 (Rv fun M17 => M17.2.2 = M16.2.2 ∧ (∀ M18 : Mm, M18 = sI M17 o1 3 ((M17.1 o1 3) + 1) → Q M18))))))))))))))))))))) ∧ (¬ (M.1 o1 3) < 7 → (C G Y_X10_fail d [.ref (G.b + 1), .int 5] M (Rv fun M19 => M19.2.2 = M.2.2 ∧ Q M19))))) : C G Y_X10_readChart (d + 1) [.ref (G.b + 1), .ref (G.b + o1)] M (Rv Q) := by
  refine C.of (by decide) (Nat.le_of_ble_eq_true rfl) (lv := [(0, .ref (G.b + 1)), (1, .ref (G.b + o1))]) rfl ?_
  refine tw_aload_n 1 d_X10_readChart_0 rfl rfl ?_
  refine tw_getI f_X10_26 hL ho1 (Or.inl rfl) d_X10_readChart_1 ?_
  refine tw_bipush d_X10_readChart_4 kb_7 ?_
  refine tw_icmp_lt 15 d_X10_readChart_6 (by decide) (fun z1 => ?_) (fun z1 => ?_)
  · replace h := h.1 z1
    refine tw_aload_n 1 d_X10_readChart_15 rfl rfl ?_
    refine tw_getR f_X10_123 hL ho1 ⟨rfl, rfl⟩ (rr_X5_1 ho1) d_X10_readChart_16 ?_
    refine tw_aload_n 1 d_X10_readChart_19 rfl rfl ?_
    refine tw_getI f_X10_26 hL ho1 (Or.inl rfl) d_X10_readChart_20 ?_
    have hin := h.1
    refine tw_aald hL (sr_X5_1 ho1) (by decide) (re_5 (sr_X5_1 ho1)) d_X10_readChart_23 h.1 ?_
    have hs2 := se_5 (sr_X5_1 ho1) (vp_lt h.1)
    replace h := h.2
    refine tw_astore_n [(2, .ref (G.b + ((o1 + 2) + 13 + 3 * (M.1 o1 3).toNatClampNeg))), (0, .ref (G.b + 1)), (1, .ref (G.b + o1))] d_X10_readChart_24 rfl (Nat.le_of_ble_eq_true rfl) rfl ?_
    refine tw_aload_n 1 d_X10_readChart_25 rfl rfl ?_
    refine tu_cVv (As := []) cv_X10_35 hL s_1 rfl (Nat.le_of_ble_eq_true rfl) ⟨Nat.zero_le _, Nat.zero_le _⟩ d_X10_readChart_26 h (fun M3 h => ?_)
    have hL_M3 : Lay c M3 := hL.to h.1
    replace h := h.2
    refine tw_aload_n 0 d_X10_readChart_29 rfl rfl ?_
    refine tw_aload_n 1 d_X10_readChart_30 rfl rfl ?_
    refine tw_aload_n 2 d_X10_readChart_31 rfl rfl ?_
    refine tu_cVJ (As := [.ref (G.b + o1)]) cv_X10_64 hL_M3 s_1 rfl (Nat.le_of_ble_eq_true rfl) ⟨Nat.zero_le _, Nat.zero_le _⟩ d_X10_readChart_32 h (fun r5 M4 h => ?_)
    have hL_M4 : Lay c M4 := hL_M3.to h.1
    replace h := h.2
    refine tu_putJ f_X10_127 hL_M4 hs2 rfl rfl d_X10_readChart_35 (fun M6 e_M6 hL_M6 => ?_)
    replace h := h M6 e_M6
    refine tw_aload_n 0 d_X10_readChart_38 rfl rfl ?_
    refine tw_aload_n 1 d_X10_readChart_39 rfl rfl ?_
    refine tw_ldcS hx_s130_8 d_X10_readChart_40 ?_
    refine tw_iconst d_X10_readChart_42 k_1 ?_
    refine tw_bipush d_X10_readChart_43 kb_9 ?_
    refine tu_cVi (As := [.ref (G.ad 8), .int 1, .int 9]) cv_X10_87 hL_M6 s_1 rfl (Nat.le_of_ble_eq_true rfl) ⟨Nat.zero_le _, Nat.zero_le _⟩ d_X10_readChart_45 h (fun r8 M7 h => ?_)
    have hL_M7 : Lay c M7 := hL_M6.to h.1
    replace h := h.2
    refine tu_putI f_X10_132 hL_M7 hs2 rfl rfl d_X10_readChart_48 (fun M9 e_M9 hL_M9 => ?_)
    replace h := h M9 e_M9
    refine tw_aload_n 0 d_X10_readChart_51 rfl rfl ?_
    refine tw_aload_n 1 d_X10_readChart_52 rfl rfl ?_
    refine tw_ldcS hx_s135_9 d_X10_readChart_53 ?_
    refine tw_iconst d_X10_readChart_55 k_1 ?_
    refine tw_bipush d_X10_readChart_56 kb_9 ?_
    refine tu_cVi (As := [.ref (G.ad 9), .int 1, .int 9]) cv_X10_87 hL_M9 s_1 rfl (Nat.le_of_ble_eq_true rfl) ⟨Nat.zero_le _, Nat.zero_le _⟩ d_X10_readChart_58 h (fun r11 M10 h => ?_)
    have hL_M10 : Lay c M10 := hL_M9.to h.1
    replace h := h.2
    refine tu_putI f_X10_137 hL_M10 hs2 rfl rfl d_X10_readChart_61 (fun M12 e_M12 hL_M12 => ?_)
    replace h := h M12 e_M12
    refine tw_aload_n 0 d_X10_readChart_64 rfl rfl ?_
    refine tw_aload_n 1 d_X10_readChart_65 rfl rfl ?_
    refine tw_ldcS hx_s140_10 d_X10_readChart_66 ?_
    refine tw_iconst d_X10_readChart_68 k_0 ?_
    refine tw_sipush d_X10_readChart_69 ks_255 ?_
    refine tu_cVi (As := [.ref (G.ad 10), .int 0, .int 255]) cv_X10_87 hL_M12 s_1 rfl (Nat.le_of_ble_eq_true rfl) ⟨Nat.zero_le _, Nat.zero_le _⟩ d_X10_readChart_72 h (fun r14 M13 h => ?_)
    have hL_M13 : Lay c M13 := hL_M12.to h.1
    replace h := h.2
    refine tu_putI f_X10_142 hL_M13 hs2 rfl rfl d_X10_readChart_75 (fun M15 e_M15 hL_M15 => ?_)
    replace h := h M15 e_M15
    refine tw_aload_n 1 d_X10_readChart_78 rfl rfl ?_
    refine tw_aload_n 0 d_X10_readChart_79 rfl rfl ?_
    refine tu_cVv (As := [.ref (G.b + ((o1 + 2) + 13 + 3 * (M.1 o1 3).toNatClampNeg))]) cv_X10_144 hL_M15 s_1 rfl (Nat.le_of_ble_eq_true rfl) ⟨Nat.zero_le _, Nat.zero_le _⟩ d_X10_readChart_80 h (fun M16 h => ?_)
    have hL_M16 : Lay c M16 := hL_M15.to h.1
    replace h := h.2
    refine tw_aload_n 1 d_X10_readChart_83 rfl rfl ?_
    refine tw_bipush d_X10_readChart_84 kb_59 ?_
    refine tu_cVv (As := [.int 59]) cv_X10_119 hL_M16 s_1 rfl (Nat.le_of_ble_eq_true rfl) ⟨Nat.zero_le _, Nat.zero_le _⟩ d_X10_readChart_86 h (fun M17 h => ?_)
    have hL_M17 : Lay c M17 := hL_M16.to h.1
    replace h := h.2
    refine tw_aload_n 2 d_X10_readChart_89 rfl rfl ?_
    refine tw_dup d_X10_readChart_90 rfl ?_
    refine tw_getI f_X10_26 hL_M17 ho1 (Or.inl rfl) d_X10_readChart_91 ?_
    refine tw_iconst d_X10_readChart_94 k_1 ?_
    refine tw_iadd d_X10_readChart_95 ?_
    refine tu_putI f_X10_26 hL_M17 ho1 rfl rfl d_X10_readChart_96 (fun M18 e_M18 hL_M18 => ?_)
    replace h := h M18 e_M18
    exact tw_vret rfl ⟨Nat.zero_le _, Nat.zero_le _⟩ d_X10_readChart_99 h
  · replace h := h.2 z1
    refine tw_aload_n 0 d_X10_readChart_9 rfl rfl ?_
    refine tw_iconst d_X10_readChart_10 k_5 ?_
    refine tu_cVv (As := [.int 5]) cv_X10_56 hL s_1 rfl (Nat.le_of_ble_eq_true rfl) ⟨Nat.zero_le _, Nat.zero_le _⟩ d_X10_readChart_11 h (fun M19 h => ?_)
    have hL_M19 : Lay c M19 := hL.to h.1
    replace h := h.2
    exact tw_vret rfl ⟨Nat.zero_le _, Nat.zero_le _⟩ d_X10_readChart_14 h

theorem d_X10_readName_0 : decode Y_X10_readName.cc 0 = .ok (.aload_n 0, 1) := by decide +kernel
theorem d_X10_readName_1 : decode Y_X10_readName.cc 1 = .ok (.getfield 29, 3) := by decide +kernel
theorem d_X10_readName_4 : decode Y_X10_readName.cc 4 = .ok (.ifCond .eq 5, 3) := by decide +kernel
theorem d_X10_readName_7 : decode Y_X10_readName.cc 7 = .ok (.lconst 0, 1) := by decide +kernel
theorem d_X10_readName_8 : decode Y_X10_readName.cc 8 = .ok (.lreturn, 1) := by decide +kernel
theorem d_X10_readName_9 : decode Y_X10_readName.cc 9 = .ok (.aload_n 0, 1) := by decide +kernel
theorem d_X10_readName_10 : decode Y_X10_readName.cc 10 = .ok (.getfield 38, 3) := by decide +kernel
theorem d_X10_readName_13 : decode Y_X10_readName.cc 13 = .ok (.iconst 1, 1) := by decide +kernel
theorem d_X10_readName_14 : decode Y_X10_readName.cc 14 = .ok (.if_icmp .ne 18, 3) := by decide +kernel
theorem d_X10_readName_17 : decode Y_X10_readName.cc 17 = .ok (.aload_n 0, 1) := by decide +kernel
theorem d_X10_readName_18 : decode Y_X10_readName.cc 18 = .ok (.invokevirtual 148, 3) := by decide +kernel
theorem d_X10_readName_21 : decode Y_X10_readName.cc 21 = .ok (.ifCond .ne 11, 3) := by decide +kernel
theorem d_X10_readName_24 : decode Y_X10_readName.cc 24 = .ok (.aload_n 0, 1) := by decide +kernel
theorem d_X10_readName_25 : decode Y_X10_readName.cc 25 = .ok (.invokevirtual 152, 3) := by decide +kernel
theorem d_X10_readName_28 : decode Y_X10_readName.cc 28 = .ok (.iconst (-1), 1) := by decide +kernel
theorem d_X10_readName_29 : decode Y_X10_readName.cc 29 = .ok (.if_icmp .eq 10, 3) := by decide +kernel
theorem d_X10_readName_32 : decode Y_X10_readName.cc 32 = .ok (.aload_n 0, 1) := by decide +kernel
theorem d_X10_readName_33 : decode Y_X10_readName.cc 33 = .ok (.iconst 1, 1) := by decide +kernel
theorem d_X10_readName_34 : decode Y_X10_readName.cc 34 = .ok (.invokevirtual 56, 3) := by decide +kernel
theorem d_X10_readName_37 : decode Y_X10_readName.cc 37 = .ok (.lconst 0, 1) := by decide +kernel
theorem d_X10_readName_38 : decode Y_X10_readName.cc 38 = .ok (.lreturn, 1) := by decide +kernel
theorem d_X10_readName_39 : decode Y_X10_readName.cc 39 = .ok (.aload_n 1, 1) := by decide +kernel
theorem d_X10_readName_40 : decode Y_X10_readName.cc 40 = .ok (.aload_n 0, 1) := by decide +kernel
theorem d_X10_readName_41 : decode Y_X10_readName.cc 41 = .ok (.getfield 155, 3) := by decide +kernel
theorem d_X10_readName_44 : decode Y_X10_readName.cc 44 = .ok (.invokevirtual 158, 3) := by decide +kernel
theorem d_X10_readName_47 : decode Y_X10_readName.cc 47 = .ok (.ifCond .eq 10, 3) := by decide +kernel
theorem d_X10_readName_50 : decode Y_X10_readName.cc 50 = .ok (.aload_n 0, 1) := by decide +kernel
theorem d_X10_readName_51 : decode Y_X10_readName.cc 51 = .ok (.iconst 3, 1) := by decide +kernel
theorem d_X10_readName_52 : decode Y_X10_readName.cc 52 = .ok (.invokevirtual 56, 3) := by decide +kernel
theorem d_X10_readName_55 : decode Y_X10_readName.cc 55 = .ok (.lconst 0, 1) := by decide +kernel
theorem d_X10_readName_56 : decode Y_X10_readName.cc 56 = .ok (.lreturn, 1) := by decide +kernel
theorem d_X10_readName_57 : decode Y_X10_readName.cc 57 = .ok (.aload_n 0, 1) := by decide +kernel
theorem d_X10_readName_58 : decode Y_X10_readName.cc 58 = .ok (.getfield 155, 3) := by decide +kernel
theorem d_X10_readName_61 : decode Y_X10_readName.cc 61 = .ok (.lstore_n 2, 1) := by decide +kernel
theorem d_X10_readName_62 : decode Y_X10_readName.cc 62 = .ok (.aload_n 0, 1) := by decide +kernel
theorem d_X10_readName_63 : decode Y_X10_readName.cc 63 = .ok (.invokevirtual 35, 3) := by decide +kernel
theorem d_X10_readName_66 : decode Y_X10_readName.cc 66 = .ok (.lload_n 2, 1) := by decide +kernel
theorem d_X10_readName_67 : decode Y_X10_readName.cc 67 = .ok (.lreturn, 1) := by decide +kernel
theorem b_X10_readName {G : MG} {d : Nat} {Q : Int64 → Mm → Prop} {o1 : Nat} {M : Mm} {c : Nat} (hL : Lay c M) (ho1 : sh o1 = some (.inr 5)) (h : (((M.1 1 6) = 0 → ((¬ (M.1 1 4) = 1 → (C G Y_X10_fail d [.ref (G.b + 1), .int 1] M (Rv fun M3 => M3.2.2 = M.2.2 ∧ Q 0 M3))) ∧ ((M.1 1 4) = 1 → (C G Y_X10_isReserved d [.ref (G.b + 1)] M (Ri fun r5 M4 => M4.2.2 = M.2.2 ∧ ((¬ r5 = 0 → (C G Y_X10_fail d [.ref (G.b + 1), .int 1] M4 (Rv fun M7 => M7.2.2 = M4.2.2 ∧ Q 0 M7))) ∧ (r5 = 0 → (C G Y_X10_kindHere d [.ref (G.b + 1)] M4 (Ri fun r9 M8 => M8.2.2 = M4.2.2 ∧ ((r9 = (-1) → (C G Y_X5_hasName d [.ref (G.b + o1), .long (M8.2.1 1 5)] M8 (Ri fun r12 M11 => M11.2.2 = M8.2.2 ∧ ((r12 = 0 → (C G Y_X10_advance d [.ref (G.b + 1)] M11 (Rv fun M14 => M14.2.2 = M11.2.2 ∧ Q (M11.2.1 1 5) M14))) ∧ (¬ r12 = 0 → (C G Y_X10_fail d [.ref (G.b + 1), .int 3] M11 (Rv fun M15 => M15.2.2 = M11.2.2 ∧ Q 0 M15))))))) ∧ (¬ r9 = (-1) → (C G Y_X10_fail d [.ref (G.b + 1), .int 1] M8 (Rv fun M16 => M16.2.2 = M8.2.2 ∧ Q 0 M16))))))))))))) ∧ (¬ (M.1 1 6) = 0 → Q 0 M))) : C G Y_X10_readName (d + 1) [.ref (G.b + 1), .ref (G.b + o1)] M (Rj Q) := by
  refine C.of (by decide) (Nat.le_of_ble_eq_true rfl) (lv := [(0, .ref (G.b + 1)), (1, .ref (G.b + o1))]) rfl ?_
  refine tw_aload_n 0 d_X10_readName_0 rfl rfl ?_
  refine tw_getI f_X10_29 hL s_1 (Or.inl rfl) d_X10_readName_1 ?_
  refine tw_if_eq 9 d_X10_readName_4 (by decide) (fun z1 => ?_) (fun z1 => ?_)
  · replace h := h.1 z1
    refine tw_aload_n 0 d_X10_readName_9 rfl rfl ?_
    refine tw_getI f_X10_38 hL s_1 (Or.inl rfl) d_X10_readName_10 ?_
    refine tw_iconst d_X10_readName_13 k_1 ?_
    refine tw_icmp_ne 32 d_X10_readName_14 (by decide) (fun z2 => ?_) (fun z2 => ?_)
    · replace h := h.1 z2
      refine tw_aload_n 0 d_X10_readName_32 rfl rfl ?_
      refine tw_iconst d_X10_readName_33 k_1 ?_
      refine tu_cVv (As := [.int 1]) cv_X10_56 hL s_1 rfl (Nat.le_of_ble_eq_true rfl) ⟨Nat.zero_le _, Nat.zero_le _⟩ d_X10_readName_34 h (fun M3 h => ?_)
      have hL_M3 : Lay c M3 := hL.to h.1
      replace h := h.2
      refine tw_lconst (v := 0) d_X10_readName_37 rfl ?_
      exact tw_lret rfl ⟨Nat.zero_le _, Nat.zero_le _⟩ d_X10_readName_38 h
    · replace h := h.2 z2
      refine tw_aload_n 0 d_X10_readName_17 rfl rfl ?_
      refine tu_cVi (As := []) cv_X10_148 hL s_1 rfl (Nat.le_of_ble_eq_true rfl) ⟨Nat.zero_le _, Nat.zero_le _⟩ d_X10_readName_18 h (fun r5 M4 h => ?_)
      have hL_M4 : Lay c M4 := hL.to h.1
      replace h := h.2
      refine tw_if_ne 32 d_X10_readName_21 (by decide) (fun z6 => ?_) (fun z6 => ?_)
      · replace h := h.1 z6
        refine tw_aload_n 0 d_X10_readName_32 rfl rfl ?_
        refine tw_iconst d_X10_readName_33 k_1 ?_
        refine tu_cVv (As := [.int 1]) cv_X10_56 hL_M4 s_1 rfl (Nat.le_of_ble_eq_true rfl) ⟨Nat.zero_le _, Nat.zero_le _⟩ d_X10_readName_34 h (fun M7 h => ?_)
        have hL_M7 : Lay c M7 := hL_M4.to h.1
        replace h := h.2
        refine tw_lconst (v := 0) d_X10_readName_37 rfl ?_
        exact tw_lret rfl ⟨Nat.zero_le _, Nat.zero_le _⟩ d_X10_readName_38 h
      · replace h := h.2 z6
        refine tw_aload_n 0 d_X10_readName_24 rfl rfl ?_
        refine tu_cVi (As := []) cv_X10_152 hL_M4 s_1 rfl (Nat.le_of_ble_eq_true rfl) ⟨Nat.zero_le _, Nat.zero_le _⟩ d_X10_readName_25 h (fun r9 M8 h => ?_)
        have hL_M8 : Lay c M8 := hL_M4.to h.1
        replace h := h.2
        refine tw_iconst d_X10_readName_28 k_m1 ?_
        refine tw_icmp_eq 39 d_X10_readName_29 (by decide) (fun z10 => ?_) (fun z10 => ?_)
        · replace h := h.1 z10
          refine tw_aload_n 1 d_X10_readName_39 rfl rfl ?_
          refine tw_aload_n 0 d_X10_readName_40 rfl rfl ?_
          refine tw_getJ f_X10_155 hL_M8 s_1 rfl d_X10_readName_41 ?_
          refine tu_cVi (As := [.long (M8.2.1 1 5)]) cv_X10_158 hL_M8 ho1 rfl (Nat.le_of_ble_eq_true rfl) ⟨Nat.zero_le _, Nat.zero_le _⟩ d_X10_readName_44 h (fun r12 M11 h => ?_)
          have hL_M11 : Lay c M11 := hL_M8.to h.1
          replace h := h.2
          refine tw_if_eq 57 d_X10_readName_47 (by decide) (fun z13 => ?_) (fun z13 => ?_)
          · replace h := h.1 z13
            refine tw_aload_n 0 d_X10_readName_57 rfl rfl ?_
            refine tw_getJ f_X10_155 hL_M11 s_1 rfl d_X10_readName_58 ?_
            refine tw_lstore_n [(2, .long (M11.2.1 1 5)), (0, .ref (G.b + 1)), (1, .ref (G.b + o1))] d_X10_readName_61 rfl (Nat.le_of_ble_eq_true rfl) rfl ?_
            refine tw_aload_n 1 d_X10_readName_62 rfl rfl ?_
            refine tu_cVv (As := []) cv_X10_35 hL_M11 s_1 rfl (Nat.le_of_ble_eq_true rfl) ⟨Nat.zero_le _, Nat.zero_le _⟩ d_X10_readName_63 h (fun M14 h => ?_)
            have hL_M14 : Lay c M14 := hL_M11.to h.1
            replace h := h.2
            refine tw_lload_n 0 d_X10_readName_66 rfl rfl ?_
            exact tw_lret rfl ⟨Nat.zero_le _, Nat.zero_le _⟩ d_X10_readName_67 h
          · replace h := h.2 z13
            refine tw_aload_n 0 d_X10_readName_50 rfl rfl ?_
            refine tw_iconst d_X10_readName_51 k_3 ?_
            refine tu_cVv (As := [.int 3]) cv_X10_56 hL_M11 s_1 rfl (Nat.le_of_ble_eq_true rfl) ⟨Nat.zero_le _, Nat.zero_le _⟩ d_X10_readName_52 h (fun M15 h => ?_)
            have hL_M15 : Lay c M15 := hL_M11.to h.1
            replace h := h.2
            refine tw_lconst (v := 0) d_X10_readName_55 rfl ?_
            exact tw_lret rfl ⟨Nat.zero_le _, Nat.zero_le _⟩ d_X10_readName_56 h
        · replace h := h.2 z10
          refine tw_aload_n 0 d_X10_readName_32 rfl rfl ?_
          refine tw_iconst d_X10_readName_33 k_1 ?_
          refine tu_cVv (As := [.int 1]) cv_X10_56 hL_M8 s_1 rfl (Nat.le_of_ble_eq_true rfl) ⟨Nat.zero_le _, Nat.zero_le _⟩ d_X10_readName_34 h (fun M16 h => ?_)
          have hL_M16 : Lay c M16 := hL_M8.to h.1
          replace h := h.2
          refine tw_lconst (v := 0) d_X10_readName_37 rfl ?_
          exact tw_lret rfl ⟨Nat.zero_le _, Nat.zero_le _⟩ d_X10_readName_38 h
  · replace h := h.2 z1
    refine tw_lconst (v := 0) d_X10_readName_7 rfl ?_
    exact tw_lret rfl ⟨Nat.zero_le _, Nat.zero_le _⟩ d_X10_readName_8 h

theorem d_X10_readKind_0 : decode Y_X10_readKind.cc 0 = .ok (.aload_n 0, 1) := by decide +kernel
theorem d_X10_readKind_1 : decode Y_X10_readKind.cc 1 = .ok (.getfield 29, 3) := by decide +kernel
theorem d_X10_readKind_4 : decode Y_X10_readKind.cc 4 = .ok (.ifCond .eq 5, 3) := by decide +kernel
theorem d_X10_readKind_7 : decode Y_X10_readKind.cc 7 = .ok (.iconst 0, 1) := by decide +kernel
theorem d_X10_readKind_8 : decode Y_X10_readKind.cc 8 = .ok (.ireturn, 1) := by decide +kernel
theorem d_X10_readKind_9 : decode Y_X10_readKind.cc 9 = .ok (.aload_n 0, 1) := by decide +kernel
theorem d_X10_readKind_10 : decode Y_X10_readKind.cc 10 = .ok (.invokevirtual 152, 3) := by decide +kernel
theorem d_X10_readKind_13 : decode Y_X10_readKind.cc 13 = .ok (.istore_n 1, 1) := by decide +kernel
theorem d_X10_readKind_14 : decode Y_X10_readKind.cc 14 = .ok (.iload_n 1, 1) := by decide +kernel
theorem d_X10_readKind_15 : decode Y_X10_readKind.cc 15 = .ok (.iconst (-1), 1) := by decide +kernel
theorem d_X10_readKind_16 : decode Y_X10_readKind.cc 16 = .ok (.if_icmp .ne 10, 3) := by decide +kernel
theorem d_X10_readKind_19 : decode Y_X10_readKind.cc 19 = .ok (.aload_n 0, 1) := by decide +kernel
theorem d_X10_readKind_20 : decode Y_X10_readKind.cc 20 = .ok (.iconst 1, 1) := by decide +kernel
theorem d_X10_readKind_21 : decode Y_X10_readKind.cc 21 = .ok (.invokevirtual 56, 3) := by decide +kernel
theorem d_X10_readKind_24 : decode Y_X10_readKind.cc 24 = .ok (.iconst 0, 1) := by decide +kernel
theorem d_X10_readKind_25 : decode Y_X10_readKind.cc 25 = .ok (.ireturn, 1) := by decide +kernel
theorem d_X10_readKind_26 : decode Y_X10_readKind.cc 26 = .ok (.aload_n 0, 1) := by decide +kernel
theorem d_X10_readKind_27 : decode Y_X10_readKind.cc 27 = .ok (.invokevirtual 35, 3) := by decide +kernel
theorem d_X10_readKind_30 : decode Y_X10_readKind.cc 30 = .ok (.iload_n 1, 1) := by decide +kernel
theorem d_X10_readKind_31 : decode Y_X10_readKind.cc 31 = .ok (.ireturn, 1) := by decide +kernel
theorem b_X10_readKind {G : MG} {d : Nat} {Q : Int32 → Mm → Prop}  {M : Mm} {c : Nat} (hL : Lay c M)  (h : (((M.1 1 6) = 0 → (C G Y_X10_kindHere d [.ref (G.b + 1)] M (Ri fun r3 M2 => M2.2.2 = M.2.2 ∧ ((¬ r3 = (-1) → (C G Y_X10_advance d [.ref (G.b + 1)] M2 (Rv fun M5 => M5.2.2 = M2.2.2 ∧ Q r3 M5))) ∧ (r3 = (-1) → (C G Y_X10_fail d [.ref (G.b + 1), .int 1] M2 (Rv fun M6 => M6.2.2 = M2.2.2 ∧ Q 0 M6))))))) ∧ (¬ (M.1 1 6) = 0 → Q 0 M))) : C G Y_X10_readKind (d + 1) [.ref (G.b + 1)] M (Ri Q) := by
  refine C.of (by decide) (Nat.le_of_ble_eq_true rfl) (lv := [(0, .ref (G.b + 1))]) rfl ?_
  refine tw_aload_n 0 d_X10_readKind_0 rfl rfl ?_
  refine tw_getI f_X10_29 hL s_1 (Or.inl rfl) d_X10_readKind_1 ?_
  refine tw_if_eq 9 d_X10_readKind_4 (by decide) (fun z1 => ?_) (fun z1 => ?_)
  · replace h := h.1 z1
    refine tw_aload_n 0 d_X10_readKind_9 rfl rfl ?_
    refine tu_cVi (As := []) cv_X10_152 hL s_1 rfl (Nat.le_of_ble_eq_true rfl) ⟨Nat.zero_le _, Nat.zero_le _⟩ d_X10_readKind_10 h (fun r3 M2 h => ?_)
    have hL_M2 : Lay c M2 := hL.to h.1
    replace h := h.2
    refine tw_istore_n [(1, .int r3), (0, .ref (G.b + 1))] d_X10_readKind_13 rfl (Nat.le_of_ble_eq_true rfl) rfl ?_
    refine tw_iload_n 0 d_X10_readKind_14 rfl rfl ?_
    refine tw_iconst d_X10_readKind_15 k_m1 ?_
    refine tw_icmp_ne 26 d_X10_readKind_16 (by decide) (fun z4 => ?_) (fun z4 => ?_)
    · replace h := h.1 z4
      refine tw_aload_n 1 d_X10_readKind_26 rfl rfl ?_
      refine tu_cVv (As := []) cv_X10_35 hL_M2 s_1 rfl (Nat.le_of_ble_eq_true rfl) ⟨Nat.zero_le _, Nat.zero_le _⟩ d_X10_readKind_27 h (fun M5 h => ?_)
      have hL_M5 : Lay c M5 := hL_M2.to h.1
      replace h := h.2
      refine tw_iload_n 0 d_X10_readKind_30 rfl rfl ?_
      exact tw_iret rfl ⟨Nat.zero_le _, Nat.zero_le _⟩ d_X10_readKind_31 h
    · replace h := h.2 z4
      refine tw_aload_n 1 d_X10_readKind_19 rfl rfl ?_
      refine tw_iconst d_X10_readKind_20 k_1 ?_
      refine tu_cVv (As := [.int 1]) cv_X10_56 hL_M2 s_1 rfl (Nat.le_of_ble_eq_true rfl) ⟨Nat.zero_le _, Nat.zero_le _⟩ d_X10_readKind_21 h (fun M6 h => ?_)
      have hL_M6 : Lay c M6 := hL_M2.to h.1
      replace h := h.2
      refine tw_iconst d_X10_readKind_24 k_0 ?_
      exact tw_iret rfl ⟨Nat.zero_le _, Nat.zero_le _⟩ d_X10_readKind_25 h
  · replace h := h.2 z1
    refine tw_iconst d_X10_readKind_7 k_0 ?_
    exact tw_iret rfl ⟨Nat.zero_le _, Nat.zero_le _⟩ d_X10_readKind_8 h

theorem d_X10_readHoles_0 : decode Y_X10_readHoles.cc 0 = .ok (.aload_n 0, 1) := by decide +kernel
theorem d_X10_readHoles_1 : decode Y_X10_readHoles.cc 1 = .ok (.ldc 162, 2) := by decide +kernel
theorem d_X10_readHoles_3 : decode Y_X10_readHoles.cc 3 = .ok (.invokevirtual 164, 3) := by decide +kernel
theorem d_X10_readHoles_6 : decode Y_X10_readHoles.cc 6 = .ok (.aload_n 1, 1) := by decide +kernel
theorem d_X10_readHoles_7 : decode Y_X10_readHoles.cc 7 = .ok (.iconst 0, 1) := by decide +kernel
theorem d_X10_readHoles_8 : decode Y_X10_readHoles.cc 8 = .ok (.putfield 168, 3) := by decide +kernel
theorem d_X10_readHoles_11 : decode Y_X10_readHoles.cc 11 = .ok (.iconst 0, 1) := by decide +kernel
theorem d_X10_readHoles_12 : decode Y_X10_readHoles.cc 12 = .ok (.istore_n 2, 1) := by decide +kernel
theorem d_X10_readHoles_13 : decode Y_X10_readHoles.cc 13 = .ok (.iload_n 2, 1) := by decide +kernel
theorem d_X10_readHoles_14 : decode Y_X10_readHoles.cc 14 = .ok (.iconst 4, 1) := by decide +kernel
theorem d_X10_readHoles_15 : decode Y_X10_readHoles.cc 15 = .ok (.if_icmp .gt 130, 3) := by decide +kernel
theorem d_X10_readHoles_18 : decode Y_X10_readHoles.cc 18 = .ok (.aload_n 0, 1) := by decide +kernel
theorem d_X10_readHoles_19 : decode Y_X10_readHoles.cc 19 = .ok (.getfield 29, 3) := by decide +kernel
theorem d_X10_readHoles_22 : decode Y_X10_readHoles.cc 22 = .ok (.ifCond .ne 123, 3) := by decide +kernel
theorem d_X10_readHoles_25 : decode Y_X10_readHoles.cc 25 = .ok (.iload_n 2, 1) := by decide +kernel
theorem d_X10_readHoles_26 : decode Y_X10_readHoles.cc 26 = .ok (.iconst 2, 1) := by decide +kernel
theorem d_X10_readHoles_27 : decode Y_X10_readHoles.cc 27 = .ok (.if_icmp .lt 12, 3) := by decide +kernel
theorem d_X10_readHoles_30 : decode Y_X10_readHoles.cc 30 = .ok (.aload_n 0, 1) := by decide +kernel
theorem d_X10_readHoles_31 : decode Y_X10_readHoles.cc 31 = .ok (.getfield 38, 3) := by decide +kernel
theorem d_X10_readHoles_34 : decode Y_X10_readHoles.cc 34 = .ok (.iconst 2, 1) := by decide +kernel
theorem d_X10_readHoles_35 : decode Y_X10_readHoles.cc 35 = .ok (.if_icmp .eq 4, 3) := by decide +kernel
theorem d_X10_readHoles_38 : decode Y_X10_readHoles.cc 38 = .ok (.return_, 1) := by decide +kernel
theorem d_X10_readHoles_39 : decode Y_X10_readHoles.cc 39 = .ok (.aload_n 0, 1) := by decide +kernel
theorem d_X10_readHoles_40 : decode Y_X10_readHoles.cc 40 = .ok (.getfield 38, 3) := by decide +kernel
theorem d_X10_readHoles_43 : decode Y_X10_readHoles.cc 43 = .ok (.iconst 2, 1) := by decide +kernel
theorem d_X10_readHoles_44 : decode Y_X10_readHoles.cc 44 = .ok (.if_icmp .ne 22, 3) := by decide +kernel
theorem d_X10_readHoles_47 : decode Y_X10_readHoles.cc 47 = .ok (.aload_n 1, 1) := by decide +kernel
theorem d_X10_readHoles_48 : decode Y_X10_readHoles.cc 48 = .ok (.aload_n 0, 1) := by decide +kernel
theorem d_X10_readHoles_49 : decode Y_X10_readHoles.cc 49 = .ok (.getfield 155, 3) := by decide +kernel
theorem d_X10_readHoles_52 : decode Y_X10_readHoles.cc 52 = .ok (.invokevirtual 171, 3) := by decide +kernel
theorem d_X10_readHoles_55 : decode Y_X10_readHoles.cc 55 = .ok (.ifCond .eq 11, 3) := by decide +kernel
theorem d_X10_readHoles_58 : decode Y_X10_readHoles.cc 58 = .ok (.aload_n 0, 1) := by decide +kernel
theorem d_X10_readHoles_59 : decode Y_X10_readHoles.cc 59 = .ok (.iconst 3, 1) := by decide +kernel
theorem d_X10_readHoles_60 : decode Y_X10_readHoles.cc 60 = .ok (.invokevirtual 56, 3) := by decide +kernel
theorem d_X10_readHoles_63 : decode Y_X10_readHoles.cc 63 = .ok (.goto 33, 3) := by decide +kernel
theorem d_X10_readHoles_66 : decode Y_X10_readHoles.cc 66 = .ok (.iload_n 2, 1) := by decide +kernel
theorem d_X10_readHoles_67 : decode Y_X10_readHoles.cc 67 = .ok (.iconst 4, 1) := by decide +kernel
theorem d_X10_readHoles_68 : decode Y_X10_readHoles.cc 68 = .ok (.if_icmp .ne 28, 3) := by decide +kernel
theorem d_X10_readHoles_71 : decode Y_X10_readHoles.cc 71 = .ok (.aload_n 0, 1) := by decide +kernel
theorem d_X10_readHoles_72 : decode Y_X10_readHoles.cc 72 = .ok (.getfield 155, 3) := by decide +kernel
theorem d_X10_readHoles_75 : decode Y_X10_readHoles.cc 75 = .ok (.lconst 1, 1) := by decide +kernel
theorem d_X10_readHoles_76 : decode Y_X10_readHoles.cc 76 = .ok (.lcmp, 1) := by decide +kernel
theorem d_X10_readHoles_77 : decode Y_X10_readHoles.cc 77 = .ok (.ifCond .lt 19, 3) := by decide +kernel
theorem d_X10_readHoles_80 : decode Y_X10_readHoles.cc 80 = .ok (.aload_n 0, 1) := by decide +kernel
theorem d_X10_readHoles_81 : decode Y_X10_readHoles.cc 81 = .ok (.getfield 155, 3) := by decide +kernel
theorem d_X10_readHoles_84 : decode Y_X10_readHoles.cc 84 = .ok (.ldc2_w 174, 3) := by decide +kernel
theorem d_X10_readHoles_87 : decode Y_X10_readHoles.cc 87 = .ok (.lcmp, 1) := by decide +kernel
theorem d_X10_readHoles_88 : decode Y_X10_readHoles.cc 88 = .ok (.ifCond .gt 8, 3) := by decide +kernel
theorem d_X10_readHoles_91 : decode Y_X10_readHoles.cc 91 = .ok (.aload_n 0, 1) := by decide +kernel
theorem d_X10_readHoles_92 : decode Y_X10_readHoles.cc 92 = .ok (.iconst 5, 1) := by decide +kernel
theorem d_X10_readHoles_93 : decode Y_X10_readHoles.cc 93 = .ok (.invokevirtual 56, 3) := by decide +kernel
theorem d_X10_readHoles_96 : decode Y_X10_readHoles.cc 96 = .ok (.aload_n 0, 1) := by decide +kernel
theorem d_X10_readHoles_97 : decode Y_X10_readHoles.cc 97 = .ok (.iconst 1, 1) := by decide +kernel
theorem d_X10_readHoles_98 : decode Y_X10_readHoles.cc 98 = .ok (.bipush 9, 2) := by decide +kernel
theorem d_X10_readHoles_100 : decode Y_X10_readHoles.cc 100 = .ok (.invokevirtual 99, 3) := by decide +kernel
theorem d_X10_readHoles_103 : decode Y_X10_readHoles.cc 103 = .ok (.istore_n 3, 1) := by decide +kernel
theorem d_X10_readHoles_104 : decode Y_X10_readHoles.cc 104 = .ok (.aload_n 0, 1) := by decide +kernel
theorem d_X10_readHoles_105 : decode Y_X10_readHoles.cc 105 = .ok (.getfield 29, 3) := by decide +kernel
theorem d_X10_readHoles_108 : decode Y_X10_readHoles.cc 108 = .ok (.ifCond .ne 31, 3) := by decide +kernel
theorem d_X10_readHoles_111 : decode Y_X10_readHoles.cc 111 = .ok (.aload_n 1, 1) := by decide +kernel
theorem d_X10_readHoles_112 : decode Y_X10_readHoles.cc 112 = .ok (.getfield 168, 3) := by decide +kernel
theorem d_X10_readHoles_115 : decode Y_X10_readHoles.cc 115 = .ok (.iconst 4, 1) := by decide +kernel
theorem d_X10_readHoles_116 : decode Y_X10_readHoles.cc 116 = .ok (.if_icmp .ge 23, 3) := by decide +kernel
theorem d_X10_readHoles_119 : decode Y_X10_readHoles.cc 119 = .ok (.aload_n 1, 1) := by decide +kernel
theorem d_X10_readHoles_120 : decode Y_X10_readHoles.cc 120 = .ok (.getfield 176, 3) := by decide +kernel
theorem d_X10_readHoles_123 : decode Y_X10_readHoles.cc 123 = .ok (.aload_n 1, 1) := by decide +kernel
theorem d_X10_readHoles_124 : decode Y_X10_readHoles.cc 124 = .ok (.getfield 168, 3) := by decide +kernel
theorem d_X10_readHoles_127 : decode Y_X10_readHoles.cc 127 = .ok (.iload_n 3, 1) := by decide +kernel
theorem d_X10_readHoles_128 : decode Y_X10_readHoles.cc 128 = .ok (.iastore, 1) := by decide +kernel
theorem d_X10_readHoles_129 : decode Y_X10_readHoles.cc 129 = .ok (.aload_n 1, 1) := by decide +kernel
theorem d_X10_readHoles_130 : decode Y_X10_readHoles.cc 130 = .ok (.dup, 1) := by decide +kernel
theorem d_X10_readHoles_131 : decode Y_X10_readHoles.cc 131 = .ok (.getfield 168, 3) := by decide +kernel
theorem d_X10_readHoles_134 : decode Y_X10_readHoles.cc 134 = .ok (.iconst 1, 1) := by decide +kernel
theorem d_X10_readHoles_135 : decode Y_X10_readHoles.cc 135 = .ok (.iadd, 1) := by decide +kernel
theorem d_X10_readHoles_136 : decode Y_X10_readHoles.cc 136 = .ok (.putfield 168, 3) := by decide +kernel
theorem d_X10_readHoles_139 : decode Y_X10_readHoles.cc 139 = .ok (.iinc 2 1, 3) := by decide +kernel
theorem d_X10_readHoles_142 : decode Y_X10_readHoles.cc 142 = .ok (.goto (-129), 3) := by decide +kernel
theorem d_X10_readHoles_145 : decode Y_X10_readHoles.cc 145 = .ok (.return_, 1) := by decide +kernel
def L_X10_readHoles_13 (G : MG) (d : Nat) (Q : Mm → Prop) (o1 : Nat) (x2 : Int32) (M : Mm) : Prop := T G Y_X10_readHoles (d + 1) (Rv Q) 0 0 13 [(0, .ref (G.b + 1)), (1, .ref (G.b + o1)), (2, .int x2)] [] M
def L_X10_readHoles_66 (G : MG) (d : Nat) (Q : Mm → Prop) (o1 : Nat) (x2 : Int32) (M : Mm) : Prop := T G Y_X10_readHoles (d + 1) (Rv Q) 0 0 66 [(0, .ref (G.b + 1)), (1, .ref (G.b + o1)), (2, .int x2)] [] M
def L_X10_readHoles_96 (G : MG) (d : Nat) (Q : Mm → Prop) (o1 : Nat) (x2 : Int32) (M : Mm) : Prop := T G Y_X10_readHoles (d + 1) (Rv Q) 0 0 96 [(0, .ref (G.b + 1)), (1, .ref (G.b + o1)), (2, .int x2)] [] M
theorem b_X10_readHoles_13 {G : MG} {d : Nat} {Q : Mm → Prop} {o1 : Nat} {x2 : Int32} {M : Mm} {c : Nat} (hL : Lay c M) (hx_s162_1 : ∀ U, G.X U → vk_R RX10 162 "holes" (G.ad 1) U) (ho1 : sh o1 = some (.inr 1)) (h : ((4 < x2 → Q M) ∧ (¬ 4 < x2 → ((¬ (M.1 1 6) = 0 → Q M) ∧ ((M.1 1 6) = 0 → ((x2 < 2 → ((¬ (M.1 1 4) = 2 → L_X10_readHoles_66 G d Q o1 x2 M) ∧ ((M.1 1 4) = 2 → (C G Y_X1_hasHoleOf d [.ref (G.b + o1), .long (M.2.1 1 5)] M (Ri fun r6 M5 => M5.2.2 = M.2.2 ∧ ((r6 = 0 → L_X10_readHoles_66 G d Q o1 x2 M5) ∧ (¬ r6 = 0 → (C G Y_X10_fail d [.ref (G.b + 1), .int 3] M5 (Rv fun M8 => M8.2.2 = M5.2.2 ∧ L_X10_readHoles_96 G d Q o1 x2 M8))))))))) ∧ (¬ x2 < 2 → (((M.1 1 4) = 2 → ((¬ (M.1 1 4) = 2 → L_X10_readHoles_66 G d Q o1 x2 M) ∧ ((M.1 1 4) = 2 → (C G Y_X1_hasHoleOf d [.ref (G.b + o1), .long (M.2.1 1 5)] M (Ri fun r12 M11 => M11.2.2 = M.2.2 ∧ ((r12 = 0 → L_X10_readHoles_66 G d Q o1 x2 M11) ∧ (¬ r12 = 0 → (C G Y_X10_fail d [.ref (G.b + 1), .int 3] M11 (Rv fun M14 => M14.2.2 = M11.2.2 ∧ L_X10_readHoles_96 G d Q o1 x2 M14))))))))) ∧ (¬ (M.1 1 4) = 2 → Q M))))))))) : L_X10_readHoles_13 G d Q o1 x2 M := by
  unfold L_X10_readHoles_13
  refine tw_iload_n 2 d_X10_readHoles_13 rfl rfl ?_
  refine tw_iconst d_X10_readHoles_14 k_4 ?_
  refine tw_icmp_gt 145 d_X10_readHoles_15 (by decide) (fun z1 => ?_) (fun z1 => ?_)
  · replace h := h.1 z1
    exact tw_vret rfl ⟨Nat.zero_le _, Nat.zero_le _⟩ d_X10_readHoles_145 h
  · replace h := h.2 z1
    refine tw_aload_n 0 d_X10_readHoles_18 rfl rfl ?_
    refine tw_getI f_X10_29 hL s_1 (Or.inl rfl) d_X10_readHoles_19 ?_
    refine tw_if_ne 145 d_X10_readHoles_22 (by decide) (fun z2 => ?_) (fun z2 => ?_)
    · replace h := h.1 z2
      exact tw_vret rfl ⟨Nat.zero_le _, Nat.zero_le _⟩ d_X10_readHoles_145 h
    · replace h := h.2 z2
      refine tw_iload_n 2 d_X10_readHoles_25 rfl rfl ?_
      refine tw_iconst d_X10_readHoles_26 k_2 ?_
      refine tw_icmp_lt 39 d_X10_readHoles_27 (by decide) (fun z3 => ?_) (fun z3 => ?_)
      · replace h := h.1 z3
        refine tw_aload_n 0 d_X10_readHoles_39 rfl rfl ?_
        refine tw_getI f_X10_38 hL s_1 (Or.inl rfl) d_X10_readHoles_40 ?_
        refine tw_iconst d_X10_readHoles_43 k_2 ?_
        refine tw_icmp_ne 66 d_X10_readHoles_44 (by decide) (fun z4 => ?_) (fun z4 => ?_)
        · replace h := h.1 z4
          exact tw_lv [0, 1, 2] rfl h
        · replace h := h.2 z4
          refine tw_aload_n 1 d_X10_readHoles_47 rfl rfl ?_
          refine tw_aload_n 0 d_X10_readHoles_48 rfl rfl ?_
          refine tw_getJ f_X10_155 hL s_1 rfl d_X10_readHoles_49 ?_
          refine tu_cVi (As := [.long (M.2.1 1 5)]) cv_X10_171 hL ho1 rfl (Nat.le_of_ble_eq_true rfl) ⟨Nat.zero_le _, Nat.zero_le _⟩ d_X10_readHoles_52 h (fun r6 M5 h => ?_)
          have hL_M5 : Lay c M5 := hL.to h.1
          replace h := h.2
          refine tw_if_eq 66 d_X10_readHoles_55 (by decide) (fun z7 => ?_) (fun z7 => ?_)
          · replace h := h.1 z7
            exact tw_lv [0, 1, 2] rfl h
          · replace h := h.2 z7
            refine tw_aload_n 0 d_X10_readHoles_58 rfl rfl ?_
            refine tw_iconst d_X10_readHoles_59 k_3 ?_
            refine tu_cVv (As := [.int 3]) cv_X10_56 hL_M5 s_1 rfl (Nat.le_of_ble_eq_true rfl) ⟨Nat.zero_le _, Nat.zero_le _⟩ d_X10_readHoles_60 h (fun M8 h => ?_)
            have hL_M8 : Lay c M8 := hL_M5.to h.1
            replace h := h.2
            refine tw_goto 96 d_X10_readHoles_63 (by decide) ?_
            exact tw_lv [0, 1, 2] rfl h
      · replace h := h.2 z3
        refine tw_aload_n 0 d_X10_readHoles_30 rfl rfl ?_
        refine tw_getI f_X10_38 hL s_1 (Or.inl rfl) d_X10_readHoles_31 ?_
        refine tw_iconst d_X10_readHoles_34 k_2 ?_
        refine tw_icmp_eq 39 d_X10_readHoles_35 (by decide) (fun z9 => ?_) (fun z9 => ?_)
        · replace h := h.1 z9
          refine tw_aload_n 0 d_X10_readHoles_39 rfl rfl ?_
          refine tw_getI f_X10_38 hL s_1 (Or.inl rfl) d_X10_readHoles_40 ?_
          refine tw_iconst d_X10_readHoles_43 k_2 ?_
          refine tw_icmp_ne 66 d_X10_readHoles_44 (by decide) (fun z10 => ?_) (fun z10 => ?_)
          · replace h := h.1 z10
            exact tw_lv [0, 1, 2] rfl h
          · replace h := h.2 z10
            refine tw_aload_n 1 d_X10_readHoles_47 rfl rfl ?_
            refine tw_aload_n 0 d_X10_readHoles_48 rfl rfl ?_
            refine tw_getJ f_X10_155 hL s_1 rfl d_X10_readHoles_49 ?_
            refine tu_cVi (As := [.long (M.2.1 1 5)]) cv_X10_171 hL ho1 rfl (Nat.le_of_ble_eq_true rfl) ⟨Nat.zero_le _, Nat.zero_le _⟩ d_X10_readHoles_52 h (fun r12 M11 h => ?_)
            have hL_M11 : Lay c M11 := hL.to h.1
            replace h := h.2
            refine tw_if_eq 66 d_X10_readHoles_55 (by decide) (fun z13 => ?_) (fun z13 => ?_)
            · replace h := h.1 z13
              exact tw_lv [0, 1, 2] rfl h
            · replace h := h.2 z13
              refine tw_aload_n 0 d_X10_readHoles_58 rfl rfl ?_
              refine tw_iconst d_X10_readHoles_59 k_3 ?_
              refine tu_cVv (As := [.int 3]) cv_X10_56 hL_M11 s_1 rfl (Nat.le_of_ble_eq_true rfl) ⟨Nat.zero_le _, Nat.zero_le _⟩ d_X10_readHoles_60 h (fun M14 h => ?_)
              have hL_M14 : Lay c M14 := hL_M11.to h.1
              replace h := h.2
              refine tw_goto 96 d_X10_readHoles_63 (by decide) ?_
              exact tw_lv [0, 1, 2] rfl h
        · replace h := h.2 z9
          exact tw_vret rfl ⟨Nat.zero_le _, Nat.zero_le _⟩ d_X10_readHoles_38 h
theorem b_X10_readHoles_66 {G : MG} {d : Nat} {Q : Mm → Prop} {o1 : Nat} {x2 : Int32} {M : Mm} {c : Nat} (hL : Lay c M) (hx_s162_1 : ∀ U, G.X U → vk_R RX10 162 "holes" (G.ad 1) U) (ho1 : sh o1 = some (.inr 1)) (h : ((¬ x2 = 4 → L_X10_readHoles_96 G d Q o1 x2 M) ∧ (x2 = 4 → (((M.2.1 1 5) < 1 → L_X10_readHoles_96 G d Q o1 x2 M) ∧ (¬ (M.2.1 1 5) < 1 → ((9 < (M.2.1 1 5) → L_X10_readHoles_96 G d Q o1 x2 M) ∧ (¬ 9 < (M.2.1 1 5) → (C G Y_X10_fail d [.ref (G.b + 1), .int 5] M (Rv fun M4 => M4.2.2 = M.2.2 ∧ L_X10_readHoles_96 G d Q o1 x2 M4))))))))) : L_X10_readHoles_66 G d Q o1 x2 M := by
  unfold L_X10_readHoles_66
  refine tw_iload_n 2 d_X10_readHoles_66 rfl rfl ?_
  refine tw_iconst d_X10_readHoles_67 k_4 ?_
  refine tw_icmp_ne 96 d_X10_readHoles_68 (by decide) (fun z1 => ?_) (fun z1 => ?_)
  · replace h := h.1 z1
    exact tw_lv [0, 1, 2] rfl h
  · replace h := h.2 z1
    refine tw_aload_n 0 d_X10_readHoles_71 rfl rfl ?_
    refine tw_getJ f_X10_155 hL s_1 rfl d_X10_readHoles_72 ?_
    refine tw_lconst (v := 1) d_X10_readHoles_75 rfl ?_
    refine tw_lcmp_lt 96 d_X10_readHoles_76 d_X10_readHoles_77 (by decide) (fun z2 => ?_) (fun z2 => ?_)
    · replace h := h.1 z2
      exact tw_lv [0, 1, 2] rfl h
    · replace h := h.2 z2
      refine tw_aload_n 0 d_X10_readHoles_80 rfl rfl ?_
      refine tw_getJ f_X10_155 hL s_1 rfl d_X10_readHoles_81 ?_
      refine tw_ldc2 d_X10_readHoles_84 mg561 ?_
      refine tw_lcmp_gt 96 d_X10_readHoles_87 d_X10_readHoles_88 (by decide) (fun z3 => ?_) (fun z3 => ?_)
      · replace h := h.1 z3
        exact tw_lv [0, 1, 2] rfl h
      · replace h := h.2 z3
        refine tw_aload_n 0 d_X10_readHoles_91 rfl rfl ?_
        refine tw_iconst d_X10_readHoles_92 k_5 ?_
        refine tu_cVv (As := [.int 5]) cv_X10_56 hL s_1 rfl (Nat.le_of_ble_eq_true rfl) ⟨Nat.zero_le _, Nat.zero_le _⟩ d_X10_readHoles_93 h (fun M4 h => ?_)
        have hL_M4 : Lay c M4 := hL.to h.1
        replace h := h.2
        exact tw_lv [0, 1, 2] rfl h
theorem b_X10_readHoles_96 {G : MG} {d : Nat} {Q : Mm → Prop} {o1 : Nat} {x2 : Int32} {M : Mm} {c : Nat} (hL : Lay c M) (hx_s162_1 : ∀ U, G.X U → vk_R RX10 162 "holes" (G.ad 1) U) (ho1 : sh o1 = some (.inr 1)) (h : (C G Y_X10_readNumber d [.ref (G.b + 1), .int 1, .int 9] M (Ri fun r2 M1 => M1.2.2 = M.2.2 ∧ ((¬ (M1.1 1 6) = 0 → L_X10_readHoles_13 G d Q o1 (x2 + 1) M1) ∧ ((M1.1 1 6) = 0 → ((4 ≤ (M1.1 o1 3) → L_X10_readHoles_13 G d Q o1 (x2 + 1) M1) ∧ (¬ 4 ≤ (M1.1 o1 3) → (vp_in (M1.1 o1 3) 4 ∧ ∀ M5 : Mm, M5 = sI M1 (o1 + 1) (M1.1 o1 3).toNatClampNeg r2 → (∀ M6 : Mm, M6 = sI M5 o1 3 ((M5.1 o1 3) + 1) → L_X10_readHoles_13 G d Q o1 (x2 + 1) M6))))))))) : L_X10_readHoles_96 G d Q o1 x2 M := by
  unfold L_X10_readHoles_96
  refine tw_aload_n 0 d_X10_readHoles_96 rfl rfl ?_
  refine tw_iconst d_X10_readHoles_97 k_1 ?_
  refine tw_bipush d_X10_readHoles_98 kb_9 ?_
  refine tu_cVi (As := [.int 1, .int 9]) cv_X10_99 hL s_1 rfl (Nat.le_of_ble_eq_true rfl) ⟨Nat.zero_le _, Nat.zero_le _⟩ d_X10_readHoles_100 h (fun r2 M1 h => ?_)
  have hL_M1 : Lay c M1 := hL.to h.1
  replace h := h.2
  refine tw_istore_n [(3, .int r2), (0, .ref (G.b + 1)), (1, .ref (G.b + o1)), (2, .int x2)] d_X10_readHoles_103 rfl (Nat.le_of_ble_eq_true rfl) rfl ?_
  refine tw_aload_n 1 d_X10_readHoles_104 rfl rfl ?_
  refine tw_getI f_X10_29 hL_M1 s_1 (Or.inl rfl) d_X10_readHoles_105 ?_
  refine tw_if_ne 139 d_X10_readHoles_108 (by decide) (fun z3 => ?_) (fun z3 => ?_)
  · replace h := h.1 z3
    refine tw_iinc 3 [(2, .int (x2 + 1)), (3, .int r2), (0, .ref (G.b + 1)), (1, .ref (G.b + o1))] d_X10_readHoles_139 rfl rfl (Nat.le_of_ble_eq_true rfl) rfl ?_
    refine tw_goto 13 d_X10_readHoles_142 (by decide) ?_
    exact tw_lv [2, 3, 0] rfl h
  · replace h := h.2 z3
    refine tw_aload_n 2 d_X10_readHoles_111 rfl rfl ?_
    refine tw_getI f_X10_168 hL_M1 ho1 (Or.inl rfl) d_X10_readHoles_112 ?_
    refine tw_iconst d_X10_readHoles_115 k_4 ?_
    refine tw_icmp_ge 139 d_X10_readHoles_116 (by decide) (fun z4 => ?_) (fun z4 => ?_)
    · replace h := h.1 z4
      refine tw_iinc 3 [(2, .int (x2 + 1)), (3, .int r2), (0, .ref (G.b + 1)), (1, .ref (G.b + o1))] d_X10_readHoles_139 rfl rfl (Nat.le_of_ble_eq_true rfl) rfl ?_
      refine tw_goto 13 d_X10_readHoles_142 (by decide) ?_
      exact tw_lv [2, 3, 0] rfl h
    · replace h := h.2 z4
      refine tw_aload_n 2 d_X10_readHoles_119 rfl rfl ?_
      refine tw_getR f_X10_176 hL_M1 ho1 ⟨rfl, rfl⟩ (rr_X1_2 ho1) d_X10_readHoles_120 ?_
      refine tw_aload_n 2 d_X10_readHoles_123 rfl rfl ?_
      refine tw_getI f_X10_168 hL_M1 ho1 (Or.inl rfl) d_X10_readHoles_124 ?_
      refine tw_iload_n 0 d_X10_readHoles_127 rfl rfl ?_
      refine tu_iast hL_M1 (sr_X1_2 ho1) d_X10_readHoles_128 h.1 (fun M5 e_M5 hL_M5 => ?_)
      replace h := h.2 M5 e_M5
      refine tw_aload_n 2 d_X10_readHoles_129 rfl rfl ?_
      refine tw_dup d_X10_readHoles_130 rfl ?_
      refine tw_getI f_X10_168 hL_M5 ho1 (Or.inl rfl) d_X10_readHoles_131 ?_
      refine tw_iconst d_X10_readHoles_134 k_1 ?_
      refine tw_iadd d_X10_readHoles_135 ?_
      refine tu_putI f_X10_168 hL_M5 ho1 rfl rfl d_X10_readHoles_136 (fun M6 e_M6 hL_M6 => ?_)
      replace h := h M6 e_M6
      refine tw_iinc 3 [(2, .int (x2 + 1)), (3, .int r2), (0, .ref (G.b + 1)), (1, .ref (G.b + o1))] d_X10_readHoles_139 rfl rfl (Nat.le_of_ble_eq_true rfl) rfl ?_
      refine tw_goto 13 d_X10_readHoles_142 (by decide) ?_
      exact tw_lv [2, 3, 0] rfl h
theorem b_X10_readHoles {G : MG} {d : Nat} {Q : Mm → Prop} {o1 : Nat} {M : Mm} {c : Nat} (hL : Lay c M) (hx_s162_1 : ∀ U, G.X U → vk_R RX10 162 "holes" (G.ad 1) U) (ho1 : sh o1 = some (.inr 1)) (h : (C G Y_X10_skipWord d [.ref (G.b + 1), .ref (G.ad 1)] M (Rv fun M1 => M1.2.2 = M.2.2 ∧ (∀ M2 : Mm, M2 = sI M1 o1 3 0 → L_X10_readHoles_13 G d Q o1 0 M2)))) : C G Y_X10_readHoles (d + 1) [.ref (G.b + 1), .ref (G.b + o1)] M (Rv Q) := by
  refine C.of (by decide) (Nat.le_of_ble_eq_true rfl) (lv := [(0, .ref (G.b + 1)), (1, .ref (G.b + o1))]) rfl ?_
  refine tw_aload_n 0 d_X10_readHoles_0 rfl rfl ?_
  refine tw_ldcS hx_s162_1 d_X10_readHoles_1 ?_
  refine tu_cVv (As := [.ref (G.ad 1)]) cv_X10_164 hL s_1 rfl (Nat.le_of_ble_eq_true rfl) ⟨Nat.zero_le _, Nat.zero_le _⟩ d_X10_readHoles_3 h (fun M1 h => ?_)
  have hL_M1 : Lay c M1 := hL.to h.1
  replace h := h.2
  refine tw_aload_n 1 d_X10_readHoles_6 rfl rfl ?_
  refine tw_iconst d_X10_readHoles_7 k_0 ?_
  refine tu_putI f_X10_168 hL_M1 ho1 rfl rfl d_X10_readHoles_8 (fun M2 e_M2 hL_M2 => ?_)
  replace h := h M2 e_M2
  refine tw_iconst d_X10_readHoles_11 k_0 ?_
  refine tw_istore_n [(2, .int 0), (0, .ref (G.b + 1)), (1, .ref (G.b + o1))] d_X10_readHoles_12 rfl (Nat.le_of_ble_eq_true rfl) rfl ?_
  exact tw_lv [1, 2, 0] rfl h

theorem d_X10_readPoints_0 : decode Y_X10_readPoints.cc 0 = .ok (.aload_n 0, 1) := by decide +kernel
theorem d_X10_readPoints_1 : decode Y_X10_readPoints.cc 1 = .ok (.ldc 179, 2) := by decide +kernel
theorem d_X10_readPoints_3 : decode Y_X10_readPoints.cc 3 = .ok (.invokevirtual 164, 3) := by decide +kernel
theorem d_X10_readPoints_6 : decode Y_X10_readPoints.cc 6 = .ok (.aload_n 1, 1) := by decide +kernel
theorem d_X10_readPoints_7 : decode Y_X10_readPoints.cc 7 = .ok (.iconst 0, 1) := by decide +kernel
theorem d_X10_readPoints_8 : decode Y_X10_readPoints.cc 8 = .ok (.putfield 181, 3) := by decide +kernel
theorem d_X10_readPoints_11 : decode Y_X10_readPoints.cc 11 = .ok (.iconst 0, 1) := by decide +kernel
theorem d_X10_readPoints_12 : decode Y_X10_readPoints.cc 12 = .ok (.istore_n 2, 1) := by decide +kernel
theorem d_X10_readPoints_13 : decode Y_X10_readPoints.cc 13 = .ok (.iload_n 2, 1) := by decide +kernel
theorem d_X10_readPoints_14 : decode Y_X10_readPoints.cc 14 = .ok (.bipush 6, 2) := by decide +kernel
theorem d_X10_readPoints_16 : decode Y_X10_readPoints.cc 16 = .ok (.if_icmp .ge 82, 3) := by decide +kernel
theorem d_X10_readPoints_19 : decode Y_X10_readPoints.cc 19 = .ok (.aload_n 0, 1) := by decide +kernel
theorem d_X10_readPoints_20 : decode Y_X10_readPoints.cc 20 = .ok (.getfield 29, 3) := by decide +kernel
theorem d_X10_readPoints_23 : decode Y_X10_readPoints.cc 23 = .ok (.ifCond .ne 75, 3) := by decide +kernel
theorem d_X10_readPoints_26 : decode Y_X10_readPoints.cc 26 = .ok (.aload_n 1, 1) := by decide +kernel
theorem d_X10_readPoints_27 : decode Y_X10_readPoints.cc 27 = .ok (.getfield 184, 3) := by decide +kernel
theorem d_X10_readPoints_30 : decode Y_X10_readPoints.cc 30 = .ok (.iload_n 2, 1) := by decide +kernel
theorem d_X10_readPoints_31 : decode Y_X10_readPoints.cc 31 = .ok (.aload_n 0, 1) := by decide +kernel
theorem d_X10_readPoints_32 : decode Y_X10_readPoints.cc 32 = .ok (.iconst 0, 1) := by decide +kernel
theorem d_X10_readPoints_33 : decode Y_X10_readPoints.cc 33 = .ok (.bipush 99, 2) := by decide +kernel
theorem d_X10_readPoints_35 : decode Y_X10_readPoints.cc 35 = .ok (.invokevirtual 99, 3) := by decide +kernel
theorem d_X10_readPoints_38 : decode Y_X10_readPoints.cc 38 = .ok (.iastore, 1) := by decide +kernel
theorem d_X10_readPoints_39 : decode Y_X10_readPoints.cc 39 = .ok (.aload_n 1, 1) := by decide +kernel
theorem d_X10_readPoints_40 : decode Y_X10_readPoints.cc 40 = .ok (.getfield 187, 3) := by decide +kernel
theorem d_X10_readPoints_43 : decode Y_X10_readPoints.cc 43 = .ok (.iload_n 2, 1) := by decide +kernel
theorem d_X10_readPoints_44 : decode Y_X10_readPoints.cc 44 = .ok (.aload_n 0, 1) := by decide +kernel
theorem d_X10_readPoints_45 : decode Y_X10_readPoints.cc 45 = .ok (.iconst 0, 1) := by decide +kernel
theorem d_X10_readPoints_46 : decode Y_X10_readPoints.cc 46 = .ok (.bipush 99, 2) := by decide +kernel
theorem d_X10_readPoints_48 : decode Y_X10_readPoints.cc 48 = .ok (.invokevirtual 99, 3) := by decide +kernel
theorem d_X10_readPoints_51 : decode Y_X10_readPoints.cc 51 = .ok (.iastore, 1) := by decide +kernel
theorem d_X10_readPoints_52 : decode Y_X10_readPoints.cc 52 = .ok (.aload_n 1, 1) := by decide +kernel
theorem d_X10_readPoints_53 : decode Y_X10_readPoints.cc 53 = .ok (.dup, 1) := by decide +kernel
theorem d_X10_readPoints_54 : decode Y_X10_readPoints.cc 54 = .ok (.getfield 181, 3) := by decide +kernel
theorem d_X10_readPoints_57 : decode Y_X10_readPoints.cc 57 = .ok (.iconst 1, 1) := by decide +kernel
theorem d_X10_readPoints_58 : decode Y_X10_readPoints.cc 58 = .ok (.iadd, 1) := by decide +kernel
theorem d_X10_readPoints_59 : decode Y_X10_readPoints.cc 59 = .ok (.putfield 181, 3) := by decide +kernel
theorem d_X10_readPoints_62 : decode Y_X10_readPoints.cc 62 = .ok (.aload_n 0, 1) := by decide +kernel
theorem d_X10_readPoints_63 : decode Y_X10_readPoints.cc 63 = .ok (.bipush 44, 2) := by decide +kernel
theorem d_X10_readPoints_65 : decode Y_X10_readPoints.cc 65 = .ok (.invokevirtual 190, 3) := by decide +kernel
theorem d_X10_readPoints_68 : decode Y_X10_readPoints.cc 68 = .ok (.ifCond .ne 4, 3) := by decide +kernel
theorem d_X10_readPoints_71 : decode Y_X10_readPoints.cc 71 = .ok (.return_, 1) := by decide +kernel
theorem d_X10_readPoints_72 : decode Y_X10_readPoints.cc 72 = .ok (.aload_n 1, 1) := by decide +kernel
theorem d_X10_readPoints_73 : decode Y_X10_readPoints.cc 73 = .ok (.getfield 181, 3) := by decide +kernel
theorem d_X10_readPoints_76 : decode Y_X10_readPoints.cc 76 = .ok (.bipush 6, 2) := by decide +kernel
theorem d_X10_readPoints_78 : decode Y_X10_readPoints.cc 78 = .ok (.if_icmp .ne 8, 3) := by decide +kernel
theorem d_X10_readPoints_81 : decode Y_X10_readPoints.cc 81 = .ok (.aload_n 0, 1) := by decide +kernel
theorem d_X10_readPoints_82 : decode Y_X10_readPoints.cc 82 = .ok (.iconst 5, 1) := by decide +kernel
theorem d_X10_readPoints_83 : decode Y_X10_readPoints.cc 83 = .ok (.invokevirtual 56, 3) := by decide +kernel
theorem d_X10_readPoints_86 : decode Y_X10_readPoints.cc 86 = .ok (.aload_n 0, 1) := by decide +kernel
theorem d_X10_readPoints_87 : decode Y_X10_readPoints.cc 87 = .ok (.bipush 44, 2) := by decide +kernel
theorem d_X10_readPoints_89 : decode Y_X10_readPoints.cc 89 = .ok (.invokevirtual 119, 3) := by decide +kernel
theorem d_X10_readPoints_92 : decode Y_X10_readPoints.cc 92 = .ok (.iinc 2 1, 3) := by decide +kernel
theorem d_X10_readPoints_95 : decode Y_X10_readPoints.cc 95 = .ok (.goto (-82), 3) := by decide +kernel
theorem d_X10_readPoints_98 : decode Y_X10_readPoints.cc 98 = .ok (.return_, 1) := by decide +kernel
def L_X10_readPoints_13 (G : MG) (d : Nat) (Q : Mm → Prop) (o1 : Nat) (x2 : Int32) (M : Mm) : Prop := T G Y_X10_readPoints (d + 1) (Rv Q) 0 0 13 [(0, .ref (G.b + 1)), (1, .ref (G.b + o1)), (2, .int x2)] [] M
theorem b_X10_readPoints_13 {G : MG} {d : Nat} {Q : Mm → Prop} {o1 : Nat} {x2 : Int32} {M : Mm} {c : Nat} (hL : Lay c M) (hx_s179_11 : ∀ U, G.X U → vk_R RX10 179 "points" (G.ad 11) U) (ho1 : sh o1 = some (.inr 2)) (h : ((6 ≤ x2 → Q M) ∧ (¬ 6 ≤ x2 → ((¬ (M.1 1 6) = 0 → Q M) ∧ ((M.1 1 6) = 0 → (C G Y_X10_readNumber d [.ref (G.b + 1), .int 0, .int 99] M (Ri fun r4 M3 => M3.2.2 = M.2.2 ∧ (vp_in x2 6 ∧ ∀ M5 : Mm, M5 = sI M3 (o1 + 1) x2.toNatClampNeg r4 → (C G Y_X10_readNumber d [.ref (G.b + 1), .int 0, .int 99] M5 (Ri fun r7 M6 => M6.2.2 = M5.2.2 ∧ (vp_in x2 6 ∧ ∀ M8 : Mm, M8 = sI M6 (o1 + 2) x2.toNatClampNeg r7 → (∀ M9 : Mm, M9 = sI M8 o1 6 ((M8.1 o1 6) + 1) → (C G Y_X10_isSignHere d [.ref (G.b + 1), .int 44] M9 (Ri fun r11 M10 => M10.2.2 = M9.2.2 ∧ ((¬ r11 = 0 → ((¬ (M10.1 o1 6) = 6 → (C G Y_X10_skipSign d [.ref (G.b + 1), .int 44] M10 (Rv fun M14 => M14.2.2 = M10.2.2 ∧ L_X10_readPoints_13 G d Q o1 (x2 + 1) M14))) ∧ ((M10.1 o1 6) = 6 → (C G Y_X10_fail d [.ref (G.b + 1), .int 5] M10 (Rv fun M15 => M15.2.2 = M10.2.2 ∧ (C G Y_X10_skipSign d [.ref (G.b + 1), .int 44] M15 (Rv fun M16 => M16.2.2 = M15.2.2 ∧ L_X10_readPoints_13 G d Q o1 (x2 + 1) M16))))))) ∧ (r11 = 0 → Q M10)))))))))))))))) : L_X10_readPoints_13 G d Q o1 x2 M := by
  unfold L_X10_readPoints_13
  refine tw_iload_n 2 d_X10_readPoints_13 rfl rfl ?_
  refine tw_bipush d_X10_readPoints_14 kb_6 ?_
  refine tw_icmp_ge 98 d_X10_readPoints_16 (by decide) (fun z1 => ?_) (fun z1 => ?_)
  · replace h := h.1 z1
    exact tw_vret rfl ⟨Nat.zero_le _, Nat.zero_le _⟩ d_X10_readPoints_98 h
  · replace h := h.2 z1
    refine tw_aload_n 0 d_X10_readPoints_19 rfl rfl ?_
    refine tw_getI f_X10_29 hL s_1 (Or.inl rfl) d_X10_readPoints_20 ?_
    refine tw_if_ne 98 d_X10_readPoints_23 (by decide) (fun z2 => ?_) (fun z2 => ?_)
    · replace h := h.1 z2
      exact tw_vret rfl ⟨Nat.zero_le _, Nat.zero_le _⟩ d_X10_readPoints_98 h
    · replace h := h.2 z2
      refine tw_aload_n 1 d_X10_readPoints_26 rfl rfl ?_
      refine tw_getR f_X10_184 hL ho1 ⟨rfl, rfl⟩ (rr_X2_4 ho1) d_X10_readPoints_27 ?_
      refine tw_iload_n 2 d_X10_readPoints_30 rfl rfl ?_
      refine tw_aload_n 0 d_X10_readPoints_31 rfl rfl ?_
      refine tw_iconst d_X10_readPoints_32 k_0 ?_
      refine tw_bipush d_X10_readPoints_33 kb_99 ?_
      refine tu_cVi (As := [.int 0, .int 99]) cv_X10_99 hL s_1 rfl (Nat.le_of_ble_eq_true rfl) ⟨Nat.zero_le _, Nat.zero_le _⟩ d_X10_readPoints_35 h (fun r4 M3 h => ?_)
      have hL_M3 : Lay c M3 := hL.to h.1
      replace h := h.2
      refine tu_iast hL_M3 (sr_X2_4 ho1) d_X10_readPoints_38 h.1 (fun M5 e_M5 hL_M5 => ?_)
      replace h := h.2 M5 e_M5
      refine tw_aload_n 1 d_X10_readPoints_39 rfl rfl ?_
      refine tw_getR f_X10_187 hL_M5 ho1 ⟨rfl, rfl⟩ (rr_X2_5 ho1) d_X10_readPoints_40 ?_
      refine tw_iload_n 2 d_X10_readPoints_43 rfl rfl ?_
      refine tw_aload_n 0 d_X10_readPoints_44 rfl rfl ?_
      refine tw_iconst d_X10_readPoints_45 k_0 ?_
      refine tw_bipush d_X10_readPoints_46 kb_99 ?_
      refine tu_cVi (As := [.int 0, .int 99]) cv_X10_99 hL_M5 s_1 rfl (Nat.le_of_ble_eq_true rfl) ⟨Nat.zero_le _, Nat.zero_le _⟩ d_X10_readPoints_48 h (fun r7 M6 h => ?_)
      have hL_M6 : Lay c M6 := hL_M5.to h.1
      replace h := h.2
      refine tu_iast hL_M6 (sr_X2_5 ho1) d_X10_readPoints_51 h.1 (fun M8 e_M8 hL_M8 => ?_)
      replace h := h.2 M8 e_M8
      refine tw_aload_n 1 d_X10_readPoints_52 rfl rfl ?_
      refine tw_dup d_X10_readPoints_53 rfl ?_
      refine tw_getI f_X10_181 hL_M8 ho1 (Or.inl rfl) d_X10_readPoints_54 ?_
      refine tw_iconst d_X10_readPoints_57 k_1 ?_
      refine tw_iadd d_X10_readPoints_58 ?_
      refine tu_putI f_X10_181 hL_M8 ho1 rfl rfl d_X10_readPoints_59 (fun M9 e_M9 hL_M9 => ?_)
      replace h := h M9 e_M9
      refine tw_aload_n 0 d_X10_readPoints_62 rfl rfl ?_
      refine tw_bipush d_X10_readPoints_63 kb_44 ?_
      refine tu_cVi (As := [.int 44]) cv_X10_190 hL_M9 s_1 rfl (Nat.le_of_ble_eq_true rfl) ⟨Nat.zero_le _, Nat.zero_le _⟩ d_X10_readPoints_65 h (fun r11 M10 h => ?_)
      have hL_M10 : Lay c M10 := hL_M9.to h.1
      replace h := h.2
      refine tw_if_ne 72 d_X10_readPoints_68 (by decide) (fun z12 => ?_) (fun z12 => ?_)
      · replace h := h.1 z12
        refine tw_aload_n 1 d_X10_readPoints_72 rfl rfl ?_
        refine tw_getI f_X10_181 hL_M10 ho1 (Or.inl rfl) d_X10_readPoints_73 ?_
        refine tw_bipush d_X10_readPoints_76 kb_6 ?_
        refine tw_icmp_ne 86 d_X10_readPoints_78 (by decide) (fun z13 => ?_) (fun z13 => ?_)
        · replace h := h.1 z13
          refine tw_aload_n 0 d_X10_readPoints_86 rfl rfl ?_
          refine tw_bipush d_X10_readPoints_87 kb_44 ?_
          refine tu_cVv (As := [.int 44]) cv_X10_119 hL_M10 s_1 rfl (Nat.le_of_ble_eq_true rfl) ⟨Nat.zero_le _, Nat.zero_le _⟩ d_X10_readPoints_89 h (fun M14 h => ?_)
          have hL_M14 : Lay c M14 := hL_M10.to h.1
          replace h := h.2
          refine tw_iinc 2 [(2, .int (x2 + 1)), (0, .ref (G.b + 1)), (1, .ref (G.b + o1))] d_X10_readPoints_92 rfl rfl (Nat.le_of_ble_eq_true rfl) rfl ?_
          refine tw_goto 13 d_X10_readPoints_95 (by decide) ?_
          exact tw_lv [1, 2, 0] rfl h
        · replace h := h.2 z13
          refine tw_aload_n 0 d_X10_readPoints_81 rfl rfl ?_
          refine tw_iconst d_X10_readPoints_82 k_5 ?_
          refine tu_cVv (As := [.int 5]) cv_X10_56 hL_M10 s_1 rfl (Nat.le_of_ble_eq_true rfl) ⟨Nat.zero_le _, Nat.zero_le _⟩ d_X10_readPoints_83 h (fun M15 h => ?_)
          have hL_M15 : Lay c M15 := hL_M10.to h.1
          replace h := h.2
          refine tw_aload_n 0 d_X10_readPoints_86 rfl rfl ?_
          refine tw_bipush d_X10_readPoints_87 kb_44 ?_
          refine tu_cVv (As := [.int 44]) cv_X10_119 hL_M15 s_1 rfl (Nat.le_of_ble_eq_true rfl) ⟨Nat.zero_le _, Nat.zero_le _⟩ d_X10_readPoints_89 h (fun M16 h => ?_)
          have hL_M16 : Lay c M16 := hL_M15.to h.1
          replace h := h.2
          refine tw_iinc 2 [(2, .int (x2 + 1)), (0, .ref (G.b + 1)), (1, .ref (G.b + o1))] d_X10_readPoints_92 rfl rfl (Nat.le_of_ble_eq_true rfl) rfl ?_
          refine tw_goto 13 d_X10_readPoints_95 (by decide) ?_
          exact tw_lv [1, 2, 0] rfl h
      · replace h := h.2 z12
        exact tw_vret rfl ⟨Nat.zero_le _, Nat.zero_le _⟩ d_X10_readPoints_71 h
theorem b_X10_readPoints {G : MG} {d : Nat} {Q : Mm → Prop} {o1 : Nat} {M : Mm} {c : Nat} (hL : Lay c M) (hx_s179_11 : ∀ U, G.X U → vk_R RX10 179 "points" (G.ad 11) U) (ho1 : sh o1 = some (.inr 2)) (h : (C G Y_X10_skipWord d [.ref (G.b + 1), .ref (G.ad 11)] M (Rv fun M1 => M1.2.2 = M.2.2 ∧ (∀ M2 : Mm, M2 = sI M1 o1 6 0 → L_X10_readPoints_13 G d Q o1 0 M2)))) : C G Y_X10_readPoints (d + 1) [.ref (G.b + 1), .ref (G.b + o1)] M (Rv Q) := by
  refine C.of (by decide) (Nat.le_of_ble_eq_true rfl) (lv := [(0, .ref (G.b + 1)), (1, .ref (G.b + o1))]) rfl ?_
  refine tw_aload_n 0 d_X10_readPoints_0 rfl rfl ?_
  refine tw_ldcS hx_s179_11 d_X10_readPoints_1 ?_
  refine tu_cVv (As := [.ref (G.ad 11)]) cv_X10_164 hL s_1 rfl (Nat.le_of_ble_eq_true rfl) ⟨Nat.zero_le _, Nat.zero_le _⟩ d_X10_readPoints_3 h (fun M1 h => ?_)
  have hL_M1 : Lay c M1 := hL.to h.1
  replace h := h.2
  refine tw_aload_n 1 d_X10_readPoints_6 rfl rfl ?_
  refine tw_iconst d_X10_readPoints_7 k_0 ?_
  refine tu_putI f_X10_181 hL_M1 ho1 rfl rfl d_X10_readPoints_8 (fun M2 e_M2 hL_M2 => ?_)
  replace h := h M2 e_M2
  refine tw_iconst d_X10_readPoints_11 k_0 ?_
  refine tw_istore_n [(2, .int 0), (0, .ref (G.b + 1)), (1, .ref (G.b + o1))] d_X10_readPoints_12 rfl (Nat.le_of_ble_eq_true rfl) rfl ?_
  exact tw_lv [1, 2, 0] rfl h

theorem d_X10_readNumberBehind_0 : decode Y_X10_readNumberBehind.cc 0 = .ok (.aload_n 0, 1) := by decide +kernel
theorem d_X10_readNumberBehind_1 : decode Y_X10_readNumberBehind.cc 1 = .ok (.aload_n 1, 1) := by decide +kernel
theorem d_X10_readNumberBehind_2 : decode Y_X10_readNumberBehind.cc 2 = .ok (.invokevirtual 164, 3) := by decide +kernel
theorem d_X10_readNumberBehind_5 : decode Y_X10_readNumberBehind.cc 5 = .ok (.aload_n 0, 1) := by decide +kernel
theorem d_X10_readNumberBehind_6 : decode Y_X10_readNumberBehind.cc 6 = .ok (.iload_n 2, 1) := by decide +kernel
theorem d_X10_readNumberBehind_7 : decode Y_X10_readNumberBehind.cc 7 = .ok (.iload_n 3, 1) := by decide +kernel
theorem d_X10_readNumberBehind_8 : decode Y_X10_readNumberBehind.cc 8 = .ok (.invokevirtual 99, 3) := by decide +kernel
theorem d_X10_readNumberBehind_11 : decode Y_X10_readNumberBehind.cc 11 = .ok (.ireturn, 1) := by decide +kernel
theorem b_X10_readNumberBehind {G : MG} {d : Nat} {Q : Int32 → Mm → Prop} {a1 : Nat} {x2 : Int32} {x3 : Int32} {M : Mm} {c : Nat} (hL : Lay c M)  (h : (C G Y_X10_skipWord d [.ref (G.b + 1), .ref a1] M (Rv fun M1 => M1.2.2 = M.2.2 ∧ (C G Y_X10_readNumber d [.ref (G.b + 1), .int x2, .int x3] M1 (Ri fun r3 M2 => M2.2.2 = M1.2.2 ∧ Q r3 M2))))) : C G Y_X10_readNumberBehind (d + 1) [.ref (G.b + 1), .ref a1, .int x2, .int x3] M (Ri Q) := by
  refine C.of (by decide) (Nat.le_of_ble_eq_true rfl) (lv := [(0, .ref (G.b + 1)), (1, .ref a1), (2, .int x2), (3, .int x3)]) rfl ?_
  refine tw_aload_n 0 d_X10_readNumberBehind_0 rfl rfl ?_
  refine tw_aload_n 1 d_X10_readNumberBehind_1 rfl rfl ?_
  refine tu_cVv (As := [.ref a1]) cv_X10_164 hL s_1 rfl (Nat.le_of_ble_eq_true rfl) ⟨Nat.zero_le _, Nat.zero_le _⟩ d_X10_readNumberBehind_2 h (fun M1 h => ?_)
  have hL_M1 : Lay c M1 := hL.to h.1
  replace h := h.2
  refine tw_aload_n 0 d_X10_readNumberBehind_5 rfl rfl ?_
  refine tw_iload_n 2 d_X10_readNumberBehind_6 rfl rfl ?_
  refine tw_iload_n 3 d_X10_readNumberBehind_7 rfl rfl ?_
  refine tu_cVi (As := [.int x2, .int x3]) cv_X10_99 hL_M1 s_1 rfl (Nat.le_of_ble_eq_true rfl) ⟨Nat.zero_le _, Nat.zero_le _⟩ d_X10_readNumberBehind_8 h (fun r3 M2 h => ?_)
  have hL_M2 : Lay c M2 := hL_M1.to h.1
  replace h := h.2
  exact tw_iret rfl ⟨Nat.zero_le _, Nat.zero_le _⟩ d_X10_readNumberBehind_11 h

theorem d_X10_readNumber_0 : decode Y_X10_readNumber.cc 0 = .ok (.aload_n 0, 1) := by decide +kernel
theorem d_X10_readNumber_1 : decode Y_X10_readNumber.cc 1 = .ok (.getfield 29, 3) := by decide +kernel
theorem d_X10_readNumber_4 : decode Y_X10_readNumber.cc 4 = .ok (.ifCond .eq 5, 3) := by decide +kernel
theorem d_X10_readNumber_7 : decode Y_X10_readNumber.cc 7 = .ok (.iload_n 1, 1) := by decide +kernel
theorem d_X10_readNumber_8 : decode Y_X10_readNumber.cc 8 = .ok (.ireturn, 1) := by decide +kernel
theorem d_X10_readNumber_9 : decode Y_X10_readNumber.cc 9 = .ok (.aload_n 0, 1) := by decide +kernel
theorem d_X10_readNumber_10 : decode Y_X10_readNumber.cc 10 = .ok (.getfield 38, 3) := by decide +kernel
theorem d_X10_readNumber_13 : decode Y_X10_readNumber.cc 13 = .ok (.iconst 2, 1) := by decide +kernel
theorem d_X10_readNumber_14 : decode Y_X10_readNumber.cc 14 = .ok (.if_icmp .eq 10, 3) := by decide +kernel
theorem d_X10_readNumber_17 : decode Y_X10_readNumber.cc 17 = .ok (.aload_n 0, 1) := by decide +kernel
theorem d_X10_readNumber_18 : decode Y_X10_readNumber.cc 18 = .ok (.iconst 1, 1) := by decide +kernel
theorem d_X10_readNumber_19 : decode Y_X10_readNumber.cc 19 = .ok (.invokevirtual 56, 3) := by decide +kernel
theorem d_X10_readNumber_22 : decode Y_X10_readNumber.cc 22 = .ok (.iload_n 1, 1) := by decide +kernel
theorem d_X10_readNumber_23 : decode Y_X10_readNumber.cc 23 = .ok (.ireturn, 1) := by decide +kernel
theorem d_X10_readNumber_24 : decode Y_X10_readNumber.cc 24 = .ok (.aload_n 0, 1) := by decide +kernel
theorem d_X10_readNumber_25 : decode Y_X10_readNumber.cc 25 = .ok (.getfield 155, 3) := by decide +kernel
theorem d_X10_readNumber_28 : decode Y_X10_readNumber.cc 28 = .ok (.iload_n 1, 1) := by decide +kernel
theorem d_X10_readNumber_29 : decode Y_X10_readNumber.cc 29 = .ok (.i2l, 1) := by decide +kernel
theorem d_X10_readNumber_30 : decode Y_X10_readNumber.cc 30 = .ok (.lcmp, 1) := by decide +kernel
theorem d_X10_readNumber_31 : decode Y_X10_readNumber.cc 31 = .ok (.ifCond .lt 13, 3) := by decide +kernel
theorem d_X10_readNumber_34 : decode Y_X10_readNumber.cc 34 = .ok (.aload_n 0, 1) := by decide +kernel
theorem d_X10_readNumber_35 : decode Y_X10_readNumber.cc 35 = .ok (.getfield 155, 3) := by decide +kernel
theorem d_X10_readNumber_38 : decode Y_X10_readNumber.cc 38 = .ok (.iload_n 2, 1) := by decide +kernel
theorem d_X10_readNumber_39 : decode Y_X10_readNumber.cc 39 = .ok (.i2l, 1) := by decide +kernel
theorem d_X10_readNumber_40 : decode Y_X10_readNumber.cc 40 = .ok (.lcmp, 1) := by decide +kernel
theorem d_X10_readNumber_41 : decode Y_X10_readNumber.cc 41 = .ok (.ifCond .le 10, 3) := by decide +kernel
theorem d_X10_readNumber_44 : decode Y_X10_readNumber.cc 44 = .ok (.aload_n 0, 1) := by decide +kernel
theorem d_X10_readNumber_45 : decode Y_X10_readNumber.cc 45 = .ok (.iconst 4, 1) := by decide +kernel
theorem d_X10_readNumber_46 : decode Y_X10_readNumber.cc 46 = .ok (.invokevirtual 56, 3) := by decide +kernel
theorem d_X10_readNumber_49 : decode Y_X10_readNumber.cc 49 = .ok (.iload_n 1, 1) := by decide +kernel
theorem d_X10_readNumber_50 : decode Y_X10_readNumber.cc 50 = .ok (.ireturn, 1) := by decide +kernel
theorem d_X10_readNumber_51 : decode Y_X10_readNumber.cc 51 = .ok (.aload_n 0, 1) := by decide +kernel
theorem d_X10_readNumber_52 : decode Y_X10_readNumber.cc 52 = .ok (.getfield 155, 3) := by decide +kernel
theorem d_X10_readNumber_55 : decode Y_X10_readNumber.cc 55 = .ok (.l2i, 1) := by decide +kernel
theorem d_X10_readNumber_56 : decode Y_X10_readNumber.cc 56 = .ok (.istore_n 3, 1) := by decide +kernel
theorem d_X10_readNumber_57 : decode Y_X10_readNumber.cc 57 = .ok (.aload_n 0, 1) := by decide +kernel
theorem d_X10_readNumber_58 : decode Y_X10_readNumber.cc 58 = .ok (.invokevirtual 35, 3) := by decide +kernel
theorem d_X10_readNumber_61 : decode Y_X10_readNumber.cc 61 = .ok (.iload_n 3, 1) := by decide +kernel
theorem d_X10_readNumber_62 : decode Y_X10_readNumber.cc 62 = .ok (.ireturn, 1) := by decide +kernel
theorem b_X10_readNumber {G : MG} {d : Nat} {Q : Int32 → Mm → Prop} {x1 : Int32} {x2 : Int32} {M : Mm} {c : Nat} (hL : Lay c M)  (h : (((M.1 1 6) = 0 → (((M.1 1 4) = 2 → (((M.2.1 1 5) < x1.toInt64 → (C G Y_X10_fail d [.ref (G.b + 1), .int 4] M (Rv fun M4 => M4.2.2 = M.2.2 ∧ Q x1 M4))) ∧ (¬ (M.2.1 1 5) < x1.toInt64 → (((M.2.1 1 5) ≤ x2.toInt64 → (C G Y_X10_advance d [.ref (G.b + 1)] M (Rv fun M6 => M6.2.2 = M.2.2 ∧ Q ((M.2.1 1 5).toInt32) M6))) ∧ (¬ (M.2.1 1 5) ≤ x2.toInt64 → (C G Y_X10_fail d [.ref (G.b + 1), .int 4] M (Rv fun M7 => M7.2.2 = M.2.2 ∧ Q x1 M7))))))) ∧ (¬ (M.1 1 4) = 2 → (C G Y_X10_fail d [.ref (G.b + 1), .int 1] M (Rv fun M8 => M8.2.2 = M.2.2 ∧ Q x1 M8))))) ∧ (¬ (M.1 1 6) = 0 → Q x1 M))) : C G Y_X10_readNumber (d + 1) [.ref (G.b + 1), .int x1, .int x2] M (Ri Q) := by
  refine C.of (by decide) (Nat.le_of_ble_eq_true rfl) (lv := [(0, .ref (G.b + 1)), (1, .int x1), (2, .int x2)]) rfl ?_
  refine tw_aload_n 0 d_X10_readNumber_0 rfl rfl ?_
  refine tw_getI f_X10_29 hL s_1 (Or.inl rfl) d_X10_readNumber_1 ?_
  refine tw_if_eq 9 d_X10_readNumber_4 (by decide) (fun z1 => ?_) (fun z1 => ?_)
  · replace h := h.1 z1
    refine tw_aload_n 0 d_X10_readNumber_9 rfl rfl ?_
    refine tw_getI f_X10_38 hL s_1 (Or.inl rfl) d_X10_readNumber_10 ?_
    refine tw_iconst d_X10_readNumber_13 k_2 ?_
    refine tw_icmp_eq 24 d_X10_readNumber_14 (by decide) (fun z2 => ?_) (fun z2 => ?_)
    · replace h := h.1 z2
      refine tw_aload_n 0 d_X10_readNumber_24 rfl rfl ?_
      refine tw_getJ f_X10_155 hL s_1 rfl d_X10_readNumber_25 ?_
      refine tw_iload_n 1 d_X10_readNumber_28 rfl rfl ?_
      refine tw_i2l d_X10_readNumber_29 ?_
      refine tw_lcmp_lt 44 d_X10_readNumber_30 d_X10_readNumber_31 (by decide) (fun z3 => ?_) (fun z3 => ?_)
      · replace h := h.1 z3
        refine tw_aload_n 0 d_X10_readNumber_44 rfl rfl ?_
        refine tw_iconst d_X10_readNumber_45 k_4 ?_
        refine tu_cVv (As := [.int 4]) cv_X10_56 hL s_1 rfl (Nat.le_of_ble_eq_true rfl) ⟨Nat.zero_le _, Nat.zero_le _⟩ d_X10_readNumber_46 h (fun M4 h => ?_)
        have hL_M4 : Lay c M4 := hL.to h.1
        replace h := h.2
        refine tw_iload_n 1 d_X10_readNumber_49 rfl rfl ?_
        exact tw_iret rfl ⟨Nat.zero_le _, Nat.zero_le _⟩ d_X10_readNumber_50 h
      · replace h := h.2 z3
        refine tw_aload_n 0 d_X10_readNumber_34 rfl rfl ?_
        refine tw_getJ f_X10_155 hL s_1 rfl d_X10_readNumber_35 ?_
        refine tw_iload_n 2 d_X10_readNumber_38 rfl rfl ?_
        refine tw_i2l d_X10_readNumber_39 ?_
        refine tw_lcmp_le 51 d_X10_readNumber_40 d_X10_readNumber_41 (by decide) (fun z5 => ?_) (fun z5 => ?_)
        · replace h := h.1 z5
          refine tw_aload_n 0 d_X10_readNumber_51 rfl rfl ?_
          refine tw_getJ f_X10_155 hL s_1 rfl d_X10_readNumber_52 ?_
          refine tw_l2i d_X10_readNumber_55 ?_
          refine tw_istore_n [(3, .int ((M.2.1 1 5).toInt32)), (0, .ref (G.b + 1)), (1, .int x1), (2, .int x2)] d_X10_readNumber_56 rfl (Nat.le_of_ble_eq_true rfl) rfl ?_
          refine tw_aload_n 1 d_X10_readNumber_57 rfl rfl ?_
          refine tu_cVv (As := []) cv_X10_35 hL s_1 rfl (Nat.le_of_ble_eq_true rfl) ⟨Nat.zero_le _, Nat.zero_le _⟩ d_X10_readNumber_58 h (fun M6 h => ?_)
          have hL_M6 : Lay c M6 := hL.to h.1
          replace h := h.2
          refine tw_iload_n 0 d_X10_readNumber_61 rfl rfl ?_
          exact tw_iret rfl ⟨Nat.zero_le _, Nat.zero_le _⟩ d_X10_readNumber_62 h
        · replace h := h.2 z5
          refine tw_aload_n 0 d_X10_readNumber_44 rfl rfl ?_
          refine tw_iconst d_X10_readNumber_45 k_4 ?_
          refine tu_cVv (As := [.int 4]) cv_X10_56 hL s_1 rfl (Nat.le_of_ble_eq_true rfl) ⟨Nat.zero_le _, Nat.zero_le _⟩ d_X10_readNumber_46 h (fun M7 h => ?_)
          have hL_M7 : Lay c M7 := hL.to h.1
          replace h := h.2
          refine tw_iload_n 1 d_X10_readNumber_49 rfl rfl ?_
          exact tw_iret rfl ⟨Nat.zero_le _, Nat.zero_le _⟩ d_X10_readNumber_50 h
    · replace h := h.2 z2
      refine tw_aload_n 0 d_X10_readNumber_17 rfl rfl ?_
      refine tw_iconst d_X10_readNumber_18 k_1 ?_
      refine tu_cVv (As := [.int 1]) cv_X10_56 hL s_1 rfl (Nat.le_of_ble_eq_true rfl) ⟨Nat.zero_le _, Nat.zero_le _⟩ d_X10_readNumber_19 h (fun M8 h => ?_)
      have hL_M8 : Lay c M8 := hL.to h.1
      replace h := h.2
      refine tw_iload_n 1 d_X10_readNumber_22 rfl rfl ?_
      exact tw_iret rfl ⟨Nat.zero_le _, Nat.zero_le _⟩ d_X10_readNumber_23 h
  · replace h := h.2 z1
    refine tw_iload_n 1 d_X10_readNumber_7 rfl rfl ?_
    exact tw_iret rfl ⟨Nat.zero_le _, Nat.zero_le _⟩ d_X10_readNumber_8 h

theorem d_X10_skipWord_0 : decode Y_X10_skipWord.cc 0 = .ok (.aload_n 0, 1) := by decide +kernel
theorem d_X10_skipWord_1 : decode Y_X10_skipWord.cc 1 = .ok (.getfield 29, 3) := by decide +kernel
theorem d_X10_skipWord_4 : decode Y_X10_skipWord.cc 4 = .ok (.ifCond .eq 4, 3) := by decide +kernel
theorem d_X10_skipWord_7 : decode Y_X10_skipWord.cc 7 = .ok (.return_, 1) := by decide +kernel
theorem d_X10_skipWord_8 : decode Y_X10_skipWord.cc 8 = .ok (.aload_n 0, 1) := by decide +kernel
theorem d_X10_skipWord_9 : decode Y_X10_skipWord.cc 9 = .ok (.aload_n 1, 1) := by decide +kernel
theorem d_X10_skipWord_10 : decode Y_X10_skipWord.cc 10 = .ok (.invokevirtual 43, 3) := by decide +kernel
theorem d_X10_skipWord_13 : decode Y_X10_skipWord.cc 13 = .ok (.ifCond .eq 10, 3) := by decide +kernel
theorem d_X10_skipWord_16 : decode Y_X10_skipWord.cc 16 = .ok (.aload_n 0, 1) := by decide +kernel
theorem d_X10_skipWord_17 : decode Y_X10_skipWord.cc 17 = .ok (.invokevirtual 35, 3) := by decide +kernel
theorem d_X10_skipWord_20 : decode Y_X10_skipWord.cc 20 = .ok (.goto 8, 3) := by decide +kernel
theorem d_X10_skipWord_23 : decode Y_X10_skipWord.cc 23 = .ok (.aload_n 0, 1) := by decide +kernel
theorem d_X10_skipWord_24 : decode Y_X10_skipWord.cc 24 = .ok (.iconst 1, 1) := by decide +kernel
theorem d_X10_skipWord_25 : decode Y_X10_skipWord.cc 25 = .ok (.invokevirtual 56, 3) := by decide +kernel
theorem d_X10_skipWord_28 : decode Y_X10_skipWord.cc 28 = .ok (.return_, 1) := by decide +kernel
theorem b_X10_skipWord {G : MG} {d : Nat} {Q : Mm → Prop} {a1 : Nat} {M : Mm} {c : Nat} (hL : Lay c M)  (h : (((M.1 1 6) = 0 → (C G Y_X10_reads d [.ref (G.b + 1), .ref a1] M (Ri fun r3 M2 => M2.2.2 = M.2.2 ∧ ((r3 = 0 → (C G Y_X10_fail d [.ref (G.b + 1), .int 1] M2 (Rv fun M5 => M5.2.2 = M2.2.2 ∧ Q M5))) ∧ (¬ r3 = 0 → (C G Y_X10_advance d [.ref (G.b + 1)] M2 (Rv fun M6 => M6.2.2 = M2.2.2 ∧ Q M6))))))) ∧ (¬ (M.1 1 6) = 0 → Q M))) : C G Y_X10_skipWord (d + 1) [.ref (G.b + 1), .ref a1] M (Rv Q) := by
  refine C.of (by decide) (Nat.le_of_ble_eq_true rfl) (lv := [(0, .ref (G.b + 1)), (1, .ref a1)]) rfl ?_
  refine tw_aload_n 0 d_X10_skipWord_0 rfl rfl ?_
  refine tw_getI f_X10_29 hL s_1 (Or.inl rfl) d_X10_skipWord_1 ?_
  refine tw_if_eq 8 d_X10_skipWord_4 (by decide) (fun z1 => ?_) (fun z1 => ?_)
  · replace h := h.1 z1
    refine tw_aload_n 0 d_X10_skipWord_8 rfl rfl ?_
    refine tw_aload_n 1 d_X10_skipWord_9 rfl rfl ?_
    refine tu_cVi (As := [.ref a1]) cv_X10_43 hL s_1 rfl (Nat.le_of_ble_eq_true rfl) ⟨Nat.zero_le _, Nat.zero_le _⟩ d_X10_skipWord_10 h (fun r3 M2 h => ?_)
    have hL_M2 : Lay c M2 := hL.to h.1
    replace h := h.2
    refine tw_if_eq 23 d_X10_skipWord_13 (by decide) (fun z4 => ?_) (fun z4 => ?_)
    · replace h := h.1 z4
      refine tw_aload_n 0 d_X10_skipWord_23 rfl rfl ?_
      refine tw_iconst d_X10_skipWord_24 k_1 ?_
      refine tu_cVv (As := [.int 1]) cv_X10_56 hL_M2 s_1 rfl (Nat.le_of_ble_eq_true rfl) ⟨Nat.zero_le _, Nat.zero_le _⟩ d_X10_skipWord_25 h (fun M5 h => ?_)
      have hL_M5 : Lay c M5 := hL_M2.to h.1
      replace h := h.2
      exact tw_vret rfl ⟨Nat.zero_le _, Nat.zero_le _⟩ d_X10_skipWord_28 h
    · replace h := h.2 z4
      refine tw_aload_n 0 d_X10_skipWord_16 rfl rfl ?_
      refine tu_cVv (As := []) cv_X10_35 hL_M2 s_1 rfl (Nat.le_of_ble_eq_true rfl) ⟨Nat.zero_le _, Nat.zero_le _⟩ d_X10_skipWord_17 h (fun M6 h => ?_)
      have hL_M6 : Lay c M6 := hL_M2.to h.1
      replace h := h.2
      refine tw_goto 28 d_X10_skipWord_20 (by decide) ?_
      exact tw_vret rfl ⟨Nat.zero_le _, Nat.zero_le _⟩ d_X10_skipWord_28 h
  · replace h := h.2 z1
    exact tw_vret rfl ⟨Nat.zero_le _, Nat.zero_le _⟩ d_X10_skipWord_7 h

theorem d_X10_skipSign_0 : decode Y_X10_skipSign.cc 0 = .ok (.aload_n 0, 1) := by decide +kernel
theorem d_X10_skipSign_1 : decode Y_X10_skipSign.cc 1 = .ok (.getfield 29, 3) := by decide +kernel
theorem d_X10_skipSign_4 : decode Y_X10_skipSign.cc 4 = .ok (.ifCond .eq 4, 3) := by decide +kernel
theorem d_X10_skipSign_7 : decode Y_X10_skipSign.cc 7 = .ok (.return_, 1) := by decide +kernel
theorem d_X10_skipSign_8 : decode Y_X10_skipSign.cc 8 = .ok (.aload_n 0, 1) := by decide +kernel
theorem d_X10_skipSign_9 : decode Y_X10_skipSign.cc 9 = .ok (.iload_n 1, 1) := by decide +kernel
theorem d_X10_skipSign_10 : decode Y_X10_skipSign.cc 10 = .ok (.invokevirtual 190, 3) := by decide +kernel
theorem d_X10_skipSign_13 : decode Y_X10_skipSign.cc 13 = .ok (.ifCond .eq 10, 3) := by decide +kernel
theorem d_X10_skipSign_16 : decode Y_X10_skipSign.cc 16 = .ok (.aload_n 0, 1) := by decide +kernel
theorem d_X10_skipSign_17 : decode Y_X10_skipSign.cc 17 = .ok (.invokevirtual 35, 3) := by decide +kernel
theorem d_X10_skipSign_20 : decode Y_X10_skipSign.cc 20 = .ok (.goto 8, 3) := by decide +kernel
theorem d_X10_skipSign_23 : decode Y_X10_skipSign.cc 23 = .ok (.aload_n 0, 1) := by decide +kernel
theorem d_X10_skipSign_24 : decode Y_X10_skipSign.cc 24 = .ok (.iconst 1, 1) := by decide +kernel
theorem d_X10_skipSign_25 : decode Y_X10_skipSign.cc 25 = .ok (.invokevirtual 56, 3) := by decide +kernel
theorem d_X10_skipSign_28 : decode Y_X10_skipSign.cc 28 = .ok (.return_, 1) := by decide +kernel
theorem b_X10_skipSign {G : MG} {d : Nat} {Q : Mm → Prop} {x1 : Int32} {M : Mm} {c : Nat} (hL : Lay c M)  (h : (((M.1 1 6) = 0 → (C G Y_X10_isSignHere d [.ref (G.b + 1), .int x1] M (Ri fun r3 M2 => M2.2.2 = M.2.2 ∧ ((r3 = 0 → (C G Y_X10_fail d [.ref (G.b + 1), .int 1] M2 (Rv fun M5 => M5.2.2 = M2.2.2 ∧ Q M5))) ∧ (¬ r3 = 0 → (C G Y_X10_advance d [.ref (G.b + 1)] M2 (Rv fun M6 => M6.2.2 = M2.2.2 ∧ Q M6))))))) ∧ (¬ (M.1 1 6) = 0 → Q M))) : C G Y_X10_skipSign (d + 1) [.ref (G.b + 1), .int x1] M (Rv Q) := by
  refine C.of (by decide) (Nat.le_of_ble_eq_true rfl) (lv := [(0, .ref (G.b + 1)), (1, .int x1)]) rfl ?_
  refine tw_aload_n 0 d_X10_skipSign_0 rfl rfl ?_
  refine tw_getI f_X10_29 hL s_1 (Or.inl rfl) d_X10_skipSign_1 ?_
  refine tw_if_eq 8 d_X10_skipSign_4 (by decide) (fun z1 => ?_) (fun z1 => ?_)
  · replace h := h.1 z1
    refine tw_aload_n 0 d_X10_skipSign_8 rfl rfl ?_
    refine tw_iload_n 1 d_X10_skipSign_9 rfl rfl ?_
    refine tu_cVi (As := [.int x1]) cv_X10_190 hL s_1 rfl (Nat.le_of_ble_eq_true rfl) ⟨Nat.zero_le _, Nat.zero_le _⟩ d_X10_skipSign_10 h (fun r3 M2 h => ?_)
    have hL_M2 : Lay c M2 := hL.to h.1
    replace h := h.2
    refine tw_if_eq 23 d_X10_skipSign_13 (by decide) (fun z4 => ?_) (fun z4 => ?_)
    · replace h := h.1 z4
      refine tw_aload_n 0 d_X10_skipSign_23 rfl rfl ?_
      refine tw_iconst d_X10_skipSign_24 k_1 ?_
      refine tu_cVv (As := [.int 1]) cv_X10_56 hL_M2 s_1 rfl (Nat.le_of_ble_eq_true rfl) ⟨Nat.zero_le _, Nat.zero_le _⟩ d_X10_skipSign_25 h (fun M5 h => ?_)
      have hL_M5 : Lay c M5 := hL_M2.to h.1
      replace h := h.2
      exact tw_vret rfl ⟨Nat.zero_le _, Nat.zero_le _⟩ d_X10_skipSign_28 h
    · replace h := h.2 z4
      refine tw_aload_n 0 d_X10_skipSign_16 rfl rfl ?_
      refine tu_cVv (As := []) cv_X10_35 hL_M2 s_1 rfl (Nat.le_of_ble_eq_true rfl) ⟨Nat.zero_le _, Nat.zero_le _⟩ d_X10_skipSign_17 h (fun M6 h => ?_)
      have hL_M6 : Lay c M6 := hL_M2.to h.1
      replace h := h.2
      refine tw_goto 28 d_X10_skipSign_20 (by decide) ?_
      exact tw_vret rfl ⟨Nat.zero_le _, Nat.zero_le _⟩ d_X10_skipSign_28 h
  · replace h := h.2 z1
    exact tw_vret rfl ⟨Nat.zero_le _, Nat.zero_le _⟩ d_X10_skipSign_7 h

theorem d_X10_isSignHere_0 : decode Y_X10_isSignHere.cc 0 = .ok (.aload_n 0, 1) := by decide +kernel
theorem d_X10_isSignHere_1 : decode Y_X10_isSignHere.cc 1 = .ok (.getfield 38, 3) := by decide +kernel
theorem d_X10_isSignHere_4 : decode Y_X10_isSignHere.cc 4 = .ok (.iconst 3, 1) := by decide +kernel
theorem d_X10_isSignHere_5 : decode Y_X10_isSignHere.cc 5 = .ok (.if_icmp .ne 17, 3) := by decide +kernel
theorem d_X10_isSignHere_8 : decode Y_X10_isSignHere.cc 8 = .ok (.aload_n 0, 1) := by decide +kernel
theorem d_X10_isSignHere_9 : decode Y_X10_isSignHere.cc 9 = .ok (.getfield 155, 3) := by decide +kernel
theorem d_X10_isSignHere_12 : decode Y_X10_isSignHere.cc 12 = .ok (.iload_n 1, 1) := by decide +kernel
theorem d_X10_isSignHere_13 : decode Y_X10_isSignHere.cc 13 = .ok (.i2l, 1) := by decide +kernel
theorem d_X10_isSignHere_14 : decode Y_X10_isSignHere.cc 14 = .ok (.lcmp, 1) := by decide +kernel
theorem d_X10_isSignHere_15 : decode Y_X10_isSignHere.cc 15 = .ok (.ifCond .ne 7, 3) := by decide +kernel
theorem d_X10_isSignHere_18 : decode Y_X10_isSignHere.cc 18 = .ok (.iconst 1, 1) := by decide +kernel
theorem d_X10_isSignHere_19 : decode Y_X10_isSignHere.cc 19 = .ok (.goto 4, 3) := by decide +kernel
theorem d_X10_isSignHere_22 : decode Y_X10_isSignHere.cc 22 = .ok (.iconst 0, 1) := by decide +kernel
theorem d_X10_isSignHere_23 : decode Y_X10_isSignHere.cc 23 = .ok (.ireturn, 1) := by decide +kernel
theorem b_X10_isSignHere {G : MG} {d : Nat} {Q : Int32 → Mm → Prop} {x1 : Int32} {M : Mm} {c : Nat} (hL : Lay c M)  (h : ((¬ (M.1 1 4) = 3 → Q 0 M) ∧ ((M.1 1 4) = 3 → ((¬ (M.2.1 1 5) = x1.toInt64 → Q 0 M) ∧ ((M.2.1 1 5) = x1.toInt64 → Q 1 M))))) : C G Y_X10_isSignHere (d + 1) [.ref (G.b + 1), .int x1] M (Ri Q) := by
  refine C.of (by decide) (Nat.le_of_ble_eq_true rfl) (lv := [(0, .ref (G.b + 1)), (1, .int x1)]) rfl ?_
  refine tw_aload_n 0 d_X10_isSignHere_0 rfl rfl ?_
  refine tw_getI f_X10_38 hL s_1 (Or.inl rfl) d_X10_isSignHere_1 ?_
  refine tw_iconst d_X10_isSignHere_4 k_3 ?_
  refine tw_icmp_ne 22 d_X10_isSignHere_5 (by decide) (fun z1 => ?_) (fun z1 => ?_)
  · replace h := h.1 z1
    refine tw_iconst d_X10_isSignHere_22 k_0 ?_
    exact tw_zret (ty := .boolean) rfl rfl ⟨Nat.zero_le _, Nat.zero_le _⟩ d_X10_isSignHere_23 h
  · replace h := h.2 z1
    refine tw_aload_n 0 d_X10_isSignHere_8 rfl rfl ?_
    refine tw_getJ f_X10_155 hL s_1 rfl d_X10_isSignHere_9 ?_
    refine tw_iload_n 1 d_X10_isSignHere_12 rfl rfl ?_
    refine tw_i2l d_X10_isSignHere_13 ?_
    refine tw_lcmp_ne 22 d_X10_isSignHere_14 d_X10_isSignHere_15 (by decide) (fun z2 => ?_) (fun z2 => ?_)
    · replace h := h.1 z2
      refine tw_iconst d_X10_isSignHere_22 k_0 ?_
      exact tw_zret (ty := .boolean) rfl rfl ⟨Nat.zero_le _, Nat.zero_le _⟩ d_X10_isSignHere_23 h
    · replace h := h.2 z2
      refine tw_iconst d_X10_isSignHere_18 k_1 ?_
      refine tw_goto 23 d_X10_isSignHere_19 (by decide) ?_
      exact tw_zret (ty := .boolean) rfl rfl ⟨Nat.zero_le _, Nat.zero_le _⟩ d_X10_isSignHere_23 h

theorem d_X10_reads_0 : decode Y_X10_reads.cc 0 = .ok (.aload_n 0, 1) := by decide +kernel
theorem d_X10_reads_1 : decode Y_X10_reads.cc 1 = .ok (.getfield 38, 3) := by decide +kernel
theorem d_X10_reads_4 : decode Y_X10_reads.cc 4 = .ok (.iconst 1, 1) := by decide +kernel
theorem d_X10_reads_5 : decode Y_X10_reads.cc 5 = .ok (.if_icmp .ne 19, 3) := by decide +kernel
theorem d_X10_reads_8 : decode Y_X10_reads.cc 8 = .ok (.aload_n 0, 1) := by decide +kernel
theorem d_X10_reads_9 : decode Y_X10_reads.cc 9 = .ok (.getfield 155, 3) := by decide +kernel
theorem d_X10_reads_12 : decode Y_X10_reads.cc 12 = .ok (.aload_n 1, 1) := by decide +kernel
theorem d_X10_reads_13 : decode Y_X10_reads.cc 13 = .ok (.invokestatic 194, 3) := by decide +kernel
theorem d_X10_reads_16 : decode Y_X10_reads.cc 16 = .ok (.lcmp, 1) := by decide +kernel
theorem d_X10_reads_17 : decode Y_X10_reads.cc 17 = .ok (.ifCond .ne 7, 3) := by decide +kernel
theorem d_X10_reads_20 : decode Y_X10_reads.cc 20 = .ok (.iconst 1, 1) := by decide +kernel
theorem d_X10_reads_21 : decode Y_X10_reads.cc 21 = .ok (.goto 4, 3) := by decide +kernel
theorem d_X10_reads_24 : decode Y_X10_reads.cc 24 = .ok (.iconst 0, 1) := by decide +kernel
theorem d_X10_reads_25 : decode Y_X10_reads.cc 25 = .ok (.ireturn, 1) := by decide +kernel
theorem b_X10_reads {G : MG} {d : Nat} {Q : Int32 → Mm → Prop} {a1 : Nat} {M : Mm} {c : Nat} (hL : Lay c M)  (h : ((¬ (M.1 1 4) = 1 → Q 0 M) ∧ ((M.1 1 4) = 1 → (C G Y_X10_packed d [.ref a1] M (Rj fun r3 M2 => M2.2.2 = M.2.2 ∧ ((¬ (M.2.1 1 5) = r3 → Q 0 M2) ∧ ((M.2.1 1 5) = r3 → Q 1 M2))))))) : C G Y_X10_reads (d + 1) [.ref (G.b + 1), .ref a1] M (Ri Q) := by
  refine C.of (by decide) (Nat.le_of_ble_eq_true rfl) (lv := [(0, .ref (G.b + 1)), (1, .ref a1)]) rfl ?_
  refine tw_aload_n 0 d_X10_reads_0 rfl rfl ?_
  refine tw_getI f_X10_38 hL s_1 (Or.inl rfl) d_X10_reads_1 ?_
  refine tw_iconst d_X10_reads_4 k_1 ?_
  refine tw_icmp_ne 24 d_X10_reads_5 (by decide) (fun z1 => ?_) (fun z1 => ?_)
  · replace h := h.1 z1
    refine tw_iconst d_X10_reads_24 k_0 ?_
    exact tw_zret (ty := .boolean) rfl rfl ⟨Nat.zero_le _, Nat.zero_le _⟩ d_X10_reads_25 h
  · replace h := h.2 z1
    refine tw_aload_n 0 d_X10_reads_8 rfl rfl ?_
    refine tw_getJ f_X10_155 hL s_1 rfl d_X10_reads_9 ?_
    refine tw_aload_n 1 d_X10_reads_12 rfl rfl ?_
    refine tu_cSJ (As := [.ref a1]) cs_X10_194 rfl (Nat.le_of_ble_eq_true rfl) ⟨Nat.zero_le _, Nat.zero_le _⟩ d_X10_reads_13 h (fun r3 M2 h => ?_)
    have hL_M2 : Lay c M2 := hL.to h.1
    replace h := h.2
    refine tw_lcmp_ne 24 d_X10_reads_16 d_X10_reads_17 (by decide) (fun z4 => ?_) (fun z4 => ?_)
    · replace h := h.1 z4
      refine tw_iconst d_X10_reads_24 k_0 ?_
      exact tw_zret (ty := .boolean) rfl rfl ⟨Nat.zero_le _, Nat.zero_le _⟩ d_X10_reads_25 h
    · replace h := h.2 z4
      refine tw_iconst d_X10_reads_20 k_1 ?_
      refine tw_goto 25 d_X10_reads_21 (by decide) ?_
      exact tw_zret (ty := .boolean) rfl rfl ⟨Nat.zero_le _, Nat.zero_le _⟩ d_X10_reads_25 h

theorem d_X10_kindHere_0 : decode Y_X10_kindHere.cc 0 = .ok (.aload_n 0, 1) := by decide +kernel
theorem d_X10_kindHere_1 : decode Y_X10_kindHere.cc 1 = .ok (.ldc 198, 2) := by decide +kernel
theorem d_X10_kindHere_3 : decode Y_X10_kindHere.cc 3 = .ok (.invokevirtual 43, 3) := by decide +kernel
theorem d_X10_kindHere_6 : decode Y_X10_kindHere.cc 6 = .ok (.ifCond .eq 7, 3) := by decide +kernel
theorem d_X10_kindHere_9 : decode Y_X10_kindHere.cc 9 = .ok (.iconst 0, 1) := by decide +kernel
theorem d_X10_kindHere_10 : decode Y_X10_kindHere.cc 10 = .ok (.goto 43, 3) := by decide +kernel
theorem d_X10_kindHere_13 : decode Y_X10_kindHere.cc 13 = .ok (.aload_n 0, 1) := by decide +kernel
theorem d_X10_kindHere_14 : decode Y_X10_kindHere.cc 14 = .ok (.ldc 200, 2) := by decide +kernel
theorem d_X10_kindHere_16 : decode Y_X10_kindHere.cc 16 = .ok (.invokevirtual 43, 3) := by decide +kernel
theorem d_X10_kindHere_19 : decode Y_X10_kindHere.cc 19 = .ok (.ifCond .eq 7, 3) := by decide +kernel
theorem d_X10_kindHere_22 : decode Y_X10_kindHere.cc 22 = .ok (.iconst 1, 1) := by decide +kernel
theorem d_X10_kindHere_23 : decode Y_X10_kindHere.cc 23 = .ok (.goto 30, 3) := by decide +kernel
theorem d_X10_kindHere_26 : decode Y_X10_kindHere.cc 26 = .ok (.aload_n 0, 1) := by decide +kernel
theorem d_X10_kindHere_27 : decode Y_X10_kindHere.cc 27 = .ok (.ldc 202, 2) := by decide +kernel
theorem d_X10_kindHere_29 : decode Y_X10_kindHere.cc 29 = .ok (.invokevirtual 43, 3) := by decide +kernel
theorem d_X10_kindHere_32 : decode Y_X10_kindHere.cc 32 = .ok (.ifCond .eq 7, 3) := by decide +kernel
theorem d_X10_kindHere_35 : decode Y_X10_kindHere.cc 35 = .ok (.iconst 2, 1) := by decide +kernel
theorem d_X10_kindHere_36 : decode Y_X10_kindHere.cc 36 = .ok (.goto 17, 3) := by decide +kernel
theorem d_X10_kindHere_39 : decode Y_X10_kindHere.cc 39 = .ok (.aload_n 0, 1) := by decide +kernel
theorem d_X10_kindHere_40 : decode Y_X10_kindHere.cc 40 = .ok (.ldc 204, 2) := by decide +kernel
theorem d_X10_kindHere_42 : decode Y_X10_kindHere.cc 42 = .ok (.invokevirtual 43, 3) := by decide +kernel
theorem d_X10_kindHere_45 : decode Y_X10_kindHere.cc 45 = .ok (.ifCond .eq 7, 3) := by decide +kernel
theorem d_X10_kindHere_48 : decode Y_X10_kindHere.cc 48 = .ok (.iconst 3, 1) := by decide +kernel
theorem d_X10_kindHere_49 : decode Y_X10_kindHere.cc 49 = .ok (.goto 4, 3) := by decide +kernel
theorem d_X10_kindHere_52 : decode Y_X10_kindHere.cc 52 = .ok (.iconst (-1), 1) := by decide +kernel
theorem d_X10_kindHere_53 : decode Y_X10_kindHere.cc 53 = .ok (.ireturn, 1) := by decide +kernel
theorem b_X10_kindHere {G : MG} {d : Nat} {Q : Int32 → Mm → Prop}  {M : Mm} {c : Nat} (hL : Lay c M) (hx_s198_12 : ∀ U, G.X U → vk_R RX10 198 "plain" (G.ad 12) U) (hx_s200_13 : ∀ U, G.X U → vk_R RX10 200 "mirror" (G.ad 13) U) (hx_s202_14 : ∀ U, G.X U → vk_R RX10 202 "stiff" (G.ad 14) U) (hx_s204_15 : ∀ U, G.X U → vk_R RX10 204 "loose" (G.ad 15) U)  (h : (C G Y_X10_reads d [.ref (G.b + 1), .ref (G.ad 12)] M (Ri fun r2 M1 => M1.2.2 = M.2.2 ∧ ((r2 = 0 → (C G Y_X10_reads d [.ref (G.b + 1), .ref (G.ad 13)] M1 (Ri fun r5 M4 => M4.2.2 = M1.2.2 ∧ ((r5 = 0 → (C G Y_X10_reads d [.ref (G.b + 1), .ref (G.ad 14)] M4 (Ri fun r8 M7 => M7.2.2 = M4.2.2 ∧ ((r8 = 0 → (C G Y_X10_reads d [.ref (G.b + 1), .ref (G.ad 15)] M7 (Ri fun r11 M10 => M10.2.2 = M7.2.2 ∧ ((r11 = 0 → Q (-1) M10) ∧ (¬ r11 = 0 → Q 3 M10))))) ∧ (¬ r8 = 0 → Q 2 M7))))) ∧ (¬ r5 = 0 → Q 1 M4))))) ∧ (¬ r2 = 0 → Q 0 M1))))) : C G Y_X10_kindHere (d + 1) [.ref (G.b + 1)] M (Ri Q) := by
  refine C.of (by decide) (Nat.le_of_ble_eq_true rfl) (lv := [(0, .ref (G.b + 1))]) rfl ?_
  refine tw_aload_n 0 d_X10_kindHere_0 rfl rfl ?_
  refine tw_ldcS hx_s198_12 d_X10_kindHere_1 ?_
  refine tu_cVi (As := [.ref (G.ad 12)]) cv_X10_43 hL s_1 rfl (Nat.le_of_ble_eq_true rfl) ⟨Nat.zero_le _, Nat.zero_le _⟩ d_X10_kindHere_3 h (fun r2 M1 h => ?_)
  have hL_M1 : Lay c M1 := hL.to h.1
  replace h := h.2
  refine tw_if_eq 13 d_X10_kindHere_6 (by decide) (fun z3 => ?_) (fun z3 => ?_)
  · replace h := h.1 z3
    refine tw_aload_n 0 d_X10_kindHere_13 rfl rfl ?_
    refine tw_ldcS hx_s200_13 d_X10_kindHere_14 ?_
    refine tu_cVi (As := [.ref (G.ad 13)]) cv_X10_43 hL_M1 s_1 rfl (Nat.le_of_ble_eq_true rfl) ⟨Nat.zero_le _, Nat.zero_le _⟩ d_X10_kindHere_16 h (fun r5 M4 h => ?_)
    have hL_M4 : Lay c M4 := hL_M1.to h.1
    replace h := h.2
    refine tw_if_eq 26 d_X10_kindHere_19 (by decide) (fun z6 => ?_) (fun z6 => ?_)
    · replace h := h.1 z6
      refine tw_aload_n 0 d_X10_kindHere_26 rfl rfl ?_
      refine tw_ldcS hx_s202_14 d_X10_kindHere_27 ?_
      refine tu_cVi (As := [.ref (G.ad 14)]) cv_X10_43 hL_M4 s_1 rfl (Nat.le_of_ble_eq_true rfl) ⟨Nat.zero_le _, Nat.zero_le _⟩ d_X10_kindHere_29 h (fun r8 M7 h => ?_)
      have hL_M7 : Lay c M7 := hL_M4.to h.1
      replace h := h.2
      refine tw_if_eq 39 d_X10_kindHere_32 (by decide) (fun z9 => ?_) (fun z9 => ?_)
      · replace h := h.1 z9
        refine tw_aload_n 0 d_X10_kindHere_39 rfl rfl ?_
        refine tw_ldcS hx_s204_15 d_X10_kindHere_40 ?_
        refine tu_cVi (As := [.ref (G.ad 15)]) cv_X10_43 hL_M7 s_1 rfl (Nat.le_of_ble_eq_true rfl) ⟨Nat.zero_le _, Nat.zero_le _⟩ d_X10_kindHere_42 h (fun r11 M10 h => ?_)
        have hL_M10 : Lay c M10 := hL_M7.to h.1
        replace h := h.2
        refine tw_if_eq 52 d_X10_kindHere_45 (by decide) (fun z12 => ?_) (fun z12 => ?_)
        · replace h := h.1 z12
          refine tw_iconst d_X10_kindHere_52 k_m1 ?_
          exact tw_iret rfl ⟨Nat.zero_le _, Nat.zero_le _⟩ d_X10_kindHere_53 h
        · replace h := h.2 z12
          refine tw_iconst d_X10_kindHere_48 k_3 ?_
          refine tw_goto 53 d_X10_kindHere_49 (by decide) ?_
          exact tw_iret rfl ⟨Nat.zero_le _, Nat.zero_le _⟩ d_X10_kindHere_53 h
      · replace h := h.2 z9
        refine tw_iconst d_X10_kindHere_35 k_2 ?_
        refine tw_goto 53 d_X10_kindHere_36 (by decide) ?_
        exact tw_iret rfl ⟨Nat.zero_le _, Nat.zero_le _⟩ d_X10_kindHere_53 h
    · replace h := h.2 z6
      refine tw_iconst d_X10_kindHere_22 k_1 ?_
      refine tw_goto 53 d_X10_kindHere_23 (by decide) ?_
      exact tw_iret rfl ⟨Nat.zero_le _, Nat.zero_le _⟩ d_X10_kindHere_53 h
  · replace h := h.2 z3
    refine tw_iconst d_X10_kindHere_9 k_0 ?_
    refine tw_goto 53 d_X10_kindHere_10 (by decide) ?_
    exact tw_iret rfl ⟨Nat.zero_le _, Nat.zero_le _⟩ d_X10_kindHere_53 h

theorem d_X10_isReserved_0 : decode Y_X10_isReserved.cc 0 = .ok (.aload_n 0, 1) := by decide +kernel
theorem d_X10_isReserved_1 : decode Y_X10_isReserved.cc 1 = .ok (.ldc 41, 2) := by decide +kernel
theorem d_X10_isReserved_3 : decode Y_X10_isReserved.cc 3 = .ok (.invokevirtual 43, 3) := by decide +kernel
theorem d_X10_isReserved_6 : decode Y_X10_isReserved.cc 6 = .ok (.ifCond .ne 102, 3) := by decide +kernel
theorem d_X10_isReserved_9 : decode Y_X10_isReserved.cc 9 = .ok (.aload_n 0, 1) := by decide +kernel
theorem d_X10_isReserved_10 : decode Y_X10_isReserved.cc 10 = .ok (.ldc 162, 2) := by decide +kernel
theorem d_X10_isReserved_12 : decode Y_X10_isReserved.cc 12 = .ok (.invokevirtual 43, 3) := by decide +kernel
theorem d_X10_isReserved_15 : decode Y_X10_isReserved.cc 15 = .ok (.ifCond .ne 93, 3) := by decide +kernel
theorem d_X10_isReserved_18 : decode Y_X10_isReserved.cc 18 = .ok (.aload_n 0, 1) := by decide +kernel
theorem d_X10_isReserved_19 : decode Y_X10_isReserved.cc 19 = .ok (.ldc 85, 2) := by decide +kernel
theorem d_X10_isReserved_21 : decode Y_X10_isReserved.cc 21 = .ok (.invokevirtual 43, 3) := by decide +kernel
theorem d_X10_isReserved_24 : decode Y_X10_isReserved.cc 24 = .ok (.ifCond .ne 84, 3) := by decide +kernel
theorem d_X10_isReserved_27 : decode Y_X10_isReserved.cc 27 = .ok (.aload_n 0, 1) := by decide +kernel
theorem d_X10_isReserved_28 : decode Y_X10_isReserved.cc 28 = .ok (.ldc 94, 2) := by decide +kernel
theorem d_X10_isReserved_30 : decode Y_X10_isReserved.cc 30 = .ok (.invokevirtual 43, 3) := by decide +kernel
theorem d_X10_isReserved_33 : decode Y_X10_isReserved.cc 33 = .ok (.ifCond .ne 75, 3) := by decide +kernel
theorem d_X10_isReserved_36 : decode Y_X10_isReserved.cc 36 = .ok (.aload_n 0, 1) := by decide +kernel
theorem d_X10_isReserved_37 : decode Y_X10_isReserved.cc 37 = .ok (.ldc 106, 2) := by decide +kernel
theorem d_X10_isReserved_39 : decode Y_X10_isReserved.cc 39 = .ok (.invokevirtual 43, 3) := by decide +kernel
theorem d_X10_isReserved_42 : decode Y_X10_isReserved.cc 42 = .ok (.ifCond .ne 66, 3) := by decide +kernel
theorem d_X10_isReserved_45 : decode Y_X10_isReserved.cc 45 = .ok (.aload_n 0, 1) := by decide +kernel
theorem d_X10_isReserved_46 : decode Y_X10_isReserved.cc 46 = .ok (.ldc 110, 2) := by decide +kernel
theorem d_X10_isReserved_48 : decode Y_X10_isReserved.cc 48 = .ok (.invokevirtual 43, 3) := by decide +kernel
theorem d_X10_isReserved_51 : decode Y_X10_isReserved.cc 51 = .ok (.ifCond .ne 57, 3) := by decide +kernel
theorem d_X10_isReserved_54 : decode Y_X10_isReserved.cc 54 = .ok (.aload_n 0, 1) := by decide +kernel
theorem d_X10_isReserved_55 : decode Y_X10_isReserved.cc 55 = .ok (.ldc 114, 2) := by decide +kernel
theorem d_X10_isReserved_57 : decode Y_X10_isReserved.cc 57 = .ok (.invokevirtual 43, 3) := by decide +kernel
theorem d_X10_isReserved_60 : decode Y_X10_isReserved.cc 60 = .ok (.ifCond .ne 48, 3) := by decide +kernel
theorem d_X10_isReserved_63 : decode Y_X10_isReserved.cc 63 = .ok (.aload_n 0, 1) := by decide +kernel
theorem d_X10_isReserved_64 : decode Y_X10_isReserved.cc 64 = .ok (.ldc 51, 2) := by decide +kernel
theorem d_X10_isReserved_66 : decode Y_X10_isReserved.cc 66 = .ok (.invokevirtual 43, 3) := by decide +kernel
theorem d_X10_isReserved_69 : decode Y_X10_isReserved.cc 69 = .ok (.ifCond .ne 39, 3) := by decide +kernel
theorem d_X10_isReserved_72 : decode Y_X10_isReserved.cc 72 = .ok (.aload_n 0, 1) := by decide +kernel
theorem d_X10_isReserved_73 : decode Y_X10_isReserved.cc 73 = .ok (.ldc 130, 2) := by decide +kernel
theorem d_X10_isReserved_75 : decode Y_X10_isReserved.cc 75 = .ok (.invokevirtual 43, 3) := by decide +kernel
theorem d_X10_isReserved_78 : decode Y_X10_isReserved.cc 78 = .ok (.ifCond .ne 30, 3) := by decide +kernel
theorem d_X10_isReserved_81 : decode Y_X10_isReserved.cc 81 = .ok (.aload_n 0, 1) := by decide +kernel
theorem d_X10_isReserved_82 : decode Y_X10_isReserved.cc 82 = .ok (.ldc 135, 2) := by decide +kernel
theorem d_X10_isReserved_84 : decode Y_X10_isReserved.cc 84 = .ok (.invokevirtual 43, 3) := by decide +kernel
theorem d_X10_isReserved_87 : decode Y_X10_isReserved.cc 87 = .ok (.ifCond .ne 21, 3) := by decide +kernel
theorem d_X10_isReserved_90 : decode Y_X10_isReserved.cc 90 = .ok (.aload_n 0, 1) := by decide +kernel
theorem d_X10_isReserved_91 : decode Y_X10_isReserved.cc 91 = .ok (.ldc 140, 2) := by decide +kernel
theorem d_X10_isReserved_93 : decode Y_X10_isReserved.cc 93 = .ok (.invokevirtual 43, 3) := by decide +kernel
theorem d_X10_isReserved_96 : decode Y_X10_isReserved.cc 96 = .ok (.ifCond .ne 12, 3) := by decide +kernel
theorem d_X10_isReserved_99 : decode Y_X10_isReserved.cc 99 = .ok (.aload_n 0, 1) := by decide +kernel
theorem d_X10_isReserved_100 : decode Y_X10_isReserved.cc 100 = .ok (.ldc 179, 2) := by decide +kernel
theorem d_X10_isReserved_102 : decode Y_X10_isReserved.cc 102 = .ok (.invokevirtual 43, 3) := by decide +kernel
theorem d_X10_isReserved_105 : decode Y_X10_isReserved.cc 105 = .ok (.ifCond .eq 7, 3) := by decide +kernel
theorem d_X10_isReserved_108 : decode Y_X10_isReserved.cc 108 = .ok (.iconst 1, 1) := by decide +kernel
theorem d_X10_isReserved_109 : decode Y_X10_isReserved.cc 109 = .ok (.goto 4, 3) := by decide +kernel
theorem d_X10_isReserved_112 : decode Y_X10_isReserved.cc 112 = .ok (.iconst 0, 1) := by decide +kernel
theorem d_X10_isReserved_113 : decode Y_X10_isReserved.cc 113 = .ok (.ireturn, 1) := by decide +kernel
theorem b_X10_isReserved {G : MG} {d : Nat} {Q : Int32 → Mm → Prop}  {M : Mm} {c : Nat} (hL : Lay c M) (hx_s41_0 : ∀ U, G.X U → vk_R RX10 41 "arm" (G.ad 0) U) (hx_s162_1 : ∀ U, G.X U → vk_R RX10 162 "holes" (G.ad 1) U) (hx_s85_2 : ∀ U, G.X U → vk_R RX10 85 "turn" (G.ad 2) U) (hx_s94_3 : ∀ U, G.X U → vk_R RX10 94 "at" (G.ad 3) U) (hx_s106_4 : ∀ U, G.X U → vk_R RX10 106 "reach" (G.ad 4) U) (hx_s110_5 : ∀ U, G.X U → vk_R RX10 110 "shake" (G.ad 5) U) (hx_s114_6 : ∀ U, G.X U → vk_R RX10 114 "bend" (G.ad 6) U) (hx_s51_7 : ∀ U, G.X U → vk_R RX10 51 "map" (G.ad 7) U) (hx_s130_8 : ∀ U, G.X U → vk_R RX10 130 "size" (G.ad 8) U) (hx_s135_9 : ∀ U, G.X U → vk_R RX10 135 "to" (G.ad 9) U) (hx_s140_10 : ∀ U, G.X U → vk_R RX10 140 "slips" (G.ad 10) U) (hx_s179_11 : ∀ U, G.X U → vk_R RX10 179 "points" (G.ad 11) U)  (h : (C G Y_X10_reads d [.ref (G.b + 1), .ref (G.ad 0)] M (Ri fun r2 M1 => M1.2.2 = M.2.2 ∧ ((¬ r2 = 0 → Q 1 M1) ∧ (r2 = 0 → (C G Y_X10_reads d [.ref (G.b + 1), .ref (G.ad 1)] M1 (Ri fun r5 M4 => M4.2.2 = M1.2.2 ∧ ((¬ r5 = 0 → Q 1 M4) ∧ (r5 = 0 → (C G Y_X10_reads d [.ref (G.b + 1), .ref (G.ad 2)] M4 (Ri fun r8 M7 => M7.2.2 = M4.2.2 ∧ ((¬ r8 = 0 → Q 1 M7) ∧ (r8 = 0 → (C G Y_X10_reads d [.ref (G.b + 1), .ref (G.ad 3)] M7 (Ri fun r11 M10 => M10.2.2 = M7.2.2 ∧ ((¬ r11 = 0 → Q 1 M10) ∧ (r11 = 0 → (C G Y_X10_reads d [.ref (G.b + 1), .ref (G.ad 4)] M10 (Ri fun r14 M13 => M13.2.2 = M10.2.2 ∧ ((¬ r14 = 0 → Q 1 M13) ∧ (r14 = 0 → (C G Y_X10_reads d [.ref (G.b + 1), .ref (G.ad 5)] M13 (Ri fun r17 M16 => M16.2.2 = M13.2.2 ∧ ((¬ r17 = 0 → Q 1 M16) ∧ (r17 = 0 → (C G Y_X10_reads d [.ref (G.b + 1), .ref (G.ad 6)] M16 (Ri fun r20 M19 => M19.2.2 = M16.2.2 ∧ ((¬ r20 = 0 → Q 1 M19) ∧ (r20 = 0 → (C G Y_X10_reads d [.ref (G.b + 1), .ref (G.ad 7)] M19 (Ri fun r23 M22 => M22.2.2 = M19.2.2 ∧ ((¬ r23 = 0 → Q 1 M22) ∧ (r23 = 0 → (C G Y_X10_reads d [.ref (G.b + 1), .ref (G.ad 8)] M22 (Ri fun r26 M25 => M25.2.2 = M22.2.2 ∧ ((¬ r26 = 0 → Q 1 M25) ∧ (r26 = 0 → (C G Y_X10_reads d [.ref (G.b + 1), .ref (G.ad 9)] M25 (Ri fun r29 M28 => M28.2.2 = M25.2.2 ∧ ((¬ r29 = 0 → Q 1 M28) ∧ (r29 = 0 → (C G Y_X10_reads d [.ref (G.b + 1), .ref (G.ad 10)] M28 (Ri fun r32 M31 => M31.2.2 = M28.2.2 ∧ ((¬ r32 = 0 → Q 1 M31) ∧ (r32 = 0 → (C G Y_X10_reads d [.ref (G.b + 1), .ref (G.ad 11)] M31 (Ri fun r35 M34 => M34.2.2 = M31.2.2 ∧ ((r35 = 0 → Q 0 M34) ∧ (¬ r35 = 0 → Q 1 M34))))))))))))))))))))))))))))))))))))))))))))))))) : C G Y_X10_isReserved (d + 1) [.ref (G.b + 1)] M (Ri Q) := by
  refine C.of (by decide) (Nat.le_of_ble_eq_true rfl) (lv := [(0, .ref (G.b + 1))]) rfl ?_
  refine tw_aload_n 0 d_X10_isReserved_0 rfl rfl ?_
  refine tw_ldcS hx_s41_0 d_X10_isReserved_1 ?_
  refine tu_cVi (As := [.ref (G.ad 0)]) cv_X10_43 hL s_1 rfl (Nat.le_of_ble_eq_true rfl) ⟨Nat.zero_le _, Nat.zero_le _⟩ d_X10_isReserved_3 h (fun r2 M1 h => ?_)
  have hL_M1 : Lay c M1 := hL.to h.1
  replace h := h.2
  refine tw_if_ne 108 d_X10_isReserved_6 (by decide) (fun z3 => ?_) (fun z3 => ?_)
  · replace h := h.1 z3
    refine tw_iconst d_X10_isReserved_108 k_1 ?_
    refine tw_goto 113 d_X10_isReserved_109 (by decide) ?_
    exact tw_zret (ty := .boolean) rfl rfl ⟨Nat.zero_le _, Nat.zero_le _⟩ d_X10_isReserved_113 h
  · replace h := h.2 z3
    refine tw_aload_n 0 d_X10_isReserved_9 rfl rfl ?_
    refine tw_ldcS hx_s162_1 d_X10_isReserved_10 ?_
    refine tu_cVi (As := [.ref (G.ad 1)]) cv_X10_43 hL_M1 s_1 rfl (Nat.le_of_ble_eq_true rfl) ⟨Nat.zero_le _, Nat.zero_le _⟩ d_X10_isReserved_12 h (fun r5 M4 h => ?_)
    have hL_M4 : Lay c M4 := hL_M1.to h.1
    replace h := h.2
    refine tw_if_ne 108 d_X10_isReserved_15 (by decide) (fun z6 => ?_) (fun z6 => ?_)
    · replace h := h.1 z6
      refine tw_iconst d_X10_isReserved_108 k_1 ?_
      refine tw_goto 113 d_X10_isReserved_109 (by decide) ?_
      exact tw_zret (ty := .boolean) rfl rfl ⟨Nat.zero_le _, Nat.zero_le _⟩ d_X10_isReserved_113 h
    · replace h := h.2 z6
      refine tw_aload_n 0 d_X10_isReserved_18 rfl rfl ?_
      refine tw_ldcS hx_s85_2 d_X10_isReserved_19 ?_
      refine tu_cVi (As := [.ref (G.ad 2)]) cv_X10_43 hL_M4 s_1 rfl (Nat.le_of_ble_eq_true rfl) ⟨Nat.zero_le _, Nat.zero_le _⟩ d_X10_isReserved_21 h (fun r8 M7 h => ?_)
      have hL_M7 : Lay c M7 := hL_M4.to h.1
      replace h := h.2
      refine tw_if_ne 108 d_X10_isReserved_24 (by decide) (fun z9 => ?_) (fun z9 => ?_)
      · replace h := h.1 z9
        refine tw_iconst d_X10_isReserved_108 k_1 ?_
        refine tw_goto 113 d_X10_isReserved_109 (by decide) ?_
        exact tw_zret (ty := .boolean) rfl rfl ⟨Nat.zero_le _, Nat.zero_le _⟩ d_X10_isReserved_113 h
      · replace h := h.2 z9
        refine tw_aload_n 0 d_X10_isReserved_27 rfl rfl ?_
        refine tw_ldcS hx_s94_3 d_X10_isReserved_28 ?_
        refine tu_cVi (As := [.ref (G.ad 3)]) cv_X10_43 hL_M7 s_1 rfl (Nat.le_of_ble_eq_true rfl) ⟨Nat.zero_le _, Nat.zero_le _⟩ d_X10_isReserved_30 h (fun r11 M10 h => ?_)
        have hL_M10 : Lay c M10 := hL_M7.to h.1
        replace h := h.2
        refine tw_if_ne 108 d_X10_isReserved_33 (by decide) (fun z12 => ?_) (fun z12 => ?_)
        · replace h := h.1 z12
          refine tw_iconst d_X10_isReserved_108 k_1 ?_
          refine tw_goto 113 d_X10_isReserved_109 (by decide) ?_
          exact tw_zret (ty := .boolean) rfl rfl ⟨Nat.zero_le _, Nat.zero_le _⟩ d_X10_isReserved_113 h
        · replace h := h.2 z12
          refine tw_aload_n 0 d_X10_isReserved_36 rfl rfl ?_
          refine tw_ldcS hx_s106_4 d_X10_isReserved_37 ?_
          refine tu_cVi (As := [.ref (G.ad 4)]) cv_X10_43 hL_M10 s_1 rfl (Nat.le_of_ble_eq_true rfl) ⟨Nat.zero_le _, Nat.zero_le _⟩ d_X10_isReserved_39 h (fun r14 M13 h => ?_)
          have hL_M13 : Lay c M13 := hL_M10.to h.1
          replace h := h.2
          refine tw_if_ne 108 d_X10_isReserved_42 (by decide) (fun z15 => ?_) (fun z15 => ?_)
          · replace h := h.1 z15
            refine tw_iconst d_X10_isReserved_108 k_1 ?_
            refine tw_goto 113 d_X10_isReserved_109 (by decide) ?_
            exact tw_zret (ty := .boolean) rfl rfl ⟨Nat.zero_le _, Nat.zero_le _⟩ d_X10_isReserved_113 h
          · replace h := h.2 z15
            refine tw_aload_n 0 d_X10_isReserved_45 rfl rfl ?_
            refine tw_ldcS hx_s110_5 d_X10_isReserved_46 ?_
            refine tu_cVi (As := [.ref (G.ad 5)]) cv_X10_43 hL_M13 s_1 rfl (Nat.le_of_ble_eq_true rfl) ⟨Nat.zero_le _, Nat.zero_le _⟩ d_X10_isReserved_48 h (fun r17 M16 h => ?_)
            have hL_M16 : Lay c M16 := hL_M13.to h.1
            replace h := h.2
            refine tw_if_ne 108 d_X10_isReserved_51 (by decide) (fun z18 => ?_) (fun z18 => ?_)
            · replace h := h.1 z18
              refine tw_iconst d_X10_isReserved_108 k_1 ?_
              refine tw_goto 113 d_X10_isReserved_109 (by decide) ?_
              exact tw_zret (ty := .boolean) rfl rfl ⟨Nat.zero_le _, Nat.zero_le _⟩ d_X10_isReserved_113 h
            · replace h := h.2 z18
              refine tw_aload_n 0 d_X10_isReserved_54 rfl rfl ?_
              refine tw_ldcS hx_s114_6 d_X10_isReserved_55 ?_
              refine tu_cVi (As := [.ref (G.ad 6)]) cv_X10_43 hL_M16 s_1 rfl (Nat.le_of_ble_eq_true rfl) ⟨Nat.zero_le _, Nat.zero_le _⟩ d_X10_isReserved_57 h (fun r20 M19 h => ?_)
              have hL_M19 : Lay c M19 := hL_M16.to h.1
              replace h := h.2
              refine tw_if_ne 108 d_X10_isReserved_60 (by decide) (fun z21 => ?_) (fun z21 => ?_)
              · replace h := h.1 z21
                refine tw_iconst d_X10_isReserved_108 k_1 ?_
                refine tw_goto 113 d_X10_isReserved_109 (by decide) ?_
                exact tw_zret (ty := .boolean) rfl rfl ⟨Nat.zero_le _, Nat.zero_le _⟩ d_X10_isReserved_113 h
              · replace h := h.2 z21
                refine tw_aload_n 0 d_X10_isReserved_63 rfl rfl ?_
                refine tw_ldcS hx_s51_7 d_X10_isReserved_64 ?_
                refine tu_cVi (As := [.ref (G.ad 7)]) cv_X10_43 hL_M19 s_1 rfl (Nat.le_of_ble_eq_true rfl) ⟨Nat.zero_le _, Nat.zero_le _⟩ d_X10_isReserved_66 h (fun r23 M22 h => ?_)
                have hL_M22 : Lay c M22 := hL_M19.to h.1
                replace h := h.2
                refine tw_if_ne 108 d_X10_isReserved_69 (by decide) (fun z24 => ?_) (fun z24 => ?_)
                · replace h := h.1 z24
                  refine tw_iconst d_X10_isReserved_108 k_1 ?_
                  refine tw_goto 113 d_X10_isReserved_109 (by decide) ?_
                  exact tw_zret (ty := .boolean) rfl rfl ⟨Nat.zero_le _, Nat.zero_le _⟩ d_X10_isReserved_113 h
                · replace h := h.2 z24
                  refine tw_aload_n 0 d_X10_isReserved_72 rfl rfl ?_
                  refine tw_ldcS hx_s130_8 d_X10_isReserved_73 ?_
                  refine tu_cVi (As := [.ref (G.ad 8)]) cv_X10_43 hL_M22 s_1 rfl (Nat.le_of_ble_eq_true rfl) ⟨Nat.zero_le _, Nat.zero_le _⟩ d_X10_isReserved_75 h (fun r26 M25 h => ?_)
                  have hL_M25 : Lay c M25 := hL_M22.to h.1
                  replace h := h.2
                  refine tw_if_ne 108 d_X10_isReserved_78 (by decide) (fun z27 => ?_) (fun z27 => ?_)
                  · replace h := h.1 z27
                    refine tw_iconst d_X10_isReserved_108 k_1 ?_
                    refine tw_goto 113 d_X10_isReserved_109 (by decide) ?_
                    exact tw_zret (ty := .boolean) rfl rfl ⟨Nat.zero_le _, Nat.zero_le _⟩ d_X10_isReserved_113 h
                  · replace h := h.2 z27
                    refine tw_aload_n 0 d_X10_isReserved_81 rfl rfl ?_
                    refine tw_ldcS hx_s135_9 d_X10_isReserved_82 ?_
                    refine tu_cVi (As := [.ref (G.ad 9)]) cv_X10_43 hL_M25 s_1 rfl (Nat.le_of_ble_eq_true rfl) ⟨Nat.zero_le _, Nat.zero_le _⟩ d_X10_isReserved_84 h (fun r29 M28 h => ?_)
                    have hL_M28 : Lay c M28 := hL_M25.to h.1
                    replace h := h.2
                    refine tw_if_ne 108 d_X10_isReserved_87 (by decide) (fun z30 => ?_) (fun z30 => ?_)
                    · replace h := h.1 z30
                      refine tw_iconst d_X10_isReserved_108 k_1 ?_
                      refine tw_goto 113 d_X10_isReserved_109 (by decide) ?_
                      exact tw_zret (ty := .boolean) rfl rfl ⟨Nat.zero_le _, Nat.zero_le _⟩ d_X10_isReserved_113 h
                    · replace h := h.2 z30
                      refine tw_aload_n 0 d_X10_isReserved_90 rfl rfl ?_
                      refine tw_ldcS hx_s140_10 d_X10_isReserved_91 ?_
                      refine tu_cVi (As := [.ref (G.ad 10)]) cv_X10_43 hL_M28 s_1 rfl (Nat.le_of_ble_eq_true rfl) ⟨Nat.zero_le _, Nat.zero_le _⟩ d_X10_isReserved_93 h (fun r32 M31 h => ?_)
                      have hL_M31 : Lay c M31 := hL_M28.to h.1
                      replace h := h.2
                      refine tw_if_ne 108 d_X10_isReserved_96 (by decide) (fun z33 => ?_) (fun z33 => ?_)
                      · replace h := h.1 z33
                        refine tw_iconst d_X10_isReserved_108 k_1 ?_
                        refine tw_goto 113 d_X10_isReserved_109 (by decide) ?_
                        exact tw_zret (ty := .boolean) rfl rfl ⟨Nat.zero_le _, Nat.zero_le _⟩ d_X10_isReserved_113 h
                      · replace h := h.2 z33
                        refine tw_aload_n 0 d_X10_isReserved_99 rfl rfl ?_
                        refine tw_ldcS hx_s179_11 d_X10_isReserved_100 ?_
                        refine tu_cVi (As := [.ref (G.ad 11)]) cv_X10_43 hL_M31 s_1 rfl (Nat.le_of_ble_eq_true rfl) ⟨Nat.zero_le _, Nat.zero_le _⟩ d_X10_isReserved_102 h (fun r35 M34 h => ?_)
                        have hL_M34 : Lay c M34 := hL_M31.to h.1
                        replace h := h.2
                        refine tw_if_eq 112 d_X10_isReserved_105 (by decide) (fun z36 => ?_) (fun z36 => ?_)
                        · replace h := h.1 z36
                          refine tw_iconst d_X10_isReserved_112 k_0 ?_
                          exact tw_zret (ty := .boolean) rfl rfl ⟨Nat.zero_le _, Nat.zero_le _⟩ d_X10_isReserved_113 h
                        · replace h := h.2 z36
                          refine tw_iconst d_X10_isReserved_108 k_1 ?_
                          refine tw_goto 113 d_X10_isReserved_109 (by decide) ?_
                          exact tw_zret (ty := .boolean) rfl rfl ⟨Nat.zero_le _, Nat.zero_le _⟩ d_X10_isReserved_113 h

theorem d_X10_fail_0 : decode Y_X10_fail.cc 0 = .ok (.aload_n 0, 1) := by decide +kernel
theorem d_X10_fail_1 : decode Y_X10_fail.cc 1 = .ok (.getfield 29, 3) := by decide +kernel
theorem d_X10_fail_4 : decode Y_X10_fail.cc 4 = .ok (.ifCond .ne 16, 3) := by decide +kernel
theorem d_X10_fail_7 : decode Y_X10_fail.cc 7 = .ok (.aload_n 0, 1) := by decide +kernel
theorem d_X10_fail_8 : decode Y_X10_fail.cc 8 = .ok (.iload_n 1, 1) := by decide +kernel
theorem d_X10_fail_9 : decode Y_X10_fail.cc 9 = .ok (.bipush 16, 2) := by decide +kernel
theorem d_X10_fail_11 : decode Y_X10_fail.cc 11 = .ok (.aload_n 0, 1) := by decide +kernel
theorem d_X10_fail_12 : decode Y_X10_fail.cc 12 = .ok (.getfield 206, 3) := by decide +kernel
theorem d_X10_fail_15 : decode Y_X10_fail.cc 15 = .ok (.imul, 1) := by decide +kernel
theorem d_X10_fail_16 : decode Y_X10_fail.cc 16 = .ok (.iadd, 1) := by decide +kernel
theorem d_X10_fail_17 : decode Y_X10_fail.cc 17 = .ok (.putfield 29, 3) := by decide +kernel
theorem d_X10_fail_20 : decode Y_X10_fail.cc 20 = .ok (.return_, 1) := by decide +kernel
theorem b_X10_fail {G : MG} {d : Nat} {Q : Mm → Prop} {x1 : Int32} {M : Mm} {c : Nat} (hL : Lay c M)  (h : ((¬ (M.1 1 6) = 0 → Q M) ∧ ((M.1 1 6) = 0 → (∀ M2 : Mm, M2 = sI M 1 6 (x1 + (16 * (M.1 1 2))) → Q M2)))) : C G Y_X10_fail (d + 1) [.ref (G.b + 1), .int x1] M (Rv Q) := by
  refine C.of (by decide) (Nat.le_of_ble_eq_true rfl) (lv := [(0, .ref (G.b + 1)), (1, .int x1)]) rfl ?_
  refine tw_aload_n 0 d_X10_fail_0 rfl rfl ?_
  refine tw_getI f_X10_29 hL s_1 (Or.inl rfl) d_X10_fail_1 ?_
  refine tw_if_ne 20 d_X10_fail_4 (by decide) (fun z1 => ?_) (fun z1 => ?_)
  · replace h := h.1 z1
    exact tw_vret rfl ⟨Nat.zero_le _, Nat.zero_le _⟩ d_X10_fail_20 h
  · replace h := h.2 z1
    refine tw_aload_n 0 d_X10_fail_7 rfl rfl ?_
    refine tw_iload_n 1 d_X10_fail_8 rfl rfl ?_
    refine tw_bipush d_X10_fail_9 kb_16 ?_
    refine tw_aload_n 0 d_X10_fail_11 rfl rfl ?_
    refine tw_getI f_X10_206 hL s_1 (Or.inl rfl) d_X10_fail_12 ?_
    refine tw_imul d_X10_fail_15 ?_
    refine tw_iadd d_X10_fail_16 ?_
    refine tu_putI f_X10_29 hL s_1 rfl rfl d_X10_fail_17 (fun M2 e_M2 hL_M2 => ?_)
    replace h := h M2 e_M2
    exact tw_vret rfl ⟨Nat.zero_le _, Nat.zero_le _⟩ d_X10_fail_20 h

theorem d_X10_advance_0 : decode Y_X10_advance.cc 0 = .ok (.aload_n 0, 1) := by decide +kernel
theorem d_X10_advance_1 : decode Y_X10_advance.cc 1 = .ok (.aload_n 0, 1) := by decide +kernel
theorem d_X10_advance_2 : decode Y_X10_advance.cc 2 = .ok (.getfield 32, 3) := by decide +kernel
theorem d_X10_advance_5 : decode Y_X10_advance.cc 5 = .ok (.putfield 206, 3) := by decide +kernel
theorem d_X10_advance_8 : decode Y_X10_advance.cc 8 = .ok (.aload_n 0, 1) := by decide +kernel
theorem d_X10_advance_9 : decode Y_X10_advance.cc 9 = .ok (.getfield 206, 3) := by decide +kernel
theorem d_X10_advance_12 : decode Y_X10_advance.cc 12 = .ok (.aload_n 0, 1) := by decide +kernel
theorem d_X10_advance_13 : decode Y_X10_advance.cc 13 = .ok (.getfield 17, 3) := by decide +kernel
theorem d_X10_advance_16 : decode Y_X10_advance.cc 16 = .ok (.if_icmp .ge 31, 3) := by decide +kernel
theorem d_X10_advance_19 : decode Y_X10_advance.cc 19 = .ok (.aload_n 0, 1) := by decide +kernel
theorem d_X10_advance_20 : decode Y_X10_advance.cc 20 = .ok (.getfield 9, 3) := by decide +kernel
theorem d_X10_advance_23 : decode Y_X10_advance.cc 23 = .ok (.aload_n 0, 1) := by decide +kernel
theorem d_X10_advance_24 : decode Y_X10_advance.cc 24 = .ok (.getfield 206, 3) := by decide +kernel
theorem d_X10_advance_27 : decode Y_X10_advance.cc 27 = .ok (.caload, 1) := by decide +kernel
theorem d_X10_advance_28 : decode Y_X10_advance.cc 28 = .ok (.invokestatic 209, 3) := by decide +kernel
theorem d_X10_advance_31 : decode Y_X10_advance.cc 31 = .ok (.ifCond .eq 16, 3) := by decide +kernel
theorem d_X10_advance_34 : decode Y_X10_advance.cc 34 = .ok (.aload_n 0, 1) := by decide +kernel
theorem d_X10_advance_35 : decode Y_X10_advance.cc 35 = .ok (.dup, 1) := by decide +kernel
theorem d_X10_advance_36 : decode Y_X10_advance.cc 36 = .ok (.getfield 206, 3) := by decide +kernel
theorem d_X10_advance_39 : decode Y_X10_advance.cc 39 = .ok (.iconst 1, 1) := by decide +kernel
theorem d_X10_advance_40 : decode Y_X10_advance.cc 40 = .ok (.iadd, 1) := by decide +kernel
theorem d_X10_advance_41 : decode Y_X10_advance.cc 41 = .ok (.putfield 206, 3) := by decide +kernel
theorem d_X10_advance_44 : decode Y_X10_advance.cc 44 = .ok (.goto (-36), 3) := by decide +kernel
theorem d_X10_advance_47 : decode Y_X10_advance.cc 47 = .ok (.aload_n 0, 1) := by decide +kernel
theorem d_X10_advance_48 : decode Y_X10_advance.cc 48 = .ok (.aload_n 0, 1) := by decide +kernel
theorem d_X10_advance_49 : decode Y_X10_advance.cc 49 = .ok (.getfield 206, 3) := by decide +kernel
theorem d_X10_advance_52 : decode Y_X10_advance.cc 52 = .ok (.iconst 1, 1) := by decide +kernel
theorem d_X10_advance_53 : decode Y_X10_advance.cc 53 = .ok (.iadd, 1) := by decide +kernel
theorem d_X10_advance_54 : decode Y_X10_advance.cc 54 = .ok (.putfield 32, 3) := by decide +kernel
theorem d_X10_advance_57 : decode Y_X10_advance.cc 57 = .ok (.aload_n 0, 1) := by decide +kernel
theorem d_X10_advance_58 : decode Y_X10_advance.cc 58 = .ok (.getfield 206, 3) := by decide +kernel
theorem d_X10_advance_61 : decode Y_X10_advance.cc 61 = .ok (.aload_n 0, 1) := by decide +kernel
theorem d_X10_advance_62 : decode Y_X10_advance.cc 62 = .ok (.getfield 17, 3) := by decide +kernel
theorem d_X10_advance_65 : decode Y_X10_advance.cc 65 = .ok (.if_icmp .lt 19, 3) := by decide +kernel
theorem d_X10_advance_68 : decode Y_X10_advance.cc 68 = .ok (.aload_n 0, 1) := by decide +kernel
theorem d_X10_advance_69 : decode Y_X10_advance.cc 69 = .ok (.iconst 0, 1) := by decide +kernel
theorem d_X10_advance_70 : decode Y_X10_advance.cc 70 = .ok (.putfield 38, 3) := by decide +kernel
theorem d_X10_advance_73 : decode Y_X10_advance.cc 73 = .ok (.aload_n 0, 1) := by decide +kernel
theorem d_X10_advance_74 : decode Y_X10_advance.cc 74 = .ok (.aload_n 0, 1) := by decide +kernel
theorem d_X10_advance_75 : decode Y_X10_advance.cc 75 = .ok (.getfield 206, 3) := by decide +kernel
theorem d_X10_advance_78 : decode Y_X10_advance.cc 78 = .ok (.putfield 32, 3) := by decide +kernel
theorem d_X10_advance_81 : decode Y_X10_advance.cc 81 = .ok (.goto 92, 3) := by decide +kernel
theorem d_X10_advance_84 : decode Y_X10_advance.cc 84 = .ok (.aload_n 0, 1) := by decide +kernel
theorem d_X10_advance_85 : decode Y_X10_advance.cc 85 = .ok (.getfield 9, 3) := by decide +kernel
theorem d_X10_advance_88 : decode Y_X10_advance.cc 88 = .ok (.aload_n 0, 1) := by decide +kernel
theorem d_X10_advance_89 : decode Y_X10_advance.cc 89 = .ok (.getfield 206, 3) := by decide +kernel
theorem d_X10_advance_92 : decode Y_X10_advance.cc 92 = .ok (.caload, 1) := by decide +kernel
theorem d_X10_advance_93 : decode Y_X10_advance.cc 93 = .ok (.invokestatic 212, 3) := by decide +kernel
theorem d_X10_advance_96 : decode Y_X10_advance.cc 96 = .ok (.ifCond .eq 10, 3) := by decide +kernel
theorem d_X10_advance_99 : decode Y_X10_advance.cc 99 = .ok (.aload_n 0, 1) := by decide +kernel
theorem d_X10_advance_100 : decode Y_X10_advance.cc 100 = .ok (.invokevirtual 215, 3) := by decide +kernel
theorem d_X10_advance_103 : decode Y_X10_advance.cc 103 = .ok (.goto 70, 3) := by decide +kernel
theorem d_X10_advance_106 : decode Y_X10_advance.cc 106 = .ok (.aload_n 0, 1) := by decide +kernel
theorem d_X10_advance_107 : decode Y_X10_advance.cc 107 = .ok (.getfield 9, 3) := by decide +kernel
theorem d_X10_advance_110 : decode Y_X10_advance.cc 110 = .ok (.aload_n 0, 1) := by decide +kernel
theorem d_X10_advance_111 : decode Y_X10_advance.cc 111 = .ok (.getfield 206, 3) := by decide +kernel
theorem d_X10_advance_114 : decode Y_X10_advance.cc 114 = .ok (.caload, 1) := by decide +kernel
theorem d_X10_advance_115 : decode Y_X10_advance.cc 115 = .ok (.invokestatic 218, 3) := by decide +kernel
theorem d_X10_advance_118 : decode Y_X10_advance.cc 118 = .ok (.ifCond .eq 10, 3) := by decide +kernel
theorem d_X10_advance_121 : decode Y_X10_advance.cc 121 = .ok (.aload_n 0, 1) := by decide +kernel
theorem d_X10_advance_122 : decode Y_X10_advance.cc 122 = .ok (.invokevirtual 221, 3) := by decide +kernel
theorem d_X10_advance_125 : decode Y_X10_advance.cc 125 = .ok (.goto 48, 3) := by decide +kernel
theorem d_X10_advance_128 : decode Y_X10_advance.cc 128 = .ok (.aload_n 0, 1) := by decide +kernel
theorem d_X10_advance_129 : decode Y_X10_advance.cc 129 = .ok (.aload_n 0, 1) := by decide +kernel
theorem d_X10_advance_130 : decode Y_X10_advance.cc 130 = .ok (.getfield 9, 3) := by decide +kernel
theorem d_X10_advance_133 : decode Y_X10_advance.cc 133 = .ok (.aload_n 0, 1) := by decide +kernel
theorem d_X10_advance_134 : decode Y_X10_advance.cc 134 = .ok (.getfield 206, 3) := by decide +kernel
theorem d_X10_advance_137 : decode Y_X10_advance.cc 137 = .ok (.caload, 1) := by decide +kernel
theorem d_X10_advance_138 : decode Y_X10_advance.cc 138 = .ok (.i2l, 1) := by decide +kernel
theorem d_X10_advance_139 : decode Y_X10_advance.cc 139 = .ok (.putfield 155, 3) := by decide +kernel
theorem d_X10_advance_142 : decode Y_X10_advance.cc 142 = .ok (.aload_n 0, 1) := by decide +kernel
theorem d_X10_advance_143 : decode Y_X10_advance.cc 143 = .ok (.aload_n 0, 1) := by decide +kernel
theorem d_X10_advance_144 : decode Y_X10_advance.cc 144 = .ok (.getfield 155, 3) := by decide +kernel
theorem d_X10_advance_147 : decode Y_X10_advance.cc 147 = .ok (.ldc2_w 224, 3) := by decide +kernel
theorem d_X10_advance_150 : decode Y_X10_advance.cc 150 = .ok (.lcmp, 1) := by decide +kernel
theorem d_X10_advance_151 : decode Y_X10_advance.cc 151 = .ok (.ifCond .eq 14, 3) := by decide +kernel
theorem d_X10_advance_154 : decode Y_X10_advance.cc 154 = .ok (.aload_n 0, 1) := by decide +kernel
theorem d_X10_advance_155 : decode Y_X10_advance.cc 155 = .ok (.getfield 155, 3) := by decide +kernel
theorem d_X10_advance_158 : decode Y_X10_advance.cc 158 = .ok (.ldc2_w 226, 3) := by decide +kernel
theorem d_X10_advance_161 : decode Y_X10_advance.cc 161 = .ok (.lcmp, 1) := by decide +kernel
theorem d_X10_advance_162 : decode Y_X10_advance.cc 162 = .ok (.ifCond .ne 7, 3) := by decide +kernel
theorem d_X10_advance_165 : decode Y_X10_advance.cc 165 = .ok (.iconst 3, 1) := by decide +kernel
theorem d_X10_advance_166 : decode Y_X10_advance.cc 166 = .ok (.goto 4, 3) := by decide +kernel
theorem d_X10_advance_169 : decode Y_X10_advance.cc 169 = .ok (.iconst 4, 1) := by decide +kernel
theorem d_X10_advance_170 : decode Y_X10_advance.cc 170 = .ok (.putfield 38, 3) := by decide +kernel
theorem d_X10_advance_173 : decode Y_X10_advance.cc 173 = .ok (.return_, 1) := by decide +kernel
def L_X10_advance_8 (G : MG) (d : Nat) (Q : Mm → Prop)  (M : Mm) : Prop := T G Y_X10_advance (d + 1) (Rv Q) 0 0 8 [(0, .ref (G.b + 1))] [] M
def L_X10_advance_47 (G : MG) (d : Nat) (Q : Mm → Prop)  (M : Mm) : Prop := T G Y_X10_advance (d + 1) (Rv Q) 0 0 47 [(0, .ref (G.b + 1))] [] M
theorem b_X10_advance_8 {G : MG} {d : Nat} {Q : Mm → Prop}  {M : Mm} {c : Nat} (hL : Lay c M)  (h : (((M.1 1 0) ≤ (M.1 1 2) → L_X10_advance_47 G d Q  M) ∧ (¬ (M.1 1 0) ≤ (M.1 1 2) → (vp_in (M.1 1 2) 1000 ∧ (C G Y_X10_isBlank d [.int (M.1 2 (M.1 1 2).toNatClampNeg)] M (Ri fun r3 M2 => M2.2.2 = M.2.2 ∧ ((r3 = 0 → L_X10_advance_47 G d Q  M2) ∧ (¬ r3 = 0 → (∀ M5 : Mm, M5 = sI M2 1 2 ((M2.1 1 2) + 1) → L_X10_advance_8 G d Q  M5))))))))) : L_X10_advance_8 G d Q  M := by
  unfold L_X10_advance_8
  refine tw_aload_n 0 d_X10_advance_8 rfl rfl ?_
  refine tw_getI f_X10_206 hL s_1 (Or.inl rfl) d_X10_advance_9 ?_
  refine tw_aload_n 0 d_X10_advance_12 rfl rfl ?_
  refine tw_getI f_X10_17 hL s_1 (Or.inl rfl) d_X10_advance_13 ?_
  refine tw_icmp_ge 47 d_X10_advance_16 (by decide) (fun z1 => ?_) (fun z1 => ?_)
  · replace h := h.1 z1
    exact tw_lv [0] rfl h
  · replace h := h.2 z1
    refine tw_aload_n 0 d_X10_advance_19 rfl rfl ?_
    refine tw_getR f_X10_9 hL s_1 ⟨rfl, rfl⟩ (rr_X10_1 s_1) d_X10_advance_20 ?_
    refine tw_aload_n 0 d_X10_advance_23 rfl rfl ?_
    refine tw_getI f_X10_206 hL s_1 (Or.inl rfl) d_X10_advance_24 ?_
    refine tw_cald hL s_2 d_X10_advance_27 h.1 ?_
    replace h := h.2
    refine tu_cSi (As := [.int (M.1 2 (M.1 1 2).toNatClampNeg)]) cs_X10_209 rfl (Nat.le_of_ble_eq_true rfl) ⟨Nat.zero_le _, Nat.zero_le _⟩ d_X10_advance_28 h (fun r3 M2 h => ?_)
    have hL_M2 : Lay c M2 := hL.to h.1
    replace h := h.2
    refine tw_if_eq 47 d_X10_advance_31 (by decide) (fun z4 => ?_) (fun z4 => ?_)
    · replace h := h.1 z4
      exact tw_lv [0] rfl h
    · replace h := h.2 z4
      refine tw_aload_n 0 d_X10_advance_34 rfl rfl ?_
      refine tw_dup d_X10_advance_35 rfl ?_
      refine tw_getI f_X10_206 hL_M2 s_1 (Or.inl rfl) d_X10_advance_36 ?_
      refine tw_iconst d_X10_advance_39 k_1 ?_
      refine tw_iadd d_X10_advance_40 ?_
      refine tu_putI f_X10_206 hL_M2 s_1 rfl rfl d_X10_advance_41 (fun M5 e_M5 hL_M5 => ?_)
      replace h := h M5 e_M5
      refine tw_goto 8 d_X10_advance_44 (by decide) ?_
      exact tw_lv [0] rfl h
theorem b_X10_advance_47 {G : MG} {d : Nat} {Q : Mm → Prop}  {M : Mm} {c : Nat} (hL : Lay c M)  (h : (∀ M1 : Mm, M1 = sI M 1 3 ((M.1 1 2) + 1) → (((M1.1 1 2) < (M1.1 1 0) → (vp_in (M1.1 1 2) 1000 ∧ (C G Y_X10_isLetter d [.int (M1.1 2 (M1.1 1 2).toNatClampNeg)] M1 (Ri fun r4 M3 => M3.2.2 = M1.2.2 ∧ ((r4 = 0 → (vp_in (M3.1 1 2) 1000 ∧ (C G Y_X10_isDigit d [.int (M3.1 2 (M3.1 1 2).toNatClampNeg)] M3 (Ri fun r7 M6 => M6.2.2 = M3.2.2 ∧ ((r7 = 0 → (vp_in (M6.1 1 2) 1000 ∧ (∀ M9 : Mm, M9 = sJ M6 1 5 ((M6.1 2 (M6.1 1 2).toNatClampNeg).toInt64) → (((M9.2.1 1 5) = 44 → (∀ M11 : Mm, M11 = sI M9 1 4 3 → Q M11)) ∧ (¬ (M9.2.1 1 5) = 44 → ((¬ (M9.2.1 1 5) = 59 → (∀ M13 : Mm, M13 = sI M9 1 4 4 → Q M13)) ∧ ((M9.2.1 1 5) = 59 → (∀ M14 : Mm, M14 = sI M9 1 4 3 → Q M14)))))))) ∧ (¬ r7 = 0 → (C G Y_X10_scanNumber d [.ref (G.b + 1)] M6 (Rv fun M15 => M15.2.2 = M6.2.2 ∧ Q M15)))))))) ∧ (¬ r4 = 0 → (C G Y_X10_scanWord d [.ref (G.b + 1)] M3 (Rv fun M16 => M16.2.2 = M3.2.2 ∧ Q M16)))))))) ∧ (¬ (M1.1 1 2) < (M1.1 1 0) → (∀ M17 : Mm, M17 = sI M1 1 4 0 → (∀ M18 : Mm, M18 = sI M17 1 3 (M17.1 1 2) → Q M18)))))) : L_X10_advance_47 G d Q  M := by
  unfold L_X10_advance_47
  refine tw_aload_n 0 d_X10_advance_47 rfl rfl ?_
  refine tw_aload_n 0 d_X10_advance_48 rfl rfl ?_
  refine tw_getI f_X10_206 hL s_1 (Or.inl rfl) d_X10_advance_49 ?_
  refine tw_iconst d_X10_advance_52 k_1 ?_
  refine tw_iadd d_X10_advance_53 ?_
  refine tu_putI f_X10_32 hL s_1 rfl rfl d_X10_advance_54 (fun M1 e_M1 hL_M1 => ?_)
  replace h := h M1 e_M1
  refine tw_aload_n 0 d_X10_advance_57 rfl rfl ?_
  refine tw_getI f_X10_206 hL_M1 s_1 (Or.inl rfl) d_X10_advance_58 ?_
  refine tw_aload_n 0 d_X10_advance_61 rfl rfl ?_
  refine tw_getI f_X10_17 hL_M1 s_1 (Or.inl rfl) d_X10_advance_62 ?_
  refine tw_icmp_lt 84 d_X10_advance_65 (by decide) (fun z2 => ?_) (fun z2 => ?_)
  · replace h := h.1 z2
    refine tw_aload_n 0 d_X10_advance_84 rfl rfl ?_
    refine tw_getR f_X10_9 hL_M1 s_1 ⟨rfl, rfl⟩ (rr_X10_1 s_1) d_X10_advance_85 ?_
    refine tw_aload_n 0 d_X10_advance_88 rfl rfl ?_
    refine tw_getI f_X10_206 hL_M1 s_1 (Or.inl rfl) d_X10_advance_89 ?_
    refine tw_cald hL_M1 s_2 d_X10_advance_92 h.1 ?_
    replace h := h.2
    refine tu_cSi (As := [.int (M1.1 2 (M1.1 1 2).toNatClampNeg)]) cs_X10_212 rfl (Nat.le_of_ble_eq_true rfl) ⟨Nat.zero_le _, Nat.zero_le _⟩ d_X10_advance_93 h (fun r4 M3 h => ?_)
    have hL_M3 : Lay c M3 := hL_M1.to h.1
    replace h := h.2
    refine tw_if_eq 106 d_X10_advance_96 (by decide) (fun z5 => ?_) (fun z5 => ?_)
    · replace h := h.1 z5
      refine tw_aload_n 0 d_X10_advance_106 rfl rfl ?_
      refine tw_getR f_X10_9 hL_M3 s_1 ⟨rfl, rfl⟩ (rr_X10_1 s_1) d_X10_advance_107 ?_
      refine tw_aload_n 0 d_X10_advance_110 rfl rfl ?_
      refine tw_getI f_X10_206 hL_M3 s_1 (Or.inl rfl) d_X10_advance_111 ?_
      refine tw_cald hL_M3 s_2 d_X10_advance_114 h.1 ?_
      replace h := h.2
      refine tu_cSi (As := [.int (M3.1 2 (M3.1 1 2).toNatClampNeg)]) cs_X10_218 rfl (Nat.le_of_ble_eq_true rfl) ⟨Nat.zero_le _, Nat.zero_le _⟩ d_X10_advance_115 h (fun r7 M6 h => ?_)
      have hL_M6 : Lay c M6 := hL_M3.to h.1
      replace h := h.2
      refine tw_if_eq 128 d_X10_advance_118 (by decide) (fun z8 => ?_) (fun z8 => ?_)
      · replace h := h.1 z8
        refine tw_aload_n 0 d_X10_advance_128 rfl rfl ?_
        refine tw_aload_n 0 d_X10_advance_129 rfl rfl ?_
        refine tw_getR f_X10_9 hL_M6 s_1 ⟨rfl, rfl⟩ (rr_X10_1 s_1) d_X10_advance_130 ?_
        refine tw_aload_n 0 d_X10_advance_133 rfl rfl ?_
        refine tw_getI f_X10_206 hL_M6 s_1 (Or.inl rfl) d_X10_advance_134 ?_
        refine tw_cald hL_M6 s_2 d_X10_advance_137 h.1 ?_
        replace h := h.2
        refine tw_i2l d_X10_advance_138 ?_
        refine tu_putJ f_X10_155 hL_M6 s_1 rfl rfl d_X10_advance_139 (fun M9 e_M9 hL_M9 => ?_)
        replace h := h M9 e_M9
        refine tw_aload_n 0 d_X10_advance_142 rfl rfl ?_
        refine tw_aload_n 0 d_X10_advance_143 rfl rfl ?_
        refine tw_getJ f_X10_155 hL_M9 s_1 rfl d_X10_advance_144 ?_
        refine tw_ldc2 d_X10_advance_147 mg448 ?_
        refine tw_lcmp_eq 165 d_X10_advance_150 d_X10_advance_151 (by decide) (fun z10 => ?_) (fun z10 => ?_)
        · replace h := h.1 z10
          refine tw_iconst d_X10_advance_165 k_3 ?_
          refine tw_goto 170 d_X10_advance_166 (by decide) ?_
          refine tu_putI f_X10_38 hL_M9 s_1 rfl rfl d_X10_advance_170 (fun M11 e_M11 hL_M11 => ?_)
          replace h := h M11 e_M11
          exact tw_vret rfl ⟨Nat.zero_le _, Nat.zero_le _⟩ d_X10_advance_173 h
        · replace h := h.2 z10
          refine tw_aload_n 0 d_X10_advance_154 rfl rfl ?_
          refine tw_getJ f_X10_155 hL_M9 s_1 rfl d_X10_advance_155 ?_
          refine tw_ldc2 d_X10_advance_158 mg449 ?_
          refine tw_lcmp_ne 169 d_X10_advance_161 d_X10_advance_162 (by decide) (fun z12 => ?_) (fun z12 => ?_)
          · replace h := h.1 z12
            refine tw_iconst d_X10_advance_169 k_4 ?_
            refine tu_putI f_X10_38 hL_M9 s_1 rfl rfl d_X10_advance_170 (fun M13 e_M13 hL_M13 => ?_)
            replace h := h M13 e_M13
            exact tw_vret rfl ⟨Nat.zero_le _, Nat.zero_le _⟩ d_X10_advance_173 h
          · replace h := h.2 z12
            refine tw_iconst d_X10_advance_165 k_3 ?_
            refine tw_goto 170 d_X10_advance_166 (by decide) ?_
            refine tu_putI f_X10_38 hL_M9 s_1 rfl rfl d_X10_advance_170 (fun M14 e_M14 hL_M14 => ?_)
            replace h := h M14 e_M14
            exact tw_vret rfl ⟨Nat.zero_le _, Nat.zero_le _⟩ d_X10_advance_173 h
      · replace h := h.2 z8
        refine tw_aload_n 0 d_X10_advance_121 rfl rfl ?_
        refine tu_cVv (As := []) cv_X10_221 hL_M6 s_1 rfl (Nat.le_of_ble_eq_true rfl) ⟨Nat.zero_le _, Nat.zero_le _⟩ d_X10_advance_122 h (fun M15 h => ?_)
        have hL_M15 : Lay c M15 := hL_M6.to h.1
        replace h := h.2
        refine tw_goto 173 d_X10_advance_125 (by decide) ?_
        exact tw_vret rfl ⟨Nat.zero_le _, Nat.zero_le _⟩ d_X10_advance_173 h
    · replace h := h.2 z5
      refine tw_aload_n 0 d_X10_advance_99 rfl rfl ?_
      refine tu_cVv (As := []) cv_X10_215 hL_M3 s_1 rfl (Nat.le_of_ble_eq_true rfl) ⟨Nat.zero_le _, Nat.zero_le _⟩ d_X10_advance_100 h (fun M16 h => ?_)
      have hL_M16 : Lay c M16 := hL_M3.to h.1
      replace h := h.2
      refine tw_goto 173 d_X10_advance_103 (by decide) ?_
      exact tw_vret rfl ⟨Nat.zero_le _, Nat.zero_le _⟩ d_X10_advance_173 h
  · replace h := h.2 z2
    refine tw_aload_n 0 d_X10_advance_68 rfl rfl ?_
    refine tw_iconst d_X10_advance_69 k_0 ?_
    refine tu_putI f_X10_38 hL_M1 s_1 rfl rfl d_X10_advance_70 (fun M17 e_M17 hL_M17 => ?_)
    replace h := h M17 e_M17
    refine tw_aload_n 0 d_X10_advance_73 rfl rfl ?_
    refine tw_aload_n 0 d_X10_advance_74 rfl rfl ?_
    refine tw_getI f_X10_206 hL_M17 s_1 (Or.inl rfl) d_X10_advance_75 ?_
    refine tu_putI f_X10_32 hL_M17 s_1 rfl rfl d_X10_advance_78 (fun M18 e_M18 hL_M18 => ?_)
    replace h := h M18 e_M18
    refine tw_goto 173 d_X10_advance_81 (by decide) ?_
    exact tw_vret rfl ⟨Nat.zero_le _, Nat.zero_le _⟩ d_X10_advance_173 h
theorem b_X10_advance {G : MG} {d : Nat} {Q : Mm → Prop}  {M : Mm} {c : Nat} (hL : Lay c M)  (h : (∀ M1 : Mm, M1 = sI M 1 2 (M.1 1 3) → L_X10_advance_8 G d Q  M1)) : C G Y_X10_advance (d + 1) [.ref (G.b + 1)] M (Rv Q) := by
  refine C.of (by decide) (Nat.le_of_ble_eq_true rfl) (lv := [(0, .ref (G.b + 1))]) rfl ?_
  refine tw_aload_n 0 d_X10_advance_0 rfl rfl ?_
  refine tw_aload_n 0 d_X10_advance_1 rfl rfl ?_
  refine tw_getI f_X10_32 hL s_1 (Or.inl rfl) d_X10_advance_2 ?_
  refine tu_putI f_X10_206 hL s_1 rfl rfl d_X10_advance_5 (fun M1 e_M1 hL_M1 => ?_)
  replace h := h M1 e_M1
  exact tw_lv [0] rfl h

theorem d_X10_scanWord_0 : decode Y_X10_scanWord.cc 0 = .ok (.aload_n 0, 1) := by decide +kernel
theorem d_X10_scanWord_1 : decode Y_X10_scanWord.cc 1 = .ok (.aload_n 0, 1) := by decide +kernel
theorem d_X10_scanWord_2 : decode Y_X10_scanWord.cc 2 = .ok (.getfield 206, 3) := by decide +kernel
theorem d_X10_scanWord_5 : decode Y_X10_scanWord.cc 5 = .ok (.putfield 32, 3) := by decide +kernel
theorem d_X10_scanWord_8 : decode Y_X10_scanWord.cc 8 = .ok (.aload_n 0, 1) := by decide +kernel
theorem d_X10_scanWord_9 : decode Y_X10_scanWord.cc 9 = .ok (.lconst 0, 1) := by decide +kernel
theorem d_X10_scanWord_10 : decode Y_X10_scanWord.cc 10 = .ok (.putfield 155, 3) := by decide +kernel
theorem d_X10_scanWord_13 : decode Y_X10_scanWord.cc 13 = .ok (.aload_n 0, 1) := by decide +kernel
theorem d_X10_scanWord_14 : decode Y_X10_scanWord.cc 14 = .ok (.getfield 32, 3) := by decide +kernel
theorem d_X10_scanWord_17 : decode Y_X10_scanWord.cc 17 = .ok (.aload_n 0, 1) := by decide +kernel
theorem d_X10_scanWord_18 : decode Y_X10_scanWord.cc 18 = .ok (.getfield 17, 3) := by decide +kernel
theorem d_X10_scanWord_21 : decode Y_X10_scanWord.cc 21 = .ok (.if_icmp .ge 59, 3) := by decide +kernel
theorem d_X10_scanWord_24 : decode Y_X10_scanWord.cc 24 = .ok (.aload_n 0, 1) := by decide +kernel
theorem d_X10_scanWord_25 : decode Y_X10_scanWord.cc 25 = .ok (.getfield 9, 3) := by decide +kernel
theorem d_X10_scanWord_28 : decode Y_X10_scanWord.cc 28 = .ok (.aload_n 0, 1) := by decide +kernel
theorem d_X10_scanWord_29 : decode Y_X10_scanWord.cc 29 = .ok (.getfield 32, 3) := by decide +kernel
theorem d_X10_scanWord_32 : decode Y_X10_scanWord.cc 32 = .ok (.caload, 1) := by decide +kernel
theorem d_X10_scanWord_33 : decode Y_X10_scanWord.cc 33 = .ok (.invokestatic 212, 3) := by decide +kernel
theorem d_X10_scanWord_36 : decode Y_X10_scanWord.cc 36 = .ok (.ifCond .eq 44, 3) := by decide +kernel
theorem d_X10_scanWord_39 : decode Y_X10_scanWord.cc 39 = .ok (.aload_n 0, 1) := by decide +kernel
theorem d_X10_scanWord_40 : decode Y_X10_scanWord.cc 40 = .ok (.aload_n 0, 1) := by decide +kernel
theorem d_X10_scanWord_41 : decode Y_X10_scanWord.cc 41 = .ok (.getfield 155, 3) := by decide +kernel
theorem d_X10_scanWord_44 : decode Y_X10_scanWord.cc 44 = .ok (.ldc2_w 228, 3) := by decide +kernel
theorem d_X10_scanWord_47 : decode Y_X10_scanWord.cc 47 = .ok (.lmul, 1) := by decide +kernel
theorem d_X10_scanWord_48 : decode Y_X10_scanWord.cc 48 = .ok (.aload_n 0, 1) := by decide +kernel
theorem d_X10_scanWord_49 : decode Y_X10_scanWord.cc 49 = .ok (.getfield 9, 3) := by decide +kernel
theorem d_X10_scanWord_52 : decode Y_X10_scanWord.cc 52 = .ok (.aload_n 0, 1) := by decide +kernel
theorem d_X10_scanWord_53 : decode Y_X10_scanWord.cc 53 = .ok (.getfield 32, 3) := by decide +kernel
theorem d_X10_scanWord_56 : decode Y_X10_scanWord.cc 56 = .ok (.caload, 1) := by decide +kernel
theorem d_X10_scanWord_57 : decode Y_X10_scanWord.cc 57 = .ok (.bipush 97, 2) := by decide +kernel
theorem d_X10_scanWord_59 : decode Y_X10_scanWord.cc 59 = .ok (.isub, 1) := by decide +kernel
theorem d_X10_scanWord_60 : decode Y_X10_scanWord.cc 60 = .ok (.iconst 1, 1) := by decide +kernel
theorem d_X10_scanWord_61 : decode Y_X10_scanWord.cc 61 = .ok (.iadd, 1) := by decide +kernel
theorem d_X10_scanWord_62 : decode Y_X10_scanWord.cc 62 = .ok (.i2l, 1) := by decide +kernel
theorem d_X10_scanWord_63 : decode Y_X10_scanWord.cc 63 = .ok (.ladd, 1) := by decide +kernel
theorem d_X10_scanWord_64 : decode Y_X10_scanWord.cc 64 = .ok (.putfield 155, 3) := by decide +kernel
theorem d_X10_scanWord_67 : decode Y_X10_scanWord.cc 67 = .ok (.aload_n 0, 1) := by decide +kernel
theorem d_X10_scanWord_68 : decode Y_X10_scanWord.cc 68 = .ok (.dup, 1) := by decide +kernel
theorem d_X10_scanWord_69 : decode Y_X10_scanWord.cc 69 = .ok (.getfield 32, 3) := by decide +kernel
theorem d_X10_scanWord_72 : decode Y_X10_scanWord.cc 72 = .ok (.iconst 1, 1) := by decide +kernel
theorem d_X10_scanWord_73 : decode Y_X10_scanWord.cc 73 = .ok (.iadd, 1) := by decide +kernel
theorem d_X10_scanWord_74 : decode Y_X10_scanWord.cc 74 = .ok (.putfield 32, 3) := by decide +kernel
theorem d_X10_scanWord_77 : decode Y_X10_scanWord.cc 77 = .ok (.goto (-64), 3) := by decide +kernel
theorem d_X10_scanWord_80 : decode Y_X10_scanWord.cc 80 = .ok (.aload_n 0, 1) := by decide +kernel
theorem d_X10_scanWord_81 : decode Y_X10_scanWord.cc 81 = .ok (.aload_n 0, 1) := by decide +kernel
theorem d_X10_scanWord_82 : decode Y_X10_scanWord.cc 82 = .ok (.getfield 32, 3) := by decide +kernel
theorem d_X10_scanWord_85 : decode Y_X10_scanWord.cc 85 = .ok (.aload_n 0, 1) := by decide +kernel
theorem d_X10_scanWord_86 : decode Y_X10_scanWord.cc 86 = .ok (.getfield 206, 3) := by decide +kernel
theorem d_X10_scanWord_89 : decode Y_X10_scanWord.cc 89 = .ok (.isub, 1) := by decide +kernel
theorem d_X10_scanWord_90 : decode Y_X10_scanWord.cc 90 = .ok (.bipush 8, 2) := by decide +kernel
theorem d_X10_scanWord_92 : decode Y_X10_scanWord.cc 92 = .ok (.if_icmp .gt 7, 3) := by decide +kernel
theorem d_X10_scanWord_95 : decode Y_X10_scanWord.cc 95 = .ok (.iconst 1, 1) := by decide +kernel
theorem d_X10_scanWord_96 : decode Y_X10_scanWord.cc 96 = .ok (.goto 4, 3) := by decide +kernel
theorem d_X10_scanWord_99 : decode Y_X10_scanWord.cc 99 = .ok (.iconst 4, 1) := by decide +kernel
theorem d_X10_scanWord_100 : decode Y_X10_scanWord.cc 100 = .ok (.putfield 38, 3) := by decide +kernel
theorem d_X10_scanWord_103 : decode Y_X10_scanWord.cc 103 = .ok (.return_, 1) := by decide +kernel
def L_X10_scanWord_13 (G : MG) (d : Nat) (Q : Mm → Prop)  (M : Mm) : Prop := T G Y_X10_scanWord (d + 1) (Rv Q) 0 0 13 [(0, .ref (G.b + 1))] [] M
def L_X10_scanWord_80 (G : MG) (d : Nat) (Q : Mm → Prop)  (M : Mm) : Prop := T G Y_X10_scanWord (d + 1) (Rv Q) 0 0 80 [(0, .ref (G.b + 1))] [] M
theorem b_X10_scanWord_13 {G : MG} {d : Nat} {Q : Mm → Prop}  {M : Mm} {c : Nat} (hL : Lay c M)  (h : (((M.1 1 0) ≤ (M.1 1 3) → L_X10_scanWord_80 G d Q  M) ∧ (¬ (M.1 1 0) ≤ (M.1 1 3) → (vp_in (M.1 1 3) 1000 ∧ (C G Y_X10_isLetter d [.int (M.1 2 (M.1 1 3).toNatClampNeg)] M (Ri fun r3 M2 => M2.2.2 = M.2.2 ∧ ((r3 = 0 → L_X10_scanWord_80 G d Q  M2) ∧ (¬ r3 = 0 → (vp_in (M2.1 1 3) 1000 ∧ (∀ M5 : Mm, M5 = sJ M2 1 5 (((M2.2.1 1 5) * 32) + ((((M2.1 2 (M2.1 1 3).toNatClampNeg) - 97) + 1).toInt64)) → (∀ M6 : Mm, M6 = sI M5 1 3 ((M5.1 1 3) + 1) → L_X10_scanWord_13 G d Q  M6))))))))))) : L_X10_scanWord_13 G d Q  M := by
  unfold L_X10_scanWord_13
  refine tw_aload_n 0 d_X10_scanWord_13 rfl rfl ?_
  refine tw_getI f_X10_32 hL s_1 (Or.inl rfl) d_X10_scanWord_14 ?_
  refine tw_aload_n 0 d_X10_scanWord_17 rfl rfl ?_
  refine tw_getI f_X10_17 hL s_1 (Or.inl rfl) d_X10_scanWord_18 ?_
  refine tw_icmp_ge 80 d_X10_scanWord_21 (by decide) (fun z1 => ?_) (fun z1 => ?_)
  · replace h := h.1 z1
    exact tw_lv [0] rfl h
  · replace h := h.2 z1
    refine tw_aload_n 0 d_X10_scanWord_24 rfl rfl ?_
    refine tw_getR f_X10_9 hL s_1 ⟨rfl, rfl⟩ (rr_X10_1 s_1) d_X10_scanWord_25 ?_
    refine tw_aload_n 0 d_X10_scanWord_28 rfl rfl ?_
    refine tw_getI f_X10_32 hL s_1 (Or.inl rfl) d_X10_scanWord_29 ?_
    refine tw_cald hL s_2 d_X10_scanWord_32 h.1 ?_
    replace h := h.2
    refine tu_cSi (As := [.int (M.1 2 (M.1 1 3).toNatClampNeg)]) cs_X10_212 rfl (Nat.le_of_ble_eq_true rfl) ⟨Nat.zero_le _, Nat.zero_le _⟩ d_X10_scanWord_33 h (fun r3 M2 h => ?_)
    have hL_M2 : Lay c M2 := hL.to h.1
    replace h := h.2
    refine tw_if_eq 80 d_X10_scanWord_36 (by decide) (fun z4 => ?_) (fun z4 => ?_)
    · replace h := h.1 z4
      exact tw_lv [0] rfl h
    · replace h := h.2 z4
      refine tw_aload_n 0 d_X10_scanWord_39 rfl rfl ?_
      refine tw_aload_n 0 d_X10_scanWord_40 rfl rfl ?_
      refine tw_getJ f_X10_155 hL_M2 s_1 rfl d_X10_scanWord_41 ?_
      refine tw_ldc2 d_X10_scanWord_44 mg439 ?_
      refine tw_lmul d_X10_scanWord_47 ?_
      refine tw_aload_n 0 d_X10_scanWord_48 rfl rfl ?_
      refine tw_getR f_X10_9 hL_M2 s_1 ⟨rfl, rfl⟩ (rr_X10_1 s_1) d_X10_scanWord_49 ?_
      refine tw_aload_n 0 d_X10_scanWord_52 rfl rfl ?_
      refine tw_getI f_X10_32 hL_M2 s_1 (Or.inl rfl) d_X10_scanWord_53 ?_
      refine tw_cald hL_M2 s_2 d_X10_scanWord_56 h.1 ?_
      replace h := h.2
      refine tw_bipush d_X10_scanWord_57 kb_97 ?_
      refine tw_isub d_X10_scanWord_59 ?_
      refine tw_iconst d_X10_scanWord_60 k_1 ?_
      refine tw_iadd d_X10_scanWord_61 ?_
      refine tw_i2l d_X10_scanWord_62 ?_
      refine tw_ladd d_X10_scanWord_63 ?_
      refine tu_putJ f_X10_155 hL_M2 s_1 rfl rfl d_X10_scanWord_64 (fun M5 e_M5 hL_M5 => ?_)
      replace h := h M5 e_M5
      refine tw_aload_n 0 d_X10_scanWord_67 rfl rfl ?_
      refine tw_dup d_X10_scanWord_68 rfl ?_
      refine tw_getI f_X10_32 hL_M5 s_1 (Or.inl rfl) d_X10_scanWord_69 ?_
      refine tw_iconst d_X10_scanWord_72 k_1 ?_
      refine tw_iadd d_X10_scanWord_73 ?_
      refine tu_putI f_X10_32 hL_M5 s_1 rfl rfl d_X10_scanWord_74 (fun M6 e_M6 hL_M6 => ?_)
      replace h := h M6 e_M6
      refine tw_goto 13 d_X10_scanWord_77 (by decide) ?_
      exact tw_lv [0] rfl h
theorem b_X10_scanWord_80 {G : MG} {d : Nat} {Q : Mm → Prop}  {M : Mm} {c : Nat} (hL : Lay c M)  (h : ((8 < ((M.1 1 3) - (M.1 1 2)) → (∀ M2 : Mm, M2 = sI M 1 4 4 → Q M2)) ∧ (¬ 8 < ((M.1 1 3) - (M.1 1 2)) → (∀ M3 : Mm, M3 = sI M 1 4 1 → Q M3)))) : L_X10_scanWord_80 G d Q  M := by
  unfold L_X10_scanWord_80
  refine tw_aload_n 0 d_X10_scanWord_80 rfl rfl ?_
  refine tw_aload_n 0 d_X10_scanWord_81 rfl rfl ?_
  refine tw_getI f_X10_32 hL s_1 (Or.inl rfl) d_X10_scanWord_82 ?_
  refine tw_aload_n 0 d_X10_scanWord_85 rfl rfl ?_
  refine tw_getI f_X10_206 hL s_1 (Or.inl rfl) d_X10_scanWord_86 ?_
  refine tw_isub d_X10_scanWord_89 ?_
  refine tw_bipush d_X10_scanWord_90 kb_8 ?_
  refine tw_icmp_gt 99 d_X10_scanWord_92 (by decide) (fun z1 => ?_) (fun z1 => ?_)
  · replace h := h.1 z1
    refine tw_iconst d_X10_scanWord_99 k_4 ?_
    refine tu_putI f_X10_38 hL s_1 rfl rfl d_X10_scanWord_100 (fun M2 e_M2 hL_M2 => ?_)
    replace h := h M2 e_M2
    exact tw_vret rfl ⟨Nat.zero_le _, Nat.zero_le _⟩ d_X10_scanWord_103 h
  · replace h := h.2 z1
    refine tw_iconst d_X10_scanWord_95 k_1 ?_
    refine tw_goto 100 d_X10_scanWord_96 (by decide) ?_
    refine tu_putI f_X10_38 hL s_1 rfl rfl d_X10_scanWord_100 (fun M3 e_M3 hL_M3 => ?_)
    replace h := h M3 e_M3
    exact tw_vret rfl ⟨Nat.zero_le _, Nat.zero_le _⟩ d_X10_scanWord_103 h
theorem b_X10_scanWord {G : MG} {d : Nat} {Q : Mm → Prop}  {M : Mm} {c : Nat} (hL : Lay c M)  (h : (∀ M1 : Mm, M1 = sI M 1 3 (M.1 1 2) → (∀ M2 : Mm, M2 = sJ M1 1 5 0 → L_X10_scanWord_13 G d Q  M2))) : C G Y_X10_scanWord (d + 1) [.ref (G.b + 1)] M (Rv Q) := by
  refine C.of (by decide) (Nat.le_of_ble_eq_true rfl) (lv := [(0, .ref (G.b + 1))]) rfl ?_
  refine tw_aload_n 0 d_X10_scanWord_0 rfl rfl ?_
  refine tw_aload_n 0 d_X10_scanWord_1 rfl rfl ?_
  refine tw_getI f_X10_206 hL s_1 (Or.inl rfl) d_X10_scanWord_2 ?_
  refine tu_putI f_X10_32 hL s_1 rfl rfl d_X10_scanWord_5 (fun M1 e_M1 hL_M1 => ?_)
  replace h := h M1 e_M1
  refine tw_aload_n 0 d_X10_scanWord_8 rfl rfl ?_
  refine tw_lconst (v := 0) d_X10_scanWord_9 rfl ?_
  refine tu_putJ f_X10_155 hL_M1 s_1 rfl rfl d_X10_scanWord_10 (fun M2 e_M2 hL_M2 => ?_)
  replace h := h M2 e_M2
  exact tw_lv [0] rfl h

theorem d_X10_scanNumber_0 : decode Y_X10_scanNumber.cc 0 = .ok (.aload_n 0, 1) := by decide +kernel
theorem d_X10_scanNumber_1 : decode Y_X10_scanNumber.cc 1 = .ok (.aload_n 0, 1) := by decide +kernel
theorem d_X10_scanNumber_2 : decode Y_X10_scanNumber.cc 2 = .ok (.getfield 206, 3) := by decide +kernel
theorem d_X10_scanNumber_5 : decode Y_X10_scanNumber.cc 5 = .ok (.putfield 32, 3) := by decide +kernel
theorem d_X10_scanNumber_8 : decode Y_X10_scanNumber.cc 8 = .ok (.aload_n 0, 1) := by decide +kernel
theorem d_X10_scanNumber_9 : decode Y_X10_scanNumber.cc 9 = .ok (.lconst 0, 1) := by decide +kernel
theorem d_X10_scanNumber_10 : decode Y_X10_scanNumber.cc 10 = .ok (.putfield 155, 3) := by decide +kernel
theorem d_X10_scanNumber_13 : decode Y_X10_scanNumber.cc 13 = .ok (.aload_n 0, 1) := by decide +kernel
theorem d_X10_scanNumber_14 : decode Y_X10_scanNumber.cc 14 = .ok (.getfield 32, 3) := by decide +kernel
theorem d_X10_scanNumber_17 : decode Y_X10_scanNumber.cc 17 = .ok (.aload_n 0, 1) := by decide +kernel
theorem d_X10_scanNumber_18 : decode Y_X10_scanNumber.cc 18 = .ok (.getfield 17, 3) := by decide +kernel
theorem d_X10_scanNumber_21 : decode Y_X10_scanNumber.cc 21 = .ok (.if_icmp .ge 57, 3) := by decide +kernel
theorem d_X10_scanNumber_24 : decode Y_X10_scanNumber.cc 24 = .ok (.aload_n 0, 1) := by decide +kernel
theorem d_X10_scanNumber_25 : decode Y_X10_scanNumber.cc 25 = .ok (.getfield 9, 3) := by decide +kernel
theorem d_X10_scanNumber_28 : decode Y_X10_scanNumber.cc 28 = .ok (.aload_n 0, 1) := by decide +kernel
theorem d_X10_scanNumber_29 : decode Y_X10_scanNumber.cc 29 = .ok (.getfield 32, 3) := by decide +kernel
theorem d_X10_scanNumber_32 : decode Y_X10_scanNumber.cc 32 = .ok (.caload, 1) := by decide +kernel
theorem d_X10_scanNumber_33 : decode Y_X10_scanNumber.cc 33 = .ok (.invokestatic 218, 3) := by decide +kernel
theorem d_X10_scanNumber_36 : decode Y_X10_scanNumber.cc 36 = .ok (.ifCond .eq 42, 3) := by decide +kernel
theorem d_X10_scanNumber_39 : decode Y_X10_scanNumber.cc 39 = .ok (.aload_n 0, 1) := by decide +kernel
theorem d_X10_scanNumber_40 : decode Y_X10_scanNumber.cc 40 = .ok (.aload_n 0, 1) := by decide +kernel
theorem d_X10_scanNumber_41 : decode Y_X10_scanNumber.cc 41 = .ok (.getfield 155, 3) := by decide +kernel
theorem d_X10_scanNumber_44 : decode Y_X10_scanNumber.cc 44 = .ok (.ldc2_w 230, 3) := by decide +kernel
theorem d_X10_scanNumber_47 : decode Y_X10_scanNumber.cc 47 = .ok (.lmul, 1) := by decide +kernel
theorem d_X10_scanNumber_48 : decode Y_X10_scanNumber.cc 48 = .ok (.aload_n 0, 1) := by decide +kernel
theorem d_X10_scanNumber_49 : decode Y_X10_scanNumber.cc 49 = .ok (.getfield 9, 3) := by decide +kernel
theorem d_X10_scanNumber_52 : decode Y_X10_scanNumber.cc 52 = .ok (.aload_n 0, 1) := by decide +kernel
theorem d_X10_scanNumber_53 : decode Y_X10_scanNumber.cc 53 = .ok (.getfield 32, 3) := by decide +kernel
theorem d_X10_scanNumber_56 : decode Y_X10_scanNumber.cc 56 = .ok (.caload, 1) := by decide +kernel
theorem d_X10_scanNumber_57 : decode Y_X10_scanNumber.cc 57 = .ok (.bipush 48, 2) := by decide +kernel
theorem d_X10_scanNumber_59 : decode Y_X10_scanNumber.cc 59 = .ok (.isub, 1) := by decide +kernel
theorem d_X10_scanNumber_60 : decode Y_X10_scanNumber.cc 60 = .ok (.i2l, 1) := by decide +kernel
theorem d_X10_scanNumber_61 : decode Y_X10_scanNumber.cc 61 = .ok (.ladd, 1) := by decide +kernel
theorem d_X10_scanNumber_62 : decode Y_X10_scanNumber.cc 62 = .ok (.putfield 155, 3) := by decide +kernel
theorem d_X10_scanNumber_65 : decode Y_X10_scanNumber.cc 65 = .ok (.aload_n 0, 1) := by decide +kernel
theorem d_X10_scanNumber_66 : decode Y_X10_scanNumber.cc 66 = .ok (.dup, 1) := by decide +kernel
theorem d_X10_scanNumber_67 : decode Y_X10_scanNumber.cc 67 = .ok (.getfield 32, 3) := by decide +kernel
theorem d_X10_scanNumber_70 : decode Y_X10_scanNumber.cc 70 = .ok (.iconst 1, 1) := by decide +kernel
theorem d_X10_scanNumber_71 : decode Y_X10_scanNumber.cc 71 = .ok (.iadd, 1) := by decide +kernel
theorem d_X10_scanNumber_72 : decode Y_X10_scanNumber.cc 72 = .ok (.putfield 32, 3) := by decide +kernel
theorem d_X10_scanNumber_75 : decode Y_X10_scanNumber.cc 75 = .ok (.goto (-62), 3) := by decide +kernel
theorem d_X10_scanNumber_78 : decode Y_X10_scanNumber.cc 78 = .ok (.aload_n 0, 1) := by decide +kernel
theorem d_X10_scanNumber_79 : decode Y_X10_scanNumber.cc 79 = .ok (.aload_n 0, 1) := by decide +kernel
theorem d_X10_scanNumber_80 : decode Y_X10_scanNumber.cc 80 = .ok (.getfield 32, 3) := by decide +kernel
theorem d_X10_scanNumber_83 : decode Y_X10_scanNumber.cc 83 = .ok (.aload_n 0, 1) := by decide +kernel
theorem d_X10_scanNumber_84 : decode Y_X10_scanNumber.cc 84 = .ok (.getfield 206, 3) := by decide +kernel
theorem d_X10_scanNumber_87 : decode Y_X10_scanNumber.cc 87 = .ok (.isub, 1) := by decide +kernel
theorem d_X10_scanNumber_88 : decode Y_X10_scanNumber.cc 88 = .ok (.iconst 4, 1) := by decide +kernel
theorem d_X10_scanNumber_89 : decode Y_X10_scanNumber.cc 89 = .ok (.if_icmp .gt 7, 3) := by decide +kernel
theorem d_X10_scanNumber_92 : decode Y_X10_scanNumber.cc 92 = .ok (.iconst 2, 1) := by decide +kernel
theorem d_X10_scanNumber_93 : decode Y_X10_scanNumber.cc 93 = .ok (.goto 4, 3) := by decide +kernel
theorem d_X10_scanNumber_96 : decode Y_X10_scanNumber.cc 96 = .ok (.iconst 4, 1) := by decide +kernel
theorem d_X10_scanNumber_97 : decode Y_X10_scanNumber.cc 97 = .ok (.putfield 38, 3) := by decide +kernel
theorem d_X10_scanNumber_100 : decode Y_X10_scanNumber.cc 100 = .ok (.return_, 1) := by decide +kernel
def L_X10_scanNumber_13 (G : MG) (d : Nat) (Q : Mm → Prop)  (M : Mm) : Prop := T G Y_X10_scanNumber (d + 1) (Rv Q) 0 0 13 [(0, .ref (G.b + 1))] [] M
def L_X10_scanNumber_78 (G : MG) (d : Nat) (Q : Mm → Prop)  (M : Mm) : Prop := T G Y_X10_scanNumber (d + 1) (Rv Q) 0 0 78 [(0, .ref (G.b + 1))] [] M
theorem b_X10_scanNumber_13 {G : MG} {d : Nat} {Q : Mm → Prop}  {M : Mm} {c : Nat} (hL : Lay c M)  (h : (((M.1 1 0) ≤ (M.1 1 3) → L_X10_scanNumber_78 G d Q  M) ∧ (¬ (M.1 1 0) ≤ (M.1 1 3) → (vp_in (M.1 1 3) 1000 ∧ (C G Y_X10_isDigit d [.int (M.1 2 (M.1 1 3).toNatClampNeg)] M (Ri fun r3 M2 => M2.2.2 = M.2.2 ∧ ((r3 = 0 → L_X10_scanNumber_78 G d Q  M2) ∧ (¬ r3 = 0 → (vp_in (M2.1 1 3) 1000 ∧ (∀ M5 : Mm, M5 = sJ M2 1 5 (((M2.2.1 1 5) * 10) + (((M2.1 2 (M2.1 1 3).toNatClampNeg) - 48).toInt64)) → (∀ M6 : Mm, M6 = sI M5 1 3 ((M5.1 1 3) + 1) → L_X10_scanNumber_13 G d Q  M6))))))))))) : L_X10_scanNumber_13 G d Q  M := by
  unfold L_X10_scanNumber_13
  refine tw_aload_n 0 d_X10_scanNumber_13 rfl rfl ?_
  refine tw_getI f_X10_32 hL s_1 (Or.inl rfl) d_X10_scanNumber_14 ?_
  refine tw_aload_n 0 d_X10_scanNumber_17 rfl rfl ?_
  refine tw_getI f_X10_17 hL s_1 (Or.inl rfl) d_X10_scanNumber_18 ?_
  refine tw_icmp_ge 78 d_X10_scanNumber_21 (by decide) (fun z1 => ?_) (fun z1 => ?_)
  · replace h := h.1 z1
    exact tw_lv [0] rfl h
  · replace h := h.2 z1
    refine tw_aload_n 0 d_X10_scanNumber_24 rfl rfl ?_
    refine tw_getR f_X10_9 hL s_1 ⟨rfl, rfl⟩ (rr_X10_1 s_1) d_X10_scanNumber_25 ?_
    refine tw_aload_n 0 d_X10_scanNumber_28 rfl rfl ?_
    refine tw_getI f_X10_32 hL s_1 (Or.inl rfl) d_X10_scanNumber_29 ?_
    refine tw_cald hL s_2 d_X10_scanNumber_32 h.1 ?_
    replace h := h.2
    refine tu_cSi (As := [.int (M.1 2 (M.1 1 3).toNatClampNeg)]) cs_X10_218 rfl (Nat.le_of_ble_eq_true rfl) ⟨Nat.zero_le _, Nat.zero_le _⟩ d_X10_scanNumber_33 h (fun r3 M2 h => ?_)
    have hL_M2 : Lay c M2 := hL.to h.1
    replace h := h.2
    refine tw_if_eq 78 d_X10_scanNumber_36 (by decide) (fun z4 => ?_) (fun z4 => ?_)
    · replace h := h.1 z4
      exact tw_lv [0] rfl h
    · replace h := h.2 z4
      refine tw_aload_n 0 d_X10_scanNumber_39 rfl rfl ?_
      refine tw_aload_n 0 d_X10_scanNumber_40 rfl rfl ?_
      refine tw_getJ f_X10_155 hL_M2 s_1 rfl d_X10_scanNumber_41 ?_
      refine tw_ldc2 d_X10_scanNumber_44 mg447 ?_
      refine tw_lmul d_X10_scanNumber_47 ?_
      refine tw_aload_n 0 d_X10_scanNumber_48 rfl rfl ?_
      refine tw_getR f_X10_9 hL_M2 s_1 ⟨rfl, rfl⟩ (rr_X10_1 s_1) d_X10_scanNumber_49 ?_
      refine tw_aload_n 0 d_X10_scanNumber_52 rfl rfl ?_
      refine tw_getI f_X10_32 hL_M2 s_1 (Or.inl rfl) d_X10_scanNumber_53 ?_
      refine tw_cald hL_M2 s_2 d_X10_scanNumber_56 h.1 ?_
      replace h := h.2
      refine tw_bipush d_X10_scanNumber_57 kb_48 ?_
      refine tw_isub d_X10_scanNumber_59 ?_
      refine tw_i2l d_X10_scanNumber_60 ?_
      refine tw_ladd d_X10_scanNumber_61 ?_
      refine tu_putJ f_X10_155 hL_M2 s_1 rfl rfl d_X10_scanNumber_62 (fun M5 e_M5 hL_M5 => ?_)
      replace h := h M5 e_M5
      refine tw_aload_n 0 d_X10_scanNumber_65 rfl rfl ?_
      refine tw_dup d_X10_scanNumber_66 rfl ?_
      refine tw_getI f_X10_32 hL_M5 s_1 (Or.inl rfl) d_X10_scanNumber_67 ?_
      refine tw_iconst d_X10_scanNumber_70 k_1 ?_
      refine tw_iadd d_X10_scanNumber_71 ?_
      refine tu_putI f_X10_32 hL_M5 s_1 rfl rfl d_X10_scanNumber_72 (fun M6 e_M6 hL_M6 => ?_)
      replace h := h M6 e_M6
      refine tw_goto 13 d_X10_scanNumber_75 (by decide) ?_
      exact tw_lv [0] rfl h
theorem b_X10_scanNumber_78 {G : MG} {d : Nat} {Q : Mm → Prop}  {M : Mm} {c : Nat} (hL : Lay c M)  (h : ((4 < ((M.1 1 3) - (M.1 1 2)) → (∀ M2 : Mm, M2 = sI M 1 4 4 → Q M2)) ∧ (¬ 4 < ((M.1 1 3) - (M.1 1 2)) → (∀ M3 : Mm, M3 = sI M 1 4 2 → Q M3)))) : L_X10_scanNumber_78 G d Q  M := by
  unfold L_X10_scanNumber_78
  refine tw_aload_n 0 d_X10_scanNumber_78 rfl rfl ?_
  refine tw_aload_n 0 d_X10_scanNumber_79 rfl rfl ?_
  refine tw_getI f_X10_32 hL s_1 (Or.inl rfl) d_X10_scanNumber_80 ?_
  refine tw_aload_n 0 d_X10_scanNumber_83 rfl rfl ?_
  refine tw_getI f_X10_206 hL s_1 (Or.inl rfl) d_X10_scanNumber_84 ?_
  refine tw_isub d_X10_scanNumber_87 ?_
  refine tw_iconst d_X10_scanNumber_88 k_4 ?_
  refine tw_icmp_gt 96 d_X10_scanNumber_89 (by decide) (fun z1 => ?_) (fun z1 => ?_)
  · replace h := h.1 z1
    refine tw_iconst d_X10_scanNumber_96 k_4 ?_
    refine tu_putI f_X10_38 hL s_1 rfl rfl d_X10_scanNumber_97 (fun M2 e_M2 hL_M2 => ?_)
    replace h := h M2 e_M2
    exact tw_vret rfl ⟨Nat.zero_le _, Nat.zero_le _⟩ d_X10_scanNumber_100 h
  · replace h := h.2 z1
    refine tw_iconst d_X10_scanNumber_92 k_2 ?_
    refine tw_goto 97 d_X10_scanNumber_93 (by decide) ?_
    refine tu_putI f_X10_38 hL s_1 rfl rfl d_X10_scanNumber_97 (fun M3 e_M3 hL_M3 => ?_)
    replace h := h M3 e_M3
    exact tw_vret rfl ⟨Nat.zero_le _, Nat.zero_le _⟩ d_X10_scanNumber_100 h
theorem b_X10_scanNumber {G : MG} {d : Nat} {Q : Mm → Prop}  {M : Mm} {c : Nat} (hL : Lay c M)  (h : (∀ M1 : Mm, M1 = sI M 1 3 (M.1 1 2) → (∀ M2 : Mm, M2 = sJ M1 1 5 0 → L_X10_scanNumber_13 G d Q  M2))) : C G Y_X10_scanNumber (d + 1) [.ref (G.b + 1)] M (Rv Q) := by
  refine C.of (by decide) (Nat.le_of_ble_eq_true rfl) (lv := [(0, .ref (G.b + 1))]) rfl ?_
  refine tw_aload_n 0 d_X10_scanNumber_0 rfl rfl ?_
  refine tw_aload_n 0 d_X10_scanNumber_1 rfl rfl ?_
  refine tw_getI f_X10_206 hL s_1 (Or.inl rfl) d_X10_scanNumber_2 ?_
  refine tu_putI f_X10_32 hL s_1 rfl rfl d_X10_scanNumber_5 (fun M1 e_M1 hL_M1 => ?_)
  replace h := h M1 e_M1
  refine tw_aload_n 0 d_X10_scanNumber_8 rfl rfl ?_
  refine tw_lconst (v := 0) d_X10_scanNumber_9 rfl ?_
  refine tu_putJ f_X10_155 hL_M1 s_1 rfl rfl d_X10_scanNumber_10 (fun M2 e_M2 hL_M2 => ?_)
  replace h := h M2 e_M2
  exact tw_lv [0] rfl h

theorem d_X10_isBlank_0 : decode Y_X10_isBlank.cc 0 = .ok (.iload_n 0, 1) := by decide +kernel
theorem d_X10_isBlank_1 : decode Y_X10_isBlank.cc 1 = .ok (.bipush 10, 2) := by decide +kernel
theorem d_X10_isBlank_3 : decode Y_X10_isBlank.cc 3 = .ok (.if_icmp .eq 9, 3) := by decide +kernel
theorem d_X10_isBlank_6 : decode Y_X10_isBlank.cc 6 = .ok (.iload_n 0, 1) := by decide +kernel
theorem d_X10_isBlank_7 : decode Y_X10_isBlank.cc 7 = .ok (.bipush 32, 2) := by decide +kernel
theorem d_X10_isBlank_9 : decode Y_X10_isBlank.cc 9 = .ok (.if_icmp .ne 7, 3) := by decide +kernel
theorem d_X10_isBlank_12 : decode Y_X10_isBlank.cc 12 = .ok (.iconst 1, 1) := by decide +kernel
theorem d_X10_isBlank_13 : decode Y_X10_isBlank.cc 13 = .ok (.goto 4, 3) := by decide +kernel
theorem d_X10_isBlank_16 : decode Y_X10_isBlank.cc 16 = .ok (.iconst 0, 1) := by decide +kernel
theorem d_X10_isBlank_17 : decode Y_X10_isBlank.cc 17 = .ok (.ireturn, 1) := by decide +kernel
theorem b_X10_isBlank {G : MG} {d : Nat} {Q : Int32 → Mm → Prop} {x0 : Int32} {M : Mm} {c : Nat} (hL : Lay c M)  (h : ((x0 = 10 → Q 1 M) ∧ (¬ x0 = 10 → ((¬ x0 = 32 → Q 0 M) ∧ (x0 = 32 → Q 1 M))))) : C G Y_X10_isBlank (d + 1) [.int x0] M (Ri Q) := by
  refine C.of (by decide) (Nat.le_of_ble_eq_true rfl) (lv := [(0, .int x0)]) rfl ?_
  refine tw_iload_n 0 d_X10_isBlank_0 rfl rfl ?_
  refine tw_bipush d_X10_isBlank_1 kb_10 ?_
  refine tw_icmp_eq 12 d_X10_isBlank_3 (by decide) (fun z1 => ?_) (fun z1 => ?_)
  · replace h := h.1 z1
    refine tw_iconst d_X10_isBlank_12 k_1 ?_
    refine tw_goto 17 d_X10_isBlank_13 (by decide) ?_
    exact tw_zret (ty := .boolean) rfl rfl ⟨Nat.zero_le _, Nat.zero_le _⟩ d_X10_isBlank_17 h
  · replace h := h.2 z1
    refine tw_iload_n 0 d_X10_isBlank_6 rfl rfl ?_
    refine tw_bipush d_X10_isBlank_7 kb_32 ?_
    refine tw_icmp_ne 16 d_X10_isBlank_9 (by decide) (fun z2 => ?_) (fun z2 => ?_)
    · replace h := h.1 z2
      refine tw_iconst d_X10_isBlank_16 k_0 ?_
      exact tw_zret (ty := .boolean) rfl rfl ⟨Nat.zero_le _, Nat.zero_le _⟩ d_X10_isBlank_17 h
    · replace h := h.2 z2
      refine tw_iconst d_X10_isBlank_12 k_1 ?_
      refine tw_goto 17 d_X10_isBlank_13 (by decide) ?_
      exact tw_zret (ty := .boolean) rfl rfl ⟨Nat.zero_le _, Nat.zero_le _⟩ d_X10_isBlank_17 h

theorem d_X10_isLetter_0 : decode Y_X10_isLetter.cc 0 = .ok (.iload_n 0, 1) := by decide +kernel
theorem d_X10_isLetter_1 : decode Y_X10_isLetter.cc 1 = .ok (.bipush 97, 2) := by decide +kernel
theorem d_X10_isLetter_3 : decode Y_X10_isLetter.cc 3 = .ok (.if_icmp .lt 13, 3) := by decide +kernel
theorem d_X10_isLetter_6 : decode Y_X10_isLetter.cc 6 = .ok (.iload_n 0, 1) := by decide +kernel
theorem d_X10_isLetter_7 : decode Y_X10_isLetter.cc 7 = .ok (.bipush 122, 2) := by decide +kernel
theorem d_X10_isLetter_9 : decode Y_X10_isLetter.cc 9 = .ok (.if_icmp .gt 7, 3) := by decide +kernel
theorem d_X10_isLetter_12 : decode Y_X10_isLetter.cc 12 = .ok (.iconst 1, 1) := by decide +kernel
theorem d_X10_isLetter_13 : decode Y_X10_isLetter.cc 13 = .ok (.goto 4, 3) := by decide +kernel
theorem d_X10_isLetter_16 : decode Y_X10_isLetter.cc 16 = .ok (.iconst 0, 1) := by decide +kernel
theorem d_X10_isLetter_17 : decode Y_X10_isLetter.cc 17 = .ok (.ireturn, 1) := by decide +kernel
theorem b_X10_isLetter {G : MG} {d : Nat} {Q : Int32 → Mm → Prop} {x0 : Int32} {M : Mm} {c : Nat} (hL : Lay c M)  (h : ((x0 < 97 → Q 0 M) ∧ (¬ x0 < 97 → ((122 < x0 → Q 0 M) ∧ (¬ 122 < x0 → Q 1 M))))) : C G Y_X10_isLetter (d + 1) [.int x0] M (Ri Q) := by
  refine C.of (by decide) (Nat.le_of_ble_eq_true rfl) (lv := [(0, .int x0)]) rfl ?_
  refine tw_iload_n 0 d_X10_isLetter_0 rfl rfl ?_
  refine tw_bipush d_X10_isLetter_1 kb_97 ?_
  refine tw_icmp_lt 16 d_X10_isLetter_3 (by decide) (fun z1 => ?_) (fun z1 => ?_)
  · replace h := h.1 z1
    refine tw_iconst d_X10_isLetter_16 k_0 ?_
    exact tw_zret (ty := .boolean) rfl rfl ⟨Nat.zero_le _, Nat.zero_le _⟩ d_X10_isLetter_17 h
  · replace h := h.2 z1
    refine tw_iload_n 0 d_X10_isLetter_6 rfl rfl ?_
    refine tw_bipush d_X10_isLetter_7 kb_122 ?_
    refine tw_icmp_gt 16 d_X10_isLetter_9 (by decide) (fun z2 => ?_) (fun z2 => ?_)
    · replace h := h.1 z2
      refine tw_iconst d_X10_isLetter_16 k_0 ?_
      exact tw_zret (ty := .boolean) rfl rfl ⟨Nat.zero_le _, Nat.zero_le _⟩ d_X10_isLetter_17 h
    · replace h := h.2 z2
      refine tw_iconst d_X10_isLetter_12 k_1 ?_
      refine tw_goto 17 d_X10_isLetter_13 (by decide) ?_
      exact tw_zret (ty := .boolean) rfl rfl ⟨Nat.zero_le _, Nat.zero_le _⟩ d_X10_isLetter_17 h

theorem d_X10_isDigit_0 : decode Y_X10_isDigit.cc 0 = .ok (.iload_n 0, 1) := by decide +kernel
theorem d_X10_isDigit_1 : decode Y_X10_isDigit.cc 1 = .ok (.bipush 48, 2) := by decide +kernel
theorem d_X10_isDigit_3 : decode Y_X10_isDigit.cc 3 = .ok (.if_icmp .lt 13, 3) := by decide +kernel
theorem d_X10_isDigit_6 : decode Y_X10_isDigit.cc 6 = .ok (.iload_n 0, 1) := by decide +kernel
theorem d_X10_isDigit_7 : decode Y_X10_isDigit.cc 7 = .ok (.bipush 57, 2) := by decide +kernel
theorem d_X10_isDigit_9 : decode Y_X10_isDigit.cc 9 = .ok (.if_icmp .gt 7, 3) := by decide +kernel
theorem d_X10_isDigit_12 : decode Y_X10_isDigit.cc 12 = .ok (.iconst 1, 1) := by decide +kernel
theorem d_X10_isDigit_13 : decode Y_X10_isDigit.cc 13 = .ok (.goto 4, 3) := by decide +kernel
theorem d_X10_isDigit_16 : decode Y_X10_isDigit.cc 16 = .ok (.iconst 0, 1) := by decide +kernel
theorem d_X10_isDigit_17 : decode Y_X10_isDigit.cc 17 = .ok (.ireturn, 1) := by decide +kernel
theorem b_X10_isDigit {G : MG} {d : Nat} {Q : Int32 → Mm → Prop} {x0 : Int32} {M : Mm} {c : Nat} (hL : Lay c M)  (h : ((x0 < 48 → Q 0 M) ∧ (¬ x0 < 48 → ((57 < x0 → Q 0 M) ∧ (¬ 57 < x0 → Q 1 M))))) : C G Y_X10_isDigit (d + 1) [.int x0] M (Ri Q) := by
  refine C.of (by decide) (Nat.le_of_ble_eq_true rfl) (lv := [(0, .int x0)]) rfl ?_
  refine tw_iload_n 0 d_X10_isDigit_0 rfl rfl ?_
  refine tw_bipush d_X10_isDigit_1 kb_48 ?_
  refine tw_icmp_lt 16 d_X10_isDigit_3 (by decide) (fun z1 => ?_) (fun z1 => ?_)
  · replace h := h.1 z1
    refine tw_iconst d_X10_isDigit_16 k_0 ?_
    exact tw_zret (ty := .boolean) rfl rfl ⟨Nat.zero_le _, Nat.zero_le _⟩ d_X10_isDigit_17 h
  · replace h := h.2 z1
    refine tw_iload_n 0 d_X10_isDigit_6 rfl rfl ?_
    refine tw_bipush d_X10_isDigit_7 kb_57 ?_
    refine tw_icmp_gt 16 d_X10_isDigit_9 (by decide) (fun z2 => ?_) (fun z2 => ?_)
    · replace h := h.1 z2
      refine tw_iconst d_X10_isDigit_16 k_0 ?_
      exact tw_zret (ty := .boolean) rfl rfl ⟨Nat.zero_le _, Nat.zero_le _⟩ d_X10_isDigit_17 h
    · replace h := h.2 z2
      refine tw_iconst d_X10_isDigit_12 k_1 ?_
      refine tw_goto 17 d_X10_isDigit_13 (by decide) ?_
      exact tw_zret (ty := .boolean) rfl rfl ⟨Nat.zero_le _, Nat.zero_le _⟩ d_X10_isDigit_17 h
