theorem d_X0_find_0 : decode Y_X0_find.cc 0 = .ok (.aload_n 1, 1) := by decide +kernel
theorem d_X0_find_1 : decode Y_X0_find.cc 1 = .ok (.getfield 20, 3) := by decide +kernel
theorem d_X0_find_4 : decode Y_X0_find.cc 4 = .ok (.istore_n 3, 1) := by decide +kernel
theorem d_X0_find_5 : decode Y_X0_find.cc 5 = .ok (.iload_n 3, 1) := by decide +kernel
theorem d_X0_find_6 : decode Y_X0_find.cc 6 = .ok (.ifCond .ne 5, 3) := by decide +kernel
theorem d_X0_find_9 : decode Y_X0_find.cc 9 = .ok (.iconst 0, 1) := by decide +kernel
theorem d_X0_find_10 : decode Y_X0_find.cc 10 = .ok (.ireturn, 1) := by decide +kernel
theorem d_X0_find_11 : decode Y_X0_find.cc 11 = .ok (.iconst 0, 1) := by decide +kernel
theorem d_X0_find_12 : decode Y_X0_find.cc 12 = .ok (.istore 4, 2) := by decide +kernel
theorem d_X0_find_14 : decode Y_X0_find.cc 14 = .ok (.iload 4, 2) := by decide +kernel
theorem d_X0_find_16 : decode Y_X0_find.cc 16 = .ok (.iload_n 3, 1) := by decide +kernel
theorem d_X0_find_17 : decode Y_X0_find.cc 17 = .ok (.if_icmp .ge 43, 3) := by decide +kernel
theorem d_X0_find_20 : decode Y_X0_find.cc 20 = .ok (.iconst 0, 1) := by decide +kernel
theorem d_X0_find_21 : decode Y_X0_find.cc 21 = .ok (.istore 5, 2) := by decide +kernel
theorem d_X0_find_23 : decode Y_X0_find.cc 23 = .ok (.iload 5, 2) := by decide +kernel
theorem d_X0_find_25 : decode Y_X0_find.cc 25 = .ok (.iload_n 3, 1) := by decide +kernel
theorem d_X0_find_26 : decode Y_X0_find.cc 26 = .ok (.if_icmp .ge 28, 3) := by decide +kernel
theorem d_X0_find_29 : decode Y_X0_find.cc 29 = .ok (.aload_n 0, 1) := by decide +kernel
theorem d_X0_find_30 : decode Y_X0_find.cc 30 = .ok (.getfield 11, 3) := by decide +kernel
theorem d_X0_find_33 : decode Y_X0_find.cc 33 = .ok (.iload 4, 2) := by decide +kernel
theorem d_X0_find_35 : decode Y_X0_find.cc 35 = .ok (.aaload, 1) := by decide +kernel
theorem d_X0_find_36 : decode Y_X0_find.cc 36 = .ok (.iload 5, 2) := by decide +kernel
theorem d_X0_find_38 : decode Y_X0_find.cc 38 = .ok (.aload_n 1, 1) := by decide +kernel
theorem d_X0_find_39 : decode Y_X0_find.cc 39 = .ok (.aload_n 2, 1) := by decide +kernel
theorem d_X0_find_40 : decode Y_X0_find.cc 40 = .ok (.iload 4, 2) := by decide +kernel
theorem d_X0_find_42 : decode Y_X0_find.cc 42 = .ok (.iload 5, 2) := by decide +kernel
theorem d_X0_find_44 : decode Y_X0_find.cc 44 = .ok (.invokestatic 26, 3) := by decide +kernel
theorem d_X0_find_47 : decode Y_X0_find.cc 47 = .ok (.iastore, 1) := by decide +kernel
theorem d_X0_find_48 : decode Y_X0_find.cc 48 = .ok (.iinc 5 1, 3) := by decide +kernel
theorem d_X0_find_51 : decode Y_X0_find.cc 51 = .ok (.goto (-28), 3) := by decide +kernel
theorem d_X0_find_54 : decode Y_X0_find.cc 54 = .ok (.iinc 4 1, 3) := by decide +kernel
theorem d_X0_find_57 : decode Y_X0_find.cc 57 = .ok (.goto (-43), 3) := by decide +kernel
theorem d_X0_find_60 : decode Y_X0_find.cc 60 = .ok (.iconst 1, 1) := by decide +kernel
theorem d_X0_find_61 : decode Y_X0_find.cc 61 = .ok (.istore 4, 2) := by decide +kernel
theorem d_X0_find_63 : decode Y_X0_find.cc 63 = .ok (.iload 4, 2) := by decide +kernel
theorem d_X0_find_65 : decode Y_X0_find.cc 65 = .ok (.iconst 1, 1) := by decide +kernel
theorem d_X0_find_66 : decode Y_X0_find.cc 66 = .ok (.iload_n 3, 1) := by decide +kernel
theorem d_X0_find_67 : decode Y_X0_find.cc 67 = .ok (.ishl, 1) := by decide +kernel
theorem d_X0_find_68 : decode Y_X0_find.cc 68 = .ok (.if_icmp .ge 23, 3) := by decide +kernel
theorem d_X0_find_71 : decode Y_X0_find.cc 71 = .ok (.aload_n 0, 1) := by decide +kernel
theorem d_X0_find_72 : decode Y_X0_find.cc 72 = .ok (.getfield 16, 3) := by decide +kernel
theorem d_X0_find_75 : decode Y_X0_find.cc 75 = .ok (.iload 4, 2) := by decide +kernel
theorem d_X0_find_77 : decode Y_X0_find.cc 77 = .ok (.aload_n 0, 1) := by decide +kernel
theorem d_X0_find_78 : decode Y_X0_find.cc 78 = .ok (.iload 4, 2) := by decide +kernel
theorem d_X0_find_80 : decode Y_X0_find.cc 80 = .ok (.iload_n 3, 1) := by decide +kernel
theorem d_X0_find_81 : decode Y_X0_find.cc 81 = .ok (.invokevirtual 30, 3) := by decide +kernel
theorem d_X0_find_84 : decode Y_X0_find.cc 84 = .ok (.iastore, 1) := by decide +kernel
theorem d_X0_find_85 : decode Y_X0_find.cc 85 = .ok (.iinc 4 1, 3) := by decide +kernel
theorem d_X0_find_88 : decode Y_X0_find.cc 88 = .ok (.goto (-25), 3) := by decide +kernel
theorem d_X0_find_91 : decode Y_X0_find.cc 91 = .ok (.aload_n 0, 1) := by decide +kernel
theorem d_X0_find_92 : decode Y_X0_find.cc 92 = .ok (.aload_n 0, 1) := by decide +kernel
theorem d_X0_find_93 : decode Y_X0_find.cc 93 = .ok (.getfield 16, 3) := by decide +kernel
theorem d_X0_find_96 : decode Y_X0_find.cc 96 = .ok (.iconst 1, 1) := by decide +kernel
theorem d_X0_find_97 : decode Y_X0_find.cc 97 = .ok (.iload_n 3, 1) := by decide +kernel
theorem d_X0_find_98 : decode Y_X0_find.cc 98 = .ok (.ishl, 1) := by decide +kernel
theorem d_X0_find_99 : decode Y_X0_find.cc 99 = .ok (.iconst 1, 1) := by decide +kernel
theorem d_X0_find_100 : decode Y_X0_find.cc 100 = .ok (.isub, 1) := by decide +kernel
theorem d_X0_find_101 : decode Y_X0_find.cc 101 = .ok (.iaload, 1) := by decide +kernel
theorem d_X0_find_102 : decode Y_X0_find.cc 102 = .ok (.putfield 34, 3) := by decide +kernel
theorem d_X0_find_105 : decode Y_X0_find.cc 105 = .ok (.aload_n 0, 1) := by decide +kernel
theorem d_X0_find_106 : decode Y_X0_find.cc 106 = .ok (.getfield 34, 3) := by decide +kernel
theorem d_X0_find_109 : decode Y_X0_find.cc 109 = .ok (.ldc 37, 2) := by decide +kernel
theorem d_X0_find_111 : decode Y_X0_find.cc 111 = .ok (.if_icmp .eq 7, 3) := by decide +kernel
theorem d_X0_find_114 : decode Y_X0_find.cc 114 = .ok (.iconst 1, 1) := by decide +kernel
theorem d_X0_find_115 : decode Y_X0_find.cc 115 = .ok (.goto 4, 3) := by decide +kernel
theorem d_X0_find_118 : decode Y_X0_find.cc 118 = .ok (.iconst 0, 1) := by decide +kernel
theorem d_X0_find_119 : decode Y_X0_find.cc 119 = .ok (.ireturn, 1) := by decide +kernel
def L_X0_find_14 (G : MG) (d : Nat) (Q : Int32 → Mm → Prop) (o1 : Nat) (o2 : Nat) (x3 : Int32) (x4 : Int32) (M : Mm) : Prop := T G Y_X0_find (d + 1) (Ri Q) 0 0 14 [(0, .ref (G.b + 137)), (1, .ref (G.b + o1)), (2, .ref (G.b + o2)), (3, .int x3), (4, .int x4)] [] M
def L_X0_find_23 (G : MG) (d : Nat) (Q : Int32 → Mm → Prop) (o1 : Nat) (o2 : Nat) (x3 : Int32) (x4 : Int32) (x5 : Int32) (M : Mm) : Prop := T G Y_X0_find (d + 1) (Ri Q) 0 0 23 [(0, .ref (G.b + 137)), (1, .ref (G.b + o1)), (2, .ref (G.b + o2)), (3, .int x3), (4, .int x4), (5, .int x5)] [] M
def L_X0_find_63 (G : MG) (d : Nat) (Q : Int32 → Mm → Prop) (x3 : Int32) (x4 : Int32) (M : Mm) : Prop := T G Y_X0_find (d + 1) (Ri Q) 0 0 63 [(0, .ref (G.b + 137)), (3, .int x3), (4, .int x4)] [] M
theorem b_X0_find_14 {G : MG} {d : Nat} {Q : Int32 → Mm → Prop} {o1 : Nat} {o2 : Nat} {x3 : Int32} {x4 : Int32} {M : Mm} {c : Nat} (hL : Lay c M) (ho1 : sh o1 = some (.inr 5)) (ho2 : sh o2 = some (.inr 7)) (h : ((x3 ≤ x4 → L_X0_find_63 G d Q x3 1 M) ∧ (¬ x3 ≤ x4 → L_X0_find_23 G d Q o1 o2 x3 x4 0 M))) : L_X0_find_14 G d Q o1 o2 x3 x4 M := by
  unfold L_X0_find_14
  refine tw_iload 4 d_X0_find_14 rfl ?_
  refine tw_iload_n 3 d_X0_find_16 rfl rfl ?_
  refine tw_icmp_ge 60 d_X0_find_17 (by decide) (fun z1 => ?_) (fun z1 => ?_)
  · replace h := h.1 z1
    refine tw_iconst d_X0_find_60 k_1 ?_
    refine tw_istore [(4, .int 1), (0, .ref (G.b + 137)), (1, .ref (G.b + o1)), (2, .ref (G.b + o2)), (3, .int x3)] d_X0_find_61 (Nat.le_of_ble_eq_true rfl) rfl ?_
    exact tw_lv [1, 4, 0] rfl h
  · replace h := h.2 z1
    refine tw_iconst d_X0_find_20 k_0 ?_
    refine tw_istore [(5, .int 0), (0, .ref (G.b + 137)), (1, .ref (G.b + o1)), (2, .ref (G.b + o2)), (3, .int x3), (4, .int x4)] d_X0_find_21 (Nat.le_of_ble_eq_true rfl) rfl ?_
    exact tw_lv [1, 2, 3, 4, 5, 0] rfl h
theorem b_X0_find_23 {G : MG} {d : Nat} {Q : Int32 → Mm → Prop} {o1 : Nat} {o2 : Nat} {x3 : Int32} {x4 : Int32} {x5 : Int32} {M : Mm} {c : Nat} (hL : Lay c M) (ho1 : sh o1 = some (.inr 5)) (ho2 : sh o2 = some (.inr 7)) (h : ((x3 ≤ x5 → L_X0_find_14 G d Q o1 o2 x3 (x4 + 1) M) ∧ (¬ x3 ≤ x5 → (vp_in x4 7 ∧ (C G Y_X0_priceOf d [.ref (G.b + o1), .ref (G.b + o2), .int x4, .int x5] M (Ri fun r4 M3 => M3.2.2 = M.2.2 ∧ (vp_in x5 7 ∧ ∀ M5 : Mm, M5 = sI M3 (138 + 1 + x4.toNatClampNeg) x5.toNatClampNeg r4 → L_X0_find_23 G d Q o1 o2 x3 x4 (x5 + 1) M5))))))) : L_X0_find_23 G d Q o1 o2 x3 x4 x5 M := by
  unfold L_X0_find_23
  refine tw_iload 5 d_X0_find_23 rfl ?_
  refine tw_iload_n 3 d_X0_find_25 rfl rfl ?_
  refine tw_icmp_ge 54 d_X0_find_26 (by decide) (fun z1 => ?_) (fun z1 => ?_)
  · replace h := h.1 z1
    refine tw_iinc 4 [(4, .int (x4 + 1)), (0, .ref (G.b + 137)), (1, .ref (G.b + o1)), (2, .ref (G.b + o2)), (3, .int x3), (5, .int x5)] d_X0_find_54 rfl rfl (Nat.le_of_ble_eq_true rfl) rfl ?_
    refine tw_goto 14 d_X0_find_57 (by decide) ?_
    exact tw_lv [1, 2, 3, 4, 0] rfl h
  · replace h := h.2 z1
    refine tw_aload_n 0 d_X0_find_29 rfl rfl ?_
    refine tw_getR f_X0_11 hL s_137 ⟨rfl, rfl⟩ (rr_X0_0 s_137) d_X0_find_30 ?_
    refine tw_iload 4 d_X0_find_33 rfl ?_
    have hin := h.1
    refine tw_aald hL s_138 (by decide) (re_7 s_138) d_X0_find_35 h.1 ?_
    have hs2 := se_7 s_138 (vp_lt h.1)
    replace h := h.2
    refine tw_iload 5 d_X0_find_36 rfl ?_
    refine tw_aload_n 1 d_X0_find_38 rfl rfl ?_
    refine tw_aload_n 2 d_X0_find_39 rfl rfl ?_
    refine tw_iload 4 d_X0_find_40 rfl ?_
    refine tw_iload 5 d_X0_find_42 rfl ?_
    refine tu_cSi (As := [.ref (G.b + o1), .ref (G.b + o2), .int x4, .int x5]) cs_X0_26 rfl (Nat.le_of_ble_eq_true rfl) ⟨Nat.zero_le _, Nat.zero_le _⟩ d_X0_find_44 h (fun r4 M3 h => ?_)
    have hL_M3 : Lay c M3 := hL.to h.1
    replace h := h.2
    refine tu_iast hL_M3 hs2 d_X0_find_47 h.1 (fun M5 e_M5 hL_M5 => ?_)
    replace h := h.2 M5 e_M5
    refine tw_iinc 5 [(5, .int (x5 + 1)), (0, .ref (G.b + 137)), (1, .ref (G.b + o1)), (2, .ref (G.b + o2)), (3, .int x3), (4, .int x4)] d_X0_find_48 rfl rfl (Nat.le_of_ble_eq_true rfl) rfl ?_
    refine tw_goto 23 d_X0_find_51 (by decide) ?_
    exact tw_lv [1, 2, 3, 4, 5, 0] rfl h
theorem b_X0_find_63 {G : MG} {d : Nat} {Q : Int32 → Mm → Prop} {x3 : Int32} {x4 : Int32} {M : Mm} {c : Nat} (hL : Lay c M)  (h : (((1 <<< (x3 &&& 31)) ≤ x4 → (vp_in ((1 <<< (x3 &&& 31)) - 1) 128 ∧ (∀ M2 : Mm, M2 = sI M 137 2 (M.1 146 ((1 <<< (x3 &&& 31)) - 1).toNatClampNeg) → (((M2.1 137 2) = 2147483647 → Q 0 M2) ∧ (¬ (M2.1 137 2) = 2147483647 → Q 1 M2))))) ∧ (¬ (1 <<< (x3 &&& 31)) ≤ x4 → (C G Y_X0_leastOf d [.ref (G.b + 137), .int x4, .int x3] M (Ri fun r5 M4 => M4.2.2 = M.2.2 ∧ (vp_in x4 128 ∧ ∀ M6 : Mm, M6 = sI M4 146 x4.toNatClampNeg r5 → L_X0_find_63 G d Q x3 (x4 + 1) M6)))))) : L_X0_find_63 G d Q x3 x4 M := by
  unfold L_X0_find_63
  refine tw_iload 2 d_X0_find_63 rfl ?_
  refine tw_iconst d_X0_find_65 k_1 ?_
  refine tw_iload_n 1 d_X0_find_66 rfl rfl ?_
  refine tw_ishl d_X0_find_67 ?_
  refine tw_icmp_ge 91 d_X0_find_68 (by decide) (fun z1 => ?_) (fun z1 => ?_)
  · replace h := h.1 z1
    refine tw_aload_n 0 d_X0_find_91 rfl rfl ?_
    refine tw_aload_n 0 d_X0_find_92 rfl rfl ?_
    refine tw_getR f_X0_16 hL s_137 ⟨rfl, rfl⟩ (rr_X0_1 s_137) d_X0_find_93 ?_
    refine tw_iconst d_X0_find_96 k_1 ?_
    refine tw_iload_n 1 d_X0_find_97 rfl rfl ?_
    refine tw_ishl d_X0_find_98 ?_
    refine tw_iconst d_X0_find_99 k_1 ?_
    refine tw_isub d_X0_find_100 ?_
    refine tw_iald hL s_146 d_X0_find_101 h.1 ?_
    replace h := h.2
    refine tu_putI f_X0_34 hL s_137 rfl rfl d_X0_find_102 (fun M2 e_M2 hL_M2 => ?_)
    replace h := h M2 e_M2
    refine tw_aload_n 0 d_X0_find_105 rfl rfl ?_
    refine tw_getI f_X0_34 hL_M2 s_137 (Or.inl rfl) d_X0_find_106 ?_
    refine tw_ldc d_X0_find_109 mg831 ?_
    refine tw_icmp_eq 118 d_X0_find_111 (by decide) (fun z3 => ?_) (fun z3 => ?_)
    · replace h := h.1 z3
      refine tw_iconst d_X0_find_118 k_0 ?_
      exact tw_zret (ty := .boolean) rfl rfl ⟨Nat.zero_le _, Nat.zero_le _⟩ d_X0_find_119 h
    · replace h := h.2 z3
      refine tw_iconst d_X0_find_114 k_1 ?_
      refine tw_goto 119 d_X0_find_115 (by decide) ?_
      exact tw_zret (ty := .boolean) rfl rfl ⟨Nat.zero_le _, Nat.zero_le _⟩ d_X0_find_119 h
  · replace h := h.2 z1
    refine tw_aload_n 0 d_X0_find_71 rfl rfl ?_
    refine tw_getR f_X0_16 hL s_137 ⟨rfl, rfl⟩ (rr_X0_1 s_137) d_X0_find_72 ?_
    refine tw_iload 2 d_X0_find_75 rfl ?_
    refine tw_aload_n 0 d_X0_find_77 rfl rfl ?_
    refine tw_iload 2 d_X0_find_78 rfl ?_
    refine tw_iload_n 1 d_X0_find_80 rfl rfl ?_
    refine tu_cVi (As := [.int x4, .int x3]) cv_X0_30 hL s_137 rfl (Nat.le_of_ble_eq_true rfl) ⟨Nat.zero_le _, Nat.zero_le _⟩ d_X0_find_81 h (fun r5 M4 h => ?_)
    have hL_M4 : Lay c M4 := hL.to h.1
    replace h := h.2
    refine tu_iast hL_M4 s_146 d_X0_find_84 h.1 (fun M6 e_M6 hL_M6 => ?_)
    replace h := h.2 M6 e_M6
    refine tw_iinc 2 [(4, .int (x4 + 1)), (0, .ref (G.b + 137)), (3, .int x3)] d_X0_find_85 rfl rfl (Nat.le_of_ble_eq_true rfl) rfl ?_
    refine tw_goto 63 d_X0_find_88 (by decide) ?_
    exact tw_lv [1, 2, 0] rfl h
theorem b_X0_find {G : MG} {d : Nat} {Q : Int32 → Mm → Prop} {o1 : Nat} {o2 : Nat} {M : Mm} {c : Nat} (hL : Lay c M) (ho1 : sh o1 = some (.inr 5)) (ho2 : sh o2 = some (.inr 7)) (h : ((¬ (M.1 o1 3) = 0 → L_X0_find_14 G d Q o1 o2 (M.1 o1 3) 0 M) ∧ ((M.1 o1 3) = 0 → Q 0 M))) : C G Y_X0_find (d + 1) [.ref (G.b + 137), .ref (G.b + o1), .ref (G.b + o2)] M (Ri Q) := by
  refine C.of (by decide) (Nat.le_of_ble_eq_true rfl) (lv := [(0, .ref (G.b + 137)), (1, .ref (G.b + o1)), (2, .ref (G.b + o2))]) rfl ?_
  refine tw_aload_n 1 d_X0_find_0 rfl rfl ?_
  refine tw_getI f_X0_20 hL ho1 (Or.inl rfl) d_X0_find_1 ?_
  refine tw_istore_n [(3, .int (M.1 o1 3)), (0, .ref (G.b + 137)), (1, .ref (G.b + o1)), (2, .ref (G.b + o2))] d_X0_find_4 rfl (Nat.le_of_ble_eq_true rfl) rfl ?_
  refine tw_iload_n 0 d_X0_find_5 rfl rfl ?_
  refine tw_if_ne 11 d_X0_find_6 (by decide) (fun z1 => ?_) (fun z1 => ?_)
  · replace h := h.1 z1
    refine tw_iconst d_X0_find_11 k_0 ?_
    refine tw_istore [(4, .int 0), (3, .int (M.1 o1 3)), (0, .ref (G.b + 137)), (1, .ref (G.b + o1)), (2, .ref (G.b + o2))] d_X0_find_12 (Nat.le_of_ble_eq_true rfl) rfl ?_
    exact tw_lv [2, 3, 4, 1, 0] rfl h
  · replace h := h.2 z1
    refine tw_iconst d_X0_find_9 k_0 ?_
    exact tw_zret (ty := .boolean) rfl rfl ⟨Nat.zero_le _, Nat.zero_le _⟩ d_X0_find_10 h

theorem d_X0_cost_0 : decode Y_X0_cost.cc 0 = .ok (.aload_n 0, 1) := by decide +kernel
theorem d_X0_cost_1 : decode Y_X0_cost.cc 1 = .ok (.getfield 34, 3) := by decide +kernel
theorem d_X0_cost_4 : decode Y_X0_cost.cc 4 = .ok (.ldc 38, 2) := by decide +kernel
theorem d_X0_cost_6 : decode Y_X0_cost.cc 6 = .ok (.idiv, 1) := by decide +kernel
theorem d_X0_cost_7 : decode Y_X0_cost.cc 7 = .ok (.ireturn, 1) := by decide +kernel
theorem b_X0_cost {G : MG} {d : Nat} {Q : Int32 → Mm → Prop}  {M : Mm} {c : Nat} (hL : Lay c M)  (h : Q ((M.1 137 2) / 5764801) M) : C G Y_X0_cost (d + 1) [.ref (G.b + 137)] M (Ri Q) := by
  refine C.of (by decide) (Nat.le_of_ble_eq_true rfl) (lv := [(0, .ref (G.b + 137))]) rfl ?_
  refine tw_aload_n 0 d_X0_cost_0 rfl rfl ?_
  refine tw_getI f_X0_34 hL s_137 (Or.inl rfl) d_X0_cost_1 ?_
  refine tw_ldc d_X0_cost_4 mg828 ?_
  refine tw_idiv d_X0_cost_6 (by decide) ?_
  exact tw_iret rfl ⟨Nat.zero_le _, Nat.zero_le _⟩ d_X0_cost_7 h

theorem d_X0_first_0 : decode Y_X0_first.cc 0 = .ok (.aload_n 0, 1) := by decide +kernel
theorem d_X0_first_1 : decode Y_X0_first.cc 1 = .ok (.getfield 34, 3) := by decide +kernel
theorem d_X0_first_4 : decode Y_X0_first.cc 4 = .ok (.ldc 39, 2) := by decide +kernel
theorem d_X0_first_6 : decode Y_X0_first.cc 6 = .ok (.idiv, 1) := by decide +kernel
theorem d_X0_first_7 : decode Y_X0_first.cc 7 = .ok (.bipush 7, 2) := by decide +kernel
theorem d_X0_first_9 : decode Y_X0_first.cc 9 = .ok (.irem, 1) := by decide +kernel
theorem d_X0_first_10 : decode Y_X0_first.cc 10 = .ok (.ireturn, 1) := by decide +kernel
theorem b_X0_first {G : MG} {d : Nat} {Q : Int32 → Mm → Prop}  {M : Mm} {c : Nat} (hL : Lay c M)  (h : Q (((M.1 137 2) / 823543) - ((M.1 137 2) / 823543) / 7 * 7) M) : C G Y_X0_first (d + 1) [.ref (G.b + 137)] M (Ri Q) := by
  refine C.of (by decide) (Nat.le_of_ble_eq_true rfl) (lv := [(0, .ref (G.b + 137))]) rfl ?_
  refine tw_aload_n 0 d_X0_first_0 rfl rfl ?_
  refine tw_getI f_X0_34 hL s_137 (Or.inl rfl) d_X0_first_1 ?_
  refine tw_ldc d_X0_first_4 mg836 ?_
  refine tw_idiv d_X0_first_6 (by decide) ?_
  refine tw_bipush d_X0_first_7 kb_7 ?_
  refine tw_irem d_X0_first_9 (by decide) ?_
  exact tw_iret rfl ⟨Nat.zero_le _, Nat.zero_le _⟩ d_X0_first_10 h

theorem d_X0_parent_0 : decode Y_X0_parent.cc 0 = .ok (.iload_n 1, 1) := by decide +kernel
theorem d_X0_parent_1 : decode Y_X0_parent.cc 1 = .ok (.ifCond .lt 25, 3) := by decide +kernel
theorem d_X0_parent_4 : decode Y_X0_parent.cc 4 = .ok (.iload_n 1, 1) := by decide +kernel
theorem d_X0_parent_5 : decode Y_X0_parent.cc 5 = .ok (.bipush 7, 2) := by decide +kernel
theorem d_X0_parent_7 : decode Y_X0_parent.cc 7 = .ok (.if_icmp .ge 19, 3) := by decide +kernel
theorem d_X0_parent_10 : decode Y_X0_parent.cc 10 = .ok (.aload_n 0, 1) := by decide +kernel
theorem d_X0_parent_11 : decode Y_X0_parent.cc 11 = .ok (.getfield 34, 3) := by decide +kernel
theorem d_X0_parent_14 : decode Y_X0_parent.cc 14 = .ok (.getstatic 40, 3) := by decide +kernel
theorem d_X0_parent_17 : decode Y_X0_parent.cc 17 = .ok (.iload_n 1, 1) := by decide +kernel
theorem d_X0_parent_18 : decode Y_X0_parent.cc 18 = .ok (.iaload, 1) := by decide +kernel
theorem d_X0_parent_19 : decode Y_X0_parent.cc 19 = .ok (.idiv, 1) := by decide +kernel
theorem d_X0_parent_20 : decode Y_X0_parent.cc 20 = .ok (.bipush 7, 2) := by decide +kernel
theorem d_X0_parent_22 : decode Y_X0_parent.cc 22 = .ok (.irem, 1) := by decide +kernel
theorem d_X0_parent_23 : decode Y_X0_parent.cc 23 = .ok (.goto 4, 3) := by decide +kernel
theorem d_X0_parent_26 : decode Y_X0_parent.cc 26 = .ok (.iconst (-1), 1) := by decide +kernel
theorem d_X0_parent_27 : decode Y_X0_parent.cc 27 = .ok (.ireturn, 1) := by decide +kernel
theorem b_X0_parent {G : MG} {d : Nat} {Q : Int32 → Mm → Prop} {x1 : Int32} {M : Mm} {c : Nat} (hL : Lay c M) (hx_z23 : ∀ U, G.X U → va_Z "CopyArms$Ancestry" "DIGIT" "[I" (.ref (G.ad 23)) (gA G) U U.heap) (hx_t23 : ∀ U, G.X U → va_T .int (G.ad 23) 7 (fun q => .int (digitT q)) (gA G) U U.heap)  (h : ((x1 < 0 → Q (-1) M) ∧ (¬ x1 < 0 → ((7 ≤ x1 → Q (-1) M) ∧ (¬ 7 ≤ x1 → (vp_in x1 7 ∧ (¬ digitT x1.toNatClampNeg = 0 ∧ Q (((M.1 137 2) / (digitT x1.toNatClampNeg)) - ((M.1 137 2) / (digitT x1.toNatClampNeg)) / 7 * 7) M))))))) : C G Y_X0_parent (d + 1) [.ref (G.b + 137), .int x1] M (Ri Q) := by
  refine C.of (by decide) (Nat.le_of_ble_eq_true rfl) (lv := [(0, .ref (G.b + 137)), (1, .int x1)]) rfl ?_
  refine tw_iload_n 1 d_X0_parent_0 rfl rfl ?_
  refine tw_if_lt 26 d_X0_parent_1 (by decide) (fun z1 => ?_) (fun z1 => ?_)
  · replace h := h.1 z1
    refine tw_iconst d_X0_parent_26 k_m1 ?_
    exact tw_iret rfl ⟨Nat.zero_le _, Nat.zero_le _⟩ d_X0_parent_27 h
  · replace h := h.2 z1
    refine tw_iload_n 1 d_X0_parent_4 rfl rfl ?_
    refine tw_bipush d_X0_parent_5 kb_7 ?_
    refine tw_icmp_ge 26 d_X0_parent_7 (by decide) (fun z2 => ?_) (fun z2 => ?_)
    · replace h := h.1 z2
      refine tw_iconst d_X0_parent_26 k_m1 ?_
      exact tw_iret rfl ⟨Nat.zero_le _, Nat.zero_le _⟩ d_X0_parent_27 h
    · replace h := h.2 z2
      refine tw_aload_n 0 d_X0_parent_10 rfl rfl ?_
      refine tw_getI f_X0_34 hL s_137 (Or.inl rfl) d_X0_parent_11 ?_
      refine tw_gets hx_z23 mg829 d_X0_parent_14 ?_
      refine tw_iload_n 1 d_X0_parent_17 rfl rfl ?_
      refine tw_ti (f := digitT) hx_t23 d_X0_parent_18 h.1 ?_
      replace h := h.2
      refine tw_idiv d_X0_parent_19 h.1 ?_
      replace h := h.2
      refine tw_bipush d_X0_parent_20 kb_7 ?_
      refine tw_irem d_X0_parent_22 (by decide) ?_
      refine tw_goto 27 d_X0_parent_23 (by decide) ?_
      exact tw_iret rfl ⟨Nat.zero_le _, Nat.zero_le _⟩ d_X0_parent_27 h

theorem d_X0_leastOf_0 : decode Y_X0_leastOf.cc 0 = .ok (.ldc 37, 2) := by decide +kernel
theorem d_X0_leastOf_2 : decode Y_X0_leastOf.cc 2 = .ok (.istore_n 3, 1) := by decide +kernel
theorem d_X0_leastOf_3 : decode Y_X0_leastOf.cc 3 = .ok (.iconst 0, 1) := by decide +kernel
theorem d_X0_leastOf_4 : decode Y_X0_leastOf.cc 4 = .ok (.istore 4, 2) := by decide +kernel
theorem d_X0_leastOf_6 : decode Y_X0_leastOf.cc 6 = .ok (.iload 4, 2) := by decide +kernel
theorem d_X0_leastOf_8 : decode Y_X0_leastOf.cc 8 = .ok (.iload_n 2, 1) := by decide +kernel
theorem d_X0_leastOf_9 : decode Y_X0_leastOf.cc 9 = .ok (.if_icmp .ge 69, 3) := by decide +kernel
theorem d_X0_leastOf_12 : decode Y_X0_leastOf.cc 12 = .ok (.iload_n 1, 1) := by decide +kernel
theorem d_X0_leastOf_13 : decode Y_X0_leastOf.cc 13 = .ok (.iconst 1, 1) := by decide +kernel
theorem d_X0_leastOf_14 : decode Y_X0_leastOf.cc 14 = .ok (.iload 4, 2) := by decide +kernel
theorem d_X0_leastOf_16 : decode Y_X0_leastOf.cc 16 = .ok (.ishl, 1) := by decide +kernel
theorem d_X0_leastOf_17 : decode Y_X0_leastOf.cc 17 = .ok (.iand, 1) := by decide +kernel
theorem d_X0_leastOf_18 : decode Y_X0_leastOf.cc 18 = .ok (.ifCond .eq 54, 3) := by decide +kernel
theorem d_X0_leastOf_21 : decode Y_X0_leastOf.cc 21 = .ok (.iload_n 1, 1) := by decide +kernel
theorem d_X0_leastOf_22 : decode Y_X0_leastOf.cc 22 = .ok (.iconst 1, 1) := by decide +kernel
theorem d_X0_leastOf_23 : decode Y_X0_leastOf.cc 23 = .ok (.iload 4, 2) := by decide +kernel
theorem d_X0_leastOf_25 : decode Y_X0_leastOf.cc 25 = .ok (.ishl, 1) := by decide +kernel
theorem d_X0_leastOf_26 : decode Y_X0_leastOf.cc 26 = .ok (.iconst (-1), 1) := by decide +kernel
theorem d_X0_leastOf_27 : decode Y_X0_leastOf.cc 27 = .ok (.ixor, 1) := by decide +kernel
theorem d_X0_leastOf_28 : decode Y_X0_leastOf.cc 28 = .ok (.iand, 1) := by decide +kernel
theorem d_X0_leastOf_29 : decode Y_X0_leastOf.cc 29 = .ok (.istore 5, 2) := by decide +kernel
theorem d_X0_leastOf_31 : decode Y_X0_leastOf.cc 31 = .ok (.iload 5, 2) := by decide +kernel
theorem d_X0_leastOf_33 : decode Y_X0_leastOf.cc 33 = .ok (.ifCond .ne 21, 3) := by decide +kernel
theorem d_X0_leastOf_36 : decode Y_X0_leastOf.cc 36 = .ok (.iload 4, 2) := by decide +kernel
theorem d_X0_leastOf_38 : decode Y_X0_leastOf.cc 38 = .ok (.ldc 39, 2) := by decide +kernel
theorem d_X0_leastOf_40 : decode Y_X0_leastOf.cc 40 = .ok (.imul, 1) := by decide +kernel
theorem d_X0_leastOf_41 : decode Y_X0_leastOf.cc 41 = .ok (.iload 4, 2) := by decide +kernel
theorem d_X0_leastOf_43 : decode Y_X0_leastOf.cc 43 = .ok (.getstatic 40, 3) := by decide +kernel
theorem d_X0_leastOf_46 : decode Y_X0_leastOf.cc 46 = .ok (.iload 4, 2) := by decide +kernel
theorem d_X0_leastOf_48 : decode Y_X0_leastOf.cc 48 = .ok (.iaload, 1) := by decide +kernel
theorem d_X0_leastOf_49 : decode Y_X0_leastOf.cc 49 = .ok (.imul, 1) := by decide +kernel
theorem d_X0_leastOf_50 : decode Y_X0_leastOf.cc 50 = .ok (.iadd, 1) := by decide +kernel
theorem d_X0_leastOf_51 : decode Y_X0_leastOf.cc 51 = .ok (.goto 12, 3) := by decide +kernel
theorem d_X0_leastOf_54 : decode Y_X0_leastOf.cc 54 = .ok (.aload_n 0, 1) := by decide +kernel
theorem d_X0_leastOf_55 : decode Y_X0_leastOf.cc 55 = .ok (.iload 5, 2) := by decide +kernel
theorem d_X0_leastOf_57 : decode Y_X0_leastOf.cc 57 = .ok (.iload 4, 2) := by decide +kernel
theorem d_X0_leastOf_59 : decode Y_X0_leastOf.cc 59 = .ok (.iload_n 2, 1) := by decide +kernel
theorem d_X0_leastOf_60 : decode Y_X0_leastOf.cc 60 = .ok (.invokevirtual 43, 3) := by decide +kernel
theorem d_X0_leastOf_63 : decode Y_X0_leastOf.cc 63 = .ok (.istore 6, 2) := by decide +kernel
theorem d_X0_leastOf_65 : decode Y_X0_leastOf.cc 65 = .ok (.iload_n 3, 1) := by decide +kernel
theorem d_X0_leastOf_66 : decode Y_X0_leastOf.cc 66 = .ok (.iload 6, 2) := by decide +kernel
theorem d_X0_leastOf_68 : decode Y_X0_leastOf.cc 68 = .ok (.invokestatic 47, 3) := by decide +kernel
theorem d_X0_leastOf_71 : decode Y_X0_leastOf.cc 71 = .ok (.istore_n 3, 1) := by decide +kernel
theorem d_X0_leastOf_72 : decode Y_X0_leastOf.cc 72 = .ok (.iinc 4 1, 3) := by decide +kernel
theorem d_X0_leastOf_75 : decode Y_X0_leastOf.cc 75 = .ok (.goto (-69), 3) := by decide +kernel
theorem d_X0_leastOf_78 : decode Y_X0_leastOf.cc 78 = .ok (.iload_n 3, 1) := by decide +kernel
theorem d_X0_leastOf_79 : decode Y_X0_leastOf.cc 79 = .ok (.ireturn, 1) := by decide +kernel
def L_X0_leastOf_6 (G : MG) (d : Nat) (Q : Int32 → Mm → Prop) (x1 : Int32) (x2 : Int32) (x3 : Int32) (x4 : Int32) (M : Mm) : Prop := T G Y_X0_leastOf (d + 1) (Ri Q) 0 0 6 [(0, .ref (G.b + 137)), (1, .int x1), (2, .int x2), (3, .int x3), (4, .int x4)] [] M
theorem b_X0_leastOf_6 {G : MG} {d : Nat} {Q : Int32 → Mm → Prop} {x1 : Int32} {x2 : Int32} {x3 : Int32} {x4 : Int32} {M : Mm} {c : Nat} (hL : Lay c M) (hx_z23 : ∀ U, G.X U → va_Z "CopyArms$Ancestry" "DIGIT" "[I" (.ref (G.ad 23)) (gA G) U U.heap) (hx_t23 : ∀ U, G.X U → va_T .int (G.ad 23) 7 (fun q => .int (digitT q)) (gA G) U U.heap)  (h : ((x2 ≤ x4 → Q x3 M) ∧ (¬ x2 ≤ x4 → (((x1 &&& (1 <<< (x4 &&& 31))) = 0 → L_X0_leastOf_6 G d Q x1 x2 x3 (x4 + 1) M) ∧ (¬ (x1 &&& (1 <<< (x4 &&& 31))) = 0 → ((¬ (x1 &&& ((1 <<< (x4 &&& 31)) ^^^ (-1))) = 0 → (C G Y_X0_leastWithCopy d [.ref (G.b + 137), .int (x1 &&& ((1 <<< (x4 &&& 31)) ^^^ (-1))), .int x4, .int x2] M (Ri fun r5 M4 => M4.2.2 = M.2.2 ∧ L_X0_leastOf_6 G d Q x1 x2 (if r5 < x3 then r5 else x3) (x4 + 1) M4))) ∧ ((x1 &&& ((1 <<< (x4 &&& 31)) ^^^ (-1))) = 0 → (vp_in x4 7 ∧ ∀ v6 : Int32, v6 = (if (x4 * 823543) + (x4 * (digitT x4.toNatClampNeg)) < x3 then (x4 * 823543) + (x4 * (digitT x4.toNatClampNeg)) else x3) → L_X0_leastOf_6 G d Q x1 x2 v6 (x4 + 1) M)))))))) : L_X0_leastOf_6 G d Q x1 x2 x3 x4 M := by
  unfold L_X0_leastOf_6
  refine tw_iload 4 d_X0_leastOf_6 rfl ?_
  refine tw_iload_n 2 d_X0_leastOf_8 rfl rfl ?_
  refine tw_icmp_ge 78 d_X0_leastOf_9 (by decide) (fun z1 => ?_) (fun z1 => ?_)
  · replace h := h.1 z1
    refine tw_iload_n 3 d_X0_leastOf_78 rfl rfl ?_
    exact tw_iret rfl ⟨Nat.zero_le _, Nat.zero_le _⟩ d_X0_leastOf_79 h
  · replace h := h.2 z1
    refine tw_iload_n 1 d_X0_leastOf_12 rfl rfl ?_
    refine tw_iconst d_X0_leastOf_13 k_1 ?_
    refine tw_iload 4 d_X0_leastOf_14 rfl ?_
    refine tw_ishl d_X0_leastOf_16 ?_
    refine tw_iand d_X0_leastOf_17 ?_
    refine tw_if_eq 72 d_X0_leastOf_18 (by decide) (fun z2 => ?_) (fun z2 => ?_)
    · replace h := h.1 z2
      refine tw_iinc 4 [(4, .int (x4 + 1)), (0, .ref (G.b + 137)), (1, .int x1), (2, .int x2), (3, .int x3)] d_X0_leastOf_72 rfl rfl (Nat.le_of_ble_eq_true rfl) rfl ?_
      refine tw_goto 6 d_X0_leastOf_75 (by decide) ?_
      exact tw_lv [1, 2, 3, 4, 0] rfl h
    · replace h := h.2 z2
      refine tw_iload_n 1 d_X0_leastOf_21 rfl rfl ?_
      refine tw_iconst d_X0_leastOf_22 k_1 ?_
      refine tw_iload 4 d_X0_leastOf_23 rfl ?_
      refine tw_ishl d_X0_leastOf_25 ?_
      refine tw_iconst d_X0_leastOf_26 k_m1 ?_
      refine tw_ixor d_X0_leastOf_27 ?_
      refine tw_iand d_X0_leastOf_28 ?_
      refine tw_istore [(5, .int (x1 &&& ((1 <<< (x4 &&& 31)) ^^^ (-1)))), (0, .ref (G.b + 137)), (1, .int x1), (2, .int x2), (3, .int x3), (4, .int x4)] d_X0_leastOf_29 (Nat.le_of_ble_eq_true rfl) rfl ?_
      refine tw_iload 0 d_X0_leastOf_31 rfl ?_
      refine tw_if_ne 54 d_X0_leastOf_33 (by decide) (fun z3 => ?_) (fun z3 => ?_)
      · replace h := h.1 z3
        refine tw_aload_n 1 d_X0_leastOf_54 rfl rfl ?_
        refine tw_iload 0 d_X0_leastOf_55 rfl ?_
        refine tw_iload 5 d_X0_leastOf_57 rfl ?_
        refine tw_iload_n 3 d_X0_leastOf_59 rfl rfl ?_
        refine tu_cVi (As := [.int (x1 &&& ((1 <<< (x4 &&& 31)) ^^^ (-1))), .int x4, .int x2]) cv_X0_43 hL s_137 rfl (Nat.le_of_ble_eq_true rfl) ⟨Nat.zero_le _, Nat.zero_le _⟩ d_X0_leastOf_60 h (fun r5 M4 h => ?_)
        have hL_M4 : Lay c M4 := hL.to h.1
        replace h := h.2
        refine tw_istore [(6, .int r5), (5, .int (x1 &&& ((1 <<< (x4 &&& 31)) ^^^ (-1)))), (0, .ref (G.b + 137)), (1, .int x1), (2, .int x2), (3, .int x3), (4, .int x4)] d_X0_leastOf_63 (Nat.le_of_ble_eq_true rfl) rfl ?_
        refine tw_iload_n 5 d_X0_leastOf_65 rfl rfl ?_
        refine tw_iload 0 d_X0_leastOf_66 rfl ?_
        refine tw_mmin mo_X0_47 (Nat.le_of_ble_eq_true rfl) ⟨Nat.zero_le _, Nat.zero_le _⟩ d_X0_leastOf_68 ?_
        refine tw_istore_n [(3, .int (if r5 < x3 then r5 else x3)), (6, .int r5), (5, .int (x1 &&& ((1 <<< (x4 &&& 31)) ^^^ (-1)))), (0, .ref (G.b + 137)), (1, .int x1), (2, .int x2), (4, .int x4)] d_X0_leastOf_71 rfl (Nat.le_of_ble_eq_true rfl) rfl ?_
        refine tw_iinc 6 [(4, .int (x4 + 1)), (3, .int (if r5 < x3 then r5 else x3)), (6, .int r5), (5, .int (x1 &&& ((1 <<< (x4 &&& 31)) ^^^ (-1)))), (0, .ref (G.b + 137)), (1, .int x1), (2, .int x2)] d_X0_leastOf_72 rfl rfl (Nat.le_of_ble_eq_true rfl) rfl ?_
        refine tw_goto 6 d_X0_leastOf_75 (by decide) ?_
        exact tw_lv [4, 5, 6, 1, 0] rfl h
      · replace h := h.2 z3
        refine tw_iload 5 d_X0_leastOf_36 rfl ?_
        refine tw_ldc d_X0_leastOf_38 mg836 ?_
        refine tw_imul d_X0_leastOf_40 ?_
        refine tw_iload 5 d_X0_leastOf_41 rfl ?_
        refine tw_gets hx_z23 mg829 d_X0_leastOf_43 ?_
        refine tw_iload 5 d_X0_leastOf_46 rfl ?_
        refine tw_ti (f := digitT) hx_t23 d_X0_leastOf_48 h.1 ?_
        replace h := h.2
        refine tw_imul d_X0_leastOf_49 ?_
        refine tw_iadd d_X0_leastOf_50 ?_
        refine tw_goto 63 d_X0_leastOf_51 (by decide) ?_
        refine tw_istore [(6, .int ((x4 * 823543) + (x4 * (digitT x4.toNatClampNeg)))), (5, .int (x1 &&& ((1 <<< (x4 &&& 31)) ^^^ (-1)))), (0, .ref (G.b + 137)), (1, .int x1), (2, .int x2), (3, .int x3), (4, .int x4)] d_X0_leastOf_63 (Nat.le_of_ble_eq_true rfl) rfl ?_
        refine tw_iload_n 5 d_X0_leastOf_65 rfl rfl ?_
        refine tw_iload 0 d_X0_leastOf_66 rfl ?_
        refine tw_mmin mo_X0_47 (Nat.le_of_ble_eq_true rfl) ⟨Nat.zero_le _, Nat.zero_le _⟩ d_X0_leastOf_68 ?_
        refine tw_nmI (fun v6 e_v6 => ?_)
        replace h := h v6 e_v6
        refine tw_istore_n [(3, .int v6), (6, .int ((x4 * 823543) + (x4 * (digitT x4.toNatClampNeg)))), (5, .int (x1 &&& ((1 <<< (x4 &&& 31)) ^^^ (-1)))), (0, .ref (G.b + 137)), (1, .int x1), (2, .int x2), (4, .int x4)] d_X0_leastOf_71 rfl (Nat.le_of_ble_eq_true rfl) rfl ?_
        refine tw_iinc 6 [(4, .int (x4 + 1)), (3, .int v6), (6, .int ((x4 * 823543) + (x4 * (digitT x4.toNatClampNeg)))), (5, .int (x1 &&& ((1 <<< (x4 &&& 31)) ^^^ (-1)))), (0, .ref (G.b + 137)), (1, .int x1), (2, .int x2)] d_X0_leastOf_72 rfl rfl (Nat.le_of_ble_eq_true rfl) rfl ?_
        refine tw_goto 6 d_X0_leastOf_75 (by decide) ?_
        exact tw_lv [4, 5, 6, 1, 0] rfl h
theorem b_X0_leastOf {G : MG} {d : Nat} {Q : Int32 → Mm → Prop} {x1 : Int32} {x2 : Int32} {M : Mm} {c : Nat} (hL : Lay c M) (hx_z23 : ∀ U, G.X U → va_Z "CopyArms$Ancestry" "DIGIT" "[I" (.ref (G.ad 23)) (gA G) U U.heap) (hx_t23 : ∀ U, G.X U → va_T .int (G.ad 23) 7 (fun q => .int (digitT q)) (gA G) U U.heap)  (h : L_X0_leastOf_6 G d Q x1 x2 2147483647 0 M) : C G Y_X0_leastOf (d + 1) [.ref (G.b + 137), .int x1, .int x2] M (Ri Q) := by
  refine C.of (by decide) (Nat.le_of_ble_eq_true rfl) (lv := [(0, .ref (G.b + 137)), (1, .int x1), (2, .int x2)]) rfl ?_
  refine tw_ldc d_X0_leastOf_0 mg831 ?_
  refine tw_istore_n [(3, .int 2147483647), (0, .ref (G.b + 137)), (1, .int x1), (2, .int x2)] d_X0_leastOf_2 rfl (Nat.le_of_ble_eq_true rfl) rfl ?_
  refine tw_iconst d_X0_leastOf_3 k_0 ?_
  refine tw_istore [(4, .int 0), (3, .int 2147483647), (0, .ref (G.b + 137)), (1, .int x1), (2, .int x2)] d_X0_leastOf_4 (Nat.le_of_ble_eq_true rfl) rfl ?_
  exact tw_lv [2, 3, 4, 1, 0] rfl h

theorem d_X0_leastWithCopy_0 : decode Y_X0_leastWithCopy.cc 0 = .ok (.ldc 37, 2) := by decide +kernel
theorem d_X0_leastWithCopy_2 : decode Y_X0_leastWithCopy.cc 2 = .ok (.istore 4, 2) := by decide +kernel
theorem d_X0_leastWithCopy_4 : decode Y_X0_leastWithCopy.cc 4 = .ok (.iconst 0, 1) := by decide +kernel
theorem d_X0_leastWithCopy_5 : decode Y_X0_leastWithCopy.cc 5 = .ok (.istore 5, 2) := by decide +kernel
theorem d_X0_leastWithCopy_7 : decode Y_X0_leastWithCopy.cc 7 = .ok (.iload 5, 2) := by decide +kernel
theorem d_X0_leastWithCopy_9 : decode Y_X0_leastWithCopy.cc 9 = .ok (.iload_n 3, 1) := by decide +kernel
theorem d_X0_leastWithCopy_10 : decode Y_X0_leastWithCopy.cc 10 = .ok (.if_icmp .ge 34, 3) := by decide +kernel
theorem d_X0_leastWithCopy_13 : decode Y_X0_leastWithCopy.cc 13 = .ok (.iload_n 1, 1) := by decide +kernel
theorem d_X0_leastWithCopy_14 : decode Y_X0_leastWithCopy.cc 14 = .ok (.iconst 1, 1) := by decide +kernel
theorem d_X0_leastWithCopy_15 : decode Y_X0_leastWithCopy.cc 15 = .ok (.iload 5, 2) := by decide +kernel
theorem d_X0_leastWithCopy_17 : decode Y_X0_leastWithCopy.cc 17 = .ok (.ishl, 1) := by decide +kernel
theorem d_X0_leastWithCopy_18 : decode Y_X0_leastWithCopy.cc 18 = .ok (.iand, 1) := by decide +kernel
theorem d_X0_leastWithCopy_19 : decode Y_X0_leastWithCopy.cc 19 = .ok (.ifCond .eq 19, 3) := by decide +kernel
theorem d_X0_leastWithCopy_22 : decode Y_X0_leastWithCopy.cc 22 = .ok (.iload 4, 2) := by decide +kernel
theorem d_X0_leastWithCopy_24 : decode Y_X0_leastWithCopy.cc 24 = .ok (.aload_n 0, 1) := by decide +kernel
theorem d_X0_leastWithCopy_25 : decode Y_X0_leastWithCopy.cc 25 = .ok (.getfield 11, 3) := by decide +kernel
theorem d_X0_leastWithCopy_28 : decode Y_X0_leastWithCopy.cc 28 = .ok (.iload 5, 2) := by decide +kernel
theorem d_X0_leastWithCopy_30 : decode Y_X0_leastWithCopy.cc 30 = .ok (.aaload, 1) := by decide +kernel
theorem d_X0_leastWithCopy_31 : decode Y_X0_leastWithCopy.cc 31 = .ok (.iload_n 2, 1) := by decide +kernel
theorem d_X0_leastWithCopy_32 : decode Y_X0_leastWithCopy.cc 32 = .ok (.iaload, 1) := by decide +kernel
theorem d_X0_leastWithCopy_33 : decode Y_X0_leastWithCopy.cc 33 = .ok (.invokestatic 47, 3) := by decide +kernel
theorem d_X0_leastWithCopy_36 : decode Y_X0_leastWithCopy.cc 36 = .ok (.istore 4, 2) := by decide +kernel
theorem d_X0_leastWithCopy_38 : decode Y_X0_leastWithCopy.cc 38 = .ok (.iinc 5 1, 3) := by decide +kernel
theorem d_X0_leastWithCopy_41 : decode Y_X0_leastWithCopy.cc 41 = .ok (.goto (-34), 3) := by decide +kernel
theorem d_X0_leastWithCopy_44 : decode Y_X0_leastWithCopy.cc 44 = .ok (.aload_n 0, 1) := by decide +kernel
theorem d_X0_leastWithCopy_45 : decode Y_X0_leastWithCopy.cc 45 = .ok (.getfield 16, 3) := by decide +kernel
theorem d_X0_leastWithCopy_48 : decode Y_X0_leastWithCopy.cc 48 = .ok (.iload_n 1, 1) := by decide +kernel
theorem d_X0_leastWithCopy_49 : decode Y_X0_leastWithCopy.cc 49 = .ok (.iaload, 1) := by decide +kernel
theorem d_X0_leastWithCopy_50 : decode Y_X0_leastWithCopy.cc 50 = .ok (.ldc 37, 2) := by decide +kernel
theorem d_X0_leastWithCopy_52 : decode Y_X0_leastWithCopy.cc 52 = .ok (.if_icmp .eq 10, 3) := by decide +kernel
theorem d_X0_leastWithCopy_55 : decode Y_X0_leastWithCopy.cc 55 = .ok (.iload 4, 2) := by decide +kernel
theorem d_X0_leastWithCopy_57 : decode Y_X0_leastWithCopy.cc 57 = .ok (.ldc 37, 2) := by decide +kernel
theorem d_X0_leastWithCopy_59 : decode Y_X0_leastWithCopy.cc 59 = .ok (.if_icmp .ne 8, 3) := by decide +kernel
theorem d_X0_leastWithCopy_62 : decode Y_X0_leastWithCopy.cc 62 = .ok (.ldc 37, 2) := by decide +kernel
theorem d_X0_leastWithCopy_64 : decode Y_X0_leastWithCopy.cc 64 = .ok (.goto 12, 3) := by decide +kernel
theorem d_X0_leastWithCopy_67 : decode Y_X0_leastWithCopy.cc 67 = .ok (.aload_n 0, 1) := by decide +kernel
theorem d_X0_leastWithCopy_68 : decode Y_X0_leastWithCopy.cc 68 = .ok (.getfield 16, 3) := by decide +kernel
theorem d_X0_leastWithCopy_71 : decode Y_X0_leastWithCopy.cc 71 = .ok (.iload_n 1, 1) := by decide +kernel
theorem d_X0_leastWithCopy_72 : decode Y_X0_leastWithCopy.cc 72 = .ok (.iaload, 1) := by decide +kernel
theorem d_X0_leastWithCopy_73 : decode Y_X0_leastWithCopy.cc 73 = .ok (.iload 4, 2) := by decide +kernel
theorem d_X0_leastWithCopy_75 : decode Y_X0_leastWithCopy.cc 75 = .ok (.iadd, 1) := by decide +kernel
theorem d_X0_leastWithCopy_76 : decode Y_X0_leastWithCopy.cc 76 = .ok (.ireturn, 1) := by decide +kernel
def L_X0_leastWithCopy_7 (G : MG) (d : Nat) (Q : Int32 → Mm → Prop) (x1 : Int32) (x2 : Int32) (x3 : Int32) (x4 : Int32) (x5 : Int32) (M : Mm) : Prop := T G Y_X0_leastWithCopy (d + 1) (Ri Q) 0 0 7 [(0, .ref (G.b + 137)), (1, .int x1), (2, .int x2), (3, .int x3), (4, .int x4), (5, .int x5)] [] M
theorem b_X0_leastWithCopy_7 {G : MG} {d : Nat} {Q : Int32 → Mm → Prop} {x1 : Int32} {x2 : Int32} {x3 : Int32} {x4 : Int32} {x5 : Int32} {M : Mm} {c : Nat} (hL : Lay c M)  (h : ((x3 ≤ x5 → (vp_in x1 128 ∧ (((M.1 146 x1.toNatClampNeg) = 2147483647 → Q 2147483647 M) ∧ (¬ (M.1 146 x1.toNatClampNeg) = 2147483647 → ((¬ x4 = 2147483647 → (vp_in x1 128 ∧ Q ((M.1 146 x1.toNatClampNeg) + x4) M)) ∧ (x4 = 2147483647 → Q 2147483647 M)))))) ∧ (¬ x3 ≤ x5 → (((x1 &&& (1 <<< (x5 &&& 31))) = 0 → L_X0_leastWithCopy_7 G d Q x1 x2 x3 x4 (x5 + 1) M) ∧ (¬ (x1 &&& (1 <<< (x5 &&& 31))) = 0 → (vp_in x5 7 ∧ (vp_in x2 7 ∧ ∀ v6 : Int32, v6 = (if M.1 (138 + 1 + x5.toNatClampNeg) x2.toNatClampNeg < x4 then M.1 (138 + 1 + x5.toNatClampNeg) x2.toNatClampNeg else x4) → L_X0_leastWithCopy_7 G d Q x1 x2 x3 v6 (x5 + 1) M))))))) : L_X0_leastWithCopy_7 G d Q x1 x2 x3 x4 x5 M := by
  unfold L_X0_leastWithCopy_7
  refine tw_iload 5 d_X0_leastWithCopy_7 rfl ?_
  refine tw_iload_n 3 d_X0_leastWithCopy_9 rfl rfl ?_
  refine tw_icmp_ge 44 d_X0_leastWithCopy_10 (by decide) (fun z1 => ?_) (fun z1 => ?_)
  · replace h := h.1 z1
    refine tw_aload_n 0 d_X0_leastWithCopy_44 rfl rfl ?_
    refine tw_getR f_X0_16 hL s_137 ⟨rfl, rfl⟩ (rr_X0_1 s_137) d_X0_leastWithCopy_45 ?_
    refine tw_iload_n 1 d_X0_leastWithCopy_48 rfl rfl ?_
    refine tw_iald hL s_146 d_X0_leastWithCopy_49 h.1 ?_
    replace h := h.2
    refine tw_ldc d_X0_leastWithCopy_50 mg831 ?_
    refine tw_icmp_eq 62 d_X0_leastWithCopy_52 (by decide) (fun z2 => ?_) (fun z2 => ?_)
    · replace h := h.1 z2
      refine tw_ldc d_X0_leastWithCopy_62 mg831 ?_
      refine tw_goto 76 d_X0_leastWithCopy_64 (by decide) ?_
      exact tw_iret rfl ⟨Nat.zero_le _, Nat.zero_le _⟩ d_X0_leastWithCopy_76 h
    · replace h := h.2 z2
      refine tw_iload 4 d_X0_leastWithCopy_55 rfl ?_
      refine tw_ldc d_X0_leastWithCopy_57 mg831 ?_
      refine tw_icmp_ne 67 d_X0_leastWithCopy_59 (by decide) (fun z3 => ?_) (fun z3 => ?_)
      · replace h := h.1 z3
        refine tw_aload_n 0 d_X0_leastWithCopy_67 rfl rfl ?_
        refine tw_getR f_X0_16 hL s_137 ⟨rfl, rfl⟩ (rr_X0_1 s_137) d_X0_leastWithCopy_68 ?_
        refine tw_iload_n 1 d_X0_leastWithCopy_71 rfl rfl ?_
        refine tw_iald hL s_146 d_X0_leastWithCopy_72 h.1 ?_
        replace h := h.2
        refine tw_iload 4 d_X0_leastWithCopy_73 rfl ?_
        refine tw_iadd d_X0_leastWithCopy_75 ?_
        exact tw_iret rfl ⟨Nat.zero_le _, Nat.zero_le _⟩ d_X0_leastWithCopy_76 h
      · replace h := h.2 z3
        refine tw_ldc d_X0_leastWithCopy_62 mg831 ?_
        refine tw_goto 76 d_X0_leastWithCopy_64 (by decide) ?_
        exact tw_iret rfl ⟨Nat.zero_le _, Nat.zero_le _⟩ d_X0_leastWithCopy_76 h
  · replace h := h.2 z1
    refine tw_iload_n 1 d_X0_leastWithCopy_13 rfl rfl ?_
    refine tw_iconst d_X0_leastWithCopy_14 k_1 ?_
    refine tw_iload 5 d_X0_leastWithCopy_15 rfl ?_
    refine tw_ishl d_X0_leastWithCopy_17 ?_
    refine tw_iand d_X0_leastWithCopy_18 ?_
    refine tw_if_eq 38 d_X0_leastWithCopy_19 (by decide) (fun z4 => ?_) (fun z4 => ?_)
    · replace h := h.1 z4
      refine tw_iinc 5 [(5, .int (x5 + 1)), (0, .ref (G.b + 137)), (1, .int x1), (2, .int x2), (3, .int x3), (4, .int x4)] d_X0_leastWithCopy_38 rfl rfl (Nat.le_of_ble_eq_true rfl) rfl ?_
      refine tw_goto 7 d_X0_leastWithCopy_41 (by decide) ?_
      exact tw_lv [1, 2, 3, 4, 5, 0] rfl h
    · replace h := h.2 z4
      refine tw_iload 4 d_X0_leastWithCopy_22 rfl ?_
      refine tw_aload_n 0 d_X0_leastWithCopy_24 rfl rfl ?_
      refine tw_getR f_X0_11 hL s_137 ⟨rfl, rfl⟩ (rr_X0_0 s_137) d_X0_leastWithCopy_25 ?_
      refine tw_iload 5 d_X0_leastWithCopy_28 rfl ?_
      have hin := h.1
      refine tw_aald hL s_138 (by decide) (re_7 s_138) d_X0_leastWithCopy_30 h.1 ?_
      have hs5 := se_7 s_138 (vp_lt h.1)
      replace h := h.2
      refine tw_iload_n 2 d_X0_leastWithCopy_31 rfl rfl ?_
      refine tw_iald hL hs5 d_X0_leastWithCopy_32 h.1 ?_
      replace h := h.2
      refine tw_mmin mo_X0_47 (Nat.le_of_ble_eq_true rfl) ⟨Nat.zero_le _, Nat.zero_le _⟩ d_X0_leastWithCopy_33 ?_
      refine tw_nmI (fun v6 e_v6 => ?_)
      replace h := h v6 e_v6
      refine tw_istore [(4, .int v6), (0, .ref (G.b + 137)), (1, .int x1), (2, .int x2), (3, .int x3), (5, .int x5)] d_X0_leastWithCopy_36 (Nat.le_of_ble_eq_true rfl) rfl ?_
      refine tw_iinc 5 [(5, .int (x5 + 1)), (4, .int v6), (0, .ref (G.b + 137)), (1, .int x1), (2, .int x2), (3, .int x3)] d_X0_leastWithCopy_38 rfl rfl (Nat.le_of_ble_eq_true rfl) rfl ?_
      refine tw_goto 7 d_X0_leastWithCopy_41 (by decide) ?_
      exact tw_lv [2, 3, 4, 5, 1, 0] rfl h
theorem b_X0_leastWithCopy {G : MG} {d : Nat} {Q : Int32 → Mm → Prop} {x1 : Int32} {x2 : Int32} {x3 : Int32} {M : Mm} {c : Nat} (hL : Lay c M)  (h : L_X0_leastWithCopy_7 G d Q x1 x2 x3 2147483647 0 M) : C G Y_X0_leastWithCopy (d + 1) [.ref (G.b + 137), .int x1, .int x2, .int x3] M (Ri Q) := by
  refine C.of (by decide) (Nat.le_of_ble_eq_true rfl) (lv := [(0, .ref (G.b + 137)), (1, .int x1), (2, .int x2), (3, .int x3)]) rfl ?_
  refine tw_ldc d_X0_leastWithCopy_0 mg831 ?_
  refine tw_istore [(4, .int 2147483647), (0, .ref (G.b + 137)), (1, .int x1), (2, .int x2), (3, .int x3)] d_X0_leastWithCopy_2 (Nat.le_of_ble_eq_true rfl) rfl ?_
  refine tw_iconst d_X0_leastWithCopy_4 k_0 ?_
  refine tw_istore [(5, .int 0), (4, .int 2147483647), (0, .ref (G.b + 137)), (1, .int x1), (2, .int x2), (3, .int x3)] d_X0_leastWithCopy_5 (Nat.le_of_ble_eq_true rfl) rfl ?_
  exact tw_lv [2, 3, 4, 5, 1, 0] rfl h

theorem d_X0_priceOf_0 : decode Y_X0_priceOf.cc 0 = .ok (.aload_n 0, 1) := by decide +kernel
theorem d_X0_priceOf_1 : decode Y_X0_priceOf.cc 1 = .ok (.getfield 52, 3) := by decide +kernel
theorem d_X0_priceOf_4 : decode Y_X0_priceOf.cc 4 = .ok (.iload_n 2, 1) := by decide +kernel
theorem d_X0_priceOf_5 : decode Y_X0_priceOf.cc 5 = .ok (.aaload, 1) := by decide +kernel
theorem d_X0_priceOf_6 : decode Y_X0_priceOf.cc 6 = .ok (.astore 4, 2) := by decide +kernel
theorem d_X0_priceOf_8 : decode Y_X0_priceOf.cc 8 = .ok (.aload_n 0, 1) := by decide +kernel
theorem d_X0_priceOf_9 : decode Y_X0_priceOf.cc 9 = .ok (.getfield 52, 3) := by decide +kernel
theorem d_X0_priceOf_12 : decode Y_X0_priceOf.cc 12 = .ok (.iload_n 3, 1) := by decide +kernel
theorem d_X0_priceOf_13 : decode Y_X0_priceOf.cc 13 = .ok (.aaload, 1) := by decide +kernel
theorem d_X0_priceOf_14 : decode Y_X0_priceOf.cc 14 = .ok (.astore 5, 2) := by decide +kernel
theorem d_X0_priceOf_16 : decode Y_X0_priceOf.cc 16 = .ok (.iconst 0, 1) := by decide +kernel
theorem d_X0_priceOf_17 : decode Y_X0_priceOf.cc 17 = .ok (.istore 6, 2) := by decide +kernel
theorem d_X0_priceOf_19 : decode Y_X0_priceOf.cc 19 = .ok (.iload 6, 2) := by decide +kernel
theorem d_X0_priceOf_21 : decode Y_X0_priceOf.cc 21 = .ok (.aload_n 0, 1) := by decide +kernel
theorem d_X0_priceOf_22 : decode Y_X0_priceOf.cc 22 = .ok (.getfield 56, 3) := by decide +kernel
theorem d_X0_priceOf_25 : decode Y_X0_priceOf.cc 25 = .ok (.if_icmp .ge 89, 3) := by decide +kernel
theorem d_X0_priceOf_28 : decode Y_X0_priceOf.cc 28 = .ok (.aload 4, 2) := by decide +kernel
theorem d_X0_priceOf_30 : decode Y_X0_priceOf.cc 30 = .ok (.getfield 59, 3) := by decide +kernel
theorem d_X0_priceOf_33 : decode Y_X0_priceOf.cc 33 = .ok (.aload_n 1, 1) := by decide +kernel
theorem d_X0_priceOf_34 : decode Y_X0_priceOf.cc 34 = .ok (.getfield 64, 3) := by decide +kernel
theorem d_X0_priceOf_37 : decode Y_X0_priceOf.cc 37 = .ok (.iload 6, 2) := by decide +kernel
theorem d_X0_priceOf_39 : decode Y_X0_priceOf.cc 39 = .ok (.iaload, 1) := by decide +kernel
theorem d_X0_priceOf_40 : decode Y_X0_priceOf.cc 40 = .ok (.imul, 1) := by decide +kernel
theorem d_X0_priceOf_41 : decode Y_X0_priceOf.cc 41 = .ok (.aload 5, 2) := by decide +kernel
theorem d_X0_priceOf_43 : decode Y_X0_priceOf.cc 43 = .ok (.getfield 69, 3) := by decide +kernel
theorem d_X0_priceOf_46 : decode Y_X0_priceOf.cc 46 = .ok (.imul, 1) := by decide +kernel
theorem d_X0_priceOf_47 : decode Y_X0_priceOf.cc 47 = .ok (.istore 7, 2) := by decide +kernel
theorem d_X0_priceOf_49 : decode Y_X0_priceOf.cc 49 = .ok (.aload 5, 2) := by decide +kernel
theorem d_X0_priceOf_51 : decode Y_X0_priceOf.cc 51 = .ok (.getfield 59, 3) := by decide +kernel
theorem d_X0_priceOf_54 : decode Y_X0_priceOf.cc 54 = .ok (.aload_n 1, 1) := by decide +kernel
theorem d_X0_priceOf_55 : decode Y_X0_priceOf.cc 55 = .ok (.getfield 72, 3) := by decide +kernel
theorem d_X0_priceOf_58 : decode Y_X0_priceOf.cc 58 = .ok (.iload 6, 2) := by decide +kernel
theorem d_X0_priceOf_60 : decode Y_X0_priceOf.cc 60 = .ok (.iaload, 1) := by decide +kernel
theorem d_X0_priceOf_61 : decode Y_X0_priceOf.cc 61 = .ok (.imul, 1) := by decide +kernel
theorem d_X0_priceOf_62 : decode Y_X0_priceOf.cc 62 = .ok (.aload 4, 2) := by decide +kernel
theorem d_X0_priceOf_64 : decode Y_X0_priceOf.cc 64 = .ok (.getfield 69, 3) := by decide +kernel
theorem d_X0_priceOf_67 : decode Y_X0_priceOf.cc 67 = .ok (.imul, 1) := by decide +kernel
theorem d_X0_priceOf_68 : decode Y_X0_priceOf.cc 68 = .ok (.istore 8, 2) := by decide +kernel
theorem d_X0_priceOf_70 : decode Y_X0_priceOf.cc 70 = .ok (.iload_n 2, 1) := by decide +kernel
theorem d_X0_priceOf_71 : decode Y_X0_priceOf.cc 71 = .ok (.iload_n 3, 1) := by decide +kernel
theorem d_X0_priceOf_72 : decode Y_X0_priceOf.cc 72 = .ok (.if_icmp .eq 36, 3) := by decide +kernel
theorem d_X0_priceOf_75 : decode Y_X0_priceOf.cc 75 = .ok (.iload 7, 2) := by decide +kernel
theorem d_X0_priceOf_77 : decode Y_X0_priceOf.cc 77 = .ok (.iload 8, 2) := by decide +kernel
theorem d_X0_priceOf_79 : decode Y_X0_priceOf.cc 79 = .ok (.if_icmp .ne 29, 3) := by decide +kernel
theorem d_X0_priceOf_82 : decode Y_X0_priceOf.cc 82 = .ok (.aload 4, 2) := by decide +kernel
theorem d_X0_priceOf_84 : decode Y_X0_priceOf.cc 84 = .ok (.getfield 75, 3) := by decide +kernel
theorem d_X0_priceOf_87 : decode Y_X0_priceOf.cc 87 = .ok (.aload 5, 2) := by decide +kernel
theorem d_X0_priceOf_89 : decode Y_X0_priceOf.cc 89 = .ok (.getfield 75, 3) := by decide +kernel
theorem d_X0_priceOf_92 : decode Y_X0_priceOf.cc 92 = .ok (.ixor, 1) := by decide +kernel
theorem d_X0_priceOf_93 : decode Y_X0_priceOf.cc 93 = .ok (.invokestatic 78, 3) := by decide +kernel
theorem d_X0_priceOf_96 : decode Y_X0_priceOf.cc 96 = .ok (.ldc 38, 2) := by decide +kernel
theorem d_X0_priceOf_98 : decode Y_X0_priceOf.cc 98 = .ok (.imul, 1) := by decide +kernel
theorem d_X0_priceOf_99 : decode Y_X0_priceOf.cc 99 = .ok (.iload_n 2, 1) := by decide +kernel
theorem d_X0_priceOf_100 : decode Y_X0_priceOf.cc 100 = .ok (.getstatic 40, 3) := by decide +kernel
theorem d_X0_priceOf_103 : decode Y_X0_priceOf.cc 103 = .ok (.iload_n 3, 1) := by decide +kernel
theorem d_X0_priceOf_104 : decode Y_X0_priceOf.cc 104 = .ok (.iaload, 1) := by decide +kernel
theorem d_X0_priceOf_105 : decode Y_X0_priceOf.cc 105 = .ok (.imul, 1) := by decide +kernel
theorem d_X0_priceOf_106 : decode Y_X0_priceOf.cc 106 = .ok (.iadd, 1) := by decide +kernel
theorem d_X0_priceOf_107 : decode Y_X0_priceOf.cc 107 = .ok (.ireturn, 1) := by decide +kernel
theorem d_X0_priceOf_108 : decode Y_X0_priceOf.cc 108 = .ok (.iinc 6 1, 3) := by decide +kernel
theorem d_X0_priceOf_111 : decode Y_X0_priceOf.cc 111 = .ok (.goto (-92), 3) := by decide +kernel
theorem d_X0_priceOf_114 : decode Y_X0_priceOf.cc 114 = .ok (.ldc 37, 2) := by decide +kernel
theorem d_X0_priceOf_116 : decode Y_X0_priceOf.cc 116 = .ok (.ireturn, 1) := by decide +kernel
def L_X0_priceOf_19 (G : MG) (d : Nat) (Q : Int32 → Mm → Prop) (o0 : Nat) (o1 : Nat) (x2 : Int32) (x3 : Int32) (o4 : Nat) (o5 : Nat) (x6 : Int32) (M : Mm) : Prop := T G Y_X0_priceOf (d + 1) (Ri Q) 0 0 19 [(0, .ref (G.b + o0)), (1, .ref (G.b + o1)), (2, .int x2), (3, .int x3), (4, .ref (G.b + o4)), (5, .ref (G.b + o5)), (6, .int x6)] [] M
theorem b_X0_priceOf_19 {G : MG} {d : Nat} {Q : Int32 → Mm → Prop} {o0 : Nat} {o1 : Nat} {x2 : Int32} {x3 : Int32} {o4 : Nat} {o5 : Nat} {x6 : Int32} {M : Mm} {c : Nat} (hL : Lay c M) (hx_z23 : ∀ U, G.X U → va_Z "CopyArms$Ancestry" "DIGIT" "[I" (.ref (G.ad 23)) (gA G) U U.heap) (hx_t23 : ∀ U, G.X U → va_T .int (G.ad 23) 7 (fun q => .int (digitT q)) (gA G) U U.heap) (ho0 : sh o0 = some (.inr 5)) (ho1 : sh o1 = some (.inr 7)) (ho4 : sh o4 = some (.inr 2)) (ho5 : sh o5 = some (.inr 2)) (h : (((M.1 o0 2) ≤ x6 → Q 2147483647 M) ∧ (¬ (M.1 o0 2) ≤ x6 → (vp_in x6 6 ∧ (vp_in x6 6 ∧ ((x2 = x3 → L_X0_priceOf_19 G d Q o0 o1 x2 x3 o4 o5 (x6 + 1) M) ∧ (¬ x2 = x3 → ((¬ (((M.1 o4 1) * (M.1 (o1 + 1) x6.toNatClampNeg)) * (M.1 o5 2)) = (((M.1 o5 1) * (M.1 (o1 + 2) x6.toNatClampNeg)) * (M.1 o4 2)) → L_X0_priceOf_19 G d Q o0 o1 x2 x3 o4 o5 (x6 + 1) M) ∧ ((((M.1 o4 1) * (M.1 (o1 + 1) x6.toNatClampNeg)) * (M.1 o5 2)) = (((M.1 o5 1) * (M.1 (o1 + 2) x6.toNatClampNeg)) * (M.1 o4 2)) → (C G Y_J6_bitCount_0f7a4 d [.int ((M.1 o4 3) ^^^ (M.1 o5 3))] M (Ri fun r5 M4 => M4.2.2 = M.2.2 ∧ (vp_in x3 7 ∧ Q ((r5 * 5764801) + (x2 * (digitT x3.toNatClampNeg))) M4)))))))))))) : L_X0_priceOf_19 G d Q o0 o1 x2 x3 o4 o5 x6 M := by
  unfold L_X0_priceOf_19
  refine tw_iload 6 d_X0_priceOf_19 rfl ?_
  refine tw_aload_n 0 d_X0_priceOf_21 rfl rfl ?_
  refine tw_getI f_X0_56 hL ho0 (Or.inl rfl) d_X0_priceOf_22 ?_
  refine tw_icmp_ge 114 d_X0_priceOf_25 (by decide) (fun z1 => ?_) (fun z1 => ?_)
  · replace h := h.1 z1
    refine tw_ldc d_X0_priceOf_114 mg831 ?_
    exact tw_iret rfl ⟨Nat.zero_le _, Nat.zero_le _⟩ d_X0_priceOf_116 h
  · replace h := h.2 z1
    refine tw_aload 4 d_X0_priceOf_28 rfl ?_
    refine tw_getI f_X0_59 hL ho4 (Or.inl rfl) d_X0_priceOf_30 ?_
    refine tw_aload_n 1 d_X0_priceOf_33 rfl rfl ?_
    refine tw_getR f_X0_64 hL ho1 ⟨rfl, rfl⟩ (rr_X7_0 ho1) d_X0_priceOf_34 ?_
    refine tw_iload 6 d_X0_priceOf_37 rfl ?_
    refine tw_iald hL (sr_X7_0 ho1) d_X0_priceOf_39 h.1 ?_
    replace h := h.2
    refine tw_imul d_X0_priceOf_40 ?_
    refine tw_aload 5 d_X0_priceOf_41 rfl ?_
    refine tw_getI f_X0_69 hL ho5 (Or.inl rfl) d_X0_priceOf_43 ?_
    refine tw_imul d_X0_priceOf_46 ?_
    refine tw_istore [(7, .int (((M.1 o4 1) * (M.1 (o1 + 1) x6.toNatClampNeg)) * (M.1 o5 2))), (0, .ref (G.b + o0)), (1, .ref (G.b + o1)), (2, .int x2), (3, .int x3), (4, .ref (G.b + o4)), (5, .ref (G.b + o5)), (6, .int x6)] d_X0_priceOf_47 (Nat.le_of_ble_eq_true rfl) rfl ?_
    refine tw_aload 6 d_X0_priceOf_49 rfl ?_
    refine tw_getI f_X0_59 hL ho5 (Or.inl rfl) d_X0_priceOf_51 ?_
    refine tw_aload_n 2 d_X0_priceOf_54 rfl rfl ?_
    refine tw_getR f_X0_72 hL ho1 ⟨rfl, rfl⟩ (rr_X7_1 ho1) d_X0_priceOf_55 ?_
    refine tw_iload 7 d_X0_priceOf_58 rfl ?_
    refine tw_iald hL (sr_X7_1 ho1) d_X0_priceOf_60 h.1 ?_
    replace h := h.2
    refine tw_imul d_X0_priceOf_61 ?_
    refine tw_aload 5 d_X0_priceOf_62 rfl ?_
    refine tw_getI f_X0_69 hL ho4 (Or.inl rfl) d_X0_priceOf_64 ?_
    refine tw_imul d_X0_priceOf_67 ?_
    refine tw_istore [(8, .int (((M.1 o5 1) * (M.1 (o1 + 2) x6.toNatClampNeg)) * (M.1 o4 2))), (7, .int (((M.1 o4 1) * (M.1 (o1 + 1) x6.toNatClampNeg)) * (M.1 o5 2))), (0, .ref (G.b + o0)), (1, .ref (G.b + o1)), (2, .int x2), (3, .int x3), (4, .ref (G.b + o4)), (5, .ref (G.b + o5)), (6, .int x6)] d_X0_priceOf_68 (Nat.le_of_ble_eq_true rfl) rfl ?_
    refine tw_iload_n 4 d_X0_priceOf_70 rfl rfl ?_
    refine tw_iload_n 5 d_X0_priceOf_71 rfl rfl ?_
    refine tw_icmp_eq 108 d_X0_priceOf_72 (by decide) (fun z2 => ?_) (fun z2 => ?_)
    · replace h := h.1 z2
      refine tw_iinc 8 [(6, .int (x6 + 1)), (8, .int (((M.1 o5 1) * (M.1 (o1 + 2) x6.toNatClampNeg)) * (M.1 o4 2))), (7, .int (((M.1 o4 1) * (M.1 (o1 + 1) x6.toNatClampNeg)) * (M.1 o5 2))), (0, .ref (G.b + o0)), (1, .ref (G.b + o1)), (2, .int x2), (3, .int x3), (4, .ref (G.b + o4)), (5, .ref (G.b + o5))] d_X0_priceOf_108 rfl rfl (Nat.le_of_ble_eq_true rfl) rfl ?_
      refine tw_goto 19 d_X0_priceOf_111 (by decide) ?_
      exact tw_lv [3, 4, 5, 6, 7, 8, 0] rfl h
    · replace h := h.2 z2
      refine tw_iload 1 d_X0_priceOf_75 rfl ?_
      refine tw_iload 0 d_X0_priceOf_77 rfl ?_
      refine tw_icmp_ne 108 d_X0_priceOf_79 (by decide) (fun z3 => ?_) (fun z3 => ?_)
      · replace h := h.1 z3
        refine tw_iinc 8 [(6, .int (x6 + 1)), (8, .int (((M.1 o5 1) * (M.1 (o1 + 2) x6.toNatClampNeg)) * (M.1 o4 2))), (7, .int (((M.1 o4 1) * (M.1 (o1 + 1) x6.toNatClampNeg)) * (M.1 o5 2))), (0, .ref (G.b + o0)), (1, .ref (G.b + o1)), (2, .int x2), (3, .int x3), (4, .ref (G.b + o4)), (5, .ref (G.b + o5))] d_X0_priceOf_108 rfl rfl (Nat.le_of_ble_eq_true rfl) rfl ?_
        refine tw_goto 19 d_X0_priceOf_111 (by decide) ?_
        exact tw_lv [3, 4, 5, 6, 7, 8, 0] rfl h
      · replace h := h.2 z3
        refine tw_aload 6 d_X0_priceOf_82 rfl ?_
        refine tw_getI f_X0_75 hL ho4 (Or.inl rfl) d_X0_priceOf_84 ?_
        refine tw_aload 7 d_X0_priceOf_87 rfl ?_
        refine tw_getI f_X0_75 hL ho5 (Or.inl rfl) d_X0_priceOf_89 ?_
        refine tw_ixor d_X0_priceOf_92 ?_
        refine tu_cSi (As := [.int ((M.1 o4 3) ^^^ (M.1 o5 3))]) cs_X0_78 rfl (Nat.le_of_ble_eq_true rfl) ⟨Nat.zero_le _, Nat.zero_le _⟩ d_X0_priceOf_93 h (fun r5 M4 h => ?_)
        have hL_M4 : Lay c M4 := hL.to h.1
        replace h := h.2
        refine tw_ldc d_X0_priceOf_96 mg828 ?_
        refine tw_imul d_X0_priceOf_98 ?_
        refine tw_iload_n 4 d_X0_priceOf_99 rfl rfl ?_
        refine tw_gets hx_z23 mg829 d_X0_priceOf_100 ?_
        refine tw_iload_n 5 d_X0_priceOf_103 rfl rfl ?_
        refine tw_ti (f := digitT) hx_t23 d_X0_priceOf_104 h.1 ?_
        replace h := h.2
        refine tw_imul d_X0_priceOf_105 ?_
        refine tw_iadd d_X0_priceOf_106 ?_
        exact tw_iret rfl ⟨Nat.zero_le _, Nat.zero_le _⟩ d_X0_priceOf_107 h
theorem b_X0_priceOf {G : MG} {d : Nat} {Q : Int32 → Mm → Prop} {o0 : Nat} {o1 : Nat} {x2 : Int32} {x3 : Int32} {M : Mm} {c : Nat} (hL : Lay c M) (hx_z23 : ∀ U, G.X U → va_Z "CopyArms$Ancestry" "DIGIT" "[I" (.ref (G.ad 23)) (gA G) U U.heap) (hx_t23 : ∀ U, G.X U → va_T .int (G.ad 23) 7 (fun q => .int (digitT q)) (gA G) U U.heap) (ho0 : sh o0 = some (.inr 5)) (ho1 : sh o1 = some (.inr 7)) (h : (vp_in x2 7 ∧ (vp_in x3 7 ∧ L_X0_priceOf_19 G d Q o0 o1 x2 x3 ((o0 + 2) + 13 + 3 * x2.toNatClampNeg) ((o0 + 2) + 13 + 3 * x3.toNatClampNeg) 0 M))) : C G Y_X0_priceOf (d + 1) [.ref (G.b + o0), .ref (G.b + o1), .int x2, .int x3] M (Ri Q) := by
  refine C.of (by decide) (Nat.le_of_ble_eq_true rfl) (lv := [(0, .ref (G.b + o0)), (1, .ref (G.b + o1)), (2, .int x2), (3, .int x3)]) rfl ?_
  refine tw_aload_n 0 d_X0_priceOf_0 rfl rfl ?_
  refine tw_getR f_X0_52 hL ho0 ⟨rfl, rfl⟩ (rr_X5_1 ho0) d_X0_priceOf_1 ?_
  refine tw_iload_n 2 d_X0_priceOf_4 rfl rfl ?_
  have hin := h.1
  refine tw_aald hL (sr_X5_1 ho0) (by decide) (re_5 (sr_X5_1 ho0)) d_X0_priceOf_5 h.1 ?_
  have hs1 := se_5 (sr_X5_1 ho0) (vp_lt h.1)
  replace h := h.2
  refine tw_astore [(4, .ref (G.b + ((o0 + 2) + 13 + 3 * x2.toNatClampNeg))), (0, .ref (G.b + o0)), (1, .ref (G.b + o1)), (2, .int x2), (3, .int x3)] d_X0_priceOf_6 (Nat.le_of_ble_eq_true rfl) rfl ?_
  refine tw_aload_n 1 d_X0_priceOf_8 rfl rfl ?_
  refine tw_getR f_X0_52 hL ho0 ⟨rfl, rfl⟩ (rr_X5_1 ho0) d_X0_priceOf_9 ?_
  refine tw_iload_n 4 d_X0_priceOf_12 rfl rfl ?_
  have hin := h.1
  refine tw_aald hL (sr_X5_1 ho0) (by decide) (re_5 (sr_X5_1 ho0)) d_X0_priceOf_13 h.1 ?_
  have hs2 := se_5 (sr_X5_1 ho0) (vp_lt h.1)
  replace h := h.2
  refine tw_astore [(5, .ref (G.b + ((o0 + 2) + 13 + 3 * x3.toNatClampNeg))), (4, .ref (G.b + ((o0 + 2) + 13 + 3 * x2.toNatClampNeg))), (0, .ref (G.b + o0)), (1, .ref (G.b + o1)), (2, .int x2), (3, .int x3)] d_X0_priceOf_14 (Nat.le_of_ble_eq_true rfl) rfl ?_
  refine tw_iconst d_X0_priceOf_16 k_0 ?_
  refine tw_istore [(6, .int 0), (5, .ref (G.b + ((o0 + 2) + 13 + 3 * x3.toNatClampNeg))), (4, .ref (G.b + ((o0 + 2) + 13 + 3 * x2.toNatClampNeg))), (0, .ref (G.b + o0)), (1, .ref (G.b + o1)), (2, .int x2), (3, .int x3)] d_X0_priceOf_17 (Nat.le_of_ble_eq_true rfl) rfl ?_
  exact tw_lv [3, 4, 5, 6, 2, 1, 0] rfl h

theorem d_X1_hasHoleOf_0 : decode Y_X1_hasHoleOf.cc 0 = .ok (.iconst 0, 1) := by decide +kernel
theorem d_X1_hasHoleOf_1 : decode Y_X1_hasHoleOf.cc 1 = .ok (.istore_n 3, 1) := by decide +kernel
theorem d_X1_hasHoleOf_2 : decode Y_X1_hasHoleOf.cc 2 = .ok (.iload_n 3, 1) := by decide +kernel
theorem d_X1_hasHoleOf_3 : decode Y_X1_hasHoleOf.cc 3 = .ok (.aload_n 0, 1) := by decide +kernel
theorem d_X1_hasHoleOf_4 : decode Y_X1_hasHoleOf.cc 4 = .ok (.getfield 15, 3) := by decide +kernel
theorem d_X1_hasHoleOf_7 : decode Y_X1_hasHoleOf.cc 7 = .ok (.if_icmp .ge 23, 3) := by decide +kernel
theorem d_X1_hasHoleOf_10 : decode Y_X1_hasHoleOf.cc 10 = .ok (.aload_n 0, 1) := by decide +kernel
theorem d_X1_hasHoleOf_11 : decode Y_X1_hasHoleOf.cc 11 = .ok (.getfield 9, 3) := by decide +kernel
theorem d_X1_hasHoleOf_14 : decode Y_X1_hasHoleOf.cc 14 = .ok (.iload_n 3, 1) := by decide +kernel
theorem d_X1_hasHoleOf_15 : decode Y_X1_hasHoleOf.cc 15 = .ok (.iaload, 1) := by decide +kernel
theorem d_X1_hasHoleOf_16 : decode Y_X1_hasHoleOf.cc 16 = .ok (.i2l, 1) := by decide +kernel
theorem d_X1_hasHoleOf_17 : decode Y_X1_hasHoleOf.cc 17 = .ok (.lload_n 1, 1) := by decide +kernel
theorem d_X1_hasHoleOf_18 : decode Y_X1_hasHoleOf.cc 18 = .ok (.lcmp, 1) := by decide +kernel
theorem d_X1_hasHoleOf_19 : decode Y_X1_hasHoleOf.cc 19 = .ok (.ifCond .ne 5, 3) := by decide +kernel
theorem d_X1_hasHoleOf_22 : decode Y_X1_hasHoleOf.cc 22 = .ok (.iconst 1, 1) := by decide +kernel
theorem d_X1_hasHoleOf_23 : decode Y_X1_hasHoleOf.cc 23 = .ok (.ireturn, 1) := by decide +kernel
theorem d_X1_hasHoleOf_24 : decode Y_X1_hasHoleOf.cc 24 = .ok (.iinc 3 1, 3) := by decide +kernel
theorem d_X1_hasHoleOf_27 : decode Y_X1_hasHoleOf.cc 27 = .ok (.goto (-25), 3) := by decide +kernel
theorem d_X1_hasHoleOf_30 : decode Y_X1_hasHoleOf.cc 30 = .ok (.iconst 0, 1) := by decide +kernel
theorem d_X1_hasHoleOf_31 : decode Y_X1_hasHoleOf.cc 31 = .ok (.ireturn, 1) := by decide +kernel
def L_X1_hasHoleOf_2 (G : MG) (d : Nat) (Q : Int32 → Mm → Prop) (o0 : Nat) (y1 : Int64) (x3 : Int32) (M : Mm) : Prop := T G Y_X1_hasHoleOf (d + 1) (Ri Q) 0 0 2 [(0, .ref (G.b + o0)), (1, .long y1), (3, .int x3)] [] M
theorem b_X1_hasHoleOf_2 {G : MG} {d : Nat} {Q : Int32 → Mm → Prop} {o0 : Nat} {y1 : Int64} {x3 : Int32} {M : Mm} {c : Nat} (hL : Lay c M) (ho0 : sh o0 = some (.inr 1)) (h : (((M.1 o0 3) ≤ x3 → Q 0 M) ∧ (¬ (M.1 o0 3) ≤ x3 → (vp_in x3 4 ∧ ((¬ ((M.1 (o0 + 1) x3.toNatClampNeg).toInt64) = y1 → L_X1_hasHoleOf_2 G d Q o0 y1 (x3 + 1) M) ∧ (((M.1 (o0 + 1) x3.toNatClampNeg).toInt64) = y1 → Q 1 M)))))) : L_X1_hasHoleOf_2 G d Q o0 y1 x3 M := by
  unfold L_X1_hasHoleOf_2
  refine tw_iload_n 2 d_X1_hasHoleOf_2 rfl rfl ?_
  refine tw_aload_n 0 d_X1_hasHoleOf_3 rfl rfl ?_
  refine tw_getI f_X1_15 hL ho0 (Or.inl rfl) d_X1_hasHoleOf_4 ?_
  refine tw_icmp_ge 30 d_X1_hasHoleOf_7 (by decide) (fun z1 => ?_) (fun z1 => ?_)
  · replace h := h.1 z1
    refine tw_iconst d_X1_hasHoleOf_30 k_0 ?_
    exact tw_zret (ty := .boolean) rfl rfl ⟨Nat.zero_le _, Nat.zero_le _⟩ d_X1_hasHoleOf_31 h
  · replace h := h.2 z1
    refine tw_aload_n 0 d_X1_hasHoleOf_10 rfl rfl ?_
    refine tw_getR f_X1_9 hL ho0 ⟨rfl, rfl⟩ (rr_X1_2 ho0) d_X1_hasHoleOf_11 ?_
    refine tw_iload_n 2 d_X1_hasHoleOf_14 rfl rfl ?_
    refine tw_iald hL (sr_X1_2 ho0) d_X1_hasHoleOf_15 h.1 ?_
    replace h := h.2
    refine tw_i2l d_X1_hasHoleOf_16 ?_
    refine tw_lload_n 1 d_X1_hasHoleOf_17 rfl rfl ?_
    refine tw_lcmp_ne 24 d_X1_hasHoleOf_18 d_X1_hasHoleOf_19 (by decide) (fun z2 => ?_) (fun z2 => ?_)
    · replace h := h.1 z2
      refine tw_iinc 2 [(3, .int (x3 + 1)), (0, .ref (G.b + o0)), (1, .long y1)] d_X1_hasHoleOf_24 rfl rfl (Nat.le_of_ble_eq_true rfl) rfl ?_
      refine tw_goto 2 d_X1_hasHoleOf_27 (by decide) ?_
      exact tw_lv [1, 2, 0] rfl h
    · replace h := h.2 z2
      refine tw_iconst d_X1_hasHoleOf_22 k_1 ?_
      exact tw_zret (ty := .boolean) rfl rfl ⟨Nat.zero_le _, Nat.zero_le _⟩ d_X1_hasHoleOf_23 h
theorem b_X1_hasHoleOf {G : MG} {d : Nat} {Q : Int32 → Mm → Prop} {o0 : Nat} {y1 : Int64} {M : Mm} {c : Nat} (hL : Lay c M) (ho0 : sh o0 = some (.inr 1)) (h : L_X1_hasHoleOf_2 G d Q o0 y1 0 M) : C G Y_X1_hasHoleOf (d + 1) [.ref (G.b + o0), .long y1] M (Ri Q) := by
  refine C.of (by decide) (Nat.le_of_ble_eq_true rfl) (lv := [(0, .ref (G.b + o0)), (1, .long y1)]) rfl ?_
  refine tw_iconst d_X1_hasHoleOf_0 k_0 ?_
  refine tw_istore_n [(3, .int 0), (0, .ref (G.b + o0)), (1, .long y1)] d_X1_hasHoleOf_1 rfl (Nat.le_of_ble_eq_true rfl) rfl ?_
  exact tw_lv [1, 2, 0] rfl h

theorem d_X1_shakeOfHand_0 : decode Y_X1_shakeOfHand.cc 0 = .ok (.aload_n 0, 1) := by decide +kernel
theorem d_X1_shakeOfHand_1 : decode Y_X1_shakeOfHand.cc 1 = .ok (.getfield 19, 3) := by decide +kernel
theorem d_X1_shakeOfHand_4 : decode Y_X1_shakeOfHand.cc 4 = .ok (.iconst 3, 1) := by decide +kernel
theorem d_X1_shakeOfHand_5 : decode Y_X1_shakeOfHand.cc 5 = .ok (.if_icmp .ne 12, 3) := by decide +kernel
theorem d_X1_shakeOfHand_8 : decode Y_X1_shakeOfHand.cc 8 = .ok (.iconst 2, 1) := by decide +kernel
theorem d_X1_shakeOfHand_9 : decode Y_X1_shakeOfHand.cc 9 = .ok (.aload_n 0, 1) := by decide +kernel
theorem d_X1_shakeOfHand_10 : decode Y_X1_shakeOfHand.cc 10 = .ok (.getfield 22, 3) := by decide +kernel
theorem d_X1_shakeOfHand_13 : decode Y_X1_shakeOfHand.cc 13 = .ok (.imul, 1) := by decide +kernel
theorem d_X1_shakeOfHand_14 : decode Y_X1_shakeOfHand.cc 14 = .ok (.goto 7, 3) := by decide +kernel
theorem d_X1_shakeOfHand_17 : decode Y_X1_shakeOfHand.cc 17 = .ok (.aload_n 0, 1) := by decide +kernel
theorem d_X1_shakeOfHand_18 : decode Y_X1_shakeOfHand.cc 18 = .ok (.getfield 22, 3) := by decide +kernel
theorem d_X1_shakeOfHand_21 : decode Y_X1_shakeOfHand.cc 21 = .ok (.ireturn, 1) := by decide +kernel
theorem b_X1_shakeOfHand {G : MG} {d : Nat} {Q : Int32 → Mm → Prop} {o0 : Nat} {M : Mm} {c : Nat} (hL : Lay c M) (ho0 : sh o0 = some (.inr 1)) (h : ((¬ (M.1 o0 1) = 3 → Q (M.1 o0 8) M) ∧ ((M.1 o0 1) = 3 → Q (2 * (M.1 o0 8)) M))) : C G Y_X1_shakeOfHand (d + 1) [.ref (G.b + o0)] M (Ri Q) := by
  refine C.of (by decide) (Nat.le_of_ble_eq_true rfl) (lv := [(0, .ref (G.b + o0))]) rfl ?_
  refine tw_aload_n 0 d_X1_shakeOfHand_0 rfl rfl ?_
  refine tw_getI f_X1_19 hL ho0 (Or.inl rfl) d_X1_shakeOfHand_1 ?_
  refine tw_iconst d_X1_shakeOfHand_4 k_3 ?_
  refine tw_icmp_ne 17 d_X1_shakeOfHand_5 (by decide) (fun z1 => ?_) (fun z1 => ?_)
  · replace h := h.1 z1
    refine tw_aload_n 0 d_X1_shakeOfHand_17 rfl rfl ?_
    refine tw_getI f_X1_22 hL ho0 (Or.inl rfl) d_X1_shakeOfHand_18 ?_
    exact tw_iret rfl ⟨Nat.zero_le _, Nat.zero_le _⟩ d_X1_shakeOfHand_21 h
  · replace h := h.2 z1
    refine tw_iconst d_X1_shakeOfHand_8 k_2 ?_
    refine tw_aload_n 0 d_X1_shakeOfHand_9 rfl rfl ?_
    refine tw_getI f_X1_22 hL ho0 (Or.inl rfl) d_X1_shakeOfHand_10 ?_
    refine tw_imul d_X1_shakeOfHand_13 ?_
    refine tw_goto 21 d_X1_shakeOfHand_14 (by decide) ?_
    exact tw_iret rfl ⟨Nat.zero_le _, Nat.zero_le _⟩ d_X1_shakeOfHand_21 h

theorem d_X3_fewestPins_0 : decode Y_X3_fewestPins.cc 0 = .ok (.iconst 1, 1) := by decide +kernel
theorem d_X3_fewestPins_1 : decode Y_X3_fewestPins.cc 1 = .ok (.aload_n 1, 1) := by decide +kernel
theorem d_X3_fewestPins_2 : decode Y_X3_fewestPins.cc 2 = .ok (.getfield 19, 3) := by decide +kernel
theorem d_X3_fewestPins_5 : decode Y_X3_fewestPins.cc 5 = .ok (.ishl, 1) := by decide +kernel
theorem d_X3_fewestPins_6 : decode Y_X3_fewestPins.cc 6 = .ok (.istore_n 3, 1) := by decide +kernel
theorem d_X3_fewestPins_7 : decode Y_X3_fewestPins.cc 7 = .ok (.iconst 1, 1) := by decide +kernel
theorem d_X3_fewestPins_8 : decode Y_X3_fewestPins.cc 8 = .ok (.istore 4, 2) := by decide +kernel
theorem d_X3_fewestPins_10 : decode Y_X3_fewestPins.cc 10 = .ok (.iload 4, 2) := by decide +kernel
theorem d_X3_fewestPins_12 : decode Y_X3_fewestPins.cc 12 = .ok (.iload_n 3, 1) := by decide +kernel
theorem d_X3_fewestPins_13 : decode Y_X3_fewestPins.cc 13 = .ok (.if_icmp .ge 23, 3) := by decide +kernel
theorem d_X3_fewestPins_16 : decode Y_X3_fewestPins.cc 16 = .ok (.aload_n 0, 1) := by decide +kernel
theorem d_X3_fewestPins_17 : decode Y_X3_fewestPins.cc 17 = .ok (.getfield 9, 3) := by decide +kernel
theorem d_X3_fewestPins_20 : decode Y_X3_fewestPins.cc 20 = .ok (.iload 4, 2) := by decide +kernel
theorem d_X3_fewestPins_22 : decode Y_X3_fewestPins.cc 22 = .ok (.aload_n 1, 1) := by decide +kernel
theorem d_X3_fewestPins_23 : decode Y_X3_fewestPins.cc 23 = .ok (.iload 4, 2) := by decide +kernel
theorem d_X3_fewestPins_25 : decode Y_X3_fewestPins.cc 25 = .ok (.iload_n 2, 1) := by decide +kernel
theorem d_X3_fewestPins_26 : decode Y_X3_fewestPins.cc 26 = .ok (.invokestatic 25, 3) := by decide +kernel
theorem d_X3_fewestPins_29 : decode Y_X3_fewestPins.cc 29 = .ok (.bastore, 1) := by decide +kernel
theorem d_X3_fewestPins_30 : decode Y_X3_fewestPins.cc 30 = .ok (.iinc 4 1, 3) := by decide +kernel
theorem d_X3_fewestPins_33 : decode Y_X3_fewestPins.cc 33 = .ok (.goto (-23), 3) := by decide +kernel
theorem d_X3_fewestPins_36 : decode Y_X3_fewestPins.cc 36 = .ok (.aload_n 0, 1) := by decide +kernel
theorem d_X3_fewestPins_37 : decode Y_X3_fewestPins.cc 37 = .ok (.getfield 15, 3) := by decide +kernel
theorem d_X3_fewestPins_40 : decode Y_X3_fewestPins.cc 40 = .ok (.iconst 0, 1) := by decide +kernel
theorem d_X3_fewestPins_41 : decode Y_X3_fewestPins.cc 41 = .ok (.iconst 0, 1) := by decide +kernel
theorem d_X3_fewestPins_42 : decode Y_X3_fewestPins.cc 42 = .ok (.iastore, 1) := by decide +kernel
theorem d_X3_fewestPins_43 : decode Y_X3_fewestPins.cc 43 = .ok (.iconst 1, 1) := by decide +kernel
theorem d_X3_fewestPins_44 : decode Y_X3_fewestPins.cc 44 = .ok (.istore 4, 2) := by decide +kernel
theorem d_X3_fewestPins_46 : decode Y_X3_fewestPins.cc 46 = .ok (.iload 4, 2) := by decide +kernel
theorem d_X3_fewestPins_48 : decode Y_X3_fewestPins.cc 48 = .ok (.iload_n 3, 1) := by decide +kernel
theorem d_X3_fewestPins_49 : decode Y_X3_fewestPins.cc 49 = .ok (.if_icmp .ge 22, 3) := by decide +kernel
theorem d_X3_fewestPins_52 : decode Y_X3_fewestPins.cc 52 = .ok (.aload_n 0, 1) := by decide +kernel
theorem d_X3_fewestPins_53 : decode Y_X3_fewestPins.cc 53 = .ok (.getfield 15, 3) := by decide +kernel
theorem d_X3_fewestPins_56 : decode Y_X3_fewestPins.cc 56 = .ok (.iload 4, 2) := by decide +kernel
theorem d_X3_fewestPins_58 : decode Y_X3_fewestPins.cc 58 = .ok (.aload_n 0, 1) := by decide +kernel
theorem d_X3_fewestPins_59 : decode Y_X3_fewestPins.cc 59 = .ok (.iload 4, 2) := by decide +kernel
theorem d_X3_fewestPins_61 : decode Y_X3_fewestPins.cc 61 = .ok (.invokevirtual 29, 3) := by decide +kernel
theorem d_X3_fewestPins_64 : decode Y_X3_fewestPins.cc 64 = .ok (.iastore, 1) := by decide +kernel
theorem d_X3_fewestPins_65 : decode Y_X3_fewestPins.cc 65 = .ok (.iinc 4 1, 3) := by decide +kernel
theorem d_X3_fewestPins_68 : decode Y_X3_fewestPins.cc 68 = .ok (.goto (-22), 3) := by decide +kernel
theorem d_X3_fewestPins_71 : decode Y_X3_fewestPins.cc 71 = .ok (.aload_n 0, 1) := by decide +kernel
theorem d_X3_fewestPins_72 : decode Y_X3_fewestPins.cc 72 = .ok (.getfield 15, 3) := by decide +kernel
theorem d_X3_fewestPins_75 : decode Y_X3_fewestPins.cc 75 = .ok (.iload_n 3, 1) := by decide +kernel
theorem d_X3_fewestPins_76 : decode Y_X3_fewestPins.cc 76 = .ok (.iconst 1, 1) := by decide +kernel
theorem d_X3_fewestPins_77 : decode Y_X3_fewestPins.cc 77 = .ok (.isub, 1) := by decide +kernel
theorem d_X3_fewestPins_78 : decode Y_X3_fewestPins.cc 78 = .ok (.iaload, 1) := by decide +kernel
theorem d_X3_fewestPins_79 : decode Y_X3_fewestPins.cc 79 = .ok (.ireturn, 1) := by decide +kernel
def L_X3_fewestPins_10 (G : MG) (d : Nat) (Q : Int32 → Mm → Prop) (o1 : Nat) (x2 : Int32) (x3 : Int32) (x4 : Int32) (M : Mm) : Prop := T G Y_X3_fewestPins (d + 1) (Ri Q) 0 0 10 [(0, .ref (G.b + 134)), (1, .ref (G.b + o1)), (2, .int x2), (3, .int x3), (4, .int x4)] [] M
def L_X3_fewestPins_46 (G : MG) (d : Nat) (Q : Int32 → Mm → Prop) (x3 : Int32) (x4 : Int32) (M : Mm) : Prop := T G Y_X3_fewestPins (d + 1) (Ri Q) 0 0 46 [(0, .ref (G.b + 134)), (3, .int x3), (4, .int x4)] [] M
theorem b_X3_fewestPins_10 {G : MG} {d : Nat} {Q : Int32 → Mm → Prop} {o1 : Nat} {x2 : Int32} {x3 : Int32} {x4 : Int32} {M : Mm} {c : Nat} (hL : Lay c M) (ho1 : sh o1 = some (.inr 2)) (h : ((x3 ≤ x4 → (∀ M2 : Mm, M2 = sI M 136 (Int32.toNatClampNeg 0) 0 → L_X3_fewestPins_46 G d Q x3 1 M2)) ∧ (¬ x3 ≤ x4 → (C G Y_X3_reachesAll d [.ref (G.b + o1), .int x4, .int x2] M (Ri fun r4 M3 => M3.2.2 = M.2.2 ∧ (vp_in x4 64 ∧ ∀ M5 : Mm, M5 = sI M3 135 x4.toNatClampNeg (vp_nar .boolean r4) → L_X3_fewestPins_10 G d Q o1 x2 x3 (x4 + 1) M5)))))) : L_X3_fewestPins_10 G d Q o1 x2 x3 x4 M := by
  unfold L_X3_fewestPins_10
  refine tw_iload 4 d_X3_fewestPins_10 rfl ?_
  refine tw_iload_n 3 d_X3_fewestPins_12 rfl rfl ?_
  refine tw_icmp_ge 36 d_X3_fewestPins_13 (by decide) (fun z1 => ?_) (fun z1 => ?_)
  · replace h := h.1 z1
    refine tw_aload_n 0 d_X3_fewestPins_36 rfl rfl ?_
    refine tw_getR f_X3_15 hL s_134 ⟨rfl, rfl⟩ (rr_X3_1 s_134) d_X3_fewestPins_37 ?_
    refine tw_iconst d_X3_fewestPins_40 k_0 ?_
    refine tw_iconst d_X3_fewestPins_41 k_0 ?_
    refine tu_iast hL s_136 d_X3_fewestPins_42 (by unfold vp_in; decide) (fun M2 e_M2 hL_M2 => ?_)
    replace h := h M2 e_M2
    refine tw_iconst d_X3_fewestPins_43 k_1 ?_
    refine tw_istore [(4, .int 1), (0, .ref (G.b + 134)), (1, .ref (G.b + o1)), (2, .int x2), (3, .int x3)] d_X3_fewestPins_44 (Nat.le_of_ble_eq_true rfl) rfl ?_
    exact tw_lv [1, 4, 0] rfl h
  · replace h := h.2 z1
    refine tw_aload_n 0 d_X3_fewestPins_16 rfl rfl ?_
    refine tw_getR f_X3_9 hL s_134 ⟨rfl, rfl⟩ (rr_X3_0 s_134) d_X3_fewestPins_17 ?_
    refine tw_iload 4 d_X3_fewestPins_20 rfl ?_
    refine tw_aload_n 1 d_X3_fewestPins_22 rfl rfl ?_
    refine tw_iload 4 d_X3_fewestPins_23 rfl ?_
    refine tw_iload_n 2 d_X3_fewestPins_25 rfl rfl ?_
    refine tu_cSi (As := [.ref (G.b + o1), .int x4, .int x2]) cs_X3_25 rfl (Nat.le_of_ble_eq_true rfl) ⟨Nat.zero_le _, Nat.zero_le _⟩ d_X3_fewestPins_26 h (fun r4 M3 h => ?_)
    have hL_M3 : Lay c M3 := hL.to h.1
    replace h := h.2
    refine tu_zast hL_M3 s_135 d_X3_fewestPins_29 h.1 (fun M5 e_M5 hL_M5 => ?_)
    replace h := h.2 M5 e_M5
    refine tw_iinc 4 [(4, .int (x4 + 1)), (0, .ref (G.b + 134)), (1, .ref (G.b + o1)), (2, .int x2), (3, .int x3)] d_X3_fewestPins_30 rfl rfl (Nat.le_of_ble_eq_true rfl) rfl ?_
    refine tw_goto 10 d_X3_fewestPins_33 (by decide) ?_
    exact tw_lv [1, 2, 3, 4, 0] rfl h
theorem b_X3_fewestPins_46 {G : MG} {d : Nat} {Q : Int32 → Mm → Prop} {x3 : Int32} {x4 : Int32} {M : Mm} {c : Nat} (hL : Lay c M)  (h : ((x3 ≤ x4 → (vp_in (x3 - 1) 64 ∧ Q (M.1 136 (x3 - 1).toNatClampNeg) M)) ∧ (¬ x3 ≤ x4 → (C G Y_X3_fewestOf d [.ref (G.b + 134), .int x4] M (Ri fun r3 M2 => M2.2.2 = M.2.2 ∧ (vp_in x4 64 ∧ ∀ M4 : Mm, M4 = sI M2 136 x4.toNatClampNeg r3 → L_X3_fewestPins_46 G d Q x3 (x4 + 1) M4)))))) : L_X3_fewestPins_46 G d Q x3 x4 M := by
  unfold L_X3_fewestPins_46
  refine tw_iload 2 d_X3_fewestPins_46 rfl ?_
  refine tw_iload_n 1 d_X3_fewestPins_48 rfl rfl ?_
  refine tw_icmp_ge 71 d_X3_fewestPins_49 (by decide) (fun z1 => ?_) (fun z1 => ?_)
  · replace h := h.1 z1
    refine tw_aload_n 0 d_X3_fewestPins_71 rfl rfl ?_
    refine tw_getR f_X3_15 hL s_134 ⟨rfl, rfl⟩ (rr_X3_1 s_134) d_X3_fewestPins_72 ?_
    refine tw_iload_n 1 d_X3_fewestPins_75 rfl rfl ?_
    refine tw_iconst d_X3_fewestPins_76 k_1 ?_
    refine tw_isub d_X3_fewestPins_77 ?_
    refine tw_iald hL s_136 d_X3_fewestPins_78 h.1 ?_
    replace h := h.2
    exact tw_iret rfl ⟨Nat.zero_le _, Nat.zero_le _⟩ d_X3_fewestPins_79 h
  · replace h := h.2 z1
    refine tw_aload_n 0 d_X3_fewestPins_52 rfl rfl ?_
    refine tw_getR f_X3_15 hL s_134 ⟨rfl, rfl⟩ (rr_X3_1 s_134) d_X3_fewestPins_53 ?_
    refine tw_iload 2 d_X3_fewestPins_56 rfl ?_
    refine tw_aload_n 0 d_X3_fewestPins_58 rfl rfl ?_
    refine tw_iload 2 d_X3_fewestPins_59 rfl ?_
    refine tu_cVi (As := [.int x4]) cv_X3_29 hL s_134 rfl (Nat.le_of_ble_eq_true rfl) ⟨Nat.zero_le _, Nat.zero_le _⟩ d_X3_fewestPins_61 h (fun r3 M2 h => ?_)
    have hL_M2 : Lay c M2 := hL.to h.1
    replace h := h.2
    refine tu_iast hL_M2 s_136 d_X3_fewestPins_64 h.1 (fun M4 e_M4 hL_M4 => ?_)
    replace h := h.2 M4 e_M4
    refine tw_iinc 2 [(4, .int (x4 + 1)), (0, .ref (G.b + 134)), (3, .int x3)] d_X3_fewestPins_65 rfl rfl (Nat.le_of_ble_eq_true rfl) rfl ?_
    refine tw_goto 46 d_X3_fewestPins_68 (by decide) ?_
    exact tw_lv [1, 2, 0] rfl h
theorem b_X3_fewestPins {G : MG} {d : Nat} {Q : Int32 → Mm → Prop} {o1 : Nat} {x2 : Int32} {M : Mm} {c : Nat} (hL : Lay c M) (ho1 : sh o1 = some (.inr 2)) (h : L_X3_fewestPins_10 G d Q o1 x2 (1 <<< ((M.1 o1 6) &&& 31)) 1 M) : C G Y_X3_fewestPins (d + 1) [.ref (G.b + 134), .ref (G.b + o1), .int x2] M (Ri Q) := by
  refine C.of (by decide) (Nat.le_of_ble_eq_true rfl) (lv := [(0, .ref (G.b + 134)), (1, .ref (G.b + o1)), (2, .int x2)]) rfl ?_
  refine tw_iconst d_X3_fewestPins_0 k_1 ?_
  refine tw_aload_n 1 d_X3_fewestPins_1 rfl rfl ?_
  refine tw_getI f_X3_19 hL ho1 (Or.inl rfl) d_X3_fewestPins_2 ?_
  refine tw_ishl d_X3_fewestPins_5 ?_
  refine tw_istore_n [(3, .int (1 <<< ((M.1 o1 6) &&& 31))), (0, .ref (G.b + 134)), (1, .ref (G.b + o1)), (2, .int x2)] d_X3_fewestPins_6 rfl (Nat.le_of_ble_eq_true rfl) rfl ?_
  refine tw_iconst d_X3_fewestPins_7 k_1 ?_
  refine tw_istore [(4, .int 1), (3, .int (1 <<< ((M.1 o1 6) &&& 31))), (0, .ref (G.b + 134)), (1, .ref (G.b + o1)), (2, .int x2)] d_X3_fewestPins_8 (Nat.le_of_ble_eq_true rfl) rfl ?_
  exact tw_lv [2, 3, 4, 1, 0] rfl h

theorem d_X3_fewestOf_0 : decode Y_X3_fewestOf.cc 0 = .ok (.bipush 6, 2) := by decide +kernel
theorem d_X3_fewestOf_2 : decode Y_X3_fewestOf.cc 2 = .ok (.istore_n 2, 1) := by decide +kernel
theorem d_X3_fewestOf_3 : decode Y_X3_fewestOf.cc 3 = .ok (.iconst 1, 1) := by decide +kernel
theorem d_X3_fewestOf_4 : decode Y_X3_fewestOf.cc 4 = .ok (.istore_n 3, 1) := by decide +kernel
theorem d_X3_fewestOf_5 : decode Y_X3_fewestOf.cc 5 = .ok (.iload_n 3, 1) := by decide +kernel
theorem d_X3_fewestOf_6 : decode Y_X3_fewestOf.cc 6 = .ok (.iload_n 1, 1) := by decide +kernel
theorem d_X3_fewestOf_7 : decode Y_X3_fewestOf.cc 7 = .ok (.if_icmp .gt 43, 3) := by decide +kernel
theorem d_X3_fewestOf_10 : decode Y_X3_fewestOf.cc 10 = .ok (.iload_n 3, 1) := by decide +kernel
theorem d_X3_fewestOf_11 : decode Y_X3_fewestOf.cc 11 = .ok (.iload_n 1, 1) := by decide +kernel
theorem d_X3_fewestOf_12 : decode Y_X3_fewestOf.cc 12 = .ok (.iconst (-1), 1) := by decide +kernel
theorem d_X3_fewestOf_13 : decode Y_X3_fewestOf.cc 13 = .ok (.ixor, 1) := by decide +kernel
theorem d_X3_fewestOf_14 : decode Y_X3_fewestOf.cc 14 = .ok (.iand, 1) := by decide +kernel
theorem d_X3_fewestOf_15 : decode Y_X3_fewestOf.cc 15 = .ok (.ifCond .ne 29, 3) := by decide +kernel
theorem d_X3_fewestOf_18 : decode Y_X3_fewestOf.cc 18 = .ok (.aload_n 0, 1) := by decide +kernel
theorem d_X3_fewestOf_19 : decode Y_X3_fewestOf.cc 19 = .ok (.getfield 9, 3) := by decide +kernel
theorem d_X3_fewestOf_22 : decode Y_X3_fewestOf.cc 22 = .ok (.iload_n 3, 1) := by decide +kernel
theorem d_X3_fewestOf_23 : decode Y_X3_fewestOf.cc 23 = .ok (.baload, 1) := by decide +kernel
theorem d_X3_fewestOf_24 : decode Y_X3_fewestOf.cc 24 = .ok (.ifCond .eq 20, 3) := by decide +kernel
theorem d_X3_fewestOf_27 : decode Y_X3_fewestOf.cc 27 = .ok (.iload_n 2, 1) := by decide +kernel
theorem d_X3_fewestOf_28 : decode Y_X3_fewestOf.cc 28 = .ok (.iconst 1, 1) := by decide +kernel
theorem d_X3_fewestOf_29 : decode Y_X3_fewestOf.cc 29 = .ok (.aload_n 0, 1) := by decide +kernel
theorem d_X3_fewestOf_30 : decode Y_X3_fewestOf.cc 30 = .ok (.getfield 15, 3) := by decide +kernel
theorem d_X3_fewestOf_33 : decode Y_X3_fewestOf.cc 33 = .ok (.iload_n 1, 1) := by decide +kernel
theorem d_X3_fewestOf_34 : decode Y_X3_fewestOf.cc 34 = .ok (.iload_n 3, 1) := by decide +kernel
theorem d_X3_fewestOf_35 : decode Y_X3_fewestOf.cc 35 = .ok (.iconst (-1), 1) := by decide +kernel
theorem d_X3_fewestOf_36 : decode Y_X3_fewestOf.cc 36 = .ok (.ixor, 1) := by decide +kernel
theorem d_X3_fewestOf_37 : decode Y_X3_fewestOf.cc 37 = .ok (.iand, 1) := by decide +kernel
theorem d_X3_fewestOf_38 : decode Y_X3_fewestOf.cc 38 = .ok (.iaload, 1) := by decide +kernel
theorem d_X3_fewestOf_39 : decode Y_X3_fewestOf.cc 39 = .ok (.iadd, 1) := by decide +kernel
theorem d_X3_fewestOf_40 : decode Y_X3_fewestOf.cc 40 = .ok (.invokestatic 33, 3) := by decide +kernel
theorem d_X3_fewestOf_43 : decode Y_X3_fewestOf.cc 43 = .ok (.istore_n 2, 1) := by decide +kernel
theorem d_X3_fewestOf_44 : decode Y_X3_fewestOf.cc 44 = .ok (.iinc 3 1, 3) := by decide +kernel
theorem d_X3_fewestOf_47 : decode Y_X3_fewestOf.cc 47 = .ok (.goto (-42), 3) := by decide +kernel
theorem d_X3_fewestOf_50 : decode Y_X3_fewestOf.cc 50 = .ok (.iload_n 2, 1) := by decide +kernel
theorem d_X3_fewestOf_51 : decode Y_X3_fewestOf.cc 51 = .ok (.ireturn, 1) := by decide +kernel
def L_X3_fewestOf_5 (G : MG) (d : Nat) (Q : Int32 → Mm → Prop) (x1 : Int32) (x2 : Int32) (x3 : Int32) (M : Mm) : Prop := T G Y_X3_fewestOf (d + 1) (Ri Q) 0 0 5 [(0, .ref (G.b + 134)), (1, .int x1), (2, .int x2), (3, .int x3)] [] M
theorem b_X3_fewestOf_5 {G : MG} {d : Nat} {Q : Int32 → Mm → Prop} {x1 : Int32} {x2 : Int32} {x3 : Int32} {M : Mm} {c : Nat} (hL : Lay c M)  (h : ((x1 < x3 → Q x2 M) ∧ (¬ x1 < x3 → ((¬ (x3 &&& (x1 ^^^ (-1))) = 0 → L_X3_fewestOf_5 G d Q x1 x2 (x3 + 1) M) ∧ ((x3 &&& (x1 ^^^ (-1))) = 0 → (vp_in x3 64 ∧ (((M.1 135 x3.toNatClampNeg) = 0 → L_X3_fewestOf_5 G d Q x1 x2 (x3 + 1) M) ∧ (¬ (M.1 135 x3.toNatClampNeg) = 0 → (vp_in (x1 &&& (x3 ^^^ (-1))) 64 ∧ ∀ v4 : Int32, v4 = (if 1 + (M.1 136 (x1 &&& (x3 ^^^ (-1))).toNatClampNeg) < x2 then 1 + (M.1 136 (x1 &&& (x3 ^^^ (-1))).toNatClampNeg) else x2) → L_X3_fewestOf_5 G d Q x1 v4 (x3 + 1) M))))))))) : L_X3_fewestOf_5 G d Q x1 x2 x3 M := by
  unfold L_X3_fewestOf_5
  refine tw_iload_n 3 d_X3_fewestOf_5 rfl rfl ?_
  refine tw_iload_n 1 d_X3_fewestOf_6 rfl rfl ?_
  refine tw_icmp_gt 50 d_X3_fewestOf_7 (by decide) (fun z1 => ?_) (fun z1 => ?_)
  · replace h := h.1 z1
    refine tw_iload_n 2 d_X3_fewestOf_50 rfl rfl ?_
    exact tw_iret rfl ⟨Nat.zero_le _, Nat.zero_le _⟩ d_X3_fewestOf_51 h
  · replace h := h.2 z1
    refine tw_iload_n 3 d_X3_fewestOf_10 rfl rfl ?_
    refine tw_iload_n 1 d_X3_fewestOf_11 rfl rfl ?_
    refine tw_iconst d_X3_fewestOf_12 k_m1 ?_
    refine tw_ixor d_X3_fewestOf_13 ?_
    refine tw_iand d_X3_fewestOf_14 ?_
    refine tw_if_ne 44 d_X3_fewestOf_15 (by decide) (fun z2 => ?_) (fun z2 => ?_)
    · replace h := h.1 z2
      refine tw_iinc 3 [(3, .int (x3 + 1)), (0, .ref (G.b + 134)), (1, .int x1), (2, .int x2)] d_X3_fewestOf_44 rfl rfl (Nat.le_of_ble_eq_true rfl) rfl ?_
      refine tw_goto 5 d_X3_fewestOf_47 (by decide) ?_
      exact tw_lv [1, 2, 3, 0] rfl h
    · replace h := h.2 z2
      refine tw_aload_n 0 d_X3_fewestOf_18 rfl rfl ?_
      refine tw_getR f_X3_9 hL s_134 ⟨rfl, rfl⟩ (rr_X3_0 s_134) d_X3_fewestOf_19 ?_
      refine tw_iload_n 3 d_X3_fewestOf_22 rfl rfl ?_
      refine tw_zald hL s_135 d_X3_fewestOf_23 h.1 ?_
      replace h := h.2
      refine tw_if_eq 44 d_X3_fewestOf_24 (by decide) (fun z3 => ?_) (fun z3 => ?_)
      · replace h := h.1 z3
        refine tw_iinc 3 [(3, .int (x3 + 1)), (0, .ref (G.b + 134)), (1, .int x1), (2, .int x2)] d_X3_fewestOf_44 rfl rfl (Nat.le_of_ble_eq_true rfl) rfl ?_
        refine tw_goto 5 d_X3_fewestOf_47 (by decide) ?_
        exact tw_lv [1, 2, 3, 0] rfl h
      · replace h := h.2 z3
        refine tw_iload_n 2 d_X3_fewestOf_27 rfl rfl ?_
        refine tw_iconst d_X3_fewestOf_28 k_1 ?_
        refine tw_aload_n 0 d_X3_fewestOf_29 rfl rfl ?_
        refine tw_getR f_X3_15 hL s_134 ⟨rfl, rfl⟩ (rr_X3_1 s_134) d_X3_fewestOf_30 ?_
        refine tw_iload_n 1 d_X3_fewestOf_33 rfl rfl ?_
        refine tw_iload_n 3 d_X3_fewestOf_34 rfl rfl ?_
        refine tw_iconst d_X3_fewestOf_35 k_m1 ?_
        refine tw_ixor d_X3_fewestOf_36 ?_
        refine tw_iand d_X3_fewestOf_37 ?_
        refine tw_iald hL s_136 d_X3_fewestOf_38 h.1 ?_
        replace h := h.2
        refine tw_iadd d_X3_fewestOf_39 ?_
        refine tw_mmin mo_X3_33 (Nat.le_of_ble_eq_true rfl) ⟨Nat.zero_le _, Nat.zero_le _⟩ d_X3_fewestOf_40 ?_
        refine tw_nmI (fun v4 e_v4 => ?_)
        replace h := h v4 e_v4
        refine tw_istore_n [(2, .int v4), (0, .ref (G.b + 134)), (1, .int x1), (3, .int x3)] d_X3_fewestOf_43 rfl (Nat.le_of_ble_eq_true rfl) rfl ?_
        refine tw_iinc 3 [(3, .int (x3 + 1)), (2, .int v4), (0, .ref (G.b + 134)), (1, .int x1)] d_X3_fewestOf_44 rfl rfl (Nat.le_of_ble_eq_true rfl) rfl ?_
        refine tw_goto 5 d_X3_fewestOf_47 (by decide) ?_
        exact tw_lv [2, 3, 1, 0] rfl h
theorem b_X3_fewestOf {G : MG} {d : Nat} {Q : Int32 → Mm → Prop} {x1 : Int32} {M : Mm} {c : Nat} (hL : Lay c M)  (h : L_X3_fewestOf_5 G d Q x1 6 1 M) : C G Y_X3_fewestOf (d + 1) [.ref (G.b + 134), .int x1] M (Ri Q) := by
  refine C.of (by decide) (Nat.le_of_ble_eq_true rfl) (lv := [(0, .ref (G.b + 134)), (1, .int x1)]) rfl ?_
  refine tw_bipush d_X3_fewestOf_0 kb_6 ?_
  refine tw_istore_n [(2, .int 6), (0, .ref (G.b + 134)), (1, .int x1)] d_X3_fewestOf_2 rfl (Nat.le_of_ble_eq_true rfl) rfl ?_
  refine tw_iconst d_X3_fewestOf_3 k_1 ?_
  refine tw_istore_n [(3, .int 1), (2, .int 6), (0, .ref (G.b + 134)), (1, .int x1)] d_X3_fewestOf_4 rfl (Nat.le_of_ble_eq_true rfl) rfl ?_
  exact tw_lv [2, 3, 1, 0] rfl h

theorem d_X3_reachesAll_0 : decode Y_X3_reachesAll.cc 0 = .ok (.sipush 198, 3) := by decide +kernel
theorem d_X3_reachesAll_3 : decode Y_X3_reachesAll.cc 3 = .ok (.istore_n 3, 1) := by decide +kernel
theorem d_X3_reachesAll_4 : decode Y_X3_reachesAll.cc 4 = .ok (.iconst 0, 1) := by decide +kernel
theorem d_X3_reachesAll_5 : decode Y_X3_reachesAll.cc 5 = .ok (.istore 4, 2) := by decide +kernel
theorem d_X3_reachesAll_7 : decode Y_X3_reachesAll.cc 7 = .ok (.bipush 99, 2) := by decide +kernel
theorem d_X3_reachesAll_9 : decode Y_X3_reachesAll.cc 9 = .ok (.istore 5, 2) := by decide +kernel
theorem d_X3_reachesAll_11 : decode Y_X3_reachesAll.cc 11 = .ok (.bipush (-99), 2) := by decide +kernel
theorem d_X3_reachesAll_13 : decode Y_X3_reachesAll.cc 13 = .ok (.istore 6, 2) := by decide +kernel
theorem d_X3_reachesAll_15 : decode Y_X3_reachesAll.cc 15 = .ok (.iconst 0, 1) := by decide +kernel
theorem d_X3_reachesAll_16 : decode Y_X3_reachesAll.cc 16 = .ok (.istore 7, 2) := by decide +kernel
theorem d_X3_reachesAll_18 : decode Y_X3_reachesAll.cc 18 = .ok (.iload 7, 2) := by decide +kernel
theorem d_X3_reachesAll_20 : decode Y_X3_reachesAll.cc 20 = .ok (.aload_n 0, 1) := by decide +kernel
theorem d_X3_reachesAll_21 : decode Y_X3_reachesAll.cc 21 = .ok (.getfield 19, 3) := by decide +kernel
theorem d_X3_reachesAll_24 : decode Y_X3_reachesAll.cc 24 = .ok (.if_icmp .ge 86, 3) := by decide +kernel
theorem d_X3_reachesAll_27 : decode Y_X3_reachesAll.cc 27 = .ok (.iload_n 1, 1) := by decide +kernel
theorem d_X3_reachesAll_28 : decode Y_X3_reachesAll.cc 28 = .ok (.iconst 1, 1) := by decide +kernel
theorem d_X3_reachesAll_29 : decode Y_X3_reachesAll.cc 29 = .ok (.iload 7, 2) := by decide +kernel
theorem d_X3_reachesAll_31 : decode Y_X3_reachesAll.cc 31 = .ok (.ishl, 1) := by decide +kernel
theorem d_X3_reachesAll_32 : decode Y_X3_reachesAll.cc 32 = .ok (.iand, 1) := by decide +kernel
theorem d_X3_reachesAll_33 : decode Y_X3_reachesAll.cc 33 = .ok (.ifCond .eq 71, 3) := by decide +kernel
theorem d_X3_reachesAll_36 : decode Y_X3_reachesAll.cc 36 = .ok (.aload_n 0, 1) := by decide +kernel
theorem d_X3_reachesAll_37 : decode Y_X3_reachesAll.cc 37 = .ok (.getfield 39, 3) := by decide +kernel
theorem d_X3_reachesAll_40 : decode Y_X3_reachesAll.cc 40 = .ok (.iload 7, 2) := by decide +kernel
theorem d_X3_reachesAll_42 : decode Y_X3_reachesAll.cc 42 = .ok (.iaload, 1) := by decide +kernel
theorem d_X3_reachesAll_43 : decode Y_X3_reachesAll.cc 43 = .ok (.aload_n 0, 1) := by decide +kernel
theorem d_X3_reachesAll_44 : decode Y_X3_reachesAll.cc 44 = .ok (.getfield 42, 3) := by decide +kernel
theorem d_X3_reachesAll_47 : decode Y_X3_reachesAll.cc 47 = .ok (.iload 7, 2) := by decide +kernel
theorem d_X3_reachesAll_49 : decode Y_X3_reachesAll.cc 49 = .ok (.iaload, 1) := by decide +kernel
theorem d_X3_reachesAll_50 : decode Y_X3_reachesAll.cc 50 = .ok (.iadd, 1) := by decide +kernel
theorem d_X3_reachesAll_51 : decode Y_X3_reachesAll.cc 51 = .ok (.istore 8, 2) := by decide +kernel
theorem d_X3_reachesAll_53 : decode Y_X3_reachesAll.cc 53 = .ok (.aload_n 0, 1) := by decide +kernel
theorem d_X3_reachesAll_54 : decode Y_X3_reachesAll.cc 54 = .ok (.getfield 39, 3) := by decide +kernel
theorem d_X3_reachesAll_57 : decode Y_X3_reachesAll.cc 57 = .ok (.iload 7, 2) := by decide +kernel
theorem d_X3_reachesAll_59 : decode Y_X3_reachesAll.cc 59 = .ok (.iaload, 1) := by decide +kernel
theorem d_X3_reachesAll_60 : decode Y_X3_reachesAll.cc 60 = .ok (.aload_n 0, 1) := by decide +kernel
theorem d_X3_reachesAll_61 : decode Y_X3_reachesAll.cc 61 = .ok (.getfield 42, 3) := by decide +kernel
theorem d_X3_reachesAll_64 : decode Y_X3_reachesAll.cc 64 = .ok (.iload 7, 2) := by decide +kernel
theorem d_X3_reachesAll_66 : decode Y_X3_reachesAll.cc 66 = .ok (.iaload, 1) := by decide +kernel
theorem d_X3_reachesAll_67 : decode Y_X3_reachesAll.cc 67 = .ok (.isub, 1) := by decide +kernel
theorem d_X3_reachesAll_68 : decode Y_X3_reachesAll.cc 68 = .ok (.istore 9, 2) := by decide +kernel
theorem d_X3_reachesAll_70 : decode Y_X3_reachesAll.cc 70 = .ok (.iload_n 3, 1) := by decide +kernel
theorem d_X3_reachesAll_71 : decode Y_X3_reachesAll.cc 71 = .ok (.iload 8, 2) := by decide +kernel
theorem d_X3_reachesAll_73 : decode Y_X3_reachesAll.cc 73 = .ok (.invokestatic 33, 3) := by decide +kernel
theorem d_X3_reachesAll_76 : decode Y_X3_reachesAll.cc 76 = .ok (.istore_n 3, 1) := by decide +kernel
theorem d_X3_reachesAll_77 : decode Y_X3_reachesAll.cc 77 = .ok (.iload 4, 2) := by decide +kernel
theorem d_X3_reachesAll_79 : decode Y_X3_reachesAll.cc 79 = .ok (.iload 8, 2) := by decide +kernel
theorem d_X3_reachesAll_81 : decode Y_X3_reachesAll.cc 81 = .ok (.invokestatic 45, 3) := by decide +kernel
theorem d_X3_reachesAll_84 : decode Y_X3_reachesAll.cc 84 = .ok (.istore 4, 2) := by decide +kernel
theorem d_X3_reachesAll_86 : decode Y_X3_reachesAll.cc 86 = .ok (.iload 5, 2) := by decide +kernel
theorem d_X3_reachesAll_88 : decode Y_X3_reachesAll.cc 88 = .ok (.iload 9, 2) := by decide +kernel
theorem d_X3_reachesAll_90 : decode Y_X3_reachesAll.cc 90 = .ok (.invokestatic 33, 3) := by decide +kernel
theorem d_X3_reachesAll_93 : decode Y_X3_reachesAll.cc 93 = .ok (.istore 5, 2) := by decide +kernel
theorem d_X3_reachesAll_95 : decode Y_X3_reachesAll.cc 95 = .ok (.iload 6, 2) := by decide +kernel
theorem d_X3_reachesAll_97 : decode Y_X3_reachesAll.cc 97 = .ok (.iload 9, 2) := by decide +kernel
theorem d_X3_reachesAll_99 : decode Y_X3_reachesAll.cc 99 = .ok (.invokestatic 45, 3) := by decide +kernel
theorem d_X3_reachesAll_102 : decode Y_X3_reachesAll.cc 102 = .ok (.istore 6, 2) := by decide +kernel
theorem d_X3_reachesAll_104 : decode Y_X3_reachesAll.cc 104 = .ok (.iinc 7 1, 3) := by decide +kernel
theorem d_X3_reachesAll_107 : decode Y_X3_reachesAll.cc 107 = .ok (.goto (-89), 3) := by decide +kernel
theorem d_X3_reachesAll_110 : decode Y_X3_reachesAll.cc 110 = .ok (.iconst 2, 1) := by decide +kernel
theorem d_X3_reachesAll_111 : decode Y_X3_reachesAll.cc 111 = .ok (.iload_n 2, 1) := by decide +kernel
theorem d_X3_reachesAll_112 : decode Y_X3_reachesAll.cc 112 = .ok (.imul, 1) := by decide +kernel
theorem d_X3_reachesAll_113 : decode Y_X3_reachesAll.cc 113 = .ok (.iload 4, 2) := by decide +kernel
theorem d_X3_reachesAll_115 : decode Y_X3_reachesAll.cc 115 = .ok (.iload_n 3, 1) := by decide +kernel
theorem d_X3_reachesAll_116 : decode Y_X3_reachesAll.cc 116 = .ok (.isub, 1) := by decide +kernel
theorem d_X3_reachesAll_117 : decode Y_X3_reachesAll.cc 117 = .ok (.isub, 1) := by decide +kernel
theorem d_X3_reachesAll_118 : decode Y_X3_reachesAll.cc 118 = .ok (.istore 7, 2) := by decide +kernel
theorem d_X3_reachesAll_120 : decode Y_X3_reachesAll.cc 120 = .ok (.iconst 2, 1) := by decide +kernel
theorem d_X3_reachesAll_121 : decode Y_X3_reachesAll.cc 121 = .ok (.iload_n 2, 1) := by decide +kernel
theorem d_X3_reachesAll_122 : decode Y_X3_reachesAll.cc 122 = .ok (.imul, 1) := by decide +kernel
theorem d_X3_reachesAll_123 : decode Y_X3_reachesAll.cc 123 = .ok (.iload 6, 2) := by decide +kernel
theorem d_X3_reachesAll_125 : decode Y_X3_reachesAll.cc 125 = .ok (.iload 5, 2) := by decide +kernel
theorem d_X3_reachesAll_127 : decode Y_X3_reachesAll.cc 127 = .ok (.isub, 1) := by decide +kernel
theorem d_X3_reachesAll_128 : decode Y_X3_reachesAll.cc 128 = .ok (.isub, 1) := by decide +kernel
theorem d_X3_reachesAll_129 : decode Y_X3_reachesAll.cc 129 = .ok (.istore 8, 2) := by decide +kernel
theorem d_X3_reachesAll_131 : decode Y_X3_reachesAll.cc 131 = .ok (.iload 7, 2) := by decide +kernel
theorem d_X3_reachesAll_133 : decode Y_X3_reachesAll.cc 133 = .ok (.ifCond .lt 8, 3) := by decide +kernel
theorem d_X3_reachesAll_136 : decode Y_X3_reachesAll.cc 136 = .ok (.iload 8, 2) := by decide +kernel
theorem d_X3_reachesAll_138 : decode Y_X3_reachesAll.cc 138 = .ok (.ifCond .ge 5, 3) := by decide +kernel
theorem d_X3_reachesAll_141 : decode Y_X3_reachesAll.cc 141 = .ok (.iconst 0, 1) := by decide +kernel
theorem d_X3_reachesAll_142 : decode Y_X3_reachesAll.cc 142 = .ok (.ireturn, 1) := by decide +kernel
theorem d_X3_reachesAll_143 : decode Y_X3_reachesAll.cc 143 = .ok (.iload 7, 2) := by decide +kernel
theorem d_X3_reachesAll_145 : decode Y_X3_reachesAll.cc 145 = .ok (.ifCond .gt 18, 3) := by decide +kernel
theorem d_X3_reachesAll_148 : decode Y_X3_reachesAll.cc 148 = .ok (.iload 8, 2) := by decide +kernel
theorem d_X3_reachesAll_150 : decode Y_X3_reachesAll.cc 150 = .ok (.ifCond .gt 13, 3) := by decide +kernel
theorem d_X3_reachesAll_153 : decode Y_X3_reachesAll.cc 153 = .ok (.iload 4, 2) := by decide +kernel
theorem d_X3_reachesAll_155 : decode Y_X3_reachesAll.cc 155 = .ok (.iload 6, 2) := by decide +kernel
theorem d_X3_reachesAll_157 : decode Y_X3_reachesAll.cc 157 = .ok (.isub, 1) := by decide +kernel
theorem d_X3_reachesAll_158 : decode Y_X3_reachesAll.cc 158 = .ok (.iconst 2, 1) := by decide +kernel
theorem d_X3_reachesAll_159 : decode Y_X3_reachesAll.cc 159 = .ok (.irem, 1) := by decide +kernel
theorem d_X3_reachesAll_160 : decode Y_X3_reachesAll.cc 160 = .ok (.ifCond .ne 7, 3) := by decide +kernel
theorem d_X3_reachesAll_163 : decode Y_X3_reachesAll.cc 163 = .ok (.iconst 1, 1) := by decide +kernel
theorem d_X3_reachesAll_164 : decode Y_X3_reachesAll.cc 164 = .ok (.goto 4, 3) := by decide +kernel
theorem d_X3_reachesAll_167 : decode Y_X3_reachesAll.cc 167 = .ok (.iconst 0, 1) := by decide +kernel
theorem d_X3_reachesAll_168 : decode Y_X3_reachesAll.cc 168 = .ok (.ireturn, 1) := by decide +kernel
def L_X3_reachesAll_18 (G : MG) (d : Nat) (Q : Int32 → Mm → Prop) (o0 : Nat) (x1 : Int32) (x2 : Int32) (x3 : Int32) (x4 : Int32) (x5 : Int32) (x6 : Int32) (x7 : Int32) (M : Mm) : Prop := T G Y_X3_reachesAll (d + 1) (Ri Q) 0 0 18 [(0, .ref (G.b + o0)), (1, .int x1), (2, .int x2), (3, .int x3), (4, .int x4), (5, .int x5), (6, .int x6), (7, .int x7)] [] M
theorem b_X3_reachesAll_18 {G : MG} {d : Nat} {Q : Int32 → Mm → Prop} {o0 : Nat} {x1 : Int32} {x2 : Int32} {x3 : Int32} {x4 : Int32} {x5 : Int32} {x6 : Int32} {x7 : Int32} {M : Mm} {c : Nat} (hL : Lay c M) (ho0 : sh o0 = some (.inr 2)) (h : (((M.1 o0 6) ≤ x7 → ((((2 * x2) - (x4 - x3)) < 0 → Q 0 M) ∧ (¬ ((2 * x2) - (x4 - x3)) < 0 → ((0 ≤ ((2 * x2) - (x6 - x5)) → ((0 < ((2 * x2) - (x4 - x3)) → Q 1 M) ∧ (¬ 0 < ((2 * x2) - (x4 - x3)) → ((0 < ((2 * x2) - (x6 - x5)) → Q 1 M) ∧ (¬ 0 < ((2 * x2) - (x6 - x5)) → ((¬ ((x4 - x6) - (x4 - x6) / 2 * 2) = 0 → Q 0 M) ∧ (((x4 - x6) - (x4 - x6) / 2 * 2) = 0 → Q 1 M))))))) ∧ (¬ 0 ≤ ((2 * x2) - (x6 - x5)) → Q 0 M))))) ∧ (¬ (M.1 o0 6) ≤ x7 → (((x1 &&& (1 <<< (x7 &&& 31))) = 0 → L_X3_reachesAll_18 G d Q o0 x1 x2 x3 x4 x5 x6 (x7 + 1) M) ∧ (¬ (x1 &&& (1 <<< (x7 &&& 31))) = 0 → (vp_in x7 6 ∧ (vp_in x7 6 ∧ ∀ v8 : Int32, v8 = ((M.1 (o0 + 1) x7.toNatClampNeg) + (M.1 (o0 + 2) x7.toNatClampNeg)) → (vp_in x7 6 ∧ (vp_in x7 6 ∧ ∀ v9 : Int32, v9 = ((M.1 (o0 + 1) x7.toNatClampNeg) - (M.1 (o0 + 2) x7.toNatClampNeg)) → L_X3_reachesAll_18 G d Q o0 x1 x2 (if v8 < x3 then v8 else x3) (if x4 < v8 then v8 else x4) (if v9 < x5 then v9 else x5) (if x6 < v9 then v9 else x6) (x7 + 1) M))))))))) : L_X3_reachesAll_18 G d Q o0 x1 x2 x3 x4 x5 x6 x7 M := by
  unfold L_X3_reachesAll_18
  refine tw_iload 7 d_X3_reachesAll_18 rfl ?_
  refine tw_aload_n 0 d_X3_reachesAll_20 rfl rfl ?_
  refine tw_getI f_X3_19 hL ho0 (Or.inl rfl) d_X3_reachesAll_21 ?_
  refine tw_icmp_ge 110 d_X3_reachesAll_24 (by decide) (fun z1 => ?_) (fun z1 => ?_)
  · replace h := h.1 z1
    refine tw_iconst d_X3_reachesAll_110 k_2 ?_
    refine tw_iload_n 2 d_X3_reachesAll_111 rfl rfl ?_
    refine tw_imul d_X3_reachesAll_112 ?_
    refine tw_iload 4 d_X3_reachesAll_113 rfl ?_
    refine tw_iload_n 3 d_X3_reachesAll_115 rfl rfl ?_
    refine tw_isub d_X3_reachesAll_116 ?_
    refine tw_isub d_X3_reachesAll_117 ?_
    refine tw_istore [(7, .int ((2 * x2) - (x4 - x3))), (0, .ref (G.b + o0)), (1, .int x1), (2, .int x2), (3, .int x3), (4, .int x4), (5, .int x5), (6, .int x6)] d_X3_reachesAll_118 (Nat.le_of_ble_eq_true rfl) rfl ?_
    refine tw_iconst d_X3_reachesAll_120 k_2 ?_
    refine tw_iload_n 3 d_X3_reachesAll_121 rfl rfl ?_
    refine tw_imul d_X3_reachesAll_122 ?_
    refine tw_iload 7 d_X3_reachesAll_123 rfl ?_
    refine tw_iload 6 d_X3_reachesAll_125 rfl ?_
    refine tw_isub d_X3_reachesAll_127 ?_
    refine tw_isub d_X3_reachesAll_128 ?_
    refine tw_istore [(8, .int ((2 * x2) - (x6 - x5))), (7, .int ((2 * x2) - (x4 - x3))), (0, .ref (G.b + o0)), (1, .int x1), (2, .int x2), (3, .int x3), (4, .int x4), (5, .int x5), (6, .int x6)] d_X3_reachesAll_129 (Nat.le_of_ble_eq_true rfl) rfl ?_
    refine tw_iload 1 d_X3_reachesAll_131 rfl ?_
    refine tw_if_lt 141 d_X3_reachesAll_133 (by decide) (fun z2 => ?_) (fun z2 => ?_)
    · replace h := h.1 z2
      refine tw_iconst d_X3_reachesAll_141 k_0 ?_
      exact tw_zret (ty := .boolean) rfl rfl ⟨Nat.zero_le _, Nat.zero_le _⟩ d_X3_reachesAll_142 h
    · replace h := h.2 z2
      refine tw_iload 0 d_X3_reachesAll_136 rfl ?_
      refine tw_if_ge 143 d_X3_reachesAll_138 (by decide) (fun z3 => ?_) (fun z3 => ?_)
      · replace h := h.1 z3
        refine tw_iload 1 d_X3_reachesAll_143 rfl ?_
        refine tw_if_gt 163 d_X3_reachesAll_145 (by decide) (fun z4 => ?_) (fun z4 => ?_)
        · replace h := h.1 z4
          refine tw_iconst d_X3_reachesAll_163 k_1 ?_
          refine tw_goto 168 d_X3_reachesAll_164 (by decide) ?_
          exact tw_zret (ty := .boolean) rfl rfl ⟨Nat.zero_le _, Nat.zero_le _⟩ d_X3_reachesAll_168 h
        · replace h := h.2 z4
          refine tw_iload 0 d_X3_reachesAll_148 rfl ?_
          refine tw_if_gt 163 d_X3_reachesAll_150 (by decide) (fun z5 => ?_) (fun z5 => ?_)
          · replace h := h.1 z5
            refine tw_iconst d_X3_reachesAll_163 k_1 ?_
            refine tw_goto 168 d_X3_reachesAll_164 (by decide) ?_
            exact tw_zret (ty := .boolean) rfl rfl ⟨Nat.zero_le _, Nat.zero_le _⟩ d_X3_reachesAll_168 h
          · replace h := h.2 z5
            refine tw_iload 6 d_X3_reachesAll_153 rfl ?_
            refine tw_iload 8 d_X3_reachesAll_155 rfl ?_
            refine tw_isub d_X3_reachesAll_157 ?_
            refine tw_iconst d_X3_reachesAll_158 k_2 ?_
            refine tw_irem d_X3_reachesAll_159 (by decide) ?_
            refine tw_if_ne 167 d_X3_reachesAll_160 (by decide) (fun z6 => ?_) (fun z6 => ?_)
            · replace h := h.1 z6
              refine tw_iconst d_X3_reachesAll_167 k_0 ?_
              exact tw_zret (ty := .boolean) rfl rfl ⟨Nat.zero_le _, Nat.zero_le _⟩ d_X3_reachesAll_168 h
            · replace h := h.2 z6
              refine tw_iconst d_X3_reachesAll_163 k_1 ?_
              refine tw_goto 168 d_X3_reachesAll_164 (by decide) ?_
              exact tw_zret (ty := .boolean) rfl rfl ⟨Nat.zero_le _, Nat.zero_le _⟩ d_X3_reachesAll_168 h
      · replace h := h.2 z3
        refine tw_iconst d_X3_reachesAll_141 k_0 ?_
        exact tw_zret (ty := .boolean) rfl rfl ⟨Nat.zero_le _, Nat.zero_le _⟩ d_X3_reachesAll_142 h
  · replace h := h.2 z1
    refine tw_iload_n 1 d_X3_reachesAll_27 rfl rfl ?_
    refine tw_iconst d_X3_reachesAll_28 k_1 ?_
    refine tw_iload 7 d_X3_reachesAll_29 rfl ?_
    refine tw_ishl d_X3_reachesAll_31 ?_
    refine tw_iand d_X3_reachesAll_32 ?_
    refine tw_if_eq 104 d_X3_reachesAll_33 (by decide) (fun z7 => ?_) (fun z7 => ?_)
    · replace h := h.1 z7
      refine tw_iinc 7 [(7, .int (x7 + 1)), (0, .ref (G.b + o0)), (1, .int x1), (2, .int x2), (3, .int x3), (4, .int x4), (5, .int x5), (6, .int x6)] d_X3_reachesAll_104 rfl rfl (Nat.le_of_ble_eq_true rfl) rfl ?_
      refine tw_goto 18 d_X3_reachesAll_107 (by decide) ?_
      exact tw_lv [1, 2, 3, 4, 5, 6, 7, 0] rfl h
    · replace h := h.2 z7
      refine tw_aload_n 0 d_X3_reachesAll_36 rfl rfl ?_
      refine tw_getR f_X3_39 hL ho0 ⟨rfl, rfl⟩ (rr_X2_4 ho0) d_X3_reachesAll_37 ?_
      refine tw_iload 7 d_X3_reachesAll_40 rfl ?_
      refine tw_iald hL (sr_X2_4 ho0) d_X3_reachesAll_42 h.1 ?_
      replace h := h.2
      refine tw_aload_n 0 d_X3_reachesAll_43 rfl rfl ?_
      refine tw_getR f_X3_42 hL ho0 ⟨rfl, rfl⟩ (rr_X2_5 ho0) d_X3_reachesAll_44 ?_
      refine tw_iload 7 d_X3_reachesAll_47 rfl ?_
      refine tw_iald hL (sr_X2_5 ho0) d_X3_reachesAll_49 h.1 ?_
      replace h := h.2
      refine tw_iadd d_X3_reachesAll_50 ?_
      refine tw_nmI (fun v8 e_v8 => ?_)
      replace h := h v8 e_v8
      refine tw_istore [(8, .int v8), (0, .ref (G.b + o0)), (1, .int x1), (2, .int x2), (3, .int x3), (4, .int x4), (5, .int x5), (6, .int x6), (7, .int x7)] d_X3_reachesAll_51 (Nat.le_of_ble_eq_true rfl) rfl ?_
      refine tw_aload_n 1 d_X3_reachesAll_53 rfl rfl ?_
      refine tw_getR f_X3_39 hL ho0 ⟨rfl, rfl⟩ (rr_X2_4 ho0) d_X3_reachesAll_54 ?_
      refine tw_iload 8 d_X3_reachesAll_57 rfl ?_
      refine tw_iald hL (sr_X2_4 ho0) d_X3_reachesAll_59 h.1 ?_
      replace h := h.2
      refine tw_aload_n 1 d_X3_reachesAll_60 rfl rfl ?_
      refine tw_getR f_X3_42 hL ho0 ⟨rfl, rfl⟩ (rr_X2_5 ho0) d_X3_reachesAll_61 ?_
      refine tw_iload 8 d_X3_reachesAll_64 rfl ?_
      refine tw_iald hL (sr_X2_5 ho0) d_X3_reachesAll_66 h.1 ?_
      replace h := h.2
      refine tw_isub d_X3_reachesAll_67 ?_
      refine tw_nmI (fun v9 e_v9 => ?_)
      replace h := h v9 e_v9
      refine tw_istore [(9, .int v9), (8, .int v8), (0, .ref (G.b + o0)), (1, .int x1), (2, .int x2), (3, .int x3), (4, .int x4), (5, .int x5), (6, .int x6), (7, .int x7)] d_X3_reachesAll_68 (Nat.le_of_ble_eq_true rfl) rfl ?_
      refine tw_iload_n 5 d_X3_reachesAll_70 rfl rfl ?_
      refine tw_iload 1 d_X3_reachesAll_71 rfl ?_
      refine tw_mmin mo_X3_33 (Nat.le_of_ble_eq_true rfl) ⟨Nat.zero_le _, Nat.zero_le _⟩ d_X3_reachesAll_73 ?_
      refine tw_istore_n [(3, .int (if v8 < x3 then v8 else x3)), (9, .int v9), (8, .int v8), (0, .ref (G.b + o0)), (1, .int x1), (2, .int x2), (4, .int x4), (5, .int x5), (6, .int x6), (7, .int x7)] d_X3_reachesAll_76 rfl (Nat.le_of_ble_eq_true rfl) rfl ?_
      refine tw_iload 6 d_X3_reachesAll_77 rfl ?_
      refine tw_iload 2 d_X3_reachesAll_79 rfl ?_
      refine tw_mmax mo_X3_45 (Nat.le_of_ble_eq_true rfl) ⟨Nat.zero_le _, Nat.zero_le _⟩ d_X3_reachesAll_81 ?_
      refine tw_istore [(4, .int (if x4 < v8 then v8 else x4)), (3, .int (if v8 < x3 then v8 else x3)), (9, .int v9), (8, .int v8), (0, .ref (G.b + o0)), (1, .int x1), (2, .int x2), (5, .int x5), (6, .int x6), (7, .int x7)] d_X3_reachesAll_84 (Nat.le_of_ble_eq_true rfl) rfl ?_
      refine tw_iload 7 d_X3_reachesAll_86 rfl ?_
      refine tw_iload 2 d_X3_reachesAll_88 rfl ?_
      refine tw_mmin mo_X3_33 (Nat.le_of_ble_eq_true rfl) ⟨Nat.zero_le _, Nat.zero_le _⟩ d_X3_reachesAll_90 ?_
      refine tw_istore [(5, .int (if v9 < x5 then v9 else x5)), (4, .int (if x4 < v8 then v8 else x4)), (3, .int (if v8 < x3 then v8 else x3)), (9, .int v9), (8, .int v8), (0, .ref (G.b + o0)), (1, .int x1), (2, .int x2), (6, .int x6), (7, .int x7)] d_X3_reachesAll_93 (Nat.le_of_ble_eq_true rfl) rfl ?_
      refine tw_iload 8 d_X3_reachesAll_95 rfl ?_
      refine tw_iload 3 d_X3_reachesAll_97 rfl ?_
      refine tw_mmax mo_X3_45 (Nat.le_of_ble_eq_true rfl) ⟨Nat.zero_le _, Nat.zero_le _⟩ d_X3_reachesAll_99 ?_
      refine tw_istore [(6, .int (if x6 < v9 then v9 else x6)), (5, .int (if v9 < x5 then v9 else x5)), (4, .int (if x4 < v8 then v8 else x4)), (3, .int (if v8 < x3 then v8 else x3)), (9, .int v9), (8, .int v8), (0, .ref (G.b + o0)), (1, .int x1), (2, .int x2), (7, .int x7)] d_X3_reachesAll_102 (Nat.le_of_ble_eq_true rfl) rfl ?_
      refine tw_iinc 9 [(7, .int (x7 + 1)), (6, .int (if x6 < v9 then v9 else x6)), (5, .int (if v9 < x5 then v9 else x5)), (4, .int (if x4 < v8 then v8 else x4)), (3, .int (if v8 < x3 then v8 else x3)), (9, .int v9), (8, .int v8), (0, .ref (G.b + o0)), (1, .int x1), (2, .int x2)] d_X3_reachesAll_104 rfl rfl (Nat.le_of_ble_eq_true rfl) rfl ?_
      refine tw_goto 18 d_X3_reachesAll_107 (by decide) ?_
      exact tw_lv [7, 8, 9, 4, 3, 2, 1, 0] rfl h
theorem b_X3_reachesAll {G : MG} {d : Nat} {Q : Int32 → Mm → Prop} {o0 : Nat} {x1 : Int32} {x2 : Int32} {M : Mm} {c : Nat} (hL : Lay c M) (ho0 : sh o0 = some (.inr 2)) (h : L_X3_reachesAll_18 G d Q o0 x1 x2 198 0 99 (-99) 0 M) : C G Y_X3_reachesAll (d + 1) [.ref (G.b + o0), .int x1, .int x2] M (Ri Q) := by
  refine C.of (by decide) (Nat.le_of_ble_eq_true rfl) (lv := [(0, .ref (G.b + o0)), (1, .int x1), (2, .int x2)]) rfl ?_
  refine tw_sipush d_X3_reachesAll_0 ks_198 ?_
  refine tw_istore_n [(3, .int 198), (0, .ref (G.b + o0)), (1, .int x1), (2, .int x2)] d_X3_reachesAll_3 rfl (Nat.le_of_ble_eq_true rfl) rfl ?_
  refine tw_iconst d_X3_reachesAll_4 k_0 ?_
  refine tw_istore [(4, .int 0), (3, .int 198), (0, .ref (G.b + o0)), (1, .int x1), (2, .int x2)] d_X3_reachesAll_5 (Nat.le_of_ble_eq_true rfl) rfl ?_
  refine tw_bipush d_X3_reachesAll_7 kb_99 ?_
  refine tw_istore [(5, .int 99), (4, .int 0), (3, .int 198), (0, .ref (G.b + o0)), (1, .int x1), (2, .int x2)] d_X3_reachesAll_9 (Nat.le_of_ble_eq_true rfl) rfl ?_
  refine tw_bipush d_X3_reachesAll_11 kb_m99 ?_
  refine tw_istore [(6, .int (-99)), (5, .int 99), (4, .int 0), (3, .int 198), (0, .ref (G.b + o0)), (1, .int x1), (2, .int x2)] d_X3_reachesAll_13 (Nat.le_of_ble_eq_true rfl) rfl ?_
  refine tw_iconst d_X3_reachesAll_15 k_0 ?_
  refine tw_istore [(7, .int 0), (6, .int (-99)), (5, .int 99), (4, .int 0), (3, .int 198), (0, .ref (G.b + o0)), (1, .int x1), (2, .int x2)] d_X3_reachesAll_16 (Nat.le_of_ble_eq_true rfl) rfl ?_
  exact tw_lv [5, 6, 7, 4, 3, 2, 1, 0] rfl h

theorem d_X4_find_0 : decode Y_X4_find.cc 0 = .ok (.iconst 0, 1) := by decide +kernel
theorem d_X4_find_1 : decode Y_X4_find.cc 1 = .ok (.istore 4, 2) := by decide +kernel
theorem d_X4_find_3 : decode Y_X4_find.cc 3 = .ok (.iload 4, 2) := by decide +kernel
theorem d_X4_find_5 : decode Y_X4_find.cc 5 = .ok (.iconst 3, 1) := by decide +kernel
theorem d_X4_find_6 : decode Y_X4_find.cc 6 = .ok (.if_icmp .gt 80, 3) := by decide +kernel
theorem d_X4_find_9 : decode Y_X4_find.cc 9 = .ok (.aload_n 0, 1) := by decide +kernel
theorem d_X4_find_10 : decode Y_X4_find.cc 10 = .ok (.iload 4, 2) := by decide +kernel
theorem d_X4_find_12 : decode Y_X4_find.cc 12 = .ok (.putfield 9, 3) := by decide +kernel
theorem d_X4_find_15 : decode Y_X4_find.cc 15 = .ok (.aload_n 0, 1) := by decide +kernel
theorem d_X4_find_16 : decode Y_X4_find.cc 16 = .ok (.iconst 0, 1) := by decide +kernel
theorem d_X4_find_17 : decode Y_X4_find.cc 17 = .ok (.putfield 15, 3) := by decide +kernel
theorem d_X4_find_20 : decode Y_X4_find.cc 20 = .ok (.aload_n 0, 1) := by decide +kernel
theorem d_X4_find_21 : decode Y_X4_find.cc 21 = .ok (.iconst 0, 1) := by decide +kernel
theorem d_X4_find_22 : decode Y_X4_find.cc 22 = .ok (.putfield 18, 3) := by decide +kernel
theorem d_X4_find_25 : decode Y_X4_find.cc 25 = .ok (.iconst 0, 1) := by decide +kernel
theorem d_X4_find_26 : decode Y_X4_find.cc 26 = .ok (.istore 5, 2) := by decide +kernel
theorem d_X4_find_28 : decode Y_X4_find.cc 28 = .ok (.iload 5, 2) := by decide +kernel
theorem d_X4_find_30 : decode Y_X4_find.cc 30 = .ok (.iconst 1, 1) := by decide +kernel
theorem d_X4_find_31 : decode Y_X4_find.cc 31 = .ok (.aload_n 1, 1) := by decide +kernel
theorem d_X4_find_32 : decode Y_X4_find.cc 32 = .ok (.getfield 21, 3) := by decide +kernel
theorem d_X4_find_35 : decode Y_X4_find.cc 35 = .ok (.ishl, 1) := by decide +kernel
theorem d_X4_find_36 : decode Y_X4_find.cc 36 = .ok (.if_icmp .ge 35, 3) := by decide +kernel
theorem d_X4_find_39 : decode Y_X4_find.cc 39 = .ok (.iload 5, 2) := by decide +kernel
theorem d_X4_find_41 : decode Y_X4_find.cc 41 = .ok (.invokestatic 24, 3) := by decide +kernel
theorem d_X4_find_44 : decode Y_X4_find.cc 44 = .ok (.iload 4, 2) := by decide +kernel
theorem d_X4_find_46 : decode Y_X4_find.cc 46 = .ok (.if_icmp .ne 19, 3) := by decide +kernel
theorem d_X4_find_49 : decode Y_X4_find.cc 49 = .ok (.aload_n 0, 1) := by decide +kernel
theorem d_X4_find_50 : decode Y_X4_find.cc 50 = .ok (.iload 5, 2) := by decide +kernel
theorem d_X4_find_52 : decode Y_X4_find.cc 52 = .ok (.aload_n 1, 1) := by decide +kernel
theorem d_X4_find_53 : decode Y_X4_find.cc 53 = .ok (.iload 5, 2) := by decide +kernel
theorem d_X4_find_55 : decode Y_X4_find.cc 55 = .ok (.iload_n 2, 1) := by decide +kernel
theorem d_X4_find_56 : decode Y_X4_find.cc 56 = .ok (.i2l, 1) := by decide +kernel
theorem d_X4_find_57 : decode Y_X4_find.cc 57 = .ok (.iload_n 3, 1) := by decide +kernel
theorem d_X4_find_58 : decode Y_X4_find.cc 58 = .ok (.i2l, 1) := by decide +kernel
theorem d_X4_find_59 : decode Y_X4_find.cc 59 = .ok (.invokestatic 30, 3) := by decide +kernel
theorem d_X4_find_62 : decode Y_X4_find.cc 62 = .ok (.invokevirtual 34, 3) := by decide +kernel
theorem d_X4_find_65 : decode Y_X4_find.cc 65 = .ok (.iinc 5 1, 3) := by decide +kernel
theorem d_X4_find_68 : decode Y_X4_find.cc 68 = .ok (.goto (-40), 3) := by decide +kernel
theorem d_X4_find_71 : decode Y_X4_find.cc 71 = .ok (.aload_n 0, 1) := by decide +kernel
theorem d_X4_find_72 : decode Y_X4_find.cc 72 = .ok (.getfield 15, 3) := by decide +kernel
theorem d_X4_find_75 : decode Y_X4_find.cc 75 = .ok (.ifCond .le 5, 3) := by decide +kernel
theorem d_X4_find_78 : decode Y_X4_find.cc 78 = .ok (.iconst 1, 1) := by decide +kernel
theorem d_X4_find_79 : decode Y_X4_find.cc 79 = .ok (.ireturn, 1) := by decide +kernel
theorem d_X4_find_80 : decode Y_X4_find.cc 80 = .ok (.iinc 4 1, 3) := by decide +kernel
theorem d_X4_find_83 : decode Y_X4_find.cc 83 = .ok (.goto (-80), 3) := by decide +kernel
theorem d_X4_find_86 : decode Y_X4_find.cc 86 = .ok (.iconst 0, 1) := by decide +kernel
theorem d_X4_find_87 : decode Y_X4_find.cc 87 = .ok (.ireturn, 1) := by decide +kernel
def L_X4_find_3 (G : MG) (d : Nat) (Q : Int32 → Mm → Prop) (o1 : Nat) (x2 : Int32) (x3 : Int32) (x4 : Int32) (M : Mm) : Prop := T G Y_X4_find (d + 1) (Ri Q) 0 0 3 [(0, .ref (G.b + 133)), (1, .ref (G.b + o1)), (2, .int x2), (3, .int x3), (4, .int x4)] [] M
def L_X4_find_28 (G : MG) (d : Nat) (Q : Int32 → Mm → Prop) (o1 : Nat) (x2 : Int32) (x3 : Int32) (x4 : Int32) (x5 : Int32) (M : Mm) : Prop := T G Y_X4_find (d + 1) (Ri Q) 0 0 28 [(0, .ref (G.b + 133)), (1, .ref (G.b + o1)), (2, .int x2), (3, .int x3), (4, .int x4), (5, .int x5)] [] M
theorem b_X4_find_3 {G : MG} {d : Nat} {Q : Int32 → Mm → Prop} {o1 : Nat} {x2 : Int32} {x3 : Int32} {x4 : Int32} {M : Mm} {c : Nat} (hL : Lay c M) (ho1 : sh o1 = some (.inr 5)) (h : ((3 < x4 → Q 0 M) ∧ (¬ 3 < x4 → (∀ M2 : Mm, M2 = sI M 133 0 x4 → (∀ M3 : Mm, M3 = sI M2 133 1 0 → (∀ M4 : Mm, M4 = sI M3 133 2 0 → L_X4_find_28 G d Q o1 x2 x3 x4 0 M4)))))) : L_X4_find_3 G d Q o1 x2 x3 x4 M := by
  unfold L_X4_find_3
  refine tw_iload 4 d_X4_find_3 rfl ?_
  refine tw_iconst d_X4_find_5 k_3 ?_
  refine tw_icmp_gt 86 d_X4_find_6 (by decide) (fun z1 => ?_) (fun z1 => ?_)
  · replace h := h.1 z1
    refine tw_iconst d_X4_find_86 k_0 ?_
    exact tw_zret (ty := .boolean) rfl rfl ⟨Nat.zero_le _, Nat.zero_le _⟩ d_X4_find_87 h
  · replace h := h.2 z1
    refine tw_aload_n 0 d_X4_find_9 rfl rfl ?_
    refine tw_iload 4 d_X4_find_10 rfl ?_
    refine tu_putI f_X4_9 hL s_133 rfl rfl d_X4_find_12 (fun M2 e_M2 hL_M2 => ?_)
    replace h := h M2 e_M2
    refine tw_aload_n 0 d_X4_find_15 rfl rfl ?_
    refine tw_iconst d_X4_find_16 k_0 ?_
    refine tu_putI f_X4_15 hL_M2 s_133 rfl rfl d_X4_find_17 (fun M3 e_M3 hL_M3 => ?_)
    replace h := h M3 e_M3
    refine tw_aload_n 0 d_X4_find_20 rfl rfl ?_
    refine tw_iconst d_X4_find_21 k_0 ?_
    refine tu_putI f_X4_18 hL_M3 s_133 rfl rfl d_X4_find_22 (fun M4 e_M4 hL_M4 => ?_)
    replace h := h M4 e_M4
    refine tw_iconst d_X4_find_25 k_0 ?_
    refine tw_istore [(5, .int 0), (0, .ref (G.b + 133)), (1, .ref (G.b + o1)), (2, .int x2), (3, .int x3), (4, .int x4)] d_X4_find_26 (Nat.le_of_ble_eq_true rfl) rfl ?_
    exact tw_lv [1, 2, 3, 4, 5, 0] rfl h
theorem b_X4_find_28 {G : MG} {d : Nat} {Q : Int32 → Mm → Prop} {o1 : Nat} {x2 : Int32} {x3 : Int32} {x4 : Int32} {x5 : Int32} {M : Mm} {c : Nat} (hL : Lay c M) (ho1 : sh o1 = some (.inr 5)) (h : (((1 <<< ((M.1 o1 2) &&& 31)) ≤ x5 → (((M.1 133 1) ≤ 0 → L_X4_find_3 G d Q o1 x2 x3 (x4 + 1) M) ∧ (¬ (M.1 133 1) ≤ 0 → Q 1 M))) ∧ (¬ (1 <<< ((M.1 o1 2) &&& 31)) ≤ x5 → (C G Y_J6_bitCount_0f7a4 d [.int x5] M (Ri fun r4 M3 => M3.2.2 = M.2.2 ∧ ((¬ r4 = x4 → L_X4_find_28 G d Q o1 x2 x3 x4 (x5 + 1) M3) ∧ (r4 = x4 → (C G Y_X4_waysOf d [.ref (G.b + o1), .int x5, .long x2.toInt64, .long x3.toInt64] M3 (Ri fun r7 M6 => M6.2.2 = M3.2.2 ∧ (C G Y_X4_add d [.ref (G.b + 133), .int x5, .int r7] M6 (Rv fun M8 => M8.2.2 = M6.2.2 ∧ L_X4_find_28 G d Q o1 x2 x3 x4 (x5 + 1) M8))))))))))) : L_X4_find_28 G d Q o1 x2 x3 x4 x5 M := by
  unfold L_X4_find_28
  refine tw_iload 5 d_X4_find_28 rfl ?_
  refine tw_iconst d_X4_find_30 k_1 ?_
  refine tw_aload_n 1 d_X4_find_31 rfl rfl ?_
  refine tw_getI f_X4_21 hL ho1 (Or.inl rfl) d_X4_find_32 ?_
  refine tw_ishl d_X4_find_35 ?_
  refine tw_icmp_ge 71 d_X4_find_36 (by decide) (fun z1 => ?_) (fun z1 => ?_)
  · replace h := h.1 z1
    refine tw_aload_n 0 d_X4_find_71 rfl rfl ?_
    refine tw_getI f_X4_15 hL s_133 (Or.inl rfl) d_X4_find_72 ?_
    refine tw_if_le 80 d_X4_find_75 (by decide) (fun z2 => ?_) (fun z2 => ?_)
    · replace h := h.1 z2
      refine tw_iinc 4 [(4, .int (x4 + 1)), (0, .ref (G.b + 133)), (1, .ref (G.b + o1)), (2, .int x2), (3, .int x3), (5, .int x5)] d_X4_find_80 rfl rfl (Nat.le_of_ble_eq_true rfl) rfl ?_
      refine tw_goto 3 d_X4_find_83 (by decide) ?_
      exact tw_lv [1, 2, 3, 4, 0] rfl h
    · replace h := h.2 z2
      refine tw_iconst d_X4_find_78 k_1 ?_
      exact tw_zret (ty := .boolean) rfl rfl ⟨Nat.zero_le _, Nat.zero_le _⟩ d_X4_find_79 h
  · replace h := h.2 z1
    refine tw_iload 5 d_X4_find_39 rfl ?_
    refine tu_cSi (As := [.int x5]) cs_X4_24 rfl (Nat.le_of_ble_eq_true rfl) ⟨Nat.zero_le _, Nat.zero_le _⟩ d_X4_find_41 h (fun r4 M3 h => ?_)
    have hL_M3 : Lay c M3 := hL.to h.1
    replace h := h.2
    refine tw_iload 4 d_X4_find_44 rfl ?_
    refine tw_icmp_ne 65 d_X4_find_46 (by decide) (fun z5 => ?_) (fun z5 => ?_)
    · replace h := h.1 z5
      refine tw_iinc 5 [(5, .int (x5 + 1)), (0, .ref (G.b + 133)), (1, .ref (G.b + o1)), (2, .int x2), (3, .int x3), (4, .int x4)] d_X4_find_65 rfl rfl (Nat.le_of_ble_eq_true rfl) rfl ?_
      refine tw_goto 28 d_X4_find_68 (by decide) ?_
      exact tw_lv [1, 2, 3, 4, 5, 0] rfl h
    · replace h := h.2 z5
      refine tw_aload_n 0 d_X4_find_49 rfl rfl ?_
      refine tw_iload 5 d_X4_find_50 rfl ?_
      refine tw_aload_n 1 d_X4_find_52 rfl rfl ?_
      refine tw_iload 5 d_X4_find_53 rfl ?_
      refine tw_iload_n 2 d_X4_find_55 rfl rfl ?_
      refine tw_i2l d_X4_find_56 ?_
      refine tw_iload_n 3 d_X4_find_57 rfl rfl ?_
      refine tw_i2l d_X4_find_58 ?_
      refine tu_cSi (As := [.ref (G.b + o1), .int x5, .long x2.toInt64, .long x3.toInt64]) cs_X4_30 rfl (Nat.le_of_ble_eq_true rfl) ⟨Nat.zero_le _, Nat.zero_le _⟩ d_X4_find_59 h (fun r7 M6 h => ?_)
      have hL_M6 : Lay c M6 := hL_M3.to h.1
      replace h := h.2
      refine tu_cVv (As := [.int x5, .int r7]) cv_X4_34 hL_M6 s_133 rfl (Nat.le_of_ble_eq_true rfl) ⟨Nat.zero_le _, Nat.zero_le _⟩ d_X4_find_62 h (fun M8 h => ?_)
      have hL_M8 : Lay c M8 := hL_M6.to h.1
      replace h := h.2
      refine tw_iinc 5 [(5, .int (x5 + 1)), (0, .ref (G.b + 133)), (1, .ref (G.b + o1)), (2, .int x2), (3, .int x3), (4, .int x4)] d_X4_find_65 rfl rfl (Nat.le_of_ble_eq_true rfl) rfl ?_
      refine tw_goto 28 d_X4_find_68 (by decide) ?_
      exact tw_lv [1, 2, 3, 4, 5, 0] rfl h
theorem b_X4_find {G : MG} {d : Nat} {Q : Int32 → Mm → Prop} {o1 : Nat} {x2 : Int32} {x3 : Int32} {M : Mm} {c : Nat} (hL : Lay c M) (ho1 : sh o1 = some (.inr 5)) (h : L_X4_find_3 G d Q o1 x2 x3 0 M) : C G Y_X4_find (d + 1) [.ref (G.b + 133), .ref (G.b + o1), .int x2, .int x3] M (Ri Q) := by
  refine C.of (by decide) (Nat.le_of_ble_eq_true rfl) (lv := [(0, .ref (G.b + 133)), (1, .ref (G.b + o1)), (2, .int x2), (3, .int x3)]) rfl ?_
  refine tw_iconst d_X4_find_0 k_0 ?_
  refine tw_istore [(4, .int 0), (0, .ref (G.b + 133)), (1, .ref (G.b + o1)), (2, .int x2), (3, .int x3)] d_X4_find_1 (Nat.le_of_ble_eq_true rfl) rfl ?_
  exact tw_lv [1, 2, 3, 4, 0] rfl h

theorem d_X4_add_0 : decode Y_X4_add.cc 0 = .ok (.aload_n 0, 1) := by decide +kernel
theorem d_X4_add_1 : decode Y_X4_add.cc 1 = .ok (.getfield 15, 3) := by decide +kernel
theorem d_X4_add_4 : decode Y_X4_add.cc 4 = .ok (.ifCond .ne 12, 3) := by decide +kernel
theorem d_X4_add_7 : decode Y_X4_add.cc 7 = .ok (.iload_n 2, 1) := by decide +kernel
theorem d_X4_add_8 : decode Y_X4_add.cc 8 = .ok (.ifCond .le 8, 3) := by decide +kernel
theorem d_X4_add_11 : decode Y_X4_add.cc 11 = .ok (.aload_n 0, 1) := by decide +kernel
theorem d_X4_add_12 : decode Y_X4_add.cc 12 = .ok (.iload_n 1, 1) := by decide +kernel
theorem d_X4_add_13 : decode Y_X4_add.cc 13 = .ok (.putfield 18, 3) := by decide +kernel
theorem d_X4_add_16 : decode Y_X4_add.cc 16 = .ok (.aload_n 0, 1) := by decide +kernel
theorem d_X4_add_17 : decode Y_X4_add.cc 17 = .ok (.dup, 1) := by decide +kernel
theorem d_X4_add_18 : decode Y_X4_add.cc 18 = .ok (.getfield 15, 3) := by decide +kernel
theorem d_X4_add_21 : decode Y_X4_add.cc 21 = .ok (.iload_n 2, 1) := by decide +kernel
theorem d_X4_add_22 : decode Y_X4_add.cc 22 = .ok (.iadd, 1) := by decide +kernel
theorem d_X4_add_23 : decode Y_X4_add.cc 23 = .ok (.putfield 15, 3) := by decide +kernel
theorem d_X4_add_26 : decode Y_X4_add.cc 26 = .ok (.return_, 1) := by decide +kernel
theorem b_X4_add {G : MG} {d : Nat} {Q : Mm → Prop} {x1 : Int32} {x2 : Int32} {M : Mm} {c : Nat} (hL : Lay c M)  (h : ((¬ (M.1 133 1) = 0 → (∀ M2 : Mm, M2 = sI M 133 1 ((M.1 133 1) + x2) → Q M2)) ∧ ((M.1 133 1) = 0 → ((x2 ≤ 0 → (∀ M4 : Mm, M4 = sI M 133 1 ((M.1 133 1) + x2) → Q M4)) ∧ (¬ x2 ≤ 0 → (∀ M5 : Mm, M5 = sI M 133 2 x1 → (∀ M6 : Mm, M6 = sI M5 133 1 ((M5.1 133 1) + x2) → Q M6))))))) : C G Y_X4_add (d + 1) [.ref (G.b + 133), .int x1, .int x2] M (Rv Q) := by
  refine C.of (by decide) (Nat.le_of_ble_eq_true rfl) (lv := [(0, .ref (G.b + 133)), (1, .int x1), (2, .int x2)]) rfl ?_
  refine tw_aload_n 0 d_X4_add_0 rfl rfl ?_
  refine tw_getI f_X4_15 hL s_133 (Or.inl rfl) d_X4_add_1 ?_
  refine tw_if_ne 16 d_X4_add_4 (by decide) (fun z1 => ?_) (fun z1 => ?_)
  · replace h := h.1 z1
    refine tw_aload_n 0 d_X4_add_16 rfl rfl ?_
    refine tw_dup d_X4_add_17 rfl ?_
    refine tw_getI f_X4_15 hL s_133 (Or.inl rfl) d_X4_add_18 ?_
    refine tw_iload_n 2 d_X4_add_21 rfl rfl ?_
    refine tw_iadd d_X4_add_22 ?_
    refine tu_putI f_X4_15 hL s_133 rfl rfl d_X4_add_23 (fun M2 e_M2 hL_M2 => ?_)
    replace h := h M2 e_M2
    exact tw_vret rfl ⟨Nat.zero_le _, Nat.zero_le _⟩ d_X4_add_26 h
  · replace h := h.2 z1
    refine tw_iload_n 2 d_X4_add_7 rfl rfl ?_
    refine tw_if_le 16 d_X4_add_8 (by decide) (fun z3 => ?_) (fun z3 => ?_)
    · replace h := h.1 z3
      refine tw_aload_n 0 d_X4_add_16 rfl rfl ?_
      refine tw_dup d_X4_add_17 rfl ?_
      refine tw_getI f_X4_15 hL s_133 (Or.inl rfl) d_X4_add_18 ?_
      refine tw_iload_n 2 d_X4_add_21 rfl rfl ?_
      refine tw_iadd d_X4_add_22 ?_
      refine tu_putI f_X4_15 hL s_133 rfl rfl d_X4_add_23 (fun M4 e_M4 hL_M4 => ?_)
      replace h := h M4 e_M4
      exact tw_vret rfl ⟨Nat.zero_le _, Nat.zero_le _⟩ d_X4_add_26 h
    · replace h := h.2 z3
      refine tw_aload_n 0 d_X4_add_11 rfl rfl ?_
      refine tw_iload_n 1 d_X4_add_12 rfl rfl ?_
      refine tu_putI f_X4_18 hL s_133 rfl rfl d_X4_add_13 (fun M5 e_M5 hL_M5 => ?_)
      replace h := h M5 e_M5
      refine tw_aload_n 0 d_X4_add_16 rfl rfl ?_
      refine tw_dup d_X4_add_17 rfl ?_
      refine tw_getI f_X4_15 hL_M5 s_133 (Or.inl rfl) d_X4_add_18 ?_
      refine tw_iload_n 2 d_X4_add_21 rfl rfl ?_
      refine tw_iadd d_X4_add_22 ?_
      refine tu_putI f_X4_15 hL_M5 s_133 rfl rfl d_X4_add_23 (fun M6 e_M6 hL_M6 => ?_)
      replace h := h M6 e_M6
      exact tw_vret rfl ⟨Nat.zero_le _, Nat.zero_le _⟩ d_X4_add_26 h

theorem d_X4_waysOf_0 : decode Y_X4_waysOf.cc 0 = .ok (.iload_n 1, 1) := by decide +kernel
theorem d_X4_waysOf_1 : decode Y_X4_waysOf.cc 1 = .ok (.ifCond .ne 16, 3) := by decide +kernel
theorem d_X4_waysOf_4 : decode Y_X4_waysOf.cc 4 = .ok (.lload_n 2, 1) := by decide +kernel
theorem d_X4_waysOf_5 : decode Y_X4_waysOf.cc 5 = .ok (.lload 4, 2) := by decide +kernel
theorem d_X4_waysOf_7 : decode Y_X4_waysOf.cc 7 = .ok (.lcmp, 1) := by decide +kernel
theorem d_X4_waysOf_8 : decode Y_X4_waysOf.cc 8 = .ok (.ifCond .ne 7, 3) := by decide +kernel
theorem d_X4_waysOf_11 : decode Y_X4_waysOf.cc 11 = .ok (.iconst 1, 1) := by decide +kernel
theorem d_X4_waysOf_12 : decode Y_X4_waysOf.cc 12 = .ok (.goto 4, 3) := by decide +kernel
theorem d_X4_waysOf_15 : decode Y_X4_waysOf.cc 15 = .ok (.iconst 0, 1) := by decide +kernel
theorem d_X4_waysOf_16 : decode Y_X4_waysOf.cc 16 = .ok (.ireturn, 1) := by decide +kernel
theorem d_X4_waysOf_17 : decode Y_X4_waysOf.cc 17 = .ok (.iconst 0, 1) := by decide +kernel
theorem d_X4_waysOf_18 : decode Y_X4_waysOf.cc 18 = .ok (.istore 6, 2) := by decide +kernel
theorem d_X4_waysOf_20 : decode Y_X4_waysOf.cc 20 = .ok (.iload 6, 2) := by decide +kernel
theorem d_X4_waysOf_22 : decode Y_X4_waysOf.cc 22 = .ok (.iconst 5, 1) := by decide +kernel
theorem d_X4_waysOf_23 : decode Y_X4_waysOf.cc 23 = .ok (.if_icmp .ge 18, 3) := by decide +kernel
theorem d_X4_waysOf_26 : decode Y_X4_waysOf.cc 26 = .ok (.iload_n 1, 1) := by decide +kernel
theorem d_X4_waysOf_27 : decode Y_X4_waysOf.cc 27 = .ok (.iconst 1, 1) := by decide +kernel
theorem d_X4_waysOf_28 : decode Y_X4_waysOf.cc 28 = .ok (.iload 6, 2) := by decide +kernel
theorem d_X4_waysOf_30 : decode Y_X4_waysOf.cc 30 = .ok (.ishl, 1) := by decide +kernel
theorem d_X4_waysOf_31 : decode Y_X4_waysOf.cc 31 = .ok (.iand, 1) := by decide +kernel
theorem d_X4_waysOf_32 : decode Y_X4_waysOf.cc 32 = .ok (.ifCond .ne 9, 3) := by decide +kernel
theorem d_X4_waysOf_35 : decode Y_X4_waysOf.cc 35 = .ok (.iinc 6 1, 3) := by decide +kernel
theorem d_X4_waysOf_38 : decode Y_X4_waysOf.cc 38 = .ok (.goto (-18), 3) := by decide +kernel
theorem d_X4_waysOf_41 : decode Y_X4_waysOf.cc 41 = .ok (.aload_n 0, 1) := by decide +kernel
theorem d_X4_waysOf_42 : decode Y_X4_waysOf.cc 42 = .ok (.getfield 38, 3) := by decide +kernel
theorem d_X4_waysOf_45 : decode Y_X4_waysOf.cc 45 = .ok (.iload 6, 2) := by decide +kernel
theorem d_X4_waysOf_47 : decode Y_X4_waysOf.cc 47 = .ok (.aaload, 1) := by decide +kernel
theorem d_X4_waysOf_48 : decode Y_X4_waysOf.cc 48 = .ok (.astore 7, 2) := by decide +kernel
theorem d_X4_waysOf_50 : decode Y_X4_waysOf.cc 50 = .ok (.iload_n 1, 1) := by decide +kernel
theorem d_X4_waysOf_51 : decode Y_X4_waysOf.cc 51 = .ok (.iconst 1, 1) := by decide +kernel
theorem d_X4_waysOf_52 : decode Y_X4_waysOf.cc 52 = .ok (.iload 6, 2) := by decide +kernel
theorem d_X4_waysOf_54 : decode Y_X4_waysOf.cc 54 = .ok (.ishl, 1) := by decide +kernel
theorem d_X4_waysOf_55 : decode Y_X4_waysOf.cc 55 = .ok (.iconst (-1), 1) := by decide +kernel
theorem d_X4_waysOf_56 : decode Y_X4_waysOf.cc 56 = .ok (.ixor, 1) := by decide +kernel
theorem d_X4_waysOf_57 : decode Y_X4_waysOf.cc 57 = .ok (.iand, 1) := by decide +kernel
theorem d_X4_waysOf_58 : decode Y_X4_waysOf.cc 58 = .ok (.istore 8, 2) := by decide +kernel
theorem d_X4_waysOf_60 : decode Y_X4_waysOf.cc 60 = .ok (.iload 8, 2) := by decide +kernel
theorem d_X4_waysOf_62 : decode Y_X4_waysOf.cc 62 = .ok (.ifCond .ne 12, 3) := by decide +kernel
theorem d_X4_waysOf_65 : decode Y_X4_waysOf.cc 65 = .ok (.aload 7, 2) := by decide +kernel
theorem d_X4_waysOf_67 : decode Y_X4_waysOf.cc 67 = .ok (.lload_n 2, 1) := by decide +kernel
theorem d_X4_waysOf_68 : decode Y_X4_waysOf.cc 68 = .ok (.lload 4, 2) := by decide +kernel
theorem d_X4_waysOf_70 : decode Y_X4_waysOf.cc 70 = .ok (.invokestatic 42, 3) := by decide +kernel
theorem d_X4_waysOf_73 : decode Y_X4_waysOf.cc 73 = .ok (.ireturn, 1) := by decide +kernel
theorem d_X4_waysOf_74 : decode Y_X4_waysOf.cc 74 = .ok (.iconst 0, 1) := by decide +kernel
theorem d_X4_waysOf_75 : decode Y_X4_waysOf.cc 75 = .ok (.istore 9, 2) := by decide +kernel
theorem d_X4_waysOf_77 : decode Y_X4_waysOf.cc 77 = .ok (.iconst 0, 1) := by decide +kernel
theorem d_X4_waysOf_78 : decode Y_X4_waysOf.cc 78 = .ok (.istore 10, 2) := by decide +kernel
theorem d_X4_waysOf_80 : decode Y_X4_waysOf.cc 80 = .ok (.iload 10, 2) := by decide +kernel
theorem d_X4_waysOf_82 : decode Y_X4_waysOf.cc 82 = .ok (.aload 7, 2) := by decide +kernel
theorem d_X4_waysOf_84 : decode Y_X4_waysOf.cc 84 = .ok (.getfield 46, 3) := by decide +kernel
theorem d_X4_waysOf_87 : decode Y_X4_waysOf.cc 87 = .ok (.if_icmp .ge 69, 3) := by decide +kernel
theorem d_X4_waysOf_90 : decode Y_X4_waysOf.cc 90 = .ok (.iconst 0, 1) := by decide +kernel
theorem d_X4_waysOf_91 : decode Y_X4_waysOf.cc 91 = .ok (.istore 11, 2) := by decide +kernel
theorem d_X4_waysOf_93 : decode Y_X4_waysOf.cc 93 = .ok (.iload 11, 2) := by decide +kernel
theorem d_X4_waysOf_95 : decode Y_X4_waysOf.cc 95 = .ok (.aload 7, 2) := by decide +kernel
theorem d_X4_waysOf_97 : decode Y_X4_waysOf.cc 97 = .ok (.getfield 46, 3) := by decide +kernel
theorem d_X4_waysOf_100 : decode Y_X4_waysOf.cc 100 = .ok (.if_icmp .ge 50, 3) := by decide +kernel
theorem d_X4_waysOf_103 : decode Y_X4_waysOf.cc 103 = .ok (.iload 10, 2) := by decide +kernel
theorem d_X4_waysOf_105 : decode Y_X4_waysOf.cc 105 = .ok (.iload 11, 2) := by decide +kernel
theorem d_X4_waysOf_107 : decode Y_X4_waysOf.cc 107 = .ok (.if_icmp .eq 37, 3) := by decide +kernel
theorem d_X4_waysOf_110 : decode Y_X4_waysOf.cc 110 = .ok (.iload 9, 2) := by decide +kernel
theorem d_X4_waysOf_112 : decode Y_X4_waysOf.cc 112 = .ok (.aload_n 0, 1) := by decide +kernel
theorem d_X4_waysOf_113 : decode Y_X4_waysOf.cc 113 = .ok (.iload 8, 2) := by decide +kernel
theorem d_X4_waysOf_115 : decode Y_X4_waysOf.cc 115 = .ok (.lload_n 2, 1) := by decide +kernel
theorem d_X4_waysOf_116 : decode Y_X4_waysOf.cc 116 = .ok (.aload 7, 2) := by decide +kernel
theorem d_X4_waysOf_118 : decode Y_X4_waysOf.cc 118 = .ok (.getfield 51, 3) := by decide +kernel
theorem d_X4_waysOf_121 : decode Y_X4_waysOf.cc 121 = .ok (.iload 11, 2) := by decide +kernel
theorem d_X4_waysOf_123 : decode Y_X4_waysOf.cc 123 = .ok (.iaload, 1) := by decide +kernel
theorem d_X4_waysOf_124 : decode Y_X4_waysOf.cc 124 = .ok (.i2l, 1) := by decide +kernel
theorem d_X4_waysOf_125 : decode Y_X4_waysOf.cc 125 = .ok (.lmul, 1) := by decide +kernel
theorem d_X4_waysOf_126 : decode Y_X4_waysOf.cc 126 = .ok (.lload 4, 2) := by decide +kernel
theorem d_X4_waysOf_128 : decode Y_X4_waysOf.cc 128 = .ok (.aload 7, 2) := by decide +kernel
theorem d_X4_waysOf_130 : decode Y_X4_waysOf.cc 130 = .ok (.getfield 51, 3) := by decide +kernel
theorem d_X4_waysOf_133 : decode Y_X4_waysOf.cc 133 = .ok (.iload 10, 2) := by decide +kernel
theorem d_X4_waysOf_135 : decode Y_X4_waysOf.cc 135 = .ok (.iaload, 1) := by decide +kernel
theorem d_X4_waysOf_136 : decode Y_X4_waysOf.cc 136 = .ok (.i2l, 1) := by decide +kernel
theorem d_X4_waysOf_137 : decode Y_X4_waysOf.cc 137 = .ok (.lmul, 1) := by decide +kernel
theorem d_X4_waysOf_138 : decode Y_X4_waysOf.cc 138 = .ok (.invokestatic 30, 3) := by decide +kernel
theorem d_X4_waysOf_141 : decode Y_X4_waysOf.cc 141 = .ok (.iadd, 1) := by decide +kernel
theorem d_X4_waysOf_142 : decode Y_X4_waysOf.cc 142 = .ok (.istore 9, 2) := by decide +kernel
theorem d_X4_waysOf_144 : decode Y_X4_waysOf.cc 144 = .ok (.iinc 11 1, 3) := by decide +kernel
theorem d_X4_waysOf_147 : decode Y_X4_waysOf.cc 147 = .ok (.goto (-54), 3) := by decide +kernel
theorem d_X4_waysOf_150 : decode Y_X4_waysOf.cc 150 = .ok (.iinc 10 1, 3) := by decide +kernel
theorem d_X4_waysOf_153 : decode Y_X4_waysOf.cc 153 = .ok (.goto (-73), 3) := by decide +kernel
theorem d_X4_waysOf_156 : decode Y_X4_waysOf.cc 156 = .ok (.iload 9, 2) := by decide +kernel
theorem d_X4_waysOf_158 : decode Y_X4_waysOf.cc 158 = .ok (.ireturn, 1) := by decide +kernel
def L_X4_waysOf_20 (G : MG) (d : Nat) (Q : Int32 → Mm → Prop) (o0 : Nat) (x1 : Int32) (y2 : Int64) (y4 : Int64) (x6 : Int32) (M : Mm) : Prop := T G Y_X4_waysOf (d + 1) (Ri Q) 0 0 20 [(0, .ref (G.b + o0)), (1, .int x1), (2, .long y2), (4, .long y4), (6, .int x6)] [] M
def L_X4_waysOf_41 (G : MG) (d : Nat) (Q : Int32 → Mm → Prop) (o0 : Nat) (x1 : Int32) (y2 : Int64) (y4 : Int64) (x6 : Int32) (M : Mm) : Prop := T G Y_X4_waysOf (d + 1) (Ri Q) 0 0 41 [(0, .ref (G.b + o0)), (1, .int x1), (2, .long y2), (4, .long y4), (6, .int x6)] [] M
def L_X4_waysOf_80 (G : MG) (d : Nat) (Q : Int32 → Mm → Prop) (o0 : Nat) (y2 : Int64) (y4 : Int64) (o7 : Nat) (x8 : Int32) (x9 : Int32) (x10 : Int32) (M : Mm) : Prop := T G Y_X4_waysOf (d + 1) (Ri Q) 0 0 80 [(0, .ref (G.b + o0)), (2, .long y2), (4, .long y4), (7, .ref (G.b + o7)), (8, .int x8), (9, .int x9), (10, .int x10)] [] M
def L_X4_waysOf_93 (G : MG) (d : Nat) (Q : Int32 → Mm → Prop) (o0 : Nat) (y2 : Int64) (y4 : Int64) (o7 : Nat) (x8 : Int32) (x9 : Int32) (x10 : Int32) (x11 : Int32) (M : Mm) : Prop := T G Y_X4_waysOf (d + 1) (Ri Q) 0 0 93 [(0, .ref (G.b + o0)), (2, .long y2), (4, .long y4), (7, .ref (G.b + o7)), (8, .int x8), (9, .int x9), (10, .int x10), (11, .int x11)] [] M
theorem b_X4_waysOf_20 {G : MG} {d : Nat} {Q : Int32 → Mm → Prop} {o0 : Nat} {x1 : Int32} {y2 : Int64} {y4 : Int64} {x6 : Int32} {M : Mm} {c : Nat} (hL : Lay c M) (ho0 : sh o0 = some (.inr 5)) (h : ((5 ≤ x6 → L_X4_waysOf_41 G d Q o0 x1 y2 y4 x6 M) ∧ (¬ 5 ≤ x6 → ((¬ (x1 &&& (1 <<< (x6 &&& 31))) = 0 → L_X4_waysOf_41 G d Q o0 x1 y2 y4 x6 M) ∧ ((x1 &&& (1 <<< (x6 &&& 31))) = 0 → L_X4_waysOf_20 G d Q o0 x1 y2 y4 (x6 + 1) M))))) : L_X4_waysOf_20 G d Q o0 x1 y2 y4 x6 M := by
  unfold L_X4_waysOf_20
  refine tw_iload 4 d_X4_waysOf_20 rfl ?_
  refine tw_iconst d_X4_waysOf_22 k_5 ?_
  refine tw_icmp_ge 41 d_X4_waysOf_23 (by decide) (fun z1 => ?_) (fun z1 => ?_)
  · replace h := h.1 z1
    exact tw_lv [0, 1, 2, 3, 4] rfl h
  · replace h := h.2 z1
    refine tw_iload_n 1 d_X4_waysOf_26 rfl rfl ?_
    refine tw_iconst d_X4_waysOf_27 k_1 ?_
    refine tw_iload 4 d_X4_waysOf_28 rfl ?_
    refine tw_ishl d_X4_waysOf_30 ?_
    refine tw_iand d_X4_waysOf_31 ?_
    refine tw_if_ne 41 d_X4_waysOf_32 (by decide) (fun z2 => ?_) (fun z2 => ?_)
    · replace h := h.1 z2
      exact tw_lv [0, 1, 2, 3, 4] rfl h
    · replace h := h.2 z2
      refine tw_iinc 4 [(6, .int (x6 + 1)), (0, .ref (G.b + o0)), (1, .int x1), (2, .long y2), (4, .long y4)] d_X4_waysOf_35 rfl rfl (Nat.le_of_ble_eq_true rfl) rfl ?_
      refine tw_goto 20 d_X4_waysOf_38 (by decide) ?_
      exact tw_lv [1, 2, 3, 4, 0] rfl h
theorem b_X4_waysOf_41 {G : MG} {d : Nat} {Q : Int32 → Mm → Prop} {o0 : Nat} {x1 : Int32} {y2 : Int64} {y4 : Int64} {x6 : Int32} {M : Mm} {c : Nat} (hL : Lay c M) (ho0 : sh o0 = some (.inr 5)) (h : (vp_in x6 6 ∧ ((¬ (x1 &&& ((1 <<< (x6 &&& 31)) ^^^ (-1))) = 0 → L_X4_waysOf_80 G d Q o0 y2 y4 ((o0 + 1) + 2 + 2 * x6.toNatClampNeg) (x1 &&& ((1 <<< (x6 &&& 31)) ^^^ (-1))) 0 0 M) ∧ ((x1 &&& ((1 <<< (x6 &&& 31)) ^^^ (-1))) = 0 → (C G Y_X4_waysOfLast d [.ref (G.b + ((o0 + 1) + 2 + 2 * x6.toNatClampNeg)), .long y2, .long y4] M (Ri fun r4 M3 => M3.2.2 = M.2.2 ∧ Q r4 M3)))))) : L_X4_waysOf_41 G d Q o0 x1 y2 y4 x6 M := by
  unfold L_X4_waysOf_41
  refine tw_aload_n 0 d_X4_waysOf_41 rfl rfl ?_
  refine tw_getR f_X4_38 hL ho0 ⟨rfl, rfl⟩ (rr_X5_0 ho0) d_X4_waysOf_42 ?_
  refine tw_iload 4 d_X4_waysOf_45 rfl ?_
  have hin := h.1
  refine tw_aald hL (sr_X5_0 ho0) (by decide) (re_4 (sr_X5_0 ho0)) d_X4_waysOf_47 h.1 ?_
  have hs1 := se_4 (sr_X5_0 ho0) (vp_lt h.1)
  replace h := h.2
  refine tw_astore [(7, .ref (G.b + ((o0 + 1) + 2 + 2 * x6.toNatClampNeg))), (0, .ref (G.b + o0)), (1, .int x1), (2, .long y2), (4, .long y4), (6, .int x6)] d_X4_waysOf_48 (Nat.le_of_ble_eq_true rfl) rfl ?_
  refine tw_iload_n 2 d_X4_waysOf_50 rfl rfl ?_
  refine tw_iconst d_X4_waysOf_51 k_1 ?_
  refine tw_iload 5 d_X4_waysOf_52 rfl ?_
  refine tw_ishl d_X4_waysOf_54 ?_
  refine tw_iconst d_X4_waysOf_55 k_m1 ?_
  refine tw_ixor d_X4_waysOf_56 ?_
  refine tw_iand d_X4_waysOf_57 ?_
  refine tw_istore [(8, .int (x1 &&& ((1 <<< (x6 &&& 31)) ^^^ (-1)))), (7, .ref (G.b + ((o0 + 1) + 2 + 2 * x6.toNatClampNeg))), (0, .ref (G.b + o0)), (1, .int x1), (2, .long y2), (4, .long y4), (6, .int x6)] d_X4_waysOf_58 (Nat.le_of_ble_eq_true rfl) rfl ?_
  refine tw_iload 0 d_X4_waysOf_60 rfl ?_
  refine tw_if_ne 74 d_X4_waysOf_62 (by decide) (fun z2 => ?_) (fun z2 => ?_)
  · replace h := h.1 z2
    refine tw_iconst d_X4_waysOf_74 k_0 ?_
    refine tw_istore [(9, .int 0), (8, .int (x1 &&& ((1 <<< (x6 &&& 31)) ^^^ (-1)))), (7, .ref (G.b + ((o0 + 1) + 2 + 2 * x6.toNatClampNeg))), (0, .ref (G.b + o0)), (1, .int x1), (2, .long y2), (4, .long y4), (6, .int x6)] d_X4_waysOf_75 (Nat.le_of_ble_eq_true rfl) rfl ?_
    refine tw_iconst d_X4_waysOf_77 k_0 ?_
    refine tw_istore [(10, .int 0), (9, .int 0), (8, .int (x1 &&& ((1 <<< (x6 &&& 31)) ^^^ (-1)))), (7, .ref (G.b + ((o0 + 1) + 2 + 2 * x6.toNatClampNeg))), (0, .ref (G.b + o0)), (1, .int x1), (2, .long y2), (4, .long y4), (6, .int x6)] d_X4_waysOf_78 (Nat.le_of_ble_eq_true rfl) rfl ?_
    exact tw_lv [4, 6, 7, 3, 2, 1, 0] rfl h
  · replace h := h.2 z2
    refine tw_aload 1 d_X4_waysOf_65 rfl ?_
    refine tw_lload_n 4 d_X4_waysOf_67 rfl rfl ?_
    refine tw_lload 5 d_X4_waysOf_68 rfl ?_
    refine tu_cSi (As := [.ref (G.b + ((o0 + 1) + 2 + 2 * x6.toNatClampNeg)), .long y2, .long y4]) cs_X4_42 rfl (Nat.le_of_ble_eq_true rfl) ⟨Nat.zero_le _, Nat.zero_le _⟩ d_X4_waysOf_70 h (fun r4 M3 h => ?_)
    have hL_M3 : Lay c M3 := hL.to h.1
    replace h := h.2
    exact tw_iret rfl ⟨Nat.zero_le _, Nat.zero_le _⟩ d_X4_waysOf_73 h
theorem b_X4_waysOf_80 {G : MG} {d : Nat} {Q : Int32 → Mm → Prop} {o0 : Nat} {y2 : Int64} {y4 : Int64} {o7 : Nat} {x8 : Int32} {x9 : Int32} {x10 : Int32} {M : Mm} {c : Nat} (hL : Lay c M) (ho0 : sh o0 = some (.inr 5)) (ho7 : sh o7 = some (.inr 1)) (h : (((M.1 o7 3) ≤ x10 → Q x9 M) ∧ (¬ (M.1 o7 3) ≤ x10 → L_X4_waysOf_93 G d Q o0 y2 y4 o7 x8 x9 x10 0 M))) : L_X4_waysOf_80 G d Q o0 y2 y4 o7 x8 x9 x10 M := by
  unfold L_X4_waysOf_80
  refine tw_iload 6 d_X4_waysOf_80 rfl ?_
  refine tw_aload 3 d_X4_waysOf_82 rfl ?_
  refine tw_getI f_X4_46 hL ho7 (Or.inl rfl) d_X4_waysOf_84 ?_
  refine tw_icmp_ge 156 d_X4_waysOf_87 (by decide) (fun z1 => ?_) (fun z1 => ?_)
  · replace h := h.1 z1
    refine tw_iload 5 d_X4_waysOf_156 rfl ?_
    exact tw_iret rfl ⟨Nat.zero_le _, Nat.zero_le _⟩ d_X4_waysOf_158 h
  · replace h := h.2 z1
    refine tw_iconst d_X4_waysOf_90 k_0 ?_
    refine tw_istore [(11, .int 0), (0, .ref (G.b + o0)), (2, .long y2), (4, .long y4), (7, .ref (G.b + o7)), (8, .int x8), (9, .int x9), (10, .int x10)] d_X4_waysOf_91 (Nat.le_of_ble_eq_true rfl) rfl ?_
    exact tw_lv [1, 2, 3, 4, 5, 6, 7, 0] rfl h
theorem b_X4_waysOf_93 {G : MG} {d : Nat} {Q : Int32 → Mm → Prop} {o0 : Nat} {y2 : Int64} {y4 : Int64} {o7 : Nat} {x8 : Int32} {x9 : Int32} {x10 : Int32} {x11 : Int32} {M : Mm} {c : Nat} (hL : Lay c M) (ho0 : sh o0 = some (.inr 5)) (ho7 : sh o7 = some (.inr 1)) (h : (((M.1 o7 3) ≤ x11 → L_X4_waysOf_80 G d Q o0 y2 y4 o7 x8 x9 (x10 + 1) M) ∧ (¬ (M.1 o7 3) ≤ x11 → ((x10 = x11 → L_X4_waysOf_93 G d Q o0 y2 y4 o7 x8 x9 x10 (x11 + 1) M) ∧ (¬ x10 = x11 → (vp_in x11 4 ∧ (vp_in x10 4 ∧ (C G Y_X4_waysOf d [.ref (G.b + o0), .int x8, .long (y2 * ((M.1 (o7 + 1) x11.toNatClampNeg).toInt64)), .long (y4 * ((M.1 (o7 + 1) x10.toNatClampNeg).toInt64))] M (Ri fun r4 M3 => M3.2.2 = M.2.2 ∧ L_X4_waysOf_93 G d Q o0 y2 y4 o7 x8 (x9 + r4) x10 (x11 + 1) M3))))))))) : L_X4_waysOf_93 G d Q o0 y2 y4 o7 x8 x9 x10 x11 M := by
  unfold L_X4_waysOf_93
  refine tw_iload 7 d_X4_waysOf_93 rfl ?_
  refine tw_aload 3 d_X4_waysOf_95 rfl ?_
  refine tw_getI f_X4_46 hL ho7 (Or.inl rfl) d_X4_waysOf_97 ?_
  refine tw_icmp_ge 150 d_X4_waysOf_100 (by decide) (fun z1 => ?_) (fun z1 => ?_)
  · replace h := h.1 z1
    refine tw_iinc 6 [(10, .int (x10 + 1)), (0, .ref (G.b + o0)), (2, .long y2), (4, .long y4), (7, .ref (G.b + o7)), (8, .int x8), (9, .int x9), (11, .int x11)] d_X4_waysOf_150 rfl rfl (Nat.le_of_ble_eq_true rfl) rfl ?_
    refine tw_goto 80 d_X4_waysOf_153 (by decide) ?_
    exact tw_lv [1, 2, 3, 4, 5, 6, 0] rfl h
  · replace h := h.2 z1
    refine tw_iload 6 d_X4_waysOf_103 rfl ?_
    refine tw_iload 7 d_X4_waysOf_105 rfl ?_
    refine tw_icmp_eq 144 d_X4_waysOf_107 (by decide) (fun z2 => ?_) (fun z2 => ?_)
    · replace h := h.1 z2
      refine tw_iinc 7 [(11, .int (x11 + 1)), (0, .ref (G.b + o0)), (2, .long y2), (4, .long y4), (7, .ref (G.b + o7)), (8, .int x8), (9, .int x9), (10, .int x10)] d_X4_waysOf_144 rfl rfl (Nat.le_of_ble_eq_true rfl) rfl ?_
      refine tw_goto 93 d_X4_waysOf_147 (by decide) ?_
      exact tw_lv [1, 2, 3, 4, 5, 6, 7, 0] rfl h
    · replace h := h.2 z2
      refine tw_iload 5 d_X4_waysOf_110 rfl ?_
      refine tw_aload_n 0 d_X4_waysOf_112 rfl rfl ?_
      refine tw_iload 4 d_X4_waysOf_113 rfl ?_
      refine tw_lload_n 1 d_X4_waysOf_115 rfl rfl ?_
      refine tw_aload 3 d_X4_waysOf_116 rfl ?_
      refine tw_getR f_X4_51 hL ho7 ⟨rfl, rfl⟩ (rr_X1_2 ho7) d_X4_waysOf_118 ?_
      refine tw_iload 7 d_X4_waysOf_121 rfl ?_
      refine tw_iald hL (sr_X1_2 ho7) d_X4_waysOf_123 h.1 ?_
      replace h := h.2
      refine tw_i2l d_X4_waysOf_124 ?_
      refine tw_lmul d_X4_waysOf_125 ?_
      refine tw_lload 2 d_X4_waysOf_126 rfl ?_
      refine tw_aload 3 d_X4_waysOf_128 rfl ?_
      refine tw_getR f_X4_51 hL ho7 ⟨rfl, rfl⟩ (rr_X1_2 ho7) d_X4_waysOf_130 ?_
      refine tw_iload 6 d_X4_waysOf_133 rfl ?_
      refine tw_iald hL (sr_X1_2 ho7) d_X4_waysOf_135 h.1 ?_
      replace h := h.2
      refine tw_i2l d_X4_waysOf_136 ?_
      refine tw_lmul d_X4_waysOf_137 ?_
      refine tu_cSi (As := [.ref (G.b + o0), .int x8, .long (y2 * ((M.1 (o7 + 1) x11.toNatClampNeg).toInt64)), .long (y4 * ((M.1 (o7 + 1) x10.toNatClampNeg).toInt64))]) cs_X4_30 rfl (Nat.le_of_ble_eq_true rfl) ⟨Nat.zero_le _, Nat.zero_le _⟩ d_X4_waysOf_138 h (fun r4 M3 h => ?_)
      have hL_M3 : Lay c M3 := hL.to h.1
      replace h := h.2
      refine tw_iadd d_X4_waysOf_141 ?_
      refine tw_istore [(9, .int (x9 + r4)), (0, .ref (G.b + o0)), (2, .long y2), (4, .long y4), (7, .ref (G.b + o7)), (8, .int x8), (10, .int x10), (11, .int x11)] d_X4_waysOf_142 (Nat.le_of_ble_eq_true rfl) rfl ?_
      refine tw_iinc 7 [(11, .int (x11 + 1)), (9, .int (x9 + r4)), (0, .ref (G.b + o0)), (2, .long y2), (4, .long y4), (7, .ref (G.b + o7)), (8, .int x8), (10, .int x10)] d_X4_waysOf_144 rfl rfl (Nat.le_of_ble_eq_true rfl) rfl ?_
      refine tw_goto 93 d_X4_waysOf_147 (by decide) ?_
      exact tw_lv [2, 3, 4, 5, 6, 1, 7, 0] rfl h
theorem b_X4_waysOf {G : MG} {d : Nat} {Q : Int32 → Mm → Prop} {o0 : Nat} {x1 : Int32} {y2 : Int64} {y4 : Int64} {M : Mm} {c : Nat} (hL : Lay c M) (ho0 : sh o0 = some (.inr 5)) (h : ((¬ x1 = 0 → L_X4_waysOf_20 G d Q o0 x1 y2 y4 0 M) ∧ (x1 = 0 → ((¬ y2 = y4 → Q 0 M) ∧ (y2 = y4 → Q 1 M))))) : C G Y_X4_waysOf (d + 1) [.ref (G.b + o0), .int x1, .long y2, .long y4] M (Ri Q) := by
  refine C.of (by decide) (Nat.le_of_ble_eq_true rfl) (lv := [(0, .ref (G.b + o0)), (1, .int x1), (2, .long y2), (4, .long y4)]) rfl ?_
  refine tw_iload_n 1 d_X4_waysOf_0 rfl rfl ?_
  refine tw_if_ne 17 d_X4_waysOf_1 (by decide) (fun z1 => ?_) (fun z1 => ?_)
  · replace h := h.1 z1
    refine tw_iconst d_X4_waysOf_17 k_0 ?_
    refine tw_istore [(6, .int 0), (0, .ref (G.b + o0)), (1, .int x1), (2, .long y2), (4, .long y4)] d_X4_waysOf_18 (Nat.le_of_ble_eq_true rfl) rfl ?_
    exact tw_lv [1, 2, 3, 4, 0] rfl h
  · replace h := h.2 z1
    refine tw_lload_n 2 d_X4_waysOf_4 rfl rfl ?_
    refine tw_lload 3 d_X4_waysOf_5 rfl ?_
    refine tw_lcmp_ne 15 d_X4_waysOf_7 d_X4_waysOf_8 (by decide) (fun z2 => ?_) (fun z2 => ?_)
    · replace h := h.1 z2
      refine tw_iconst d_X4_waysOf_15 k_0 ?_
      exact tw_iret rfl ⟨Nat.zero_le _, Nat.zero_le _⟩ d_X4_waysOf_16 h
    · replace h := h.2 z2
      refine tw_iconst d_X4_waysOf_11 k_1 ?_
      refine tw_goto 16 d_X4_waysOf_12 (by decide) ?_
      exact tw_iret rfl ⟨Nat.zero_le _, Nat.zero_le _⟩ d_X4_waysOf_16 h

theorem d_X4_waysOfLast_0 : decode Y_X4_waysOfLast.cc 0 = .ok (.iconst 0, 1) := by decide +kernel
theorem d_X4_waysOfLast_1 : decode Y_X4_waysOfLast.cc 1 = .ok (.istore 5, 2) := by decide +kernel
theorem d_X4_waysOfLast_3 : decode Y_X4_waysOfLast.cc 3 = .ok (.iconst 0, 1) := by decide +kernel
theorem d_X4_waysOfLast_4 : decode Y_X4_waysOfLast.cc 4 = .ok (.istore 6, 2) := by decide +kernel
theorem d_X4_waysOfLast_6 : decode Y_X4_waysOfLast.cc 6 = .ok (.iload 6, 2) := by decide +kernel
theorem d_X4_waysOfLast_8 : decode Y_X4_waysOfLast.cc 8 = .ok (.aload_n 0, 1) := by decide +kernel
theorem d_X4_waysOfLast_9 : decode Y_X4_waysOfLast.cc 9 = .ok (.getfield 46, 3) := by decide +kernel
theorem d_X4_waysOfLast_12 : decode Y_X4_waysOfLast.cc 12 = .ok (.if_icmp .ge 66, 3) := by decide +kernel
theorem d_X4_waysOfLast_15 : decode Y_X4_waysOfLast.cc 15 = .ok (.aload_n 0, 1) := by decide +kernel
theorem d_X4_waysOfLast_16 : decode Y_X4_waysOfLast.cc 16 = .ok (.getfield 51, 3) := by decide +kernel
theorem d_X4_waysOfLast_19 : decode Y_X4_waysOfLast.cc 19 = .ok (.iload 6, 2) := by decide +kernel
theorem d_X4_waysOfLast_21 : decode Y_X4_waysOfLast.cc 21 = .ok (.iaload, 1) := by decide +kernel
theorem d_X4_waysOfLast_22 : decode Y_X4_waysOfLast.cc 22 = .ok (.istore 7, 2) := by decide +kernel
theorem d_X4_waysOfLast_24 : decode Y_X4_waysOfLast.cc 24 = .ok (.lload_n 3, 1) := by decide +kernel
theorem d_X4_waysOfLast_25 : decode Y_X4_waysOfLast.cc 25 = .ok (.lconst 0, 1) := by decide +kernel
theorem d_X4_waysOfLast_26 : decode Y_X4_waysOfLast.cc 26 = .ok (.lcmp, 1) := by decide +kernel
theorem d_X4_waysOfLast_27 : decode Y_X4_waysOfLast.cc 27 = .ok (.ifCond .le 45, 3) := by decide +kernel
theorem d_X4_waysOfLast_30 : decode Y_X4_waysOfLast.cc 30 = .ok (.lload_n 1, 1) := by decide +kernel
theorem d_X4_waysOfLast_31 : decode Y_X4_waysOfLast.cc 31 = .ok (.iload 7, 2) := by decide +kernel
theorem d_X4_waysOfLast_33 : decode Y_X4_waysOfLast.cc 33 = .ok (.i2l, 1) := by decide +kernel
theorem d_X4_waysOfLast_34 : decode Y_X4_waysOfLast.cc 34 = .ok (.lmul, 1) := by decide +kernel
theorem d_X4_waysOfLast_35 : decode Y_X4_waysOfLast.cc 35 = .ok (.lload_n 3, 1) := by decide +kernel
theorem d_X4_waysOfLast_36 : decode Y_X4_waysOfLast.cc 36 = .ok (.lrem, 1) := by decide +kernel
theorem d_X4_waysOfLast_37 : decode Y_X4_waysOfLast.cc 37 = .ok (.lconst 0, 1) := by decide +kernel
theorem d_X4_waysOfLast_38 : decode Y_X4_waysOfLast.cc 38 = .ok (.lcmp, 1) := by decide +kernel
theorem d_X4_waysOfLast_39 : decode Y_X4_waysOfLast.cc 39 = .ok (.ifCond .ne 33, 3) := by decide +kernel
theorem d_X4_waysOfLast_42 : decode Y_X4_waysOfLast.cc 42 = .ok (.lload_n 1, 1) := by decide +kernel
theorem d_X4_waysOfLast_43 : decode Y_X4_waysOfLast.cc 43 = .ok (.iload 7, 2) := by decide +kernel
theorem d_X4_waysOfLast_45 : decode Y_X4_waysOfLast.cc 45 = .ok (.i2l, 1) := by decide +kernel
theorem d_X4_waysOfLast_46 : decode Y_X4_waysOfLast.cc 46 = .ok (.lmul, 1) := by decide +kernel
theorem d_X4_waysOfLast_47 : decode Y_X4_waysOfLast.cc 47 = .ok (.lload_n 3, 1) := by decide +kernel
theorem d_X4_waysOfLast_48 : decode Y_X4_waysOfLast.cc 48 = .ok (.ldiv, 1) := by decide +kernel
theorem d_X4_waysOfLast_49 : decode Y_X4_waysOfLast.cc 49 = .ok (.lstore 8, 2) := by decide +kernel
theorem d_X4_waysOfLast_51 : decode Y_X4_waysOfLast.cc 51 = .ok (.lload 8, 2) := by decide +kernel
theorem d_X4_waysOfLast_53 : decode Y_X4_waysOfLast.cc 53 = .ok (.iload 7, 2) := by decide +kernel
theorem d_X4_waysOfLast_55 : decode Y_X4_waysOfLast.cc 55 = .ok (.i2l, 1) := by decide +kernel
theorem d_X4_waysOfLast_56 : decode Y_X4_waysOfLast.cc 56 = .ok (.lcmp, 1) := by decide +kernel
theorem d_X4_waysOfLast_57 : decode Y_X4_waysOfLast.cc 57 = .ok (.ifCond .eq 15, 3) := by decide +kernel
theorem d_X4_waysOfLast_60 : decode Y_X4_waysOfLast.cc 60 = .ok (.aload_n 0, 1) := by decide +kernel
theorem d_X4_waysOfLast_61 : decode Y_X4_waysOfLast.cc 61 = .ok (.lload 8, 2) := by decide +kernel
theorem d_X4_waysOfLast_63 : decode Y_X4_waysOfLast.cc 63 = .ok (.invokevirtual 55, 3) := by decide +kernel
theorem d_X4_waysOfLast_66 : decode Y_X4_waysOfLast.cc 66 = .ok (.ifCond .eq 6, 3) := by decide +kernel
theorem d_X4_waysOfLast_69 : decode Y_X4_waysOfLast.cc 69 = .ok (.iinc 5 1, 3) := by decide +kernel
theorem d_X4_waysOfLast_72 : decode Y_X4_waysOfLast.cc 72 = .ok (.iinc 6 1, 3) := by decide +kernel
theorem d_X4_waysOfLast_75 : decode Y_X4_waysOfLast.cc 75 = .ok (.goto (-69), 3) := by decide +kernel
theorem d_X4_waysOfLast_78 : decode Y_X4_waysOfLast.cc 78 = .ok (.iload 5, 2) := by decide +kernel
theorem d_X4_waysOfLast_80 : decode Y_X4_waysOfLast.cc 80 = .ok (.ireturn, 1) := by decide +kernel
def L_X4_waysOfLast_6 (G : MG) (d : Nat) (Q : Int32 → Mm → Prop) (o0 : Nat) (y1 : Int64) (y3 : Int64) (x5 : Int32) (x6 : Int32) (M : Mm) : Prop := T G Y_X4_waysOfLast (d + 1) (Ri Q) 0 0 6 [(0, .ref (G.b + o0)), (1, .long y1), (3, .long y3), (5, .int x5), (6, .int x6)] [] M
theorem b_X4_waysOfLast_6 {G : MG} {d : Nat} {Q : Int32 → Mm → Prop} {o0 : Nat} {y1 : Int64} {y3 : Int64} {x5 : Int32} {x6 : Int32} {M : Mm} {c : Nat} (hL : Lay c M) (ho0 : sh o0 = some (.inr 1)) (h : (((M.1 o0 3) ≤ x6 → Q x5 M) ∧ (¬ (M.1 o0 3) ≤ x6 → (vp_in x6 4 ∧ ((y3 ≤ 0 → L_X4_waysOfLast_6 G d Q o0 y1 y3 x5 (x6 + 1) M) ∧ (¬ y3 ≤ 0 → (¬ y3 = 0 ∧ ((¬ ((y1 * ((M.1 (o0 + 1) x6.toNatClampNeg).toInt64)) - (y1 * ((M.1 (o0 + 1) x6.toNatClampNeg).toInt64)) / y3 * y3) = 0 → L_X4_waysOfLast_6 G d Q o0 y1 y3 x5 (x6 + 1) M) ∧ (((y1 * ((M.1 (o0 + 1) x6.toNatClampNeg).toInt64)) - (y1 * ((M.1 (o0 + 1) x6.toNatClampNeg).toInt64)) / y3 * y3) = 0 → (¬ y3 = 0 ∧ ((((y1 * ((M.1 (o0 + 1) x6.toNatClampNeg).toInt64)) / y3) = ((M.1 (o0 + 1) x6.toNatClampNeg).toInt64) → L_X4_waysOfLast_6 G d Q o0 y1 y3 x5 (x6 + 1) M) ∧ (¬ ((y1 * ((M.1 (o0 + 1) x6.toNatClampNeg).toInt64)) / y3) = ((M.1 (o0 + 1) x6.toNatClampNeg).toInt64) → (C G Y_X1_hasHoleOf d [.ref (G.b + o0), .long ((y1 * ((M.1 (o0 + 1) x6.toNatClampNeg).toInt64)) / y3)] M (Ri fun r6 M5 => M5.2.2 = M.2.2 ∧ ((r6 = 0 → L_X4_waysOfLast_6 G d Q o0 y1 y3 x5 (x6 + 1) M5) ∧ (¬ r6 = 0 → L_X4_waysOfLast_6 G d Q o0 y1 y3 (x5 + 1) (x6 + 1) M5)))))))))))))))) : L_X4_waysOfLast_6 G d Q o0 y1 y3 x5 x6 M := by
  unfold L_X4_waysOfLast_6
  refine tw_iload 4 d_X4_waysOfLast_6 rfl ?_
  refine tw_aload_n 0 d_X4_waysOfLast_8 rfl rfl ?_
  refine tw_getI f_X4_46 hL ho0 (Or.inl rfl) d_X4_waysOfLast_9 ?_
  refine tw_icmp_ge 78 d_X4_waysOfLast_12 (by decide) (fun z1 => ?_) (fun z1 => ?_)
  · replace h := h.1 z1
    refine tw_iload 3 d_X4_waysOfLast_78 rfl ?_
    exact tw_iret rfl ⟨Nat.zero_le _, Nat.zero_le _⟩ d_X4_waysOfLast_80 h
  · replace h := h.2 z1
    refine tw_aload_n 0 d_X4_waysOfLast_15 rfl rfl ?_
    refine tw_getR f_X4_51 hL ho0 ⟨rfl, rfl⟩ (rr_X1_2 ho0) d_X4_waysOfLast_16 ?_
    refine tw_iload 4 d_X4_waysOfLast_19 rfl ?_
    refine tw_iald hL (sr_X1_2 ho0) d_X4_waysOfLast_21 h.1 ?_
    replace h := h.2
    refine tw_istore [(7, .int (M.1 (o0 + 1) x6.toNatClampNeg)), (0, .ref (G.b + o0)), (1, .long y1), (3, .long y3), (5, .int x5), (6, .int x6)] d_X4_waysOfLast_22 (Nat.le_of_ble_eq_true rfl) rfl ?_
    refine tw_lload_n 3 d_X4_waysOfLast_24 rfl rfl ?_
    refine tw_lconst (v := 0) d_X4_waysOfLast_25 rfl ?_
    refine tw_lcmp_le 72 d_X4_waysOfLast_26 d_X4_waysOfLast_27 (by decide) (fun z2 => ?_) (fun z2 => ?_)
    · replace h := h.1 z2
      refine tw_iinc 5 [(6, .int (x6 + 1)), (7, .int (M.1 (o0 + 1) x6.toNatClampNeg)), (0, .ref (G.b + o0)), (1, .long y1), (3, .long y3), (5, .int x5)] d_X4_waysOfLast_72 rfl rfl (Nat.le_of_ble_eq_true rfl) rfl ?_
      refine tw_goto 6 d_X4_waysOfLast_75 (by decide) ?_
      exact tw_lv [2, 3, 4, 5, 0] rfl h
    · replace h := h.2 z2
      refine tw_lload_n 2 d_X4_waysOfLast_30 rfl rfl ?_
      refine tw_iload 0 d_X4_waysOfLast_31 rfl ?_
      refine tw_i2l d_X4_waysOfLast_33 ?_
      refine tw_lmul d_X4_waysOfLast_34 ?_
      refine tw_lload_n 3 d_X4_waysOfLast_35 rfl rfl ?_
      refine tw_lrem d_X4_waysOfLast_36 h.1 ?_
      replace h := h.2
      refine tw_lconst (v := 0) d_X4_waysOfLast_37 rfl ?_
      refine tw_lcmp_ne 72 d_X4_waysOfLast_38 d_X4_waysOfLast_39 (by decide) (fun z3 => ?_) (fun z3 => ?_)
      · replace h := h.1 z3
        refine tw_iinc 5 [(6, .int (x6 + 1)), (7, .int (M.1 (o0 + 1) x6.toNatClampNeg)), (0, .ref (G.b + o0)), (1, .long y1), (3, .long y3), (5, .int x5)] d_X4_waysOfLast_72 rfl rfl (Nat.le_of_ble_eq_true rfl) rfl ?_
        refine tw_goto 6 d_X4_waysOfLast_75 (by decide) ?_
        exact tw_lv [2, 3, 4, 5, 0] rfl h
      · replace h := h.2 z3
        refine tw_lload_n 2 d_X4_waysOfLast_42 rfl rfl ?_
        refine tw_iload 0 d_X4_waysOfLast_43 rfl ?_
        refine tw_i2l d_X4_waysOfLast_45 ?_
        refine tw_lmul d_X4_waysOfLast_46 ?_
        refine tw_lload_n 3 d_X4_waysOfLast_47 rfl rfl ?_
        refine tw_ldiv d_X4_waysOfLast_48 h.1 ?_
        replace h := h.2
        refine tw_lstore [(8, .long ((y1 * ((M.1 (o0 + 1) x6.toNatClampNeg).toInt64)) / y3)), (7, .int (M.1 (o0 + 1) x6.toNatClampNeg)), (0, .ref (G.b + o0)), (1, .long y1), (3, .long y3), (5, .int x5), (6, .int x6)] d_X4_waysOfLast_49 (Nat.le_of_ble_eq_true rfl) rfl ?_
        refine tw_lload 0 d_X4_waysOfLast_51 rfl ?_
        refine tw_iload 1 d_X4_waysOfLast_53 rfl ?_
        refine tw_i2l d_X4_waysOfLast_55 ?_
        refine tw_lcmp_eq 72 d_X4_waysOfLast_56 d_X4_waysOfLast_57 (by decide) (fun z4 => ?_) (fun z4 => ?_)
        · replace h := h.1 z4
          refine tw_iinc 6 [(6, .int (x6 + 1)), (8, .long ((y1 * ((M.1 (o0 + 1) x6.toNatClampNeg).toInt64)) / y3)), (7, .int (M.1 (o0 + 1) x6.toNatClampNeg)), (0, .ref (G.b + o0)), (1, .long y1), (3, .long y3), (5, .int x5)] d_X4_waysOfLast_72 rfl rfl (Nat.le_of_ble_eq_true rfl) rfl ?_
          refine tw_goto 6 d_X4_waysOfLast_75 (by decide) ?_
          exact tw_lv [3, 4, 5, 6, 0] rfl h
        · replace h := h.2 z4
          refine tw_aload_n 2 d_X4_waysOfLast_60 rfl rfl ?_
          refine tw_lload 0 d_X4_waysOfLast_61 rfl ?_
          refine tu_cVi (As := [.long ((y1 * ((M.1 (o0 + 1) x6.toNatClampNeg).toInt64)) / y3)]) cv_X4_55 hL ho0 rfl (Nat.le_of_ble_eq_true rfl) ⟨Nat.zero_le _, Nat.zero_le _⟩ d_X4_waysOfLast_63 h (fun r6 M5 h => ?_)
          have hL_M5 : Lay c M5 := hL.to h.1
          replace h := h.2
          refine tw_if_eq 72 d_X4_waysOfLast_66 (by decide) (fun z7 => ?_) (fun z7 => ?_)
          · replace h := h.1 z7
            refine tw_iinc 6 [(6, .int (x6 + 1)), (8, .long ((y1 * ((M.1 (o0 + 1) x6.toNatClampNeg).toInt64)) / y3)), (7, .int (M.1 (o0 + 1) x6.toNatClampNeg)), (0, .ref (G.b + o0)), (1, .long y1), (3, .long y3), (5, .int x5)] d_X4_waysOfLast_72 rfl rfl (Nat.le_of_ble_eq_true rfl) rfl ?_
            refine tw_goto 6 d_X4_waysOfLast_75 (by decide) ?_
            exact tw_lv [3, 4, 5, 6, 0] rfl h
          · replace h := h.2 z7
            refine tw_iinc 5 [(5, .int (x5 + 1)), (8, .long ((y1 * ((M.1 (o0 + 1) x6.toNatClampNeg).toInt64)) / y3)), (7, .int (M.1 (o0 + 1) x6.toNatClampNeg)), (0, .ref (G.b + o0)), (1, .long y1), (3, .long y3), (6, .int x6)] d_X4_waysOfLast_69 rfl rfl (Nat.le_of_ble_eq_true rfl) rfl ?_
            refine tw_iinc 6 [(6, .int (x6 + 1)), (5, .int (x5 + 1)), (8, .long ((y1 * ((M.1 (o0 + 1) x6.toNatClampNeg).toInt64)) / y3)), (7, .int (M.1 (o0 + 1) x6.toNatClampNeg)), (0, .ref (G.b + o0)), (1, .long y1), (3, .long y3)] d_X4_waysOfLast_72 rfl rfl (Nat.le_of_ble_eq_true rfl) rfl ?_
            refine tw_goto 6 d_X4_waysOfLast_75 (by decide) ?_
            exact tw_lv [4, 5, 6, 1, 0] rfl h
theorem b_X4_waysOfLast {G : MG} {d : Nat} {Q : Int32 → Mm → Prop} {o0 : Nat} {y1 : Int64} {y3 : Int64} {M : Mm} {c : Nat} (hL : Lay c M) (ho0 : sh o0 = some (.inr 1)) (h : L_X4_waysOfLast_6 G d Q o0 y1 y3 0 0 M) : C G Y_X4_waysOfLast (d + 1) [.ref (G.b + o0), .long y1, .long y3] M (Ri Q) := by
  refine C.of (by decide) (Nat.le_of_ble_eq_true rfl) (lv := [(0, .ref (G.b + o0)), (1, .long y1), (3, .long y3)]) rfl ?_
  refine tw_iconst d_X4_waysOfLast_0 k_0 ?_
  refine tw_istore [(5, .int 0), (0, .ref (G.b + o0)), (1, .long y1), (3, .long y3)] d_X4_waysOfLast_1 (Nat.le_of_ble_eq_true rfl) rfl ?_
  refine tw_iconst d_X4_waysOfLast_3 k_0 ?_
  refine tw_istore [(6, .int 0), (5, .int 0), (0, .ref (G.b + o0)), (1, .long y1), (3, .long y3)] d_X4_waysOfLast_4 (Nat.le_of_ble_eq_true rfl) rfl ?_
  exact tw_lv [2, 3, 4, 1, 0] rfl h

theorem d_X5_hasArm_0 : decode Y_X5_hasArm.cc 0 = .ok (.iload_n 1, 1) := by decide +kernel
theorem d_X5_hasArm_1 : decode Y_X5_hasArm.cc 1 = .ok (.ifCond .lt 15, 3) := by decide +kernel
theorem d_X5_hasArm_4 : decode Y_X5_hasArm.cc 4 = .ok (.iload_n 1, 1) := by decide +kernel
theorem d_X5_hasArm_5 : decode Y_X5_hasArm.cc 5 = .ok (.aload_n 0, 1) := by decide +kernel
theorem d_X5_hasArm_6 : decode Y_X5_hasArm.cc 6 = .ok (.getfield 25, 3) := by decide +kernel
theorem d_X5_hasArm_9 : decode Y_X5_hasArm.cc 9 = .ok (.if_icmp .ge 7, 3) := by decide +kernel
theorem d_X5_hasArm_12 : decode Y_X5_hasArm.cc 12 = .ok (.iconst 1, 1) := by decide +kernel
theorem d_X5_hasArm_13 : decode Y_X5_hasArm.cc 13 = .ok (.goto 4, 3) := by decide +kernel
theorem d_X5_hasArm_16 : decode Y_X5_hasArm.cc 16 = .ok (.iconst 0, 1) := by decide +kernel
theorem d_X5_hasArm_17 : decode Y_X5_hasArm.cc 17 = .ok (.ireturn, 1) := by decide +kernel
theorem b_X5_hasArm {G : MG} {d : Nat} {Q : Int32 → Mm → Prop} {o0 : Nat} {x1 : Int32} {M : Mm} {c : Nat} (hL : Lay c M) (ho0 : sh o0 = some (.inr 5)) (h : ((x1 < 0 → Q 0 M) ∧ (¬ x1 < 0 → (((M.1 o0 2) ≤ x1 → Q 0 M) ∧ (¬ (M.1 o0 2) ≤ x1 → Q 1 M))))) : C G Y_X5_hasArm (d + 1) [.ref (G.b + o0), .int x1] M (Ri Q) := by
  refine C.of (by decide) (Nat.le_of_ble_eq_true rfl) (lv := [(0, .ref (G.b + o0)), (1, .int x1)]) rfl ?_
  refine tw_iload_n 1 d_X5_hasArm_0 rfl rfl ?_
  refine tw_if_lt 16 d_X5_hasArm_1 (by decide) (fun z1 => ?_) (fun z1 => ?_)
  · replace h := h.1 z1
    refine tw_iconst d_X5_hasArm_16 k_0 ?_
    exact tw_zret (ty := .boolean) rfl rfl ⟨Nat.zero_le _, Nat.zero_le _⟩ d_X5_hasArm_17 h
  · replace h := h.2 z1
    refine tw_iload_n 1 d_X5_hasArm_4 rfl rfl ?_
    refine tw_aload_n 0 d_X5_hasArm_5 rfl rfl ?_
    refine tw_getI f_X5_25 hL ho0 (Or.inl rfl) d_X5_hasArm_6 ?_
    refine tw_icmp_ge 16 d_X5_hasArm_9 (by decide) (fun z2 => ?_) (fun z2 => ?_)
    · replace h := h.1 z2
      refine tw_iconst d_X5_hasArm_16 k_0 ?_
      exact tw_zret (ty := .boolean) rfl rfl ⟨Nat.zero_le _, Nat.zero_le _⟩ d_X5_hasArm_17 h
    · replace h := h.2 z2
      refine tw_iconst d_X5_hasArm_12 k_1 ?_
      refine tw_goto 17 d_X5_hasArm_13 (by decide) ?_
      exact tw_zret (ty := .boolean) rfl rfl ⟨Nat.zero_le _, Nat.zero_le _⟩ d_X5_hasArm_17 h

theorem d_X5_hasHole_0 : decode Y_X5_hasHole.cc 0 = .ok (.aload_n 0, 1) := by decide +kernel
theorem d_X5_hasHole_1 : decode Y_X5_hasHole.cc 1 = .ok (.iload_n 1, 1) := by decide +kernel
theorem d_X5_hasHole_2 : decode Y_X5_hasHole.cc 2 = .ok (.invokevirtual 29, 3) := by decide +kernel
theorem d_X5_hasHole_5 : decode Y_X5_hasHole.cc 5 = .ok (.ifCond .eq 24, 3) := by decide +kernel
theorem d_X5_hasHole_8 : decode Y_X5_hasHole.cc 8 = .ok (.iload_n 2, 1) := by decide +kernel
theorem d_X5_hasHole_9 : decode Y_X5_hasHole.cc 9 = .ok (.ifCond .lt 20, 3) := by decide +kernel
theorem d_X5_hasHole_12 : decode Y_X5_hasHole.cc 12 = .ok (.iload_n 2, 1) := by decide +kernel
theorem d_X5_hasHole_13 : decode Y_X5_hasHole.cc 13 = .ok (.aload_n 0, 1) := by decide +kernel
theorem d_X5_hasHole_14 : decode Y_X5_hasHole.cc 14 = .ok (.getfield 11, 3) := by decide +kernel
theorem d_X5_hasHole_17 : decode Y_X5_hasHole.cc 17 = .ok (.iload_n 1, 1) := by decide +kernel
theorem d_X5_hasHole_18 : decode Y_X5_hasHole.cc 18 = .ok (.aaload, 1) := by decide +kernel
theorem d_X5_hasHole_19 : decode Y_X5_hasHole.cc 19 = .ok (.getfield 33, 3) := by decide +kernel
theorem d_X5_hasHole_22 : decode Y_X5_hasHole.cc 22 = .ok (.if_icmp .ge 7, 3) := by decide +kernel
theorem d_X5_hasHole_25 : decode Y_X5_hasHole.cc 25 = .ok (.iconst 1, 1) := by decide +kernel
theorem d_X5_hasHole_26 : decode Y_X5_hasHole.cc 26 = .ok (.goto 4, 3) := by decide +kernel
theorem d_X5_hasHole_29 : decode Y_X5_hasHole.cc 29 = .ok (.iconst 0, 1) := by decide +kernel
theorem d_X5_hasHole_30 : decode Y_X5_hasHole.cc 30 = .ok (.ireturn, 1) := by decide +kernel
theorem b_X5_hasHole {G : MG} {d : Nat} {Q : Int32 → Mm → Prop} {o0 : Nat} {x1 : Int32} {x2 : Int32} {M : Mm} {c : Nat} (hL : Lay c M) (ho0 : sh o0 = some (.inr 5)) (h : (C G Y_X5_hasArm d [.ref (G.b + o0), .int x1] M (Ri fun r2 M1 => M1.2.2 = M.2.2 ∧ ((r2 = 0 → Q 0 M1) ∧ (¬ r2 = 0 → ((x2 < 0 → Q 0 M1) ∧ (¬ x2 < 0 → (vp_in x1 6 ∧ (((M1.1 ((o0 + 1) + 2 + 2 * x1.toNatClampNeg) 3) ≤ x2 → Q 0 M1) ∧ (¬ (M1.1 ((o0 + 1) + 2 + 2 * x1.toNatClampNeg) 3) ≤ x2 → Q 1 M1)))))))))) : C G Y_X5_hasHole (d + 1) [.ref (G.b + o0), .int x1, .int x2] M (Ri Q) := by
  refine C.of (by decide) (Nat.le_of_ble_eq_true rfl) (lv := [(0, .ref (G.b + o0)), (1, .int x1), (2, .int x2)]) rfl ?_
  refine tw_aload_n 0 d_X5_hasHole_0 rfl rfl ?_
  refine tw_iload_n 1 d_X5_hasHole_1 rfl rfl ?_
  refine tu_cVi (As := [.int x1]) cv_X5_29 hL ho0 rfl (Nat.le_of_ble_eq_true rfl) ⟨Nat.zero_le _, Nat.zero_le _⟩ d_X5_hasHole_2 h (fun r2 M1 h => ?_)
  have hL_M1 : Lay c M1 := hL.to h.1
  replace h := h.2
  refine tw_if_eq 29 d_X5_hasHole_5 (by decide) (fun z3 => ?_) (fun z3 => ?_)
  · replace h := h.1 z3
    refine tw_iconst d_X5_hasHole_29 k_0 ?_
    exact tw_zret (ty := .boolean) rfl rfl ⟨Nat.zero_le _, Nat.zero_le _⟩ d_X5_hasHole_30 h
  · replace h := h.2 z3
    refine tw_iload_n 2 d_X5_hasHole_8 rfl rfl ?_
    refine tw_if_lt 29 d_X5_hasHole_9 (by decide) (fun z4 => ?_) (fun z4 => ?_)
    · replace h := h.1 z4
      refine tw_iconst d_X5_hasHole_29 k_0 ?_
      exact tw_zret (ty := .boolean) rfl rfl ⟨Nat.zero_le _, Nat.zero_le _⟩ d_X5_hasHole_30 h
    · replace h := h.2 z4
      refine tw_iload_n 2 d_X5_hasHole_12 rfl rfl ?_
      refine tw_aload_n 0 d_X5_hasHole_13 rfl rfl ?_
      refine tw_getR f_X5_11 hL_M1 ho0 ⟨rfl, rfl⟩ (rr_X5_0 ho0) d_X5_hasHole_14 ?_
      refine tw_iload_n 1 d_X5_hasHole_17 rfl rfl ?_
      have hin := h.1
      refine tw_aald hL_M1 (sr_X5_0 ho0) (by decide) (re_4 (sr_X5_0 ho0)) d_X5_hasHole_18 h.1 ?_
      have hs5 := se_4 (sr_X5_0 ho0) (vp_lt h.1)
      replace h := h.2
      refine tw_getI f_X5_33 hL_M1 hs5 (Or.inl rfl) d_X5_hasHole_19 ?_
      refine tw_icmp_ge 29 d_X5_hasHole_22 (by decide) (fun z6 => ?_) (fun z6 => ?_)
      · replace h := h.1 z6
        refine tw_iconst d_X5_hasHole_29 k_0 ?_
        exact tw_zret (ty := .boolean) rfl rfl ⟨Nat.zero_le _, Nat.zero_le _⟩ d_X5_hasHole_30 h
      · replace h := h.2 z6
        refine tw_iconst d_X5_hasHole_25 k_1 ?_
        refine tw_goto 30 d_X5_hasHole_26 (by decide) ?_
        exact tw_zret (ty := .boolean) rfl rfl ⟨Nat.zero_le _, Nat.zero_le _⟩ d_X5_hasHole_30 h

theorem d_X5_hasChart_0 : decode Y_X5_hasChart.cc 0 = .ok (.iload_n 1, 1) := by decide +kernel
theorem d_X5_hasChart_1 : decode Y_X5_hasChart.cc 1 = .ok (.ifCond .lt 15, 3) := by decide +kernel
theorem d_X5_hasChart_4 : decode Y_X5_hasChart.cc 4 = .ok (.iload_n 1, 1) := by decide +kernel
theorem d_X5_hasChart_5 : decode Y_X5_hasChart.cc 5 = .ok (.aload_n 0, 1) := by decide +kernel
theorem d_X5_hasChart_6 : decode Y_X5_hasChart.cc 6 = .ok (.getfield 36, 3) := by decide +kernel
theorem d_X5_hasChart_9 : decode Y_X5_hasChart.cc 9 = .ok (.if_icmp .ge 7, 3) := by decide +kernel
theorem d_X5_hasChart_12 : decode Y_X5_hasChart.cc 12 = .ok (.iconst 1, 1) := by decide +kernel
theorem d_X5_hasChart_13 : decode Y_X5_hasChart.cc 13 = .ok (.goto 4, 3) := by decide +kernel
theorem d_X5_hasChart_16 : decode Y_X5_hasChart.cc 16 = .ok (.iconst 0, 1) := by decide +kernel
theorem d_X5_hasChart_17 : decode Y_X5_hasChart.cc 17 = .ok (.ireturn, 1) := by decide +kernel
theorem b_X5_hasChart {G : MG} {d : Nat} {Q : Int32 → Mm → Prop} {o0 : Nat} {x1 : Int32} {M : Mm} {c : Nat} (hL : Lay c M) (ho0 : sh o0 = some (.inr 5)) (h : ((x1 < 0 → Q 0 M) ∧ (¬ x1 < 0 → (((M.1 o0 3) ≤ x1 → Q 0 M) ∧ (¬ (M.1 o0 3) ≤ x1 → Q 1 M))))) : C G Y_X5_hasChart (d + 1) [.ref (G.b + o0), .int x1] M (Ri Q) := by
  refine C.of (by decide) (Nat.le_of_ble_eq_true rfl) (lv := [(0, .ref (G.b + o0)), (1, .int x1)]) rfl ?_
  refine tw_iload_n 1 d_X5_hasChart_0 rfl rfl ?_
  refine tw_if_lt 16 d_X5_hasChart_1 (by decide) (fun z1 => ?_) (fun z1 => ?_)
  · replace h := h.1 z1
    refine tw_iconst d_X5_hasChart_16 k_0 ?_
    exact tw_zret (ty := .boolean) rfl rfl ⟨Nat.zero_le _, Nat.zero_le _⟩ d_X5_hasChart_17 h
  · replace h := h.2 z1
    refine tw_iload_n 1 d_X5_hasChart_4 rfl rfl ?_
    refine tw_aload_n 0 d_X5_hasChart_5 rfl rfl ?_
    refine tw_getI f_X5_36 hL ho0 (Or.inl rfl) d_X5_hasChart_6 ?_
    refine tw_icmp_ge 16 d_X5_hasChart_9 (by decide) (fun z2 => ?_) (fun z2 => ?_)
    · replace h := h.1 z2
      refine tw_iconst d_X5_hasChart_16 k_0 ?_
      exact tw_zret (ty := .boolean) rfl rfl ⟨Nat.zero_le _, Nat.zero_le _⟩ d_X5_hasChart_17 h
    · replace h := h.2 z2
      refine tw_iconst d_X5_hasChart_12 k_1 ?_
      refine tw_goto 17 d_X5_hasChart_13 (by decide) ?_
      exact tw_zret (ty := .boolean) rfl rfl ⟨Nat.zero_le _, Nat.zero_le _⟩ d_X5_hasChart_17 h

theorem d_X5_hasName_0 : decode Y_X5_hasName.cc 0 = .ok (.iconst 0, 1) := by decide +kernel
theorem d_X5_hasName_1 : decode Y_X5_hasName.cc 1 = .ok (.istore_n 3, 1) := by decide +kernel
theorem d_X5_hasName_2 : decode Y_X5_hasName.cc 2 = .ok (.iload_n 3, 1) := by decide +kernel
theorem d_X5_hasName_3 : decode Y_X5_hasName.cc 3 = .ok (.aload_n 0, 1) := by decide +kernel
theorem d_X5_hasName_4 : decode Y_X5_hasName.cc 4 = .ok (.getfield 25, 3) := by decide +kernel
theorem d_X5_hasName_7 : decode Y_X5_hasName.cc 7 = .ok (.if_icmp .ge 25, 3) := by decide +kernel
theorem d_X5_hasName_10 : decode Y_X5_hasName.cc 10 = .ok (.aload_n 0, 1) := by decide +kernel
theorem d_X5_hasName_11 : decode Y_X5_hasName.cc 11 = .ok (.getfield 11, 3) := by decide +kernel
theorem d_X5_hasName_14 : decode Y_X5_hasName.cc 14 = .ok (.iload_n 3, 1) := by decide +kernel
theorem d_X5_hasName_15 : decode Y_X5_hasName.cc 15 = .ok (.aaload, 1) := by decide +kernel
theorem d_X5_hasName_16 : decode Y_X5_hasName.cc 16 = .ok (.getfield 39, 3) := by decide +kernel
theorem d_X5_hasName_19 : decode Y_X5_hasName.cc 19 = .ok (.lload_n 1, 1) := by decide +kernel
theorem d_X5_hasName_20 : decode Y_X5_hasName.cc 20 = .ok (.lcmp, 1) := by decide +kernel
theorem d_X5_hasName_21 : decode Y_X5_hasName.cc 21 = .ok (.ifCond .ne 5, 3) := by decide +kernel
theorem d_X5_hasName_24 : decode Y_X5_hasName.cc 24 = .ok (.iconst 1, 1) := by decide +kernel
theorem d_X5_hasName_25 : decode Y_X5_hasName.cc 25 = .ok (.ireturn, 1) := by decide +kernel
theorem d_X5_hasName_26 : decode Y_X5_hasName.cc 26 = .ok (.iinc 3 1, 3) := by decide +kernel
theorem d_X5_hasName_29 : decode Y_X5_hasName.cc 29 = .ok (.goto (-27), 3) := by decide +kernel
theorem d_X5_hasName_32 : decode Y_X5_hasName.cc 32 = .ok (.iconst 0, 1) := by decide +kernel
theorem d_X5_hasName_33 : decode Y_X5_hasName.cc 33 = .ok (.istore_n 3, 1) := by decide +kernel
theorem d_X5_hasName_34 : decode Y_X5_hasName.cc 34 = .ok (.iload_n 3, 1) := by decide +kernel
theorem d_X5_hasName_35 : decode Y_X5_hasName.cc 35 = .ok (.aload_n 0, 1) := by decide +kernel
theorem d_X5_hasName_36 : decode Y_X5_hasName.cc 36 = .ok (.getfield 36, 3) := by decide +kernel
theorem d_X5_hasName_39 : decode Y_X5_hasName.cc 39 = .ok (.if_icmp .ge 25, 3) := by decide +kernel
theorem d_X5_hasName_42 : decode Y_X5_hasName.cc 42 = .ok (.aload_n 0, 1) := by decide +kernel
theorem d_X5_hasName_43 : decode Y_X5_hasName.cc 43 = .ok (.getfield 19, 3) := by decide +kernel
theorem d_X5_hasName_46 : decode Y_X5_hasName.cc 46 = .ok (.iload_n 3, 1) := by decide +kernel
theorem d_X5_hasName_47 : decode Y_X5_hasName.cc 47 = .ok (.aaload, 1) := by decide +kernel
theorem d_X5_hasName_48 : decode Y_X5_hasName.cc 48 = .ok (.getfield 43, 3) := by decide +kernel
theorem d_X5_hasName_51 : decode Y_X5_hasName.cc 51 = .ok (.lload_n 1, 1) := by decide +kernel
theorem d_X5_hasName_52 : decode Y_X5_hasName.cc 52 = .ok (.lcmp, 1) := by decide +kernel
theorem d_X5_hasName_53 : decode Y_X5_hasName.cc 53 = .ok (.ifCond .ne 5, 3) := by decide +kernel
theorem d_X5_hasName_56 : decode Y_X5_hasName.cc 56 = .ok (.iconst 1, 1) := by decide +kernel
theorem d_X5_hasName_57 : decode Y_X5_hasName.cc 57 = .ok (.ireturn, 1) := by decide +kernel
theorem d_X5_hasName_58 : decode Y_X5_hasName.cc 58 = .ok (.iinc 3 1, 3) := by decide +kernel
theorem d_X5_hasName_61 : decode Y_X5_hasName.cc 61 = .ok (.goto (-27), 3) := by decide +kernel
theorem d_X5_hasName_64 : decode Y_X5_hasName.cc 64 = .ok (.iconst 0, 1) := by decide +kernel
theorem d_X5_hasName_65 : decode Y_X5_hasName.cc 65 = .ok (.ireturn, 1) := by decide +kernel
def L_X5_hasName_2 (G : MG) (d : Nat) (Q : Int32 → Mm → Prop) (o0 : Nat) (y1 : Int64) (x3 : Int32) (M : Mm) : Prop := T G Y_X5_hasName (d + 1) (Ri Q) 0 0 2 [(0, .ref (G.b + o0)), (1, .long y1), (3, .int x3)] [] M
def L_X5_hasName_34 (G : MG) (d : Nat) (Q : Int32 → Mm → Prop) (o0 : Nat) (y1 : Int64) (x3 : Int32) (M : Mm) : Prop := T G Y_X5_hasName (d + 1) (Ri Q) 0 0 34 [(0, .ref (G.b + o0)), (1, .long y1), (3, .int x3)] [] M
theorem b_X5_hasName_2 {G : MG} {d : Nat} {Q : Int32 → Mm → Prop} {o0 : Nat} {y1 : Int64} {x3 : Int32} {M : Mm} {c : Nat} (hL : Lay c M) (ho0 : sh o0 = some (.inr 5)) (h : (((M.1 o0 2) ≤ x3 → L_X5_hasName_34 G d Q o0 y1 0 M) ∧ (¬ (M.1 o0 2) ≤ x3 → (vp_in x3 6 ∧ ((¬ (M.2.1 ((o0 + 1) + 2 + 2 * x3.toNatClampNeg) 0) = y1 → L_X5_hasName_2 G d Q o0 y1 (x3 + 1) M) ∧ ((M.2.1 ((o0 + 1) + 2 + 2 * x3.toNatClampNeg) 0) = y1 → Q 1 M)))))) : L_X5_hasName_2 G d Q o0 y1 x3 M := by
  unfold L_X5_hasName_2
  refine tw_iload_n 2 d_X5_hasName_2 rfl rfl ?_
  refine tw_aload_n 0 d_X5_hasName_3 rfl rfl ?_
  refine tw_getI f_X5_25 hL ho0 (Or.inl rfl) d_X5_hasName_4 ?_
  refine tw_icmp_ge 32 d_X5_hasName_7 (by decide) (fun z1 => ?_) (fun z1 => ?_)
  · replace h := h.1 z1
    refine tw_iconst d_X5_hasName_32 k_0 ?_
    refine tw_istore_n [(3, .int 0), (0, .ref (G.b + o0)), (1, .long y1)] d_X5_hasName_33 rfl (Nat.le_of_ble_eq_true rfl) rfl ?_
    exact tw_lv [1, 2, 0] rfl h
  · replace h := h.2 z1
    refine tw_aload_n 0 d_X5_hasName_10 rfl rfl ?_
    refine tw_getR f_X5_11 hL ho0 ⟨rfl, rfl⟩ (rr_X5_0 ho0) d_X5_hasName_11 ?_
    refine tw_iload_n 2 d_X5_hasName_14 rfl rfl ?_
    have hin := h.1
    refine tw_aald hL (sr_X5_0 ho0) (by decide) (re_4 (sr_X5_0 ho0)) d_X5_hasName_15 h.1 ?_
    have hs2 := se_4 (sr_X5_0 ho0) (vp_lt h.1)
    replace h := h.2
    refine tw_getJ f_X5_39 hL hs2 rfl d_X5_hasName_16 ?_
    refine tw_lload_n 1 d_X5_hasName_19 rfl rfl ?_
    refine tw_lcmp_ne 26 d_X5_hasName_20 d_X5_hasName_21 (by decide) (fun z3 => ?_) (fun z3 => ?_)
    · replace h := h.1 z3
      refine tw_iinc 2 [(3, .int (x3 + 1)), (0, .ref (G.b + o0)), (1, .long y1)] d_X5_hasName_26 rfl rfl (Nat.le_of_ble_eq_true rfl) rfl ?_
      refine tw_goto 2 d_X5_hasName_29 (by decide) ?_
      exact tw_lv [1, 2, 0] rfl h
    · replace h := h.2 z3
      refine tw_iconst d_X5_hasName_24 k_1 ?_
      exact tw_zret (ty := .boolean) rfl rfl ⟨Nat.zero_le _, Nat.zero_le _⟩ d_X5_hasName_25 h
theorem b_X5_hasName_34 {G : MG} {d : Nat} {Q : Int32 → Mm → Prop} {o0 : Nat} {y1 : Int64} {x3 : Int32} {M : Mm} {c : Nat} (hL : Lay c M) (ho0 : sh o0 = some (.inr 5)) (h : (((M.1 o0 3) ≤ x3 → Q 0 M) ∧ (¬ (M.1 o0 3) ≤ x3 → (vp_in x3 7 ∧ ((¬ (M.2.1 ((o0 + 2) + 13 + 3 * x3.toNatClampNeg) 0) = y1 → L_X5_hasName_34 G d Q o0 y1 (x3 + 1) M) ∧ ((M.2.1 ((o0 + 2) + 13 + 3 * x3.toNatClampNeg) 0) = y1 → Q 1 M)))))) : L_X5_hasName_34 G d Q o0 y1 x3 M := by
  unfold L_X5_hasName_34
  refine tw_iload_n 2 d_X5_hasName_34 rfl rfl ?_
  refine tw_aload_n 0 d_X5_hasName_35 rfl rfl ?_
  refine tw_getI f_X5_36 hL ho0 (Or.inl rfl) d_X5_hasName_36 ?_
  refine tw_icmp_ge 64 d_X5_hasName_39 (by decide) (fun z1 => ?_) (fun z1 => ?_)
  · replace h := h.1 z1
    refine tw_iconst d_X5_hasName_64 k_0 ?_
    exact tw_zret (ty := .boolean) rfl rfl ⟨Nat.zero_le _, Nat.zero_le _⟩ d_X5_hasName_65 h
  · replace h := h.2 z1
    refine tw_aload_n 0 d_X5_hasName_42 rfl rfl ?_
    refine tw_getR f_X5_19 hL ho0 ⟨rfl, rfl⟩ (rr_X5_1 ho0) d_X5_hasName_43 ?_
    refine tw_iload_n 2 d_X5_hasName_46 rfl rfl ?_
    have hin := h.1
    refine tw_aald hL (sr_X5_1 ho0) (by decide) (re_5 (sr_X5_1 ho0)) d_X5_hasName_47 h.1 ?_
    have hs2 := se_5 (sr_X5_1 ho0) (vp_lt h.1)
    replace h := h.2
    refine tw_getJ f_X5_43 hL hs2 rfl d_X5_hasName_48 ?_
    refine tw_lload_n 1 d_X5_hasName_51 rfl rfl ?_
    refine tw_lcmp_ne 58 d_X5_hasName_52 d_X5_hasName_53 (by decide) (fun z3 => ?_) (fun z3 => ?_)
    · replace h := h.1 z3
      refine tw_iinc 2 [(3, .int (x3 + 1)), (0, .ref (G.b + o0)), (1, .long y1)] d_X5_hasName_58 rfl rfl (Nat.le_of_ble_eq_true rfl) rfl ?_
      refine tw_goto 34 d_X5_hasName_61 (by decide) ?_
      exact tw_lv [1, 2, 0] rfl h
    · replace h := h.2 z3
      refine tw_iconst d_X5_hasName_56 k_1 ?_
      exact tw_zret (ty := .boolean) rfl rfl ⟨Nat.zero_le _, Nat.zero_le _⟩ d_X5_hasName_57 h
theorem b_X5_hasName {G : MG} {d : Nat} {Q : Int32 → Mm → Prop} {o0 : Nat} {y1 : Int64} {M : Mm} {c : Nat} (hL : Lay c M) (ho0 : sh o0 = some (.inr 5)) (h : L_X5_hasName_2 G d Q o0 y1 0 M) : C G Y_X5_hasName (d + 1) [.ref (G.b + o0), .long y1] M (Ri Q) := by
  refine C.of (by decide) (Nat.le_of_ble_eq_true rfl) (lv := [(0, .ref (G.b + o0)), (1, .long y1)]) rfl ?_
  refine tw_iconst d_X5_hasName_0 k_0 ?_
  refine tw_istore_n [(3, .int 0), (0, .ref (G.b + o0)), (1, .long y1)] d_X5_hasName_1 rfl (Nat.le_of_ble_eq_true rfl) rfl ?_
  exact tw_lv [1, 2, 0] rfl h

theorem d_J6_bitCount_0f7a4_0 : decode Y_J6_bitCount_0f7a4.cc 0 = .ok (.iload_n 0, 1) := by decide +kernel
theorem d_J6_bitCount_0f7a4_1 : decode Y_J6_bitCount_0f7a4.cc 1 = .ok (.iload_n 0, 1) := by decide +kernel
theorem d_J6_bitCount_0f7a4_2 : decode Y_J6_bitCount_0f7a4.cc 2 = .ok (.iconst 1, 1) := by decide +kernel
theorem d_J6_bitCount_0f7a4_3 : decode Y_J6_bitCount_0f7a4.cc 3 = .ok (.iushr, 1) := by decide +kernel
theorem d_J6_bitCount_0f7a4_4 : decode Y_J6_bitCount_0f7a4.cc 4 = .ok (.ldc_w 265, 3) := by decide +kernel
theorem d_J6_bitCount_0f7a4_7 : decode Y_J6_bitCount_0f7a4.cc 7 = .ok (.iand, 1) := by decide +kernel
theorem d_J6_bitCount_0f7a4_8 : decode Y_J6_bitCount_0f7a4.cc 8 = .ok (.isub, 1) := by decide +kernel
theorem d_J6_bitCount_0f7a4_9 : decode Y_J6_bitCount_0f7a4.cc 9 = .ok (.istore_n 0, 1) := by decide +kernel
theorem d_J6_bitCount_0f7a4_10 : decode Y_J6_bitCount_0f7a4.cc 10 = .ok (.iload_n 0, 1) := by decide +kernel
theorem d_J6_bitCount_0f7a4_11 : decode Y_J6_bitCount_0f7a4.cc 11 = .ok (.ldc_w 266, 3) := by decide +kernel
theorem d_J6_bitCount_0f7a4_14 : decode Y_J6_bitCount_0f7a4.cc 14 = .ok (.iand, 1) := by decide +kernel
theorem d_J6_bitCount_0f7a4_15 : decode Y_J6_bitCount_0f7a4.cc 15 = .ok (.iload_n 0, 1) := by decide +kernel
theorem d_J6_bitCount_0f7a4_16 : decode Y_J6_bitCount_0f7a4.cc 16 = .ok (.iconst 2, 1) := by decide +kernel
theorem d_J6_bitCount_0f7a4_17 : decode Y_J6_bitCount_0f7a4.cc 17 = .ok (.iushr, 1) := by decide +kernel
theorem d_J6_bitCount_0f7a4_18 : decode Y_J6_bitCount_0f7a4.cc 18 = .ok (.ldc_w 266, 3) := by decide +kernel
theorem d_J6_bitCount_0f7a4_21 : decode Y_J6_bitCount_0f7a4.cc 21 = .ok (.iand, 1) := by decide +kernel
theorem d_J6_bitCount_0f7a4_22 : decode Y_J6_bitCount_0f7a4.cc 22 = .ok (.iadd, 1) := by decide +kernel
theorem d_J6_bitCount_0f7a4_23 : decode Y_J6_bitCount_0f7a4.cc 23 = .ok (.istore_n 0, 1) := by decide +kernel
theorem d_J6_bitCount_0f7a4_24 : decode Y_J6_bitCount_0f7a4.cc 24 = .ok (.iload_n 0, 1) := by decide +kernel
theorem d_J6_bitCount_0f7a4_25 : decode Y_J6_bitCount_0f7a4.cc 25 = .ok (.iload_n 0, 1) := by decide +kernel
theorem d_J6_bitCount_0f7a4_26 : decode Y_J6_bitCount_0f7a4.cc 26 = .ok (.iconst 4, 1) := by decide +kernel
theorem d_J6_bitCount_0f7a4_27 : decode Y_J6_bitCount_0f7a4.cc 27 = .ok (.iushr, 1) := by decide +kernel
theorem d_J6_bitCount_0f7a4_28 : decode Y_J6_bitCount_0f7a4.cc 28 = .ok (.iadd, 1) := by decide +kernel
theorem d_J6_bitCount_0f7a4_29 : decode Y_J6_bitCount_0f7a4.cc 29 = .ok (.ldc_w 267, 3) := by decide +kernel
theorem d_J6_bitCount_0f7a4_32 : decode Y_J6_bitCount_0f7a4.cc 32 = .ok (.iand, 1) := by decide +kernel
theorem d_J6_bitCount_0f7a4_33 : decode Y_J6_bitCount_0f7a4.cc 33 = .ok (.istore_n 0, 1) := by decide +kernel
theorem d_J6_bitCount_0f7a4_34 : decode Y_J6_bitCount_0f7a4.cc 34 = .ok (.iload_n 0, 1) := by decide +kernel
theorem d_J6_bitCount_0f7a4_35 : decode Y_J6_bitCount_0f7a4.cc 35 = .ok (.iload_n 0, 1) := by decide +kernel
theorem d_J6_bitCount_0f7a4_36 : decode Y_J6_bitCount_0f7a4.cc 36 = .ok (.bipush 8, 2) := by decide +kernel
theorem d_J6_bitCount_0f7a4_38 : decode Y_J6_bitCount_0f7a4.cc 38 = .ok (.iushr, 1) := by decide +kernel
theorem d_J6_bitCount_0f7a4_39 : decode Y_J6_bitCount_0f7a4.cc 39 = .ok (.iadd, 1) := by decide +kernel
theorem d_J6_bitCount_0f7a4_40 : decode Y_J6_bitCount_0f7a4.cc 40 = .ok (.istore_n 0, 1) := by decide +kernel
theorem d_J6_bitCount_0f7a4_41 : decode Y_J6_bitCount_0f7a4.cc 41 = .ok (.iload_n 0, 1) := by decide +kernel
theorem d_J6_bitCount_0f7a4_42 : decode Y_J6_bitCount_0f7a4.cc 42 = .ok (.iload_n 0, 1) := by decide +kernel
theorem d_J6_bitCount_0f7a4_43 : decode Y_J6_bitCount_0f7a4.cc 43 = .ok (.bipush 16, 2) := by decide +kernel
theorem d_J6_bitCount_0f7a4_45 : decode Y_J6_bitCount_0f7a4.cc 45 = .ok (.iushr, 1) := by decide +kernel
theorem d_J6_bitCount_0f7a4_46 : decode Y_J6_bitCount_0f7a4.cc 46 = .ok (.iadd, 1) := by decide +kernel
theorem d_J6_bitCount_0f7a4_47 : decode Y_J6_bitCount_0f7a4.cc 47 = .ok (.istore_n 0, 1) := by decide +kernel
theorem d_J6_bitCount_0f7a4_48 : decode Y_J6_bitCount_0f7a4.cc 48 = .ok (.iload_n 0, 1) := by decide +kernel
theorem d_J6_bitCount_0f7a4_49 : decode Y_J6_bitCount_0f7a4.cc 49 = .ok (.bipush 63, 2) := by decide +kernel
theorem d_J6_bitCount_0f7a4_51 : decode Y_J6_bitCount_0f7a4.cc 51 = .ok (.iand, 1) := by decide +kernel
theorem d_J6_bitCount_0f7a4_52 : decode Y_J6_bitCount_0f7a4.cc 52 = .ok (.ireturn, 1) := by decide +kernel
theorem b_J6_bitCount_0f7a4 {G : MG} {d : Nat} {Q : Int32 → Mm → Prop} {x0 : Int32} {M : Mm} {c : Nat} (hL : Lay c M)  (h : ∀ v1 : Int32, v1 = (x0 - (((x0.toUInt32 >>> ((1 : Int32).toUInt32 &&& Int32.toUInt32 31)).toInt32) &&& 1431655765)) → ∀ v2 : Int32, v2 = ((v1 &&& 858993459) + (((v1.toUInt32 >>> ((2 : Int32).toUInt32 &&& Int32.toUInt32 31)).toInt32) &&& 858993459)) → ∀ v3 : Int32, v3 = ((v2 + ((v2.toUInt32 >>> ((4 : Int32).toUInt32 &&& Int32.toUInt32 31)).toInt32)) &&& 252645135) → ∀ v4 : Int32, v4 = (v3 + ((v3.toUInt32 >>> ((8 : Int32).toUInt32 &&& Int32.toUInt32 31)).toInt32)) → ∀ v5 : Int32, v5 = (v4 + ((v4.toUInt32 >>> ((16 : Int32).toUInt32 &&& Int32.toUInt32 31)).toInt32)) → Q (v5 &&& 63) M) : C G Y_J6_bitCount_0f7a4 (d + 1) [.int x0] M (Ri Q) := by
  refine C.of (by decide) (Nat.le_of_ble_eq_true rfl) (lv := [(0, .int x0)]) rfl ?_
  refine tw_iload_n 0 d_J6_bitCount_0f7a4_0 rfl rfl ?_
  refine tw_iload_n 0 d_J6_bitCount_0f7a4_1 rfl rfl ?_
  refine tw_iconst d_J6_bitCount_0f7a4_2 k_1 ?_
  refine tw_iushr d_J6_bitCount_0f7a4_3 ?_
  refine tw_ldcw d_J6_bitCount_0f7a4_4 mg705 ?_
  refine tw_iand d_J6_bitCount_0f7a4_7 ?_
  refine tw_isub d_J6_bitCount_0f7a4_8 ?_
  refine tw_nmI (fun v1 e_v1 => ?_)
  replace h := h v1 e_v1
  refine tw_istore_n [(0, .int v1)] d_J6_bitCount_0f7a4_9 rfl (Nat.le_of_ble_eq_true rfl) rfl ?_
  refine tw_iload_n 0 d_J6_bitCount_0f7a4_10 rfl rfl ?_
  refine tw_ldcw d_J6_bitCount_0f7a4_11 mg706 ?_
  refine tw_iand d_J6_bitCount_0f7a4_14 ?_
  refine tw_iload_n 0 d_J6_bitCount_0f7a4_15 rfl rfl ?_
  refine tw_iconst d_J6_bitCount_0f7a4_16 k_2 ?_
  refine tw_iushr d_J6_bitCount_0f7a4_17 ?_
  refine tw_ldcw d_J6_bitCount_0f7a4_18 mg706 ?_
  refine tw_iand d_J6_bitCount_0f7a4_21 ?_
  refine tw_iadd d_J6_bitCount_0f7a4_22 ?_
  refine tw_nmI (fun v2 e_v2 => ?_)
  replace h := h v2 e_v2
  refine tw_istore_n [(0, .int v2)] d_J6_bitCount_0f7a4_23 rfl (Nat.le_of_ble_eq_true rfl) rfl ?_
  refine tw_iload_n 0 d_J6_bitCount_0f7a4_24 rfl rfl ?_
  refine tw_iload_n 0 d_J6_bitCount_0f7a4_25 rfl rfl ?_
  refine tw_iconst d_J6_bitCount_0f7a4_26 k_4 ?_
  refine tw_iushr d_J6_bitCount_0f7a4_27 ?_
  refine tw_iadd d_J6_bitCount_0f7a4_28 ?_
  refine tw_ldcw d_J6_bitCount_0f7a4_29 mg707 ?_
  refine tw_iand d_J6_bitCount_0f7a4_32 ?_
  refine tw_nmI (fun v3 e_v3 => ?_)
  replace h := h v3 e_v3
  refine tw_istore_n [(0, .int v3)] d_J6_bitCount_0f7a4_33 rfl (Nat.le_of_ble_eq_true rfl) rfl ?_
  refine tw_iload_n 0 d_J6_bitCount_0f7a4_34 rfl rfl ?_
  refine tw_iload_n 0 d_J6_bitCount_0f7a4_35 rfl rfl ?_
  refine tw_bipush d_J6_bitCount_0f7a4_36 kb_8 ?_
  refine tw_iushr d_J6_bitCount_0f7a4_38 ?_
  refine tw_iadd d_J6_bitCount_0f7a4_39 ?_
  refine tw_nmI (fun v4 e_v4 => ?_)
  replace h := h v4 e_v4
  refine tw_istore_n [(0, .int v4)] d_J6_bitCount_0f7a4_40 rfl (Nat.le_of_ble_eq_true rfl) rfl ?_
  refine tw_iload_n 0 d_J6_bitCount_0f7a4_41 rfl rfl ?_
  refine tw_iload_n 0 d_J6_bitCount_0f7a4_42 rfl rfl ?_
  refine tw_bipush d_J6_bitCount_0f7a4_43 kb_16 ?_
  refine tw_iushr d_J6_bitCount_0f7a4_45 ?_
  refine tw_iadd d_J6_bitCount_0f7a4_46 ?_
  refine tw_nmI (fun v5 e_v5 => ?_)
  replace h := h v5 e_v5
  refine tw_istore_n [(0, .int v5)] d_J6_bitCount_0f7a4_47 rfl (Nat.le_of_ble_eq_true rfl) rfl ?_
  refine tw_iload_n 0 d_J6_bitCount_0f7a4_48 rfl rfl ?_
  refine tw_bipush d_J6_bitCount_0f7a4_49 kb_63 ?_
  refine tw_iand d_J6_bitCount_0f7a4_51 ?_
  exact tw_iret rfl ⟨Nat.zero_le _, Nat.zero_le _⟩ d_J6_bitCount_0f7a4_52 h
