theorem d_X6_find_0 : decode Y_X6_find.cc 0 = .ok (.aload_n 0, 1) := by decide +kernel
theorem d_X6_find_1 : decode Y_X6_find.cc 1 = .ok (.iconst 0, 1) := by decide +kernel
theorem d_X6_find_2 : decode Y_X6_find.cc 2 = .ok (.putfield 28, 3) := by decide +kernel
theorem d_X6_find_5 : decode Y_X6_find.cc 5 = .ok (.aload_n 0, 1) := by decide +kernel
theorem d_X6_find_6 : decode Y_X6_find.cc 6 = .ok (.aload_n 1, 1) := by decide +kernel
theorem d_X6_find_7 : decode Y_X6_find.cc 7 = .ok (.aload_n 2, 1) := by decide +kernel
theorem d_X6_find_8 : decode Y_X6_find.cc 8 = .ok (.iconst 0, 1) := by decide +kernel
theorem d_X6_find_9 : decode Y_X6_find.cc 9 = .ok (.invokevirtual 32, 3) := by decide +kernel
theorem d_X6_find_12 : decode Y_X6_find.cc 12 = .ok (.return_, 1) := by decide +kernel
theorem b_X6_find {G : MG} {d : Nat} {Q : Mm → Prop} {o1 : Nat} {o2 : Nat} {M : Mm} {c : Nat} (hL : Lay c M) (ho1 : sh o1 = some (.inr 5)) (ho2 : sh o2 = some (.inr 7)) (h : (∀ M1 : Mm, M1 = sI M 128 4 0 → (C G Y_X6_lay d [.ref (G.b + 128), .ref (G.b + o1), .ref (G.b + o2), .int 0] M1 (Rv fun M2 => M2.2.2 = M1.2.2 ∧ Q M2)))) : C G Y_X6_find (d + 1) [.ref (G.b + 128), .ref (G.b + o1), .ref (G.b + o2)] M (Rv Q) := by
  refine C.of (by decide) (Nat.le_of_ble_eq_true rfl) (lv := [(0, .ref (G.b + 128)), (1, .ref (G.b + o1)), (2, .ref (G.b + o2))]) rfl ?_
  refine tw_aload_n 0 d_X6_find_0 rfl rfl ?_
  refine tw_iconst d_X6_find_1 k_0 ?_
  refine tu_putZ f_X6_28 hL s_128 rfl rfl (by decide) d_X6_find_2 (fun M1 e_M1 hL_M1 => ?_)
  replace h := h M1 e_M1
  refine tw_aload_n 0 d_X6_find_5 rfl rfl ?_
  refine tw_aload_n 1 d_X6_find_6 rfl rfl ?_
  refine tw_aload_n 2 d_X6_find_7 rfl rfl ?_
  refine tw_iconst d_X6_find_8 k_0 ?_
  refine tu_cVv (As := [.ref (G.b + o1), .ref (G.b + o2), .int 0]) cv_X6_32 hL_M1 s_128 rfl (Nat.le_of_ble_eq_true rfl) ⟨Nat.zero_le _, Nat.zero_le _⟩ d_X6_find_9 h (fun M2 h => ?_)
  have hL_M2 : Lay c M2 := hL_M1.to h.1
  replace h := h.2
  exact tw_vret rfl ⟨Nat.zero_le _, Nat.zero_le _⟩ d_X6_find_12 h

theorem d_X6_lay_0 : decode Y_X6_lay.cc 0 = .ok (.iload_n 3, 1) := by decide +kernel
theorem d_X6_lay_1 : decode Y_X6_lay.cc 1 = .ok (.aload_n 2, 1) := by decide +kernel
theorem d_X6_lay_2 : decode Y_X6_lay.cc 2 = .ok (.getfield 36, 3) := by decide +kernel
theorem d_X6_lay_5 : decode Y_X6_lay.cc 5 = .ok (.if_icmp .ge 8, 3) := by decide +kernel
theorem d_X6_lay_8 : decode Y_X6_lay.cc 8 = .ok (.iload_n 3, 1) := by decide +kernel
theorem d_X6_lay_9 : decode Y_X6_lay.cc 9 = .ok (.iconst 4, 1) := by decide +kernel
theorem d_X6_lay_10 : decode Y_X6_lay.cc 10 = .ok (.if_icmp .lt 10, 3) := by decide +kernel
theorem d_X6_lay_13 : decode Y_X6_lay.cc 13 = .ok (.aload_n 0, 1) := by decide +kernel
theorem d_X6_lay_14 : decode Y_X6_lay.cc 14 = .ok (.aload_n 1, 1) := by decide +kernel
theorem d_X6_lay_15 : decode Y_X6_lay.cc 15 = .ok (.aload_n 2, 1) := by decide +kernel
theorem d_X6_lay_16 : decode Y_X6_lay.cc 16 = .ok (.invokevirtual 42, 3) := by decide +kernel
theorem d_X6_lay_19 : decode Y_X6_lay.cc 19 = .ok (.return_, 1) := by decide +kernel
theorem d_X6_lay_20 : decode Y_X6_lay.cc 20 = .ok (.iconst 0, 1) := by decide +kernel
theorem d_X6_lay_21 : decode Y_X6_lay.cc 21 = .ok (.istore 4, 2) := by decide +kernel
theorem d_X6_lay_23 : decode Y_X6_lay.cc 23 = .ok (.iload 4, 2) := by decide +kernel
theorem d_X6_lay_25 : decode Y_X6_lay.cc 25 = .ok (.aload_n 1, 1) := by decide +kernel
theorem d_X6_lay_26 : decode Y_X6_lay.cc 26 = .ok (.getfield 46, 3) := by decide +kernel
theorem d_X6_lay_29 : decode Y_X6_lay.cc 29 = .ok (.if_icmp .ge 45, 3) := by decide +kernel
theorem d_X6_lay_32 : decode Y_X6_lay.cc 32 = .ok (.aload_n 2, 1) := by decide +kernel
theorem d_X6_lay_33 : decode Y_X6_lay.cc 33 = .ok (.iload 4, 2) := by decide +kernel
theorem d_X6_lay_35 : decode Y_X6_lay.cc 35 = .ok (.invokevirtual 51, 3) := by decide +kernel
theorem d_X6_lay_38 : decode Y_X6_lay.cc 38 = .ok (.ifCond .eq 30, 3) := by decide +kernel
theorem d_X6_lay_41 : decode Y_X6_lay.cc 41 = .ok (.aload_n 0, 1) := by decide +kernel
theorem d_X6_lay_42 : decode Y_X6_lay.cc 42 = .ok (.iload 4, 2) := by decide +kernel
theorem d_X6_lay_44 : decode Y_X6_lay.cc 44 = .ok (.iload_n 3, 1) := by decide +kernel
theorem d_X6_lay_45 : decode Y_X6_lay.cc 45 = .ok (.invokevirtual 55, 3) := by decide +kernel
theorem d_X6_lay_48 : decode Y_X6_lay.cc 48 = .ok (.ifCond .ne 20, 3) := by decide +kernel
theorem d_X6_lay_51 : decode Y_X6_lay.cc 51 = .ok (.aload_n 0, 1) := by decide +kernel
theorem d_X6_lay_52 : decode Y_X6_lay.cc 52 = .ok (.getfield 22, 3) := by decide +kernel
theorem d_X6_lay_55 : decode Y_X6_lay.cc 55 = .ok (.iload_n 3, 1) := by decide +kernel
theorem d_X6_lay_56 : decode Y_X6_lay.cc 56 = .ok (.iload 4, 2) := by decide +kernel
theorem d_X6_lay_58 : decode Y_X6_lay.cc 58 = .ok (.iastore, 1) := by decide +kernel
theorem d_X6_lay_59 : decode Y_X6_lay.cc 59 = .ok (.aload_n 0, 1) := by decide +kernel
theorem d_X6_lay_60 : decode Y_X6_lay.cc 60 = .ok (.aload_n 1, 1) := by decide +kernel
theorem d_X6_lay_61 : decode Y_X6_lay.cc 61 = .ok (.aload_n 2, 1) := by decide +kernel
theorem d_X6_lay_62 : decode Y_X6_lay.cc 62 = .ok (.iload_n 3, 1) := by decide +kernel
theorem d_X6_lay_63 : decode Y_X6_lay.cc 63 = .ok (.iconst 1, 1) := by decide +kernel
theorem d_X6_lay_64 : decode Y_X6_lay.cc 64 = .ok (.iadd, 1) := by decide +kernel
theorem d_X6_lay_65 : decode Y_X6_lay.cc 65 = .ok (.invokevirtual 32, 3) := by decide +kernel
theorem d_X6_lay_68 : decode Y_X6_lay.cc 68 = .ok (.iinc 4 1, 3) := by decide +kernel
theorem d_X6_lay_71 : decode Y_X6_lay.cc 71 = .ok (.goto (-48), 3) := by decide +kernel
theorem d_X6_lay_74 : decode Y_X6_lay.cc 74 = .ok (.return_, 1) := by decide +kernel
def L_X6_lay_23 (G : MG) (d : Nat) (Q : Mm → Prop) (o1 : Nat) (o2 : Nat) (x3 : Int32) (x4 : Int32) (M : Mm) : Prop := T G Y_X6_lay (d + 1) (Rv Q) 0 0 23 [(0, .ref (G.b + 128)), (1, .ref (G.b + o1)), (2, .ref (G.b + o2)), (3, .int x3), (4, .int x4)] [] M
theorem b_X6_lay_23 {G : MG} {d : Nat} {Q : Mm → Prop} {o1 : Nat} {o2 : Nat} {x3 : Int32} {x4 : Int32} {M : Mm} {c : Nat} (hL : Lay c M) (ho1 : sh o1 = some (.inr 5)) (ho2 : sh o2 = some (.inr 7)) (h : (((M.1 o1 2) ≤ x4 → Q M) ∧ (¬ (M.1 o1 2) ≤ x4 → (C G Y_X7_hasChained d [.ref (G.b + o2), .int x4] M (Ri fun r3 M2 => M2.2.2 = M.2.2 ∧ ((r3 = 0 → L_X6_lay_23 G d Q o1 o2 x3 (x4 + 1) M2) ∧ (¬ r3 = 0 → (C G Y_X6_isLaid d [.ref (G.b + 128), .int x4, .int x3] M2 (Ri fun r6 M5 => M5.2.2 = M2.2.2 ∧ ((¬ r6 = 0 → L_X6_lay_23 G d Q o1 o2 x3 (x4 + 1) M5) ∧ (r6 = 0 → (vp_in x3 4 ∧ ∀ M8 : Mm, M8 = sI M5 131 x3.toNatClampNeg x4 → (C G Y_X6_lay d [.ref (G.b + 128), .ref (G.b + o1), .ref (G.b + o2), .int (x3 + 1)] M8 (Rv fun M9 => M9.2.2 = M8.2.2 ∧ L_X6_lay_23 G d Q o1 o2 x3 (x4 + 1) M9)))))))))))))) : L_X6_lay_23 G d Q o1 o2 x3 x4 M := by
  unfold L_X6_lay_23
  refine tw_iload 4 d_X6_lay_23 rfl ?_
  refine tw_aload_n 1 d_X6_lay_25 rfl rfl ?_
  refine tw_getI f_X6_46 hL ho1 (Or.inl rfl) d_X6_lay_26 ?_
  refine tw_icmp_ge 74 d_X6_lay_29 (by decide) (fun z1 => ?_) (fun z1 => ?_)
  · replace h := h.1 z1
    exact tw_vret rfl ⟨Nat.zero_le _, Nat.zero_le _⟩ d_X6_lay_74 h
  · replace h := h.2 z1
    refine tw_aload_n 2 d_X6_lay_32 rfl rfl ?_
    refine tw_iload 4 d_X6_lay_33 rfl ?_
    refine tu_cVi (As := [.int x4]) cv_X6_51 hL ho2 rfl (Nat.le_of_ble_eq_true rfl) ⟨Nat.zero_le _, Nat.zero_le _⟩ d_X6_lay_35 h (fun r3 M2 h => ?_)
    have hL_M2 : Lay c M2 := hL.to h.1
    replace h := h.2
    refine tw_if_eq 68 d_X6_lay_38 (by decide) (fun z4 => ?_) (fun z4 => ?_)
    · replace h := h.1 z4
      refine tw_iinc 4 [(4, .int (x4 + 1)), (0, .ref (G.b + 128)), (1, .ref (G.b + o1)), (2, .ref (G.b + o2)), (3, .int x3)] d_X6_lay_68 rfl rfl (Nat.le_of_ble_eq_true rfl) rfl ?_
      refine tw_goto 23 d_X6_lay_71 (by decide) ?_
      exact tw_lv [1, 2, 3, 4, 0] rfl h
    · replace h := h.2 z4
      refine tw_aload_n 0 d_X6_lay_41 rfl rfl ?_
      refine tw_iload 4 d_X6_lay_42 rfl ?_
      refine tw_iload_n 3 d_X6_lay_44 rfl rfl ?_
      refine tu_cVi (As := [.int x4, .int x3]) cv_X6_55 hL_M2 s_128 rfl (Nat.le_of_ble_eq_true rfl) ⟨Nat.zero_le _, Nat.zero_le _⟩ d_X6_lay_45 h (fun r6 M5 h => ?_)
      have hL_M5 : Lay c M5 := hL_M2.to h.1
      replace h := h.2
      refine tw_if_ne 68 d_X6_lay_48 (by decide) (fun z7 => ?_) (fun z7 => ?_)
      · replace h := h.1 z7
        refine tw_iinc 4 [(4, .int (x4 + 1)), (0, .ref (G.b + 128)), (1, .ref (G.b + o1)), (2, .ref (G.b + o2)), (3, .int x3)] d_X6_lay_68 rfl rfl (Nat.le_of_ble_eq_true rfl) rfl ?_
        refine tw_goto 23 d_X6_lay_71 (by decide) ?_
        exact tw_lv [1, 2, 3, 4, 0] rfl h
      · replace h := h.2 z7
        refine tw_aload_n 0 d_X6_lay_51 rfl rfl ?_
        refine tw_getR f_X6_22 hL_M5 s_128 ⟨rfl, rfl⟩ (rr_X6_2 s_128) d_X6_lay_52 ?_
        refine tw_iload_n 3 d_X6_lay_55 rfl rfl ?_
        refine tw_iload 4 d_X6_lay_56 rfl ?_
        refine tu_iast hL_M5 s_131 d_X6_lay_58 h.1 (fun M8 e_M8 hL_M8 => ?_)
        replace h := h.2 M8 e_M8
        refine tw_aload_n 0 d_X6_lay_59 rfl rfl ?_
        refine tw_aload_n 1 d_X6_lay_60 rfl rfl ?_
        refine tw_aload_n 2 d_X6_lay_61 rfl rfl ?_
        refine tw_iload_n 3 d_X6_lay_62 rfl rfl ?_
        refine tw_iconst d_X6_lay_63 k_1 ?_
        refine tw_iadd d_X6_lay_64 ?_
        refine tu_cVv (As := [.ref (G.b + o1), .ref (G.b + o2), .int (x3 + 1)]) cv_X6_32 hL_M8 s_128 rfl (Nat.le_of_ble_eq_true rfl) ⟨Nat.zero_le _, Nat.zero_le _⟩ d_X6_lay_65 h (fun M9 h => ?_)
        have hL_M9 : Lay c M9 := hL_M8.to h.1
        replace h := h.2
        refine tw_iinc 4 [(4, .int (x4 + 1)), (0, .ref (G.b + 128)), (1, .ref (G.b + o1)), (2, .ref (G.b + o2)), (3, .int x3)] d_X6_lay_68 rfl rfl (Nat.le_of_ble_eq_true rfl) rfl ?_
        refine tw_goto 23 d_X6_lay_71 (by decide) ?_
        exact tw_lv [1, 2, 3, 4, 0] rfl h
theorem b_X6_lay {G : MG} {d : Nat} {Q : Mm → Prop} {o1 : Nat} {o2 : Nat} {x3 : Int32} {M : Mm} {c : Nat} (hL : Lay c M) (ho1 : sh o1 = some (.inr 5)) (ho2 : sh o2 = some (.inr 7)) (h : (((M.1 o2 7) ≤ x3 → (C G Y_X6_compare d [.ref (G.b + 128), .ref (G.b + o1), .ref (G.b + o2)] M (Rv fun M2 => M2.2.2 = M.2.2 ∧ Q M2))) ∧ (¬ (M.1 o2 7) ≤ x3 → ((x3 < 4 → L_X6_lay_23 G d Q o1 o2 x3 0 M) ∧ (¬ x3 < 4 → (C G Y_X6_compare d [.ref (G.b + 128), .ref (G.b + o1), .ref (G.b + o2)] M (Rv fun M4 => M4.2.2 = M.2.2 ∧ Q M4))))))) : C G Y_X6_lay (d + 1) [.ref (G.b + 128), .ref (G.b + o1), .ref (G.b + o2), .int x3] M (Rv Q) := by
  refine C.of (by decide) (Nat.le_of_ble_eq_true rfl) (lv := [(0, .ref (G.b + 128)), (1, .ref (G.b + o1)), (2, .ref (G.b + o2)), (3, .int x3)]) rfl ?_
  refine tw_iload_n 3 d_X6_lay_0 rfl rfl ?_
  refine tw_aload_n 2 d_X6_lay_1 rfl rfl ?_
  refine tw_getI f_X6_36 hL ho2 (Or.inl rfl) d_X6_lay_2 ?_
  refine tw_icmp_ge 13 d_X6_lay_5 (by decide) (fun z1 => ?_) (fun z1 => ?_)
  · replace h := h.1 z1
    refine tw_aload_n 0 d_X6_lay_13 rfl rfl ?_
    refine tw_aload_n 1 d_X6_lay_14 rfl rfl ?_
    refine tw_aload_n 2 d_X6_lay_15 rfl rfl ?_
    refine tu_cVv (As := [.ref (G.b + o1), .ref (G.b + o2)]) cv_X6_42 hL s_128 rfl (Nat.le_of_ble_eq_true rfl) ⟨Nat.zero_le _, Nat.zero_le _⟩ d_X6_lay_16 h (fun M2 h => ?_)
    have hL_M2 : Lay c M2 := hL.to h.1
    replace h := h.2
    exact tw_vret rfl ⟨Nat.zero_le _, Nat.zero_le _⟩ d_X6_lay_19 h
  · replace h := h.2 z1
    refine tw_iload_n 3 d_X6_lay_8 rfl rfl ?_
    refine tw_iconst d_X6_lay_9 k_4 ?_
    refine tw_icmp_lt 20 d_X6_lay_10 (by decide) (fun z3 => ?_) (fun z3 => ?_)
    · replace h := h.1 z3
      refine tw_iconst d_X6_lay_20 k_0 ?_
      refine tw_istore [(4, .int 0), (0, .ref (G.b + 128)), (1, .ref (G.b + o1)), (2, .ref (G.b + o2)), (3, .int x3)] d_X6_lay_21 (Nat.le_of_ble_eq_true rfl) rfl ?_
      exact tw_lv [1, 2, 3, 4, 0] rfl h
    · replace h := h.2 z3
      refine tw_aload_n 0 d_X6_lay_13 rfl rfl ?_
      refine tw_aload_n 1 d_X6_lay_14 rfl rfl ?_
      refine tw_aload_n 2 d_X6_lay_15 rfl rfl ?_
      refine tu_cVv (As := [.ref (G.b + o1), .ref (G.b + o2)]) cv_X6_42 hL s_128 rfl (Nat.le_of_ble_eq_true rfl) ⟨Nat.zero_le _, Nat.zero_le _⟩ d_X6_lay_16 h (fun M4 h => ?_)
      have hL_M4 : Lay c M4 := hL.to h.1
      replace h := h.2
      exact tw_vret rfl ⟨Nat.zero_le _, Nat.zero_le _⟩ d_X6_lay_19 h

theorem d_X6_isLaid_0 : decode Y_X6_isLaid.cc 0 = .ok (.iconst 0, 1) := by decide +kernel
theorem d_X6_isLaid_1 : decode Y_X6_isLaid.cc 1 = .ok (.istore_n 3, 1) := by decide +kernel
theorem d_X6_isLaid_2 : decode Y_X6_isLaid.cc 2 = .ok (.iload_n 3, 1) := by decide +kernel
theorem d_X6_isLaid_3 : decode Y_X6_isLaid.cc 3 = .ok (.iload_n 2, 1) := by decide +kernel
theorem d_X6_isLaid_4 : decode Y_X6_isLaid.cc 4 = .ok (.if_icmp .ge 21, 3) := by decide +kernel
theorem d_X6_isLaid_7 : decode Y_X6_isLaid.cc 7 = .ok (.aload_n 0, 1) := by decide +kernel
theorem d_X6_isLaid_8 : decode Y_X6_isLaid.cc 8 = .ok (.getfield 22, 3) := by decide +kernel
theorem d_X6_isLaid_11 : decode Y_X6_isLaid.cc 11 = .ok (.iload_n 3, 1) := by decide +kernel
theorem d_X6_isLaid_12 : decode Y_X6_isLaid.cc 12 = .ok (.iaload, 1) := by decide +kernel
theorem d_X6_isLaid_13 : decode Y_X6_isLaid.cc 13 = .ok (.iload_n 1, 1) := by decide +kernel
theorem d_X6_isLaid_14 : decode Y_X6_isLaid.cc 14 = .ok (.if_icmp .ne 5, 3) := by decide +kernel
theorem d_X6_isLaid_17 : decode Y_X6_isLaid.cc 17 = .ok (.iconst 1, 1) := by decide +kernel
theorem d_X6_isLaid_18 : decode Y_X6_isLaid.cc 18 = .ok (.ireturn, 1) := by decide +kernel
theorem d_X6_isLaid_19 : decode Y_X6_isLaid.cc 19 = .ok (.iinc 3 1, 3) := by decide +kernel
theorem d_X6_isLaid_22 : decode Y_X6_isLaid.cc 22 = .ok (.goto (-20), 3) := by decide +kernel
theorem d_X6_isLaid_25 : decode Y_X6_isLaid.cc 25 = .ok (.iconst 0, 1) := by decide +kernel
theorem d_X6_isLaid_26 : decode Y_X6_isLaid.cc 26 = .ok (.ireturn, 1) := by decide +kernel
def L_X6_isLaid_2 (G : MG) (d : Nat) (Q : Int32 → Mm → Prop) (x1 : Int32) (x2 : Int32) (x3 : Int32) (M : Mm) : Prop := T G Y_X6_isLaid (d + 1) (Ri Q) 0 0 2 [(0, .ref (G.b + 128)), (1, .int x1), (2, .int x2), (3, .int x3)] [] M
theorem b_X6_isLaid_2 {G : MG} {d : Nat} {Q : Int32 → Mm → Prop} {x1 : Int32} {x2 : Int32} {x3 : Int32} {M : Mm} {c : Nat} (hL : Lay c M)  (h : ((x2 ≤ x3 → Q 0 M) ∧ (¬ x2 ≤ x3 → (vp_in x3 4 ∧ ((¬ (M.1 131 x3.toNatClampNeg) = x1 → L_X6_isLaid_2 G d Q x1 x2 (x3 + 1) M) ∧ ((M.1 131 x3.toNatClampNeg) = x1 → Q 1 M)))))) : L_X6_isLaid_2 G d Q x1 x2 x3 M := by
  unfold L_X6_isLaid_2
  refine tw_iload_n 3 d_X6_isLaid_2 rfl rfl ?_
  refine tw_iload_n 2 d_X6_isLaid_3 rfl rfl ?_
  refine tw_icmp_ge 25 d_X6_isLaid_4 (by decide) (fun z1 => ?_) (fun z1 => ?_)
  · replace h := h.1 z1
    refine tw_iconst d_X6_isLaid_25 k_0 ?_
    exact tw_zret (ty := .boolean) rfl rfl ⟨Nat.zero_le _, Nat.zero_le _⟩ d_X6_isLaid_26 h
  · replace h := h.2 z1
    refine tw_aload_n 0 d_X6_isLaid_7 rfl rfl ?_
    refine tw_getR f_X6_22 hL s_128 ⟨rfl, rfl⟩ (rr_X6_2 s_128) d_X6_isLaid_8 ?_
    refine tw_iload_n 3 d_X6_isLaid_11 rfl rfl ?_
    refine tw_iald hL s_131 d_X6_isLaid_12 h.1 ?_
    replace h := h.2
    refine tw_iload_n 1 d_X6_isLaid_13 rfl rfl ?_
    refine tw_icmp_ne 19 d_X6_isLaid_14 (by decide) (fun z2 => ?_) (fun z2 => ?_)
    · replace h := h.1 z2
      refine tw_iinc 3 [(3, .int (x3 + 1)), (0, .ref (G.b + 128)), (1, .int x1), (2, .int x2)] d_X6_isLaid_19 rfl rfl (Nat.le_of_ble_eq_true rfl) rfl ?_
      refine tw_goto 2 d_X6_isLaid_22 (by decide) ?_
      exact tw_lv [1, 2, 3, 0] rfl h
    · replace h := h.2 z2
      refine tw_iconst d_X6_isLaid_17 k_1 ?_
      exact tw_zret (ty := .boolean) rfl rfl ⟨Nat.zero_le _, Nat.zero_le _⟩ d_X6_isLaid_18 h
theorem b_X6_isLaid {G : MG} {d : Nat} {Q : Int32 → Mm → Prop} {x1 : Int32} {x2 : Int32} {M : Mm} {c : Nat} (hL : Lay c M)  (h : L_X6_isLaid_2 G d Q x1 x2 0 M) : C G Y_X6_isLaid (d + 1) [.ref (G.b + 128), .int x1, .int x2] M (Ri Q) := by
  refine C.of (by decide) (Nat.le_of_ble_eq_true rfl) (lv := [(0, .ref (G.b + 128)), (1, .int x1), (2, .int x2)]) rfl ?_
  refine tw_iconst d_X6_isLaid_0 k_0 ?_
  refine tw_istore_n [(3, .int 0), (0, .ref (G.b + 128)), (1, .int x1), (2, .int x2)] d_X6_isLaid_1 rfl (Nat.le_of_ble_eq_true rfl) rfl ?_
  exact tw_lv [1, 2, 3, 0] rfl h

theorem d_X6_compare_0 : decode Y_X6_compare.cc 0 = .ok (.aload_n 0, 1) := by decide +kernel
theorem d_X6_compare_1 : decode Y_X6_compare.cc 1 = .ok (.getfield 25, 3) := by decide +kernel
theorem d_X6_compare_4 : decode Y_X6_compare.cc 4 = .ok (.aload_n 1, 1) := by decide +kernel
theorem d_X6_compare_5 : decode Y_X6_compare.cc 5 = .ok (.aload_n 2, 1) := by decide +kernel
theorem d_X6_compare_6 : decode Y_X6_compare.cc 6 = .ok (.aload_n 0, 1) := by decide +kernel
theorem d_X6_compare_7 : decode Y_X6_compare.cc 7 = .ok (.getfield 22, 3) := by decide +kernel
theorem d_X6_compare_10 : decode Y_X6_compare.cc 10 = .ok (.invokevirtual 59, 3) := by decide +kernel
theorem d_X6_compare_13 : decode Y_X6_compare.cc 13 = .ok (.aload_n 0, 1) := by decide +kernel
theorem d_X6_compare_14 : decode Y_X6_compare.cc 14 = .ok (.getfield 28, 3) := by decide +kernel
theorem d_X6_compare_17 : decode Y_X6_compare.cc 17 = .ok (.ifCond .eq 17, 3) := by decide +kernel
theorem d_X6_compare_20 : decode Y_X6_compare.cc 20 = .ok (.aload_n 0, 1) := by decide +kernel
theorem d_X6_compare_21 : decode Y_X6_compare.cc 21 = .ok (.getfield 25, 3) := by decide +kernel
theorem d_X6_compare_24 : decode Y_X6_compare.cc 24 = .ok (.aload_n 0, 1) := by decide +kernel
theorem d_X6_compare_25 : decode Y_X6_compare.cc 25 = .ok (.getfield 18, 3) := by decide +kernel
theorem d_X6_compare_28 : decode Y_X6_compare.cc 28 = .ok (.invokevirtual 63, 3) := by decide +kernel
theorem d_X6_compare_31 : decode Y_X6_compare.cc 31 = .ok (.ifCond .eq 44, 3) := by decide +kernel
theorem d_X6_compare_34 : decode Y_X6_compare.cc 34 = .ok (.aload_n 0, 1) := by decide +kernel
theorem d_X6_compare_35 : decode Y_X6_compare.cc 35 = .ok (.iconst 1, 1) := by decide +kernel
theorem d_X6_compare_36 : decode Y_X6_compare.cc 36 = .ok (.putfield 28, 3) := by decide +kernel
theorem d_X6_compare_39 : decode Y_X6_compare.cc 39 = .ok (.aload_n 0, 1) := by decide +kernel
theorem d_X6_compare_40 : decode Y_X6_compare.cc 40 = .ok (.getfield 18, 3) := by decide +kernel
theorem d_X6_compare_43 : decode Y_X6_compare.cc 43 = .ok (.aload_n 0, 1) := by decide +kernel
theorem d_X6_compare_44 : decode Y_X6_compare.cc 44 = .ok (.getfield 25, 3) := by decide +kernel
theorem d_X6_compare_47 : decode Y_X6_compare.cc 47 = .ok (.invokevirtual 67, 3) := by decide +kernel
theorem d_X6_compare_50 : decode Y_X6_compare.cc 50 = .ok (.iconst 0, 1) := by decide +kernel
theorem d_X6_compare_51 : decode Y_X6_compare.cc 51 = .ok (.istore_n 3, 1) := by decide +kernel
theorem d_X6_compare_52 : decode Y_X6_compare.cc 52 = .ok (.iload_n 3, 1) := by decide +kernel
theorem d_X6_compare_53 : decode Y_X6_compare.cc 53 = .ok (.iconst 4, 1) := by decide +kernel
theorem d_X6_compare_54 : decode Y_X6_compare.cc 54 = .ok (.if_icmp .ge 21, 3) := by decide +kernel
theorem d_X6_compare_57 : decode Y_X6_compare.cc 57 = .ok (.aload_n 0, 1) := by decide +kernel
theorem d_X6_compare_58 : decode Y_X6_compare.cc 58 = .ok (.getfield 9, 3) := by decide +kernel
theorem d_X6_compare_61 : decode Y_X6_compare.cc 61 = .ok (.iload_n 3, 1) := by decide +kernel
theorem d_X6_compare_62 : decode Y_X6_compare.cc 62 = .ok (.aload_n 0, 1) := by decide +kernel
theorem d_X6_compare_63 : decode Y_X6_compare.cc 63 = .ok (.getfield 22, 3) := by decide +kernel
theorem d_X6_compare_66 : decode Y_X6_compare.cc 66 = .ok (.iload_n 3, 1) := by decide +kernel
theorem d_X6_compare_67 : decode Y_X6_compare.cc 67 = .ok (.iaload, 1) := by decide +kernel
theorem d_X6_compare_68 : decode Y_X6_compare.cc 68 = .ok (.iastore, 1) := by decide +kernel
theorem d_X6_compare_69 : decode Y_X6_compare.cc 69 = .ok (.iinc 3 1, 3) := by decide +kernel
theorem d_X6_compare_72 : decode Y_X6_compare.cc 72 = .ok (.goto (-20), 3) := by decide +kernel
theorem d_X6_compare_75 : decode Y_X6_compare.cc 75 = .ok (.return_, 1) := by decide +kernel
def L_X6_compare_52 (G : MG) (d : Nat) (Q : Mm → Prop) (x3 : Int32) (M : Mm) : Prop := T G Y_X6_compare (d + 1) (Rv Q) 0 0 52 [(0, .ref (G.b + 128)), (3, .int x3)] [] M
theorem b_X6_compare_52 {G : MG} {d : Nat} {Q : Mm → Prop} {x3 : Int32} {M : Mm} {c : Nat} (hL : Lay c M)  (h : ((4 ≤ x3 → Q M) ∧ (¬ 4 ≤ x3 → (vp_in x3 4 ∧ (vp_in x3 4 ∧ ∀ M2 : Mm, M2 = sI M 129 x3.toNatClampNeg (M.1 131 x3.toNatClampNeg) → L_X6_compare_52 G d Q (x3 + 1) M2))))) : L_X6_compare_52 G d Q x3 M := by
  unfold L_X6_compare_52
  refine tw_iload_n 1 d_X6_compare_52 rfl rfl ?_
  refine tw_iconst d_X6_compare_53 k_4 ?_
  refine tw_icmp_ge 75 d_X6_compare_54 (by decide) (fun z1 => ?_) (fun z1 => ?_)
  · replace h := h.1 z1
    exact tw_vret rfl ⟨Nat.zero_le _, Nat.zero_le _⟩ d_X6_compare_75 h
  · replace h := h.2 z1
    refine tw_aload_n 0 d_X6_compare_57 rfl rfl ?_
    refine tw_getR f_X6_9 hL s_128 ⟨rfl, rfl⟩ (rr_X6_0 s_128) d_X6_compare_58 ?_
    refine tw_iload_n 1 d_X6_compare_61 rfl rfl ?_
    refine tw_aload_n 0 d_X6_compare_62 rfl rfl ?_
    refine tw_getR f_X6_22 hL s_128 ⟨rfl, rfl⟩ (rr_X6_2 s_128) d_X6_compare_63 ?_
    refine tw_iload_n 1 d_X6_compare_66 rfl rfl ?_
    refine tw_iald hL s_131 d_X6_compare_67 h.1 ?_
    replace h := h.2
    refine tu_iast hL s_129 d_X6_compare_68 h.1 (fun M2 e_M2 hL_M2 => ?_)
    replace h := h.2 M2 e_M2
    refine tw_iinc 1 [(3, .int (x3 + 1)), (0, .ref (G.b + 128))] d_X6_compare_69 rfl rfl (Nat.le_of_ble_eq_true rfl) rfl ?_
    refine tw_goto 52 d_X6_compare_72 (by decide) ?_
    exact tw_lv [1, 0] rfl h
theorem b_X6_compare {G : MG} {d : Nat} {Q : Mm → Prop} {o1 : Nat} {o2 : Nat} {M : Mm} {c : Nat} (hL : Lay c M) (ho1 : sh o1 = some (.inr 5)) (ho2 : sh o2 = some (.inr 7)) (h : (C G Y_X8_sum d [.ref (G.b + 132), .ref (G.b + o1), .ref (G.b + o2), .ref (G.b + 131)] M (Rv fun M1 => M1.2.2 = M.2.2 ∧ (((M1.1 128 4) = 0 → (∀ M3 : Mm, M3 = sI M1 128 4 1 → (C G Y_X8_copyFrom d [.ref (G.b + 130), .ref (G.b + 132)] M3 (Rv fun M4 => M4.2.2 = M3.2.2 ∧ L_X6_compare_52 G d Q 0 M4)))) ∧ (¬ (M1.1 128 4) = 0 → (C G Y_X8_isLessThan d [.ref (G.b + 132), .ref (G.b + 130)] M1 (Ri fun r6 M5 => M5.2.2 = M1.2.2 ∧ ((r6 = 0 → Q M5) ∧ (¬ r6 = 0 → (∀ M8 : Mm, M8 = sI M5 128 4 1 → (C G Y_X8_copyFrom d [.ref (G.b + 130), .ref (G.b + 132)] M8 (Rv fun M9 => M9.2.2 = M8.2.2 ∧ L_X6_compare_52 G d Q 0 M9)))))))))))) : C G Y_X6_compare (d + 1) [.ref (G.b + 128), .ref (G.b + o1), .ref (G.b + o2)] M (Rv Q) := by
  refine C.of (by decide) (Nat.le_of_ble_eq_true rfl) (lv := [(0, .ref (G.b + 128)), (1, .ref (G.b + o1)), (2, .ref (G.b + o2))]) rfl ?_
  refine tw_aload_n 0 d_X6_compare_0 rfl rfl ?_
  refine tw_getR f_X6_25 hL s_128 ⟨rfl, rfl⟩ (rr_X6_3 s_128) d_X6_compare_1 ?_
  refine tw_aload_n 1 d_X6_compare_4 rfl rfl ?_
  refine tw_aload_n 2 d_X6_compare_5 rfl rfl ?_
  refine tw_aload_n 0 d_X6_compare_6 rfl rfl ?_
  refine tw_getR f_X6_22 hL s_128 ⟨rfl, rfl⟩ (rr_X6_2 s_128) d_X6_compare_7 ?_
  refine tu_cVv (As := [.ref (G.b + o1), .ref (G.b + o2), .ref (G.b + 131)]) cv_X6_59 hL s_132 rfl (Nat.le_of_ble_eq_true rfl) ⟨Nat.zero_le _, Nat.zero_le _⟩ d_X6_compare_10 h (fun M1 h => ?_)
  have hL_M1 : Lay c M1 := hL.to h.1
  replace h := h.2
  refine tw_aload_n 0 d_X6_compare_13 rfl rfl ?_
  refine tw_getI f_X6_28 hL_M1 s_128 (Or.inr rfl) d_X6_compare_14 ?_
  refine tw_if_eq 34 d_X6_compare_17 (by decide) (fun z2 => ?_) (fun z2 => ?_)
  · replace h := h.1 z2
    refine tw_aload_n 0 d_X6_compare_34 rfl rfl ?_
    refine tw_iconst d_X6_compare_35 k_1 ?_
    refine tu_putZ f_X6_28 hL_M1 s_128 rfl rfl (by decide) d_X6_compare_36 (fun M3 e_M3 hL_M3 => ?_)
    replace h := h M3 e_M3
    refine tw_aload_n 0 d_X6_compare_39 rfl rfl ?_
    refine tw_getR f_X6_18 hL_M3 s_128 ⟨rfl, rfl⟩ (rr_X6_1 s_128) d_X6_compare_40 ?_
    refine tw_aload_n 0 d_X6_compare_43 rfl rfl ?_
    refine tw_getR f_X6_25 hL_M3 s_128 ⟨rfl, rfl⟩ (rr_X6_3 s_128) d_X6_compare_44 ?_
    refine tu_cVv (As := [.ref (G.b + 132)]) cv_X6_67 hL_M3 s_130 rfl (Nat.le_of_ble_eq_true rfl) ⟨Nat.zero_le _, Nat.zero_le _⟩ d_X6_compare_47 h (fun M4 h => ?_)
    have hL_M4 : Lay c M4 := hL_M3.to h.1
    replace h := h.2
    refine tw_iconst d_X6_compare_50 k_0 ?_
    refine tw_istore_n [(3, .int 0), (0, .ref (G.b + 128)), (1, .ref (G.b + o1)), (2, .ref (G.b + o2))] d_X6_compare_51 rfl (Nat.le_of_ble_eq_true rfl) rfl ?_
    exact tw_lv [1, 0] rfl h
  · replace h := h.2 z2
    refine tw_aload_n 0 d_X6_compare_20 rfl rfl ?_
    refine tw_getR f_X6_25 hL_M1 s_128 ⟨rfl, rfl⟩ (rr_X6_3 s_128) d_X6_compare_21 ?_
    refine tw_aload_n 0 d_X6_compare_24 rfl rfl ?_
    refine tw_getR f_X6_18 hL_M1 s_128 ⟨rfl, rfl⟩ (rr_X6_1 s_128) d_X6_compare_25 ?_
    refine tu_cVi (As := [.ref (G.b + 130)]) cv_X6_63 hL_M1 s_132 rfl (Nat.le_of_ble_eq_true rfl) ⟨Nat.zero_le _, Nat.zero_le _⟩ d_X6_compare_28 h (fun r6 M5 h => ?_)
    have hL_M5 : Lay c M5 := hL_M1.to h.1
    replace h := h.2
    refine tw_if_eq 75 d_X6_compare_31 (by decide) (fun z7 => ?_) (fun z7 => ?_)
    · replace h := h.1 z7
      exact tw_vret rfl ⟨Nat.zero_le _, Nat.zero_le _⟩ d_X6_compare_75 h
    · replace h := h.2 z7
      refine tw_aload_n 0 d_X6_compare_34 rfl rfl ?_
      refine tw_iconst d_X6_compare_35 k_1 ?_
      refine tu_putZ f_X6_28 hL_M5 s_128 rfl rfl (by decide) d_X6_compare_36 (fun M8 e_M8 hL_M8 => ?_)
      replace h := h M8 e_M8
      refine tw_aload_n 0 d_X6_compare_39 rfl rfl ?_
      refine tw_getR f_X6_18 hL_M8 s_128 ⟨rfl, rfl⟩ (rr_X6_1 s_128) d_X6_compare_40 ?_
      refine tw_aload_n 0 d_X6_compare_43 rfl rfl ?_
      refine tw_getR f_X6_25 hL_M8 s_128 ⟨rfl, rfl⟩ (rr_X6_3 s_128) d_X6_compare_44 ?_
      refine tu_cVv (As := [.ref (G.b + 132)]) cv_X6_67 hL_M8 s_130 rfl (Nat.le_of_ble_eq_true rfl) ⟨Nat.zero_le _, Nat.zero_le _⟩ d_X6_compare_47 h (fun M9 h => ?_)
      have hL_M9 : Lay c M9 := hL_M8.to h.1
      replace h := h.2
      refine tw_iconst d_X6_compare_50 k_0 ?_
      refine tw_istore_n [(3, .int 0), (0, .ref (G.b + 128)), (1, .ref (G.b + o1)), (2, .ref (G.b + o2))] d_X6_compare_51 rfl (Nat.le_of_ble_eq_true rfl) rfl ?_
      exact tw_lv [1, 0] rfl h

theorem d_X7_begin_0 : decode Y_X7_begin.cc 0 = .ok (.iconst 0, 1) := by decide +kernel
theorem d_X7_begin_1 : decode Y_X7_begin.cc 1 = .ok (.istore_n 2, 1) := by decide +kernel
theorem d_X7_begin_2 : decode Y_X7_begin.cc 2 = .ok (.iload_n 2, 1) := by decide +kernel
theorem d_X7_begin_3 : decode Y_X7_begin.cc 3 = .ok (.aload_n 1, 1) := by decide +kernel
theorem d_X7_begin_4 : decode Y_X7_begin.cc 4 = .ok (.getfield 39, 3) := by decide +kernel
theorem d_X7_begin_7 : decode Y_X7_begin.cc 7 = .ok (.if_icmp .ge 80, 3) := by decide +kernel
theorem d_X7_begin_10 : decode Y_X7_begin.cc 10 = .ok (.aload_n 1, 1) := by decide +kernel
theorem d_X7_begin_11 : decode Y_X7_begin.cc 11 = .ok (.getfield 45, 3) := by decide +kernel
theorem d_X7_begin_14 : decode Y_X7_begin.cc 14 = .ok (.iload_n 2, 1) := by decide +kernel
theorem d_X7_begin_15 : decode Y_X7_begin.cc 15 = .ok (.aaload, 1) := by decide +kernel
theorem d_X7_begin_16 : decode Y_X7_begin.cc 16 = .ok (.astore_n 3, 1) := by decide +kernel
theorem d_X7_begin_17 : decode Y_X7_begin.cc 17 = .ok (.aload_n 0, 1) := by decide +kernel
theorem d_X7_begin_18 : decode Y_X7_begin.cc 18 = .ok (.getfield 9, 3) := by decide +kernel
theorem d_X7_begin_21 : decode Y_X7_begin.cc 21 = .ok (.iload_n 2, 1) := by decide +kernel
theorem d_X7_begin_22 : decode Y_X7_begin.cc 22 = .ok (.aload_n 3, 1) := by decide +kernel
theorem d_X7_begin_23 : decode Y_X7_begin.cc 23 = .ok (.getfield 49, 3) := by decide +kernel
theorem d_X7_begin_26 : decode Y_X7_begin.cc 26 = .ok (.iconst 0, 1) := by decide +kernel
theorem d_X7_begin_27 : decode Y_X7_begin.cc 27 = .ok (.iaload, 1) := by decide +kernel
theorem d_X7_begin_28 : decode Y_X7_begin.cc 28 = .ok (.iastore, 1) := by decide +kernel
theorem d_X7_begin_29 : decode Y_X7_begin.cc 29 = .ok (.aload_n 0, 1) := by decide +kernel
theorem d_X7_begin_30 : decode Y_X7_begin.cc 30 = .ok (.getfield 15, 3) := by decide +kernel
theorem d_X7_begin_33 : decode Y_X7_begin.cc 33 = .ok (.iload_n 2, 1) := by decide +kernel
theorem d_X7_begin_34 : decode Y_X7_begin.cc 34 = .ok (.aload_n 3, 1) := by decide +kernel
theorem d_X7_begin_35 : decode Y_X7_begin.cc 35 = .ok (.getfield 49, 3) := by decide +kernel
theorem d_X7_begin_38 : decode Y_X7_begin.cc 38 = .ok (.iconst 1, 1) := by decide +kernel
theorem d_X7_begin_39 : decode Y_X7_begin.cc 39 = .ok (.iaload, 1) := by decide +kernel
theorem d_X7_begin_40 : decode Y_X7_begin.cc 40 = .ok (.iastore, 1) := by decide +kernel
theorem d_X7_begin_41 : decode Y_X7_begin.cc 41 = .ok (.aload_n 0, 1) := by decide +kernel
theorem d_X7_begin_42 : decode Y_X7_begin.cc 42 = .ok (.getfield 18, 3) := by decide +kernel
theorem d_X7_begin_45 : decode Y_X7_begin.cc 45 = .ok (.iload_n 2, 1) := by decide +kernel
theorem d_X7_begin_46 : decode Y_X7_begin.cc 46 = .ok (.aload_n 3, 1) := by decide +kernel
theorem d_X7_begin_47 : decode Y_X7_begin.cc 47 = .ok (.getfield 54, 3) := by decide +kernel
theorem d_X7_begin_50 : decode Y_X7_begin.cc 50 = .ok (.iastore, 1) := by decide +kernel
theorem d_X7_begin_51 : decode Y_X7_begin.cc 51 = .ok (.aload_n 0, 1) := by decide +kernel
theorem d_X7_begin_52 : decode Y_X7_begin.cc 52 = .ok (.getfield 21, 3) := by decide +kernel
theorem d_X7_begin_55 : decode Y_X7_begin.cc 55 = .ok (.iload_n 2, 1) := by decide +kernel
theorem d_X7_begin_56 : decode Y_X7_begin.cc 56 = .ok (.aload_n 3, 1) := by decide +kernel
theorem d_X7_begin_57 : decode Y_X7_begin.cc 57 = .ok (.getfield 56, 3) := by decide +kernel
theorem d_X7_begin_60 : decode Y_X7_begin.cc 60 = .ok (.iastore, 1) := by decide +kernel
theorem d_X7_begin_61 : decode Y_X7_begin.cc 61 = .ok (.aload_n 0, 1) := by decide +kernel
theorem d_X7_begin_62 : decode Y_X7_begin.cc 62 = .ok (.getfield 24, 3) := by decide +kernel
theorem d_X7_begin_65 : decode Y_X7_begin.cc 65 = .ok (.iload_n 2, 1) := by decide +kernel
theorem d_X7_begin_66 : decode Y_X7_begin.cc 66 = .ok (.aload_n 3, 1) := by decide +kernel
theorem d_X7_begin_67 : decode Y_X7_begin.cc 67 = .ok (.getfield 58, 3) := by decide +kernel
theorem d_X7_begin_70 : decode Y_X7_begin.cc 70 = .ok (.iastore, 1) := by decide +kernel
theorem d_X7_begin_71 : decode Y_X7_begin.cc 71 = .ok (.aload_n 0, 1) := by decide +kernel
theorem d_X7_begin_72 : decode Y_X7_begin.cc 72 = .ok (.getfield 27, 3) := by decide +kernel
theorem d_X7_begin_75 : decode Y_X7_begin.cc 75 = .ok (.iload_n 2, 1) := by decide +kernel
theorem d_X7_begin_76 : decode Y_X7_begin.cc 76 = .ok (.aload_n 3, 1) := by decide +kernel
theorem d_X7_begin_77 : decode Y_X7_begin.cc 77 = .ok (.getfield 60, 3) := by decide +kernel
theorem d_X7_begin_80 : decode Y_X7_begin.cc 80 = .ok (.iastore, 1) := by decide +kernel
theorem d_X7_begin_81 : decode Y_X7_begin.cc 81 = .ok (.iinc 2 1, 3) := by decide +kernel
theorem d_X7_begin_84 : decode Y_X7_begin.cc 84 = .ok (.goto (-82), 3) := by decide +kernel
theorem d_X7_begin_87 : decode Y_X7_begin.cc 87 = .ok (.aload_n 0, 1) := by decide +kernel
theorem d_X7_begin_88 : decode Y_X7_begin.cc 88 = .ok (.iconst 0, 1) := by decide +kernel
theorem d_X7_begin_89 : decode Y_X7_begin.cc 89 = .ok (.putfield 62, 3) := by decide +kernel
theorem d_X7_begin_92 : decode Y_X7_begin.cc 92 = .ok (.aload_n 0, 1) := by decide +kernel
theorem d_X7_begin_93 : decode Y_X7_begin.cc 93 = .ok (.iconst 0, 1) := by decide +kernel
theorem d_X7_begin_94 : decode Y_X7_begin.cc 94 = .ok (.putfield 65, 3) := by decide +kernel
theorem d_X7_begin_97 : decode Y_X7_begin.cc 97 = .ok (.return_, 1) := by decide +kernel
def L_X7_begin_2 (G : MG) (d : Nat) (Q : Mm → Prop) (o0 : Nat) (o1 : Nat) (x2 : Int32) (M : Mm) : Prop := T G Y_X7_begin (d + 1) (Rv Q) 0 0 2 [(0, .ref (G.b + o0)), (1, .ref (G.b + o1)), (2, .int x2)] [] M
theorem b_X7_begin_2 {G : MG} {d : Nat} {Q : Mm → Prop} {o0 : Nat} {o1 : Nat} {x2 : Int32} {M : Mm} {c : Nat} (hL : Lay c M) (ho0 : sh o0 = some (.inr 7)) (ho1 : sh o1 = some (.inr 5)) (h : (((M.1 o1 2) ≤ x2 → (∀ M2 : Mm, M2 = sI M o0 7 0 → (∀ M3 : Mm, M3 = sI M2 o0 10 0 → Q M3))) ∧ (¬ (M.1 o1 2) ≤ x2 → (vp_in x2 6 ∧ (vp_in x2 6 ∧ ∀ M5 : Mm, M5 = sI M (o0 + 1) x2.toNatClampNeg (M.1 (((o1 + 1) + 2 + 2 * x2.toNatClampNeg) + 1) (Int32.toNatClampNeg 0)) → (vp_in x2 6 ∧ ∀ M6 : Mm, M6 = sI M5 (o0 + 2) x2.toNatClampNeg (M5.1 (((o1 + 1) + 2 + 2 * x2.toNatClampNeg) + 1) (Int32.toNatClampNeg 1)) → (vp_in x2 6 ∧ ∀ M7 : Mm, M7 = sI M6 (o0 + 3) x2.toNatClampNeg (M6.1 ((o1 + 1) + 2 + 2 * x2.toNatClampNeg) 4) → (vp_in x2 6 ∧ ∀ M8 : Mm, M8 = sI M7 (o0 + 4) x2.toNatClampNeg (M7.1 ((o1 + 1) + 2 + 2 * x2.toNatClampNeg) 5) → (vp_in x2 6 ∧ ∀ M9 : Mm, M9 = sI M8 (o0 + 5) x2.toNatClampNeg (M8.1 ((o1 + 1) + 2 + 2 * x2.toNatClampNeg) 6) → (vp_in x2 6 ∧ ∀ M10 : Mm, M10 = sI M9 (o0 + 6) x2.toNatClampNeg (M9.1 ((o1 + 1) + 2 + 2 * x2.toNatClampNeg) 9) → L_X7_begin_2 G d Q o0 o1 (x2 + 1) M10)))))))))) : L_X7_begin_2 G d Q o0 o1 x2 M := by
  unfold L_X7_begin_2
  refine tw_iload_n 2 d_X7_begin_2 rfl rfl ?_
  refine tw_aload_n 1 d_X7_begin_3 rfl rfl ?_
  refine tw_getI f_X7_39 hL ho1 (Or.inl rfl) d_X7_begin_4 ?_
  refine tw_icmp_ge 87 d_X7_begin_7 (by decide) (fun z1 => ?_) (fun z1 => ?_)
  · replace h := h.1 z1
    refine tw_aload_n 0 d_X7_begin_87 rfl rfl ?_
    refine tw_iconst d_X7_begin_88 k_0 ?_
    refine tu_putI f_X7_62 hL ho0 rfl rfl d_X7_begin_89 (fun M2 e_M2 hL_M2 => ?_)
    replace h := h M2 e_M2
    refine tw_aload_n 0 d_X7_begin_92 rfl rfl ?_
    refine tw_iconst d_X7_begin_93 k_0 ?_
    refine tu_putI f_X7_65 hL_M2 ho0 rfl rfl d_X7_begin_94 (fun M3 e_M3 hL_M3 => ?_)
    replace h := h M3 e_M3
    exact tw_vret rfl ⟨Nat.zero_le _, Nat.zero_le _⟩ d_X7_begin_97 h
  · replace h := h.2 z1
    refine tw_aload_n 1 d_X7_begin_10 rfl rfl ?_
    refine tw_getR f_X7_45 hL ho1 ⟨rfl, rfl⟩ (rr_X5_0 ho1) d_X7_begin_11 ?_
    refine tw_iload_n 2 d_X7_begin_14 rfl rfl ?_
    have hin := h.1
    refine tw_aald hL (sr_X5_0 ho1) (by decide) (re_4 (sr_X5_0 ho1)) d_X7_begin_15 h.1 ?_
    have hs4 := se_4 (sr_X5_0 ho1) (vp_lt h.1)
    replace h := h.2
    refine tw_astore_n [(3, .ref (G.b + ((o1 + 1) + 2 + 2 * x2.toNatClampNeg))), (0, .ref (G.b + o0)), (1, .ref (G.b + o1)), (2, .int x2)] d_X7_begin_16 rfl (Nat.le_of_ble_eq_true rfl) rfl ?_
    refine tw_aload_n 1 d_X7_begin_17 rfl rfl ?_
    refine tw_getR f_X7_9 hL ho0 ⟨rfl, rfl⟩ (rr_X7_0 ho0) d_X7_begin_18 ?_
    refine tw_iload_n 3 d_X7_begin_21 rfl rfl ?_
    refine tw_aload_n 0 d_X7_begin_22 rfl rfl ?_
    refine tw_getR f_X7_49 hL hs4 ⟨rfl, rfl⟩ (rr_X1_2 hs4) d_X7_begin_23 ?_
    refine tw_iconst d_X7_begin_26 k_0 ?_
    refine tw_iald hL (sr_X1_2 hs4) d_X7_begin_27 (by unfold vp_in; decide) ?_
    refine tu_iast hL (sr_X7_0 ho0) d_X7_begin_28 h.1 (fun M5 e_M5 hL_M5 => ?_)
    replace h := h.2 M5 e_M5
    refine tw_aload_n 1 d_X7_begin_29 rfl rfl ?_
    refine tw_getR f_X7_15 hL_M5 ho0 ⟨rfl, rfl⟩ (rr_X7_1 ho0) d_X7_begin_30 ?_
    refine tw_iload_n 3 d_X7_begin_33 rfl rfl ?_
    refine tw_aload_n 0 d_X7_begin_34 rfl rfl ?_
    refine tw_getR f_X7_49 hL_M5 hs4 ⟨rfl, rfl⟩ (rr_X1_2 hs4) d_X7_begin_35 ?_
    refine tw_iconst d_X7_begin_38 k_1 ?_
    refine tw_iald hL_M5 (sr_X1_2 hs4) d_X7_begin_39 (by unfold vp_in; decide) ?_
    refine tu_iast hL_M5 (sr_X7_1 ho0) d_X7_begin_40 h.1 (fun M6 e_M6 hL_M6 => ?_)
    replace h := h.2 M6 e_M6
    refine tw_aload_n 1 d_X7_begin_41 rfl rfl ?_
    refine tw_getR f_X7_18 hL_M6 ho0 ⟨rfl, rfl⟩ (rr_X7_2 ho0) d_X7_begin_42 ?_
    refine tw_iload_n 3 d_X7_begin_45 rfl rfl ?_
    refine tw_aload_n 0 d_X7_begin_46 rfl rfl ?_
    refine tw_getI f_X7_54 hL_M6 hs4 (Or.inl rfl) d_X7_begin_47 ?_
    refine tu_iast hL_M6 (sr_X7_2 ho0) d_X7_begin_50 h.1 (fun M7 e_M7 hL_M7 => ?_)
    replace h := h.2 M7 e_M7
    refine tw_aload_n 1 d_X7_begin_51 rfl rfl ?_
    refine tw_getR f_X7_21 hL_M7 ho0 ⟨rfl, rfl⟩ (rr_X7_3 ho0) d_X7_begin_52 ?_
    refine tw_iload_n 3 d_X7_begin_55 rfl rfl ?_
    refine tw_aload_n 0 d_X7_begin_56 rfl rfl ?_
    refine tw_getI f_X7_56 hL_M7 hs4 (Or.inl rfl) d_X7_begin_57 ?_
    refine tu_iast hL_M7 (sr_X7_3 ho0) d_X7_begin_60 h.1 (fun M8 e_M8 hL_M8 => ?_)
    replace h := h.2 M8 e_M8
    refine tw_aload_n 1 d_X7_begin_61 rfl rfl ?_
    refine tw_getR f_X7_24 hL_M8 ho0 ⟨rfl, rfl⟩ (rr_X7_4 ho0) d_X7_begin_62 ?_
    refine tw_iload_n 3 d_X7_begin_65 rfl rfl ?_
    refine tw_aload_n 0 d_X7_begin_66 rfl rfl ?_
    refine tw_getI f_X7_58 hL_M8 hs4 (Or.inl rfl) d_X7_begin_67 ?_
    refine tu_iast hL_M8 (sr_X7_4 ho0) d_X7_begin_70 h.1 (fun M9 e_M9 hL_M9 => ?_)
    replace h := h.2 M9 e_M9
    refine tw_aload_n 1 d_X7_begin_71 rfl rfl ?_
    refine tw_getR f_X7_27 hL_M9 ho0 ⟨rfl, rfl⟩ (rr_X7_5 ho0) d_X7_begin_72 ?_
    refine tw_iload_n 3 d_X7_begin_75 rfl rfl ?_
    refine tw_aload_n 0 d_X7_begin_76 rfl rfl ?_
    refine tw_getI f_X7_60 hL_M9 hs4 (Or.inl rfl) d_X7_begin_77 ?_
    refine tu_iast hL_M9 (sr_X7_5 ho0) d_X7_begin_80 h.1 (fun M10 e_M10 hL_M10 => ?_)
    replace h := h.2 M10 e_M10
    refine tw_iinc 3 [(2, .int (x2 + 1)), (3, .ref (G.b + ((o1 + 1) + 2 + 2 * x2.toNatClampNeg))), (0, .ref (G.b + o0)), (1, .ref (G.b + o1))] d_X7_begin_81 rfl rfl (Nat.le_of_ble_eq_true rfl) rfl ?_
    refine tw_goto 2 d_X7_begin_84 (by decide) ?_
    exact tw_lv [2, 3, 0] rfl h
theorem b_X7_begin {G : MG} {d : Nat} {Q : Mm → Prop} {o0 : Nat} {o1 : Nat} {M : Mm} {c : Nat} (hL : Lay c M) (ho0 : sh o0 = some (.inr 7)) (ho1 : sh o1 = some (.inr 5)) (h : L_X7_begin_2 G d Q o0 o1 0 M) : C G Y_X7_begin (d + 1) [.ref (G.b + o0), .ref (G.b + o1)] M (Rv Q) := by
  refine C.of (by decide) (Nat.le_of_ble_eq_true rfl) (lv := [(0, .ref (G.b + o0)), (1, .ref (G.b + o1))]) rfl ?_
  refine tw_iconst d_X7_begin_0 k_0 ?_
  refine tw_istore_n [(2, .int 0), (0, .ref (G.b + o0)), (1, .ref (G.b + o1))] d_X7_begin_1 rfl (Nat.le_of_ble_eq_true rfl) rfl ?_
  exact tw_lv [1, 2, 0] rfl h

theorem d_X7_copyFrom_0 : decode Y_X7_copyFrom.cc 0 = .ok (.iconst 0, 1) := by decide +kernel
theorem d_X7_copyFrom_1 : decode Y_X7_copyFrom.cc 1 = .ok (.istore_n 2, 1) := by decide +kernel
theorem d_X7_copyFrom_2 : decode Y_X7_copyFrom.cc 2 = .ok (.iload_n 2, 1) := by decide +kernel
theorem d_X7_copyFrom_3 : decode Y_X7_copyFrom.cc 3 = .ok (.bipush 6, 2) := by decide +kernel
theorem d_X7_copyFrom_5 : decode Y_X7_copyFrom.cc 5 = .ok (.if_icmp .ge 81, 3) := by decide +kernel
theorem d_X7_copyFrom_8 : decode Y_X7_copyFrom.cc 8 = .ok (.aload_n 0, 1) := by decide +kernel
theorem d_X7_copyFrom_9 : decode Y_X7_copyFrom.cc 9 = .ok (.getfield 9, 3) := by decide +kernel
theorem d_X7_copyFrom_12 : decode Y_X7_copyFrom.cc 12 = .ok (.iload_n 2, 1) := by decide +kernel
theorem d_X7_copyFrom_13 : decode Y_X7_copyFrom.cc 13 = .ok (.aload_n 1, 1) := by decide +kernel
theorem d_X7_copyFrom_14 : decode Y_X7_copyFrom.cc 14 = .ok (.getfield 9, 3) := by decide +kernel
theorem d_X7_copyFrom_17 : decode Y_X7_copyFrom.cc 17 = .ok (.iload_n 2, 1) := by decide +kernel
theorem d_X7_copyFrom_18 : decode Y_X7_copyFrom.cc 18 = .ok (.iaload, 1) := by decide +kernel
theorem d_X7_copyFrom_19 : decode Y_X7_copyFrom.cc 19 = .ok (.iastore, 1) := by decide +kernel
theorem d_X7_copyFrom_20 : decode Y_X7_copyFrom.cc 20 = .ok (.aload_n 0, 1) := by decide +kernel
theorem d_X7_copyFrom_21 : decode Y_X7_copyFrom.cc 21 = .ok (.getfield 15, 3) := by decide +kernel
theorem d_X7_copyFrom_24 : decode Y_X7_copyFrom.cc 24 = .ok (.iload_n 2, 1) := by decide +kernel
theorem d_X7_copyFrom_25 : decode Y_X7_copyFrom.cc 25 = .ok (.aload_n 1, 1) := by decide +kernel
theorem d_X7_copyFrom_26 : decode Y_X7_copyFrom.cc 26 = .ok (.getfield 15, 3) := by decide +kernel
theorem d_X7_copyFrom_29 : decode Y_X7_copyFrom.cc 29 = .ok (.iload_n 2, 1) := by decide +kernel
theorem d_X7_copyFrom_30 : decode Y_X7_copyFrom.cc 30 = .ok (.iaload, 1) := by decide +kernel
theorem d_X7_copyFrom_31 : decode Y_X7_copyFrom.cc 31 = .ok (.iastore, 1) := by decide +kernel
theorem d_X7_copyFrom_32 : decode Y_X7_copyFrom.cc 32 = .ok (.aload_n 0, 1) := by decide +kernel
theorem d_X7_copyFrom_33 : decode Y_X7_copyFrom.cc 33 = .ok (.getfield 18, 3) := by decide +kernel
theorem d_X7_copyFrom_36 : decode Y_X7_copyFrom.cc 36 = .ok (.iload_n 2, 1) := by decide +kernel
theorem d_X7_copyFrom_37 : decode Y_X7_copyFrom.cc 37 = .ok (.aload_n 1, 1) := by decide +kernel
theorem d_X7_copyFrom_38 : decode Y_X7_copyFrom.cc 38 = .ok (.getfield 18, 3) := by decide +kernel
theorem d_X7_copyFrom_41 : decode Y_X7_copyFrom.cc 41 = .ok (.iload_n 2, 1) := by decide +kernel
theorem d_X7_copyFrom_42 : decode Y_X7_copyFrom.cc 42 = .ok (.iaload, 1) := by decide +kernel
theorem d_X7_copyFrom_43 : decode Y_X7_copyFrom.cc 43 = .ok (.iastore, 1) := by decide +kernel
theorem d_X7_copyFrom_44 : decode Y_X7_copyFrom.cc 44 = .ok (.aload_n 0, 1) := by decide +kernel
theorem d_X7_copyFrom_45 : decode Y_X7_copyFrom.cc 45 = .ok (.getfield 21, 3) := by decide +kernel
theorem d_X7_copyFrom_48 : decode Y_X7_copyFrom.cc 48 = .ok (.iload_n 2, 1) := by decide +kernel
theorem d_X7_copyFrom_49 : decode Y_X7_copyFrom.cc 49 = .ok (.aload_n 1, 1) := by decide +kernel
theorem d_X7_copyFrom_50 : decode Y_X7_copyFrom.cc 50 = .ok (.getfield 21, 3) := by decide +kernel
theorem d_X7_copyFrom_53 : decode Y_X7_copyFrom.cc 53 = .ok (.iload_n 2, 1) := by decide +kernel
theorem d_X7_copyFrom_54 : decode Y_X7_copyFrom.cc 54 = .ok (.iaload, 1) := by decide +kernel
theorem d_X7_copyFrom_55 : decode Y_X7_copyFrom.cc 55 = .ok (.iastore, 1) := by decide +kernel
theorem d_X7_copyFrom_56 : decode Y_X7_copyFrom.cc 56 = .ok (.aload_n 0, 1) := by decide +kernel
theorem d_X7_copyFrom_57 : decode Y_X7_copyFrom.cc 57 = .ok (.getfield 24, 3) := by decide +kernel
theorem d_X7_copyFrom_60 : decode Y_X7_copyFrom.cc 60 = .ok (.iload_n 2, 1) := by decide +kernel
theorem d_X7_copyFrom_61 : decode Y_X7_copyFrom.cc 61 = .ok (.aload_n 1, 1) := by decide +kernel
theorem d_X7_copyFrom_62 : decode Y_X7_copyFrom.cc 62 = .ok (.getfield 24, 3) := by decide +kernel
theorem d_X7_copyFrom_65 : decode Y_X7_copyFrom.cc 65 = .ok (.iload_n 2, 1) := by decide +kernel
theorem d_X7_copyFrom_66 : decode Y_X7_copyFrom.cc 66 = .ok (.iaload, 1) := by decide +kernel
theorem d_X7_copyFrom_67 : decode Y_X7_copyFrom.cc 67 = .ok (.iastore, 1) := by decide +kernel
theorem d_X7_copyFrom_68 : decode Y_X7_copyFrom.cc 68 = .ok (.aload_n 0, 1) := by decide +kernel
theorem d_X7_copyFrom_69 : decode Y_X7_copyFrom.cc 69 = .ok (.getfield 27, 3) := by decide +kernel
theorem d_X7_copyFrom_72 : decode Y_X7_copyFrom.cc 72 = .ok (.iload_n 2, 1) := by decide +kernel
theorem d_X7_copyFrom_73 : decode Y_X7_copyFrom.cc 73 = .ok (.aload_n 1, 1) := by decide +kernel
theorem d_X7_copyFrom_74 : decode Y_X7_copyFrom.cc 74 = .ok (.getfield 27, 3) := by decide +kernel
theorem d_X7_copyFrom_77 : decode Y_X7_copyFrom.cc 77 = .ok (.iload_n 2, 1) := by decide +kernel
theorem d_X7_copyFrom_78 : decode Y_X7_copyFrom.cc 78 = .ok (.iaload, 1) := by decide +kernel
theorem d_X7_copyFrom_79 : decode Y_X7_copyFrom.cc 79 = .ok (.iastore, 1) := by decide +kernel
theorem d_X7_copyFrom_80 : decode Y_X7_copyFrom.cc 80 = .ok (.iinc 2 1, 3) := by decide +kernel
theorem d_X7_copyFrom_83 : decode Y_X7_copyFrom.cc 83 = .ok (.goto (-81), 3) := by decide +kernel
theorem d_X7_copyFrom_86 : decode Y_X7_copyFrom.cc 86 = .ok (.iconst 0, 1) := by decide +kernel
theorem d_X7_copyFrom_87 : decode Y_X7_copyFrom.cc 87 = .ok (.istore_n 2, 1) := by decide +kernel
theorem d_X7_copyFrom_88 : decode Y_X7_copyFrom.cc 88 = .ok (.iload_n 2, 1) := by decide +kernel
theorem d_X7_copyFrom_89 : decode Y_X7_copyFrom.cc 89 = .ok (.iconst 4, 1) := by decide +kernel
theorem d_X7_copyFrom_90 : decode Y_X7_copyFrom.cc 90 = .ok (.if_icmp .ge 21, 3) := by decide +kernel
theorem d_X7_copyFrom_93 : decode Y_X7_copyFrom.cc 93 = .ok (.aload_n 0, 1) := by decide +kernel
theorem d_X7_copyFrom_94 : decode Y_X7_copyFrom.cc 94 = .ok (.getfield 30, 3) := by decide +kernel
theorem d_X7_copyFrom_97 : decode Y_X7_copyFrom.cc 97 = .ok (.iload_n 2, 1) := by decide +kernel
theorem d_X7_copyFrom_98 : decode Y_X7_copyFrom.cc 98 = .ok (.aload_n 1, 1) := by decide +kernel
theorem d_X7_copyFrom_99 : decode Y_X7_copyFrom.cc 99 = .ok (.getfield 30, 3) := by decide +kernel
theorem d_X7_copyFrom_102 : decode Y_X7_copyFrom.cc 102 = .ok (.iload_n 2, 1) := by decide +kernel
theorem d_X7_copyFrom_103 : decode Y_X7_copyFrom.cc 103 = .ok (.iaload, 1) := by decide +kernel
theorem d_X7_copyFrom_104 : decode Y_X7_copyFrom.cc 104 = .ok (.iastore, 1) := by decide +kernel
theorem d_X7_copyFrom_105 : decode Y_X7_copyFrom.cc 105 = .ok (.iinc 2 1, 3) := by decide +kernel
theorem d_X7_copyFrom_108 : decode Y_X7_copyFrom.cc 108 = .ok (.goto (-20), 3) := by decide +kernel
theorem d_X7_copyFrom_111 : decode Y_X7_copyFrom.cc 111 = .ok (.aload_n 0, 1) := by decide +kernel
theorem d_X7_copyFrom_112 : decode Y_X7_copyFrom.cc 112 = .ok (.aload_n 1, 1) := by decide +kernel
theorem d_X7_copyFrom_113 : decode Y_X7_copyFrom.cc 113 = .ok (.getfield 62, 3) := by decide +kernel
theorem d_X7_copyFrom_116 : decode Y_X7_copyFrom.cc 116 = .ok (.putfield 62, 3) := by decide +kernel
theorem d_X7_copyFrom_119 : decode Y_X7_copyFrom.cc 119 = .ok (.iconst 0, 1) := by decide +kernel
theorem d_X7_copyFrom_120 : decode Y_X7_copyFrom.cc 120 = .ok (.istore_n 2, 1) := by decide +kernel
theorem d_X7_copyFrom_121 : decode Y_X7_copyFrom.cc 121 = .ok (.iload_n 2, 1) := by decide +kernel
theorem d_X7_copyFrom_122 : decode Y_X7_copyFrom.cc 122 = .ok (.iconst 4, 1) := by decide +kernel
theorem d_X7_copyFrom_123 : decode Y_X7_copyFrom.cc 123 = .ok (.if_icmp .ge 33, 3) := by decide +kernel
theorem d_X7_copyFrom_126 : decode Y_X7_copyFrom.cc 126 = .ok (.aload_n 0, 1) := by decide +kernel
theorem d_X7_copyFrom_127 : decode Y_X7_copyFrom.cc 127 = .ok (.getfield 33, 3) := by decide +kernel
theorem d_X7_copyFrom_130 : decode Y_X7_copyFrom.cc 130 = .ok (.iload_n 2, 1) := by decide +kernel
theorem d_X7_copyFrom_131 : decode Y_X7_copyFrom.cc 131 = .ok (.aload_n 1, 1) := by decide +kernel
theorem d_X7_copyFrom_132 : decode Y_X7_copyFrom.cc 132 = .ok (.getfield 33, 3) := by decide +kernel
theorem d_X7_copyFrom_135 : decode Y_X7_copyFrom.cc 135 = .ok (.iload_n 2, 1) := by decide +kernel
theorem d_X7_copyFrom_136 : decode Y_X7_copyFrom.cc 136 = .ok (.iaload, 1) := by decide +kernel
theorem d_X7_copyFrom_137 : decode Y_X7_copyFrom.cc 137 = .ok (.iastore, 1) := by decide +kernel
theorem d_X7_copyFrom_138 : decode Y_X7_copyFrom.cc 138 = .ok (.aload_n 0, 1) := by decide +kernel
theorem d_X7_copyFrom_139 : decode Y_X7_copyFrom.cc 139 = .ok (.getfield 36, 3) := by decide +kernel
theorem d_X7_copyFrom_142 : decode Y_X7_copyFrom.cc 142 = .ok (.iload_n 2, 1) := by decide +kernel
theorem d_X7_copyFrom_143 : decode Y_X7_copyFrom.cc 143 = .ok (.aload_n 1, 1) := by decide +kernel
theorem d_X7_copyFrom_144 : decode Y_X7_copyFrom.cc 144 = .ok (.getfield 36, 3) := by decide +kernel
theorem d_X7_copyFrom_147 : decode Y_X7_copyFrom.cc 147 = .ok (.iload_n 2, 1) := by decide +kernel
theorem d_X7_copyFrom_148 : decode Y_X7_copyFrom.cc 148 = .ok (.iaload, 1) := by decide +kernel
theorem d_X7_copyFrom_149 : decode Y_X7_copyFrom.cc 149 = .ok (.iastore, 1) := by decide +kernel
theorem d_X7_copyFrom_150 : decode Y_X7_copyFrom.cc 150 = .ok (.iinc 2 1, 3) := by decide +kernel
theorem d_X7_copyFrom_153 : decode Y_X7_copyFrom.cc 153 = .ok (.goto (-32), 3) := by decide +kernel
theorem d_X7_copyFrom_156 : decode Y_X7_copyFrom.cc 156 = .ok (.aload_n 0, 1) := by decide +kernel
theorem d_X7_copyFrom_157 : decode Y_X7_copyFrom.cc 157 = .ok (.aload_n 1, 1) := by decide +kernel
theorem d_X7_copyFrom_158 : decode Y_X7_copyFrom.cc 158 = .ok (.getfield 65, 3) := by decide +kernel
theorem d_X7_copyFrom_161 : decode Y_X7_copyFrom.cc 161 = .ok (.putfield 65, 3) := by decide +kernel
theorem d_X7_copyFrom_164 : decode Y_X7_copyFrom.cc 164 = .ok (.return_, 1) := by decide +kernel
def L_X7_copyFrom_2 (G : MG) (d : Nat) (Q : Mm → Prop) (o0 : Nat) (o1 : Nat) (x2 : Int32) (M : Mm) : Prop := T G Y_X7_copyFrom (d + 1) (Rv Q) 0 0 2 [(0, .ref (G.b + o0)), (1, .ref (G.b + o1)), (2, .int x2)] [] M
def L_X7_copyFrom_88 (G : MG) (d : Nat) (Q : Mm → Prop) (o0 : Nat) (o1 : Nat) (x2 : Int32) (M : Mm) : Prop := T G Y_X7_copyFrom (d + 1) (Rv Q) 0 0 88 [(0, .ref (G.b + o0)), (1, .ref (G.b + o1)), (2, .int x2)] [] M
def L_X7_copyFrom_121 (G : MG) (d : Nat) (Q : Mm → Prop) (o0 : Nat) (o1 : Nat) (x2 : Int32) (M : Mm) : Prop := T G Y_X7_copyFrom (d + 1) (Rv Q) 0 0 121 [(0, .ref (G.b + o0)), (1, .ref (G.b + o1)), (2, .int x2)] [] M
theorem b_X7_copyFrom_2 {G : MG} {d : Nat} {Q : Mm → Prop} {o0 : Nat} {o1 : Nat} {x2 : Int32} {M : Mm} {c : Nat} (hL : Lay c M) (ho0 : sh o0 = some (.inr 7)) (ho1 : sh o1 = some (.inr 7)) (h : ((6 ≤ x2 → L_X7_copyFrom_88 G d Q o0 o1 0 M) ∧ (¬ 6 ≤ x2 → (vp_in x2 6 ∧ (vp_in x2 6 ∧ ∀ M2 : Mm, M2 = sI M (o0 + 1) x2.toNatClampNeg (M.1 (o1 + 1) x2.toNatClampNeg) → (vp_in x2 6 ∧ (vp_in x2 6 ∧ ∀ M3 : Mm, M3 = sI M2 (o0 + 2) x2.toNatClampNeg (M2.1 (o1 + 2) x2.toNatClampNeg) → (vp_in x2 6 ∧ (vp_in x2 6 ∧ ∀ M4 : Mm, M4 = sI M3 (o0 + 3) x2.toNatClampNeg (M3.1 (o1 + 3) x2.toNatClampNeg) → (vp_in x2 6 ∧ (vp_in x2 6 ∧ ∀ M5 : Mm, M5 = sI M4 (o0 + 4) x2.toNatClampNeg (M4.1 (o1 + 4) x2.toNatClampNeg) → (vp_in x2 6 ∧ (vp_in x2 6 ∧ ∀ M6 : Mm, M6 = sI M5 (o0 + 5) x2.toNatClampNeg (M5.1 (o1 + 5) x2.toNatClampNeg) → (vp_in x2 6 ∧ (vp_in x2 6 ∧ ∀ M7 : Mm, M7 = sI M6 (o0 + 6) x2.toNatClampNeg (M6.1 (o1 + 6) x2.toNatClampNeg) → L_X7_copyFrom_2 G d Q o0 o1 (x2 + 1) M7))))))))))))))) : L_X7_copyFrom_2 G d Q o0 o1 x2 M := by
  unfold L_X7_copyFrom_2
  refine tw_iload_n 2 d_X7_copyFrom_2 rfl rfl ?_
  refine tw_bipush d_X7_copyFrom_3 kb_6 ?_
  refine tw_icmp_ge 86 d_X7_copyFrom_5 (by decide) (fun z1 => ?_) (fun z1 => ?_)
  · replace h := h.1 z1
    refine tw_iconst d_X7_copyFrom_86 k_0 ?_
    refine tw_istore_n [(2, .int 0), (0, .ref (G.b + o0)), (1, .ref (G.b + o1))] d_X7_copyFrom_87 rfl (Nat.le_of_ble_eq_true rfl) rfl ?_
    exact tw_lv [1, 2, 0] rfl h
  · replace h := h.2 z1
    refine tw_aload_n 0 d_X7_copyFrom_8 rfl rfl ?_
    refine tw_getR f_X7_9 hL ho0 ⟨rfl, rfl⟩ (rr_X7_0 ho0) d_X7_copyFrom_9 ?_
    refine tw_iload_n 2 d_X7_copyFrom_12 rfl rfl ?_
    refine tw_aload_n 1 d_X7_copyFrom_13 rfl rfl ?_
    refine tw_getR f_X7_9 hL ho1 ⟨rfl, rfl⟩ (rr_X7_0 ho1) d_X7_copyFrom_14 ?_
    refine tw_iload_n 2 d_X7_copyFrom_17 rfl rfl ?_
    refine tw_iald hL (sr_X7_0 ho1) d_X7_copyFrom_18 h.1 ?_
    replace h := h.2
    refine tu_iast hL (sr_X7_0 ho0) d_X7_copyFrom_19 h.1 (fun M2 e_M2 hL_M2 => ?_)
    replace h := h.2 M2 e_M2
    refine tw_aload_n 0 d_X7_copyFrom_20 rfl rfl ?_
    refine tw_getR f_X7_15 hL_M2 ho0 ⟨rfl, rfl⟩ (rr_X7_1 ho0) d_X7_copyFrom_21 ?_
    refine tw_iload_n 2 d_X7_copyFrom_24 rfl rfl ?_
    refine tw_aload_n 1 d_X7_copyFrom_25 rfl rfl ?_
    refine tw_getR f_X7_15 hL_M2 ho1 ⟨rfl, rfl⟩ (rr_X7_1 ho1) d_X7_copyFrom_26 ?_
    refine tw_iload_n 2 d_X7_copyFrom_29 rfl rfl ?_
    refine tw_iald hL_M2 (sr_X7_1 ho1) d_X7_copyFrom_30 h.1 ?_
    replace h := h.2
    refine tu_iast hL_M2 (sr_X7_1 ho0) d_X7_copyFrom_31 h.1 (fun M3 e_M3 hL_M3 => ?_)
    replace h := h.2 M3 e_M3
    refine tw_aload_n 0 d_X7_copyFrom_32 rfl rfl ?_
    refine tw_getR f_X7_18 hL_M3 ho0 ⟨rfl, rfl⟩ (rr_X7_2 ho0) d_X7_copyFrom_33 ?_
    refine tw_iload_n 2 d_X7_copyFrom_36 rfl rfl ?_
    refine tw_aload_n 1 d_X7_copyFrom_37 rfl rfl ?_
    refine tw_getR f_X7_18 hL_M3 ho1 ⟨rfl, rfl⟩ (rr_X7_2 ho1) d_X7_copyFrom_38 ?_
    refine tw_iload_n 2 d_X7_copyFrom_41 rfl rfl ?_
    refine tw_iald hL_M3 (sr_X7_2 ho1) d_X7_copyFrom_42 h.1 ?_
    replace h := h.2
    refine tu_iast hL_M3 (sr_X7_2 ho0) d_X7_copyFrom_43 h.1 (fun M4 e_M4 hL_M4 => ?_)
    replace h := h.2 M4 e_M4
    refine tw_aload_n 0 d_X7_copyFrom_44 rfl rfl ?_
    refine tw_getR f_X7_21 hL_M4 ho0 ⟨rfl, rfl⟩ (rr_X7_3 ho0) d_X7_copyFrom_45 ?_
    refine tw_iload_n 2 d_X7_copyFrom_48 rfl rfl ?_
    refine tw_aload_n 1 d_X7_copyFrom_49 rfl rfl ?_
    refine tw_getR f_X7_21 hL_M4 ho1 ⟨rfl, rfl⟩ (rr_X7_3 ho1) d_X7_copyFrom_50 ?_
    refine tw_iload_n 2 d_X7_copyFrom_53 rfl rfl ?_
    refine tw_iald hL_M4 (sr_X7_3 ho1) d_X7_copyFrom_54 h.1 ?_
    replace h := h.2
    refine tu_iast hL_M4 (sr_X7_3 ho0) d_X7_copyFrom_55 h.1 (fun M5 e_M5 hL_M5 => ?_)
    replace h := h.2 M5 e_M5
    refine tw_aload_n 0 d_X7_copyFrom_56 rfl rfl ?_
    refine tw_getR f_X7_24 hL_M5 ho0 ⟨rfl, rfl⟩ (rr_X7_4 ho0) d_X7_copyFrom_57 ?_
    refine tw_iload_n 2 d_X7_copyFrom_60 rfl rfl ?_
    refine tw_aload_n 1 d_X7_copyFrom_61 rfl rfl ?_
    refine tw_getR f_X7_24 hL_M5 ho1 ⟨rfl, rfl⟩ (rr_X7_4 ho1) d_X7_copyFrom_62 ?_
    refine tw_iload_n 2 d_X7_copyFrom_65 rfl rfl ?_
    refine tw_iald hL_M5 (sr_X7_4 ho1) d_X7_copyFrom_66 h.1 ?_
    replace h := h.2
    refine tu_iast hL_M5 (sr_X7_4 ho0) d_X7_copyFrom_67 h.1 (fun M6 e_M6 hL_M6 => ?_)
    replace h := h.2 M6 e_M6
    refine tw_aload_n 0 d_X7_copyFrom_68 rfl rfl ?_
    refine tw_getR f_X7_27 hL_M6 ho0 ⟨rfl, rfl⟩ (rr_X7_5 ho0) d_X7_copyFrom_69 ?_
    refine tw_iload_n 2 d_X7_copyFrom_72 rfl rfl ?_
    refine tw_aload_n 1 d_X7_copyFrom_73 rfl rfl ?_
    refine tw_getR f_X7_27 hL_M6 ho1 ⟨rfl, rfl⟩ (rr_X7_5 ho1) d_X7_copyFrom_74 ?_
    refine tw_iload_n 2 d_X7_copyFrom_77 rfl rfl ?_
    refine tw_iald hL_M6 (sr_X7_5 ho1) d_X7_copyFrom_78 h.1 ?_
    replace h := h.2
    refine tu_iast hL_M6 (sr_X7_5 ho0) d_X7_copyFrom_79 h.1 (fun M7 e_M7 hL_M7 => ?_)
    replace h := h.2 M7 e_M7
    refine tw_iinc 2 [(2, .int (x2 + 1)), (0, .ref (G.b + o0)), (1, .ref (G.b + o1))] d_X7_copyFrom_80 rfl rfl (Nat.le_of_ble_eq_true rfl) rfl ?_
    refine tw_goto 2 d_X7_copyFrom_83 (by decide) ?_
    exact tw_lv [1, 2, 0] rfl h
theorem b_X7_copyFrom_88 {G : MG} {d : Nat} {Q : Mm → Prop} {o0 : Nat} {o1 : Nat} {x2 : Int32} {M : Mm} {c : Nat} (hL : Lay c M) (ho0 : sh o0 = some (.inr 7)) (ho1 : sh o1 = some (.inr 7)) (h : ((4 ≤ x2 → (∀ M2 : Mm, M2 = sI M o0 7 (M.1 o1 7) → L_X7_copyFrom_121 G d Q o0 o1 0 M2)) ∧ (¬ 4 ≤ x2 → (vp_in x2 4 ∧ (vp_in x2 4 ∧ ∀ M3 : Mm, M3 = sI M (o0 + 7) x2.toNatClampNeg (M.1 (o1 + 7) x2.toNatClampNeg) → L_X7_copyFrom_88 G d Q o0 o1 (x2 + 1) M3))))) : L_X7_copyFrom_88 G d Q o0 o1 x2 M := by
  unfold L_X7_copyFrom_88
  refine tw_iload_n 2 d_X7_copyFrom_88 rfl rfl ?_
  refine tw_iconst d_X7_copyFrom_89 k_4 ?_
  refine tw_icmp_ge 111 d_X7_copyFrom_90 (by decide) (fun z1 => ?_) (fun z1 => ?_)
  · replace h := h.1 z1
    refine tw_aload_n 0 d_X7_copyFrom_111 rfl rfl ?_
    refine tw_aload_n 1 d_X7_copyFrom_112 rfl rfl ?_
    refine tw_getI f_X7_62 hL ho1 (Or.inl rfl) d_X7_copyFrom_113 ?_
    refine tu_putI f_X7_62 hL ho0 rfl rfl d_X7_copyFrom_116 (fun M2 e_M2 hL_M2 => ?_)
    replace h := h M2 e_M2
    refine tw_iconst d_X7_copyFrom_119 k_0 ?_
    refine tw_istore_n [(2, .int 0), (0, .ref (G.b + o0)), (1, .ref (G.b + o1))] d_X7_copyFrom_120 rfl (Nat.le_of_ble_eq_true rfl) rfl ?_
    exact tw_lv [1, 2, 0] rfl h
  · replace h := h.2 z1
    refine tw_aload_n 0 d_X7_copyFrom_93 rfl rfl ?_
    refine tw_getR f_X7_30 hL ho0 ⟨rfl, rfl⟩ (rr_X7_6 ho0) d_X7_copyFrom_94 ?_
    refine tw_iload_n 2 d_X7_copyFrom_97 rfl rfl ?_
    refine tw_aload_n 1 d_X7_copyFrom_98 rfl rfl ?_
    refine tw_getR f_X7_30 hL ho1 ⟨rfl, rfl⟩ (rr_X7_6 ho1) d_X7_copyFrom_99 ?_
    refine tw_iload_n 2 d_X7_copyFrom_102 rfl rfl ?_
    refine tw_iald hL (sr_X7_6 ho1) d_X7_copyFrom_103 h.1 ?_
    replace h := h.2
    refine tu_iast hL (sr_X7_6 ho0) d_X7_copyFrom_104 h.1 (fun M3 e_M3 hL_M3 => ?_)
    replace h := h.2 M3 e_M3
    refine tw_iinc 2 [(2, .int (x2 + 1)), (0, .ref (G.b + o0)), (1, .ref (G.b + o1))] d_X7_copyFrom_105 rfl rfl (Nat.le_of_ble_eq_true rfl) rfl ?_
    refine tw_goto 88 d_X7_copyFrom_108 (by decide) ?_
    exact tw_lv [1, 2, 0] rfl h
theorem b_X7_copyFrom_121 {G : MG} {d : Nat} {Q : Mm → Prop} {o0 : Nat} {o1 : Nat} {x2 : Int32} {M : Mm} {c : Nat} (hL : Lay c M) (ho0 : sh o0 = some (.inr 7)) (ho1 : sh o1 = some (.inr 7)) (h : ((4 ≤ x2 → (∀ M2 : Mm, M2 = sI M o0 10 (M.1 o1 10) → Q M2)) ∧ (¬ 4 ≤ x2 → (vp_in x2 4 ∧ (vp_in x2 4 ∧ ∀ M3 : Mm, M3 = sI M (o0 + 8) x2.toNatClampNeg (M.1 (o1 + 8) x2.toNatClampNeg) → (vp_in x2 4 ∧ (vp_in x2 4 ∧ ∀ M4 : Mm, M4 = sI M3 (o0 + 9) x2.toNatClampNeg (M3.1 (o1 + 9) x2.toNatClampNeg) → L_X7_copyFrom_121 G d Q o0 o1 (x2 + 1) M4))))))) : L_X7_copyFrom_121 G d Q o0 o1 x2 M := by
  unfold L_X7_copyFrom_121
  refine tw_iload_n 2 d_X7_copyFrom_121 rfl rfl ?_
  refine tw_iconst d_X7_copyFrom_122 k_4 ?_
  refine tw_icmp_ge 156 d_X7_copyFrom_123 (by decide) (fun z1 => ?_) (fun z1 => ?_)
  · replace h := h.1 z1
    refine tw_aload_n 0 d_X7_copyFrom_156 rfl rfl ?_
    refine tw_aload_n 1 d_X7_copyFrom_157 rfl rfl ?_
    refine tw_getI f_X7_65 hL ho1 (Or.inl rfl) d_X7_copyFrom_158 ?_
    refine tu_putI f_X7_65 hL ho0 rfl rfl d_X7_copyFrom_161 (fun M2 e_M2 hL_M2 => ?_)
    replace h := h M2 e_M2
    exact tw_vret rfl ⟨Nat.zero_le _, Nat.zero_le _⟩ d_X7_copyFrom_164 h
  · replace h := h.2 z1
    refine tw_aload_n 0 d_X7_copyFrom_126 rfl rfl ?_
    refine tw_getR f_X7_33 hL ho0 ⟨rfl, rfl⟩ (rr_X7_8 ho0) d_X7_copyFrom_127 ?_
    refine tw_iload_n 2 d_X7_copyFrom_130 rfl rfl ?_
    refine tw_aload_n 1 d_X7_copyFrom_131 rfl rfl ?_
    refine tw_getR f_X7_33 hL ho1 ⟨rfl, rfl⟩ (rr_X7_8 ho1) d_X7_copyFrom_132 ?_
    refine tw_iload_n 2 d_X7_copyFrom_135 rfl rfl ?_
    refine tw_iald hL (sr_X7_8 ho1) d_X7_copyFrom_136 h.1 ?_
    replace h := h.2
    refine tu_iast hL (sr_X7_8 ho0) d_X7_copyFrom_137 h.1 (fun M3 e_M3 hL_M3 => ?_)
    replace h := h.2 M3 e_M3
    refine tw_aload_n 0 d_X7_copyFrom_138 rfl rfl ?_
    refine tw_getR f_X7_36 hL_M3 ho0 ⟨rfl, rfl⟩ (rr_X7_9 ho0) d_X7_copyFrom_139 ?_
    refine tw_iload_n 2 d_X7_copyFrom_142 rfl rfl ?_
    refine tw_aload_n 1 d_X7_copyFrom_143 rfl rfl ?_
    refine tw_getR f_X7_36 hL_M3 ho1 ⟨rfl, rfl⟩ (rr_X7_9 ho1) d_X7_copyFrom_144 ?_
    refine tw_iload_n 2 d_X7_copyFrom_147 rfl rfl ?_
    refine tw_iald hL_M3 (sr_X7_9 ho1) d_X7_copyFrom_148 h.1 ?_
    replace h := h.2
    refine tu_iast hL_M3 (sr_X7_9 ho0) d_X7_copyFrom_149 h.1 (fun M4 e_M4 hL_M4 => ?_)
    replace h := h.2 M4 e_M4
    refine tw_iinc 2 [(2, .int (x2 + 1)), (0, .ref (G.b + o0)), (1, .ref (G.b + o1))] d_X7_copyFrom_150 rfl rfl (Nat.le_of_ble_eq_true rfl) rfl ?_
    refine tw_goto 121 d_X7_copyFrom_153 (by decide) ?_
    exact tw_lv [1, 2, 0] rfl h
theorem b_X7_copyFrom {G : MG} {d : Nat} {Q : Mm → Prop} {o0 : Nat} {o1 : Nat} {M : Mm} {c : Nat} (hL : Lay c M) (ho0 : sh o0 = some (.inr 7)) (ho1 : sh o1 = some (.inr 7)) (h : L_X7_copyFrom_2 G d Q o0 o1 0 M) : C G Y_X7_copyFrom (d + 1) [.ref (G.b + o0), .ref (G.b + o1)] M (Rv Q) := by
  refine C.of (by decide) (Nat.le_of_ble_eq_true rfl) (lv := [(0, .ref (G.b + o0)), (1, .ref (G.b + o1))]) rfl ?_
  refine tw_iconst d_X7_copyFrom_0 k_0 ?_
  refine tw_istore_n [(2, .int 0), (0, .ref (G.b + o0)), (1, .ref (G.b + o1))] d_X7_copyFrom_1 rfl (Nat.le_of_ble_eq_true rfl) rfl ?_
  exact tw_lv [1, 2, 0] rfl h

theorem d_X7_hasChained_0 : decode Y_X7_hasChained.cc 0 = .ok (.iconst 0, 1) := by decide +kernel
theorem d_X7_hasChained_1 : decode Y_X7_hasChained.cc 1 = .ok (.istore_n 2, 1) := by decide +kernel
theorem d_X7_hasChained_2 : decode Y_X7_hasChained.cc 2 = .ok (.iload_n 2, 1) := by decide +kernel
theorem d_X7_hasChained_3 : decode Y_X7_hasChained.cc 3 = .ok (.aload_n 0, 1) := by decide +kernel
theorem d_X7_hasChained_4 : decode Y_X7_hasChained.cc 4 = .ok (.getfield 62, 3) := by decide +kernel
theorem d_X7_hasChained_7 : decode Y_X7_hasChained.cc 7 = .ok (.if_icmp .ge 21, 3) := by decide +kernel
theorem d_X7_hasChained_10 : decode Y_X7_hasChained.cc 10 = .ok (.aload_n 0, 1) := by decide +kernel
theorem d_X7_hasChained_11 : decode Y_X7_hasChained.cc 11 = .ok (.getfield 30, 3) := by decide +kernel
theorem d_X7_hasChained_14 : decode Y_X7_hasChained.cc 14 = .ok (.iload_n 2, 1) := by decide +kernel
theorem d_X7_hasChained_15 : decode Y_X7_hasChained.cc 15 = .ok (.iaload, 1) := by decide +kernel
theorem d_X7_hasChained_16 : decode Y_X7_hasChained.cc 16 = .ok (.iload_n 1, 1) := by decide +kernel
theorem d_X7_hasChained_17 : decode Y_X7_hasChained.cc 17 = .ok (.if_icmp .ne 5, 3) := by decide +kernel
theorem d_X7_hasChained_20 : decode Y_X7_hasChained.cc 20 = .ok (.iconst 1, 1) := by decide +kernel
theorem d_X7_hasChained_21 : decode Y_X7_hasChained.cc 21 = .ok (.ireturn, 1) := by decide +kernel
theorem d_X7_hasChained_22 : decode Y_X7_hasChained.cc 22 = .ok (.iinc 2 1, 3) := by decide +kernel
theorem d_X7_hasChained_25 : decode Y_X7_hasChained.cc 25 = .ok (.goto (-23), 3) := by decide +kernel
theorem d_X7_hasChained_28 : decode Y_X7_hasChained.cc 28 = .ok (.iconst 0, 1) := by decide +kernel
theorem d_X7_hasChained_29 : decode Y_X7_hasChained.cc 29 = .ok (.ireturn, 1) := by decide +kernel
def L_X7_hasChained_2 (G : MG) (d : Nat) (Q : Int32 → Mm → Prop) (o0 : Nat) (x1 : Int32) (x2 : Int32) (M : Mm) : Prop := T G Y_X7_hasChained (d + 1) (Ri Q) 0 0 2 [(0, .ref (G.b + o0)), (1, .int x1), (2, .int x2)] [] M
theorem b_X7_hasChained_2 {G : MG} {d : Nat} {Q : Int32 → Mm → Prop} {o0 : Nat} {x1 : Int32} {x2 : Int32} {M : Mm} {c : Nat} (hL : Lay c M) (ho0 : sh o0 = some (.inr 7)) (h : (((M.1 o0 7) ≤ x2 → Q 0 M) ∧ (¬ (M.1 o0 7) ≤ x2 → (vp_in x2 4 ∧ ((¬ (M.1 (o0 + 7) x2.toNatClampNeg) = x1 → L_X7_hasChained_2 G d Q o0 x1 (x2 + 1) M) ∧ ((M.1 (o0 + 7) x2.toNatClampNeg) = x1 → Q 1 M)))))) : L_X7_hasChained_2 G d Q o0 x1 x2 M := by
  unfold L_X7_hasChained_2
  refine tw_iload_n 2 d_X7_hasChained_2 rfl rfl ?_
  refine tw_aload_n 0 d_X7_hasChained_3 rfl rfl ?_
  refine tw_getI f_X7_62 hL ho0 (Or.inl rfl) d_X7_hasChained_4 ?_
  refine tw_icmp_ge 28 d_X7_hasChained_7 (by decide) (fun z1 => ?_) (fun z1 => ?_)
  · replace h := h.1 z1
    refine tw_iconst d_X7_hasChained_28 k_0 ?_
    exact tw_zret (ty := .boolean) rfl rfl ⟨Nat.zero_le _, Nat.zero_le _⟩ d_X7_hasChained_29 h
  · replace h := h.2 z1
    refine tw_aload_n 0 d_X7_hasChained_10 rfl rfl ?_
    refine tw_getR f_X7_30 hL ho0 ⟨rfl, rfl⟩ (rr_X7_6 ho0) d_X7_hasChained_11 ?_
    refine tw_iload_n 2 d_X7_hasChained_14 rfl rfl ?_
    refine tw_iald hL (sr_X7_6 ho0) d_X7_hasChained_15 h.1 ?_
    replace h := h.2
    refine tw_iload_n 1 d_X7_hasChained_16 rfl rfl ?_
    refine tw_icmp_ne 22 d_X7_hasChained_17 (by decide) (fun z2 => ?_) (fun z2 => ?_)
    · replace h := h.1 z2
      refine tw_iinc 2 [(2, .int (x2 + 1)), (0, .ref (G.b + o0)), (1, .int x1)] d_X7_hasChained_22 rfl rfl (Nat.le_of_ble_eq_true rfl) rfl ?_
      refine tw_goto 2 d_X7_hasChained_25 (by decide) ?_
      exact tw_lv [1, 2, 0] rfl h
    · replace h := h.2 z2
      refine tw_iconst d_X7_hasChained_20 k_1 ?_
      exact tw_zret (ty := .boolean) rfl rfl ⟨Nat.zero_le _, Nat.zero_le _⟩ d_X7_hasChained_21 h
theorem b_X7_hasChained {G : MG} {d : Nat} {Q : Int32 → Mm → Prop} {o0 : Nat} {x1 : Int32} {M : Mm} {c : Nat} (hL : Lay c M) (ho0 : sh o0 = some (.inr 7)) (h : L_X7_hasChained_2 G d Q o0 x1 0 M) : C G Y_X7_hasChained (d + 1) [.ref (G.b + o0), .int x1] M (Ri Q) := by
  refine C.of (by decide) (Nat.le_of_ble_eq_true rfl) (lv := [(0, .ref (G.b + o0)), (1, .int x1)]) rfl ?_
  refine tw_iconst d_X7_hasChained_0 k_0 ?_
  refine tw_istore_n [(2, .int 0), (0, .ref (G.b + o0)), (1, .int x1)] d_X7_hasChained_1 rfl (Nat.le_of_ble_eq_true rfl) rfl ?_
  exact tw_lv [1, 2, 0] rfl h

theorem d_X8_sum_0 : decode Y_X8_sum.cc 0 = .ok (.aload_n 0, 1) := by decide +kernel
theorem d_X8_sum_1 : decode Y_X8_sum.cc 1 = .ok (.lconst 0, 1) := by decide +kernel
theorem d_X8_sum_2 : decode Y_X8_sum.cc 2 = .ok (.putfield 7, 3) := by decide +kernel
theorem d_X8_sum_5 : decode Y_X8_sum.cc 5 = .ok (.aload_n 0, 1) := by decide +kernel
theorem d_X8_sum_6 : decode Y_X8_sum.cc 6 = .ok (.lconst 1, 1) := by decide +kernel
theorem d_X8_sum_7 : decode Y_X8_sum.cc 7 = .ok (.putfield 13, 3) := by decide +kernel
theorem d_X8_sum_10 : decode Y_X8_sum.cc 10 = .ok (.iconst 0, 1) := by decide +kernel
theorem d_X8_sum_11 : decode Y_X8_sum.cc 11 = .ok (.istore 4, 2) := by decide +kernel
theorem d_X8_sum_13 : decode Y_X8_sum.cc 13 = .ok (.iload 4, 2) := by decide +kernel
theorem d_X8_sum_15 : decode Y_X8_sum.cc 15 = .ok (.aload_n 2, 1) := by decide +kernel
theorem d_X8_sum_16 : decode Y_X8_sum.cc 16 = .ok (.getfield 16, 3) := by decide +kernel
theorem d_X8_sum_19 : decode Y_X8_sum.cc 19 = .ok (.if_icmp .ge 73, 3) := by decide +kernel
theorem d_X8_sum_22 : decode Y_X8_sum.cc 22 = .ok (.iload 4, 2) := by decide +kernel
theorem d_X8_sum_24 : decode Y_X8_sum.cc 24 = .ok (.aload_n 3, 1) := by decide +kernel
theorem d_X8_sum_25 : decode Y_X8_sum.cc 25 = .ok (.arraylength, 1) := by decide +kernel
theorem d_X8_sum_26 : decode Y_X8_sum.cc 26 = .ok (.if_icmp .ge 66, 3) := by decide +kernel
theorem d_X8_sum_29 : decode Y_X8_sum.cc 29 = .ok (.aload_n 3, 1) := by decide +kernel
theorem d_X8_sum_30 : decode Y_X8_sum.cc 30 = .ok (.iload 4, 2) := by decide +kernel
theorem d_X8_sum_32 : decode Y_X8_sum.cc 32 = .ok (.iaload, 1) := by decide +kernel
theorem d_X8_sum_33 : decode Y_X8_sum.cc 33 = .ok (.istore 5, 2) := by decide +kernel
theorem d_X8_sum_35 : decode Y_X8_sum.cc 35 = .ok (.aload_n 0, 1) := by decide +kernel
theorem d_X8_sum_36 : decode Y_X8_sum.cc 36 = .ok (.aload_n 0, 1) := by decide +kernel
theorem d_X8_sum_37 : decode Y_X8_sum.cc 37 = .ok (.getfield 7, 3) := by decide +kernel
theorem d_X8_sum_40 : decode Y_X8_sum.cc 40 = .ok (.aload_n 1, 1) := by decide +kernel
theorem d_X8_sum_41 : decode Y_X8_sum.cc 41 = .ok (.getfield 22, 3) := by decide +kernel
theorem d_X8_sum_44 : decode Y_X8_sum.cc 44 = .ok (.iload 5, 2) := by decide +kernel
theorem d_X8_sum_46 : decode Y_X8_sum.cc 46 = .ok (.aaload, 1) := by decide +kernel
theorem d_X8_sum_47 : decode Y_X8_sum.cc 47 = .ok (.invokevirtual 28, 3) := by decide +kernel
theorem d_X8_sum_50 : decode Y_X8_sum.cc 50 = .ok (.i2l, 1) := by decide +kernel
theorem d_X8_sum_51 : decode Y_X8_sum.cc 51 = .ok (.aload_n 0, 1) := by decide +kernel
theorem d_X8_sum_52 : decode Y_X8_sum.cc 52 = .ok (.getfield 13, 3) := by decide +kernel
theorem d_X8_sum_55 : decode Y_X8_sum.cc 55 = .ok (.lmul, 1) := by decide +kernel
theorem d_X8_sum_56 : decode Y_X8_sum.cc 56 = .ok (.ladd, 1) := by decide +kernel
theorem d_X8_sum_57 : decode Y_X8_sum.cc 57 = .ok (.aload_n 2, 1) := by decide +kernel
theorem d_X8_sum_58 : decode Y_X8_sum.cc 58 = .ok (.getfield 34, 3) := by decide +kernel
theorem d_X8_sum_61 : decode Y_X8_sum.cc 61 = .ok (.iload 5, 2) := by decide +kernel
theorem d_X8_sum_63 : decode Y_X8_sum.cc 63 = .ok (.iaload, 1) := by decide +kernel
theorem d_X8_sum_64 : decode Y_X8_sum.cc 64 = .ok (.i2l, 1) := by decide +kernel
theorem d_X8_sum_65 : decode Y_X8_sum.cc 65 = .ok (.lmul, 1) := by decide +kernel
theorem d_X8_sum_66 : decode Y_X8_sum.cc 66 = .ok (.putfield 7, 3) := by decide +kernel
theorem d_X8_sum_69 : decode Y_X8_sum.cc 69 = .ok (.aload_n 0, 1) := by decide +kernel
theorem d_X8_sum_70 : decode Y_X8_sum.cc 70 = .ok (.aload_n 0, 1) := by decide +kernel
theorem d_X8_sum_71 : decode Y_X8_sum.cc 71 = .ok (.getfield 13, 3) := by decide +kernel
theorem d_X8_sum_74 : decode Y_X8_sum.cc 74 = .ok (.aload_n 2, 1) := by decide +kernel
theorem d_X8_sum_75 : decode Y_X8_sum.cc 75 = .ok (.getfield 38, 3) := by decide +kernel
theorem d_X8_sum_78 : decode Y_X8_sum.cc 78 = .ok (.iload 5, 2) := by decide +kernel
theorem d_X8_sum_80 : decode Y_X8_sum.cc 80 = .ok (.iaload, 1) := by decide +kernel
theorem d_X8_sum_81 : decode Y_X8_sum.cc 81 = .ok (.i2l, 1) := by decide +kernel
theorem d_X8_sum_82 : decode Y_X8_sum.cc 82 = .ok (.lmul, 1) := by decide +kernel
theorem d_X8_sum_83 : decode Y_X8_sum.cc 83 = .ok (.putfield 13, 3) := by decide +kernel
theorem d_X8_sum_86 : decode Y_X8_sum.cc 86 = .ok (.iinc 4 1, 3) := by decide +kernel
theorem d_X8_sum_89 : decode Y_X8_sum.cc 89 = .ok (.goto (-76), 3) := by decide +kernel
theorem d_X8_sum_92 : decode Y_X8_sum.cc 92 = .ok (.return_, 1) := by decide +kernel
def L_X8_sum_13 (G : MG) (d : Nat) (Q : Mm → Prop) (o0 : Nat) (o1 : Nat) (o2 : Nat) (o3 : Nat) (x4 : Int32) (M : Mm) : Prop := T G Y_X8_sum (d + 1) (Rv Q) 0 0 13 [(0, .ref (G.b + o0)), (1, .ref (G.b + o1)), (2, .ref (G.b + o2)), (3, .ref (G.b + o3)), (4, .int x4)] [] M
theorem b_X8_sum_13 {G : MG} {d : Nat} {Q : Mm → Prop} {o0 : Nat} {o1 : Nat} {o2 : Nat} {o3 : Nat} {x4 : Int32} {M : Mm} {c : Nat} (hL : Lay c M) (ho0 : sh o0 = some (.inr 8)) (ho1 : sh o1 = some (.inr 5)) (ho2 : sh o2 = some (.inr 7)) {n3 : Nat} (ho3 : sh o3 = some (.inl (0, n3))) (h : (((M.1 o2 7) ≤ x4 → Q M) ∧ (¬ (M.1 o2 7) ≤ x4 → (((Int32.ofNat n3) ≤ x4 → Q M) ∧ (¬ (Int32.ofNat n3) ≤ x4 → (vp_in x4 n3 ∧ (vp_in (M.1 o3 x4.toNatClampNeg) 6 ∧ (C G Y_X1_shakeOfHand d [.ref (G.b + ((o1 + 1) + 2 + 2 * (M.1 o3 x4.toNatClampNeg).toNatClampNeg))] M (Ri fun r5 M4 => M4.2.2 = M.2.2 ∧ (vp_in (M.1 o3 x4.toNatClampNeg) 6 ∧ (∀ M6 : Mm, M6 = sJ M4 o0 0 (((M.2.1 o0 0) + (r5.toInt64 * (M4.2.1 o0 1))) * ((M4.1 (o2 + 1) (M.1 o3 x4.toNatClampNeg).toNatClampNeg).toInt64)) → (vp_in (M.1 o3 x4.toNatClampNeg) 6 ∧ (∀ M7 : Mm, M7 = sJ M6 o0 1 ((M6.2.1 o0 1) * ((M6.1 (o2 + 2) (M.1 o3 x4.toNatClampNeg).toNatClampNeg).toInt64)) → L_X8_sum_13 G d Q o0 o1 o2 o3 (x4 + 1) M7))))))))))))) : L_X8_sum_13 G d Q o0 o1 o2 o3 x4 M := by
  unfold L_X8_sum_13
  refine tw_iload 4 d_X8_sum_13 rfl ?_
  refine tw_aload_n 2 d_X8_sum_15 rfl rfl ?_
  refine tw_getI f_X8_16 hL ho2 (Or.inl rfl) d_X8_sum_16 ?_
  refine tw_icmp_ge 92 d_X8_sum_19 (by decide) (fun z1 => ?_) (fun z1 => ?_)
  · replace h := h.1 z1
    exact tw_vret rfl ⟨Nat.zero_le _, Nat.zero_le _⟩ d_X8_sum_92 h
  · replace h := h.2 z1
    refine tw_iload 4 d_X8_sum_22 rfl ?_
    refine tw_aload_n 3 d_X8_sum_24 rfl rfl ?_
    refine tw_alen hL ho3 (by decide) rfl d_X8_sum_25 ?_
    refine tw_icmp_ge 92 d_X8_sum_26 (by decide) (fun z2 => ?_) (fun z2 => ?_)
    · replace h := h.1 z2
      exact tw_vret rfl ⟨Nat.zero_le _, Nat.zero_le _⟩ d_X8_sum_92 h
    · replace h := h.2 z2
      refine tw_aload_n 3 d_X8_sum_29 rfl rfl ?_
      refine tw_iload 4 d_X8_sum_30 rfl ?_
      refine tw_iald hL ho3 d_X8_sum_32 h.1 ?_
      replace h := h.2
      refine tw_istore [(5, .int (M.1 o3 x4.toNatClampNeg)), (0, .ref (G.b + o0)), (1, .ref (G.b + o1)), (2, .ref (G.b + o2)), (3, .ref (G.b + o3)), (4, .int x4)] d_X8_sum_33 (Nat.le_of_ble_eq_true rfl) rfl ?_
      refine tw_aload_n 1 d_X8_sum_35 rfl rfl ?_
      refine tw_aload_n 1 d_X8_sum_36 rfl rfl ?_
      refine tw_getJ f_X8_7 hL ho0 rfl d_X8_sum_37 ?_
      refine tw_aload_n 2 d_X8_sum_40 rfl rfl ?_
      refine tw_getR f_X8_22 hL ho1 ⟨rfl, rfl⟩ (rr_X5_0 ho1) d_X8_sum_41 ?_
      refine tw_iload 0 d_X8_sum_44 rfl ?_
      have hin := h.1
      refine tw_aald hL (sr_X5_0 ho1) (by decide) (re_4 (sr_X5_0 ho1)) d_X8_sum_46 h.1 ?_
      have hs3 := se_4 (sr_X5_0 ho1) (vp_lt h.1)
      replace h := h.2
      refine tu_cVi (As := []) cv_X8_28 hL hs3 rfl (Nat.le_of_ble_eq_true rfl) ⟨Nat.zero_le _, Nat.zero_le _⟩ d_X8_sum_47 h (fun r5 M4 h => ?_)
      have hL_M4 : Lay c M4 := hL.to h.1
      replace h := h.2
      refine tw_i2l d_X8_sum_50 ?_
      refine tw_aload_n 1 d_X8_sum_51 rfl rfl ?_
      refine tw_getJ f_X8_13 hL_M4 ho0 rfl d_X8_sum_52 ?_
      refine tw_lmul d_X8_sum_55 ?_
      refine tw_ladd d_X8_sum_56 ?_
      refine tw_aload_n 3 d_X8_sum_57 rfl rfl ?_
      refine tw_getR f_X8_34 hL_M4 ho2 ⟨rfl, rfl⟩ (rr_X7_0 ho2) d_X8_sum_58 ?_
      refine tw_iload 0 d_X8_sum_61 rfl ?_
      refine tw_iald hL_M4 (sr_X7_0 ho2) d_X8_sum_63 h.1 ?_
      replace h := h.2
      refine tw_i2l d_X8_sum_64 ?_
      refine tw_lmul d_X8_sum_65 ?_
      refine tu_putJ f_X8_7 hL_M4 ho0 rfl rfl d_X8_sum_66 (fun M6 e_M6 hL_M6 => ?_)
      replace h := h M6 e_M6
      refine tw_aload_n 1 d_X8_sum_69 rfl rfl ?_
      refine tw_aload_n 1 d_X8_sum_70 rfl rfl ?_
      refine tw_getJ f_X8_13 hL_M6 ho0 rfl d_X8_sum_71 ?_
      refine tw_aload_n 3 d_X8_sum_74 rfl rfl ?_
      refine tw_getR f_X8_38 hL_M6 ho2 ⟨rfl, rfl⟩ (rr_X7_1 ho2) d_X8_sum_75 ?_
      refine tw_iload 0 d_X8_sum_78 rfl ?_
      refine tw_iald hL_M6 (sr_X7_1 ho2) d_X8_sum_80 h.1 ?_
      replace h := h.2
      refine tw_i2l d_X8_sum_81 ?_
      refine tw_lmul d_X8_sum_82 ?_
      refine tu_putJ f_X8_13 hL_M6 ho0 rfl rfl d_X8_sum_83 (fun M7 e_M7 hL_M7 => ?_)
      replace h := h M7 e_M7
      refine tw_iinc 5 [(4, .int (x4 + 1)), (5, .int (M.1 o3 x4.toNatClampNeg)), (0, .ref (G.b + o0)), (1, .ref (G.b + o1)), (2, .ref (G.b + o2)), (3, .ref (G.b + o3))] d_X8_sum_86 rfl rfl (Nat.le_of_ble_eq_true rfl) rfl ?_
      refine tw_goto 13 d_X8_sum_89 (by decide) ?_
      exact tw_lv [2, 3, 4, 5, 0] rfl h
theorem b_X8_sum {G : MG} {d : Nat} {Q : Mm → Prop} {o0 : Nat} {o1 : Nat} {o2 : Nat} {o3 : Nat} {n3 : Nat} {M : Mm} {c : Nat} (hL : Lay c M) (ho0 : sh o0 = some (.inr 8)) (ho1 : sh o1 = some (.inr 5)) (ho2 : sh o2 = some (.inr 7)) (ho3 : sh o3 = some (.inl (0, n3))) (h : (∀ M1 : Mm, M1 = sJ M o0 0 0 → (∀ M2 : Mm, M2 = sJ M1 o0 1 1 → L_X8_sum_13 G d Q o0 o1 o2 o3 0 M2))) : C G Y_X8_sum (d + 1) [.ref (G.b + o0), .ref (G.b + o1), .ref (G.b + o2), .ref (G.b + o3)] M (Rv Q) := by
  refine C.of (by decide) (Nat.le_of_ble_eq_true rfl) (lv := [(0, .ref (G.b + o0)), (1, .ref (G.b + o1)), (2, .ref (G.b + o2)), (3, .ref (G.b + o3))]) rfl ?_
  refine tw_aload_n 0 d_X8_sum_0 rfl rfl ?_
  refine tw_lconst (v := 0) d_X8_sum_1 rfl ?_
  refine tu_putJ f_X8_7 hL ho0 rfl rfl d_X8_sum_2 (fun M1 e_M1 hL_M1 => ?_)
  replace h := h M1 e_M1
  refine tw_aload_n 0 d_X8_sum_5 rfl rfl ?_
  refine tw_lconst (v := 1) d_X8_sum_6 rfl ?_
  refine tu_putJ f_X8_13 hL_M1 ho0 rfl rfl d_X8_sum_7 (fun M2 e_M2 hL_M2 => ?_)
  replace h := h M2 e_M2
  refine tw_iconst d_X8_sum_10 k_0 ?_
  refine tw_istore [(4, .int 0), (0, .ref (G.b + o0)), (1, .ref (G.b + o1)), (2, .ref (G.b + o2)), (3, .ref (G.b + o3))] d_X8_sum_11 (Nat.le_of_ble_eq_true rfl) rfl ?_
  exact tw_lv [1, 2, 3, 4, 0] rfl h

theorem d_X8_isLessThan_0 : decode Y_X8_isLessThan.cc 0 = .ok (.aload_n 0, 1) := by decide +kernel
theorem d_X8_isLessThan_1 : decode Y_X8_isLessThan.cc 1 = .ok (.getfield 7, 3) := by decide +kernel
theorem d_X8_isLessThan_4 : decode Y_X8_isLessThan.cc 4 = .ok (.aload_n 1, 1) := by decide +kernel
theorem d_X8_isLessThan_5 : decode Y_X8_isLessThan.cc 5 = .ok (.getfield 13, 3) := by decide +kernel
theorem d_X8_isLessThan_8 : decode Y_X8_isLessThan.cc 8 = .ok (.lmul, 1) := by decide +kernel
theorem d_X8_isLessThan_9 : decode Y_X8_isLessThan.cc 9 = .ok (.aload_n 1, 1) := by decide +kernel
theorem d_X8_isLessThan_10 : decode Y_X8_isLessThan.cc 10 = .ok (.getfield 7, 3) := by decide +kernel
theorem d_X8_isLessThan_13 : decode Y_X8_isLessThan.cc 13 = .ok (.aload_n 0, 1) := by decide +kernel
theorem d_X8_isLessThan_14 : decode Y_X8_isLessThan.cc 14 = .ok (.getfield 13, 3) := by decide +kernel
theorem d_X8_isLessThan_17 : decode Y_X8_isLessThan.cc 17 = .ok (.lmul, 1) := by decide +kernel
theorem d_X8_isLessThan_18 : decode Y_X8_isLessThan.cc 18 = .ok (.lcmp, 1) := by decide +kernel
theorem d_X8_isLessThan_19 : decode Y_X8_isLessThan.cc 19 = .ok (.ifCond .ge 7, 3) := by decide +kernel
theorem d_X8_isLessThan_22 : decode Y_X8_isLessThan.cc 22 = .ok (.iconst 1, 1) := by decide +kernel
theorem d_X8_isLessThan_23 : decode Y_X8_isLessThan.cc 23 = .ok (.goto 4, 3) := by decide +kernel
theorem d_X8_isLessThan_26 : decode Y_X8_isLessThan.cc 26 = .ok (.iconst 0, 1) := by decide +kernel
theorem d_X8_isLessThan_27 : decode Y_X8_isLessThan.cc 27 = .ok (.ireturn, 1) := by decide +kernel
theorem b_X8_isLessThan {G : MG} {d : Nat} {Q : Int32 → Mm → Prop} {o0 : Nat} {o1 : Nat} {M : Mm} {c : Nat} (hL : Lay c M) (ho0 : sh o0 = some (.inr 8)) (ho1 : sh o1 = some (.inr 8)) (h : ((((M.2.1 o1 0) * (M.2.1 o0 1)) ≤ ((M.2.1 o0 0) * (M.2.1 o1 1)) → Q 0 M) ∧ (¬ ((M.2.1 o1 0) * (M.2.1 o0 1)) ≤ ((M.2.1 o0 0) * (M.2.1 o1 1)) → Q 1 M))) : C G Y_X8_isLessThan (d + 1) [.ref (G.b + o0), .ref (G.b + o1)] M (Ri Q) := by
  refine C.of (by decide) (Nat.le_of_ble_eq_true rfl) (lv := [(0, .ref (G.b + o0)), (1, .ref (G.b + o1))]) rfl ?_
  refine tw_aload_n 0 d_X8_isLessThan_0 rfl rfl ?_
  refine tw_getJ f_X8_7 hL ho0 rfl d_X8_isLessThan_1 ?_
  refine tw_aload_n 1 d_X8_isLessThan_4 rfl rfl ?_
  refine tw_getJ f_X8_13 hL ho1 rfl d_X8_isLessThan_5 ?_
  refine tw_lmul d_X8_isLessThan_8 ?_
  refine tw_aload_n 1 d_X8_isLessThan_9 rfl rfl ?_
  refine tw_getJ f_X8_7 hL ho1 rfl d_X8_isLessThan_10 ?_
  refine tw_aload_n 0 d_X8_isLessThan_13 rfl rfl ?_
  refine tw_getJ f_X8_13 hL ho0 rfl d_X8_isLessThan_14 ?_
  refine tw_lmul d_X8_isLessThan_17 ?_
  refine tw_lcmp_ge 26 d_X8_isLessThan_18 d_X8_isLessThan_19 (by decide) (fun z1 => ?_) (fun z1 => ?_)
  · replace h := h.1 z1
    refine tw_iconst d_X8_isLessThan_26 k_0 ?_
    exact tw_zret (ty := .boolean) rfl rfl ⟨Nat.zero_le _, Nat.zero_le _⟩ d_X8_isLessThan_27 h
  · replace h := h.2 z1
    refine tw_iconst d_X8_isLessThan_22 k_1 ?_
    refine tw_goto 27 d_X8_isLessThan_23 (by decide) ?_
    exact tw_zret (ty := .boolean) rfl rfl ⟨Nat.zero_le _, Nat.zero_le _⟩ d_X8_isLessThan_27 h

theorem d_X8_copyFrom_0 : decode Y_X8_copyFrom.cc 0 = .ok (.aload_n 0, 1) := by decide +kernel
theorem d_X8_copyFrom_1 : decode Y_X8_copyFrom.cc 1 = .ok (.aload_n 1, 1) := by decide +kernel
theorem d_X8_copyFrom_2 : decode Y_X8_copyFrom.cc 2 = .ok (.getfield 7, 3) := by decide +kernel
theorem d_X8_copyFrom_5 : decode Y_X8_copyFrom.cc 5 = .ok (.putfield 7, 3) := by decide +kernel
theorem d_X8_copyFrom_8 : decode Y_X8_copyFrom.cc 8 = .ok (.aload_n 0, 1) := by decide +kernel
theorem d_X8_copyFrom_9 : decode Y_X8_copyFrom.cc 9 = .ok (.aload_n 1, 1) := by decide +kernel
theorem d_X8_copyFrom_10 : decode Y_X8_copyFrom.cc 10 = .ok (.getfield 13, 3) := by decide +kernel
theorem d_X8_copyFrom_13 : decode Y_X8_copyFrom.cc 13 = .ok (.putfield 13, 3) := by decide +kernel
theorem d_X8_copyFrom_16 : decode Y_X8_copyFrom.cc 16 = .ok (.return_, 1) := by decide +kernel
theorem b_X8_copyFrom {G : MG} {d : Nat} {Q : Mm → Prop} {o0 : Nat} {o1 : Nat} {M : Mm} {c : Nat} (hL : Lay c M) (ho0 : sh o0 = some (.inr 8)) (ho1 : sh o1 = some (.inr 8)) (h : (∀ M1 : Mm, M1 = sJ M o0 0 (M.2.1 o1 0) → (∀ M2 : Mm, M2 = sJ M1 o0 1 (M1.2.1 o1 1) → Q M2))) : C G Y_X8_copyFrom (d + 1) [.ref (G.b + o0), .ref (G.b + o1)] M (Rv Q) := by
  refine C.of (by decide) (Nat.le_of_ble_eq_true rfl) (lv := [(0, .ref (G.b + o0)), (1, .ref (G.b + o1))]) rfl ?_
  refine tw_aload_n 0 d_X8_copyFrom_0 rfl rfl ?_
  refine tw_aload_n 1 d_X8_copyFrom_1 rfl rfl ?_
  refine tw_getJ f_X8_7 hL ho1 rfl d_X8_copyFrom_2 ?_
  refine tu_putJ f_X8_7 hL ho0 rfl rfl d_X8_copyFrom_5 (fun M1 e_M1 hL_M1 => ?_)
  replace h := h M1 e_M1
  refine tw_aload_n 0 d_X8_copyFrom_8 rfl rfl ?_
  refine tw_aload_n 1 d_X8_copyFrom_9 rfl rfl ?_
  refine tw_getJ f_X8_13 hL_M1 ho1 rfl d_X8_copyFrom_10 ?_
  refine tu_putJ f_X8_13 hL_M1 ho0 rfl rfl d_X8_copyFrom_13 (fun M2 e_M2 hL_M2 => ?_)
  replace h := h M2 e_M2
  exact tw_vret rfl ⟨Nat.zero_le _, Nat.zero_le _⟩ d_X8_copyFrom_16 h

theorem d_X8_part_0 : decode Y_X8_part.cc 0 = .ok (.iload_n 1, 1) := by decide +kernel
theorem d_X8_part_1 : decode Y_X8_part.cc 1 = .ok (.ifCond .ne 17, 3) := by decide +kernel
theorem d_X8_part_4 : decode Y_X8_part.cc 4 = .ok (.aload_n 0, 1) := by decide +kernel
theorem d_X8_part_5 : decode Y_X8_part.cc 5 = .ok (.getfield 7, 3) := by decide +kernel
theorem d_X8_part_8 : decode Y_X8_part.cc 8 = .ok (.aload_n 0, 1) := by decide +kernel
theorem d_X8_part_9 : decode Y_X8_part.cc 9 = .ok (.getfield 13, 3) := by decide +kernel
theorem d_X8_part_12 : decode Y_X8_part.cc 12 = .ok (.invokestatic 41, 3) := by decide +kernel
theorem d_X8_part_15 : decode Y_X8_part.cc 15 = .ok (.goto 14, 3) := by decide +kernel
theorem d_X8_part_18 : decode Y_X8_part.cc 18 = .ok (.aload_n 0, 1) := by decide +kernel
theorem d_X8_part_19 : decode Y_X8_part.cc 19 = .ok (.getfield 13, 3) := by decide +kernel
theorem d_X8_part_22 : decode Y_X8_part.cc 22 = .ok (.aload_n 0, 1) := by decide +kernel
theorem d_X8_part_23 : decode Y_X8_part.cc 23 = .ok (.getfield 7, 3) := by decide +kernel
theorem d_X8_part_26 : decode Y_X8_part.cc 26 = .ok (.invokestatic 41, 3) := by decide +kernel
theorem d_X8_part_29 : decode Y_X8_part.cc 29 = .ok (.lreturn, 1) := by decide +kernel
theorem b_X8_part {G : MG} {d : Nat} {Q : Int64 → Mm → Prop} {o0 : Nat} {x1 : Int32} {M : Mm} {c : Nat} (hL : Lay c M) (hx_n41 : ∀ U, G.X U → va_Nw (.methodLinkNest RX8 41 yX11_inLowestTerms "CopyArms") U) (ho0 : sh o0 = some (.inr 8)) (h : ((¬ x1 = 0 → (C G Y_X11_inLowestTerms d [.long (M.2.1 o0 1), .long (M.2.1 o0 0)] M (Rj fun r3 M2 => M2.2.2 = M.2.2 ∧ Q r3 M2))) ∧ (x1 = 0 → (C G Y_X11_inLowestTerms d [.long (M.2.1 o0 0), .long (M.2.1 o0 1)] M (Rj fun r5 M4 => M4.2.2 = M.2.2 ∧ Q r5 M4))))) : C G Y_X8_part (d + 1) [.ref (G.b + o0), .int x1] M (Rj Q) := by
  refine C.of (by decide) (Nat.le_of_ble_eq_true rfl) (lv := [(0, .ref (G.b + o0)), (1, .int x1)]) rfl ?_
  refine tw_iload_n 1 d_X8_part_0 rfl rfl ?_
  refine tw_if_ne 18 d_X8_part_1 (by decide) (fun z1 => ?_) (fun z1 => ?_)
  · replace h := h.1 z1
    refine tw_aload_n 0 d_X8_part_18 rfl rfl ?_
    refine tw_getJ f_X8_13 hL ho0 rfl d_X8_part_19 ?_
    refine tw_aload_n 0 d_X8_part_22 rfl rfl ?_
    refine tw_getJ f_X8_7 hL ho0 rfl d_X8_part_23 ?_
    refine tu_cNJ (As := [.long (M.2.1 o0 1), .long (M.2.1 o0 0)]) cn_X11_inLowestTerms hx_n41 rfl (Nat.le_of_ble_eq_true rfl) ⟨Nat.zero_le _, Nat.zero_le _⟩ d_X8_part_26 h (fun r3 M2 h => ?_)
    have hL_M2 : Lay c M2 := hL.to h.1
    replace h := h.2
    exact tw_lret rfl ⟨Nat.zero_le _, Nat.zero_le _⟩ d_X8_part_29 h
  · replace h := h.2 z1
    refine tw_aload_n 0 d_X8_part_4 rfl rfl ?_
    refine tw_getJ f_X8_7 hL ho0 rfl d_X8_part_5 ?_
    refine tw_aload_n 0 d_X8_part_8 rfl rfl ?_
    refine tw_getJ f_X8_13 hL ho0 rfl d_X8_part_9 ?_
    refine tu_cNJ (As := [.long (M.2.1 o0 0), .long (M.2.1 o0 1)]) cn_X11_inLowestTerms hx_n41 rfl (Nat.le_of_ble_eq_true rfl) ⟨Nat.zero_le _, Nat.zero_le _⟩ d_X8_part_12 h (fun r5 M4 h => ?_)
    have hL_M4 : Lay c M4 := hL.to h.1
    replace h := h.2
    refine tw_goto 29 d_X8_part_15 (by decide) ?_
    exact tw_lret rfl ⟨Nat.zero_le _, Nat.zero_le _⟩ d_X8_part_29 h

theorem d_X9_begin_0 : decode Y_X9_begin.cc 0 = .ok (.aload_n 0, 1) := by decide +kernel
theorem d_X9_begin_1 : decode Y_X9_begin.cc 1 = .ok (.iload_n 1, 1) := by decide +kernel
theorem d_X9_begin_2 : decode Y_X9_begin.cc 2 = .ok (.i2l, 1) := by decide +kernel
theorem d_X9_begin_3 : decode Y_X9_begin.cc 3 = .ok (.putfield 9, 3) := by decide +kernel
theorem d_X9_begin_6 : decode Y_X9_begin.cc 6 = .ok (.aload_n 0, 1) := by decide +kernel
theorem d_X9_begin_7 : decode Y_X9_begin.cc 7 = .ok (.iload_n 2, 1) := by decide +kernel
theorem d_X9_begin_8 : decode Y_X9_begin.cc 8 = .ok (.i2l, 1) := by decide +kernel
theorem d_X9_begin_9 : decode Y_X9_begin.cc 9 = .ok (.putfield 15, 3) := by decide +kernel
theorem d_X9_begin_12 : decode Y_X9_begin.cc 12 = .ok (.aload_n 0, 1) := by decide +kernel
theorem d_X9_begin_13 : decode Y_X9_begin.cc 13 = .ok (.lconst 1, 1) := by decide +kernel
theorem d_X9_begin_14 : decode Y_X9_begin.cc 14 = .ok (.putfield 18, 3) := by decide +kernel
theorem d_X9_begin_17 : decode Y_X9_begin.cc 17 = .ok (.return_, 1) := by decide +kernel
theorem b_X9_begin {G : MG} {d : Nat} {Q : Mm → Prop} {x1 : Int32} {x2 : Int32} {M : Mm} {c : Nat} (hL : Lay c M)  (h : (∀ M1 : Mm, M1 = sJ M 126 0 x1.toInt64 → (∀ M2 : Mm, M2 = sJ M1 126 1 x2.toInt64 → (∀ M3 : Mm, M3 = sJ M2 126 2 1 → Q M3)))) : C G Y_X9_begin (d + 1) [.ref (G.b + 126), .int x1, .int x2] M (Rv Q) := by
  refine C.of (by decide) (Nat.le_of_ble_eq_true rfl) (lv := [(0, .ref (G.b + 126)), (1, .int x1), (2, .int x2)]) rfl ?_
  refine tw_aload_n 0 d_X9_begin_0 rfl rfl ?_
  refine tw_iload_n 1 d_X9_begin_1 rfl rfl ?_
  refine tw_i2l d_X9_begin_2 ?_
  refine tu_putJ f_X9_9 hL s_126 rfl rfl d_X9_begin_3 (fun M1 e_M1 hL_M1 => ?_)
  replace h := h M1 e_M1
  refine tw_aload_n 0 d_X9_begin_6 rfl rfl ?_
  refine tw_iload_n 2 d_X9_begin_7 rfl rfl ?_
  refine tw_i2l d_X9_begin_8 ?_
  refine tu_putJ f_X9_15 hL_M1 s_126 rfl rfl d_X9_begin_9 (fun M2 e_M2 hL_M2 => ?_)
  replace h := h M2 e_M2
  refine tw_aload_n 0 d_X9_begin_12 rfl rfl ?_
  refine tw_lconst (v := 1) d_X9_begin_13 rfl ?_
  refine tu_putJ f_X9_18 hL_M2 s_126 rfl rfl d_X9_begin_14 (fun M3 e_M3 hL_M3 => ?_)
  replace h := h M3 e_M3
  exact tw_vret rfl ⟨Nat.zero_le _, Nat.zero_le _⟩ d_X9_begin_17 h

theorem d_X9_isOut_0 : decode Y_X9_isOut.cc 0 = .ok (.aload_n 0, 1) := by decide +kernel
theorem d_X9_isOut_1 : decode Y_X9_isOut.cc 1 = .ok (.getfield 9, 3) := by decide +kernel
theorem d_X9_isOut_4 : decode Y_X9_isOut.cc 4 = .ok (.aload_n 2, 1) := by decide +kernel
theorem d_X9_isOut_5 : decode Y_X9_isOut.cc 5 = .ok (.getfield 21, 3) := by decide +kernel
theorem d_X9_isOut_8 : decode Y_X9_isOut.cc 8 = .ok (.iload_n 3, 1) := by decide +kernel
theorem d_X9_isOut_9 : decode Y_X9_isOut.cc 9 = .ok (.iaload, 1) := by decide +kernel
theorem d_X9_isOut_10 : decode Y_X9_isOut.cc 10 = .ok (.i2l, 1) := by decide +kernel
theorem d_X9_isOut_11 : decode Y_X9_isOut.cc 11 = .ok (.aload_n 0, 1) := by decide +kernel
theorem d_X9_isOut_12 : decode Y_X9_isOut.cc 12 = .ok (.getfield 18, 3) := by decide +kernel
theorem d_X9_isOut_15 : decode Y_X9_isOut.cc 15 = .ok (.lmul, 1) := by decide +kernel
theorem d_X9_isOut_16 : decode Y_X9_isOut.cc 16 = .ok (.lsub, 1) := by decide +kernel
theorem d_X9_isOut_17 : decode Y_X9_isOut.cc 17 = .ok (.lstore 4, 2) := by decide +kernel
theorem d_X9_isOut_19 : decode Y_X9_isOut.cc 19 = .ok (.aload_n 0, 1) := by decide +kernel
theorem d_X9_isOut_20 : decode Y_X9_isOut.cc 20 = .ok (.getfield 15, 3) := by decide +kernel
theorem d_X9_isOut_23 : decode Y_X9_isOut.cc 23 = .ok (.aload_n 2, 1) := by decide +kernel
theorem d_X9_isOut_24 : decode Y_X9_isOut.cc 24 = .ok (.getfield 27, 3) := by decide +kernel
theorem d_X9_isOut_27 : decode Y_X9_isOut.cc 27 = .ok (.iload_n 3, 1) := by decide +kernel
theorem d_X9_isOut_28 : decode Y_X9_isOut.cc 28 = .ok (.iaload, 1) := by decide +kernel
theorem d_X9_isOut_29 : decode Y_X9_isOut.cc 29 = .ok (.i2l, 1) := by decide +kernel
theorem d_X9_isOut_30 : decode Y_X9_isOut.cc 30 = .ok (.aload_n 0, 1) := by decide +kernel
theorem d_X9_isOut_31 : decode Y_X9_isOut.cc 31 = .ok (.getfield 18, 3) := by decide +kernel
theorem d_X9_isOut_34 : decode Y_X9_isOut.cc 34 = .ok (.lmul, 1) := by decide +kernel
theorem d_X9_isOut_35 : decode Y_X9_isOut.cc 35 = .ok (.lsub, 1) := by decide +kernel
theorem d_X9_isOut_36 : decode Y_X9_isOut.cc 36 = .ok (.lstore 6, 2) := by decide +kernel
theorem d_X9_isOut_38 : decode Y_X9_isOut.cc 38 = .ok (.lload 4, 2) := by decide +kernel
theorem d_X9_isOut_40 : decode Y_X9_isOut.cc 40 = .ok (.invokestatic 30, 3) := by decide +kernel
theorem d_X9_isOut_43 : decode Y_X9_isOut.cc 43 = .ok (.lload 6, 2) := by decide +kernel
theorem d_X9_isOut_45 : decode Y_X9_isOut.cc 45 = .ok (.invokestatic 30, 3) := by decide +kernel
theorem d_X9_isOut_48 : decode Y_X9_isOut.cc 48 = .ok (.ladd, 1) := by decide +kernel
theorem d_X9_isOut_49 : decode Y_X9_isOut.cc 49 = .ok (.aload_n 1, 1) := by decide +kernel
theorem d_X9_isOut_50 : decode Y_X9_isOut.cc 50 = .ok (.getfield 36, 3) := by decide +kernel
theorem d_X9_isOut_53 : decode Y_X9_isOut.cc 53 = .ok (.iload_n 3, 1) := by decide +kernel
theorem d_X9_isOut_54 : decode Y_X9_isOut.cc 54 = .ok (.aaload, 1) := by decide +kernel
theorem d_X9_isOut_55 : decode Y_X9_isOut.cc 55 = .ok (.getfield 42, 3) := by decide +kernel
theorem d_X9_isOut_58 : decode Y_X9_isOut.cc 58 = .ok (.i2l, 1) := by decide +kernel
theorem d_X9_isOut_59 : decode Y_X9_isOut.cc 59 = .ok (.aload_n 0, 1) := by decide +kernel
theorem d_X9_isOut_60 : decode Y_X9_isOut.cc 60 = .ok (.getfield 18, 3) := by decide +kernel
theorem d_X9_isOut_63 : decode Y_X9_isOut.cc 63 = .ok (.lmul, 1) := by decide +kernel
theorem d_X9_isOut_64 : decode Y_X9_isOut.cc 64 = .ok (.lcmp, 1) := by decide +kernel
theorem d_X9_isOut_65 : decode Y_X9_isOut.cc 65 = .ok (.ifCond .le 7, 3) := by decide +kernel
theorem d_X9_isOut_68 : decode Y_X9_isOut.cc 68 = .ok (.iconst 1, 1) := by decide +kernel
theorem d_X9_isOut_69 : decode Y_X9_isOut.cc 69 = .ok (.goto 4, 3) := by decide +kernel
theorem d_X9_isOut_72 : decode Y_X9_isOut.cc 72 = .ok (.iconst 0, 1) := by decide +kernel
theorem d_X9_isOut_73 : decode Y_X9_isOut.cc 73 = .ok (.ireturn, 1) := by decide +kernel
theorem b_X9_isOut {G : MG} {d : Nat} {Q : Int32 → Mm → Prop} {o1 : Nat} {o2 : Nat} {x3 : Int32} {M : Mm} {c : Nat} (hL : Lay c M) (ho1 : sh o1 = some (.inr 5)) (ho2 : sh o2 = some (.inr 7)) (h : (vp_in x3 6 ∧ ∀ v1 : Int64, v1 = ((M.2.1 126 0) - (((M.1 (o2 + 4) x3.toNatClampNeg).toInt64) * (M.2.1 126 2))) → (vp_in x3 6 ∧ ∀ v2 : Int64, v2 = ((M.2.1 126 1) - (((M.1 (o2 + 5) x3.toNatClampNeg).toInt64) * (M.2.1 126 2))) → (vp_in x3 6 ∧ ((((if 0 < v1 then v1 else -v1) + (if 0 < v2 then v2 else -v2)) ≤ (((M.1 ((o1 + 1) + 2 + 2 * x3.toNatClampNeg) 7).toInt64) * (M.2.1 126 2)) → Q 0 M) ∧ (¬ ((if 0 < v1 then v1 else -v1) + (if 0 < v2 then v2 else -v2)) ≤ (((M.1 ((o1 + 1) + 2 + 2 * x3.toNatClampNeg) 7).toInt64) * (M.2.1 126 2)) → Q 1 M)))))) : C G Y_X9_isOut (d + 1) [.ref (G.b + 126), .ref (G.b + o1), .ref (G.b + o2), .int x3] M (Ri Q) := by
  refine C.of (by decide) (Nat.le_of_ble_eq_true rfl) (lv := [(0, .ref (G.b + 126)), (1, .ref (G.b + o1)), (2, .ref (G.b + o2)), (3, .int x3)]) rfl ?_
  refine tw_aload_n 0 d_X9_isOut_0 rfl rfl ?_
  refine tw_getJ f_X9_9 hL s_126 rfl d_X9_isOut_1 ?_
  refine tw_aload_n 2 d_X9_isOut_4 rfl rfl ?_
  refine tw_getR f_X9_21 hL ho2 ⟨rfl, rfl⟩ (rr_X7_3 ho2) d_X9_isOut_5 ?_
  refine tw_iload_n 3 d_X9_isOut_8 rfl rfl ?_
  refine tw_iald hL (sr_X7_3 ho2) d_X9_isOut_9 h.1 ?_
  replace h := h.2
  refine tw_i2l d_X9_isOut_10 ?_
  refine tw_aload_n 0 d_X9_isOut_11 rfl rfl ?_
  refine tw_getJ f_X9_18 hL s_126 rfl d_X9_isOut_12 ?_
  refine tw_lmul d_X9_isOut_15 ?_
  refine tw_lsub d_X9_isOut_16 ?_
  refine tw_nmJ (fun v1 e_v1 => ?_)
  replace h := h v1 e_v1
  refine tw_lstore [(4, .long v1), (0, .ref (G.b + 126)), (1, .ref (G.b + o1)), (2, .ref (G.b + o2)), (3, .int x3)] d_X9_isOut_17 (Nat.le_of_ble_eq_true rfl) rfl ?_
  refine tw_aload_n 1 d_X9_isOut_19 rfl rfl ?_
  refine tw_getJ f_X9_15 hL s_126 rfl d_X9_isOut_20 ?_
  refine tw_aload_n 3 d_X9_isOut_23 rfl rfl ?_
  refine tw_getR f_X9_27 hL ho2 ⟨rfl, rfl⟩ (rr_X7_4 ho2) d_X9_isOut_24 ?_
  refine tw_iload_n 4 d_X9_isOut_27 rfl rfl ?_
  refine tw_iald hL (sr_X7_4 ho2) d_X9_isOut_28 h.1 ?_
  replace h := h.2
  refine tw_i2l d_X9_isOut_29 ?_
  refine tw_aload_n 1 d_X9_isOut_30 rfl rfl ?_
  refine tw_getJ f_X9_18 hL s_126 rfl d_X9_isOut_31 ?_
  refine tw_lmul d_X9_isOut_34 ?_
  refine tw_lsub d_X9_isOut_35 ?_
  refine tw_nmJ (fun v2 e_v2 => ?_)
  replace h := h v2 e_v2
  refine tw_lstore [(6, .long v2), (4, .long v1), (0, .ref (G.b + 126)), (1, .ref (G.b + o1)), (2, .ref (G.b + o2)), (3, .int x3)] d_X9_isOut_36 (Nat.le_of_ble_eq_true rfl) rfl ?_
  refine tw_lload 1 d_X9_isOut_38 rfl ?_
  refine tw_mabs mo_X9_30 (Nat.le_of_ble_eq_true rfl) ⟨Nat.zero_le _, Nat.zero_le _⟩ d_X9_isOut_40 ?_
  refine tw_lload 0 d_X9_isOut_43 rfl ?_
  refine tw_mabs mo_X9_30 (Nat.le_of_ble_eq_true rfl) ⟨Nat.zero_le _, Nat.zero_le _⟩ d_X9_isOut_45 ?_
  refine tw_ladd d_X9_isOut_48 ?_
  refine tw_aload_n 3 d_X9_isOut_49 rfl rfl ?_
  refine tw_getR f_X9_36 hL ho1 ⟨rfl, rfl⟩ (rr_X5_0 ho1) d_X9_isOut_50 ?_
  refine tw_iload_n 5 d_X9_isOut_53 rfl rfl ?_
  have hin := h.1
  refine tw_aald hL (sr_X5_0 ho1) (by decide) (re_4 (sr_X5_0 ho1)) d_X9_isOut_54 h.1 ?_
  have hs3 := se_4 (sr_X5_0 ho1) (vp_lt h.1)
  replace h := h.2
  refine tw_getI f_X9_42 hL hs3 (Or.inl rfl) d_X9_isOut_55 ?_
  refine tw_i2l d_X9_isOut_58 ?_
  refine tw_aload_n 2 d_X9_isOut_59 rfl rfl ?_
  refine tw_getJ f_X9_18 hL s_126 rfl d_X9_isOut_60 ?_
  refine tw_lmul d_X9_isOut_63 ?_
  refine tw_lcmp_le 72 d_X9_isOut_64 d_X9_isOut_65 (by decide) (fun z4 => ?_) (fun z4 => ?_)
  · replace h := h.1 z4
    refine tw_iconst d_X9_isOut_72 k_0 ?_
    exact tw_zret (ty := .boolean) rfl rfl ⟨Nat.zero_le _, Nat.zero_le _⟩ d_X9_isOut_73 h
  · replace h := h.2 z4
    refine tw_iconst d_X9_isOut_68 k_1 ?_
    refine tw_goto 73 d_X9_isOut_69 (by decide) ?_
    exact tw_zret (ty := .boolean) rfl rfl ⟨Nat.zero_le _, Nat.zero_le _⟩ d_X9_isOut_73 h

theorem d_X9_copyBy_0 : decode Y_X9_copyBy.cc 0 = .ok (.aload_n 0, 1) := by decide +kernel
theorem d_X9_copyBy_1 : decode Y_X9_copyBy.cc 1 = .ok (.getfield 9, 3) := by decide +kernel
theorem d_X9_copyBy_4 : decode Y_X9_copyBy.cc 4 = .ok (.aload_n 2, 1) := by decide +kernel
theorem d_X9_copyBy_5 : decode Y_X9_copyBy.cc 5 = .ok (.getfield 21, 3) := by decide +kernel
theorem d_X9_copyBy_8 : decode Y_X9_copyBy.cc 8 = .ok (.iload_n 3, 1) := by decide +kernel
theorem d_X9_copyBy_9 : decode Y_X9_copyBy.cc 9 = .ok (.iaload, 1) := by decide +kernel
theorem d_X9_copyBy_10 : decode Y_X9_copyBy.cc 10 = .ok (.i2l, 1) := by decide +kernel
theorem d_X9_copyBy_11 : decode Y_X9_copyBy.cc 11 = .ok (.aload_n 0, 1) := by decide +kernel
theorem d_X9_copyBy_12 : decode Y_X9_copyBy.cc 12 = .ok (.getfield 18, 3) := by decide +kernel
theorem d_X9_copyBy_15 : decode Y_X9_copyBy.cc 15 = .ok (.lmul, 1) := by decide +kernel
theorem d_X9_copyBy_16 : decode Y_X9_copyBy.cc 16 = .ok (.lsub, 1) := by decide +kernel
theorem d_X9_copyBy_17 : decode Y_X9_copyBy.cc 17 = .ok (.lstore 5, 2) := by decide +kernel
theorem d_X9_copyBy_19 : decode Y_X9_copyBy.cc 19 = .ok (.aload_n 0, 1) := by decide +kernel
theorem d_X9_copyBy_20 : decode Y_X9_copyBy.cc 20 = .ok (.getfield 15, 3) := by decide +kernel
theorem d_X9_copyBy_23 : decode Y_X9_copyBy.cc 23 = .ok (.aload_n 2, 1) := by decide +kernel
theorem d_X9_copyBy_24 : decode Y_X9_copyBy.cc 24 = .ok (.getfield 27, 3) := by decide +kernel
theorem d_X9_copyBy_27 : decode Y_X9_copyBy.cc 27 = .ok (.iload_n 3, 1) := by decide +kernel
theorem d_X9_copyBy_28 : decode Y_X9_copyBy.cc 28 = .ok (.iaload, 1) := by decide +kernel
theorem d_X9_copyBy_29 : decode Y_X9_copyBy.cc 29 = .ok (.i2l, 1) := by decide +kernel
theorem d_X9_copyBy_30 : decode Y_X9_copyBy.cc 30 = .ok (.aload_n 0, 1) := by decide +kernel
theorem d_X9_copyBy_31 : decode Y_X9_copyBy.cc 31 = .ok (.getfield 18, 3) := by decide +kernel
theorem d_X9_copyBy_34 : decode Y_X9_copyBy.cc 34 = .ok (.lmul, 1) := by decide +kernel
theorem d_X9_copyBy_35 : decode Y_X9_copyBy.cc 35 = .ok (.lsub, 1) := by decide +kernel
theorem d_X9_copyBy_36 : decode Y_X9_copyBy.cc 36 = .ok (.lstore 7, 2) := by decide +kernel
theorem d_X9_copyBy_38 : decode Y_X9_copyBy.cc 38 = .ok (.aload_n 1, 1) := by decide +kernel
theorem d_X9_copyBy_39 : decode Y_X9_copyBy.cc 39 = .ok (.getfield 36, 3) := by decide +kernel
theorem d_X9_copyBy_42 : decode Y_X9_copyBy.cc 42 = .ok (.iload_n 3, 1) := by decide +kernel
theorem d_X9_copyBy_43 : decode Y_X9_copyBy.cc 43 = .ok (.aaload, 1) := by decide +kernel
theorem d_X9_copyBy_44 : decode Y_X9_copyBy.cc 44 = .ok (.getfield 48, 3) := by decide +kernel
theorem d_X9_copyBy_47 : decode Y_X9_copyBy.cc 47 = .ok (.iconst 1, 1) := by decide +kernel
theorem d_X9_copyBy_48 : decode Y_X9_copyBy.cc 48 = .ok (.if_icmp .ne 8, 3) := by decide +kernel
theorem d_X9_copyBy_51 : decode Y_X9_copyBy.cc 51 = .ok (.lload 5, 2) := by decide +kernel
theorem d_X9_copyBy_53 : decode Y_X9_copyBy.cc 53 = .ok (.lneg, 1) := by decide +kernel
theorem d_X9_copyBy_54 : decode Y_X9_copyBy.cc 54 = .ok (.lstore 5, 2) := by decide +kernel
theorem d_X9_copyBy_56 : decode Y_X9_copyBy.cc 56 = .ok (.iconst 0, 1) := by decide +kernel
theorem d_X9_copyBy_57 : decode Y_X9_copyBy.cc 57 = .ok (.istore 9, 2) := by decide +kernel
theorem d_X9_copyBy_59 : decode Y_X9_copyBy.cc 59 = .ok (.iload 9, 2) := by decide +kernel
theorem d_X9_copyBy_61 : decode Y_X9_copyBy.cc 61 = .ok (.aload_n 2, 1) := by decide +kernel
theorem d_X9_copyBy_62 : decode Y_X9_copyBy.cc 62 = .ok (.getfield 51, 3) := by decide +kernel
theorem d_X9_copyBy_65 : decode Y_X9_copyBy.cc 65 = .ok (.iload_n 3, 1) := by decide +kernel
theorem d_X9_copyBy_66 : decode Y_X9_copyBy.cc 66 = .ok (.iaload, 1) := by decide +kernel
theorem d_X9_copyBy_67 : decode Y_X9_copyBy.cc 67 = .ok (.if_icmp .ge 22, 3) := by decide +kernel
theorem d_X9_copyBy_70 : decode Y_X9_copyBy.cc 70 = .ok (.lload 5, 2) := by decide +kernel
theorem d_X9_copyBy_72 : decode Y_X9_copyBy.cc 72 = .ok (.lstore 10, 2) := by decide +kernel
theorem d_X9_copyBy_74 : decode Y_X9_copyBy.cc 74 = .ok (.lload 7, 2) := by decide +kernel
theorem d_X9_copyBy_76 : decode Y_X9_copyBy.cc 76 = .ok (.lneg, 1) := by decide +kernel
theorem d_X9_copyBy_77 : decode Y_X9_copyBy.cc 77 = .ok (.lstore 5, 2) := by decide +kernel
theorem d_X9_copyBy_79 : decode Y_X9_copyBy.cc 79 = .ok (.lload 10, 2) := by decide +kernel
theorem d_X9_copyBy_81 : decode Y_X9_copyBy.cc 81 = .ok (.lstore 7, 2) := by decide +kernel
theorem d_X9_copyBy_83 : decode Y_X9_copyBy.cc 83 = .ok (.iinc 9 1, 3) := by decide +kernel
theorem d_X9_copyBy_86 : decode Y_X9_copyBy.cc 86 = .ok (.goto (-27), 3) := by decide +kernel
theorem d_X9_copyBy_89 : decode Y_X9_copyBy.cc 89 = .ok (.ldc2_w 54, 3) := by decide +kernel
theorem d_X9_copyBy_92 : decode Y_X9_copyBy.cc 92 = .ok (.lload 5, 2) := by decide +kernel
theorem d_X9_copyBy_94 : decode Y_X9_copyBy.cc 94 = .ok (.lmul, 1) := by decide +kernel
theorem d_X9_copyBy_95 : decode Y_X9_copyBy.cc 95 = .ok (.iload 4, 2) := by decide +kernel
theorem d_X9_copyBy_97 : decode Y_X9_copyBy.cc 97 = .ok (.i2l, 1) := by decide +kernel
theorem d_X9_copyBy_98 : decode Y_X9_copyBy.cc 98 = .ok (.lload 7, 2) := by decide +kernel
theorem d_X9_copyBy_100 : decode Y_X9_copyBy.cc 100 = .ok (.lmul, 1) := by decide +kernel
theorem d_X9_copyBy_101 : decode Y_X9_copyBy.cc 101 = .ok (.ladd, 1) := by decide +kernel
theorem d_X9_copyBy_102 : decode Y_X9_copyBy.cc 102 = .ok (.aload_n 2, 1) := by decide +kernel
theorem d_X9_copyBy_103 : decode Y_X9_copyBy.cc 103 = .ok (.getfield 56, 3) := by decide +kernel
theorem d_X9_copyBy_106 : decode Y_X9_copyBy.cc 106 = .ok (.iload_n 3, 1) := by decide +kernel
theorem d_X9_copyBy_107 : decode Y_X9_copyBy.cc 107 = .ok (.iaload, 1) := by decide +kernel
theorem d_X9_copyBy_108 : decode Y_X9_copyBy.cc 108 = .ok (.i2l, 1) := by decide +kernel
theorem d_X9_copyBy_109 : decode Y_X9_copyBy.cc 109 = .ok (.lmul, 1) := by decide +kernel
theorem d_X9_copyBy_110 : decode Y_X9_copyBy.cc 110 = .ok (.lstore 5, 2) := by decide +kernel
theorem d_X9_copyBy_112 : decode Y_X9_copyBy.cc 112 = .ok (.ldc2_w 54, 3) := by decide +kernel
theorem d_X9_copyBy_115 : decode Y_X9_copyBy.cc 115 = .ok (.lload 7, 2) := by decide +kernel
theorem d_X9_copyBy_117 : decode Y_X9_copyBy.cc 117 = .ok (.lmul, 1) := by decide +kernel
theorem d_X9_copyBy_118 : decode Y_X9_copyBy.cc 118 = .ok (.aload_n 2, 1) := by decide +kernel
theorem d_X9_copyBy_119 : decode Y_X9_copyBy.cc 119 = .ok (.getfield 56, 3) := by decide +kernel
theorem d_X9_copyBy_122 : decode Y_X9_copyBy.cc 122 = .ok (.iload_n 3, 1) := by decide +kernel
theorem d_X9_copyBy_123 : decode Y_X9_copyBy.cc 123 = .ok (.iaload, 1) := by decide +kernel
theorem d_X9_copyBy_124 : decode Y_X9_copyBy.cc 124 = .ok (.i2l, 1) := by decide +kernel
theorem d_X9_copyBy_125 : decode Y_X9_copyBy.cc 125 = .ok (.lmul, 1) := by decide +kernel
theorem d_X9_copyBy_126 : decode Y_X9_copyBy.cc 126 = .ok (.lstore 7, 2) := by decide +kernel
theorem d_X9_copyBy_128 : decode Y_X9_copyBy.cc 128 = .ok (.aload_n 0, 1) := by decide +kernel
theorem d_X9_copyBy_129 : decode Y_X9_copyBy.cc 129 = .ok (.ldc2_w 54, 3) := by decide +kernel
theorem d_X9_copyBy_132 : decode Y_X9_copyBy.cc 132 = .ok (.aload_n 0, 1) := by decide +kernel
theorem d_X9_copyBy_133 : decode Y_X9_copyBy.cc 133 = .ok (.getfield 18, 3) := by decide +kernel
theorem d_X9_copyBy_136 : decode Y_X9_copyBy.cc 136 = .ok (.lmul, 1) := by decide +kernel
theorem d_X9_copyBy_137 : decode Y_X9_copyBy.cc 137 = .ok (.aload_n 2, 1) := by decide +kernel
theorem d_X9_copyBy_138 : decode Y_X9_copyBy.cc 138 = .ok (.getfield 59, 3) := by decide +kernel
theorem d_X9_copyBy_141 : decode Y_X9_copyBy.cc 141 = .ok (.iload_n 3, 1) := by decide +kernel
theorem d_X9_copyBy_142 : decode Y_X9_copyBy.cc 142 = .ok (.iaload, 1) := by decide +kernel
theorem d_X9_copyBy_143 : decode Y_X9_copyBy.cc 143 = .ok (.i2l, 1) := by decide +kernel
theorem d_X9_copyBy_144 : decode Y_X9_copyBy.cc 144 = .ok (.lmul, 1) := by decide +kernel
theorem d_X9_copyBy_145 : decode Y_X9_copyBy.cc 145 = .ok (.putfield 18, 3) := by decide +kernel
theorem d_X9_copyBy_148 : decode Y_X9_copyBy.cc 148 = .ok (.aload_n 0, 1) := by decide +kernel
theorem d_X9_copyBy_149 : decode Y_X9_copyBy.cc 149 = .ok (.aload_n 2, 1) := by decide +kernel
theorem d_X9_copyBy_150 : decode Y_X9_copyBy.cc 150 = .ok (.getfield 21, 3) := by decide +kernel
theorem d_X9_copyBy_153 : decode Y_X9_copyBy.cc 153 = .ok (.iload_n 3, 1) := by decide +kernel
theorem d_X9_copyBy_154 : decode Y_X9_copyBy.cc 154 = .ok (.iaload, 1) := by decide +kernel
theorem d_X9_copyBy_155 : decode Y_X9_copyBy.cc 155 = .ok (.i2l, 1) := by decide +kernel
theorem d_X9_copyBy_156 : decode Y_X9_copyBy.cc 156 = .ok (.aload_n 0, 1) := by decide +kernel
theorem d_X9_copyBy_157 : decode Y_X9_copyBy.cc 157 = .ok (.getfield 18, 3) := by decide +kernel
theorem d_X9_copyBy_160 : decode Y_X9_copyBy.cc 160 = .ok (.lmul, 1) := by decide +kernel
theorem d_X9_copyBy_161 : decode Y_X9_copyBy.cc 161 = .ok (.lload 5, 2) := by decide +kernel
theorem d_X9_copyBy_163 : decode Y_X9_copyBy.cc 163 = .ok (.ladd, 1) := by decide +kernel
theorem d_X9_copyBy_164 : decode Y_X9_copyBy.cc 164 = .ok (.putfield 9, 3) := by decide +kernel
theorem d_X9_copyBy_167 : decode Y_X9_copyBy.cc 167 = .ok (.aload_n 0, 1) := by decide +kernel
theorem d_X9_copyBy_168 : decode Y_X9_copyBy.cc 168 = .ok (.aload_n 2, 1) := by decide +kernel
theorem d_X9_copyBy_169 : decode Y_X9_copyBy.cc 169 = .ok (.getfield 27, 3) := by decide +kernel
theorem d_X9_copyBy_172 : decode Y_X9_copyBy.cc 172 = .ok (.iload_n 3, 1) := by decide +kernel
theorem d_X9_copyBy_173 : decode Y_X9_copyBy.cc 173 = .ok (.iaload, 1) := by decide +kernel
theorem d_X9_copyBy_174 : decode Y_X9_copyBy.cc 174 = .ok (.i2l, 1) := by decide +kernel
theorem d_X9_copyBy_175 : decode Y_X9_copyBy.cc 175 = .ok (.aload_n 0, 1) := by decide +kernel
theorem d_X9_copyBy_176 : decode Y_X9_copyBy.cc 176 = .ok (.getfield 18, 3) := by decide +kernel
theorem d_X9_copyBy_179 : decode Y_X9_copyBy.cc 179 = .ok (.lmul, 1) := by decide +kernel
theorem d_X9_copyBy_180 : decode Y_X9_copyBy.cc 180 = .ok (.lload 7, 2) := by decide +kernel
theorem d_X9_copyBy_182 : decode Y_X9_copyBy.cc 182 = .ok (.ladd, 1) := by decide +kernel
theorem d_X9_copyBy_183 : decode Y_X9_copyBy.cc 183 = .ok (.putfield 15, 3) := by decide +kernel
theorem d_X9_copyBy_186 : decode Y_X9_copyBy.cc 186 = .ok (.return_, 1) := by decide +kernel
def L_X9_copyBy_59 (G : MG) (d : Nat) (Q : Mm → Prop) (o2 : Nat) (x3 : Int32) (x4 : Int32) (y5 : Int64) (y7 : Int64) (x9 : Int32) (M : Mm) : Prop := T G Y_X9_copyBy (d + 1) (Rv Q) 0 0 59 [(0, .ref (G.b + 126)), (2, .ref (G.b + o2)), (3, .int x3), (4, .int x4), (5, .long y5), (7, .long y7), (9, .int x9)] [] M
theorem b_X9_copyBy_59 {G : MG} {d : Nat} {Q : Mm → Prop} {o2 : Nat} {x3 : Int32} {x4 : Int32} {y5 : Int64} {y7 : Int64} {x9 : Int32} {M : Mm} {c : Nat} (hL : Lay c M) (ho2 : sh o2 = some (.inr 7)) (h : (vp_in x3 6 ∧ (((M.1 (o2 + 3) x3.toNatClampNeg) ≤ x9 → (vp_in x3 6 ∧ ∀ v2 : Int64, v2 = (((10 * y5) + (x4.toInt64 * y7)) * ((M.1 (o2 + 1) x3.toNatClampNeg).toInt64)) → (vp_in x3 6 ∧ (vp_in x3 6 ∧ (∀ M3 : Mm, M3 = sJ M 126 2 ((10 * (M.2.1 126 2)) * ((M.1 (o2 + 2) x3.toNatClampNeg).toInt64)) → (vp_in x3 6 ∧ (∀ M4 : Mm, M4 = sJ M3 126 0 ((((M3.1 (o2 + 4) x3.toNatClampNeg).toInt64) * (M3.2.1 126 2)) + v2) → (vp_in x3 6 ∧ (∀ M5 : Mm, M5 = sJ M4 126 1 ((((M4.1 (o2 + 5) x3.toNatClampNeg).toInt64) * (M4.2.1 126 2)) + ((10 * y7) * ((M.1 (o2 + 1) x3.toNatClampNeg).toInt64))) → Q M5))))))))) ∧ (¬ (M.1 (o2 + 3) x3.toNatClampNeg) ≤ x9 → L_X9_copyBy_59 G d Q o2 x3 x4 (-y7) y5 (x9 + 1) M)))) : L_X9_copyBy_59 G d Q o2 x3 x4 y5 y7 x9 M := by
  unfold L_X9_copyBy_59
  refine tw_iload 6 d_X9_copyBy_59 rfl ?_
  refine tw_aload_n 1 d_X9_copyBy_61 rfl rfl ?_
  refine tw_getR f_X9_51 hL ho2 ⟨rfl, rfl⟩ (rr_X7_2 ho2) d_X9_copyBy_62 ?_
  refine tw_iload_n 2 d_X9_copyBy_65 rfl rfl ?_
  refine tw_iald hL (sr_X7_2 ho2) d_X9_copyBy_66 h.1 ?_
  replace h := h.2
  refine tw_icmp_ge 89 d_X9_copyBy_67 (by decide) (fun z1 => ?_) (fun z1 => ?_)
  · replace h := h.1 z1
    refine tw_ldc2 d_X9_copyBy_89 mg693 ?_
    refine tw_lload 4 d_X9_copyBy_92 rfl ?_
    refine tw_lmul d_X9_copyBy_94 ?_
    refine tw_iload 3 d_X9_copyBy_95 rfl ?_
    refine tw_i2l d_X9_copyBy_97 ?_
    refine tw_lload 5 d_X9_copyBy_98 rfl ?_
    refine tw_lmul d_X9_copyBy_100 ?_
    refine tw_ladd d_X9_copyBy_101 ?_
    refine tw_aload_n 1 d_X9_copyBy_102 rfl rfl ?_
    refine tw_getR f_X9_56 hL ho2 ⟨rfl, rfl⟩ (rr_X7_0 ho2) d_X9_copyBy_103 ?_
    refine tw_iload_n 2 d_X9_copyBy_106 rfl rfl ?_
    refine tw_iald hL (sr_X7_0 ho2) d_X9_copyBy_107 h.1 ?_
    replace h := h.2
    refine tw_i2l d_X9_copyBy_108 ?_
    refine tw_lmul d_X9_copyBy_109 ?_
    refine tw_nmJ (fun v2 e_v2 => ?_)
    replace h := h v2 e_v2
    refine tw_lstore [(5, .long v2), (0, .ref (G.b + 126)), (2, .ref (G.b + o2)), (3, .int x3), (4, .int x4), (7, .long y7), (9, .int x9)] d_X9_copyBy_110 (Nat.le_of_ble_eq_true rfl) rfl ?_
    refine tw_ldc2 d_X9_copyBy_112 mg693 ?_
    refine tw_lload 5 d_X9_copyBy_115 rfl ?_
    refine tw_lmul d_X9_copyBy_117 ?_
    refine tw_aload_n 2 d_X9_copyBy_118 rfl rfl ?_
    refine tw_getR f_X9_56 hL ho2 ⟨rfl, rfl⟩ (rr_X7_0 ho2) d_X9_copyBy_119 ?_
    refine tw_iload_n 3 d_X9_copyBy_122 rfl rfl ?_
    refine tw_iald hL (sr_X7_0 ho2) d_X9_copyBy_123 h.1 ?_
    replace h := h.2
    refine tw_i2l d_X9_copyBy_124 ?_
    refine tw_lmul d_X9_copyBy_125 ?_
    refine tw_lstore [(7, .long ((10 * y7) * ((M.1 (o2 + 1) x3.toNatClampNeg).toInt64))), (5, .long v2), (0, .ref (G.b + 126)), (2, .ref (G.b + o2)), (3, .int x3), (4, .int x4), (9, .int x9)] d_X9_copyBy_126 (Nat.le_of_ble_eq_true rfl) rfl ?_
    refine tw_aload_n 2 d_X9_copyBy_128 rfl rfl ?_
    refine tw_ldc2 d_X9_copyBy_129 mg693 ?_
    refine tw_aload_n 2 d_X9_copyBy_132 rfl rfl ?_
    refine tw_getJ f_X9_18 hL s_126 rfl d_X9_copyBy_133 ?_
    refine tw_lmul d_X9_copyBy_136 ?_
    refine tw_aload_n 3 d_X9_copyBy_137 rfl rfl ?_
    refine tw_getR f_X9_59 hL ho2 ⟨rfl, rfl⟩ (rr_X7_1 ho2) d_X9_copyBy_138 ?_
    refine tw_iload_n 4 d_X9_copyBy_141 rfl rfl ?_
    refine tw_iald hL (sr_X7_1 ho2) d_X9_copyBy_142 h.1 ?_
    replace h := h.2
    refine tw_i2l d_X9_copyBy_143 ?_
    refine tw_lmul d_X9_copyBy_144 ?_
    refine tu_putJ f_X9_18 hL s_126 rfl rfl d_X9_copyBy_145 (fun M3 e_M3 hL_M3 => ?_)
    replace h := h M3 e_M3
    refine tw_aload_n 2 d_X9_copyBy_148 rfl rfl ?_
    refine tw_aload_n 3 d_X9_copyBy_149 rfl rfl ?_
    refine tw_getR f_X9_21 hL_M3 ho2 ⟨rfl, rfl⟩ (rr_X7_3 ho2) d_X9_copyBy_150 ?_
    refine tw_iload_n 4 d_X9_copyBy_153 rfl rfl ?_
    refine tw_iald hL_M3 (sr_X7_3 ho2) d_X9_copyBy_154 h.1 ?_
    replace h := h.2
    refine tw_i2l d_X9_copyBy_155 ?_
    refine tw_aload_n 2 d_X9_copyBy_156 rfl rfl ?_
    refine tw_getJ f_X9_18 hL_M3 s_126 rfl d_X9_copyBy_157 ?_
    refine tw_lmul d_X9_copyBy_160 ?_
    refine tw_lload 1 d_X9_copyBy_161 rfl ?_
    refine tw_ladd d_X9_copyBy_163 ?_
    refine tu_putJ f_X9_9 hL_M3 s_126 rfl rfl d_X9_copyBy_164 (fun M4 e_M4 hL_M4 => ?_)
    replace h := h M4 e_M4
    refine tw_aload_n 2 d_X9_copyBy_167 rfl rfl ?_
    refine tw_aload_n 3 d_X9_copyBy_168 rfl rfl ?_
    refine tw_getR f_X9_27 hL_M4 ho2 ⟨rfl, rfl⟩ (rr_X7_4 ho2) d_X9_copyBy_169 ?_
    refine tw_iload_n 4 d_X9_copyBy_172 rfl rfl ?_
    refine tw_iald hL_M4 (sr_X7_4 ho2) d_X9_copyBy_173 h.1 ?_
    replace h := h.2
    refine tw_i2l d_X9_copyBy_174 ?_
    refine tw_aload_n 2 d_X9_copyBy_175 rfl rfl ?_
    refine tw_getJ f_X9_18 hL_M4 s_126 rfl d_X9_copyBy_176 ?_
    refine tw_lmul d_X9_copyBy_179 ?_
    refine tw_lload 0 d_X9_copyBy_180 rfl ?_
    refine tw_ladd d_X9_copyBy_182 ?_
    refine tu_putJ f_X9_15 hL_M4 s_126 rfl rfl d_X9_copyBy_183 (fun M5 e_M5 hL_M5 => ?_)
    replace h := h M5 e_M5
    exact tw_vret rfl ⟨Nat.zero_le _, Nat.zero_le _⟩ d_X9_copyBy_186 h
  · replace h := h.2 z1
    refine tw_lload 4 d_X9_copyBy_70 rfl ?_
    refine tw_lstore [(10, .long y5), (0, .ref (G.b + 126)), (2, .ref (G.b + o2)), (3, .int x3), (4, .int x4), (5, .long y5), (7, .long y7), (9, .int x9)] d_X9_copyBy_72 (Nat.le_of_ble_eq_true rfl) rfl ?_
    refine tw_lload 6 d_X9_copyBy_74 rfl ?_
    refine tw_lneg d_X9_copyBy_76 ?_
    refine tw_lstore [(5, .long (-y7)), (10, .long y5), (0, .ref (G.b + 126)), (2, .ref (G.b + o2)), (3, .int x3), (4, .int x4), (7, .long y7), (9, .int x9)] d_X9_copyBy_77 (Nat.le_of_ble_eq_true rfl) rfl ?_
    refine tw_lload 1 d_X9_copyBy_79 rfl ?_
    refine tw_lstore [(7, .long y5), (5, .long (-y7)), (10, .long y5), (0, .ref (G.b + 126)), (2, .ref (G.b + o2)), (3, .int x3), (4, .int x4), (9, .int x9)] d_X9_copyBy_81 (Nat.le_of_ble_eq_true rfl) rfl ?_
    refine tw_iinc 7 [(9, .int (x9 + 1)), (7, .long y5), (5, .long (-y7)), (10, .long y5), (0, .ref (G.b + 126)), (2, .ref (G.b + o2)), (3, .int x3), (4, .int x4)] d_X9_copyBy_83 rfl rfl (Nat.le_of_ble_eq_true rfl) rfl ?_
    refine tw_goto 59 d_X9_copyBy_86 (by decide) ?_
    exact tw_lv [4, 5, 6, 7, 2, 1, 0] rfl h
theorem b_X9_copyBy {G : MG} {d : Nat} {Q : Mm → Prop} {o1 : Nat} {o2 : Nat} {x3 : Int32} {x4 : Int32} {M : Mm} {c : Nat} (hL : Lay c M) (ho1 : sh o1 = some (.inr 5)) (ho2 : sh o2 = some (.inr 7)) (h : (vp_in x3 6 ∧ ∀ v1 : Int64, v1 = ((M.2.1 126 0) - (((M.1 (o2 + 4) x3.toNatClampNeg).toInt64) * (M.2.1 126 2))) → (vp_in x3 6 ∧ ∀ v2 : Int64, v2 = ((M.2.1 126 1) - (((M.1 (o2 + 5) x3.toNatClampNeg).toInt64) * (M.2.1 126 2))) → (vp_in x3 6 ∧ ((¬ (M.1 ((o1 + 1) + 2 + 2 * x3.toNatClampNeg) 1) = 1 → L_X9_copyBy_59 G d Q o2 x3 x4 v1 v2 0 M) ∧ ((M.1 ((o1 + 1) + 2 + 2 * x3.toNatClampNeg) 1) = 1 → L_X9_copyBy_59 G d Q o2 x3 x4 (-v1) v2 0 M)))))) : C G Y_X9_copyBy (d + 1) [.ref (G.b + 126), .ref (G.b + o1), .ref (G.b + o2), .int x3, .int x4] M (Rv Q) := by
  refine C.of (by decide) (Nat.le_of_ble_eq_true rfl) (lv := [(0, .ref (G.b + 126)), (1, .ref (G.b + o1)), (2, .ref (G.b + o2)), (3, .int x3), (4, .int x4)]) rfl ?_
  refine tw_aload_n 0 d_X9_copyBy_0 rfl rfl ?_
  refine tw_getJ f_X9_9 hL s_126 rfl d_X9_copyBy_1 ?_
  refine tw_aload_n 2 d_X9_copyBy_4 rfl rfl ?_
  refine tw_getR f_X9_21 hL ho2 ⟨rfl, rfl⟩ (rr_X7_3 ho2) d_X9_copyBy_5 ?_
  refine tw_iload_n 3 d_X9_copyBy_8 rfl rfl ?_
  refine tw_iald hL (sr_X7_3 ho2) d_X9_copyBy_9 h.1 ?_
  replace h := h.2
  refine tw_i2l d_X9_copyBy_10 ?_
  refine tw_aload_n 0 d_X9_copyBy_11 rfl rfl ?_
  refine tw_getJ f_X9_18 hL s_126 rfl d_X9_copyBy_12 ?_
  refine tw_lmul d_X9_copyBy_15 ?_
  refine tw_lsub d_X9_copyBy_16 ?_
  refine tw_nmJ (fun v1 e_v1 => ?_)
  replace h := h v1 e_v1
  refine tw_lstore [(5, .long v1), (0, .ref (G.b + 126)), (1, .ref (G.b + o1)), (2, .ref (G.b + o2)), (3, .int x3), (4, .int x4)] d_X9_copyBy_17 (Nat.le_of_ble_eq_true rfl) rfl ?_
  refine tw_aload_n 1 d_X9_copyBy_19 rfl rfl ?_
  refine tw_getJ f_X9_15 hL s_126 rfl d_X9_copyBy_20 ?_
  refine tw_aload_n 3 d_X9_copyBy_23 rfl rfl ?_
  refine tw_getR f_X9_27 hL ho2 ⟨rfl, rfl⟩ (rr_X7_4 ho2) d_X9_copyBy_24 ?_
  refine tw_iload_n 4 d_X9_copyBy_27 rfl rfl ?_
  refine tw_iald hL (sr_X7_4 ho2) d_X9_copyBy_28 h.1 ?_
  replace h := h.2
  refine tw_i2l d_X9_copyBy_29 ?_
  refine tw_aload_n 1 d_X9_copyBy_30 rfl rfl ?_
  refine tw_getJ f_X9_18 hL s_126 rfl d_X9_copyBy_31 ?_
  refine tw_lmul d_X9_copyBy_34 ?_
  refine tw_lsub d_X9_copyBy_35 ?_
  refine tw_nmJ (fun v2 e_v2 => ?_)
  replace h := h v2 e_v2
  refine tw_lstore [(7, .long v2), (5, .long v1), (0, .ref (G.b + 126)), (1, .ref (G.b + o1)), (2, .ref (G.b + o2)), (3, .int x3), (4, .int x4)] d_X9_copyBy_36 (Nat.le_of_ble_eq_true rfl) rfl ?_
  refine tw_aload_n 3 d_X9_copyBy_38 rfl rfl ?_
  refine tw_getR f_X9_36 hL ho1 ⟨rfl, rfl⟩ (rr_X5_0 ho1) d_X9_copyBy_39 ?_
  refine tw_iload_n 5 d_X9_copyBy_42 rfl rfl ?_
  have hin := h.1
  refine tw_aald hL (sr_X5_0 ho1) (by decide) (re_4 (sr_X5_0 ho1)) d_X9_copyBy_43 h.1 ?_
  have hs3 := se_4 (sr_X5_0 ho1) (vp_lt h.1)
  replace h := h.2
  refine tw_getI f_X9_48 hL hs3 (Or.inl rfl) d_X9_copyBy_44 ?_
  refine tw_iconst d_X9_copyBy_47 k_1 ?_
  refine tw_icmp_ne 56 d_X9_copyBy_48 (by decide) (fun z4 => ?_) (fun z4 => ?_)
  · replace h := h.1 z4
    refine tw_iconst d_X9_copyBy_56 k_0 ?_
    refine tw_istore [(9, .int 0), (7, .long v2), (5, .long v1), (0, .ref (G.b + 126)), (1, .ref (G.b + o1)), (2, .ref (G.b + o2)), (3, .int x3), (4, .int x4)] d_X9_copyBy_57 (Nat.le_of_ble_eq_true rfl) rfl ?_
    exact tw_lv [3, 5, 6, 7, 2, 1, 0] rfl h
  · replace h := h.2 z4
    refine tw_lload 1 d_X9_copyBy_51 rfl ?_
    refine tw_lneg d_X9_copyBy_53 ?_
    refine tw_lstore [(5, .long (-v1)), (7, .long v2), (0, .ref (G.b + 126)), (1, .ref (G.b + o1)), (2, .ref (G.b + o2)), (3, .int x3), (4, .int x4)] d_X9_copyBy_54 (Nat.le_of_ble_eq_true rfl) rfl ?_
    refine tw_iconst d_X9_copyBy_56 k_0 ?_
    refine tw_istore [(9, .int 0), (5, .long (-v1)), (7, .long v2), (0, .ref (G.b + 126)), (1, .ref (G.b + o1)), (2, .ref (G.b + o2)), (3, .int x3), (4, .int x4)] d_X9_copyBy_57 (Nat.le_of_ble_eq_true rfl) rfl ?_
    exact tw_lv [3, 5, 6, 7, 1, 2, 0] rfl h

theorem d_X9_isAt_0 : decode Y_X9_isAt.cc 0 = .ok (.aload_n 0, 1) := by decide +kernel
theorem d_X9_isAt_1 : decode Y_X9_isAt.cc 1 = .ok (.getfield 9, 3) := by decide +kernel
theorem d_X9_isAt_4 : decode Y_X9_isAt.cc 4 = .ok (.iload_n 1, 1) := by decide +kernel
theorem d_X9_isAt_5 : decode Y_X9_isAt.cc 5 = .ok (.i2l, 1) := by decide +kernel
theorem d_X9_isAt_6 : decode Y_X9_isAt.cc 6 = .ok (.aload_n 0, 1) := by decide +kernel
theorem d_X9_isAt_7 : decode Y_X9_isAt.cc 7 = .ok (.getfield 18, 3) := by decide +kernel
theorem d_X9_isAt_10 : decode Y_X9_isAt.cc 10 = .ok (.lmul, 1) := by decide +kernel
theorem d_X9_isAt_11 : decode Y_X9_isAt.cc 11 = .ok (.lcmp, 1) := by decide +kernel
theorem d_X9_isAt_12 : decode Y_X9_isAt.cc 12 = .ok (.ifCond .ne 22, 3) := by decide +kernel
theorem d_X9_isAt_15 : decode Y_X9_isAt.cc 15 = .ok (.aload_n 0, 1) := by decide +kernel
theorem d_X9_isAt_16 : decode Y_X9_isAt.cc 16 = .ok (.getfield 15, 3) := by decide +kernel
theorem d_X9_isAt_19 : decode Y_X9_isAt.cc 19 = .ok (.iload_n 2, 1) := by decide +kernel
theorem d_X9_isAt_20 : decode Y_X9_isAt.cc 20 = .ok (.i2l, 1) := by decide +kernel
theorem d_X9_isAt_21 : decode Y_X9_isAt.cc 21 = .ok (.aload_n 0, 1) := by decide +kernel
theorem d_X9_isAt_22 : decode Y_X9_isAt.cc 22 = .ok (.getfield 18, 3) := by decide +kernel
theorem d_X9_isAt_25 : decode Y_X9_isAt.cc 25 = .ok (.lmul, 1) := by decide +kernel
theorem d_X9_isAt_26 : decode Y_X9_isAt.cc 26 = .ok (.lcmp, 1) := by decide +kernel
theorem d_X9_isAt_27 : decode Y_X9_isAt.cc 27 = .ok (.ifCond .ne 7, 3) := by decide +kernel
theorem d_X9_isAt_30 : decode Y_X9_isAt.cc 30 = .ok (.iconst 1, 1) := by decide +kernel
theorem d_X9_isAt_31 : decode Y_X9_isAt.cc 31 = .ok (.goto 4, 3) := by decide +kernel
theorem d_X9_isAt_34 : decode Y_X9_isAt.cc 34 = .ok (.iconst 0, 1) := by decide +kernel
theorem d_X9_isAt_35 : decode Y_X9_isAt.cc 35 = .ok (.ireturn, 1) := by decide +kernel
theorem b_X9_isAt {G : MG} {d : Nat} {Q : Int32 → Mm → Prop} {x1 : Int32} {x2 : Int32} {M : Mm} {c : Nat} (hL : Lay c M)  (h : ((¬ (M.2.1 126 0) = (x1.toInt64 * (M.2.1 126 2)) → Q 0 M) ∧ ((M.2.1 126 0) = (x1.toInt64 * (M.2.1 126 2)) → ((¬ (M.2.1 126 1) = (x2.toInt64 * (M.2.1 126 2)) → Q 0 M) ∧ ((M.2.1 126 1) = (x2.toInt64 * (M.2.1 126 2)) → Q 1 M))))) : C G Y_X9_isAt (d + 1) [.ref (G.b + 126), .int x1, .int x2] M (Ri Q) := by
  refine C.of (by decide) (Nat.le_of_ble_eq_true rfl) (lv := [(0, .ref (G.b + 126)), (1, .int x1), (2, .int x2)]) rfl ?_
  refine tw_aload_n 0 d_X9_isAt_0 rfl rfl ?_
  refine tw_getJ f_X9_9 hL s_126 rfl d_X9_isAt_1 ?_
  refine tw_iload_n 1 d_X9_isAt_4 rfl rfl ?_
  refine tw_i2l d_X9_isAt_5 ?_
  refine tw_aload_n 0 d_X9_isAt_6 rfl rfl ?_
  refine tw_getJ f_X9_18 hL s_126 rfl d_X9_isAt_7 ?_
  refine tw_lmul d_X9_isAt_10 ?_
  refine tw_lcmp_ne 34 d_X9_isAt_11 d_X9_isAt_12 (by decide) (fun z1 => ?_) (fun z1 => ?_)
  · replace h := h.1 z1
    refine tw_iconst d_X9_isAt_34 k_0 ?_
    exact tw_zret (ty := .boolean) rfl rfl ⟨Nat.zero_le _, Nat.zero_le _⟩ d_X9_isAt_35 h
  · replace h := h.2 z1
    refine tw_aload_n 0 d_X9_isAt_15 rfl rfl ?_
    refine tw_getJ f_X9_15 hL s_126 rfl d_X9_isAt_16 ?_
    refine tw_iload_n 2 d_X9_isAt_19 rfl rfl ?_
    refine tw_i2l d_X9_isAt_20 ?_
    refine tw_aload_n 0 d_X9_isAt_21 rfl rfl ?_
    refine tw_getJ f_X9_18 hL s_126 rfl d_X9_isAt_22 ?_
    refine tw_lmul d_X9_isAt_25 ?_
    refine tw_lcmp_ne 34 d_X9_isAt_26 d_X9_isAt_27 (by decide) (fun z2 => ?_) (fun z2 => ?_)
    · replace h := h.1 z2
      refine tw_iconst d_X9_isAt_34 k_0 ?_
      exact tw_zret (ty := .boolean) rfl rfl ⟨Nat.zero_le _, Nat.zero_le _⟩ d_X9_isAt_35 h
    · replace h := h.2 z2
      refine tw_iconst d_X9_isAt_30 k_1 ?_
      refine tw_goto 35 d_X9_isAt_31 (by decide) ?_
      exact tw_zret (ty := .boolean) rfl rfl ⟨Nat.zero_le _, Nat.zero_le _⟩ d_X9_isAt_35 h

theorem d_X9_part_0 : decode Y_X9_part.cc 0 = .ok (.iload_n 1, 1) := by decide +kernel
theorem d_X9_part_1 : decode Y_X9_part.cc 1 = .ok (.iconst 2, 1) := by decide +kernel
theorem d_X9_part_2 : decode Y_X9_part.cc 2 = .ok (.if_icmp .ge 10, 3) := by decide +kernel
theorem d_X9_part_5 : decode Y_X9_part.cc 5 = .ok (.aload_n 0, 1) := by decide +kernel
theorem d_X9_part_6 : decode Y_X9_part.cc 6 = .ok (.getfield 9, 3) := by decide +kernel
theorem d_X9_part_9 : decode Y_X9_part.cc 9 = .ok (.goto 7, 3) := by decide +kernel
theorem d_X9_part_12 : decode Y_X9_part.cc 12 = .ok (.aload_n 0, 1) := by decide +kernel
theorem d_X9_part_13 : decode Y_X9_part.cc 13 = .ok (.getfield 15, 3) := by decide +kernel
theorem d_X9_part_16 : decode Y_X9_part.cc 16 = .ok (.lstore_n 2, 1) := by decide +kernel
theorem d_X9_part_17 : decode Y_X9_part.cc 17 = .ok (.iload_n 1, 1) := by decide +kernel
theorem d_X9_part_18 : decode Y_X9_part.cc 18 = .ok (.iconst 2, 1) := by decide +kernel
theorem d_X9_part_19 : decode Y_X9_part.cc 19 = .ok (.irem, 1) := by decide +kernel
theorem d_X9_part_20 : decode Y_X9_part.cc 20 = .ok (.ifCond .ne 14, 3) := by decide +kernel
theorem d_X9_part_23 : decode Y_X9_part.cc 23 = .ok (.lload_n 2, 1) := by decide +kernel
theorem d_X9_part_24 : decode Y_X9_part.cc 24 = .ok (.aload_n 0, 1) := by decide +kernel
theorem d_X9_part_25 : decode Y_X9_part.cc 25 = .ok (.getfield 18, 3) := by decide +kernel
theorem d_X9_part_28 : decode Y_X9_part.cc 28 = .ok (.invokestatic 62, 3) := by decide +kernel
theorem d_X9_part_31 : decode Y_X9_part.cc 31 = .ok (.goto 11, 3) := by decide +kernel
theorem d_X9_part_34 : decode Y_X9_part.cc 34 = .ok (.aload_n 0, 1) := by decide +kernel
theorem d_X9_part_35 : decode Y_X9_part.cc 35 = .ok (.getfield 18, 3) := by decide +kernel
theorem d_X9_part_38 : decode Y_X9_part.cc 38 = .ok (.lload_n 2, 1) := by decide +kernel
theorem d_X9_part_39 : decode Y_X9_part.cc 39 = .ok (.invokestatic 62, 3) := by decide +kernel
theorem d_X9_part_42 : decode Y_X9_part.cc 42 = .ok (.lreturn, 1) := by decide +kernel
def L_X9_part_16 (G : MG) (d : Nat) (Q : Int64 → Mm → Prop) (x1 : Int32) (sy0 : Int64) (M : Mm) : Prop := T G Y_X9_part (d + 1) (Rj Q) 0 0 16 [(0, .ref (G.b + 126)), (1, .int x1)] [.long sy0] M
theorem b_X9_part_16 {G : MG} {d : Nat} {Q : Int64 → Mm → Prop} {x1 : Int32} {sy0 : Int64} {M : Mm} {c : Nat} (hL : Lay c M) (hx_n62 : ∀ U, G.X U → va_Nw (.methodLinkNest RX9 62 yX11_inLowestTerms "CopyArms") U)  (h : ((¬ (x1 - x1 / 2 * 2) = 0 → (C G Y_X11_inLowestTerms d [.long (M.2.1 126 2), .long sy0] M (Rj fun r3 M2 => M2.2.2 = M.2.2 ∧ Q r3 M2))) ∧ ((x1 - x1 / 2 * 2) = 0 → (C G Y_X11_inLowestTerms d [.long sy0, .long (M.2.1 126 2)] M (Rj fun r5 M4 => M4.2.2 = M.2.2 ∧ Q r5 M4))))) : L_X9_part_16 G d Q x1 sy0 M := by
  unfold L_X9_part_16
  refine tw_lstore_n [(2, .long sy0), (0, .ref (G.b + 126)), (1, .int x1)] d_X9_part_16 rfl (Nat.le_of_ble_eq_true rfl) rfl ?_
  refine tw_iload_n 2 d_X9_part_17 rfl rfl ?_
  refine tw_iconst d_X9_part_18 k_2 ?_
  refine tw_irem d_X9_part_19 (by decide) ?_
  refine tw_if_ne 34 d_X9_part_20 (by decide) (fun z1 => ?_) (fun z1 => ?_)
  · replace h := h.1 z1
    refine tw_aload_n 1 d_X9_part_34 rfl rfl ?_
    refine tw_getJ f_X9_18 hL s_126 rfl d_X9_part_35 ?_
    refine tw_lload_n 0 d_X9_part_38 rfl rfl ?_
    refine tu_cNJ (As := [.long (M.2.1 126 2), .long sy0]) cn_X11_inLowestTerms hx_n62 rfl (Nat.le_of_ble_eq_true rfl) ⟨Nat.zero_le _, Nat.zero_le _⟩ d_X9_part_39 h (fun r3 M2 h => ?_)
    have hL_M2 : Lay c M2 := hL.to h.1
    replace h := h.2
    exact tw_lret rfl ⟨Nat.zero_le _, Nat.zero_le _⟩ d_X9_part_42 h
  · replace h := h.2 z1
    refine tw_lload_n 0 d_X9_part_23 rfl rfl ?_
    refine tw_aload_n 1 d_X9_part_24 rfl rfl ?_
    refine tw_getJ f_X9_18 hL s_126 rfl d_X9_part_25 ?_
    refine tu_cNJ (As := [.long sy0, .long (M.2.1 126 2)]) cn_X11_inLowestTerms hx_n62 rfl (Nat.le_of_ble_eq_true rfl) ⟨Nat.zero_le _, Nat.zero_le _⟩ d_X9_part_28 h (fun r5 M4 h => ?_)
    have hL_M4 : Lay c M4 := hL.to h.1
    replace h := h.2
    refine tw_goto 42 d_X9_part_31 (by decide) ?_
    exact tw_lret rfl ⟨Nat.zero_le _, Nat.zero_le _⟩ d_X9_part_42 h
theorem b_X9_part {G : MG} {d : Nat} {Q : Int64 → Mm → Prop} {x1 : Int32} {M : Mm} {c : Nat} (hL : Lay c M) (hx_n62 : ∀ U, G.X U → va_Nw (.methodLinkNest RX9 62 yX11_inLowestTerms "CopyArms") U)  (h : ((2 ≤ x1 → L_X9_part_16 G d Q x1 (M.2.1 126 1) M) ∧ (¬ 2 ≤ x1 → L_X9_part_16 G d Q x1 (M.2.1 126 0) M))) : C G Y_X9_part (d + 1) [.ref (G.b + 126), .int x1] M (Rj Q) := by
  refine C.of (by decide) (Nat.le_of_ble_eq_true rfl) (lv := [(0, .ref (G.b + 126)), (1, .int x1)]) rfl ?_
  refine tw_iload_n 1 d_X9_part_0 rfl rfl ?_
  refine tw_iconst d_X9_part_1 k_2 ?_
  refine tw_icmp_ge 12 d_X9_part_2 (by decide) (fun z1 => ?_) (fun z1 => ?_)
  · replace h := h.1 z1
    refine tw_aload_n 0 d_X9_part_12 rfl rfl ?_
    refine tw_getJ f_X9_15 hL s_126 rfl d_X9_part_13 ?_
    exact tw_lv [0, 1] rfl h
  · replace h := h.2 z1
    refine tw_aload_n 0 d_X9_part_5 rfl rfl ?_
    refine tw_getJ f_X9_9 hL s_126 rfl d_X9_part_6 ?_
    refine tw_goto 16 d_X9_part_9 (by decide) ?_
    exact tw_lv [0, 1] rfl h
