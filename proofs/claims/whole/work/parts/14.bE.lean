theorem d_X12_thrown_0 : decode Y_X12_thrown.cc 0 = .ok (.aload_n 0, 1) := by decide +kernel
theorem d_X12_thrown_1 : decode Y_X12_thrown.cc 1 = .ok (.getfield 1, 3) := by decide +kernel
theorem d_X12_thrown_4 : decode Y_X12_thrown.cc 4 = .ok (.ireturn, 1) := by decide +kernel
theorem b_X12_thrown {G : MG} {d : Nat} {Q : Int32 → Mm → Prop}  {M : Mm} {c : Nat} (hL : Lay c M)  (h : Q (M.1 147 0) M) : C G Y_X12_thrown (d + 1) [.ref (G.b + 147)] M (Ri Q) := by
  refine C.of (by decide) (Nat.le_of_ble_eq_true rfl) (lv := [(0, .ref (G.b + 147))]) rfl ?_
  refine tw_aload_n 0 d_X12_thrown_0 rfl rfl ?_
  refine tw_getI f_X12_1 hL s_147 (Or.inl rfl) d_X12_thrown_1 ?_
  exact tw_iret rfl ⟨Nat.zero_le _, Nat.zero_le _⟩ d_X12_thrown_4 h

theorem d_X12_feed_0 : decode Y_X12_feed.cc 0 = .ok (.aload_n 0, 1) := by decide +kernel
theorem d_X12_feed_1 : decode Y_X12_feed.cc 1 = .ok (.iconst 0, 1) := by decide +kernel
theorem d_X12_feed_2 : decode Y_X12_feed.cc 2 = .ok (.putfield 1, 3) := by decide +kernel
theorem d_X12_feed_5 : decode Y_X12_feed.cc 5 = .ok (.aload_n 0, 1) := by decide +kernel
theorem d_X12_feed_6 : decode Y_X12_feed.cc 6 = .ok (.lload_n 1, 1) := by decide +kernel
theorem d_X12_feed_7 : decode Y_X12_feed.cc 7 = .ok (.invokevirtual 7, 3) := by decide +kernel
theorem d_X12_feed_10 : decode Y_X12_feed.cc 10 = .ok (.aload_n 0, 1) := by decide +kernel
theorem d_X12_feed_11 : decode Y_X12_feed.cc 11 = .ok (.lload_n 3, 1) := by decide +kernel
theorem d_X12_feed_12 : decode Y_X12_feed.cc 12 = .ok (.invokevirtual 7, 3) := by decide +kernel
theorem d_X12_feed_15 : decode Y_X12_feed.cc 15 = .ok (.aload_n 0, 1) := by decide +kernel
theorem d_X12_feed_16 : decode Y_X12_feed.cc 16 = .ok (.lload 5, 2) := by decide +kernel
theorem d_X12_feed_18 : decode Y_X12_feed.cc 18 = .ok (.invokevirtual 7, 3) := by decide +kernel
theorem d_X12_feed_21 : decode Y_X12_feed.cc 21 = .ok (.aload_n 0, 1) := by decide +kernel
theorem d_X12_feed_22 : decode Y_X12_feed.cc 22 = .ok (.getfield 11, 3) := by decide +kernel
theorem d_X12_feed_25 : decode Y_X12_feed.cc 25 = .ok (.ireturn, 1) := by decide +kernel
theorem b_X12_feed {G : MG} {d : Nat} {Q : Int32 → Mm → Prop} {y1 : Int64} {y3 : Int64} {y5 : Int64} {M : Mm} {c : Nat} (hL : Lay c M)  (h : (∀ M1 : Mm, M1 = sI M 147 0 0 → (C G Y_X12_lay d [.ref (G.b + 147), .long y1] M1 (Rv fun M2 => M2.2.2 = M1.2.2 ∧ (C G Y_X12_lay d [.ref (G.b + 147), .long y3] M2 (Rv fun M3 => M3.2.2 = M2.2.2 ∧ (C G Y_X12_lay d [.ref (G.b + 147), .long y5] M3 (Rv fun M4 => M4.2.2 = M3.2.2 ∧ Q (M4.1 147 2) M4)))))))) : C G Y_X12_feed (d + 1) [.ref (G.b + 147), .long y1, .long y3, .long y5] M (Ri Q) := by
  refine C.of (by decide) (Nat.le_of_ble_eq_true rfl) (lv := [(0, .ref (G.b + 147)), (1, .long y1), (3, .long y3), (5, .long y5)]) rfl ?_
  refine tw_aload_n 0 d_X12_feed_0 rfl rfl ?_
  refine tw_iconst d_X12_feed_1 k_0 ?_
  refine tu_putI f_X12_1 hL s_147 rfl rfl d_X12_feed_2 (fun M1 e_M1 hL_M1 => ?_)
  replace h := h M1 e_M1
  refine tw_aload_n 0 d_X12_feed_5 rfl rfl ?_
  refine tw_lload_n 1 d_X12_feed_6 rfl rfl ?_
  refine tu_cVv (As := [.long y1]) cv_X12_7 hL_M1 s_147 rfl (Nat.le_of_ble_eq_true rfl) ⟨Nat.zero_le _, Nat.zero_le _⟩ d_X12_feed_7 h (fun M2 h => ?_)
  have hL_M2 : Lay c M2 := hL_M1.to h.1
  replace h := h.2
  refine tw_aload_n 0 d_X12_feed_10 rfl rfl ?_
  refine tw_lload_n 2 d_X12_feed_11 rfl rfl ?_
  refine tu_cVv (As := [.long y3]) cv_X12_7 hL_M2 s_147 rfl (Nat.le_of_ble_eq_true rfl) ⟨Nat.zero_le _, Nat.zero_le _⟩ d_X12_feed_12 h (fun M3 h => ?_)
  have hL_M3 : Lay c M3 := hL_M2.to h.1
  replace h := h.2
  refine tw_aload_n 0 d_X12_feed_15 rfl rfl ?_
  refine tw_lload 3 d_X12_feed_16 rfl ?_
  refine tu_cVv (As := [.long y5]) cv_X12_7 hL_M3 s_147 rfl (Nat.le_of_ble_eq_true rfl) ⟨Nat.zero_le _, Nat.zero_le _⟩ d_X12_feed_18 h (fun M4 h => ?_)
  have hL_M4 : Lay c M4 := hL_M3.to h.1
  replace h := h.2
  refine tw_aload_n 0 d_X12_feed_21 rfl rfl ?_
  refine tw_getI f_X12_11 hL_M4 s_147 (Or.inl rfl) d_X12_feed_22 ?_
  exact tw_iret rfl ⟨Nat.zero_le _, Nat.zero_le _⟩ d_X12_feed_25 h

theorem d_X12_lay_0 : decode Y_X12_lay.cc 0 = .ok (.bipush 56, 2) := by decide +kernel
theorem d_X12_lay_2 : decode Y_X12_lay.cc 2 = .ok (.istore_n 3, 1) := by decide +kernel
theorem d_X12_lay_3 : decode Y_X12_lay.cc 3 = .ok (.iload_n 3, 1) := by decide +kernel
theorem d_X12_lay_4 : decode Y_X12_lay.cc 4 = .ok (.ifCond .lt 71, 3) := by decide +kernel
theorem d_X12_lay_7 : decode Y_X12_lay.cc 7 = .ok (.lload_n 1, 1) := by decide +kernel
theorem d_X12_lay_8 : decode Y_X12_lay.cc 8 = .ok (.iload_n 3, 1) := by decide +kernel
theorem d_X12_lay_9 : decode Y_X12_lay.cc 9 = .ok (.lshr, 1) := by decide +kernel
theorem d_X12_lay_10 : decode Y_X12_lay.cc 10 = .ok (.l2i, 1) := by decide +kernel
theorem d_X12_lay_11 : decode Y_X12_lay.cc 11 = .ok (.sipush 255, 3) := by decide +kernel
theorem d_X12_lay_14 : decode Y_X12_lay.cc 14 = .ok (.iand, 1) := by decide +kernel
theorem d_X12_lay_15 : decode Y_X12_lay.cc 15 = .ok (.istore 4, 2) := by decide +kernel
theorem d_X12_lay_17 : decode Y_X12_lay.cc 17 = .ok (.iload 4, 2) := by decide +kernel
theorem d_X12_lay_19 : decode Y_X12_lay.cc 19 = .ok (.bipush 10, 2) := by decide +kernel
theorem d_X12_lay_21 : decode Y_X12_lay.cc 21 = .ok (.if_icmp .eq 17, 3) := by decide +kernel
theorem d_X12_lay_24 : decode Y_X12_lay.cc 24 = .ok (.iload 4, 2) := by decide +kernel
theorem d_X12_lay_26 : decode Y_X12_lay.cc 26 = .ok (.bipush 32, 2) := by decide +kernel
theorem d_X12_lay_28 : decode Y_X12_lay.cc 28 = .ok (.if_icmp .lt 41, 3) := by decide +kernel
theorem d_X12_lay_31 : decode Y_X12_lay.cc 31 = .ok (.iload 4, 2) := by decide +kernel
theorem d_X12_lay_33 : decode Y_X12_lay.cc 33 = .ok (.bipush 126, 2) := by decide +kernel
theorem d_X12_lay_35 : decode Y_X12_lay.cc 35 = .ok (.if_icmp .gt 34, 3) := by decide +kernel
theorem d_X12_lay_38 : decode Y_X12_lay.cc 38 = .ok (.aload_n 0, 1) := by decide +kernel
theorem d_X12_lay_39 : decode Y_X12_lay.cc 39 = .ok (.getfield 11, 3) := by decide +kernel
theorem d_X12_lay_42 : decode Y_X12_lay.cc 42 = .ok (.sipush 1000, 3) := by decide +kernel
theorem d_X12_lay_45 : decode Y_X12_lay.cc 45 = .ok (.if_icmp .ge 24, 3) := by decide +kernel
theorem d_X12_lay_48 : decode Y_X12_lay.cc 48 = .ok (.aload_n 0, 1) := by decide +kernel
theorem d_X12_lay_49 : decode Y_X12_lay.cc 49 = .ok (.getfield 14, 3) := by decide +kernel
theorem d_X12_lay_52 : decode Y_X12_lay.cc 52 = .ok (.aload_n 0, 1) := by decide +kernel
theorem d_X12_lay_53 : decode Y_X12_lay.cc 53 = .ok (.getfield 11, 3) := by decide +kernel
theorem d_X12_lay_56 : decode Y_X12_lay.cc 56 = .ok (.iload 4, 2) := by decide +kernel
theorem d_X12_lay_58 : decode Y_X12_lay.cc 58 = .ok (.iastore, 1) := by decide +kernel
theorem d_X12_lay_59 : decode Y_X12_lay.cc 59 = .ok (.aload_n 0, 1) := by decide +kernel
theorem d_X12_lay_60 : decode Y_X12_lay.cc 60 = .ok (.dup, 1) := by decide +kernel
theorem d_X12_lay_61 : decode Y_X12_lay.cc 61 = .ok (.getfield 11, 3) := by decide +kernel
theorem d_X12_lay_64 : decode Y_X12_lay.cc 64 = .ok (.iconst 1, 1) := by decide +kernel
theorem d_X12_lay_65 : decode Y_X12_lay.cc 65 = .ok (.iadd, 1) := by decide +kernel
theorem d_X12_lay_66 : decode Y_X12_lay.cc 66 = .ok (.putfield 11, 3) := by decide +kernel
theorem d_X12_lay_69 : decode Y_X12_lay.cc 69 = .ok (.iinc 3 (-8), 3) := by decide +kernel
theorem d_X12_lay_72 : decode Y_X12_lay.cc 72 = .ok (.goto (-69), 3) := by decide +kernel
theorem d_X12_lay_75 : decode Y_X12_lay.cc 75 = .ok (.return_, 1) := by decide +kernel
def L_X12_lay_3 (G : MG) (d : Nat) (Q : Mm → Prop) (y1 : Int64) (x3 : Int32) (M : Mm) : Prop := T G Y_X12_lay (d + 1) (Rv Q) 0 0 3 [(0, .ref (G.b + 147)), (1, .long y1), (3, .int x3)] [] M
def L_X12_lay_38 (G : MG) (d : Nat) (Q : Mm → Prop) (y1 : Int64) (x3 : Int32) (x4 : Int32) (M : Mm) : Prop := T G Y_X12_lay (d + 1) (Rv Q) 0 0 38 [(0, .ref (G.b + 147)), (1, .long y1), (3, .int x3), (4, .int x4)] [] M
theorem b_X12_lay_3 {G : MG} {d : Nat} {Q : Mm → Prop} {y1 : Int64} {x3 : Int32} {M : Mm} {c : Nat} (hL : Lay c M)  (h : ((x3 < 0 → Q M) ∧ (¬ x3 < 0 → (((((y1 >>> (x3.toInt64 &&& 63)).toInt32) &&& 255) = 10 → L_X12_lay_38 G d Q y1 x3 (((y1 >>> (x3.toInt64 &&& 63)).toInt32) &&& 255) M) ∧ (¬ (((y1 >>> (x3.toInt64 &&& 63)).toInt32) &&& 255) = 10 → (((((y1 >>> (x3.toInt64 &&& 63)).toInt32) &&& 255) < 32 → L_X12_lay_3 G d Q y1 (x3 + (-8)) M) ∧ (¬ (((y1 >>> (x3.toInt64 &&& 63)).toInt32) &&& 255) < 32 → ((126 < (((y1 >>> (x3.toInt64 &&& 63)).toInt32) &&& 255) → L_X12_lay_3 G d Q y1 (x3 + (-8)) M) ∧ (¬ 126 < (((y1 >>> (x3.toInt64 &&& 63)).toInt32) &&& 255) → L_X12_lay_38 G d Q y1 x3 (((y1 >>> (x3.toInt64 &&& 63)).toInt32) &&& 255) M))))))))) : L_X12_lay_3 G d Q y1 x3 M := by
  unfold L_X12_lay_3
  refine tw_iload_n 2 d_X12_lay_3 rfl rfl ?_
  refine tw_if_lt 75 d_X12_lay_4 (by decide) (fun z1 => ?_) (fun z1 => ?_)
  · replace h := h.1 z1
    exact tw_vret rfl ⟨Nat.zero_le _, Nat.zero_le _⟩ d_X12_lay_75 h
  · replace h := h.2 z1
    refine tw_lload_n 1 d_X12_lay_7 rfl rfl ?_
    refine tw_iload_n 2 d_X12_lay_8 rfl rfl ?_
    refine tw_lshr d_X12_lay_9 ?_
    refine tw_l2i d_X12_lay_10 ?_
    refine tw_sipush d_X12_lay_11 ks_255 ?_
    refine tw_iand d_X12_lay_14 ?_
    refine tw_istore [(4, .int (((y1 >>> (x3.toInt64 &&& 63)).toInt32) &&& 255)), (0, .ref (G.b + 147)), (1, .long y1), (3, .int x3)] d_X12_lay_15 (Nat.le_of_ble_eq_true rfl) rfl ?_
    refine tw_iload 0 d_X12_lay_17 rfl ?_
    refine tw_bipush d_X12_lay_19 kb_10 ?_
    refine tw_icmp_eq 38 d_X12_lay_21 (by decide) (fun z2 => ?_) (fun z2 => ?_)
    · replace h := h.1 z2
      exact tw_lv [1, 2, 3, 0] rfl h
    · replace h := h.2 z2
      refine tw_iload 0 d_X12_lay_24 rfl ?_
      refine tw_bipush d_X12_lay_26 kb_32 ?_
      refine tw_icmp_lt 69 d_X12_lay_28 (by decide) (fun z3 => ?_) (fun z3 => ?_)
      · replace h := h.1 z3
        refine tw_iinc 3 [(3, .int (x3 + (-8))), (4, .int (((y1 >>> (x3.toInt64 &&& 63)).toInt32) &&& 255)), (0, .ref (G.b + 147)), (1, .long y1)] d_X12_lay_69 rfl rfl (Nat.le_of_ble_eq_true rfl) rfl ?_
        refine tw_goto 3 d_X12_lay_72 (by decide) ?_
        exact tw_lv [2, 3, 0] rfl h
      · replace h := h.2 z3
        refine tw_iload 0 d_X12_lay_31 rfl ?_
        refine tw_bipush d_X12_lay_33 kb_126 ?_
        refine tw_icmp_gt 69 d_X12_lay_35 (by decide) (fun z4 => ?_) (fun z4 => ?_)
        · replace h := h.1 z4
          refine tw_iinc 3 [(3, .int (x3 + (-8))), (4, .int (((y1 >>> (x3.toInt64 &&& 63)).toInt32) &&& 255)), (0, .ref (G.b + 147)), (1, .long y1)] d_X12_lay_69 rfl rfl (Nat.le_of_ble_eq_true rfl) rfl ?_
          refine tw_goto 3 d_X12_lay_72 (by decide) ?_
          exact tw_lv [2, 3, 0] rfl h
        · replace h := h.2 z4
          exact tw_lv [1, 2, 3, 0] rfl h
theorem b_X12_lay_38 {G : MG} {d : Nat} {Q : Mm → Prop} {y1 : Int64} {x3 : Int32} {x4 : Int32} {M : Mm} {c : Nat} (hL : Lay c M)  (h : ((1000 ≤ (M.1 147 2) → L_X12_lay_3 G d Q y1 (x3 + (-8)) M) ∧ (¬ 1000 ≤ (M.1 147 2) → (vp_in (M.1 147 2) 1000 ∧ ∀ M2 : Mm, M2 = sI M 148 (M.1 147 2).toNatClampNeg x4 → (∀ M3 : Mm, M3 = sI M2 147 2 ((M2.1 147 2) + 1) → L_X12_lay_3 G d Q y1 (x3 + (-8)) M3))))) : L_X12_lay_38 G d Q y1 x3 x4 M := by
  unfold L_X12_lay_38
  refine tw_aload_n 0 d_X12_lay_38 rfl rfl ?_
  refine tw_getI f_X12_11 hL s_147 (Or.inl rfl) d_X12_lay_39 ?_
  refine tw_sipush d_X12_lay_42 ks_1000 ?_
  refine tw_icmp_ge 69 d_X12_lay_45 (by decide) (fun z1 => ?_) (fun z1 => ?_)
  · replace h := h.1 z1
    refine tw_iinc 2 [(3, .int (x3 + (-8))), (0, .ref (G.b + 147)), (1, .long y1), (4, .int x4)] d_X12_lay_69 rfl rfl (Nat.le_of_ble_eq_true rfl) rfl ?_
    refine tw_goto 3 d_X12_lay_72 (by decide) ?_
    exact tw_lv [1, 2, 0] rfl h
  · replace h := h.2 z1
    refine tw_aload_n 0 d_X12_lay_48 rfl rfl ?_
    refine tw_getR f_X12_14 hL s_147 ⟨rfl, rfl⟩ (rr_X12_1 s_147) d_X12_lay_49 ?_
    refine tw_aload_n 0 d_X12_lay_52 rfl rfl ?_
    refine tw_getI f_X12_11 hL s_147 (Or.inl rfl) d_X12_lay_53 ?_
    refine tw_iload 3 d_X12_lay_56 rfl ?_
    refine tu_iast hL s_148 d_X12_lay_58 h.1 (fun M2 e_M2 hL_M2 => ?_)
    replace h := h.2 M2 e_M2
    refine tw_aload_n 0 d_X12_lay_59 rfl rfl ?_
    refine tw_dup d_X12_lay_60 rfl ?_
    refine tw_getI f_X12_11 hL_M2 s_147 (Or.inl rfl) d_X12_lay_61 ?_
    refine tw_iconst d_X12_lay_64 k_1 ?_
    refine tw_iadd d_X12_lay_65 ?_
    refine tu_putI f_X12_11 hL_M2 s_147 rfl rfl d_X12_lay_66 (fun M3 e_M3 hL_M3 => ?_)
    replace h := h M3 e_M3
    refine tw_iinc 2 [(3, .int (x3 + (-8))), (0, .ref (G.b + 147)), (1, .long y1), (4, .int x4)] d_X12_lay_69 rfl rfl (Nat.le_of_ble_eq_true rfl) rfl ?_
    refine tw_goto 3 d_X12_lay_72 (by decide) ?_
    exact tw_lv [1, 2, 0] rfl h
theorem b_X12_lay {G : MG} {d : Nat} {Q : Mm → Prop} {y1 : Int64} {M : Mm} {c : Nat} (hL : Lay c M)  (h : L_X12_lay_3 G d Q y1 56 M) : C G Y_X12_lay (d + 1) [.ref (G.b + 147), .long y1] M (Rv Q) := by
  refine C.of (by decide) (Nat.le_of_ble_eq_true rfl) (lv := [(0, .ref (G.b + 147)), (1, .long y1)]) rfl ?_
  refine tw_bipush d_X12_lay_0 kb_56 ?_
  refine tw_istore_n [(3, .int 56), (0, .ref (G.b + 147)), (1, .long y1)] d_X12_lay_2 rfl (Nat.le_of_ble_eq_true rfl) rfl ?_
  exact tw_lv [1, 2, 0] rfl h

theorem d_X12_isLetter_0 : decode Y_X12_isLetter.cc 0 = .ok (.iload_n 0, 1) := by decide +kernel
theorem d_X12_isLetter_1 : decode Y_X12_isLetter.cc 1 = .ok (.bipush 97, 2) := by decide +kernel
theorem d_X12_isLetter_3 : decode Y_X12_isLetter.cc 3 = .ok (.if_icmp .lt 13, 3) := by decide +kernel
theorem d_X12_isLetter_6 : decode Y_X12_isLetter.cc 6 = .ok (.iload_n 0, 1) := by decide +kernel
theorem d_X12_isLetter_7 : decode Y_X12_isLetter.cc 7 = .ok (.bipush 122, 2) := by decide +kernel
theorem d_X12_isLetter_9 : decode Y_X12_isLetter.cc 9 = .ok (.if_icmp .gt 7, 3) := by decide +kernel
theorem d_X12_isLetter_12 : decode Y_X12_isLetter.cc 12 = .ok (.iconst 1, 1) := by decide +kernel
theorem d_X12_isLetter_13 : decode Y_X12_isLetter.cc 13 = .ok (.goto 4, 3) := by decide +kernel
theorem d_X12_isLetter_16 : decode Y_X12_isLetter.cc 16 = .ok (.iconst 0, 1) := by decide +kernel
theorem d_X12_isLetter_17 : decode Y_X12_isLetter.cc 17 = .ok (.ireturn, 1) := by decide +kernel
theorem b_X12_isLetter {G : MG} {d : Nat} {Q : Int32 → Mm → Prop} {x0 : Int32} {M : Mm} {c : Nat} (hL : Lay c M)  (h : ((x0 < 97 → Q 0 M) ∧ (¬ x0 < 97 → ((122 < x0 → Q 0 M) ∧ (¬ 122 < x0 → Q 1 M))))) : C G Y_X12_isLetter (d + 1) [.int x0] M (Ri Q) := by
  refine C.of (by decide) (Nat.le_of_ble_eq_true rfl) (lv := [(0, .int x0)]) rfl ?_
  refine tw_iload_n 0 d_X12_isLetter_0 rfl rfl ?_
  refine tw_bipush d_X12_isLetter_1 kb_97 ?_
  refine tw_icmp_lt 16 d_X12_isLetter_3 (by decide) (fun z1 => ?_) (fun z1 => ?_)
  · replace h := h.1 z1
    refine tw_iconst d_X12_isLetter_16 k_0 ?_
    exact tw_zret (ty := .boolean) rfl rfl ⟨Nat.zero_le _, Nat.zero_le _⟩ d_X12_isLetter_17 h
  · replace h := h.2 z1
    refine tw_iload_n 0 d_X12_isLetter_6 rfl rfl ?_
    refine tw_bipush d_X12_isLetter_7 kb_122 ?_
    refine tw_icmp_gt 16 d_X12_isLetter_9 (by decide) (fun z2 => ?_) (fun z2 => ?_)
    · replace h := h.1 z2
      refine tw_iconst d_X12_isLetter_16 k_0 ?_
      exact tw_zret (ty := .boolean) rfl rfl ⟨Nat.zero_le _, Nat.zero_le _⟩ d_X12_isLetter_17 h
    · replace h := h.2 z2
      refine tw_iconst d_X12_isLetter_12 k_1 ?_
      refine tw_goto 17 d_X12_isLetter_13 (by decide) ?_
      exact tw_zret (ty := .boolean) rfl rfl ⟨Nat.zero_le _, Nat.zero_le _⟩ d_X12_isLetter_17 h

theorem d_X12_isDigit_0 : decode Y_X12_isDigit.cc 0 = .ok (.iload_n 0, 1) := by decide +kernel
theorem d_X12_isDigit_1 : decode Y_X12_isDigit.cc 1 = .ok (.bipush 48, 2) := by decide +kernel
theorem d_X12_isDigit_3 : decode Y_X12_isDigit.cc 3 = .ok (.if_icmp .lt 13, 3) := by decide +kernel
theorem d_X12_isDigit_6 : decode Y_X12_isDigit.cc 6 = .ok (.iload_n 0, 1) := by decide +kernel
theorem d_X12_isDigit_7 : decode Y_X12_isDigit.cc 7 = .ok (.bipush 57, 2) := by decide +kernel
theorem d_X12_isDigit_9 : decode Y_X12_isDigit.cc 9 = .ok (.if_icmp .gt 7, 3) := by decide +kernel
theorem d_X12_isDigit_12 : decode Y_X12_isDigit.cc 12 = .ok (.iconst 1, 1) := by decide +kernel
theorem d_X12_isDigit_13 : decode Y_X12_isDigit.cc 13 = .ok (.goto 4, 3) := by decide +kernel
theorem d_X12_isDigit_16 : decode Y_X12_isDigit.cc 16 = .ok (.iconst 0, 1) := by decide +kernel
theorem d_X12_isDigit_17 : decode Y_X12_isDigit.cc 17 = .ok (.ireturn, 1) := by decide +kernel
theorem b_X12_isDigit {G : MG} {d : Nat} {Q : Int32 → Mm → Prop} {x0 : Int32} {M : Mm} {c : Nat} (hL : Lay c M)  (h : ((x0 < 48 → Q 0 M) ∧ (¬ x0 < 48 → ((57 < x0 → Q 0 M) ∧ (¬ 57 < x0 → Q 1 M))))) : C G Y_X12_isDigit (d + 1) [.int x0] M (Ri Q) := by
  refine C.of (by decide) (Nat.le_of_ble_eq_true rfl) (lv := [(0, .int x0)]) rfl ?_
  refine tw_iload_n 0 d_X12_isDigit_0 rfl rfl ?_
  refine tw_bipush d_X12_isDigit_1 kb_48 ?_
  refine tw_icmp_lt 16 d_X12_isDigit_3 (by decide) (fun z1 => ?_) (fun z1 => ?_)
  · replace h := h.1 z1
    refine tw_iconst d_X12_isDigit_16 k_0 ?_
    exact tw_zret (ty := .boolean) rfl rfl ⟨Nat.zero_le _, Nat.zero_le _⟩ d_X12_isDigit_17 h
  · replace h := h.2 z1
    refine tw_iload_n 0 d_X12_isDigit_6 rfl rfl ?_
    refine tw_bipush d_X12_isDigit_7 kb_57 ?_
    refine tw_icmp_gt 16 d_X12_isDigit_9 (by decide) (fun z2 => ?_) (fun z2 => ?_)
    · replace h := h.1 z2
      refine tw_iconst d_X12_isDigit_16 k_0 ?_
      exact tw_zret (ty := .boolean) rfl rfl ⟨Nat.zero_le _, Nat.zero_le _⟩ d_X12_isDigit_17 h
    · replace h := h.2 z2
      refine tw_iconst d_X12_isDigit_12 k_1 ?_
      refine tw_goto 17 d_X12_isDigit_13 (by decide) ?_
      exact tw_zret (ty := .boolean) rfl rfl ⟨Nat.zero_le _, Nat.zero_le _⟩ d_X12_isDigit_17 h

theorem d_X12_rank_0 : decode Y_X12_rank.cc 0 = .ok (.iload_n 0, 1) := by decide +kernel
theorem d_X12_rank_1 : decode Y_X12_rank.cc 1 = .ok (.invokestatic 94, 3) := by decide +kernel
theorem d_X12_rank_4 : decode Y_X12_rank.cc 4 = .ok (.ifCond .eq 10, 3) := by decide +kernel
theorem d_X12_rank_7 : decode Y_X12_rank.cc 7 = .ok (.iload_n 0, 1) := by decide +kernel
theorem d_X12_rank_8 : decode Y_X12_rank.cc 8 = .ok (.bipush 96, 2) := by decide +kernel
theorem d_X12_rank_10 : decode Y_X12_rank.cc 10 = .ok (.isub, 1) := by decide +kernel
theorem d_X12_rank_11 : decode Y_X12_rank.cc 11 = .ok (.goto 7, 3) := by decide +kernel
theorem d_X12_rank_14 : decode Y_X12_rank.cc 14 = .ok (.iload_n 0, 1) := by decide +kernel
theorem d_X12_rank_15 : decode Y_X12_rank.cc 15 = .ok (.bipush 21, 2) := by decide +kernel
theorem d_X12_rank_17 : decode Y_X12_rank.cc 17 = .ok (.isub, 1) := by decide +kernel
theorem d_X12_rank_18 : decode Y_X12_rank.cc 18 = .ok (.ireturn, 1) := by decide +kernel
theorem b_X12_rank {G : MG} {d : Nat} {Q : Int32 → Mm → Prop} {x0 : Int32} {M : Mm} {c : Nat} (hL : Lay c M)  (h : (C G Y_X12_isLetter d [.int x0] M (Ri fun r2 M1 => M1.2.2 = M.2.2 ∧ ((r2 = 0 → Q (x0 - 21) M1) ∧ (¬ r2 = 0 → Q (x0 - 96) M1))))) : C G Y_X12_rank (d + 1) [.int x0] M (Ri Q) := by
  refine C.of (by decide) (Nat.le_of_ble_eq_true rfl) (lv := [(0, .int x0)]) rfl ?_
  refine tw_iload_n 0 d_X12_rank_0 rfl rfl ?_
  refine tu_cSi (As := [.int x0]) cs_X12_94 rfl (Nat.le_of_ble_eq_true rfl) ⟨Nat.zero_le _, Nat.zero_le _⟩ d_X12_rank_1 h (fun r2 M1 h => ?_)
  have hL_M1 : Lay c M1 := hL.to h.1
  replace h := h.2
  refine tw_if_eq 14 d_X12_rank_4 (by decide) (fun z3 => ?_) (fun z3 => ?_)
  · replace h := h.1 z3
    refine tw_iload_n 0 d_X12_rank_14 rfl rfl ?_
    refine tw_bipush d_X12_rank_15 kb_21 ?_
    refine tw_isub d_X12_rank_17 ?_
    exact tw_iret rfl ⟨Nat.zero_le _, Nat.zero_le _⟩ d_X12_rank_18 h
  · replace h := h.2 z3
    refine tw_iload_n 0 d_X12_rank_7 rfl rfl ?_
    refine tw_bipush d_X12_rank_8 kb_96 ?_
    refine tw_isub d_X12_rank_10 ?_
    refine tw_goto 18 d_X12_rank_11 (by decide) ?_
    exact tw_iret rfl ⟨Nat.zero_le _, Nat.zero_le _⟩ d_X12_rank_18 h

theorem d_X12_isSignOf_0 : decode Y_X12_isSignOf.cc 0 = .ok (.iload_n 0, 1) := by decide +kernel
theorem d_X12_isSignOf_1 : decode Y_X12_isSignOf.cc 1 = .ok (.bipush 44, 2) := by decide +kernel
theorem d_X12_isSignOf_3 : decode Y_X12_isSignOf.cc 3 = .ok (.if_icmp .eq 9, 3) := by decide +kernel
theorem d_X12_isSignOf_6 : decode Y_X12_isSignOf.cc 6 = .ok (.iload_n 0, 1) := by decide +kernel
theorem d_X12_isSignOf_7 : decode Y_X12_isSignOf.cc 7 = .ok (.bipush 59, 2) := by decide +kernel
theorem d_X12_isSignOf_9 : decode Y_X12_isSignOf.cc 9 = .ok (.if_icmp .ne 7, 3) := by decide +kernel
theorem d_X12_isSignOf_12 : decode Y_X12_isSignOf.cc 12 = .ok (.iconst 1, 1) := by decide +kernel
theorem d_X12_isSignOf_13 : decode Y_X12_isSignOf.cc 13 = .ok (.goto 4, 3) := by decide +kernel
theorem d_X12_isSignOf_16 : decode Y_X12_isSignOf.cc 16 = .ok (.iconst 0, 1) := by decide +kernel
theorem d_X12_isSignOf_17 : decode Y_X12_isSignOf.cc 17 = .ok (.ireturn, 1) := by decide +kernel
theorem b_X12_isSignOf {G : MG} {d : Nat} {Q : Int32 → Mm → Prop} {x0 : Int32} {M : Mm} {c : Nat} (hL : Lay c M)  (h : ((x0 = 44 → Q 1 M) ∧ (¬ x0 = 44 → ((¬ x0 = 59 → Q 0 M) ∧ (x0 = 59 → Q 1 M))))) : C G Y_X12_isSignOf (d + 1) [.int x0] M (Ri Q) := by
  refine C.of (by decide) (Nat.le_of_ble_eq_true rfl) (lv := [(0, .int x0)]) rfl ?_
  refine tw_iload_n 0 d_X12_isSignOf_0 rfl rfl ?_
  refine tw_bipush d_X12_isSignOf_1 kb_44 ?_
  refine tw_icmp_eq 12 d_X12_isSignOf_3 (by decide) (fun z1 => ?_) (fun z1 => ?_)
  · replace h := h.1 z1
    refine tw_iconst d_X12_isSignOf_12 k_1 ?_
    refine tw_goto 17 d_X12_isSignOf_13 (by decide) ?_
    exact tw_zret (ty := .boolean) rfl rfl ⟨Nat.zero_le _, Nat.zero_le _⟩ d_X12_isSignOf_17 h
  · replace h := h.2 z1
    refine tw_iload_n 0 d_X12_isSignOf_6 rfl rfl ?_
    refine tw_bipush d_X12_isSignOf_7 kb_59 ?_
    refine tw_icmp_ne 16 d_X12_isSignOf_9 (by decide) (fun z2 => ?_) (fun z2 => ?_)
    · replace h := h.1 z2
      refine tw_iconst d_X12_isSignOf_16 k_0 ?_
      exact tw_zret (ty := .boolean) rfl rfl ⟨Nat.zero_le _, Nat.zero_le _⟩ d_X12_isSignOf_17 h
    · replace h := h.2 z2
      refine tw_iconst d_X12_isSignOf_12 k_1 ?_
      refine tw_goto 17 d_X12_isSignOf_13 (by decide) ?_
      exact tw_zret (ty := .boolean) rfl rfl ⟨Nat.zero_le _, Nat.zero_le _⟩ d_X12_isSignOf_17 h

theorem d_X12_cutAll_0 : decode Y_X12_cutAll.cc 0 = .ok (.aload_n 0, 1) := by decide +kernel
theorem d_X12_cutAll_1 : decode Y_X12_cutAll.cc 1 = .ok (.aload_n 0, 1) := by decide +kernel
theorem d_X12_cutAll_2 : decode Y_X12_cutAll.cc 2 = .ok (.getfield 11, 3) := by decide +kernel
theorem d_X12_cutAll_5 : decode Y_X12_cutAll.cc 5 = .ok (.putfield 98, 3) := by decide +kernel
theorem d_X12_cutAll_8 : decode Y_X12_cutAll.cc 8 = .ok (.aload_n 0, 1) := by decide +kernel
theorem d_X12_cutAll_9 : decode Y_X12_cutAll.cc 9 = .ok (.iconst 0, 1) := by decide +kernel
theorem d_X12_cutAll_10 : decode Y_X12_cutAll.cc 10 = .ok (.putfield 11, 3) := by decide +kernel
theorem d_X12_cutAll_13 : decode Y_X12_cutAll.cc 13 = .ok (.iconst 0, 1) := by decide +kernel
theorem d_X12_cutAll_14 : decode Y_X12_cutAll.cc 14 = .ok (.istore_n 1, 1) := by decide +kernel
theorem d_X12_cutAll_15 : decode Y_X12_cutAll.cc 15 = .ok (.iconst 0, 1) := by decide +kernel
theorem d_X12_cutAll_16 : decode Y_X12_cutAll.cc 16 = .ok (.istore_n 2, 1) := by decide +kernel
theorem d_X12_cutAll_17 : decode Y_X12_cutAll.cc 17 = .ok (.iload_n 2, 1) := by decide +kernel
theorem d_X12_cutAll_18 : decode Y_X12_cutAll.cc 18 = .ok (.aload_n 0, 1) := by decide +kernel
theorem d_X12_cutAll_19 : decode Y_X12_cutAll.cc 19 = .ok (.getfield 98, 3) := by decide +kernel
theorem d_X12_cutAll_22 : decode Y_X12_cutAll.cc 22 = .ok (.if_icmp .ge 257, 3) := by decide +kernel
theorem d_X12_cutAll_25 : decode Y_X12_cutAll.cc 25 = .ok (.aload_n 0, 1) := by decide +kernel
theorem d_X12_cutAll_26 : decode Y_X12_cutAll.cc 26 = .ok (.getfield 14, 3) := by decide +kernel
theorem d_X12_cutAll_29 : decode Y_X12_cutAll.cc 29 = .ok (.iload_n 2, 1) := by decide +kernel
theorem d_X12_cutAll_30 : decode Y_X12_cutAll.cc 30 = .ok (.iaload, 1) := by decide +kernel
theorem d_X12_cutAll_31 : decode Y_X12_cutAll.cc 31 = .ok (.istore_n 3, 1) := by decide +kernel
theorem d_X12_cutAll_32 : decode Y_X12_cutAll.cc 32 = .ok (.iload_n 3, 1) := by decide +kernel
theorem d_X12_cutAll_33 : decode Y_X12_cutAll.cc 33 = .ok (.bipush 10, 2) := by decide +kernel
theorem d_X12_cutAll_35 : decode Y_X12_cutAll.cc 35 = .ok (.if_icmp .eq 9, 3) := by decide +kernel
theorem d_X12_cutAll_38 : decode Y_X12_cutAll.cc 38 = .ok (.iload_n 3, 1) := by decide +kernel
theorem d_X12_cutAll_39 : decode Y_X12_cutAll.cc 39 = .ok (.bipush 32, 2) := by decide +kernel
theorem d_X12_cutAll_41 : decode Y_X12_cutAll.cc 41 = .ok (.if_icmp .ne 9, 3) := by decide +kernel
theorem d_X12_cutAll_44 : decode Y_X12_cutAll.cc 44 = .ok (.iinc 2 1, 3) := by decide +kernel
theorem d_X12_cutAll_47 : decode Y_X12_cutAll.cc 47 = .ok (.goto (-30), 3) := by decide +kernel
theorem d_X12_cutAll_50 : decode Y_X12_cutAll.cc 50 = .ok (.iload_n 2, 1) := by decide +kernel
theorem d_X12_cutAll_51 : decode Y_X12_cutAll.cc 51 = .ok (.istore 4, 2) := by decide +kernel
theorem d_X12_cutAll_53 : decode Y_X12_cutAll.cc 53 = .ok (.lconst 0, 1) := by decide +kernel
theorem d_X12_cutAll_54 : decode Y_X12_cutAll.cc 54 = .ok (.lstore 5, 2) := by decide +kernel
theorem d_X12_cutAll_56 : decode Y_X12_cutAll.cc 56 = .ok (.aload_n 0, 1) := by decide +kernel
theorem d_X12_cutAll_57 : decode Y_X12_cutAll.cc 57 = .ok (.getfield 27, 3) := by decide +kernel
theorem d_X12_cutAll_60 : decode Y_X12_cutAll.cc 60 = .ok (.iload_n 1, 1) := by decide +kernel
theorem d_X12_cutAll_61 : decode Y_X12_cutAll.cc 61 = .ok (.iload_n 2, 1) := by decide +kernel
theorem d_X12_cutAll_62 : decode Y_X12_cutAll.cc 62 = .ok (.iastore, 1) := by decide +kernel
theorem d_X12_cutAll_63 : decode Y_X12_cutAll.cc 63 = .ok (.iload_n 3, 1) := by decide +kernel
theorem d_X12_cutAll_64 : decode Y_X12_cutAll.cc 64 = .ok (.invokestatic 94, 3) := by decide +kernel
theorem d_X12_cutAll_67 : decode Y_X12_cutAll.cc 67 = .ok (.ifCond .eq 85, 3) := by decide +kernel
theorem d_X12_cutAll_70 : decode Y_X12_cutAll.cc 70 = .ok (.iload_n 2, 1) := by decide +kernel
theorem d_X12_cutAll_71 : decode Y_X12_cutAll.cc 71 = .ok (.aload_n 0, 1) := by decide +kernel
theorem d_X12_cutAll_72 : decode Y_X12_cutAll.cc 72 = .ok (.getfield 98, 3) := by decide +kernel
theorem d_X12_cutAll_75 : decode Y_X12_cutAll.cc 75 = .ok (.if_icmp .ge 54, 3) := by decide +kernel
theorem d_X12_cutAll_78 : decode Y_X12_cutAll.cc 78 = .ok (.aload_n 0, 1) := by decide +kernel
theorem d_X12_cutAll_79 : decode Y_X12_cutAll.cc 79 = .ok (.getfield 14, 3) := by decide +kernel
theorem d_X12_cutAll_82 : decode Y_X12_cutAll.cc 82 = .ok (.iload_n 2, 1) := by decide +kernel
theorem d_X12_cutAll_83 : decode Y_X12_cutAll.cc 83 = .ok (.iaload, 1) := by decide +kernel
theorem d_X12_cutAll_84 : decode Y_X12_cutAll.cc 84 = .ok (.invokestatic 94, 3) := by decide +kernel
theorem d_X12_cutAll_87 : decode Y_X12_cutAll.cc 87 = .ok (.ifCond .eq 42, 3) := by decide +kernel
theorem d_X12_cutAll_90 : decode Y_X12_cutAll.cc 90 = .ok (.iload_n 2, 1) := by decide +kernel
theorem d_X12_cutAll_91 : decode Y_X12_cutAll.cc 91 = .ok (.iload 4, 2) := by decide +kernel
theorem d_X12_cutAll_93 : decode Y_X12_cutAll.cc 93 = .ok (.isub, 1) := by decide +kernel
theorem d_X12_cutAll_94 : decode Y_X12_cutAll.cc 94 = .ok (.bipush 8, 2) := by decide +kernel
theorem d_X12_cutAll_96 : decode Y_X12_cutAll.cc 96 = .ok (.if_icmp .ge 23, 3) := by decide +kernel
theorem d_X12_cutAll_99 : decode Y_X12_cutAll.cc 99 = .ok (.ldc2_w 101, 3) := by decide +kernel
theorem d_X12_cutAll_102 : decode Y_X12_cutAll.cc 102 = .ok (.lload 5, 2) := by decide +kernel
theorem d_X12_cutAll_104 : decode Y_X12_cutAll.cc 104 = .ok (.lmul, 1) := by decide +kernel
theorem d_X12_cutAll_105 : decode Y_X12_cutAll.cc 105 = .ok (.aload_n 0, 1) := by decide +kernel
theorem d_X12_cutAll_106 : decode Y_X12_cutAll.cc 106 = .ok (.getfield 14, 3) := by decide +kernel
theorem d_X12_cutAll_109 : decode Y_X12_cutAll.cc 109 = .ok (.iload_n 2, 1) := by decide +kernel
theorem d_X12_cutAll_110 : decode Y_X12_cutAll.cc 110 = .ok (.iaload, 1) := by decide +kernel
theorem d_X12_cutAll_111 : decode Y_X12_cutAll.cc 111 = .ok (.invokestatic 103, 3) := by decide +kernel
theorem d_X12_cutAll_114 : decode Y_X12_cutAll.cc 114 = .ok (.i2l, 1) := by decide +kernel
theorem d_X12_cutAll_115 : decode Y_X12_cutAll.cc 115 = .ok (.ladd, 1) := by decide +kernel
theorem d_X12_cutAll_116 : decode Y_X12_cutAll.cc 116 = .ok (.goto 5, 3) := by decide +kernel
theorem d_X12_cutAll_119 : decode Y_X12_cutAll.cc 119 = .ok (.lload 5, 2) := by decide +kernel
theorem d_X12_cutAll_121 : decode Y_X12_cutAll.cc 121 = .ok (.lstore 5, 2) := by decide +kernel
theorem d_X12_cutAll_123 : decode Y_X12_cutAll.cc 123 = .ok (.iinc 2 1, 3) := by decide +kernel
theorem d_X12_cutAll_126 : decode Y_X12_cutAll.cc 126 = .ok (.goto (-56), 3) := by decide +kernel
theorem d_X12_cutAll_129 : decode Y_X12_cutAll.cc 129 = .ok (.aload_n 0, 1) := by decide +kernel
theorem d_X12_cutAll_130 : decode Y_X12_cutAll.cc 130 = .ok (.getfield 24, 3) := by decide +kernel
theorem d_X12_cutAll_133 : decode Y_X12_cutAll.cc 133 = .ok (.iload_n 1, 1) := by decide +kernel
theorem d_X12_cutAll_134 : decode Y_X12_cutAll.cc 134 = .ok (.iload_n 2, 1) := by decide +kernel
theorem d_X12_cutAll_135 : decode Y_X12_cutAll.cc 135 = .ok (.iload 4, 2) := by decide +kernel
theorem d_X12_cutAll_137 : decode Y_X12_cutAll.cc 137 = .ok (.isub, 1) := by decide +kernel
theorem d_X12_cutAll_138 : decode Y_X12_cutAll.cc 138 = .ok (.bipush 8, 2) := by decide +kernel
theorem d_X12_cutAll_140 : decode Y_X12_cutAll.cc 140 = .ok (.if_icmp .le 7, 3) := by decide +kernel
theorem d_X12_cutAll_143 : decode Y_X12_cutAll.cc 143 = .ok (.iconst 4, 1) := by decide +kernel
theorem d_X12_cutAll_144 : decode Y_X12_cutAll.cc 144 = .ok (.goto 4, 3) := by decide +kernel
theorem d_X12_cutAll_147 : decode Y_X12_cutAll.cc 147 = .ok (.iconst 1, 1) := by decide +kernel
theorem d_X12_cutAll_148 : decode Y_X12_cutAll.cc 148 = .ok (.iastore, 1) := by decide +kernel
theorem d_X12_cutAll_149 : decode Y_X12_cutAll.cc 149 = .ok (.goto 116, 3) := by decide +kernel
theorem d_X12_cutAll_152 : decode Y_X12_cutAll.cc 152 = .ok (.iload_n 3, 1) := by decide +kernel
theorem d_X12_cutAll_153 : decode Y_X12_cutAll.cc 153 = .ok (.invokestatic 107, 3) := by decide +kernel
theorem d_X12_cutAll_156 : decode Y_X12_cutAll.cc 156 = .ok (.ifCond .eq 84, 3) := by decide +kernel
theorem d_X12_cutAll_159 : decode Y_X12_cutAll.cc 159 = .ok (.iload_n 2, 1) := by decide +kernel
theorem d_X12_cutAll_160 : decode Y_X12_cutAll.cc 160 = .ok (.aload_n 0, 1) := by decide +kernel
theorem d_X12_cutAll_161 : decode Y_X12_cutAll.cc 161 = .ok (.getfield 98, 3) := by decide +kernel
theorem d_X12_cutAll_164 : decode Y_X12_cutAll.cc 164 = .ok (.if_icmp .ge 54, 3) := by decide +kernel
theorem d_X12_cutAll_167 : decode Y_X12_cutAll.cc 167 = .ok (.aload_n 0, 1) := by decide +kernel
theorem d_X12_cutAll_168 : decode Y_X12_cutAll.cc 168 = .ok (.getfield 14, 3) := by decide +kernel
theorem d_X12_cutAll_171 : decode Y_X12_cutAll.cc 171 = .ok (.iload_n 2, 1) := by decide +kernel
theorem d_X12_cutAll_172 : decode Y_X12_cutAll.cc 172 = .ok (.iaload, 1) := by decide +kernel
theorem d_X12_cutAll_173 : decode Y_X12_cutAll.cc 173 = .ok (.invokestatic 107, 3) := by decide +kernel
theorem d_X12_cutAll_176 : decode Y_X12_cutAll.cc 176 = .ok (.ifCond .eq 42, 3) := by decide +kernel
theorem d_X12_cutAll_179 : decode Y_X12_cutAll.cc 179 = .ok (.iload_n 2, 1) := by decide +kernel
theorem d_X12_cutAll_180 : decode Y_X12_cutAll.cc 180 = .ok (.iload 4, 2) := by decide +kernel
theorem d_X12_cutAll_182 : decode Y_X12_cutAll.cc 182 = .ok (.isub, 1) := by decide +kernel
theorem d_X12_cutAll_183 : decode Y_X12_cutAll.cc 183 = .ok (.iconst 4, 1) := by decide +kernel
theorem d_X12_cutAll_184 : decode Y_X12_cutAll.cc 184 = .ok (.if_icmp .ge 24, 3) := by decide +kernel
theorem d_X12_cutAll_187 : decode Y_X12_cutAll.cc 187 = .ok (.ldc2_w 110, 3) := by decide +kernel
theorem d_X12_cutAll_190 : decode Y_X12_cutAll.cc 190 = .ok (.lload 5, 2) := by decide +kernel
theorem d_X12_cutAll_192 : decode Y_X12_cutAll.cc 192 = .ok (.lmul, 1) := by decide +kernel
theorem d_X12_cutAll_193 : decode Y_X12_cutAll.cc 193 = .ok (.aload_n 0, 1) := by decide +kernel
theorem d_X12_cutAll_194 : decode Y_X12_cutAll.cc 194 = .ok (.getfield 14, 3) := by decide +kernel
theorem d_X12_cutAll_197 : decode Y_X12_cutAll.cc 197 = .ok (.iload_n 2, 1) := by decide +kernel
theorem d_X12_cutAll_198 : decode Y_X12_cutAll.cc 198 = .ok (.iaload, 1) := by decide +kernel
theorem d_X12_cutAll_199 : decode Y_X12_cutAll.cc 199 = .ok (.i2l, 1) := by decide +kernel
theorem d_X12_cutAll_200 : decode Y_X12_cutAll.cc 200 = .ok (.ladd, 1) := by decide +kernel
theorem d_X12_cutAll_201 : decode Y_X12_cutAll.cc 201 = .ok (.ldc2_w 112, 3) := by decide +kernel
theorem d_X12_cutAll_204 : decode Y_X12_cutAll.cc 204 = .ok (.lsub, 1) := by decide +kernel
theorem d_X12_cutAll_205 : decode Y_X12_cutAll.cc 205 = .ok (.goto 5, 3) := by decide +kernel
theorem d_X12_cutAll_208 : decode Y_X12_cutAll.cc 208 = .ok (.lload 5, 2) := by decide +kernel
theorem d_X12_cutAll_210 : decode Y_X12_cutAll.cc 210 = .ok (.lstore 5, 2) := by decide +kernel
theorem d_X12_cutAll_212 : decode Y_X12_cutAll.cc 212 = .ok (.iinc 2 1, 3) := by decide +kernel
theorem d_X12_cutAll_215 : decode Y_X12_cutAll.cc 215 = .ok (.goto (-56), 3) := by decide +kernel
theorem d_X12_cutAll_218 : decode Y_X12_cutAll.cc 218 = .ok (.aload_n 0, 1) := by decide +kernel
theorem d_X12_cutAll_219 : decode Y_X12_cutAll.cc 219 = .ok (.getfield 24, 3) := by decide +kernel
theorem d_X12_cutAll_222 : decode Y_X12_cutAll.cc 222 = .ok (.iload_n 1, 1) := by decide +kernel
theorem d_X12_cutAll_223 : decode Y_X12_cutAll.cc 223 = .ok (.iload_n 2, 1) := by decide +kernel
theorem d_X12_cutAll_224 : decode Y_X12_cutAll.cc 224 = .ok (.iload 4, 2) := by decide +kernel
theorem d_X12_cutAll_226 : decode Y_X12_cutAll.cc 226 = .ok (.isub, 1) := by decide +kernel
theorem d_X12_cutAll_227 : decode Y_X12_cutAll.cc 227 = .ok (.iconst 4, 1) := by decide +kernel
theorem d_X12_cutAll_228 : decode Y_X12_cutAll.cc 228 = .ok (.if_icmp .le 7, 3) := by decide +kernel
theorem d_X12_cutAll_231 : decode Y_X12_cutAll.cc 231 = .ok (.iconst 4, 1) := by decide +kernel
theorem d_X12_cutAll_232 : decode Y_X12_cutAll.cc 232 = .ok (.goto 4, 3) := by decide +kernel
theorem d_X12_cutAll_235 : decode Y_X12_cutAll.cc 235 = .ok (.iconst 2, 1) := by decide +kernel
theorem d_X12_cutAll_236 : decode Y_X12_cutAll.cc 236 = .ok (.iastore, 1) := by decide +kernel
theorem d_X12_cutAll_237 : decode Y_X12_cutAll.cc 237 = .ok (.goto 28, 3) := by decide +kernel
theorem d_X12_cutAll_240 : decode Y_X12_cutAll.cc 240 = .ok (.iload_n 3, 1) := by decide +kernel
theorem d_X12_cutAll_241 : decode Y_X12_cutAll.cc 241 = .ok (.i2l, 1) := by decide +kernel
theorem d_X12_cutAll_242 : decode Y_X12_cutAll.cc 242 = .ok (.lstore 5, 2) := by decide +kernel
theorem d_X12_cutAll_244 : decode Y_X12_cutAll.cc 244 = .ok (.aload_n 0, 1) := by decide +kernel
theorem d_X12_cutAll_245 : decode Y_X12_cutAll.cc 245 = .ok (.getfield 24, 3) := by decide +kernel
theorem d_X12_cutAll_248 : decode Y_X12_cutAll.cc 248 = .ok (.iload_n 1, 1) := by decide +kernel
theorem d_X12_cutAll_249 : decode Y_X12_cutAll.cc 249 = .ok (.iload_n 3, 1) := by decide +kernel
theorem d_X12_cutAll_250 : decode Y_X12_cutAll.cc 250 = .ok (.invokestatic 114, 3) := by decide +kernel
theorem d_X12_cutAll_253 : decode Y_X12_cutAll.cc 253 = .ok (.ifCond .eq 7, 3) := by decide +kernel
theorem d_X12_cutAll_256 : decode Y_X12_cutAll.cc 256 = .ok (.iconst 3, 1) := by decide +kernel
theorem d_X12_cutAll_257 : decode Y_X12_cutAll.cc 257 = .ok (.goto 4, 3) := by decide +kernel
theorem d_X12_cutAll_260 : decode Y_X12_cutAll.cc 260 = .ok (.iconst 4, 1) := by decide +kernel
theorem d_X12_cutAll_261 : decode Y_X12_cutAll.cc 261 = .ok (.iastore, 1) := by decide +kernel
theorem d_X12_cutAll_262 : decode Y_X12_cutAll.cc 262 = .ok (.iinc 2 1, 3) := by decide +kernel
theorem d_X12_cutAll_265 : decode Y_X12_cutAll.cc 265 = .ok (.aload_n 0, 1) := by decide +kernel
theorem d_X12_cutAll_266 : decode Y_X12_cutAll.cc 266 = .ok (.getfield 30, 3) := by decide +kernel
theorem d_X12_cutAll_269 : decode Y_X12_cutAll.cc 269 = .ok (.iload_n 1, 1) := by decide +kernel
theorem d_X12_cutAll_270 : decode Y_X12_cutAll.cc 270 = .ok (.lload 5, 2) := by decide +kernel
theorem d_X12_cutAll_272 : decode Y_X12_cutAll.cc 272 = .ok (.lastore, 1) := by decide +kernel
theorem d_X12_cutAll_273 : decode Y_X12_cutAll.cc 273 = .ok (.iinc 1 1, 3) := by decide +kernel
theorem d_X12_cutAll_276 : decode Y_X12_cutAll.cc 276 = .ok (.goto (-259), 3) := by decide +kernel
theorem d_X12_cutAll_279 : decode Y_X12_cutAll.cc 279 = .ok (.aload_n 0, 1) := by decide +kernel
theorem d_X12_cutAll_280 : decode Y_X12_cutAll.cc 280 = .ok (.getfield 24, 3) := by decide +kernel
theorem d_X12_cutAll_283 : decode Y_X12_cutAll.cc 283 = .ok (.iload_n 1, 1) := by decide +kernel
theorem d_X12_cutAll_284 : decode Y_X12_cutAll.cc 284 = .ok (.iconst 0, 1) := by decide +kernel
theorem d_X12_cutAll_285 : decode Y_X12_cutAll.cc 285 = .ok (.iastore, 1) := by decide +kernel
theorem d_X12_cutAll_286 : decode Y_X12_cutAll.cc 286 = .ok (.aload_n 0, 1) := by decide +kernel
theorem d_X12_cutAll_287 : decode Y_X12_cutAll.cc 287 = .ok (.getfield 27, 3) := by decide +kernel
theorem d_X12_cutAll_290 : decode Y_X12_cutAll.cc 290 = .ok (.iload_n 1, 1) := by decide +kernel
theorem d_X12_cutAll_291 : decode Y_X12_cutAll.cc 291 = .ok (.aload_n 0, 1) := by decide +kernel
theorem d_X12_cutAll_292 : decode Y_X12_cutAll.cc 292 = .ok (.getfield 98, 3) := by decide +kernel
theorem d_X12_cutAll_295 : decode Y_X12_cutAll.cc 295 = .ok (.iastore, 1) := by decide +kernel
theorem d_X12_cutAll_296 : decode Y_X12_cutAll.cc 296 = .ok (.aload_n 0, 1) := by decide +kernel
theorem d_X12_cutAll_297 : decode Y_X12_cutAll.cc 297 = .ok (.iconst 0, 1) := by decide +kernel
theorem d_X12_cutAll_298 : decode Y_X12_cutAll.cc 298 = .ok (.putfield 117, 3) := by decide +kernel
theorem d_X12_cutAll_301 : decode Y_X12_cutAll.cc 301 = .ok (.aload_n 0, 1) := by decide +kernel
theorem d_X12_cutAll_302 : decode Y_X12_cutAll.cc 302 = .ok (.iconst 0, 1) := by decide +kernel
theorem d_X12_cutAll_303 : decode Y_X12_cutAll.cc 303 = .ok (.putfield 120, 3) := by decide +kernel
theorem d_X12_cutAll_306 : decode Y_X12_cutAll.cc 306 = .ok (.return_, 1) := by decide +kernel
def L_X12_cutAll_17 (G : MG) (d : Nat) (Q : Mm → Prop) (x1 : Int32) (x2 : Int32) (M : Mm) : Prop := T G Y_X12_cutAll (d + 1) (Rv Q) 0 0 17 [(0, .ref (G.b + 147)), (1, .int x1), (2, .int x2)] [] M
def L_X12_cutAll_70 (G : MG) (d : Nat) (Q : Mm → Prop) (x1 : Int32) (x2 : Int32) (x4 : Int32) (y5 : Int64) (M : Mm) : Prop := T G Y_X12_cutAll (d + 1) (Rv Q) 0 0 70 [(0, .ref (G.b + 147)), (1, .int x1), (2, .int x2), (4, .int x4), (5, .long y5)] [] M
def L_X12_cutAll_129 (G : MG) (d : Nat) (Q : Mm → Prop) (x1 : Int32) (x2 : Int32) (x4 : Int32) (y5 : Int64) (M : Mm) : Prop := T G Y_X12_cutAll (d + 1) (Rv Q) 0 0 129 [(0, .ref (G.b + 147)), (1, .int x1), (2, .int x2), (4, .int x4), (5, .long y5)] [] M
def L_X12_cutAll_159 (G : MG) (d : Nat) (Q : Mm → Prop) (x1 : Int32) (x2 : Int32) (x4 : Int32) (y5 : Int64) (M : Mm) : Prop := T G Y_X12_cutAll (d + 1) (Rv Q) 0 0 159 [(0, .ref (G.b + 147)), (1, .int x1), (2, .int x2), (4, .int x4), (5, .long y5)] [] M
def L_X12_cutAll_218 (G : MG) (d : Nat) (Q : Mm → Prop) (x1 : Int32) (x2 : Int32) (x4 : Int32) (y5 : Int64) (M : Mm) : Prop := T G Y_X12_cutAll (d + 1) (Rv Q) 0 0 218 [(0, .ref (G.b + 147)), (1, .int x1), (2, .int x2), (4, .int x4), (5, .long y5)] [] M
theorem b_X12_cutAll_17 {G : MG} {d : Nat} {Q : Mm → Prop} {x1 : Int32} {x2 : Int32} {M : Mm} {c : Nat} (hL : Lay c M)  (h : (((M.1 147 3) ≤ x2 → (vp_in x1 1002 ∧ ∀ M2 : Mm, M2 = sI M 149 x1.toNatClampNeg 0 → (vp_in x1 1002 ∧ ∀ M3 : Mm, M3 = sI M2 150 x1.toNatClampNeg (M2.1 147 3) → (∀ M4 : Mm, M4 = sI M3 147 7 0 → (∀ M5 : Mm, M5 = sI M4 147 8 0 → Q M5))))) ∧ (¬ (M.1 147 3) ≤ x2 → (vp_in x2 1000 ∧ (((M.1 148 x2.toNatClampNeg) = 10 → L_X12_cutAll_17 G d Q x1 (x2 + 1) M) ∧ (¬ (M.1 148 x2.toNatClampNeg) = 10 → ((¬ (M.1 148 x2.toNatClampNeg) = 32 → (vp_in x1 1002 ∧ ∀ M8 : Mm, M8 = sI M 150 x1.toNatClampNeg x2 → (C G Y_X12_isLetter d [.int (M.1 148 x2.toNatClampNeg)] M8 (Ri fun r10 M9 => M9.2.2 = M8.2.2 ∧ ((r10 = 0 → (C G Y_X12_isDigit d [.int (M.1 148 x2.toNatClampNeg)] M9 (Ri fun r13 M12 => M12.2.2 = M9.2.2 ∧ ((r13 = 0 → (C G Y_X12_isSignOf d [.int (M.1 148 x2.toNatClampNeg)] M12 (Ri fun r16 M15 => M15.2.2 = M12.2.2 ∧ ((r16 = 0 → (vp_in x1 1002 ∧ ∀ M18 : Mm, M18 = sI M15 149 x1.toNatClampNeg 4 → (vp_in x1 1002 ∧ ∀ M19 : Mm, M19 = sJ M18 151 x1.toNatClampNeg ((M.1 148 x2.toNatClampNeg).toInt64) → L_X12_cutAll_17 G d Q (x1 + 1) (x2 + 1) M19))) ∧ (¬ r16 = 0 → (vp_in x1 1002 ∧ ∀ M20 : Mm, M20 = sI M15 149 x1.toNatClampNeg 3 → (vp_in x1 1002 ∧ ∀ M21 : Mm, M21 = sJ M20 151 x1.toNatClampNeg ((M.1 148 x2.toNatClampNeg).toInt64) → L_X12_cutAll_17 G d Q (x1 + 1) (x2 + 1) M21))))))) ∧ (¬ r13 = 0 → L_X12_cutAll_159 G d Q x1 x2 x2 0 M12))))) ∧ (¬ r10 = 0 → L_X12_cutAll_70 G d Q x1 x2 x2 0 M9)))))) ∧ ((M.1 148 x2.toNatClampNeg) = 32 → L_X12_cutAll_17 G d Q x1 (x2 + 1) M)))))))) : L_X12_cutAll_17 G d Q x1 x2 M := by
  unfold L_X12_cutAll_17
  refine tw_iload_n 2 d_X12_cutAll_17 rfl rfl ?_
  refine tw_aload_n 0 d_X12_cutAll_18 rfl rfl ?_
  refine tw_getI f_X12_98 hL s_147 (Or.inl rfl) d_X12_cutAll_19 ?_
  refine tw_icmp_ge 279 d_X12_cutAll_22 (by decide) (fun z1 => ?_) (fun z1 => ?_)
  · replace h := h.1 z1
    refine tw_aload_n 0 d_X12_cutAll_279 rfl rfl ?_
    refine tw_getR f_X12_24 hL s_147 ⟨rfl, rfl⟩ (rr_X12_4 s_147) d_X12_cutAll_280 ?_
    refine tw_iload_n 1 d_X12_cutAll_283 rfl rfl ?_
    refine tw_iconst d_X12_cutAll_284 k_0 ?_
    refine tu_iast hL s_149 d_X12_cutAll_285 h.1 (fun M2 e_M2 hL_M2 => ?_)
    replace h := h.2 M2 e_M2
    refine tw_aload_n 0 d_X12_cutAll_286 rfl rfl ?_
    refine tw_getR f_X12_27 hL_M2 s_147 ⟨rfl, rfl⟩ (rr_X12_5 s_147) d_X12_cutAll_287 ?_
    refine tw_iload_n 1 d_X12_cutAll_290 rfl rfl ?_
    refine tw_aload_n 0 d_X12_cutAll_291 rfl rfl ?_
    refine tw_getI f_X12_98 hL_M2 s_147 (Or.inl rfl) d_X12_cutAll_292 ?_
    refine tu_iast hL_M2 s_150 d_X12_cutAll_295 h.1 (fun M3 e_M3 hL_M3 => ?_)
    replace h := h.2 M3 e_M3
    refine tw_aload_n 0 d_X12_cutAll_296 rfl rfl ?_
    refine tw_iconst d_X12_cutAll_297 k_0 ?_
    refine tu_putI f_X12_117 hL_M3 s_147 rfl rfl d_X12_cutAll_298 (fun M4 e_M4 hL_M4 => ?_)
    replace h := h M4 e_M4
    refine tw_aload_n 0 d_X12_cutAll_301 rfl rfl ?_
    refine tw_iconst d_X12_cutAll_302 k_0 ?_
    refine tu_putI f_X12_120 hL_M4 s_147 rfl rfl d_X12_cutAll_303 (fun M5 e_M5 hL_M5 => ?_)
    replace h := h M5 e_M5
    exact tw_vret rfl ⟨Nat.zero_le _, Nat.zero_le _⟩ d_X12_cutAll_306 h
  · replace h := h.2 z1
    refine tw_aload_n 0 d_X12_cutAll_25 rfl rfl ?_
    refine tw_getR f_X12_14 hL s_147 ⟨rfl, rfl⟩ (rr_X12_1 s_147) d_X12_cutAll_26 ?_
    refine tw_iload_n 2 d_X12_cutAll_29 rfl rfl ?_
    refine tw_iald hL s_148 d_X12_cutAll_30 h.1 ?_
    replace h := h.2
    refine tw_istore_n [(3, .int (M.1 148 x2.toNatClampNeg)), (0, .ref (G.b + 147)), (1, .int x1), (2, .int x2)] d_X12_cutAll_31 rfl (Nat.le_of_ble_eq_true rfl) rfl ?_
    refine tw_iload_n 0 d_X12_cutAll_32 rfl rfl ?_
    refine tw_bipush d_X12_cutAll_33 kb_10 ?_
    refine tw_icmp_eq 44 d_X12_cutAll_35 (by decide) (fun z6 => ?_) (fun z6 => ?_)
    · replace h := h.1 z6
      refine tw_iinc 3 [(2, .int (x2 + 1)), (3, .int (M.1 148 x2.toNatClampNeg)), (0, .ref (G.b + 147)), (1, .int x1)] d_X12_cutAll_44 rfl rfl (Nat.le_of_ble_eq_true rfl) rfl ?_
      refine tw_goto 17 d_X12_cutAll_47 (by decide) ?_
      exact tw_lv [2, 3, 0] rfl h
    · replace h := h.2 z6
      refine tw_iload_n 0 d_X12_cutAll_38 rfl rfl ?_
      refine tw_bipush d_X12_cutAll_39 kb_32 ?_
      refine tw_icmp_ne 50 d_X12_cutAll_41 (by decide) (fun z7 => ?_) (fun z7 => ?_)
      · replace h := h.1 z7
        refine tw_iload_n 3 d_X12_cutAll_50 rfl rfl ?_
        refine tw_istore [(4, .int x2), (3, .int (M.1 148 x2.toNatClampNeg)), (0, .ref (G.b + 147)), (1, .int x1), (2, .int x2)] d_X12_cutAll_51 (Nat.le_of_ble_eq_true rfl) rfl ?_
        refine tw_lconst (v := 0) d_X12_cutAll_53 rfl ?_
        refine tw_lstore [(5, .long 0), (4, .int x2), (3, .int (M.1 148 x2.toNatClampNeg)), (0, .ref (G.b + 147)), (1, .int x1), (2, .int x2)] d_X12_cutAll_54 (Nat.le_of_ble_eq_true rfl) rfl ?_
        refine tw_aload_n 3 d_X12_cutAll_56 rfl rfl ?_
        refine tw_getR f_X12_27 hL s_147 ⟨rfl, rfl⟩ (rr_X12_5 s_147) d_X12_cutAll_57 ?_
        refine tw_iload_n 4 d_X12_cutAll_60 rfl rfl ?_
        refine tw_iload_n 5 d_X12_cutAll_61 rfl rfl ?_
        refine tu_iast hL s_150 d_X12_cutAll_62 h.1 (fun M8 e_M8 hL_M8 => ?_)
        replace h := h.2 M8 e_M8
        refine tw_iload_n 2 d_X12_cutAll_63 rfl rfl ?_
        refine tu_cSi (As := [.int (M.1 148 x2.toNatClampNeg)]) cs_X12_94 rfl (Nat.le_of_ble_eq_true rfl) ⟨Nat.zero_le _, Nat.zero_le _⟩ d_X12_cutAll_64 h (fun r10 M9 h => ?_)
        have hL_M9 : Lay c M9 := hL_M8.to h.1
        replace h := h.2
        refine tw_if_eq 152 d_X12_cutAll_67 (by decide) (fun z11 => ?_) (fun z11 => ?_)
        · replace h := h.1 z11
          refine tw_iload_n 2 d_X12_cutAll_152 rfl rfl ?_
          refine tu_cSi (As := [.int (M.1 148 x2.toNatClampNeg)]) cs_X12_107 rfl (Nat.le_of_ble_eq_true rfl) ⟨Nat.zero_le _, Nat.zero_le _⟩ d_X12_cutAll_153 h (fun r13 M12 h => ?_)
          have hL_M12 : Lay c M12 := hL_M9.to h.1
          replace h := h.2
          refine tw_if_eq 240 d_X12_cutAll_156 (by decide) (fun z14 => ?_) (fun z14 => ?_)
          · replace h := h.1 z14
            refine tw_iload_n 2 d_X12_cutAll_240 rfl rfl ?_
            refine tw_i2l d_X12_cutAll_241 ?_
            refine tw_lstore [(5, .long ((M.1 148 x2.toNatClampNeg).toInt64)), (4, .int x2), (3, .int (M.1 148 x2.toNatClampNeg)), (0, .ref (G.b + 147)), (1, .int x1), (2, .int x2)] d_X12_cutAll_242 (Nat.le_of_ble_eq_true rfl) rfl ?_
            refine tw_aload_n 3 d_X12_cutAll_244 rfl rfl ?_
            refine tw_getR f_X12_24 hL_M12 s_147 ⟨rfl, rfl⟩ (rr_X12_4 s_147) d_X12_cutAll_245 ?_
            refine tw_iload_n 4 d_X12_cutAll_248 rfl rfl ?_
            refine tw_iload_n 2 d_X12_cutAll_249 rfl rfl ?_
            refine tu_cSi (As := [.int (M.1 148 x2.toNatClampNeg)]) cs_X12_114 rfl (Nat.le_of_ble_eq_true rfl) ⟨Nat.zero_le _, Nat.zero_le _⟩ d_X12_cutAll_250 h (fun r16 M15 h => ?_)
            have hL_M15 : Lay c M15 := hL_M12.to h.1
            replace h := h.2
            refine tw_if_eq 260 d_X12_cutAll_253 (by decide) (fun z17 => ?_) (fun z17 => ?_)
            · replace h := h.1 z17
              refine tw_iconst d_X12_cutAll_260 k_4 ?_
              refine tu_iast hL_M15 s_149 d_X12_cutAll_261 h.1 (fun M18 e_M18 hL_M18 => ?_)
              replace h := h.2 M18 e_M18
              refine tw_iinc 5 [(2, .int (x2 + 1)), (5, .long ((M.1 148 x2.toNatClampNeg).toInt64)), (4, .int x2), (3, .int (M.1 148 x2.toNatClampNeg)), (0, .ref (G.b + 147)), (1, .int x1)] d_X12_cutAll_262 rfl rfl (Nat.le_of_ble_eq_true rfl) rfl ?_
              refine tw_aload_n 4 d_X12_cutAll_265 rfl rfl ?_
              refine tw_getR f_X12_30 hL_M18 s_147 ⟨rfl, rfl⟩ (rr_X12_6 s_147) d_X12_cutAll_266 ?_
              refine tw_iload_n 5 d_X12_cutAll_269 rfl rfl ?_
              refine tw_lload 1 d_X12_cutAll_270 rfl ?_
              refine tu_last hL_M18 s_151 d_X12_cutAll_272 h.1 (fun M19 e_M19 hL_M19 => ?_)
              replace h := h.2 M19 e_M19
              refine tw_iinc 5 [(1, .int (x1 + 1)), (2, .int (x2 + 1)), (5, .long ((M.1 148 x2.toNatClampNeg).toInt64)), (4, .int x2), (3, .int (M.1 148 x2.toNatClampNeg)), (0, .ref (G.b + 147))] d_X12_cutAll_273 rfl rfl (Nat.le_of_ble_eq_true rfl) rfl ?_
              refine tw_goto 17 d_X12_cutAll_276 (by decide) ?_
              exact tw_lv [5, 0, 1] rfl h
            · replace h := h.2 z17
              refine tw_iconst d_X12_cutAll_256 k_3 ?_
              refine tw_goto 261 d_X12_cutAll_257 (by decide) ?_
              refine tu_iast hL_M15 s_149 d_X12_cutAll_261 h.1 (fun M20 e_M20 hL_M20 => ?_)
              replace h := h.2 M20 e_M20
              refine tw_iinc 5 [(2, .int (x2 + 1)), (5, .long ((M.1 148 x2.toNatClampNeg).toInt64)), (4, .int x2), (3, .int (M.1 148 x2.toNatClampNeg)), (0, .ref (G.b + 147)), (1, .int x1)] d_X12_cutAll_262 rfl rfl (Nat.le_of_ble_eq_true rfl) rfl ?_
              refine tw_aload_n 4 d_X12_cutAll_265 rfl rfl ?_
              refine tw_getR f_X12_30 hL_M20 s_147 ⟨rfl, rfl⟩ (rr_X12_6 s_147) d_X12_cutAll_266 ?_
              refine tw_iload_n 5 d_X12_cutAll_269 rfl rfl ?_
              refine tw_lload 1 d_X12_cutAll_270 rfl ?_
              refine tu_last hL_M20 s_151 d_X12_cutAll_272 h.1 (fun M21 e_M21 hL_M21 => ?_)
              replace h := h.2 M21 e_M21
              refine tw_iinc 5 [(1, .int (x1 + 1)), (2, .int (x2 + 1)), (5, .long ((M.1 148 x2.toNatClampNeg).toInt64)), (4, .int x2), (3, .int (M.1 148 x2.toNatClampNeg)), (0, .ref (G.b + 147))] d_X12_cutAll_273 rfl rfl (Nat.le_of_ble_eq_true rfl) rfl ?_
              refine tw_goto 17 d_X12_cutAll_276 (by decide) ?_
              exact tw_lv [5, 0, 1] rfl h
          · replace h := h.2 z14
            exact tw_lv [3, 4, 5, 1, 0] rfl h
        · replace h := h.2 z11
          exact tw_lv [3, 4, 5, 1, 0] rfl h
      · replace h := h.2 z7
        refine tw_iinc 3 [(2, .int (x2 + 1)), (3, .int (M.1 148 x2.toNatClampNeg)), (0, .ref (G.b + 147)), (1, .int x1)] d_X12_cutAll_44 rfl rfl (Nat.le_of_ble_eq_true rfl) rfl ?_
        refine tw_goto 17 d_X12_cutAll_47 (by decide) ?_
        exact tw_lv [2, 3, 0] rfl h
theorem b_X12_cutAll_70 {G : MG} {d : Nat} {Q : Mm → Prop} {x1 : Int32} {x2 : Int32} {x4 : Int32} {y5 : Int64} {M : Mm} {c : Nat} (hL : Lay c M)  (h : (((M.1 147 3) ≤ x2 → L_X12_cutAll_129 G d Q x1 x2 x4 y5 M) ∧ (¬ (M.1 147 3) ≤ x2 → (vp_in x2 1000 ∧ (C G Y_X12_isLetter d [.int (M.1 148 x2.toNatClampNeg)] M (Ri fun r3 M2 => M2.2.2 = M.2.2 ∧ ((r3 = 0 → L_X12_cutAll_129 G d Q x1 x2 x4 y5 M2) ∧ (¬ r3 = 0 → ((8 ≤ (x2 - x4) → L_X12_cutAll_70 G d Q x1 (x2 + 1) x4 y5 M2) ∧ (¬ 8 ≤ (x2 - x4) → (vp_in x2 1000 ∧ (C G Y_X12_rank d [.int (M2.1 148 x2.toNatClampNeg)] M2 (Ri fun r7 M6 => M6.2.2 = M2.2.2 ∧ L_X12_cutAll_70 G d Q x1 (x2 + 1) x4 ((37 * y5) + r7.toInt64) M6))))))))))))) : L_X12_cutAll_70 G d Q x1 x2 x4 y5 M := by
  unfold L_X12_cutAll_70
  refine tw_iload_n 2 d_X12_cutAll_70 rfl rfl ?_
  refine tw_aload_n 0 d_X12_cutAll_71 rfl rfl ?_
  refine tw_getI f_X12_98 hL s_147 (Or.inl rfl) d_X12_cutAll_72 ?_
  refine tw_icmp_ge 129 d_X12_cutAll_75 (by decide) (fun z1 => ?_) (fun z1 => ?_)
  · replace h := h.1 z1
    exact tw_lv [0, 1, 2, 3, 4] rfl h
  · replace h := h.2 z1
    refine tw_aload_n 0 d_X12_cutAll_78 rfl rfl ?_
    refine tw_getR f_X12_14 hL s_147 ⟨rfl, rfl⟩ (rr_X12_1 s_147) d_X12_cutAll_79 ?_
    refine tw_iload_n 2 d_X12_cutAll_82 rfl rfl ?_
    refine tw_iald hL s_148 d_X12_cutAll_83 h.1 ?_
    replace h := h.2
    refine tu_cSi (As := [.int (M.1 148 x2.toNatClampNeg)]) cs_X12_94 rfl (Nat.le_of_ble_eq_true rfl) ⟨Nat.zero_le _, Nat.zero_le _⟩ d_X12_cutAll_84 h (fun r3 M2 h => ?_)
    have hL_M2 : Lay c M2 := hL.to h.1
    replace h := h.2
    refine tw_if_eq 129 d_X12_cutAll_87 (by decide) (fun z4 => ?_) (fun z4 => ?_)
    · replace h := h.1 z4
      exact tw_lv [0, 1, 2, 3, 4] rfl h
    · replace h := h.2 z4
      refine tw_iload_n 2 d_X12_cutAll_90 rfl rfl ?_
      refine tw_iload 3 d_X12_cutAll_91 rfl ?_
      refine tw_isub d_X12_cutAll_93 ?_
      refine tw_bipush d_X12_cutAll_94 kb_8 ?_
      refine tw_icmp_ge 119 d_X12_cutAll_96 (by decide) (fun z5 => ?_) (fun z5 => ?_)
      · replace h := h.1 z5
        refine tw_lload 4 d_X12_cutAll_119 rfl ?_
        refine tw_lstore [(5, .long y5), (0, .ref (G.b + 147)), (1, .int x1), (2, .int x2), (4, .int x4)] d_X12_cutAll_121 (Nat.le_of_ble_eq_true rfl) rfl ?_
        refine tw_iinc 3 [(2, .int (x2 + 1)), (5, .long y5), (0, .ref (G.b + 147)), (1, .int x1), (4, .int x4)] d_X12_cutAll_123 rfl rfl (Nat.le_of_ble_eq_true rfl) rfl ?_
        refine tw_goto 70 d_X12_cutAll_126 (by decide) ?_
        exact tw_lv [2, 3, 0, 4, 1] rfl h
      · replace h := h.2 z5
        refine tw_ldc2 d_X12_cutAll_99 mg1109 ?_
        refine tw_lload 4 d_X12_cutAll_102 rfl ?_
        refine tw_lmul d_X12_cutAll_104 ?_
        refine tw_aload_n 0 d_X12_cutAll_105 rfl rfl ?_
        refine tw_getR f_X12_14 hL_M2 s_147 ⟨rfl, rfl⟩ (rr_X12_1 s_147) d_X12_cutAll_106 ?_
        refine tw_iload_n 2 d_X12_cutAll_109 rfl rfl ?_
        refine tw_iald hL_M2 s_148 d_X12_cutAll_110 h.1 ?_
        replace h := h.2
        refine tu_cSi (As := [.int (M2.1 148 x2.toNatClampNeg)]) cs_X12_103 rfl (Nat.le_of_ble_eq_true rfl) ⟨Nat.zero_le _, Nat.zero_le _⟩ d_X12_cutAll_111 h (fun r7 M6 h => ?_)
        have hL_M6 : Lay c M6 := hL_M2.to h.1
        replace h := h.2
        refine tw_i2l d_X12_cutAll_114 ?_
        refine tw_ladd d_X12_cutAll_115 ?_
        refine tw_goto 121 d_X12_cutAll_116 (by decide) ?_
        refine tw_lstore [(5, .long ((37 * y5) + r7.toInt64)), (0, .ref (G.b + 147)), (1, .int x1), (2, .int x2), (4, .int x4)] d_X12_cutAll_121 (Nat.le_of_ble_eq_true rfl) rfl ?_
        refine tw_iinc 3 [(2, .int (x2 + 1)), (5, .long ((37 * y5) + r7.toInt64)), (0, .ref (G.b + 147)), (1, .int x1), (4, .int x4)] d_X12_cutAll_123 rfl rfl (Nat.le_of_ble_eq_true rfl) rfl ?_
        refine tw_goto 70 d_X12_cutAll_126 (by decide) ?_
        exact tw_lv [2, 3, 0, 4, 1] rfl h
theorem b_X12_cutAll_129 {G : MG} {d : Nat} {Q : Mm → Prop} {x1 : Int32} {x2 : Int32} {x4 : Int32} {y5 : Int64} {M : Mm} {c : Nat} (hL : Lay c M)  (h : (((x2 - x4) ≤ 8 → (vp_in x1 1002 ∧ ∀ M2 : Mm, M2 = sI M 149 x1.toNatClampNeg 1 → (vp_in x1 1002 ∧ ∀ M3 : Mm, M3 = sJ M2 151 x1.toNatClampNeg y5 → L_X12_cutAll_17 G d Q (x1 + 1) x2 M3))) ∧ (¬ (x2 - x4) ≤ 8 → (vp_in x1 1002 ∧ ∀ M4 : Mm, M4 = sI M 149 x1.toNatClampNeg 4 → (vp_in x1 1002 ∧ ∀ M5 : Mm, M5 = sJ M4 151 x1.toNatClampNeg y5 → L_X12_cutAll_17 G d Q (x1 + 1) x2 M5))))) : L_X12_cutAll_129 G d Q x1 x2 x4 y5 M := by
  unfold L_X12_cutAll_129
  refine tw_aload_n 0 d_X12_cutAll_129 rfl rfl ?_
  refine tw_getR f_X12_24 hL s_147 ⟨rfl, rfl⟩ (rr_X12_4 s_147) d_X12_cutAll_130 ?_
  refine tw_iload_n 1 d_X12_cutAll_133 rfl rfl ?_
  refine tw_iload_n 2 d_X12_cutAll_134 rfl rfl ?_
  refine tw_iload 3 d_X12_cutAll_135 rfl ?_
  refine tw_isub d_X12_cutAll_137 ?_
  refine tw_bipush d_X12_cutAll_138 kb_8 ?_
  refine tw_icmp_le 147 d_X12_cutAll_140 (by decide) (fun z1 => ?_) (fun z1 => ?_)
  · replace h := h.1 z1
    refine tw_iconst d_X12_cutAll_147 k_1 ?_
    refine tu_iast hL s_149 d_X12_cutAll_148 h.1 (fun M2 e_M2 hL_M2 => ?_)
    replace h := h.2 M2 e_M2
    refine tw_goto 265 d_X12_cutAll_149 (by decide) ?_
    refine tw_aload_n 0 d_X12_cutAll_265 rfl rfl ?_
    refine tw_getR f_X12_30 hL_M2 s_147 ⟨rfl, rfl⟩ (rr_X12_6 s_147) d_X12_cutAll_266 ?_
    refine tw_iload_n 1 d_X12_cutAll_269 rfl rfl ?_
    refine tw_lload 4 d_X12_cutAll_270 rfl ?_
    refine tu_last hL_M2 s_151 d_X12_cutAll_272 h.1 (fun M3 e_M3 hL_M3 => ?_)
    replace h := h.2 M3 e_M3
    refine tw_iinc 1 [(1, .int (x1 + 1)), (0, .ref (G.b + 147)), (2, .int x2), (4, .int x4), (5, .long y5)] d_X12_cutAll_273 rfl rfl (Nat.le_of_ble_eq_true rfl) rfl ?_
    refine tw_goto 17 d_X12_cutAll_276 (by decide) ?_
    exact tw_lv [1, 0, 2] rfl h
  · replace h := h.2 z1
    refine tw_iconst d_X12_cutAll_143 k_4 ?_
    refine tw_goto 148 d_X12_cutAll_144 (by decide) ?_
    refine tu_iast hL s_149 d_X12_cutAll_148 h.1 (fun M4 e_M4 hL_M4 => ?_)
    replace h := h.2 M4 e_M4
    refine tw_goto 265 d_X12_cutAll_149 (by decide) ?_
    refine tw_aload_n 0 d_X12_cutAll_265 rfl rfl ?_
    refine tw_getR f_X12_30 hL_M4 s_147 ⟨rfl, rfl⟩ (rr_X12_6 s_147) d_X12_cutAll_266 ?_
    refine tw_iload_n 1 d_X12_cutAll_269 rfl rfl ?_
    refine tw_lload 4 d_X12_cutAll_270 rfl ?_
    refine tu_last hL_M4 s_151 d_X12_cutAll_272 h.1 (fun M5 e_M5 hL_M5 => ?_)
    replace h := h.2 M5 e_M5
    refine tw_iinc 1 [(1, .int (x1 + 1)), (0, .ref (G.b + 147)), (2, .int x2), (4, .int x4), (5, .long y5)] d_X12_cutAll_273 rfl rfl (Nat.le_of_ble_eq_true rfl) rfl ?_
    refine tw_goto 17 d_X12_cutAll_276 (by decide) ?_
    exact tw_lv [1, 0, 2] rfl h
theorem b_X12_cutAll_159 {G : MG} {d : Nat} {Q : Mm → Prop} {x1 : Int32} {x2 : Int32} {x4 : Int32} {y5 : Int64} {M : Mm} {c : Nat} (hL : Lay c M)  (h : (((M.1 147 3) ≤ x2 → L_X12_cutAll_218 G d Q x1 x2 x4 y5 M) ∧ (¬ (M.1 147 3) ≤ x2 → (vp_in x2 1000 ∧ (C G Y_X12_isDigit d [.int (M.1 148 x2.toNatClampNeg)] M (Ri fun r3 M2 => M2.2.2 = M.2.2 ∧ ((r3 = 0 → L_X12_cutAll_218 G d Q x1 x2 x4 y5 M2) ∧ (¬ r3 = 0 → ((4 ≤ (x2 - x4) → L_X12_cutAll_159 G d Q x1 (x2 + 1) x4 y5 M2) ∧ (¬ 4 ≤ (x2 - x4) → (vp_in x2 1000 ∧ L_X12_cutAll_159 G d Q x1 (x2 + 1) x4 (((10 * y5) + ((M2.1 148 x2.toNatClampNeg).toInt64)) - 48) M2))))))))))) : L_X12_cutAll_159 G d Q x1 x2 x4 y5 M := by
  unfold L_X12_cutAll_159
  refine tw_iload_n 2 d_X12_cutAll_159 rfl rfl ?_
  refine tw_aload_n 0 d_X12_cutAll_160 rfl rfl ?_
  refine tw_getI f_X12_98 hL s_147 (Or.inl rfl) d_X12_cutAll_161 ?_
  refine tw_icmp_ge 218 d_X12_cutAll_164 (by decide) (fun z1 => ?_) (fun z1 => ?_)
  · replace h := h.1 z1
    exact tw_lv [0, 1, 2, 3, 4] rfl h
  · replace h := h.2 z1
    refine tw_aload_n 0 d_X12_cutAll_167 rfl rfl ?_
    refine tw_getR f_X12_14 hL s_147 ⟨rfl, rfl⟩ (rr_X12_1 s_147) d_X12_cutAll_168 ?_
    refine tw_iload_n 2 d_X12_cutAll_171 rfl rfl ?_
    refine tw_iald hL s_148 d_X12_cutAll_172 h.1 ?_
    replace h := h.2
    refine tu_cSi (As := [.int (M.1 148 x2.toNatClampNeg)]) cs_X12_107 rfl (Nat.le_of_ble_eq_true rfl) ⟨Nat.zero_le _, Nat.zero_le _⟩ d_X12_cutAll_173 h (fun r3 M2 h => ?_)
    have hL_M2 : Lay c M2 := hL.to h.1
    replace h := h.2
    refine tw_if_eq 218 d_X12_cutAll_176 (by decide) (fun z4 => ?_) (fun z4 => ?_)
    · replace h := h.1 z4
      exact tw_lv [0, 1, 2, 3, 4] rfl h
    · replace h := h.2 z4
      refine tw_iload_n 2 d_X12_cutAll_179 rfl rfl ?_
      refine tw_iload 3 d_X12_cutAll_180 rfl ?_
      refine tw_isub d_X12_cutAll_182 ?_
      refine tw_iconst d_X12_cutAll_183 k_4 ?_
      refine tw_icmp_ge 208 d_X12_cutAll_184 (by decide) (fun z5 => ?_) (fun z5 => ?_)
      · replace h := h.1 z5
        refine tw_lload 4 d_X12_cutAll_208 rfl ?_
        refine tw_lstore [(5, .long y5), (0, .ref (G.b + 147)), (1, .int x1), (2, .int x2), (4, .int x4)] d_X12_cutAll_210 (Nat.le_of_ble_eq_true rfl) rfl ?_
        refine tw_iinc 3 [(2, .int (x2 + 1)), (5, .long y5), (0, .ref (G.b + 147)), (1, .int x1), (4, .int x4)] d_X12_cutAll_212 rfl rfl (Nat.le_of_ble_eq_true rfl) rfl ?_
        refine tw_goto 159 d_X12_cutAll_215 (by decide) ?_
        exact tw_lv [2, 3, 0, 4, 1] rfl h
      · replace h := h.2 z5
        refine tw_ldc2 d_X12_cutAll_187 mg1116 ?_
        refine tw_lload 4 d_X12_cutAll_190 rfl ?_
        refine tw_lmul d_X12_cutAll_192 ?_
        refine tw_aload_n 0 d_X12_cutAll_193 rfl rfl ?_
        refine tw_getR f_X12_14 hL_M2 s_147 ⟨rfl, rfl⟩ (rr_X12_1 s_147) d_X12_cutAll_194 ?_
        refine tw_iload_n 2 d_X12_cutAll_197 rfl rfl ?_
        refine tw_iald hL_M2 s_148 d_X12_cutAll_198 h.1 ?_
        replace h := h.2
        refine tw_i2l d_X12_cutAll_199 ?_
        refine tw_ladd d_X12_cutAll_200 ?_
        refine tw_ldc2 d_X12_cutAll_201 mg1117 ?_
        refine tw_lsub d_X12_cutAll_204 ?_
        refine tw_goto 210 d_X12_cutAll_205 (by decide) ?_
        refine tw_lstore [(5, .long (((10 * y5) + ((M2.1 148 x2.toNatClampNeg).toInt64)) - 48)), (0, .ref (G.b + 147)), (1, .int x1), (2, .int x2), (4, .int x4)] d_X12_cutAll_210 (Nat.le_of_ble_eq_true rfl) rfl ?_
        refine tw_iinc 3 [(2, .int (x2 + 1)), (5, .long (((10 * y5) + ((M2.1 148 x2.toNatClampNeg).toInt64)) - 48)), (0, .ref (G.b + 147)), (1, .int x1), (4, .int x4)] d_X12_cutAll_212 rfl rfl (Nat.le_of_ble_eq_true rfl) rfl ?_
        refine tw_goto 159 d_X12_cutAll_215 (by decide) ?_
        exact tw_lv [2, 3, 0, 4, 1] rfl h
theorem b_X12_cutAll_218 {G : MG} {d : Nat} {Q : Mm → Prop} {x1 : Int32} {x2 : Int32} {x4 : Int32} {y5 : Int64} {M : Mm} {c : Nat} (hL : Lay c M)  (h : (((x2 - x4) ≤ 4 → (vp_in x1 1002 ∧ ∀ M2 : Mm, M2 = sI M 149 x1.toNatClampNeg 2 → (vp_in x1 1002 ∧ ∀ M3 : Mm, M3 = sJ M2 151 x1.toNatClampNeg y5 → L_X12_cutAll_17 G d Q (x1 + 1) x2 M3))) ∧ (¬ (x2 - x4) ≤ 4 → (vp_in x1 1002 ∧ ∀ M4 : Mm, M4 = sI M 149 x1.toNatClampNeg 4 → (vp_in x1 1002 ∧ ∀ M5 : Mm, M5 = sJ M4 151 x1.toNatClampNeg y5 → L_X12_cutAll_17 G d Q (x1 + 1) x2 M5))))) : L_X12_cutAll_218 G d Q x1 x2 x4 y5 M := by
  unfold L_X12_cutAll_218
  refine tw_aload_n 0 d_X12_cutAll_218 rfl rfl ?_
  refine tw_getR f_X12_24 hL s_147 ⟨rfl, rfl⟩ (rr_X12_4 s_147) d_X12_cutAll_219 ?_
  refine tw_iload_n 1 d_X12_cutAll_222 rfl rfl ?_
  refine tw_iload_n 2 d_X12_cutAll_223 rfl rfl ?_
  refine tw_iload 3 d_X12_cutAll_224 rfl ?_
  refine tw_isub d_X12_cutAll_226 ?_
  refine tw_iconst d_X12_cutAll_227 k_4 ?_
  refine tw_icmp_le 235 d_X12_cutAll_228 (by decide) (fun z1 => ?_) (fun z1 => ?_)
  · replace h := h.1 z1
    refine tw_iconst d_X12_cutAll_235 k_2 ?_
    refine tu_iast hL s_149 d_X12_cutAll_236 h.1 (fun M2 e_M2 hL_M2 => ?_)
    replace h := h.2 M2 e_M2
    refine tw_goto 265 d_X12_cutAll_237 (by decide) ?_
    refine tw_aload_n 0 d_X12_cutAll_265 rfl rfl ?_
    refine tw_getR f_X12_30 hL_M2 s_147 ⟨rfl, rfl⟩ (rr_X12_6 s_147) d_X12_cutAll_266 ?_
    refine tw_iload_n 1 d_X12_cutAll_269 rfl rfl ?_
    refine tw_lload 4 d_X12_cutAll_270 rfl ?_
    refine tu_last hL_M2 s_151 d_X12_cutAll_272 h.1 (fun M3 e_M3 hL_M3 => ?_)
    replace h := h.2 M3 e_M3
    refine tw_iinc 1 [(1, .int (x1 + 1)), (0, .ref (G.b + 147)), (2, .int x2), (4, .int x4), (5, .long y5)] d_X12_cutAll_273 rfl rfl (Nat.le_of_ble_eq_true rfl) rfl ?_
    refine tw_goto 17 d_X12_cutAll_276 (by decide) ?_
    exact tw_lv [1, 0, 2] rfl h
  · replace h := h.2 z1
    refine tw_iconst d_X12_cutAll_231 k_4 ?_
    refine tw_goto 236 d_X12_cutAll_232 (by decide) ?_
    refine tu_iast hL s_149 d_X12_cutAll_236 h.1 (fun M4 e_M4 hL_M4 => ?_)
    replace h := h.2 M4 e_M4
    refine tw_goto 265 d_X12_cutAll_237 (by decide) ?_
    refine tw_aload_n 0 d_X12_cutAll_265 rfl rfl ?_
    refine tw_getR f_X12_30 hL_M4 s_147 ⟨rfl, rfl⟩ (rr_X12_6 s_147) d_X12_cutAll_266 ?_
    refine tw_iload_n 1 d_X12_cutAll_269 rfl rfl ?_
    refine tw_lload 4 d_X12_cutAll_270 rfl ?_
    refine tu_last hL_M4 s_151 d_X12_cutAll_272 h.1 (fun M5 e_M5 hL_M5 => ?_)
    replace h := h.2 M5 e_M5
    refine tw_iinc 1 [(1, .int (x1 + 1)), (0, .ref (G.b + 147)), (2, .int x2), (4, .int x4), (5, .long y5)] d_X12_cutAll_273 rfl rfl (Nat.le_of_ble_eq_true rfl) rfl ?_
    refine tw_goto 17 d_X12_cutAll_276 (by decide) ?_
    exact tw_lv [1, 0, 2] rfl h
theorem b_X12_cutAll {G : MG} {d : Nat} {Q : Mm → Prop}  {M : Mm} {c : Nat} (hL : Lay c M)  (h : (∀ M1 : Mm, M1 = sI M 147 3 (M.1 147 2) → (∀ M2 : Mm, M2 = sI M1 147 2 0 → L_X12_cutAll_17 G d Q 0 0 M2))) : C G Y_X12_cutAll (d + 1) [.ref (G.b + 147)] M (Rv Q) := by
  refine C.of (by decide) (Nat.le_of_ble_eq_true rfl) (lv := [(0, .ref (G.b + 147))]) rfl ?_
  refine tw_aload_n 0 d_X12_cutAll_0 rfl rfl ?_
  refine tw_aload_n 0 d_X12_cutAll_1 rfl rfl ?_
  refine tw_getI f_X12_11 hL s_147 (Or.inl rfl) d_X12_cutAll_2 ?_
  refine tu_putI f_X12_98 hL s_147 rfl rfl d_X12_cutAll_5 (fun M1 e_M1 hL_M1 => ?_)
  replace h := h M1 e_M1
  refine tw_aload_n 0 d_X12_cutAll_8 rfl rfl ?_
  refine tw_iconst d_X12_cutAll_9 k_0 ?_
  refine tu_putI f_X12_11 hL_M1 s_147 rfl rfl d_X12_cutAll_10 (fun M2 e_M2 hL_M2 => ?_)
  replace h := h M2 e_M2
  refine tw_iconst d_X12_cutAll_13 k_0 ?_
  refine tw_istore_n [(1, .int 0), (0, .ref (G.b + 147))] d_X12_cutAll_14 rfl (Nat.le_of_ble_eq_true rfl) rfl ?_
  refine tw_iconst d_X12_cutAll_15 k_0 ?_
  refine tw_istore_n [(2, .int 0), (1, .int 0), (0, .ref (G.b + 147))] d_X12_cutAll_16 rfl (Nat.le_of_ble_eq_true rfl) rfl ?_
  exact tw_lv [2, 1, 0] rfl h

theorem d_X12_wrong_0 : decode Y_X12_wrong.cc 0 = .ok (.aload_n 0, 1) := by decide +kernel
theorem d_X12_wrong_1 : decode Y_X12_wrong.cc 1 = .ok (.getfield 120, 3) := by decide +kernel
theorem d_X12_wrong_4 : decode Y_X12_wrong.cc 4 = .ok (.ifCond .ne 21, 3) := by decide +kernel
theorem d_X12_wrong_7 : decode Y_X12_wrong.cc 7 = .ok (.aload_n 0, 1) := by decide +kernel
theorem d_X12_wrong_8 : decode Y_X12_wrong.cc 8 = .ok (.iload_n 1, 1) := by decide +kernel
theorem d_X12_wrong_9 : decode Y_X12_wrong.cc 9 = .ok (.bipush 16, 2) := by decide +kernel
theorem d_X12_wrong_11 : decode Y_X12_wrong.cc 11 = .ok (.aload_n 0, 1) := by decide +kernel
theorem d_X12_wrong_12 : decode Y_X12_wrong.cc 12 = .ok (.getfield 27, 3) := by decide +kernel
theorem d_X12_wrong_15 : decode Y_X12_wrong.cc 15 = .ok (.aload_n 0, 1) := by decide +kernel
theorem d_X12_wrong_16 : decode Y_X12_wrong.cc 16 = .ok (.getfield 117, 3) := by decide +kernel
theorem d_X12_wrong_19 : decode Y_X12_wrong.cc 19 = .ok (.iaload, 1) := by decide +kernel
theorem d_X12_wrong_20 : decode Y_X12_wrong.cc 20 = .ok (.imul, 1) := by decide +kernel
theorem d_X12_wrong_21 : decode Y_X12_wrong.cc 21 = .ok (.iadd, 1) := by decide +kernel
theorem d_X12_wrong_22 : decode Y_X12_wrong.cc 22 = .ok (.putfield 120, 3) := by decide +kernel
theorem d_X12_wrong_25 : decode Y_X12_wrong.cc 25 = .ok (.return_, 1) := by decide +kernel
theorem b_X12_wrong {G : MG} {d : Nat} {Q : Mm → Prop} {x1 : Int32} {M : Mm} {c : Nat} (hL : Lay c M)  (h : ((¬ (M.1 147 8) = 0 → Q M) ∧ ((M.1 147 8) = 0 → (vp_in (M.1 147 7) 1002 ∧ (∀ M2 : Mm, M2 = sI M 147 8 (x1 + (16 * (M.1 150 (M.1 147 7).toNatClampNeg))) → Q M2))))) : C G Y_X12_wrong (d + 1) [.ref (G.b + 147), .int x1] M (Rv Q) := by
  refine C.of (by decide) (Nat.le_of_ble_eq_true rfl) (lv := [(0, .ref (G.b + 147)), (1, .int x1)]) rfl ?_
  refine tw_aload_n 0 d_X12_wrong_0 rfl rfl ?_
  refine tw_getI f_X12_120 hL s_147 (Or.inl rfl) d_X12_wrong_1 ?_
  refine tw_if_ne 25 d_X12_wrong_4 (by decide) (fun z1 => ?_) (fun z1 => ?_)
  · replace h := h.1 z1
    exact tw_vret rfl ⟨Nat.zero_le _, Nat.zero_le _⟩ d_X12_wrong_25 h
  · replace h := h.2 z1
    refine tw_aload_n 0 d_X12_wrong_7 rfl rfl ?_
    refine tw_iload_n 1 d_X12_wrong_8 rfl rfl ?_
    refine tw_bipush d_X12_wrong_9 kb_16 ?_
    refine tw_aload_n 0 d_X12_wrong_11 rfl rfl ?_
    refine tw_getR f_X12_27 hL s_147 ⟨rfl, rfl⟩ (rr_X12_5 s_147) d_X12_wrong_12 ?_
    refine tw_aload_n 0 d_X12_wrong_15 rfl rfl ?_
    refine tw_getI f_X12_117 hL s_147 (Or.inl rfl) d_X12_wrong_16 ?_
    refine tw_iald hL s_150 d_X12_wrong_19 h.1 ?_
    replace h := h.2
    refine tw_imul d_X12_wrong_20 ?_
    refine tw_iadd d_X12_wrong_21 ?_
    refine tu_putI f_X12_120 hL s_147 rfl rfl d_X12_wrong_22 (fun M2 e_M2 hL_M2 => ?_)
    replace h := h M2 e_M2
    exact tw_vret rfl ⟨Nat.zero_le _, Nat.zero_le _⟩ d_X12_wrong_25 h

theorem d_X12_isSign_0 : decode Y_X12_isSign.cc 0 = .ok (.aload_n 0, 1) := by decide +kernel
theorem d_X12_isSign_1 : decode Y_X12_isSign.cc 1 = .ok (.getfield 120, 3) := by decide +kernel
theorem d_X12_isSign_4 : decode Y_X12_isSign.cc 4 = .ok (.ifCond .ne 35, 3) := by decide +kernel
theorem d_X12_isSign_7 : decode Y_X12_isSign.cc 7 = .ok (.aload_n 0, 1) := by decide +kernel
theorem d_X12_isSign_8 : decode Y_X12_isSign.cc 8 = .ok (.getfield 24, 3) := by decide +kernel
theorem d_X12_isSign_11 : decode Y_X12_isSign.cc 11 = .ok (.aload_n 0, 1) := by decide +kernel
theorem d_X12_isSign_12 : decode Y_X12_isSign.cc 12 = .ok (.getfield 117, 3) := by decide +kernel
theorem d_X12_isSign_15 : decode Y_X12_isSign.cc 15 = .ok (.iaload, 1) := by decide +kernel
theorem d_X12_isSign_16 : decode Y_X12_isSign.cc 16 = .ok (.iconst 3, 1) := by decide +kernel
theorem d_X12_isSign_17 : decode Y_X12_isSign.cc 17 = .ok (.if_icmp .ne 22, 3) := by decide +kernel
theorem d_X12_isSign_20 : decode Y_X12_isSign.cc 20 = .ok (.aload_n 0, 1) := by decide +kernel
theorem d_X12_isSign_21 : decode Y_X12_isSign.cc 21 = .ok (.getfield 30, 3) := by decide +kernel
theorem d_X12_isSign_24 : decode Y_X12_isSign.cc 24 = .ok (.aload_n 0, 1) := by decide +kernel
theorem d_X12_isSign_25 : decode Y_X12_isSign.cc 25 = .ok (.getfield 117, 3) := by decide +kernel
theorem d_X12_isSign_28 : decode Y_X12_isSign.cc 28 = .ok (.laload, 1) := by decide +kernel
theorem d_X12_isSign_29 : decode Y_X12_isSign.cc 29 = .ok (.iload_n 1, 1) := by decide +kernel
theorem d_X12_isSign_30 : decode Y_X12_isSign.cc 30 = .ok (.i2l, 1) := by decide +kernel
theorem d_X12_isSign_31 : decode Y_X12_isSign.cc 31 = .ok (.lcmp, 1) := by decide +kernel
theorem d_X12_isSign_32 : decode Y_X12_isSign.cc 32 = .ok (.ifCond .ne 7, 3) := by decide +kernel
theorem d_X12_isSign_35 : decode Y_X12_isSign.cc 35 = .ok (.iconst 1, 1) := by decide +kernel
theorem d_X12_isSign_36 : decode Y_X12_isSign.cc 36 = .ok (.goto 4, 3) := by decide +kernel
theorem d_X12_isSign_39 : decode Y_X12_isSign.cc 39 = .ok (.iconst 0, 1) := by decide +kernel
theorem d_X12_isSign_40 : decode Y_X12_isSign.cc 40 = .ok (.ireturn, 1) := by decide +kernel
theorem b_X12_isSign {G : MG} {d : Nat} {Q : Int32 → Mm → Prop} {x1 : Int32} {M : Mm} {c : Nat} (hL : Lay c M)  (h : ((¬ (M.1 147 8) = 0 → Q 0 M) ∧ ((M.1 147 8) = 0 → (vp_in (M.1 147 7) 1002 ∧ ((¬ (M.1 149 (M.1 147 7).toNatClampNeg) = 3 → Q 0 M) ∧ ((M.1 149 (M.1 147 7).toNatClampNeg) = 3 → (vp_in (M.1 147 7) 1002 ∧ ((¬ (M.2.1 151 (M.1 147 7).toNatClampNeg) = x1.toInt64 → Q 0 M) ∧ ((M.2.1 151 (M.1 147 7).toNatClampNeg) = x1.toInt64 → Q 1 M))))))))) : C G Y_X12_isSign (d + 1) [.ref (G.b + 147), .int x1] M (Ri Q) := by
  refine C.of (by decide) (Nat.le_of_ble_eq_true rfl) (lv := [(0, .ref (G.b + 147)), (1, .int x1)]) rfl ?_
  refine tw_aload_n 0 d_X12_isSign_0 rfl rfl ?_
  refine tw_getI f_X12_120 hL s_147 (Or.inl rfl) d_X12_isSign_1 ?_
  refine tw_if_ne 39 d_X12_isSign_4 (by decide) (fun z1 => ?_) (fun z1 => ?_)
  · replace h := h.1 z1
    refine tw_iconst d_X12_isSign_39 k_0 ?_
    exact tw_zret (ty := .boolean) rfl rfl ⟨Nat.zero_le _, Nat.zero_le _⟩ d_X12_isSign_40 h
  · replace h := h.2 z1
    refine tw_aload_n 0 d_X12_isSign_7 rfl rfl ?_
    refine tw_getR f_X12_24 hL s_147 ⟨rfl, rfl⟩ (rr_X12_4 s_147) d_X12_isSign_8 ?_
    refine tw_aload_n 0 d_X12_isSign_11 rfl rfl ?_
    refine tw_getI f_X12_117 hL s_147 (Or.inl rfl) d_X12_isSign_12 ?_
    refine tw_iald hL s_149 d_X12_isSign_15 h.1 ?_
    replace h := h.2
    refine tw_iconst d_X12_isSign_16 k_3 ?_
    refine tw_icmp_ne 39 d_X12_isSign_17 (by decide) (fun z2 => ?_) (fun z2 => ?_)
    · replace h := h.1 z2
      refine tw_iconst d_X12_isSign_39 k_0 ?_
      exact tw_zret (ty := .boolean) rfl rfl ⟨Nat.zero_le _, Nat.zero_le _⟩ d_X12_isSign_40 h
    · replace h := h.2 z2
      refine tw_aload_n 0 d_X12_isSign_20 rfl rfl ?_
      refine tw_getR f_X12_30 hL s_147 ⟨rfl, rfl⟩ (rr_X12_6 s_147) d_X12_isSign_21 ?_
      refine tw_aload_n 0 d_X12_isSign_24 rfl rfl ?_
      refine tw_getI f_X12_117 hL s_147 (Or.inl rfl) d_X12_isSign_25 ?_
      refine tw_lald hL s_151 d_X12_isSign_28 h.1 ?_
      replace h := h.2
      refine tw_iload_n 1 d_X12_isSign_29 rfl rfl ?_
      refine tw_i2l d_X12_isSign_30 ?_
      refine tw_lcmp_ne 39 d_X12_isSign_31 d_X12_isSign_32 (by decide) (fun z3 => ?_) (fun z3 => ?_)
      · replace h := h.1 z3
        refine tw_iconst d_X12_isSign_39 k_0 ?_
        exact tw_zret (ty := .boolean) rfl rfl ⟨Nat.zero_le _, Nat.zero_le _⟩ d_X12_isSign_40 h
      · replace h := h.2 z3
        refine tw_iconst d_X12_isSign_35 k_1 ?_
        refine tw_goto 40 d_X12_isSign_36 (by decide) ?_
        exact tw_zret (ty := .boolean) rfl rfl ⟨Nat.zero_le _, Nat.zero_le _⟩ d_X12_isSign_40 h

theorem d_X12_isWord_0 : decode Y_X12_isWord.cc 0 = .ok (.aload_n 0, 1) := by decide +kernel
theorem d_X12_isWord_1 : decode Y_X12_isWord.cc 1 = .ok (.getfield 120, 3) := by decide +kernel
theorem d_X12_isWord_4 : decode Y_X12_isWord.cc 4 = .ok (.ifCond .ne 39, 3) := by decide +kernel
theorem d_X12_isWord_7 : decode Y_X12_isWord.cc 7 = .ok (.aload_n 0, 1) := by decide +kernel
theorem d_X12_isWord_8 : decode Y_X12_isWord.cc 8 = .ok (.getfield 24, 3) := by decide +kernel
theorem d_X12_isWord_11 : decode Y_X12_isWord.cc 11 = .ok (.aload_n 0, 1) := by decide +kernel
theorem d_X12_isWord_12 : decode Y_X12_isWord.cc 12 = .ok (.getfield 117, 3) := by decide +kernel
theorem d_X12_isWord_15 : decode Y_X12_isWord.cc 15 = .ok (.iaload, 1) := by decide +kernel
theorem d_X12_isWord_16 : decode Y_X12_isWord.cc 16 = .ok (.iconst 1, 1) := by decide +kernel
theorem d_X12_isWord_17 : decode Y_X12_isWord.cc 17 = .ok (.if_icmp .ne 26, 3) := by decide +kernel
theorem d_X12_isWord_20 : decode Y_X12_isWord.cc 20 = .ok (.aload_n 0, 1) := by decide +kernel
theorem d_X12_isWord_21 : decode Y_X12_isWord.cc 21 = .ok (.getfield 30, 3) := by decide +kernel
theorem d_X12_isWord_24 : decode Y_X12_isWord.cc 24 = .ok (.aload_n 0, 1) := by decide +kernel
theorem d_X12_isWord_25 : decode Y_X12_isWord.cc 25 = .ok (.getfield 117, 3) := by decide +kernel
theorem d_X12_isWord_28 : decode Y_X12_isWord.cc 28 = .ok (.laload, 1) := by decide +kernel
theorem d_X12_isWord_29 : decode Y_X12_isWord.cc 29 = .ok (.aload_n 0, 1) := by decide +kernel
theorem d_X12_isWord_30 : decode Y_X12_isWord.cc 30 = .ok (.getfield 66, 3) := by decide +kernel
theorem d_X12_isWord_33 : decode Y_X12_isWord.cc 33 = .ok (.iload_n 1, 1) := by decide +kernel
theorem d_X12_isWord_34 : decode Y_X12_isWord.cc 34 = .ok (.laload, 1) := by decide +kernel
theorem d_X12_isWord_35 : decode Y_X12_isWord.cc 35 = .ok (.lcmp, 1) := by decide +kernel
theorem d_X12_isWord_36 : decode Y_X12_isWord.cc 36 = .ok (.ifCond .ne 7, 3) := by decide +kernel
theorem d_X12_isWord_39 : decode Y_X12_isWord.cc 39 = .ok (.iconst 1, 1) := by decide +kernel
theorem d_X12_isWord_40 : decode Y_X12_isWord.cc 40 = .ok (.goto 4, 3) := by decide +kernel
theorem d_X12_isWord_43 : decode Y_X12_isWord.cc 43 = .ok (.iconst 0, 1) := by decide +kernel
theorem d_X12_isWord_44 : decode Y_X12_isWord.cc 44 = .ok (.ireturn, 1) := by decide +kernel
theorem b_X12_isWord {G : MG} {d : Nat} {Q : Int32 → Mm → Prop} {x1 : Int32} {M : Mm} {c : Nat} (hL : Lay c M)  (h : ((¬ (M.1 147 8) = 0 → Q 0 M) ∧ ((M.1 147 8) = 0 → (vp_in (M.1 147 7) 1002 ∧ ((¬ (M.1 149 (M.1 147 7).toNatClampNeg) = 1 → Q 0 M) ∧ ((M.1 149 (M.1 147 7).toNatClampNeg) = 1 → (vp_in (M.1 147 7) 1002 ∧ (vp_in x1 16 ∧ ((¬ (M.2.1 151 (M.1 147 7).toNatClampNeg) = (M.2.1 152 x1.toNatClampNeg) → Q 0 M) ∧ ((M.2.1 151 (M.1 147 7).toNatClampNeg) = (M.2.1 152 x1.toNatClampNeg) → Q 1 M)))))))))) : C G Y_X12_isWord (d + 1) [.ref (G.b + 147), .int x1] M (Ri Q) := by
  refine C.of (by decide) (Nat.le_of_ble_eq_true rfl) (lv := [(0, .ref (G.b + 147)), (1, .int x1)]) rfl ?_
  refine tw_aload_n 0 d_X12_isWord_0 rfl rfl ?_
  refine tw_getI f_X12_120 hL s_147 (Or.inl rfl) d_X12_isWord_1 ?_
  refine tw_if_ne 43 d_X12_isWord_4 (by decide) (fun z1 => ?_) (fun z1 => ?_)
  · replace h := h.1 z1
    refine tw_iconst d_X12_isWord_43 k_0 ?_
    exact tw_zret (ty := .boolean) rfl rfl ⟨Nat.zero_le _, Nat.zero_le _⟩ d_X12_isWord_44 h
  · replace h := h.2 z1
    refine tw_aload_n 0 d_X12_isWord_7 rfl rfl ?_
    refine tw_getR f_X12_24 hL s_147 ⟨rfl, rfl⟩ (rr_X12_4 s_147) d_X12_isWord_8 ?_
    refine tw_aload_n 0 d_X12_isWord_11 rfl rfl ?_
    refine tw_getI f_X12_117 hL s_147 (Or.inl rfl) d_X12_isWord_12 ?_
    refine tw_iald hL s_149 d_X12_isWord_15 h.1 ?_
    replace h := h.2
    refine tw_iconst d_X12_isWord_16 k_1 ?_
    refine tw_icmp_ne 43 d_X12_isWord_17 (by decide) (fun z2 => ?_) (fun z2 => ?_)
    · replace h := h.1 z2
      refine tw_iconst d_X12_isWord_43 k_0 ?_
      exact tw_zret (ty := .boolean) rfl rfl ⟨Nat.zero_le _, Nat.zero_le _⟩ d_X12_isWord_44 h
    · replace h := h.2 z2
      refine tw_aload_n 0 d_X12_isWord_20 rfl rfl ?_
      refine tw_getR f_X12_30 hL s_147 ⟨rfl, rfl⟩ (rr_X12_6 s_147) d_X12_isWord_21 ?_
      refine tw_aload_n 0 d_X12_isWord_24 rfl rfl ?_
      refine tw_getI f_X12_117 hL s_147 (Or.inl rfl) d_X12_isWord_25 ?_
      refine tw_lald hL s_151 d_X12_isWord_28 h.1 ?_
      replace h := h.2
      refine tw_aload_n 0 d_X12_isWord_29 rfl rfl ?_
      refine tw_getR f_X12_66 hL s_147 ⟨rfl, rfl⟩ (rr_X12_9 s_147) d_X12_isWord_30 ?_
      refine tw_iload_n 1 d_X12_isWord_33 rfl rfl ?_
      refine tw_lald hL s_152 d_X12_isWord_34 h.1 ?_
      replace h := h.2
      refine tw_lcmp_ne 43 d_X12_isWord_35 d_X12_isWord_36 (by decide) (fun z3 => ?_) (fun z3 => ?_)
      · replace h := h.1 z3
        refine tw_iconst d_X12_isWord_43 k_0 ?_
        exact tw_zret (ty := .boolean) rfl rfl ⟨Nat.zero_le _, Nat.zero_le _⟩ d_X12_isWord_44 h
      · replace h := h.2 z3
        refine tw_iconst d_X12_isWord_39 k_1 ?_
        refine tw_goto 44 d_X12_isWord_40 (by decide) ?_
        exact tw_zret (ty := .boolean) rfl rfl ⟨Nat.zero_le _, Nat.zero_le _⟩ d_X12_isWord_44 h

theorem d_X12_takeSign_0 : decode Y_X12_takeSign.cc 0 = .ok (.aload_n 0, 1) := by decide +kernel
theorem d_X12_takeSign_1 : decode Y_X12_takeSign.cc 1 = .ok (.iload_n 1, 1) := by decide +kernel
theorem d_X12_takeSign_2 : decode Y_X12_takeSign.cc 2 = .ok (.invokevirtual 123, 3) := by decide +kernel
theorem d_X12_takeSign_5 : decode Y_X12_takeSign.cc 5 = .ok (.ifCond .eq 16, 3) := by decide +kernel
theorem d_X12_takeSign_8 : decode Y_X12_takeSign.cc 8 = .ok (.aload_n 0, 1) := by decide +kernel
theorem d_X12_takeSign_9 : decode Y_X12_takeSign.cc 9 = .ok (.dup, 1) := by decide +kernel
theorem d_X12_takeSign_10 : decode Y_X12_takeSign.cc 10 = .ok (.getfield 117, 3) := by decide +kernel
theorem d_X12_takeSign_13 : decode Y_X12_takeSign.cc 13 = .ok (.iconst 1, 1) := by decide +kernel
theorem d_X12_takeSign_14 : decode Y_X12_takeSign.cc 14 = .ok (.iadd, 1) := by decide +kernel
theorem d_X12_takeSign_15 : decode Y_X12_takeSign.cc 15 = .ok (.putfield 117, 3) := by decide +kernel
theorem d_X12_takeSign_18 : decode Y_X12_takeSign.cc 18 = .ok (.goto 8, 3) := by decide +kernel
theorem d_X12_takeSign_21 : decode Y_X12_takeSign.cc 21 = .ok (.aload_n 0, 1) := by decide +kernel
theorem d_X12_takeSign_22 : decode Y_X12_takeSign.cc 22 = .ok (.iconst 1, 1) := by decide +kernel
theorem d_X12_takeSign_23 : decode Y_X12_takeSign.cc 23 = .ok (.invokevirtual 126, 3) := by decide +kernel
theorem d_X12_takeSign_26 : decode Y_X12_takeSign.cc 26 = .ok (.return_, 1) := by decide +kernel
theorem b_X12_takeSign {G : MG} {d : Nat} {Q : Mm → Prop} {x1 : Int32} {M : Mm} {c : Nat} (hL : Lay c M)  (h : (C G Y_X12_isSign d [.ref (G.b + 147), .int x1] M (Ri fun r2 M1 => M1.2.2 = M.2.2 ∧ ((r2 = 0 → (C G Y_X12_wrong d [.ref (G.b + 147), .int 1] M1 (Rv fun M4 => M4.2.2 = M1.2.2 ∧ Q M4))) ∧ (¬ r2 = 0 → (∀ M5 : Mm, M5 = sI M1 147 7 ((M1.1 147 7) + 1) → Q M5)))))) : C G Y_X12_takeSign (d + 1) [.ref (G.b + 147), .int x1] M (Rv Q) := by
  refine C.of (by decide) (Nat.le_of_ble_eq_true rfl) (lv := [(0, .ref (G.b + 147)), (1, .int x1)]) rfl ?_
  refine tw_aload_n 0 d_X12_takeSign_0 rfl rfl ?_
  refine tw_iload_n 1 d_X12_takeSign_1 rfl rfl ?_
  refine tu_cVi (As := [.int x1]) cv_X12_123 hL s_147 rfl (Nat.le_of_ble_eq_true rfl) ⟨Nat.zero_le _, Nat.zero_le _⟩ d_X12_takeSign_2 h (fun r2 M1 h => ?_)
  have hL_M1 : Lay c M1 := hL.to h.1
  replace h := h.2
  refine tw_if_eq 21 d_X12_takeSign_5 (by decide) (fun z3 => ?_) (fun z3 => ?_)
  · replace h := h.1 z3
    refine tw_aload_n 0 d_X12_takeSign_21 rfl rfl ?_
    refine tw_iconst d_X12_takeSign_22 k_1 ?_
    refine tu_cVv (As := [.int 1]) cv_X12_126 hL_M1 s_147 rfl (Nat.le_of_ble_eq_true rfl) ⟨Nat.zero_le _, Nat.zero_le _⟩ d_X12_takeSign_23 h (fun M4 h => ?_)
    have hL_M4 : Lay c M4 := hL_M1.to h.1
    replace h := h.2
    exact tw_vret rfl ⟨Nat.zero_le _, Nat.zero_le _⟩ d_X12_takeSign_26 h
  · replace h := h.2 z3
    refine tw_aload_n 0 d_X12_takeSign_8 rfl rfl ?_
    refine tw_dup d_X12_takeSign_9 rfl ?_
    refine tw_getI f_X12_117 hL_M1 s_147 (Or.inl rfl) d_X12_takeSign_10 ?_
    refine tw_iconst d_X12_takeSign_13 k_1 ?_
    refine tw_iadd d_X12_takeSign_14 ?_
    refine tu_putI f_X12_117 hL_M1 s_147 rfl rfl d_X12_takeSign_15 (fun M5 e_M5 hL_M5 => ?_)
    replace h := h M5 e_M5
    refine tw_goto 26 d_X12_takeSign_18 (by decide) ?_
    exact tw_vret rfl ⟨Nat.zero_le _, Nat.zero_le _⟩ d_X12_takeSign_26 h

theorem d_X12_hasWord_0 : decode Y_X12_hasWord.cc 0 = .ok (.aload_n 0, 1) := by decide +kernel
theorem d_X12_hasWord_1 : decode Y_X12_hasWord.cc 1 = .ok (.iload_n 1, 1) := by decide +kernel
theorem d_X12_hasWord_2 : decode Y_X12_hasWord.cc 2 = .ok (.invokevirtual 130, 3) := by decide +kernel
theorem d_X12_hasWord_5 : decode Y_X12_hasWord.cc 5 = .ok (.istore_n 2, 1) := by decide +kernel
theorem d_X12_hasWord_6 : decode Y_X12_hasWord.cc 6 = .ok (.aload_n 0, 1) := by decide +kernel
theorem d_X12_hasWord_7 : decode Y_X12_hasWord.cc 7 = .ok (.dup, 1) := by decide +kernel
theorem d_X12_hasWord_8 : decode Y_X12_hasWord.cc 8 = .ok (.getfield 117, 3) := by decide +kernel
theorem d_X12_hasWord_11 : decode Y_X12_hasWord.cc 11 = .ok (.iload_n 2, 1) := by decide +kernel
theorem d_X12_hasWord_12 : decode Y_X12_hasWord.cc 12 = .ok (.ifCond .eq 7, 3) := by decide +kernel
theorem d_X12_hasWord_15 : decode Y_X12_hasWord.cc 15 = .ok (.iconst 1, 1) := by decide +kernel
theorem d_X12_hasWord_16 : decode Y_X12_hasWord.cc 16 = .ok (.goto 4, 3) := by decide +kernel
theorem d_X12_hasWord_19 : decode Y_X12_hasWord.cc 19 = .ok (.iconst 0, 1) := by decide +kernel
theorem d_X12_hasWord_20 : decode Y_X12_hasWord.cc 20 = .ok (.iadd, 1) := by decide +kernel
theorem d_X12_hasWord_21 : decode Y_X12_hasWord.cc 21 = .ok (.putfield 117, 3) := by decide +kernel
theorem d_X12_hasWord_24 : decode Y_X12_hasWord.cc 24 = .ok (.iload_n 2, 1) := by decide +kernel
theorem d_X12_hasWord_25 : decode Y_X12_hasWord.cc 25 = .ok (.ireturn, 1) := by decide +kernel
theorem b_X12_hasWord {G : MG} {d : Nat} {Q : Int32 → Mm → Prop} {x1 : Int32} {M : Mm} {c : Nat} (hL : Lay c M)  (h : (C G Y_X12_isWord d [.ref (G.b + 147), .int x1] M (Ri fun r2 M1 => M1.2.2 = M.2.2 ∧ ((r2 = 0 → (∀ M4 : Mm, M4 = sI M1 147 7 ((M1.1 147 7) + 0) → ((r2 = 0 ∨ r2 = 1) ∧ Q r2 M4))) ∧ (¬ r2 = 0 → (∀ M5 : Mm, M5 = sI M1 147 7 ((M1.1 147 7) + 1) → ((r2 = 0 ∨ r2 = 1) ∧ Q r2 M5))))))) : C G Y_X12_hasWord (d + 1) [.ref (G.b + 147), .int x1] M (Ri Q) := by
  refine C.of (by decide) (Nat.le_of_ble_eq_true rfl) (lv := [(0, .ref (G.b + 147)), (1, .int x1)]) rfl ?_
  refine tw_aload_n 0 d_X12_hasWord_0 rfl rfl ?_
  refine tw_iload_n 1 d_X12_hasWord_1 rfl rfl ?_
  refine tu_cVi (As := [.int x1]) cv_X12_130 hL s_147 rfl (Nat.le_of_ble_eq_true rfl) ⟨Nat.zero_le _, Nat.zero_le _⟩ d_X12_hasWord_2 h (fun r2 M1 h => ?_)
  have hL_M1 : Lay c M1 := hL.to h.1
  replace h := h.2
  refine tw_istore_n [(2, .int r2), (0, .ref (G.b + 147)), (1, .int x1)] d_X12_hasWord_5 rfl (Nat.le_of_ble_eq_true rfl) rfl ?_
  refine tw_aload_n 1 d_X12_hasWord_6 rfl rfl ?_
  refine tw_dup d_X12_hasWord_7 rfl ?_
  refine tw_getI f_X12_117 hL_M1 s_147 (Or.inl rfl) d_X12_hasWord_8 ?_
  refine tw_iload_n 0 d_X12_hasWord_11 rfl rfl ?_
  refine tw_if_eq 19 d_X12_hasWord_12 (by decide) (fun z3 => ?_) (fun z3 => ?_)
  · replace h := h.1 z3
    refine tw_iconst d_X12_hasWord_19 k_0 ?_
    refine tw_iadd d_X12_hasWord_20 ?_
    refine tu_putI f_X12_117 hL_M1 s_147 rfl rfl d_X12_hasWord_21 (fun M4 e_M4 hL_M4 => ?_)
    replace h := h M4 e_M4
    refine tw_iload_n 0 d_X12_hasWord_24 rfl rfl ?_
    exact tw_zret (ty := .boolean) rfl (nzb h.1) ⟨Nat.zero_le _, Nat.zero_le _⟩ d_X12_hasWord_25 h.2
  · replace h := h.2 z3
    refine tw_iconst d_X12_hasWord_15 k_1 ?_
    refine tw_goto 20 d_X12_hasWord_16 (by decide) ?_
    refine tw_iadd d_X12_hasWord_20 ?_
    refine tu_putI f_X12_117 hL_M1 s_147 rfl rfl d_X12_hasWord_21 (fun M5 e_M5 hL_M5 => ?_)
    replace h := h M5 e_M5
    refine tw_iload_n 0 d_X12_hasWord_24 rfl rfl ?_
    exact tw_zret (ty := .boolean) rfl (nzb h.1) ⟨Nat.zero_le _, Nat.zero_le _⟩ d_X12_hasWord_25 h.2

theorem d_X12_takeWord_0 : decode Y_X12_takeWord.cc 0 = .ok (.aload_n 0, 1) := by decide +kernel
theorem d_X12_takeWord_1 : decode Y_X12_takeWord.cc 1 = .ok (.iload_n 1, 1) := by decide +kernel
theorem d_X12_takeWord_2 : decode Y_X12_takeWord.cc 2 = .ok (.invokevirtual 133, 3) := by decide +kernel
theorem d_X12_takeWord_5 : decode Y_X12_takeWord.cc 5 = .ok (.ifCond .ne 8, 3) := by decide +kernel
theorem d_X12_takeWord_8 : decode Y_X12_takeWord.cc 8 = .ok (.aload_n 0, 1) := by decide +kernel
theorem d_X12_takeWord_9 : decode Y_X12_takeWord.cc 9 = .ok (.iconst 1, 1) := by decide +kernel
theorem d_X12_takeWord_10 : decode Y_X12_takeWord.cc 10 = .ok (.invokevirtual 126, 3) := by decide +kernel
theorem d_X12_takeWord_13 : decode Y_X12_takeWord.cc 13 = .ok (.return_, 1) := by decide +kernel
theorem b_X12_takeWord {G : MG} {d : Nat} {Q : Mm → Prop} {x1 : Int32} {M : Mm} {c : Nat} (hL : Lay c M)  (h : (C G Y_X12_hasWord d [.ref (G.b + 147), .int x1] M (Ri fun r2 M1 => M1.2.2 = M.2.2 ∧ ((¬ r2 = 0 → Q M1) ∧ (r2 = 0 → (C G Y_X12_wrong d [.ref (G.b + 147), .int 1] M1 (Rv fun M4 => M4.2.2 = M1.2.2 ∧ Q M4))))))) : C G Y_X12_takeWord (d + 1) [.ref (G.b + 147), .int x1] M (Rv Q) := by
  refine C.of (by decide) (Nat.le_of_ble_eq_true rfl) (lv := [(0, .ref (G.b + 147)), (1, .int x1)]) rfl ?_
  refine tw_aload_n 0 d_X12_takeWord_0 rfl rfl ?_
  refine tw_iload_n 1 d_X12_takeWord_1 rfl rfl ?_
  refine tu_cVi (As := [.int x1]) cv_X12_133 hL s_147 rfl (Nat.le_of_ble_eq_true rfl) ⟨Nat.zero_le _, Nat.zero_le _⟩ d_X12_takeWord_2 h (fun r2 M1 h => ?_)
  have hL_M1 : Lay c M1 := hL.to h.1
  replace h := h.2
  refine tw_if_ne 13 d_X12_takeWord_5 (by decide) (fun z3 => ?_) (fun z3 => ?_)
  · replace h := h.1 z3
    exact tw_vret rfl ⟨Nat.zero_le _, Nat.zero_le _⟩ d_X12_takeWord_13 h
  · replace h := h.2 z3
    refine tw_aload_n 0 d_X12_takeWord_8 rfl rfl ?_
    refine tw_iconst d_X12_takeWord_9 k_1 ?_
    refine tu_cVv (As := [.int 1]) cv_X12_126 hL_M1 s_147 rfl (Nat.le_of_ble_eq_true rfl) ⟨Nat.zero_le _, Nat.zero_le _⟩ d_X12_takeWord_10 h (fun M4 h => ?_)
    have hL_M4 : Lay c M4 := hL_M1.to h.1
    replace h := h.2
    exact tw_vret rfl ⟨Nat.zero_le _, Nat.zero_le _⟩ d_X12_takeWord_13 h

theorem d_X12_within_0 : decode Y_X12_within.cc 0 = .ok (.iload_n 0, 1) := by decide +kernel
theorem d_X12_within_1 : decode Y_X12_within.cc 1 = .ok (.iload_n 1, 1) := by decide +kernel
theorem d_X12_within_2 : decode Y_X12_within.cc 2 = .ok (.if_icmp .lt 12, 3) := by decide +kernel
theorem d_X12_within_5 : decode Y_X12_within.cc 5 = .ok (.iload_n 0, 1) := by decide +kernel
theorem d_X12_within_6 : decode Y_X12_within.cc 6 = .ok (.iload_n 2, 1) := by decide +kernel
theorem d_X12_within_7 : decode Y_X12_within.cc 7 = .ok (.if_icmp .gt 7, 3) := by decide +kernel
theorem d_X12_within_10 : decode Y_X12_within.cc 10 = .ok (.iconst 1, 1) := by decide +kernel
theorem d_X12_within_11 : decode Y_X12_within.cc 11 = .ok (.goto 4, 3) := by decide +kernel
theorem d_X12_within_14 : decode Y_X12_within.cc 14 = .ok (.iconst 0, 1) := by decide +kernel
theorem d_X12_within_15 : decode Y_X12_within.cc 15 = .ok (.ireturn, 1) := by decide +kernel
theorem b_X12_within {G : MG} {d : Nat} {Q : Int32 → Mm → Prop} {x0 : Int32} {x1 : Int32} {x2 : Int32} {M : Mm} {c : Nat} (hL : Lay c M)  (h : ((x0 < x1 → Q 0 M) ∧ (¬ x0 < x1 → ((x2 < x0 → Q 0 M) ∧ (¬ x2 < x0 → Q 1 M))))) : C G Y_X12_within (d + 1) [.int x0, .int x1, .int x2] M (Ri Q) := by
  refine C.of (by decide) (Nat.le_of_ble_eq_true rfl) (lv := [(0, .int x0), (1, .int x1), (2, .int x2)]) rfl ?_
  refine tw_iload_n 0 d_X12_within_0 rfl rfl ?_
  refine tw_iload_n 1 d_X12_within_1 rfl rfl ?_
  refine tw_icmp_lt 14 d_X12_within_2 (by decide) (fun z1 => ?_) (fun z1 => ?_)
  · replace h := h.1 z1
    refine tw_iconst d_X12_within_14 k_0 ?_
    exact tw_zret (ty := .boolean) rfl rfl ⟨Nat.zero_le _, Nat.zero_le _⟩ d_X12_within_15 h
  · replace h := h.2 z1
    refine tw_iload_n 0 d_X12_within_5 rfl rfl ?_
    refine tw_iload_n 2 d_X12_within_6 rfl rfl ?_
    refine tw_icmp_gt 14 d_X12_within_7 (by decide) (fun z2 => ?_) (fun z2 => ?_)
    · replace h := h.1 z2
      refine tw_iconst d_X12_within_14 k_0 ?_
      exact tw_zret (ty := .boolean) rfl rfl ⟨Nat.zero_le _, Nat.zero_le _⟩ d_X12_within_15 h
    · replace h := h.2 z2
      refine tw_iconst d_X12_within_10 k_1 ?_
      refine tw_goto 15 d_X12_within_11 (by decide) ?_
      exact tw_zret (ty := .boolean) rfl rfl ⟨Nat.zero_le _, Nat.zero_le _⟩ d_X12_within_15 h

theorem d_X12_carry_0 : decode Y_X12_carry.cc 0 = .ok (.iconst 0, 1) := by decide +kernel
theorem d_X12_carry_1 : decode Y_X12_carry.cc 1 = .ok (.istore_n 3, 1) := by decide +kernel
theorem d_X12_carry_2 : decode Y_X12_carry.cc 2 = .ok (.iload_n 3, 1) := by decide +kernel
theorem d_X12_carry_3 : decode Y_X12_carry.cc 3 = .ok (.bipush 110, 2) := by decide +kernel
theorem d_X12_carry_5 : decode Y_X12_carry.cc 5 = .ok (.if_icmp .ge 31, 3) := by decide +kernel
theorem d_X12_carry_8 : decode Y_X12_carry.cc 8 = .ok (.aload_n 0, 1) := by decide +kernel
theorem d_X12_carry_9 : decode Y_X12_carry.cc 9 = .ok (.getfield 69, 3) := by decide +kernel
theorem d_X12_carry_12 : decode Y_X12_carry.cc 12 = .ok (.bipush 110, 2) := by decide +kernel
theorem d_X12_carry_14 : decode Y_X12_carry.cc 14 = .ok (.iload_n 2, 1) := by decide +kernel
theorem d_X12_carry_15 : decode Y_X12_carry.cc 15 = .ok (.imul, 1) := by decide +kernel
theorem d_X12_carry_16 : decode Y_X12_carry.cc 16 = .ok (.iload_n 3, 1) := by decide +kernel
theorem d_X12_carry_17 : decode Y_X12_carry.cc 17 = .ok (.iadd, 1) := by decide +kernel
theorem d_X12_carry_18 : decode Y_X12_carry.cc 18 = .ok (.aload_n 0, 1) := by decide +kernel
theorem d_X12_carry_19 : decode Y_X12_carry.cc 19 = .ok (.getfield 69, 3) := by decide +kernel
theorem d_X12_carry_22 : decode Y_X12_carry.cc 22 = .ok (.bipush 110, 2) := by decide +kernel
theorem d_X12_carry_24 : decode Y_X12_carry.cc 24 = .ok (.iload_n 1, 1) := by decide +kernel
theorem d_X12_carry_25 : decode Y_X12_carry.cc 25 = .ok (.imul, 1) := by decide +kernel
theorem d_X12_carry_26 : decode Y_X12_carry.cc 26 = .ok (.iload_n 3, 1) := by decide +kernel
theorem d_X12_carry_27 : decode Y_X12_carry.cc 27 = .ok (.iadd, 1) := by decide +kernel
theorem d_X12_carry_28 : decode Y_X12_carry.cc 28 = .ok (.iaload, 1) := by decide +kernel
theorem d_X12_carry_29 : decode Y_X12_carry.cc 29 = .ok (.iastore, 1) := by decide +kernel
theorem d_X12_carry_30 : decode Y_X12_carry.cc 30 = .ok (.iinc 3 1, 3) := by decide +kernel
theorem d_X12_carry_33 : decode Y_X12_carry.cc 33 = .ok (.goto (-31), 3) := by decide +kernel
theorem d_X12_carry_36 : decode Y_X12_carry.cc 36 = .ok (.return_, 1) := by decide +kernel
def L_X12_carry_2 (G : MG) (d : Nat) (Q : Mm → Prop) (x1 : Int32) (x2 : Int32) (x3 : Int32) (M : Mm) : Prop := T G Y_X12_carry (d + 1) (Rv Q) 0 0 2 [(0, .ref (G.b + 147)), (1, .int x1), (2, .int x2), (3, .int x3)] [] M
theorem b_X12_carry_2 {G : MG} {d : Nat} {Q : Mm → Prop} {x1 : Int32} {x2 : Int32} {x3 : Int32} {M : Mm} {c : Nat} (hL : Lay c M)  (h : ((110 ≤ x3 → Q M) ∧ (¬ 110 ≤ x3 → (vp_in ((110 * x1) + x3) 660 ∧ (vp_in ((110 * x2) + x3) 660 ∧ ∀ M2 : Mm, M2 = sI M 153 ((110 * x2) + x3).toNatClampNeg (M.1 153 ((110 * x1) + x3).toNatClampNeg) → L_X12_carry_2 G d Q x1 x2 (x3 + 1) M2))))) : L_X12_carry_2 G d Q x1 x2 x3 M := by
  unfold L_X12_carry_2
  refine tw_iload_n 3 d_X12_carry_2 rfl rfl ?_
  refine tw_bipush d_X12_carry_3 kb_110 ?_
  refine tw_icmp_ge 36 d_X12_carry_5 (by decide) (fun z1 => ?_) (fun z1 => ?_)
  · replace h := h.1 z1
    exact tw_vret rfl ⟨Nat.zero_le _, Nat.zero_le _⟩ d_X12_carry_36 h
  · replace h := h.2 z1
    refine tw_aload_n 0 d_X12_carry_8 rfl rfl ?_
    refine tw_getR f_X12_69 hL s_147 ⟨rfl, rfl⟩ (rr_X12_10 s_147) d_X12_carry_9 ?_
    refine tw_bipush d_X12_carry_12 kb_110 ?_
    refine tw_iload_n 2 d_X12_carry_14 rfl rfl ?_
    refine tw_imul d_X12_carry_15 ?_
    refine tw_iload_n 3 d_X12_carry_16 rfl rfl ?_
    refine tw_iadd d_X12_carry_17 ?_
    refine tw_aload_n 0 d_X12_carry_18 rfl rfl ?_
    refine tw_getR f_X12_69 hL s_147 ⟨rfl, rfl⟩ (rr_X12_10 s_147) d_X12_carry_19 ?_
    refine tw_bipush d_X12_carry_22 kb_110 ?_
    refine tw_iload_n 1 d_X12_carry_24 rfl rfl ?_
    refine tw_imul d_X12_carry_25 ?_
    refine tw_iload_n 3 d_X12_carry_26 rfl rfl ?_
    refine tw_iadd d_X12_carry_27 ?_
    refine tw_iald hL s_153 d_X12_carry_28 h.1 ?_
    replace h := h.2
    refine tu_iast hL s_153 d_X12_carry_29 h.1 (fun M2 e_M2 hL_M2 => ?_)
    replace h := h.2 M2 e_M2
    refine tw_iinc 3 [(3, .int (x3 + 1)), (0, .ref (G.b + 147)), (1, .int x1), (2, .int x2)] d_X12_carry_30 rfl rfl (Nat.le_of_ble_eq_true rfl) rfl ?_
    refine tw_goto 2 d_X12_carry_33 (by decide) ?_
    exact tw_lv [1, 2, 3, 0] rfl h
theorem b_X12_carry {G : MG} {d : Nat} {Q : Mm → Prop} {x1 : Int32} {x2 : Int32} {M : Mm} {c : Nat} (hL : Lay c M)  (h : L_X12_carry_2 G d Q x1 x2 0 M) : C G Y_X12_carry (d + 1) [.ref (G.b + 147), .int x1, .int x2] M (Rv Q) := by
  refine C.of (by decide) (Nat.le_of_ble_eq_true rfl) (lv := [(0, .ref (G.b + 147)), (1, .int x1), (2, .int x2)]) rfl ?_
  refine tw_iconst d_X12_carry_0 k_0 ?_
  refine tw_istore_n [(3, .int 0), (0, .ref (G.b + 147)), (1, .int x1), (2, .int x2)] d_X12_carry_1 rfl (Nat.le_of_ble_eq_true rfl) rfl ?_
  exact tw_lv [1, 2, 3, 0] rfl h

theorem d_X12_takeNumber_0 : decode Y_X12_takeNumber.cc 0 = .ok (.aload_n 0, 1) := by decide +kernel
theorem d_X12_takeNumber_1 : decode Y_X12_takeNumber.cc 1 = .ok (.getfield 120, 3) := by decide +kernel
theorem d_X12_takeNumber_4 : decode Y_X12_takeNumber.cc 4 = .ok (.ifCond .ne 24, 3) := by decide +kernel
theorem d_X12_takeNumber_7 : decode Y_X12_takeNumber.cc 7 = .ok (.aload_n 0, 1) := by decide +kernel
theorem d_X12_takeNumber_8 : decode Y_X12_takeNumber.cc 8 = .ok (.getfield 24, 3) := by decide +kernel
theorem d_X12_takeNumber_11 : decode Y_X12_takeNumber.cc 11 = .ok (.aload_n 0, 1) := by decide +kernel
theorem d_X12_takeNumber_12 : decode Y_X12_takeNumber.cc 12 = .ok (.getfield 117, 3) := by decide +kernel
theorem d_X12_takeNumber_15 : decode Y_X12_takeNumber.cc 15 = .ok (.iaload, 1) := by decide +kernel
theorem d_X12_takeNumber_16 : decode Y_X12_takeNumber.cc 16 = .ok (.iconst 2, 1) := by decide +kernel
theorem d_X12_takeNumber_17 : decode Y_X12_takeNumber.cc 17 = .ok (.if_icmp .eq 11, 3) := by decide +kernel
theorem d_X12_takeNumber_20 : decode Y_X12_takeNumber.cc 20 = .ok (.aload_n 0, 1) := by decide +kernel
theorem d_X12_takeNumber_21 : decode Y_X12_takeNumber.cc 21 = .ok (.iconst 1, 1) := by decide +kernel
theorem d_X12_takeNumber_22 : decode Y_X12_takeNumber.cc 22 = .ok (.invokevirtual 126, 3) := by decide +kernel
theorem d_X12_takeNumber_25 : decode Y_X12_takeNumber.cc 25 = .ok (.goto 45, 3) := by decide +kernel
theorem d_X12_takeNumber_28 : decode Y_X12_takeNumber.cc 28 = .ok (.aload_n 0, 1) := by decide +kernel
theorem d_X12_takeNumber_29 : decode Y_X12_takeNumber.cc 29 = .ok (.getfield 120, 3) := by decide +kernel
theorem d_X12_takeNumber_32 : decode Y_X12_takeNumber.cc 32 = .ok (.ifCond .ne 38, 3) := by decide +kernel
theorem d_X12_takeNumber_35 : decode Y_X12_takeNumber.cc 35 = .ok (.aload_n 0, 1) := by decide +kernel
theorem d_X12_takeNumber_36 : decode Y_X12_takeNumber.cc 36 = .ok (.getfield 30, 3) := by decide +kernel
theorem d_X12_takeNumber_39 : decode Y_X12_takeNumber.cc 39 = .ok (.aload_n 0, 1) := by decide +kernel
theorem d_X12_takeNumber_40 : decode Y_X12_takeNumber.cc 40 = .ok (.getfield 117, 3) := by decide +kernel
theorem d_X12_takeNumber_43 : decode Y_X12_takeNumber.cc 43 = .ok (.laload, 1) := by decide +kernel
theorem d_X12_takeNumber_44 : decode Y_X12_takeNumber.cc 44 = .ok (.iload_n 1, 1) := by decide +kernel
theorem d_X12_takeNumber_45 : decode Y_X12_takeNumber.cc 45 = .ok (.i2l, 1) := by decide +kernel
theorem d_X12_takeNumber_46 : decode Y_X12_takeNumber.cc 46 = .ok (.lcmp, 1) := by decide +kernel
theorem d_X12_takeNumber_47 : decode Y_X12_takeNumber.cc 47 = .ok (.ifCond .lt 18, 3) := by decide +kernel
theorem d_X12_takeNumber_50 : decode Y_X12_takeNumber.cc 50 = .ok (.aload_n 0, 1) := by decide +kernel
theorem d_X12_takeNumber_51 : decode Y_X12_takeNumber.cc 51 = .ok (.getfield 30, 3) := by decide +kernel
theorem d_X12_takeNumber_54 : decode Y_X12_takeNumber.cc 54 = .ok (.aload_n 0, 1) := by decide +kernel
theorem d_X12_takeNumber_55 : decode Y_X12_takeNumber.cc 55 = .ok (.getfield 117, 3) := by decide +kernel
theorem d_X12_takeNumber_58 : decode Y_X12_takeNumber.cc 58 = .ok (.laload, 1) := by decide +kernel
theorem d_X12_takeNumber_59 : decode Y_X12_takeNumber.cc 59 = .ok (.iload_n 2, 1) := by decide +kernel
theorem d_X12_takeNumber_60 : decode Y_X12_takeNumber.cc 60 = .ok (.i2l, 1) := by decide +kernel
theorem d_X12_takeNumber_61 : decode Y_X12_takeNumber.cc 61 = .ok (.lcmp, 1) := by decide +kernel
theorem d_X12_takeNumber_62 : decode Y_X12_takeNumber.cc 62 = .ok (.ifCond .le 8, 3) := by decide +kernel
theorem d_X12_takeNumber_65 : decode Y_X12_takeNumber.cc 65 = .ok (.aload_n 0, 1) := by decide +kernel
theorem d_X12_takeNumber_66 : decode Y_X12_takeNumber.cc 66 = .ok (.iconst 4, 1) := by decide +kernel
theorem d_X12_takeNumber_67 : decode Y_X12_takeNumber.cc 67 = .ok (.invokevirtual 126, 3) := by decide +kernel
theorem d_X12_takeNumber_70 : decode Y_X12_takeNumber.cc 70 = .ok (.aload_n 0, 1) := by decide +kernel
theorem d_X12_takeNumber_71 : decode Y_X12_takeNumber.cc 71 = .ok (.getfield 120, 3) := by decide +kernel
theorem d_X12_takeNumber_74 : decode Y_X12_takeNumber.cc 74 = .ok (.ifCond .le 5, 3) := by decide +kernel
theorem d_X12_takeNumber_77 : decode Y_X12_takeNumber.cc 77 = .ok (.iconst 0, 1) := by decide +kernel
theorem d_X12_takeNumber_78 : decode Y_X12_takeNumber.cc 78 = .ok (.ireturn, 1) := by decide +kernel
theorem d_X12_takeNumber_79 : decode Y_X12_takeNumber.cc 79 = .ok (.aload_n 0, 1) := by decide +kernel
theorem d_X12_takeNumber_80 : decode Y_X12_takeNumber.cc 80 = .ok (.dup, 1) := by decide +kernel
theorem d_X12_takeNumber_81 : decode Y_X12_takeNumber.cc 81 = .ok (.getfield 117, 3) := by decide +kernel
theorem d_X12_takeNumber_84 : decode Y_X12_takeNumber.cc 84 = .ok (.iconst 1, 1) := by decide +kernel
theorem d_X12_takeNumber_85 : decode Y_X12_takeNumber.cc 85 = .ok (.iadd, 1) := by decide +kernel
theorem d_X12_takeNumber_86 : decode Y_X12_takeNumber.cc 86 = .ok (.putfield 117, 3) := by decide +kernel
theorem d_X12_takeNumber_89 : decode Y_X12_takeNumber.cc 89 = .ok (.aload_n 0, 1) := by decide +kernel
theorem d_X12_takeNumber_90 : decode Y_X12_takeNumber.cc 90 = .ok (.getfield 30, 3) := by decide +kernel
theorem d_X12_takeNumber_93 : decode Y_X12_takeNumber.cc 93 = .ok (.aload_n 0, 1) := by decide +kernel
theorem d_X12_takeNumber_94 : decode Y_X12_takeNumber.cc 94 = .ok (.getfield 117, 3) := by decide +kernel
theorem d_X12_takeNumber_97 : decode Y_X12_takeNumber.cc 97 = .ok (.iconst 1, 1) := by decide +kernel
theorem d_X12_takeNumber_98 : decode Y_X12_takeNumber.cc 98 = .ok (.isub, 1) := by decide +kernel
theorem d_X12_takeNumber_99 : decode Y_X12_takeNumber.cc 99 = .ok (.laload, 1) := by decide +kernel
theorem d_X12_takeNumber_100 : decode Y_X12_takeNumber.cc 100 = .ok (.l2i, 1) := by decide +kernel
theorem d_X12_takeNumber_101 : decode Y_X12_takeNumber.cc 101 = .ok (.ireturn, 1) := by decide +kernel
def L_X12_takeNumber_28 (G : MG) (d : Nat) (Q : Int32 → Mm → Prop) (x1 : Int32) (x2 : Int32) (M : Mm) : Prop := T G Y_X12_takeNumber (d + 1) (Ri Q) 0 0 28 [(0, .ref (G.b + 147)), (1, .int x1), (2, .int x2)] [] M
def L_X12_takeNumber_70 (G : MG) (d : Nat) (Q : Int32 → Mm → Prop)  (M : Mm) : Prop := T G Y_X12_takeNumber (d + 1) (Ri Q) 0 0 70 [(0, .ref (G.b + 147))] [] M
theorem b_X12_takeNumber_28 {G : MG} {d : Nat} {Q : Int32 → Mm → Prop} {x1 : Int32} {x2 : Int32} {M : Mm} {c : Nat} (hL : Lay c M)  (h : ((¬ (M.1 147 8) = 0 → L_X12_takeNumber_70 G d Q  M) ∧ ((M.1 147 8) = 0 → (vp_in (M.1 147 7) 1002 ∧ (((M.2.1 151 (M.1 147 7).toNatClampNeg) < x1.toInt64 → (C G Y_X12_wrong d [.ref (G.b + 147), .int 4] M (Rv fun M3 => M3.2.2 = M.2.2 ∧ L_X12_takeNumber_70 G d Q  M3))) ∧ (¬ (M.2.1 151 (M.1 147 7).toNatClampNeg) < x1.toInt64 → (vp_in (M.1 147 7) 1002 ∧ (((M.2.1 151 (M.1 147 7).toNatClampNeg) ≤ x2.toInt64 → L_X12_takeNumber_70 G d Q  M) ∧ (¬ (M.2.1 151 (M.1 147 7).toNatClampNeg) ≤ x2.toInt64 → (C G Y_X12_wrong d [.ref (G.b + 147), .int 4] M (Rv fun M5 => M5.2.2 = M.2.2 ∧ L_X12_takeNumber_70 G d Q  M5))))))))))) : L_X12_takeNumber_28 G d Q x1 x2 M := by
  unfold L_X12_takeNumber_28
  refine tw_aload_n 0 d_X12_takeNumber_28 rfl rfl ?_
  refine tw_getI f_X12_120 hL s_147 (Or.inl rfl) d_X12_takeNumber_29 ?_
  refine tw_if_ne 70 d_X12_takeNumber_32 (by decide) (fun z1 => ?_) (fun z1 => ?_)
  · replace h := h.1 z1
    exact tw_lv [0] rfl h
  · replace h := h.2 z1
    refine tw_aload_n 0 d_X12_takeNumber_35 rfl rfl ?_
    refine tw_getR f_X12_30 hL s_147 ⟨rfl, rfl⟩ (rr_X12_6 s_147) d_X12_takeNumber_36 ?_
    refine tw_aload_n 0 d_X12_takeNumber_39 rfl rfl ?_
    refine tw_getI f_X12_117 hL s_147 (Or.inl rfl) d_X12_takeNumber_40 ?_
    refine tw_lald hL s_151 d_X12_takeNumber_43 h.1 ?_
    replace h := h.2
    refine tw_iload_n 1 d_X12_takeNumber_44 rfl rfl ?_
    refine tw_i2l d_X12_takeNumber_45 ?_
    refine tw_lcmp_lt 65 d_X12_takeNumber_46 d_X12_takeNumber_47 (by decide) (fun z2 => ?_) (fun z2 => ?_)
    · replace h := h.1 z2
      refine tw_aload_n 0 d_X12_takeNumber_65 rfl rfl ?_
      refine tw_iconst d_X12_takeNumber_66 k_4 ?_
      refine tu_cVv (As := [.int 4]) cv_X12_126 hL s_147 rfl (Nat.le_of_ble_eq_true rfl) ⟨Nat.zero_le _, Nat.zero_le _⟩ d_X12_takeNumber_67 h (fun M3 h => ?_)
      have hL_M3 : Lay c M3 := hL.to h.1
      replace h := h.2
      exact tw_lv [0] rfl h
    · replace h := h.2 z2
      refine tw_aload_n 0 d_X12_takeNumber_50 rfl rfl ?_
      refine tw_getR f_X12_30 hL s_147 ⟨rfl, rfl⟩ (rr_X12_6 s_147) d_X12_takeNumber_51 ?_
      refine tw_aload_n 0 d_X12_takeNumber_54 rfl rfl ?_
      refine tw_getI f_X12_117 hL s_147 (Or.inl rfl) d_X12_takeNumber_55 ?_
      refine tw_lald hL s_151 d_X12_takeNumber_58 h.1 ?_
      replace h := h.2
      refine tw_iload_n 2 d_X12_takeNumber_59 rfl rfl ?_
      refine tw_i2l d_X12_takeNumber_60 ?_
      refine tw_lcmp_le 70 d_X12_takeNumber_61 d_X12_takeNumber_62 (by decide) (fun z4 => ?_) (fun z4 => ?_)
      · replace h := h.1 z4
        exact tw_lv [0] rfl h
      · replace h := h.2 z4
        refine tw_aload_n 0 d_X12_takeNumber_65 rfl rfl ?_
        refine tw_iconst d_X12_takeNumber_66 k_4 ?_
        refine tu_cVv (As := [.int 4]) cv_X12_126 hL s_147 rfl (Nat.le_of_ble_eq_true rfl) ⟨Nat.zero_le _, Nat.zero_le _⟩ d_X12_takeNumber_67 h (fun M5 h => ?_)
        have hL_M5 : Lay c M5 := hL.to h.1
        replace h := h.2
        exact tw_lv [0] rfl h
theorem b_X12_takeNumber_70 {G : MG} {d : Nat} {Q : Int32 → Mm → Prop}  {M : Mm} {c : Nat} (hL : Lay c M)  (h : (((M.1 147 8) ≤ 0 → (∀ M2 : Mm, M2 = sI M 147 7 ((M.1 147 7) + 1) → (vp_in ((M2.1 147 7) - 1) 1002 ∧ Q ((M2.2.1 151 ((M2.1 147 7) - 1).toNatClampNeg).toInt32) M2))) ∧ (¬ (M.1 147 8) ≤ 0 → Q 0 M))) : L_X12_takeNumber_70 G d Q  M := by
  unfold L_X12_takeNumber_70
  refine tw_aload_n 0 d_X12_takeNumber_70 rfl rfl ?_
  refine tw_getI f_X12_120 hL s_147 (Or.inl rfl) d_X12_takeNumber_71 ?_
  refine tw_if_le 79 d_X12_takeNumber_74 (by decide) (fun z1 => ?_) (fun z1 => ?_)
  · replace h := h.1 z1
    refine tw_aload_n 0 d_X12_takeNumber_79 rfl rfl ?_
    refine tw_dup d_X12_takeNumber_80 rfl ?_
    refine tw_getI f_X12_117 hL s_147 (Or.inl rfl) d_X12_takeNumber_81 ?_
    refine tw_iconst d_X12_takeNumber_84 k_1 ?_
    refine tw_iadd d_X12_takeNumber_85 ?_
    refine tu_putI f_X12_117 hL s_147 rfl rfl d_X12_takeNumber_86 (fun M2 e_M2 hL_M2 => ?_)
    replace h := h M2 e_M2
    refine tw_aload_n 0 d_X12_takeNumber_89 rfl rfl ?_
    refine tw_getR f_X12_30 hL_M2 s_147 ⟨rfl, rfl⟩ (rr_X12_6 s_147) d_X12_takeNumber_90 ?_
    refine tw_aload_n 0 d_X12_takeNumber_93 rfl rfl ?_
    refine tw_getI f_X12_117 hL_M2 s_147 (Or.inl rfl) d_X12_takeNumber_94 ?_
    refine tw_iconst d_X12_takeNumber_97 k_1 ?_
    refine tw_isub d_X12_takeNumber_98 ?_
    refine tw_lald hL_M2 s_151 d_X12_takeNumber_99 h.1 ?_
    replace h := h.2
    refine tw_l2i d_X12_takeNumber_100 ?_
    exact tw_iret rfl ⟨Nat.zero_le _, Nat.zero_le _⟩ d_X12_takeNumber_101 h
  · replace h := h.2 z1
    refine tw_iconst d_X12_takeNumber_77 k_0 ?_
    exact tw_iret rfl ⟨Nat.zero_le _, Nat.zero_le _⟩ d_X12_takeNumber_78 h
theorem b_X12_takeNumber {G : MG} {d : Nat} {Q : Int32 → Mm → Prop} {x1 : Int32} {x2 : Int32} {M : Mm} {c : Nat} (hL : Lay c M)  (h : ((¬ (M.1 147 8) = 0 → L_X12_takeNumber_28 G d Q x1 x2 M) ∧ ((M.1 147 8) = 0 → (vp_in (M.1 147 7) 1002 ∧ (((M.1 149 (M.1 147 7).toNatClampNeg) = 2 → L_X12_takeNumber_28 G d Q x1 x2 M) ∧ (¬ (M.1 149 (M.1 147 7).toNatClampNeg) = 2 → (C G Y_X12_wrong d [.ref (G.b + 147), .int 1] M (Rv fun M3 => M3.2.2 = M.2.2 ∧ L_X12_takeNumber_70 G d Q  M3)))))))) : C G Y_X12_takeNumber (d + 1) [.ref (G.b + 147), .int x1, .int x2] M (Ri Q) := by
  refine C.of (by decide) (Nat.le_of_ble_eq_true rfl) (lv := [(0, .ref (G.b + 147)), (1, .int x1), (2, .int x2)]) rfl ?_
  refine tw_aload_n 0 d_X12_takeNumber_0 rfl rfl ?_
  refine tw_getI f_X12_120 hL s_147 (Or.inl rfl) d_X12_takeNumber_1 ?_
  refine tw_if_ne 28 d_X12_takeNumber_4 (by decide) (fun z1 => ?_) (fun z1 => ?_)
  · replace h := h.1 z1
    exact tw_lv [0, 1, 2] rfl h
  · replace h := h.2 z1
    refine tw_aload_n 0 d_X12_takeNumber_7 rfl rfl ?_
    refine tw_getR f_X12_24 hL s_147 ⟨rfl, rfl⟩ (rr_X12_4 s_147) d_X12_takeNumber_8 ?_
    refine tw_aload_n 0 d_X12_takeNumber_11 rfl rfl ?_
    refine tw_getI f_X12_117 hL s_147 (Or.inl rfl) d_X12_takeNumber_12 ?_
    refine tw_iald hL s_149 d_X12_takeNumber_15 h.1 ?_
    replace h := h.2
    refine tw_iconst d_X12_takeNumber_16 k_2 ?_
    refine tw_icmp_eq 28 d_X12_takeNumber_17 (by decide) (fun z2 => ?_) (fun z2 => ?_)
    · replace h := h.1 z2
      exact tw_lv [0, 1, 2] rfl h
    · replace h := h.2 z2
      refine tw_aload_n 0 d_X12_takeNumber_20 rfl rfl ?_
      refine tw_iconst d_X12_takeNumber_21 k_1 ?_
      refine tu_cVv (As := [.int 1]) cv_X12_126 hL s_147 rfl (Nat.le_of_ble_eq_true rfl) ⟨Nat.zero_le _, Nat.zero_le _⟩ d_X12_takeNumber_22 h (fun M3 h => ?_)
      have hL_M3 : Lay c M3 := hL.to h.1
      replace h := h.2
      refine tw_goto 70 d_X12_takeNumber_25 (by decide) ?_
      exact tw_lv [0] rfl h

theorem d_X12_takeAfter_0 : decode Y_X12_takeAfter.cc 0 = .ok (.aload_n 0, 1) := by decide +kernel
theorem d_X12_takeAfter_1 : decode Y_X12_takeAfter.cc 1 = .ok (.iload_n 1, 1) := by decide +kernel
theorem d_X12_takeAfter_2 : decode Y_X12_takeAfter.cc 2 = .ok (.invokevirtual 136, 3) := by decide +kernel
theorem d_X12_takeAfter_5 : decode Y_X12_takeAfter.cc 5 = .ok (.aload_n 0, 1) := by decide +kernel
theorem d_X12_takeAfter_6 : decode Y_X12_takeAfter.cc 6 = .ok (.iload_n 2, 1) := by decide +kernel
theorem d_X12_takeAfter_7 : decode Y_X12_takeAfter.cc 7 = .ok (.iload_n 3, 1) := by decide +kernel
theorem d_X12_takeAfter_8 : decode Y_X12_takeAfter.cc 8 = .ok (.invokevirtual 139, 3) := by decide +kernel
theorem d_X12_takeAfter_11 : decode Y_X12_takeAfter.cc 11 = .ok (.ireturn, 1) := by decide +kernel
theorem b_X12_takeAfter {G : MG} {d : Nat} {Q : Int32 → Mm → Prop} {x1 : Int32} {x2 : Int32} {x3 : Int32} {M : Mm} {c : Nat} (hL : Lay c M)  (h : (C G Y_X12_takeWord d [.ref (G.b + 147), .int x1] M (Rv fun M1 => M1.2.2 = M.2.2 ∧ (C G Y_X12_takeNumber d [.ref (G.b + 147), .int x2, .int x3] M1 (Ri fun r3 M2 => M2.2.2 = M1.2.2 ∧ Q r3 M2))))) : C G Y_X12_takeAfter (d + 1) [.ref (G.b + 147), .int x1, .int x2, .int x3] M (Ri Q) := by
  refine C.of (by decide) (Nat.le_of_ble_eq_true rfl) (lv := [(0, .ref (G.b + 147)), (1, .int x1), (2, .int x2), (3, .int x3)]) rfl ?_
  refine tw_aload_n 0 d_X12_takeAfter_0 rfl rfl ?_
  refine tw_iload_n 1 d_X12_takeAfter_1 rfl rfl ?_
  refine tu_cVv (As := [.int x1]) cv_X12_136 hL s_147 rfl (Nat.le_of_ble_eq_true rfl) ⟨Nat.zero_le _, Nat.zero_le _⟩ d_X12_takeAfter_2 h (fun M1 h => ?_)
  have hL_M1 : Lay c M1 := hL.to h.1
  replace h := h.2
  refine tw_aload_n 0 d_X12_takeAfter_5 rfl rfl ?_
  refine tw_iload_n 2 d_X12_takeAfter_6 rfl rfl ?_
  refine tw_iload_n 3 d_X12_takeAfter_7 rfl rfl ?_
  refine tu_cVi (As := [.int x2, .int x3]) cv_X12_139 hL_M1 s_147 rfl (Nat.le_of_ble_eq_true rfl) ⟨Nat.zero_le _, Nat.zero_le _⟩ d_X12_takeAfter_8 h (fun r3 M2 h => ?_)
  have hL_M2 : Lay c M2 := hL_M1.to h.1
  replace h := h.2
  exact tw_iret rfl ⟨Nat.zero_le _, Nat.zero_le _⟩ d_X12_takeAfter_11 h

theorem d_X12_isName_0 : decode Y_X12_isName.cc 0 = .ok (.aload_n 0, 1) := by decide +kernel
theorem d_X12_isName_1 : decode Y_X12_isName.cc 1 = .ok (.getfield 120, 3) := by decide +kernel
theorem d_X12_isName_4 : decode Y_X12_isName.cc 4 = .ok (.ifCond .ne 20, 3) := by decide +kernel
theorem d_X12_isName_7 : decode Y_X12_isName.cc 7 = .ok (.aload_n 0, 1) := by decide +kernel
theorem d_X12_isName_8 : decode Y_X12_isName.cc 8 = .ok (.getfield 24, 3) := by decide +kernel
theorem d_X12_isName_11 : decode Y_X12_isName.cc 11 = .ok (.aload_n 0, 1) := by decide +kernel
theorem d_X12_isName_12 : decode Y_X12_isName.cc 12 = .ok (.getfield 117, 3) := by decide +kernel
theorem d_X12_isName_15 : decode Y_X12_isName.cc 15 = .ok (.iaload, 1) := by decide +kernel
theorem d_X12_isName_16 : decode Y_X12_isName.cc 16 = .ok (.iconst 1, 1) := by decide +kernel
theorem d_X12_isName_17 : decode Y_X12_isName.cc 17 = .ok (.if_icmp .ne 7, 3) := by decide +kernel
theorem d_X12_isName_20 : decode Y_X12_isName.cc 20 = .ok (.iconst 1, 1) := by decide +kernel
theorem d_X12_isName_21 : decode Y_X12_isName.cc 21 = .ok (.goto 4, 3) := by decide +kernel
theorem d_X12_isName_24 : decode Y_X12_isName.cc 24 = .ok (.iconst 0, 1) := by decide +kernel
theorem d_X12_isName_25 : decode Y_X12_isName.cc 25 = .ok (.istore_n 1, 1) := by decide +kernel
theorem d_X12_isName_26 : decode Y_X12_isName.cc 26 = .ok (.iconst 0, 1) := by decide +kernel
theorem d_X12_isName_27 : decode Y_X12_isName.cc 27 = .ok (.istore_n 2, 1) := by decide +kernel
theorem d_X12_isName_28 : decode Y_X12_isName.cc 28 = .ok (.iload_n 2, 1) := by decide +kernel
theorem d_X12_isName_29 : decode Y_X12_isName.cc 29 = .ok (.bipush 16, 2) := by decide +kernel
theorem d_X12_isName_31 : decode Y_X12_isName.cc 31 = .ok (.if_icmp .ge 38, 3) := by decide +kernel
theorem d_X12_isName_34 : decode Y_X12_isName.cc 34 = .ok (.iload_n 1, 1) := by decide +kernel
theorem d_X12_isName_35 : decode Y_X12_isName.cc 35 = .ok (.ifCond .eq 26, 3) := by decide +kernel
theorem d_X12_isName_38 : decode Y_X12_isName.cc 38 = .ok (.aload_n 0, 1) := by decide +kernel
theorem d_X12_isName_39 : decode Y_X12_isName.cc 39 = .ok (.getfield 30, 3) := by decide +kernel
theorem d_X12_isName_42 : decode Y_X12_isName.cc 42 = .ok (.aload_n 0, 1) := by decide +kernel
theorem d_X12_isName_43 : decode Y_X12_isName.cc 43 = .ok (.getfield 117, 3) := by decide +kernel
theorem d_X12_isName_46 : decode Y_X12_isName.cc 46 = .ok (.laload, 1) := by decide +kernel
theorem d_X12_isName_47 : decode Y_X12_isName.cc 47 = .ok (.aload_n 0, 1) := by decide +kernel
theorem d_X12_isName_48 : decode Y_X12_isName.cc 48 = .ok (.getfield 66, 3) := by decide +kernel
theorem d_X12_isName_51 : decode Y_X12_isName.cc 51 = .ok (.iload_n 2, 1) := by decide +kernel
theorem d_X12_isName_52 : decode Y_X12_isName.cc 52 = .ok (.laload, 1) := by decide +kernel
theorem d_X12_isName_53 : decode Y_X12_isName.cc 53 = .ok (.lcmp, 1) := by decide +kernel
theorem d_X12_isName_54 : decode Y_X12_isName.cc 54 = .ok (.ifCond .eq 7, 3) := by decide +kernel
theorem d_X12_isName_57 : decode Y_X12_isName.cc 57 = .ok (.iconst 1, 1) := by decide +kernel
theorem d_X12_isName_58 : decode Y_X12_isName.cc 58 = .ok (.goto 4, 3) := by decide +kernel
theorem d_X12_isName_61 : decode Y_X12_isName.cc 61 = .ok (.iconst 0, 1) := by decide +kernel
theorem d_X12_isName_62 : decode Y_X12_isName.cc 62 = .ok (.istore_n 1, 1) := by decide +kernel
theorem d_X12_isName_63 : decode Y_X12_isName.cc 63 = .ok (.iinc 2 1, 3) := by decide +kernel
theorem d_X12_isName_66 : decode Y_X12_isName.cc 66 = .ok (.goto (-38), 3) := by decide +kernel
theorem d_X12_isName_69 : decode Y_X12_isName.cc 69 = .ok (.iload_n 1, 1) := by decide +kernel
theorem d_X12_isName_70 : decode Y_X12_isName.cc 70 = .ok (.ireturn, 1) := by decide +kernel
def L_X12_isName_28 (G : MG) (d : Nat) (Q : Int32 → Mm → Prop) (x1 : Int32) (x2 : Int32) (M : Mm) : Prop := T G Y_X12_isName (d + 1) (Ri Q) 0 0 28 [(0, .ref (G.b + 147)), (1, .int x1), (2, .int x2)] [] M
theorem b_X12_isName_28 {G : MG} {d : Nat} {Q : Int32 → Mm → Prop} {x1 : Int32} {x2 : Int32} {M : Mm} {c : Nat} (hL : Lay c M)  (h : ((16 ≤ x2 → ((x1 = 0 ∨ x1 = 1) ∧ Q x1 M)) ∧ (¬ 16 ≤ x2 → ((x1 = 0 → L_X12_isName_28 G d Q 0 (x2 + 1) M) ∧ (¬ x1 = 0 → (vp_in (M.1 147 7) 1002 ∧ (vp_in x2 16 ∧ (((M.2.1 151 (M.1 147 7).toNatClampNeg) = (M.2.1 152 x2.toNatClampNeg) → L_X12_isName_28 G d Q 0 (x2 + 1) M) ∧ (¬ (M.2.1 151 (M.1 147 7).toNatClampNeg) = (M.2.1 152 x2.toNatClampNeg) → L_X12_isName_28 G d Q 1 (x2 + 1) M))))))))) : L_X12_isName_28 G d Q x1 x2 M := by
  unfold L_X12_isName_28
  refine tw_iload_n 2 d_X12_isName_28 rfl rfl ?_
  refine tw_bipush d_X12_isName_29 kb_16 ?_
  refine tw_icmp_ge 69 d_X12_isName_31 (by decide) (fun z1 => ?_) (fun z1 => ?_)
  · replace h := h.1 z1
    refine tw_iload_n 1 d_X12_isName_69 rfl rfl ?_
    exact tw_zret (ty := .boolean) rfl (nzb h.1) ⟨Nat.zero_le _, Nat.zero_le _⟩ d_X12_isName_70 h.2
  · replace h := h.2 z1
    refine tw_iload_n 1 d_X12_isName_34 rfl rfl ?_
    refine tw_if_eq 61 d_X12_isName_35 (by decide) (fun z2 => ?_) (fun z2 => ?_)
    · replace h := h.1 z2
      refine tw_iconst d_X12_isName_61 k_0 ?_
      refine tw_istore_n [(1, .int 0), (0, .ref (G.b + 147)), (2, .int x2)] d_X12_isName_62 rfl (Nat.le_of_ble_eq_true rfl) rfl ?_
      refine tw_iinc 2 [(2, .int (x2 + 1)), (1, .int 0), (0, .ref (G.b + 147))] d_X12_isName_63 rfl rfl (Nat.le_of_ble_eq_true rfl) rfl ?_
      refine tw_goto 28 d_X12_isName_66 (by decide) ?_
      exact tw_lv [2, 1, 0] rfl h
    · replace h := h.2 z2
      refine tw_aload_n 0 d_X12_isName_38 rfl rfl ?_
      refine tw_getR f_X12_30 hL s_147 ⟨rfl, rfl⟩ (rr_X12_6 s_147) d_X12_isName_39 ?_
      refine tw_aload_n 0 d_X12_isName_42 rfl rfl ?_
      refine tw_getI f_X12_117 hL s_147 (Or.inl rfl) d_X12_isName_43 ?_
      refine tw_lald hL s_151 d_X12_isName_46 h.1 ?_
      replace h := h.2
      refine tw_aload_n 0 d_X12_isName_47 rfl rfl ?_
      refine tw_getR f_X12_66 hL s_147 ⟨rfl, rfl⟩ (rr_X12_9 s_147) d_X12_isName_48 ?_
      refine tw_iload_n 2 d_X12_isName_51 rfl rfl ?_
      refine tw_lald hL s_152 d_X12_isName_52 h.1 ?_
      replace h := h.2
      refine tw_lcmp_eq 61 d_X12_isName_53 d_X12_isName_54 (by decide) (fun z3 => ?_) (fun z3 => ?_)
      · replace h := h.1 z3
        refine tw_iconst d_X12_isName_61 k_0 ?_
        refine tw_istore_n [(1, .int 0), (0, .ref (G.b + 147)), (2, .int x2)] d_X12_isName_62 rfl (Nat.le_of_ble_eq_true rfl) rfl ?_
        refine tw_iinc 2 [(2, .int (x2 + 1)), (1, .int 0), (0, .ref (G.b + 147))] d_X12_isName_63 rfl rfl (Nat.le_of_ble_eq_true rfl) rfl ?_
        refine tw_goto 28 d_X12_isName_66 (by decide) ?_
        exact tw_lv [2, 1, 0] rfl h
      · replace h := h.2 z3
        refine tw_iconst d_X12_isName_57 k_1 ?_
        refine tw_goto 62 d_X12_isName_58 (by decide) ?_
        refine tw_istore_n [(1, .int 1), (0, .ref (G.b + 147)), (2, .int x2)] d_X12_isName_62 rfl (Nat.le_of_ble_eq_true rfl) rfl ?_
        refine tw_iinc 2 [(2, .int (x2 + 1)), (1, .int 1), (0, .ref (G.b + 147))] d_X12_isName_63 rfl rfl (Nat.le_of_ble_eq_true rfl) rfl ?_
        refine tw_goto 28 d_X12_isName_66 (by decide) ?_
        exact tw_lv [2, 1, 0] rfl h
theorem b_X12_isName {G : MG} {d : Nat} {Q : Int32 → Mm → Prop}  {M : Mm} {c : Nat} (hL : Lay c M)  (h : ((¬ (M.1 147 8) = 0 → L_X12_isName_28 G d Q 0 0 M) ∧ ((M.1 147 8) = 0 → (vp_in (M.1 147 7) 1002 ∧ ((¬ (M.1 149 (M.1 147 7).toNatClampNeg) = 1 → L_X12_isName_28 G d Q 0 0 M) ∧ ((M.1 149 (M.1 147 7).toNatClampNeg) = 1 → L_X12_isName_28 G d Q 1 0 M)))))) : C G Y_X12_isName (d + 1) [.ref (G.b + 147)] M (Ri Q) := by
  refine C.of (by decide) (Nat.le_of_ble_eq_true rfl) (lv := [(0, .ref (G.b + 147))]) rfl ?_
  refine tw_aload_n 0 d_X12_isName_0 rfl rfl ?_
  refine tw_getI f_X12_120 hL s_147 (Or.inl rfl) d_X12_isName_1 ?_
  refine tw_if_ne 24 d_X12_isName_4 (by decide) (fun z1 => ?_) (fun z1 => ?_)
  · replace h := h.1 z1
    refine tw_iconst d_X12_isName_24 k_0 ?_
    refine tw_istore_n [(1, .int 0), (0, .ref (G.b + 147))] d_X12_isName_25 rfl (Nat.le_of_ble_eq_true rfl) rfl ?_
    refine tw_iconst d_X12_isName_26 k_0 ?_
    refine tw_istore_n [(2, .int 0), (1, .int 0), (0, .ref (G.b + 147))] d_X12_isName_27 rfl (Nat.le_of_ble_eq_true rfl) rfl ?_
    exact tw_lv [2, 1, 0] rfl h
  · replace h := h.2 z1
    refine tw_aload_n 0 d_X12_isName_7 rfl rfl ?_
    refine tw_getR f_X12_24 hL s_147 ⟨rfl, rfl⟩ (rr_X12_4 s_147) d_X12_isName_8 ?_
    refine tw_aload_n 0 d_X12_isName_11 rfl rfl ?_
    refine tw_getI f_X12_117 hL s_147 (Or.inl rfl) d_X12_isName_12 ?_
    refine tw_iald hL s_149 d_X12_isName_15 h.1 ?_
    replace h := h.2
    refine tw_iconst d_X12_isName_16 k_1 ?_
    refine tw_icmp_ne 24 d_X12_isName_17 (by decide) (fun z2 => ?_) (fun z2 => ?_)
    · replace h := h.1 z2
      refine tw_iconst d_X12_isName_24 k_0 ?_
      refine tw_istore_n [(1, .int 0), (0, .ref (G.b + 147))] d_X12_isName_25 rfl (Nat.le_of_ble_eq_true rfl) rfl ?_
      refine tw_iconst d_X12_isName_26 k_0 ?_
      refine tw_istore_n [(2, .int 0), (1, .int 0), (0, .ref (G.b + 147))] d_X12_isName_27 rfl (Nat.le_of_ble_eq_true rfl) rfl ?_
      exact tw_lv [2, 1, 0] rfl h
    · replace h := h.2 z2
      refine tw_iconst d_X12_isName_20 k_1 ?_
      refine tw_goto 25 d_X12_isName_21 (by decide) ?_
      refine tw_istore_n [(1, .int 1), (0, .ref (G.b + 147))] d_X12_isName_25 rfl (Nat.le_of_ble_eq_true rfl) rfl ?_
      refine tw_iconst d_X12_isName_26 k_0 ?_
      refine tw_istore_n [(2, .int 0), (1, .int 1), (0, .ref (G.b + 147))] d_X12_isName_27 rfl (Nat.le_of_ble_eq_true rfl) rfl ?_
      exact tw_lv [2, 1, 0] rfl h

theorem d_X12_readName_0 : decode Y_X12_readName.cc 0 = .ok (.aload_n 0, 1) := by decide +kernel
theorem d_X12_readName_1 : decode Y_X12_readName.cc 1 = .ok (.dup, 1) := by decide +kernel
theorem d_X12_readName_2 : decode Y_X12_readName.cc 2 = .ok (.getfield 117, 3) := by decide +kernel
theorem d_X12_readName_5 : decode Y_X12_readName.cc 5 = .ok (.iconst 1, 1) := by decide +kernel
theorem d_X12_readName_6 : decode Y_X12_readName.cc 6 = .ok (.iadd, 1) := by decide +kernel
theorem d_X12_readName_7 : decode Y_X12_readName.cc 7 = .ok (.putfield 117, 3) := by decide +kernel
theorem d_X12_readName_10 : decode Y_X12_readName.cc 10 = .ok (.aload_n 0, 1) := by decide +kernel
theorem d_X12_readName_11 : decode Y_X12_readName.cc 11 = .ok (.invokevirtual 143, 3) := by decide +kernel
theorem d_X12_readName_14 : decode Y_X12_readName.cc 14 = .ok (.ifCond .ne 8, 3) := by decide +kernel
theorem d_X12_readName_17 : decode Y_X12_readName.cc 17 = .ok (.aload_n 0, 1) := by decide +kernel
theorem d_X12_readName_18 : decode Y_X12_readName.cc 18 = .ok (.iconst 1, 1) := by decide +kernel
theorem d_X12_readName_19 : decode Y_X12_readName.cc 19 = .ok (.invokevirtual 126, 3) := by decide +kernel
theorem d_X12_readName_22 : decode Y_X12_readName.cc 22 = .ok (.iconst 0, 1) := by decide +kernel
theorem d_X12_readName_23 : decode Y_X12_readName.cc 23 = .ok (.istore_n 1, 1) := by decide +kernel
theorem d_X12_readName_24 : decode Y_X12_readName.cc 24 = .ok (.iload_n 1, 1) := by decide +kernel
theorem d_X12_readName_25 : decode Y_X12_readName.cc 25 = .ok (.aload_n 0, 1) := by decide +kernel
theorem d_X12_readName_26 : decode Y_X12_readName.cc 26 = .ok (.getfield 147, 3) := by decide +kernel
theorem d_X12_readName_29 : decode Y_X12_readName.cc 29 = .ok (.if_icmp .ge 40, 3) := by decide +kernel
theorem d_X12_readName_32 : decode Y_X12_readName.cc 32 = .ok (.aload_n 0, 1) := by decide +kernel
theorem d_X12_readName_33 : decode Y_X12_readName.cc 33 = .ok (.getfield 120, 3) := by decide +kernel
theorem d_X12_readName_36 : decode Y_X12_readName.cc 36 = .ok (.ifCond .ne 33, 3) := by decide +kernel
theorem d_X12_readName_39 : decode Y_X12_readName.cc 39 = .ok (.aload_n 0, 1) := by decide +kernel
theorem d_X12_readName_40 : decode Y_X12_readName.cc 40 = .ok (.getfield 75, 3) := by decide +kernel
theorem d_X12_readName_43 : decode Y_X12_readName.cc 43 = .ok (.iload_n 1, 1) := by decide +kernel
theorem d_X12_readName_44 : decode Y_X12_readName.cc 44 = .ok (.laload, 1) := by decide +kernel
theorem d_X12_readName_45 : decode Y_X12_readName.cc 45 = .ok (.aload_n 0, 1) := by decide +kernel
theorem d_X12_readName_46 : decode Y_X12_readName.cc 46 = .ok (.getfield 30, 3) := by decide +kernel
theorem d_X12_readName_49 : decode Y_X12_readName.cc 49 = .ok (.aload_n 0, 1) := by decide +kernel
theorem d_X12_readName_50 : decode Y_X12_readName.cc 50 = .ok (.getfield 117, 3) := by decide +kernel
theorem d_X12_readName_53 : decode Y_X12_readName.cc 53 = .ok (.laload, 1) := by decide +kernel
theorem d_X12_readName_54 : decode Y_X12_readName.cc 54 = .ok (.lcmp, 1) := by decide +kernel
theorem d_X12_readName_55 : decode Y_X12_readName.cc 55 = .ok (.ifCond .ne 8, 3) := by decide +kernel
theorem d_X12_readName_58 : decode Y_X12_readName.cc 58 = .ok (.aload_n 0, 1) := by decide +kernel
theorem d_X12_readName_59 : decode Y_X12_readName.cc 59 = .ok (.iconst 3, 1) := by decide +kernel
theorem d_X12_readName_60 : decode Y_X12_readName.cc 60 = .ok (.invokevirtual 126, 3) := by decide +kernel
theorem d_X12_readName_63 : decode Y_X12_readName.cc 63 = .ok (.iinc 1 1, 3) := by decide +kernel
theorem d_X12_readName_66 : decode Y_X12_readName.cc 66 = .ok (.goto (-42), 3) := by decide +kernel
theorem d_X12_readName_69 : decode Y_X12_readName.cc 69 = .ok (.aload_n 0, 1) := by decide +kernel
theorem d_X12_readName_70 : decode Y_X12_readName.cc 70 = .ok (.getfield 120, 3) := by decide +kernel
theorem d_X12_readName_73 : decode Y_X12_readName.cc 73 = .ok (.ifCond .ne 41, 3) := by decide +kernel
theorem d_X12_readName_76 : decode Y_X12_readName.cc 76 = .ok (.aload_n 0, 1) := by decide +kernel
theorem d_X12_readName_77 : decode Y_X12_readName.cc 77 = .ok (.getfield 75, 3) := by decide +kernel
theorem d_X12_readName_80 : decode Y_X12_readName.cc 80 = .ok (.aload_n 0, 1) := by decide +kernel
theorem d_X12_readName_81 : decode Y_X12_readName.cc 81 = .ok (.getfield 147, 3) := by decide +kernel
theorem d_X12_readName_84 : decode Y_X12_readName.cc 84 = .ok (.aload_n 0, 1) := by decide +kernel
theorem d_X12_readName_85 : decode Y_X12_readName.cc 85 = .ok (.getfield 30, 3) := by decide +kernel
theorem d_X12_readName_88 : decode Y_X12_readName.cc 88 = .ok (.aload_n 0, 1) := by decide +kernel
theorem d_X12_readName_89 : decode Y_X12_readName.cc 89 = .ok (.getfield 117, 3) := by decide +kernel
theorem d_X12_readName_92 : decode Y_X12_readName.cc 92 = .ok (.laload, 1) := by decide +kernel
theorem d_X12_readName_93 : decode Y_X12_readName.cc 93 = .ok (.lastore, 1) := by decide +kernel
theorem d_X12_readName_94 : decode Y_X12_readName.cc 94 = .ok (.aload_n 0, 1) := by decide +kernel
theorem d_X12_readName_95 : decode Y_X12_readName.cc 95 = .ok (.dup, 1) := by decide +kernel
theorem d_X12_readName_96 : decode Y_X12_readName.cc 96 = .ok (.getfield 147, 3) := by decide +kernel
theorem d_X12_readName_99 : decode Y_X12_readName.cc 99 = .ok (.iconst 1, 1) := by decide +kernel
theorem d_X12_readName_100 : decode Y_X12_readName.cc 100 = .ok (.iadd, 1) := by decide +kernel
theorem d_X12_readName_101 : decode Y_X12_readName.cc 101 = .ok (.putfield 147, 3) := by decide +kernel
theorem d_X12_readName_104 : decode Y_X12_readName.cc 104 = .ok (.aload_n 0, 1) := by decide +kernel
theorem d_X12_readName_105 : decode Y_X12_readName.cc 105 = .ok (.dup, 1) := by decide +kernel
theorem d_X12_readName_106 : decode Y_X12_readName.cc 106 = .ok (.getfield 117, 3) := by decide +kernel
theorem d_X12_readName_109 : decode Y_X12_readName.cc 109 = .ok (.iconst 1, 1) := by decide +kernel
theorem d_X12_readName_110 : decode Y_X12_readName.cc 110 = .ok (.iadd, 1) := by decide +kernel
theorem d_X12_readName_111 : decode Y_X12_readName.cc 111 = .ok (.putfield 117, 3) := by decide +kernel
theorem d_X12_readName_114 : decode Y_X12_readName.cc 114 = .ok (.return_, 1) := by decide +kernel
def L_X12_readName_24 (G : MG) (d : Nat) (Q : Mm → Prop) (x1 : Int32) (M : Mm) : Prop := T G Y_X12_readName (d + 1) (Rv Q) 0 0 24 [(0, .ref (G.b + 147)), (1, .int x1)] [] M
def L_X12_readName_69 (G : MG) (d : Nat) (Q : Mm → Prop)  (M : Mm) : Prop := T G Y_X12_readName (d + 1) (Rv Q) 0 0 69 [(0, .ref (G.b + 147))] [] M
theorem b_X12_readName_24 {G : MG} {d : Nat} {Q : Mm → Prop} {x1 : Int32} {M : Mm} {c : Nat} (hL : Lay c M)  (h : (((M.1 147 13) ≤ x1 → L_X12_readName_69 G d Q  M) ∧ (¬ (M.1 147 13) ≤ x1 → ((¬ (M.1 147 8) = 0 → L_X12_readName_69 G d Q  M) ∧ ((M.1 147 8) = 0 → (vp_in x1 13 ∧ (vp_in (M.1 147 7) 1002 ∧ ((¬ (M.2.1 155 x1.toNatClampNeg) = (M.2.1 151 (M.1 147 7).toNatClampNeg) → L_X12_readName_24 G d Q (x1 + 1) M) ∧ ((M.2.1 155 x1.toNatClampNeg) = (M.2.1 151 (M.1 147 7).toNatClampNeg) → (C G Y_X12_wrong d [.ref (G.b + 147), .int 3] M (Rv fun M4 => M4.2.2 = M.2.2 ∧ L_X12_readName_24 G d Q (x1 + 1) M4))))))))))) : L_X12_readName_24 G d Q x1 M := by
  unfold L_X12_readName_24
  refine tw_iload_n 1 d_X12_readName_24 rfl rfl ?_
  refine tw_aload_n 0 d_X12_readName_25 rfl rfl ?_
  refine tw_getI f_X12_147 hL s_147 (Or.inl rfl) d_X12_readName_26 ?_
  refine tw_icmp_ge 69 d_X12_readName_29 (by decide) (fun z1 => ?_) (fun z1 => ?_)
  · replace h := h.1 z1
    exact tw_lv [0] rfl h
  · replace h := h.2 z1
    refine tw_aload_n 0 d_X12_readName_32 rfl rfl ?_
    refine tw_getI f_X12_120 hL s_147 (Or.inl rfl) d_X12_readName_33 ?_
    refine tw_if_ne 69 d_X12_readName_36 (by decide) (fun z2 => ?_) (fun z2 => ?_)
    · replace h := h.1 z2
      exact tw_lv [0] rfl h
    · replace h := h.2 z2
      refine tw_aload_n 0 d_X12_readName_39 rfl rfl ?_
      refine tw_getR f_X12_75 hL s_147 ⟨rfl, rfl⟩ (rr_X12_12 s_147) d_X12_readName_40 ?_
      refine tw_iload_n 1 d_X12_readName_43 rfl rfl ?_
      refine tw_lald hL s_155 d_X12_readName_44 h.1 ?_
      replace h := h.2
      refine tw_aload_n 0 d_X12_readName_45 rfl rfl ?_
      refine tw_getR f_X12_30 hL s_147 ⟨rfl, rfl⟩ (rr_X12_6 s_147) d_X12_readName_46 ?_
      refine tw_aload_n 0 d_X12_readName_49 rfl rfl ?_
      refine tw_getI f_X12_117 hL s_147 (Or.inl rfl) d_X12_readName_50 ?_
      refine tw_lald hL s_151 d_X12_readName_53 h.1 ?_
      replace h := h.2
      refine tw_lcmp_ne 63 d_X12_readName_54 d_X12_readName_55 (by decide) (fun z3 => ?_) (fun z3 => ?_)
      · replace h := h.1 z3
        refine tw_iinc 1 [(1, .int (x1 + 1)), (0, .ref (G.b + 147))] d_X12_readName_63 rfl rfl (Nat.le_of_ble_eq_true rfl) rfl ?_
        refine tw_goto 24 d_X12_readName_66 (by decide) ?_
        exact tw_lv [1, 0] rfl h
      · replace h := h.2 z3
        refine tw_aload_n 0 d_X12_readName_58 rfl rfl ?_
        refine tw_iconst d_X12_readName_59 k_3 ?_
        refine tu_cVv (As := [.int 3]) cv_X12_126 hL s_147 rfl (Nat.le_of_ble_eq_true rfl) ⟨Nat.zero_le _, Nat.zero_le _⟩ d_X12_readName_60 h (fun M4 h => ?_)
        have hL_M4 : Lay c M4 := hL.to h.1
        replace h := h.2
        refine tw_iinc 1 [(1, .int (x1 + 1)), (0, .ref (G.b + 147))] d_X12_readName_63 rfl rfl (Nat.le_of_ble_eq_true rfl) rfl ?_
        refine tw_goto 24 d_X12_readName_66 (by decide) ?_
        exact tw_lv [1, 0] rfl h
theorem b_X12_readName_69 {G : MG} {d : Nat} {Q : Mm → Prop}  {M : Mm} {c : Nat} (hL : Lay c M)  (h : ((¬ (M.1 147 8) = 0 → Q M) ∧ ((M.1 147 8) = 0 → (vp_in (M.1 147 7) 1002 ∧ (vp_in (M.1 147 13) 13 ∧ ∀ M2 : Mm, M2 = sJ M 155 (M.1 147 13).toNatClampNeg (M.2.1 151 (M.1 147 7).toNatClampNeg) → (∀ M3 : Mm, M3 = sI M2 147 13 ((M2.1 147 13) + 1) → (∀ M4 : Mm, M4 = sI M3 147 7 ((M3.1 147 7) + 1) → Q M4))))))) : L_X12_readName_69 G d Q  M := by
  unfold L_X12_readName_69
  refine tw_aload_n 0 d_X12_readName_69 rfl rfl ?_
  refine tw_getI f_X12_120 hL s_147 (Or.inl rfl) d_X12_readName_70 ?_
  refine tw_if_ne 114 d_X12_readName_73 (by decide) (fun z1 => ?_) (fun z1 => ?_)
  · replace h := h.1 z1
    exact tw_vret rfl ⟨Nat.zero_le _, Nat.zero_le _⟩ d_X12_readName_114 h
  · replace h := h.2 z1
    refine tw_aload_n 0 d_X12_readName_76 rfl rfl ?_
    refine tw_getR f_X12_75 hL s_147 ⟨rfl, rfl⟩ (rr_X12_12 s_147) d_X12_readName_77 ?_
    refine tw_aload_n 0 d_X12_readName_80 rfl rfl ?_
    refine tw_getI f_X12_147 hL s_147 (Or.inl rfl) d_X12_readName_81 ?_
    refine tw_aload_n 0 d_X12_readName_84 rfl rfl ?_
    refine tw_getR f_X12_30 hL s_147 ⟨rfl, rfl⟩ (rr_X12_6 s_147) d_X12_readName_85 ?_
    refine tw_aload_n 0 d_X12_readName_88 rfl rfl ?_
    refine tw_getI f_X12_117 hL s_147 (Or.inl rfl) d_X12_readName_89 ?_
    refine tw_lald hL s_151 d_X12_readName_92 h.1 ?_
    replace h := h.2
    refine tu_last hL s_155 d_X12_readName_93 h.1 (fun M2 e_M2 hL_M2 => ?_)
    replace h := h.2 M2 e_M2
    refine tw_aload_n 0 d_X12_readName_94 rfl rfl ?_
    refine tw_dup d_X12_readName_95 rfl ?_
    refine tw_getI f_X12_147 hL_M2 s_147 (Or.inl rfl) d_X12_readName_96 ?_
    refine tw_iconst d_X12_readName_99 k_1 ?_
    refine tw_iadd d_X12_readName_100 ?_
    refine tu_putI f_X12_147 hL_M2 s_147 rfl rfl d_X12_readName_101 (fun M3 e_M3 hL_M3 => ?_)
    replace h := h M3 e_M3
    refine tw_aload_n 0 d_X12_readName_104 rfl rfl ?_
    refine tw_dup d_X12_readName_105 rfl ?_
    refine tw_getI f_X12_117 hL_M3 s_147 (Or.inl rfl) d_X12_readName_106 ?_
    refine tw_iconst d_X12_readName_109 k_1 ?_
    refine tw_iadd d_X12_readName_110 ?_
    refine tu_putI f_X12_117 hL_M3 s_147 rfl rfl d_X12_readName_111 (fun M4 e_M4 hL_M4 => ?_)
    replace h := h M4 e_M4
    exact tw_vret rfl ⟨Nat.zero_le _, Nat.zero_le _⟩ d_X12_readName_114 h
theorem b_X12_readName {G : MG} {d : Nat} {Q : Mm → Prop}  {M : Mm} {c : Nat} (hL : Lay c M)  (h : (∀ M1 : Mm, M1 = sI M 147 7 ((M.1 147 7) + 1) → (C G Y_X12_isName d [.ref (G.b + 147)] M1 (Ri fun r3 M2 => M2.2.2 = M1.2.2 ∧ ((¬ r3 = 0 → L_X12_readName_24 G d Q 0 M2) ∧ (r3 = 0 → (C G Y_X12_wrong d [.ref (G.b + 147), .int 1] M2 (Rv fun M5 => M5.2.2 = M2.2.2 ∧ L_X12_readName_24 G d Q 0 M5)))))))) : C G Y_X12_readName (d + 1) [.ref (G.b + 147)] M (Rv Q) := by
  refine C.of (by decide) (Nat.le_of_ble_eq_true rfl) (lv := [(0, .ref (G.b + 147))]) rfl ?_
  refine tw_aload_n 0 d_X12_readName_0 rfl rfl ?_
  refine tw_dup d_X12_readName_1 rfl ?_
  refine tw_getI f_X12_117 hL s_147 (Or.inl rfl) d_X12_readName_2 ?_
  refine tw_iconst d_X12_readName_5 k_1 ?_
  refine tw_iadd d_X12_readName_6 ?_
  refine tu_putI f_X12_117 hL s_147 rfl rfl d_X12_readName_7 (fun M1 e_M1 hL_M1 => ?_)
  replace h := h M1 e_M1
  refine tw_aload_n 0 d_X12_readName_10 rfl rfl ?_
  refine tu_cVi (As := []) cv_X12_143 hL_M1 s_147 rfl (Nat.le_of_ble_eq_true rfl) ⟨Nat.zero_le _, Nat.zero_le _⟩ d_X12_readName_11 h (fun r3 M2 h => ?_)
  have hL_M2 : Lay c M2 := hL_M1.to h.1
  replace h := h.2
  refine tw_if_ne 22 d_X12_readName_14 (by decide) (fun z4 => ?_) (fun z4 => ?_)
  · replace h := h.1 z4
    refine tw_iconst d_X12_readName_22 k_0 ?_
    refine tw_istore_n [(1, .int 0), (0, .ref (G.b + 147))] d_X12_readName_23 rfl (Nat.le_of_ble_eq_true rfl) rfl ?_
    exact tw_lv [1, 0] rfl h
  · replace h := h.2 z4
    refine tw_aload_n 0 d_X12_readName_17 rfl rfl ?_
    refine tw_iconst d_X12_readName_18 k_1 ?_
    refine tu_cVv (As := [.int 1]) cv_X12_126 hL_M2 s_147 rfl (Nat.le_of_ble_eq_true rfl) ⟨Nat.zero_le _, Nat.zero_le _⟩ d_X12_readName_19 h (fun M5 h => ?_)
    have hL_M5 : Lay c M5 := hL_M2.to h.1
    replace h := h.2
    refine tw_iconst d_X12_readName_22 k_0 ?_
    refine tw_istore_n [(1, .int 0), (0, .ref (G.b + 147))] d_X12_readName_23 rfl (Nat.le_of_ble_eq_true rfl) rfl ?_
    exact tw_lv [1, 0] rfl h

theorem d_X12_office_0 : decode Y_X12_office.cc 0 = .ok (.aload_n 0, 1) := by decide +kernel
theorem d_X12_office_1 : decode Y_X12_office.cc 1 = .ok (.iconst 0, 1) := by decide +kernel
theorem d_X12_office_2 : decode Y_X12_office.cc 2 = .ok (.putfield 1, 3) := by decide +kernel
theorem d_X12_office_5 : decode Y_X12_office.cc 5 = .ok (.aload_n 0, 1) := by decide +kernel
theorem d_X12_office_6 : decode Y_X12_office.cc 6 = .ok (.invokevirtual 150, 3) := by decide +kernel
theorem d_X12_office_9 : decode Y_X12_office.cc 9 = .ok (.aload_n 0, 1) := by decide +kernel
theorem d_X12_office_10 : decode Y_X12_office.cc 10 = .ok (.iconst 0, 1) := by decide +kernel
theorem d_X12_office_11 : decode Y_X12_office.cc 11 = .ok (.putfield 147, 3) := by decide +kernel
theorem d_X12_office_14 : decode Y_X12_office.cc 14 = .ok (.iconst 0, 1) := by decide +kernel
theorem d_X12_office_15 : decode Y_X12_office.cc 15 = .ok (.istore_n 1, 1) := by decide +kernel
theorem d_X12_office_16 : decode Y_X12_office.cc 16 = .ok (.iload_n 1, 1) := by decide +kernel
theorem d_X12_office_17 : decode Y_X12_office.cc 17 = .ok (.bipush 110, 2) := by decide +kernel
theorem d_X12_office_19 : decode Y_X12_office.cc 19 = .ok (.if_icmp .ge 19, 3) := by decide +kernel
theorem d_X12_office_22 : decode Y_X12_office.cc 22 = .ok (.aload_n 0, 1) := by decide +kernel
theorem d_X12_office_23 : decode Y_X12_office.cc 23 = .ok (.getfield 69, 3) := by decide +kernel
theorem d_X12_office_26 : decode Y_X12_office.cc 26 = .ok (.bipush 110, 2) := by decide +kernel
theorem d_X12_office_28 : decode Y_X12_office.cc 28 = .ok (.iload_n 1, 1) := by decide +kernel
theorem d_X12_office_29 : decode Y_X12_office.cc 29 = .ok (.iadd, 1) := by decide +kernel
theorem d_X12_office_30 : decode Y_X12_office.cc 30 = .ok (.iconst 0, 1) := by decide +kernel
theorem d_X12_office_31 : decode Y_X12_office.cc 31 = .ok (.iastore, 1) := by decide +kernel
theorem d_X12_office_32 : decode Y_X12_office.cc 32 = .ok (.iinc 1 1, 3) := by decide +kernel
theorem d_X12_office_35 : decode Y_X12_office.cc 35 = .ok (.goto (-19), 3) := by decide +kernel
theorem d_X12_office_38 : decode Y_X12_office.cc 38 = .ok (.iconst 0, 1) := by decide +kernel
theorem d_X12_office_39 : decode Y_X12_office.cc 39 = .ok (.istore_n 1, 1) := by decide +kernel
theorem d_X12_office_40 : decode Y_X12_office.cc 40 = .ok (.iload_n 1, 1) := by decide +kernel
theorem d_X12_office_41 : decode Y_X12_office.cc 41 = .ok (.bipush 120, 2) := by decide +kernel
theorem d_X12_office_43 : decode Y_X12_office.cc 43 = .ok (.if_icmp .ge 19, 3) := by decide +kernel
theorem d_X12_office_46 : decode Y_X12_office.cc 46 = .ok (.aload_n 0, 1) := by decide +kernel
theorem d_X12_office_47 : decode Y_X12_office.cc 47 = .ok (.getfield 72, 3) := by decide +kernel
theorem d_X12_office_50 : decode Y_X12_office.cc 50 = .ok (.bipush 120, 2) := by decide +kernel
theorem d_X12_office_52 : decode Y_X12_office.cc 52 = .ok (.iload_n 1, 1) := by decide +kernel
theorem d_X12_office_53 : decode Y_X12_office.cc 53 = .ok (.iadd, 1) := by decide +kernel
theorem d_X12_office_54 : decode Y_X12_office.cc 54 = .ok (.iconst 0, 1) := by decide +kernel
theorem d_X12_office_55 : decode Y_X12_office.cc 55 = .ok (.iastore, 1) := by decide +kernel
theorem d_X12_office_56 : decode Y_X12_office.cc 56 = .ok (.iinc 1 1, 3) := by decide +kernel
theorem d_X12_office_59 : decode Y_X12_office.cc 59 = .ok (.goto (-19), 3) := by decide +kernel
theorem d_X12_office_62 : decode Y_X12_office.cc 62 = .ok (.aload_n 0, 1) := by decide +kernel
theorem d_X12_office_63 : decode Y_X12_office.cc 63 = .ok (.getfield 120, 3) := by decide +kernel
theorem d_X12_office_66 : decode Y_X12_office.cc 66 = .ok (.ifCond .ne 60, 3) := by decide +kernel
theorem d_X12_office_69 : decode Y_X12_office.cc 69 = .ok (.aload_n 0, 1) := by decide +kernel
theorem d_X12_office_70 : decode Y_X12_office.cc 70 = .ok (.getfield 24, 3) := by decide +kernel
theorem d_X12_office_73 : decode Y_X12_office.cc 73 = .ok (.aload_n 0, 1) := by decide +kernel
theorem d_X12_office_74 : decode Y_X12_office.cc 74 = .ok (.getfield 117, 3) := by decide +kernel
theorem d_X12_office_77 : decode Y_X12_office.cc 77 = .ok (.iaload, 1) := by decide +kernel
theorem d_X12_office_78 : decode Y_X12_office.cc 78 = .ok (.ifCond .eq 48, 3) := by decide +kernel
theorem d_X12_office_81 : decode Y_X12_office.cc 81 = .ok (.aload_n 0, 1) := by decide +kernel
theorem d_X12_office_82 : decode Y_X12_office.cc 82 = .ok (.iconst 0, 1) := by decide +kernel
theorem d_X12_office_83 : decode Y_X12_office.cc 83 = .ok (.invokevirtual 130, 3) := by decide +kernel
theorem d_X12_office_86 : decode Y_X12_office.cc 86 = .ok (.ifCond .eq 10, 3) := by decide +kernel
theorem d_X12_office_89 : decode Y_X12_office.cc 89 = .ok (.aload_n 0, 1) := by decide +kernel
theorem d_X12_office_90 : decode Y_X12_office.cc 90 = .ok (.invokevirtual 153, 3) := by decide +kernel
theorem d_X12_office_93 : decode Y_X12_office.cc 93 = .ok (.goto 24, 3) := by decide +kernel
theorem d_X12_office_96 : decode Y_X12_office.cc 96 = .ok (.aload_n 0, 1) := by decide +kernel
theorem d_X12_office_97 : decode Y_X12_office.cc 97 = .ok (.bipush 7, 2) := by decide +kernel
theorem d_X12_office_99 : decode Y_X12_office.cc 99 = .ok (.invokevirtual 130, 3) := by decide +kernel
theorem d_X12_office_102 : decode Y_X12_office.cc 102 = .ok (.ifCond .eq 10, 3) := by decide +kernel
theorem d_X12_office_105 : decode Y_X12_office.cc 105 = .ok (.aload_n 0, 1) := by decide +kernel
theorem d_X12_office_106 : decode Y_X12_office.cc 106 = .ok (.invokevirtual 156, 3) := by decide +kernel
theorem d_X12_office_109 : decode Y_X12_office.cc 109 = .ok (.goto 8, 3) := by decide +kernel
theorem d_X12_office_112 : decode Y_X12_office.cc 112 = .ok (.aload_n 0, 1) := by decide +kernel
theorem d_X12_office_113 : decode Y_X12_office.cc 113 = .ok (.iconst 1, 1) := by decide +kernel
theorem d_X12_office_114 : decode Y_X12_office.cc 114 = .ok (.invokevirtual 126, 3) := by decide +kernel
theorem d_X12_office_117 : decode Y_X12_office.cc 117 = .ok (.aload_n 0, 1) := by decide +kernel
theorem d_X12_office_118 : decode Y_X12_office.cc 118 = .ok (.bipush 59, 2) := by decide +kernel
theorem d_X12_office_120 : decode Y_X12_office.cc 120 = .ok (.invokevirtual 159, 3) := by decide +kernel
theorem d_X12_office_123 : decode Y_X12_office.cc 123 = .ok (.goto (-61), 3) := by decide +kernel
theorem d_X12_office_126 : decode Y_X12_office.cc 126 = .ok (.aload_n 0, 1) := by decide +kernel
theorem d_X12_office_127 : decode Y_X12_office.cc 127 = .ok (.getfield 120, 3) := by decide +kernel
theorem d_X12_office_130 : decode Y_X12_office.cc 130 = .ok (.ifCond .le 8, 3) := by decide +kernel
theorem d_X12_office_133 : decode Y_X12_office.cc 133 = .ok (.aload_n 0, 1) := by decide +kernel
theorem d_X12_office_134 : decode Y_X12_office.cc 134 = .ok (.getfield 120, 3) := by decide +kernel
theorem d_X12_office_137 : decode Y_X12_office.cc 137 = .ok (.ireturn, 1) := by decide +kernel
theorem d_X12_office_138 : decode Y_X12_office.cc 138 = .ok (.aload_n 0, 1) := by decide +kernel
theorem d_X12_office_139 : decode Y_X12_office.cc 139 = .ok (.iconst 1, 1) := by decide +kernel
theorem d_X12_office_140 : decode Y_X12_office.cc 140 = .ok (.iconst 0, 1) := by decide +kernel
theorem d_X12_office_141 : decode Y_X12_office.cc 141 = .ok (.invokevirtual 162, 3) := by decide +kernel
theorem d_X12_office_144 : decode Y_X12_office.cc 144 = .ok (.iconst 0, 1) := by decide +kernel
theorem d_X12_office_145 : decode Y_X12_office.cc 145 = .ok (.istore_n 1, 1) := by decide +kernel
theorem d_X12_office_146 : decode Y_X12_office.cc 146 = .ok (.iload_n 1, 1) := by decide +kernel
theorem d_X12_office_147 : decode Y_X12_office.cc 147 = .ok (.bipush 120, 2) := by decide +kernel
theorem d_X12_office_149 : decode Y_X12_office.cc 149 = .ok (.if_icmp .ge 24, 3) := by decide +kernel
theorem d_X12_office_152 : decode Y_X12_office.cc 152 = .ok (.aload_n 0, 1) := by decide +kernel
theorem d_X12_office_153 : decode Y_X12_office.cc 153 = .ok (.getfield 72, 3) := by decide +kernel
theorem d_X12_office_156 : decode Y_X12_office.cc 156 = .ok (.iload_n 1, 1) := by decide +kernel
theorem d_X12_office_157 : decode Y_X12_office.cc 157 = .ok (.aload_n 0, 1) := by decide +kernel
theorem d_X12_office_158 : decode Y_X12_office.cc 158 = .ok (.getfield 72, 3) := by decide +kernel
theorem d_X12_office_161 : decode Y_X12_office.cc 161 = .ok (.bipush 120, 2) := by decide +kernel
theorem d_X12_office_163 : decode Y_X12_office.cc 163 = .ok (.iload_n 1, 1) := by decide +kernel
theorem d_X12_office_164 : decode Y_X12_office.cc 164 = .ok (.iadd, 1) := by decide +kernel
theorem d_X12_office_165 : decode Y_X12_office.cc 165 = .ok (.iaload, 1) := by decide +kernel
theorem d_X12_office_166 : decode Y_X12_office.cc 166 = .ok (.iastore, 1) := by decide +kernel
theorem d_X12_office_167 : decode Y_X12_office.cc 167 = .ok (.iinc 1 1, 3) := by decide +kernel
theorem d_X12_office_170 : decode Y_X12_office.cc 170 = .ok (.goto (-24), 3) := by decide +kernel
theorem d_X12_office_173 : decode Y_X12_office.cc 173 = .ok (.iconst 0, 1) := by decide +kernel
theorem d_X12_office_174 : decode Y_X12_office.cc 174 = .ok (.istore_n 1, 1) := by decide +kernel
theorem d_X12_office_175 : decode Y_X12_office.cc 175 = .ok (.iload_n 1, 1) := by decide +kernel
theorem d_X12_office_176 : decode Y_X12_office.cc 176 = .ok (.iconst 4, 1) := by decide +kernel
theorem d_X12_office_177 : decode Y_X12_office.cc 177 = .ok (.if_icmp .ge 16, 3) := by decide +kernel
theorem d_X12_office_180 : decode Y_X12_office.cc 180 = .ok (.aload_n 0, 1) := by decide +kernel
theorem d_X12_office_181 : decode Y_X12_office.cc 181 = .ok (.getfield 78, 3) := by decide +kernel
theorem d_X12_office_184 : decode Y_X12_office.cc 184 = .ok (.iload_n 1, 1) := by decide +kernel
theorem d_X12_office_185 : decode Y_X12_office.cc 185 = .ok (.iconst 0, 1) := by decide +kernel
theorem d_X12_office_186 : decode Y_X12_office.cc 186 = .ok (.bastore, 1) := by decide +kernel
theorem d_X12_office_187 : decode Y_X12_office.cc 187 = .ok (.iinc 1 1, 3) := by decide +kernel
theorem d_X12_office_190 : decode Y_X12_office.cc 190 = .ok (.goto (-15), 3) := by decide +kernel
theorem d_X12_office_193 : decode Y_X12_office.cc 193 = .ok (.iconst 0, 1) := by decide +kernel
theorem d_X12_office_194 : decode Y_X12_office.cc 194 = .ok (.ireturn, 1) := by decide +kernel
def L_X12_office_16 (G : MG) (d : Nat) (Q : Int32 → Mm → Prop) (x1 : Int32) (M : Mm) : Prop := T G Y_X12_office (d + 1) (Ri Q) 0 0 16 [(0, .ref (G.b + 147)), (1, .int x1)] [] M
def L_X12_office_40 (G : MG) (d : Nat) (Q : Int32 → Mm → Prop) (x1 : Int32) (M : Mm) : Prop := T G Y_X12_office (d + 1) (Ri Q) 0 0 40 [(0, .ref (G.b + 147)), (1, .int x1)] [] M
def L_X12_office_62 (G : MG) (d : Nat) (Q : Int32 → Mm → Prop)  (M : Mm) : Prop := T G Y_X12_office (d + 1) (Ri Q) 0 0 62 [(0, .ref (G.b + 147))] [] M
def L_X12_office_146 (G : MG) (d : Nat) (Q : Int32 → Mm → Prop) (x1 : Int32) (M : Mm) : Prop := T G Y_X12_office (d + 1) (Ri Q) 0 0 146 [(0, .ref (G.b + 147)), (1, .int x1)] [] M
def L_X12_office_175 (G : MG) (d : Nat) (Q : Int32 → Mm → Prop) (x1 : Int32) (M : Mm) : Prop := T G Y_X12_office (d + 1) (Ri Q) 0 0 175 [(0, .ref (G.b + 147)), (1, .int x1)] [] M
theorem b_X12_office_16 {G : MG} {d : Nat} {Q : Int32 → Mm → Prop} {x1 : Int32} {M : Mm} {c : Nat} (hL : Lay c M)  (h : ((110 ≤ x1 → L_X12_office_40 G d Q 0 M) ∧ (¬ 110 ≤ x1 → (vp_in (110 + x1) 660 ∧ ∀ M2 : Mm, M2 = sI M 153 (110 + x1).toNatClampNeg 0 → L_X12_office_16 G d Q (x1 + 1) M2)))) : L_X12_office_16 G d Q x1 M := by
  unfold L_X12_office_16
  refine tw_iload_n 1 d_X12_office_16 rfl rfl ?_
  refine tw_bipush d_X12_office_17 kb_110 ?_
  refine tw_icmp_ge 38 d_X12_office_19 (by decide) (fun z1 => ?_) (fun z1 => ?_)
  · replace h := h.1 z1
    refine tw_iconst d_X12_office_38 k_0 ?_
    refine tw_istore_n [(1, .int 0), (0, .ref (G.b + 147))] d_X12_office_39 rfl (Nat.le_of_ble_eq_true rfl) rfl ?_
    exact tw_lv [1, 0] rfl h
  · replace h := h.2 z1
    refine tw_aload_n 0 d_X12_office_22 rfl rfl ?_
    refine tw_getR f_X12_69 hL s_147 ⟨rfl, rfl⟩ (rr_X12_10 s_147) d_X12_office_23 ?_
    refine tw_bipush d_X12_office_26 kb_110 ?_
    refine tw_iload_n 1 d_X12_office_28 rfl rfl ?_
    refine tw_iadd d_X12_office_29 ?_
    refine tw_iconst d_X12_office_30 k_0 ?_
    refine tu_iast hL s_153 d_X12_office_31 h.1 (fun M2 e_M2 hL_M2 => ?_)
    replace h := h.2 M2 e_M2
    refine tw_iinc 1 [(1, .int (x1 + 1)), (0, .ref (G.b + 147))] d_X12_office_32 rfl rfl (Nat.le_of_ble_eq_true rfl) rfl ?_
    refine tw_goto 16 d_X12_office_35 (by decide) ?_
    exact tw_lv [1, 0] rfl h
theorem b_X12_office_40 {G : MG} {d : Nat} {Q : Int32 → Mm → Prop} {x1 : Int32} {M : Mm} {c : Nat} (hL : Lay c M)  (h : ((120 ≤ x1 → L_X12_office_62 G d Q  M) ∧ (¬ 120 ≤ x1 → (vp_in (120 + x1) 240 ∧ ∀ M2 : Mm, M2 = sI M 154 (120 + x1).toNatClampNeg 0 → L_X12_office_40 G d Q (x1 + 1) M2)))) : L_X12_office_40 G d Q x1 M := by
  unfold L_X12_office_40
  refine tw_iload_n 1 d_X12_office_40 rfl rfl ?_
  refine tw_bipush d_X12_office_41 kb_120 ?_
  refine tw_icmp_ge 62 d_X12_office_43 (by decide) (fun z1 => ?_) (fun z1 => ?_)
  · replace h := h.1 z1
    exact tw_lv [0] rfl h
  · replace h := h.2 z1
    refine tw_aload_n 0 d_X12_office_46 rfl rfl ?_
    refine tw_getR f_X12_72 hL s_147 ⟨rfl, rfl⟩ (rr_X12_11 s_147) d_X12_office_47 ?_
    refine tw_bipush d_X12_office_50 kb_120 ?_
    refine tw_iload_n 1 d_X12_office_52 rfl rfl ?_
    refine tw_iadd d_X12_office_53 ?_
    refine tw_iconst d_X12_office_54 k_0 ?_
    refine tu_iast hL s_154 d_X12_office_55 h.1 (fun M2 e_M2 hL_M2 => ?_)
    replace h := h.2 M2 e_M2
    refine tw_iinc 1 [(1, .int (x1 + 1)), (0, .ref (G.b + 147))] d_X12_office_56 rfl rfl (Nat.le_of_ble_eq_true rfl) rfl ?_
    refine tw_goto 40 d_X12_office_59 (by decide) ?_
    exact tw_lv [1, 0] rfl h
theorem b_X12_office_62 {G : MG} {d : Nat} {Q : Int32 → Mm → Prop}  {M : Mm} {c : Nat} (hL : Lay c M)  (h : ((¬ (M.1 147 8) = 0 → (((M.1 147 8) ≤ 0 → (C G Y_X12_carry d [.ref (G.b + 147), .int 1, .int 0] M (Rv fun M3 => M3.2.2 = M.2.2 ∧ L_X12_office_146 G d Q 0 M3))) ∧ (¬ (M.1 147 8) ≤ 0 → Q (M.1 147 8) M))) ∧ ((M.1 147 8) = 0 → (vp_in (M.1 147 7) 1002 ∧ (((M.1 149 (M.1 147 7).toNatClampNeg) = 0 → (((M.1 147 8) ≤ 0 → (C G Y_X12_carry d [.ref (G.b + 147), .int 1, .int 0] M (Rv fun M6 => M6.2.2 = M.2.2 ∧ L_X12_office_146 G d Q 0 M6))) ∧ (¬ (M.1 147 8) ≤ 0 → Q (M.1 147 8) M))) ∧ (¬ (M.1 149 (M.1 147 7).toNatClampNeg) = 0 → (C G Y_X12_isWord d [.ref (G.b + 147), .int 0] M (Ri fun r8 M7 => M7.2.2 = M.2.2 ∧ ((r8 = 0 → (C G Y_X12_isWord d [.ref (G.b + 147), .int 7] M7 (Ri fun r11 M10 => M10.2.2 = M7.2.2 ∧ ((r11 = 0 → (C G Y_X12_wrong d [.ref (G.b + 147), .int 1] M10 (Rv fun M13 => M13.2.2 = M10.2.2 ∧ (C G Y_X12_takeSign d [.ref (G.b + 147), .int 59] M13 (Rv fun M14 => M14.2.2 = M13.2.2 ∧ L_X12_office_62 G d Q  M14))))) ∧ (¬ r11 = 0 → (C G Y_X12_readMap d [.ref (G.b + 147)] M10 (Rv fun M15 => M15.2.2 = M10.2.2 ∧ (C G Y_X12_takeSign d [.ref (G.b + 147), .int 59] M15 (Rv fun M16 => M16.2.2 = M15.2.2 ∧ L_X12_office_62 G d Q  M16))))))))) ∧ (¬ r8 = 0 → (C G Y_X12_readArm d [.ref (G.b + 147)] M7 (Rv fun M17 => M17.2.2 = M7.2.2 ∧ (C G Y_X12_takeSign d [.ref (G.b + 147), .int 59] M17 (Rv fun M18 => M18.2.2 = M17.2.2 ∧ L_X12_office_62 G d Q  M18)))))))))))))) : L_X12_office_62 G d Q  M := by
  unfold L_X12_office_62
  refine tw_aload_n 0 d_X12_office_62 rfl rfl ?_
  refine tw_getI f_X12_120 hL s_147 (Or.inl rfl) d_X12_office_63 ?_
  refine tw_if_ne 126 d_X12_office_66 (by decide) (fun z1 => ?_) (fun z1 => ?_)
  · replace h := h.1 z1
    refine tw_aload_n 0 d_X12_office_126 rfl rfl ?_
    refine tw_getI f_X12_120 hL s_147 (Or.inl rfl) d_X12_office_127 ?_
    refine tw_if_le 138 d_X12_office_130 (by decide) (fun z2 => ?_) (fun z2 => ?_)
    · replace h := h.1 z2
      refine tw_aload_n 0 d_X12_office_138 rfl rfl ?_
      refine tw_iconst d_X12_office_139 k_1 ?_
      refine tw_iconst d_X12_office_140 k_0 ?_
      refine tu_cVv (As := [.int 1, .int 0]) cv_X12_162 hL s_147 rfl (Nat.le_of_ble_eq_true rfl) ⟨Nat.zero_le _, Nat.zero_le _⟩ d_X12_office_141 h (fun M3 h => ?_)
      have hL_M3 : Lay c M3 := hL.to h.1
      replace h := h.2
      refine tw_iconst d_X12_office_144 k_0 ?_
      refine tw_istore_n [(1, .int 0), (0, .ref (G.b + 147))] d_X12_office_145 rfl (Nat.le_of_ble_eq_true rfl) rfl ?_
      exact tw_lv [1, 0] rfl h
    · replace h := h.2 z2
      refine tw_aload_n 0 d_X12_office_133 rfl rfl ?_
      refine tw_getI f_X12_120 hL s_147 (Or.inl rfl) d_X12_office_134 ?_
      exact tw_iret rfl ⟨Nat.zero_le _, Nat.zero_le _⟩ d_X12_office_137 h
  · replace h := h.2 z1
    refine tw_aload_n 0 d_X12_office_69 rfl rfl ?_
    refine tw_getR f_X12_24 hL s_147 ⟨rfl, rfl⟩ (rr_X12_4 s_147) d_X12_office_70 ?_
    refine tw_aload_n 0 d_X12_office_73 rfl rfl ?_
    refine tw_getI f_X12_117 hL s_147 (Or.inl rfl) d_X12_office_74 ?_
    refine tw_iald hL s_149 d_X12_office_77 h.1 ?_
    replace h := h.2
    refine tw_if_eq 126 d_X12_office_78 (by decide) (fun z4 => ?_) (fun z4 => ?_)
    · replace h := h.1 z4
      refine tw_aload_n 0 d_X12_office_126 rfl rfl ?_
      refine tw_getI f_X12_120 hL s_147 (Or.inl rfl) d_X12_office_127 ?_
      refine tw_if_le 138 d_X12_office_130 (by decide) (fun z5 => ?_) (fun z5 => ?_)
      · replace h := h.1 z5
        refine tw_aload_n 0 d_X12_office_138 rfl rfl ?_
        refine tw_iconst d_X12_office_139 k_1 ?_
        refine tw_iconst d_X12_office_140 k_0 ?_
        refine tu_cVv (As := [.int 1, .int 0]) cv_X12_162 hL s_147 rfl (Nat.le_of_ble_eq_true rfl) ⟨Nat.zero_le _, Nat.zero_le _⟩ d_X12_office_141 h (fun M6 h => ?_)
        have hL_M6 : Lay c M6 := hL.to h.1
        replace h := h.2
        refine tw_iconst d_X12_office_144 k_0 ?_
        refine tw_istore_n [(1, .int 0), (0, .ref (G.b + 147))] d_X12_office_145 rfl (Nat.le_of_ble_eq_true rfl) rfl ?_
        exact tw_lv [1, 0] rfl h
      · replace h := h.2 z5
        refine tw_aload_n 0 d_X12_office_133 rfl rfl ?_
        refine tw_getI f_X12_120 hL s_147 (Or.inl rfl) d_X12_office_134 ?_
        exact tw_iret rfl ⟨Nat.zero_le _, Nat.zero_le _⟩ d_X12_office_137 h
    · replace h := h.2 z4
      refine tw_aload_n 0 d_X12_office_81 rfl rfl ?_
      refine tw_iconst d_X12_office_82 k_0 ?_
      refine tu_cVi (As := [.int 0]) cv_X12_130 hL s_147 rfl (Nat.le_of_ble_eq_true rfl) ⟨Nat.zero_le _, Nat.zero_le _⟩ d_X12_office_83 h (fun r8 M7 h => ?_)
      have hL_M7 : Lay c M7 := hL.to h.1
      replace h := h.2
      refine tw_if_eq 96 d_X12_office_86 (by decide) (fun z9 => ?_) (fun z9 => ?_)
      · replace h := h.1 z9
        refine tw_aload_n 0 d_X12_office_96 rfl rfl ?_
        refine tw_bipush d_X12_office_97 kb_7 ?_
        refine tu_cVi (As := [.int 7]) cv_X12_130 hL_M7 s_147 rfl (Nat.le_of_ble_eq_true rfl) ⟨Nat.zero_le _, Nat.zero_le _⟩ d_X12_office_99 h (fun r11 M10 h => ?_)
        have hL_M10 : Lay c M10 := hL_M7.to h.1
        replace h := h.2
        refine tw_if_eq 112 d_X12_office_102 (by decide) (fun z12 => ?_) (fun z12 => ?_)
        · replace h := h.1 z12
          refine tw_aload_n 0 d_X12_office_112 rfl rfl ?_
          refine tw_iconst d_X12_office_113 k_1 ?_
          refine tu_cVv (As := [.int 1]) cv_X12_126 hL_M10 s_147 rfl (Nat.le_of_ble_eq_true rfl) ⟨Nat.zero_le _, Nat.zero_le _⟩ d_X12_office_114 h (fun M13 h => ?_)
          have hL_M13 : Lay c M13 := hL_M10.to h.1
          replace h := h.2
          refine tw_aload_n 0 d_X12_office_117 rfl rfl ?_
          refine tw_bipush d_X12_office_118 kb_59 ?_
          refine tu_cVv (As := [.int 59]) cv_X12_159 hL_M13 s_147 rfl (Nat.le_of_ble_eq_true rfl) ⟨Nat.zero_le _, Nat.zero_le _⟩ d_X12_office_120 h (fun M14 h => ?_)
          have hL_M14 : Lay c M14 := hL_M13.to h.1
          replace h := h.2
          refine tw_goto 62 d_X12_office_123 (by decide) ?_
          exact tw_lv [0] rfl h
        · replace h := h.2 z12
          refine tw_aload_n 0 d_X12_office_105 rfl rfl ?_
          refine tu_cVv (As := []) cv_X12_156 hL_M10 s_147 rfl (Nat.le_of_ble_eq_true rfl) ⟨Nat.zero_le _, Nat.zero_le _⟩ d_X12_office_106 h (fun M15 h => ?_)
          have hL_M15 : Lay c M15 := hL_M10.to h.1
          replace h := h.2
          refine tw_goto 117 d_X12_office_109 (by decide) ?_
          refine tw_aload_n 0 d_X12_office_117 rfl rfl ?_
          refine tw_bipush d_X12_office_118 kb_59 ?_
          refine tu_cVv (As := [.int 59]) cv_X12_159 hL_M15 s_147 rfl (Nat.le_of_ble_eq_true rfl) ⟨Nat.zero_le _, Nat.zero_le _⟩ d_X12_office_120 h (fun M16 h => ?_)
          have hL_M16 : Lay c M16 := hL_M15.to h.1
          replace h := h.2
          refine tw_goto 62 d_X12_office_123 (by decide) ?_
          exact tw_lv [0] rfl h
      · replace h := h.2 z9
        refine tw_aload_n 0 d_X12_office_89 rfl rfl ?_
        refine tu_cVv (As := []) cv_X12_153 hL_M7 s_147 rfl (Nat.le_of_ble_eq_true rfl) ⟨Nat.zero_le _, Nat.zero_le _⟩ d_X12_office_90 h (fun M17 h => ?_)
        have hL_M17 : Lay c M17 := hL_M7.to h.1
        replace h := h.2
        refine tw_goto 117 d_X12_office_93 (by decide) ?_
        refine tw_aload_n 0 d_X12_office_117 rfl rfl ?_
        refine tw_bipush d_X12_office_118 kb_59 ?_
        refine tu_cVv (As := [.int 59]) cv_X12_159 hL_M17 s_147 rfl (Nat.le_of_ble_eq_true rfl) ⟨Nat.zero_le _, Nat.zero_le _⟩ d_X12_office_120 h (fun M18 h => ?_)
        have hL_M18 : Lay c M18 := hL_M17.to h.1
        replace h := h.2
        refine tw_goto 62 d_X12_office_123 (by decide) ?_
        exact tw_lv [0] rfl h
theorem b_X12_office_146 {G : MG} {d : Nat} {Q : Int32 → Mm → Prop} {x1 : Int32} {M : Mm} {c : Nat} (hL : Lay c M)  (h : ((120 ≤ x1 → L_X12_office_175 G d Q 0 M) ∧ (¬ 120 ≤ x1 → (vp_in (120 + x1) 240 ∧ (vp_in x1 240 ∧ ∀ M2 : Mm, M2 = sI M 154 x1.toNatClampNeg (M.1 154 (120 + x1).toNatClampNeg) → L_X12_office_146 G d Q (x1 + 1) M2))))) : L_X12_office_146 G d Q x1 M := by
  unfold L_X12_office_146
  refine tw_iload_n 1 d_X12_office_146 rfl rfl ?_
  refine tw_bipush d_X12_office_147 kb_120 ?_
  refine tw_icmp_ge 173 d_X12_office_149 (by decide) (fun z1 => ?_) (fun z1 => ?_)
  · replace h := h.1 z1
    refine tw_iconst d_X12_office_173 k_0 ?_
    refine tw_istore_n [(1, .int 0), (0, .ref (G.b + 147))] d_X12_office_174 rfl (Nat.le_of_ble_eq_true rfl) rfl ?_
    exact tw_lv [1, 0] rfl h
  · replace h := h.2 z1
    refine tw_aload_n 0 d_X12_office_152 rfl rfl ?_
    refine tw_getR f_X12_72 hL s_147 ⟨rfl, rfl⟩ (rr_X12_11 s_147) d_X12_office_153 ?_
    refine tw_iload_n 1 d_X12_office_156 rfl rfl ?_
    refine tw_aload_n 0 d_X12_office_157 rfl rfl ?_
    refine tw_getR f_X12_72 hL s_147 ⟨rfl, rfl⟩ (rr_X12_11 s_147) d_X12_office_158 ?_
    refine tw_bipush d_X12_office_161 kb_120 ?_
    refine tw_iload_n 1 d_X12_office_163 rfl rfl ?_
    refine tw_iadd d_X12_office_164 ?_
    refine tw_iald hL s_154 d_X12_office_165 h.1 ?_
    replace h := h.2
    refine tu_iast hL s_154 d_X12_office_166 h.1 (fun M2 e_M2 hL_M2 => ?_)
    replace h := h.2 M2 e_M2
    refine tw_iinc 1 [(1, .int (x1 + 1)), (0, .ref (G.b + 147))] d_X12_office_167 rfl rfl (Nat.le_of_ble_eq_true rfl) rfl ?_
    refine tw_goto 146 d_X12_office_170 (by decide) ?_
    exact tw_lv [1, 0] rfl h
theorem b_X12_office_175 {G : MG} {d : Nat} {Q : Int32 → Mm → Prop} {x1 : Int32} {M : Mm} {c : Nat} (hL : Lay c M)  (h : ((4 ≤ x1 → Q 0 M) ∧ (¬ 4 ≤ x1 → (vp_in x1 4 ∧ ∀ M2 : Mm, M2 = sI M 156 x1.toNatClampNeg (vp_nar .boolean 0) → L_X12_office_175 G d Q (x1 + 1) M2)))) : L_X12_office_175 G d Q x1 M := by
  unfold L_X12_office_175
  refine tw_iload_n 1 d_X12_office_175 rfl rfl ?_
  refine tw_iconst d_X12_office_176 k_4 ?_
  refine tw_icmp_ge 193 d_X12_office_177 (by decide) (fun z1 => ?_) (fun z1 => ?_)
  · replace h := h.1 z1
    refine tw_iconst d_X12_office_193 k_0 ?_
    exact tw_iret rfl ⟨Nat.zero_le _, Nat.zero_le _⟩ d_X12_office_194 h
  · replace h := h.2 z1
    refine tw_aload_n 0 d_X12_office_180 rfl rfl ?_
    refine tw_getR f_X12_78 hL s_147 ⟨rfl, rfl⟩ (rr_X12_14 s_147) d_X12_office_181 ?_
    refine tw_iload_n 1 d_X12_office_184 rfl rfl ?_
    refine tw_iconst d_X12_office_185 k_0 ?_
    refine tu_zast hL s_156 d_X12_office_186 h.1 (fun M2 e_M2 hL_M2 => ?_)
    replace h := h.2 M2 e_M2
    refine tw_iinc 1 [(1, .int (x1 + 1)), (0, .ref (G.b + 147))] d_X12_office_187 rfl rfl (Nat.le_of_ble_eq_true rfl) rfl ?_
    refine tw_goto 175 d_X12_office_190 (by decide) ?_
    exact tw_lv [1, 0] rfl h
theorem b_X12_office {G : MG} {d : Nat} {Q : Int32 → Mm → Prop}  {M : Mm} {c : Nat} (hL : Lay c M)  (h : (∀ M1 : Mm, M1 = sI M 147 0 0 → (C G Y_X12_cutAll d [.ref (G.b + 147)] M1 (Rv fun M2 => M2.2.2 = M1.2.2 ∧ (∀ M3 : Mm, M3 = sI M2 147 13 0 → L_X12_office_16 G d Q 0 M3))))) : C G Y_X12_office (d + 1) [.ref (G.b + 147)] M (Ri Q) := by
  refine C.of (by decide) (Nat.le_of_ble_eq_true rfl) (lv := [(0, .ref (G.b + 147))]) rfl ?_
  refine tw_aload_n 0 d_X12_office_0 rfl rfl ?_
  refine tw_iconst d_X12_office_1 k_0 ?_
  refine tu_putI f_X12_1 hL s_147 rfl rfl d_X12_office_2 (fun M1 e_M1 hL_M1 => ?_)
  replace h := h M1 e_M1
  refine tw_aload_n 0 d_X12_office_5 rfl rfl ?_
  refine tu_cVv (As := []) cv_X12_150 hL_M1 s_147 rfl (Nat.le_of_ble_eq_true rfl) ⟨Nat.zero_le _, Nat.zero_le _⟩ d_X12_office_6 h (fun M2 h => ?_)
  have hL_M2 : Lay c M2 := hL_M1.to h.1
  replace h := h.2
  refine tw_aload_n 0 d_X12_office_9 rfl rfl ?_
  refine tw_iconst d_X12_office_10 k_0 ?_
  refine tu_putI f_X12_147 hL_M2 s_147 rfl rfl d_X12_office_11 (fun M3 e_M3 hL_M3 => ?_)
  replace h := h M3 e_M3
  refine tw_iconst d_X12_office_14 k_0 ?_
  refine tw_istore_n [(1, .int 0), (0, .ref (G.b + 147))] d_X12_office_15 rfl (Nat.le_of_ble_eq_true rfl) rfl ?_
  exact tw_lv [1, 0] rfl h

theorem d_X12_readArm_0 : decode Y_X12_readArm.cc 0 = .ok (.aload_n 0, 1) := by decide +kernel
theorem d_X12_readArm_1 : decode Y_X12_readArm.cc 1 = .ok (.getfield 69, 3) := by decide +kernel
theorem d_X12_readArm_4 : decode Y_X12_readArm.cc 4 = .ok (.bipush 110, 2) := by decide +kernel
theorem d_X12_readArm_6 : decode Y_X12_readArm.cc 6 = .ok (.iaload, 1) := by decide +kernel
theorem d_X12_readArm_7 : decode Y_X12_readArm.cc 7 = .ok (.istore_n 1, 1) := by decide +kernel
theorem d_X12_readArm_8 : decode Y_X12_readArm.cc 8 = .ok (.iload_n 1, 1) := by decide +kernel
theorem d_X12_readArm_9 : decode Y_X12_readArm.cc 9 = .ok (.bipush 6, 2) := by decide +kernel
theorem d_X12_readArm_11 : decode Y_X12_readArm.cc 11 = .ok (.if_icmp .ne 9, 3) := by decide +kernel
theorem d_X12_readArm_14 : decode Y_X12_readArm.cc 14 = .ok (.aload_n 0, 1) := by decide +kernel
theorem d_X12_readArm_15 : decode Y_X12_readArm.cc 15 = .ok (.iconst 5, 1) := by decide +kernel
theorem d_X12_readArm_16 : decode Y_X12_readArm.cc 16 = .ok (.invokevirtual 126, 3) := by decide +kernel
theorem d_X12_readArm_19 : decode Y_X12_readArm.cc 19 = .ok (.return_, 1) := by decide +kernel
theorem d_X12_readArm_20 : decode Y_X12_readArm.cc 20 = .ok (.aload_n 0, 1) := by decide +kernel
theorem d_X12_readArm_21 : decode Y_X12_readArm.cc 21 = .ok (.invokevirtual 166, 3) := by decide +kernel
theorem d_X12_readArm_24 : decode Y_X12_readArm.cc 24 = .ok (.iconst (-1), 1) := by decide +kernel
theorem d_X12_readArm_25 : decode Y_X12_readArm.cc 25 = .ok (.istore_n 2, 1) := by decide +kernel
theorem d_X12_readArm_26 : decode Y_X12_readArm.cc 26 = .ok (.iconst 0, 1) := by decide +kernel
theorem d_X12_readArm_27 : decode Y_X12_readArm.cc 27 = .ok (.istore_n 3, 1) := by decide +kernel
theorem d_X12_readArm_28 : decode Y_X12_readArm.cc 28 = .ok (.iload_n 3, 1) := by decide +kernel
theorem d_X12_readArm_29 : decode Y_X12_readArm.cc 29 = .ok (.iconst 4, 1) := by decide +kernel
theorem d_X12_readArm_30 : decode Y_X12_readArm.cc 30 = .ok (.if_icmp .ge 26, 3) := by decide +kernel
theorem d_X12_readArm_33 : decode Y_X12_readArm.cc 33 = .ok (.aload_n 0, 1) := by decide +kernel
theorem d_X12_readArm_34 : decode Y_X12_readArm.cc 34 = .ok (.bipush 12, 2) := by decide +kernel
theorem d_X12_readArm_36 : decode Y_X12_readArm.cc 36 = .ok (.iload_n 3, 1) := by decide +kernel
theorem d_X12_readArm_37 : decode Y_X12_readArm.cc 37 = .ok (.iadd, 1) := by decide +kernel
theorem d_X12_readArm_38 : decode Y_X12_readArm.cc 38 = .ok (.invokevirtual 130, 3) := by decide +kernel
theorem d_X12_readArm_41 : decode Y_X12_readArm.cc 41 = .ok (.ifCond .eq 7, 3) := by decide +kernel
theorem d_X12_readArm_44 : decode Y_X12_readArm.cc 44 = .ok (.iload_n 3, 1) := by decide +kernel
theorem d_X12_readArm_45 : decode Y_X12_readArm.cc 45 = .ok (.goto 4, 3) := by decide +kernel
theorem d_X12_readArm_48 : decode Y_X12_readArm.cc 48 = .ok (.iload_n 2, 1) := by decide +kernel
theorem d_X12_readArm_49 : decode Y_X12_readArm.cc 49 = .ok (.istore_n 2, 1) := by decide +kernel
theorem d_X12_readArm_50 : decode Y_X12_readArm.cc 50 = .ok (.iinc 3 1, 3) := by decide +kernel
theorem d_X12_readArm_53 : decode Y_X12_readArm.cc 53 = .ok (.goto (-25), 3) := by decide +kernel
theorem d_X12_readArm_56 : decode Y_X12_readArm.cc 56 = .ok (.iload_n 2, 1) := by decide +kernel
theorem d_X12_readArm_57 : decode Y_X12_readArm.cc 57 = .ok (.ifCond .ge 9, 3) := by decide +kernel
theorem d_X12_readArm_60 : decode Y_X12_readArm.cc 60 = .ok (.aload_n 0, 1) := by decide +kernel
theorem d_X12_readArm_61 : decode Y_X12_readArm.cc 61 = .ok (.iconst 1, 1) := by decide +kernel
theorem d_X12_readArm_62 : decode Y_X12_readArm.cc 62 = .ok (.invokevirtual 126, 3) := by decide +kernel
theorem d_X12_readArm_65 : decode Y_X12_readArm.cc 65 = .ok (.return_, 1) := by decide +kernel
theorem d_X12_readArm_66 : decode Y_X12_readArm.cc 66 = .ok (.aload_n 0, 1) := by decide +kernel
theorem d_X12_readArm_67 : decode Y_X12_readArm.cc 67 = .ok (.dup, 1) := by decide +kernel
theorem d_X12_readArm_68 : decode Y_X12_readArm.cc 68 = .ok (.getfield 117, 3) := by decide +kernel
theorem d_X12_readArm_71 : decode Y_X12_readArm.cc 71 = .ok (.iconst 1, 1) := by decide +kernel
theorem d_X12_readArm_72 : decode Y_X12_readArm.cc 72 = .ok (.iadd, 1) := by decide +kernel
theorem d_X12_readArm_73 : decode Y_X12_readArm.cc 73 = .ok (.putfield 117, 3) := by decide +kernel
theorem d_X12_readArm_76 : decode Y_X12_readArm.cc 76 = .ok (.bipush 111, 2) := by decide +kernel
theorem d_X12_readArm_78 : decode Y_X12_readArm.cc 78 = .ok (.bipush 14, 2) := by decide +kernel
theorem d_X12_readArm_80 : decode Y_X12_readArm.cc 80 = .ok (.iload_n 1, 1) := by decide +kernel
theorem d_X12_readArm_81 : decode Y_X12_readArm.cc 81 = .ok (.imul, 1) := by decide +kernel
theorem d_X12_readArm_82 : decode Y_X12_readArm.cc 82 = .ok (.iadd, 1) := by decide +kernel
theorem d_X12_readArm_83 : decode Y_X12_readArm.cc 83 = .ok (.istore_n 3, 1) := by decide +kernel
theorem d_X12_readArm_84 : decode Y_X12_readArm.cc 84 = .ok (.aload_n 0, 1) := by decide +kernel
theorem d_X12_readArm_85 : decode Y_X12_readArm.cc 85 = .ok (.getfield 69, 3) := by decide +kernel
theorem d_X12_readArm_88 : decode Y_X12_readArm.cc 88 = .ok (.iload_n 3, 1) := by decide +kernel
theorem d_X12_readArm_89 : decode Y_X12_readArm.cc 89 = .ok (.iconst 0, 1) := by decide +kernel
theorem d_X12_readArm_90 : decode Y_X12_readArm.cc 90 = .ok (.iadd, 1) := by decide +kernel
theorem d_X12_readArm_91 : decode Y_X12_readArm.cc 91 = .ok (.iload_n 2, 1) := by decide +kernel
theorem d_X12_readArm_92 : decode Y_X12_readArm.cc 92 = .ok (.iastore, 1) := by decide +kernel
theorem d_X12_readArm_93 : decode Y_X12_readArm.cc 93 = .ok (.aload_n 0, 1) := by decide +kernel
theorem d_X12_readArm_94 : decode Y_X12_readArm.cc 94 = .ok (.iconst 1, 1) := by decide +kernel
theorem d_X12_readArm_95 : decode Y_X12_readArm.cc 95 = .ok (.invokevirtual 136, 3) := by decide +kernel
theorem d_X12_readArm_98 : decode Y_X12_readArm.cc 98 = .ok (.aload_n 0, 1) := by decide +kernel
theorem d_X12_readArm_99 : decode Y_X12_readArm.cc 99 = .ok (.iload_n 3, 1) := by decide +kernel
theorem d_X12_readArm_100 : decode Y_X12_readArm.cc 100 = .ok (.invokevirtual 169, 3) := by decide +kernel
theorem d_X12_readArm_103 : decode Y_X12_readArm.cc 103 = .ok (.aload_n 0, 1) := by decide +kernel
theorem d_X12_readArm_104 : decode Y_X12_readArm.cc 104 = .ok (.iload_n 3, 1) := by decide +kernel
theorem d_X12_readArm_105 : decode Y_X12_readArm.cc 105 = .ok (.invokevirtual 169, 3) := by decide +kernel
theorem d_X12_readArm_108 : decode Y_X12_readArm.cc 108 = .ok (.aload_n 0, 1) := by decide +kernel
theorem d_X12_readArm_109 : decode Y_X12_readArm.cc 109 = .ok (.getfield 120, 3) := by decide +kernel
theorem d_X12_readArm_112 : decode Y_X12_readArm.cc 112 = .ok (.ifCond .ne 24, 3) := by decide +kernel
theorem d_X12_readArm_115 : decode Y_X12_readArm.cc 115 = .ok (.aload_n 0, 1) := by decide +kernel
theorem d_X12_readArm_116 : decode Y_X12_readArm.cc 116 = .ok (.getfield 24, 3) := by decide +kernel
theorem d_X12_readArm_119 : decode Y_X12_readArm.cc 119 = .ok (.aload_n 0, 1) := by decide +kernel
theorem d_X12_readArm_120 : decode Y_X12_readArm.cc 120 = .ok (.getfield 117, 3) := by decide +kernel
theorem d_X12_readArm_123 : decode Y_X12_readArm.cc 123 = .ok (.iaload, 1) := by decide +kernel
theorem d_X12_readArm_124 : decode Y_X12_readArm.cc 124 = .ok (.iconst 2, 1) := by decide +kernel
theorem d_X12_readArm_125 : decode Y_X12_readArm.cc 125 = .ok (.if_icmp .ne 11, 3) := by decide +kernel
theorem d_X12_readArm_128 : decode Y_X12_readArm.cc 128 = .ok (.aload_n 0, 1) := by decide +kernel
theorem d_X12_readArm_129 : decode Y_X12_readArm.cc 129 = .ok (.iload_n 3, 1) := by decide +kernel
theorem d_X12_readArm_130 : decode Y_X12_readArm.cc 130 = .ok (.invokevirtual 169, 3) := by decide +kernel
theorem d_X12_readArm_133 : decode Y_X12_readArm.cc 133 = .ok (.goto (-25), 3) := by decide +kernel
theorem d_X12_readArm_136 : decode Y_X12_readArm.cc 136 = .ok (.aload_n 0, 1) := by decide +kernel
theorem d_X12_readArm_137 : decode Y_X12_readArm.cc 137 = .ok (.getfield 69, 3) := by decide +kernel
theorem d_X12_readArm_140 : decode Y_X12_readArm.cc 140 = .ok (.iload_n 3, 1) := by decide +kernel
theorem d_X12_readArm_141 : decode Y_X12_readArm.cc 141 = .ok (.bipush 6, 2) := by decide +kernel
theorem d_X12_readArm_143 : decode Y_X12_readArm.cc 143 = .ok (.iadd, 1) := by decide +kernel
theorem d_X12_readArm_144 : decode Y_X12_readArm.cc 144 = .ok (.aload_n 0, 1) := by decide +kernel
theorem d_X12_readArm_145 : decode Y_X12_readArm.cc 145 = .ok (.getfield 69, 3) := by decide +kernel
theorem d_X12_readArm_148 : decode Y_X12_readArm.cc 148 = .ok (.iload_n 3, 1) := by decide +kernel
theorem d_X12_readArm_149 : decode Y_X12_readArm.cc 149 = .ok (.iconst 2, 1) := by decide +kernel
theorem d_X12_readArm_150 : decode Y_X12_readArm.cc 150 = .ok (.iadd, 1) := by decide +kernel
theorem d_X12_readArm_151 : decode Y_X12_readArm.cc 151 = .ok (.iaload, 1) := by decide +kernel
theorem d_X12_readArm_152 : decode Y_X12_readArm.cc 152 = .ok (.iastore, 1) := by decide +kernel
theorem d_X12_readArm_153 : decode Y_X12_readArm.cc 153 = .ok (.aload_n 0, 1) := by decide +kernel
theorem d_X12_readArm_154 : decode Y_X12_readArm.cc 154 = .ok (.getfield 69, 3) := by decide +kernel
theorem d_X12_readArm_157 : decode Y_X12_readArm.cc 157 = .ok (.iload_n 3, 1) := by decide +kernel
theorem d_X12_readArm_158 : decode Y_X12_readArm.cc 158 = .ok (.bipush 7, 2) := by decide +kernel
theorem d_X12_readArm_160 : decode Y_X12_readArm.cc 160 = .ok (.iadd, 1) := by decide +kernel
theorem d_X12_readArm_161 : decode Y_X12_readArm.cc 161 = .ok (.aload_n 0, 1) := by decide +kernel
theorem d_X12_readArm_162 : decode Y_X12_readArm.cc 162 = .ok (.getfield 69, 3) := by decide +kernel
theorem d_X12_readArm_165 : decode Y_X12_readArm.cc 165 = .ok (.iload_n 3, 1) := by decide +kernel
theorem d_X12_readArm_166 : decode Y_X12_readArm.cc 166 = .ok (.iconst 2, 1) := by decide +kernel
theorem d_X12_readArm_167 : decode Y_X12_readArm.cc 167 = .ok (.iadd, 1) := by decide +kernel
theorem d_X12_readArm_168 : decode Y_X12_readArm.cc 168 = .ok (.iconst 1, 1) := by decide +kernel
theorem d_X12_readArm_169 : decode Y_X12_readArm.cc 169 = .ok (.iadd, 1) := by decide +kernel
theorem d_X12_readArm_170 : decode Y_X12_readArm.cc 170 = .ok (.iaload, 1) := by decide +kernel
theorem d_X12_readArm_171 : decode Y_X12_readArm.cc 171 = .ok (.iastore, 1) := by decide +kernel
theorem d_X12_readArm_172 : decode Y_X12_readArm.cc 172 = .ok (.aload_n 0, 1) := by decide +kernel
theorem d_X12_readArm_173 : decode Y_X12_readArm.cc 173 = .ok (.getfield 69, 3) := by decide +kernel
theorem d_X12_readArm_176 : decode Y_X12_readArm.cc 176 = .ok (.iload_n 3, 1) := by decide +kernel
theorem d_X12_readArm_177 : decode Y_X12_readArm.cc 177 = .ok (.bipush 8, 2) := by decide +kernel
theorem d_X12_readArm_179 : decode Y_X12_readArm.cc 179 = .ok (.iadd, 1) := by decide +kernel
theorem d_X12_readArm_180 : decode Y_X12_readArm.cc 180 = .ok (.aload_n 0, 1) := by decide +kernel
theorem d_X12_readArm_181 : decode Y_X12_readArm.cc 181 = .ok (.iconst 2, 1) := by decide +kernel
theorem d_X12_readArm_182 : decode Y_X12_readArm.cc 182 = .ok (.iconst 0, 1) := by decide +kernel
theorem d_X12_readArm_183 : decode Y_X12_readArm.cc 183 = .ok (.iconst 3, 1) := by decide +kernel
theorem d_X12_readArm_184 : decode Y_X12_readArm.cc 184 = .ok (.invokevirtual 172, 3) := by decide +kernel
theorem d_X12_readArm_187 : decode Y_X12_readArm.cc 187 = .ok (.iastore, 1) := by decide +kernel
theorem d_X12_readArm_188 : decode Y_X12_readArm.cc 188 = .ok (.aload_n 0, 1) := by decide +kernel
theorem d_X12_readArm_189 : decode Y_X12_readArm.cc 189 = .ok (.getfield 69, 3) := by decide +kernel
theorem d_X12_readArm_192 : decode Y_X12_readArm.cc 192 = .ok (.iload_n 3, 1) := by decide +kernel
theorem d_X12_readArm_193 : decode Y_X12_readArm.cc 193 = .ok (.bipush 9, 2) := by decide +kernel
theorem d_X12_readArm_195 : decode Y_X12_readArm.cc 195 = .ok (.iadd, 1) := by decide +kernel
theorem d_X12_readArm_196 : decode Y_X12_readArm.cc 196 = .ok (.aload_n 0, 1) := by decide +kernel
theorem d_X12_readArm_197 : decode Y_X12_readArm.cc 197 = .ok (.iconst 3, 1) := by decide +kernel
theorem d_X12_readArm_198 : decode Y_X12_readArm.cc 198 = .ok (.iconst 0, 1) := by decide +kernel
theorem d_X12_readArm_199 : decode Y_X12_readArm.cc 199 = .ok (.bipush 99, 2) := by decide +kernel
theorem d_X12_readArm_201 : decode Y_X12_readArm.cc 201 = .ok (.invokevirtual 172, 3) := by decide +kernel
theorem d_X12_readArm_204 : decode Y_X12_readArm.cc 204 = .ok (.iastore, 1) := by decide +kernel
theorem d_X12_readArm_205 : decode Y_X12_readArm.cc 205 = .ok (.aload_n 0, 1) := by decide +kernel
theorem d_X12_readArm_206 : decode Y_X12_readArm.cc 206 = .ok (.getfield 69, 3) := by decide +kernel
theorem d_X12_readArm_209 : decode Y_X12_readArm.cc 209 = .ok (.iload_n 3, 1) := by decide +kernel
theorem d_X12_readArm_210 : decode Y_X12_readArm.cc 210 = .ok (.bipush 10, 2) := by decide +kernel
theorem d_X12_readArm_212 : decode Y_X12_readArm.cc 212 = .ok (.iadd, 1) := by decide +kernel
theorem d_X12_readArm_213 : decode Y_X12_readArm.cc 213 = .ok (.aload_n 0, 1) := by decide +kernel
theorem d_X12_readArm_214 : decode Y_X12_readArm.cc 214 = .ok (.iconst 0, 1) := by decide +kernel
theorem d_X12_readArm_215 : decode Y_X12_readArm.cc 215 = .ok (.bipush 99, 2) := by decide +kernel
theorem d_X12_readArm_217 : decode Y_X12_readArm.cc 217 = .ok (.invokevirtual 139, 3) := by decide +kernel
theorem d_X12_readArm_220 : decode Y_X12_readArm.cc 220 = .ok (.iastore, 1) := by decide +kernel
theorem d_X12_readArm_221 : decode Y_X12_readArm.cc 221 = .ok (.aload_n 0, 1) := by decide +kernel
theorem d_X12_readArm_222 : decode Y_X12_readArm.cc 222 = .ok (.getfield 69, 3) := by decide +kernel
theorem d_X12_readArm_225 : decode Y_X12_readArm.cc 225 = .ok (.iload_n 3, 1) := by decide +kernel
theorem d_X12_readArm_226 : decode Y_X12_readArm.cc 226 = .ok (.bipush 11, 2) := by decide +kernel
theorem d_X12_readArm_228 : decode Y_X12_readArm.cc 228 = .ok (.iadd, 1) := by decide +kernel
theorem d_X12_readArm_229 : decode Y_X12_readArm.cc 229 = .ok (.aload_n 0, 1) := by decide +kernel
theorem d_X12_readArm_230 : decode Y_X12_readArm.cc 230 = .ok (.iconst 4, 1) := by decide +kernel
theorem d_X12_readArm_231 : decode Y_X12_readArm.cc 231 = .ok (.iconst 1, 1) := by decide +kernel
theorem d_X12_readArm_232 : decode Y_X12_readArm.cc 232 = .ok (.sipush 200, 3) := by decide +kernel
theorem d_X12_readArm_235 : decode Y_X12_readArm.cc 235 = .ok (.invokevirtual 172, 3) := by decide +kernel
theorem d_X12_readArm_238 : decode Y_X12_readArm.cc 238 = .ok (.iastore, 1) := by decide +kernel
theorem d_X12_readArm_239 : decode Y_X12_readArm.cc 239 = .ok (.aload_n 0, 1) := by decide +kernel
theorem d_X12_readArm_240 : decode Y_X12_readArm.cc 240 = .ok (.getfield 69, 3) := by decide +kernel
theorem d_X12_readArm_243 : decode Y_X12_readArm.cc 243 = .ok (.iload_n 3, 1) := by decide +kernel
theorem d_X12_readArm_244 : decode Y_X12_readArm.cc 244 = .ok (.bipush 12, 2) := by decide +kernel
theorem d_X12_readArm_246 : decode Y_X12_readArm.cc 246 = .ok (.iadd, 1) := by decide +kernel
theorem d_X12_readArm_247 : decode Y_X12_readArm.cc 247 = .ok (.aload_n 0, 1) := by decide +kernel
theorem d_X12_readArm_248 : decode Y_X12_readArm.cc 248 = .ok (.iconst 5, 1) := by decide +kernel
theorem d_X12_readArm_249 : decode Y_X12_readArm.cc 249 = .ok (.iconst 0, 1) := by decide +kernel
theorem d_X12_readArm_250 : decode Y_X12_readArm.cc 250 = .ok (.bipush 9, 2) := by decide +kernel
theorem d_X12_readArm_252 : decode Y_X12_readArm.cc 252 = .ok (.invokevirtual 172, 3) := by decide +kernel
theorem d_X12_readArm_255 : decode Y_X12_readArm.cc 255 = .ok (.iastore, 1) := by decide +kernel
theorem d_X12_readArm_256 : decode Y_X12_readArm.cc 256 = .ok (.aload_n 0, 1) := by decide +kernel
theorem d_X12_readArm_257 : decode Y_X12_readArm.cc 257 = .ok (.bipush 6, 2) := by decide +kernel
theorem d_X12_readArm_259 : decode Y_X12_readArm.cc 259 = .ok (.invokevirtual 133, 3) := by decide +kernel
theorem d_X12_readArm_262 : decode Y_X12_readArm.cc 262 = .ok (.ifCond .eq 19, 3) := by decide +kernel
theorem d_X12_readArm_265 : decode Y_X12_readArm.cc 265 = .ok (.aload_n 0, 1) := by decide +kernel
theorem d_X12_readArm_266 : decode Y_X12_readArm.cc 266 = .ok (.getfield 69, 3) := by decide +kernel
theorem d_X12_readArm_269 : decode Y_X12_readArm.cc 269 = .ok (.iload_n 3, 1) := by decide +kernel
theorem d_X12_readArm_270 : decode Y_X12_readArm.cc 270 = .ok (.bipush 13, 2) := by decide +kernel
theorem d_X12_readArm_272 : decode Y_X12_readArm.cc 272 = .ok (.iadd, 1) := by decide +kernel
theorem d_X12_readArm_273 : decode Y_X12_readArm.cc 273 = .ok (.aload_n 0, 1) := by decide +kernel
theorem d_X12_readArm_274 : decode Y_X12_readArm.cc 274 = .ok (.iconst 0, 1) := by decide +kernel
theorem d_X12_readArm_275 : decode Y_X12_readArm.cc 275 = .ok (.bipush 9, 2) := by decide +kernel
theorem d_X12_readArm_277 : decode Y_X12_readArm.cc 277 = .ok (.invokevirtual 139, 3) := by decide +kernel
theorem d_X12_readArm_280 : decode Y_X12_readArm.cc 280 = .ok (.iastore, 1) := by decide +kernel
theorem d_X12_readArm_281 : decode Y_X12_readArm.cc 281 = .ok (.aload_n 0, 1) := by decide +kernel
theorem d_X12_readArm_282 : decode Y_X12_readArm.cc 282 = .ok (.getfield 69, 3) := by decide +kernel
theorem d_X12_readArm_285 : decode Y_X12_readArm.cc 285 = .ok (.bipush 110, 2) := by decide +kernel
theorem d_X12_readArm_287 : decode Y_X12_readArm.cc 287 = .ok (.dup2, 1) := by decide +kernel
theorem d_X12_readArm_288 : decode Y_X12_readArm.cc 288 = .ok (.iaload, 1) := by decide +kernel
theorem d_X12_readArm_289 : decode Y_X12_readArm.cc 289 = .ok (.iconst 1, 1) := by decide +kernel
theorem d_X12_readArm_290 : decode Y_X12_readArm.cc 290 = .ok (.iadd, 1) := by decide +kernel
theorem d_X12_readArm_291 : decode Y_X12_readArm.cc 291 = .ok (.iastore, 1) := by decide +kernel
theorem d_X12_readArm_292 : decode Y_X12_readArm.cc 292 = .ok (.return_, 1) := by decide +kernel
def L_X12_readArm_28 (G : MG) (d : Nat) (Q : Mm → Prop) (x1 : Int32) (x2 : Int32) (x3 : Int32) (M : Mm) : Prop := T G Y_X12_readArm (d + 1) (Rv Q) 0 0 28 [(0, .ref (G.b + 147)), (1, .int x1), (2, .int x2), (3, .int x3)] [] M
def L_X12_readArm_108 (G : MG) (d : Nat) (Q : Mm → Prop) (x3 : Int32) (M : Mm) : Prop := T G Y_X12_readArm (d + 1) (Rv Q) 0 0 108 [(0, .ref (G.b + 147)), (3, .int x3)] [] M
def L_X12_readArm_136 (G : MG) (d : Nat) (Q : Mm → Prop) (x3 : Int32) (M : Mm) : Prop := T G Y_X12_readArm (d + 1) (Rv Q) 0 0 136 [(0, .ref (G.b + 147)), (3, .int x3)] [] M
theorem b_X12_readArm_28 {G : MG} {d : Nat} {Q : Mm → Prop} {x1 : Int32} {x2 : Int32} {x3 : Int32} {M : Mm} {c : Nat} (hL : Lay c M)  (h : ((4 ≤ x3 → ((0 ≤ x2 → (∀ M3 : Mm, M3 = sI M 147 7 ((M.1 147 7) + 1) → (vp_in ((111 + (14 * x1)) + 0) 660 ∧ ∀ M4 : Mm, M4 = sI M3 153 ((111 + (14 * x1)) + 0).toNatClampNeg x2 → (C G Y_X12_takeWord d [.ref (G.b + 147), .int 1] M4 (Rv fun M5 => M5.2.2 = M4.2.2 ∧ (C G Y_X12_takeHole d [.ref (G.b + 147), .int (111 + (14 * x1))] M5 (Rv fun M6 => M6.2.2 = M5.2.2 ∧ (C G Y_X12_takeHole d [.ref (G.b + 147), .int (111 + (14 * x1))] M6 (Rv fun M7 => M7.2.2 = M6.2.2 ∧ L_X12_readArm_108 G d Q (111 + (14 * x1)) M7))))))))) ∧ (¬ 0 ≤ x2 → (C G Y_X12_wrong d [.ref (G.b + 147), .int 1] M (Rv fun M8 => M8.2.2 = M.2.2 ∧ Q M8))))) ∧ (¬ 4 ≤ x3 → (C G Y_X12_isWord d [.ref (G.b + 147), .int (12 + x3)] M (Ri fun r10 M9 => M9.2.2 = M.2.2 ∧ ((r10 = 0 → L_X12_readArm_28 G d Q x1 x2 (x3 + 1) M9) ∧ (¬ r10 = 0 → L_X12_readArm_28 G d Q x1 x3 (x3 + 1) M9))))))) : L_X12_readArm_28 G d Q x1 x2 x3 M := by
  unfold L_X12_readArm_28
  refine tw_iload_n 3 d_X12_readArm_28 rfl rfl ?_
  refine tw_iconst d_X12_readArm_29 k_4 ?_
  refine tw_icmp_ge 56 d_X12_readArm_30 (by decide) (fun z1 => ?_) (fun z1 => ?_)
  · replace h := h.1 z1
    refine tw_iload_n 2 d_X12_readArm_56 rfl rfl ?_
    refine tw_if_ge 66 d_X12_readArm_57 (by decide) (fun z2 => ?_) (fun z2 => ?_)
    · replace h := h.1 z2
      refine tw_aload_n 0 d_X12_readArm_66 rfl rfl ?_
      refine tw_dup d_X12_readArm_67 rfl ?_
      refine tw_getI f_X12_117 hL s_147 (Or.inl rfl) d_X12_readArm_68 ?_
      refine tw_iconst d_X12_readArm_71 k_1 ?_
      refine tw_iadd d_X12_readArm_72 ?_
      refine tu_putI f_X12_117 hL s_147 rfl rfl d_X12_readArm_73 (fun M3 e_M3 hL_M3 => ?_)
      replace h := h M3 e_M3
      refine tw_bipush d_X12_readArm_76 kb_111 ?_
      refine tw_bipush d_X12_readArm_78 kb_14 ?_
      refine tw_iload_n 1 d_X12_readArm_80 rfl rfl ?_
      refine tw_imul d_X12_readArm_81 ?_
      refine tw_iadd d_X12_readArm_82 ?_
      refine tw_istore_n [(3, .int (111 + (14 * x1))), (0, .ref (G.b + 147)), (1, .int x1), (2, .int x2)] d_X12_readArm_83 rfl (Nat.le_of_ble_eq_true rfl) rfl ?_
      refine tw_aload_n 1 d_X12_readArm_84 rfl rfl ?_
      refine tw_getR f_X12_69 hL_M3 s_147 ⟨rfl, rfl⟩ (rr_X12_10 s_147) d_X12_readArm_85 ?_
      refine tw_iload_n 0 d_X12_readArm_88 rfl rfl ?_
      refine tw_iconst d_X12_readArm_89 k_0 ?_
      refine tw_iadd d_X12_readArm_90 ?_
      refine tw_iload_n 3 d_X12_readArm_91 rfl rfl ?_
      refine tu_iast hL_M3 s_153 d_X12_readArm_92 h.1 (fun M4 e_M4 hL_M4 => ?_)
      replace h := h.2 M4 e_M4
      refine tw_aload_n 1 d_X12_readArm_93 rfl rfl ?_
      refine tw_iconst d_X12_readArm_94 k_1 ?_
      refine tu_cVv (As := [.int 1]) cv_X12_136 hL_M4 s_147 rfl (Nat.le_of_ble_eq_true rfl) ⟨Nat.zero_le _, Nat.zero_le _⟩ d_X12_readArm_95 h (fun M5 h => ?_)
      have hL_M5 : Lay c M5 := hL_M4.to h.1
      replace h := h.2
      refine tw_aload_n 1 d_X12_readArm_98 rfl rfl ?_
      refine tw_iload_n 0 d_X12_readArm_99 rfl rfl ?_
      refine tu_cVv (As := [.int (111 + (14 * x1))]) cv_X12_169 hL_M5 s_147 rfl (Nat.le_of_ble_eq_true rfl) ⟨Nat.zero_le _, Nat.zero_le _⟩ d_X12_readArm_100 h (fun M6 h => ?_)
      have hL_M6 : Lay c M6 := hL_M5.to h.1
      replace h := h.2
      refine tw_aload_n 1 d_X12_readArm_103 rfl rfl ?_
      refine tw_iload_n 0 d_X12_readArm_104 rfl rfl ?_
      refine tu_cVv (As := [.int (111 + (14 * x1))]) cv_X12_169 hL_M6 s_147 rfl (Nat.le_of_ble_eq_true rfl) ⟨Nat.zero_le _, Nat.zero_le _⟩ d_X12_readArm_105 h (fun M7 h => ?_)
      have hL_M7 : Lay c M7 := hL_M6.to h.1
      replace h := h.2
      exact tw_lv [1, 0] rfl h
    · replace h := h.2 z2
      refine tw_aload_n 0 d_X12_readArm_60 rfl rfl ?_
      refine tw_iconst d_X12_readArm_61 k_1 ?_
      refine tu_cVv (As := [.int 1]) cv_X12_126 hL s_147 rfl (Nat.le_of_ble_eq_true rfl) ⟨Nat.zero_le _, Nat.zero_le _⟩ d_X12_readArm_62 h (fun M8 h => ?_)
      have hL_M8 : Lay c M8 := hL.to h.1
      replace h := h.2
      exact tw_vret rfl ⟨Nat.zero_le _, Nat.zero_le _⟩ d_X12_readArm_65 h
  · replace h := h.2 z1
    refine tw_aload_n 0 d_X12_readArm_33 rfl rfl ?_
    refine tw_bipush d_X12_readArm_34 kb_12 ?_
    refine tw_iload_n 3 d_X12_readArm_36 rfl rfl ?_
    refine tw_iadd d_X12_readArm_37 ?_
    refine tu_cVi (As := [.int (12 + x3)]) cv_X12_130 hL s_147 rfl (Nat.le_of_ble_eq_true rfl) ⟨Nat.zero_le _, Nat.zero_le _⟩ d_X12_readArm_38 h (fun r10 M9 h => ?_)
    have hL_M9 : Lay c M9 := hL.to h.1
    replace h := h.2
    refine tw_if_eq 48 d_X12_readArm_41 (by decide) (fun z11 => ?_) (fun z11 => ?_)
    · replace h := h.1 z11
      refine tw_iload_n 2 d_X12_readArm_48 rfl rfl ?_
      refine tw_istore_n [(2, .int x2), (0, .ref (G.b + 147)), (1, .int x1), (3, .int x3)] d_X12_readArm_49 rfl (Nat.le_of_ble_eq_true rfl) rfl ?_
      refine tw_iinc 3 [(3, .int (x3 + 1)), (2, .int x2), (0, .ref (G.b + 147)), (1, .int x1)] d_X12_readArm_50 rfl rfl (Nat.le_of_ble_eq_true rfl) rfl ?_
      refine tw_goto 28 d_X12_readArm_53 (by decide) ?_
      exact tw_lv [2, 3, 1, 0] rfl h
    · replace h := h.2 z11
      refine tw_iload_n 3 d_X12_readArm_44 rfl rfl ?_
      refine tw_goto 49 d_X12_readArm_45 (by decide) ?_
      refine tw_istore_n [(2, .int x3), (0, .ref (G.b + 147)), (1, .int x1), (3, .int x3)] d_X12_readArm_49 rfl (Nat.le_of_ble_eq_true rfl) rfl ?_
      refine tw_iinc 3 [(3, .int (x3 + 1)), (2, .int x3), (0, .ref (G.b + 147)), (1, .int x1)] d_X12_readArm_50 rfl rfl (Nat.le_of_ble_eq_true rfl) rfl ?_
      refine tw_goto 28 d_X12_readArm_53 (by decide) ?_
      exact tw_lv [2, 3, 1, 0] rfl h
theorem b_X12_readArm_108 {G : MG} {d : Nat} {Q : Mm → Prop} {x3 : Int32} {M : Mm} {c : Nat} (hL : Lay c M)  (h : ((¬ (M.1 147 8) = 0 → L_X12_readArm_136 G d Q x3 M) ∧ ((M.1 147 8) = 0 → (vp_in (M.1 147 7) 1002 ∧ ((¬ (M.1 149 (M.1 147 7).toNatClampNeg) = 2 → L_X12_readArm_136 G d Q x3 M) ∧ ((M.1 149 (M.1 147 7).toNatClampNeg) = 2 → (C G Y_X12_takeHole d [.ref (G.b + 147), .int x3] M (Rv fun M3 => M3.2.2 = M.2.2 ∧ L_X12_readArm_108 G d Q x3 M3)))))))) : L_X12_readArm_108 G d Q x3 M := by
  unfold L_X12_readArm_108
  refine tw_aload_n 0 d_X12_readArm_108 rfl rfl ?_
  refine tw_getI f_X12_120 hL s_147 (Or.inl rfl) d_X12_readArm_109 ?_
  refine tw_if_ne 136 d_X12_readArm_112 (by decide) (fun z1 => ?_) (fun z1 => ?_)
  · replace h := h.1 z1
    exact tw_lv [0, 1] rfl h
  · replace h := h.2 z1
    refine tw_aload_n 0 d_X12_readArm_115 rfl rfl ?_
    refine tw_getR f_X12_24 hL s_147 ⟨rfl, rfl⟩ (rr_X12_4 s_147) d_X12_readArm_116 ?_
    refine tw_aload_n 0 d_X12_readArm_119 rfl rfl ?_
    refine tw_getI f_X12_117 hL s_147 (Or.inl rfl) d_X12_readArm_120 ?_
    refine tw_iald hL s_149 d_X12_readArm_123 h.1 ?_
    replace h := h.2
    refine tw_iconst d_X12_readArm_124 k_2 ?_
    refine tw_icmp_ne 136 d_X12_readArm_125 (by decide) (fun z2 => ?_) (fun z2 => ?_)
    · replace h := h.1 z2
      exact tw_lv [0, 1] rfl h
    · replace h := h.2 z2
      refine tw_aload_n 0 d_X12_readArm_128 rfl rfl ?_
      refine tw_iload_n 1 d_X12_readArm_129 rfl rfl ?_
      refine tu_cVv (As := [.int x3]) cv_X12_169 hL s_147 rfl (Nat.le_of_ble_eq_true rfl) ⟨Nat.zero_le _, Nat.zero_le _⟩ d_X12_readArm_130 h (fun M3 h => ?_)
      have hL_M3 : Lay c M3 := hL.to h.1
      replace h := h.2
      refine tw_goto 108 d_X12_readArm_133 (by decide) ?_
      exact tw_lv [0, 1] rfl h
theorem b_X12_readArm_136 {G : MG} {d : Nat} {Q : Mm → Prop} {x3 : Int32} {M : Mm} {c : Nat} (hL : Lay c M)  (h : (vp_in (x3 + 2) 660 ∧ (vp_in (x3 + 6) 660 ∧ ∀ M1 : Mm, M1 = sI M 153 (x3 + 6).toNatClampNeg (M.1 153 (x3 + 2).toNatClampNeg) → (vp_in ((x3 + 2) + 1) 660 ∧ (vp_in (x3 + 7) 660 ∧ ∀ M2 : Mm, M2 = sI M1 153 (x3 + 7).toNatClampNeg (M1.1 153 ((x3 + 2) + 1).toNatClampNeg) → (C G Y_X12_takeAfter d [.ref (G.b + 147), .int 2, .int 0, .int 3] M2 (Ri fun r4 M3 => M3.2.2 = M2.2.2 ∧ (vp_in (x3 + 8) 660 ∧ ∀ M5 : Mm, M5 = sI M3 153 (x3 + 8).toNatClampNeg r4 → (C G Y_X12_takeAfter d [.ref (G.b + 147), .int 3, .int 0, .int 99] M5 (Ri fun r7 M6 => M6.2.2 = M5.2.2 ∧ (vp_in (x3 + 9) 660 ∧ ∀ M8 : Mm, M8 = sI M6 153 (x3 + 9).toNatClampNeg r7 → (C G Y_X12_takeNumber d [.ref (G.b + 147), .int 0, .int 99] M8 (Ri fun r10 M9 => M9.2.2 = M8.2.2 ∧ (vp_in (x3 + 10) 660 ∧ ∀ M11 : Mm, M11 = sI M9 153 (x3 + 10).toNatClampNeg r10 → (C G Y_X12_takeAfter d [.ref (G.b + 147), .int 4, .int 1, .int 200] M11 (Ri fun r13 M12 => M12.2.2 = M11.2.2 ∧ (vp_in (x3 + 11) 660 ∧ ∀ M14 : Mm, M14 = sI M12 153 (x3 + 11).toNatClampNeg r13 → (C G Y_X12_takeAfter d [.ref (G.b + 147), .int 5, .int 0, .int 9] M14 (Ri fun r16 M15 => M15.2.2 = M14.2.2 ∧ (vp_in (x3 + 12) 660 ∧ ∀ M17 : Mm, M17 = sI M15 153 (x3 + 12).toNatClampNeg r16 → (C G Y_X12_hasWord d [.ref (G.b + 147), .int 6] M17 (Ri fun r19 M18 => M18.2.2 = M17.2.2 ∧ ((r19 = 0 → (∀ M21 : Mm, M21 = sI M18 153 (Int32.toNatClampNeg 110) ((M18.1 153 (Int32.toNatClampNeg 110)) + 1) → Q M21)) ∧ (¬ r19 = 0 → (C G Y_X12_takeNumber d [.ref (G.b + 147), .int 0, .int 9] M18 (Ri fun r23 M22 => M22.2.2 = M18.2.2 ∧ (vp_in (x3 + 13) 660 ∧ ∀ M24 : Mm, M24 = sI M22 153 (x3 + 13).toNatClampNeg r23 → (∀ M25 : Mm, M25 = sI M24 153 (Int32.toNatClampNeg 110) ((M24.1 153 (Int32.toNatClampNeg 110)) + 1) → Q M25)))))))))))))))))))))))))))) : L_X12_readArm_136 G d Q x3 M := by
  unfold L_X12_readArm_136
  refine tw_aload_n 0 d_X12_readArm_136 rfl rfl ?_
  refine tw_getR f_X12_69 hL s_147 ⟨rfl, rfl⟩ (rr_X12_10 s_147) d_X12_readArm_137 ?_
  refine tw_iload_n 1 d_X12_readArm_140 rfl rfl ?_
  refine tw_bipush d_X12_readArm_141 kb_6 ?_
  refine tw_iadd d_X12_readArm_143 ?_
  refine tw_aload_n 0 d_X12_readArm_144 rfl rfl ?_
  refine tw_getR f_X12_69 hL s_147 ⟨rfl, rfl⟩ (rr_X12_10 s_147) d_X12_readArm_145 ?_
  refine tw_iload_n 1 d_X12_readArm_148 rfl rfl ?_
  refine tw_iconst d_X12_readArm_149 k_2 ?_
  refine tw_iadd d_X12_readArm_150 ?_
  refine tw_iald hL s_153 d_X12_readArm_151 h.1 ?_
  replace h := h.2
  refine tu_iast hL s_153 d_X12_readArm_152 h.1 (fun M1 e_M1 hL_M1 => ?_)
  replace h := h.2 M1 e_M1
  refine tw_aload_n 0 d_X12_readArm_153 rfl rfl ?_
  refine tw_getR f_X12_69 hL_M1 s_147 ⟨rfl, rfl⟩ (rr_X12_10 s_147) d_X12_readArm_154 ?_
  refine tw_iload_n 1 d_X12_readArm_157 rfl rfl ?_
  refine tw_bipush d_X12_readArm_158 kb_7 ?_
  refine tw_iadd d_X12_readArm_160 ?_
  refine tw_aload_n 0 d_X12_readArm_161 rfl rfl ?_
  refine tw_getR f_X12_69 hL_M1 s_147 ⟨rfl, rfl⟩ (rr_X12_10 s_147) d_X12_readArm_162 ?_
  refine tw_iload_n 1 d_X12_readArm_165 rfl rfl ?_
  refine tw_iconst d_X12_readArm_166 k_2 ?_
  refine tw_iadd d_X12_readArm_167 ?_
  refine tw_iconst d_X12_readArm_168 k_1 ?_
  refine tw_iadd d_X12_readArm_169 ?_
  refine tw_iald hL_M1 s_153 d_X12_readArm_170 h.1 ?_
  replace h := h.2
  refine tu_iast hL_M1 s_153 d_X12_readArm_171 h.1 (fun M2 e_M2 hL_M2 => ?_)
  replace h := h.2 M2 e_M2
  refine tw_aload_n 0 d_X12_readArm_172 rfl rfl ?_
  refine tw_getR f_X12_69 hL_M2 s_147 ⟨rfl, rfl⟩ (rr_X12_10 s_147) d_X12_readArm_173 ?_
  refine tw_iload_n 1 d_X12_readArm_176 rfl rfl ?_
  refine tw_bipush d_X12_readArm_177 kb_8 ?_
  refine tw_iadd d_X12_readArm_179 ?_
  refine tw_aload_n 0 d_X12_readArm_180 rfl rfl ?_
  refine tw_iconst d_X12_readArm_181 k_2 ?_
  refine tw_iconst d_X12_readArm_182 k_0 ?_
  refine tw_iconst d_X12_readArm_183 k_3 ?_
  refine tu_cVi (As := [.int 2, .int 0, .int 3]) cv_X12_172 hL_M2 s_147 rfl (Nat.le_of_ble_eq_true rfl) ⟨Nat.zero_le _, Nat.zero_le _⟩ d_X12_readArm_184 h (fun r4 M3 h => ?_)
  have hL_M3 : Lay c M3 := hL_M2.to h.1
  replace h := h.2
  refine tu_iast hL_M3 s_153 d_X12_readArm_187 h.1 (fun M5 e_M5 hL_M5 => ?_)
  replace h := h.2 M5 e_M5
  refine tw_aload_n 0 d_X12_readArm_188 rfl rfl ?_
  refine tw_getR f_X12_69 hL_M5 s_147 ⟨rfl, rfl⟩ (rr_X12_10 s_147) d_X12_readArm_189 ?_
  refine tw_iload_n 1 d_X12_readArm_192 rfl rfl ?_
  refine tw_bipush d_X12_readArm_193 kb_9 ?_
  refine tw_iadd d_X12_readArm_195 ?_
  refine tw_aload_n 0 d_X12_readArm_196 rfl rfl ?_
  refine tw_iconst d_X12_readArm_197 k_3 ?_
  refine tw_iconst d_X12_readArm_198 k_0 ?_
  refine tw_bipush d_X12_readArm_199 kb_99 ?_
  refine tu_cVi (As := [.int 3, .int 0, .int 99]) cv_X12_172 hL_M5 s_147 rfl (Nat.le_of_ble_eq_true rfl) ⟨Nat.zero_le _, Nat.zero_le _⟩ d_X12_readArm_201 h (fun r7 M6 h => ?_)
  have hL_M6 : Lay c M6 := hL_M5.to h.1
  replace h := h.2
  refine tu_iast hL_M6 s_153 d_X12_readArm_204 h.1 (fun M8 e_M8 hL_M8 => ?_)
  replace h := h.2 M8 e_M8
  refine tw_aload_n 0 d_X12_readArm_205 rfl rfl ?_
  refine tw_getR f_X12_69 hL_M8 s_147 ⟨rfl, rfl⟩ (rr_X12_10 s_147) d_X12_readArm_206 ?_
  refine tw_iload_n 1 d_X12_readArm_209 rfl rfl ?_
  refine tw_bipush d_X12_readArm_210 kb_10 ?_
  refine tw_iadd d_X12_readArm_212 ?_
  refine tw_aload_n 0 d_X12_readArm_213 rfl rfl ?_
  refine tw_iconst d_X12_readArm_214 k_0 ?_
  refine tw_bipush d_X12_readArm_215 kb_99 ?_
  refine tu_cVi (As := [.int 0, .int 99]) cv_X12_139 hL_M8 s_147 rfl (Nat.le_of_ble_eq_true rfl) ⟨Nat.zero_le _, Nat.zero_le _⟩ d_X12_readArm_217 h (fun r10 M9 h => ?_)
  have hL_M9 : Lay c M9 := hL_M8.to h.1
  replace h := h.2
  refine tu_iast hL_M9 s_153 d_X12_readArm_220 h.1 (fun M11 e_M11 hL_M11 => ?_)
  replace h := h.2 M11 e_M11
  refine tw_aload_n 0 d_X12_readArm_221 rfl rfl ?_
  refine tw_getR f_X12_69 hL_M11 s_147 ⟨rfl, rfl⟩ (rr_X12_10 s_147) d_X12_readArm_222 ?_
  refine tw_iload_n 1 d_X12_readArm_225 rfl rfl ?_
  refine tw_bipush d_X12_readArm_226 kb_11 ?_
  refine tw_iadd d_X12_readArm_228 ?_
  refine tw_aload_n 0 d_X12_readArm_229 rfl rfl ?_
  refine tw_iconst d_X12_readArm_230 k_4 ?_
  refine tw_iconst d_X12_readArm_231 k_1 ?_
  refine tw_sipush d_X12_readArm_232 ks_200 ?_
  refine tu_cVi (As := [.int 4, .int 1, .int 200]) cv_X12_172 hL_M11 s_147 rfl (Nat.le_of_ble_eq_true rfl) ⟨Nat.zero_le _, Nat.zero_le _⟩ d_X12_readArm_235 h (fun r13 M12 h => ?_)
  have hL_M12 : Lay c M12 := hL_M11.to h.1
  replace h := h.2
  refine tu_iast hL_M12 s_153 d_X12_readArm_238 h.1 (fun M14 e_M14 hL_M14 => ?_)
  replace h := h.2 M14 e_M14
  refine tw_aload_n 0 d_X12_readArm_239 rfl rfl ?_
  refine tw_getR f_X12_69 hL_M14 s_147 ⟨rfl, rfl⟩ (rr_X12_10 s_147) d_X12_readArm_240 ?_
  refine tw_iload_n 1 d_X12_readArm_243 rfl rfl ?_
  refine tw_bipush d_X12_readArm_244 kb_12 ?_
  refine tw_iadd d_X12_readArm_246 ?_
  refine tw_aload_n 0 d_X12_readArm_247 rfl rfl ?_
  refine tw_iconst d_X12_readArm_248 k_5 ?_
  refine tw_iconst d_X12_readArm_249 k_0 ?_
  refine tw_bipush d_X12_readArm_250 kb_9 ?_
  refine tu_cVi (As := [.int 5, .int 0, .int 9]) cv_X12_172 hL_M14 s_147 rfl (Nat.le_of_ble_eq_true rfl) ⟨Nat.zero_le _, Nat.zero_le _⟩ d_X12_readArm_252 h (fun r16 M15 h => ?_)
  have hL_M15 : Lay c M15 := hL_M14.to h.1
  replace h := h.2
  refine tu_iast hL_M15 s_153 d_X12_readArm_255 h.1 (fun M17 e_M17 hL_M17 => ?_)
  replace h := h.2 M17 e_M17
  refine tw_aload_n 0 d_X12_readArm_256 rfl rfl ?_
  refine tw_bipush d_X12_readArm_257 kb_6 ?_
  refine tu_cVi (As := [.int 6]) cv_X12_133 hL_M17 s_147 rfl (Nat.le_of_ble_eq_true rfl) ⟨Nat.zero_le _, Nat.zero_le _⟩ d_X12_readArm_259 h (fun r19 M18 h => ?_)
  have hL_M18 : Lay c M18 := hL_M17.to h.1
  replace h := h.2
  refine tw_if_eq 281 d_X12_readArm_262 (by decide) (fun z20 => ?_) (fun z20 => ?_)
  · replace h := h.1 z20
    refine tw_aload_n 0 d_X12_readArm_281 rfl rfl ?_
    refine tw_getR f_X12_69 hL_M18 s_147 ⟨rfl, rfl⟩ (rr_X12_10 s_147) d_X12_readArm_282 ?_
    refine tw_bipush d_X12_readArm_285 kb_110 ?_
    refine tw_dup2 d_X12_readArm_287 rfl rfl ?_
    refine tw_iald hL_M18 s_153 d_X12_readArm_288 (by unfold vp_in; decide) ?_
    refine tw_iconst d_X12_readArm_289 k_1 ?_
    refine tw_iadd d_X12_readArm_290 ?_
    refine tu_iast hL_M18 s_153 d_X12_readArm_291 (by unfold vp_in; decide) (fun M21 e_M21 hL_M21 => ?_)
    replace h := h M21 e_M21
    exact tw_vret rfl ⟨Nat.zero_le _, Nat.zero_le _⟩ d_X12_readArm_292 h
  · replace h := h.2 z20
    refine tw_aload_n 0 d_X12_readArm_265 rfl rfl ?_
    refine tw_getR f_X12_69 hL_M18 s_147 ⟨rfl, rfl⟩ (rr_X12_10 s_147) d_X12_readArm_266 ?_
    refine tw_iload_n 1 d_X12_readArm_269 rfl rfl ?_
    refine tw_bipush d_X12_readArm_270 kb_13 ?_
    refine tw_iadd d_X12_readArm_272 ?_
    refine tw_aload_n 0 d_X12_readArm_273 rfl rfl ?_
    refine tw_iconst d_X12_readArm_274 k_0 ?_
    refine tw_bipush d_X12_readArm_275 kb_9 ?_
    refine tu_cVi (As := [.int 0, .int 9]) cv_X12_139 hL_M18 s_147 rfl (Nat.le_of_ble_eq_true rfl) ⟨Nat.zero_le _, Nat.zero_le _⟩ d_X12_readArm_277 h (fun r23 M22 h => ?_)
    have hL_M22 : Lay c M22 := hL_M18.to h.1
    replace h := h.2
    refine tu_iast hL_M22 s_153 d_X12_readArm_280 h.1 (fun M24 e_M24 hL_M24 => ?_)
    replace h := h.2 M24 e_M24
    refine tw_aload_n 0 d_X12_readArm_281 rfl rfl ?_
    refine tw_getR f_X12_69 hL_M24 s_147 ⟨rfl, rfl⟩ (rr_X12_10 s_147) d_X12_readArm_282 ?_
    refine tw_bipush d_X12_readArm_285 kb_110 ?_
    refine tw_dup2 d_X12_readArm_287 rfl rfl ?_
    refine tw_iald hL_M24 s_153 d_X12_readArm_288 (by unfold vp_in; decide) ?_
    refine tw_iconst d_X12_readArm_289 k_1 ?_
    refine tw_iadd d_X12_readArm_290 ?_
    refine tu_iast hL_M24 s_153 d_X12_readArm_291 (by unfold vp_in; decide) (fun M25 e_M25 hL_M25 => ?_)
    replace h := h M25 e_M25
    exact tw_vret rfl ⟨Nat.zero_le _, Nat.zero_le _⟩ d_X12_readArm_292 h
theorem b_X12_readArm {G : MG} {d : Nat} {Q : Mm → Prop}  {M : Mm} {c : Nat} (hL : Lay c M)  (h : ((¬ (M.1 153 (Int32.toNatClampNeg 110)) = 6 → (C G Y_X12_readName d [.ref (G.b + 147)] M (Rv fun M2 => M2.2.2 = M.2.2 ∧ L_X12_readArm_28 G d Q (M.1 153 (Int32.toNatClampNeg 110)) (-1) 0 M2))) ∧ ((M.1 153 (Int32.toNatClampNeg 110)) = 6 → (C G Y_X12_wrong d [.ref (G.b + 147), .int 5] M (Rv fun M3 => M3.2.2 = M.2.2 ∧ Q M3))))) : C G Y_X12_readArm (d + 1) [.ref (G.b + 147)] M (Rv Q) := by
  refine C.of (by decide) (Nat.le_of_ble_eq_true rfl) (lv := [(0, .ref (G.b + 147))]) rfl ?_
  refine tw_aload_n 0 d_X12_readArm_0 rfl rfl ?_
  refine tw_getR f_X12_69 hL s_147 ⟨rfl, rfl⟩ (rr_X12_10 s_147) d_X12_readArm_1 ?_
  refine tw_bipush d_X12_readArm_4 kb_110 ?_
  refine tw_iald hL s_153 d_X12_readArm_6 (by unfold vp_in; decide) ?_
  refine tw_istore_n [(1, .int (M.1 153 (Int32.toNatClampNeg 110))), (0, .ref (G.b + 147))] d_X12_readArm_7 rfl (Nat.le_of_ble_eq_true rfl) rfl ?_
  refine tw_iload_n 0 d_X12_readArm_8 rfl rfl ?_
  refine tw_bipush d_X12_readArm_9 kb_6 ?_
  refine tw_icmp_ne 20 d_X12_readArm_11 (by decide) (fun z1 => ?_) (fun z1 => ?_)
  · replace h := h.1 z1
    refine tw_aload_n 1 d_X12_readArm_20 rfl rfl ?_
    refine tu_cVv (As := []) cv_X12_166 hL s_147 rfl (Nat.le_of_ble_eq_true rfl) ⟨Nat.zero_le _, Nat.zero_le _⟩ d_X12_readArm_21 h (fun M2 h => ?_)
    have hL_M2 : Lay c M2 := hL.to h.1
    replace h := h.2
    refine tw_iconst d_X12_readArm_24 k_m1 ?_
    refine tw_istore_n [(2, .int (-1)), (1, .int (M.1 153 (Int32.toNatClampNeg 110))), (0, .ref (G.b + 147))] d_X12_readArm_25 rfl (Nat.le_of_ble_eq_true rfl) rfl ?_
    refine tw_iconst d_X12_readArm_26 k_0 ?_
    refine tw_istore_n [(3, .int 0), (2, .int (-1)), (1, .int (M.1 153 (Int32.toNatClampNeg 110))), (0, .ref (G.b + 147))] d_X12_readArm_27 rfl (Nat.le_of_ble_eq_true rfl) rfl ?_
    exact tw_lv [3, 2, 1, 0] rfl h
  · replace h := h.2 z1
    refine tw_aload_n 1 d_X12_readArm_14 rfl rfl ?_
    refine tw_iconst d_X12_readArm_15 k_5 ?_
    refine tu_cVv (As := [.int 5]) cv_X12_126 hL s_147 rfl (Nat.le_of_ble_eq_true rfl) ⟨Nat.zero_le _, Nat.zero_le _⟩ d_X12_readArm_16 h (fun M3 h => ?_)
    have hL_M3 : Lay c M3 := hL.to h.1
    replace h := h.2
    exact tw_vret rfl ⟨Nat.zero_le _, Nat.zero_le _⟩ d_X12_readArm_19 h

theorem d_X12_takeHole_0 : decode Y_X12_takeHole.cc 0 = .ok (.aload_n 0, 1) := by decide +kernel
theorem d_X12_takeHole_1 : decode Y_X12_takeHole.cc 1 = .ok (.getfield 69, 3) := by decide +kernel
theorem d_X12_takeHole_4 : decode Y_X12_takeHole.cc 4 = .ok (.iload_n 1, 1) := by decide +kernel
theorem d_X12_takeHole_5 : decode Y_X12_takeHole.cc 5 = .ok (.iconst 1, 1) := by decide +kernel
theorem d_X12_takeHole_6 : decode Y_X12_takeHole.cc 6 = .ok (.iadd, 1) := by decide +kernel
theorem d_X12_takeHole_7 : decode Y_X12_takeHole.cc 7 = .ok (.iaload, 1) := by decide +kernel
theorem d_X12_takeHole_8 : decode Y_X12_takeHole.cc 8 = .ok (.istore_n 2, 1) := by decide +kernel
theorem d_X12_takeHole_9 : decode Y_X12_takeHole.cc 9 = .ok (.aload_n 0, 1) := by decide +kernel
theorem d_X12_takeHole_10 : decode Y_X12_takeHole.cc 10 = .ok (.iconst 1, 1) := by decide +kernel
theorem d_X12_takeHole_11 : decode Y_X12_takeHole.cc 11 = .ok (.bipush 9, 2) := by decide +kernel
theorem d_X12_takeHole_13 : decode Y_X12_takeHole.cc 13 = .ok (.invokevirtual 139, 3) := by decide +kernel
theorem d_X12_takeHole_16 : decode Y_X12_takeHole.cc 16 = .ok (.istore_n 3, 1) := by decide +kernel
theorem d_X12_takeHole_17 : decode Y_X12_takeHole.cc 17 = .ok (.aload_n 0, 1) := by decide +kernel
theorem d_X12_takeHole_18 : decode Y_X12_takeHole.cc 18 = .ok (.getfield 120, 3) := by decide +kernel
theorem d_X12_takeHole_21 : decode Y_X12_takeHole.cc 21 = .ok (.ifCond .le 4, 3) := by decide +kernel
theorem d_X12_takeHole_24 : decode Y_X12_takeHole.cc 24 = .ok (.return_, 1) := by decide +kernel
theorem d_X12_takeHole_25 : decode Y_X12_takeHole.cc 25 = .ok (.aload_n 0, 1) := by decide +kernel
theorem d_X12_takeHole_26 : decode Y_X12_takeHole.cc 26 = .ok (.dup, 1) := by decide +kernel
theorem d_X12_takeHole_27 : decode Y_X12_takeHole.cc 27 = .ok (.getfield 117, 3) := by decide +kernel
theorem d_X12_takeHole_30 : decode Y_X12_takeHole.cc 30 = .ok (.iconst 1, 1) := by decide +kernel
theorem d_X12_takeHole_31 : decode Y_X12_takeHole.cc 31 = .ok (.isub, 1) := by decide +kernel
theorem d_X12_takeHole_32 : decode Y_X12_takeHole.cc 32 = .ok (.putfield 117, 3) := by decide +kernel
theorem d_X12_takeHole_35 : decode Y_X12_takeHole.cc 35 = .ok (.iconst 0, 1) := by decide +kernel
theorem d_X12_takeHole_36 : decode Y_X12_takeHole.cc 36 = .ok (.istore 4, 2) := by decide +kernel
theorem d_X12_takeHole_38 : decode Y_X12_takeHole.cc 38 = .ok (.iload 4, 2) := by decide +kernel
theorem d_X12_takeHole_40 : decode Y_X12_takeHole.cc 40 = .ok (.iload_n 2, 1) := by decide +kernel
theorem d_X12_takeHole_41 : decode Y_X12_takeHole.cc 41 = .ok (.if_icmp .ge 29, 3) := by decide +kernel
theorem d_X12_takeHole_44 : decode Y_X12_takeHole.cc 44 = .ok (.aload_n 0, 1) := by decide +kernel
theorem d_X12_takeHole_45 : decode Y_X12_takeHole.cc 45 = .ok (.getfield 69, 3) := by decide +kernel
theorem d_X12_takeHole_48 : decode Y_X12_takeHole.cc 48 = .ok (.iload_n 1, 1) := by decide +kernel
theorem d_X12_takeHole_49 : decode Y_X12_takeHole.cc 49 = .ok (.iconst 2, 1) := by decide +kernel
theorem d_X12_takeHole_50 : decode Y_X12_takeHole.cc 50 = .ok (.iadd, 1) := by decide +kernel
theorem d_X12_takeHole_51 : decode Y_X12_takeHole.cc 51 = .ok (.iload 4, 2) := by decide +kernel
theorem d_X12_takeHole_53 : decode Y_X12_takeHole.cc 53 = .ok (.iadd, 1) := by decide +kernel
theorem d_X12_takeHole_54 : decode Y_X12_takeHole.cc 54 = .ok (.iaload, 1) := by decide +kernel
theorem d_X12_takeHole_55 : decode Y_X12_takeHole.cc 55 = .ok (.iload_n 3, 1) := by decide +kernel
theorem d_X12_takeHole_56 : decode Y_X12_takeHole.cc 56 = .ok (.if_icmp .ne 8, 3) := by decide +kernel
theorem d_X12_takeHole_59 : decode Y_X12_takeHole.cc 59 = .ok (.aload_n 0, 1) := by decide +kernel
theorem d_X12_takeHole_60 : decode Y_X12_takeHole.cc 60 = .ok (.iconst 3, 1) := by decide +kernel
theorem d_X12_takeHole_61 : decode Y_X12_takeHole.cc 61 = .ok (.invokevirtual 126, 3) := by decide +kernel
theorem d_X12_takeHole_64 : decode Y_X12_takeHole.cc 64 = .ok (.iinc 4 1, 3) := by decide +kernel
theorem d_X12_takeHole_67 : decode Y_X12_takeHole.cc 67 = .ok (.goto (-29), 3) := by decide +kernel
theorem d_X12_takeHole_70 : decode Y_X12_takeHole.cc 70 = .ok (.iload_n 2, 1) := by decide +kernel
theorem d_X12_takeHole_71 : decode Y_X12_takeHole.cc 71 = .ok (.iconst 4, 1) := by decide +kernel
theorem d_X12_takeHole_72 : decode Y_X12_takeHole.cc 72 = .ok (.if_icmp .ne 8, 3) := by decide +kernel
theorem d_X12_takeHole_75 : decode Y_X12_takeHole.cc 75 = .ok (.aload_n 0, 1) := by decide +kernel
theorem d_X12_takeHole_76 : decode Y_X12_takeHole.cc 76 = .ok (.iconst 5, 1) := by decide +kernel
theorem d_X12_takeHole_77 : decode Y_X12_takeHole.cc 77 = .ok (.invokevirtual 126, 3) := by decide +kernel
theorem d_X12_takeHole_80 : decode Y_X12_takeHole.cc 80 = .ok (.aload_n 0, 1) := by decide +kernel
theorem d_X12_takeHole_81 : decode Y_X12_takeHole.cc 81 = .ok (.getfield 120, 3) := by decide +kernel
theorem d_X12_takeHole_84 : decode Y_X12_takeHole.cc 84 = .ok (.ifCond .ne 36, 3) := by decide +kernel
theorem d_X12_takeHole_87 : decode Y_X12_takeHole.cc 87 = .ok (.aload_n 0, 1) := by decide +kernel
theorem d_X12_takeHole_88 : decode Y_X12_takeHole.cc 88 = .ok (.dup, 1) := by decide +kernel
theorem d_X12_takeHole_89 : decode Y_X12_takeHole.cc 89 = .ok (.getfield 117, 3) := by decide +kernel
theorem d_X12_takeHole_92 : decode Y_X12_takeHole.cc 92 = .ok (.iconst 1, 1) := by decide +kernel
theorem d_X12_takeHole_93 : decode Y_X12_takeHole.cc 93 = .ok (.iadd, 1) := by decide +kernel
theorem d_X12_takeHole_94 : decode Y_X12_takeHole.cc 94 = .ok (.putfield 117, 3) := by decide +kernel
theorem d_X12_takeHole_97 : decode Y_X12_takeHole.cc 97 = .ok (.aload_n 0, 1) := by decide +kernel
theorem d_X12_takeHole_98 : decode Y_X12_takeHole.cc 98 = .ok (.getfield 69, 3) := by decide +kernel
theorem d_X12_takeHole_101 : decode Y_X12_takeHole.cc 101 = .ok (.iload_n 1, 1) := by decide +kernel
theorem d_X12_takeHole_102 : decode Y_X12_takeHole.cc 102 = .ok (.iconst 2, 1) := by decide +kernel
theorem d_X12_takeHole_103 : decode Y_X12_takeHole.cc 103 = .ok (.iadd, 1) := by decide +kernel
theorem d_X12_takeHole_104 : decode Y_X12_takeHole.cc 104 = .ok (.iload_n 2, 1) := by decide +kernel
theorem d_X12_takeHole_105 : decode Y_X12_takeHole.cc 105 = .ok (.iadd, 1) := by decide +kernel
theorem d_X12_takeHole_106 : decode Y_X12_takeHole.cc 106 = .ok (.iload_n 3, 1) := by decide +kernel
theorem d_X12_takeHole_107 : decode Y_X12_takeHole.cc 107 = .ok (.iastore, 1) := by decide +kernel
theorem d_X12_takeHole_108 : decode Y_X12_takeHole.cc 108 = .ok (.aload_n 0, 1) := by decide +kernel
theorem d_X12_takeHole_109 : decode Y_X12_takeHole.cc 109 = .ok (.getfield 69, 3) := by decide +kernel
theorem d_X12_takeHole_112 : decode Y_X12_takeHole.cc 112 = .ok (.iload_n 1, 1) := by decide +kernel
theorem d_X12_takeHole_113 : decode Y_X12_takeHole.cc 113 = .ok (.iconst 1, 1) := by decide +kernel
theorem d_X12_takeHole_114 : decode Y_X12_takeHole.cc 114 = .ok (.iadd, 1) := by decide +kernel
theorem d_X12_takeHole_115 : decode Y_X12_takeHole.cc 115 = .ok (.dup2, 1) := by decide +kernel
theorem d_X12_takeHole_116 : decode Y_X12_takeHole.cc 116 = .ok (.iaload, 1) := by decide +kernel
theorem d_X12_takeHole_117 : decode Y_X12_takeHole.cc 117 = .ok (.iconst 1, 1) := by decide +kernel
theorem d_X12_takeHole_118 : decode Y_X12_takeHole.cc 118 = .ok (.iadd, 1) := by decide +kernel
theorem d_X12_takeHole_119 : decode Y_X12_takeHole.cc 119 = .ok (.iastore, 1) := by decide +kernel
theorem d_X12_takeHole_120 : decode Y_X12_takeHole.cc 120 = .ok (.return_, 1) := by decide +kernel
def L_X12_takeHole_38 (G : MG) (d : Nat) (Q : Mm → Prop) (x1 : Int32) (x2 : Int32) (x3 : Int32) (x4 : Int32) (M : Mm) : Prop := T G Y_X12_takeHole (d + 1) (Rv Q) 0 0 38 [(0, .ref (G.b + 147)), (1, .int x1), (2, .int x2), (3, .int x3), (4, .int x4)] [] M
def L_X12_takeHole_80 (G : MG) (d : Nat) (Q : Mm → Prop) (x1 : Int32) (x2 : Int32) (x3 : Int32) (M : Mm) : Prop := T G Y_X12_takeHole (d + 1) (Rv Q) 0 0 80 [(0, .ref (G.b + 147)), (1, .int x1), (2, .int x2), (3, .int x3)] [] M
theorem b_X12_takeHole_38 {G : MG} {d : Nat} {Q : Mm → Prop} {x1 : Int32} {x2 : Int32} {x3 : Int32} {x4 : Int32} {M : Mm} {c : Nat} (hL : Lay c M)  (h : ((x2 ≤ x4 → ((¬ x2 = 4 → L_X12_takeHole_80 G d Q x1 x2 x3 M) ∧ (x2 = 4 → (C G Y_X12_wrong d [.ref (G.b + 147), .int 5] M (Rv fun M3 => M3.2.2 = M.2.2 ∧ L_X12_takeHole_80 G d Q x1 x2 x3 M3))))) ∧ (¬ x2 ≤ x4 → (vp_in ((x1 + 2) + x4) 660 ∧ ((¬ (M.1 153 ((x1 + 2) + x4).toNatClampNeg) = x3 → L_X12_takeHole_38 G d Q x1 x2 x3 (x4 + 1) M) ∧ ((M.1 153 ((x1 + 2) + x4).toNatClampNeg) = x3 → (C G Y_X12_wrong d [.ref (G.b + 147), .int 3] M (Rv fun M5 => M5.2.2 = M.2.2 ∧ L_X12_takeHole_38 G d Q x1 x2 x3 (x4 + 1) M5)))))))) : L_X12_takeHole_38 G d Q x1 x2 x3 x4 M := by
  unfold L_X12_takeHole_38
  refine tw_iload 4 d_X12_takeHole_38 rfl ?_
  refine tw_iload_n 2 d_X12_takeHole_40 rfl rfl ?_
  refine tw_icmp_ge 70 d_X12_takeHole_41 (by decide) (fun z1 => ?_) (fun z1 => ?_)
  · replace h := h.1 z1
    refine tw_iload_n 2 d_X12_takeHole_70 rfl rfl ?_
    refine tw_iconst d_X12_takeHole_71 k_4 ?_
    refine tw_icmp_ne 80 d_X12_takeHole_72 (by decide) (fun z2 => ?_) (fun z2 => ?_)
    · replace h := h.1 z2
      exact tw_lv [0, 1, 2, 3] rfl h
    · replace h := h.2 z2
      refine tw_aload_n 0 d_X12_takeHole_75 rfl rfl ?_
      refine tw_iconst d_X12_takeHole_76 k_5 ?_
      refine tu_cVv (As := [.int 5]) cv_X12_126 hL s_147 rfl (Nat.le_of_ble_eq_true rfl) ⟨Nat.zero_le _, Nat.zero_le _⟩ d_X12_takeHole_77 h (fun M3 h => ?_)
      have hL_M3 : Lay c M3 := hL.to h.1
      replace h := h.2
      exact tw_lv [0, 1, 2, 3] rfl h
  · replace h := h.2 z1
    refine tw_aload_n 0 d_X12_takeHole_44 rfl rfl ?_
    refine tw_getR f_X12_69 hL s_147 ⟨rfl, rfl⟩ (rr_X12_10 s_147) d_X12_takeHole_45 ?_
    refine tw_iload_n 1 d_X12_takeHole_48 rfl rfl ?_
    refine tw_iconst d_X12_takeHole_49 k_2 ?_
    refine tw_iadd d_X12_takeHole_50 ?_
    refine tw_iload 4 d_X12_takeHole_51 rfl ?_
    refine tw_iadd d_X12_takeHole_53 ?_
    refine tw_iald hL s_153 d_X12_takeHole_54 h.1 ?_
    replace h := h.2
    refine tw_iload_n 3 d_X12_takeHole_55 rfl rfl ?_
    refine tw_icmp_ne 64 d_X12_takeHole_56 (by decide) (fun z4 => ?_) (fun z4 => ?_)
    · replace h := h.1 z4
      refine tw_iinc 4 [(4, .int (x4 + 1)), (0, .ref (G.b + 147)), (1, .int x1), (2, .int x2), (3, .int x3)] d_X12_takeHole_64 rfl rfl (Nat.le_of_ble_eq_true rfl) rfl ?_
      refine tw_goto 38 d_X12_takeHole_67 (by decide) ?_
      exact tw_lv [1, 2, 3, 4, 0] rfl h
    · replace h := h.2 z4
      refine tw_aload_n 0 d_X12_takeHole_59 rfl rfl ?_
      refine tw_iconst d_X12_takeHole_60 k_3 ?_
      refine tu_cVv (As := [.int 3]) cv_X12_126 hL s_147 rfl (Nat.le_of_ble_eq_true rfl) ⟨Nat.zero_le _, Nat.zero_le _⟩ d_X12_takeHole_61 h (fun M5 h => ?_)
      have hL_M5 : Lay c M5 := hL.to h.1
      replace h := h.2
      refine tw_iinc 4 [(4, .int (x4 + 1)), (0, .ref (G.b + 147)), (1, .int x1), (2, .int x2), (3, .int x3)] d_X12_takeHole_64 rfl rfl (Nat.le_of_ble_eq_true rfl) rfl ?_
      refine tw_goto 38 d_X12_takeHole_67 (by decide) ?_
      exact tw_lv [1, 2, 3, 4, 0] rfl h
theorem b_X12_takeHole_80 {G : MG} {d : Nat} {Q : Mm → Prop} {x1 : Int32} {x2 : Int32} {x3 : Int32} {M : Mm} {c : Nat} (hL : Lay c M)  (h : ((¬ (M.1 147 8) = 0 → Q M) ∧ ((M.1 147 8) = 0 → (∀ M2 : Mm, M2 = sI M 147 7 ((M.1 147 7) + 1) → (vp_in ((x1 + 2) + x2) 660 ∧ ∀ M3 : Mm, M3 = sI M2 153 ((x1 + 2) + x2).toNatClampNeg x3 → (vp_in (x1 + 1) 660 ∧ (vp_in (x1 + 1) 660 ∧ ∀ M4 : Mm, M4 = sI M3 153 (x1 + 1).toNatClampNeg ((M3.1 153 (x1 + 1).toNatClampNeg) + 1) → Q M4))))))) : L_X12_takeHole_80 G d Q x1 x2 x3 M := by
  unfold L_X12_takeHole_80
  refine tw_aload_n 0 d_X12_takeHole_80 rfl rfl ?_
  refine tw_getI f_X12_120 hL s_147 (Or.inl rfl) d_X12_takeHole_81 ?_
  refine tw_if_ne 120 d_X12_takeHole_84 (by decide) (fun z1 => ?_) (fun z1 => ?_)
  · replace h := h.1 z1
    exact tw_vret rfl ⟨Nat.zero_le _, Nat.zero_le _⟩ d_X12_takeHole_120 h
  · replace h := h.2 z1
    refine tw_aload_n 0 d_X12_takeHole_87 rfl rfl ?_
    refine tw_dup d_X12_takeHole_88 rfl ?_
    refine tw_getI f_X12_117 hL s_147 (Or.inl rfl) d_X12_takeHole_89 ?_
    refine tw_iconst d_X12_takeHole_92 k_1 ?_
    refine tw_iadd d_X12_takeHole_93 ?_
    refine tu_putI f_X12_117 hL s_147 rfl rfl d_X12_takeHole_94 (fun M2 e_M2 hL_M2 => ?_)
    replace h := h M2 e_M2
    refine tw_aload_n 0 d_X12_takeHole_97 rfl rfl ?_
    refine tw_getR f_X12_69 hL_M2 s_147 ⟨rfl, rfl⟩ (rr_X12_10 s_147) d_X12_takeHole_98 ?_
    refine tw_iload_n 1 d_X12_takeHole_101 rfl rfl ?_
    refine tw_iconst d_X12_takeHole_102 k_2 ?_
    refine tw_iadd d_X12_takeHole_103 ?_
    refine tw_iload_n 2 d_X12_takeHole_104 rfl rfl ?_
    refine tw_iadd d_X12_takeHole_105 ?_
    refine tw_iload_n 3 d_X12_takeHole_106 rfl rfl ?_
    refine tu_iast hL_M2 s_153 d_X12_takeHole_107 h.1 (fun M3 e_M3 hL_M3 => ?_)
    replace h := h.2 M3 e_M3
    refine tw_aload_n 0 d_X12_takeHole_108 rfl rfl ?_
    refine tw_getR f_X12_69 hL_M3 s_147 ⟨rfl, rfl⟩ (rr_X12_10 s_147) d_X12_takeHole_109 ?_
    refine tw_iload_n 1 d_X12_takeHole_112 rfl rfl ?_
    refine tw_iconst d_X12_takeHole_113 k_1 ?_
    refine tw_iadd d_X12_takeHole_114 ?_
    refine tw_dup2 d_X12_takeHole_115 rfl rfl ?_
    refine tw_iald hL_M3 s_153 d_X12_takeHole_116 h.1 ?_
    replace h := h.2
    refine tw_iconst d_X12_takeHole_117 k_1 ?_
    refine tw_iadd d_X12_takeHole_118 ?_
    refine tu_iast hL_M3 s_153 d_X12_takeHole_119 h.1 (fun M4 e_M4 hL_M4 => ?_)
    replace h := h.2 M4 e_M4
    exact tw_vret rfl ⟨Nat.zero_le _, Nat.zero_le _⟩ d_X12_takeHole_120 h
theorem b_X12_takeHole {G : MG} {d : Nat} {Q : Mm → Prop} {x1 : Int32} {M : Mm} {c : Nat} (hL : Lay c M)  (h : (vp_in (x1 + 1) 660 ∧ (C G Y_X12_takeNumber d [.ref (G.b + 147), .int 1, .int 9] M (Ri fun r2 M1 => M1.2.2 = M.2.2 ∧ (((M1.1 147 8) ≤ 0 → (∀ M4 : Mm, M4 = sI M1 147 7 ((M1.1 147 7) - 1) → L_X12_takeHole_38 G d Q x1 (M.1 153 (x1 + 1).toNatClampNeg) r2 0 M4)) ∧ (¬ (M1.1 147 8) ≤ 0 → Q M1)))))) : C G Y_X12_takeHole (d + 1) [.ref (G.b + 147), .int x1] M (Rv Q) := by
  refine C.of (by decide) (Nat.le_of_ble_eq_true rfl) (lv := [(0, .ref (G.b + 147)), (1, .int x1)]) rfl ?_
  refine tw_aload_n 0 d_X12_takeHole_0 rfl rfl ?_
  refine tw_getR f_X12_69 hL s_147 ⟨rfl, rfl⟩ (rr_X12_10 s_147) d_X12_takeHole_1 ?_
  refine tw_iload_n 1 d_X12_takeHole_4 rfl rfl ?_
  refine tw_iconst d_X12_takeHole_5 k_1 ?_
  refine tw_iadd d_X12_takeHole_6 ?_
  refine tw_iald hL s_153 d_X12_takeHole_7 h.1 ?_
  replace h := h.2
  refine tw_istore_n [(2, .int (M.1 153 (x1 + 1).toNatClampNeg)), (0, .ref (G.b + 147)), (1, .int x1)] d_X12_takeHole_8 rfl (Nat.le_of_ble_eq_true rfl) rfl ?_
  refine tw_aload_n 1 d_X12_takeHole_9 rfl rfl ?_
  refine tw_iconst d_X12_takeHole_10 k_1 ?_
  refine tw_bipush d_X12_takeHole_11 kb_9 ?_
  refine tu_cVi (As := [.int 1, .int 9]) cv_X12_139 hL s_147 rfl (Nat.le_of_ble_eq_true rfl) ⟨Nat.zero_le _, Nat.zero_le _⟩ d_X12_takeHole_13 h (fun r2 M1 h => ?_)
  have hL_M1 : Lay c M1 := hL.to h.1
  replace h := h.2
  refine tw_istore_n [(3, .int r2), (2, .int (M.1 153 (x1 + 1).toNatClampNeg)), (0, .ref (G.b + 147)), (1, .int x1)] d_X12_takeHole_16 rfl (Nat.le_of_ble_eq_true rfl) rfl ?_
  refine tw_aload_n 2 d_X12_takeHole_17 rfl rfl ?_
  refine tw_getI f_X12_120 hL_M1 s_147 (Or.inl rfl) d_X12_takeHole_18 ?_
  refine tw_if_le 25 d_X12_takeHole_21 (by decide) (fun z3 => ?_) (fun z3 => ?_)
  · replace h := h.1 z3
    refine tw_aload_n 2 d_X12_takeHole_25 rfl rfl ?_
    refine tw_dup d_X12_takeHole_26 rfl ?_
    refine tw_getI f_X12_117 hL_M1 s_147 (Or.inl rfl) d_X12_takeHole_27 ?_
    refine tw_iconst d_X12_takeHole_30 k_1 ?_
    refine tw_isub d_X12_takeHole_31 ?_
    refine tu_putI f_X12_117 hL_M1 s_147 rfl rfl d_X12_takeHole_32 (fun M4 e_M4 hL_M4 => ?_)
    replace h := h M4 e_M4
    refine tw_iconst d_X12_takeHole_35 k_0 ?_
    refine tw_istore [(4, .int 0), (3, .int r2), (2, .int (M.1 153 (x1 + 1).toNatClampNeg)), (0, .ref (G.b + 147)), (1, .int x1)] d_X12_takeHole_36 (Nat.le_of_ble_eq_true rfl) rfl ?_
    exact tw_lv [3, 4, 2, 1, 0] rfl h
  · replace h := h.2 z3
    exact tw_vret rfl ⟨Nat.zero_le _, Nat.zero_le _⟩ d_X12_takeHole_24 h

theorem d_X12_readMap_0 : decode Y_X12_readMap.cc 0 = .ok (.aload_n 0, 1) := by decide +kernel
theorem d_X12_readMap_1 : decode Y_X12_readMap.cc 1 = .ok (.getfield 72, 3) := by decide +kernel
theorem d_X12_readMap_4 : decode Y_X12_readMap.cc 4 = .ok (.bipush 120, 2) := by decide +kernel
theorem d_X12_readMap_6 : decode Y_X12_readMap.cc 6 = .ok (.iaload, 1) := by decide +kernel
theorem d_X12_readMap_7 : decode Y_X12_readMap.cc 7 = .ok (.istore_n 1, 1) := by decide +kernel
theorem d_X12_readMap_8 : decode Y_X12_readMap.cc 8 = .ok (.iload_n 1, 1) := by decide +kernel
theorem d_X12_readMap_9 : decode Y_X12_readMap.cc 9 = .ok (.bipush 7, 2) := by decide +kernel
theorem d_X12_readMap_11 : decode Y_X12_readMap.cc 11 = .ok (.if_icmp .ne 9, 3) := by decide +kernel
theorem d_X12_readMap_14 : decode Y_X12_readMap.cc 14 = .ok (.aload_n 0, 1) := by decide +kernel
theorem d_X12_readMap_15 : decode Y_X12_readMap.cc 15 = .ok (.iconst 5, 1) := by decide +kernel
theorem d_X12_readMap_16 : decode Y_X12_readMap.cc 16 = .ok (.invokevirtual 126, 3) := by decide +kernel
theorem d_X12_readMap_19 : decode Y_X12_readMap.cc 19 = .ok (.return_, 1) := by decide +kernel
theorem d_X12_readMap_20 : decode Y_X12_readMap.cc 20 = .ok (.aload_n 0, 1) := by decide +kernel
theorem d_X12_readMap_21 : decode Y_X12_readMap.cc 21 = .ok (.invokevirtual 166, 3) := by decide +kernel
theorem d_X12_readMap_24 : decode Y_X12_readMap.cc 24 = .ok (.bipush 121, 2) := by decide +kernel
theorem d_X12_readMap_26 : decode Y_X12_readMap.cc 26 = .ok (.bipush 16, 2) := by decide +kernel
theorem d_X12_readMap_28 : decode Y_X12_readMap.cc 28 = .ok (.iload_n 1, 1) := by decide +kernel
theorem d_X12_readMap_29 : decode Y_X12_readMap.cc 29 = .ok (.imul, 1) := by decide +kernel
theorem d_X12_readMap_30 : decode Y_X12_readMap.cc 30 = .ok (.iadd, 1) := by decide +kernel
theorem d_X12_readMap_31 : decode Y_X12_readMap.cc 31 = .ok (.istore_n 2, 1) := by decide +kernel
theorem d_X12_readMap_32 : decode Y_X12_readMap.cc 32 = .ok (.aload_n 0, 1) := by decide +kernel
theorem d_X12_readMap_33 : decode Y_X12_readMap.cc 33 = .ok (.bipush 8, 2) := by decide +kernel
theorem d_X12_readMap_35 : decode Y_X12_readMap.cc 35 = .ok (.iconst 1, 1) := by decide +kernel
theorem d_X12_readMap_36 : decode Y_X12_readMap.cc 36 = .ok (.bipush 9, 2) := by decide +kernel
theorem d_X12_readMap_38 : decode Y_X12_readMap.cc 38 = .ok (.invokevirtual 172, 3) := by decide +kernel
theorem d_X12_readMap_41 : decode Y_X12_readMap.cc 41 = .ok (.istore_n 3, 1) := by decide +kernel
theorem d_X12_readMap_42 : decode Y_X12_readMap.cc 42 = .ok (.aload_n 0, 1) := by decide +kernel
theorem d_X12_readMap_43 : decode Y_X12_readMap.cc 43 = .ok (.bipush 9, 2) := by decide +kernel
theorem d_X12_readMap_45 : decode Y_X12_readMap.cc 45 = .ok (.iconst 1, 1) := by decide +kernel
theorem d_X12_readMap_46 : decode Y_X12_readMap.cc 46 = .ok (.bipush 9, 2) := by decide +kernel
theorem d_X12_readMap_48 : decode Y_X12_readMap.cc 48 = .ok (.invokevirtual 172, 3) := by decide +kernel
theorem d_X12_readMap_51 : decode Y_X12_readMap.cc 51 = .ok (.istore 4, 2) := by decide +kernel
theorem d_X12_readMap_53 : decode Y_X12_readMap.cc 53 = .ok (.aload_n 0, 1) := by decide +kernel
theorem d_X12_readMap_54 : decode Y_X12_readMap.cc 54 = .ok (.getfield 72, 3) := by decide +kernel
theorem d_X12_readMap_57 : decode Y_X12_readMap.cc 57 = .ok (.iload_n 2, 1) := by decide +kernel
theorem d_X12_readMap_58 : decode Y_X12_readMap.cc 58 = .ok (.iconst 2, 1) := by decide +kernel
theorem d_X12_readMap_59 : decode Y_X12_readMap.cc 59 = .ok (.iadd, 1) := by decide +kernel
theorem d_X12_readMap_60 : decode Y_X12_readMap.cc 60 = .ok (.aload_n 0, 1) := by decide +kernel
theorem d_X12_readMap_61 : decode Y_X12_readMap.cc 61 = .ok (.bipush 10, 2) := by decide +kernel
theorem d_X12_readMap_63 : decode Y_X12_readMap.cc 63 = .ok (.iconst 0, 1) := by decide +kernel
theorem d_X12_readMap_64 : decode Y_X12_readMap.cc 64 = .ok (.sipush 255, 3) := by decide +kernel
theorem d_X12_readMap_67 : decode Y_X12_readMap.cc 67 = .ok (.invokevirtual 172, 3) := by decide +kernel
theorem d_X12_readMap_70 : decode Y_X12_readMap.cc 70 = .ok (.iastore, 1) := by decide +kernel
theorem d_X12_readMap_71 : decode Y_X12_readMap.cc 71 = .ok (.aload_n 0, 1) := by decide +kernel
theorem d_X12_readMap_72 : decode Y_X12_readMap.cc 72 = .ok (.bipush 11, 2) := by decide +kernel
theorem d_X12_readMap_74 : decode Y_X12_readMap.cc 74 = .ok (.invokevirtual 136, 3) := by decide +kernel
theorem d_X12_readMap_77 : decode Y_X12_readMap.cc 77 = .ok (.aload_n 0, 1) := by decide +kernel
theorem d_X12_readMap_78 : decode Y_X12_readMap.cc 78 = .ok (.iload_n 2, 1) := by decide +kernel
theorem d_X12_readMap_79 : decode Y_X12_readMap.cc 79 = .ok (.invokevirtual 176, 3) := by decide +kernel
theorem d_X12_readMap_82 : decode Y_X12_readMap.cc 82 = .ok (.aload_n 0, 1) := by decide +kernel
theorem d_X12_readMap_83 : decode Y_X12_readMap.cc 83 = .ok (.bipush 44, 2) := by decide +kernel
theorem d_X12_readMap_85 : decode Y_X12_readMap.cc 85 = .ok (.invokevirtual 123, 3) := by decide +kernel
theorem d_X12_readMap_88 : decode Y_X12_readMap.cc 88 = .ok (.ifCond .eq 40, 3) := by decide +kernel
theorem d_X12_readMap_91 : decode Y_X12_readMap.cc 91 = .ok (.aload_n 0, 1) := by decide +kernel
theorem d_X12_readMap_92 : decode Y_X12_readMap.cc 92 = .ok (.getfield 72, 3) := by decide +kernel
theorem d_X12_readMap_95 : decode Y_X12_readMap.cc 95 = .ok (.iload_n 2, 1) := by decide +kernel
theorem d_X12_readMap_96 : decode Y_X12_readMap.cc 96 = .ok (.iconst 3, 1) := by decide +kernel
theorem d_X12_readMap_97 : decode Y_X12_readMap.cc 97 = .ok (.iadd, 1) := by decide +kernel
theorem d_X12_readMap_98 : decode Y_X12_readMap.cc 98 = .ok (.iaload, 1) := by decide +kernel
theorem d_X12_readMap_99 : decode Y_X12_readMap.cc 99 = .ok (.bipush 6, 2) := by decide +kernel
theorem d_X12_readMap_101 : decode Y_X12_readMap.cc 101 = .ok (.if_icmp .ne 9, 3) := by decide +kernel
theorem d_X12_readMap_104 : decode Y_X12_readMap.cc 104 = .ok (.aload_n 0, 1) := by decide +kernel
theorem d_X12_readMap_105 : decode Y_X12_readMap.cc 105 = .ok (.iconst 5, 1) := by decide +kernel
theorem d_X12_readMap_106 : decode Y_X12_readMap.cc 106 = .ok (.invokevirtual 126, 3) := by decide +kernel
theorem d_X12_readMap_109 : decode Y_X12_readMap.cc 109 = .ok (.return_, 1) := by decide +kernel
theorem d_X12_readMap_110 : decode Y_X12_readMap.cc 110 = .ok (.aload_n 0, 1) := by decide +kernel
theorem d_X12_readMap_111 : decode Y_X12_readMap.cc 111 = .ok (.dup, 1) := by decide +kernel
theorem d_X12_readMap_112 : decode Y_X12_readMap.cc 112 = .ok (.getfield 117, 3) := by decide +kernel
theorem d_X12_readMap_115 : decode Y_X12_readMap.cc 115 = .ok (.iconst 1, 1) := by decide +kernel
theorem d_X12_readMap_116 : decode Y_X12_readMap.cc 116 = .ok (.iadd, 1) := by decide +kernel
theorem d_X12_readMap_117 : decode Y_X12_readMap.cc 117 = .ok (.putfield 117, 3) := by decide +kernel
theorem d_X12_readMap_120 : decode Y_X12_readMap.cc 120 = .ok (.aload_n 0, 1) := by decide +kernel
theorem d_X12_readMap_121 : decode Y_X12_readMap.cc 121 = .ok (.iload_n 2, 1) := by decide +kernel
theorem d_X12_readMap_122 : decode Y_X12_readMap.cc 122 = .ok (.invokevirtual 176, 3) := by decide +kernel
theorem d_X12_readMap_125 : decode Y_X12_readMap.cc 125 = .ok (.goto (-43), 3) := by decide +kernel
theorem d_X12_readMap_128 : decode Y_X12_readMap.cc 128 = .ok (.aload_n 0, 1) := by decide +kernel
theorem d_X12_readMap_129 : decode Y_X12_readMap.cc 129 = .ok (.getfield 120, 3) := by decide +kernel
theorem d_X12_readMap_132 : decode Y_X12_readMap.cc 132 = .ok (.ifCond .ne 48, 3) := by decide +kernel
theorem d_X12_readMap_135 : decode Y_X12_readMap.cc 135 = .ok (.iload_n 3, 1) := by decide +kernel
theorem d_X12_readMap_136 : decode Y_X12_readMap.cc 136 = .ok (.i2l, 1) := by decide +kernel
theorem d_X12_readMap_137 : decode Y_X12_readMap.cc 137 = .ok (.iload 4, 2) := by decide +kernel
theorem d_X12_readMap_139 : decode Y_X12_readMap.cc 139 = .ok (.i2l, 1) := by decide +kernel
theorem d_X12_readMap_140 : decode Y_X12_readMap.cc 140 = .ok (.invokestatic 179, 3) := by decide +kernel
theorem d_X12_readMap_143 : decode Y_X12_readMap.cc 143 = .ok (.l2i, 1) := by decide +kernel
theorem d_X12_readMap_144 : decode Y_X12_readMap.cc 144 = .ok (.istore 5, 2) := by decide +kernel
theorem d_X12_readMap_146 : decode Y_X12_readMap.cc 146 = .ok (.aload_n 0, 1) := by decide +kernel
theorem d_X12_readMap_147 : decode Y_X12_readMap.cc 147 = .ok (.getfield 72, 3) := by decide +kernel
theorem d_X12_readMap_150 : decode Y_X12_readMap.cc 150 = .ok (.iload_n 2, 1) := by decide +kernel
theorem d_X12_readMap_151 : decode Y_X12_readMap.cc 151 = .ok (.iload_n 3, 1) := by decide +kernel
theorem d_X12_readMap_152 : decode Y_X12_readMap.cc 152 = .ok (.iload 5, 2) := by decide +kernel
theorem d_X12_readMap_154 : decode Y_X12_readMap.cc 154 = .ok (.idiv, 1) := by decide +kernel
theorem d_X12_readMap_155 : decode Y_X12_readMap.cc 155 = .ok (.iastore, 1) := by decide +kernel
theorem d_X12_readMap_156 : decode Y_X12_readMap.cc 156 = .ok (.aload_n 0, 1) := by decide +kernel
theorem d_X12_readMap_157 : decode Y_X12_readMap.cc 157 = .ok (.getfield 72, 3) := by decide +kernel
theorem d_X12_readMap_160 : decode Y_X12_readMap.cc 160 = .ok (.iload_n 2, 1) := by decide +kernel
theorem d_X12_readMap_161 : decode Y_X12_readMap.cc 161 = .ok (.iconst 1, 1) := by decide +kernel
theorem d_X12_readMap_162 : decode Y_X12_readMap.cc 162 = .ok (.iadd, 1) := by decide +kernel
theorem d_X12_readMap_163 : decode Y_X12_readMap.cc 163 = .ok (.iload 4, 2) := by decide +kernel
theorem d_X12_readMap_165 : decode Y_X12_readMap.cc 165 = .ok (.iload 5, 2) := by decide +kernel
theorem d_X12_readMap_167 : decode Y_X12_readMap.cc 167 = .ok (.idiv, 1) := by decide +kernel
theorem d_X12_readMap_168 : decode Y_X12_readMap.cc 168 = .ok (.iastore, 1) := by decide +kernel
theorem d_X12_readMap_169 : decode Y_X12_readMap.cc 169 = .ok (.aload_n 0, 1) := by decide +kernel
theorem d_X12_readMap_170 : decode Y_X12_readMap.cc 170 = .ok (.getfield 72, 3) := by decide +kernel
theorem d_X12_readMap_173 : decode Y_X12_readMap.cc 173 = .ok (.bipush 120, 2) := by decide +kernel
theorem d_X12_readMap_175 : decode Y_X12_readMap.cc 175 = .ok (.dup2, 1) := by decide +kernel
theorem d_X12_readMap_176 : decode Y_X12_readMap.cc 176 = .ok (.iaload, 1) := by decide +kernel
theorem d_X12_readMap_177 : decode Y_X12_readMap.cc 177 = .ok (.iconst 1, 1) := by decide +kernel
theorem d_X12_readMap_178 : decode Y_X12_readMap.cc 178 = .ok (.iadd, 1) := by decide +kernel
theorem d_X12_readMap_179 : decode Y_X12_readMap.cc 179 = .ok (.iastore, 1) := by decide +kernel
theorem d_X12_readMap_180 : decode Y_X12_readMap.cc 180 = .ok (.return_, 1) := by decide +kernel
def L_X12_readMap_82 (G : MG) (d : Nat) (Q : Mm → Prop) (x2 : Int32) (x3 : Int32) (x4 : Int32) (M : Mm) : Prop := T G Y_X12_readMap (d + 1) (Rv Q) 0 0 82 [(0, .ref (G.b + 147)), (2, .int x2), (3, .int x3), (4, .int x4)] [] M
theorem b_X12_readMap_82 {G : MG} {d : Nat} {Q : Mm → Prop} {x2 : Int32} {x3 : Int32} {x4 : Int32} {M : Mm} {c : Nat} (hL : Lay c M)  (h : (C G Y_X12_isSign d [.ref (G.b + 147), .int 44] M (Ri fun r2 M1 => M1.2.2 = M.2.2 ∧ ((r2 = 0 → ((¬ (M1.1 147 8) = 0 → Q M1) ∧ ((M1.1 147 8) = 0 → (C G Y_X12_common d [.long x3.toInt64, .long x4.toInt64] M1 (Rj fun r6 M5 => M5.2.2 = M1.2.2 ∧ (¬ r6.toInt32 = 0 ∧ (vp_in x2 240 ∧ ∀ M7 : Mm, M7 = sI M5 154 x2.toNatClampNeg (x3 / r6.toInt32) → (¬ r6.toInt32 = 0 ∧ (vp_in (x2 + 1) 240 ∧ ∀ M8 : Mm, M8 = sI M7 154 (x2 + 1).toNatClampNeg (x4 / r6.toInt32) → (∀ M9 : Mm, M9 = sI M8 154 (Int32.toNatClampNeg 120) ((M8.1 154 (Int32.toNatClampNeg 120)) + 1) → Q M9)))))))))) ∧ (¬ r2 = 0 → (vp_in (x2 + 3) 240 ∧ ((¬ (M1.1 154 (x2 + 3).toNatClampNeg) = 6 → (∀ M11 : Mm, M11 = sI M1 147 7 ((M1.1 147 7) + 1) → (C G Y_X12_takePoint d [.ref (G.b + 147), .int x2] M11 (Rv fun M12 => M12.2.2 = M11.2.2 ∧ L_X12_readMap_82 G d Q x2 x3 x4 M12)))) ∧ ((M1.1 154 (x2 + 3).toNatClampNeg) = 6 → (C G Y_X12_wrong d [.ref (G.b + 147), .int 5] M1 (Rv fun M13 => M13.2.2 = M1.2.2 ∧ Q M13)))))))))) : L_X12_readMap_82 G d Q x2 x3 x4 M := by
  unfold L_X12_readMap_82
  refine tw_aload_n 0 d_X12_readMap_82 rfl rfl ?_
  refine tw_bipush d_X12_readMap_83 kb_44 ?_
  refine tu_cVi (As := [.int 44]) cv_X12_123 hL s_147 rfl (Nat.le_of_ble_eq_true rfl) ⟨Nat.zero_le _, Nat.zero_le _⟩ d_X12_readMap_85 h (fun r2 M1 h => ?_)
  have hL_M1 : Lay c M1 := hL.to h.1
  replace h := h.2
  refine tw_if_eq 128 d_X12_readMap_88 (by decide) (fun z3 => ?_) (fun z3 => ?_)
  · replace h := h.1 z3
    refine tw_aload_n 0 d_X12_readMap_128 rfl rfl ?_
    refine tw_getI f_X12_120 hL_M1 s_147 (Or.inl rfl) d_X12_readMap_129 ?_
    refine tw_if_ne 180 d_X12_readMap_132 (by decide) (fun z4 => ?_) (fun z4 => ?_)
    · replace h := h.1 z4
      exact tw_vret rfl ⟨Nat.zero_le _, Nat.zero_le _⟩ d_X12_readMap_180 h
    · replace h := h.2 z4
      refine tw_iload_n 2 d_X12_readMap_135 rfl rfl ?_
      refine tw_i2l d_X12_readMap_136 ?_
      refine tw_iload 3 d_X12_readMap_137 rfl ?_
      refine tw_i2l d_X12_readMap_139 ?_
      refine tu_cSJ (As := [.long x3.toInt64, .long x4.toInt64]) cs_X12_179 rfl (Nat.le_of_ble_eq_true rfl) ⟨Nat.zero_le _, Nat.zero_le _⟩ d_X12_readMap_140 h (fun r6 M5 h => ?_)
      have hL_M5 : Lay c M5 := hL_M1.to h.1
      replace h := h.2
      refine tw_l2i d_X12_readMap_143 ?_
      refine tw_istore [(5, .int r6.toInt32), (0, .ref (G.b + 147)), (2, .int x2), (3, .int x3), (4, .int x4)] d_X12_readMap_144 (Nat.le_of_ble_eq_true rfl) rfl ?_
      refine tw_aload_n 1 d_X12_readMap_146 rfl rfl ?_
      refine tw_getR f_X12_72 hL_M5 s_147 ⟨rfl, rfl⟩ (rr_X12_11 s_147) d_X12_readMap_147 ?_
      refine tw_iload_n 2 d_X12_readMap_150 rfl rfl ?_
      refine tw_iload_n 3 d_X12_readMap_151 rfl rfl ?_
      refine tw_iload 0 d_X12_readMap_152 rfl ?_
      refine tw_idiv d_X12_readMap_154 h.1 ?_
      replace h := h.2
      refine tu_iast hL_M5 s_154 d_X12_readMap_155 h.1 (fun M7 e_M7 hL_M7 => ?_)
      replace h := h.2 M7 e_M7
      refine tw_aload_n 1 d_X12_readMap_156 rfl rfl ?_
      refine tw_getR f_X12_72 hL_M7 s_147 ⟨rfl, rfl⟩ (rr_X12_11 s_147) d_X12_readMap_157 ?_
      refine tw_iload_n 2 d_X12_readMap_160 rfl rfl ?_
      refine tw_iconst d_X12_readMap_161 k_1 ?_
      refine tw_iadd d_X12_readMap_162 ?_
      refine tw_iload 4 d_X12_readMap_163 rfl ?_
      refine tw_iload 0 d_X12_readMap_165 rfl ?_
      refine tw_idiv d_X12_readMap_167 h.1 ?_
      replace h := h.2
      refine tu_iast hL_M7 s_154 d_X12_readMap_168 h.1 (fun M8 e_M8 hL_M8 => ?_)
      replace h := h.2 M8 e_M8
      refine tw_aload_n 1 d_X12_readMap_169 rfl rfl ?_
      refine tw_getR f_X12_72 hL_M8 s_147 ⟨rfl, rfl⟩ (rr_X12_11 s_147) d_X12_readMap_170 ?_
      refine tw_bipush d_X12_readMap_173 kb_120 ?_
      refine tw_dup2 d_X12_readMap_175 rfl rfl ?_
      refine tw_iald hL_M8 s_154 d_X12_readMap_176 (by unfold vp_in; decide) ?_
      refine tw_iconst d_X12_readMap_177 k_1 ?_
      refine tw_iadd d_X12_readMap_178 ?_
      refine tu_iast hL_M8 s_154 d_X12_readMap_179 (by unfold vp_in; decide) (fun M9 e_M9 hL_M9 => ?_)
      replace h := h M9 e_M9
      exact tw_vret rfl ⟨Nat.zero_le _, Nat.zero_le _⟩ d_X12_readMap_180 h
  · replace h := h.2 z3
    refine tw_aload_n 0 d_X12_readMap_91 rfl rfl ?_
    refine tw_getR f_X12_72 hL_M1 s_147 ⟨rfl, rfl⟩ (rr_X12_11 s_147) d_X12_readMap_92 ?_
    refine tw_iload_n 1 d_X12_readMap_95 rfl rfl ?_
    refine tw_iconst d_X12_readMap_96 k_3 ?_
    refine tw_iadd d_X12_readMap_97 ?_
    refine tw_iald hL_M1 s_154 d_X12_readMap_98 h.1 ?_
    replace h := h.2
    refine tw_bipush d_X12_readMap_99 kb_6 ?_
    refine tw_icmp_ne 110 d_X12_readMap_101 (by decide) (fun z10 => ?_) (fun z10 => ?_)
    · replace h := h.1 z10
      refine tw_aload_n 0 d_X12_readMap_110 rfl rfl ?_
      refine tw_dup d_X12_readMap_111 rfl ?_
      refine tw_getI f_X12_117 hL_M1 s_147 (Or.inl rfl) d_X12_readMap_112 ?_
      refine tw_iconst d_X12_readMap_115 k_1 ?_
      refine tw_iadd d_X12_readMap_116 ?_
      refine tu_putI f_X12_117 hL_M1 s_147 rfl rfl d_X12_readMap_117 (fun M11 e_M11 hL_M11 => ?_)
      replace h := h M11 e_M11
      refine tw_aload_n 0 d_X12_readMap_120 rfl rfl ?_
      refine tw_iload_n 1 d_X12_readMap_121 rfl rfl ?_
      refine tu_cVv (As := [.int x2]) cv_X12_176 hL_M11 s_147 rfl (Nat.le_of_ble_eq_true rfl) ⟨Nat.zero_le _, Nat.zero_le _⟩ d_X12_readMap_122 h (fun M12 h => ?_)
      have hL_M12 : Lay c M12 := hL_M11.to h.1
      replace h := h.2
      refine tw_goto 82 d_X12_readMap_125 (by decide) ?_
      exact tw_lv [0, 1, 2, 3] rfl h
    · replace h := h.2 z10
      refine tw_aload_n 0 d_X12_readMap_104 rfl rfl ?_
      refine tw_iconst d_X12_readMap_105 k_5 ?_
      refine tu_cVv (As := [.int 5]) cv_X12_126 hL_M1 s_147 rfl (Nat.le_of_ble_eq_true rfl) ⟨Nat.zero_le _, Nat.zero_le _⟩ d_X12_readMap_106 h (fun M13 h => ?_)
      have hL_M13 : Lay c M13 := hL_M1.to h.1
      replace h := h.2
      exact tw_vret rfl ⟨Nat.zero_le _, Nat.zero_le _⟩ d_X12_readMap_109 h
theorem b_X12_readMap {G : MG} {d : Nat} {Q : Mm → Prop}  {M : Mm} {c : Nat} (hL : Lay c M)  (h : ((¬ (M.1 154 (Int32.toNatClampNeg 120)) = 7 → (C G Y_X12_readName d [.ref (G.b + 147)] M (Rv fun M2 => M2.2.2 = M.2.2 ∧ (C G Y_X12_takeAfter d [.ref (G.b + 147), .int 8, .int 1, .int 9] M2 (Ri fun r4 M3 => M3.2.2 = M2.2.2 ∧ (C G Y_X12_takeAfter d [.ref (G.b + 147), .int 9, .int 1, .int 9] M3 (Ri fun r6 M5 => M5.2.2 = M3.2.2 ∧ (C G Y_X12_takeAfter d [.ref (G.b + 147), .int 10, .int 0, .int 255] M5 (Ri fun r8 M7 => M7.2.2 = M5.2.2 ∧ (vp_in ((121 + (16 * (M.1 154 (Int32.toNatClampNeg 120)))) + 2) 240 ∧ ∀ M9 : Mm, M9 = sI M7 154 ((121 + (16 * (M.1 154 (Int32.toNatClampNeg 120)))) + 2).toNatClampNeg r8 → (C G Y_X12_takeWord d [.ref (G.b + 147), .int 11] M9 (Rv fun M10 => M10.2.2 = M9.2.2 ∧ (C G Y_X12_takePoint d [.ref (G.b + 147), .int (121 + (16 * (M.1 154 (Int32.toNatClampNeg 120))))] M10 (Rv fun M11 => M11.2.2 = M10.2.2 ∧ L_X12_readMap_82 G d Q (121 + (16 * (M.1 154 (Int32.toNatClampNeg 120)))) r4 r6 M11)))))))))))))) ∧ ((M.1 154 (Int32.toNatClampNeg 120)) = 7 → (C G Y_X12_wrong d [.ref (G.b + 147), .int 5] M (Rv fun M12 => M12.2.2 = M.2.2 ∧ Q M12))))) : C G Y_X12_readMap (d + 1) [.ref (G.b + 147)] M (Rv Q) := by
  refine C.of (by decide) (Nat.le_of_ble_eq_true rfl) (lv := [(0, .ref (G.b + 147))]) rfl ?_
  refine tw_aload_n 0 d_X12_readMap_0 rfl rfl ?_
  refine tw_getR f_X12_72 hL s_147 ⟨rfl, rfl⟩ (rr_X12_11 s_147) d_X12_readMap_1 ?_
  refine tw_bipush d_X12_readMap_4 kb_120 ?_
  refine tw_iald hL s_154 d_X12_readMap_6 (by unfold vp_in; decide) ?_
  refine tw_istore_n [(1, .int (M.1 154 (Int32.toNatClampNeg 120))), (0, .ref (G.b + 147))] d_X12_readMap_7 rfl (Nat.le_of_ble_eq_true rfl) rfl ?_
  refine tw_iload_n 0 d_X12_readMap_8 rfl rfl ?_
  refine tw_bipush d_X12_readMap_9 kb_7 ?_
  refine tw_icmp_ne 20 d_X12_readMap_11 (by decide) (fun z1 => ?_) (fun z1 => ?_)
  · replace h := h.1 z1
    refine tw_aload_n 1 d_X12_readMap_20 rfl rfl ?_
    refine tu_cVv (As := []) cv_X12_166 hL s_147 rfl (Nat.le_of_ble_eq_true rfl) ⟨Nat.zero_le _, Nat.zero_le _⟩ d_X12_readMap_21 h (fun M2 h => ?_)
    have hL_M2 : Lay c M2 := hL.to h.1
    replace h := h.2
    refine tw_bipush d_X12_readMap_24 kb_121 ?_
    refine tw_bipush d_X12_readMap_26 kb_16 ?_
    refine tw_iload_n 0 d_X12_readMap_28 rfl rfl ?_
    refine tw_imul d_X12_readMap_29 ?_
    refine tw_iadd d_X12_readMap_30 ?_
    refine tw_istore_n [(2, .int (121 + (16 * (M.1 154 (Int32.toNatClampNeg 120))))), (1, .int (M.1 154 (Int32.toNatClampNeg 120))), (0, .ref (G.b + 147))] d_X12_readMap_31 rfl (Nat.le_of_ble_eq_true rfl) rfl ?_
    refine tw_aload_n 2 d_X12_readMap_32 rfl rfl ?_
    refine tw_bipush d_X12_readMap_33 kb_8 ?_
    refine tw_iconst d_X12_readMap_35 k_1 ?_
    refine tw_bipush d_X12_readMap_36 kb_9 ?_
    refine tu_cVi (As := [.int 8, .int 1, .int 9]) cv_X12_172 hL_M2 s_147 rfl (Nat.le_of_ble_eq_true rfl) ⟨Nat.zero_le _, Nat.zero_le _⟩ d_X12_readMap_38 h (fun r4 M3 h => ?_)
    have hL_M3 : Lay c M3 := hL_M2.to h.1
    replace h := h.2
    refine tw_istore_n [(3, .int r4), (2, .int (121 + (16 * (M.1 154 (Int32.toNatClampNeg 120))))), (1, .int (M.1 154 (Int32.toNatClampNeg 120))), (0, .ref (G.b + 147))] d_X12_readMap_41 rfl (Nat.le_of_ble_eq_true rfl) rfl ?_
    refine tw_aload_n 3 d_X12_readMap_42 rfl rfl ?_
    refine tw_bipush d_X12_readMap_43 kb_9 ?_
    refine tw_iconst d_X12_readMap_45 k_1 ?_
    refine tw_bipush d_X12_readMap_46 kb_9 ?_
    refine tu_cVi (As := [.int 9, .int 1, .int 9]) cv_X12_172 hL_M3 s_147 rfl (Nat.le_of_ble_eq_true rfl) ⟨Nat.zero_le _, Nat.zero_le _⟩ d_X12_readMap_48 h (fun r6 M5 h => ?_)
    have hL_M5 : Lay c M5 := hL_M3.to h.1
    replace h := h.2
    refine tw_istore [(4, .int r6), (3, .int r4), (2, .int (121 + (16 * (M.1 154 (Int32.toNatClampNeg 120))))), (1, .int (M.1 154 (Int32.toNatClampNeg 120))), (0, .ref (G.b + 147))] d_X12_readMap_51 (Nat.le_of_ble_eq_true rfl) rfl ?_
    refine tw_aload_n 4 d_X12_readMap_53 rfl rfl ?_
    refine tw_getR f_X12_72 hL_M5 s_147 ⟨rfl, rfl⟩ (rr_X12_11 s_147) d_X12_readMap_54 ?_
    refine tw_iload_n 2 d_X12_readMap_57 rfl rfl ?_
    refine tw_iconst d_X12_readMap_58 k_2 ?_
    refine tw_iadd d_X12_readMap_59 ?_
    refine tw_aload_n 4 d_X12_readMap_60 rfl rfl ?_
    refine tw_bipush d_X12_readMap_61 kb_10 ?_
    refine tw_iconst d_X12_readMap_63 k_0 ?_
    refine tw_sipush d_X12_readMap_64 ks_255 ?_
    refine tu_cVi (As := [.int 10, .int 0, .int 255]) cv_X12_172 hL_M5 s_147 rfl (Nat.le_of_ble_eq_true rfl) ⟨Nat.zero_le _, Nat.zero_le _⟩ d_X12_readMap_67 h (fun r8 M7 h => ?_)
    have hL_M7 : Lay c M7 := hL_M5.to h.1
    replace h := h.2
    refine tu_iast hL_M7 s_154 d_X12_readMap_70 h.1 (fun M9 e_M9 hL_M9 => ?_)
    replace h := h.2 M9 e_M9
    refine tw_aload_n 4 d_X12_readMap_71 rfl rfl ?_
    refine tw_bipush d_X12_readMap_72 kb_11 ?_
    refine tu_cVv (As := [.int 11]) cv_X12_136 hL_M9 s_147 rfl (Nat.le_of_ble_eq_true rfl) ⟨Nat.zero_le _, Nat.zero_le _⟩ d_X12_readMap_74 h (fun M10 h => ?_)
    have hL_M10 : Lay c M10 := hL_M9.to h.1
    replace h := h.2
    refine tw_aload_n 4 d_X12_readMap_77 rfl rfl ?_
    refine tw_iload_n 2 d_X12_readMap_78 rfl rfl ?_
    refine tu_cVv (As := [.int (121 + (16 * (M.1 154 (Int32.toNatClampNeg 120))))]) cv_X12_176 hL_M10 s_147 rfl (Nat.le_of_ble_eq_true rfl) ⟨Nat.zero_le _, Nat.zero_le _⟩ d_X12_readMap_79 h (fun M11 h => ?_)
    have hL_M11 : Lay c M11 := hL_M10.to h.1
    replace h := h.2
    exact tw_lv [4, 2, 1, 0] rfl h
  · replace h := h.2 z1
    refine tw_aload_n 1 d_X12_readMap_14 rfl rfl ?_
    refine tw_iconst d_X12_readMap_15 k_5 ?_
    refine tu_cVv (As := [.int 5]) cv_X12_126 hL s_147 rfl (Nat.le_of_ble_eq_true rfl) ⟨Nat.zero_le _, Nat.zero_le _⟩ d_X12_readMap_16 h (fun M12 h => ?_)
    have hL_M12 : Lay c M12 := hL.to h.1
    replace h := h.2
    exact tw_vret rfl ⟨Nat.zero_le _, Nat.zero_le _⟩ d_X12_readMap_19 h

theorem d_X12_takePoint_0 : decode Y_X12_takePoint.cc 0 = .ok (.iload_n 1, 1) := by decide +kernel
theorem d_X12_takePoint_1 : decode Y_X12_takePoint.cc 1 = .ok (.iconst 4, 1) := by decide +kernel
theorem d_X12_takePoint_2 : decode Y_X12_takePoint.cc 2 = .ok (.iadd, 1) := by decide +kernel
theorem d_X12_takePoint_3 : decode Y_X12_takePoint.cc 3 = .ok (.iconst 2, 1) := by decide +kernel
theorem d_X12_takePoint_4 : decode Y_X12_takePoint.cc 4 = .ok (.aload_n 0, 1) := by decide +kernel
theorem d_X12_takePoint_5 : decode Y_X12_takePoint.cc 5 = .ok (.getfield 72, 3) := by decide +kernel
theorem d_X12_takePoint_8 : decode Y_X12_takePoint.cc 8 = .ok (.iload_n 1, 1) := by decide +kernel
theorem d_X12_takePoint_9 : decode Y_X12_takePoint.cc 9 = .ok (.iconst 3, 1) := by decide +kernel
theorem d_X12_takePoint_10 : decode Y_X12_takePoint.cc 10 = .ok (.iadd, 1) := by decide +kernel
theorem d_X12_takePoint_11 : decode Y_X12_takePoint.cc 11 = .ok (.iaload, 1) := by decide +kernel
theorem d_X12_takePoint_12 : decode Y_X12_takePoint.cc 12 = .ok (.imul, 1) := by decide +kernel
theorem d_X12_takePoint_13 : decode Y_X12_takePoint.cc 13 = .ok (.iadd, 1) := by decide +kernel
theorem d_X12_takePoint_14 : decode Y_X12_takePoint.cc 14 = .ok (.istore_n 2, 1) := by decide +kernel
theorem d_X12_takePoint_15 : decode Y_X12_takePoint.cc 15 = .ok (.aload_n 0, 1) := by decide +kernel
theorem d_X12_takePoint_16 : decode Y_X12_takePoint.cc 16 = .ok (.getfield 72, 3) := by decide +kernel
theorem d_X12_takePoint_19 : decode Y_X12_takePoint.cc 19 = .ok (.iload_n 2, 1) := by decide +kernel
theorem d_X12_takePoint_20 : decode Y_X12_takePoint.cc 20 = .ok (.aload_n 0, 1) := by decide +kernel
theorem d_X12_takePoint_21 : decode Y_X12_takePoint.cc 21 = .ok (.iconst 0, 1) := by decide +kernel
theorem d_X12_takePoint_22 : decode Y_X12_takePoint.cc 22 = .ok (.bipush 99, 2) := by decide +kernel
theorem d_X12_takePoint_24 : decode Y_X12_takePoint.cc 24 = .ok (.invokevirtual 139, 3) := by decide +kernel
theorem d_X12_takePoint_27 : decode Y_X12_takePoint.cc 27 = .ok (.iastore, 1) := by decide +kernel
theorem d_X12_takePoint_28 : decode Y_X12_takePoint.cc 28 = .ok (.aload_n 0, 1) := by decide +kernel
theorem d_X12_takePoint_29 : decode Y_X12_takePoint.cc 29 = .ok (.getfield 72, 3) := by decide +kernel
theorem d_X12_takePoint_32 : decode Y_X12_takePoint.cc 32 = .ok (.iload_n 2, 1) := by decide +kernel
theorem d_X12_takePoint_33 : decode Y_X12_takePoint.cc 33 = .ok (.iconst 1, 1) := by decide +kernel
theorem d_X12_takePoint_34 : decode Y_X12_takePoint.cc 34 = .ok (.iadd, 1) := by decide +kernel
theorem d_X12_takePoint_35 : decode Y_X12_takePoint.cc 35 = .ok (.aload_n 0, 1) := by decide +kernel
theorem d_X12_takePoint_36 : decode Y_X12_takePoint.cc 36 = .ok (.iconst 0, 1) := by decide +kernel
theorem d_X12_takePoint_37 : decode Y_X12_takePoint.cc 37 = .ok (.bipush 99, 2) := by decide +kernel
theorem d_X12_takePoint_39 : decode Y_X12_takePoint.cc 39 = .ok (.invokevirtual 139, 3) := by decide +kernel
theorem d_X12_takePoint_42 : decode Y_X12_takePoint.cc 42 = .ok (.iastore, 1) := by decide +kernel
theorem d_X12_takePoint_43 : decode Y_X12_takePoint.cc 43 = .ok (.aload_n 0, 1) := by decide +kernel
theorem d_X12_takePoint_44 : decode Y_X12_takePoint.cc 44 = .ok (.getfield 72, 3) := by decide +kernel
theorem d_X12_takePoint_47 : decode Y_X12_takePoint.cc 47 = .ok (.iload_n 1, 1) := by decide +kernel
theorem d_X12_takePoint_48 : decode Y_X12_takePoint.cc 48 = .ok (.iconst 3, 1) := by decide +kernel
theorem d_X12_takePoint_49 : decode Y_X12_takePoint.cc 49 = .ok (.iadd, 1) := by decide +kernel
theorem d_X12_takePoint_50 : decode Y_X12_takePoint.cc 50 = .ok (.dup2, 1) := by decide +kernel
theorem d_X12_takePoint_51 : decode Y_X12_takePoint.cc 51 = .ok (.iaload, 1) := by decide +kernel
theorem d_X12_takePoint_52 : decode Y_X12_takePoint.cc 52 = .ok (.iconst 1, 1) := by decide +kernel
theorem d_X12_takePoint_53 : decode Y_X12_takePoint.cc 53 = .ok (.iadd, 1) := by decide +kernel
theorem d_X12_takePoint_54 : decode Y_X12_takePoint.cc 54 = .ok (.iastore, 1) := by decide +kernel
theorem d_X12_takePoint_55 : decode Y_X12_takePoint.cc 55 = .ok (.return_, 1) := by decide +kernel
theorem b_X12_takePoint {G : MG} {d : Nat} {Q : Mm → Prop} {x1 : Int32} {M : Mm} {c : Nat} (hL : Lay c M)  (h : (vp_in (x1 + 3) 240 ∧ (C G Y_X12_takeNumber d [.ref (G.b + 147), .int 0, .int 99] M (Ri fun r2 M1 => M1.2.2 = M.2.2 ∧ (vp_in ((x1 + 4) + (2 * (M.1 154 (x1 + 3).toNatClampNeg))) 240 ∧ ∀ M3 : Mm, M3 = sI M1 154 ((x1 + 4) + (2 * (M.1 154 (x1 + 3).toNatClampNeg))).toNatClampNeg r2 → (C G Y_X12_takeNumber d [.ref (G.b + 147), .int 0, .int 99] M3 (Ri fun r5 M4 => M4.2.2 = M3.2.2 ∧ (vp_in (((x1 + 4) + (2 * (M.1 154 (x1 + 3).toNatClampNeg))) + 1) 240 ∧ ∀ M6 : Mm, M6 = sI M4 154 (((x1 + 4) + (2 * (M.1 154 (x1 + 3).toNatClampNeg))) + 1).toNatClampNeg r5 → (vp_in (x1 + 3) 240 ∧ (vp_in (x1 + 3) 240 ∧ ∀ M7 : Mm, M7 = sI M6 154 (x1 + 3).toNatClampNeg ((M6.1 154 (x1 + 3).toNatClampNeg) + 1) → Q M7)))))))))) : C G Y_X12_takePoint (d + 1) [.ref (G.b + 147), .int x1] M (Rv Q) := by
  refine C.of (by decide) (Nat.le_of_ble_eq_true rfl) (lv := [(0, .ref (G.b + 147)), (1, .int x1)]) rfl ?_
  refine tw_iload_n 1 d_X12_takePoint_0 rfl rfl ?_
  refine tw_iconst d_X12_takePoint_1 k_4 ?_
  refine tw_iadd d_X12_takePoint_2 ?_
  refine tw_iconst d_X12_takePoint_3 k_2 ?_
  refine tw_aload_n 0 d_X12_takePoint_4 rfl rfl ?_
  refine tw_getR f_X12_72 hL s_147 ⟨rfl, rfl⟩ (rr_X12_11 s_147) d_X12_takePoint_5 ?_
  refine tw_iload_n 1 d_X12_takePoint_8 rfl rfl ?_
  refine tw_iconst d_X12_takePoint_9 k_3 ?_
  refine tw_iadd d_X12_takePoint_10 ?_
  refine tw_iald hL s_154 d_X12_takePoint_11 h.1 ?_
  replace h := h.2
  refine tw_imul d_X12_takePoint_12 ?_
  refine tw_iadd d_X12_takePoint_13 ?_
  refine tw_istore_n [(2, .int ((x1 + 4) + (2 * (M.1 154 (x1 + 3).toNatClampNeg)))), (0, .ref (G.b + 147)), (1, .int x1)] d_X12_takePoint_14 rfl (Nat.le_of_ble_eq_true rfl) rfl ?_
  refine tw_aload_n 1 d_X12_takePoint_15 rfl rfl ?_
  refine tw_getR f_X12_72 hL s_147 ⟨rfl, rfl⟩ (rr_X12_11 s_147) d_X12_takePoint_16 ?_
  refine tw_iload_n 0 d_X12_takePoint_19 rfl rfl ?_
  refine tw_aload_n 1 d_X12_takePoint_20 rfl rfl ?_
  refine tw_iconst d_X12_takePoint_21 k_0 ?_
  refine tw_bipush d_X12_takePoint_22 kb_99 ?_
  refine tu_cVi (As := [.int 0, .int 99]) cv_X12_139 hL s_147 rfl (Nat.le_of_ble_eq_true rfl) ⟨Nat.zero_le _, Nat.zero_le _⟩ d_X12_takePoint_24 h (fun r2 M1 h => ?_)
  have hL_M1 : Lay c M1 := hL.to h.1
  replace h := h.2
  refine tu_iast hL_M1 s_154 d_X12_takePoint_27 h.1 (fun M3 e_M3 hL_M3 => ?_)
  replace h := h.2 M3 e_M3
  refine tw_aload_n 1 d_X12_takePoint_28 rfl rfl ?_
  refine tw_getR f_X12_72 hL_M3 s_147 ⟨rfl, rfl⟩ (rr_X12_11 s_147) d_X12_takePoint_29 ?_
  refine tw_iload_n 0 d_X12_takePoint_32 rfl rfl ?_
  refine tw_iconst d_X12_takePoint_33 k_1 ?_
  refine tw_iadd d_X12_takePoint_34 ?_
  refine tw_aload_n 1 d_X12_takePoint_35 rfl rfl ?_
  refine tw_iconst d_X12_takePoint_36 k_0 ?_
  refine tw_bipush d_X12_takePoint_37 kb_99 ?_
  refine tu_cVi (As := [.int 0, .int 99]) cv_X12_139 hL_M3 s_147 rfl (Nat.le_of_ble_eq_true rfl) ⟨Nat.zero_le _, Nat.zero_le _⟩ d_X12_takePoint_39 h (fun r5 M4 h => ?_)
  have hL_M4 : Lay c M4 := hL_M3.to h.1
  replace h := h.2
  refine tu_iast hL_M4 s_154 d_X12_takePoint_42 h.1 (fun M6 e_M6 hL_M6 => ?_)
  replace h := h.2 M6 e_M6
  refine tw_aload_n 1 d_X12_takePoint_43 rfl rfl ?_
  refine tw_getR f_X12_72 hL_M6 s_147 ⟨rfl, rfl⟩ (rr_X12_11 s_147) d_X12_takePoint_44 ?_
  refine tw_iload_n 2 d_X12_takePoint_47 rfl rfl ?_
  refine tw_iconst d_X12_takePoint_48 k_3 ?_
  refine tw_iadd d_X12_takePoint_49 ?_
  refine tw_dup2 d_X12_takePoint_50 rfl rfl ?_
  refine tw_iald hL_M6 s_154 d_X12_takePoint_51 h.1 ?_
  replace h := h.2
  refine tw_iconst d_X12_takePoint_52 k_1 ?_
  refine tw_iadd d_X12_takePoint_53 ?_
  refine tu_iast hL_M6 s_154 d_X12_takePoint_54 h.1 (fun M7 e_M7 hL_M7 => ?_)
  replace h := h.2 M7 e_M7
  exact tw_vret rfl ⟨Nat.zero_le _, Nat.zero_le _⟩ d_X12_takePoint_55 h
