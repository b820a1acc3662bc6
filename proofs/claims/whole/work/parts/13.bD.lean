theorem d_X11_feed_0 : decode Y_X11_feed.cc 0 = .ok (.aload_n 0, 1) := by decide +kernel
theorem d_X11_feed_1 : decode Y_X11_feed.cc 1 = .ok (.getfield 10, 3) := by decide +kernel
theorem d_X11_feed_4 : decode Y_X11_feed.cc 4 = .ok (.lload_n 1, 1) := by decide +kernel
theorem d_X11_feed_5 : decode Y_X11_feed.cc 5 = .ok (.invokevirtual 83, 3) := by decide +kernel
theorem d_X11_feed_8 : decode Y_X11_feed.cc 8 = .ok (.aload_n 0, 1) := by decide +kernel
theorem d_X11_feed_9 : decode Y_X11_feed.cc 9 = .ok (.getfield 10, 3) := by decide +kernel
theorem d_X11_feed_12 : decode Y_X11_feed.cc 12 = .ok (.lload_n 3, 1) := by decide +kernel
theorem d_X11_feed_13 : decode Y_X11_feed.cc 13 = .ok (.invokevirtual 83, 3) := by decide +kernel
theorem d_X11_feed_16 : decode Y_X11_feed.cc 16 = .ok (.aload_n 0, 1) := by decide +kernel
theorem d_X11_feed_17 : decode Y_X11_feed.cc 17 = .ok (.getfield 10, 3) := by decide +kernel
theorem d_X11_feed_20 : decode Y_X11_feed.cc 20 = .ok (.lload 5, 2) := by decide +kernel
theorem d_X11_feed_22 : decode Y_X11_feed.cc 22 = .ok (.invokevirtual 83, 3) := by decide +kernel
theorem d_X11_feed_25 : decode Y_X11_feed.cc 25 = .ok (.aload_n 0, 1) := by decide +kernel
theorem d_X11_feed_26 : decode Y_X11_feed.cc 26 = .ok (.getfield 10, 3) := by decide +kernel
theorem d_X11_feed_29 : decode Y_X11_feed.cc 29 = .ok (.getfield 87, 3) := by decide +kernel
theorem d_X11_feed_32 : decode Y_X11_feed.cc 32 = .ok (.ireturn, 1) := by decide +kernel
theorem b_X11_feed {G : MG} {d : Nat} {Q : Int32 → Mm → Prop} {y1 : Int64} {y3 : Int64} {y5 : Int64} {M : Mm} {c : Nat} (hL : Lay c M)  (h : (C G Y_X10_add d [.ref (G.b + 1), .long y1] M (Rv fun M1 => M1.2.2 = M.2.2 ∧ (C G Y_X10_add d [.ref (G.b + 1), .long y3] M1 (Rv fun M2 => M2.2.2 = M1.2.2 ∧ (C G Y_X10_add d [.ref (G.b + 1), .long y5] M2 (Rv fun M3 => M3.2.2 = M2.2.2 ∧ Q (M3.1 1 0) M3))))))) : C G Y_X11_feed (d + 1) [.ref (G.b + 0), .long y1, .long y3, .long y5] M (Ri Q) := by
  refine C.of (by decide) (Nat.le_of_ble_eq_true rfl) (lv := [(0, .ref (G.b + 0)), (1, .long y1), (3, .long y3), (5, .long y5)]) rfl ?_
  refine tw_aload_n 0 d_X11_feed_0 rfl rfl ?_
  refine tw_getR f_X11_10 hL s_0 ⟨rfl, rfl⟩ (rr_X11_0 s_0) d_X11_feed_1 ?_
  refine tw_lload_n 1 d_X11_feed_4 rfl rfl ?_
  refine tu_cVv (As := [.long y1]) cv_X11_83 hL s_1 rfl (Nat.le_of_ble_eq_true rfl) ⟨Nat.zero_le _, Nat.zero_le _⟩ d_X11_feed_5 h (fun M1 h => ?_)
  have hL_M1 : Lay c M1 := hL.to h.1
  replace h := h.2
  refine tw_aload_n 0 d_X11_feed_8 rfl rfl ?_
  refine tw_getR f_X11_10 hL_M1 s_0 ⟨rfl, rfl⟩ (rr_X11_0 s_0) d_X11_feed_9 ?_
  refine tw_lload_n 2 d_X11_feed_12 rfl rfl ?_
  refine tu_cVv (As := [.long y3]) cv_X11_83 hL_M1 s_1 rfl (Nat.le_of_ble_eq_true rfl) ⟨Nat.zero_le _, Nat.zero_le _⟩ d_X11_feed_13 h (fun M2 h => ?_)
  have hL_M2 : Lay c M2 := hL_M1.to h.1
  replace h := h.2
  refine tw_aload_n 0 d_X11_feed_16 rfl rfl ?_
  refine tw_getR f_X11_10 hL_M2 s_0 ⟨rfl, rfl⟩ (rr_X11_0 s_0) d_X11_feed_17 ?_
  refine tw_lload 3 d_X11_feed_20 rfl ?_
  refine tu_cVv (As := [.long y5]) cv_X11_83 hL_M2 s_1 rfl (Nat.le_of_ble_eq_true rfl) ⟨Nat.zero_le _, Nat.zero_le _⟩ d_X11_feed_22 h (fun M3 h => ?_)
  have hL_M3 : Lay c M3 := hL_M2.to h.1
  replace h := h.2
  refine tw_aload_n 0 d_X11_feed_25 rfl rfl ?_
  refine tw_getR f_X11_10 hL_M3 s_0 ⟨rfl, rfl⟩ (rr_X11_0 s_0) d_X11_feed_26 ?_
  refine tw_getI f_X11_87 hL_M3 s_1 (Or.inl rfl) d_X11_feed_29 ?_
  exact tw_iret rfl ⟨Nat.zero_le _, Nat.zero_le _⟩ d_X11_feed_32 h

theorem d_X11_arm_0 : decode Y_X11_arm.cc 0 = .ok (.aload_n 0, 1) := by decide +kernel
theorem d_X11_arm_1 : decode Y_X11_arm.cc 1 = .ok (.getfield 19, 3) := by decide +kernel
theorem d_X11_arm_4 : decode Y_X11_arm.cc 4 = .ok (.iload_n 1, 1) := by decide +kernel
theorem d_X11_arm_5 : decode Y_X11_arm.cc 5 = .ok (.invokevirtual 98, 3) := by decide +kernel
theorem d_X11_arm_8 : decode Y_X11_arm.cc 8 = .ok (.ifCond .ne 5, 3) := by decide +kernel
theorem d_X11_arm_11 : decode Y_X11_arm.cc 11 = .ok (.iconst (-1), 1) := by decide +kernel
theorem d_X11_arm_12 : decode Y_X11_arm.cc 12 = .ok (.ireturn, 1) := by decide +kernel
theorem d_X11_arm_13 : decode Y_X11_arm.cc 13 = .ok (.iload_n 2, 1) := by decide +kernel
theorem d_X11_arm_14 : decode Y_X11_arm.cc 14 = .ok (.tableswitch 166 0 9 #[54, 67, 77, 87, 97, 107, 117, 130, 143, 153], 54) := by decide +kernel
theorem d_X11_arm_68 : decode Y_X11_arm.cc 68 = .ok (.aload_n 0, 1) := by decide +kernel
theorem d_X11_arm_69 : decode Y_X11_arm.cc 69 = .ok (.getfield 19, 3) := by decide +kernel
theorem d_X11_arm_72 : decode Y_X11_arm.cc 72 = .ok (.getfield 102, 3) := by decide +kernel
theorem d_X11_arm_75 : decode Y_X11_arm.cc 75 = .ok (.iload_n 1, 1) := by decide +kernel
theorem d_X11_arm_76 : decode Y_X11_arm.cc 76 = .ok (.aaload, 1) := by decide +kernel
theorem d_X11_arm_77 : decode Y_X11_arm.cc 77 = .ok (.getfield 106, 3) := by decide +kernel
theorem d_X11_arm_80 : decode Y_X11_arm.cc 80 = .ok (.ireturn, 1) := by decide +kernel
theorem d_X11_arm_81 : decode Y_X11_arm.cc 81 = .ok (.aload_n 0, 1) := by decide +kernel
theorem d_X11_arm_82 : decode Y_X11_arm.cc 82 = .ok (.getfield 29, 3) := by decide +kernel
theorem d_X11_arm_85 : decode Y_X11_arm.cc 85 = .ok (.getfield 111, 3) := by decide +kernel
theorem d_X11_arm_88 : decode Y_X11_arm.cc 88 = .ok (.iload_n 1, 1) := by decide +kernel
theorem d_X11_arm_89 : decode Y_X11_arm.cc 89 = .ok (.iaload, 1) := by decide +kernel
theorem d_X11_arm_90 : decode Y_X11_arm.cc 90 = .ok (.ireturn, 1) := by decide +kernel
theorem d_X11_arm_91 : decode Y_X11_arm.cc 91 = .ok (.aload_n 0, 1) := by decide +kernel
theorem d_X11_arm_92 : decode Y_X11_arm.cc 92 = .ok (.getfield 29, 3) := by decide +kernel
theorem d_X11_arm_95 : decode Y_X11_arm.cc 95 = .ok (.getfield 115, 3) := by decide +kernel
theorem d_X11_arm_98 : decode Y_X11_arm.cc 98 = .ok (.iload_n 1, 1) := by decide +kernel
theorem d_X11_arm_99 : decode Y_X11_arm.cc 99 = .ok (.iaload, 1) := by decide +kernel
theorem d_X11_arm_100 : decode Y_X11_arm.cc 100 = .ok (.ireturn, 1) := by decide +kernel
theorem d_X11_arm_101 : decode Y_X11_arm.cc 101 = .ok (.aload_n 0, 1) := by decide +kernel
theorem d_X11_arm_102 : decode Y_X11_arm.cc 102 = .ok (.getfield 29, 3) := by decide +kernel
theorem d_X11_arm_105 : decode Y_X11_arm.cc 105 = .ok (.getfield 118, 3) := by decide +kernel
theorem d_X11_arm_108 : decode Y_X11_arm.cc 108 = .ok (.iload_n 1, 1) := by decide +kernel
theorem d_X11_arm_109 : decode Y_X11_arm.cc 109 = .ok (.iaload, 1) := by decide +kernel
theorem d_X11_arm_110 : decode Y_X11_arm.cc 110 = .ok (.ireturn, 1) := by decide +kernel
theorem d_X11_arm_111 : decode Y_X11_arm.cc 111 = .ok (.aload_n 0, 1) := by decide +kernel
theorem d_X11_arm_112 : decode Y_X11_arm.cc 112 = .ok (.getfield 29, 3) := by decide +kernel
theorem d_X11_arm_115 : decode Y_X11_arm.cc 115 = .ok (.getfield 121, 3) := by decide +kernel
theorem d_X11_arm_118 : decode Y_X11_arm.cc 118 = .ok (.iload_n 1, 1) := by decide +kernel
theorem d_X11_arm_119 : decode Y_X11_arm.cc 119 = .ok (.iaload, 1) := by decide +kernel
theorem d_X11_arm_120 : decode Y_X11_arm.cc 120 = .ok (.ireturn, 1) := by decide +kernel
theorem d_X11_arm_121 : decode Y_X11_arm.cc 121 = .ok (.aload_n 0, 1) := by decide +kernel
theorem d_X11_arm_122 : decode Y_X11_arm.cc 122 = .ok (.getfield 29, 3) := by decide +kernel
theorem d_X11_arm_125 : decode Y_X11_arm.cc 125 = .ok (.getfield 124, 3) := by decide +kernel
theorem d_X11_arm_128 : decode Y_X11_arm.cc 128 = .ok (.iload_n 1, 1) := by decide +kernel
theorem d_X11_arm_129 : decode Y_X11_arm.cc 129 = .ok (.iaload, 1) := by decide +kernel
theorem d_X11_arm_130 : decode Y_X11_arm.cc 130 = .ok (.ireturn, 1) := by decide +kernel
theorem d_X11_arm_131 : decode Y_X11_arm.cc 131 = .ok (.aload_n 0, 1) := by decide +kernel
theorem d_X11_arm_132 : decode Y_X11_arm.cc 132 = .ok (.getfield 19, 3) := by decide +kernel
theorem d_X11_arm_135 : decode Y_X11_arm.cc 135 = .ok (.getfield 102, 3) := by decide +kernel
theorem d_X11_arm_138 : decode Y_X11_arm.cc 138 = .ok (.iload_n 1, 1) := by decide +kernel
theorem d_X11_arm_139 : decode Y_X11_arm.cc 139 = .ok (.aaload, 1) := by decide +kernel
theorem d_X11_arm_140 : decode Y_X11_arm.cc 140 = .ok (.getfield 127, 3) := by decide +kernel
theorem d_X11_arm_143 : decode Y_X11_arm.cc 143 = .ok (.ireturn, 1) := by decide +kernel
theorem d_X11_arm_144 : decode Y_X11_arm.cc 144 = .ok (.aload_n 0, 1) := by decide +kernel
theorem d_X11_arm_145 : decode Y_X11_arm.cc 145 = .ok (.getfield 19, 3) := by decide +kernel
theorem d_X11_arm_148 : decode Y_X11_arm.cc 148 = .ok (.getfield 102, 3) := by decide +kernel
theorem d_X11_arm_151 : decode Y_X11_arm.cc 151 = .ok (.iload_n 1, 1) := by decide +kernel
theorem d_X11_arm_152 : decode Y_X11_arm.cc 152 = .ok (.aaload, 1) := by decide +kernel
theorem d_X11_arm_153 : decode Y_X11_arm.cc 153 = .ok (.getfield 130, 3) := by decide +kernel
theorem d_X11_arm_156 : decode Y_X11_arm.cc 156 = .ok (.ireturn, 1) := by decide +kernel
theorem d_X11_arm_157 : decode Y_X11_arm.cc 157 = .ok (.aload_n 0, 1) := by decide +kernel
theorem d_X11_arm_158 : decode Y_X11_arm.cc 158 = .ok (.getfield 29, 3) := by decide +kernel
theorem d_X11_arm_161 : decode Y_X11_arm.cc 161 = .ok (.getfield 133, 3) := by decide +kernel
theorem d_X11_arm_164 : decode Y_X11_arm.cc 164 = .ok (.iload_n 1, 1) := by decide +kernel
theorem d_X11_arm_165 : decode Y_X11_arm.cc 165 = .ok (.iaload, 1) := by decide +kernel
theorem d_X11_arm_166 : decode Y_X11_arm.cc 166 = .ok (.ireturn, 1) := by decide +kernel
theorem d_X11_arm_167 : decode Y_X11_arm.cc 167 = .ok (.aload_n 0, 1) := by decide +kernel
theorem d_X11_arm_168 : decode Y_X11_arm.cc 168 = .ok (.getfield 19, 3) := by decide +kernel
theorem d_X11_arm_171 : decode Y_X11_arm.cc 171 = .ok (.getfield 102, 3) := by decide +kernel
theorem d_X11_arm_174 : decode Y_X11_arm.cc 174 = .ok (.iload_n 1, 1) := by decide +kernel
theorem d_X11_arm_175 : decode Y_X11_arm.cc 175 = .ok (.aaload, 1) := by decide +kernel
theorem d_X11_arm_176 : decode Y_X11_arm.cc 176 = .ok (.getfield 136, 3) := by decide +kernel
theorem d_X11_arm_179 : decode Y_X11_arm.cc 179 = .ok (.ireturn, 1) := by decide +kernel
theorem d_X11_arm_180 : decode Y_X11_arm.cc 180 = .ok (.iconst (-1), 1) := by decide +kernel
theorem d_X11_arm_181 : decode Y_X11_arm.cc 181 = .ok (.ireturn, 1) := by decide +kernel
theorem b_X11_arm {G : MG} {d : Nat} {Q : Int32 → Mm → Prop} {x1 : Int32} {x2 : Int32} {M : Mm} {c : Nat} (hL : Lay c M) (hc : c = 3 ∨ c = 39)  (h : (C G Y_X5_hasArm d [.ref (G.b + c), .int x1] M (Ri fun r2 M1 => M1.2.2 = M.2.2 ∧ ((¬ r2 = 0 → ((x2 = 0 → (vp_in x1 6 ∧ Q (M1.1 ((c + 1) + 2 + 2 * x1.toNatClampNeg) 1) M1)) ∧ (x2 = 1 → (vp_in x1 6 ∧ Q (M1.1 76 x1.toNatClampNeg) M1)) ∧ (x2 = 2 → (vp_in x1 6 ∧ Q (M1.1 77 x1.toNatClampNeg) M1)) ∧ (x2 = 3 → (vp_in x1 6 ∧ Q (M1.1 78 x1.toNatClampNeg) M1)) ∧ (x2 = 4 → (vp_in x1 6 ∧ Q (M1.1 79 x1.toNatClampNeg) M1)) ∧ (x2 = 5 → (vp_in x1 6 ∧ Q (M1.1 80 x1.toNatClampNeg) M1)) ∧ (x2 = 6 → (vp_in x1 6 ∧ Q (M1.1 ((c + 1) + 2 + 2 * x1.toNatClampNeg) 7) M1)) ∧ (x2 = 7 → (vp_in x1 6 ∧ Q (M1.1 ((c + 1) + 2 + 2 * x1.toNatClampNeg) 8) M1)) ∧ (x2 = 8 → (vp_in x1 6 ∧ Q (M1.1 81 x1.toNatClampNeg) M1)) ∧ (x2 = 9 → (vp_in x1 6 ∧ Q (M1.1 ((c + 1) + 2 + 2 * x1.toNatClampNeg) 3) M1)) ∧ (¬ x2 = 0 → ¬ x2 = 1 → ¬ x2 = 2 → ¬ x2 = 3 → ¬ x2 = 4 → ¬ x2 = 5 → ¬ x2 = 6 → ¬ x2 = 7 → ¬ x2 = 8 → ¬ x2 = 9 → Q (-1) M1))) ∧ (r2 = 0 → Q (-1) M1))))) : C G Y_X11_arm (d + 1) [.ref (G.b + 0), .int x1, .int x2] M (Ri Q) := by
  refine C.of (by decide) (Nat.le_of_ble_eq_true rfl) (lv := [(0, .ref (G.b + 0)), (1, .int x1), (2, .int x2)]) rfl ?_
  refine tw_aload_n 0 d_X11_arm_0 rfl rfl ?_
  refine tw_getR f_X11_19 hL s_0 ⟨rfl, rfl⟩ (rr_X11_1 s_0) d_X11_arm_1 ?_
  refine tw_iload_n 1 d_X11_arm_4 rfl rfl ?_
  refine tu_cVi (As := [.int x1]) cv_X11_98 hL (shc hc) rfl (Nat.le_of_ble_eq_true rfl) ⟨Nat.zero_le _, Nat.zero_le _⟩ d_X11_arm_5 h (fun r2 M1 h => ?_)
  have hL_M1 : Lay c M1 := hL.to h.1
  replace h := h.2
  refine tw_if_ne 13 d_X11_arm_8 (by decide) (fun z3 => ?_) (fun z3 => ?_)
  · replace h := h.1 z3
    refine tw_iload_n 2 d_X11_arm_13 rfl rfl ?_
    by_cases hz0 : x2 = 0
    · replace h := h.1 hz0
      refine tw_tabIn 68 d_X11_arm_14 (by rw [hz0]; decide) (by rw [hz0]; decide) (by rw [hz0]; rfl) (by decide) ?_
      refine tw_aload_n 0 d_X11_arm_68 rfl rfl ?_
      refine tw_getR f_X11_19 hL_M1 s_0 ⟨rfl, rfl⟩ (rr_X11_1 s_0) d_X11_arm_69 ?_
      refine tw_getR f_X11_102 hL_M1 (shc hc) ⟨rfl, rfl⟩ (rr_X5_0 (shc hc)) d_X11_arm_72 ?_
      refine tw_iload_n 1 d_X11_arm_75 rfl rfl ?_
      have hin := h.1
      refine tw_aald hL_M1 (sr_X5_0 (shc hc)) (by decide) (re_4 (sr_X5_0 (shc hc))) d_X11_arm_76 h.1 ?_
      have hs4 := se_4 (sr_X5_0 (shc hc)) (vp_lt h.1)
      replace h := h.2
      refine tw_getI f_X11_106 hL_M1 hs4 (Or.inl rfl) d_X11_arm_77 ?_
      exact tw_iret rfl ⟨Nat.zero_le _, Nat.zero_le _⟩ d_X11_arm_80 h
    by_cases hz1 : x2 = 1
    · replace h := h.2.1 hz1
      refine tw_tabIn 81 d_X11_arm_14 (by rw [hz1]; decide) (by rw [hz1]; decide) (by rw [hz1]; rfl) (by decide) ?_
      refine tw_aload_n 0 d_X11_arm_81 rfl rfl ?_
      refine tw_getR f_X11_29 hL_M1 s_0 ⟨rfl, rfl⟩ (rr_X11_3 s_0) d_X11_arm_82 ?_
      refine tw_getR f_X11_111 hL_M1 s_75 ⟨rfl, rfl⟩ (rr_X7_0 s_75) d_X11_arm_85 ?_
      refine tw_iload_n 1 d_X11_arm_88 rfl rfl ?_
      refine tw_iald hL_M1 s_76 d_X11_arm_89 h.1 ?_
      replace h := h.2
      exact tw_iret rfl ⟨Nat.zero_le _, Nat.zero_le _⟩ d_X11_arm_90 h
    by_cases hz2 : x2 = 2
    · replace h := h.2.2.1 hz2
      refine tw_tabIn 91 d_X11_arm_14 (by rw [hz2]; decide) (by rw [hz2]; decide) (by rw [hz2]; rfl) (by decide) ?_
      refine tw_aload_n 0 d_X11_arm_91 rfl rfl ?_
      refine tw_getR f_X11_29 hL_M1 s_0 ⟨rfl, rfl⟩ (rr_X11_3 s_0) d_X11_arm_92 ?_
      refine tw_getR f_X11_115 hL_M1 s_75 ⟨rfl, rfl⟩ (rr_X7_1 s_75) d_X11_arm_95 ?_
      refine tw_iload_n 1 d_X11_arm_98 rfl rfl ?_
      refine tw_iald hL_M1 s_77 d_X11_arm_99 h.1 ?_
      replace h := h.2
      exact tw_iret rfl ⟨Nat.zero_le _, Nat.zero_le _⟩ d_X11_arm_100 h
    by_cases hz3 : x2 = 3
    · replace h := h.2.2.2.1 hz3
      refine tw_tabIn 101 d_X11_arm_14 (by rw [hz3]; decide) (by rw [hz3]; decide) (by rw [hz3]; rfl) (by decide) ?_
      refine tw_aload_n 0 d_X11_arm_101 rfl rfl ?_
      refine tw_getR f_X11_29 hL_M1 s_0 ⟨rfl, rfl⟩ (rr_X11_3 s_0) d_X11_arm_102 ?_
      refine tw_getR f_X11_118 hL_M1 s_75 ⟨rfl, rfl⟩ (rr_X7_2 s_75) d_X11_arm_105 ?_
      refine tw_iload_n 1 d_X11_arm_108 rfl rfl ?_
      refine tw_iald hL_M1 s_78 d_X11_arm_109 h.1 ?_
      replace h := h.2
      exact tw_iret rfl ⟨Nat.zero_le _, Nat.zero_le _⟩ d_X11_arm_110 h
    by_cases hz4 : x2 = 4
    · replace h := h.2.2.2.2.1 hz4
      refine tw_tabIn 111 d_X11_arm_14 (by rw [hz4]; decide) (by rw [hz4]; decide) (by rw [hz4]; rfl) (by decide) ?_
      refine tw_aload_n 0 d_X11_arm_111 rfl rfl ?_
      refine tw_getR f_X11_29 hL_M1 s_0 ⟨rfl, rfl⟩ (rr_X11_3 s_0) d_X11_arm_112 ?_
      refine tw_getR f_X11_121 hL_M1 s_75 ⟨rfl, rfl⟩ (rr_X7_3 s_75) d_X11_arm_115 ?_
      refine tw_iload_n 1 d_X11_arm_118 rfl rfl ?_
      refine tw_iald hL_M1 s_79 d_X11_arm_119 h.1 ?_
      replace h := h.2
      exact tw_iret rfl ⟨Nat.zero_le _, Nat.zero_le _⟩ d_X11_arm_120 h
    by_cases hz5 : x2 = 5
    · replace h := h.2.2.2.2.2.1 hz5
      refine tw_tabIn 121 d_X11_arm_14 (by rw [hz5]; decide) (by rw [hz5]; decide) (by rw [hz5]; rfl) (by decide) ?_
      refine tw_aload_n 0 d_X11_arm_121 rfl rfl ?_
      refine tw_getR f_X11_29 hL_M1 s_0 ⟨rfl, rfl⟩ (rr_X11_3 s_0) d_X11_arm_122 ?_
      refine tw_getR f_X11_124 hL_M1 s_75 ⟨rfl, rfl⟩ (rr_X7_4 s_75) d_X11_arm_125 ?_
      refine tw_iload_n 1 d_X11_arm_128 rfl rfl ?_
      refine tw_iald hL_M1 s_80 d_X11_arm_129 h.1 ?_
      replace h := h.2
      exact tw_iret rfl ⟨Nat.zero_le _, Nat.zero_le _⟩ d_X11_arm_130 h
    by_cases hz6 : x2 = 6
    · replace h := h.2.2.2.2.2.2.1 hz6
      refine tw_tabIn 131 d_X11_arm_14 (by rw [hz6]; decide) (by rw [hz6]; decide) (by rw [hz6]; rfl) (by decide) ?_
      refine tw_aload_n 0 d_X11_arm_131 rfl rfl ?_
      refine tw_getR f_X11_19 hL_M1 s_0 ⟨rfl, rfl⟩ (rr_X11_1 s_0) d_X11_arm_132 ?_
      refine tw_getR f_X11_102 hL_M1 (shc hc) ⟨rfl, rfl⟩ (rr_X5_0 (shc hc)) d_X11_arm_135 ?_
      refine tw_iload_n 1 d_X11_arm_138 rfl rfl ?_
      have hin := h.1
      refine tw_aald hL_M1 (sr_X5_0 (shc hc)) (by decide) (re_4 (sr_X5_0 (shc hc))) d_X11_arm_139 h.1 ?_
      have hs5 := se_4 (sr_X5_0 (shc hc)) (vp_lt h.1)
      replace h := h.2
      refine tw_getI f_X11_127 hL_M1 hs5 (Or.inl rfl) d_X11_arm_140 ?_
      exact tw_iret rfl ⟨Nat.zero_le _, Nat.zero_le _⟩ d_X11_arm_143 h
    by_cases hz7 : x2 = 7
    · replace h := h.2.2.2.2.2.2.2.1 hz7
      refine tw_tabIn 144 d_X11_arm_14 (by rw [hz7]; decide) (by rw [hz7]; decide) (by rw [hz7]; rfl) (by decide) ?_
      refine tw_aload_n 0 d_X11_arm_144 rfl rfl ?_
      refine tw_getR f_X11_19 hL_M1 s_0 ⟨rfl, rfl⟩ (rr_X11_1 s_0) d_X11_arm_145 ?_
      refine tw_getR f_X11_102 hL_M1 (shc hc) ⟨rfl, rfl⟩ (rr_X5_0 (shc hc)) d_X11_arm_148 ?_
      refine tw_iload_n 1 d_X11_arm_151 rfl rfl ?_
      have hin := h.1
      refine tw_aald hL_M1 (sr_X5_0 (shc hc)) (by decide) (re_4 (sr_X5_0 (shc hc))) d_X11_arm_152 h.1 ?_
      have hs6 := se_4 (sr_X5_0 (shc hc)) (vp_lt h.1)
      replace h := h.2
      refine tw_getI f_X11_130 hL_M1 hs6 (Or.inl rfl) d_X11_arm_153 ?_
      exact tw_iret rfl ⟨Nat.zero_le _, Nat.zero_le _⟩ d_X11_arm_156 h
    by_cases hz8 : x2 = 8
    · replace h := h.2.2.2.2.2.2.2.2.1 hz8
      refine tw_tabIn 157 d_X11_arm_14 (by rw [hz8]; decide) (by rw [hz8]; decide) (by rw [hz8]; rfl) (by decide) ?_
      refine tw_aload_n 0 d_X11_arm_157 rfl rfl ?_
      refine tw_getR f_X11_29 hL_M1 s_0 ⟨rfl, rfl⟩ (rr_X11_3 s_0) d_X11_arm_158 ?_
      refine tw_getR f_X11_133 hL_M1 s_75 ⟨rfl, rfl⟩ (rr_X7_5 s_75) d_X11_arm_161 ?_
      refine tw_iload_n 1 d_X11_arm_164 rfl rfl ?_
      refine tw_iald hL_M1 s_81 d_X11_arm_165 h.1 ?_
      replace h := h.2
      exact tw_iret rfl ⟨Nat.zero_le _, Nat.zero_le _⟩ d_X11_arm_166 h
    by_cases hz9 : x2 = 9
    · replace h := h.2.2.2.2.2.2.2.2.2.1 hz9
      refine tw_tabIn 167 d_X11_arm_14 (by rw [hz9]; decide) (by rw [hz9]; decide) (by rw [hz9]; rfl) (by decide) ?_
      refine tw_aload_n 0 d_X11_arm_167 rfl rfl ?_
      refine tw_getR f_X11_19 hL_M1 s_0 ⟨rfl, rfl⟩ (rr_X11_1 s_0) d_X11_arm_168 ?_
      refine tw_getR f_X11_102 hL_M1 (shc hc) ⟨rfl, rfl⟩ (rr_X5_0 (shc hc)) d_X11_arm_171 ?_
      refine tw_iload_n 1 d_X11_arm_174 rfl rfl ?_
      have hin := h.1
      refine tw_aald hL_M1 (sr_X5_0 (shc hc)) (by decide) (re_4 (sr_X5_0 (shc hc))) d_X11_arm_175 h.1 ?_
      have hs7 := se_4 (sr_X5_0 (shc hc)) (vp_lt h.1)
      replace h := h.2
      refine tw_getI f_X11_136 hL_M1 hs7 (Or.inl rfl) d_X11_arm_176 ?_
      exact tw_iret rfl ⟨Nat.zero_le _, Nat.zero_le _⟩ d_X11_arm_179 h
    replace h := h.2.2.2.2.2.2.2.2.2.2 hz0 hz1 hz2 hz3 hz4 hz5 hz6 hz7 hz8 hz9
    refine tw_tabOut 180 d_X11_arm_14 (tab_out_0_9 hz0 hz1 hz2 hz3 hz4 hz5 hz6 hz7 hz8 hz9) (by decide) ?_
    refine tw_iconst d_X11_arm_180 k_m1 ?_
    exact tw_iret rfl ⟨Nat.zero_le _, Nat.zero_le _⟩ d_X11_arm_181 h
  · replace h := h.2 z3
    refine tw_iconst d_X11_arm_11 k_m1 ?_
    exact tw_iret rfl ⟨Nat.zero_le _, Nat.zero_le _⟩ d_X11_arm_12 h

theorem d_X11_hole_0 : decode Y_X11_hole.cc 0 = .ok (.aload_n 0, 1) := by decide +kernel
theorem d_X11_hole_1 : decode Y_X11_hole.cc 1 = .ok (.getfield 19, 3) := by decide +kernel
theorem d_X11_hole_4 : decode Y_X11_hole.cc 4 = .ok (.iload_n 1, 1) := by decide +kernel
theorem d_X11_hole_5 : decode Y_X11_hole.cc 5 = .ok (.iload_n 2, 1) := by decide +kernel
theorem d_X11_hole_6 : decode Y_X11_hole.cc 6 = .ok (.invokevirtual 139, 3) := by decide +kernel
theorem d_X11_hole_9 : decode Y_X11_hole.cc 9 = .ok (.ifCond .eq 20, 3) := by decide +kernel
theorem d_X11_hole_12 : decode Y_X11_hole.cc 12 = .ok (.aload_n 0, 1) := by decide +kernel
theorem d_X11_hole_13 : decode Y_X11_hole.cc 13 = .ok (.getfield 19, 3) := by decide +kernel
theorem d_X11_hole_16 : decode Y_X11_hole.cc 16 = .ok (.getfield 102, 3) := by decide +kernel
theorem d_X11_hole_19 : decode Y_X11_hole.cc 19 = .ok (.iload_n 1, 1) := by decide +kernel
theorem d_X11_hole_20 : decode Y_X11_hole.cc 20 = .ok (.aaload, 1) := by decide +kernel
theorem d_X11_hole_21 : decode Y_X11_hole.cc 21 = .ok (.getfield 143, 3) := by decide +kernel
theorem d_X11_hole_24 : decode Y_X11_hole.cc 24 = .ok (.iload_n 2, 1) := by decide +kernel
theorem d_X11_hole_25 : decode Y_X11_hole.cc 25 = .ok (.iaload, 1) := by decide +kernel
theorem d_X11_hole_26 : decode Y_X11_hole.cc 26 = .ok (.goto 4, 3) := by decide +kernel
theorem d_X11_hole_29 : decode Y_X11_hole.cc 29 = .ok (.iconst (-1), 1) := by decide +kernel
theorem d_X11_hole_30 : decode Y_X11_hole.cc 30 = .ok (.ireturn, 1) := by decide +kernel
theorem b_X11_hole {G : MG} {d : Nat} {Q : Int32 → Mm → Prop} {x1 : Int32} {x2 : Int32} {M : Mm} {c : Nat} (hL : Lay c M) (hc : c = 3 ∨ c = 39)  (h : (C G Y_X5_hasHole d [.ref (G.b + c), .int x1, .int x2] M (Ri fun r2 M1 => M1.2.2 = M.2.2 ∧ ((r2 = 0 → Q (-1) M1) ∧ (¬ r2 = 0 → (vp_in x1 6 ∧ (vp_in x2 4 ∧ Q (M1.1 (((c + 1) + 2 + 2 * x1.toNatClampNeg) + 1) x2.toNatClampNeg) M1))))))) : C G Y_X11_hole (d + 1) [.ref (G.b + 0), .int x1, .int x2] M (Ri Q) := by
  refine C.of (by decide) (Nat.le_of_ble_eq_true rfl) (lv := [(0, .ref (G.b + 0)), (1, .int x1), (2, .int x2)]) rfl ?_
  refine tw_aload_n 0 d_X11_hole_0 rfl rfl ?_
  refine tw_getR f_X11_19 hL s_0 ⟨rfl, rfl⟩ (rr_X11_1 s_0) d_X11_hole_1 ?_
  refine tw_iload_n 1 d_X11_hole_4 rfl rfl ?_
  refine tw_iload_n 2 d_X11_hole_5 rfl rfl ?_
  refine tu_cVi (As := [.int x1, .int x2]) cv_X11_139 hL (shc hc) rfl (Nat.le_of_ble_eq_true rfl) ⟨Nat.zero_le _, Nat.zero_le _⟩ d_X11_hole_6 h (fun r2 M1 h => ?_)
  have hL_M1 : Lay c M1 := hL.to h.1
  replace h := h.2
  refine tw_if_eq 29 d_X11_hole_9 (by decide) (fun z3 => ?_) (fun z3 => ?_)
  · replace h := h.1 z3
    refine tw_iconst d_X11_hole_29 k_m1 ?_
    exact tw_iret rfl ⟨Nat.zero_le _, Nat.zero_le _⟩ d_X11_hole_30 h
  · replace h := h.2 z3
    refine tw_aload_n 0 d_X11_hole_12 rfl rfl ?_
    refine tw_getR f_X11_19 hL_M1 s_0 ⟨rfl, rfl⟩ (rr_X11_1 s_0) d_X11_hole_13 ?_
    refine tw_getR f_X11_102 hL_M1 (shc hc) ⟨rfl, rfl⟩ (rr_X5_0 (shc hc)) d_X11_hole_16 ?_
    refine tw_iload_n 1 d_X11_hole_19 rfl rfl ?_
    have hin := h.1
    refine tw_aald hL_M1 (sr_X5_0 (shc hc)) (by decide) (re_4 (sr_X5_0 (shc hc))) d_X11_hole_20 h.1 ?_
    have hs4 := se_4 (sr_X5_0 (shc hc)) (vp_lt h.1)
    replace h := h.2
    refine tw_getR f_X11_143 hL_M1 hs4 ⟨rfl, rfl⟩ (rr_X1_2 hs4) d_X11_hole_21 ?_
    refine tw_iload_n 2 d_X11_hole_24 rfl rfl ?_
    refine tw_iald hL_M1 (sr_X1_2 hs4) d_X11_hole_25 h.1 ?_
    replace h := h.2
    refine tw_goto 30 d_X11_hole_26 (by decide) ?_
    exact tw_iret rfl ⟨Nat.zero_le _, Nat.zero_le _⟩ d_X11_hole_30 h

theorem d_X11_map_0 : decode Y_X11_map.cc 0 = .ok (.aload_n 0, 1) := by decide +kernel
theorem d_X11_map_1 : decode Y_X11_map.cc 1 = .ok (.getfield 19, 3) := by decide +kernel
theorem d_X11_map_4 : decode Y_X11_map.cc 4 = .ok (.iload_n 1, 1) := by decide +kernel
theorem d_X11_map_5 : decode Y_X11_map.cc 5 = .ok (.invokevirtual 146, 3) := by decide +kernel
theorem d_X11_map_8 : decode Y_X11_map.cc 8 = .ok (.ifCond .ne 5, 3) := by decide +kernel
theorem d_X11_map_11 : decode Y_X11_map.cc 11 = .ok (.iconst (-1), 1) := by decide +kernel
theorem d_X11_map_12 : decode Y_X11_map.cc 12 = .ok (.ireturn, 1) := by decide +kernel
theorem d_X11_map_13 : decode Y_X11_map.cc 13 = .ok (.aload_n 0, 1) := by decide +kernel
theorem d_X11_map_14 : decode Y_X11_map.cc 14 = .ok (.getfield 19, 3) := by decide +kernel
theorem d_X11_map_17 : decode Y_X11_map.cc 17 = .ok (.getfield 149, 3) := by decide +kernel
theorem d_X11_map_20 : decode Y_X11_map.cc 20 = .ok (.iload_n 1, 1) := by decide +kernel
theorem d_X11_map_21 : decode Y_X11_map.cc 21 = .ok (.aaload, 1) := by decide +kernel
theorem d_X11_map_22 : decode Y_X11_map.cc 22 = .ok (.astore_n 3, 1) := by decide +kernel
theorem d_X11_map_23 : decode Y_X11_map.cc 23 = .ok (.iload_n 2, 1) := by decide +kernel
theorem d_X11_map_24 : decode Y_X11_map.cc 24 = .ok (.tableswitch 72 0 3 #[32, 47, 62, 67], 32) := by decide +kernel
theorem d_X11_map_56 : decode Y_X11_map.cc 56 = .ok (.aload_n 3, 1) := by decide +kernel
theorem d_X11_map_57 : decode Y_X11_map.cc 57 = .ok (.getfield 153, 3) := by decide +kernel
theorem d_X11_map_60 : decode Y_X11_map.cc 60 = .ok (.i2l, 1) := by decide +kernel
theorem d_X11_map_61 : decode Y_X11_map.cc 61 = .ok (.aload_n 3, 1) := by decide +kernel
theorem d_X11_map_62 : decode Y_X11_map.cc 62 = .ok (.getfield 158, 3) := by decide +kernel
theorem d_X11_map_65 : decode Y_X11_map.cc 65 = .ok (.i2l, 1) := by decide +kernel
theorem d_X11_map_66 : decode Y_X11_map.cc 66 = .ok (.invokestatic 161, 3) := by decide +kernel
theorem d_X11_map_69 : decode Y_X11_map.cc 69 = .ok (.l2i, 1) := by decide +kernel
theorem d_X11_map_70 : decode Y_X11_map.cc 70 = .ok (.ireturn, 1) := by decide +kernel
theorem d_X11_map_71 : decode Y_X11_map.cc 71 = .ok (.aload_n 3, 1) := by decide +kernel
theorem d_X11_map_72 : decode Y_X11_map.cc 72 = .ok (.getfield 158, 3) := by decide +kernel
theorem d_X11_map_75 : decode Y_X11_map.cc 75 = .ok (.i2l, 1) := by decide +kernel
theorem d_X11_map_76 : decode Y_X11_map.cc 76 = .ok (.aload_n 3, 1) := by decide +kernel
theorem d_X11_map_77 : decode Y_X11_map.cc 77 = .ok (.getfield 153, 3) := by decide +kernel
theorem d_X11_map_80 : decode Y_X11_map.cc 80 = .ok (.i2l, 1) := by decide +kernel
theorem d_X11_map_81 : decode Y_X11_map.cc 81 = .ok (.invokestatic 161, 3) := by decide +kernel
theorem d_X11_map_84 : decode Y_X11_map.cc 84 = .ok (.l2i, 1) := by decide +kernel
theorem d_X11_map_85 : decode Y_X11_map.cc 85 = .ok (.ireturn, 1) := by decide +kernel
theorem d_X11_map_86 : decode Y_X11_map.cc 86 = .ok (.aload_n 3, 1) := by decide +kernel
theorem d_X11_map_87 : decode Y_X11_map.cc 87 = .ok (.getfield 165, 3) := by decide +kernel
theorem d_X11_map_90 : decode Y_X11_map.cc 90 = .ok (.ireturn, 1) := by decide +kernel
theorem d_X11_map_91 : decode Y_X11_map.cc 91 = .ok (.aload_n 3, 1) := by decide +kernel
theorem d_X11_map_92 : decode Y_X11_map.cc 92 = .ok (.getfield 168, 3) := by decide +kernel
theorem d_X11_map_95 : decode Y_X11_map.cc 95 = .ok (.ireturn, 1) := by decide +kernel
theorem d_X11_map_96 : decode Y_X11_map.cc 96 = .ok (.iconst (-1), 1) := by decide +kernel
theorem d_X11_map_97 : decode Y_X11_map.cc 97 = .ok (.ireturn, 1) := by decide +kernel
theorem b_X11_map {G : MG} {d : Nat} {Q : Int32 → Mm → Prop} {x1 : Int32} {x2 : Int32} {M : Mm} {c : Nat} (hL : Lay c M) (hc : c = 3 ∨ c = 39)  (h : (C G Y_X5_hasChart d [.ref (G.b + c), .int x1] M (Ri fun r2 M1 => M1.2.2 = M.2.2 ∧ ((¬ r2 = 0 → (vp_in x1 7 ∧ ((x2 = 0 → (C G Y_X11_inLowestTerms d [.long ((M1.1 ((c + 2) + 13 + 3 * x1.toNatClampNeg) 1).toInt64), .long ((M1.1 ((c + 2) + 13 + 3 * x1.toNatClampNeg) 2).toInt64)] M1 (Rj fun r6 M5 => M5.2.2 = M1.2.2 ∧ Q r6.toInt32 M5))) ∧ (x2 = 1 → (C G Y_X11_inLowestTerms d [.long ((M1.1 ((c + 2) + 13 + 3 * x1.toNatClampNeg) 2).toInt64), .long ((M1.1 ((c + 2) + 13 + 3 * x1.toNatClampNeg) 1).toInt64)] M1 (Rj fun r8 M7 => M7.2.2 = M1.2.2 ∧ Q r8.toInt32 M7))) ∧ (x2 = 2 → Q (M1.1 ((c + 2) + 13 + 3 * x1.toNatClampNeg) 3) M1) ∧ (x2 = 3 → Q (M1.1 ((c + 2) + 13 + 3 * x1.toNatClampNeg) 6) M1) ∧ (¬ x2 = 0 → ¬ x2 = 1 → ¬ x2 = 2 → ¬ x2 = 3 → Q (-1) M1)))) ∧ (r2 = 0 → Q (-1) M1))))) : C G Y_X11_map (d + 1) [.ref (G.b + 0), .int x1, .int x2] M (Ri Q) := by
  refine C.of (by decide) (Nat.le_of_ble_eq_true rfl) (lv := [(0, .ref (G.b + 0)), (1, .int x1), (2, .int x2)]) rfl ?_
  refine tw_aload_n 0 d_X11_map_0 rfl rfl ?_
  refine tw_getR f_X11_19 hL s_0 ⟨rfl, rfl⟩ (rr_X11_1 s_0) d_X11_map_1 ?_
  refine tw_iload_n 1 d_X11_map_4 rfl rfl ?_
  refine tu_cVi (As := [.int x1]) cv_X11_146 hL (shc hc) rfl (Nat.le_of_ble_eq_true rfl) ⟨Nat.zero_le _, Nat.zero_le _⟩ d_X11_map_5 h (fun r2 M1 h => ?_)
  have hL_M1 : Lay c M1 := hL.to h.1
  replace h := h.2
  refine tw_if_ne 13 d_X11_map_8 (by decide) (fun z3 => ?_) (fun z3 => ?_)
  · replace h := h.1 z3
    refine tw_aload_n 0 d_X11_map_13 rfl rfl ?_
    refine tw_getR f_X11_19 hL_M1 s_0 ⟨rfl, rfl⟩ (rr_X11_1 s_0) d_X11_map_14 ?_
    refine tw_getR f_X11_149 hL_M1 (shc hc) ⟨rfl, rfl⟩ (rr_X5_1 (shc hc)) d_X11_map_17 ?_
    refine tw_iload_n 1 d_X11_map_20 rfl rfl ?_
    have hin := h.1
    refine tw_aald hL_M1 (sr_X5_1 (shc hc)) (by decide) (re_5 (sr_X5_1 (shc hc))) d_X11_map_21 h.1 ?_
    have hs4 := se_5 (sr_X5_1 (shc hc)) (vp_lt h.1)
    replace h := h.2
    refine tw_astore_n [(3, .ref (G.b + ((c + 2) + 13 + 3 * x1.toNatClampNeg))), (0, .ref (G.b + 0)), (1, .int x1), (2, .int x2)] d_X11_map_22 rfl (Nat.le_of_ble_eq_true rfl) rfl ?_
    refine tw_iload_n 3 d_X11_map_23 rfl rfl ?_
    by_cases hz0 : x2 = 0
    · replace h := h.1 hz0
      refine tw_tabIn 56 d_X11_map_24 (by rw [hz0]; decide) (by rw [hz0]; decide) (by rw [hz0]; rfl) (by decide) ?_
      refine tw_aload_n 0 d_X11_map_56 rfl rfl ?_
      refine tw_getI f_X11_153 hL_M1 hs4 (Or.inl rfl) d_X11_map_57 ?_
      refine tw_i2l d_X11_map_60 ?_
      refine tw_aload_n 0 d_X11_map_61 rfl rfl ?_
      refine tw_getI f_X11_158 hL_M1 hs4 (Or.inl rfl) d_X11_map_62 ?_
      refine tw_i2l d_X11_map_65 ?_
      refine tu_cSJ (As := [.long ((M1.1 ((c + 2) + 13 + 3 * x1.toNatClampNeg) 1).toInt64), .long ((M1.1 ((c + 2) + 13 + 3 * x1.toNatClampNeg) 2).toInt64)]) cs_X11_161 rfl (Nat.le_of_ble_eq_true rfl) ⟨Nat.zero_le _, Nat.zero_le _⟩ d_X11_map_66 h (fun r6 M5 h => ?_)
      have hL_M5 : Lay c M5 := hL_M1.to h.1
      replace h := h.2
      refine tw_l2i d_X11_map_69 ?_
      exact tw_iret rfl ⟨Nat.zero_le _, Nat.zero_le _⟩ d_X11_map_70 h
    by_cases hz1 : x2 = 1
    · replace h := h.2.1 hz1
      refine tw_tabIn 71 d_X11_map_24 (by rw [hz1]; decide) (by rw [hz1]; decide) (by rw [hz1]; rfl) (by decide) ?_
      refine tw_aload_n 0 d_X11_map_71 rfl rfl ?_
      refine tw_getI f_X11_158 hL_M1 hs4 (Or.inl rfl) d_X11_map_72 ?_
      refine tw_i2l d_X11_map_75 ?_
      refine tw_aload_n 0 d_X11_map_76 rfl rfl ?_
      refine tw_getI f_X11_153 hL_M1 hs4 (Or.inl rfl) d_X11_map_77 ?_
      refine tw_i2l d_X11_map_80 ?_
      refine tu_cSJ (As := [.long ((M1.1 ((c + 2) + 13 + 3 * x1.toNatClampNeg) 2).toInt64), .long ((M1.1 ((c + 2) + 13 + 3 * x1.toNatClampNeg) 1).toInt64)]) cs_X11_161 rfl (Nat.le_of_ble_eq_true rfl) ⟨Nat.zero_le _, Nat.zero_le _⟩ d_X11_map_81 h (fun r8 M7 h => ?_)
      have hL_M7 : Lay c M7 := hL_M1.to h.1
      replace h := h.2
      refine tw_l2i d_X11_map_84 ?_
      exact tw_iret rfl ⟨Nat.zero_le _, Nat.zero_le _⟩ d_X11_map_85 h
    by_cases hz2 : x2 = 2
    · replace h := h.2.2.1 hz2
      refine tw_tabIn 86 d_X11_map_24 (by rw [hz2]; decide) (by rw [hz2]; decide) (by rw [hz2]; rfl) (by decide) ?_
      refine tw_aload_n 0 d_X11_map_86 rfl rfl ?_
      refine tw_getI f_X11_165 hL_M1 hs4 (Or.inl rfl) d_X11_map_87 ?_
      exact tw_iret rfl ⟨Nat.zero_le _, Nat.zero_le _⟩ d_X11_map_90 h
    by_cases hz3 : x2 = 3
    · replace h := h.2.2.2.1 hz3
      refine tw_tabIn 91 d_X11_map_24 (by rw [hz3]; decide) (by rw [hz3]; decide) (by rw [hz3]; rfl) (by decide) ?_
      refine tw_aload_n 0 d_X11_map_91 rfl rfl ?_
      refine tw_getI f_X11_168 hL_M1 hs4 (Or.inl rfl) d_X11_map_92 ?_
      exact tw_iret rfl ⟨Nat.zero_le _, Nat.zero_le _⟩ d_X11_map_95 h
    replace h := h.2.2.2.2 hz0 hz1 hz2 hz3
    refine tw_tabOut 96 d_X11_map_24 (tab_out_0_3 hz0 hz1 hz2 hz3) (by decide) ?_
    refine tw_iconst d_X11_map_96 k_m1 ?_
    exact tw_iret rfl ⟨Nat.zero_le _, Nat.zero_le _⟩ d_X11_map_97 h
  · replace h := h.2 z3
    refine tw_iconst d_X11_map_11 k_m1 ?_
    exact tw_iret rfl ⟨Nat.zero_le _, Nat.zero_le _⟩ d_X11_map_12 h

theorem d_X11_point_0 : decode Y_X11_point.cc 0 = .ok (.aload_n 0, 1) := by decide +kernel
theorem d_X11_point_1 : decode Y_X11_point.cc 1 = .ok (.getfield 19, 3) := by decide +kernel
theorem d_X11_point_4 : decode Y_X11_point.cc 4 = .ok (.iload_n 1, 1) := by decide +kernel
theorem d_X11_point_5 : decode Y_X11_point.cc 5 = .ok (.invokevirtual 146, 3) := by decide +kernel
theorem d_X11_point_8 : decode Y_X11_point.cc 8 = .ok (.ifCond .ne 5, 3) := by decide +kernel
theorem d_X11_point_11 : decode Y_X11_point.cc 11 = .ok (.iconst (-1), 1) := by decide +kernel
theorem d_X11_point_12 : decode Y_X11_point.cc 12 = .ok (.ireturn, 1) := by decide +kernel
theorem d_X11_point_13 : decode Y_X11_point.cc 13 = .ok (.aload_n 0, 1) := by decide +kernel
theorem d_X11_point_14 : decode Y_X11_point.cc 14 = .ok (.getfield 19, 3) := by decide +kernel
theorem d_X11_point_17 : decode Y_X11_point.cc 17 = .ok (.getfield 149, 3) := by decide +kernel
theorem d_X11_point_20 : decode Y_X11_point.cc 20 = .ok (.iload_n 1, 1) := by decide +kernel
theorem d_X11_point_21 : decode Y_X11_point.cc 21 = .ok (.aaload, 1) := by decide +kernel
theorem d_X11_point_22 : decode Y_X11_point.cc 22 = .ok (.astore 4, 2) := by decide +kernel
theorem d_X11_point_24 : decode Y_X11_point.cc 24 = .ok (.iload_n 2, 1) := by decide +kernel
theorem d_X11_point_25 : decode Y_X11_point.cc 25 = .ok (.ifCond .lt 12, 3) := by decide +kernel
theorem d_X11_point_28 : decode Y_X11_point.cc 28 = .ok (.iload_n 2, 1) := by decide +kernel
theorem d_X11_point_29 : decode Y_X11_point.cc 29 = .ok (.aload 4, 2) := by decide +kernel
theorem d_X11_point_31 : decode Y_X11_point.cc 31 = .ok (.getfield 168, 3) := by decide +kernel
theorem d_X11_point_34 : decode Y_X11_point.cc 34 = .ok (.if_icmp .lt 5, 3) := by decide +kernel
theorem d_X11_point_37 : decode Y_X11_point.cc 37 = .ok (.iconst (-1), 1) := by decide +kernel
theorem d_X11_point_38 : decode Y_X11_point.cc 38 = .ok (.ireturn, 1) := by decide +kernel
theorem d_X11_point_39 : decode Y_X11_point.cc 39 = .ok (.iload_n 3, 1) := by decide +kernel
theorem d_X11_point_40 : decode Y_X11_point.cc 40 = .ok (.ifCond .eq 13, 3) := by decide +kernel
theorem d_X11_point_43 : decode Y_X11_point.cc 43 = .ok (.aload 4, 2) := by decide +kernel
theorem d_X11_point_45 : decode Y_X11_point.cc 45 = .ok (.getfield 171, 3) := by decide +kernel
theorem d_X11_point_48 : decode Y_X11_point.cc 48 = .ok (.iload_n 2, 1) := by decide +kernel
theorem d_X11_point_49 : decode Y_X11_point.cc 49 = .ok (.iaload, 1) := by decide +kernel
theorem d_X11_point_50 : decode Y_X11_point.cc 50 = .ok (.goto 10, 3) := by decide +kernel
theorem d_X11_point_53 : decode Y_X11_point.cc 53 = .ok (.aload 4, 2) := by decide +kernel
theorem d_X11_point_55 : decode Y_X11_point.cc 55 = .ok (.getfield 174, 3) := by decide +kernel
theorem d_X11_point_58 : decode Y_X11_point.cc 58 = .ok (.iload_n 2, 1) := by decide +kernel
theorem d_X11_point_59 : decode Y_X11_point.cc 59 = .ok (.iaload, 1) := by decide +kernel
theorem d_X11_point_60 : decode Y_X11_point.cc 60 = .ok (.ireturn, 1) := by decide +kernel
theorem b_X11_point {G : MG} {d : Nat} {Q : Int32 → Mm → Prop} {x1 : Int32} {x2 : Int32} {x3 : Int32} {M : Mm} {c : Nat} (hL : Lay c M) (hc : c = 3 ∨ c = 39)  (h : (C G Y_X5_hasChart d [.ref (G.b + c), .int x1] M (Ri fun r2 M1 => M1.2.2 = M.2.2 ∧ ((¬ r2 = 0 → (vp_in x1 7 ∧ ((x2 < 0 → Q (-1) M1) ∧ (¬ x2 < 0 → ((x2 < (M1.1 ((c + 2) + 13 + 3 * x1.toNatClampNeg) 6) → ((x3 = 0 → (vp_in x2 6 ∧ Q (M1.1 (((c + 2) + 13 + 3 * x1.toNatClampNeg) + 1) x2.toNatClampNeg) M1)) ∧ (¬ x3 = 0 → (vp_in x2 6 ∧ Q (M1.1 (((c + 2) + 13 + 3 * x1.toNatClampNeg) + 2) x2.toNatClampNeg) M1)))) ∧ (¬ x2 < (M1.1 ((c + 2) + 13 + 3 * x1.toNatClampNeg) 6) → Q (-1) M1)))))) ∧ (r2 = 0 → Q (-1) M1))))) : C G Y_X11_point (d + 1) [.ref (G.b + 0), .int x1, .int x2, .int x3] M (Ri Q) := by
  refine C.of (by decide) (Nat.le_of_ble_eq_true rfl) (lv := [(0, .ref (G.b + 0)), (1, .int x1), (2, .int x2), (3, .int x3)]) rfl ?_
  refine tw_aload_n 0 d_X11_point_0 rfl rfl ?_
  refine tw_getR f_X11_19 hL s_0 ⟨rfl, rfl⟩ (rr_X11_1 s_0) d_X11_point_1 ?_
  refine tw_iload_n 1 d_X11_point_4 rfl rfl ?_
  refine tu_cVi (As := [.int x1]) cv_X11_146 hL (shc hc) rfl (Nat.le_of_ble_eq_true rfl) ⟨Nat.zero_le _, Nat.zero_le _⟩ d_X11_point_5 h (fun r2 M1 h => ?_)
  have hL_M1 : Lay c M1 := hL.to h.1
  replace h := h.2
  refine tw_if_ne 13 d_X11_point_8 (by decide) (fun z3 => ?_) (fun z3 => ?_)
  · replace h := h.1 z3
    refine tw_aload_n 0 d_X11_point_13 rfl rfl ?_
    refine tw_getR f_X11_19 hL_M1 s_0 ⟨rfl, rfl⟩ (rr_X11_1 s_0) d_X11_point_14 ?_
    refine tw_getR f_X11_149 hL_M1 (shc hc) ⟨rfl, rfl⟩ (rr_X5_1 (shc hc)) d_X11_point_17 ?_
    refine tw_iload_n 1 d_X11_point_20 rfl rfl ?_
    have hin := h.1
    refine tw_aald hL_M1 (sr_X5_1 (shc hc)) (by decide) (re_5 (sr_X5_1 (shc hc))) d_X11_point_21 h.1 ?_
    have hs4 := se_5 (sr_X5_1 (shc hc)) (vp_lt h.1)
    replace h := h.2
    refine tw_astore [(4, .ref (G.b + ((c + 2) + 13 + 3 * x1.toNatClampNeg))), (0, .ref (G.b + 0)), (1, .int x1), (2, .int x2), (3, .int x3)] d_X11_point_22 (Nat.le_of_ble_eq_true rfl) rfl ?_
    refine tw_iload_n 3 d_X11_point_24 rfl rfl ?_
    refine tw_if_lt 37 d_X11_point_25 (by decide) (fun z5 => ?_) (fun z5 => ?_)
    · replace h := h.1 z5
      refine tw_iconst d_X11_point_37 k_m1 ?_
      exact tw_iret rfl ⟨Nat.zero_le _, Nat.zero_le _⟩ d_X11_point_38 h
    · replace h := h.2 z5
      refine tw_iload_n 3 d_X11_point_28 rfl rfl ?_
      refine tw_aload 0 d_X11_point_29 rfl ?_
      refine tw_getI f_X11_168 hL_M1 hs4 (Or.inl rfl) d_X11_point_31 ?_
      refine tw_icmp_lt 39 d_X11_point_34 (by decide) (fun z6 => ?_) (fun z6 => ?_)
      · replace h := h.1 z6
        refine tw_iload_n 4 d_X11_point_39 rfl rfl ?_
        refine tw_if_eq 53 d_X11_point_40 (by decide) (fun z7 => ?_) (fun z7 => ?_)
        · replace h := h.1 z7
          refine tw_aload 0 d_X11_point_53 rfl ?_
          refine tw_getR f_X11_174 hL_M1 hs4 ⟨rfl, rfl⟩ (rr_X2_4 hs4) d_X11_point_55 ?_
          refine tw_iload_n 3 d_X11_point_58 rfl rfl ?_
          refine tw_iald hL_M1 (sr_X2_4 hs4) d_X11_point_59 h.1 ?_
          replace h := h.2
          exact tw_iret rfl ⟨Nat.zero_le _, Nat.zero_le _⟩ d_X11_point_60 h
        · replace h := h.2 z7
          refine tw_aload 0 d_X11_point_43 rfl ?_
          refine tw_getR f_X11_171 hL_M1 hs4 ⟨rfl, rfl⟩ (rr_X2_5 hs4) d_X11_point_45 ?_
          refine tw_iload_n 3 d_X11_point_48 rfl rfl ?_
          refine tw_iald hL_M1 (sr_X2_5 hs4) d_X11_point_49 h.1 ?_
          replace h := h.2
          refine tw_goto 60 d_X11_point_50 (by decide) ?_
          exact tw_iret rfl ⟨Nat.zero_le _, Nat.zero_le _⟩ d_X11_point_60 h
      · replace h := h.2 z6
        refine tw_iconst d_X11_point_37 k_m1 ?_
        exact tw_iret rfl ⟨Nat.zero_le _, Nat.zero_le _⟩ d_X11_point_38 h
  · replace h := h.2 z3
    refine tw_iconst d_X11_point_11 k_m1 ?_
    exact tw_iret rfl ⟨Nat.zero_le _, Nat.zero_le _⟩ d_X11_point_12 h

theorem d_X11_set_0 : decode Y_X11_set.cc 0 = .ok (.aload_n 0, 1) := by decide +kernel
theorem d_X11_set_1 : decode Y_X11_set.cc 1 = .ok (.getfield 19, 3) := by decide +kernel
theorem d_X11_set_4 : decode Y_X11_set.cc 4 = .ok (.iload_n 1, 1) := by decide +kernel
theorem d_X11_set_5 : decode Y_X11_set.cc 5 = .ok (.iload_n 2, 1) := by decide +kernel
theorem d_X11_set_6 : decode Y_X11_set.cc 6 = .ok (.invokevirtual 139, 3) := by decide +kernel
theorem d_X11_set_9 : decode Y_X11_set.cc 9 = .ok (.ifCond .eq 20, 3) := by decide +kernel
theorem d_X11_set_12 : decode Y_X11_set.cc 12 = .ok (.aload_n 0, 1) := by decide +kernel
theorem d_X11_set_13 : decode Y_X11_set.cc 13 = .ok (.getfield 19, 3) := by decide +kernel
theorem d_X11_set_16 : decode Y_X11_set.cc 16 = .ok (.iload_n 1, 1) := by decide +kernel
theorem d_X11_set_17 : decode Y_X11_set.cc 17 = .ok (.iload_n 3, 1) := by decide +kernel
theorem d_X11_set_18 : decode Y_X11_set.cc 18 = .ok (.invokevirtual 139, 3) := by decide +kernel
theorem d_X11_set_21 : decode Y_X11_set.cc 21 = .ok (.ifCond .eq 8, 3) := by decide +kernel
theorem d_X11_set_24 : decode Y_X11_set.cc 24 = .ok (.iload_n 2, 1) := by decide +kernel
theorem d_X11_set_25 : decode Y_X11_set.cc 25 = .ok (.iload_n 3, 1) := by decide +kernel
theorem d_X11_set_26 : decode Y_X11_set.cc 26 = .ok (.if_icmp .ne 5, 3) := by decide +kernel
theorem d_X11_set_29 : decode Y_X11_set.cc 29 = .ok (.iconst 0, 1) := by decide +kernel
theorem d_X11_set_30 : decode Y_X11_set.cc 30 = .ok (.ireturn, 1) := by decide +kernel
theorem d_X11_set_31 : decode Y_X11_set.cc 31 = .ok (.aload_n 0, 1) := by decide +kernel
theorem d_X11_set_32 : decode Y_X11_set.cc 32 = .ok (.getfield 29, 3) := by decide +kernel
theorem d_X11_set_35 : decode Y_X11_set.cc 35 = .ok (.getfield 111, 3) := by decide +kernel
theorem d_X11_set_38 : decode Y_X11_set.cc 38 = .ok (.iload_n 1, 1) := by decide +kernel
theorem d_X11_set_39 : decode Y_X11_set.cc 39 = .ok (.aload_n 0, 1) := by decide +kernel
theorem d_X11_set_40 : decode Y_X11_set.cc 40 = .ok (.getfield 19, 3) := by decide +kernel
theorem d_X11_set_43 : decode Y_X11_set.cc 43 = .ok (.getfield 102, 3) := by decide +kernel
theorem d_X11_set_46 : decode Y_X11_set.cc 46 = .ok (.iload_n 1, 1) := by decide +kernel
theorem d_X11_set_47 : decode Y_X11_set.cc 47 = .ok (.aaload, 1) := by decide +kernel
theorem d_X11_set_48 : decode Y_X11_set.cc 48 = .ok (.getfield 143, 3) := by decide +kernel
theorem d_X11_set_51 : decode Y_X11_set.cc 51 = .ok (.iload_n 2, 1) := by decide +kernel
theorem d_X11_set_52 : decode Y_X11_set.cc 52 = .ok (.iaload, 1) := by decide +kernel
theorem d_X11_set_53 : decode Y_X11_set.cc 53 = .ok (.iastore, 1) := by decide +kernel
theorem d_X11_set_54 : decode Y_X11_set.cc 54 = .ok (.aload_n 0, 1) := by decide +kernel
theorem d_X11_set_55 : decode Y_X11_set.cc 55 = .ok (.getfield 29, 3) := by decide +kernel
theorem d_X11_set_58 : decode Y_X11_set.cc 58 = .ok (.getfield 115, 3) := by decide +kernel
theorem d_X11_set_61 : decode Y_X11_set.cc 61 = .ok (.iload_n 1, 1) := by decide +kernel
theorem d_X11_set_62 : decode Y_X11_set.cc 62 = .ok (.aload_n 0, 1) := by decide +kernel
theorem d_X11_set_63 : decode Y_X11_set.cc 63 = .ok (.getfield 19, 3) := by decide +kernel
theorem d_X11_set_66 : decode Y_X11_set.cc 66 = .ok (.getfield 102, 3) := by decide +kernel
theorem d_X11_set_69 : decode Y_X11_set.cc 69 = .ok (.iload_n 1, 1) := by decide +kernel
theorem d_X11_set_70 : decode Y_X11_set.cc 70 = .ok (.aaload, 1) := by decide +kernel
theorem d_X11_set_71 : decode Y_X11_set.cc 71 = .ok (.getfield 143, 3) := by decide +kernel
theorem d_X11_set_74 : decode Y_X11_set.cc 74 = .ok (.iload_n 3, 1) := by decide +kernel
theorem d_X11_set_75 : decode Y_X11_set.cc 75 = .ok (.iaload, 1) := by decide +kernel
theorem d_X11_set_76 : decode Y_X11_set.cc 76 = .ok (.iastore, 1) := by decide +kernel
theorem d_X11_set_77 : decode Y_X11_set.cc 77 = .ok (.iconst 1, 1) := by decide +kernel
theorem d_X11_set_78 : decode Y_X11_set.cc 78 = .ok (.ireturn, 1) := by decide +kernel
theorem b_X11_set {G : MG} {d : Nat} {Q : Int32 → Mm → Prop} {x1 : Int32} {x2 : Int32} {x3 : Int32} {M : Mm} {c : Nat} (hL : Lay c M) (hc : c = 3 ∨ c = 39)  (h : (C G Y_X5_hasHole d [.ref (G.b + c), .int x1, .int x2] M (Ri fun r2 M1 => M1.2.2 = M.2.2 ∧ ((r2 = 0 → Q 0 M1) ∧ (¬ r2 = 0 → (C G Y_X5_hasHole d [.ref (G.b + c), .int x1, .int x3] M1 (Ri fun r5 M4 => M4.2.2 = M1.2.2 ∧ ((r5 = 0 → Q 0 M4) ∧ (¬ r5 = 0 → ((¬ x2 = x3 → (vp_in x1 6 ∧ (vp_in x2 4 ∧ (vp_in x1 6 ∧ ∀ M9 : Mm, M9 = sI M4 76 x1.toNatClampNeg (M4.1 (((c + 1) + 2 + 2 * x1.toNatClampNeg) + 1) x2.toNatClampNeg) → (vp_in x1 6 ∧ (vp_in x3 4 ∧ (vp_in x1 6 ∧ ∀ M11 : Mm, M11 = sI M9 77 x1.toNatClampNeg (M9.1 (((c + 1) + 2 + 2 * x1.toNatClampNeg) + 1) x3.toNatClampNeg) → Q 1 M11))))))) ∧ (x2 = x3 → Q 0 M4))))))))))) : C G Y_X11_set (d + 1) [.ref (G.b + 0), .int x1, .int x2, .int x3] M (Ri Q) := by
  refine C.of (by decide) (Nat.le_of_ble_eq_true rfl) (lv := [(0, .ref (G.b + 0)), (1, .int x1), (2, .int x2), (3, .int x3)]) rfl ?_
  refine tw_aload_n 0 d_X11_set_0 rfl rfl ?_
  refine tw_getR f_X11_19 hL s_0 ⟨rfl, rfl⟩ (rr_X11_1 s_0) d_X11_set_1 ?_
  refine tw_iload_n 1 d_X11_set_4 rfl rfl ?_
  refine tw_iload_n 2 d_X11_set_5 rfl rfl ?_
  refine tu_cVi (As := [.int x1, .int x2]) cv_X11_139 hL (shc hc) rfl (Nat.le_of_ble_eq_true rfl) ⟨Nat.zero_le _, Nat.zero_le _⟩ d_X11_set_6 h (fun r2 M1 h => ?_)
  have hL_M1 : Lay c M1 := hL.to h.1
  replace h := h.2
  refine tw_if_eq 29 d_X11_set_9 (by decide) (fun z3 => ?_) (fun z3 => ?_)
  · replace h := h.1 z3
    refine tw_iconst d_X11_set_29 k_0 ?_
    exact tw_zret (ty := .boolean) rfl rfl ⟨Nat.zero_le _, Nat.zero_le _⟩ d_X11_set_30 h
  · replace h := h.2 z3
    refine tw_aload_n 0 d_X11_set_12 rfl rfl ?_
    refine tw_getR f_X11_19 hL_M1 s_0 ⟨rfl, rfl⟩ (rr_X11_1 s_0) d_X11_set_13 ?_
    refine tw_iload_n 1 d_X11_set_16 rfl rfl ?_
    refine tw_iload_n 3 d_X11_set_17 rfl rfl ?_
    refine tu_cVi (As := [.int x1, .int x3]) cv_X11_139 hL_M1 (shc hc) rfl (Nat.le_of_ble_eq_true rfl) ⟨Nat.zero_le _, Nat.zero_le _⟩ d_X11_set_18 h (fun r5 M4 h => ?_)
    have hL_M4 : Lay c M4 := hL_M1.to h.1
    replace h := h.2
    refine tw_if_eq 29 d_X11_set_21 (by decide) (fun z6 => ?_) (fun z6 => ?_)
    · replace h := h.1 z6
      refine tw_iconst d_X11_set_29 k_0 ?_
      exact tw_zret (ty := .boolean) rfl rfl ⟨Nat.zero_le _, Nat.zero_le _⟩ d_X11_set_30 h
    · replace h := h.2 z6
      refine tw_iload_n 2 d_X11_set_24 rfl rfl ?_
      refine tw_iload_n 3 d_X11_set_25 rfl rfl ?_
      refine tw_icmp_ne 31 d_X11_set_26 (by decide) (fun z7 => ?_) (fun z7 => ?_)
      · replace h := h.1 z7
        refine tw_aload_n 0 d_X11_set_31 rfl rfl ?_
        refine tw_getR f_X11_29 hL_M4 s_0 ⟨rfl, rfl⟩ (rr_X11_3 s_0) d_X11_set_32 ?_
        refine tw_getR f_X11_111 hL_M4 s_75 ⟨rfl, rfl⟩ (rr_X7_0 s_75) d_X11_set_35 ?_
        refine tw_iload_n 1 d_X11_set_38 rfl rfl ?_
        refine tw_aload_n 0 d_X11_set_39 rfl rfl ?_
        refine tw_getR f_X11_19 hL_M4 s_0 ⟨rfl, rfl⟩ (rr_X11_1 s_0) d_X11_set_40 ?_
        refine tw_getR f_X11_102 hL_M4 (shc hc) ⟨rfl, rfl⟩ (rr_X5_0 (shc hc)) d_X11_set_43 ?_
        refine tw_iload_n 1 d_X11_set_46 rfl rfl ?_
        have hin := h.1
        refine tw_aald hL_M4 (sr_X5_0 (shc hc)) (by decide) (re_4 (sr_X5_0 (shc hc))) d_X11_set_47 h.1 ?_
        have hs8 := se_4 (sr_X5_0 (shc hc)) (vp_lt h.1)
        replace h := h.2
        refine tw_getR f_X11_143 hL_M4 hs8 ⟨rfl, rfl⟩ (rr_X1_2 hs8) d_X11_set_48 ?_
        refine tw_iload_n 2 d_X11_set_51 rfl rfl ?_
        refine tw_iald hL_M4 (sr_X1_2 hs8) d_X11_set_52 h.1 ?_
        replace h := h.2
        refine tu_iast hL_M4 s_76 d_X11_set_53 h.1 (fun M9 e_M9 hL_M9 => ?_)
        replace h := h.2 M9 e_M9
        refine tw_aload_n 0 d_X11_set_54 rfl rfl ?_
        refine tw_getR f_X11_29 hL_M9 s_0 ⟨rfl, rfl⟩ (rr_X11_3 s_0) d_X11_set_55 ?_
        refine tw_getR f_X11_115 hL_M9 s_75 ⟨rfl, rfl⟩ (rr_X7_1 s_75) d_X11_set_58 ?_
        refine tw_iload_n 1 d_X11_set_61 rfl rfl ?_
        refine tw_aload_n 0 d_X11_set_62 rfl rfl ?_
        refine tw_getR f_X11_19 hL_M9 s_0 ⟨rfl, rfl⟩ (rr_X11_1 s_0) d_X11_set_63 ?_
        refine tw_getR f_X11_102 hL_M9 (shc hc) ⟨rfl, rfl⟩ (rr_X5_0 (shc hc)) d_X11_set_66 ?_
        refine tw_iload_n 1 d_X11_set_69 rfl rfl ?_
        have hin := h.1
        refine tw_aald hL_M9 (sr_X5_0 (shc hc)) (by decide) (re_4 (sr_X5_0 (shc hc))) d_X11_set_70 h.1 ?_
        have hs10 := se_4 (sr_X5_0 (shc hc)) (vp_lt h.1)
        replace h := h.2
        refine tw_getR f_X11_143 hL_M9 hs10 ⟨rfl, rfl⟩ (rr_X1_2 hs10) d_X11_set_71 ?_
        refine tw_iload_n 3 d_X11_set_74 rfl rfl ?_
        refine tw_iald hL_M9 (sr_X1_2 hs10) d_X11_set_75 h.1 ?_
        replace h := h.2
        refine tu_iast hL_M9 s_77 d_X11_set_76 h.1 (fun M11 e_M11 hL_M11 => ?_)
        replace h := h.2 M11 e_M11
        refine tw_iconst d_X11_set_77 k_1 ?_
        exact tw_zret (ty := .boolean) rfl rfl ⟨Nat.zero_le _, Nat.zero_le _⟩ d_X11_set_78 h
      · replace h := h.2 z7
        refine tw_iconst d_X11_set_29 k_0 ?_
        exact tw_zret (ty := .boolean) rfl rfl ⟨Nat.zero_le _, Nat.zero_le _⟩ d_X11_set_30 h

theorem d_X11_turn_0 : decode Y_X11_turn.cc 0 = .ok (.aload_n 0, 1) := by decide +kernel
theorem d_X11_turn_1 : decode Y_X11_turn.cc 1 = .ok (.getfield 19, 3) := by decide +kernel
theorem d_X11_turn_4 : decode Y_X11_turn.cc 4 = .ok (.iload_n 1, 1) := by decide +kernel
theorem d_X11_turn_5 : decode Y_X11_turn.cc 5 = .ok (.invokevirtual 98, 3) := by decide +kernel
theorem d_X11_turn_8 : decode Y_X11_turn.cc 8 = .ok (.ifCond .eq 12, 3) := by decide +kernel
theorem d_X11_turn_11 : decode Y_X11_turn.cc 11 = .ok (.iload_n 2, 1) := by decide +kernel
theorem d_X11_turn_12 : decode Y_X11_turn.cc 12 = .ok (.iconst 0, 1) := by decide +kernel
theorem d_X11_turn_13 : decode Y_X11_turn.cc 13 = .ok (.iconst 3, 1) := by decide +kernel
theorem d_X11_turn_14 : decode Y_X11_turn.cc 14 = .ok (.invokestatic 177, 3) := by decide +kernel
theorem d_X11_turn_17 : decode Y_X11_turn.cc 17 = .ok (.ifCond .ne 5, 3) := by decide +kernel
theorem d_X11_turn_20 : decode Y_X11_turn.cc 20 = .ok (.iconst 0, 1) := by decide +kernel
theorem d_X11_turn_21 : decode Y_X11_turn.cc 21 = .ok (.ireturn, 1) := by decide +kernel
theorem d_X11_turn_22 : decode Y_X11_turn.cc 22 = .ok (.aload_n 0, 1) := by decide +kernel
theorem d_X11_turn_23 : decode Y_X11_turn.cc 23 = .ok (.getfield 19, 3) := by decide +kernel
theorem d_X11_turn_26 : decode Y_X11_turn.cc 26 = .ok (.getfield 102, 3) := by decide +kernel
theorem d_X11_turn_29 : decode Y_X11_turn.cc 29 = .ok (.iload_n 1, 1) := by decide +kernel
theorem d_X11_turn_30 : decode Y_X11_turn.cc 30 = .ok (.aaload, 1) := by decide +kernel
theorem d_X11_turn_31 : decode Y_X11_turn.cc 31 = .ok (.getfield 106, 3) := by decide +kernel
theorem d_X11_turn_34 : decode Y_X11_turn.cc 34 = .ok (.iconst 2, 1) := by decide +kernel
theorem d_X11_turn_35 : decode Y_X11_turn.cc 35 = .ok (.if_icmp .ne 5, 3) := by decide +kernel
theorem d_X11_turn_38 : decode Y_X11_turn.cc 38 = .ok (.iconst 0, 1) := by decide +kernel
theorem d_X11_turn_39 : decode Y_X11_turn.cc 39 = .ok (.ireturn, 1) := by decide +kernel
theorem d_X11_turn_40 : decode Y_X11_turn.cc 40 = .ok (.aload_n 0, 1) := by decide +kernel
theorem d_X11_turn_41 : decode Y_X11_turn.cc 41 = .ok (.getfield 29, 3) := by decide +kernel
theorem d_X11_turn_44 : decode Y_X11_turn.cc 44 = .ok (.getfield 118, 3) := by decide +kernel
theorem d_X11_turn_47 : decode Y_X11_turn.cc 47 = .ok (.iload_n 1, 1) := by decide +kernel
theorem d_X11_turn_48 : decode Y_X11_turn.cc 48 = .ok (.iload_n 2, 1) := by decide +kernel
theorem d_X11_turn_49 : decode Y_X11_turn.cc 49 = .ok (.iastore, 1) := by decide +kernel
theorem d_X11_turn_50 : decode Y_X11_turn.cc 50 = .ok (.iconst 1, 1) := by decide +kernel
theorem d_X11_turn_51 : decode Y_X11_turn.cc 51 = .ok (.ireturn, 1) := by decide +kernel
theorem b_X11_turn {G : MG} {d : Nat} {Q : Int32 → Mm → Prop} {x1 : Int32} {x2 : Int32} {M : Mm} {c : Nat} (hL : Lay c M) (hc : c = 3 ∨ c = 39)  (h : (C G Y_X5_hasArm d [.ref (G.b + c), .int x1] M (Ri fun r2 M1 => M1.2.2 = M.2.2 ∧ ((r2 = 0 → Q 0 M1) ∧ (¬ r2 = 0 → (C G Y_X11_isWithin d [.int x2, .int 0, .int 3] M1 (Ri fun r5 M4 => M4.2.2 = M1.2.2 ∧ ((¬ r5 = 0 → (vp_in x1 6 ∧ ((¬ (M4.1 ((c + 1) + 2 + 2 * x1.toNatClampNeg) 1) = 2 → (vp_in x1 6 ∧ ∀ M9 : Mm, M9 = sI M4 78 x1.toNatClampNeg x2 → Q 1 M9)) ∧ ((M4.1 ((c + 1) + 2 + 2 * x1.toNatClampNeg) 1) = 2 → Q 0 M4)))) ∧ (r5 = 0 → Q 0 M4))))))))) : C G Y_X11_turn (d + 1) [.ref (G.b + 0), .int x1, .int x2] M (Ri Q) := by
  refine C.of (by decide) (Nat.le_of_ble_eq_true rfl) (lv := [(0, .ref (G.b + 0)), (1, .int x1), (2, .int x2)]) rfl ?_
  refine tw_aload_n 0 d_X11_turn_0 rfl rfl ?_
  refine tw_getR f_X11_19 hL s_0 ⟨rfl, rfl⟩ (rr_X11_1 s_0) d_X11_turn_1 ?_
  refine tw_iload_n 1 d_X11_turn_4 rfl rfl ?_
  refine tu_cVi (As := [.int x1]) cv_X11_98 hL (shc hc) rfl (Nat.le_of_ble_eq_true rfl) ⟨Nat.zero_le _, Nat.zero_le _⟩ d_X11_turn_5 h (fun r2 M1 h => ?_)
  have hL_M1 : Lay c M1 := hL.to h.1
  replace h := h.2
  refine tw_if_eq 20 d_X11_turn_8 (by decide) (fun z3 => ?_) (fun z3 => ?_)
  · replace h := h.1 z3
    refine tw_iconst d_X11_turn_20 k_0 ?_
    exact tw_zret (ty := .boolean) rfl rfl ⟨Nat.zero_le _, Nat.zero_le _⟩ d_X11_turn_21 h
  · replace h := h.2 z3
    refine tw_iload_n 2 d_X11_turn_11 rfl rfl ?_
    refine tw_iconst d_X11_turn_12 k_0 ?_
    refine tw_iconst d_X11_turn_13 k_3 ?_
    refine tu_cSi (As := [.int x2, .int 0, .int 3]) cs_X11_177 rfl (Nat.le_of_ble_eq_true rfl) ⟨Nat.zero_le _, Nat.zero_le _⟩ d_X11_turn_14 h (fun r5 M4 h => ?_)
    have hL_M4 : Lay c M4 := hL_M1.to h.1
    replace h := h.2
    refine tw_if_ne 22 d_X11_turn_17 (by decide) (fun z6 => ?_) (fun z6 => ?_)
    · replace h := h.1 z6
      refine tw_aload_n 0 d_X11_turn_22 rfl rfl ?_
      refine tw_getR f_X11_19 hL_M4 s_0 ⟨rfl, rfl⟩ (rr_X11_1 s_0) d_X11_turn_23 ?_
      refine tw_getR f_X11_102 hL_M4 (shc hc) ⟨rfl, rfl⟩ (rr_X5_0 (shc hc)) d_X11_turn_26 ?_
      refine tw_iload_n 1 d_X11_turn_29 rfl rfl ?_
      have hin := h.1
      refine tw_aald hL_M4 (sr_X5_0 (shc hc)) (by decide) (re_4 (sr_X5_0 (shc hc))) d_X11_turn_30 h.1 ?_
      have hs7 := se_4 (sr_X5_0 (shc hc)) (vp_lt h.1)
      replace h := h.2
      refine tw_getI f_X11_106 hL_M4 hs7 (Or.inl rfl) d_X11_turn_31 ?_
      refine tw_iconst d_X11_turn_34 k_2 ?_
      refine tw_icmp_ne 40 d_X11_turn_35 (by decide) (fun z8 => ?_) (fun z8 => ?_)
      · replace h := h.1 z8
        refine tw_aload_n 0 d_X11_turn_40 rfl rfl ?_
        refine tw_getR f_X11_29 hL_M4 s_0 ⟨rfl, rfl⟩ (rr_X11_3 s_0) d_X11_turn_41 ?_
        refine tw_getR f_X11_118 hL_M4 s_75 ⟨rfl, rfl⟩ (rr_X7_2 s_75) d_X11_turn_44 ?_
        refine tw_iload_n 1 d_X11_turn_47 rfl rfl ?_
        refine tw_iload_n 2 d_X11_turn_48 rfl rfl ?_
        refine tu_iast hL_M4 s_78 d_X11_turn_49 h.1 (fun M9 e_M9 hL_M9 => ?_)
        replace h := h.2 M9 e_M9
        refine tw_iconst d_X11_turn_50 k_1 ?_
        exact tw_zret (ty := .boolean) rfl rfl ⟨Nat.zero_le _, Nat.zero_le _⟩ d_X11_turn_51 h
      · replace h := h.2 z8
        refine tw_iconst d_X11_turn_38 k_0 ?_
        exact tw_zret (ty := .boolean) rfl rfl ⟨Nat.zero_le _, Nat.zero_le _⟩ d_X11_turn_39 h
    · replace h := h.2 z6
      refine tw_iconst d_X11_turn_20 k_0 ?_
      exact tw_zret (ty := .boolean) rfl rfl ⟨Nat.zero_le _, Nat.zero_le _⟩ d_X11_turn_21 h

theorem d_X11_pin_0 : decode Y_X11_pin.cc 0 = .ok (.aload_n 0, 1) := by decide +kernel
theorem d_X11_pin_1 : decode Y_X11_pin.cc 1 = .ok (.getfield 19, 3) := by decide +kernel
theorem d_X11_pin_4 : decode Y_X11_pin.cc 4 = .ok (.iload_n 1, 1) := by decide +kernel
theorem d_X11_pin_5 : decode Y_X11_pin.cc 5 = .ok (.invokevirtual 98, 3) := by decide +kernel
theorem d_X11_pin_8 : decode Y_X11_pin.cc 8 = .ok (.ifCond .eq 23, 3) := by decide +kernel
theorem d_X11_pin_11 : decode Y_X11_pin.cc 11 = .ok (.iload_n 2, 1) := by decide +kernel
theorem d_X11_pin_12 : decode Y_X11_pin.cc 12 = .ok (.iconst 0, 1) := by decide +kernel
theorem d_X11_pin_13 : decode Y_X11_pin.cc 13 = .ok (.bipush 99, 2) := by decide +kernel
theorem d_X11_pin_15 : decode Y_X11_pin.cc 15 = .ok (.invokestatic 177, 3) := by decide +kernel
theorem d_X11_pin_18 : decode Y_X11_pin.cc 18 = .ok (.ifCond .eq 13, 3) := by decide +kernel
theorem d_X11_pin_21 : decode Y_X11_pin.cc 21 = .ok (.iload_n 3, 1) := by decide +kernel
theorem d_X11_pin_22 : decode Y_X11_pin.cc 22 = .ok (.iconst 0, 1) := by decide +kernel
theorem d_X11_pin_23 : decode Y_X11_pin.cc 23 = .ok (.bipush 99, 2) := by decide +kernel
theorem d_X11_pin_25 : decode Y_X11_pin.cc 25 = .ok (.invokestatic 177, 3) := by decide +kernel
theorem d_X11_pin_28 : decode Y_X11_pin.cc 28 = .ok (.ifCond .ne 5, 3) := by decide +kernel
theorem d_X11_pin_31 : decode Y_X11_pin.cc 31 = .ok (.iconst 0, 1) := by decide +kernel
theorem d_X11_pin_32 : decode Y_X11_pin.cc 32 = .ok (.ireturn, 1) := by decide +kernel
theorem d_X11_pin_33 : decode Y_X11_pin.cc 33 = .ok (.aload_n 0, 1) := by decide +kernel
theorem d_X11_pin_34 : decode Y_X11_pin.cc 34 = .ok (.getfield 29, 3) := by decide +kernel
theorem d_X11_pin_37 : decode Y_X11_pin.cc 37 = .ok (.getfield 121, 3) := by decide +kernel
theorem d_X11_pin_40 : decode Y_X11_pin.cc 40 = .ok (.iload_n 1, 1) := by decide +kernel
theorem d_X11_pin_41 : decode Y_X11_pin.cc 41 = .ok (.iload_n 2, 1) := by decide +kernel
theorem d_X11_pin_42 : decode Y_X11_pin.cc 42 = .ok (.iastore, 1) := by decide +kernel
theorem d_X11_pin_43 : decode Y_X11_pin.cc 43 = .ok (.aload_n 0, 1) := by decide +kernel
theorem d_X11_pin_44 : decode Y_X11_pin.cc 44 = .ok (.getfield 29, 3) := by decide +kernel
theorem d_X11_pin_47 : decode Y_X11_pin.cc 47 = .ok (.getfield 124, 3) := by decide +kernel
theorem d_X11_pin_50 : decode Y_X11_pin.cc 50 = .ok (.iload_n 1, 1) := by decide +kernel
theorem d_X11_pin_51 : decode Y_X11_pin.cc 51 = .ok (.iload_n 3, 1) := by decide +kernel
theorem d_X11_pin_52 : decode Y_X11_pin.cc 52 = .ok (.iastore, 1) := by decide +kernel
theorem d_X11_pin_53 : decode Y_X11_pin.cc 53 = .ok (.iconst 1, 1) := by decide +kernel
theorem d_X11_pin_54 : decode Y_X11_pin.cc 54 = .ok (.ireturn, 1) := by decide +kernel
theorem b_X11_pin {G : MG} {d : Nat} {Q : Int32 → Mm → Prop} {x1 : Int32} {x2 : Int32} {x3 : Int32} {M : Mm} {c : Nat} (hL : Lay c M) (hc : c = 3 ∨ c = 39)  (h : (C G Y_X5_hasArm d [.ref (G.b + c), .int x1] M (Ri fun r2 M1 => M1.2.2 = M.2.2 ∧ ((r2 = 0 → Q 0 M1) ∧ (¬ r2 = 0 → (C G Y_X11_isWithin d [.int x2, .int 0, .int 99] M1 (Ri fun r5 M4 => M4.2.2 = M1.2.2 ∧ ((r5 = 0 → Q 0 M4) ∧ (¬ r5 = 0 → (C G Y_X11_isWithin d [.int x3, .int 0, .int 99] M4 (Ri fun r8 M7 => M7.2.2 = M4.2.2 ∧ ((¬ r8 = 0 → (vp_in x1 6 ∧ ∀ M10 : Mm, M10 = sI M7 79 x1.toNatClampNeg x2 → (vp_in x1 6 ∧ ∀ M11 : Mm, M11 = sI M10 80 x1.toNatClampNeg x3 → Q 1 M11))) ∧ (r8 = 0 → Q 0 M7))))))))))))) : C G Y_X11_pin (d + 1) [.ref (G.b + 0), .int x1, .int x2, .int x3] M (Ri Q) := by
  refine C.of (by decide) (Nat.le_of_ble_eq_true rfl) (lv := [(0, .ref (G.b + 0)), (1, .int x1), (2, .int x2), (3, .int x3)]) rfl ?_
  refine tw_aload_n 0 d_X11_pin_0 rfl rfl ?_
  refine tw_getR f_X11_19 hL s_0 ⟨rfl, rfl⟩ (rr_X11_1 s_0) d_X11_pin_1 ?_
  refine tw_iload_n 1 d_X11_pin_4 rfl rfl ?_
  refine tu_cVi (As := [.int x1]) cv_X11_98 hL (shc hc) rfl (Nat.le_of_ble_eq_true rfl) ⟨Nat.zero_le _, Nat.zero_le _⟩ d_X11_pin_5 h (fun r2 M1 h => ?_)
  have hL_M1 : Lay c M1 := hL.to h.1
  replace h := h.2
  refine tw_if_eq 31 d_X11_pin_8 (by decide) (fun z3 => ?_) (fun z3 => ?_)
  · replace h := h.1 z3
    refine tw_iconst d_X11_pin_31 k_0 ?_
    exact tw_zret (ty := .boolean) rfl rfl ⟨Nat.zero_le _, Nat.zero_le _⟩ d_X11_pin_32 h
  · replace h := h.2 z3
    refine tw_iload_n 2 d_X11_pin_11 rfl rfl ?_
    refine tw_iconst d_X11_pin_12 k_0 ?_
    refine tw_bipush d_X11_pin_13 kb_99 ?_
    refine tu_cSi (As := [.int x2, .int 0, .int 99]) cs_X11_177 rfl (Nat.le_of_ble_eq_true rfl) ⟨Nat.zero_le _, Nat.zero_le _⟩ d_X11_pin_15 h (fun r5 M4 h => ?_)
    have hL_M4 : Lay c M4 := hL_M1.to h.1
    replace h := h.2
    refine tw_if_eq 31 d_X11_pin_18 (by decide) (fun z6 => ?_) (fun z6 => ?_)
    · replace h := h.1 z6
      refine tw_iconst d_X11_pin_31 k_0 ?_
      exact tw_zret (ty := .boolean) rfl rfl ⟨Nat.zero_le _, Nat.zero_le _⟩ d_X11_pin_32 h
    · replace h := h.2 z6
      refine tw_iload_n 3 d_X11_pin_21 rfl rfl ?_
      refine tw_iconst d_X11_pin_22 k_0 ?_
      refine tw_bipush d_X11_pin_23 kb_99 ?_
      refine tu_cSi (As := [.int x3, .int 0, .int 99]) cs_X11_177 rfl (Nat.le_of_ble_eq_true rfl) ⟨Nat.zero_le _, Nat.zero_le _⟩ d_X11_pin_25 h (fun r8 M7 h => ?_)
      have hL_M7 : Lay c M7 := hL_M4.to h.1
      replace h := h.2
      refine tw_if_ne 33 d_X11_pin_28 (by decide) (fun z9 => ?_) (fun z9 => ?_)
      · replace h := h.1 z9
        refine tw_aload_n 0 d_X11_pin_33 rfl rfl ?_
        refine tw_getR f_X11_29 hL_M7 s_0 ⟨rfl, rfl⟩ (rr_X11_3 s_0) d_X11_pin_34 ?_
        refine tw_getR f_X11_121 hL_M7 s_75 ⟨rfl, rfl⟩ (rr_X7_3 s_75) d_X11_pin_37 ?_
        refine tw_iload_n 1 d_X11_pin_40 rfl rfl ?_
        refine tw_iload_n 2 d_X11_pin_41 rfl rfl ?_
        refine tu_iast hL_M7 s_79 d_X11_pin_42 h.1 (fun M10 e_M10 hL_M10 => ?_)
        replace h := h.2 M10 e_M10
        refine tw_aload_n 0 d_X11_pin_43 rfl rfl ?_
        refine tw_getR f_X11_29 hL_M10 s_0 ⟨rfl, rfl⟩ (rr_X11_3 s_0) d_X11_pin_44 ?_
        refine tw_getR f_X11_124 hL_M10 s_75 ⟨rfl, rfl⟩ (rr_X7_4 s_75) d_X11_pin_47 ?_
        refine tw_iload_n 1 d_X11_pin_50 rfl rfl ?_
        refine tw_iload_n 3 d_X11_pin_51 rfl rfl ?_
        refine tu_iast hL_M10 s_80 d_X11_pin_52 h.1 (fun M11 e_M11 hL_M11 => ?_)
        replace h := h.2 M11 e_M11
        refine tw_iconst d_X11_pin_53 k_1 ?_
        exact tw_zret (ty := .boolean) rfl rfl ⟨Nat.zero_le _, Nat.zero_le _⟩ d_X11_pin_54 h
      · replace h := h.2 z9
        refine tw_iconst d_X11_pin_31 k_0 ?_
        exact tw_zret (ty := .boolean) rfl rfl ⟨Nat.zero_le _, Nat.zero_le _⟩ d_X11_pin_32 h

theorem d_X11_bend_0 : decode Y_X11_bend.cc 0 = .ok (.aload_n 0, 1) := by decide +kernel
theorem d_X11_bend_1 : decode Y_X11_bend.cc 1 = .ok (.getfield 19, 3) := by decide +kernel
theorem d_X11_bend_4 : decode Y_X11_bend.cc 4 = .ok (.iload_n 1, 1) := by decide +kernel
theorem d_X11_bend_5 : decode Y_X11_bend.cc 5 = .ok (.invokevirtual 98, 3) := by decide +kernel
theorem d_X11_bend_8 : decode Y_X11_bend.cc 8 = .ok (.ifCond .eq 13, 3) := by decide +kernel
theorem d_X11_bend_11 : decode Y_X11_bend.cc 11 = .ok (.iload_n 2, 1) := by decide +kernel
theorem d_X11_bend_12 : decode Y_X11_bend.cc 12 = .ok (.iconst 0, 1) := by decide +kernel
theorem d_X11_bend_13 : decode Y_X11_bend.cc 13 = .ok (.bipush 9, 2) := by decide +kernel
theorem d_X11_bend_15 : decode Y_X11_bend.cc 15 = .ok (.invokestatic 177, 3) := by decide +kernel
theorem d_X11_bend_18 : decode Y_X11_bend.cc 18 = .ok (.ifCond .ne 5, 3) := by decide +kernel
theorem d_X11_bend_21 : decode Y_X11_bend.cc 21 = .ok (.iconst 0, 1) := by decide +kernel
theorem d_X11_bend_22 : decode Y_X11_bend.cc 22 = .ok (.ireturn, 1) := by decide +kernel
theorem d_X11_bend_23 : decode Y_X11_bend.cc 23 = .ok (.aload_n 0, 1) := by decide +kernel
theorem d_X11_bend_24 : decode Y_X11_bend.cc 24 = .ok (.getfield 29, 3) := by decide +kernel
theorem d_X11_bend_27 : decode Y_X11_bend.cc 27 = .ok (.getfield 133, 3) := by decide +kernel
theorem d_X11_bend_30 : decode Y_X11_bend.cc 30 = .ok (.iload_n 1, 1) := by decide +kernel
theorem d_X11_bend_31 : decode Y_X11_bend.cc 31 = .ok (.iload_n 2, 1) := by decide +kernel
theorem d_X11_bend_32 : decode Y_X11_bend.cc 32 = .ok (.iastore, 1) := by decide +kernel
theorem d_X11_bend_33 : decode Y_X11_bend.cc 33 = .ok (.iconst 1, 1) := by decide +kernel
theorem d_X11_bend_34 : decode Y_X11_bend.cc 34 = .ok (.ireturn, 1) := by decide +kernel
theorem b_X11_bend {G : MG} {d : Nat} {Q : Int32 → Mm → Prop} {x1 : Int32} {x2 : Int32} {M : Mm} {c : Nat} (hL : Lay c M) (hc : c = 3 ∨ c = 39)  (h : (C G Y_X5_hasArm d [.ref (G.b + c), .int x1] M (Ri fun r2 M1 => M1.2.2 = M.2.2 ∧ ((r2 = 0 → Q 0 M1) ∧ (¬ r2 = 0 → (C G Y_X11_isWithin d [.int x2, .int 0, .int 9] M1 (Ri fun r5 M4 => M4.2.2 = M1.2.2 ∧ ((¬ r5 = 0 → (vp_in x1 6 ∧ ∀ M7 : Mm, M7 = sI M4 81 x1.toNatClampNeg x2 → Q 1 M7)) ∧ (r5 = 0 → Q 0 M4))))))))) : C G Y_X11_bend (d + 1) [.ref (G.b + 0), .int x1, .int x2] M (Ri Q) := by
  refine C.of (by decide) (Nat.le_of_ble_eq_true rfl) (lv := [(0, .ref (G.b + 0)), (1, .int x1), (2, .int x2)]) rfl ?_
  refine tw_aload_n 0 d_X11_bend_0 rfl rfl ?_
  refine tw_getR f_X11_19 hL s_0 ⟨rfl, rfl⟩ (rr_X11_1 s_0) d_X11_bend_1 ?_
  refine tw_iload_n 1 d_X11_bend_4 rfl rfl ?_
  refine tu_cVi (As := [.int x1]) cv_X11_98 hL (shc hc) rfl (Nat.le_of_ble_eq_true rfl) ⟨Nat.zero_le _, Nat.zero_le _⟩ d_X11_bend_5 h (fun r2 M1 h => ?_)
  have hL_M1 : Lay c M1 := hL.to h.1
  replace h := h.2
  refine tw_if_eq 21 d_X11_bend_8 (by decide) (fun z3 => ?_) (fun z3 => ?_)
  · replace h := h.1 z3
    refine tw_iconst d_X11_bend_21 k_0 ?_
    exact tw_zret (ty := .boolean) rfl rfl ⟨Nat.zero_le _, Nat.zero_le _⟩ d_X11_bend_22 h
  · replace h := h.2 z3
    refine tw_iload_n 2 d_X11_bend_11 rfl rfl ?_
    refine tw_iconst d_X11_bend_12 k_0 ?_
    refine tw_bipush d_X11_bend_13 kb_9 ?_
    refine tu_cSi (As := [.int x2, .int 0, .int 9]) cs_X11_177 rfl (Nat.le_of_ble_eq_true rfl) ⟨Nat.zero_le _, Nat.zero_le _⟩ d_X11_bend_15 h (fun r5 M4 h => ?_)
    have hL_M4 : Lay c M4 := hL_M1.to h.1
    replace h := h.2
    refine tw_if_ne 23 d_X11_bend_18 (by decide) (fun z6 => ?_) (fun z6 => ?_)
    · replace h := h.1 z6
      refine tw_aload_n 0 d_X11_bend_23 rfl rfl ?_
      refine tw_getR f_X11_29 hL_M4 s_0 ⟨rfl, rfl⟩ (rr_X11_3 s_0) d_X11_bend_24 ?_
      refine tw_getR f_X11_133 hL_M4 s_75 ⟨rfl, rfl⟩ (rr_X7_5 s_75) d_X11_bend_27 ?_
      refine tw_iload_n 1 d_X11_bend_30 rfl rfl ?_
      refine tw_iload_n 2 d_X11_bend_31 rfl rfl ?_
      refine tu_iast hL_M4 s_81 d_X11_bend_32 h.1 (fun M7 e_M7 hL_M7 => ?_)
      replace h := h.2 M7 e_M7
      refine tw_iconst d_X11_bend_33 k_1 ?_
      exact tw_zret (ty := .boolean) rfl rfl ⟨Nat.zero_le _, Nat.zero_le _⟩ d_X11_bend_34 h
    · replace h := h.2 z6
      refine tw_iconst d_X11_bend_21 k_0 ?_
      exact tw_zret (ty := .boolean) rfl rfl ⟨Nat.zero_le _, Nat.zero_le _⟩ d_X11_bend_22 h

theorem d_X11_chain_0 : decode Y_X11_chain.cc 0 = .ok (.iload_n 1, 1) := by decide +kernel
theorem d_X11_chain_1 : decode Y_X11_chain.cc 1 = .ok (.ifCond .ge 13, 3) := by decide +kernel
theorem d_X11_chain_4 : decode Y_X11_chain.cc 4 = .ok (.aload_n 0, 1) := by decide +kernel
theorem d_X11_chain_5 : decode Y_X11_chain.cc 5 = .ok (.getfield 29, 3) := by decide +kernel
theorem d_X11_chain_8 : decode Y_X11_chain.cc 8 = .ok (.iconst 0, 1) := by decide +kernel
theorem d_X11_chain_9 : decode Y_X11_chain.cc 9 = .ok (.putfield 208, 3) := by decide +kernel
theorem d_X11_chain_12 : decode Y_X11_chain.cc 12 = .ok (.iconst 0, 1) := by decide +kernel
theorem d_X11_chain_13 : decode Y_X11_chain.cc 13 = .ok (.ireturn, 1) := by decide +kernel
theorem d_X11_chain_14 : decode Y_X11_chain.cc 14 = .ok (.aload_n 0, 1) := by decide +kernel
theorem d_X11_chain_15 : decode Y_X11_chain.cc 15 = .ok (.getfield 19, 3) := by decide +kernel
theorem d_X11_chain_18 : decode Y_X11_chain.cc 18 = .ok (.iload_n 1, 1) := by decide +kernel
theorem d_X11_chain_19 : decode Y_X11_chain.cc 19 = .ok (.invokevirtual 98, 3) := by decide +kernel
theorem d_X11_chain_22 : decode Y_X11_chain.cc 22 = .ok (.ifCond .eq 25, 3) := by decide +kernel
theorem d_X11_chain_25 : decode Y_X11_chain.cc 25 = .ok (.aload_n 0, 1) := by decide +kernel
theorem d_X11_chain_26 : decode Y_X11_chain.cc 26 = .ok (.getfield 29, 3) := by decide +kernel
theorem d_X11_chain_29 : decode Y_X11_chain.cc 29 = .ok (.iload_n 1, 1) := by decide +kernel
theorem d_X11_chain_30 : decode Y_X11_chain.cc 30 = .ok (.invokevirtual 211, 3) := by decide +kernel
theorem d_X11_chain_33 : decode Y_X11_chain.cc 33 = .ok (.ifCond .ne 14, 3) := by decide +kernel
theorem d_X11_chain_36 : decode Y_X11_chain.cc 36 = .ok (.aload_n 0, 1) := by decide +kernel
theorem d_X11_chain_37 : decode Y_X11_chain.cc 37 = .ok (.getfield 29, 3) := by decide +kernel
theorem d_X11_chain_40 : decode Y_X11_chain.cc 40 = .ok (.getfield 208, 3) := by decide +kernel
theorem d_X11_chain_43 : decode Y_X11_chain.cc 43 = .ok (.iconst 4, 1) := by decide +kernel
theorem d_X11_chain_44 : decode Y_X11_chain.cc 44 = .ok (.if_icmp .lt 5, 3) := by decide +kernel
theorem d_X11_chain_47 : decode Y_X11_chain.cc 47 = .ok (.iconst (-1), 1) := by decide +kernel
theorem d_X11_chain_48 : decode Y_X11_chain.cc 48 = .ok (.ireturn, 1) := by decide +kernel
theorem d_X11_chain_49 : decode Y_X11_chain.cc 49 = .ok (.aload_n 0, 1) := by decide +kernel
theorem d_X11_chain_50 : decode Y_X11_chain.cc 50 = .ok (.getfield 29, 3) := by decide +kernel
theorem d_X11_chain_53 : decode Y_X11_chain.cc 53 = .ok (.getfield 214, 3) := by decide +kernel
theorem d_X11_chain_56 : decode Y_X11_chain.cc 56 = .ok (.aload_n 0, 1) := by decide +kernel
theorem d_X11_chain_57 : decode Y_X11_chain.cc 57 = .ok (.getfield 29, 3) := by decide +kernel
theorem d_X11_chain_60 : decode Y_X11_chain.cc 60 = .ok (.getfield 208, 3) := by decide +kernel
theorem d_X11_chain_63 : decode Y_X11_chain.cc 63 = .ok (.iload_n 1, 1) := by decide +kernel
theorem d_X11_chain_64 : decode Y_X11_chain.cc 64 = .ok (.iastore, 1) := by decide +kernel
theorem d_X11_chain_65 : decode Y_X11_chain.cc 65 = .ok (.aload_n 0, 1) := by decide +kernel
theorem d_X11_chain_66 : decode Y_X11_chain.cc 66 = .ok (.getfield 29, 3) := by decide +kernel
theorem d_X11_chain_69 : decode Y_X11_chain.cc 69 = .ok (.dup, 1) := by decide +kernel
theorem d_X11_chain_70 : decode Y_X11_chain.cc 70 = .ok (.getfield 208, 3) := by decide +kernel
theorem d_X11_chain_73 : decode Y_X11_chain.cc 73 = .ok (.iconst 1, 1) := by decide +kernel
theorem d_X11_chain_74 : decode Y_X11_chain.cc 74 = .ok (.iadd, 1) := by decide +kernel
theorem d_X11_chain_75 : decode Y_X11_chain.cc 75 = .ok (.putfield 208, 3) := by decide +kernel
theorem d_X11_chain_78 : decode Y_X11_chain.cc 78 = .ok (.aload_n 0, 1) := by decide +kernel
theorem d_X11_chain_79 : decode Y_X11_chain.cc 79 = .ok (.getfield 29, 3) := by decide +kernel
theorem d_X11_chain_82 : decode Y_X11_chain.cc 82 = .ok (.getfield 208, 3) := by decide +kernel
theorem d_X11_chain_85 : decode Y_X11_chain.cc 85 = .ok (.ireturn, 1) := by decide +kernel
theorem b_X11_chain {G : MG} {d : Nat} {Q : Int32 → Mm → Prop} {x1 : Int32} {M : Mm} {c : Nat} (hL : Lay c M) (hc : c = 3 ∨ c = 39)  (h : ((0 ≤ x1 → (C G Y_X5_hasArm d [.ref (G.b + c), .int x1] M (Ri fun r3 M2 => M2.2.2 = M.2.2 ∧ ((r3 = 0 → Q (-1) M2) ∧ (¬ r3 = 0 → (C G Y_X7_hasChained d [.ref (G.b + 75), .int x1] M2 (Ri fun r6 M5 => M5.2.2 = M2.2.2 ∧ ((¬ r6 = 0 → Q (-1) M5) ∧ (r6 = 0 → (((M5.1 75 7) < 4 → (vp_in (M5.1 75 7) 4 ∧ ∀ M9 : Mm, M9 = sI M5 82 (M5.1 75 7).toNatClampNeg x1 → (∀ M10 : Mm, M10 = sI M9 75 7 ((M9.1 75 7) + 1) → Q (M10.1 75 7) M10))) ∧ (¬ (M5.1 75 7) < 4 → Q (-1) M5))))))))))) ∧ (¬ 0 ≤ x1 → (∀ M11 : Mm, M11 = sI M 75 7 0 → Q 0 M11)))) : C G Y_X11_chain (d + 1) [.ref (G.b + 0), .int x1] M (Ri Q) := by
  refine C.of (by decide) (Nat.le_of_ble_eq_true rfl) (lv := [(0, .ref (G.b + 0)), (1, .int x1)]) rfl ?_
  refine tw_iload_n 1 d_X11_chain_0 rfl rfl ?_
  refine tw_if_ge 14 d_X11_chain_1 (by decide) (fun z1 => ?_) (fun z1 => ?_)
  · replace h := h.1 z1
    refine tw_aload_n 0 d_X11_chain_14 rfl rfl ?_
    refine tw_getR f_X11_19 hL s_0 ⟨rfl, rfl⟩ (rr_X11_1 s_0) d_X11_chain_15 ?_
    refine tw_iload_n 1 d_X11_chain_18 rfl rfl ?_
    refine tu_cVi (As := [.int x1]) cv_X11_98 hL (shc hc) rfl (Nat.le_of_ble_eq_true rfl) ⟨Nat.zero_le _, Nat.zero_le _⟩ d_X11_chain_19 h (fun r3 M2 h => ?_)
    have hL_M2 : Lay c M2 := hL.to h.1
    replace h := h.2
    refine tw_if_eq 47 d_X11_chain_22 (by decide) (fun z4 => ?_) (fun z4 => ?_)
    · replace h := h.1 z4
      refine tw_iconst d_X11_chain_47 k_m1 ?_
      exact tw_iret rfl ⟨Nat.zero_le _, Nat.zero_le _⟩ d_X11_chain_48 h
    · replace h := h.2 z4
      refine tw_aload_n 0 d_X11_chain_25 rfl rfl ?_
      refine tw_getR f_X11_29 hL_M2 s_0 ⟨rfl, rfl⟩ (rr_X11_3 s_0) d_X11_chain_26 ?_
      refine tw_iload_n 1 d_X11_chain_29 rfl rfl ?_
      refine tu_cVi (As := [.int x1]) cv_X11_211 hL_M2 s_75 rfl (Nat.le_of_ble_eq_true rfl) ⟨Nat.zero_le _, Nat.zero_le _⟩ d_X11_chain_30 h (fun r6 M5 h => ?_)
      have hL_M5 : Lay c M5 := hL_M2.to h.1
      replace h := h.2
      refine tw_if_ne 47 d_X11_chain_33 (by decide) (fun z7 => ?_) (fun z7 => ?_)
      · replace h := h.1 z7
        refine tw_iconst d_X11_chain_47 k_m1 ?_
        exact tw_iret rfl ⟨Nat.zero_le _, Nat.zero_le _⟩ d_X11_chain_48 h
      · replace h := h.2 z7
        refine tw_aload_n 0 d_X11_chain_36 rfl rfl ?_
        refine tw_getR f_X11_29 hL_M5 s_0 ⟨rfl, rfl⟩ (rr_X11_3 s_0) d_X11_chain_37 ?_
        refine tw_getI f_X11_208 hL_M5 s_75 (Or.inl rfl) d_X11_chain_40 ?_
        refine tw_iconst d_X11_chain_43 k_4 ?_
        refine tw_icmp_lt 49 d_X11_chain_44 (by decide) (fun z8 => ?_) (fun z8 => ?_)
        · replace h := h.1 z8
          refine tw_aload_n 0 d_X11_chain_49 rfl rfl ?_
          refine tw_getR f_X11_29 hL_M5 s_0 ⟨rfl, rfl⟩ (rr_X11_3 s_0) d_X11_chain_50 ?_
          refine tw_getR f_X11_214 hL_M5 s_75 ⟨rfl, rfl⟩ (rr_X7_6 s_75) d_X11_chain_53 ?_
          refine tw_aload_n 0 d_X11_chain_56 rfl rfl ?_
          refine tw_getR f_X11_29 hL_M5 s_0 ⟨rfl, rfl⟩ (rr_X11_3 s_0) d_X11_chain_57 ?_
          refine tw_getI f_X11_208 hL_M5 s_75 (Or.inl rfl) d_X11_chain_60 ?_
          refine tw_iload_n 1 d_X11_chain_63 rfl rfl ?_
          refine tu_iast hL_M5 s_82 d_X11_chain_64 h.1 (fun M9 e_M9 hL_M9 => ?_)
          replace h := h.2 M9 e_M9
          refine tw_aload_n 0 d_X11_chain_65 rfl rfl ?_
          refine tw_getR f_X11_29 hL_M9 s_0 ⟨rfl, rfl⟩ (rr_X11_3 s_0) d_X11_chain_66 ?_
          refine tw_dup d_X11_chain_69 rfl ?_
          refine tw_getI f_X11_208 hL_M9 s_75 (Or.inl rfl) d_X11_chain_70 ?_
          refine tw_iconst d_X11_chain_73 k_1 ?_
          refine tw_iadd d_X11_chain_74 ?_
          refine tu_putI f_X11_208 hL_M9 s_75 rfl rfl d_X11_chain_75 (fun M10 e_M10 hL_M10 => ?_)
          replace h := h M10 e_M10
          refine tw_aload_n 0 d_X11_chain_78 rfl rfl ?_
          refine tw_getR f_X11_29 hL_M10 s_0 ⟨rfl, rfl⟩ (rr_X11_3 s_0) d_X11_chain_79 ?_
          refine tw_getI f_X11_208 hL_M10 s_75 (Or.inl rfl) d_X11_chain_82 ?_
          exact tw_iret rfl ⟨Nat.zero_le _, Nat.zero_le _⟩ d_X11_chain_85 h
        · replace h := h.2 z8
          refine tw_iconst d_X11_chain_47 k_m1 ?_
          exact tw_iret rfl ⟨Nat.zero_le _, Nat.zero_le _⟩ d_X11_chain_48 h
  · replace h := h.2 z1
    refine tw_aload_n 0 d_X11_chain_4 rfl rfl ?_
    refine tw_getR f_X11_29 hL s_0 ⟨rfl, rfl⟩ (rr_X11_3 s_0) d_X11_chain_5 ?_
    refine tw_iconst d_X11_chain_8 k_0 ?_
    refine tu_putI f_X11_208 hL s_75 rfl rfl d_X11_chain_9 (fun M11 e_M11 hL_M11 => ?_)
    replace h := h M11 e_M11
    refine tw_iconst d_X11_chain_12 k_0 ?_
    exact tw_iret rfl ⟨Nat.zero_le _, Nat.zero_le _⟩ d_X11_chain_13 h

theorem d_X11_size_0 : decode Y_X11_size.cc 0 = .ok (.iload_n 1, 1) := by decide +kernel
theorem d_X11_size_1 : decode Y_X11_size.cc 1 = .ok (.tableswitch 97 0 3 #[31, 58, 85, 90], 31) := by decide +kernel
theorem d_X11_size_32 : decode Y_X11_size.cc 32 = .ok (.aload_n 0, 1) := by decide +kernel
theorem d_X11_size_33 : decode Y_X11_size.cc 33 = .ok (.aload_n 0, 1) := by decide +kernel
theorem d_X11_size_34 : decode Y_X11_size.cc 34 = .ok (.getfield 29, 3) := by decide +kernel
theorem d_X11_size_37 : decode Y_X11_size.cc 37 = .ok (.getfield 111, 3) := by decide +kernel
theorem d_X11_size_40 : decode Y_X11_size.cc 40 = .ok (.invokevirtual 217, 3) := by decide +kernel
theorem d_X11_size_43 : decode Y_X11_size.cc 43 = .ok (.aload_n 0, 1) := by decide +kernel
theorem d_X11_size_44 : decode Y_X11_size.cc 44 = .ok (.aload_n 0, 1) := by decide +kernel
theorem d_X11_size_45 : decode Y_X11_size.cc 45 = .ok (.getfield 29, 3) := by decide +kernel
theorem d_X11_size_48 : decode Y_X11_size.cc 48 = .ok (.getfield 115, 3) := by decide +kernel
theorem d_X11_size_51 : decode Y_X11_size.cc 51 = .ok (.invokevirtual 217, 3) := by decide +kernel
theorem d_X11_size_54 : decode Y_X11_size.cc 54 = .ok (.invokestatic 161, 3) := by decide +kernel
theorem d_X11_size_57 : decode Y_X11_size.cc 57 = .ok (.l2i, 1) := by decide +kernel
theorem d_X11_size_58 : decode Y_X11_size.cc 58 = .ok (.ireturn, 1) := by decide +kernel
theorem d_X11_size_59 : decode Y_X11_size.cc 59 = .ok (.aload_n 0, 1) := by decide +kernel
theorem d_X11_size_60 : decode Y_X11_size.cc 60 = .ok (.aload_n 0, 1) := by decide +kernel
theorem d_X11_size_61 : decode Y_X11_size.cc 61 = .ok (.getfield 29, 3) := by decide +kernel
theorem d_X11_size_64 : decode Y_X11_size.cc 64 = .ok (.getfield 115, 3) := by decide +kernel
theorem d_X11_size_67 : decode Y_X11_size.cc 67 = .ok (.invokevirtual 217, 3) := by decide +kernel
theorem d_X11_size_70 : decode Y_X11_size.cc 70 = .ok (.aload_n 0, 1) := by decide +kernel
theorem d_X11_size_71 : decode Y_X11_size.cc 71 = .ok (.aload_n 0, 1) := by decide +kernel
theorem d_X11_size_72 : decode Y_X11_size.cc 72 = .ok (.getfield 29, 3) := by decide +kernel
theorem d_X11_size_75 : decode Y_X11_size.cc 75 = .ok (.getfield 111, 3) := by decide +kernel
theorem d_X11_size_78 : decode Y_X11_size.cc 78 = .ok (.invokevirtual 217, 3) := by decide +kernel
theorem d_X11_size_81 : decode Y_X11_size.cc 81 = .ok (.invokestatic 161, 3) := by decide +kernel
theorem d_X11_size_84 : decode Y_X11_size.cc 84 = .ok (.l2i, 1) := by decide +kernel
theorem d_X11_size_85 : decode Y_X11_size.cc 85 = .ok (.ireturn, 1) := by decide +kernel
theorem d_X11_size_86 : decode Y_X11_size.cc 86 = .ok (.aload_n 0, 1) := by decide +kernel
theorem d_X11_size_87 : decode Y_X11_size.cc 87 = .ok (.invokevirtual 221, 3) := by decide +kernel
theorem d_X11_size_90 : decode Y_X11_size.cc 90 = .ok (.ireturn, 1) := by decide +kernel
theorem d_X11_size_91 : decode Y_X11_size.cc 91 = .ok (.aload_n 0, 1) := by decide +kernel
theorem d_X11_size_92 : decode Y_X11_size.cc 92 = .ok (.invokevirtual 225, 3) := by decide +kernel
theorem d_X11_size_95 : decode Y_X11_size.cc 95 = .ok (.iconst 2, 1) := by decide +kernel
theorem d_X11_size_96 : decode Y_X11_size.cc 96 = .ok (.irem, 1) := by decide +kernel
theorem d_X11_size_97 : decode Y_X11_size.cc 97 = .ok (.ireturn, 1) := by decide +kernel
theorem d_X11_size_98 : decode Y_X11_size.cc 98 = .ok (.iconst (-1), 1) := by decide +kernel
theorem d_X11_size_99 : decode Y_X11_size.cc 99 = .ok (.ireturn, 1) := by decide +kernel
theorem b_X11_size {G : MG} {d : Nat} {Q : Int32 → Mm → Prop} {x1 : Int32} {M : Mm} {c : Nat} (hL : Lay c M)  (h : ((x1 = 0 → (C G Y_X11_chainProduct d [.ref (G.b + 0), .ref (G.b + 76)] M (Rj fun r2 M1 => M1.2.2 = M.2.2 ∧ (C G Y_X11_chainProduct d [.ref (G.b + 0), .ref (G.b + 77)] M1 (Rj fun r4 M3 => M3.2.2 = M1.2.2 ∧ (C G Y_X11_inLowestTerms d [.long r2, .long r4] M3 (Rj fun r6 M5 => M5.2.2 = M3.2.2 ∧ Q r6.toInt32 M5))))))) ∧ (x1 = 1 → (C G Y_X11_chainProduct d [.ref (G.b + 0), .ref (G.b + 77)] M (Rj fun r8 M7 => M7.2.2 = M.2.2 ∧ (C G Y_X11_chainProduct d [.ref (G.b + 0), .ref (G.b + 76)] M7 (Rj fun r10 M9 => M9.2.2 = M7.2.2 ∧ (C G Y_X11_inLowestTerms d [.long r8, .long r10] M9 (Rj fun r12 M11 => M11.2.2 = M9.2.2 ∧ Q r12.toInt32 M11))))))) ∧ (x1 = 2 → (C G Y_X11_chainQuarters d [.ref (G.b + 0)] M (Ri fun r14 M13 => M13.2.2 = M.2.2 ∧ Q r14 M13))) ∧ (x1 = 3 → (C G Y_X11_chainMirrors d [.ref (G.b + 0)] M (Ri fun r16 M15 => M15.2.2 = M.2.2 ∧ Q (r16 - r16 / 2 * 2) M15))) ∧ (¬ x1 = 0 → ¬ x1 = 1 → ¬ x1 = 2 → ¬ x1 = 3 → Q (-1) M))) : C G Y_X11_size (d + 1) [.ref (G.b + 0), .int x1] M (Ri Q) := by
  refine C.of (by decide) (Nat.le_of_ble_eq_true rfl) (lv := [(0, .ref (G.b + 0)), (1, .int x1)]) rfl ?_
  refine tw_iload_n 1 d_X11_size_0 rfl rfl ?_
  by_cases hz0 : x1 = 0
  · replace h := h.1 hz0
    refine tw_tabIn 32 d_X11_size_1 (by rw [hz0]; decide) (by rw [hz0]; decide) (by rw [hz0]; rfl) (by decide) ?_
    refine tw_aload_n 0 d_X11_size_32 rfl rfl ?_
    refine tw_aload_n 0 d_X11_size_33 rfl rfl ?_
    refine tw_getR f_X11_29 hL s_0 ⟨rfl, rfl⟩ (rr_X11_3 s_0) d_X11_size_34 ?_
    refine tw_getR f_X11_111 hL s_75 ⟨rfl, rfl⟩ (rr_X7_0 s_75) d_X11_size_37 ?_
    refine tu_cVJ (As := [.ref (G.b + 76)]) cv_X11_217 hL s_0 rfl (Nat.le_of_ble_eq_true rfl) ⟨Nat.zero_le _, Nat.zero_le _⟩ d_X11_size_40 h (fun r2 M1 h => ?_)
    have hL_M1 : Lay c M1 := hL.to h.1
    replace h := h.2
    refine tw_aload_n 0 d_X11_size_43 rfl rfl ?_
    refine tw_aload_n 0 d_X11_size_44 rfl rfl ?_
    refine tw_getR f_X11_29 hL_M1 s_0 ⟨rfl, rfl⟩ (rr_X11_3 s_0) d_X11_size_45 ?_
    refine tw_getR f_X11_115 hL_M1 s_75 ⟨rfl, rfl⟩ (rr_X7_1 s_75) d_X11_size_48 ?_
    refine tu_cVJ (As := [.ref (G.b + 77)]) cv_X11_217 hL_M1 s_0 rfl (Nat.le_of_ble_eq_true rfl) ⟨Nat.zero_le _, Nat.zero_le _⟩ d_X11_size_51 h (fun r4 M3 h => ?_)
    have hL_M3 : Lay c M3 := hL_M1.to h.1
    replace h := h.2
    refine tu_cSJ (As := [.long r2, .long r4]) cs_X11_161 rfl (Nat.le_of_ble_eq_true rfl) ⟨Nat.zero_le _, Nat.zero_le _⟩ d_X11_size_54 h (fun r6 M5 h => ?_)
    have hL_M5 : Lay c M5 := hL_M3.to h.1
    replace h := h.2
    refine tw_l2i d_X11_size_57 ?_
    exact tw_iret rfl ⟨Nat.zero_le _, Nat.zero_le _⟩ d_X11_size_58 h
  by_cases hz1 : x1 = 1
  · replace h := h.2.1 hz1
    refine tw_tabIn 59 d_X11_size_1 (by rw [hz1]; decide) (by rw [hz1]; decide) (by rw [hz1]; rfl) (by decide) ?_
    refine tw_aload_n 0 d_X11_size_59 rfl rfl ?_
    refine tw_aload_n 0 d_X11_size_60 rfl rfl ?_
    refine tw_getR f_X11_29 hL s_0 ⟨rfl, rfl⟩ (rr_X11_3 s_0) d_X11_size_61 ?_
    refine tw_getR f_X11_115 hL s_75 ⟨rfl, rfl⟩ (rr_X7_1 s_75) d_X11_size_64 ?_
    refine tu_cVJ (As := [.ref (G.b + 77)]) cv_X11_217 hL s_0 rfl (Nat.le_of_ble_eq_true rfl) ⟨Nat.zero_le _, Nat.zero_le _⟩ d_X11_size_67 h (fun r8 M7 h => ?_)
    have hL_M7 : Lay c M7 := hL.to h.1
    replace h := h.2
    refine tw_aload_n 0 d_X11_size_70 rfl rfl ?_
    refine tw_aload_n 0 d_X11_size_71 rfl rfl ?_
    refine tw_getR f_X11_29 hL_M7 s_0 ⟨rfl, rfl⟩ (rr_X11_3 s_0) d_X11_size_72 ?_
    refine tw_getR f_X11_111 hL_M7 s_75 ⟨rfl, rfl⟩ (rr_X7_0 s_75) d_X11_size_75 ?_
    refine tu_cVJ (As := [.ref (G.b + 76)]) cv_X11_217 hL_M7 s_0 rfl (Nat.le_of_ble_eq_true rfl) ⟨Nat.zero_le _, Nat.zero_le _⟩ d_X11_size_78 h (fun r10 M9 h => ?_)
    have hL_M9 : Lay c M9 := hL_M7.to h.1
    replace h := h.2
    refine tu_cSJ (As := [.long r8, .long r10]) cs_X11_161 rfl (Nat.le_of_ble_eq_true rfl) ⟨Nat.zero_le _, Nat.zero_le _⟩ d_X11_size_81 h (fun r12 M11 h => ?_)
    have hL_M11 : Lay c M11 := hL_M9.to h.1
    replace h := h.2
    refine tw_l2i d_X11_size_84 ?_
    exact tw_iret rfl ⟨Nat.zero_le _, Nat.zero_le _⟩ d_X11_size_85 h
  by_cases hz2 : x1 = 2
  · replace h := h.2.2.1 hz2
    refine tw_tabIn 86 d_X11_size_1 (by rw [hz2]; decide) (by rw [hz2]; decide) (by rw [hz2]; rfl) (by decide) ?_
    refine tw_aload_n 0 d_X11_size_86 rfl rfl ?_
    refine tu_cVi (As := []) cv_X11_221 hL s_0 rfl (Nat.le_of_ble_eq_true rfl) ⟨Nat.zero_le _, Nat.zero_le _⟩ d_X11_size_87 h (fun r14 M13 h => ?_)
    have hL_M13 : Lay c M13 := hL.to h.1
    replace h := h.2
    exact tw_iret rfl ⟨Nat.zero_le _, Nat.zero_le _⟩ d_X11_size_90 h
  by_cases hz3 : x1 = 3
  · replace h := h.2.2.2.1 hz3
    refine tw_tabIn 91 d_X11_size_1 (by rw [hz3]; decide) (by rw [hz3]; decide) (by rw [hz3]; rfl) (by decide) ?_
    refine tw_aload_n 0 d_X11_size_91 rfl rfl ?_
    refine tu_cVi (As := []) cv_X11_225 hL s_0 rfl (Nat.le_of_ble_eq_true rfl) ⟨Nat.zero_le _, Nat.zero_le _⟩ d_X11_size_92 h (fun r16 M15 h => ?_)
    have hL_M15 : Lay c M15 := hL.to h.1
    replace h := h.2
    refine tw_iconst d_X11_size_95 k_2 ?_
    refine tw_irem d_X11_size_96 (by decide) ?_
    exact tw_iret rfl ⟨Nat.zero_le _, Nat.zero_le _⟩ d_X11_size_97 h
  replace h := h.2.2.2.2 hz0 hz1 hz2 hz3
  refine tw_tabOut 98 d_X11_size_1 (tab_out_0_3 hz0 hz1 hz2 hz3) (by decide) ?_
  refine tw_iconst d_X11_size_98 k_m1 ?_
  exact tw_iret rfl ⟨Nat.zero_le _, Nat.zero_le _⟩ d_X11_size_99 h

theorem d_X11_outs_0 : decode Y_X11_outs.cc 0 = .ok (.aload_n 0, 1) := by decide +kernel
theorem d_X11_outs_1 : decode Y_X11_outs.cc 1 = .ok (.getfield 19, 3) := by decide +kernel
theorem d_X11_outs_4 : decode Y_X11_outs.cc 4 = .ok (.iload_n 1, 1) := by decide +kernel
theorem d_X11_outs_5 : decode Y_X11_outs.cc 5 = .ok (.invokevirtual 146, 3) := by decide +kernel
theorem d_X11_outs_8 : decode Y_X11_outs.cc 8 = .ok (.ifCond .ne 5, 3) := by decide +kernel
theorem d_X11_outs_11 : decode Y_X11_outs.cc 11 = .ok (.iconst (-1), 1) := by decide +kernel
theorem d_X11_outs_12 : decode Y_X11_outs.cc 12 = .ok (.ireturn, 1) := by decide +kernel
theorem d_X11_outs_13 : decode Y_X11_outs.cc 13 = .ok (.aload_n 0, 1) := by decide +kernel
theorem d_X11_outs_14 : decode Y_X11_outs.cc 14 = .ok (.getfield 19, 3) := by decide +kernel
theorem d_X11_outs_17 : decode Y_X11_outs.cc 17 = .ok (.getfield 149, 3) := by decide +kernel
theorem d_X11_outs_20 : decode Y_X11_outs.cc 20 = .ok (.iload_n 1, 1) := by decide +kernel
theorem d_X11_outs_21 : decode Y_X11_outs.cc 21 = .ok (.aaload, 1) := by decide +kernel
theorem d_X11_outs_22 : decode Y_X11_outs.cc 22 = .ok (.astore_n 2, 1) := by decide +kernel
theorem d_X11_outs_23 : decode Y_X11_outs.cc 23 = .ok (.iconst 0, 1) := by decide +kernel
theorem d_X11_outs_24 : decode Y_X11_outs.cc 24 = .ok (.istore_n 3, 1) := by decide +kernel
theorem d_X11_outs_25 : decode Y_X11_outs.cc 25 = .ok (.iconst 0, 1) := by decide +kernel
theorem d_X11_outs_26 : decode Y_X11_outs.cc 26 = .ok (.istore 4, 2) := by decide +kernel
theorem d_X11_outs_28 : decode Y_X11_outs.cc 28 = .ok (.iload 4, 2) := by decide +kernel
theorem d_X11_outs_30 : decode Y_X11_outs.cc 30 = .ok (.aload_n 2, 1) := by decide +kernel
theorem d_X11_outs_31 : decode Y_X11_outs.cc 31 = .ok (.getfield 168, 3) := by decide +kernel
theorem d_X11_outs_34 : decode Y_X11_outs.cc 34 = .ok (.if_icmp .ge 37, 3) := by decide +kernel
theorem d_X11_outs_37 : decode Y_X11_outs.cc 37 = .ok (.aload_n 0, 1) := by decide +kernel
theorem d_X11_outs_38 : decode Y_X11_outs.cc 38 = .ok (.aload_n 2, 1) := by decide +kernel
theorem d_X11_outs_39 : decode Y_X11_outs.cc 39 = .ok (.getfield 174, 3) := by decide +kernel
theorem d_X11_outs_42 : decode Y_X11_outs.cc 42 = .ok (.iload 4, 2) := by decide +kernel
theorem d_X11_outs_44 : decode Y_X11_outs.cc 44 = .ok (.iaload, 1) := by decide +kernel
theorem d_X11_outs_45 : decode Y_X11_outs.cc 45 = .ok (.aload_n 2, 1) := by decide +kernel
theorem d_X11_outs_46 : decode Y_X11_outs.cc 46 = .ok (.getfield 171, 3) := by decide +kernel
theorem d_X11_outs_49 : decode Y_X11_outs.cc 49 = .ok (.iload 4, 2) := by decide +kernel
theorem d_X11_outs_51 : decode Y_X11_outs.cc 51 = .ok (.iaload, 1) := by decide +kernel
theorem d_X11_outs_52 : decode Y_X11_outs.cc 52 = .ok (.invokevirtual 230, 3) := by decide +kernel
theorem d_X11_outs_55 : decode Y_X11_outs.cc 55 = .ok (.ifCond .ne 10, 3) := by decide +kernel
theorem d_X11_outs_58 : decode Y_X11_outs.cc 58 = .ok (.iload_n 3, 1) := by decide +kernel
theorem d_X11_outs_59 : decode Y_X11_outs.cc 59 = .ok (.iconst 1, 1) := by decide +kernel
theorem d_X11_outs_60 : decode Y_X11_outs.cc 60 = .ok (.iload 4, 2) := by decide +kernel
theorem d_X11_outs_62 : decode Y_X11_outs.cc 62 = .ok (.ishl, 1) := by decide +kernel
theorem d_X11_outs_63 : decode Y_X11_outs.cc 63 = .ok (.ior, 1) := by decide +kernel
theorem d_X11_outs_64 : decode Y_X11_outs.cc 64 = .ok (.istore_n 3, 1) := by decide +kernel
theorem d_X11_outs_65 : decode Y_X11_outs.cc 65 = .ok (.iinc 4 1, 3) := by decide +kernel
theorem d_X11_outs_68 : decode Y_X11_outs.cc 68 = .ok (.goto (-40), 3) := by decide +kernel
theorem d_X11_outs_71 : decode Y_X11_outs.cc 71 = .ok (.iload_n 3, 1) := by decide +kernel
theorem d_X11_outs_72 : decode Y_X11_outs.cc 72 = .ok (.ireturn, 1) := by decide +kernel
def L_X11_outs_28 (G : MG) (d : Nat) (Q : Int32 → Mm → Prop) (o2 : Nat) (x3 : Int32) (x4 : Int32) (M : Mm) : Prop := T G Y_X11_outs (d + 1) (Ri Q) 0 0 28 [(0, .ref (G.b + 0)), (2, .ref (G.b + o2)), (3, .int x3), (4, .int x4)] [] M
theorem b_X11_outs_28 {G : MG} {d : Nat} {Q : Int32 → Mm → Prop} {o2 : Nat} {x3 : Int32} {x4 : Int32} {M : Mm} {c : Nat} (hL : Lay c M) (hc : c = 3 ∨ c = 39) (ho2 : sh o2 = some (.inr 2)) (h : (((M.1 o2 6) ≤ x4 → Q x3 M) ∧ (¬ (M.1 o2 6) ≤ x4 → (vp_in x4 6 ∧ (vp_in x4 6 ∧ (C G Y_X11_passChain d [.ref (G.b + 0), .int (M.1 (o2 + 1) x4.toNatClampNeg), .int (M.1 (o2 + 2) x4.toNatClampNeg)] M (Ri fun r3 M2 => M2.2.2 = M.2.2 ∧ ((¬ r3 = 0 → L_X11_outs_28 G d Q o2 x3 (x4 + 1) M2) ∧ (r3 = 0 → L_X11_outs_28 G d Q o2 (x3 ||| (1 <<< (x4 &&& 31))) (x4 + 1) M2))))))))) : L_X11_outs_28 G d Q o2 x3 x4 M := by
  unfold L_X11_outs_28
  refine tw_iload 3 d_X11_outs_28 rfl ?_
  refine tw_aload_n 1 d_X11_outs_30 rfl rfl ?_
  refine tw_getI f_X11_168 hL ho2 (Or.inl rfl) d_X11_outs_31 ?_
  refine tw_icmp_ge 71 d_X11_outs_34 (by decide) (fun z1 => ?_) (fun z1 => ?_)
  · replace h := h.1 z1
    refine tw_iload_n 2 d_X11_outs_71 rfl rfl ?_
    exact tw_iret rfl ⟨Nat.zero_le _, Nat.zero_le _⟩ d_X11_outs_72 h
  · replace h := h.2 z1
    refine tw_aload_n 0 d_X11_outs_37 rfl rfl ?_
    refine tw_aload_n 1 d_X11_outs_38 rfl rfl ?_
    refine tw_getR f_X11_174 hL ho2 ⟨rfl, rfl⟩ (rr_X2_4 ho2) d_X11_outs_39 ?_
    refine tw_iload 3 d_X11_outs_42 rfl ?_
    refine tw_iald hL (sr_X2_4 ho2) d_X11_outs_44 h.1 ?_
    replace h := h.2
    refine tw_aload_n 1 d_X11_outs_45 rfl rfl ?_
    refine tw_getR f_X11_171 hL ho2 ⟨rfl, rfl⟩ (rr_X2_5 ho2) d_X11_outs_46 ?_
    refine tw_iload 3 d_X11_outs_49 rfl ?_
    refine tw_iald hL (sr_X2_5 ho2) d_X11_outs_51 h.1 ?_
    replace h := h.2
    refine tu_cVi (As := [.int (M.1 (o2 + 1) x4.toNatClampNeg), .int (M.1 (o2 + 2) x4.toNatClampNeg)]) cv_X11_230 hL s_0 rfl (Nat.le_of_ble_eq_true rfl) ⟨Nat.zero_le _, Nat.zero_le _⟩ d_X11_outs_52 h (fun r3 M2 h => ?_)
    have hL_M2 : Lay c M2 := hL.to h.1
    replace h := h.2
    refine tw_if_ne 65 d_X11_outs_55 (by decide) (fun z4 => ?_) (fun z4 => ?_)
    · replace h := h.1 z4
      refine tw_iinc 3 [(4, .int (x4 + 1)), (0, .ref (G.b + 0)), (2, .ref (G.b + o2)), (3, .int x3)] d_X11_outs_65 rfl rfl (Nat.le_of_ble_eq_true rfl) rfl ?_
      refine tw_goto 28 d_X11_outs_68 (by decide) ?_
      exact tw_lv [1, 2, 3, 0] rfl h
    · replace h := h.2 z4
      refine tw_iload_n 2 d_X11_outs_58 rfl rfl ?_
      refine tw_iconst d_X11_outs_59 k_1 ?_
      refine tw_iload 3 d_X11_outs_60 rfl ?_
      refine tw_ishl d_X11_outs_62 ?_
      refine tw_ior d_X11_outs_63 ?_
      refine tw_istore_n [(3, .int (x3 ||| (1 <<< (x4 &&& 31)))), (0, .ref (G.b + 0)), (2, .ref (G.b + o2)), (4, .int x4)] d_X11_outs_64 rfl (Nat.le_of_ble_eq_true rfl) rfl ?_
      refine tw_iinc 3 [(4, .int (x4 + 1)), (3, .int (x3 ||| (1 <<< (x4 &&& 31)))), (0, .ref (G.b + 0)), (2, .ref (G.b + o2))] d_X11_outs_65 rfl rfl (Nat.le_of_ble_eq_true rfl) rfl ?_
      refine tw_goto 28 d_X11_outs_68 (by decide) ?_
      exact tw_lv [2, 3, 1, 0] rfl h
theorem b_X11_outs {G : MG} {d : Nat} {Q : Int32 → Mm → Prop} {x1 : Int32} {M : Mm} {c : Nat} (hL : Lay c M) (hc : c = 3 ∨ c = 39)  (h : (C G Y_X5_hasChart d [.ref (G.b + c), .int x1] M (Ri fun r2 M1 => M1.2.2 = M.2.2 ∧ ((¬ r2 = 0 → (vp_in x1 7 ∧ L_X11_outs_28 G d Q ((c + 2) + 13 + 3 * x1.toNatClampNeg) 0 0 M1)) ∧ (r2 = 0 → Q (-1) M1))))) : C G Y_X11_outs (d + 1) [.ref (G.b + 0), .int x1] M (Ri Q) := by
  refine C.of (by decide) (Nat.le_of_ble_eq_true rfl) (lv := [(0, .ref (G.b + 0)), (1, .int x1)]) rfl ?_
  refine tw_aload_n 0 d_X11_outs_0 rfl rfl ?_
  refine tw_getR f_X11_19 hL s_0 ⟨rfl, rfl⟩ (rr_X11_1 s_0) d_X11_outs_1 ?_
  refine tw_iload_n 1 d_X11_outs_4 rfl rfl ?_
  refine tu_cVi (As := [.int x1]) cv_X11_146 hL (shc hc) rfl (Nat.le_of_ble_eq_true rfl) ⟨Nat.zero_le _, Nat.zero_le _⟩ d_X11_outs_5 h (fun r2 M1 h => ?_)
  have hL_M1 : Lay c M1 := hL.to h.1
  replace h := h.2
  refine tw_if_ne 13 d_X11_outs_8 (by decide) (fun z3 => ?_) (fun z3 => ?_)
  · replace h := h.1 z3
    refine tw_aload_n 0 d_X11_outs_13 rfl rfl ?_
    refine tw_getR f_X11_19 hL_M1 s_0 ⟨rfl, rfl⟩ (rr_X11_1 s_0) d_X11_outs_14 ?_
    refine tw_getR f_X11_149 hL_M1 (shc hc) ⟨rfl, rfl⟩ (rr_X5_1 (shc hc)) d_X11_outs_17 ?_
    refine tw_iload_n 1 d_X11_outs_20 rfl rfl ?_
    have hin := h.1
    refine tw_aald hL_M1 (sr_X5_1 (shc hc)) (by decide) (re_5 (sr_X5_1 (shc hc))) d_X11_outs_21 h.1 ?_
    have hs4 := se_5 (sr_X5_1 (shc hc)) (vp_lt h.1)
    replace h := h.2
    refine tw_astore_n [(2, .ref (G.b + ((c + 2) + 13 + 3 * x1.toNatClampNeg))), (0, .ref (G.b + 0)), (1, .int x1)] d_X11_outs_22 rfl (Nat.le_of_ble_eq_true rfl) rfl ?_
    refine tw_iconst d_X11_outs_23 k_0 ?_
    refine tw_istore_n [(3, .int 0), (2, .ref (G.b + ((c + 2) + 13 + 3 * x1.toNatClampNeg))), (0, .ref (G.b + 0)), (1, .int x1)] d_X11_outs_24 rfl (Nat.le_of_ble_eq_true rfl) rfl ?_
    refine tw_iconst d_X11_outs_25 k_0 ?_
    refine tw_istore [(4, .int 0), (3, .int 0), (2, .ref (G.b + ((c + 2) + 13 + 3 * x1.toNatClampNeg))), (0, .ref (G.b + 0)), (1, .int x1)] d_X11_outs_26 (Nat.le_of_ble_eq_true rfl) rfl ?_
    exact tw_lv [3, 2, 1, 0] rfl h
  · replace h := h.2 z3
    refine tw_iconst d_X11_outs_11 k_m1 ?_
    exact tw_iret rfl ⟨Nat.zero_le _, Nat.zero_le _⟩ d_X11_outs_12 h

theorem d_X11_fitted_0 : decode Y_X11_fitted.cc 0 = .ok (.iload_n 1, 1) := by decide +kernel
theorem d_X11_fitted_1 : decode Y_X11_fitted.cc 1 = .ok (.iconst 1, 1) := by decide +kernel
theorem d_X11_fitted_2 : decode Y_X11_fitted.cc 2 = .ok (.sipush 999, 3) := by decide +kernel
theorem d_X11_fitted_5 : decode Y_X11_fitted.cc 5 = .ok (.invokestatic 177, 3) := by decide +kernel
theorem d_X11_fitted_8 : decode Y_X11_fitted.cc 8 = .ok (.ifCond .eq 14, 3) := by decide +kernel
theorem d_X11_fitted_11 : decode Y_X11_fitted.cc 11 = .ok (.iload_n 2, 1) := by decide +kernel
theorem d_X11_fitted_12 : decode Y_X11_fitted.cc 12 = .ok (.iconst 1, 1) := by decide +kernel
theorem d_X11_fitted_13 : decode Y_X11_fitted.cc 13 = .ok (.sipush 999, 3) := by decide +kernel
theorem d_X11_fitted_16 : decode Y_X11_fitted.cc 16 = .ok (.invokestatic 177, 3) := by decide +kernel
theorem d_X11_fitted_19 : decode Y_X11_fitted.cc 19 = .ok (.ifCond .ne 5, 3) := by decide +kernel
theorem d_X11_fitted_22 : decode Y_X11_fitted.cc 22 = .ok (.iconst (-1), 1) := by decide +kernel
theorem d_X11_fitted_23 : decode Y_X11_fitted.cc 23 = .ok (.ireturn, 1) := by decide +kernel
theorem d_X11_fitted_24 : decode Y_X11_fitted.cc 24 = .ok (.iload_n 3, 1) := by decide +kernel
theorem d_X11_fitted_25 : decode Y_X11_fitted.cc 25 = .ok (.iconst 0, 1) := by decide +kernel
theorem d_X11_fitted_26 : decode Y_X11_fitted.cc 26 = .ok (.iconst 2, 1) := by decide +kernel
theorem d_X11_fitted_27 : decode Y_X11_fitted.cc 27 = .ok (.invokestatic 177, 3) := by decide +kernel
theorem d_X11_fitted_30 : decode Y_X11_fitted.cc 30 = .ok (.ifCond .eq 19, 3) := by decide +kernel
theorem d_X11_fitted_33 : decode Y_X11_fitted.cc 33 = .ok (.aload_n 0, 1) := by decide +kernel
theorem d_X11_fitted_34 : decode Y_X11_fitted.cc 34 = .ok (.getfield 65, 3) := by decide +kernel
theorem d_X11_fitted_37 : decode Y_X11_fitted.cc 37 = .ok (.aload_n 0, 1) := by decide +kernel
theorem d_X11_fitted_38 : decode Y_X11_fitted.cc 38 = .ok (.getfield 19, 3) := by decide +kernel
theorem d_X11_fitted_41 : decode Y_X11_fitted.cc 41 = .ok (.iload_n 1, 1) := by decide +kernel
theorem d_X11_fitted_42 : decode Y_X11_fitted.cc 42 = .ok (.iload_n 2, 1) := by decide +kernel
theorem d_X11_fitted_43 : decode Y_X11_fitted.cc 43 = .ok (.invokevirtual 233, 3) := by decide +kernel
theorem d_X11_fitted_46 : decode Y_X11_fitted.cc 46 = .ok (.ifCond .ne 5, 3) := by decide +kernel
theorem d_X11_fitted_49 : decode Y_X11_fitted.cc 49 = .ok (.iconst (-1), 1) := by decide +kernel
theorem d_X11_fitted_50 : decode Y_X11_fitted.cc 50 = .ok (.ireturn, 1) := by decide +kernel
theorem d_X11_fitted_51 : decode Y_X11_fitted.cc 51 = .ok (.iload_n 3, 1) := by decide +kernel
theorem d_X11_fitted_52 : decode Y_X11_fitted.cc 52 = .ok (.ifCond .ne 13, 3) := by decide +kernel
theorem d_X11_fitted_55 : decode Y_X11_fitted.cc 55 = .ok (.aload_n 0, 1) := by decide +kernel
theorem d_X11_fitted_56 : decode Y_X11_fitted.cc 56 = .ok (.getfield 65, 3) := by decide +kernel
theorem d_X11_fitted_59 : decode Y_X11_fitted.cc 59 = .ok (.getfield 237, 3) := by decide +kernel
theorem d_X11_fitted_62 : decode Y_X11_fitted.cc 62 = .ok (.goto 25, 3) := by decide +kernel
theorem d_X11_fitted_65 : decode Y_X11_fitted.cc 65 = .ok (.iload_n 3, 1) := by decide +kernel
theorem d_X11_fitted_66 : decode Y_X11_fitted.cc 66 = .ok (.iconst 1, 1) := by decide +kernel
theorem d_X11_fitted_67 : decode Y_X11_fitted.cc 67 = .ok (.if_icmp .ne 13, 3) := by decide +kernel
theorem d_X11_fitted_70 : decode Y_X11_fitted.cc 70 = .ok (.aload_n 0, 1) := by decide +kernel
theorem d_X11_fitted_71 : decode Y_X11_fitted.cc 71 = .ok (.getfield 65, 3) := by decide +kernel
theorem d_X11_fitted_74 : decode Y_X11_fitted.cc 74 = .ok (.getfield 240, 3) := by decide +kernel
theorem d_X11_fitted_77 : decode Y_X11_fitted.cc 77 = .ok (.goto 10, 3) := by decide +kernel
theorem d_X11_fitted_80 : decode Y_X11_fitted.cc 80 = .ok (.aload_n 0, 1) := by decide +kernel
theorem d_X11_fitted_81 : decode Y_X11_fitted.cc 81 = .ok (.getfield 65, 3) := by decide +kernel
theorem d_X11_fitted_84 : decode Y_X11_fitted.cc 84 = .ok (.getfield 243, 3) := by decide +kernel
theorem d_X11_fitted_87 : decode Y_X11_fitted.cc 87 = .ok (.ireturn, 1) := by decide +kernel
theorem b_X11_fitted {G : MG} {d : Nat} {Q : Int32 → Mm → Prop} {x1 : Int32} {x2 : Int32} {x3 : Int32} {M : Mm} {c : Nat} (hL : Lay c M) (hc : c = 3 ∨ c = 39)  (h : (C G Y_X11_isWithin d [.int x1, .int 1, .int 999] M (Ri fun r2 M1 => M1.2.2 = M.2.2 ∧ ((r2 = 0 → Q (-1) M1) ∧ (¬ r2 = 0 → (C G Y_X11_isWithin d [.int x2, .int 1, .int 999] M1 (Ri fun r5 M4 => M4.2.2 = M1.2.2 ∧ ((¬ r5 = 0 → (C G Y_X11_isWithin d [.int x3, .int 0, .int 2] M4 (Ri fun r8 M7 => M7.2.2 = M4.2.2 ∧ ((r8 = 0 → Q (-1) M7) ∧ (¬ r8 = 0 → (C G Y_X4_find d [.ref (G.b + 133), .ref (G.b + c), .int x1, .int x2] M7 (Ri fun r11 M10 => M10.2.2 = M7.2.2 ∧ ((¬ r11 = 0 → ((¬ x3 = 0 → ((¬ x3 = 1 → Q (M10.1 133 2) M10) ∧ (x3 = 1 → Q (M10.1 133 1) M10))) ∧ (x3 = 0 → Q (M10.1 133 0) M10))) ∧ (r11 = 0 → Q (-1) M10))))))))) ∧ (r5 = 0 → Q (-1) M4))))))))) : C G Y_X11_fitted (d + 1) [.ref (G.b + 0), .int x1, .int x2, .int x3] M (Ri Q) := by
  refine C.of (by decide) (Nat.le_of_ble_eq_true rfl) (lv := [(0, .ref (G.b + 0)), (1, .int x1), (2, .int x2), (3, .int x3)]) rfl ?_
  refine tw_iload_n 1 d_X11_fitted_0 rfl rfl ?_
  refine tw_iconst d_X11_fitted_1 k_1 ?_
  refine tw_sipush d_X11_fitted_2 ks_999 ?_
  refine tu_cSi (As := [.int x1, .int 1, .int 999]) cs_X11_177 rfl (Nat.le_of_ble_eq_true rfl) ⟨Nat.zero_le _, Nat.zero_le _⟩ d_X11_fitted_5 h (fun r2 M1 h => ?_)
  have hL_M1 : Lay c M1 := hL.to h.1
  replace h := h.2
  refine tw_if_eq 22 d_X11_fitted_8 (by decide) (fun z3 => ?_) (fun z3 => ?_)
  · replace h := h.1 z3
    refine tw_iconst d_X11_fitted_22 k_m1 ?_
    exact tw_iret rfl ⟨Nat.zero_le _, Nat.zero_le _⟩ d_X11_fitted_23 h
  · replace h := h.2 z3
    refine tw_iload_n 2 d_X11_fitted_11 rfl rfl ?_
    refine tw_iconst d_X11_fitted_12 k_1 ?_
    refine tw_sipush d_X11_fitted_13 ks_999 ?_
    refine tu_cSi (As := [.int x2, .int 1, .int 999]) cs_X11_177 rfl (Nat.le_of_ble_eq_true rfl) ⟨Nat.zero_le _, Nat.zero_le _⟩ d_X11_fitted_16 h (fun r5 M4 h => ?_)
    have hL_M4 : Lay c M4 := hL_M1.to h.1
    replace h := h.2
    refine tw_if_ne 24 d_X11_fitted_19 (by decide) (fun z6 => ?_) (fun z6 => ?_)
    · replace h := h.1 z6
      refine tw_iload_n 3 d_X11_fitted_24 rfl rfl ?_
      refine tw_iconst d_X11_fitted_25 k_0 ?_
      refine tw_iconst d_X11_fitted_26 k_2 ?_
      refine tu_cSi (As := [.int x3, .int 0, .int 2]) cs_X11_177 rfl (Nat.le_of_ble_eq_true rfl) ⟨Nat.zero_le _, Nat.zero_le _⟩ d_X11_fitted_27 h (fun r8 M7 h => ?_)
      have hL_M7 : Lay c M7 := hL_M4.to h.1
      replace h := h.2
      refine tw_if_eq 49 d_X11_fitted_30 (by decide) (fun z9 => ?_) (fun z9 => ?_)
      · replace h := h.1 z9
        refine tw_iconst d_X11_fitted_49 k_m1 ?_
        exact tw_iret rfl ⟨Nat.zero_le _, Nat.zero_le _⟩ d_X11_fitted_50 h
      · replace h := h.2 z9
        refine tw_aload_n 0 d_X11_fitted_33 rfl rfl ?_
        refine tw_getR f_X11_65 hL_M7 s_0 ⟨rfl, rfl⟩ (rr_X11_9 s_0) d_X11_fitted_34 ?_
        refine tw_aload_n 0 d_X11_fitted_37 rfl rfl ?_
        refine tw_getR f_X11_19 hL_M7 s_0 ⟨rfl, rfl⟩ (rr_X11_1 s_0) d_X11_fitted_38 ?_
        refine tw_iload_n 1 d_X11_fitted_41 rfl rfl ?_
        refine tw_iload_n 2 d_X11_fitted_42 rfl rfl ?_
        refine tu_cVi (As := [.ref (G.b + c), .int x1, .int x2]) cv_X11_233 hL_M7 s_133 rfl (Nat.le_of_ble_eq_true rfl) ⟨Nat.zero_le _, Nat.zero_le _⟩ d_X11_fitted_43 h (fun r11 M10 h => ?_)
        have hL_M10 : Lay c M10 := hL_M7.to h.1
        replace h := h.2
        refine tw_if_ne 51 d_X11_fitted_46 (by decide) (fun z12 => ?_) (fun z12 => ?_)
        · replace h := h.1 z12
          refine tw_iload_n 3 d_X11_fitted_51 rfl rfl ?_
          refine tw_if_ne 65 d_X11_fitted_52 (by decide) (fun z13 => ?_) (fun z13 => ?_)
          · replace h := h.1 z13
            refine tw_iload_n 3 d_X11_fitted_65 rfl rfl ?_
            refine tw_iconst d_X11_fitted_66 k_1 ?_
            refine tw_icmp_ne 80 d_X11_fitted_67 (by decide) (fun z14 => ?_) (fun z14 => ?_)
            · replace h := h.1 z14
              refine tw_aload_n 0 d_X11_fitted_80 rfl rfl ?_
              refine tw_getR f_X11_65 hL_M10 s_0 ⟨rfl, rfl⟩ (rr_X11_9 s_0) d_X11_fitted_81 ?_
              refine tw_getI f_X11_243 hL_M10 s_133 (Or.inl rfl) d_X11_fitted_84 ?_
              exact tw_iret rfl ⟨Nat.zero_le _, Nat.zero_le _⟩ d_X11_fitted_87 h
            · replace h := h.2 z14
              refine tw_aload_n 0 d_X11_fitted_70 rfl rfl ?_
              refine tw_getR f_X11_65 hL_M10 s_0 ⟨rfl, rfl⟩ (rr_X11_9 s_0) d_X11_fitted_71 ?_
              refine tw_getI f_X11_240 hL_M10 s_133 (Or.inl rfl) d_X11_fitted_74 ?_
              refine tw_goto 87 d_X11_fitted_77 (by decide) ?_
              exact tw_iret rfl ⟨Nat.zero_le _, Nat.zero_le _⟩ d_X11_fitted_87 h
          · replace h := h.2 z13
            refine tw_aload_n 0 d_X11_fitted_55 rfl rfl ?_
            refine tw_getR f_X11_65 hL_M10 s_0 ⟨rfl, rfl⟩ (rr_X11_9 s_0) d_X11_fitted_56 ?_
            refine tw_getI f_X11_237 hL_M10 s_133 (Or.inl rfl) d_X11_fitted_59 ?_
            refine tw_goto 87 d_X11_fitted_62 (by decide) ?_
            exact tw_iret rfl ⟨Nat.zero_le _, Nat.zero_le _⟩ d_X11_fitted_87 h
        · replace h := h.2 z12
          refine tw_iconst d_X11_fitted_49 k_m1 ?_
          exact tw_iret rfl ⟨Nat.zero_le _, Nat.zero_le _⟩ d_X11_fitted_50 h
    · replace h := h.2 z6
      refine tw_iconst d_X11_fitted_22 k_m1 ?_
      exact tw_iret rfl ⟨Nat.zero_le _, Nat.zero_le _⟩ d_X11_fitted_23 h

theorem d_X11_see_0 : decode Y_X11_see.cc 0 = .ok (.iload_n 1, 1) := by decide +kernel
theorem d_X11_see_1 : decode Y_X11_see.cc 1 = .ok (.iconst 0, 1) := by decide +kernel
theorem d_X11_see_2 : decode Y_X11_see.cc 2 = .ok (.iconst 3, 1) := by decide +kernel
theorem d_X11_see_3 : decode Y_X11_see.cc 3 = .ok (.invokestatic 177, 3) := by decide +kernel
theorem d_X11_see_6 : decode Y_X11_see.cc 6 = .ok (.ifCond .ne 5, 3) := by decide +kernel
theorem d_X11_see_9 : decode Y_X11_see.cc 9 = .ok (.iconst 0, 1) := by decide +kernel
theorem d_X11_see_10 : decode Y_X11_see.cc 10 = .ok (.ireturn, 1) := by decide +kernel
theorem d_X11_see_11 : decode Y_X11_see.cc 11 = .ok (.iload_n 2, 1) := by decide +kernel
theorem d_X11_see_12 : decode Y_X11_see.cc 12 = .ok (.sipush (-999), 3) := by decide +kernel
theorem d_X11_see_15 : decode Y_X11_see.cc 15 = .ok (.sipush 999, 3) := by decide +kernel
theorem d_X11_see_18 : decode Y_X11_see.cc 18 = .ok (.invokestatic 177, 3) := by decide +kernel
theorem d_X11_see_21 : decode Y_X11_see.cc 21 = .ok (.ifCond .eq 16, 3) := by decide +kernel
theorem d_X11_see_24 : decode Y_X11_see.cc 24 = .ok (.iload_n 3, 1) := by decide +kernel
theorem d_X11_see_25 : decode Y_X11_see.cc 25 = .ok (.sipush (-999), 3) := by decide +kernel
theorem d_X11_see_28 : decode Y_X11_see.cc 28 = .ok (.sipush 999, 3) := by decide +kernel
theorem d_X11_see_31 : decode Y_X11_see.cc 31 = .ok (.invokestatic 177, 3) := by decide +kernel
theorem d_X11_see_34 : decode Y_X11_see.cc 34 = .ok (.ifCond .ne 5, 3) := by decide +kernel
theorem d_X11_see_37 : decode Y_X11_see.cc 37 = .ok (.iconst 0, 1) := by decide +kernel
theorem d_X11_see_38 : decode Y_X11_see.cc 38 = .ok (.ireturn, 1) := by decide +kernel
theorem d_X11_see_39 : decode Y_X11_see.cc 39 = .ok (.aload_n 0, 1) := by decide +kernel
theorem d_X11_see_40 : decode Y_X11_see.cc 40 = .ok (.getfield 29, 3) := by decide +kernel
theorem d_X11_see_43 : decode Y_X11_see.cc 43 = .ok (.getfield 246, 3) := by decide +kernel
theorem d_X11_see_46 : decode Y_X11_see.cc 46 = .ok (.iload_n 1, 1) := by decide +kernel
theorem d_X11_see_47 : decode Y_X11_see.cc 47 = .ok (.iload_n 2, 1) := by decide +kernel
theorem d_X11_see_48 : decode Y_X11_see.cc 48 = .ok (.iastore, 1) := by decide +kernel
theorem d_X11_see_49 : decode Y_X11_see.cc 49 = .ok (.aload_n 0, 1) := by decide +kernel
theorem d_X11_see_50 : decode Y_X11_see.cc 50 = .ok (.getfield 29, 3) := by decide +kernel
theorem d_X11_see_53 : decode Y_X11_see.cc 53 = .ok (.getfield 249, 3) := by decide +kernel
theorem d_X11_see_56 : decode Y_X11_see.cc 56 = .ok (.iload_n 1, 1) := by decide +kernel
theorem d_X11_see_57 : decode Y_X11_see.cc 57 = .ok (.iload_n 3, 1) := by decide +kernel
theorem d_X11_see_58 : decode Y_X11_see.cc 58 = .ok (.iastore, 1) := by decide +kernel
theorem d_X11_see_59 : decode Y_X11_see.cc 59 = .ok (.aload_n 0, 1) := by decide +kernel
theorem d_X11_see_60 : decode Y_X11_see.cc 60 = .ok (.getfield 29, 3) := by decide +kernel
theorem d_X11_see_63 : decode Y_X11_see.cc 63 = .ok (.dup, 1) := by decide +kernel
theorem d_X11_see_64 : decode Y_X11_see.cc 64 = .ok (.getfield 252, 3) := by decide +kernel
theorem d_X11_see_67 : decode Y_X11_see.cc 67 = .ok (.iconst 1, 1) := by decide +kernel
theorem d_X11_see_68 : decode Y_X11_see.cc 68 = .ok (.iload_n 1, 1) := by decide +kernel
theorem d_X11_see_69 : decode Y_X11_see.cc 69 = .ok (.ishl, 1) := by decide +kernel
theorem d_X11_see_70 : decode Y_X11_see.cc 70 = .ok (.ior, 1) := by decide +kernel
theorem d_X11_see_71 : decode Y_X11_see.cc 71 = .ok (.putfield 252, 3) := by decide +kernel
theorem d_X11_see_74 : decode Y_X11_see.cc 74 = .ok (.iconst 1, 1) := by decide +kernel
theorem d_X11_see_75 : decode Y_X11_see.cc 75 = .ok (.ireturn, 1) := by decide +kernel
theorem b_X11_see {G : MG} {d : Nat} {Q : Int32 → Mm → Prop} {x1 : Int32} {x2 : Int32} {x3 : Int32} {M : Mm} {c : Nat} (hL : Lay c M)  (h : (C G Y_X11_isWithin d [.int x1, .int 0, .int 3] M (Ri fun r2 M1 => M1.2.2 = M.2.2 ∧ ((¬ r2 = 0 → (C G Y_X11_isWithin d [.int x2, .int (-999), .int 999] M1 (Ri fun r5 M4 => M4.2.2 = M1.2.2 ∧ ((r5 = 0 → Q 0 M4) ∧ (¬ r5 = 0 → (C G Y_X11_isWithin d [.int x3, .int (-999), .int 999] M4 (Ri fun r8 M7 => M7.2.2 = M4.2.2 ∧ ((¬ r8 = 0 → (vp_in x1 4 ∧ ∀ M10 : Mm, M10 = sI M7 83 x1.toNatClampNeg x2 → (vp_in x1 4 ∧ ∀ M11 : Mm, M11 = sI M10 84 x1.toNatClampNeg x3 → (∀ M12 : Mm, M12 = sI M11 75 10 ((M11.1 75 10) ||| (1 <<< (x1 &&& 31))) → Q 1 M12)))) ∧ (r8 = 0 → Q 0 M7))))))))) ∧ (r2 = 0 → Q 0 M1))))) : C G Y_X11_see (d + 1) [.ref (G.b + 0), .int x1, .int x2, .int x3] M (Ri Q) := by
  refine C.of (by decide) (Nat.le_of_ble_eq_true rfl) (lv := [(0, .ref (G.b + 0)), (1, .int x1), (2, .int x2), (3, .int x3)]) rfl ?_
  refine tw_iload_n 1 d_X11_see_0 rfl rfl ?_
  refine tw_iconst d_X11_see_1 k_0 ?_
  refine tw_iconst d_X11_see_2 k_3 ?_
  refine tu_cSi (As := [.int x1, .int 0, .int 3]) cs_X11_177 rfl (Nat.le_of_ble_eq_true rfl) ⟨Nat.zero_le _, Nat.zero_le _⟩ d_X11_see_3 h (fun r2 M1 h => ?_)
  have hL_M1 : Lay c M1 := hL.to h.1
  replace h := h.2
  refine tw_if_ne 11 d_X11_see_6 (by decide) (fun z3 => ?_) (fun z3 => ?_)
  · replace h := h.1 z3
    refine tw_iload_n 2 d_X11_see_11 rfl rfl ?_
    refine tw_sipush d_X11_see_12 ks_m999 ?_
    refine tw_sipush d_X11_see_15 ks_999 ?_
    refine tu_cSi (As := [.int x2, .int (-999), .int 999]) cs_X11_177 rfl (Nat.le_of_ble_eq_true rfl) ⟨Nat.zero_le _, Nat.zero_le _⟩ d_X11_see_18 h (fun r5 M4 h => ?_)
    have hL_M4 : Lay c M4 := hL_M1.to h.1
    replace h := h.2
    refine tw_if_eq 37 d_X11_see_21 (by decide) (fun z6 => ?_) (fun z6 => ?_)
    · replace h := h.1 z6
      refine tw_iconst d_X11_see_37 k_0 ?_
      exact tw_zret (ty := .boolean) rfl rfl ⟨Nat.zero_le _, Nat.zero_le _⟩ d_X11_see_38 h
    · replace h := h.2 z6
      refine tw_iload_n 3 d_X11_see_24 rfl rfl ?_
      refine tw_sipush d_X11_see_25 ks_m999 ?_
      refine tw_sipush d_X11_see_28 ks_999 ?_
      refine tu_cSi (As := [.int x3, .int (-999), .int 999]) cs_X11_177 rfl (Nat.le_of_ble_eq_true rfl) ⟨Nat.zero_le _, Nat.zero_le _⟩ d_X11_see_31 h (fun r8 M7 h => ?_)
      have hL_M7 : Lay c M7 := hL_M4.to h.1
      replace h := h.2
      refine tw_if_ne 39 d_X11_see_34 (by decide) (fun z9 => ?_) (fun z9 => ?_)
      · replace h := h.1 z9
        refine tw_aload_n 0 d_X11_see_39 rfl rfl ?_
        refine tw_getR f_X11_29 hL_M7 s_0 ⟨rfl, rfl⟩ (rr_X11_3 s_0) d_X11_see_40 ?_
        refine tw_getR f_X11_246 hL_M7 s_75 ⟨rfl, rfl⟩ (rr_X7_8 s_75) d_X11_see_43 ?_
        refine tw_iload_n 1 d_X11_see_46 rfl rfl ?_
        refine tw_iload_n 2 d_X11_see_47 rfl rfl ?_
        refine tu_iast hL_M7 s_83 d_X11_see_48 h.1 (fun M10 e_M10 hL_M10 => ?_)
        replace h := h.2 M10 e_M10
        refine tw_aload_n 0 d_X11_see_49 rfl rfl ?_
        refine tw_getR f_X11_29 hL_M10 s_0 ⟨rfl, rfl⟩ (rr_X11_3 s_0) d_X11_see_50 ?_
        refine tw_getR f_X11_249 hL_M10 s_75 ⟨rfl, rfl⟩ (rr_X7_9 s_75) d_X11_see_53 ?_
        refine tw_iload_n 1 d_X11_see_56 rfl rfl ?_
        refine tw_iload_n 3 d_X11_see_57 rfl rfl ?_
        refine tu_iast hL_M10 s_84 d_X11_see_58 h.1 (fun M11 e_M11 hL_M11 => ?_)
        replace h := h.2 M11 e_M11
        refine tw_aload_n 0 d_X11_see_59 rfl rfl ?_
        refine tw_getR f_X11_29 hL_M11 s_0 ⟨rfl, rfl⟩ (rr_X11_3 s_0) d_X11_see_60 ?_
        refine tw_dup d_X11_see_63 rfl ?_
        refine tw_getI f_X11_252 hL_M11 s_75 (Or.inl rfl) d_X11_see_64 ?_
        refine tw_iconst d_X11_see_67 k_1 ?_
        refine tw_iload_n 1 d_X11_see_68 rfl rfl ?_
        refine tw_ishl d_X11_see_69 ?_
        refine tw_ior d_X11_see_70 ?_
        refine tu_putI f_X11_252 hL_M11 s_75 rfl rfl d_X11_see_71 (fun M12 e_M12 hL_M12 => ?_)
        replace h := h M12 e_M12
        refine tw_iconst d_X11_see_74 k_1 ?_
        exact tw_zret (ty := .boolean) rfl rfl ⟨Nat.zero_le _, Nat.zero_le _⟩ d_X11_see_75 h
      · replace h := h.2 z9
        refine tw_iconst d_X11_see_37 k_0 ?_
        exact tw_zret (ty := .boolean) rfl rfl ⟨Nat.zero_le _, Nat.zero_le _⟩ d_X11_see_38 h
  · replace h := h.2 z3
    refine tw_iconst d_X11_see_9 k_0 ?_
    exact tw_zret (ty := .boolean) rfl rfl ⟨Nat.zero_le _, Nat.zero_le _⟩ d_X11_see_10 h

theorem d_X11_clear_0 : decode Y_X11_clear.cc 0 = .ok (.aload_n 0, 1) := by decide +kernel
theorem d_X11_clear_1 : decode Y_X11_clear.cc 1 = .ok (.getfield 29, 3) := by decide +kernel
theorem d_X11_clear_4 : decode Y_X11_clear.cc 4 = .ok (.iconst 0, 1) := by decide +kernel
theorem d_X11_clear_5 : decode Y_X11_clear.cc 5 = .ok (.putfield 252, 3) := by decide +kernel
theorem d_X11_clear_8 : decode Y_X11_clear.cc 8 = .ok (.iconst 1, 1) := by decide +kernel
theorem d_X11_clear_9 : decode Y_X11_clear.cc 9 = .ok (.ireturn, 1) := by decide +kernel
theorem b_X11_clear {G : MG} {d : Nat} {Q : Int32 → Mm → Prop}  {M : Mm} {c : Nat} (hL : Lay c M)  (h : (∀ M1 : Mm, M1 = sI M 75 10 0 → Q 1 M1)) : C G Y_X11_clear (d + 1) [.ref (G.b + 0)] M (Ri Q) := by
  refine C.of (by decide) (Nat.le_of_ble_eq_true rfl) (lv := [(0, .ref (G.b + 0))]) rfl ?_
  refine tw_aload_n 0 d_X11_clear_0 rfl rfl ?_
  refine tw_getR f_X11_29 hL s_0 ⟨rfl, rfl⟩ (rr_X11_3 s_0) d_X11_clear_1 ?_
  refine tw_iconst d_X11_clear_4 k_0 ?_
  refine tu_putI f_X11_252 hL s_75 rfl rfl d_X11_clear_5 (fun M1 e_M1 hL_M1 => ?_)
  replace h := h M1 e_M1
  refine tw_iconst d_X11_clear_8 k_1 ?_
  exact tw_zret (ty := .boolean) rfl rfl ⟨Nat.zero_le _, Nat.zero_le _⟩ d_X11_clear_9 h

theorem d_X11_suspects_0 : decode Y_X11_suspects.cc 0 = .ok (.aload_n 0, 1) := by decide +kernel
theorem d_X11_suspects_1 : decode Y_X11_suspects.cc 1 = .ok (.getfield 29, 3) := by decide +kernel
theorem d_X11_suspects_4 : decode Y_X11_suspects.cc 4 = .ok (.getfield 252, 3) := by decide +kernel
theorem d_X11_suspects_7 : decode Y_X11_suspects.cc 7 = .ok (.ifCond .ne 5, 3) := by decide +kernel
theorem d_X11_suspects_10 : decode Y_X11_suspects.cc 10 = .ok (.iconst (-1), 1) := by decide +kernel
theorem d_X11_suspects_11 : decode Y_X11_suspects.cc 11 = .ok (.ireturn, 1) := by decide +kernel
theorem d_X11_suspects_12 : decode Y_X11_suspects.cc 12 = .ok (.iconst 0, 1) := by decide +kernel
theorem d_X11_suspects_13 : decode Y_X11_suspects.cc 13 = .ok (.istore_n 1, 1) := by decide +kernel
theorem d_X11_suspects_14 : decode Y_X11_suspects.cc 14 = .ok (.iconst 0, 1) := by decide +kernel
theorem d_X11_suspects_15 : decode Y_X11_suspects.cc 15 = .ok (.istore_n 2, 1) := by decide +kernel
theorem d_X11_suspects_16 : decode Y_X11_suspects.cc 16 = .ok (.iload_n 2, 1) := by decide +kernel
theorem d_X11_suspects_17 : decode Y_X11_suspects.cc 17 = .ok (.aload_n 0, 1) := by decide +kernel
theorem d_X11_suspects_18 : decode Y_X11_suspects.cc 18 = .ok (.getfield 19, 3) := by decide +kernel
theorem d_X11_suspects_21 : decode Y_X11_suspects.cc 21 = .ok (.getfield 255, 3) := by decide +kernel
theorem d_X11_suspects_24 : decode Y_X11_suspects.cc 24 = .ok (.if_icmp .ge 30, 3) := by decide +kernel
theorem d_X11_suspects_27 : decode Y_X11_suspects.cc 27 = .ok (.aload_n 0, 1) := by decide +kernel
theorem d_X11_suspects_28 : decode Y_X11_suspects.cc 28 = .ok (.iload_n 2, 1) := by decide +kernel
theorem d_X11_suspects_29 : decode Y_X11_suspects.cc 29 = .ok (.invokevirtual 256, 3) := by decide +kernel
theorem d_X11_suspects_32 : decode Y_X11_suspects.cc 32 = .ok (.bipush (-9), 2) := by decide +kernel
theorem d_X11_suspects_34 : decode Y_X11_suspects.cc 34 = .ok (.bipush 9, 2) := by decide +kernel
theorem d_X11_suspects_36 : decode Y_X11_suspects.cc 36 = .ok (.invokestatic 177, 3) := by decide +kernel
theorem d_X11_suspects_39 : decode Y_X11_suspects.cc 39 = .ok (.ifCond .eq 9, 3) := by decide +kernel
theorem d_X11_suspects_42 : decode Y_X11_suspects.cc 42 = .ok (.iload_n 1, 1) := by decide +kernel
theorem d_X11_suspects_43 : decode Y_X11_suspects.cc 43 = .ok (.iconst 1, 1) := by decide +kernel
theorem d_X11_suspects_44 : decode Y_X11_suspects.cc 44 = .ok (.iload_n 2, 1) := by decide +kernel
theorem d_X11_suspects_45 : decode Y_X11_suspects.cc 45 = .ok (.ishl, 1) := by decide +kernel
theorem d_X11_suspects_46 : decode Y_X11_suspects.cc 46 = .ok (.ior, 1) := by decide +kernel
theorem d_X11_suspects_47 : decode Y_X11_suspects.cc 47 = .ok (.istore_n 1, 1) := by decide +kernel
theorem d_X11_suspects_48 : decode Y_X11_suspects.cc 48 = .ok (.iinc 2 1, 3) := by decide +kernel
theorem d_X11_suspects_51 : decode Y_X11_suspects.cc 51 = .ok (.goto (-35), 3) := by decide +kernel
theorem d_X11_suspects_54 : decode Y_X11_suspects.cc 54 = .ok (.iload_n 1, 1) := by decide +kernel
theorem d_X11_suspects_55 : decode Y_X11_suspects.cc 55 = .ok (.ireturn, 1) := by decide +kernel
def L_X11_suspects_16 (G : MG) (d : Nat) (Q : Int32 → Mm → Prop) (x1 : Int32) (x2 : Int32) (M : Mm) : Prop := T G Y_X11_suspects (d + 1) (Ri Q) 0 0 16 [(0, .ref (G.b + 0)), (1, .int x1), (2, .int x2)] [] M
theorem b_X11_suspects_16 {G : MG} {d : Nat} {Q : Int32 → Mm → Prop} {x1 : Int32} {x2 : Int32} {M : Mm} {c : Nat} (hL : Lay c M) (hc : c = 3 ∨ c = 39)  (h : (((M.1 c 2) ≤ x2 → Q x1 M) ∧ (¬ (M.1 c 2) ≤ x2 → (C G Y_X11_leastBend d [.ref (G.b + 0), .int x2] M (Ri fun r3 M2 => M2.2.2 = M.2.2 ∧ (C G Y_X11_isWithin d [.int r3, .int (-9), .int 9] M2 (Ri fun r5 M4 => M4.2.2 = M2.2.2 ∧ ((r5 = 0 → L_X11_suspects_16 G d Q x1 (x2 + 1) M4) ∧ (¬ r5 = 0 → L_X11_suspects_16 G d Q (x1 ||| (1 <<< (x2 &&& 31))) (x2 + 1) M4))))))))) : L_X11_suspects_16 G d Q x1 x2 M := by
  unfold L_X11_suspects_16
  refine tw_iload_n 2 d_X11_suspects_16 rfl rfl ?_
  refine tw_aload_n 0 d_X11_suspects_17 rfl rfl ?_
  refine tw_getR f_X11_19 hL s_0 ⟨rfl, rfl⟩ (rr_X11_1 s_0) d_X11_suspects_18 ?_
  refine tw_getI f_X11_255 hL (shc hc) (Or.inl rfl) d_X11_suspects_21 ?_
  refine tw_icmp_ge 54 d_X11_suspects_24 (by decide) (fun z1 => ?_) (fun z1 => ?_)
  · replace h := h.1 z1
    refine tw_iload_n 1 d_X11_suspects_54 rfl rfl ?_
    exact tw_iret rfl ⟨Nat.zero_le _, Nat.zero_le _⟩ d_X11_suspects_55 h
  · replace h := h.2 z1
    refine tw_aload_n 0 d_X11_suspects_27 rfl rfl ?_
    refine tw_iload_n 2 d_X11_suspects_28 rfl rfl ?_
    refine tu_cVi (As := [.int x2]) cv_X11_256 hL s_0 rfl (Nat.le_of_ble_eq_true rfl) ⟨Nat.zero_le _, Nat.zero_le _⟩ d_X11_suspects_29 h (fun r3 M2 h => ?_)
    have hL_M2 : Lay c M2 := hL.to h.1
    replace h := h.2
    refine tw_bipush d_X11_suspects_32 kb_m9 ?_
    refine tw_bipush d_X11_suspects_34 kb_9 ?_
    refine tu_cSi (As := [.int r3, .int (-9), .int 9]) cs_X11_177 rfl (Nat.le_of_ble_eq_true rfl) ⟨Nat.zero_le _, Nat.zero_le _⟩ d_X11_suspects_36 h (fun r5 M4 h => ?_)
    have hL_M4 : Lay c M4 := hL_M2.to h.1
    replace h := h.2
    refine tw_if_eq 48 d_X11_suspects_39 (by decide) (fun z6 => ?_) (fun z6 => ?_)
    · replace h := h.1 z6
      refine tw_iinc 2 [(2, .int (x2 + 1)), (0, .ref (G.b + 0)), (1, .int x1)] d_X11_suspects_48 rfl rfl (Nat.le_of_ble_eq_true rfl) rfl ?_
      refine tw_goto 16 d_X11_suspects_51 (by decide) ?_
      exact tw_lv [1, 2, 0] rfl h
    · replace h := h.2 z6
      refine tw_iload_n 1 d_X11_suspects_42 rfl rfl ?_
      refine tw_iconst d_X11_suspects_43 k_1 ?_
      refine tw_iload_n 2 d_X11_suspects_44 rfl rfl ?_
      refine tw_ishl d_X11_suspects_45 ?_
      refine tw_ior d_X11_suspects_46 ?_
      refine tw_istore_n [(1, .int (x1 ||| (1 <<< (x2 &&& 31)))), (0, .ref (G.b + 0)), (2, .int x2)] d_X11_suspects_47 rfl (Nat.le_of_ble_eq_true rfl) rfl ?_
      refine tw_iinc 2 [(2, .int (x2 + 1)), (1, .int (x1 ||| (1 <<< (x2 &&& 31)))), (0, .ref (G.b + 0))] d_X11_suspects_48 rfl rfl (Nat.le_of_ble_eq_true rfl) rfl ?_
      refine tw_goto 16 d_X11_suspects_51 (by decide) ?_
      exact tw_lv [2, 1, 0] rfl h
theorem b_X11_suspects {G : MG} {d : Nat} {Q : Int32 → Mm → Prop}  {M : Mm} {c : Nat} (hL : Lay c M) (hc : c = 3 ∨ c = 39)  (h : ((¬ (M.1 75 10) = 0 → L_X11_suspects_16 G d Q 0 0 M) ∧ ((M.1 75 10) = 0 → Q (-1) M))) : C G Y_X11_suspects (d + 1) [.ref (G.b + 0)] M (Ri Q) := by
  refine C.of (by decide) (Nat.le_of_ble_eq_true rfl) (lv := [(0, .ref (G.b + 0))]) rfl ?_
  refine tw_aload_n 0 d_X11_suspects_0 rfl rfl ?_
  refine tw_getR f_X11_29 hL s_0 ⟨rfl, rfl⟩ (rr_X11_3 s_0) d_X11_suspects_1 ?_
  refine tw_getI f_X11_252 hL s_75 (Or.inl rfl) d_X11_suspects_4 ?_
  refine tw_if_ne 12 d_X11_suspects_7 (by decide) (fun z1 => ?_) (fun z1 => ?_)
  · replace h := h.1 z1
    refine tw_iconst d_X11_suspects_12 k_0 ?_
    refine tw_istore_n [(1, .int 0), (0, .ref (G.b + 0))] d_X11_suspects_13 rfl (Nat.le_of_ble_eq_true rfl) rfl ?_
    refine tw_iconst d_X11_suspects_14 k_0 ?_
    refine tw_istore_n [(2, .int 0), (1, .int 0), (0, .ref (G.b + 0))] d_X11_suspects_15 rfl (Nat.le_of_ble_eq_true rfl) rfl ?_
    exact tw_lv [2, 1, 0] rfl h
  · replace h := h.2 z1
    refine tw_iconst d_X11_suspects_10 k_m1 ?_
    exact tw_iret rfl ⟨Nat.zero_le _, Nat.zero_le _⟩ d_X11_suspects_11 h

theorem d_X11_shakes_0 : decode Y_X11_shakes.cc 0 = .ok (.iload_n 1, 1) := by decide +kernel
theorem d_X11_shakes_1 : decode Y_X11_shakes.cc 1 = .ok (.iconst 0, 1) := by decide +kernel
theorem d_X11_shakes_2 : decode Y_X11_shakes.cc 2 = .ok (.iconst 1, 1) := by decide +kernel
theorem d_X11_shakes_3 : decode Y_X11_shakes.cc 3 = .ok (.invokestatic 177, 3) := by decide +kernel
theorem d_X11_shakes_6 : decode Y_X11_shakes.cc 6 = .ok (.ifCond .ne 7, 3) := by decide +kernel
theorem d_X11_shakes_9 : decode Y_X11_shakes.cc 9 = .ok (.ldc2_w 264, 3) := by decide +kernel
theorem d_X11_shakes_12 : decode Y_X11_shakes.cc 12 = .ok (.lreturn, 1) := by decide +kernel
theorem d_X11_shakes_13 : decode Y_X11_shakes.cc 13 = .ok (.aload_n 0, 1) := by decide +kernel
theorem d_X11_shakes_14 : decode Y_X11_shakes.cc 14 = .ok (.getfield 51, 3) := by decide +kernel
theorem d_X11_shakes_17 : decode Y_X11_shakes.cc 17 = .ok (.aload_n 0, 1) := by decide +kernel
theorem d_X11_shakes_18 : decode Y_X11_shakes.cc 18 = .ok (.getfield 19, 3) := by decide +kernel
theorem d_X11_shakes_21 : decode Y_X11_shakes.cc 21 = .ok (.aload_n 0, 1) := by decide +kernel
theorem d_X11_shakes_22 : decode Y_X11_shakes.cc 22 = .ok (.getfield 29, 3) := by decide +kernel
theorem d_X11_shakes_25 : decode Y_X11_shakes.cc 25 = .ok (.aload_n 0, 1) := by decide +kernel
theorem d_X11_shakes_26 : decode Y_X11_shakes.cc 26 = .ok (.getfield 29, 3) := by decide +kernel
theorem d_X11_shakes_29 : decode Y_X11_shakes.cc 29 = .ok (.getfield 214, 3) := by decide +kernel
theorem d_X11_shakes_32 : decode Y_X11_shakes.cc 32 = .ok (.invokevirtual 266, 3) := by decide +kernel
theorem d_X11_shakes_35 : decode Y_X11_shakes.cc 35 = .ok (.aload_n 0, 1) := by decide +kernel
theorem d_X11_shakes_36 : decode Y_X11_shakes.cc 36 = .ok (.getfield 51, 3) := by decide +kernel
theorem d_X11_shakes_39 : decode Y_X11_shakes.cc 39 = .ok (.iload_n 1, 1) := by decide +kernel
theorem d_X11_shakes_40 : decode Y_X11_shakes.cc 40 = .ok (.invokevirtual 270, 3) := by decide +kernel
theorem d_X11_shakes_43 : decode Y_X11_shakes.cc 43 = .ok (.lreturn, 1) := by decide +kernel
theorem b_X11_shakes {G : MG} {d : Nat} {Q : Int64 → Mm → Prop} {x1 : Int32} {M : Mm} {c : Nat} (hL : Lay c M) (hc : c = 3 ∨ c = 39)  (h : (C G Y_X11_isWithin d [.int x1, .int 0, .int 1] M (Ri fun r2 M1 => M1.2.2 = M.2.2 ∧ ((¬ r2 = 0 → (C G Y_X8_sum d [.ref (G.b + 127), .ref (G.b + c), .ref (G.b + 75), .ref (G.b + 82)] M1 (Rv fun M4 => M4.2.2 = M1.2.2 ∧ (C G Y_X8_part d [.ref (G.b + 127), .int x1] M4 (Rj fun r6 M5 => M5.2.2 = M4.2.2 ∧ Q r6 M5))))) ∧ (r2 = 0 → Q (-1) M1))))) : C G Y_X11_shakes (d + 1) [.ref (G.b + 0), .int x1] M (Rj Q) := by
  refine C.of (by decide) (Nat.le_of_ble_eq_true rfl) (lv := [(0, .ref (G.b + 0)), (1, .int x1)]) rfl ?_
  refine tw_iload_n 1 d_X11_shakes_0 rfl rfl ?_
  refine tw_iconst d_X11_shakes_1 k_0 ?_
  refine tw_iconst d_X11_shakes_2 k_1 ?_
  refine tu_cSi (As := [.int x1, .int 0, .int 1]) cs_X11_177 rfl (Nat.le_of_ble_eq_true rfl) ⟨Nat.zero_le _, Nat.zero_le _⟩ d_X11_shakes_3 h (fun r2 M1 h => ?_)
  have hL_M1 : Lay c M1 := hL.to h.1
  replace h := h.2
  refine tw_if_ne 13 d_X11_shakes_6 (by decide) (fun z3 => ?_) (fun z3 => ?_)
  · replace h := h.1 z3
    refine tw_aload_n 0 d_X11_shakes_13 rfl rfl ?_
    refine tw_getR f_X11_51 hL_M1 s_0 ⟨rfl, rfl⟩ (rr_X11_7 s_0) d_X11_shakes_14 ?_
    refine tw_aload_n 0 d_X11_shakes_17 rfl rfl ?_
    refine tw_getR f_X11_19 hL_M1 s_0 ⟨rfl, rfl⟩ (rr_X11_1 s_0) d_X11_shakes_18 ?_
    refine tw_aload_n 0 d_X11_shakes_21 rfl rfl ?_
    refine tw_getR f_X11_29 hL_M1 s_0 ⟨rfl, rfl⟩ (rr_X11_3 s_0) d_X11_shakes_22 ?_
    refine tw_aload_n 0 d_X11_shakes_25 rfl rfl ?_
    refine tw_getR f_X11_29 hL_M1 s_0 ⟨rfl, rfl⟩ (rr_X11_3 s_0) d_X11_shakes_26 ?_
    refine tw_getR f_X11_214 hL_M1 s_75 ⟨rfl, rfl⟩ (rr_X7_6 s_75) d_X11_shakes_29 ?_
    refine tu_cVv (As := [.ref (G.b + c), .ref (G.b + 75), .ref (G.b + 82)]) cv_X11_266 hL_M1 s_127 rfl (Nat.le_of_ble_eq_true rfl) ⟨Nat.zero_le _, Nat.zero_le _⟩ d_X11_shakes_32 h (fun M4 h => ?_)
    have hL_M4 : Lay c M4 := hL_M1.to h.1
    replace h := h.2
    refine tw_aload_n 0 d_X11_shakes_35 rfl rfl ?_
    refine tw_getR f_X11_51 hL_M4 s_0 ⟨rfl, rfl⟩ (rr_X11_7 s_0) d_X11_shakes_36 ?_
    refine tw_iload_n 1 d_X11_shakes_39 rfl rfl ?_
    refine tu_cVJ (As := [.int x1]) cv_X11_270 hL_M4 s_127 rfl (Nat.le_of_ble_eq_true rfl) ⟨Nat.zero_le _, Nat.zero_le _⟩ d_X11_shakes_40 h (fun r6 M5 h => ?_)
    have hL_M5 : Lay c M5 := hL_M4.to h.1
    replace h := h.2
    exact tw_lret rfl ⟨Nat.zero_le _, Nat.zero_le _⟩ d_X11_shakes_43 h
  · replace h := h.2 z3
    refine tw_ldc2 d_X11_shakes_9 mg751 ?_
    exact tw_lret rfl ⟨Nat.zero_le _, Nat.zero_le _⟩ d_X11_shakes_12 h

theorem d_X11_steadiest_0 : decode Y_X11_steadiest.cc 0 = .ok (.iload_n 1, 1) := by decide +kernel
theorem d_X11_steadiest_1 : decode Y_X11_steadiest.cc 1 = .ok (.ifCond .lt 16, 3) := by decide +kernel
theorem d_X11_steadiest_4 : decode Y_X11_steadiest.cc 4 = .ok (.iload_n 1, 1) := by decide +kernel
theorem d_X11_steadiest_5 : decode Y_X11_steadiest.cc 5 = .ok (.iconst 2, 1) := by decide +kernel
theorem d_X11_steadiest_6 : decode Y_X11_steadiest.cc 6 = .ok (.aload_n 0, 1) := by decide +kernel
theorem d_X11_steadiest_7 : decode Y_X11_steadiest.cc 7 = .ok (.getfield 29, 3) := by decide +kernel
theorem d_X11_steadiest_10 : decode Y_X11_steadiest.cc 10 = .ok (.getfield 208, 3) := by decide +kernel
theorem d_X11_steadiest_13 : decode Y_X11_steadiest.cc 13 = .ok (.iadd, 1) := by decide +kernel
theorem d_X11_steadiest_14 : decode Y_X11_steadiest.cc 14 = .ok (.if_icmp .lt 7, 3) := by decide +kernel
theorem d_X11_steadiest_17 : decode Y_X11_steadiest.cc 17 = .ok (.ldc2_w 264, 3) := by decide +kernel
theorem d_X11_steadiest_20 : decode Y_X11_steadiest.cc 20 = .ok (.lreturn, 1) := by decide +kernel
theorem d_X11_steadiest_21 : decode Y_X11_steadiest.cc 21 = .ok (.aload_n 0, 1) := by decide +kernel
theorem d_X11_steadiest_22 : decode Y_X11_steadiest.cc 22 = .ok (.getfield 58, 3) := by decide +kernel
theorem d_X11_steadiest_25 : decode Y_X11_steadiest.cc 25 = .ok (.aload_n 0, 1) := by decide +kernel
theorem d_X11_steadiest_26 : decode Y_X11_steadiest.cc 26 = .ok (.getfield 19, 3) := by decide +kernel
theorem d_X11_steadiest_29 : decode Y_X11_steadiest.cc 29 = .ok (.aload_n 0, 1) := by decide +kernel
theorem d_X11_steadiest_30 : decode Y_X11_steadiest.cc 30 = .ok (.getfield 29, 3) := by decide +kernel
theorem d_X11_steadiest_33 : decode Y_X11_steadiest.cc 33 = .ok (.invokevirtual 271, 3) := by decide +kernel
theorem d_X11_steadiest_36 : decode Y_X11_steadiest.cc 36 = .ok (.iload_n 1, 1) := by decide +kernel
theorem d_X11_steadiest_37 : decode Y_X11_steadiest.cc 37 = .ok (.iconst 2, 1) := by decide +kernel
theorem d_X11_steadiest_38 : decode Y_X11_steadiest.cc 38 = .ok (.if_icmp .ge 17, 3) := by decide +kernel
theorem d_X11_steadiest_41 : decode Y_X11_steadiest.cc 41 = .ok (.aload_n 0, 1) := by decide +kernel
theorem d_X11_steadiest_42 : decode Y_X11_steadiest.cc 42 = .ok (.getfield 58, 3) := by decide +kernel
theorem d_X11_steadiest_45 : decode Y_X11_steadiest.cc 45 = .ok (.getfield 274, 3) := by decide +kernel
theorem d_X11_steadiest_48 : decode Y_X11_steadiest.cc 48 = .ok (.iload_n 1, 1) := by decide +kernel
theorem d_X11_steadiest_49 : decode Y_X11_steadiest.cc 49 = .ok (.invokevirtual 270, 3) := by decide +kernel
theorem d_X11_steadiest_52 : decode Y_X11_steadiest.cc 52 = .ok (.goto 15, 3) := by decide +kernel
theorem d_X11_steadiest_55 : decode Y_X11_steadiest.cc 55 = .ok (.aload_n 0, 1) := by decide +kernel
theorem d_X11_steadiest_56 : decode Y_X11_steadiest.cc 56 = .ok (.getfield 58, 3) := by decide +kernel
theorem d_X11_steadiest_59 : decode Y_X11_steadiest.cc 59 = .ok (.getfield 277, 3) := by decide +kernel
theorem d_X11_steadiest_62 : decode Y_X11_steadiest.cc 62 = .ok (.iload_n 1, 1) := by decide +kernel
theorem d_X11_steadiest_63 : decode Y_X11_steadiest.cc 63 = .ok (.iconst 2, 1) := by decide +kernel
theorem d_X11_steadiest_64 : decode Y_X11_steadiest.cc 64 = .ok (.isub, 1) := by decide +kernel
theorem d_X11_steadiest_65 : decode Y_X11_steadiest.cc 65 = .ok (.iaload, 1) := by decide +kernel
theorem d_X11_steadiest_66 : decode Y_X11_steadiest.cc 66 = .ok (.i2l, 1) := by decide +kernel
theorem d_X11_steadiest_67 : decode Y_X11_steadiest.cc 67 = .ok (.lreturn, 1) := by decide +kernel
theorem b_X11_steadiest {G : MG} {d : Nat} {Q : Int64 → Mm → Prop} {x1 : Int32} {M : Mm} {c : Nat} (hL : Lay c M) (hc : c = 3 ∨ c = 39)  (h : ((x1 < 0 → Q (-1) M) ∧ (¬ x1 < 0 → ((x1 < (2 + (M.1 75 7)) → (C G Y_X6_find d [.ref (G.b + 128), .ref (G.b + c), .ref (G.b + 75)] M (Rv fun M3 => M3.2.2 = M.2.2 ∧ ((2 ≤ x1 → (vp_in (x1 - 2) 4 ∧ Q ((M3.1 129 (x1 - 2).toNatClampNeg).toInt64) M3)) ∧ (¬ 2 ≤ x1 → (C G Y_X8_part d [.ref (G.b + 130), .int x1] M3 (Rj fun r6 M5 => M5.2.2 = M3.2.2 ∧ Q r6 M5))))))) ∧ (¬ x1 < (2 + (M.1 75 7)) → Q (-1) M))))) : C G Y_X11_steadiest (d + 1) [.ref (G.b + 0), .int x1] M (Rj Q) := by
  refine C.of (by decide) (Nat.le_of_ble_eq_true rfl) (lv := [(0, .ref (G.b + 0)), (1, .int x1)]) rfl ?_
  refine tw_iload_n 1 d_X11_steadiest_0 rfl rfl ?_
  refine tw_if_lt 17 d_X11_steadiest_1 (by decide) (fun z1 => ?_) (fun z1 => ?_)
  · replace h := h.1 z1
    refine tw_ldc2 d_X11_steadiest_17 mg751 ?_
    exact tw_lret rfl ⟨Nat.zero_le _, Nat.zero_le _⟩ d_X11_steadiest_20 h
  · replace h := h.2 z1
    refine tw_iload_n 1 d_X11_steadiest_4 rfl rfl ?_
    refine tw_iconst d_X11_steadiest_5 k_2 ?_
    refine tw_aload_n 0 d_X11_steadiest_6 rfl rfl ?_
    refine tw_getR f_X11_29 hL s_0 ⟨rfl, rfl⟩ (rr_X11_3 s_0) d_X11_steadiest_7 ?_
    refine tw_getI f_X11_208 hL s_75 (Or.inl rfl) d_X11_steadiest_10 ?_
    refine tw_iadd d_X11_steadiest_13 ?_
    refine tw_icmp_lt 21 d_X11_steadiest_14 (by decide) (fun z2 => ?_) (fun z2 => ?_)
    · replace h := h.1 z2
      refine tw_aload_n 0 d_X11_steadiest_21 rfl rfl ?_
      refine tw_getR f_X11_58 hL s_0 ⟨rfl, rfl⟩ (rr_X11_8 s_0) d_X11_steadiest_22 ?_
      refine tw_aload_n 0 d_X11_steadiest_25 rfl rfl ?_
      refine tw_getR f_X11_19 hL s_0 ⟨rfl, rfl⟩ (rr_X11_1 s_0) d_X11_steadiest_26 ?_
      refine tw_aload_n 0 d_X11_steadiest_29 rfl rfl ?_
      refine tw_getR f_X11_29 hL s_0 ⟨rfl, rfl⟩ (rr_X11_3 s_0) d_X11_steadiest_30 ?_
      refine tu_cVv (As := [.ref (G.b + c), .ref (G.b + 75)]) cv_X11_271 hL s_128 rfl (Nat.le_of_ble_eq_true rfl) ⟨Nat.zero_le _, Nat.zero_le _⟩ d_X11_steadiest_33 h (fun M3 h => ?_)
      have hL_M3 : Lay c M3 := hL.to h.1
      replace h := h.2
      refine tw_iload_n 1 d_X11_steadiest_36 rfl rfl ?_
      refine tw_iconst d_X11_steadiest_37 k_2 ?_
      refine tw_icmp_ge 55 d_X11_steadiest_38 (by decide) (fun z4 => ?_) (fun z4 => ?_)
      · replace h := h.1 z4
        refine tw_aload_n 0 d_X11_steadiest_55 rfl rfl ?_
        refine tw_getR f_X11_58 hL_M3 s_0 ⟨rfl, rfl⟩ (rr_X11_8 s_0) d_X11_steadiest_56 ?_
        refine tw_getR f_X11_277 hL_M3 s_128 ⟨rfl, rfl⟩ (rr_X6_0 s_128) d_X11_steadiest_59 ?_
        refine tw_iload_n 1 d_X11_steadiest_62 rfl rfl ?_
        refine tw_iconst d_X11_steadiest_63 k_2 ?_
        refine tw_isub d_X11_steadiest_64 ?_
        refine tw_iald hL_M3 s_129 d_X11_steadiest_65 h.1 ?_
        replace h := h.2
        refine tw_i2l d_X11_steadiest_66 ?_
        exact tw_lret rfl ⟨Nat.zero_le _, Nat.zero_le _⟩ d_X11_steadiest_67 h
      · replace h := h.2 z4
        refine tw_aload_n 0 d_X11_steadiest_41 rfl rfl ?_
        refine tw_getR f_X11_58 hL_M3 s_0 ⟨rfl, rfl⟩ (rr_X11_8 s_0) d_X11_steadiest_42 ?_
        refine tw_getR f_X11_274 hL_M3 s_128 ⟨rfl, rfl⟩ (rr_X6_1 s_128) d_X11_steadiest_45 ?_
        refine tw_iload_n 1 d_X11_steadiest_48 rfl rfl ?_
        refine tu_cVJ (As := [.int x1]) cv_X11_270 hL_M3 s_130 rfl (Nat.le_of_ble_eq_true rfl) ⟨Nat.zero_le _, Nat.zero_le _⟩ d_X11_steadiest_49 h (fun r6 M5 h => ?_)
        have hL_M5 : Lay c M5 := hL_M3.to h.1
        replace h := h.2
        refine tw_goto 67 d_X11_steadiest_52 (by decide) ?_
        exact tw_lret rfl ⟨Nat.zero_le _, Nat.zero_le _⟩ d_X11_steadiest_67 h
    · replace h := h.2 z2
      refine tw_ldc2 d_X11_steadiest_17 mg751 ?_
      exact tw_lret rfl ⟨Nat.zero_le _, Nat.zero_le _⟩ d_X11_steadiest_20 h

theorem d_X11_sheets_0 : decode Y_X11_sheets.cc 0 = .ok (.aload_n 0, 1) := by decide +kernel
theorem d_X11_sheets_1 : decode Y_X11_sheets.cc 1 = .ok (.getfield 19, 3) := by decide +kernel
theorem d_X11_sheets_4 : decode Y_X11_sheets.cc 4 = .ok (.iload_n 1, 1) := by decide +kernel
theorem d_X11_sheets_5 : decode Y_X11_sheets.cc 5 = .ok (.invokevirtual 146, 3) := by decide +kernel
theorem d_X11_sheets_8 : decode Y_X11_sheets.cc 8 = .ok (.ifCond .eq 14, 3) := by decide +kernel
theorem d_X11_sheets_11 : decode Y_X11_sheets.cc 11 = .ok (.iload_n 2, 1) := by decide +kernel
theorem d_X11_sheets_12 : decode Y_X11_sheets.cc 12 = .ok (.iconst 0, 1) := by decide +kernel
theorem d_X11_sheets_13 : decode Y_X11_sheets.cc 13 = .ok (.sipush 200, 3) := by decide +kernel
theorem d_X11_sheets_16 : decode Y_X11_sheets.cc 16 = .ok (.invokestatic 177, 3) := by decide +kernel
theorem d_X11_sheets_19 : decode Y_X11_sheets.cc 19 = .ok (.ifCond .ne 5, 3) := by decide +kernel
theorem d_X11_sheets_22 : decode Y_X11_sheets.cc 22 = .ok (.iconst (-1), 1) := by decide +kernel
theorem d_X11_sheets_23 : decode Y_X11_sheets.cc 23 = .ok (.ireturn, 1) := by decide +kernel
theorem d_X11_sheets_24 : decode Y_X11_sheets.cc 24 = .ok (.aload_n 0, 1) := by decide +kernel
theorem d_X11_sheets_25 : decode Y_X11_sheets.cc 25 = .ok (.getfield 72, 3) := by decide +kernel
theorem d_X11_sheets_28 : decode Y_X11_sheets.cc 28 = .ok (.aload_n 0, 1) := by decide +kernel
theorem d_X11_sheets_29 : decode Y_X11_sheets.cc 29 = .ok (.getfield 19, 3) := by decide +kernel
theorem d_X11_sheets_32 : decode Y_X11_sheets.cc 32 = .ok (.getfield 149, 3) := by decide +kernel
theorem d_X11_sheets_35 : decode Y_X11_sheets.cc 35 = .ok (.iload_n 1, 1) := by decide +kernel
theorem d_X11_sheets_36 : decode Y_X11_sheets.cc 36 = .ok (.aaload, 1) := by decide +kernel
theorem d_X11_sheets_37 : decode Y_X11_sheets.cc 37 = .ok (.iload_n 2, 1) := by decide +kernel
theorem d_X11_sheets_38 : decode Y_X11_sheets.cc 38 = .ok (.invokevirtual 280, 3) := by decide +kernel
theorem d_X11_sheets_41 : decode Y_X11_sheets.cc 41 = .ok (.ireturn, 1) := by decide +kernel
theorem b_X11_sheets {G : MG} {d : Nat} {Q : Int32 → Mm → Prop} {x1 : Int32} {x2 : Int32} {M : Mm} {c : Nat} (hL : Lay c M) (hc : c = 3 ∨ c = 39)  (h : (C G Y_X5_hasChart d [.ref (G.b + c), .int x1] M (Ri fun r2 M1 => M1.2.2 = M.2.2 ∧ ((r2 = 0 → Q (-1) M1) ∧ (¬ r2 = 0 → (C G Y_X11_isWithin d [.int x2, .int 0, .int 200] M1 (Ri fun r5 M4 => M4.2.2 = M1.2.2 ∧ ((¬ r5 = 0 → (vp_in x1 7 ∧ (C G Y_X3_fewestPins d [.ref (G.b + 134), .ref (G.b + ((c + 2) + 13 + 3 * x1.toNatClampNeg)), .int x2] M4 (Ri fun r9 M8 => M8.2.2 = M4.2.2 ∧ Q r9 M8)))) ∧ (r5 = 0 → Q (-1) M4))))))))) : C G Y_X11_sheets (d + 1) [.ref (G.b + 0), .int x1, .int x2] M (Ri Q) := by
  refine C.of (by decide) (Nat.le_of_ble_eq_true rfl) (lv := [(0, .ref (G.b + 0)), (1, .int x1), (2, .int x2)]) rfl ?_
  refine tw_aload_n 0 d_X11_sheets_0 rfl rfl ?_
  refine tw_getR f_X11_19 hL s_0 ⟨rfl, rfl⟩ (rr_X11_1 s_0) d_X11_sheets_1 ?_
  refine tw_iload_n 1 d_X11_sheets_4 rfl rfl ?_
  refine tu_cVi (As := [.int x1]) cv_X11_146 hL (shc hc) rfl (Nat.le_of_ble_eq_true rfl) ⟨Nat.zero_le _, Nat.zero_le _⟩ d_X11_sheets_5 h (fun r2 M1 h => ?_)
  have hL_M1 : Lay c M1 := hL.to h.1
  replace h := h.2
  refine tw_if_eq 22 d_X11_sheets_8 (by decide) (fun z3 => ?_) (fun z3 => ?_)
  · replace h := h.1 z3
    refine tw_iconst d_X11_sheets_22 k_m1 ?_
    exact tw_iret rfl ⟨Nat.zero_le _, Nat.zero_le _⟩ d_X11_sheets_23 h
  · replace h := h.2 z3
    refine tw_iload_n 2 d_X11_sheets_11 rfl rfl ?_
    refine tw_iconst d_X11_sheets_12 k_0 ?_
    refine tw_sipush d_X11_sheets_13 ks_200 ?_
    refine tu_cSi (As := [.int x2, .int 0, .int 200]) cs_X11_177 rfl (Nat.le_of_ble_eq_true rfl) ⟨Nat.zero_le _, Nat.zero_le _⟩ d_X11_sheets_16 h (fun r5 M4 h => ?_)
    have hL_M4 : Lay c M4 := hL_M1.to h.1
    replace h := h.2
    refine tw_if_ne 24 d_X11_sheets_19 (by decide) (fun z6 => ?_) (fun z6 => ?_)
    · replace h := h.1 z6
      refine tw_aload_n 0 d_X11_sheets_24 rfl rfl ?_
      refine tw_getR f_X11_72 hL_M4 s_0 ⟨rfl, rfl⟩ (rr_X11_10 s_0) d_X11_sheets_25 ?_
      refine tw_aload_n 0 d_X11_sheets_28 rfl rfl ?_
      refine tw_getR f_X11_19 hL_M4 s_0 ⟨rfl, rfl⟩ (rr_X11_1 s_0) d_X11_sheets_29 ?_
      refine tw_getR f_X11_149 hL_M4 (shc hc) ⟨rfl, rfl⟩ (rr_X5_1 (shc hc)) d_X11_sheets_32 ?_
      refine tw_iload_n 1 d_X11_sheets_35 rfl rfl ?_
      have hin := h.1
      refine tw_aald hL_M4 (sr_X5_1 (shc hc)) (by decide) (re_5 (sr_X5_1 (shc hc))) d_X11_sheets_36 h.1 ?_
      have hs7 := se_5 (sr_X5_1 (shc hc)) (vp_lt h.1)
      replace h := h.2
      refine tw_iload_n 2 d_X11_sheets_37 rfl rfl ?_
      refine tu_cVi (As := [.ref (G.b + ((c + 2) + 13 + 3 * x1.toNatClampNeg)), .int x2]) cv_X11_280 hL_M4 s_134 rfl (Nat.le_of_ble_eq_true rfl) ⟨Nat.zero_le _, Nat.zero_le _⟩ d_X11_sheets_38 h (fun r9 M8 h => ?_)
      have hL_M8 : Lay c M8 := hL_M4.to h.1
      replace h := h.2
      exact tw_iret rfl ⟨Nat.zero_le _, Nat.zero_le _⟩ d_X11_sheets_41 h
    · replace h := h.2 z6
      refine tw_iconst d_X11_sheets_22 k_m1 ?_
      exact tw_iret rfl ⟨Nat.zero_le _, Nat.zero_le _⟩ d_X11_sheets_23 h

theorem d_X11_descent_0 : decode Y_X11_descent.cc 0 = .ok (.iload_n 1, 1) := by decide +kernel
theorem d_X11_descent_1 : decode Y_X11_descent.cc 1 = .ok (.ifCond .lt 34, 3) := by decide +kernel
theorem d_X11_descent_4 : decode Y_X11_descent.cc 4 = .ok (.iload_n 1, 1) := by decide +kernel
theorem d_X11_descent_5 : decode Y_X11_descent.cc 5 = .ok (.iconst 2, 1) := by decide +kernel
theorem d_X11_descent_6 : decode Y_X11_descent.cc 6 = .ok (.aload_n 0, 1) := by decide +kernel
theorem d_X11_descent_7 : decode Y_X11_descent.cc 7 = .ok (.getfield 19, 3) := by decide +kernel
theorem d_X11_descent_10 : decode Y_X11_descent.cc 10 = .ok (.getfield 284, 3) := by decide +kernel
theorem d_X11_descent_13 : decode Y_X11_descent.cc 13 = .ok (.iadd, 1) := by decide +kernel
theorem d_X11_descent_14 : decode Y_X11_descent.cc 14 = .ok (.if_icmp .ge 21, 3) := by decide +kernel
theorem d_X11_descent_17 : decode Y_X11_descent.cc 17 = .ok (.aload_n 0, 1) := by decide +kernel
theorem d_X11_descent_18 : decode Y_X11_descent.cc 18 = .ok (.getfield 79, 3) := by decide +kernel
theorem d_X11_descent_21 : decode Y_X11_descent.cc 21 = .ok (.aload_n 0, 1) := by decide +kernel
theorem d_X11_descent_22 : decode Y_X11_descent.cc 22 = .ok (.getfield 19, 3) := by decide +kernel
theorem d_X11_descent_25 : decode Y_X11_descent.cc 25 = .ok (.aload_n 0, 1) := by decide +kernel
theorem d_X11_descent_26 : decode Y_X11_descent.cc 26 = .ok (.getfield 29, 3) := by decide +kernel
theorem d_X11_descent_29 : decode Y_X11_descent.cc 29 = .ok (.invokevirtual 287, 3) := by decide +kernel
theorem d_X11_descent_32 : decode Y_X11_descent.cc 32 = .ok (.ifCond .ne 5, 3) := by decide +kernel
theorem d_X11_descent_35 : decode Y_X11_descent.cc 35 = .ok (.iconst (-1), 1) := by decide +kernel
theorem d_X11_descent_36 : decode Y_X11_descent.cc 36 = .ok (.ireturn, 1) := by decide +kernel
theorem d_X11_descent_37 : decode Y_X11_descent.cc 37 = .ok (.iload_n 1, 1) := by decide +kernel
theorem d_X11_descent_38 : decode Y_X11_descent.cc 38 = .ok (.ifCond .ne 13, 3) := by decide +kernel
theorem d_X11_descent_41 : decode Y_X11_descent.cc 41 = .ok (.aload_n 0, 1) := by decide +kernel
theorem d_X11_descent_42 : decode Y_X11_descent.cc 42 = .ok (.getfield 79, 3) := by decide +kernel
theorem d_X11_descent_45 : decode Y_X11_descent.cc 45 = .ok (.invokevirtual 290, 3) := by decide +kernel
theorem d_X11_descent_48 : decode Y_X11_descent.cc 48 = .ok (.goto 28, 3) := by decide +kernel
theorem d_X11_descent_51 : decode Y_X11_descent.cc 51 = .ok (.iload_n 1, 1) := by decide +kernel
theorem d_X11_descent_52 : decode Y_X11_descent.cc 52 = .ok (.iconst 1, 1) := by decide +kernel
theorem d_X11_descent_53 : decode Y_X11_descent.cc 53 = .ok (.if_icmp .ne 13, 3) := by decide +kernel
theorem d_X11_descent_56 : decode Y_X11_descent.cc 56 = .ok (.aload_n 0, 1) := by decide +kernel
theorem d_X11_descent_57 : decode Y_X11_descent.cc 57 = .ok (.getfield 79, 3) := by decide +kernel
theorem d_X11_descent_60 : decode Y_X11_descent.cc 60 = .ok (.invokevirtual 293, 3) := by decide +kernel
theorem d_X11_descent_63 : decode Y_X11_descent.cc 63 = .ok (.goto 13, 3) := by decide +kernel
theorem d_X11_descent_66 : decode Y_X11_descent.cc 66 = .ok (.aload_n 0, 1) := by decide +kernel
theorem d_X11_descent_67 : decode Y_X11_descent.cc 67 = .ok (.getfield 79, 3) := by decide +kernel
theorem d_X11_descent_70 : decode Y_X11_descent.cc 70 = .ok (.iload_n 1, 1) := by decide +kernel
theorem d_X11_descent_71 : decode Y_X11_descent.cc 71 = .ok (.iconst 2, 1) := by decide +kernel
theorem d_X11_descent_72 : decode Y_X11_descent.cc 72 = .ok (.isub, 1) := by decide +kernel
theorem d_X11_descent_73 : decode Y_X11_descent.cc 73 = .ok (.invokevirtual 296, 3) := by decide +kernel
theorem d_X11_descent_76 : decode Y_X11_descent.cc 76 = .ok (.ireturn, 1) := by decide +kernel
theorem b_X11_descent {G : MG} {d : Nat} {Q : Int32 → Mm → Prop} {x1 : Int32} {M : Mm} {c : Nat} (hL : Lay c M) (hc : c = 3 ∨ c = 39)  (h : ((x1 < 0 → Q (-1) M) ∧ (¬ x1 < 0 → (((2 + (M.1 c 3)) ≤ x1 → Q (-1) M) ∧ (¬ (2 + (M.1 c 3)) ≤ x1 → (C G Y_X0_find d [.ref (G.b + 137), .ref (G.b + c), .ref (G.b + 75)] M (Ri fun r4 M3 => M3.2.2 = M.2.2 ∧ ((¬ r4 = 0 → ((¬ x1 = 0 → ((¬ x1 = 1 → (C G Y_X0_parent d [.ref (G.b + 137), .int (x1 - 2)] M3 (Ri fun r9 M8 => M8.2.2 = M3.2.2 ∧ Q r9 M8))) ∧ (x1 = 1 → (C G Y_X0_first d [.ref (G.b + 137)] M3 (Ri fun r11 M10 => M10.2.2 = M3.2.2 ∧ Q r11 M10))))) ∧ (x1 = 0 → (C G Y_X0_cost d [.ref (G.b + 137)] M3 (Ri fun r13 M12 => M12.2.2 = M3.2.2 ∧ Q r13 M12))))) ∧ (r4 = 0 → Q (-1) M3))))))))) : C G Y_X11_descent (d + 1) [.ref (G.b + 0), .int x1] M (Ri Q) := by
  refine C.of (by decide) (Nat.le_of_ble_eq_true rfl) (lv := [(0, .ref (G.b + 0)), (1, .int x1)]) rfl ?_
  refine tw_iload_n 1 d_X11_descent_0 rfl rfl ?_
  refine tw_if_lt 35 d_X11_descent_1 (by decide) (fun z1 => ?_) (fun z1 => ?_)
  · replace h := h.1 z1
    refine tw_iconst d_X11_descent_35 k_m1 ?_
    exact tw_iret rfl ⟨Nat.zero_le _, Nat.zero_le _⟩ d_X11_descent_36 h
  · replace h := h.2 z1
    refine tw_iload_n 1 d_X11_descent_4 rfl rfl ?_
    refine tw_iconst d_X11_descent_5 k_2 ?_
    refine tw_aload_n 0 d_X11_descent_6 rfl rfl ?_
    refine tw_getR f_X11_19 hL s_0 ⟨rfl, rfl⟩ (rr_X11_1 s_0) d_X11_descent_7 ?_
    refine tw_getI f_X11_284 hL (shc hc) (Or.inl rfl) d_X11_descent_10 ?_
    refine tw_iadd d_X11_descent_13 ?_
    refine tw_icmp_ge 35 d_X11_descent_14 (by decide) (fun z2 => ?_) (fun z2 => ?_)
    · replace h := h.1 z2
      refine tw_iconst d_X11_descent_35 k_m1 ?_
      exact tw_iret rfl ⟨Nat.zero_le _, Nat.zero_le _⟩ d_X11_descent_36 h
    · replace h := h.2 z2
      refine tw_aload_n 0 d_X11_descent_17 rfl rfl ?_
      refine tw_getR f_X11_79 hL s_0 ⟨rfl, rfl⟩ (rr_X11_11 s_0) d_X11_descent_18 ?_
      refine tw_aload_n 0 d_X11_descent_21 rfl rfl ?_
      refine tw_getR f_X11_19 hL s_0 ⟨rfl, rfl⟩ (rr_X11_1 s_0) d_X11_descent_22 ?_
      refine tw_aload_n 0 d_X11_descent_25 rfl rfl ?_
      refine tw_getR f_X11_29 hL s_0 ⟨rfl, rfl⟩ (rr_X11_3 s_0) d_X11_descent_26 ?_
      refine tu_cVi (As := [.ref (G.b + c), .ref (G.b + 75)]) cv_X11_287 hL s_137 rfl (Nat.le_of_ble_eq_true rfl) ⟨Nat.zero_le _, Nat.zero_le _⟩ d_X11_descent_29 h (fun r4 M3 h => ?_)
      have hL_M3 : Lay c M3 := hL.to h.1
      replace h := h.2
      refine tw_if_ne 37 d_X11_descent_32 (by decide) (fun z5 => ?_) (fun z5 => ?_)
      · replace h := h.1 z5
        refine tw_iload_n 1 d_X11_descent_37 rfl rfl ?_
        refine tw_if_ne 51 d_X11_descent_38 (by decide) (fun z6 => ?_) (fun z6 => ?_)
        · replace h := h.1 z6
          refine tw_iload_n 1 d_X11_descent_51 rfl rfl ?_
          refine tw_iconst d_X11_descent_52 k_1 ?_
          refine tw_icmp_ne 66 d_X11_descent_53 (by decide) (fun z7 => ?_) (fun z7 => ?_)
          · replace h := h.1 z7
            refine tw_aload_n 0 d_X11_descent_66 rfl rfl ?_
            refine tw_getR f_X11_79 hL_M3 s_0 ⟨rfl, rfl⟩ (rr_X11_11 s_0) d_X11_descent_67 ?_
            refine tw_iload_n 1 d_X11_descent_70 rfl rfl ?_
            refine tw_iconst d_X11_descent_71 k_2 ?_
            refine tw_isub d_X11_descent_72 ?_
            refine tu_cVi (As := [.int (x1 - 2)]) cv_X11_296 hL_M3 s_137 rfl (Nat.le_of_ble_eq_true rfl) ⟨Nat.zero_le _, Nat.zero_le _⟩ d_X11_descent_73 h (fun r9 M8 h => ?_)
            have hL_M8 : Lay c M8 := hL_M3.to h.1
            replace h := h.2
            exact tw_iret rfl ⟨Nat.zero_le _, Nat.zero_le _⟩ d_X11_descent_76 h
          · replace h := h.2 z7
            refine tw_aload_n 0 d_X11_descent_56 rfl rfl ?_
            refine tw_getR f_X11_79 hL_M3 s_0 ⟨rfl, rfl⟩ (rr_X11_11 s_0) d_X11_descent_57 ?_
            refine tu_cVi (As := []) cv_X11_293 hL_M3 s_137 rfl (Nat.le_of_ble_eq_true rfl) ⟨Nat.zero_le _, Nat.zero_le _⟩ d_X11_descent_60 h (fun r11 M10 h => ?_)
            have hL_M10 : Lay c M10 := hL_M3.to h.1
            replace h := h.2
            refine tw_goto 76 d_X11_descent_63 (by decide) ?_
            exact tw_iret rfl ⟨Nat.zero_le _, Nat.zero_le _⟩ d_X11_descent_76 h
        · replace h := h.2 z6
          refine tw_aload_n 0 d_X11_descent_41 rfl rfl ?_
          refine tw_getR f_X11_79 hL_M3 s_0 ⟨rfl, rfl⟩ (rr_X11_11 s_0) d_X11_descent_42 ?_
          refine tu_cVi (As := []) cv_X11_290 hL_M3 s_137 rfl (Nat.le_of_ble_eq_true rfl) ⟨Nat.zero_le _, Nat.zero_le _⟩ d_X11_descent_45 h (fun r13 M12 h => ?_)
          have hL_M12 : Lay c M12 := hL_M3.to h.1
          replace h := h.2
          refine tw_goto 76 d_X11_descent_48 (by decide) ?_
          exact tw_iret rfl ⟨Nat.zero_le _, Nat.zero_le _⟩ d_X11_descent_76 h
      · replace h := h.2 z5
        refine tw_iconst d_X11_descent_35 k_m1 ?_
        exact tw_iret rfl ⟨Nat.zero_le _, Nat.zero_le _⟩ d_X11_descent_36 h

theorem d_X11_mark_0 : decode Y_X11_mark.cc 0 = .ok (.iload_n 1, 1) := by decide +kernel
theorem d_X11_mark_1 : decode Y_X11_mark.cc 1 = .ok (.iconst 0, 1) := by decide +kernel
theorem d_X11_mark_2 : decode Y_X11_mark.cc 2 = .ok (.iconst 3, 1) := by decide +kernel
theorem d_X11_mark_3 : decode Y_X11_mark.cc 3 = .ok (.invokestatic 177, 3) := by decide +kernel
theorem d_X11_mark_6 : decode Y_X11_mark.cc 6 = .ok (.ifCond .ne 5, 3) := by decide +kernel
theorem d_X11_mark_9 : decode Y_X11_mark.cc 9 = .ok (.iconst 0, 1) := by decide +kernel
theorem d_X11_mark_10 : decode Y_X11_mark.cc 10 = .ok (.ireturn, 1) := by decide +kernel
theorem d_X11_mark_11 : decode Y_X11_mark.cc 11 = .ok (.iload_n 2, 1) := by decide +kernel
theorem d_X11_mark_12 : decode Y_X11_mark.cc 12 = .ok (.ifCond .ne 30, 3) := by decide +kernel
theorem d_X11_mark_15 : decode Y_X11_mark.cc 15 = .ok (.aload_n 0, 1) := by decide +kernel
theorem d_X11_mark_16 : decode Y_X11_mark.cc 16 = .ok (.getfield 33, 3) := by decide +kernel
theorem d_X11_mark_19 : decode Y_X11_mark.cc 19 = .ok (.iload_n 1, 1) := by decide +kernel
theorem d_X11_mark_20 : decode Y_X11_mark.cc 20 = .ok (.aaload, 1) := by decide +kernel
theorem d_X11_mark_21 : decode Y_X11_mark.cc 21 = .ok (.aload_n 0, 1) := by decide +kernel
theorem d_X11_mark_22 : decode Y_X11_mark.cc 22 = .ok (.getfield 29, 3) := by decide +kernel
theorem d_X11_mark_25 : decode Y_X11_mark.cc 25 = .ok (.invokevirtual 299, 3) := by decide +kernel
theorem d_X11_mark_28 : decode Y_X11_mark.cc 28 = .ok (.aload_n 0, 1) := by decide +kernel
theorem d_X11_mark_29 : decode Y_X11_mark.cc 29 = .ok (.dup, 1) := by decide +kernel
theorem d_X11_mark_30 : decode Y_X11_mark.cc 30 = .ok (.getfield 37, 3) := by decide +kernel
theorem d_X11_mark_33 : decode Y_X11_mark.cc 33 = .ok (.iconst 1, 1) := by decide +kernel
theorem d_X11_mark_34 : decode Y_X11_mark.cc 34 = .ok (.iload_n 1, 1) := by decide +kernel
theorem d_X11_mark_35 : decode Y_X11_mark.cc 35 = .ok (.ishl, 1) := by decide +kernel
theorem d_X11_mark_36 : decode Y_X11_mark.cc 36 = .ok (.ior, 1) := by decide +kernel
theorem d_X11_mark_37 : decode Y_X11_mark.cc 37 = .ok (.putfield 37, 3) := by decide +kernel
theorem d_X11_mark_40 : decode Y_X11_mark.cc 40 = .ok (.iconst 1, 1) := by decide +kernel
theorem d_X11_mark_41 : decode Y_X11_mark.cc 41 = .ok (.ireturn, 1) := by decide +kernel
theorem d_X11_mark_42 : decode Y_X11_mark.cc 42 = .ok (.aload_n 0, 1) := by decide +kernel
theorem d_X11_mark_43 : decode Y_X11_mark.cc 43 = .ok (.getfield 37, 3) := by decide +kernel
theorem d_X11_mark_46 : decode Y_X11_mark.cc 46 = .ok (.iconst 1, 1) := by decide +kernel
theorem d_X11_mark_47 : decode Y_X11_mark.cc 47 = .ok (.iload_n 1, 1) := by decide +kernel
theorem d_X11_mark_48 : decode Y_X11_mark.cc 48 = .ok (.ishl, 1) := by decide +kernel
theorem d_X11_mark_49 : decode Y_X11_mark.cc 49 = .ok (.iand, 1) := by decide +kernel
theorem d_X11_mark_50 : decode Y_X11_mark.cc 50 = .ok (.ifCond .ne 5, 3) := by decide +kernel
theorem d_X11_mark_53 : decode Y_X11_mark.cc 53 = .ok (.iconst 0, 1) := by decide +kernel
theorem d_X11_mark_54 : decode Y_X11_mark.cc 54 = .ok (.ireturn, 1) := by decide +kernel
theorem d_X11_mark_55 : decode Y_X11_mark.cc 55 = .ok (.aload_n 0, 1) := by decide +kernel
theorem d_X11_mark_56 : decode Y_X11_mark.cc 56 = .ok (.getfield 29, 3) := by decide +kernel
theorem d_X11_mark_59 : decode Y_X11_mark.cc 59 = .ok (.aload_n 0, 1) := by decide +kernel
theorem d_X11_mark_60 : decode Y_X11_mark.cc 60 = .ok (.getfield 33, 3) := by decide +kernel
theorem d_X11_mark_63 : decode Y_X11_mark.cc 63 = .ok (.iload_n 1, 1) := by decide +kernel
theorem d_X11_mark_64 : decode Y_X11_mark.cc 64 = .ok (.aaload, 1) := by decide +kernel
theorem d_X11_mark_65 : decode Y_X11_mark.cc 65 = .ok (.invokevirtual 299, 3) := by decide +kernel
theorem d_X11_mark_68 : decode Y_X11_mark.cc 68 = .ok (.iconst 1, 1) := by decide +kernel
theorem d_X11_mark_69 : decode Y_X11_mark.cc 69 = .ok (.ireturn, 1) := by decide +kernel
theorem b_X11_mark {G : MG} {d : Nat} {Q : Int32 → Mm → Prop} {x1 : Int32} {x2 : Int32} {M : Mm} {c : Nat} (hL : Lay c M)  (h : (C G Y_X11_isWithin d [.int x1, .int 0, .int 3] M (Ri fun r2 M1 => M1.2.2 = M.2.2 ∧ ((¬ r2 = 0 → ((¬ x2 = 0 → ((¬ ((M1.1 0 5) &&& (1 <<< (x1 &&& 31))) = 0 → (vp_in x1 4 ∧ (C G Y_X7_copyFrom d [.ref (G.b + 75), .ref (G.b + (85 + 1 + 10 * x1.toNatClampNeg))] M1 (Rv fun M7 => M7.2.2 = M1.2.2 ∧ Q 1 M7)))) ∧ (((M1.1 0 5) &&& (1 <<< (x1 &&& 31))) = 0 → Q 0 M1))) ∧ (x2 = 0 → (vp_in x1 4 ∧ (C G Y_X7_copyFrom d [.ref (G.b + (85 + 1 + 10 * x1.toNatClampNeg)), .ref (G.b + 75)] M1 (Rv fun M9 => M9.2.2 = M1.2.2 ∧ (∀ M10 : Mm, M10 = sI M9 0 5 ((M9.1 0 5) ||| (1 <<< (x1 &&& 31))) → Q 1 M10))))))) ∧ (r2 = 0 → Q 0 M1))))) : C G Y_X11_mark (d + 1) [.ref (G.b + 0), .int x1, .int x2] M (Ri Q) := by
  refine C.of (by decide) (Nat.le_of_ble_eq_true rfl) (lv := [(0, .ref (G.b + 0)), (1, .int x1), (2, .int x2)]) rfl ?_
  refine tw_iload_n 1 d_X11_mark_0 rfl rfl ?_
  refine tw_iconst d_X11_mark_1 k_0 ?_
  refine tw_iconst d_X11_mark_2 k_3 ?_
  refine tu_cSi (As := [.int x1, .int 0, .int 3]) cs_X11_177 rfl (Nat.le_of_ble_eq_true rfl) ⟨Nat.zero_le _, Nat.zero_le _⟩ d_X11_mark_3 h (fun r2 M1 h => ?_)
  have hL_M1 : Lay c M1 := hL.to h.1
  replace h := h.2
  refine tw_if_ne 11 d_X11_mark_6 (by decide) (fun z3 => ?_) (fun z3 => ?_)
  · replace h := h.1 z3
    refine tw_iload_n 2 d_X11_mark_11 rfl rfl ?_
    refine tw_if_ne 42 d_X11_mark_12 (by decide) (fun z4 => ?_) (fun z4 => ?_)
    · replace h := h.1 z4
      refine tw_aload_n 0 d_X11_mark_42 rfl rfl ?_
      refine tw_getI f_X11_37 hL_M1 s_0 (Or.inl rfl) d_X11_mark_43 ?_
      refine tw_iconst d_X11_mark_46 k_1 ?_
      refine tw_iload_n 1 d_X11_mark_47 rfl rfl ?_
      refine tw_ishl d_X11_mark_48 ?_
      refine tw_iand d_X11_mark_49 ?_
      refine tw_if_ne 55 d_X11_mark_50 (by decide) (fun z5 => ?_) (fun z5 => ?_)
      · replace h := h.1 z5
        refine tw_aload_n 0 d_X11_mark_55 rfl rfl ?_
        refine tw_getR f_X11_29 hL_M1 s_0 ⟨rfl, rfl⟩ (rr_X11_3 s_0) d_X11_mark_56 ?_
        refine tw_aload_n 0 d_X11_mark_59 rfl rfl ?_
        refine tw_getR f_X11_33 hL_M1 s_0 ⟨rfl, rfl⟩ (rr_X11_4 s_0) d_X11_mark_60 ?_
        refine tw_iload_n 1 d_X11_mark_63 rfl rfl ?_
        have hin := h.1
        refine tw_aald hL_M1 s_85 (by decide) (re_6 s_85) d_X11_mark_64 h.1 ?_
        have hs6 := se_6 s_85 (vp_lt h.1)
        replace h := h.2
        refine tu_cVv (As := [.ref (G.b + (85 + 1 + 10 * x1.toNatClampNeg))]) cv_X11_299 hL_M1 s_75 rfl (Nat.le_of_ble_eq_true rfl) ⟨Nat.zero_le _, Nat.zero_le _⟩ d_X11_mark_65 h (fun M7 h => ?_)
        have hL_M7 : Lay c M7 := hL_M1.to h.1
        replace h := h.2
        refine tw_iconst d_X11_mark_68 k_1 ?_
        exact tw_zret (ty := .boolean) rfl rfl ⟨Nat.zero_le _, Nat.zero_le _⟩ d_X11_mark_69 h
      · replace h := h.2 z5
        refine tw_iconst d_X11_mark_53 k_0 ?_
        exact tw_zret (ty := .boolean) rfl rfl ⟨Nat.zero_le _, Nat.zero_le _⟩ d_X11_mark_54 h
    · replace h := h.2 z4
      refine tw_aload_n 0 d_X11_mark_15 rfl rfl ?_
      refine tw_getR f_X11_33 hL_M1 s_0 ⟨rfl, rfl⟩ (rr_X11_4 s_0) d_X11_mark_16 ?_
      refine tw_iload_n 1 d_X11_mark_19 rfl rfl ?_
      have hin := h.1
      refine tw_aald hL_M1 s_85 (by decide) (re_6 s_85) d_X11_mark_20 h.1 ?_
      have hs8 := se_6 s_85 (vp_lt h.1)
      replace h := h.2
      refine tw_aload_n 0 d_X11_mark_21 rfl rfl ?_
      refine tw_getR f_X11_29 hL_M1 s_0 ⟨rfl, rfl⟩ (rr_X11_3 s_0) d_X11_mark_22 ?_
      refine tu_cVv (As := [.ref (G.b + 75)]) cv_X11_299 hL_M1 hs8 rfl (Nat.le_of_ble_eq_true rfl) ⟨Nat.zero_le _, Nat.zero_le _⟩ d_X11_mark_25 h (fun M9 h => ?_)
      have hL_M9 : Lay c M9 := hL_M1.to h.1
      replace h := h.2
      refine tw_aload_n 0 d_X11_mark_28 rfl rfl ?_
      refine tw_dup d_X11_mark_29 rfl ?_
      refine tw_getI f_X11_37 hL_M9 s_0 (Or.inl rfl) d_X11_mark_30 ?_
      refine tw_iconst d_X11_mark_33 k_1 ?_
      refine tw_iload_n 1 d_X11_mark_34 rfl rfl ?_
      refine tw_ishl d_X11_mark_35 ?_
      refine tw_ior d_X11_mark_36 ?_
      refine tu_putI f_X11_37 hL_M9 s_0 rfl rfl d_X11_mark_37 (fun M10 e_M10 hL_M10 => ?_)
      replace h := h M10 e_M10
      refine tw_iconst d_X11_mark_40 k_1 ?_
      exact tw_zret (ty := .boolean) rfl rfl ⟨Nat.zero_le _, Nat.zero_le _⟩ d_X11_mark_41 h
  · replace h := h.2 z3
    refine tw_iconst d_X11_mark_9 k_0 ?_
    exact tw_zret (ty := .boolean) rfl rfl ⟨Nat.zero_le _, Nat.zero_le _⟩ d_X11_mark_10 h

theorem d_X11_count_0 : decode Y_X11_count.cc 0 = .ok (.iload_n 1, 1) := by decide +kernel
theorem d_X11_count_1 : decode Y_X11_count.cc 1 = .ok (.tableswitch 78 0 4 #[35, 43, 51, 59, 70], 35) := by decide +kernel
theorem d_X11_count_36 : decode Y_X11_count.cc 36 = .ok (.aload_n 0, 1) := by decide +kernel
theorem d_X11_count_37 : decode Y_X11_count.cc 37 = .ok (.getfield 19, 3) := by decide +kernel
theorem d_X11_count_40 : decode Y_X11_count.cc 40 = .ok (.getfield 255, 3) := by decide +kernel
theorem d_X11_count_43 : decode Y_X11_count.cc 43 = .ok (.ireturn, 1) := by decide +kernel
theorem d_X11_count_44 : decode Y_X11_count.cc 44 = .ok (.aload_n 0, 1) := by decide +kernel
theorem d_X11_count_45 : decode Y_X11_count.cc 45 = .ok (.getfield 19, 3) := by decide +kernel
theorem d_X11_count_48 : decode Y_X11_count.cc 48 = .ok (.getfield 284, 3) := by decide +kernel
theorem d_X11_count_51 : decode Y_X11_count.cc 51 = .ok (.ireturn, 1) := by decide +kernel
theorem d_X11_count_52 : decode Y_X11_count.cc 52 = .ok (.aload_n 0, 1) := by decide +kernel
theorem d_X11_count_53 : decode Y_X11_count.cc 53 = .ok (.getfield 29, 3) := by decide +kernel
theorem d_X11_count_56 : decode Y_X11_count.cc 56 = .ok (.getfield 208, 3) := by decide +kernel
theorem d_X11_count_59 : decode Y_X11_count.cc 59 = .ok (.ireturn, 1) := by decide +kernel
theorem d_X11_count_60 : decode Y_X11_count.cc 60 = .ok (.aload_n 0, 1) := by decide +kernel
theorem d_X11_count_61 : decode Y_X11_count.cc 61 = .ok (.getfield 29, 3) := by decide +kernel
theorem d_X11_count_64 : decode Y_X11_count.cc 64 = .ok (.getfield 252, 3) := by decide +kernel
theorem d_X11_count_67 : decode Y_X11_count.cc 67 = .ok (.invokestatic 303, 3) := by decide +kernel
theorem d_X11_count_70 : decode Y_X11_count.cc 70 = .ok (.ireturn, 1) := by decide +kernel
theorem d_X11_count_71 : decode Y_X11_count.cc 71 = .ok (.aload_n 0, 1) := by decide +kernel
theorem d_X11_count_72 : decode Y_X11_count.cc 72 = .ok (.getfield 10, 3) := by decide +kernel
theorem d_X11_count_75 : decode Y_X11_count.cc 75 = .ok (.getfield 87, 3) := by decide +kernel
theorem d_X11_count_78 : decode Y_X11_count.cc 78 = .ok (.ireturn, 1) := by decide +kernel
theorem d_X11_count_79 : decode Y_X11_count.cc 79 = .ok (.iconst (-1), 1) := by decide +kernel
theorem d_X11_count_80 : decode Y_X11_count.cc 80 = .ok (.ireturn, 1) := by decide +kernel
theorem b_X11_count {G : MG} {d : Nat} {Q : Int32 → Mm → Prop} {x1 : Int32} {M : Mm} {c : Nat} (hL : Lay c M) (hc : c = 3 ∨ c = 39)  (h : ((x1 = 0 → Q (M.1 c 2) M) ∧ (x1 = 1 → Q (M.1 c 3) M) ∧ (x1 = 2 → Q (M.1 75 7) M) ∧ (x1 = 3 → (C G Y_J6_bitCount_0f7a4 d [.int (M.1 75 10)] M (Ri fun r2 M1 => M1.2.2 = M.2.2 ∧ Q r2 M1))) ∧ (x1 = 4 → Q (M.1 1 0) M) ∧ (¬ x1 = 0 → ¬ x1 = 1 → ¬ x1 = 2 → ¬ x1 = 3 → ¬ x1 = 4 → Q (-1) M))) : C G Y_X11_count (d + 1) [.ref (G.b + 0), .int x1] M (Ri Q) := by
  refine C.of (by decide) (Nat.le_of_ble_eq_true rfl) (lv := [(0, .ref (G.b + 0)), (1, .int x1)]) rfl ?_
  refine tw_iload_n 1 d_X11_count_0 rfl rfl ?_
  by_cases hz0 : x1 = 0
  · replace h := h.1 hz0
    refine tw_tabIn 36 d_X11_count_1 (by rw [hz0]; decide) (by rw [hz0]; decide) (by rw [hz0]; rfl) (by decide) ?_
    refine tw_aload_n 0 d_X11_count_36 rfl rfl ?_
    refine tw_getR f_X11_19 hL s_0 ⟨rfl, rfl⟩ (rr_X11_1 s_0) d_X11_count_37 ?_
    refine tw_getI f_X11_255 hL (shc hc) (Or.inl rfl) d_X11_count_40 ?_
    exact tw_iret rfl ⟨Nat.zero_le _, Nat.zero_le _⟩ d_X11_count_43 h
  by_cases hz1 : x1 = 1
  · replace h := h.2.1 hz1
    refine tw_tabIn 44 d_X11_count_1 (by rw [hz1]; decide) (by rw [hz1]; decide) (by rw [hz1]; rfl) (by decide) ?_
    refine tw_aload_n 0 d_X11_count_44 rfl rfl ?_
    refine tw_getR f_X11_19 hL s_0 ⟨rfl, rfl⟩ (rr_X11_1 s_0) d_X11_count_45 ?_
    refine tw_getI f_X11_284 hL (shc hc) (Or.inl rfl) d_X11_count_48 ?_
    exact tw_iret rfl ⟨Nat.zero_le _, Nat.zero_le _⟩ d_X11_count_51 h
  by_cases hz2 : x1 = 2
  · replace h := h.2.2.1 hz2
    refine tw_tabIn 52 d_X11_count_1 (by rw [hz2]; decide) (by rw [hz2]; decide) (by rw [hz2]; rfl) (by decide) ?_
    refine tw_aload_n 0 d_X11_count_52 rfl rfl ?_
    refine tw_getR f_X11_29 hL s_0 ⟨rfl, rfl⟩ (rr_X11_3 s_0) d_X11_count_53 ?_
    refine tw_getI f_X11_208 hL s_75 (Or.inl rfl) d_X11_count_56 ?_
    exact tw_iret rfl ⟨Nat.zero_le _, Nat.zero_le _⟩ d_X11_count_59 h
  by_cases hz3 : x1 = 3
  · replace h := h.2.2.2.1 hz3
    refine tw_tabIn 60 d_X11_count_1 (by rw [hz3]; decide) (by rw [hz3]; decide) (by rw [hz3]; rfl) (by decide) ?_
    refine tw_aload_n 0 d_X11_count_60 rfl rfl ?_
    refine tw_getR f_X11_29 hL s_0 ⟨rfl, rfl⟩ (rr_X11_3 s_0) d_X11_count_61 ?_
    refine tw_getI f_X11_252 hL s_75 (Or.inl rfl) d_X11_count_64 ?_
    refine tu_cSi (As := [.int (M.1 75 10)]) cs_X11_303 rfl (Nat.le_of_ble_eq_true rfl) ⟨Nat.zero_le _, Nat.zero_le _⟩ d_X11_count_67 h (fun r2 M1 h => ?_)
    have hL_M1 : Lay c M1 := hL.to h.1
    replace h := h.2
    exact tw_iret rfl ⟨Nat.zero_le _, Nat.zero_le _⟩ d_X11_count_70 h
  by_cases hz4 : x1 = 4
  · replace h := h.2.2.2.2.1 hz4
    refine tw_tabIn 71 d_X11_count_1 (by rw [hz4]; decide) (by rw [hz4]; decide) (by rw [hz4]; rfl) (by decide) ?_
    refine tw_aload_n 0 d_X11_count_71 rfl rfl ?_
    refine tw_getR f_X11_10 hL s_0 ⟨rfl, rfl⟩ (rr_X11_0 s_0) d_X11_count_72 ?_
    refine tw_getI f_X11_87 hL s_1 (Or.inl rfl) d_X11_count_75 ?_
    exact tw_iret rfl ⟨Nat.zero_le _, Nat.zero_le _⟩ d_X11_count_78 h
  replace h := h.2.2.2.2.2 hz0 hz1 hz2 hz3 hz4
  refine tw_tabOut 79 d_X11_count_1 (tab_out_0_4 hz0 hz1 hz2 hz3 hz4) (by decide) ?_
  refine tw_iconst d_X11_count_79 k_m1 ?_
  exact tw_iret rfl ⟨Nat.zero_le _, Nat.zero_le _⟩ d_X11_count_80 h

theorem d_X11_isWithin_0 : decode Y_X11_isWithin.cc 0 = .ok (.iload_n 0, 1) := by decide +kernel
theorem d_X11_isWithin_1 : decode Y_X11_isWithin.cc 1 = .ok (.iload_n 1, 1) := by decide +kernel
theorem d_X11_isWithin_2 : decode Y_X11_isWithin.cc 2 = .ok (.if_icmp .lt 12, 3) := by decide +kernel
theorem d_X11_isWithin_5 : decode Y_X11_isWithin.cc 5 = .ok (.iload_n 0, 1) := by decide +kernel
theorem d_X11_isWithin_6 : decode Y_X11_isWithin.cc 6 = .ok (.iload_n 2, 1) := by decide +kernel
theorem d_X11_isWithin_7 : decode Y_X11_isWithin.cc 7 = .ok (.if_icmp .gt 7, 3) := by decide +kernel
theorem d_X11_isWithin_10 : decode Y_X11_isWithin.cc 10 = .ok (.iconst 1, 1) := by decide +kernel
theorem d_X11_isWithin_11 : decode Y_X11_isWithin.cc 11 = .ok (.goto 4, 3) := by decide +kernel
theorem d_X11_isWithin_14 : decode Y_X11_isWithin.cc 14 = .ok (.iconst 0, 1) := by decide +kernel
theorem d_X11_isWithin_15 : decode Y_X11_isWithin.cc 15 = .ok (.ireturn, 1) := by decide +kernel
theorem b_X11_isWithin {G : MG} {d : Nat} {Q : Int32 → Mm → Prop} {x0 : Int32} {x1 : Int32} {x2 : Int32} {M : Mm} {c : Nat} (hL : Lay c M)  (h : ((x0 < x1 → Q 0 M) ∧ (¬ x0 < x1 → ((x2 < x0 → Q 0 M) ∧ (¬ x2 < x0 → Q 1 M))))) : C G Y_X11_isWithin (d + 1) [.int x0, .int x1, .int x2] M (Ri Q) := by
  refine C.of (by decide) (Nat.le_of_ble_eq_true rfl) (lv := [(0, .int x0), (1, .int x1), (2, .int x2)]) rfl ?_
  refine tw_iload_n 0 d_X11_isWithin_0 rfl rfl ?_
  refine tw_iload_n 1 d_X11_isWithin_1 rfl rfl ?_
  refine tw_icmp_lt 14 d_X11_isWithin_2 (by decide) (fun z1 => ?_) (fun z1 => ?_)
  · replace h := h.1 z1
    refine tw_iconst d_X11_isWithin_14 k_0 ?_
    exact tw_zret (ty := .boolean) rfl rfl ⟨Nat.zero_le _, Nat.zero_le _⟩ d_X11_isWithin_15 h
  · replace h := h.2 z1
    refine tw_iload_n 0 d_X11_isWithin_5 rfl rfl ?_
    refine tw_iload_n 2 d_X11_isWithin_6 rfl rfl ?_
    refine tw_icmp_gt 14 d_X11_isWithin_7 (by decide) (fun z2 => ?_) (fun z2 => ?_)
    · replace h := h.1 z2
      refine tw_iconst d_X11_isWithin_14 k_0 ?_
      exact tw_zret (ty := .boolean) rfl rfl ⟨Nat.zero_le _, Nat.zero_le _⟩ d_X11_isWithin_15 h
    · replace h := h.2 z2
      refine tw_iconst d_X11_isWithin_10 k_1 ?_
      refine tw_goto 15 d_X11_isWithin_11 (by decide) ?_
      exact tw_zret (ty := .boolean) rfl rfl ⟨Nat.zero_le _, Nat.zero_le _⟩ d_X11_isWithin_15 h

theorem d_X11_canBeTraced_0 : decode Y_X11_canBeTraced.cc 0 = .ok (.iload_n 0, 1) := by decide +kernel
theorem d_X11_canBeTraced_1 : decode Y_X11_canBeTraced.cc 1 = .ok (.sipush (-9999), 3) := by decide +kernel
theorem d_X11_canBeTraced_4 : decode Y_X11_canBeTraced.cc 4 = .ok (.sipush 9999, 3) := by decide +kernel
theorem d_X11_canBeTraced_7 : decode Y_X11_canBeTraced.cc 7 = .ok (.invokestatic 177, 3) := by decide +kernel
theorem d_X11_canBeTraced_10 : decode Y_X11_canBeTraced.cc 10 = .ok (.ifCond .eq 20, 3) := by decide +kernel
theorem d_X11_canBeTraced_13 : decode Y_X11_canBeTraced.cc 13 = .ok (.iload_n 1, 1) := by decide +kernel
theorem d_X11_canBeTraced_14 : decode Y_X11_canBeTraced.cc 14 = .ok (.sipush (-9999), 3) := by decide +kernel
theorem d_X11_canBeTraced_17 : decode Y_X11_canBeTraced.cc 17 = .ok (.sipush 9999, 3) := by decide +kernel
theorem d_X11_canBeTraced_20 : decode Y_X11_canBeTraced.cc 20 = .ok (.invokestatic 177, 3) := by decide +kernel
theorem d_X11_canBeTraced_23 : decode Y_X11_canBeTraced.cc 23 = .ok (.ifCond .eq 7, 3) := by decide +kernel
theorem d_X11_canBeTraced_26 : decode Y_X11_canBeTraced.cc 26 = .ok (.iconst 1, 1) := by decide +kernel
theorem d_X11_canBeTraced_27 : decode Y_X11_canBeTraced.cc 27 = .ok (.goto 4, 3) := by decide +kernel
theorem d_X11_canBeTraced_30 : decode Y_X11_canBeTraced.cc 30 = .ok (.iconst 0, 1) := by decide +kernel
theorem d_X11_canBeTraced_31 : decode Y_X11_canBeTraced.cc 31 = .ok (.ireturn, 1) := by decide +kernel
theorem b_X11_canBeTraced {G : MG} {d : Nat} {Q : Int32 → Mm → Prop} {x0 : Int32} {x1 : Int32} {M : Mm} {c : Nat} (hL : Lay c M)  (h : (C G Y_X11_isWithin d [.int x0, .int (-9999), .int 9999] M (Ri fun r2 M1 => M1.2.2 = M.2.2 ∧ ((r2 = 0 → Q 0 M1) ∧ (¬ r2 = 0 → (C G Y_X11_isWithin d [.int x1, .int (-9999), .int 9999] M1 (Ri fun r5 M4 => M4.2.2 = M1.2.2 ∧ ((r5 = 0 → Q 0 M4) ∧ (¬ r5 = 0 → Q 1 M4))))))))) : C G Y_X11_canBeTraced (d + 1) [.int x0, .int x1] M (Ri Q) := by
  refine C.of (by decide) (Nat.le_of_ble_eq_true rfl) (lv := [(0, .int x0), (1, .int x1)]) rfl ?_
  refine tw_iload_n 0 d_X11_canBeTraced_0 rfl rfl ?_
  refine tw_sipush d_X11_canBeTraced_1 ks_m9999 ?_
  refine tw_sipush d_X11_canBeTraced_4 ks_9999 ?_
  refine tu_cSi (As := [.int x0, .int (-9999), .int 9999]) cs_X11_177 rfl (Nat.le_of_ble_eq_true rfl) ⟨Nat.zero_le _, Nat.zero_le _⟩ d_X11_canBeTraced_7 h (fun r2 M1 h => ?_)
  have hL_M1 : Lay c M1 := hL.to h.1
  replace h := h.2
  refine tw_if_eq 30 d_X11_canBeTraced_10 (by decide) (fun z3 => ?_) (fun z3 => ?_)
  · replace h := h.1 z3
    refine tw_iconst d_X11_canBeTraced_30 k_0 ?_
    exact tw_zret (ty := .boolean) rfl rfl ⟨Nat.zero_le _, Nat.zero_le _⟩ d_X11_canBeTraced_31 h
  · replace h := h.2 z3
    refine tw_iload_n 1 d_X11_canBeTraced_13 rfl rfl ?_
    refine tw_sipush d_X11_canBeTraced_14 ks_m9999 ?_
    refine tw_sipush d_X11_canBeTraced_17 ks_9999 ?_
    refine tu_cSi (As := [.int x1, .int (-9999), .int 9999]) cs_X11_177 rfl (Nat.le_of_ble_eq_true rfl) ⟨Nat.zero_le _, Nat.zero_le _⟩ d_X11_canBeTraced_20 h (fun r5 M4 h => ?_)
    have hL_M4 : Lay c M4 := hL_M1.to h.1
    replace h := h.2
    refine tw_if_eq 30 d_X11_canBeTraced_23 (by decide) (fun z6 => ?_) (fun z6 => ?_)
    · replace h := h.1 z6
      refine tw_iconst d_X11_canBeTraced_30 k_0 ?_
      exact tw_zret (ty := .boolean) rfl rfl ⟨Nat.zero_le _, Nat.zero_le _⟩ d_X11_canBeTraced_31 h
    · replace h := h.2 z6
      refine tw_iconst d_X11_canBeTraced_26 k_1 ?_
      refine tw_goto 31 d_X11_canBeTraced_27 (by decide) ?_
      exact tw_zret (ty := .boolean) rfl rfl ⟨Nat.zero_le _, Nat.zero_le _⟩ d_X11_canBeTraced_31 h

theorem d_X11_inLowestTerms_0 : decode Y_X11_inLowestTerms.cc 0 = .ok (.lload_n 0, 1) := by decide +kernel
theorem d_X11_inLowestTerms_1 : decode Y_X11_inLowestTerms.cc 1 = .ok (.invokestatic 308, 3) := by decide +kernel
theorem d_X11_inLowestTerms_4 : decode Y_X11_inLowestTerms.cc 4 = .ok (.lload_n 2, 1) := by decide +kernel
theorem d_X11_inLowestTerms_5 : decode Y_X11_inLowestTerms.cc 5 = .ok (.invokestatic 308, 3) := by decide +kernel
theorem d_X11_inLowestTerms_8 : decode Y_X11_inLowestTerms.cc 8 = .ok (.invokestatic 314, 3) := by decide +kernel
theorem d_X11_inLowestTerms_11 : decode Y_X11_inLowestTerms.cc 11 = .ok (.lstore 4, 2) := by decide +kernel
theorem d_X11_inLowestTerms_13 : decode Y_X11_inLowestTerms.cc 13 = .ok (.lload 4, 2) := by decide +kernel
theorem d_X11_inLowestTerms_15 : decode Y_X11_inLowestTerms.cc 15 = .ok (.lconst 0, 1) := by decide +kernel
theorem d_X11_inLowestTerms_16 : decode Y_X11_inLowestTerms.cc 16 = .ok (.lcmp, 1) := by decide +kernel
theorem d_X11_inLowestTerms_17 : decode Y_X11_inLowestTerms.cc 17 = .ok (.ifCond .ne 7, 3) := by decide +kernel
theorem d_X11_inLowestTerms_20 : decode Y_X11_inLowestTerms.cc 20 = .ok (.lload_n 0, 1) := by decide +kernel
theorem d_X11_inLowestTerms_21 : decode Y_X11_inLowestTerms.cc 21 = .ok (.goto 7, 3) := by decide +kernel
theorem d_X11_inLowestTerms_24 : decode Y_X11_inLowestTerms.cc 24 = .ok (.lload_n 0, 1) := by decide +kernel
theorem d_X11_inLowestTerms_25 : decode Y_X11_inLowestTerms.cc 25 = .ok (.lload 4, 2) := by decide +kernel
theorem d_X11_inLowestTerms_27 : decode Y_X11_inLowestTerms.cc 27 = .ok (.ldiv, 1) := by decide +kernel
theorem d_X11_inLowestTerms_28 : decode Y_X11_inLowestTerms.cc 28 = .ok (.lreturn, 1) := by decide +kernel
theorem b_X11_inLowestTerms {G : MG} {d : Nat} {Q : Int64 → Mm → Prop} {y0 : Int64} {y2 : Int64} {M : Mm} {c : Nat} (hL : Lay c M)  (h : (C G Y_X11_commonDivisor d [.long (if 0 < y0 then y0 else -y0), .long (if 0 < y2 then y2 else -y2)] M (Rj fun r2 M1 => M1.2.2 = M.2.2 ∧ ((¬ r2 = 0 → (¬ r2 = 0 ∧ Q (y0 / r2) M1)) ∧ (r2 = 0 → Q y0 M1))))) : C G Y_X11_inLowestTerms (d + 1) [.long y0, .long y2] M (Rj Q) := by
  refine C.of (by decide) (Nat.le_of_ble_eq_true rfl) (lv := [(0, .long y0), (2, .long y2)]) rfl ?_
  refine tw_lload_n 0 d_X11_inLowestTerms_0 rfl rfl ?_
  refine tw_mabs mo_X11_308 (Nat.le_of_ble_eq_true rfl) ⟨Nat.zero_le _, Nat.zero_le _⟩ d_X11_inLowestTerms_1 ?_
  refine tw_lload_n 1 d_X11_inLowestTerms_4 rfl rfl ?_
  refine tw_mabs mo_X11_308 (Nat.le_of_ble_eq_true rfl) ⟨Nat.zero_le _, Nat.zero_le _⟩ d_X11_inLowestTerms_5 ?_
  refine tu_cSJ (As := [.long (if 0 < y0 then y0 else -y0), .long (if 0 < y2 then y2 else -y2)]) cs_X11_314 rfl (Nat.le_of_ble_eq_true rfl) ⟨Nat.zero_le _, Nat.zero_le _⟩ d_X11_inLowestTerms_8 h (fun r2 M1 h => ?_)
  have hL_M1 : Lay c M1 := hL.to h.1
  replace h := h.2
  refine tw_lstore [(4, .long r2), (0, .long y0), (2, .long y2)] d_X11_inLowestTerms_11 (Nat.le_of_ble_eq_true rfl) rfl ?_
  refine tw_lload 0 d_X11_inLowestTerms_13 rfl ?_
  refine tw_lconst (v := 0) d_X11_inLowestTerms_15 rfl ?_
  refine tw_lcmp_ne 24 d_X11_inLowestTerms_16 d_X11_inLowestTerms_17 (by decide) (fun z3 => ?_) (fun z3 => ?_)
  · replace h := h.1 z3
    refine tw_lload_n 1 d_X11_inLowestTerms_24 rfl rfl ?_
    refine tw_lload 0 d_X11_inLowestTerms_25 rfl ?_
    refine tw_ldiv d_X11_inLowestTerms_27 h.1 ?_
    replace h := h.2
    exact tw_lret rfl ⟨Nat.zero_le _, Nat.zero_le _⟩ d_X11_inLowestTerms_28 h
  · replace h := h.2 z3
    refine tw_lload_n 1 d_X11_inLowestTerms_20 rfl rfl ?_
    refine tw_goto 28 d_X11_inLowestTerms_21 (by decide) ?_
    exact tw_lret rfl ⟨Nat.zero_le _, Nat.zero_le _⟩ d_X11_inLowestTerms_28 h

theorem d_X11_commonDivisor_0 : decode Y_X11_commonDivisor.cc 0 = .ok (.lload_n 0, 1) := by decide +kernel
theorem d_X11_commonDivisor_1 : decode Y_X11_commonDivisor.cc 1 = .ok (.lstore 4, 2) := by decide +kernel
theorem d_X11_commonDivisor_3 : decode Y_X11_commonDivisor.cc 3 = .ok (.lload_n 2, 1) := by decide +kernel
theorem d_X11_commonDivisor_4 : decode Y_X11_commonDivisor.cc 4 = .ok (.lstore 6, 2) := by decide +kernel
theorem d_X11_commonDivisor_6 : decode Y_X11_commonDivisor.cc 6 = .ok (.iconst 0, 1) := by decide +kernel
theorem d_X11_commonDivisor_7 : decode Y_X11_commonDivisor.cc 7 = .ok (.istore 8, 2) := by decide +kernel
theorem d_X11_commonDivisor_9 : decode Y_X11_commonDivisor.cc 9 = .ok (.iload 8, 2) := by decide +kernel
theorem d_X11_commonDivisor_11 : decode Y_X11_commonDivisor.cc 11 = .ok (.sipush 200, 3) := by decide +kernel
theorem d_X11_commonDivisor_14 : decode Y_X11_commonDivisor.cc 14 = .ok (.if_icmp .ge 31, 3) := by decide +kernel
theorem d_X11_commonDivisor_17 : decode Y_X11_commonDivisor.cc 17 = .ok (.lload 6, 2) := by decide +kernel
theorem d_X11_commonDivisor_19 : decode Y_X11_commonDivisor.cc 19 = .ok (.lconst 0, 1) := by decide +kernel
theorem d_X11_commonDivisor_20 : decode Y_X11_commonDivisor.cc 20 = .ok (.lcmp, 1) := by decide +kernel
theorem d_X11_commonDivisor_21 : decode Y_X11_commonDivisor.cc 21 = .ok (.ifCond .eq 24, 3) := by decide +kernel
theorem d_X11_commonDivisor_24 : decode Y_X11_commonDivisor.cc 24 = .ok (.lload 4, 2) := by decide +kernel
theorem d_X11_commonDivisor_26 : decode Y_X11_commonDivisor.cc 26 = .ok (.lload 6, 2) := by decide +kernel
theorem d_X11_commonDivisor_28 : decode Y_X11_commonDivisor.cc 28 = .ok (.lrem, 1) := by decide +kernel
theorem d_X11_commonDivisor_29 : decode Y_X11_commonDivisor.cc 29 = .ok (.lstore 9, 2) := by decide +kernel
theorem d_X11_commonDivisor_31 : decode Y_X11_commonDivisor.cc 31 = .ok (.lload 6, 2) := by decide +kernel
theorem d_X11_commonDivisor_33 : decode Y_X11_commonDivisor.cc 33 = .ok (.lstore 4, 2) := by decide +kernel
theorem d_X11_commonDivisor_35 : decode Y_X11_commonDivisor.cc 35 = .ok (.lload 9, 2) := by decide +kernel
theorem d_X11_commonDivisor_37 : decode Y_X11_commonDivisor.cc 37 = .ok (.lstore 6, 2) := by decide +kernel
theorem d_X11_commonDivisor_39 : decode Y_X11_commonDivisor.cc 39 = .ok (.iinc 8 1, 3) := by decide +kernel
theorem d_X11_commonDivisor_42 : decode Y_X11_commonDivisor.cc 42 = .ok (.goto (-33), 3) := by decide +kernel
theorem d_X11_commonDivisor_45 : decode Y_X11_commonDivisor.cc 45 = .ok (.lload 4, 2) := by decide +kernel
theorem d_X11_commonDivisor_47 : decode Y_X11_commonDivisor.cc 47 = .ok (.lreturn, 1) := by decide +kernel
def L_X11_commonDivisor_9 (G : MG) (d : Nat) (Q : Int64 → Mm → Prop) (y4 : Int64) (y6 : Int64) (x8 : Int32) (M : Mm) : Prop := T G Y_X11_commonDivisor (d + 1) (Rj Q) 0 0 9 [(4, .long y4), (6, .long y6), (8, .int x8)] [] M
theorem b_X11_commonDivisor_9 {G : MG} {d : Nat} {Q : Int64 → Mm → Prop} {y4 : Int64} {y6 : Int64} {x8 : Int32} {M : Mm} {c : Nat} (hL : Lay c M)  (h : ((200 ≤ x8 → Q y4 M) ∧ (¬ 200 ≤ x8 → ((y6 = 0 → Q y4 M) ∧ (¬ y6 = 0 → (¬ y6 = 0 ∧ L_X11_commonDivisor_9 G d Q y6 (y4 - y4 / y6 * y6) (x8 + 1) M)))))) : L_X11_commonDivisor_9 G d Q y4 y6 x8 M := by
  unfold L_X11_commonDivisor_9
  refine tw_iload 2 d_X11_commonDivisor_9 rfl ?_
  refine tw_sipush d_X11_commonDivisor_11 ks_200 ?_
  refine tw_icmp_ge 45 d_X11_commonDivisor_14 (by decide) (fun z1 => ?_) (fun z1 => ?_)
  · replace h := h.1 z1
    refine tw_lload 0 d_X11_commonDivisor_45 rfl ?_
    exact tw_lret rfl ⟨Nat.zero_le _, Nat.zero_le _⟩ d_X11_commonDivisor_47 h
  · replace h := h.2 z1
    refine tw_lload 1 d_X11_commonDivisor_17 rfl ?_
    refine tw_lconst (v := 0) d_X11_commonDivisor_19 rfl ?_
    refine tw_lcmp_eq 45 d_X11_commonDivisor_20 d_X11_commonDivisor_21 (by decide) (fun z2 => ?_) (fun z2 => ?_)
    · replace h := h.1 z2
      refine tw_lload 0 d_X11_commonDivisor_45 rfl ?_
      exact tw_lret rfl ⟨Nat.zero_le _, Nat.zero_le _⟩ d_X11_commonDivisor_47 h
    · replace h := h.2 z2
      refine tw_lload 0 d_X11_commonDivisor_24 rfl ?_
      refine tw_lload 1 d_X11_commonDivisor_26 rfl ?_
      refine tw_lrem d_X11_commonDivisor_28 h.1 ?_
      replace h := h.2
      refine tw_lstore [(9, .long (y4 - y4 / y6 * y6)), (4, .long y4), (6, .long y6), (8, .int x8)] d_X11_commonDivisor_29 (Nat.le_of_ble_eq_true rfl) rfl ?_
      refine tw_lload 2 d_X11_commonDivisor_31 rfl ?_
      refine tw_lstore [(4, .long y6), (9, .long (y4 - y4 / y6 * y6)), (6, .long y6), (8, .int x8)] d_X11_commonDivisor_33 (Nat.le_of_ble_eq_true rfl) rfl ?_
      refine tw_lload 1 d_X11_commonDivisor_35 rfl ?_
      refine tw_lstore [(6, .long (y4 - y4 / y6 * y6)), (4, .long y6), (9, .long (y4 - y4 / y6 * y6)), (8, .int x8)] d_X11_commonDivisor_37 (Nat.le_of_ble_eq_true rfl) rfl ?_
      refine tw_iinc 3 [(8, .int (x8 + 1)), (6, .long (y4 - y4 / y6 * y6)), (4, .long y6), (9, .long (y4 - y4 / y6 * y6))] d_X11_commonDivisor_39 rfl rfl (Nat.le_of_ble_eq_true rfl) rfl ?_
      refine tw_goto 9 d_X11_commonDivisor_42 (by decide) ?_
      exact tw_lv [2, 1, 0] rfl h
theorem b_X11_commonDivisor {G : MG} {d : Nat} {Q : Int64 → Mm → Prop} {y0 : Int64} {y2 : Int64} {M : Mm} {c : Nat} (hL : Lay c M)  (h : L_X11_commonDivisor_9 G d Q y0 y2 0 M) : C G Y_X11_commonDivisor (d + 1) [.long y0, .long y2] M (Rj Q) := by
  refine C.of (by decide) (Nat.le_of_ble_eq_true rfl) (lv := [(0, .long y0), (2, .long y2)]) rfl ?_
  refine tw_lload_n 0 d_X11_commonDivisor_0 rfl rfl ?_
  refine tw_lstore [(4, .long y0), (0, .long y0), (2, .long y2)] d_X11_commonDivisor_1 (Nat.le_of_ble_eq_true rfl) rfl ?_
  refine tw_lload_n 2 d_X11_commonDivisor_3 rfl rfl ?_
  refine tw_lstore [(6, .long y2), (4, .long y0), (0, .long y0), (2, .long y2)] d_X11_commonDivisor_4 (Nat.le_of_ble_eq_true rfl) rfl ?_
  refine tw_iconst d_X11_commonDivisor_6 k_0 ?_
  refine tw_istore [(8, .int 0), (6, .long y2), (4, .long y0), (0, .long y0), (2, .long y2)] d_X11_commonDivisor_7 (Nat.le_of_ble_eq_true rfl) rfl ?_
  exact tw_lv [2, 1, 0] rfl h

theorem d_X11_chainProduct_0 : decode Y_X11_chainProduct.cc 0 = .ok (.lconst 1, 1) := by decide +kernel
theorem d_X11_chainProduct_1 : decode Y_X11_chainProduct.cc 1 = .ok (.lstore_n 2, 1) := by decide +kernel
theorem d_X11_chainProduct_2 : decode Y_X11_chainProduct.cc 2 = .ok (.iconst 0, 1) := by decide +kernel
theorem d_X11_chainProduct_3 : decode Y_X11_chainProduct.cc 3 = .ok (.istore 4, 2) := by decide +kernel
theorem d_X11_chainProduct_5 : decode Y_X11_chainProduct.cc 5 = .ok (.iload 4, 2) := by decide +kernel
theorem d_X11_chainProduct_7 : decode Y_X11_chainProduct.cc 7 = .ok (.aload_n 0, 1) := by decide +kernel
theorem d_X11_chainProduct_8 : decode Y_X11_chainProduct.cc 8 = .ok (.getfield 29, 3) := by decide +kernel
theorem d_X11_chainProduct_11 : decode Y_X11_chainProduct.cc 11 = .ok (.getfield 208, 3) := by decide +kernel
theorem d_X11_chainProduct_14 : decode Y_X11_chainProduct.cc 14 = .ok (.if_icmp .ge 25, 3) := by decide +kernel
theorem d_X11_chainProduct_17 : decode Y_X11_chainProduct.cc 17 = .ok (.lload_n 2, 1) := by decide +kernel
theorem d_X11_chainProduct_18 : decode Y_X11_chainProduct.cc 18 = .ok (.aload_n 1, 1) := by decide +kernel
theorem d_X11_chainProduct_19 : decode Y_X11_chainProduct.cc 19 = .ok (.aload_n 0, 1) := by decide +kernel
theorem d_X11_chainProduct_20 : decode Y_X11_chainProduct.cc 20 = .ok (.getfield 29, 3) := by decide +kernel
theorem d_X11_chainProduct_23 : decode Y_X11_chainProduct.cc 23 = .ok (.getfield 214, 3) := by decide +kernel
theorem d_X11_chainProduct_26 : decode Y_X11_chainProduct.cc 26 = .ok (.iload 4, 2) := by decide +kernel
theorem d_X11_chainProduct_28 : decode Y_X11_chainProduct.cc 28 = .ok (.iaload, 1) := by decide +kernel
theorem d_X11_chainProduct_29 : decode Y_X11_chainProduct.cc 29 = .ok (.iaload, 1) := by decide +kernel
theorem d_X11_chainProduct_30 : decode Y_X11_chainProduct.cc 30 = .ok (.i2l, 1) := by decide +kernel
theorem d_X11_chainProduct_31 : decode Y_X11_chainProduct.cc 31 = .ok (.lmul, 1) := by decide +kernel
theorem d_X11_chainProduct_32 : decode Y_X11_chainProduct.cc 32 = .ok (.lstore_n 2, 1) := by decide +kernel
theorem d_X11_chainProduct_33 : decode Y_X11_chainProduct.cc 33 = .ok (.iinc 4 1, 3) := by decide +kernel
theorem d_X11_chainProduct_36 : decode Y_X11_chainProduct.cc 36 = .ok (.goto (-31), 3) := by decide +kernel
theorem d_X11_chainProduct_39 : decode Y_X11_chainProduct.cc 39 = .ok (.lload_n 2, 1) := by decide +kernel
theorem d_X11_chainProduct_40 : decode Y_X11_chainProduct.cc 40 = .ok (.lreturn, 1) := by decide +kernel
def L_X11_chainProduct_5 (G : MG) (d : Nat) (Q : Int64 → Mm → Prop) (o1 : Nat) (y2 : Int64) (x4 : Int32) (M : Mm) : Prop := T G Y_X11_chainProduct (d + 1) (Rj Q) 0 0 5 [(0, .ref (G.b + 0)), (1, .ref (G.b + o1)), (2, .long y2), (4, .int x4)] [] M
theorem b_X11_chainProduct_5 {G : MG} {d : Nat} {Q : Int64 → Mm → Prop} {o1 : Nat} {y2 : Int64} {x4 : Int32} {M : Mm} {c : Nat} (hL : Lay c M) {n1 : Nat} (ho1 : sh o1 = some (.inl (0, n1))) (h : (((M.1 75 7) ≤ x4 → Q y2 M) ∧ (¬ (M.1 75 7) ≤ x4 → (vp_in x4 4 ∧ (vp_in (M.1 82 x4.toNatClampNeg) n1 ∧ ∀ v2 : Int64, v2 = (y2 * ((M.1 o1 (M.1 82 x4.toNatClampNeg).toNatClampNeg).toInt64)) → L_X11_chainProduct_5 G d Q o1 v2 (x4 + 1) M))))) : L_X11_chainProduct_5 G d Q o1 y2 x4 M := by
  unfold L_X11_chainProduct_5
  refine tw_iload 3 d_X11_chainProduct_5 rfl ?_
  refine tw_aload_n 0 d_X11_chainProduct_7 rfl rfl ?_
  refine tw_getR f_X11_29 hL s_0 ⟨rfl, rfl⟩ (rr_X11_3 s_0) d_X11_chainProduct_8 ?_
  refine tw_getI f_X11_208 hL s_75 (Or.inl rfl) d_X11_chainProduct_11 ?_
  refine tw_icmp_ge 39 d_X11_chainProduct_14 (by decide) (fun z1 => ?_) (fun z1 => ?_)
  · replace h := h.1 z1
    refine tw_lload_n 2 d_X11_chainProduct_39 rfl rfl ?_
    exact tw_lret rfl ⟨Nat.zero_le _, Nat.zero_le _⟩ d_X11_chainProduct_40 h
  · replace h := h.2 z1
    refine tw_lload_n 2 d_X11_chainProduct_17 rfl rfl ?_
    refine tw_aload_n 1 d_X11_chainProduct_18 rfl rfl ?_
    refine tw_aload_n 0 d_X11_chainProduct_19 rfl rfl ?_
    refine tw_getR f_X11_29 hL s_0 ⟨rfl, rfl⟩ (rr_X11_3 s_0) d_X11_chainProduct_20 ?_
    refine tw_getR f_X11_214 hL s_75 ⟨rfl, rfl⟩ (rr_X7_6 s_75) d_X11_chainProduct_23 ?_
    refine tw_iload 3 d_X11_chainProduct_26 rfl ?_
    refine tw_iald hL s_82 d_X11_chainProduct_28 h.1 ?_
    replace h := h.2
    refine tw_iald hL ho1 d_X11_chainProduct_29 h.1 ?_
    replace h := h.2
    refine tw_i2l d_X11_chainProduct_30 ?_
    refine tw_lmul d_X11_chainProduct_31 ?_
    refine tw_nmJ (fun v2 e_v2 => ?_)
    replace h := h v2 e_v2
    refine tw_lstore_n [(2, .long v2), (0, .ref (G.b + 0)), (1, .ref (G.b + o1)), (4, .int x4)] d_X11_chainProduct_32 rfl (Nat.le_of_ble_eq_true rfl) rfl ?_
    refine tw_iinc 3 [(4, .int (x4 + 1)), (2, .long v2), (0, .ref (G.b + 0)), (1, .ref (G.b + o1))] d_X11_chainProduct_33 rfl rfl (Nat.le_of_ble_eq_true rfl) rfl ?_
    refine tw_goto 5 d_X11_chainProduct_36 (by decide) ?_
    exact tw_lv [2, 3, 1, 0] rfl h
theorem b_X11_chainProduct {G : MG} {d : Nat} {Q : Int64 → Mm → Prop} {o1 : Nat} {n1 : Nat} {M : Mm} {c : Nat} (hL : Lay c M) (ho1 : sh o1 = some (.inl (0, n1))) (h : L_X11_chainProduct_5 G d Q o1 1 0 M) : C G Y_X11_chainProduct (d + 1) [.ref (G.b + 0), .ref (G.b + o1)] M (Rj Q) := by
  refine C.of (by decide) (Nat.le_of_ble_eq_true rfl) (lv := [(0, .ref (G.b + 0)), (1, .ref (G.b + o1))]) rfl ?_
  refine tw_lconst (v := 1) d_X11_chainProduct_0 rfl ?_
  refine tw_lstore_n [(2, .long 1), (0, .ref (G.b + 0)), (1, .ref (G.b + o1))] d_X11_chainProduct_1 rfl (Nat.le_of_ble_eq_true rfl) rfl ?_
  refine tw_iconst d_X11_chainProduct_2 k_0 ?_
  refine tw_istore [(4, .int 0), (2, .long 1), (0, .ref (G.b + 0)), (1, .ref (G.b + o1))] d_X11_chainProduct_3 (Nat.le_of_ble_eq_true rfl) rfl ?_
  exact tw_lv [2, 3, 1, 0] rfl h

theorem d_X11_chainQuarters_0 : decode Y_X11_chainQuarters.cc 0 = .ok (.iconst 0, 1) := by decide +kernel
theorem d_X11_chainQuarters_1 : decode Y_X11_chainQuarters.cc 1 = .ok (.istore_n 1, 1) := by decide +kernel
theorem d_X11_chainQuarters_2 : decode Y_X11_chainQuarters.cc 2 = .ok (.iconst 0, 1) := by decide +kernel
theorem d_X11_chainQuarters_3 : decode Y_X11_chainQuarters.cc 3 = .ok (.istore_n 2, 1) := by decide +kernel
theorem d_X11_chainQuarters_4 : decode Y_X11_chainQuarters.cc 4 = .ok (.iload_n 2, 1) := by decide +kernel
theorem d_X11_chainQuarters_5 : decode Y_X11_chainQuarters.cc 5 = .ok (.aload_n 0, 1) := by decide +kernel
theorem d_X11_chainQuarters_6 : decode Y_X11_chainQuarters.cc 6 = .ok (.getfield 29, 3) := by decide +kernel
theorem d_X11_chainQuarters_9 : decode Y_X11_chainQuarters.cc 9 = .ok (.getfield 208, 3) := by decide +kernel
theorem d_X11_chainQuarters_12 : decode Y_X11_chainQuarters.cc 12 = .ok (.if_icmp .ge 29, 3) := by decide +kernel
theorem d_X11_chainQuarters_15 : decode Y_X11_chainQuarters.cc 15 = .ok (.iload_n 1, 1) := by decide +kernel
theorem d_X11_chainQuarters_16 : decode Y_X11_chainQuarters.cc 16 = .ok (.aload_n 0, 1) := by decide +kernel
theorem d_X11_chainQuarters_17 : decode Y_X11_chainQuarters.cc 17 = .ok (.getfield 29, 3) := by decide +kernel
theorem d_X11_chainQuarters_20 : decode Y_X11_chainQuarters.cc 20 = .ok (.getfield 118, 3) := by decide +kernel
theorem d_X11_chainQuarters_23 : decode Y_X11_chainQuarters.cc 23 = .ok (.aload_n 0, 1) := by decide +kernel
theorem d_X11_chainQuarters_24 : decode Y_X11_chainQuarters.cc 24 = .ok (.getfield 29, 3) := by decide +kernel
theorem d_X11_chainQuarters_27 : decode Y_X11_chainQuarters.cc 27 = .ok (.getfield 214, 3) := by decide +kernel
theorem d_X11_chainQuarters_30 : decode Y_X11_chainQuarters.cc 30 = .ok (.iload_n 2, 1) := by decide +kernel
theorem d_X11_chainQuarters_31 : decode Y_X11_chainQuarters.cc 31 = .ok (.iaload, 1) := by decide +kernel
theorem d_X11_chainQuarters_32 : decode Y_X11_chainQuarters.cc 32 = .ok (.iaload, 1) := by decide +kernel
theorem d_X11_chainQuarters_33 : decode Y_X11_chainQuarters.cc 33 = .ok (.iadd, 1) := by decide +kernel
theorem d_X11_chainQuarters_34 : decode Y_X11_chainQuarters.cc 34 = .ok (.istore_n 1, 1) := by decide +kernel
theorem d_X11_chainQuarters_35 : decode Y_X11_chainQuarters.cc 35 = .ok (.iinc 2 1, 3) := by decide +kernel
theorem d_X11_chainQuarters_38 : decode Y_X11_chainQuarters.cc 38 = .ok (.goto (-34), 3) := by decide +kernel
theorem d_X11_chainQuarters_41 : decode Y_X11_chainQuarters.cc 41 = .ok (.iload_n 1, 1) := by decide +kernel
theorem d_X11_chainQuarters_42 : decode Y_X11_chainQuarters.cc 42 = .ok (.iconst 4, 1) := by decide +kernel
theorem d_X11_chainQuarters_43 : decode Y_X11_chainQuarters.cc 43 = .ok (.irem, 1) := by decide +kernel
theorem d_X11_chainQuarters_44 : decode Y_X11_chainQuarters.cc 44 = .ok (.ireturn, 1) := by decide +kernel
def L_X11_chainQuarters_4 (G : MG) (d : Nat) (Q : Int32 → Mm → Prop) (x1 : Int32) (x2 : Int32) (M : Mm) : Prop := T G Y_X11_chainQuarters (d + 1) (Ri Q) 0 0 4 [(0, .ref (G.b + 0)), (1, .int x1), (2, .int x2)] [] M
theorem b_X11_chainQuarters_4 {G : MG} {d : Nat} {Q : Int32 → Mm → Prop} {x1 : Int32} {x2 : Int32} {M : Mm} {c : Nat} (hL : Lay c M)  (h : (((M.1 75 7) ≤ x2 → Q (x1 - x1 / 4 * 4) M) ∧ (¬ (M.1 75 7) ≤ x2 → (vp_in x2 4 ∧ (vp_in (M.1 82 x2.toNatClampNeg) 6 ∧ L_X11_chainQuarters_4 G d Q (x1 + (M.1 78 (M.1 82 x2.toNatClampNeg).toNatClampNeg)) (x2 + 1) M))))) : L_X11_chainQuarters_4 G d Q x1 x2 M := by
  unfold L_X11_chainQuarters_4
  refine tw_iload_n 2 d_X11_chainQuarters_4 rfl rfl ?_
  refine tw_aload_n 0 d_X11_chainQuarters_5 rfl rfl ?_
  refine tw_getR f_X11_29 hL s_0 ⟨rfl, rfl⟩ (rr_X11_3 s_0) d_X11_chainQuarters_6 ?_
  refine tw_getI f_X11_208 hL s_75 (Or.inl rfl) d_X11_chainQuarters_9 ?_
  refine tw_icmp_ge 41 d_X11_chainQuarters_12 (by decide) (fun z1 => ?_) (fun z1 => ?_)
  · replace h := h.1 z1
    refine tw_iload_n 1 d_X11_chainQuarters_41 rfl rfl ?_
    refine tw_iconst d_X11_chainQuarters_42 k_4 ?_
    refine tw_irem d_X11_chainQuarters_43 (by decide) ?_
    exact tw_iret rfl ⟨Nat.zero_le _, Nat.zero_le _⟩ d_X11_chainQuarters_44 h
  · replace h := h.2 z1
    refine tw_iload_n 1 d_X11_chainQuarters_15 rfl rfl ?_
    refine tw_aload_n 0 d_X11_chainQuarters_16 rfl rfl ?_
    refine tw_getR f_X11_29 hL s_0 ⟨rfl, rfl⟩ (rr_X11_3 s_0) d_X11_chainQuarters_17 ?_
    refine tw_getR f_X11_118 hL s_75 ⟨rfl, rfl⟩ (rr_X7_2 s_75) d_X11_chainQuarters_20 ?_
    refine tw_aload_n 0 d_X11_chainQuarters_23 rfl rfl ?_
    refine tw_getR f_X11_29 hL s_0 ⟨rfl, rfl⟩ (rr_X11_3 s_0) d_X11_chainQuarters_24 ?_
    refine tw_getR f_X11_214 hL s_75 ⟨rfl, rfl⟩ (rr_X7_6 s_75) d_X11_chainQuarters_27 ?_
    refine tw_iload_n 2 d_X11_chainQuarters_30 rfl rfl ?_
    refine tw_iald hL s_82 d_X11_chainQuarters_31 h.1 ?_
    replace h := h.2
    refine tw_iald hL s_78 d_X11_chainQuarters_32 h.1 ?_
    replace h := h.2
    refine tw_iadd d_X11_chainQuarters_33 ?_
    refine tw_istore_n [(1, .int (x1 + (M.1 78 (M.1 82 x2.toNatClampNeg).toNatClampNeg))), (0, .ref (G.b + 0)), (2, .int x2)] d_X11_chainQuarters_34 rfl (Nat.le_of_ble_eq_true rfl) rfl ?_
    refine tw_iinc 2 [(2, .int (x2 + 1)), (1, .int (x1 + (M.1 78 (M.1 82 x2.toNatClampNeg).toNatClampNeg))), (0, .ref (G.b + 0))] d_X11_chainQuarters_35 rfl rfl (Nat.le_of_ble_eq_true rfl) rfl ?_
    refine tw_goto 4 d_X11_chainQuarters_38 (by decide) ?_
    exact tw_lv [2, 1, 0] rfl h
theorem b_X11_chainQuarters {G : MG} {d : Nat} {Q : Int32 → Mm → Prop}  {M : Mm} {c : Nat} (hL : Lay c M)  (h : L_X11_chainQuarters_4 G d Q 0 0 M) : C G Y_X11_chainQuarters (d + 1) [.ref (G.b + 0)] M (Ri Q) := by
  refine C.of (by decide) (Nat.le_of_ble_eq_true rfl) (lv := [(0, .ref (G.b + 0))]) rfl ?_
  refine tw_iconst d_X11_chainQuarters_0 k_0 ?_
  refine tw_istore_n [(1, .int 0), (0, .ref (G.b + 0))] d_X11_chainQuarters_1 rfl (Nat.le_of_ble_eq_true rfl) rfl ?_
  refine tw_iconst d_X11_chainQuarters_2 k_0 ?_
  refine tw_istore_n [(2, .int 0), (1, .int 0), (0, .ref (G.b + 0))] d_X11_chainQuarters_3 rfl (Nat.le_of_ble_eq_true rfl) rfl ?_
  exact tw_lv [2, 1, 0] rfl h

theorem d_X11_chainMirrors_0 : decode Y_X11_chainMirrors.cc 0 = .ok (.iconst 0, 1) := by decide +kernel
theorem d_X11_chainMirrors_1 : decode Y_X11_chainMirrors.cc 1 = .ok (.istore_n 1, 1) := by decide +kernel
theorem d_X11_chainMirrors_2 : decode Y_X11_chainMirrors.cc 2 = .ok (.iconst 0, 1) := by decide +kernel
theorem d_X11_chainMirrors_3 : decode Y_X11_chainMirrors.cc 3 = .ok (.istore_n 2, 1) := by decide +kernel
theorem d_X11_chainMirrors_4 : decode Y_X11_chainMirrors.cc 4 = .ok (.iload_n 2, 1) := by decide +kernel
theorem d_X11_chainMirrors_5 : decode Y_X11_chainMirrors.cc 5 = .ok (.aload_n 0, 1) := by decide +kernel
theorem d_X11_chainMirrors_6 : decode Y_X11_chainMirrors.cc 6 = .ok (.getfield 29, 3) := by decide +kernel
theorem d_X11_chainMirrors_9 : decode Y_X11_chainMirrors.cc 9 = .ok (.getfield 208, 3) := by decide +kernel
theorem d_X11_chainMirrors_12 : decode Y_X11_chainMirrors.cc 12 = .ok (.if_icmp .ge 36, 3) := by decide +kernel
theorem d_X11_chainMirrors_15 : decode Y_X11_chainMirrors.cc 15 = .ok (.aload_n 0, 1) := by decide +kernel
theorem d_X11_chainMirrors_16 : decode Y_X11_chainMirrors.cc 16 = .ok (.getfield 19, 3) := by decide +kernel
theorem d_X11_chainMirrors_19 : decode Y_X11_chainMirrors.cc 19 = .ok (.getfield 102, 3) := by decide +kernel
theorem d_X11_chainMirrors_22 : decode Y_X11_chainMirrors.cc 22 = .ok (.aload_n 0, 1) := by decide +kernel
theorem d_X11_chainMirrors_23 : decode Y_X11_chainMirrors.cc 23 = .ok (.getfield 29, 3) := by decide +kernel
theorem d_X11_chainMirrors_26 : decode Y_X11_chainMirrors.cc 26 = .ok (.getfield 214, 3) := by decide +kernel
theorem d_X11_chainMirrors_29 : decode Y_X11_chainMirrors.cc 29 = .ok (.iload_n 2, 1) := by decide +kernel
theorem d_X11_chainMirrors_30 : decode Y_X11_chainMirrors.cc 30 = .ok (.iaload, 1) := by decide +kernel
theorem d_X11_chainMirrors_31 : decode Y_X11_chainMirrors.cc 31 = .ok (.aaload, 1) := by decide +kernel
theorem d_X11_chainMirrors_32 : decode Y_X11_chainMirrors.cc 32 = .ok (.getfield 106, 3) := by decide +kernel
theorem d_X11_chainMirrors_35 : decode Y_X11_chainMirrors.cc 35 = .ok (.iconst 1, 1) := by decide +kernel
theorem d_X11_chainMirrors_36 : decode Y_X11_chainMirrors.cc 36 = .ok (.if_icmp .ne 6, 3) := by decide +kernel
theorem d_X11_chainMirrors_39 : decode Y_X11_chainMirrors.cc 39 = .ok (.iinc 1 1, 3) := by decide +kernel
theorem d_X11_chainMirrors_42 : decode Y_X11_chainMirrors.cc 42 = .ok (.iinc 2 1, 3) := by decide +kernel
theorem d_X11_chainMirrors_45 : decode Y_X11_chainMirrors.cc 45 = .ok (.goto (-41), 3) := by decide +kernel
theorem d_X11_chainMirrors_48 : decode Y_X11_chainMirrors.cc 48 = .ok (.iload_n 1, 1) := by decide +kernel
theorem d_X11_chainMirrors_49 : decode Y_X11_chainMirrors.cc 49 = .ok (.ireturn, 1) := by decide +kernel
def L_X11_chainMirrors_4 (G : MG) (d : Nat) (Q : Int32 → Mm → Prop) (x1 : Int32) (x2 : Int32) (M : Mm) : Prop := T G Y_X11_chainMirrors (d + 1) (Ri Q) 0 0 4 [(0, .ref (G.b + 0)), (1, .int x1), (2, .int x2)] [] M
theorem b_X11_chainMirrors_4 {G : MG} {d : Nat} {Q : Int32 → Mm → Prop} {x1 : Int32} {x2 : Int32} {M : Mm} {c : Nat} (hL : Lay c M) (hc : c = 3 ∨ c = 39)  (h : (((M.1 75 7) ≤ x2 → Q x1 M) ∧ (¬ (M.1 75 7) ≤ x2 → (vp_in x2 4 ∧ (vp_in (M.1 82 x2.toNatClampNeg) 6 ∧ ((¬ (M.1 ((c + 1) + 2 + 2 * (M.1 82 x2.toNatClampNeg).toNatClampNeg) 1) = 1 → L_X11_chainMirrors_4 G d Q x1 (x2 + 1) M) ∧ ((M.1 ((c + 1) + 2 + 2 * (M.1 82 x2.toNatClampNeg).toNatClampNeg) 1) = 1 → L_X11_chainMirrors_4 G d Q (x1 + 1) (x2 + 1) M))))))) : L_X11_chainMirrors_4 G d Q x1 x2 M := by
  unfold L_X11_chainMirrors_4
  refine tw_iload_n 2 d_X11_chainMirrors_4 rfl rfl ?_
  refine tw_aload_n 0 d_X11_chainMirrors_5 rfl rfl ?_
  refine tw_getR f_X11_29 hL s_0 ⟨rfl, rfl⟩ (rr_X11_3 s_0) d_X11_chainMirrors_6 ?_
  refine tw_getI f_X11_208 hL s_75 (Or.inl rfl) d_X11_chainMirrors_9 ?_
  refine tw_icmp_ge 48 d_X11_chainMirrors_12 (by decide) (fun z1 => ?_) (fun z1 => ?_)
  · replace h := h.1 z1
    refine tw_iload_n 1 d_X11_chainMirrors_48 rfl rfl ?_
    exact tw_iret rfl ⟨Nat.zero_le _, Nat.zero_le _⟩ d_X11_chainMirrors_49 h
  · replace h := h.2 z1
    refine tw_aload_n 0 d_X11_chainMirrors_15 rfl rfl ?_
    refine tw_getR f_X11_19 hL s_0 ⟨rfl, rfl⟩ (rr_X11_1 s_0) d_X11_chainMirrors_16 ?_
    refine tw_getR f_X11_102 hL (shc hc) ⟨rfl, rfl⟩ (rr_X5_0 (shc hc)) d_X11_chainMirrors_19 ?_
    refine tw_aload_n 0 d_X11_chainMirrors_22 rfl rfl ?_
    refine tw_getR f_X11_29 hL s_0 ⟨rfl, rfl⟩ (rr_X11_3 s_0) d_X11_chainMirrors_23 ?_
    refine tw_getR f_X11_214 hL s_75 ⟨rfl, rfl⟩ (rr_X7_6 s_75) d_X11_chainMirrors_26 ?_
    refine tw_iload_n 2 d_X11_chainMirrors_29 rfl rfl ?_
    refine tw_iald hL s_82 d_X11_chainMirrors_30 h.1 ?_
    replace h := h.2
    have hin := h.1
    refine tw_aald hL (sr_X5_0 (shc hc)) (by decide) (re_4 (sr_X5_0 (shc hc))) d_X11_chainMirrors_31 h.1 ?_
    have hs2 := se_4 (sr_X5_0 (shc hc)) (vp_lt h.1)
    replace h := h.2
    refine tw_getI f_X11_106 hL hs2 (Or.inl rfl) d_X11_chainMirrors_32 ?_
    refine tw_iconst d_X11_chainMirrors_35 k_1 ?_
    refine tw_icmp_ne 42 d_X11_chainMirrors_36 (by decide) (fun z3 => ?_) (fun z3 => ?_)
    · replace h := h.1 z3
      refine tw_iinc 2 [(2, .int (x2 + 1)), (0, .ref (G.b + 0)), (1, .int x1)] d_X11_chainMirrors_42 rfl rfl (Nat.le_of_ble_eq_true rfl) rfl ?_
      refine tw_goto 4 d_X11_chainMirrors_45 (by decide) ?_
      exact tw_lv [1, 2, 0] rfl h
    · replace h := h.2 z3
      refine tw_iinc 1 [(1, .int (x1 + 1)), (0, .ref (G.b + 0)), (2, .int x2)] d_X11_chainMirrors_39 rfl rfl (Nat.le_of_ble_eq_true rfl) rfl ?_
      refine tw_iinc 2 [(2, .int (x2 + 1)), (1, .int (x1 + 1)), (0, .ref (G.b + 0))] d_X11_chainMirrors_42 rfl rfl (Nat.le_of_ble_eq_true rfl) rfl ?_
      refine tw_goto 4 d_X11_chainMirrors_45 (by decide) ?_
      exact tw_lv [2, 1, 0] rfl h
theorem b_X11_chainMirrors {G : MG} {d : Nat} {Q : Int32 → Mm → Prop}  {M : Mm} {c : Nat} (hL : Lay c M) (hc : c = 3 ∨ c = 39)  (h : L_X11_chainMirrors_4 G d Q 0 0 M) : C G Y_X11_chainMirrors (d + 1) [.ref (G.b + 0)] M (Ri Q) := by
  refine C.of (by decide) (Nat.le_of_ble_eq_true rfl) (lv := [(0, .ref (G.b + 0))]) rfl ?_
  refine tw_iconst d_X11_chainMirrors_0 k_0 ?_
  refine tw_istore_n [(1, .int 0), (0, .ref (G.b + 0))] d_X11_chainMirrors_1 rfl (Nat.le_of_ble_eq_true rfl) rfl ?_
  refine tw_iconst d_X11_chainMirrors_2 k_0 ?_
  refine tw_istore_n [(2, .int 0), (1, .int 0), (0, .ref (G.b + 0))] d_X11_chainMirrors_3 rfl (Nat.le_of_ble_eq_true rfl) rfl ?_
  exact tw_lv [2, 1, 0] rfl h

theorem d_X11_passChain_0 : decode Y_X11_passChain.cc 0 = .ok (.aload_n 0, 1) := by decide +kernel
theorem d_X11_passChain_1 : decode Y_X11_passChain.cc 1 = .ok (.getfield 44, 3) := by decide +kernel
theorem d_X11_passChain_4 : decode Y_X11_passChain.cc 4 = .ok (.iload_n 1, 1) := by decide +kernel
theorem d_X11_passChain_5 : decode Y_X11_passChain.cc 5 = .ok (.iload_n 2, 1) := by decide +kernel
theorem d_X11_passChain_6 : decode Y_X11_passChain.cc 6 = .ok (.invokevirtual 191, 3) := by decide +kernel
theorem d_X11_passChain_9 : decode Y_X11_passChain.cc 9 = .ok (.iconst 0, 1) := by decide +kernel
theorem d_X11_passChain_10 : decode Y_X11_passChain.cc 10 = .ok (.istore_n 3, 1) := by decide +kernel
theorem d_X11_passChain_11 : decode Y_X11_passChain.cc 11 = .ok (.iload_n 3, 1) := by decide +kernel
theorem d_X11_passChain_12 : decode Y_X11_passChain.cc 12 = .ok (.aload_n 0, 1) := by decide +kernel
theorem d_X11_passChain_13 : decode Y_X11_passChain.cc 13 = .ok (.getfield 29, 3) := by decide +kernel
theorem d_X11_passChain_16 : decode Y_X11_passChain.cc 16 = .ok (.getfield 208, 3) := by decide +kernel
theorem d_X11_passChain_19 : decode Y_X11_passChain.cc 19 = .ok (.if_icmp .ge 69, 3) := by decide +kernel
theorem d_X11_passChain_22 : decode Y_X11_passChain.cc 22 = .ok (.aload_n 0, 1) := by decide +kernel
theorem d_X11_passChain_23 : decode Y_X11_passChain.cc 23 = .ok (.getfield 29, 3) := by decide +kernel
theorem d_X11_passChain_26 : decode Y_X11_passChain.cc 26 = .ok (.getfield 214, 3) := by decide +kernel
theorem d_X11_passChain_29 : decode Y_X11_passChain.cc 29 = .ok (.iload_n 3, 1) := by decide +kernel
theorem d_X11_passChain_30 : decode Y_X11_passChain.cc 30 = .ok (.iaload, 1) := by decide +kernel
theorem d_X11_passChain_31 : decode Y_X11_passChain.cc 31 = .ok (.istore 4, 2) := by decide +kernel
theorem d_X11_passChain_33 : decode Y_X11_passChain.cc 33 = .ok (.aload_n 0, 1) := by decide +kernel
theorem d_X11_passChain_34 : decode Y_X11_passChain.cc 34 = .ok (.getfield 44, 3) := by decide +kernel
theorem d_X11_passChain_37 : decode Y_X11_passChain.cc 37 = .ok (.aload_n 0, 1) := by decide +kernel
theorem d_X11_passChain_38 : decode Y_X11_passChain.cc 38 = .ok (.getfield 19, 3) := by decide +kernel
theorem d_X11_passChain_41 : decode Y_X11_passChain.cc 41 = .ok (.aload_n 0, 1) := by decide +kernel
theorem d_X11_passChain_42 : decode Y_X11_passChain.cc 42 = .ok (.getfield 29, 3) := by decide +kernel
theorem d_X11_passChain_45 : decode Y_X11_passChain.cc 45 = .ok (.iload 4, 2) := by decide +kernel
theorem d_X11_passChain_47 : decode Y_X11_passChain.cc 47 = .ok (.invokevirtual 194, 3) := by decide +kernel
theorem d_X11_passChain_50 : decode Y_X11_passChain.cc 50 = .ok (.ifCond .eq 5, 3) := by decide +kernel
theorem d_X11_passChain_53 : decode Y_X11_passChain.cc 53 = .ok (.iconst 0, 1) := by decide +kernel
theorem d_X11_passChain_54 : decode Y_X11_passChain.cc 54 = .ok (.ireturn, 1) := by decide +kernel
theorem d_X11_passChain_55 : decode Y_X11_passChain.cc 55 = .ok (.aload_n 0, 1) := by decide +kernel
theorem d_X11_passChain_56 : decode Y_X11_passChain.cc 56 = .ok (.getfield 44, 3) := by decide +kernel
theorem d_X11_passChain_59 : decode Y_X11_passChain.cc 59 = .ok (.aload_n 0, 1) := by decide +kernel
theorem d_X11_passChain_60 : decode Y_X11_passChain.cc 60 = .ok (.getfield 19, 3) := by decide +kernel
theorem d_X11_passChain_63 : decode Y_X11_passChain.cc 63 = .ok (.aload_n 0, 1) := by decide +kernel
theorem d_X11_passChain_64 : decode Y_X11_passChain.cc 64 = .ok (.getfield 29, 3) := by decide +kernel
theorem d_X11_passChain_67 : decode Y_X11_passChain.cc 67 = .ok (.iload 4, 2) := by decide +kernel
theorem d_X11_passChain_69 : decode Y_X11_passChain.cc 69 = .ok (.aload_n 0, 1) := by decide +kernel
theorem d_X11_passChain_70 : decode Y_X11_passChain.cc 70 = .ok (.getfield 29, 3) := by decide +kernel
theorem d_X11_passChain_73 : decode Y_X11_passChain.cc 73 = .ok (.getfield 133, 3) := by decide +kernel
theorem d_X11_passChain_76 : decode Y_X11_passChain.cc 76 = .ok (.iload 4, 2) := by decide +kernel
theorem d_X11_passChain_78 : decode Y_X11_passChain.cc 78 = .ok (.iaload, 1) := by decide +kernel
theorem d_X11_passChain_79 : decode Y_X11_passChain.cc 79 = .ok (.invokevirtual 200, 3) := by decide +kernel
theorem d_X11_passChain_82 : decode Y_X11_passChain.cc 82 = .ok (.iinc 3 1, 3) := by decide +kernel
theorem d_X11_passChain_85 : decode Y_X11_passChain.cc 85 = .ok (.goto (-74), 3) := by decide +kernel
theorem d_X11_passChain_88 : decode Y_X11_passChain.cc 88 = .ok (.iconst 1, 1) := by decide +kernel
theorem d_X11_passChain_89 : decode Y_X11_passChain.cc 89 = .ok (.ireturn, 1) := by decide +kernel
def L_X11_passChain_11 (G : MG) (d : Nat) (Q : Int32 → Mm → Prop) (x3 : Int32) (M : Mm) : Prop := T G Y_X11_passChain (d + 1) (Ri Q) 0 0 11 [(0, .ref (G.b + 0)), (3, .int x3)] [] M
theorem b_X11_passChain_11 {G : MG} {d : Nat} {Q : Int32 → Mm → Prop} {x3 : Int32} {M : Mm} {c : Nat} (hL : Lay c M) (hc : c = 3 ∨ c = 39)  (h : (((M.1 75 7) ≤ x3 → Q 1 M) ∧ (¬ (M.1 75 7) ≤ x3 → (vp_in x3 4 ∧ (C G Y_X9_isOut d [.ref (G.b + 126), .ref (G.b + c), .ref (G.b + 75), .int (M.1 82 x3.toNatClampNeg)] M (Ri fun r3 M2 => M2.2.2 = M.2.2 ∧ ((r3 = 0 → (vp_in (M.1 82 x3.toNatClampNeg) 6 ∧ (C G Y_X9_copyBy d [.ref (G.b + 126), .ref (G.b + c), .ref (G.b + 75), .int (M.1 82 x3.toNatClampNeg), .int (M2.1 81 (M.1 82 x3.toNatClampNeg).toNatClampNeg)] M2 (Rv fun M5 => M5.2.2 = M2.2.2 ∧ L_X11_passChain_11 G d Q (x3 + 1) M5)))) ∧ (¬ r3 = 0 → Q 0 M2)))))))) : L_X11_passChain_11 G d Q x3 M := by
  unfold L_X11_passChain_11
  refine tw_iload_n 1 d_X11_passChain_11 rfl rfl ?_
  refine tw_aload_n 0 d_X11_passChain_12 rfl rfl ?_
  refine tw_getR f_X11_29 hL s_0 ⟨rfl, rfl⟩ (rr_X11_3 s_0) d_X11_passChain_13 ?_
  refine tw_getI f_X11_208 hL s_75 (Or.inl rfl) d_X11_passChain_16 ?_
  refine tw_icmp_ge 88 d_X11_passChain_19 (by decide) (fun z1 => ?_) (fun z1 => ?_)
  · replace h := h.1 z1
    refine tw_iconst d_X11_passChain_88 k_1 ?_
    exact tw_zret (ty := .boolean) rfl rfl ⟨Nat.zero_le _, Nat.zero_le _⟩ d_X11_passChain_89 h
  · replace h := h.2 z1
    refine tw_aload_n 0 d_X11_passChain_22 rfl rfl ?_
    refine tw_getR f_X11_29 hL s_0 ⟨rfl, rfl⟩ (rr_X11_3 s_0) d_X11_passChain_23 ?_
    refine tw_getR f_X11_214 hL s_75 ⟨rfl, rfl⟩ (rr_X7_6 s_75) d_X11_passChain_26 ?_
    refine tw_iload_n 1 d_X11_passChain_29 rfl rfl ?_
    refine tw_iald hL s_82 d_X11_passChain_30 h.1 ?_
    replace h := h.2
    refine tw_istore [(4, .int (M.1 82 x3.toNatClampNeg)), (0, .ref (G.b + 0)), (3, .int x3)] d_X11_passChain_31 (Nat.le_of_ble_eq_true rfl) rfl ?_
    refine tw_aload_n 1 d_X11_passChain_33 rfl rfl ?_
    refine tw_getR f_X11_44 hL s_0 ⟨rfl, rfl⟩ (rr_X11_6 s_0) d_X11_passChain_34 ?_
    refine tw_aload_n 1 d_X11_passChain_37 rfl rfl ?_
    refine tw_getR f_X11_19 hL s_0 ⟨rfl, rfl⟩ (rr_X11_1 s_0) d_X11_passChain_38 ?_
    refine tw_aload_n 1 d_X11_passChain_41 rfl rfl ?_
    refine tw_getR f_X11_29 hL s_0 ⟨rfl, rfl⟩ (rr_X11_3 s_0) d_X11_passChain_42 ?_
    refine tw_iload 0 d_X11_passChain_45 rfl ?_
    refine tu_cVi (As := [.ref (G.b + c), .ref (G.b + 75), .int (M.1 82 x3.toNatClampNeg)]) cv_X11_194 hL s_126 rfl (Nat.le_of_ble_eq_true rfl) ⟨Nat.zero_le _, Nat.zero_le _⟩ d_X11_passChain_47 h (fun r3 M2 h => ?_)
    have hL_M2 : Lay c M2 := hL.to h.1
    replace h := h.2
    refine tw_if_eq 55 d_X11_passChain_50 (by decide) (fun z4 => ?_) (fun z4 => ?_)
    · replace h := h.1 z4
      refine tw_aload_n 1 d_X11_passChain_55 rfl rfl ?_
      refine tw_getR f_X11_44 hL_M2 s_0 ⟨rfl, rfl⟩ (rr_X11_6 s_0) d_X11_passChain_56 ?_
      refine tw_aload_n 1 d_X11_passChain_59 rfl rfl ?_
      refine tw_getR f_X11_19 hL_M2 s_0 ⟨rfl, rfl⟩ (rr_X11_1 s_0) d_X11_passChain_60 ?_
      refine tw_aload_n 1 d_X11_passChain_63 rfl rfl ?_
      refine tw_getR f_X11_29 hL_M2 s_0 ⟨rfl, rfl⟩ (rr_X11_3 s_0) d_X11_passChain_64 ?_
      refine tw_iload 0 d_X11_passChain_67 rfl ?_
      refine tw_aload_n 1 d_X11_passChain_69 rfl rfl ?_
      refine tw_getR f_X11_29 hL_M2 s_0 ⟨rfl, rfl⟩ (rr_X11_3 s_0) d_X11_passChain_70 ?_
      refine tw_getR f_X11_133 hL_M2 s_75 ⟨rfl, rfl⟩ (rr_X7_5 s_75) d_X11_passChain_73 ?_
      refine tw_iload 0 d_X11_passChain_76 rfl ?_
      refine tw_iald hL_M2 s_81 d_X11_passChain_78 h.1 ?_
      replace h := h.2
      refine tu_cVv (As := [.ref (G.b + c), .ref (G.b + 75), .int (M.1 82 x3.toNatClampNeg), .int (M2.1 81 (M.1 82 x3.toNatClampNeg).toNatClampNeg)]) cv_X11_200 hL_M2 s_126 rfl (Nat.le_of_ble_eq_true rfl) ⟨Nat.zero_le _, Nat.zero_le _⟩ d_X11_passChain_79 h (fun M5 h => ?_)
      have hL_M5 : Lay c M5 := hL_M2.to h.1
      replace h := h.2
      refine tw_iinc 2 [(3, .int (x3 + 1)), (4, .int (M.1 82 x3.toNatClampNeg)), (0, .ref (G.b + 0))] d_X11_passChain_82 rfl rfl (Nat.le_of_ble_eq_true rfl) rfl ?_
      refine tw_goto 11 d_X11_passChain_85 (by decide) ?_
      exact tw_lv [2, 0] rfl h
    · replace h := h.2 z4
      refine tw_iconst d_X11_passChain_53 k_0 ?_
      exact tw_zret (ty := .boolean) rfl rfl ⟨Nat.zero_le _, Nat.zero_le _⟩ d_X11_passChain_54 h
theorem b_X11_passChain {G : MG} {d : Nat} {Q : Int32 → Mm → Prop} {x1 : Int32} {x2 : Int32} {M : Mm} {c : Nat} (hL : Lay c M) (hc : c = 3 ∨ c = 39)  (h : (C G Y_X9_begin d [.ref (G.b + 126), .int x1, .int x2] M (Rv fun M1 => M1.2.2 = M.2.2 ∧ L_X11_passChain_11 G d Q 0 M1))) : C G Y_X11_passChain (d + 1) [.ref (G.b + 0), .int x1, .int x2] M (Ri Q) := by
  refine C.of (by decide) (Nat.le_of_ble_eq_true rfl) (lv := [(0, .ref (G.b + 0)), (1, .int x1), (2, .int x2)]) rfl ?_
  refine tw_aload_n 0 d_X11_passChain_0 rfl rfl ?_
  refine tw_getR f_X11_44 hL s_0 ⟨rfl, rfl⟩ (rr_X11_6 s_0) d_X11_passChain_1 ?_
  refine tw_iload_n 1 d_X11_passChain_4 rfl rfl ?_
  refine tw_iload_n 2 d_X11_passChain_5 rfl rfl ?_
  refine tu_cVv (As := [.int x1, .int x2]) cv_X11_191 hL s_126 rfl (Nat.le_of_ble_eq_true rfl) ⟨Nat.zero_le _, Nat.zero_le _⟩ d_X11_passChain_6 h (fun M1 h => ?_)
  have hL_M1 : Lay c M1 := hL.to h.1
  replace h := h.2
  refine tw_iconst d_X11_passChain_9 k_0 ?_
  refine tw_istore_n [(3, .int 0), (0, .ref (G.b + 0)), (1, .int x1), (2, .int x2)] d_X11_passChain_10 rfl (Nat.le_of_ble_eq_true rfl) rfl ?_
  exact tw_lv [1, 0] rfl h

theorem d_X11_leastBend_0 : decode Y_X11_leastBend.cc 0 = .ok (.bipush (-9), 2) := by decide +kernel
theorem d_X11_leastBend_2 : decode Y_X11_leastBend.cc 2 = .ok (.istore_n 2, 1) := by decide +kernel
theorem d_X11_leastBend_3 : decode Y_X11_leastBend.cc 3 = .ok (.iload_n 2, 1) := by decide +kernel
theorem d_X11_leastBend_4 : decode Y_X11_leastBend.cc 4 = .ok (.bipush 9, 2) := by decide +kernel
theorem d_X11_leastBend_6 : decode Y_X11_leastBend.cc 6 = .ok (.if_icmp .gt 18, 3) := by decide +kernel
theorem d_X11_leastBend_9 : decode Y_X11_leastBend.cc 9 = .ok (.aload_n 0, 1) := by decide +kernel
theorem d_X11_leastBend_10 : decode Y_X11_leastBend.cc 10 = .ok (.iload_n 1, 1) := by decide +kernel
theorem d_X11_leastBend_11 : decode Y_X11_leastBend.cc 11 = .ok (.iload_n 2, 1) := by decide +kernel
theorem d_X11_leastBend_12 : decode Y_X11_leastBend.cc 12 = .ok (.invokevirtual 317, 3) := by decide +kernel
theorem d_X11_leastBend_15 : decode Y_X11_leastBend.cc 15 = .ok (.ifCond .ne 9, 3) := by decide +kernel
theorem d_X11_leastBend_18 : decode Y_X11_leastBend.cc 18 = .ok (.iinc 2 1, 3) := by decide +kernel
theorem d_X11_leastBend_21 : decode Y_X11_leastBend.cc 21 = .ok (.goto (-18), 3) := by decide +kernel
theorem d_X11_leastBend_24 : decode Y_X11_leastBend.cc 24 = .ok (.iload_n 2, 1) := by decide +kernel
theorem d_X11_leastBend_25 : decode Y_X11_leastBend.cc 25 = .ok (.ireturn, 1) := by decide +kernel
def L_X11_leastBend_3 (G : MG) (d : Nat) (Q : Int32 → Mm → Prop) (x1 : Int32) (x2 : Int32) (M : Mm) : Prop := T G Y_X11_leastBend (d + 1) (Ri Q) 0 0 3 [(0, .ref (G.b + 0)), (1, .int x1), (2, .int x2)] [] M
theorem b_X11_leastBend_3 {G : MG} {d : Nat} {Q : Int32 → Mm → Prop} {x1 : Int32} {x2 : Int32} {M : Mm} {c : Nat} (hL : Lay c M)  (h : ((9 < x2 → Q x2 M) ∧ (¬ 9 < x2 → (C G Y_X11_drawsAllSeen d [.ref (G.b + 0), .int x1, .int x2] M (Ri fun r3 M2 => M2.2.2 = M.2.2 ∧ ((¬ r3 = 0 → Q x2 M2) ∧ (r3 = 0 → L_X11_leastBend_3 G d Q x1 (x2 + 1) M2))))))) : L_X11_leastBend_3 G d Q x1 x2 M := by
  unfold L_X11_leastBend_3
  refine tw_iload_n 2 d_X11_leastBend_3 rfl rfl ?_
  refine tw_bipush d_X11_leastBend_4 kb_9 ?_
  refine tw_icmp_gt 24 d_X11_leastBend_6 (by decide) (fun z1 => ?_) (fun z1 => ?_)
  · replace h := h.1 z1
    refine tw_iload_n 2 d_X11_leastBend_24 rfl rfl ?_
    exact tw_iret rfl ⟨Nat.zero_le _, Nat.zero_le _⟩ d_X11_leastBend_25 h
  · replace h := h.2 z1
    refine tw_aload_n 0 d_X11_leastBend_9 rfl rfl ?_
    refine tw_iload_n 1 d_X11_leastBend_10 rfl rfl ?_
    refine tw_iload_n 2 d_X11_leastBend_11 rfl rfl ?_
    refine tu_cVi (As := [.int x1, .int x2]) cv_X11_317 hL s_0 rfl (Nat.le_of_ble_eq_true rfl) ⟨Nat.zero_le _, Nat.zero_le _⟩ d_X11_leastBend_12 h (fun r3 M2 h => ?_)
    have hL_M2 : Lay c M2 := hL.to h.1
    replace h := h.2
    refine tw_if_ne 24 d_X11_leastBend_15 (by decide) (fun z4 => ?_) (fun z4 => ?_)
    · replace h := h.1 z4
      refine tw_iload_n 2 d_X11_leastBend_24 rfl rfl ?_
      exact tw_iret rfl ⟨Nat.zero_le _, Nat.zero_le _⟩ d_X11_leastBend_25 h
    · replace h := h.2 z4
      refine tw_iinc 2 [(2, .int (x2 + 1)), (0, .ref (G.b + 0)), (1, .int x1)] d_X11_leastBend_18 rfl rfl (Nat.le_of_ble_eq_true rfl) rfl ?_
      refine tw_goto 3 d_X11_leastBend_21 (by decide) ?_
      exact tw_lv [1, 2, 0] rfl h
theorem b_X11_leastBend {G : MG} {d : Nat} {Q : Int32 → Mm → Prop} {x1 : Int32} {M : Mm} {c : Nat} (hL : Lay c M)  (h : L_X11_leastBend_3 G d Q x1 (-9) M) : C G Y_X11_leastBend (d + 1) [.ref (G.b + 0), .int x1] M (Ri Q) := by
  refine C.of (by decide) (Nat.le_of_ble_eq_true rfl) (lv := [(0, .ref (G.b + 0)), (1, .int x1)]) rfl ?_
  refine tw_bipush d_X11_leastBend_0 kb_m9 ?_
  refine tw_istore_n [(2, .int (-9)), (0, .ref (G.b + 0)), (1, .int x1)] d_X11_leastBend_2 rfl (Nat.le_of_ble_eq_true rfl) rfl ?_
  exact tw_lv [1, 2, 0] rfl h

theorem d_X11_drawsAllSeen_0 : decode Y_X11_drawsAllSeen.cc 0 = .ok (.iconst 0, 1) := by decide +kernel
theorem d_X11_drawsAllSeen_1 : decode Y_X11_drawsAllSeen.cc 1 = .ok (.istore_n 3, 1) := by decide +kernel
theorem d_X11_drawsAllSeen_2 : decode Y_X11_drawsAllSeen.cc 2 = .ok (.iload_n 3, 1) := by decide +kernel
theorem d_X11_drawsAllSeen_3 : decode Y_X11_drawsAllSeen.cc 3 = .ok (.iconst 4, 1) := by decide +kernel
theorem d_X11_drawsAllSeen_4 : decode Y_X11_drawsAllSeen.cc 4 = .ok (.if_icmp .ge 87, 3) := by decide +kernel
theorem d_X11_drawsAllSeen_7 : decode Y_X11_drawsAllSeen.cc 7 = .ok (.aload_n 0, 1) := by decide +kernel
theorem d_X11_drawsAllSeen_8 : decode Y_X11_drawsAllSeen.cc 8 = .ok (.getfield 29, 3) := by decide +kernel
theorem d_X11_drawsAllSeen_11 : decode Y_X11_drawsAllSeen.cc 11 = .ok (.getfield 252, 3) := by decide +kernel
theorem d_X11_drawsAllSeen_14 : decode Y_X11_drawsAllSeen.cc 14 = .ok (.iconst 1, 1) := by decide +kernel
theorem d_X11_drawsAllSeen_15 : decode Y_X11_drawsAllSeen.cc 15 = .ok (.iload_n 3, 1) := by decide +kernel
theorem d_X11_drawsAllSeen_16 : decode Y_X11_drawsAllSeen.cc 16 = .ok (.ishl, 1) := by decide +kernel
theorem d_X11_drawsAllSeen_17 : decode Y_X11_drawsAllSeen.cc 17 = .ok (.iand, 1) := by decide +kernel
theorem d_X11_drawsAllSeen_18 : decode Y_X11_drawsAllSeen.cc 18 = .ok (.ifCond .eq 67, 3) := by decide +kernel
theorem d_X11_drawsAllSeen_21 : decode Y_X11_drawsAllSeen.cc 21 = .ok (.aload_n 0, 1) := by decide +kernel
theorem d_X11_drawsAllSeen_22 : decode Y_X11_drawsAllSeen.cc 22 = .ok (.getfield 44, 3) := by decide +kernel
theorem d_X11_drawsAllSeen_25 : decode Y_X11_drawsAllSeen.cc 25 = .ok (.getstatic 320, 3) := by decide +kernel
theorem d_X11_drawsAllSeen_28 : decode Y_X11_drawsAllSeen.cc 28 = .ok (.iload_n 3, 1) := by decide +kernel
theorem d_X11_drawsAllSeen_29 : decode Y_X11_drawsAllSeen.cc 29 = .ok (.iaload, 1) := by decide +kernel
theorem d_X11_drawsAllSeen_30 : decode Y_X11_drawsAllSeen.cc 30 = .ok (.getstatic 323, 3) := by decide +kernel
theorem d_X11_drawsAllSeen_33 : decode Y_X11_drawsAllSeen.cc 33 = .ok (.iload_n 3, 1) := by decide +kernel
theorem d_X11_drawsAllSeen_34 : decode Y_X11_drawsAllSeen.cc 34 = .ok (.iaload, 1) := by decide +kernel
theorem d_X11_drawsAllSeen_35 : decode Y_X11_drawsAllSeen.cc 35 = .ok (.invokevirtual 191, 3) := by decide +kernel
theorem d_X11_drawsAllSeen_38 : decode Y_X11_drawsAllSeen.cc 38 = .ok (.aload_n 0, 1) := by decide +kernel
theorem d_X11_drawsAllSeen_39 : decode Y_X11_drawsAllSeen.cc 39 = .ok (.getfield 44, 3) := by decide +kernel
theorem d_X11_drawsAllSeen_42 : decode Y_X11_drawsAllSeen.cc 42 = .ok (.aload_n 0, 1) := by decide +kernel
theorem d_X11_drawsAllSeen_43 : decode Y_X11_drawsAllSeen.cc 43 = .ok (.getfield 19, 3) := by decide +kernel
theorem d_X11_drawsAllSeen_46 : decode Y_X11_drawsAllSeen.cc 46 = .ok (.aload_n 0, 1) := by decide +kernel
theorem d_X11_drawsAllSeen_47 : decode Y_X11_drawsAllSeen.cc 47 = .ok (.getfield 29, 3) := by decide +kernel
theorem d_X11_drawsAllSeen_50 : decode Y_X11_drawsAllSeen.cc 50 = .ok (.iload_n 1, 1) := by decide +kernel
theorem d_X11_drawsAllSeen_51 : decode Y_X11_drawsAllSeen.cc 51 = .ok (.iload_n 2, 1) := by decide +kernel
theorem d_X11_drawsAllSeen_52 : decode Y_X11_drawsAllSeen.cc 52 = .ok (.invokevirtual 200, 3) := by decide +kernel
theorem d_X11_drawsAllSeen_55 : decode Y_X11_drawsAllSeen.cc 55 = .ok (.aload_n 0, 1) := by decide +kernel
theorem d_X11_drawsAllSeen_56 : decode Y_X11_drawsAllSeen.cc 56 = .ok (.getfield 44, 3) := by decide +kernel
theorem d_X11_drawsAllSeen_59 : decode Y_X11_drawsAllSeen.cc 59 = .ok (.aload_n 0, 1) := by decide +kernel
theorem d_X11_drawsAllSeen_60 : decode Y_X11_drawsAllSeen.cc 60 = .ok (.getfield 29, 3) := by decide +kernel
theorem d_X11_drawsAllSeen_63 : decode Y_X11_drawsAllSeen.cc 63 = .ok (.getfield 246, 3) := by decide +kernel
theorem d_X11_drawsAllSeen_66 : decode Y_X11_drawsAllSeen.cc 66 = .ok (.iload_n 3, 1) := by decide +kernel
theorem d_X11_drawsAllSeen_67 : decode Y_X11_drawsAllSeen.cc 67 = .ok (.iaload, 1) := by decide +kernel
theorem d_X11_drawsAllSeen_68 : decode Y_X11_drawsAllSeen.cc 68 = .ok (.aload_n 0, 1) := by decide +kernel
theorem d_X11_drawsAllSeen_69 : decode Y_X11_drawsAllSeen.cc 69 = .ok (.getfield 29, 3) := by decide +kernel
theorem d_X11_drawsAllSeen_72 : decode Y_X11_drawsAllSeen.cc 72 = .ok (.getfield 249, 3) := by decide +kernel
theorem d_X11_drawsAllSeen_75 : decode Y_X11_drawsAllSeen.cc 75 = .ok (.iload_n 3, 1) := by decide +kernel
theorem d_X11_drawsAllSeen_76 : decode Y_X11_drawsAllSeen.cc 76 = .ok (.iaload, 1) := by decide +kernel
theorem d_X11_drawsAllSeen_77 : decode Y_X11_drawsAllSeen.cc 77 = .ok (.invokevirtual 326, 3) := by decide +kernel
theorem d_X11_drawsAllSeen_80 : decode Y_X11_drawsAllSeen.cc 80 = .ok (.ifCond .ne 5, 3) := by decide +kernel
theorem d_X11_drawsAllSeen_83 : decode Y_X11_drawsAllSeen.cc 83 = .ok (.iconst 0, 1) := by decide +kernel
theorem d_X11_drawsAllSeen_84 : decode Y_X11_drawsAllSeen.cc 84 = .ok (.ireturn, 1) := by decide +kernel
theorem d_X11_drawsAllSeen_85 : decode Y_X11_drawsAllSeen.cc 85 = .ok (.iinc 3 1, 3) := by decide +kernel
theorem d_X11_drawsAllSeen_88 : decode Y_X11_drawsAllSeen.cc 88 = .ok (.goto (-86), 3) := by decide +kernel
theorem d_X11_drawsAllSeen_91 : decode Y_X11_drawsAllSeen.cc 91 = .ok (.iconst 1, 1) := by decide +kernel
theorem d_X11_drawsAllSeen_92 : decode Y_X11_drawsAllSeen.cc 92 = .ok (.ireturn, 1) := by decide +kernel
def L_X11_drawsAllSeen_2 (G : MG) (d : Nat) (Q : Int32 → Mm → Prop) (x1 : Int32) (x2 : Int32) (x3 : Int32) (M : Mm) : Prop := T G Y_X11_drawsAllSeen (d + 1) (Ri Q) 0 0 2 [(0, .ref (G.b + 0)), (1, .int x1), (2, .int x2), (3, .int x3)] [] M
theorem b_X11_drawsAllSeen_2 {G : MG} {d : Nat} {Q : Int32 → Mm → Prop} {x1 : Int32} {x2 : Int32} {x3 : Int32} {M : Mm} {c : Nat} (hL : Lay c M) (hc : c = 3 ∨ c = 39) (hx_z21 : ∀ U, G.X U → va_Z "CopyArms" "CORNER_X" "[I" (.ref (G.ad 21)) (gA G) U U.heap) (hx_t21 : ∀ U, G.X U → va_T .int (G.ad 21) 4 (fun q => .int (cornX q)) (gA G) U U.heap) (hx_z22 : ∀ U, G.X U → va_Z "CopyArms" "CORNER_Y" "[I" (.ref (G.ad 22)) (gA G) U U.heap) (hx_t22 : ∀ U, G.X U → va_T .int (G.ad 22) 4 (fun q => .int (cornY q)) (gA G) U U.heap)  (h : ((4 ≤ x3 → Q 1 M) ∧ (¬ 4 ≤ x3 → ((((M.1 75 10) &&& (1 <<< (x3 &&& 31))) = 0 → L_X11_drawsAllSeen_2 G d Q x1 x2 (x3 + 1) M) ∧ (¬ ((M.1 75 10) &&& (1 <<< (x3 &&& 31))) = 0 → (vp_in x3 4 ∧ (vp_in x3 4 ∧ (C G Y_X9_begin d [.ref (G.b + 126), .int (cornX x3.toNatClampNeg), .int (cornY x3.toNatClampNeg)] M (Rv fun M3 => M3.2.2 = M.2.2 ∧ (C G Y_X9_copyBy d [.ref (G.b + 126), .ref (G.b + c), .ref (G.b + 75), .int x1, .int x2] M3 (Rv fun M4 => M4.2.2 = M3.2.2 ∧ (vp_in x3 4 ∧ (vp_in x3 4 ∧ (C G Y_X9_isAt d [.ref (G.b + 126), .int (M4.1 83 x3.toNatClampNeg), .int (M4.1 84 x3.toNatClampNeg)] M4 (Ri fun r6 M5 => M5.2.2 = M4.2.2 ∧ ((¬ r6 = 0 → L_X11_drawsAllSeen_2 G d Q x1 x2 (x3 + 1) M5) ∧ (r6 = 0 → Q 0 M5))))))))))))))))) : L_X11_drawsAllSeen_2 G d Q x1 x2 x3 M := by
  unfold L_X11_drawsAllSeen_2
  refine tw_iload_n 3 d_X11_drawsAllSeen_2 rfl rfl ?_
  refine tw_iconst d_X11_drawsAllSeen_3 k_4 ?_
  refine tw_icmp_ge 91 d_X11_drawsAllSeen_4 (by decide) (fun z1 => ?_) (fun z1 => ?_)
  · replace h := h.1 z1
    refine tw_iconst d_X11_drawsAllSeen_91 k_1 ?_
    exact tw_zret (ty := .boolean) rfl rfl ⟨Nat.zero_le _, Nat.zero_le _⟩ d_X11_drawsAllSeen_92 h
  · replace h := h.2 z1
    refine tw_aload_n 0 d_X11_drawsAllSeen_7 rfl rfl ?_
    refine tw_getR f_X11_29 hL s_0 ⟨rfl, rfl⟩ (rr_X11_3 s_0) d_X11_drawsAllSeen_8 ?_
    refine tw_getI f_X11_252 hL s_75 (Or.inl rfl) d_X11_drawsAllSeen_11 ?_
    refine tw_iconst d_X11_drawsAllSeen_14 k_1 ?_
    refine tw_iload_n 3 d_X11_drawsAllSeen_15 rfl rfl ?_
    refine tw_ishl d_X11_drawsAllSeen_16 ?_
    refine tw_iand d_X11_drawsAllSeen_17 ?_
    refine tw_if_eq 85 d_X11_drawsAllSeen_18 (by decide) (fun z2 => ?_) (fun z2 => ?_)
    · replace h := h.1 z2
      refine tw_iinc 3 [(3, .int (x3 + 1)), (0, .ref (G.b + 0)), (1, .int x1), (2, .int x2)] d_X11_drawsAllSeen_85 rfl rfl (Nat.le_of_ble_eq_true rfl) rfl ?_
      refine tw_goto 2 d_X11_drawsAllSeen_88 (by decide) ?_
      exact tw_lv [1, 2, 3, 0] rfl h
    · replace h := h.2 z2
      refine tw_aload_n 0 d_X11_drawsAllSeen_21 rfl rfl ?_
      refine tw_getR f_X11_44 hL s_0 ⟨rfl, rfl⟩ (rr_X11_6 s_0) d_X11_drawsAllSeen_22 ?_
      refine tw_gets hx_z21 mg739 d_X11_drawsAllSeen_25 ?_
      refine tw_iload_n 3 d_X11_drawsAllSeen_28 rfl rfl ?_
      refine tw_ti (f := cornX) hx_t21 d_X11_drawsAllSeen_29 h.1 ?_
      replace h := h.2
      refine tw_gets hx_z22 mg741 d_X11_drawsAllSeen_30 ?_
      refine tw_iload_n 3 d_X11_drawsAllSeen_33 rfl rfl ?_
      refine tw_ti (f := cornY) hx_t22 d_X11_drawsAllSeen_34 h.1 ?_
      replace h := h.2
      refine tu_cVv (As := [.int (cornX x3.toNatClampNeg), .int (cornY x3.toNatClampNeg)]) cv_X11_191 hL s_126 rfl (Nat.le_of_ble_eq_true rfl) ⟨Nat.zero_le _, Nat.zero_le _⟩ d_X11_drawsAllSeen_35 h (fun M3 h => ?_)
      have hL_M3 : Lay c M3 := hL.to h.1
      replace h := h.2
      refine tw_aload_n 0 d_X11_drawsAllSeen_38 rfl rfl ?_
      refine tw_getR f_X11_44 hL_M3 s_0 ⟨rfl, rfl⟩ (rr_X11_6 s_0) d_X11_drawsAllSeen_39 ?_
      refine tw_aload_n 0 d_X11_drawsAllSeen_42 rfl rfl ?_
      refine tw_getR f_X11_19 hL_M3 s_0 ⟨rfl, rfl⟩ (rr_X11_1 s_0) d_X11_drawsAllSeen_43 ?_
      refine tw_aload_n 0 d_X11_drawsAllSeen_46 rfl rfl ?_
      refine tw_getR f_X11_29 hL_M3 s_0 ⟨rfl, rfl⟩ (rr_X11_3 s_0) d_X11_drawsAllSeen_47 ?_
      refine tw_iload_n 1 d_X11_drawsAllSeen_50 rfl rfl ?_
      refine tw_iload_n 2 d_X11_drawsAllSeen_51 rfl rfl ?_
      refine tu_cVv (As := [.ref (G.b + c), .ref (G.b + 75), .int x1, .int x2]) cv_X11_200 hL_M3 s_126 rfl (Nat.le_of_ble_eq_true rfl) ⟨Nat.zero_le _, Nat.zero_le _⟩ d_X11_drawsAllSeen_52 h (fun M4 h => ?_)
      have hL_M4 : Lay c M4 := hL_M3.to h.1
      replace h := h.2
      refine tw_aload_n 0 d_X11_drawsAllSeen_55 rfl rfl ?_
      refine tw_getR f_X11_44 hL_M4 s_0 ⟨rfl, rfl⟩ (rr_X11_6 s_0) d_X11_drawsAllSeen_56 ?_
      refine tw_aload_n 0 d_X11_drawsAllSeen_59 rfl rfl ?_
      refine tw_getR f_X11_29 hL_M4 s_0 ⟨rfl, rfl⟩ (rr_X11_3 s_0) d_X11_drawsAllSeen_60 ?_
      refine tw_getR f_X11_246 hL_M4 s_75 ⟨rfl, rfl⟩ (rr_X7_8 s_75) d_X11_drawsAllSeen_63 ?_
      refine tw_iload_n 3 d_X11_drawsAllSeen_66 rfl rfl ?_
      refine tw_iald hL_M4 s_83 d_X11_drawsAllSeen_67 h.1 ?_
      replace h := h.2
      refine tw_aload_n 0 d_X11_drawsAllSeen_68 rfl rfl ?_
      refine tw_getR f_X11_29 hL_M4 s_0 ⟨rfl, rfl⟩ (rr_X11_3 s_0) d_X11_drawsAllSeen_69 ?_
      refine tw_getR f_X11_249 hL_M4 s_75 ⟨rfl, rfl⟩ (rr_X7_9 s_75) d_X11_drawsAllSeen_72 ?_
      refine tw_iload_n 3 d_X11_drawsAllSeen_75 rfl rfl ?_
      refine tw_iald hL_M4 s_84 d_X11_drawsAllSeen_76 h.1 ?_
      replace h := h.2
      refine tu_cVi (As := [.int (M4.1 83 x3.toNatClampNeg), .int (M4.1 84 x3.toNatClampNeg)]) cv_X11_326 hL_M4 s_126 rfl (Nat.le_of_ble_eq_true rfl) ⟨Nat.zero_le _, Nat.zero_le _⟩ d_X11_drawsAllSeen_77 h (fun r6 M5 h => ?_)
      have hL_M5 : Lay c M5 := hL_M4.to h.1
      replace h := h.2
      refine tw_if_ne 85 d_X11_drawsAllSeen_80 (by decide) (fun z7 => ?_) (fun z7 => ?_)
      · replace h := h.1 z7
        refine tw_iinc 3 [(3, .int (x3 + 1)), (0, .ref (G.b + 0)), (1, .int x1), (2, .int x2)] d_X11_drawsAllSeen_85 rfl rfl (Nat.le_of_ble_eq_true rfl) rfl ?_
        refine tw_goto 2 d_X11_drawsAllSeen_88 (by decide) ?_
        exact tw_lv [1, 2, 3, 0] rfl h
      · replace h := h.2 z7
        refine tw_iconst d_X11_drawsAllSeen_83 k_0 ?_
        exact tw_zret (ty := .boolean) rfl rfl ⟨Nat.zero_le _, Nat.zero_le _⟩ d_X11_drawsAllSeen_84 h
theorem b_X11_drawsAllSeen {G : MG} {d : Nat} {Q : Int32 → Mm → Prop} {x1 : Int32} {x2 : Int32} {M : Mm} {c : Nat} (hL : Lay c M) (hc : c = 3 ∨ c = 39) (hx_z21 : ∀ U, G.X U → va_Z "CopyArms" "CORNER_X" "[I" (.ref (G.ad 21)) (gA G) U U.heap) (hx_t21 : ∀ U, G.X U → va_T .int (G.ad 21) 4 (fun q => .int (cornX q)) (gA G) U U.heap) (hx_z22 : ∀ U, G.X U → va_Z "CopyArms" "CORNER_Y" "[I" (.ref (G.ad 22)) (gA G) U U.heap) (hx_t22 : ∀ U, G.X U → va_T .int (G.ad 22) 4 (fun q => .int (cornY q)) (gA G) U U.heap)  (h : L_X11_drawsAllSeen_2 G d Q x1 x2 0 M) : C G Y_X11_drawsAllSeen (d + 1) [.ref (G.b + 0), .int x1, .int x2] M (Ri Q) := by
  refine C.of (by decide) (Nat.le_of_ble_eq_true rfl) (lv := [(0, .ref (G.b + 0)), (1, .int x1), (2, .int x2)]) rfl ?_
  refine tw_iconst d_X11_drawsAllSeen_0 k_0 ?_
  refine tw_istore_n [(3, .int 0), (0, .ref (G.b + 0)), (1, .int x1), (2, .int x2)] d_X11_drawsAllSeen_1 rfl (Nat.le_of_ble_eq_true rfl) rfl ?_
  exact tw_lv [1, 2, 3, 0] rfl h
