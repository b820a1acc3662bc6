theorem na_0 (G : MG) (M : Mm) (N : Nat) : vp_cell (G.dA 0) (N, arw G.b (sN M) M.2.2.2 0) = arrV (G.dA 0) N (fun _ => defaultValue .int) := by
  unfold arw
  simp only [vp_cell, (sN_at (M := M) rfl).1, (sN_at (M := M) rfl).2.1]
  rfl
theorem na_1 (G : MG) (M : Mm) (N : Nat) : vp_cell (G.dA 1) (N, arw G.b (sN M) M.2.2.2 1) = arrV (G.dA 1) N (fun _ => defaultValue .long) := by
  unfold arw
  simp only [vp_cell, (sN_at (M := M) rfl).1, (sN_at (M := M) rfl).2.1]
  rfl
theorem na_2 (G : MG) (M : Mm) (N : Nat) : vp_cell (G.dA 2) (N, arw G.b (sN M) M.2.2.2 2) = arrV (G.dA 2) N (fun _ => defaultValue .char) := by
  unfold arw
  simp only [vp_cell, (sN_at (M := M) rfl).1, (sN_at (M := M) rfl).2.1]
  rfl
theorem na_3 (G : MG) (M : Mm) (N : Nat) : vp_cell (G.dA 3) (N, arw G.b (sN M) M.2.2.2 3) = arrV (G.dA 3) N (fun _ => defaultValue .boolean) := by
  unfold arw
  simp only [vp_cell, (sN_at (M := M) rfl).1, (sN_at (M := M) rfl).2.1]
  rfl
def YI_X11 : MY := (yX11_init, cX11_init, 2, none, 146, 2116, [])
theorem d_X11_init_0 : decode YI_X11.cc 0 = .ok (.aload_n 0, 1) := by decide +kernel
theorem d_X11_init_1 : decode YI_X11.cc 1 = .ok (.invokespecial 1, 3) := by decide +kernel
theorem d_X11_init_4 : decode YI_X11.cc 4 = .ok (.aload_n 0, 1) := by decide +kernel
theorem d_X11_init_5 : decode YI_X11.cc 5 = .ok (.new 7, 3) := by decide +kernel
theorem d_X11_init_8 : decode YI_X11.cc 8 = .ok (.dup, 1) := by decide +kernel
theorem d_X11_init_9 : decode YI_X11.cc 9 = .ok (.invokespecial 9, 3) := by decide +kernel
theorem d_X11_init_12 : decode YI_X11.cc 12 = .ok (.putfield 10, 3) := by decide +kernel
theorem d_X11_init_15 : decode YI_X11.cc 15 = .ok (.aload_n 0, 1) := by decide +kernel
theorem d_X11_init_16 : decode YI_X11.cc 16 = .ok (.new 16, 3) := by decide +kernel
theorem d_X11_init_19 : decode YI_X11.cc 19 = .ok (.dup, 1) := by decide +kernel
theorem d_X11_init_20 : decode YI_X11.cc 20 = .ok (.invokespecial 18, 3) := by decide +kernel
theorem d_X11_init_23 : decode YI_X11.cc 23 = .ok (.putfield 19, 3) := by decide +kernel
theorem d_X11_init_26 : decode YI_X11.cc 26 = .ok (.aload_n 0, 1) := by decide +kernel
theorem d_X11_init_27 : decode YI_X11.cc 27 = .ok (.new 16, 3) := by decide +kernel
theorem d_X11_init_30 : decode YI_X11.cc 30 = .ok (.dup, 1) := by decide +kernel
theorem d_X11_init_31 : decode YI_X11.cc 31 = .ok (.invokespecial 18, 3) := by decide +kernel
theorem d_X11_init_34 : decode YI_X11.cc 34 = .ok (.putfield 23, 3) := by decide +kernel
theorem d_X11_init_37 : decode YI_X11.cc 37 = .ok (.aload_n 0, 1) := by decide +kernel
theorem d_X11_init_38 : decode YI_X11.cc 38 = .ok (.new 26, 3) := by decide +kernel
theorem d_X11_init_41 : decode YI_X11.cc 41 = .ok (.dup, 1) := by decide +kernel
theorem d_X11_init_42 : decode YI_X11.cc 42 = .ok (.invokespecial 28, 3) := by decide +kernel
theorem d_X11_init_45 : decode YI_X11.cc 45 = .ok (.putfield 29, 3) := by decide +kernel
theorem d_X11_init_48 : decode YI_X11.cc 48 = .ok (.aload_n 0, 1) := by decide +kernel
theorem d_X11_init_49 : decode YI_X11.cc 49 = .ok (.iconst 4, 1) := by decide +kernel
theorem d_X11_init_50 : decode YI_X11.cc 50 = .ok (.anewarray 26, 3) := by decide +kernel
theorem d_X11_init_53 : decode YI_X11.cc 53 = .ok (.putfield 33, 3) := by decide +kernel
theorem d_X11_init_56 : decode YI_X11.cc 56 = .ok (.iconst 0, 1) := by decide +kernel
theorem d_X11_init_57 : decode YI_X11.cc 57 = .ok (.istore_n 1, 1) := by decide +kernel
theorem d_X11_init_58 : decode YI_X11.cc 58 = .ok (.iload_n 1, 1) := by decide +kernel
theorem d_X11_init_59 : decode YI_X11.cc 59 = .ok (.iconst 4, 1) := by decide +kernel
theorem d_X11_init_60 : decode YI_X11.cc 60 = .ok (.if_icmp .ge 22, 3) := by decide +kernel
theorem d_X11_init_63 : decode YI_X11.cc 63 = .ok (.aload_n 0, 1) := by decide +kernel
theorem d_X11_init_64 : decode YI_X11.cc 64 = .ok (.getfield 33, 3) := by decide +kernel
theorem d_X11_init_67 : decode YI_X11.cc 67 = .ok (.iload_n 1, 1) := by decide +kernel
theorem d_X11_init_68 : decode YI_X11.cc 68 = .ok (.new 26, 3) := by decide +kernel
theorem d_X11_init_71 : decode YI_X11.cc 71 = .ok (.dup, 1) := by decide +kernel
theorem d_X11_init_72 : decode YI_X11.cc 72 = .ok (.invokespecial 28, 3) := by decide +kernel
theorem d_X11_init_75 : decode YI_X11.cc 75 = .ok (.aastore, 1) := by decide +kernel
theorem d_X11_init_76 : decode YI_X11.cc 76 = .ok (.iinc 1 1, 3) := by decide +kernel
theorem d_X11_init_79 : decode YI_X11.cc 79 = .ok (.goto (-21), 3) := by decide +kernel
theorem d_X11_init_82 : decode YI_X11.cc 82 = .ok (.aload_n 0, 1) := by decide +kernel
theorem d_X11_init_83 : decode YI_X11.cc 83 = .ok (.iconst 0, 1) := by decide +kernel
theorem d_X11_init_84 : decode YI_X11.cc 84 = .ok (.putfield 37, 3) := by decide +kernel
theorem d_X11_init_87 : decode YI_X11.cc 87 = .ok (.aload_n 0, 1) := by decide +kernel
theorem d_X11_init_88 : decode YI_X11.cc 88 = .ok (.new 41, 3) := by decide +kernel
theorem d_X11_init_91 : decode YI_X11.cc 91 = .ok (.dup, 1) := by decide +kernel
theorem d_X11_init_92 : decode YI_X11.cc 92 = .ok (.invokespecial 43, 3) := by decide +kernel
theorem d_X11_init_95 : decode YI_X11.cc 95 = .ok (.putfield 44, 3) := by decide +kernel
theorem d_X11_init_98 : decode YI_X11.cc 98 = .ok (.aload_n 0, 1) := by decide +kernel
theorem d_X11_init_99 : decode YI_X11.cc 99 = .ok (.new 48, 3) := by decide +kernel
theorem d_X11_init_102 : decode YI_X11.cc 102 = .ok (.dup, 1) := by decide +kernel
theorem d_X11_init_103 : decode YI_X11.cc 103 = .ok (.invokespecial 50, 3) := by decide +kernel
theorem d_X11_init_106 : decode YI_X11.cc 106 = .ok (.putfield 51, 3) := by decide +kernel
theorem d_X11_init_109 : decode YI_X11.cc 109 = .ok (.aload_n 0, 1) := by decide +kernel
theorem d_X11_init_110 : decode YI_X11.cc 110 = .ok (.new 55, 3) := by decide +kernel
theorem d_X11_init_113 : decode YI_X11.cc 113 = .ok (.dup, 1) := by decide +kernel
theorem d_X11_init_114 : decode YI_X11.cc 114 = .ok (.invokespecial 57, 3) := by decide +kernel
theorem d_X11_init_117 : decode YI_X11.cc 117 = .ok (.putfield 58, 3) := by decide +kernel
theorem d_X11_init_120 : decode YI_X11.cc 120 = .ok (.aload_n 0, 1) := by decide +kernel
theorem d_X11_init_121 : decode YI_X11.cc 121 = .ok (.new 62, 3) := by decide +kernel
theorem d_X11_init_124 : decode YI_X11.cc 124 = .ok (.dup, 1) := by decide +kernel
theorem d_X11_init_125 : decode YI_X11.cc 125 = .ok (.invokespecial 64, 3) := by decide +kernel
theorem d_X11_init_128 : decode YI_X11.cc 128 = .ok (.putfield 65, 3) := by decide +kernel
theorem d_X11_init_131 : decode YI_X11.cc 131 = .ok (.aload_n 0, 1) := by decide +kernel
theorem d_X11_init_132 : decode YI_X11.cc 132 = .ok (.new 69, 3) := by decide +kernel
theorem d_X11_init_135 : decode YI_X11.cc 135 = .ok (.dup, 1) := by decide +kernel
theorem d_X11_init_136 : decode YI_X11.cc 136 = .ok (.invokespecial 71, 3) := by decide +kernel
theorem d_X11_init_139 : decode YI_X11.cc 139 = .ok (.putfield 72, 3) := by decide +kernel
theorem d_X11_init_142 : decode YI_X11.cc 142 = .ok (.aload_n 0, 1) := by decide +kernel
theorem d_X11_init_143 : decode YI_X11.cc 143 = .ok (.new 76, 3) := by decide +kernel
theorem d_X11_init_146 : decode YI_X11.cc 146 = .ok (.dup, 1) := by decide +kernel
theorem d_X11_init_147 : decode YI_X11.cc 147 = .ok (.invokespecial 78, 3) := by decide +kernel
theorem d_X11_init_150 : decode YI_X11.cc 150 = .ok (.putfield 79, 3) := by decide +kernel
theorem d_X11_init_153 : decode YI_X11.cc 153 = .ok (.return_, 1) := by decide +kernel
theorem mg29 : Cond.methodLink RX11 1 objectInit ∈ lw_good := List.mem_filter.mpr ⟨List.mem_append_right _ (List.mem_of_getElem? (i := 29) (by decide +kernel)), by decide +kernel⟩
theorem mg30 : Cond.instanceMethod objectInit ∈ lw_good := List.mem_filter.mpr ⟨List.mem_append_right _ (List.mem_of_getElem? (i := 30) (by decide +kernel)), by decide +kernel⟩
theorem mg31 : Cond.code objectInit ⟨#[0xb1]⟩ 1 none ∈ lw_good := List.mem_filter.mpr ⟨List.mem_append_right _ (List.mem_of_getElem? (i := 31) (by decide +kernel)), by decide +kernel⟩
theorem mg32 : Cond.classLink RX11 7 RX10 ∈ lw_good := List.mem_filter.mpr ⟨List.mem_append_right _ (List.mem_of_getElem? (i := 32) (by decide +kernel)), by decide +kernel⟩
theorem mg33 : Cond.instantiable RX10 7 ∈ lw_good := List.mem_filter.mpr ⟨List.mem_append_right _ (List.mem_of_getElem? (i := 33) (by decide +kernel)), by decide +kernel⟩
theorem n_X11_7 : nOK RX11 7 10 := ⟨RX10, TX10, 7, rfl, rfl, ⟨mg32, mg33, mg2⟩, inG10, tyX10_ok, by decide⟩
def YI_X10 : MY := (yX10_init, cX10_init, 1, none, 1, 1000, [])
theorem d_X10_init_0 : decode YI_X10.cc 0 = .ok (.aload_n 0, 1) := by decide +kernel
theorem d_X10_init_1 : decode YI_X10.cc 1 = .ok (.invokespecial 3, 3) := by decide +kernel
theorem d_X10_init_4 : decode YI_X10.cc 4 = .ok (.aload_n 0, 1) := by decide +kernel
theorem d_X10_init_5 : decode YI_X10.cc 5 = .ok (.sipush 1000, 3) := by decide +kernel
theorem d_X10_init_8 : decode YI_X10.cc 8 = .ok (.newarray .char, 2) := by decide +kernel
theorem d_X10_init_10 : decode YI_X10.cc 10 = .ok (.putfield 9, 3) := by decide +kernel
theorem d_X10_init_13 : decode YI_X10.cc 13 = .ok (.return_, 1) := by decide +kernel
theorem mg37 : Cond.methodLink RX10 3 objectInit ∈ lw_good := List.mem_filter.mpr ⟨List.mem_append_right _ (List.mem_of_getElem? (i := 37) (by decide +kernel)), by decide +kernel⟩
theorem mg61 : Cond.arrayClass .char ∈ lw_good := List.mem_filter.mpr ⟨List.mem_append_right _ (List.mem_of_getElem? (i := 61) (by decide +kernel)), by decide +kernel⟩
def ri_X10_1 (M : Mm) : Mm := (sR (sN M) 1 1 (some 2))
set_option maxRecDepth 100000 in
theorem bi_X10_1 {G : MG} {d : Nat} {Q : Mm → Prop} {M : Mm} (hn : M.2.2.2 = 2)  (hQ : (ri_X10_1 M).2.2.2 = 3 → Q (ri_X10_1 M)) : C G YI_X10 (d + 1) [.ref (G.b + 1)] M (Rv Q) := by
  refine C.of (by decide) (Nat.le_of_ble_eq_true rfl) (lv := [(0, .ref (G.b + 1))]) rfl ?_
  refine tw_aload_n 0 d_X10_init_0 rfl rfl ?_
  refine tw_objinit ⟨mg37, mg30, mg31⟩ (Nat.le_of_ble_eq_true rfl) d_X10_init_1 ?_
  refine tw_aload_n 0 d_X10_init_4 rfl rfl ?_
  refine tw_sipush d_X10_init_5 ks_1000 ?_
  refine tw_newa (ty := .char) (t := 2) (N := 1000) rfl ⟨by decide, rfl, by simp, fun M' => na_2 G M' 1000⟩ mg61 hn s_2 (by decide) ⟨by decide, by decide⟩ d_X10_init_8 (fun M1 e1 hn1 => ?_)
  refine tw_putRF f_X10_9 (by rw [hn1]; decide) s_1 (Or.inr rfl) ⟨rfl, rfl⟩ d_X10_init_10 (fun M2 e2 hn2 => ?_)
  rw [hn1] at hn2
  refine tw_vret rfl ⟨by decide, by decide⟩ d_X10_init_13 ?_
  have hf : M2.2.2.2 = 3 := hn2
  rw [e2] at hf
  rw [e1] at hf
  rw [e2]
  rw [e1]
  exact hQ hf
theorem mg35 : Cond.instanceMethod yX10_init ∈ lw_good := List.mem_filter.mpr ⟨List.mem_append_right _ (List.mem_of_getElem? (i := 35) (by decide +kernel)), by decide +kernel⟩
theorem mg36 : Cond.code yX10_init cX10_init 1 none ∈ lw_good := List.mem_filter.mpr ⟨List.mem_append_right _ (List.mem_of_getElem? (i := 36) (by decide +kernel)), by decide +kernel⟩
theorem ci_X10 : ciOK 0 YI_X10 := ⟨⟨mg35, mg2, mg36⟩, ⟨by decide +kernel, by decide +kernel⟩, by decide +kernel, by decide, rfl, rfl⟩
theorem mg62 : Cond.classLink RX11 16 RX5 ∈ lw_good := List.mem_filter.mpr ⟨List.mem_append_right _ (List.mem_of_getElem? (i := 62) (by decide +kernel)), by decide +kernel⟩
theorem mg63 : Cond.instantiable RX5 4 ∈ lw_good := List.mem_filter.mpr ⟨List.mem_append_right _ (List.mem_of_getElem? (i := 63) (by decide +kernel)), by decide +kernel⟩
theorem n_X11_16 : nOK RX11 16 5 := ⟨RX5, TX5, 4, rfl, rfl, ⟨mg62, mg63, mg3⟩, inG5, tyX5_ok, by decide⟩
def YI_X5 : MY := (yX5_init, cX5_init, 2, none, 35, 230, [])
theorem d_X5_init_0 : decode YI_X5.cc 0 = .ok (.aload_n 0, 1) := by decide +kernel
theorem d_X5_init_1 : decode YI_X5.cc 1 = .ok (.invokespecial 3, 3) := by decide +kernel
theorem d_X5_init_4 : decode YI_X5.cc 4 = .ok (.aload_n 0, 1) := by decide +kernel
theorem d_X5_init_5 : decode YI_X5.cc 5 = .ok (.bipush 6, 2) := by decide +kernel
theorem d_X5_init_7 : decode YI_X5.cc 7 = .ok (.anewarray 9, 3) := by decide +kernel
theorem d_X5_init_10 : decode YI_X5.cc 10 = .ok (.putfield 11, 3) := by decide +kernel
theorem d_X5_init_13 : decode YI_X5.cc 13 = .ok (.aload_n 0, 1) := by decide +kernel
theorem d_X5_init_14 : decode YI_X5.cc 14 = .ok (.bipush 7, 2) := by decide +kernel
theorem d_X5_init_16 : decode YI_X5.cc 16 = .ok (.anewarray 17, 3) := by decide +kernel
theorem d_X5_init_19 : decode YI_X5.cc 19 = .ok (.putfield 19, 3) := by decide +kernel
theorem d_X5_init_22 : decode YI_X5.cc 22 = .ok (.iconst 0, 1) := by decide +kernel
theorem d_X5_init_23 : decode YI_X5.cc 23 = .ok (.istore_n 1, 1) := by decide +kernel
theorem d_X5_init_24 : decode YI_X5.cc 24 = .ok (.iload_n 1, 1) := by decide +kernel
theorem d_X5_init_25 : decode YI_X5.cc 25 = .ok (.bipush 6, 2) := by decide +kernel
theorem d_X5_init_27 : decode YI_X5.cc 27 = .ok (.if_icmp .ge 22, 3) := by decide +kernel
theorem d_X5_init_30 : decode YI_X5.cc 30 = .ok (.aload_n 0, 1) := by decide +kernel
theorem d_X5_init_31 : decode YI_X5.cc 31 = .ok (.getfield 11, 3) := by decide +kernel
theorem d_X5_init_34 : decode YI_X5.cc 34 = .ok (.iload_n 1, 1) := by decide +kernel
theorem d_X5_init_35 : decode YI_X5.cc 35 = .ok (.new 9, 3) := by decide +kernel
theorem d_X5_init_38 : decode YI_X5.cc 38 = .ok (.dup, 1) := by decide +kernel
theorem d_X5_init_39 : decode YI_X5.cc 39 = .ok (.invokespecial 23, 3) := by decide +kernel
theorem d_X5_init_42 : decode YI_X5.cc 42 = .ok (.aastore, 1) := by decide +kernel
theorem d_X5_init_43 : decode YI_X5.cc 43 = .ok (.iinc 1 1, 3) := by decide +kernel
theorem d_X5_init_46 : decode YI_X5.cc 46 = .ok (.goto (-22), 3) := by decide +kernel
theorem d_X5_init_49 : decode YI_X5.cc 49 = .ok (.iconst 0, 1) := by decide +kernel
theorem d_X5_init_50 : decode YI_X5.cc 50 = .ok (.istore_n 1, 1) := by decide +kernel
theorem d_X5_init_51 : decode YI_X5.cc 51 = .ok (.iload_n 1, 1) := by decide +kernel
theorem d_X5_init_52 : decode YI_X5.cc 52 = .ok (.bipush 7, 2) := by decide +kernel
theorem d_X5_init_54 : decode YI_X5.cc 54 = .ok (.if_icmp .ge 22, 3) := by decide +kernel
theorem d_X5_init_57 : decode YI_X5.cc 57 = .ok (.aload_n 0, 1) := by decide +kernel
theorem d_X5_init_58 : decode YI_X5.cc 58 = .ok (.getfield 19, 3) := by decide +kernel
theorem d_X5_init_61 : decode YI_X5.cc 61 = .ok (.iload_n 1, 1) := by decide +kernel
theorem d_X5_init_62 : decode YI_X5.cc 62 = .ok (.new 17, 3) := by decide +kernel
theorem d_X5_init_65 : decode YI_X5.cc 65 = .ok (.dup, 1) := by decide +kernel
theorem d_X5_init_66 : decode YI_X5.cc 66 = .ok (.invokespecial 24, 3) := by decide +kernel
theorem d_X5_init_69 : decode YI_X5.cc 69 = .ok (.aastore, 1) := by decide +kernel
theorem d_X5_init_70 : decode YI_X5.cc 70 = .ok (.iinc 1 1, 3) := by decide +kernel
theorem d_X5_init_73 : decode YI_X5.cc 73 = .ok (.goto (-22), 3) := by decide +kernel
theorem d_X5_init_76 : decode YI_X5.cc 76 = .ok (.return_, 1) := by decide +kernel
theorem mg67 : Cond.methodLink RX5 3 objectInit ∈ lw_good := List.mem_filter.mpr ⟨List.mem_append_right _ (List.mem_of_getElem? (i := 67) (by decide +kernel)), by decide +kernel⟩
theorem mg68 : Cond.classLink RX5 9 "CopyArms$Arm" ∈ lw_good := List.mem_filter.mpr ⟨List.mem_append_right _ (List.mem_of_getElem? (i := 68) (by decide +kernel)), by decide +kernel⟩
theorem mg70 : Cond.classLink RX5 17 "CopyArms$Chart" ∈ lw_good := List.mem_filter.mpr ⟨List.mem_append_right _ (List.mem_of_getElem? (i := 70) (by decide +kernel)), by decide +kernel⟩
theorem mg72 : Cond.instantiable RX1 10 ∈ lw_good := List.mem_filter.mpr ⟨List.mem_append_right _ (List.mem_of_getElem? (i := 72) (by decide +kernel)), by decide +kernel⟩
theorem n_X5_9 : nOK RX5 9 1 := ⟨RX1, TX1, 10, rfl, rfl, ⟨mg68, mg72, mg4⟩, inG1, tyX1_ok, by decide⟩
def YI_X1 : MY := (yX1_init, cX1_init, 1, none, 1, 4, [])
theorem d_X1_init_0 : decode YI_X1.cc 0 = .ok (.aload_n 0, 1) := by decide +kernel
theorem d_X1_init_1 : decode YI_X1.cc 1 = .ok (.invokespecial 3, 3) := by decide +kernel
theorem d_X1_init_4 : decode YI_X1.cc 4 = .ok (.aload_n 0, 1) := by decide +kernel
theorem d_X1_init_5 : decode YI_X1.cc 5 = .ok (.iconst 4, 1) := by decide +kernel
theorem d_X1_init_6 : decode YI_X1.cc 6 = .ok (.newarray .int, 2) := by decide +kernel
theorem d_X1_init_8 : decode YI_X1.cc 8 = .ok (.putfield 9, 3) := by decide +kernel
theorem d_X1_init_11 : decode YI_X1.cc 11 = .ok (.return_, 1) := by decide +kernel
theorem mg76 : Cond.methodLink RX1 3 objectInit ∈ lw_good := List.mem_filter.mpr ⟨List.mem_append_right _ (List.mem_of_getElem? (i := 76) (by decide +kernel)), by decide +kernel⟩
theorem mg128 : Cond.arrayClass .int ∈ lw_good := List.mem_filter.mpr ⟨List.mem_append_right _ (List.mem_of_getElem? (i := 128) (by decide +kernel)), by decide +kernel⟩
def ri_X1_6 (M : Mm) : Mm := (sR (sN M) 6 2 (some 7))
set_option maxRecDepth 100000 in
theorem bi_X1_6 {G : MG} {d : Nat} {Q : Mm → Prop} {M : Mm} (hn : M.2.2.2 = 7)  (hQ : (ri_X1_6 M).2.2.2 = 8 → Q (ri_X1_6 M)) : C G YI_X1 (d + 1) [.ref (G.b + 6)] M (Rv Q) := by
  refine C.of (by decide) (Nat.le_of_ble_eq_true rfl) (lv := [(0, .ref (G.b + 6))]) rfl ?_
  refine tw_aload_n 0 d_X1_init_0 rfl rfl ?_
  refine tw_objinit ⟨mg76, mg30, mg31⟩ (Nat.le_of_ble_eq_true rfl) d_X1_init_1 ?_
  refine tw_aload_n 0 d_X1_init_4 rfl rfl ?_
  refine tw_iconst d_X1_init_5 k_4 ?_
  refine tw_newa (ty := .int) (t := 0) (N := 4) rfl ⟨by decide, rfl, by simp, fun M' => na_0 G M' 4⟩ mg128 hn s_7 (by decide) ⟨by decide, by decide⟩ d_X1_init_6 (fun M1 e1 hn1 => ?_)
  refine tw_putRF f_X1_9 (by rw [hn1]; decide) s_6 (Or.inr rfl) ⟨rfl, rfl⟩ d_X1_init_8 (fun M2 e2 hn2 => ?_)
  rw [hn1] at hn2
  refine tw_vret rfl ⟨by decide, by decide⟩ d_X1_init_11 ?_
  have hf : M2.2.2.2 = 8 := hn2
  rw [e2] at hf
  rw [e1] at hf
  rw [e2]
  rw [e1]
  exact hQ hf
theorem mg74 : Cond.instanceMethod yX1_init ∈ lw_good := List.mem_filter.mpr ⟨List.mem_append_right _ (List.mem_of_getElem? (i := 74) (by decide +kernel)), by decide +kernel⟩
theorem mg75 : Cond.code yX1_init cX1_init 1 none ∈ lw_good := List.mem_filter.mpr ⟨List.mem_append_right _ (List.mem_of_getElem? (i := 75) (by decide +kernel)), by decide +kernel⟩
theorem ci_X1 : ciOK 0 YI_X1 := ⟨⟨mg74, mg4, mg75⟩, ⟨by decide +kernel, by decide +kernel⟩, by decide +kernel, by decide, rfl, rfl⟩
def ri_X1_8 (M : Mm) : Mm := (sR (sN M) 8 2 (some 9))
set_option maxRecDepth 100000 in
theorem bi_X1_8 {G : MG} {d : Nat} {Q : Mm → Prop} {M : Mm} (hn : M.2.2.2 = 9)  (hQ : (ri_X1_8 M).2.2.2 = 10 → Q (ri_X1_8 M)) : C G YI_X1 (d + 1) [.ref (G.b + 8)] M (Rv Q) := by
  refine C.of (by decide) (Nat.le_of_ble_eq_true rfl) (lv := [(0, .ref (G.b + 8))]) rfl ?_
  refine tw_aload_n 0 d_X1_init_0 rfl rfl ?_
  refine tw_objinit ⟨mg76, mg30, mg31⟩ (Nat.le_of_ble_eq_true rfl) d_X1_init_1 ?_
  refine tw_aload_n 0 d_X1_init_4 rfl rfl ?_
  refine tw_iconst d_X1_init_5 k_4 ?_
  refine tw_newa (ty := .int) (t := 0) (N := 4) rfl ⟨by decide, rfl, by simp, fun M' => na_0 G M' 4⟩ mg128 hn s_9 (by decide) ⟨by decide, by decide⟩ d_X1_init_6 (fun M1 e1 hn1 => ?_)
  refine tw_putRF f_X1_9 (by rw [hn1]; decide) s_8 (Or.inr rfl) ⟨rfl, rfl⟩ d_X1_init_8 (fun M2 e2 hn2 => ?_)
  rw [hn1] at hn2
  refine tw_vret rfl ⟨by decide, by decide⟩ d_X1_init_11 ?_
  have hf : M2.2.2.2 = 10 := hn2
  rw [e2] at hf
  rw [e1] at hf
  rw [e2]
  rw [e1]
  exact hQ hf
def ri_X1_10 (M : Mm) : Mm := (sR (sN M) 10 2 (some 11))
set_option maxRecDepth 100000 in
theorem bi_X1_10 {G : MG} {d : Nat} {Q : Mm → Prop} {M : Mm} (hn : M.2.2.2 = 11)  (hQ : (ri_X1_10 M).2.2.2 = 12 → Q (ri_X1_10 M)) : C G YI_X1 (d + 1) [.ref (G.b + 10)] M (Rv Q) := by
  refine C.of (by decide) (Nat.le_of_ble_eq_true rfl) (lv := [(0, .ref (G.b + 10))]) rfl ?_
  refine tw_aload_n 0 d_X1_init_0 rfl rfl ?_
  refine tw_objinit ⟨mg76, mg30, mg31⟩ (Nat.le_of_ble_eq_true rfl) d_X1_init_1 ?_
  refine tw_aload_n 0 d_X1_init_4 rfl rfl ?_
  refine tw_iconst d_X1_init_5 k_4 ?_
  refine tw_newa (ty := .int) (t := 0) (N := 4) rfl ⟨by decide, rfl, by simp, fun M' => na_0 G M' 4⟩ mg128 hn s_11 (by decide) ⟨by decide, by decide⟩ d_X1_init_6 (fun M1 e1 hn1 => ?_)
  refine tw_putRF f_X1_9 (by rw [hn1]; decide) s_10 (Or.inr rfl) ⟨rfl, rfl⟩ d_X1_init_8 (fun M2 e2 hn2 => ?_)
  rw [hn1] at hn2
  refine tw_vret rfl ⟨by decide, by decide⟩ d_X1_init_11 ?_
  have hf : M2.2.2.2 = 12 := hn2
  rw [e2] at hf
  rw [e1] at hf
  rw [e2]
  rw [e1]
  exact hQ hf
def ri_X1_12 (M : Mm) : Mm := (sR (sN M) 12 2 (some 13))
set_option maxRecDepth 100000 in
theorem bi_X1_12 {G : MG} {d : Nat} {Q : Mm → Prop} {M : Mm} (hn : M.2.2.2 = 13)  (hQ : (ri_X1_12 M).2.2.2 = 14 → Q (ri_X1_12 M)) : C G YI_X1 (d + 1) [.ref (G.b + 12)] M (Rv Q) := by
  refine C.of (by decide) (Nat.le_of_ble_eq_true rfl) (lv := [(0, .ref (G.b + 12))]) rfl ?_
  refine tw_aload_n 0 d_X1_init_0 rfl rfl ?_
  refine tw_objinit ⟨mg76, mg30, mg31⟩ (Nat.le_of_ble_eq_true rfl) d_X1_init_1 ?_
  refine tw_aload_n 0 d_X1_init_4 rfl rfl ?_
  refine tw_iconst d_X1_init_5 k_4 ?_
  refine tw_newa (ty := .int) (t := 0) (N := 4) rfl ⟨by decide, rfl, by simp, fun M' => na_0 G M' 4⟩ mg128 hn s_13 (by decide) ⟨by decide, by decide⟩ d_X1_init_6 (fun M1 e1 hn1 => ?_)
  refine tw_putRF f_X1_9 (by rw [hn1]; decide) s_12 (Or.inr rfl) ⟨rfl, rfl⟩ d_X1_init_8 (fun M2 e2 hn2 => ?_)
  rw [hn1] at hn2
  refine tw_vret rfl ⟨by decide, by decide⟩ d_X1_init_11 ?_
  have hf : M2.2.2.2 = 14 := hn2
  rw [e2] at hf
  rw [e1] at hf
  rw [e2]
  rw [e1]
  exact hQ hf
def ri_X1_14 (M : Mm) : Mm := (sR (sN M) 14 2 (some 15))
set_option maxRecDepth 100000 in
theorem bi_X1_14 {G : MG} {d : Nat} {Q : Mm → Prop} {M : Mm} (hn : M.2.2.2 = 15)  (hQ : (ri_X1_14 M).2.2.2 = 16 → Q (ri_X1_14 M)) : C G YI_X1 (d + 1) [.ref (G.b + 14)] M (Rv Q) := by
  refine C.of (by decide) (Nat.le_of_ble_eq_true rfl) (lv := [(0, .ref (G.b + 14))]) rfl ?_
  refine tw_aload_n 0 d_X1_init_0 rfl rfl ?_
  refine tw_objinit ⟨mg76, mg30, mg31⟩ (Nat.le_of_ble_eq_true rfl) d_X1_init_1 ?_
  refine tw_aload_n 0 d_X1_init_4 rfl rfl ?_
  refine tw_iconst d_X1_init_5 k_4 ?_
  refine tw_newa (ty := .int) (t := 0) (N := 4) rfl ⟨by decide, rfl, by simp, fun M' => na_0 G M' 4⟩ mg128 hn s_15 (by decide) ⟨by decide, by decide⟩ d_X1_init_6 (fun M1 e1 hn1 => ?_)
  refine tw_putRF f_X1_9 (by rw [hn1]; decide) s_14 (Or.inr rfl) ⟨rfl, rfl⟩ d_X1_init_8 (fun M2 e2 hn2 => ?_)
  rw [hn1] at hn2
  refine tw_vret rfl ⟨by decide, by decide⟩ d_X1_init_11 ?_
  have hf : M2.2.2.2 = 16 := hn2
  rw [e2] at hf
  rw [e1] at hf
  rw [e2]
  rw [e1]
  exact hQ hf
def ri_X1_16 (M : Mm) : Mm := (sR (sN M) 16 2 (some 17))
set_option maxRecDepth 100000 in
theorem bi_X1_16 {G : MG} {d : Nat} {Q : Mm → Prop} {M : Mm} (hn : M.2.2.2 = 17)  (hQ : (ri_X1_16 M).2.2.2 = 18 → Q (ri_X1_16 M)) : C G YI_X1 (d + 1) [.ref (G.b + 16)] M (Rv Q) := by
  refine C.of (by decide) (Nat.le_of_ble_eq_true rfl) (lv := [(0, .ref (G.b + 16))]) rfl ?_
  refine tw_aload_n 0 d_X1_init_0 rfl rfl ?_
  refine tw_objinit ⟨mg76, mg30, mg31⟩ (Nat.le_of_ble_eq_true rfl) d_X1_init_1 ?_
  refine tw_aload_n 0 d_X1_init_4 rfl rfl ?_
  refine tw_iconst d_X1_init_5 k_4 ?_
  refine tw_newa (ty := .int) (t := 0) (N := 4) rfl ⟨by decide, rfl, by simp, fun M' => na_0 G M' 4⟩ mg128 hn s_17 (by decide) ⟨by decide, by decide⟩ d_X1_init_6 (fun M1 e1 hn1 => ?_)
  refine tw_putRF f_X1_9 (by rw [hn1]; decide) s_16 (Or.inr rfl) ⟨rfl, rfl⟩ d_X1_init_8 (fun M2 e2 hn2 => ?_)
  rw [hn1] at hn2
  refine tw_vret rfl ⟨by decide, by decide⟩ d_X1_init_11 ?_
  have hf : M2.2.2.2 = 18 := hn2
  rw [e2] at hf
  rw [e1] at hf
  rw [e2]
  rw [e1]
  exact hQ hf
theorem mg129 : Cond.instantiable RX2 7 ∈ lw_good := List.mem_filter.mpr ⟨List.mem_append_right _ (List.mem_of_getElem? (i := 129) (by decide +kernel)), by decide +kernel⟩
theorem mg5 : Cond.initialized RX2 ∈ lw_good := List.mem_filter.mpr ⟨List.mem_append_right _ (List.mem_of_getElem? (i := 5) (by decide +kernel)), by decide +kernel⟩
theorem n_X5_17 : nOK RX5 17 2 := ⟨RX2, TX2, 7, rfl, rfl, ⟨mg70, mg129, mg5⟩, inG2, tyX2_ok, by decide⟩
def YI_X2 : MY := (yX2_init, cX2_init, 1, none, 2, 12, [])
theorem d_X2_init_0 : decode YI_X2.cc 0 = .ok (.aload_n 0, 1) := by decide +kernel
theorem d_X2_init_1 : decode YI_X2.cc 1 = .ok (.invokespecial 3, 3) := by decide +kernel
theorem d_X2_init_4 : decode YI_X2.cc 4 = .ok (.aload_n 0, 1) := by decide +kernel
theorem d_X2_init_5 : decode YI_X2.cc 5 = .ok (.bipush 6, 2) := by decide +kernel
theorem d_X2_init_7 : decode YI_X2.cc 7 = .ok (.newarray .int, 2) := by decide +kernel
theorem d_X2_init_9 : decode YI_X2.cc 9 = .ok (.putfield 9, 3) := by decide +kernel
theorem d_X2_init_12 : decode YI_X2.cc 12 = .ok (.aload_n 0, 1) := by decide +kernel
theorem d_X2_init_13 : decode YI_X2.cc 13 = .ok (.bipush 6, 2) := by decide +kernel
theorem d_X2_init_15 : decode YI_X2.cc 15 = .ok (.newarray .int, 2) := by decide +kernel
theorem d_X2_init_17 : decode YI_X2.cc 17 = .ok (.putfield 15, 3) := by decide +kernel
theorem d_X2_init_20 : decode YI_X2.cc 20 = .ok (.return_, 1) := by decide +kernel
theorem mg133 : Cond.methodLink RX2 3 objectInit ∈ lw_good := List.mem_filter.mpr ⟨List.mem_append_right _ (List.mem_of_getElem? (i := 133) (by decide +kernel)), by decide +kernel⟩
theorem mg145 : Cond.fieldLink RX2 9 (TX2 4).1 (TX2 4).2.1 (TX2 4).2.2.1 ∈ lw_good := List.mem_filter.mpr ⟨List.mem_append_right _ (List.mem_of_getElem? (i := 145) (by decide +kernel)), by decide +kernel⟩
theorem f_X2_9 : fOK RX2 9 2 4 := ⟨RX2, TX2, 7, rfl, rfl, by decide, mg145, inG2, tyX2_ok, nmX2, rfl⟩
theorem mg149 : Cond.fieldLink RX2 15 (TX2 5).1 (TX2 5).2.1 (TX2 5).2.2.1 ∈ lw_good := List.mem_filter.mpr ⟨List.mem_append_right _ (List.mem_of_getElem? (i := 149) (by decide +kernel)), by decide +kernel⟩
theorem f_X2_15 : fOK RX2 15 2 5 := ⟨RX2, TX2, 7, rfl, rfl, by decide, mg149, inG2, tyX2_ok, nmX2, rfl⟩
def ri_X2_18 (M : Mm) : Mm := (sR (sN (sR (sN M) 18 4 (some 19))) 18 5 (some 20))
set_option maxRecDepth 100000 in
theorem bi_X2_18 {G : MG} {d : Nat} {Q : Mm → Prop} {M : Mm} (hn : M.2.2.2 = 19)  (hQ : (ri_X2_18 M).2.2.2 = 21 → Q (ri_X2_18 M)) : C G YI_X2 (d + 1) [.ref (G.b + 18)] M (Rv Q) := by
  refine C.of (by decide) (Nat.le_of_ble_eq_true rfl) (lv := [(0, .ref (G.b + 18))]) rfl ?_
  refine tw_aload_n 0 d_X2_init_0 rfl rfl ?_
  refine tw_objinit ⟨mg133, mg30, mg31⟩ (Nat.le_of_ble_eq_true rfl) d_X2_init_1 ?_
  refine tw_aload_n 0 d_X2_init_4 rfl rfl ?_
  refine tw_bipush d_X2_init_5 kb_6 ?_
  refine tw_newa (ty := .int) (t := 0) (N := 6) rfl ⟨by decide, rfl, by simp, fun M' => na_0 G M' 6⟩ mg128 hn s_19 (by decide) ⟨by decide, by decide⟩ d_X2_init_7 (fun M1 e1 hn1 => ?_)
  refine tw_putRF f_X2_9 (by rw [hn1]; decide) s_18 (Or.inr rfl) ⟨rfl, rfl⟩ d_X2_init_9 (fun M2 e2 hn2 => ?_)
  rw [hn1] at hn2
  refine tw_aload_n 0 d_X2_init_12 rfl rfl ?_
  refine tw_bipush d_X2_init_13 kb_6 ?_
  refine tw_newa (ty := .int) (t := 0) (N := 6) rfl ⟨by decide, rfl, by simp, fun M' => na_0 G M' 6⟩ mg128 hn2 s_20 (by decide) ⟨by decide, by decide⟩ d_X2_init_15 (fun M3 e3 hn3 => ?_)
  refine tw_putRF f_X2_15 (by rw [hn3]; decide) s_18 (Or.inr rfl) ⟨rfl, rfl⟩ d_X2_init_17 (fun M4 e4 hn4 => ?_)
  rw [hn3] at hn4
  refine tw_vret rfl ⟨by decide, by decide⟩ d_X2_init_20 ?_
  have hf : M4.2.2.2 = 21 := hn4
  rw [e4] at hf
  rw [e3] at hf
  rw [e2] at hf
  rw [e1] at hf
  rw [e4]
  rw [e3]
  rw [e2]
  rw [e1]
  exact hQ hf
theorem mg131 : Cond.instanceMethod yX2_init ∈ lw_good := List.mem_filter.mpr ⟨List.mem_append_right _ (List.mem_of_getElem? (i := 131) (by decide +kernel)), by decide +kernel⟩
theorem mg132 : Cond.code yX2_init cX2_init 1 none ∈ lw_good := List.mem_filter.mpr ⟨List.mem_append_right _ (List.mem_of_getElem? (i := 132) (by decide +kernel)), by decide +kernel⟩
theorem ci_X2 : ciOK 0 YI_X2 := ⟨⟨mg131, mg5, mg132⟩, ⟨by decide +kernel, by decide +kernel⟩, by decide +kernel, by decide, rfl, rfl⟩
def ri_X2_21 (M : Mm) : Mm := (sR (sN (sR (sN M) 21 4 (some 22))) 21 5 (some 23))
set_option maxRecDepth 100000 in
theorem bi_X2_21 {G : MG} {d : Nat} {Q : Mm → Prop} {M : Mm} (hn : M.2.2.2 = 22)  (hQ : (ri_X2_21 M).2.2.2 = 24 → Q (ri_X2_21 M)) : C G YI_X2 (d + 1) [.ref (G.b + 21)] M (Rv Q) := by
  refine C.of (by decide) (Nat.le_of_ble_eq_true rfl) (lv := [(0, .ref (G.b + 21))]) rfl ?_
  refine tw_aload_n 0 d_X2_init_0 rfl rfl ?_
  refine tw_objinit ⟨mg133, mg30, mg31⟩ (Nat.le_of_ble_eq_true rfl) d_X2_init_1 ?_
  refine tw_aload_n 0 d_X2_init_4 rfl rfl ?_
  refine tw_bipush d_X2_init_5 kb_6 ?_
  refine tw_newa (ty := .int) (t := 0) (N := 6) rfl ⟨by decide, rfl, by simp, fun M' => na_0 G M' 6⟩ mg128 hn s_22 (by decide) ⟨by decide, by decide⟩ d_X2_init_7 (fun M1 e1 hn1 => ?_)
  refine tw_putRF f_X2_9 (by rw [hn1]; decide) s_21 (Or.inr rfl) ⟨rfl, rfl⟩ d_X2_init_9 (fun M2 e2 hn2 => ?_)
  rw [hn1] at hn2
  refine tw_aload_n 0 d_X2_init_12 rfl rfl ?_
  refine tw_bipush d_X2_init_13 kb_6 ?_
  refine tw_newa (ty := .int) (t := 0) (N := 6) rfl ⟨by decide, rfl, by simp, fun M' => na_0 G M' 6⟩ mg128 hn2 s_23 (by decide) ⟨by decide, by decide⟩ d_X2_init_15 (fun M3 e3 hn3 => ?_)
  refine tw_putRF f_X2_15 (by rw [hn3]; decide) s_21 (Or.inr rfl) ⟨rfl, rfl⟩ d_X2_init_17 (fun M4 e4 hn4 => ?_)
  rw [hn3] at hn4
  refine tw_vret rfl ⟨by decide, by decide⟩ d_X2_init_20 ?_
  have hf : M4.2.2.2 = 24 := hn4
  rw [e4] at hf
  rw [e3] at hf
  rw [e2] at hf
  rw [e1] at hf
  rw [e4]
  rw [e3]
  rw [e2]
  rw [e1]
  exact hQ hf
def ri_X2_24 (M : Mm) : Mm := (sR (sN (sR (sN M) 24 4 (some 25))) 24 5 (some 26))
set_option maxRecDepth 100000 in
theorem bi_X2_24 {G : MG} {d : Nat} {Q : Mm → Prop} {M : Mm} (hn : M.2.2.2 = 25)  (hQ : (ri_X2_24 M).2.2.2 = 27 → Q (ri_X2_24 M)) : C G YI_X2 (d + 1) [.ref (G.b + 24)] M (Rv Q) := by
  refine C.of (by decide) (Nat.le_of_ble_eq_true rfl) (lv := [(0, .ref (G.b + 24))]) rfl ?_
  refine tw_aload_n 0 d_X2_init_0 rfl rfl ?_
  refine tw_objinit ⟨mg133, mg30, mg31⟩ (Nat.le_of_ble_eq_true rfl) d_X2_init_1 ?_
  refine tw_aload_n 0 d_X2_init_4 rfl rfl ?_
  refine tw_bipush d_X2_init_5 kb_6 ?_
  refine tw_newa (ty := .int) (t := 0) (N := 6) rfl ⟨by decide, rfl, by simp, fun M' => na_0 G M' 6⟩ mg128 hn s_25 (by decide) ⟨by decide, by decide⟩ d_X2_init_7 (fun M1 e1 hn1 => ?_)
  refine tw_putRF f_X2_9 (by rw [hn1]; decide) s_24 (Or.inr rfl) ⟨rfl, rfl⟩ d_X2_init_9 (fun M2 e2 hn2 => ?_)
  rw [hn1] at hn2
  refine tw_aload_n 0 d_X2_init_12 rfl rfl ?_
  refine tw_bipush d_X2_init_13 kb_6 ?_
  refine tw_newa (ty := .int) (t := 0) (N := 6) rfl ⟨by decide, rfl, by simp, fun M' => na_0 G M' 6⟩ mg128 hn2 s_26 (by decide) ⟨by decide, by decide⟩ d_X2_init_15 (fun M3 e3 hn3 => ?_)
  refine tw_putRF f_X2_15 (by rw [hn3]; decide) s_24 (Or.inr rfl) ⟨rfl, rfl⟩ d_X2_init_17 (fun M4 e4 hn4 => ?_)
  rw [hn3] at hn4
  refine tw_vret rfl ⟨by decide, by decide⟩ d_X2_init_20 ?_
  have hf : M4.2.2.2 = 27 := hn4
  rw [e4] at hf
  rw [e3] at hf
  rw [e2] at hf
  rw [e1] at hf
  rw [e4]
  rw [e3]
  rw [e2]
  rw [e1]
  exact hQ hf
def ri_X2_27 (M : Mm) : Mm := (sR (sN (sR (sN M) 27 4 (some 28))) 27 5 (some 29))
set_option maxRecDepth 100000 in
theorem bi_X2_27 {G : MG} {d : Nat} {Q : Mm → Prop} {M : Mm} (hn : M.2.2.2 = 28)  (hQ : (ri_X2_27 M).2.2.2 = 30 → Q (ri_X2_27 M)) : C G YI_X2 (d + 1) [.ref (G.b + 27)] M (Rv Q) := by
  refine C.of (by decide) (Nat.le_of_ble_eq_true rfl) (lv := [(0, .ref (G.b + 27))]) rfl ?_
  refine tw_aload_n 0 d_X2_init_0 rfl rfl ?_
  refine tw_objinit ⟨mg133, mg30, mg31⟩ (Nat.le_of_ble_eq_true rfl) d_X2_init_1 ?_
  refine tw_aload_n 0 d_X2_init_4 rfl rfl ?_
  refine tw_bipush d_X2_init_5 kb_6 ?_
  refine tw_newa (ty := .int) (t := 0) (N := 6) rfl ⟨by decide, rfl, by simp, fun M' => na_0 G M' 6⟩ mg128 hn s_28 (by decide) ⟨by decide, by decide⟩ d_X2_init_7 (fun M1 e1 hn1 => ?_)
  refine tw_putRF f_X2_9 (by rw [hn1]; decide) s_27 (Or.inr rfl) ⟨rfl, rfl⟩ d_X2_init_9 (fun M2 e2 hn2 => ?_)
  rw [hn1] at hn2
  refine tw_aload_n 0 d_X2_init_12 rfl rfl ?_
  refine tw_bipush d_X2_init_13 kb_6 ?_
  refine tw_newa (ty := .int) (t := 0) (N := 6) rfl ⟨by decide, rfl, by simp, fun M' => na_0 G M' 6⟩ mg128 hn2 s_29 (by decide) ⟨by decide, by decide⟩ d_X2_init_15 (fun M3 e3 hn3 => ?_)
  refine tw_putRF f_X2_15 (by rw [hn3]; decide) s_27 (Or.inr rfl) ⟨rfl, rfl⟩ d_X2_init_17 (fun M4 e4 hn4 => ?_)
  rw [hn3] at hn4
  refine tw_vret rfl ⟨by decide, by decide⟩ d_X2_init_20 ?_
  have hf : M4.2.2.2 = 30 := hn4
  rw [e4] at hf
  rw [e3] at hf
  rw [e2] at hf
  rw [e1] at hf
  rw [e4]
  rw [e3]
  rw [e2]
  rw [e1]
  exact hQ hf
def ri_X2_30 (M : Mm) : Mm := (sR (sN (sR (sN M) 30 4 (some 31))) 30 5 (some 32))
set_option maxRecDepth 100000 in
theorem bi_X2_30 {G : MG} {d : Nat} {Q : Mm → Prop} {M : Mm} (hn : M.2.2.2 = 31)  (hQ : (ri_X2_30 M).2.2.2 = 33 → Q (ri_X2_30 M)) : C G YI_X2 (d + 1) [.ref (G.b + 30)] M (Rv Q) := by
  refine C.of (by decide) (Nat.le_of_ble_eq_true rfl) (lv := [(0, .ref (G.b + 30))]) rfl ?_
  refine tw_aload_n 0 d_X2_init_0 rfl rfl ?_
  refine tw_objinit ⟨mg133, mg30, mg31⟩ (Nat.le_of_ble_eq_true rfl) d_X2_init_1 ?_
  refine tw_aload_n 0 d_X2_init_4 rfl rfl ?_
  refine tw_bipush d_X2_init_5 kb_6 ?_
  refine tw_newa (ty := .int) (t := 0) (N := 6) rfl ⟨by decide, rfl, by simp, fun M' => na_0 G M' 6⟩ mg128 hn s_31 (by decide) ⟨by decide, by decide⟩ d_X2_init_7 (fun M1 e1 hn1 => ?_)
  refine tw_putRF f_X2_9 (by rw [hn1]; decide) s_30 (Or.inr rfl) ⟨rfl, rfl⟩ d_X2_init_9 (fun M2 e2 hn2 => ?_)
  rw [hn1] at hn2
  refine tw_aload_n 0 d_X2_init_12 rfl rfl ?_
  refine tw_bipush d_X2_init_13 kb_6 ?_
  refine tw_newa (ty := .int) (t := 0) (N := 6) rfl ⟨by decide, rfl, by simp, fun M' => na_0 G M' 6⟩ mg128 hn2 s_32 (by decide) ⟨by decide, by decide⟩ d_X2_init_15 (fun M3 e3 hn3 => ?_)
  refine tw_putRF f_X2_15 (by rw [hn3]; decide) s_30 (Or.inr rfl) ⟨rfl, rfl⟩ d_X2_init_17 (fun M4 e4 hn4 => ?_)
  rw [hn3] at hn4
  refine tw_vret rfl ⟨by decide, by decide⟩ d_X2_init_20 ?_
  have hf : M4.2.2.2 = 33 := hn4
  rw [e4] at hf
  rw [e3] at hf
  rw [e2] at hf
  rw [e1] at hf
  rw [e4]
  rw [e3]
  rw [e2]
  rw [e1]
  exact hQ hf
def ri_X2_33 (M : Mm) : Mm := (sR (sN (sR (sN M) 33 4 (some 34))) 33 5 (some 35))
set_option maxRecDepth 100000 in
theorem bi_X2_33 {G : MG} {d : Nat} {Q : Mm → Prop} {M : Mm} (hn : M.2.2.2 = 34)  (hQ : (ri_X2_33 M).2.2.2 = 36 → Q (ri_X2_33 M)) : C G YI_X2 (d + 1) [.ref (G.b + 33)] M (Rv Q) := by
  refine C.of (by decide) (Nat.le_of_ble_eq_true rfl) (lv := [(0, .ref (G.b + 33))]) rfl ?_
  refine tw_aload_n 0 d_X2_init_0 rfl rfl ?_
  refine tw_objinit ⟨mg133, mg30, mg31⟩ (Nat.le_of_ble_eq_true rfl) d_X2_init_1 ?_
  refine tw_aload_n 0 d_X2_init_4 rfl rfl ?_
  refine tw_bipush d_X2_init_5 kb_6 ?_
  refine tw_newa (ty := .int) (t := 0) (N := 6) rfl ⟨by decide, rfl, by simp, fun M' => na_0 G M' 6⟩ mg128 hn s_34 (by decide) ⟨by decide, by decide⟩ d_X2_init_7 (fun M1 e1 hn1 => ?_)
  refine tw_putRF f_X2_9 (by rw [hn1]; decide) s_33 (Or.inr rfl) ⟨rfl, rfl⟩ d_X2_init_9 (fun M2 e2 hn2 => ?_)
  rw [hn1] at hn2
  refine tw_aload_n 0 d_X2_init_12 rfl rfl ?_
  refine tw_bipush d_X2_init_13 kb_6 ?_
  refine tw_newa (ty := .int) (t := 0) (N := 6) rfl ⟨by decide, rfl, by simp, fun M' => na_0 G M' 6⟩ mg128 hn2 s_35 (by decide) ⟨by decide, by decide⟩ d_X2_init_15 (fun M3 e3 hn3 => ?_)
  refine tw_putRF f_X2_15 (by rw [hn3]; decide) s_33 (Or.inr rfl) ⟨rfl, rfl⟩ d_X2_init_17 (fun M4 e4 hn4 => ?_)
  rw [hn3] at hn4
  refine tw_vret rfl ⟨by decide, by decide⟩ d_X2_init_20 ?_
  have hf : M4.2.2.2 = 36 := hn4
  rw [e4] at hf
  rw [e3] at hf
  rw [e2] at hf
  rw [e1] at hf
  rw [e4]
  rw [e3]
  rw [e2]
  rw [e1]
  exact hQ hf
def ri_X2_36 (M : Mm) : Mm := (sR (sN (sR (sN M) 36 4 (some 37))) 36 5 (some 38))
set_option maxRecDepth 100000 in
theorem bi_X2_36 {G : MG} {d : Nat} {Q : Mm → Prop} {M : Mm} (hn : M.2.2.2 = 37)  (hQ : (ri_X2_36 M).2.2.2 = 39 → Q (ri_X2_36 M)) : C G YI_X2 (d + 1) [.ref (G.b + 36)] M (Rv Q) := by
  refine C.of (by decide) (Nat.le_of_ble_eq_true rfl) (lv := [(0, .ref (G.b + 36))]) rfl ?_
  refine tw_aload_n 0 d_X2_init_0 rfl rfl ?_
  refine tw_objinit ⟨mg133, mg30, mg31⟩ (Nat.le_of_ble_eq_true rfl) d_X2_init_1 ?_
  refine tw_aload_n 0 d_X2_init_4 rfl rfl ?_
  refine tw_bipush d_X2_init_5 kb_6 ?_
  refine tw_newa (ty := .int) (t := 0) (N := 6) rfl ⟨by decide, rfl, by simp, fun M' => na_0 G M' 6⟩ mg128 hn s_37 (by decide) ⟨by decide, by decide⟩ d_X2_init_7 (fun M1 e1 hn1 => ?_)
  refine tw_putRF f_X2_9 (by rw [hn1]; decide) s_36 (Or.inr rfl) ⟨rfl, rfl⟩ d_X2_init_9 (fun M2 e2 hn2 => ?_)
  rw [hn1] at hn2
  refine tw_aload_n 0 d_X2_init_12 rfl rfl ?_
  refine tw_bipush d_X2_init_13 kb_6 ?_
  refine tw_newa (ty := .int) (t := 0) (N := 6) rfl ⟨by decide, rfl, by simp, fun M' => na_0 G M' 6⟩ mg128 hn2 s_38 (by decide) ⟨by decide, by decide⟩ d_X2_init_15 (fun M3 e3 hn3 => ?_)
  refine tw_putRF f_X2_15 (by rw [hn3]; decide) s_36 (Or.inr rfl) ⟨rfl, rfl⟩ d_X2_init_17 (fun M4 e4 hn4 => ?_)
  rw [hn3] at hn4
  refine tw_vret rfl ⟨by decide, by decide⟩ d_X2_init_20 ?_
  have hf : M4.2.2.2 = 39 := hn4
  rw [e4] at hf
  rw [e3] at hf
  rw [e2] at hf
  rw [e1] at hf
  rw [e4]
  rw [e3]
  rw [e2]
  rw [e1]
  exact hQ hf
def ri_X5_3 (M : Mm) : Mm := (sR (ri_X2_36 (sN (sR (ri_X2_33 (sN (sR (ri_X2_30 (sN (sR (ri_X2_27 (sN (sR (ri_X2_24 (sN (sR (ri_X2_21 (sN (sR (ri_X2_18 (sN (sR (ri_X1_16 (sN (sR (ri_X1_14 (sN (sR (ri_X1_12 (sN (sR (ri_X1_10 (sN (sR (ri_X1_8 (sN (sR (ri_X1_6 (sN (sR (sN (sR (sN M) 3 0 (some 4))) 3 1 (some 5)))) 4 (Int32.toNatClampNeg 0) (some 6)))) 4 (Int32.toNatClampNeg 1) (some 8)))) 4 (Int32.toNatClampNeg 2) (some 10)))) 4 (Int32.toNatClampNeg 3) (some 12)))) 4 (Int32.toNatClampNeg 4) (some 14)))) 4 (Int32.toNatClampNeg 5) (some 16)))) 5 (Int32.toNatClampNeg 0) (some 18)))) 5 (Int32.toNatClampNeg 1) (some 21)))) 5 (Int32.toNatClampNeg 2) (some 24)))) 5 (Int32.toNatClampNeg 3) (some 27)))) 5 (Int32.toNatClampNeg 4) (some 30)))) 5 (Int32.toNatClampNeg 5) (some 33)))) 5 (Int32.toNatClampNeg 6) (some 36))
set_option maxRecDepth 100000 in
theorem bi_X5_3 {G : MG} {d : Nat} {Q : Mm → Prop} {M : Mm} (hn : M.2.2.2 = 4) (hao_X1 : ∀ U, G.X U → va_AO "CopyArms$Arm" U) (hao_X2 : ∀ U, G.X U → va_AO "CopyArms$Chart" U) (hni_X5_23 : ∀ U, G.X U → va_Nw (.methodLinkNest RX5 23 YI_X1.y "CopyArms") U) (hni_X5_24 : ∀ U, G.X U → va_Nw (.methodLinkNest RX5 24 YI_X2.y "CopyArms") U) (hQ : (ri_X5_3 M).2.2.2 = 39 → Q (ri_X5_3 M)) : C G YI_X5 (d + 2) [.ref (G.b + 3)] M (Rv Q) := by
  refine C.of (by decide) (Nat.le_of_ble_eq_true rfl) (lv := [(0, .ref (G.b + 3))]) rfl ?_
  refine tw_aload_n 0 d_X5_init_0 rfl rfl ?_
  refine tw_objinit ⟨mg67, mg30, mg31⟩ (Nat.le_of_ble_eq_true rfl) d_X5_init_1 ?_
  refine tw_aload_n 0 d_X5_init_4 rfl rfl ?_
  refine tw_bipush d_X5_init_5 kb_6 ?_
  refine tw_anew (t := 4) (N := 6) ⟨by decide, by decide, rfl⟩ mg68 hao_X1 hn s_4 (by decide) ⟨by decide, by decide⟩ d_X5_init_7 (fun M1 e1 hn1 => ?_)
  refine tw_putRF f_X5_11 (by rw [hn1]; decide) s_3 (Or.inr rfl) ⟨rfl, rfl⟩ d_X5_init_10 (fun M2 e2 hn2 => ?_)
  rw [hn1] at hn2
  have hr2_3_0 : M2.2.2.1 3 0 = some 4 := by rw [e2]; simp [sR, upR]
  refine tw_aload_n 0 d_X5_init_13 rfl rfl ?_
  refine tw_bipush d_X5_init_14 kb_7 ?_
  refine tw_anew (t := 5) (N := 7) ⟨by decide, by decide, rfl⟩ mg70 hao_X2 hn2 s_5 (by decide) ⟨by decide, by decide⟩ d_X5_init_16 (fun M3 e3 hn3 => ?_)
  have hr3_3_0 : M3.2.2.1 3 0 = some 4 := by rw [e3]; simp [sR, sN, sM, sI, sJ, upR, hn2, hr2_3_0]
  refine tw_putRF f_X5_19 (by rw [hn3]; decide) s_3 (Or.inr rfl) ⟨rfl, rfl⟩ d_X5_init_19 (fun M4 e4 hn4 => ?_)
  rw [hn3] at hn4
  have hr4_3_0 : M4.2.2.1 3 0 = some 4 := by rw [e4]; simp [sR, sN, sM, sI, sJ, upR, hn3, hr3_3_0]
  have hr4_3_1 : M4.2.2.1 3 1 = some 5 := by rw [e4]; simp [sR, upR]
  refine tw_iconst d_X5_init_22 k_0 ?_
  refine tw_istore_n [(1, .int 0), (0, .ref (G.b + 3))] d_X5_init_23 rfl (Nat.le_of_ble_eq_true rfl) rfl ?_
  refine tw_iload_n 0 d_X5_init_24 rfl rfl ?_
  refine tw_bipush d_X5_init_25 kb_6 ?_
  refine tw_icmp_ge 49 d_X5_init_27 (by decide) (fun z => absurd z (by decide)) (fun _ => ?_)
  refine tw_aload_n 1 d_X5_init_30 rfl rfl ?_
  refine tw_getRF (q := 4) f_X5_11 (by rw [hn4]; decide) s_3 ⟨rfl, rfl⟩ hr4_3_0 d_X5_init_31 ?_
  refine tw_iload_n 0 d_X5_init_34 rfl rfl ?_
  refine tw_new n_X5_9 hn4 s_6 ⟨by decide, by decide⟩ d_X5_init_35 (fun M5 e5 hn5 => ?_)
  have hr5_3_0 : M5.2.2.1 3 0 = some 4 := by rw [e5]; simp [sR, sN, sM, sI, sJ, upR, hn4, hr4_3_0]
  have hr5_3_1 : M5.2.2.1 3 1 = some 5 := by rw [e5]; simp [sR, sN, sM, sI, sJ, upR, hn4, hr4_3_1]
  refine tw_dup d_X5_init_38 rfl ?_
  refine tw_callIN (Z := YI_X1) (As := []) (Q' := fun N => N = ri_X1_6 M5 ∧ N.2.2.2 = 8) ci_X1 hni_X5_23 rfl (Nat.le_of_ble_eq_true rfl) ⟨by decide, by decide⟩ d_X5_init_39 (bi_X1_6 hn5  (fun hf => ⟨rfl, hf⟩)) (fun M6 he6 => ?_)
  obtain ⟨e6, hn6⟩ := he6
  have hr6_3_0 : M6.2.2.1 3 0 = some 4 := by rw [e6]; simp [sR, sN, sM, sI, sJ, upR, hn5, hr5_3_0, ri_X1_6]
  have hr6_3_1 : M6.2.2.1 3 1 = some 5 := by rw [e6]; simp [sR, sN, sM, sI, sJ, upR, hn5, hr5_3_1, ri_X1_6]
  refine tw_aast (t := 4) ⟨by decide, by decide, rfl⟩ (ci := 1) rfl (by rw [hn6]; decide) (by rw [hn6]; decide) s_4 s_6 d_X5_init_42 (by unfold vp_in; decide) (fun M7 e7 hn7 => ?_)
  rw [hn6] at hn7
  have hr7_3_0 : M7.2.2.1 3 0 = some 4 := by rw [e7]; simp [sR, sN, sM, sI, sJ, upR, hn6, hr6_3_0]
  have hr7_3_1 : M7.2.2.1 3 1 = some 5 := by rw [e7]; simp [sR, sN, sM, sI, sJ, upR, hn6, hr6_3_1]
  refine tw_iinc 0 [(1, .int 1), (0, .ref (G.b + 3))] d_X5_init_43 rfl (by decide) (Nat.le_of_ble_eq_true rfl) rfl ?_
  refine tw_goto 24 d_X5_init_46 (by decide) ?_
  refine tw_iload_n 0 d_X5_init_24 rfl rfl ?_
  refine tw_bipush d_X5_init_25 kb_6 ?_
  refine tw_icmp_ge 49 d_X5_init_27 (by decide) (fun z => absurd z (by decide)) (fun _ => ?_)
  refine tw_aload_n 1 d_X5_init_30 rfl rfl ?_
  refine tw_getRF (q := 4) f_X5_11 (by rw [hn7]; decide) s_3 ⟨rfl, rfl⟩ hr7_3_0 d_X5_init_31 ?_
  refine tw_iload_n 0 d_X5_init_34 rfl rfl ?_
  refine tw_new n_X5_9 hn7 s_8 ⟨by decide, by decide⟩ d_X5_init_35 (fun M8 e8 hn8 => ?_)
  have hr8_3_0 : M8.2.2.1 3 0 = some 4 := by rw [e8]; simp [sR, sN, sM, sI, sJ, upR, hn7, hr7_3_0]
  have hr8_3_1 : M8.2.2.1 3 1 = some 5 := by rw [e8]; simp [sR, sN, sM, sI, sJ, upR, hn7, hr7_3_1]
  refine tw_dup d_X5_init_38 rfl ?_
  refine tw_callIN (Z := YI_X1) (As := []) (Q' := fun N => N = ri_X1_8 M8 ∧ N.2.2.2 = 10) ci_X1 hni_X5_23 rfl (Nat.le_of_ble_eq_true rfl) ⟨by decide, by decide⟩ d_X5_init_39 (bi_X1_8 hn8  (fun hf => ⟨rfl, hf⟩)) (fun M9 he9 => ?_)
  obtain ⟨e9, hn9⟩ := he9
  have hr9_3_0 : M9.2.2.1 3 0 = some 4 := by rw [e9]; simp [sR, sN, sM, sI, sJ, upR, hn8, hr8_3_0, ri_X1_8]
  have hr9_3_1 : M9.2.2.1 3 1 = some 5 := by rw [e9]; simp [sR, sN, sM, sI, sJ, upR, hn8, hr8_3_1, ri_X1_8]
  refine tw_aast (t := 4) ⟨by decide, by decide, rfl⟩ (ci := 1) rfl (by rw [hn9]; decide) (by rw [hn9]; decide) s_4 s_8 d_X5_init_42 (by unfold vp_in; decide) (fun M10 e10 hn10 => ?_)
  rw [hn9] at hn10
  have hr10_3_0 : M10.2.2.1 3 0 = some 4 := by rw [e10]; simp [sR, sN, sM, sI, sJ, upR, hn9, hr9_3_0]
  have hr10_3_1 : M10.2.2.1 3 1 = some 5 := by rw [e10]; simp [sR, sN, sM, sI, sJ, upR, hn9, hr9_3_1]
  refine tw_iinc 0 [(1, .int 2), (0, .ref (G.b + 3))] d_X5_init_43 rfl (by decide) (Nat.le_of_ble_eq_true rfl) rfl ?_
  refine tw_goto 24 d_X5_init_46 (by decide) ?_
  refine tw_iload_n 0 d_X5_init_24 rfl rfl ?_
  refine tw_bipush d_X5_init_25 kb_6 ?_
  refine tw_icmp_ge 49 d_X5_init_27 (by decide) (fun z => absurd z (by decide)) (fun _ => ?_)
  refine tw_aload_n 1 d_X5_init_30 rfl rfl ?_
  refine tw_getRF (q := 4) f_X5_11 (by rw [hn10]; decide) s_3 ⟨rfl, rfl⟩ hr10_3_0 d_X5_init_31 ?_
  refine tw_iload_n 0 d_X5_init_34 rfl rfl ?_
  refine tw_new n_X5_9 hn10 s_10 ⟨by decide, by decide⟩ d_X5_init_35 (fun M11 e11 hn11 => ?_)
  have hr11_3_0 : M11.2.2.1 3 0 = some 4 := by rw [e11]; simp [sR, sN, sM, sI, sJ, upR, hn10, hr10_3_0]
  have hr11_3_1 : M11.2.2.1 3 1 = some 5 := by rw [e11]; simp [sR, sN, sM, sI, sJ, upR, hn10, hr10_3_1]
  refine tw_dup d_X5_init_38 rfl ?_
  refine tw_callIN (Z := YI_X1) (As := []) (Q' := fun N => N = ri_X1_10 M11 ∧ N.2.2.2 = 12) ci_X1 hni_X5_23 rfl (Nat.le_of_ble_eq_true rfl) ⟨by decide, by decide⟩ d_X5_init_39 (bi_X1_10 hn11  (fun hf => ⟨rfl, hf⟩)) (fun M12 he12 => ?_)
  obtain ⟨e12, hn12⟩ := he12
  have hr12_3_0 : M12.2.2.1 3 0 = some 4 := by rw [e12]; simp [sR, sN, sM, sI, sJ, upR, hn11, hr11_3_0, ri_X1_10]
  have hr12_3_1 : M12.2.2.1 3 1 = some 5 := by rw [e12]; simp [sR, sN, sM, sI, sJ, upR, hn11, hr11_3_1, ri_X1_10]
  refine tw_aast (t := 4) ⟨by decide, by decide, rfl⟩ (ci := 1) rfl (by rw [hn12]; decide) (by rw [hn12]; decide) s_4 s_10 d_X5_init_42 (by unfold vp_in; decide) (fun M13 e13 hn13 => ?_)
  rw [hn12] at hn13
  have hr13_3_0 : M13.2.2.1 3 0 = some 4 := by rw [e13]; simp [sR, sN, sM, sI, sJ, upR, hn12, hr12_3_0]
  have hr13_3_1 : M13.2.2.1 3 1 = some 5 := by rw [e13]; simp [sR, sN, sM, sI, sJ, upR, hn12, hr12_3_1]
  refine tw_iinc 0 [(1, .int 3), (0, .ref (G.b + 3))] d_X5_init_43 rfl (by decide) (Nat.le_of_ble_eq_true rfl) rfl ?_
  refine tw_goto 24 d_X5_init_46 (by decide) ?_
  refine tw_iload_n 0 d_X5_init_24 rfl rfl ?_
  refine tw_bipush d_X5_init_25 kb_6 ?_
  refine tw_icmp_ge 49 d_X5_init_27 (by decide) (fun z => absurd z (by decide)) (fun _ => ?_)
  refine tw_aload_n 1 d_X5_init_30 rfl rfl ?_
  refine tw_getRF (q := 4) f_X5_11 (by rw [hn13]; decide) s_3 ⟨rfl, rfl⟩ hr13_3_0 d_X5_init_31 ?_
  refine tw_iload_n 0 d_X5_init_34 rfl rfl ?_
  refine tw_new n_X5_9 hn13 s_12 ⟨by decide, by decide⟩ d_X5_init_35 (fun M14 e14 hn14 => ?_)
  have hr14_3_0 : M14.2.2.1 3 0 = some 4 := by rw [e14]; simp [sR, sN, sM, sI, sJ, upR, hn13, hr13_3_0]
  have hr14_3_1 : M14.2.2.1 3 1 = some 5 := by rw [e14]; simp [sR, sN, sM, sI, sJ, upR, hn13, hr13_3_1]
  refine tw_dup d_X5_init_38 rfl ?_
  refine tw_callIN (Z := YI_X1) (As := []) (Q' := fun N => N = ri_X1_12 M14 ∧ N.2.2.2 = 14) ci_X1 hni_X5_23 rfl (Nat.le_of_ble_eq_true rfl) ⟨by decide, by decide⟩ d_X5_init_39 (bi_X1_12 hn14  (fun hf => ⟨rfl, hf⟩)) (fun M15 he15 => ?_)
  obtain ⟨e15, hn15⟩ := he15
  have hr15_3_0 : M15.2.2.1 3 0 = some 4 := by rw [e15]; simp [sR, sN, sM, sI, sJ, upR, hn14, hr14_3_0, ri_X1_12]
  have hr15_3_1 : M15.2.2.1 3 1 = some 5 := by rw [e15]; simp [sR, sN, sM, sI, sJ, upR, hn14, hr14_3_1, ri_X1_12]
  refine tw_aast (t := 4) ⟨by decide, by decide, rfl⟩ (ci := 1) rfl (by rw [hn15]; decide) (by rw [hn15]; decide) s_4 s_12 d_X5_init_42 (by unfold vp_in; decide) (fun M16 e16 hn16 => ?_)
  rw [hn15] at hn16
  have hr16_3_0 : M16.2.2.1 3 0 = some 4 := by rw [e16]; simp [sR, sN, sM, sI, sJ, upR, hn15, hr15_3_0]
  have hr16_3_1 : M16.2.2.1 3 1 = some 5 := by rw [e16]; simp [sR, sN, sM, sI, sJ, upR, hn15, hr15_3_1]
  refine tw_iinc 0 [(1, .int 4), (0, .ref (G.b + 3))] d_X5_init_43 rfl (by decide) (Nat.le_of_ble_eq_true rfl) rfl ?_
  refine tw_goto 24 d_X5_init_46 (by decide) ?_
  refine tw_iload_n 0 d_X5_init_24 rfl rfl ?_
  refine tw_bipush d_X5_init_25 kb_6 ?_
  refine tw_icmp_ge 49 d_X5_init_27 (by decide) (fun z => absurd z (by decide)) (fun _ => ?_)
  refine tw_aload_n 1 d_X5_init_30 rfl rfl ?_
  refine tw_getRF (q := 4) f_X5_11 (by rw [hn16]; decide) s_3 ⟨rfl, rfl⟩ hr16_3_0 d_X5_init_31 ?_
  refine tw_iload_n 0 d_X5_init_34 rfl rfl ?_
  refine tw_new n_X5_9 hn16 s_14 ⟨by decide, by decide⟩ d_X5_init_35 (fun M17 e17 hn17 => ?_)
  have hr17_3_0 : M17.2.2.1 3 0 = some 4 := by rw [e17]; simp [sR, sN, sM, sI, sJ, upR, hn16, hr16_3_0]
  have hr17_3_1 : M17.2.2.1 3 1 = some 5 := by rw [e17]; simp [sR, sN, sM, sI, sJ, upR, hn16, hr16_3_1]
  refine tw_dup d_X5_init_38 rfl ?_
  refine tw_callIN (Z := YI_X1) (As := []) (Q' := fun N => N = ri_X1_14 M17 ∧ N.2.2.2 = 16) ci_X1 hni_X5_23 rfl (Nat.le_of_ble_eq_true rfl) ⟨by decide, by decide⟩ d_X5_init_39 (bi_X1_14 hn17  (fun hf => ⟨rfl, hf⟩)) (fun M18 he18 => ?_)
  obtain ⟨e18, hn18⟩ := he18
  have hr18_3_0 : M18.2.2.1 3 0 = some 4 := by rw [e18]; simp [sR, sN, sM, sI, sJ, upR, hn17, hr17_3_0, ri_X1_14]
  have hr18_3_1 : M18.2.2.1 3 1 = some 5 := by rw [e18]; simp [sR, sN, sM, sI, sJ, upR, hn17, hr17_3_1, ri_X1_14]
  refine tw_aast (t := 4) ⟨by decide, by decide, rfl⟩ (ci := 1) rfl (by rw [hn18]; decide) (by rw [hn18]; decide) s_4 s_14 d_X5_init_42 (by unfold vp_in; decide) (fun M19 e19 hn19 => ?_)
  rw [hn18] at hn19
  have hr19_3_0 : M19.2.2.1 3 0 = some 4 := by rw [e19]; simp [sR, sN, sM, sI, sJ, upR, hn18, hr18_3_0]
  have hr19_3_1 : M19.2.2.1 3 1 = some 5 := by rw [e19]; simp [sR, sN, sM, sI, sJ, upR, hn18, hr18_3_1]
  refine tw_iinc 0 [(1, .int 5), (0, .ref (G.b + 3))] d_X5_init_43 rfl (by decide) (Nat.le_of_ble_eq_true rfl) rfl ?_
  refine tw_goto 24 d_X5_init_46 (by decide) ?_
  refine tw_iload_n 0 d_X5_init_24 rfl rfl ?_
  refine tw_bipush d_X5_init_25 kb_6 ?_
  refine tw_icmp_ge 49 d_X5_init_27 (by decide) (fun z => absurd z (by decide)) (fun _ => ?_)
  refine tw_aload_n 1 d_X5_init_30 rfl rfl ?_
  refine tw_getRF (q := 4) f_X5_11 (by rw [hn19]; decide) s_3 ⟨rfl, rfl⟩ hr19_3_0 d_X5_init_31 ?_
  refine tw_iload_n 0 d_X5_init_34 rfl rfl ?_
  refine tw_new n_X5_9 hn19 s_16 ⟨by decide, by decide⟩ d_X5_init_35 (fun M20 e20 hn20 => ?_)
  have hr20_3_0 : M20.2.2.1 3 0 = some 4 := by rw [e20]; simp [sR, sN, sM, sI, sJ, upR, hn19, hr19_3_0]
  have hr20_3_1 : M20.2.2.1 3 1 = some 5 := by rw [e20]; simp [sR, sN, sM, sI, sJ, upR, hn19, hr19_3_1]
  refine tw_dup d_X5_init_38 rfl ?_
  refine tw_callIN (Z := YI_X1) (As := []) (Q' := fun N => N = ri_X1_16 M20 ∧ N.2.2.2 = 18) ci_X1 hni_X5_23 rfl (Nat.le_of_ble_eq_true rfl) ⟨by decide, by decide⟩ d_X5_init_39 (bi_X1_16 hn20  (fun hf => ⟨rfl, hf⟩)) (fun M21 he21 => ?_)
  obtain ⟨e21, hn21⟩ := he21
  have hr21_3_0 : M21.2.2.1 3 0 = some 4 := by rw [e21]; simp [sR, sN, sM, sI, sJ, upR, hn20, hr20_3_0, ri_X1_16]
  have hr21_3_1 : M21.2.2.1 3 1 = some 5 := by rw [e21]; simp [sR, sN, sM, sI, sJ, upR, hn20, hr20_3_1, ri_X1_16]
  refine tw_aast (t := 4) ⟨by decide, by decide, rfl⟩ (ci := 1) rfl (by rw [hn21]; decide) (by rw [hn21]; decide) s_4 s_16 d_X5_init_42 (by unfold vp_in; decide) (fun M22 e22 hn22 => ?_)
  rw [hn21] at hn22
  have hr22_3_0 : M22.2.2.1 3 0 = some 4 := by rw [e22]; simp [sR, sN, sM, sI, sJ, upR, hn21, hr21_3_0]
  have hr22_3_1 : M22.2.2.1 3 1 = some 5 := by rw [e22]; simp [sR, sN, sM, sI, sJ, upR, hn21, hr21_3_1]
  refine tw_iinc 0 [(1, .int 6), (0, .ref (G.b + 3))] d_X5_init_43 rfl (by decide) (Nat.le_of_ble_eq_true rfl) rfl ?_
  refine tw_goto 24 d_X5_init_46 (by decide) ?_
  refine tw_iload_n 0 d_X5_init_24 rfl rfl ?_
  refine tw_bipush d_X5_init_25 kb_6 ?_
  refine tw_icmp_ge 49 d_X5_init_27 (by decide) (fun _ => ?_) (fun z => absurd (by decide) z)
  refine tw_iconst d_X5_init_49 k_0 ?_
  refine tw_istore_n [(1, .int 0), (0, .ref (G.b + 3))] d_X5_init_50 rfl (Nat.le_of_ble_eq_true rfl) rfl ?_
  refine tw_iload_n 0 d_X5_init_51 rfl rfl ?_
  refine tw_bipush d_X5_init_52 kb_7 ?_
  refine tw_icmp_ge 76 d_X5_init_54 (by decide) (fun z => absurd z (by decide)) (fun _ => ?_)
  refine tw_aload_n 1 d_X5_init_57 rfl rfl ?_
  refine tw_getRF (q := 5) f_X5_19 (by rw [hn22]; decide) s_3 ⟨rfl, rfl⟩ hr22_3_1 d_X5_init_58 ?_
  refine tw_iload_n 0 d_X5_init_61 rfl rfl ?_
  refine tw_new n_X5_17 hn22 s_18 ⟨by decide, by decide⟩ d_X5_init_62 (fun M23 e23 hn23 => ?_)
  have hr23_3_0 : M23.2.2.1 3 0 = some 4 := by rw [e23]; simp [sR, sN, sM, sI, sJ, upR, hn22, hr22_3_0]
  have hr23_3_1 : M23.2.2.1 3 1 = some 5 := by rw [e23]; simp [sR, sN, sM, sI, sJ, upR, hn22, hr22_3_1]
  refine tw_dup d_X5_init_65 rfl ?_
  refine tw_callIN (Z := YI_X2) (As := []) (Q' := fun N => N = ri_X2_18 M23 ∧ N.2.2.2 = 21) ci_X2 hni_X5_24 rfl (Nat.le_of_ble_eq_true rfl) ⟨by decide, by decide⟩ d_X5_init_66 (bi_X2_18 hn23  (fun hf => ⟨rfl, hf⟩)) (fun M24 he24 => ?_)
  obtain ⟨e24, hn24⟩ := he24
  have hr24_3_0 : M24.2.2.1 3 0 = some 4 := by rw [e24]; simp [sR, sN, sM, sI, sJ, upR, hn23, hr23_3_0, ri_X2_18]
  have hr24_3_1 : M24.2.2.1 3 1 = some 5 := by rw [e24]; simp [sR, sN, sM, sI, sJ, upR, hn23, hr23_3_1, ri_X2_18]
  refine tw_aast (t := 5) ⟨by decide, by decide, rfl⟩ (ci := 2) rfl (by rw [hn24]; decide) (by rw [hn24]; decide) s_5 s_18 d_X5_init_69 (by unfold vp_in; decide) (fun M25 e25 hn25 => ?_)
  rw [hn24] at hn25
  have hr25_3_0 : M25.2.2.1 3 0 = some 4 := by rw [e25]; simp [sR, sN, sM, sI, sJ, upR, hn24, hr24_3_0]
  have hr25_3_1 : M25.2.2.1 3 1 = some 5 := by rw [e25]; simp [sR, sN, sM, sI, sJ, upR, hn24, hr24_3_1]
  refine tw_iinc 0 [(1, .int 1), (0, .ref (G.b + 3))] d_X5_init_70 rfl (by decide) (Nat.le_of_ble_eq_true rfl) rfl ?_
  refine tw_goto 51 d_X5_init_73 (by decide) ?_
  refine tw_iload_n 0 d_X5_init_51 rfl rfl ?_
  refine tw_bipush d_X5_init_52 kb_7 ?_
  refine tw_icmp_ge 76 d_X5_init_54 (by decide) (fun z => absurd z (by decide)) (fun _ => ?_)
  refine tw_aload_n 1 d_X5_init_57 rfl rfl ?_
  refine tw_getRF (q := 5) f_X5_19 (by rw [hn25]; decide) s_3 ⟨rfl, rfl⟩ hr25_3_1 d_X5_init_58 ?_
  refine tw_iload_n 0 d_X5_init_61 rfl rfl ?_
  refine tw_new n_X5_17 hn25 s_21 ⟨by decide, by decide⟩ d_X5_init_62 (fun M26 e26 hn26 => ?_)
  have hr26_3_0 : M26.2.2.1 3 0 = some 4 := by rw [e26]; simp [sR, sN, sM, sI, sJ, upR, hn25, hr25_3_0]
  have hr26_3_1 : M26.2.2.1 3 1 = some 5 := by rw [e26]; simp [sR, sN, sM, sI, sJ, upR, hn25, hr25_3_1]
  refine tw_dup d_X5_init_65 rfl ?_
  refine tw_callIN (Z := YI_X2) (As := []) (Q' := fun N => N = ri_X2_21 M26 ∧ N.2.2.2 = 24) ci_X2 hni_X5_24 rfl (Nat.le_of_ble_eq_true rfl) ⟨by decide, by decide⟩ d_X5_init_66 (bi_X2_21 hn26  (fun hf => ⟨rfl, hf⟩)) (fun M27 he27 => ?_)
  obtain ⟨e27, hn27⟩ := he27
  have hr27_3_0 : M27.2.2.1 3 0 = some 4 := by rw [e27]; simp [sR, sN, sM, sI, sJ, upR, hn26, hr26_3_0, ri_X2_21]
  have hr27_3_1 : M27.2.2.1 3 1 = some 5 := by rw [e27]; simp [sR, sN, sM, sI, sJ, upR, hn26, hr26_3_1, ri_X2_21]
  refine tw_aast (t := 5) ⟨by decide, by decide, rfl⟩ (ci := 2) rfl (by rw [hn27]; decide) (by rw [hn27]; decide) s_5 s_21 d_X5_init_69 (by unfold vp_in; decide) (fun M28 e28 hn28 => ?_)
  rw [hn27] at hn28
  have hr28_3_0 : M28.2.2.1 3 0 = some 4 := by rw [e28]; simp [sR, sN, sM, sI, sJ, upR, hn27, hr27_3_0]
  have hr28_3_1 : M28.2.2.1 3 1 = some 5 := by rw [e28]; simp [sR, sN, sM, sI, sJ, upR, hn27, hr27_3_1]
  refine tw_iinc 0 [(1, .int 2), (0, .ref (G.b + 3))] d_X5_init_70 rfl (by decide) (Nat.le_of_ble_eq_true rfl) rfl ?_
  refine tw_goto 51 d_X5_init_73 (by decide) ?_
  refine tw_iload_n 0 d_X5_init_51 rfl rfl ?_
  refine tw_bipush d_X5_init_52 kb_7 ?_
  refine tw_icmp_ge 76 d_X5_init_54 (by decide) (fun z => absurd z (by decide)) (fun _ => ?_)
  refine tw_aload_n 1 d_X5_init_57 rfl rfl ?_
  refine tw_getRF (q := 5) f_X5_19 (by rw [hn28]; decide) s_3 ⟨rfl, rfl⟩ hr28_3_1 d_X5_init_58 ?_
  refine tw_iload_n 0 d_X5_init_61 rfl rfl ?_
  refine tw_new n_X5_17 hn28 s_24 ⟨by decide, by decide⟩ d_X5_init_62 (fun M29 e29 hn29 => ?_)
  have hr29_3_0 : M29.2.2.1 3 0 = some 4 := by rw [e29]; simp [sR, sN, sM, sI, sJ, upR, hn28, hr28_3_0]
  have hr29_3_1 : M29.2.2.1 3 1 = some 5 := by rw [e29]; simp [sR, sN, sM, sI, sJ, upR, hn28, hr28_3_1]
  refine tw_dup d_X5_init_65 rfl ?_
  refine tw_callIN (Z := YI_X2) (As := []) (Q' := fun N => N = ri_X2_24 M29 ∧ N.2.2.2 = 27) ci_X2 hni_X5_24 rfl (Nat.le_of_ble_eq_true rfl) ⟨by decide, by decide⟩ d_X5_init_66 (bi_X2_24 hn29  (fun hf => ⟨rfl, hf⟩)) (fun M30 he30 => ?_)
  obtain ⟨e30, hn30⟩ := he30
  have hr30_3_0 : M30.2.2.1 3 0 = some 4 := by rw [e30]; simp [sR, sN, sM, sI, sJ, upR, hn29, hr29_3_0, ri_X2_24]
  have hr30_3_1 : M30.2.2.1 3 1 = some 5 := by rw [e30]; simp [sR, sN, sM, sI, sJ, upR, hn29, hr29_3_1, ri_X2_24]
  refine tw_aast (t := 5) ⟨by decide, by decide, rfl⟩ (ci := 2) rfl (by rw [hn30]; decide) (by rw [hn30]; decide) s_5 s_24 d_X5_init_69 (by unfold vp_in; decide) (fun M31 e31 hn31 => ?_)
  rw [hn30] at hn31
  have hr31_3_0 : M31.2.2.1 3 0 = some 4 := by rw [e31]; simp [sR, sN, sM, sI, sJ, upR, hn30, hr30_3_0]
  have hr31_3_1 : M31.2.2.1 3 1 = some 5 := by rw [e31]; simp [sR, sN, sM, sI, sJ, upR, hn30, hr30_3_1]
  refine tw_iinc 0 [(1, .int 3), (0, .ref (G.b + 3))] d_X5_init_70 rfl (by decide) (Nat.le_of_ble_eq_true rfl) rfl ?_
  refine tw_goto 51 d_X5_init_73 (by decide) ?_
  refine tw_iload_n 0 d_X5_init_51 rfl rfl ?_
  refine tw_bipush d_X5_init_52 kb_7 ?_
  refine tw_icmp_ge 76 d_X5_init_54 (by decide) (fun z => absurd z (by decide)) (fun _ => ?_)
  refine tw_aload_n 1 d_X5_init_57 rfl rfl ?_
  refine tw_getRF (q := 5) f_X5_19 (by rw [hn31]; decide) s_3 ⟨rfl, rfl⟩ hr31_3_1 d_X5_init_58 ?_
  refine tw_iload_n 0 d_X5_init_61 rfl rfl ?_
  refine tw_new n_X5_17 hn31 s_27 ⟨by decide, by decide⟩ d_X5_init_62 (fun M32 e32 hn32 => ?_)
  have hr32_3_0 : M32.2.2.1 3 0 = some 4 := by rw [e32]; simp [sR, sN, sM, sI, sJ, upR, hn31, hr31_3_0]
  have hr32_3_1 : M32.2.2.1 3 1 = some 5 := by rw [e32]; simp [sR, sN, sM, sI, sJ, upR, hn31, hr31_3_1]
  refine tw_dup d_X5_init_65 rfl ?_
  refine tw_callIN (Z := YI_X2) (As := []) (Q' := fun N => N = ri_X2_27 M32 ∧ N.2.2.2 = 30) ci_X2 hni_X5_24 rfl (Nat.le_of_ble_eq_true rfl) ⟨by decide, by decide⟩ d_X5_init_66 (bi_X2_27 hn32  (fun hf => ⟨rfl, hf⟩)) (fun M33 he33 => ?_)
  obtain ⟨e33, hn33⟩ := he33
  have hr33_3_0 : M33.2.2.1 3 0 = some 4 := by rw [e33]; simp [sR, sN, sM, sI, sJ, upR, hn32, hr32_3_0, ri_X2_27]
  have hr33_3_1 : M33.2.2.1 3 1 = some 5 := by rw [e33]; simp [sR, sN, sM, sI, sJ, upR, hn32, hr32_3_1, ri_X2_27]
  refine tw_aast (t := 5) ⟨by decide, by decide, rfl⟩ (ci := 2) rfl (by rw [hn33]; decide) (by rw [hn33]; decide) s_5 s_27 d_X5_init_69 (by unfold vp_in; decide) (fun M34 e34 hn34 => ?_)
  rw [hn33] at hn34
  have hr34_3_0 : M34.2.2.1 3 0 = some 4 := by rw [e34]; simp [sR, sN, sM, sI, sJ, upR, hn33, hr33_3_0]
  have hr34_3_1 : M34.2.2.1 3 1 = some 5 := by rw [e34]; simp [sR, sN, sM, sI, sJ, upR, hn33, hr33_3_1]
  refine tw_iinc 0 [(1, .int 4), (0, .ref (G.b + 3))] d_X5_init_70 rfl (by decide) (Nat.le_of_ble_eq_true rfl) rfl ?_
  refine tw_goto 51 d_X5_init_73 (by decide) ?_
  refine tw_iload_n 0 d_X5_init_51 rfl rfl ?_
  refine tw_bipush d_X5_init_52 kb_7 ?_
  refine tw_icmp_ge 76 d_X5_init_54 (by decide) (fun z => absurd z (by decide)) (fun _ => ?_)
  refine tw_aload_n 1 d_X5_init_57 rfl rfl ?_
  refine tw_getRF (q := 5) f_X5_19 (by rw [hn34]; decide) s_3 ⟨rfl, rfl⟩ hr34_3_1 d_X5_init_58 ?_
  refine tw_iload_n 0 d_X5_init_61 rfl rfl ?_
  refine tw_new n_X5_17 hn34 s_30 ⟨by decide, by decide⟩ d_X5_init_62 (fun M35 e35 hn35 => ?_)
  have hr35_3_0 : M35.2.2.1 3 0 = some 4 := by rw [e35]; simp [sR, sN, sM, sI, sJ, upR, hn34, hr34_3_0]
  have hr35_3_1 : M35.2.2.1 3 1 = some 5 := by rw [e35]; simp [sR, sN, sM, sI, sJ, upR, hn34, hr34_3_1]
  refine tw_dup d_X5_init_65 rfl ?_
  refine tw_callIN (Z := YI_X2) (As := []) (Q' := fun N => N = ri_X2_30 M35 ∧ N.2.2.2 = 33) ci_X2 hni_X5_24 rfl (Nat.le_of_ble_eq_true rfl) ⟨by decide, by decide⟩ d_X5_init_66 (bi_X2_30 hn35  (fun hf => ⟨rfl, hf⟩)) (fun M36 he36 => ?_)
  obtain ⟨e36, hn36⟩ := he36
  have hr36_3_0 : M36.2.2.1 3 0 = some 4 := by rw [e36]; simp [sR, sN, sM, sI, sJ, upR, hn35, hr35_3_0, ri_X2_30]
  have hr36_3_1 : M36.2.2.1 3 1 = some 5 := by rw [e36]; simp [sR, sN, sM, sI, sJ, upR, hn35, hr35_3_1, ri_X2_30]
  refine tw_aast (t := 5) ⟨by decide, by decide, rfl⟩ (ci := 2) rfl (by rw [hn36]; decide) (by rw [hn36]; decide) s_5 s_30 d_X5_init_69 (by unfold vp_in; decide) (fun M37 e37 hn37 => ?_)
  rw [hn36] at hn37
  have hr37_3_0 : M37.2.2.1 3 0 = some 4 := by rw [e37]; simp [sR, sN, sM, sI, sJ, upR, hn36, hr36_3_0]
  have hr37_3_1 : M37.2.2.1 3 1 = some 5 := by rw [e37]; simp [sR, sN, sM, sI, sJ, upR, hn36, hr36_3_1]
  refine tw_iinc 0 [(1, .int 5), (0, .ref (G.b + 3))] d_X5_init_70 rfl (by decide) (Nat.le_of_ble_eq_true rfl) rfl ?_
  refine tw_goto 51 d_X5_init_73 (by decide) ?_
  refine tw_iload_n 0 d_X5_init_51 rfl rfl ?_
  refine tw_bipush d_X5_init_52 kb_7 ?_
  refine tw_icmp_ge 76 d_X5_init_54 (by decide) (fun z => absurd z (by decide)) (fun _ => ?_)
  refine tw_aload_n 1 d_X5_init_57 rfl rfl ?_
  refine tw_getRF (q := 5) f_X5_19 (by rw [hn37]; decide) s_3 ⟨rfl, rfl⟩ hr37_3_1 d_X5_init_58 ?_
  refine tw_iload_n 0 d_X5_init_61 rfl rfl ?_
  refine tw_new n_X5_17 hn37 s_33 ⟨by decide, by decide⟩ d_X5_init_62 (fun M38 e38 hn38 => ?_)
  have hr38_3_0 : M38.2.2.1 3 0 = some 4 := by rw [e38]; simp [sR, sN, sM, sI, sJ, upR, hn37, hr37_3_0]
  have hr38_3_1 : M38.2.2.1 3 1 = some 5 := by rw [e38]; simp [sR, sN, sM, sI, sJ, upR, hn37, hr37_3_1]
  refine tw_dup d_X5_init_65 rfl ?_
  refine tw_callIN (Z := YI_X2) (As := []) (Q' := fun N => N = ri_X2_33 M38 ∧ N.2.2.2 = 36) ci_X2 hni_X5_24 rfl (Nat.le_of_ble_eq_true rfl) ⟨by decide, by decide⟩ d_X5_init_66 (bi_X2_33 hn38  (fun hf => ⟨rfl, hf⟩)) (fun M39 he39 => ?_)
  obtain ⟨e39, hn39⟩ := he39
  have hr39_3_0 : M39.2.2.1 3 0 = some 4 := by rw [e39]; simp [sR, sN, sM, sI, sJ, upR, hn38, hr38_3_0, ri_X2_33]
  have hr39_3_1 : M39.2.2.1 3 1 = some 5 := by rw [e39]; simp [sR, sN, sM, sI, sJ, upR, hn38, hr38_3_1, ri_X2_33]
  refine tw_aast (t := 5) ⟨by decide, by decide, rfl⟩ (ci := 2) rfl (by rw [hn39]; decide) (by rw [hn39]; decide) s_5 s_33 d_X5_init_69 (by unfold vp_in; decide) (fun M40 e40 hn40 => ?_)
  rw [hn39] at hn40
  have hr40_3_0 : M40.2.2.1 3 0 = some 4 := by rw [e40]; simp [sR, sN, sM, sI, sJ, upR, hn39, hr39_3_0]
  have hr40_3_1 : M40.2.2.1 3 1 = some 5 := by rw [e40]; simp [sR, sN, sM, sI, sJ, upR, hn39, hr39_3_1]
  refine tw_iinc 0 [(1, .int 6), (0, .ref (G.b + 3))] d_X5_init_70 rfl (by decide) (Nat.le_of_ble_eq_true rfl) rfl ?_
  refine tw_goto 51 d_X5_init_73 (by decide) ?_
  refine tw_iload_n 0 d_X5_init_51 rfl rfl ?_
  refine tw_bipush d_X5_init_52 kb_7 ?_
  refine tw_icmp_ge 76 d_X5_init_54 (by decide) (fun z => absurd z (by decide)) (fun _ => ?_)
  refine tw_aload_n 1 d_X5_init_57 rfl rfl ?_
  refine tw_getRF (q := 5) f_X5_19 (by rw [hn40]; decide) s_3 ⟨rfl, rfl⟩ hr40_3_1 d_X5_init_58 ?_
  refine tw_iload_n 0 d_X5_init_61 rfl rfl ?_
  refine tw_new n_X5_17 hn40 s_36 ⟨by decide, by decide⟩ d_X5_init_62 (fun M41 e41 hn41 => ?_)
  have hr41_3_0 : M41.2.2.1 3 0 = some 4 := by rw [e41]; simp [sR, sN, sM, sI, sJ, upR, hn40, hr40_3_0]
  have hr41_3_1 : M41.2.2.1 3 1 = some 5 := by rw [e41]; simp [sR, sN, sM, sI, sJ, upR, hn40, hr40_3_1]
  refine tw_dup d_X5_init_65 rfl ?_
  refine tw_callIN (Z := YI_X2) (As := []) (Q' := fun N => N = ri_X2_36 M41 ∧ N.2.2.2 = 39) ci_X2 hni_X5_24 rfl (Nat.le_of_ble_eq_true rfl) ⟨by decide, by decide⟩ d_X5_init_66 (bi_X2_36 hn41  (fun hf => ⟨rfl, hf⟩)) (fun M42 he42 => ?_)
  obtain ⟨e42, hn42⟩ := he42
  have hr42_3_0 : M42.2.2.1 3 0 = some 4 := by rw [e42]; simp [sR, sN, sM, sI, sJ, upR, hn41, hr41_3_0, ri_X2_36]
  have hr42_3_1 : M42.2.2.1 3 1 = some 5 := by rw [e42]; simp [sR, sN, sM, sI, sJ, upR, hn41, hr41_3_1, ri_X2_36]
  refine tw_aast (t := 5) ⟨by decide, by decide, rfl⟩ (ci := 2) rfl (by rw [hn42]; decide) (by rw [hn42]; decide) s_5 s_36 d_X5_init_69 (by unfold vp_in; decide) (fun M43 e43 hn43 => ?_)
  rw [hn42] at hn43
  have hr43_3_0 : M43.2.2.1 3 0 = some 4 := by rw [e43]; simp [sR, sN, sM, sI, sJ, upR, hn42, hr42_3_0]
  have hr43_3_1 : M43.2.2.1 3 1 = some 5 := by rw [e43]; simp [sR, sN, sM, sI, sJ, upR, hn42, hr42_3_1]
  refine tw_iinc 0 [(1, .int 7), (0, .ref (G.b + 3))] d_X5_init_70 rfl (by decide) (Nat.le_of_ble_eq_true rfl) rfl ?_
  refine tw_goto 51 d_X5_init_73 (by decide) ?_
  refine tw_iload_n 0 d_X5_init_51 rfl rfl ?_
  refine tw_bipush d_X5_init_52 kb_7 ?_
  refine tw_icmp_ge 76 d_X5_init_54 (by decide) (fun _ => ?_) (fun z => absurd (by decide) z)
  refine tw_vret rfl ⟨by decide, by decide⟩ d_X5_init_76 ?_
  have hf : M43.2.2.2 = 39 := hn43
  rw [e43] at hf
  rw [e42] at hf
  rw [e41] at hf
  rw [e40] at hf
  rw [e39] at hf
  rw [e38] at hf
  rw [e37] at hf
  rw [e36] at hf
  rw [e35] at hf
  rw [e34] at hf
  rw [e33] at hf
  rw [e32] at hf
  rw [e31] at hf
  rw [e30] at hf
  rw [e29] at hf
  rw [e28] at hf
  rw [e27] at hf
  rw [e26] at hf
  rw [e25] at hf
  rw [e24] at hf
  rw [e23] at hf
  rw [e22] at hf
  rw [e21] at hf
  rw [e20] at hf
  rw [e19] at hf
  rw [e18] at hf
  rw [e17] at hf
  rw [e16] at hf
  rw [e15] at hf
  rw [e14] at hf
  rw [e13] at hf
  rw [e12] at hf
  rw [e11] at hf
  rw [e10] at hf
  rw [e9] at hf
  rw [e8] at hf
  rw [e7] at hf
  rw [e6] at hf
  rw [e5] at hf
  rw [e4] at hf
  rw [e3] at hf
  rw [e2] at hf
  rw [e1] at hf
  rw [e43]
  rw [e42]
  rw [e41]
  rw [e40]
  rw [e39]
  rw [e38]
  rw [e37]
  rw [e36]
  rw [e35]
  rw [e34]
  rw [e33]
  rw [e32]
  rw [e31]
  rw [e30]
  rw [e29]
  rw [e28]
  rw [e27]
  rw [e26]
  rw [e25]
  rw [e24]
  rw [e23]
  rw [e22]
  rw [e21]
  rw [e20]
  rw [e19]
  rw [e18]
  rw [e17]
  rw [e16]
  rw [e15]
  rw [e14]
  rw [e13]
  rw [e12]
  rw [e11]
  rw [e10]
  rw [e9]
  rw [e8]
  rw [e7]
  rw [e6]
  rw [e5]
  rw [e4]
  rw [e3]
  rw [e2]
  rw [e1]
  exact hQ hf
theorem mg65 : Cond.instanceMethod yX5_init ∈ lw_good := List.mem_filter.mpr ⟨List.mem_append_right _ (List.mem_of_getElem? (i := 65) (by decide +kernel)), by decide +kernel⟩
theorem mg66 : Cond.code yX5_init cX5_init 2 none ∈ lw_good := List.mem_filter.mpr ⟨List.mem_append_right _ (List.mem_of_getElem? (i := 66) (by decide +kernel)), by decide +kernel⟩
theorem ci_X5 : ciOK 0 YI_X5 := ⟨⟨mg65, mg3, mg66⟩, ⟨by decide +kernel, by decide +kernel⟩, by decide +kernel, by decide, rfl, rfl⟩
theorem mg64 : Cond.methodLink RX11 18 YI_X5.y ∈ lw_good := List.mem_filter.mpr ⟨List.mem_append_right _ (List.mem_of_getElem? (i := 64) (by decide +kernel)), by decide +kernel⟩
def ri_X1_42 (M : Mm) : Mm := (sR (sN M) 42 2 (some 43))
set_option maxRecDepth 100000 in
theorem bi_X1_42 {G : MG} {d : Nat} {Q : Mm → Prop} {M : Mm} (hn : M.2.2.2 = 43)  (hQ : (ri_X1_42 M).2.2.2 = 44 → Q (ri_X1_42 M)) : C G YI_X1 (d + 1) [.ref (G.b + 42)] M (Rv Q) := by
  refine C.of (by decide) (Nat.le_of_ble_eq_true rfl) (lv := [(0, .ref (G.b + 42))]) rfl ?_
  refine tw_aload_n 0 d_X1_init_0 rfl rfl ?_
  refine tw_objinit ⟨mg76, mg30, mg31⟩ (Nat.le_of_ble_eq_true rfl) d_X1_init_1 ?_
  refine tw_aload_n 0 d_X1_init_4 rfl rfl ?_
  refine tw_iconst d_X1_init_5 k_4 ?_
  refine tw_newa (ty := .int) (t := 0) (N := 4) rfl ⟨by decide, rfl, by simp, fun M' => na_0 G M' 4⟩ mg128 hn s_43 (by decide) ⟨by decide, by decide⟩ d_X1_init_6 (fun M1 e1 hn1 => ?_)
  refine tw_putRF f_X1_9 (by rw [hn1]; decide) s_42 (Or.inr rfl) ⟨rfl, rfl⟩ d_X1_init_8 (fun M2 e2 hn2 => ?_)
  rw [hn1] at hn2
  refine tw_vret rfl ⟨by decide, by decide⟩ d_X1_init_11 ?_
  have hf : M2.2.2.2 = 44 := hn2
  rw [e2] at hf
  rw [e1] at hf
  rw [e2]
  rw [e1]
  exact hQ hf
def ri_X1_44 (M : Mm) : Mm := (sR (sN M) 44 2 (some 45))
set_option maxRecDepth 100000 in
theorem bi_X1_44 {G : MG} {d : Nat} {Q : Mm → Prop} {M : Mm} (hn : M.2.2.2 = 45)  (hQ : (ri_X1_44 M).2.2.2 = 46 → Q (ri_X1_44 M)) : C G YI_X1 (d + 1) [.ref (G.b + 44)] M (Rv Q) := by
  refine C.of (by decide) (Nat.le_of_ble_eq_true rfl) (lv := [(0, .ref (G.b + 44))]) rfl ?_
  refine tw_aload_n 0 d_X1_init_0 rfl rfl ?_
  refine tw_objinit ⟨mg76, mg30, mg31⟩ (Nat.le_of_ble_eq_true rfl) d_X1_init_1 ?_
  refine tw_aload_n 0 d_X1_init_4 rfl rfl ?_
  refine tw_iconst d_X1_init_5 k_4 ?_
  refine tw_newa (ty := .int) (t := 0) (N := 4) rfl ⟨by decide, rfl, by simp, fun M' => na_0 G M' 4⟩ mg128 hn s_45 (by decide) ⟨by decide, by decide⟩ d_X1_init_6 (fun M1 e1 hn1 => ?_)
  refine tw_putRF f_X1_9 (by rw [hn1]; decide) s_44 (Or.inr rfl) ⟨rfl, rfl⟩ d_X1_init_8 (fun M2 e2 hn2 => ?_)
  rw [hn1] at hn2
  refine tw_vret rfl ⟨by decide, by decide⟩ d_X1_init_11 ?_
  have hf : M2.2.2.2 = 46 := hn2
  rw [e2] at hf
  rw [e1] at hf
  rw [e2]
  rw [e1]
  exact hQ hf
def ri_X1_46 (M : Mm) : Mm := (sR (sN M) 46 2 (some 47))
set_option maxRecDepth 100000 in
theorem bi_X1_46 {G : MG} {d : Nat} {Q : Mm → Prop} {M : Mm} (hn : M.2.2.2 = 47)  (hQ : (ri_X1_46 M).2.2.2 = 48 → Q (ri_X1_46 M)) : C G YI_X1 (d + 1) [.ref (G.b + 46)] M (Rv Q) := by
  refine C.of (by decide) (Nat.le_of_ble_eq_true rfl) (lv := [(0, .ref (G.b + 46))]) rfl ?_
  refine tw_aload_n 0 d_X1_init_0 rfl rfl ?_
  refine tw_objinit ⟨mg76, mg30, mg31⟩ (Nat.le_of_ble_eq_true rfl) d_X1_init_1 ?_
  refine tw_aload_n 0 d_X1_init_4 rfl rfl ?_
  refine tw_iconst d_X1_init_5 k_4 ?_
  refine tw_newa (ty := .int) (t := 0) (N := 4) rfl ⟨by decide, rfl, by simp, fun M' => na_0 G M' 4⟩ mg128 hn s_47 (by decide) ⟨by decide, by decide⟩ d_X1_init_6 (fun M1 e1 hn1 => ?_)
  refine tw_putRF f_X1_9 (by rw [hn1]; decide) s_46 (Or.inr rfl) ⟨rfl, rfl⟩ d_X1_init_8 (fun M2 e2 hn2 => ?_)
  rw [hn1] at hn2
  refine tw_vret rfl ⟨by decide, by decide⟩ d_X1_init_11 ?_
  have hf : M2.2.2.2 = 48 := hn2
  rw [e2] at hf
  rw [e1] at hf
  rw [e2]
  rw [e1]
  exact hQ hf
def ri_X1_48 (M : Mm) : Mm := (sR (sN M) 48 2 (some 49))
set_option maxRecDepth 100000 in
theorem bi_X1_48 {G : MG} {d : Nat} {Q : Mm → Prop} {M : Mm} (hn : M.2.2.2 = 49)  (hQ : (ri_X1_48 M).2.2.2 = 50 → Q (ri_X1_48 M)) : C G YI_X1 (d + 1) [.ref (G.b + 48)] M (Rv Q) := by
  refine C.of (by decide) (Nat.le_of_ble_eq_true rfl) (lv := [(0, .ref (G.b + 48))]) rfl ?_
  refine tw_aload_n 0 d_X1_init_0 rfl rfl ?_
  refine tw_objinit ⟨mg76, mg30, mg31⟩ (Nat.le_of_ble_eq_true rfl) d_X1_init_1 ?_
  refine tw_aload_n 0 d_X1_init_4 rfl rfl ?_
  refine tw_iconst d_X1_init_5 k_4 ?_
  refine tw_newa (ty := .int) (t := 0) (N := 4) rfl ⟨by decide, rfl, by simp, fun M' => na_0 G M' 4⟩ mg128 hn s_49 (by decide) ⟨by decide, by decide⟩ d_X1_init_6 (fun M1 e1 hn1 => ?_)
  refine tw_putRF f_X1_9 (by rw [hn1]; decide) s_48 (Or.inr rfl) ⟨rfl, rfl⟩ d_X1_init_8 (fun M2 e2 hn2 => ?_)
  rw [hn1] at hn2
  refine tw_vret rfl ⟨by decide, by decide⟩ d_X1_init_11 ?_
  have hf : M2.2.2.2 = 50 := hn2
  rw [e2] at hf
  rw [e1] at hf
  rw [e2]
  rw [e1]
  exact hQ hf
def ri_X1_50 (M : Mm) : Mm := (sR (sN M) 50 2 (some 51))
set_option maxRecDepth 100000 in
theorem bi_X1_50 {G : MG} {d : Nat} {Q : Mm → Prop} {M : Mm} (hn : M.2.2.2 = 51)  (hQ : (ri_X1_50 M).2.2.2 = 52 → Q (ri_X1_50 M)) : C G YI_X1 (d + 1) [.ref (G.b + 50)] M (Rv Q) := by
  refine C.of (by decide) (Nat.le_of_ble_eq_true rfl) (lv := [(0, .ref (G.b + 50))]) rfl ?_
  refine tw_aload_n 0 d_X1_init_0 rfl rfl ?_
  refine tw_objinit ⟨mg76, mg30, mg31⟩ (Nat.le_of_ble_eq_true rfl) d_X1_init_1 ?_
  refine tw_aload_n 0 d_X1_init_4 rfl rfl ?_
  refine tw_iconst d_X1_init_5 k_4 ?_
  refine tw_newa (ty := .int) (t := 0) (N := 4) rfl ⟨by decide, rfl, by simp, fun M' => na_0 G M' 4⟩ mg128 hn s_51 (by decide) ⟨by decide, by decide⟩ d_X1_init_6 (fun M1 e1 hn1 => ?_)
  refine tw_putRF f_X1_9 (by rw [hn1]; decide) s_50 (Or.inr rfl) ⟨rfl, rfl⟩ d_X1_init_8 (fun M2 e2 hn2 => ?_)
  rw [hn1] at hn2
  refine tw_vret rfl ⟨by decide, by decide⟩ d_X1_init_11 ?_
  have hf : M2.2.2.2 = 52 := hn2
  rw [e2] at hf
  rw [e1] at hf
  rw [e2]
  rw [e1]
  exact hQ hf
def ri_X1_52 (M : Mm) : Mm := (sR (sN M) 52 2 (some 53))
set_option maxRecDepth 100000 in
theorem bi_X1_52 {G : MG} {d : Nat} {Q : Mm → Prop} {M : Mm} (hn : M.2.2.2 = 53)  (hQ : (ri_X1_52 M).2.2.2 = 54 → Q (ri_X1_52 M)) : C G YI_X1 (d + 1) [.ref (G.b + 52)] M (Rv Q) := by
  refine C.of (by decide) (Nat.le_of_ble_eq_true rfl) (lv := [(0, .ref (G.b + 52))]) rfl ?_
  refine tw_aload_n 0 d_X1_init_0 rfl rfl ?_
  refine tw_objinit ⟨mg76, mg30, mg31⟩ (Nat.le_of_ble_eq_true rfl) d_X1_init_1 ?_
  refine tw_aload_n 0 d_X1_init_4 rfl rfl ?_
  refine tw_iconst d_X1_init_5 k_4 ?_
  refine tw_newa (ty := .int) (t := 0) (N := 4) rfl ⟨by decide, rfl, by simp, fun M' => na_0 G M' 4⟩ mg128 hn s_53 (by decide) ⟨by decide, by decide⟩ d_X1_init_6 (fun M1 e1 hn1 => ?_)
  refine tw_putRF f_X1_9 (by rw [hn1]; decide) s_52 (Or.inr rfl) ⟨rfl, rfl⟩ d_X1_init_8 (fun M2 e2 hn2 => ?_)
  rw [hn1] at hn2
  refine tw_vret rfl ⟨by decide, by decide⟩ d_X1_init_11 ?_
  have hf : M2.2.2.2 = 54 := hn2
  rw [e2] at hf
  rw [e1] at hf
  rw [e2]
  rw [e1]
  exact hQ hf
def ri_X2_54 (M : Mm) : Mm := (sR (sN (sR (sN M) 54 4 (some 55))) 54 5 (some 56))
set_option maxRecDepth 100000 in
theorem bi_X2_54 {G : MG} {d : Nat} {Q : Mm → Prop} {M : Mm} (hn : M.2.2.2 = 55)  (hQ : (ri_X2_54 M).2.2.2 = 57 → Q (ri_X2_54 M)) : C G YI_X2 (d + 1) [.ref (G.b + 54)] M (Rv Q) := by
  refine C.of (by decide) (Nat.le_of_ble_eq_true rfl) (lv := [(0, .ref (G.b + 54))]) rfl ?_
  refine tw_aload_n 0 d_X2_init_0 rfl rfl ?_
  refine tw_objinit ⟨mg133, mg30, mg31⟩ (Nat.le_of_ble_eq_true rfl) d_X2_init_1 ?_
  refine tw_aload_n 0 d_X2_init_4 rfl rfl ?_
  refine tw_bipush d_X2_init_5 kb_6 ?_
  refine tw_newa (ty := .int) (t := 0) (N := 6) rfl ⟨by decide, rfl, by simp, fun M' => na_0 G M' 6⟩ mg128 hn s_55 (by decide) ⟨by decide, by decide⟩ d_X2_init_7 (fun M1 e1 hn1 => ?_)
  refine tw_putRF f_X2_9 (by rw [hn1]; decide) s_54 (Or.inr rfl) ⟨rfl, rfl⟩ d_X2_init_9 (fun M2 e2 hn2 => ?_)
  rw [hn1] at hn2
  refine tw_aload_n 0 d_X2_init_12 rfl rfl ?_
  refine tw_bipush d_X2_init_13 kb_6 ?_
  refine tw_newa (ty := .int) (t := 0) (N := 6) rfl ⟨by decide, rfl, by simp, fun M' => na_0 G M' 6⟩ mg128 hn2 s_56 (by decide) ⟨by decide, by decide⟩ d_X2_init_15 (fun M3 e3 hn3 => ?_)
  refine tw_putRF f_X2_15 (by rw [hn3]; decide) s_54 (Or.inr rfl) ⟨rfl, rfl⟩ d_X2_init_17 (fun M4 e4 hn4 => ?_)
  rw [hn3] at hn4
  refine tw_vret rfl ⟨by decide, by decide⟩ d_X2_init_20 ?_
  have hf : M4.2.2.2 = 57 := hn4
  rw [e4] at hf
  rw [e3] at hf
  rw [e2] at hf
  rw [e1] at hf
  rw [e4]
  rw [e3]
  rw [e2]
  rw [e1]
  exact hQ hf
def ri_X2_57 (M : Mm) : Mm := (sR (sN (sR (sN M) 57 4 (some 58))) 57 5 (some 59))
set_option maxRecDepth 100000 in
theorem bi_X2_57 {G : MG} {d : Nat} {Q : Mm → Prop} {M : Mm} (hn : M.2.2.2 = 58)  (hQ : (ri_X2_57 M).2.2.2 = 60 → Q (ri_X2_57 M)) : C G YI_X2 (d + 1) [.ref (G.b + 57)] M (Rv Q) := by
  refine C.of (by decide) (Nat.le_of_ble_eq_true rfl) (lv := [(0, .ref (G.b + 57))]) rfl ?_
  refine tw_aload_n 0 d_X2_init_0 rfl rfl ?_
  refine tw_objinit ⟨mg133, mg30, mg31⟩ (Nat.le_of_ble_eq_true rfl) d_X2_init_1 ?_
  refine tw_aload_n 0 d_X2_init_4 rfl rfl ?_
  refine tw_bipush d_X2_init_5 kb_6 ?_
  refine tw_newa (ty := .int) (t := 0) (N := 6) rfl ⟨by decide, rfl, by simp, fun M' => na_0 G M' 6⟩ mg128 hn s_58 (by decide) ⟨by decide, by decide⟩ d_X2_init_7 (fun M1 e1 hn1 => ?_)
  refine tw_putRF f_X2_9 (by rw [hn1]; decide) s_57 (Or.inr rfl) ⟨rfl, rfl⟩ d_X2_init_9 (fun M2 e2 hn2 => ?_)
  rw [hn1] at hn2
  refine tw_aload_n 0 d_X2_init_12 rfl rfl ?_
  refine tw_bipush d_X2_init_13 kb_6 ?_
  refine tw_newa (ty := .int) (t := 0) (N := 6) rfl ⟨by decide, rfl, by simp, fun M' => na_0 G M' 6⟩ mg128 hn2 s_59 (by decide) ⟨by decide, by decide⟩ d_X2_init_15 (fun M3 e3 hn3 => ?_)
  refine tw_putRF f_X2_15 (by rw [hn3]; decide) s_57 (Or.inr rfl) ⟨rfl, rfl⟩ d_X2_init_17 (fun M4 e4 hn4 => ?_)
  rw [hn3] at hn4
  refine tw_vret rfl ⟨by decide, by decide⟩ d_X2_init_20 ?_
  have hf : M4.2.2.2 = 60 := hn4
  rw [e4] at hf
  rw [e3] at hf
  rw [e2] at hf
  rw [e1] at hf
  rw [e4]
  rw [e3]
  rw [e2]
  rw [e1]
  exact hQ hf
def ri_X2_60 (M : Mm) : Mm := (sR (sN (sR (sN M) 60 4 (some 61))) 60 5 (some 62))
set_option maxRecDepth 100000 in
theorem bi_X2_60 {G : MG} {d : Nat} {Q : Mm → Prop} {M : Mm} (hn : M.2.2.2 = 61)  (hQ : (ri_X2_60 M).2.2.2 = 63 → Q (ri_X2_60 M)) : C G YI_X2 (d + 1) [.ref (G.b + 60)] M (Rv Q) := by
  refine C.of (by decide) (Nat.le_of_ble_eq_true rfl) (lv := [(0, .ref (G.b + 60))]) rfl ?_
  refine tw_aload_n 0 d_X2_init_0 rfl rfl ?_
  refine tw_objinit ⟨mg133, mg30, mg31⟩ (Nat.le_of_ble_eq_true rfl) d_X2_init_1 ?_
  refine tw_aload_n 0 d_X2_init_4 rfl rfl ?_
  refine tw_bipush d_X2_init_5 kb_6 ?_
  refine tw_newa (ty := .int) (t := 0) (N := 6) rfl ⟨by decide, rfl, by simp, fun M' => na_0 G M' 6⟩ mg128 hn s_61 (by decide) ⟨by decide, by decide⟩ d_X2_init_7 (fun M1 e1 hn1 => ?_)
  refine tw_putRF f_X2_9 (by rw [hn1]; decide) s_60 (Or.inr rfl) ⟨rfl, rfl⟩ d_X2_init_9 (fun M2 e2 hn2 => ?_)
  rw [hn1] at hn2
  refine tw_aload_n 0 d_X2_init_12 rfl rfl ?_
  refine tw_bipush d_X2_init_13 kb_6 ?_
  refine tw_newa (ty := .int) (t := 0) (N := 6) rfl ⟨by decide, rfl, by simp, fun M' => na_0 G M' 6⟩ mg128 hn2 s_62 (by decide) ⟨by decide, by decide⟩ d_X2_init_15 (fun M3 e3 hn3 => ?_)
  refine tw_putRF f_X2_15 (by rw [hn3]; decide) s_60 (Or.inr rfl) ⟨rfl, rfl⟩ d_X2_init_17 (fun M4 e4 hn4 => ?_)
  rw [hn3] at hn4
  refine tw_vret rfl ⟨by decide, by decide⟩ d_X2_init_20 ?_
  have hf : M4.2.2.2 = 63 := hn4
  rw [e4] at hf
  rw [e3] at hf
  rw [e2] at hf
  rw [e1] at hf
  rw [e4]
  rw [e3]
  rw [e2]
  rw [e1]
  exact hQ hf
def ri_X2_63 (M : Mm) : Mm := (sR (sN (sR (sN M) 63 4 (some 64))) 63 5 (some 65))
set_option maxRecDepth 100000 in
theorem bi_X2_63 {G : MG} {d : Nat} {Q : Mm → Prop} {M : Mm} (hn : M.2.2.2 = 64)  (hQ : (ri_X2_63 M).2.2.2 = 66 → Q (ri_X2_63 M)) : C G YI_X2 (d + 1) [.ref (G.b + 63)] M (Rv Q) := by
  refine C.of (by decide) (Nat.le_of_ble_eq_true rfl) (lv := [(0, .ref (G.b + 63))]) rfl ?_
  refine tw_aload_n 0 d_X2_init_0 rfl rfl ?_
  refine tw_objinit ⟨mg133, mg30, mg31⟩ (Nat.le_of_ble_eq_true rfl) d_X2_init_1 ?_
  refine tw_aload_n 0 d_X2_init_4 rfl rfl ?_
  refine tw_bipush d_X2_init_5 kb_6 ?_
  refine tw_newa (ty := .int) (t := 0) (N := 6) rfl ⟨by decide, rfl, by simp, fun M' => na_0 G M' 6⟩ mg128 hn s_64 (by decide) ⟨by decide, by decide⟩ d_X2_init_7 (fun M1 e1 hn1 => ?_)
  refine tw_putRF f_X2_9 (by rw [hn1]; decide) s_63 (Or.inr rfl) ⟨rfl, rfl⟩ d_X2_init_9 (fun M2 e2 hn2 => ?_)
  rw [hn1] at hn2
  refine tw_aload_n 0 d_X2_init_12 rfl rfl ?_
  refine tw_bipush d_X2_init_13 kb_6 ?_
  refine tw_newa (ty := .int) (t := 0) (N := 6) rfl ⟨by decide, rfl, by simp, fun M' => na_0 G M' 6⟩ mg128 hn2 s_65 (by decide) ⟨by decide, by decide⟩ d_X2_init_15 (fun M3 e3 hn3 => ?_)
  refine tw_putRF f_X2_15 (by rw [hn3]; decide) s_63 (Or.inr rfl) ⟨rfl, rfl⟩ d_X2_init_17 (fun M4 e4 hn4 => ?_)
  rw [hn3] at hn4
  refine tw_vret rfl ⟨by decide, by decide⟩ d_X2_init_20 ?_
  have hf : M4.2.2.2 = 66 := hn4
  rw [e4] at hf
  rw [e3] at hf
  rw [e2] at hf
  rw [e1] at hf
  rw [e4]
  rw [e3]
  rw [e2]
  rw [e1]
  exact hQ hf
def ri_X2_66 (M : Mm) : Mm := (sR (sN (sR (sN M) 66 4 (some 67))) 66 5 (some 68))
set_option maxRecDepth 100000 in
theorem bi_X2_66 {G : MG} {d : Nat} {Q : Mm → Prop} {M : Mm} (hn : M.2.2.2 = 67)  (hQ : (ri_X2_66 M).2.2.2 = 69 → Q (ri_X2_66 M)) : C G YI_X2 (d + 1) [.ref (G.b + 66)] M (Rv Q) := by
  refine C.of (by decide) (Nat.le_of_ble_eq_true rfl) (lv := [(0, .ref (G.b + 66))]) rfl ?_
  refine tw_aload_n 0 d_X2_init_0 rfl rfl ?_
  refine tw_objinit ⟨mg133, mg30, mg31⟩ (Nat.le_of_ble_eq_true rfl) d_X2_init_1 ?_
  refine tw_aload_n 0 d_X2_init_4 rfl rfl ?_
  refine tw_bipush d_X2_init_5 kb_6 ?_
  refine tw_newa (ty := .int) (t := 0) (N := 6) rfl ⟨by decide, rfl, by simp, fun M' => na_0 G M' 6⟩ mg128 hn s_67 (by decide) ⟨by decide, by decide⟩ d_X2_init_7 (fun M1 e1 hn1 => ?_)
  refine tw_putRF f_X2_9 (by rw [hn1]; decide) s_66 (Or.inr rfl) ⟨rfl, rfl⟩ d_X2_init_9 (fun M2 e2 hn2 => ?_)
  rw [hn1] at hn2
  refine tw_aload_n 0 d_X2_init_12 rfl rfl ?_
  refine tw_bipush d_X2_init_13 kb_6 ?_
  refine tw_newa (ty := .int) (t := 0) (N := 6) rfl ⟨by decide, rfl, by simp, fun M' => na_0 G M' 6⟩ mg128 hn2 s_68 (by decide) ⟨by decide, by decide⟩ d_X2_init_15 (fun M3 e3 hn3 => ?_)
  refine tw_putRF f_X2_15 (by rw [hn3]; decide) s_66 (Or.inr rfl) ⟨rfl, rfl⟩ d_X2_init_17 (fun M4 e4 hn4 => ?_)
  rw [hn3] at hn4
  refine tw_vret rfl ⟨by decide, by decide⟩ d_X2_init_20 ?_
  have hf : M4.2.2.2 = 69 := hn4
  rw [e4] at hf
  rw [e3] at hf
  rw [e2] at hf
  rw [e1] at hf
  rw [e4]
  rw [e3]
  rw [e2]
  rw [e1]
  exact hQ hf
def ri_X2_69 (M : Mm) : Mm := (sR (sN (sR (sN M) 69 4 (some 70))) 69 5 (some 71))
set_option maxRecDepth 100000 in
theorem bi_X2_69 {G : MG} {d : Nat} {Q : Mm → Prop} {M : Mm} (hn : M.2.2.2 = 70)  (hQ : (ri_X2_69 M).2.2.2 = 72 → Q (ri_X2_69 M)) : C G YI_X2 (d + 1) [.ref (G.b + 69)] M (Rv Q) := by
  refine C.of (by decide) (Nat.le_of_ble_eq_true rfl) (lv := [(0, .ref (G.b + 69))]) rfl ?_
  refine tw_aload_n 0 d_X2_init_0 rfl rfl ?_
  refine tw_objinit ⟨mg133, mg30, mg31⟩ (Nat.le_of_ble_eq_true rfl) d_X2_init_1 ?_
  refine tw_aload_n 0 d_X2_init_4 rfl rfl ?_
  refine tw_bipush d_X2_init_5 kb_6 ?_
  refine tw_newa (ty := .int) (t := 0) (N := 6) rfl ⟨by decide, rfl, by simp, fun M' => na_0 G M' 6⟩ mg128 hn s_70 (by decide) ⟨by decide, by decide⟩ d_X2_init_7 (fun M1 e1 hn1 => ?_)
  refine tw_putRF f_X2_9 (by rw [hn1]; decide) s_69 (Or.inr rfl) ⟨rfl, rfl⟩ d_X2_init_9 (fun M2 e2 hn2 => ?_)
  rw [hn1] at hn2
  refine tw_aload_n 0 d_X2_init_12 rfl rfl ?_
  refine tw_bipush d_X2_init_13 kb_6 ?_
  refine tw_newa (ty := .int) (t := 0) (N := 6) rfl ⟨by decide, rfl, by simp, fun M' => na_0 G M' 6⟩ mg128 hn2 s_71 (by decide) ⟨by decide, by decide⟩ d_X2_init_15 (fun M3 e3 hn3 => ?_)
  refine tw_putRF f_X2_15 (by rw [hn3]; decide) s_69 (Or.inr rfl) ⟨rfl, rfl⟩ d_X2_init_17 (fun M4 e4 hn4 => ?_)
  rw [hn3] at hn4
  refine tw_vret rfl ⟨by decide, by decide⟩ d_X2_init_20 ?_
  have hf : M4.2.2.2 = 72 := hn4
  rw [e4] at hf
  rw [e3] at hf
  rw [e2] at hf
  rw [e1] at hf
  rw [e4]
  rw [e3]
  rw [e2]
  rw [e1]
  exact hQ hf
def ri_X2_72 (M : Mm) : Mm := (sR (sN (sR (sN M) 72 4 (some 73))) 72 5 (some 74))
set_option maxRecDepth 100000 in
theorem bi_X2_72 {G : MG} {d : Nat} {Q : Mm → Prop} {M : Mm} (hn : M.2.2.2 = 73)  (hQ : (ri_X2_72 M).2.2.2 = 75 → Q (ri_X2_72 M)) : C G YI_X2 (d + 1) [.ref (G.b + 72)] M (Rv Q) := by
  refine C.of (by decide) (Nat.le_of_ble_eq_true rfl) (lv := [(0, .ref (G.b + 72))]) rfl ?_
  refine tw_aload_n 0 d_X2_init_0 rfl rfl ?_
  refine tw_objinit ⟨mg133, mg30, mg31⟩ (Nat.le_of_ble_eq_true rfl) d_X2_init_1 ?_
  refine tw_aload_n 0 d_X2_init_4 rfl rfl ?_
  refine tw_bipush d_X2_init_5 kb_6 ?_
  refine tw_newa (ty := .int) (t := 0) (N := 6) rfl ⟨by decide, rfl, by simp, fun M' => na_0 G M' 6⟩ mg128 hn s_73 (by decide) ⟨by decide, by decide⟩ d_X2_init_7 (fun M1 e1 hn1 => ?_)
  refine tw_putRF f_X2_9 (by rw [hn1]; decide) s_72 (Or.inr rfl) ⟨rfl, rfl⟩ d_X2_init_9 (fun M2 e2 hn2 => ?_)
  rw [hn1] at hn2
  refine tw_aload_n 0 d_X2_init_12 rfl rfl ?_
  refine tw_bipush d_X2_init_13 kb_6 ?_
  refine tw_newa (ty := .int) (t := 0) (N := 6) rfl ⟨by decide, rfl, by simp, fun M' => na_0 G M' 6⟩ mg128 hn2 s_74 (by decide) ⟨by decide, by decide⟩ d_X2_init_15 (fun M3 e3 hn3 => ?_)
  refine tw_putRF f_X2_15 (by rw [hn3]; decide) s_72 (Or.inr rfl) ⟨rfl, rfl⟩ d_X2_init_17 (fun M4 e4 hn4 => ?_)
  rw [hn3] at hn4
  refine tw_vret rfl ⟨by decide, by decide⟩ d_X2_init_20 ?_
  have hf : M4.2.2.2 = 75 := hn4
  rw [e4] at hf
  rw [e3] at hf
  rw [e2] at hf
  rw [e1] at hf
  rw [e4]
  rw [e3]
  rw [e2]
  rw [e1]
  exact hQ hf
def ri_X5_39 (M : Mm) : Mm := (sR (ri_X2_72 (sN (sR (ri_X2_69 (sN (sR (ri_X2_66 (sN (sR (ri_X2_63 (sN (sR (ri_X2_60 (sN (sR (ri_X2_57 (sN (sR (ri_X2_54 (sN (sR (ri_X1_52 (sN (sR (ri_X1_50 (sN (sR (ri_X1_48 (sN (sR (ri_X1_46 (sN (sR (ri_X1_44 (sN (sR (ri_X1_42 (sN (sR (sN (sR (sN M) 39 0 (some 40))) 39 1 (some 41)))) 40 (Int32.toNatClampNeg 0) (some 42)))) 40 (Int32.toNatClampNeg 1) (some 44)))) 40 (Int32.toNatClampNeg 2) (some 46)))) 40 (Int32.toNatClampNeg 3) (some 48)))) 40 (Int32.toNatClampNeg 4) (some 50)))) 40 (Int32.toNatClampNeg 5) (some 52)))) 41 (Int32.toNatClampNeg 0) (some 54)))) 41 (Int32.toNatClampNeg 1) (some 57)))) 41 (Int32.toNatClampNeg 2) (some 60)))) 41 (Int32.toNatClampNeg 3) (some 63)))) 41 (Int32.toNatClampNeg 4) (some 66)))) 41 (Int32.toNatClampNeg 5) (some 69)))) 41 (Int32.toNatClampNeg 6) (some 72))
set_option maxRecDepth 100000 in
theorem bi_X5_39 {G : MG} {d : Nat} {Q : Mm → Prop} {M : Mm} (hn : M.2.2.2 = 40) (hao_X1 : ∀ U, G.X U → va_AO "CopyArms$Arm" U) (hao_X2 : ∀ U, G.X U → va_AO "CopyArms$Chart" U) (hni_X5_23 : ∀ U, G.X U → va_Nw (.methodLinkNest RX5 23 YI_X1.y "CopyArms") U) (hni_X5_24 : ∀ U, G.X U → va_Nw (.methodLinkNest RX5 24 YI_X2.y "CopyArms") U) (hQ : (ri_X5_39 M).2.2.2 = 75 → Q (ri_X5_39 M)) : C G YI_X5 (d + 2) [.ref (G.b + 39)] M (Rv Q) := by
  refine C.of (by decide) (Nat.le_of_ble_eq_true rfl) (lv := [(0, .ref (G.b + 39))]) rfl ?_
  refine tw_aload_n 0 d_X5_init_0 rfl rfl ?_
  refine tw_objinit ⟨mg67, mg30, mg31⟩ (Nat.le_of_ble_eq_true rfl) d_X5_init_1 ?_
  refine tw_aload_n 0 d_X5_init_4 rfl rfl ?_
  refine tw_bipush d_X5_init_5 kb_6 ?_
  refine tw_anew (t := 4) (N := 6) ⟨by decide, by decide, rfl⟩ mg68 hao_X1 hn s_40 (by decide) ⟨by decide, by decide⟩ d_X5_init_7 (fun M1 e1 hn1 => ?_)
  refine tw_putRF f_X5_11 (by rw [hn1]; decide) s_39 (Or.inr rfl) ⟨rfl, rfl⟩ d_X5_init_10 (fun M2 e2 hn2 => ?_)
  rw [hn1] at hn2
  have hr2_39_0 : M2.2.2.1 39 0 = some 40 := by rw [e2]; simp [sR, upR]
  refine tw_aload_n 0 d_X5_init_13 rfl rfl ?_
  refine tw_bipush d_X5_init_14 kb_7 ?_
  refine tw_anew (t := 5) (N := 7) ⟨by decide, by decide, rfl⟩ mg70 hao_X2 hn2 s_41 (by decide) ⟨by decide, by decide⟩ d_X5_init_16 (fun M3 e3 hn3 => ?_)
  have hr3_39_0 : M3.2.2.1 39 0 = some 40 := by rw [e3]; simp [sR, sN, sM, sI, sJ, upR, hn2, hr2_39_0]
  refine tw_putRF f_X5_19 (by rw [hn3]; decide) s_39 (Or.inr rfl) ⟨rfl, rfl⟩ d_X5_init_19 (fun M4 e4 hn4 => ?_)
  rw [hn3] at hn4
  have hr4_39_0 : M4.2.2.1 39 0 = some 40 := by rw [e4]; simp [sR, sN, sM, sI, sJ, upR, hn3, hr3_39_0]
  have hr4_39_1 : M4.2.2.1 39 1 = some 41 := by rw [e4]; simp [sR, upR]
  refine tw_iconst d_X5_init_22 k_0 ?_
  refine tw_istore_n [(1, .int 0), (0, .ref (G.b + 39))] d_X5_init_23 rfl (Nat.le_of_ble_eq_true rfl) rfl ?_
  refine tw_iload_n 0 d_X5_init_24 rfl rfl ?_
  refine tw_bipush d_X5_init_25 kb_6 ?_
  refine tw_icmp_ge 49 d_X5_init_27 (by decide) (fun z => absurd z (by decide)) (fun _ => ?_)
  refine tw_aload_n 1 d_X5_init_30 rfl rfl ?_
  refine tw_getRF (q := 40) f_X5_11 (by rw [hn4]; decide) s_39 ⟨rfl, rfl⟩ hr4_39_0 d_X5_init_31 ?_
  refine tw_iload_n 0 d_X5_init_34 rfl rfl ?_
  refine tw_new n_X5_9 hn4 s_42 ⟨by decide, by decide⟩ d_X5_init_35 (fun M5 e5 hn5 => ?_)
  have hr5_39_0 : M5.2.2.1 39 0 = some 40 := by rw [e5]; simp [sR, sN, sM, sI, sJ, upR, hn4, hr4_39_0]
  have hr5_39_1 : M5.2.2.1 39 1 = some 41 := by rw [e5]; simp [sR, sN, sM, sI, sJ, upR, hn4, hr4_39_1]
  refine tw_dup d_X5_init_38 rfl ?_
  refine tw_callIN (Z := YI_X1) (As := []) (Q' := fun N => N = ri_X1_42 M5 ∧ N.2.2.2 = 44) ci_X1 hni_X5_23 rfl (Nat.le_of_ble_eq_true rfl) ⟨by decide, by decide⟩ d_X5_init_39 (bi_X1_42 hn5  (fun hf => ⟨rfl, hf⟩)) (fun M6 he6 => ?_)
  obtain ⟨e6, hn6⟩ := he6
  have hr6_39_0 : M6.2.2.1 39 0 = some 40 := by rw [e6]; simp [sR, sN, sM, sI, sJ, upR, hn5, hr5_39_0, ri_X1_42]
  have hr6_39_1 : M6.2.2.1 39 1 = some 41 := by rw [e6]; simp [sR, sN, sM, sI, sJ, upR, hn5, hr5_39_1, ri_X1_42]
  refine tw_aast (t := 4) ⟨by decide, by decide, rfl⟩ (ci := 1) rfl (by rw [hn6]; decide) (by rw [hn6]; decide) s_40 s_42 d_X5_init_42 (by unfold vp_in; decide) (fun M7 e7 hn7 => ?_)
  rw [hn6] at hn7
  have hr7_39_0 : M7.2.2.1 39 0 = some 40 := by rw [e7]; simp [sR, sN, sM, sI, sJ, upR, hn6, hr6_39_0]
  have hr7_39_1 : M7.2.2.1 39 1 = some 41 := by rw [e7]; simp [sR, sN, sM, sI, sJ, upR, hn6, hr6_39_1]
  refine tw_iinc 0 [(1, .int 1), (0, .ref (G.b + 39))] d_X5_init_43 rfl (by decide) (Nat.le_of_ble_eq_true rfl) rfl ?_
  refine tw_goto 24 d_X5_init_46 (by decide) ?_
  refine tw_iload_n 0 d_X5_init_24 rfl rfl ?_
  refine tw_bipush d_X5_init_25 kb_6 ?_
  refine tw_icmp_ge 49 d_X5_init_27 (by decide) (fun z => absurd z (by decide)) (fun _ => ?_)
  refine tw_aload_n 1 d_X5_init_30 rfl rfl ?_
  refine tw_getRF (q := 40) f_X5_11 (by rw [hn7]; decide) s_39 ⟨rfl, rfl⟩ hr7_39_0 d_X5_init_31 ?_
  refine tw_iload_n 0 d_X5_init_34 rfl rfl ?_
  refine tw_new n_X5_9 hn7 s_44 ⟨by decide, by decide⟩ d_X5_init_35 (fun M8 e8 hn8 => ?_)
  have hr8_39_0 : M8.2.2.1 39 0 = some 40 := by rw [e8]; simp [sR, sN, sM, sI, sJ, upR, hn7, hr7_39_0]
  have hr8_39_1 : M8.2.2.1 39 1 = some 41 := by rw [e8]; simp [sR, sN, sM, sI, sJ, upR, hn7, hr7_39_1]
  refine tw_dup d_X5_init_38 rfl ?_
  refine tw_callIN (Z := YI_X1) (As := []) (Q' := fun N => N = ri_X1_44 M8 ∧ N.2.2.2 = 46) ci_X1 hni_X5_23 rfl (Nat.le_of_ble_eq_true rfl) ⟨by decide, by decide⟩ d_X5_init_39 (bi_X1_44 hn8  (fun hf => ⟨rfl, hf⟩)) (fun M9 he9 => ?_)
  obtain ⟨e9, hn9⟩ := he9
  have hr9_39_0 : M9.2.2.1 39 0 = some 40 := by rw [e9]; simp [sR, sN, sM, sI, sJ, upR, hn8, hr8_39_0, ri_X1_44]
  have hr9_39_1 : M9.2.2.1 39 1 = some 41 := by rw [e9]; simp [sR, sN, sM, sI, sJ, upR, hn8, hr8_39_1, ri_X1_44]
  refine tw_aast (t := 4) ⟨by decide, by decide, rfl⟩ (ci := 1) rfl (by rw [hn9]; decide) (by rw [hn9]; decide) s_40 s_44 d_X5_init_42 (by unfold vp_in; decide) (fun M10 e10 hn10 => ?_)
  rw [hn9] at hn10
  have hr10_39_0 : M10.2.2.1 39 0 = some 40 := by rw [e10]; simp [sR, sN, sM, sI, sJ, upR, hn9, hr9_39_0]
  have hr10_39_1 : M10.2.2.1 39 1 = some 41 := by rw [e10]; simp [sR, sN, sM, sI, sJ, upR, hn9, hr9_39_1]
  refine tw_iinc 0 [(1, .int 2), (0, .ref (G.b + 39))] d_X5_init_43 rfl (by decide) (Nat.le_of_ble_eq_true rfl) rfl ?_
  refine tw_goto 24 d_X5_init_46 (by decide) ?_
  refine tw_iload_n 0 d_X5_init_24 rfl rfl ?_
  refine tw_bipush d_X5_init_25 kb_6 ?_
  refine tw_icmp_ge 49 d_X5_init_27 (by decide) (fun z => absurd z (by decide)) (fun _ => ?_)
  refine tw_aload_n 1 d_X5_init_30 rfl rfl ?_
  refine tw_getRF (q := 40) f_X5_11 (by rw [hn10]; decide) s_39 ⟨rfl, rfl⟩ hr10_39_0 d_X5_init_31 ?_
  refine tw_iload_n 0 d_X5_init_34 rfl rfl ?_
  refine tw_new n_X5_9 hn10 s_46 ⟨by decide, by decide⟩ d_X5_init_35 (fun M11 e11 hn11 => ?_)
  have hr11_39_0 : M11.2.2.1 39 0 = some 40 := by rw [e11]; simp [sR, sN, sM, sI, sJ, upR, hn10, hr10_39_0]
  have hr11_39_1 : M11.2.2.1 39 1 = some 41 := by rw [e11]; simp [sR, sN, sM, sI, sJ, upR, hn10, hr10_39_1]
  refine tw_dup d_X5_init_38 rfl ?_
  refine tw_callIN (Z := YI_X1) (As := []) (Q' := fun N => N = ri_X1_46 M11 ∧ N.2.2.2 = 48) ci_X1 hni_X5_23 rfl (Nat.le_of_ble_eq_true rfl) ⟨by decide, by decide⟩ d_X5_init_39 (bi_X1_46 hn11  (fun hf => ⟨rfl, hf⟩)) (fun M12 he12 => ?_)
  obtain ⟨e12, hn12⟩ := he12
  have hr12_39_0 : M12.2.2.1 39 0 = some 40 := by rw [e12]; simp [sR, sN, sM, sI, sJ, upR, hn11, hr11_39_0, ri_X1_46]
  have hr12_39_1 : M12.2.2.1 39 1 = some 41 := by rw [e12]; simp [sR, sN, sM, sI, sJ, upR, hn11, hr11_39_1, ri_X1_46]
  refine tw_aast (t := 4) ⟨by decide, by decide, rfl⟩ (ci := 1) rfl (by rw [hn12]; decide) (by rw [hn12]; decide) s_40 s_46 d_X5_init_42 (by unfold vp_in; decide) (fun M13 e13 hn13 => ?_)
  rw [hn12] at hn13
  have hr13_39_0 : M13.2.2.1 39 0 = some 40 := by rw [e13]; simp [sR, sN, sM, sI, sJ, upR, hn12, hr12_39_0]
  have hr13_39_1 : M13.2.2.1 39 1 = some 41 := by rw [e13]; simp [sR, sN, sM, sI, sJ, upR, hn12, hr12_39_1]
  refine tw_iinc 0 [(1, .int 3), (0, .ref (G.b + 39))] d_X5_init_43 rfl (by decide) (Nat.le_of_ble_eq_true rfl) rfl ?_
  refine tw_goto 24 d_X5_init_46 (by decide) ?_
  refine tw_iload_n 0 d_X5_init_24 rfl rfl ?_
  refine tw_bipush d_X5_init_25 kb_6 ?_
  refine tw_icmp_ge 49 d_X5_init_27 (by decide) (fun z => absurd z (by decide)) (fun _ => ?_)
  refine tw_aload_n 1 d_X5_init_30 rfl rfl ?_
  refine tw_getRF (q := 40) f_X5_11 (by rw [hn13]; decide) s_39 ⟨rfl, rfl⟩ hr13_39_0 d_X5_init_31 ?_
  refine tw_iload_n 0 d_X5_init_34 rfl rfl ?_
  refine tw_new n_X5_9 hn13 s_48 ⟨by decide, by decide⟩ d_X5_init_35 (fun M14 e14 hn14 => ?_)
  have hr14_39_0 : M14.2.2.1 39 0 = some 40 := by rw [e14]; simp [sR, sN, sM, sI, sJ, upR, hn13, hr13_39_0]
  have hr14_39_1 : M14.2.2.1 39 1 = some 41 := by rw [e14]; simp [sR, sN, sM, sI, sJ, upR, hn13, hr13_39_1]
  refine tw_dup d_X5_init_38 rfl ?_
  refine tw_callIN (Z := YI_X1) (As := []) (Q' := fun N => N = ri_X1_48 M14 ∧ N.2.2.2 = 50) ci_X1 hni_X5_23 rfl (Nat.le_of_ble_eq_true rfl) ⟨by decide, by decide⟩ d_X5_init_39 (bi_X1_48 hn14  (fun hf => ⟨rfl, hf⟩)) (fun M15 he15 => ?_)
  obtain ⟨e15, hn15⟩ := he15
  have hr15_39_0 : M15.2.2.1 39 0 = some 40 := by rw [e15]; simp [sR, sN, sM, sI, sJ, upR, hn14, hr14_39_0, ri_X1_48]
  have hr15_39_1 : M15.2.2.1 39 1 = some 41 := by rw [e15]; simp [sR, sN, sM, sI, sJ, upR, hn14, hr14_39_1, ri_X1_48]
  refine tw_aast (t := 4) ⟨by decide, by decide, rfl⟩ (ci := 1) rfl (by rw [hn15]; decide) (by rw [hn15]; decide) s_40 s_48 d_X5_init_42 (by unfold vp_in; decide) (fun M16 e16 hn16 => ?_)
  rw [hn15] at hn16
  have hr16_39_0 : M16.2.2.1 39 0 = some 40 := by rw [e16]; simp [sR, sN, sM, sI, sJ, upR, hn15, hr15_39_0]
  have hr16_39_1 : M16.2.2.1 39 1 = some 41 := by rw [e16]; simp [sR, sN, sM, sI, sJ, upR, hn15, hr15_39_1]
  refine tw_iinc 0 [(1, .int 4), (0, .ref (G.b + 39))] d_X5_init_43 rfl (by decide) (Nat.le_of_ble_eq_true rfl) rfl ?_
  refine tw_goto 24 d_X5_init_46 (by decide) ?_
  refine tw_iload_n 0 d_X5_init_24 rfl rfl ?_
  refine tw_bipush d_X5_init_25 kb_6 ?_
  refine tw_icmp_ge 49 d_X5_init_27 (by decide) (fun z => absurd z (by decide)) (fun _ => ?_)
  refine tw_aload_n 1 d_X5_init_30 rfl rfl ?_
  refine tw_getRF (q := 40) f_X5_11 (by rw [hn16]; decide) s_39 ⟨rfl, rfl⟩ hr16_39_0 d_X5_init_31 ?_
  refine tw_iload_n 0 d_X5_init_34 rfl rfl ?_
  refine tw_new n_X5_9 hn16 s_50 ⟨by decide, by decide⟩ d_X5_init_35 (fun M17 e17 hn17 => ?_)
  have hr17_39_0 : M17.2.2.1 39 0 = some 40 := by rw [e17]; simp [sR, sN, sM, sI, sJ, upR, hn16, hr16_39_0]
  have hr17_39_1 : M17.2.2.1 39 1 = some 41 := by rw [e17]; simp [sR, sN, sM, sI, sJ, upR, hn16, hr16_39_1]
  refine tw_dup d_X5_init_38 rfl ?_
  refine tw_callIN (Z := YI_X1) (As := []) (Q' := fun N => N = ri_X1_50 M17 ∧ N.2.2.2 = 52) ci_X1 hni_X5_23 rfl (Nat.le_of_ble_eq_true rfl) ⟨by decide, by decide⟩ d_X5_init_39 (bi_X1_50 hn17  (fun hf => ⟨rfl, hf⟩)) (fun M18 he18 => ?_)
  obtain ⟨e18, hn18⟩ := he18
  have hr18_39_0 : M18.2.2.1 39 0 = some 40 := by rw [e18]; simp [sR, sN, sM, sI, sJ, upR, hn17, hr17_39_0, ri_X1_50]
  have hr18_39_1 : M18.2.2.1 39 1 = some 41 := by rw [e18]; simp [sR, sN, sM, sI, sJ, upR, hn17, hr17_39_1, ri_X1_50]
  refine tw_aast (t := 4) ⟨by decide, by decide, rfl⟩ (ci := 1) rfl (by rw [hn18]; decide) (by rw [hn18]; decide) s_40 s_50 d_X5_init_42 (by unfold vp_in; decide) (fun M19 e19 hn19 => ?_)
  rw [hn18] at hn19
  have hr19_39_0 : M19.2.2.1 39 0 = some 40 := by rw [e19]; simp [sR, sN, sM, sI, sJ, upR, hn18, hr18_39_0]
  have hr19_39_1 : M19.2.2.1 39 1 = some 41 := by rw [e19]; simp [sR, sN, sM, sI, sJ, upR, hn18, hr18_39_1]
  refine tw_iinc 0 [(1, .int 5), (0, .ref (G.b + 39))] d_X5_init_43 rfl (by decide) (Nat.le_of_ble_eq_true rfl) rfl ?_
  refine tw_goto 24 d_X5_init_46 (by decide) ?_
  refine tw_iload_n 0 d_X5_init_24 rfl rfl ?_
  refine tw_bipush d_X5_init_25 kb_6 ?_
  refine tw_icmp_ge 49 d_X5_init_27 (by decide) (fun z => absurd z (by decide)) (fun _ => ?_)
  refine tw_aload_n 1 d_X5_init_30 rfl rfl ?_
  refine tw_getRF (q := 40) f_X5_11 (by rw [hn19]; decide) s_39 ⟨rfl, rfl⟩ hr19_39_0 d_X5_init_31 ?_
  refine tw_iload_n 0 d_X5_init_34 rfl rfl ?_
  refine tw_new n_X5_9 hn19 s_52 ⟨by decide, by decide⟩ d_X5_init_35 (fun M20 e20 hn20 => ?_)
  have hr20_39_0 : M20.2.2.1 39 0 = some 40 := by rw [e20]; simp [sR, sN, sM, sI, sJ, upR, hn19, hr19_39_0]
  have hr20_39_1 : M20.2.2.1 39 1 = some 41 := by rw [e20]; simp [sR, sN, sM, sI, sJ, upR, hn19, hr19_39_1]
  refine tw_dup d_X5_init_38 rfl ?_
  refine tw_callIN (Z := YI_X1) (As := []) (Q' := fun N => N = ri_X1_52 M20 ∧ N.2.2.2 = 54) ci_X1 hni_X5_23 rfl (Nat.le_of_ble_eq_true rfl) ⟨by decide, by decide⟩ d_X5_init_39 (bi_X1_52 hn20  (fun hf => ⟨rfl, hf⟩)) (fun M21 he21 => ?_)
  obtain ⟨e21, hn21⟩ := he21
  have hr21_39_0 : M21.2.2.1 39 0 = some 40 := by rw [e21]; simp [sR, sN, sM, sI, sJ, upR, hn20, hr20_39_0, ri_X1_52]
  have hr21_39_1 : M21.2.2.1 39 1 = some 41 := by rw [e21]; simp [sR, sN, sM, sI, sJ, upR, hn20, hr20_39_1, ri_X1_52]
  refine tw_aast (t := 4) ⟨by decide, by decide, rfl⟩ (ci := 1) rfl (by rw [hn21]; decide) (by rw [hn21]; decide) s_40 s_52 d_X5_init_42 (by unfold vp_in; decide) (fun M22 e22 hn22 => ?_)
  rw [hn21] at hn22
  have hr22_39_0 : M22.2.2.1 39 0 = some 40 := by rw [e22]; simp [sR, sN, sM, sI, sJ, upR, hn21, hr21_39_0]
  have hr22_39_1 : M22.2.2.1 39 1 = some 41 := by rw [e22]; simp [sR, sN, sM, sI, sJ, upR, hn21, hr21_39_1]
  refine tw_iinc 0 [(1, .int 6), (0, .ref (G.b + 39))] d_X5_init_43 rfl (by decide) (Nat.le_of_ble_eq_true rfl) rfl ?_
  refine tw_goto 24 d_X5_init_46 (by decide) ?_
  refine tw_iload_n 0 d_X5_init_24 rfl rfl ?_
  refine tw_bipush d_X5_init_25 kb_6 ?_
  refine tw_icmp_ge 49 d_X5_init_27 (by decide) (fun _ => ?_) (fun z => absurd (by decide) z)
  refine tw_iconst d_X5_init_49 k_0 ?_
  refine tw_istore_n [(1, .int 0), (0, .ref (G.b + 39))] d_X5_init_50 rfl (Nat.le_of_ble_eq_true rfl) rfl ?_
  refine tw_iload_n 0 d_X5_init_51 rfl rfl ?_
  refine tw_bipush d_X5_init_52 kb_7 ?_
  refine tw_icmp_ge 76 d_X5_init_54 (by decide) (fun z => absurd z (by decide)) (fun _ => ?_)
  refine tw_aload_n 1 d_X5_init_57 rfl rfl ?_
  refine tw_getRF (q := 41) f_X5_19 (by rw [hn22]; decide) s_39 ⟨rfl, rfl⟩ hr22_39_1 d_X5_init_58 ?_
  refine tw_iload_n 0 d_X5_init_61 rfl rfl ?_
  refine tw_new n_X5_17 hn22 s_54 ⟨by decide, by decide⟩ d_X5_init_62 (fun M23 e23 hn23 => ?_)
  have hr23_39_0 : M23.2.2.1 39 0 = some 40 := by rw [e23]; simp [sR, sN, sM, sI, sJ, upR, hn22, hr22_39_0]
  have hr23_39_1 : M23.2.2.1 39 1 = some 41 := by rw [e23]; simp [sR, sN, sM, sI, sJ, upR, hn22, hr22_39_1]
  refine tw_dup d_X5_init_65 rfl ?_
  refine tw_callIN (Z := YI_X2) (As := []) (Q' := fun N => N = ri_X2_54 M23 ∧ N.2.2.2 = 57) ci_X2 hni_X5_24 rfl (Nat.le_of_ble_eq_true rfl) ⟨by decide, by decide⟩ d_X5_init_66 (bi_X2_54 hn23  (fun hf => ⟨rfl, hf⟩)) (fun M24 he24 => ?_)
  obtain ⟨e24, hn24⟩ := he24
  have hr24_39_0 : M24.2.2.1 39 0 = some 40 := by rw [e24]; simp [sR, sN, sM, sI, sJ, upR, hn23, hr23_39_0, ri_X2_54]
  have hr24_39_1 : M24.2.2.1 39 1 = some 41 := by rw [e24]; simp [sR, sN, sM, sI, sJ, upR, hn23, hr23_39_1, ri_X2_54]
  refine tw_aast (t := 5) ⟨by decide, by decide, rfl⟩ (ci := 2) rfl (by rw [hn24]; decide) (by rw [hn24]; decide) s_41 s_54 d_X5_init_69 (by unfold vp_in; decide) (fun M25 e25 hn25 => ?_)
  rw [hn24] at hn25
  have hr25_39_0 : M25.2.2.1 39 0 = some 40 := by rw [e25]; simp [sR, sN, sM, sI, sJ, upR, hn24, hr24_39_0]
  have hr25_39_1 : M25.2.2.1 39 1 = some 41 := by rw [e25]; simp [sR, sN, sM, sI, sJ, upR, hn24, hr24_39_1]
  refine tw_iinc 0 [(1, .int 1), (0, .ref (G.b + 39))] d_X5_init_70 rfl (by decide) (Nat.le_of_ble_eq_true rfl) rfl ?_
  refine tw_goto 51 d_X5_init_73 (by decide) ?_
  refine tw_iload_n 0 d_X5_init_51 rfl rfl ?_
  refine tw_bipush d_X5_init_52 kb_7 ?_
  refine tw_icmp_ge 76 d_X5_init_54 (by decide) (fun z => absurd z (by decide)) (fun _ => ?_)
  refine tw_aload_n 1 d_X5_init_57 rfl rfl ?_
  refine tw_getRF (q := 41) f_X5_19 (by rw [hn25]; decide) s_39 ⟨rfl, rfl⟩ hr25_39_1 d_X5_init_58 ?_
  refine tw_iload_n 0 d_X5_init_61 rfl rfl ?_
  refine tw_new n_X5_17 hn25 s_57 ⟨by decide, by decide⟩ d_X5_init_62 (fun M26 e26 hn26 => ?_)
  have hr26_39_0 : M26.2.2.1 39 0 = some 40 := by rw [e26]; simp [sR, sN, sM, sI, sJ, upR, hn25, hr25_39_0]
  have hr26_39_1 : M26.2.2.1 39 1 = some 41 := by rw [e26]; simp [sR, sN, sM, sI, sJ, upR, hn25, hr25_39_1]
  refine tw_dup d_X5_init_65 rfl ?_
  refine tw_callIN (Z := YI_X2) (As := []) (Q' := fun N => N = ri_X2_57 M26 ∧ N.2.2.2 = 60) ci_X2 hni_X5_24 rfl (Nat.le_of_ble_eq_true rfl) ⟨by decide, by decide⟩ d_X5_init_66 (bi_X2_57 hn26  (fun hf => ⟨rfl, hf⟩)) (fun M27 he27 => ?_)
  obtain ⟨e27, hn27⟩ := he27
  have hr27_39_0 : M27.2.2.1 39 0 = some 40 := by rw [e27]; simp [sR, sN, sM, sI, sJ, upR, hn26, hr26_39_0, ri_X2_57]
  have hr27_39_1 : M27.2.2.1 39 1 = some 41 := by rw [e27]; simp [sR, sN, sM, sI, sJ, upR, hn26, hr26_39_1, ri_X2_57]
  refine tw_aast (t := 5) ⟨by decide, by decide, rfl⟩ (ci := 2) rfl (by rw [hn27]; decide) (by rw [hn27]; decide) s_41 s_57 d_X5_init_69 (by unfold vp_in; decide) (fun M28 e28 hn28 => ?_)
  rw [hn27] at hn28
  have hr28_39_0 : M28.2.2.1 39 0 = some 40 := by rw [e28]; simp [sR, sN, sM, sI, sJ, upR, hn27, hr27_39_0]
  have hr28_39_1 : M28.2.2.1 39 1 = some 41 := by rw [e28]; simp [sR, sN, sM, sI, sJ, upR, hn27, hr27_39_1]
  refine tw_iinc 0 [(1, .int 2), (0, .ref (G.b + 39))] d_X5_init_70 rfl (by decide) (Nat.le_of_ble_eq_true rfl) rfl ?_
  refine tw_goto 51 d_X5_init_73 (by decide) ?_
  refine tw_iload_n 0 d_X5_init_51 rfl rfl ?_
  refine tw_bipush d_X5_init_52 kb_7 ?_
  refine tw_icmp_ge 76 d_X5_init_54 (by decide) (fun z => absurd z (by decide)) (fun _ => ?_)
  refine tw_aload_n 1 d_X5_init_57 rfl rfl ?_
  refine tw_getRF (q := 41) f_X5_19 (by rw [hn28]; decide) s_39 ⟨rfl, rfl⟩ hr28_39_1 d_X5_init_58 ?_
  refine tw_iload_n 0 d_X5_init_61 rfl rfl ?_
  refine tw_new n_X5_17 hn28 s_60 ⟨by decide, by decide⟩ d_X5_init_62 (fun M29 e29 hn29 => ?_)
  have hr29_39_0 : M29.2.2.1 39 0 = some 40 := by rw [e29]; simp [sR, sN, sM, sI, sJ, upR, hn28, hr28_39_0]
  have hr29_39_1 : M29.2.2.1 39 1 = some 41 := by rw [e29]; simp [sR, sN, sM, sI, sJ, upR, hn28, hr28_39_1]
  refine tw_dup d_X5_init_65 rfl ?_
  refine tw_callIN (Z := YI_X2) (As := []) (Q' := fun N => N = ri_X2_60 M29 ∧ N.2.2.2 = 63) ci_X2 hni_X5_24 rfl (Nat.le_of_ble_eq_true rfl) ⟨by decide, by decide⟩ d_X5_init_66 (bi_X2_60 hn29  (fun hf => ⟨rfl, hf⟩)) (fun M30 he30 => ?_)
  obtain ⟨e30, hn30⟩ := he30
  have hr30_39_0 : M30.2.2.1 39 0 = some 40 := by rw [e30]; simp [sR, sN, sM, sI, sJ, upR, hn29, hr29_39_0, ri_X2_60]
  have hr30_39_1 : M30.2.2.1 39 1 = some 41 := by rw [e30]; simp [sR, sN, sM, sI, sJ, upR, hn29, hr29_39_1, ri_X2_60]
  refine tw_aast (t := 5) ⟨by decide, by decide, rfl⟩ (ci := 2) rfl (by rw [hn30]; decide) (by rw [hn30]; decide) s_41 s_60 d_X5_init_69 (by unfold vp_in; decide) (fun M31 e31 hn31 => ?_)
  rw [hn30] at hn31
  have hr31_39_0 : M31.2.2.1 39 0 = some 40 := by rw [e31]; simp [sR, sN, sM, sI, sJ, upR, hn30, hr30_39_0]
  have hr31_39_1 : M31.2.2.1 39 1 = some 41 := by rw [e31]; simp [sR, sN, sM, sI, sJ, upR, hn30, hr30_39_1]
  refine tw_iinc 0 [(1, .int 3), (0, .ref (G.b + 39))] d_X5_init_70 rfl (by decide) (Nat.le_of_ble_eq_true rfl) rfl ?_
  refine tw_goto 51 d_X5_init_73 (by decide) ?_
  refine tw_iload_n 0 d_X5_init_51 rfl rfl ?_
  refine tw_bipush d_X5_init_52 kb_7 ?_
  refine tw_icmp_ge 76 d_X5_init_54 (by decide) (fun z => absurd z (by decide)) (fun _ => ?_)
  refine tw_aload_n 1 d_X5_init_57 rfl rfl ?_
  refine tw_getRF (q := 41) f_X5_19 (by rw [hn31]; decide) s_39 ⟨rfl, rfl⟩ hr31_39_1 d_X5_init_58 ?_
  refine tw_iload_n 0 d_X5_init_61 rfl rfl ?_
  refine tw_new n_X5_17 hn31 s_63 ⟨by decide, by decide⟩ d_X5_init_62 (fun M32 e32 hn32 => ?_)
  have hr32_39_0 : M32.2.2.1 39 0 = some 40 := by rw [e32]; simp [sR, sN, sM, sI, sJ, upR, hn31, hr31_39_0]
  have hr32_39_1 : M32.2.2.1 39 1 = some 41 := by rw [e32]; simp [sR, sN, sM, sI, sJ, upR, hn31, hr31_39_1]
  refine tw_dup d_X5_init_65 rfl ?_
  refine tw_callIN (Z := YI_X2) (As := []) (Q' := fun N => N = ri_X2_63 M32 ∧ N.2.2.2 = 66) ci_X2 hni_X5_24 rfl (Nat.le_of_ble_eq_true rfl) ⟨by decide, by decide⟩ d_X5_init_66 (bi_X2_63 hn32  (fun hf => ⟨rfl, hf⟩)) (fun M33 he33 => ?_)
  obtain ⟨e33, hn33⟩ := he33
  have hr33_39_0 : M33.2.2.1 39 0 = some 40 := by rw [e33]; simp [sR, sN, sM, sI, sJ, upR, hn32, hr32_39_0, ri_X2_63]
  have hr33_39_1 : M33.2.2.1 39 1 = some 41 := by rw [e33]; simp [sR, sN, sM, sI, sJ, upR, hn32, hr32_39_1, ri_X2_63]
  refine tw_aast (t := 5) ⟨by decide, by decide, rfl⟩ (ci := 2) rfl (by rw [hn33]; decide) (by rw [hn33]; decide) s_41 s_63 d_X5_init_69 (by unfold vp_in; decide) (fun M34 e34 hn34 => ?_)
  rw [hn33] at hn34
  have hr34_39_0 : M34.2.2.1 39 0 = some 40 := by rw [e34]; simp [sR, sN, sM, sI, sJ, upR, hn33, hr33_39_0]
  have hr34_39_1 : M34.2.2.1 39 1 = some 41 := by rw [e34]; simp [sR, sN, sM, sI, sJ, upR, hn33, hr33_39_1]
  refine tw_iinc 0 [(1, .int 4), (0, .ref (G.b + 39))] d_X5_init_70 rfl (by decide) (Nat.le_of_ble_eq_true rfl) rfl ?_
  refine tw_goto 51 d_X5_init_73 (by decide) ?_
  refine tw_iload_n 0 d_X5_init_51 rfl rfl ?_
  refine tw_bipush d_X5_init_52 kb_7 ?_
  refine tw_icmp_ge 76 d_X5_init_54 (by decide) (fun z => absurd z (by decide)) (fun _ => ?_)
  refine tw_aload_n 1 d_X5_init_57 rfl rfl ?_
  refine tw_getRF (q := 41) f_X5_19 (by rw [hn34]; decide) s_39 ⟨rfl, rfl⟩ hr34_39_1 d_X5_init_58 ?_
  refine tw_iload_n 0 d_X5_init_61 rfl rfl ?_
  refine tw_new n_X5_17 hn34 s_66 ⟨by decide, by decide⟩ d_X5_init_62 (fun M35 e35 hn35 => ?_)
  have hr35_39_0 : M35.2.2.1 39 0 = some 40 := by rw [e35]; simp [sR, sN, sM, sI, sJ, upR, hn34, hr34_39_0]
  have hr35_39_1 : M35.2.2.1 39 1 = some 41 := by rw [e35]; simp [sR, sN, sM, sI, sJ, upR, hn34, hr34_39_1]
  refine tw_dup d_X5_init_65 rfl ?_
  refine tw_callIN (Z := YI_X2) (As := []) (Q' := fun N => N = ri_X2_66 M35 ∧ N.2.2.2 = 69) ci_X2 hni_X5_24 rfl (Nat.le_of_ble_eq_true rfl) ⟨by decide, by decide⟩ d_X5_init_66 (bi_X2_66 hn35  (fun hf => ⟨rfl, hf⟩)) (fun M36 he36 => ?_)
  obtain ⟨e36, hn36⟩ := he36
  have hr36_39_0 : M36.2.2.1 39 0 = some 40 := by rw [e36]; simp [sR, sN, sM, sI, sJ, upR, hn35, hr35_39_0, ri_X2_66]
  have hr36_39_1 : M36.2.2.1 39 1 = some 41 := by rw [e36]; simp [sR, sN, sM, sI, sJ, upR, hn35, hr35_39_1, ri_X2_66]
  refine tw_aast (t := 5) ⟨by decide, by decide, rfl⟩ (ci := 2) rfl (by rw [hn36]; decide) (by rw [hn36]; decide) s_41 s_66 d_X5_init_69 (by unfold vp_in; decide) (fun M37 e37 hn37 => ?_)
  rw [hn36] at hn37
  have hr37_39_0 : M37.2.2.1 39 0 = some 40 := by rw [e37]; simp [sR, sN, sM, sI, sJ, upR, hn36, hr36_39_0]
  have hr37_39_1 : M37.2.2.1 39 1 = some 41 := by rw [e37]; simp [sR, sN, sM, sI, sJ, upR, hn36, hr36_39_1]
  refine tw_iinc 0 [(1, .int 5), (0, .ref (G.b + 39))] d_X5_init_70 rfl (by decide) (Nat.le_of_ble_eq_true rfl) rfl ?_
  refine tw_goto 51 d_X5_init_73 (by decide) ?_
  refine tw_iload_n 0 d_X5_init_51 rfl rfl ?_
  refine tw_bipush d_X5_init_52 kb_7 ?_
  refine tw_icmp_ge 76 d_X5_init_54 (by decide) (fun z => absurd z (by decide)) (fun _ => ?_)
  refine tw_aload_n 1 d_X5_init_57 rfl rfl ?_
  refine tw_getRF (q := 41) f_X5_19 (by rw [hn37]; decide) s_39 ⟨rfl, rfl⟩ hr37_39_1 d_X5_init_58 ?_
  refine tw_iload_n 0 d_X5_init_61 rfl rfl ?_
  refine tw_new n_X5_17 hn37 s_69 ⟨by decide, by decide⟩ d_X5_init_62 (fun M38 e38 hn38 => ?_)
  have hr38_39_0 : M38.2.2.1 39 0 = some 40 := by rw [e38]; simp [sR, sN, sM, sI, sJ, upR, hn37, hr37_39_0]
  have hr38_39_1 : M38.2.2.1 39 1 = some 41 := by rw [e38]; simp [sR, sN, sM, sI, sJ, upR, hn37, hr37_39_1]
  refine tw_dup d_X5_init_65 rfl ?_
  refine tw_callIN (Z := YI_X2) (As := []) (Q' := fun N => N = ri_X2_69 M38 ∧ N.2.2.2 = 72) ci_X2 hni_X5_24 rfl (Nat.le_of_ble_eq_true rfl) ⟨by decide, by decide⟩ d_X5_init_66 (bi_X2_69 hn38  (fun hf => ⟨rfl, hf⟩)) (fun M39 he39 => ?_)
  obtain ⟨e39, hn39⟩ := he39
  have hr39_39_0 : M39.2.2.1 39 0 = some 40 := by rw [e39]; simp [sR, sN, sM, sI, sJ, upR, hn38, hr38_39_0, ri_X2_69]
  have hr39_39_1 : M39.2.2.1 39 1 = some 41 := by rw [e39]; simp [sR, sN, sM, sI, sJ, upR, hn38, hr38_39_1, ri_X2_69]
  refine tw_aast (t := 5) ⟨by decide, by decide, rfl⟩ (ci := 2) rfl (by rw [hn39]; decide) (by rw [hn39]; decide) s_41 s_69 d_X5_init_69 (by unfold vp_in; decide) (fun M40 e40 hn40 => ?_)
  rw [hn39] at hn40
  have hr40_39_0 : M40.2.2.1 39 0 = some 40 := by rw [e40]; simp [sR, sN, sM, sI, sJ, upR, hn39, hr39_39_0]
  have hr40_39_1 : M40.2.2.1 39 1 = some 41 := by rw [e40]; simp [sR, sN, sM, sI, sJ, upR, hn39, hr39_39_1]
  refine tw_iinc 0 [(1, .int 6), (0, .ref (G.b + 39))] d_X5_init_70 rfl (by decide) (Nat.le_of_ble_eq_true rfl) rfl ?_
  refine tw_goto 51 d_X5_init_73 (by decide) ?_
  refine tw_iload_n 0 d_X5_init_51 rfl rfl ?_
  refine tw_bipush d_X5_init_52 kb_7 ?_
  refine tw_icmp_ge 76 d_X5_init_54 (by decide) (fun z => absurd z (by decide)) (fun _ => ?_)
  refine tw_aload_n 1 d_X5_init_57 rfl rfl ?_
  refine tw_getRF (q := 41) f_X5_19 (by rw [hn40]; decide) s_39 ⟨rfl, rfl⟩ hr40_39_1 d_X5_init_58 ?_
  refine tw_iload_n 0 d_X5_init_61 rfl rfl ?_
  refine tw_new n_X5_17 hn40 s_72 ⟨by decide, by decide⟩ d_X5_init_62 (fun M41 e41 hn41 => ?_)
  have hr41_39_0 : M41.2.2.1 39 0 = some 40 := by rw [e41]; simp [sR, sN, sM, sI, sJ, upR, hn40, hr40_39_0]
  have hr41_39_1 : M41.2.2.1 39 1 = some 41 := by rw [e41]; simp [sR, sN, sM, sI, sJ, upR, hn40, hr40_39_1]
  refine tw_dup d_X5_init_65 rfl ?_
  refine tw_callIN (Z := YI_X2) (As := []) (Q' := fun N => N = ri_X2_72 M41 ∧ N.2.2.2 = 75) ci_X2 hni_X5_24 rfl (Nat.le_of_ble_eq_true rfl) ⟨by decide, by decide⟩ d_X5_init_66 (bi_X2_72 hn41  (fun hf => ⟨rfl, hf⟩)) (fun M42 he42 => ?_)
  obtain ⟨e42, hn42⟩ := he42
  have hr42_39_0 : M42.2.2.1 39 0 = some 40 := by rw [e42]; simp [sR, sN, sM, sI, sJ, upR, hn41, hr41_39_0, ri_X2_72]
  have hr42_39_1 : M42.2.2.1 39 1 = some 41 := by rw [e42]; simp [sR, sN, sM, sI, sJ, upR, hn41, hr41_39_1, ri_X2_72]
  refine tw_aast (t := 5) ⟨by decide, by decide, rfl⟩ (ci := 2) rfl (by rw [hn42]; decide) (by rw [hn42]; decide) s_41 s_72 d_X5_init_69 (by unfold vp_in; decide) (fun M43 e43 hn43 => ?_)
  rw [hn42] at hn43
  have hr43_39_0 : M43.2.2.1 39 0 = some 40 := by rw [e43]; simp [sR, sN, sM, sI, sJ, upR, hn42, hr42_39_0]
  have hr43_39_1 : M43.2.2.1 39 1 = some 41 := by rw [e43]; simp [sR, sN, sM, sI, sJ, upR, hn42, hr42_39_1]
  refine tw_iinc 0 [(1, .int 7), (0, .ref (G.b + 39))] d_X5_init_70 rfl (by decide) (Nat.le_of_ble_eq_true rfl) rfl ?_
  refine tw_goto 51 d_X5_init_73 (by decide) ?_
  refine tw_iload_n 0 d_X5_init_51 rfl rfl ?_
  refine tw_bipush d_X5_init_52 kb_7 ?_
  refine tw_icmp_ge 76 d_X5_init_54 (by decide) (fun _ => ?_) (fun z => absurd (by decide) z)
  refine tw_vret rfl ⟨by decide, by decide⟩ d_X5_init_76 ?_
  have hf : M43.2.2.2 = 75 := hn43
  rw [e43] at hf
  rw [e42] at hf
  rw [e41] at hf
  rw [e40] at hf
  rw [e39] at hf
  rw [e38] at hf
  rw [e37] at hf
  rw [e36] at hf
  rw [e35] at hf
  rw [e34] at hf
  rw [e33] at hf
  rw [e32] at hf
  rw [e31] at hf
  rw [e30] at hf
  rw [e29] at hf
  rw [e28] at hf
  rw [e27] at hf
  rw [e26] at hf
  rw [e25] at hf
  rw [e24] at hf
  rw [e23] at hf
  rw [e22] at hf
  rw [e21] at hf
  rw [e20] at hf
  rw [e19] at hf
  rw [e18] at hf
  rw [e17] at hf
  rw [e16] at hf
  rw [e15] at hf
  rw [e14] at hf
  rw [e13] at hf
  rw [e12] at hf
  rw [e11] at hf
  rw [e10] at hf
  rw [e9] at hf
  rw [e8] at hf
  rw [e7] at hf
  rw [e6] at hf
  rw [e5] at hf
  rw [e4] at hf
  rw [e3] at hf
  rw [e2] at hf
  rw [e1] at hf
  rw [e43]
  rw [e42]
  rw [e41]
  rw [e40]
  rw [e39]
  rw [e38]
  rw [e37]
  rw [e36]
  rw [e35]
  rw [e34]
  rw [e33]
  rw [e32]
  rw [e31]
  rw [e30]
  rw [e29]
  rw [e28]
  rw [e27]
  rw [e26]
  rw [e25]
  rw [e24]
  rw [e23]
  rw [e22]
  rw [e21]
  rw [e20]
  rw [e19]
  rw [e18]
  rw [e17]
  rw [e16]
  rw [e15]
  rw [e14]
  rw [e13]
  rw [e12]
  rw [e11]
  rw [e10]
  rw [e9]
  rw [e8]
  rw [e7]
  rw [e6]
  rw [e5]
  rw [e4]
  rw [e3]
  rw [e2]
  rw [e1]
  exact hQ hf
theorem mg373 : Cond.fieldLink RX11 23 (TX11 2).1 (TX11 2).2.1 (TX11 2).2.2.1 ∈ lw_good := List.mem_filter.mpr ⟨List.mem_append_right _ (List.mem_of_getElem? (i := 373) (by decide +kernel)), by decide +kernel⟩
theorem f_X11_23 : fOK RX11 23 11 2 := ⟨RX11, TX11, 12, rfl, rfl, by decide, mg373, inG11, tyX11_ok, nmX11, rfl⟩
theorem mg202 : Cond.classLink RX11 26 RX7 ∈ lw_good := List.mem_filter.mpr ⟨List.mem_append_right _ (List.mem_of_getElem? (i := 202) (by decide +kernel)), by decide +kernel⟩
theorem mg203 : Cond.instantiable RX7 11 ∈ lw_good := List.mem_filter.mpr ⟨List.mem_append_right _ (List.mem_of_getElem? (i := 203) (by decide +kernel)), by decide +kernel⟩
theorem n_X11_26 : nOK RX11 26 7 := ⟨RX7, TX7, 11, rfl, rfl, ⟨mg202, mg203, mg6⟩, inG7, tyX7_ok, by decide⟩
def YI_X7 : MY := (yX7_init, cX7_init, 1, none, 9, 48, [])
theorem d_X7_init_0 : decode YI_X7.cc 0 = .ok (.aload_n 0, 1) := by decide +kernel
theorem d_X7_init_1 : decode YI_X7.cc 1 = .ok (.invokespecial 3, 3) := by decide +kernel
theorem d_X7_init_4 : decode YI_X7.cc 4 = .ok (.aload_n 0, 1) := by decide +kernel
theorem d_X7_init_5 : decode YI_X7.cc 5 = .ok (.bipush 6, 2) := by decide +kernel
theorem d_X7_init_7 : decode YI_X7.cc 7 = .ok (.newarray .int, 2) := by decide +kernel
theorem d_X7_init_9 : decode YI_X7.cc 9 = .ok (.putfield 9, 3) := by decide +kernel
theorem d_X7_init_12 : decode YI_X7.cc 12 = .ok (.aload_n 0, 1) := by decide +kernel
theorem d_X7_init_13 : decode YI_X7.cc 13 = .ok (.bipush 6, 2) := by decide +kernel
theorem d_X7_init_15 : decode YI_X7.cc 15 = .ok (.newarray .int, 2) := by decide +kernel
theorem d_X7_init_17 : decode YI_X7.cc 17 = .ok (.putfield 15, 3) := by decide +kernel
theorem d_X7_init_20 : decode YI_X7.cc 20 = .ok (.aload_n 0, 1) := by decide +kernel
theorem d_X7_init_21 : decode YI_X7.cc 21 = .ok (.bipush 6, 2) := by decide +kernel
theorem d_X7_init_23 : decode YI_X7.cc 23 = .ok (.newarray .int, 2) := by decide +kernel
theorem d_X7_init_25 : decode YI_X7.cc 25 = .ok (.putfield 18, 3) := by decide +kernel
theorem d_X7_init_28 : decode YI_X7.cc 28 = .ok (.aload_n 0, 1) := by decide +kernel
theorem d_X7_init_29 : decode YI_X7.cc 29 = .ok (.bipush 6, 2) := by decide +kernel
theorem d_X7_init_31 : decode YI_X7.cc 31 = .ok (.newarray .int, 2) := by decide +kernel
theorem d_X7_init_33 : decode YI_X7.cc 33 = .ok (.putfield 21, 3) := by decide +kernel
theorem d_X7_init_36 : decode YI_X7.cc 36 = .ok (.aload_n 0, 1) := by decide +kernel
theorem d_X7_init_37 : decode YI_X7.cc 37 = .ok (.bipush 6, 2) := by decide +kernel
theorem d_X7_init_39 : decode YI_X7.cc 39 = .ok (.newarray .int, 2) := by decide +kernel
theorem d_X7_init_41 : decode YI_X7.cc 41 = .ok (.putfield 24, 3) := by decide +kernel
theorem d_X7_init_44 : decode YI_X7.cc 44 = .ok (.aload_n 0, 1) := by decide +kernel
theorem d_X7_init_45 : decode YI_X7.cc 45 = .ok (.bipush 6, 2) := by decide +kernel
theorem d_X7_init_47 : decode YI_X7.cc 47 = .ok (.newarray .int, 2) := by decide +kernel
theorem d_X7_init_49 : decode YI_X7.cc 49 = .ok (.putfield 27, 3) := by decide +kernel
theorem d_X7_init_52 : decode YI_X7.cc 52 = .ok (.aload_n 0, 1) := by decide +kernel
theorem d_X7_init_53 : decode YI_X7.cc 53 = .ok (.iconst 4, 1) := by decide +kernel
theorem d_X7_init_54 : decode YI_X7.cc 54 = .ok (.newarray .int, 2) := by decide +kernel
theorem d_X7_init_56 : decode YI_X7.cc 56 = .ok (.putfield 30, 3) := by decide +kernel
theorem d_X7_init_59 : decode YI_X7.cc 59 = .ok (.aload_n 0, 1) := by decide +kernel
theorem d_X7_init_60 : decode YI_X7.cc 60 = .ok (.iconst 4, 1) := by decide +kernel
theorem d_X7_init_61 : decode YI_X7.cc 61 = .ok (.newarray .int, 2) := by decide +kernel
theorem d_X7_init_63 : decode YI_X7.cc 63 = .ok (.putfield 33, 3) := by decide +kernel
theorem d_X7_init_66 : decode YI_X7.cc 66 = .ok (.aload_n 0, 1) := by decide +kernel
theorem d_X7_init_67 : decode YI_X7.cc 67 = .ok (.iconst 4, 1) := by decide +kernel
theorem d_X7_init_68 : decode YI_X7.cc 68 = .ok (.newarray .int, 2) := by decide +kernel
theorem d_X7_init_70 : decode YI_X7.cc 70 = .ok (.putfield 36, 3) := by decide +kernel
theorem d_X7_init_73 : decode YI_X7.cc 73 = .ok (.return_, 1) := by decide +kernel
theorem mg207 : Cond.methodLink RX7 3 objectInit ∈ lw_good := List.mem_filter.mpr ⟨List.mem_append_right _ (List.mem_of_getElem? (i := 207) (by decide +kernel)), by decide +kernel⟩
def ri_X7_75 (M : Mm) : Mm := (sR (sN (sR (sN (sR (sN (sR (sN (sR (sN (sR (sN (sR (sN (sR (sN (sR (sN M) 75 0 (some 76))) 75 1 (some 77))) 75 2 (some 78))) 75 3 (some 79))) 75 4 (some 80))) 75 5 (some 81))) 75 6 (some 82))) 75 8 (some 83))) 75 9 (some 84))
set_option maxRecDepth 100000 in
theorem bi_X7_75 {G : MG} {d : Nat} {Q : Mm → Prop} {M : Mm} (hn : M.2.2.2 = 76)  (hQ : (ri_X7_75 M).2.2.2 = 85 → Q (ri_X7_75 M)) : C G YI_X7 (d + 1) [.ref (G.b + 75)] M (Rv Q) := by
  refine C.of (by decide) (Nat.le_of_ble_eq_true rfl) (lv := [(0, .ref (G.b + 75))]) rfl ?_
  refine tw_aload_n 0 d_X7_init_0 rfl rfl ?_
  refine tw_objinit ⟨mg207, mg30, mg31⟩ (Nat.le_of_ble_eq_true rfl) d_X7_init_1 ?_
  refine tw_aload_n 0 d_X7_init_4 rfl rfl ?_
  refine tw_bipush d_X7_init_5 kb_6 ?_
  refine tw_newa (ty := .int) (t := 0) (N := 6) rfl ⟨by decide, rfl, by simp, fun M' => na_0 G M' 6⟩ mg128 hn s_76 (by decide) ⟨by decide, by decide⟩ d_X7_init_7 (fun M1 e1 hn1 => ?_)
  refine tw_putRF f_X7_9 (by rw [hn1]; decide) s_75 (Or.inr rfl) ⟨rfl, rfl⟩ d_X7_init_9 (fun M2 e2 hn2 => ?_)
  rw [hn1] at hn2
  refine tw_aload_n 0 d_X7_init_12 rfl rfl ?_
  refine tw_bipush d_X7_init_13 kb_6 ?_
  refine tw_newa (ty := .int) (t := 0) (N := 6) rfl ⟨by decide, rfl, by simp, fun M' => na_0 G M' 6⟩ mg128 hn2 s_77 (by decide) ⟨by decide, by decide⟩ d_X7_init_15 (fun M3 e3 hn3 => ?_)
  refine tw_putRF f_X7_15 (by rw [hn3]; decide) s_75 (Or.inr rfl) ⟨rfl, rfl⟩ d_X7_init_17 (fun M4 e4 hn4 => ?_)
  rw [hn3] at hn4
  refine tw_aload_n 0 d_X7_init_20 rfl rfl ?_
  refine tw_bipush d_X7_init_21 kb_6 ?_
  refine tw_newa (ty := .int) (t := 0) (N := 6) rfl ⟨by decide, rfl, by simp, fun M' => na_0 G M' 6⟩ mg128 hn4 s_78 (by decide) ⟨by decide, by decide⟩ d_X7_init_23 (fun M5 e5 hn5 => ?_)
  refine tw_putRF f_X7_18 (by rw [hn5]; decide) s_75 (Or.inr rfl) ⟨rfl, rfl⟩ d_X7_init_25 (fun M6 e6 hn6 => ?_)
  rw [hn5] at hn6
  refine tw_aload_n 0 d_X7_init_28 rfl rfl ?_
  refine tw_bipush d_X7_init_29 kb_6 ?_
  refine tw_newa (ty := .int) (t := 0) (N := 6) rfl ⟨by decide, rfl, by simp, fun M' => na_0 G M' 6⟩ mg128 hn6 s_79 (by decide) ⟨by decide, by decide⟩ d_X7_init_31 (fun M7 e7 hn7 => ?_)
  refine tw_putRF f_X7_21 (by rw [hn7]; decide) s_75 (Or.inr rfl) ⟨rfl, rfl⟩ d_X7_init_33 (fun M8 e8 hn8 => ?_)
  rw [hn7] at hn8
  refine tw_aload_n 0 d_X7_init_36 rfl rfl ?_
  refine tw_bipush d_X7_init_37 kb_6 ?_
  refine tw_newa (ty := .int) (t := 0) (N := 6) rfl ⟨by decide, rfl, by simp, fun M' => na_0 G M' 6⟩ mg128 hn8 s_80 (by decide) ⟨by decide, by decide⟩ d_X7_init_39 (fun M9 e9 hn9 => ?_)
  refine tw_putRF f_X7_24 (by rw [hn9]; decide) s_75 (Or.inr rfl) ⟨rfl, rfl⟩ d_X7_init_41 (fun M10 e10 hn10 => ?_)
  rw [hn9] at hn10
  refine tw_aload_n 0 d_X7_init_44 rfl rfl ?_
  refine tw_bipush d_X7_init_45 kb_6 ?_
  refine tw_newa (ty := .int) (t := 0) (N := 6) rfl ⟨by decide, rfl, by simp, fun M' => na_0 G M' 6⟩ mg128 hn10 s_81 (by decide) ⟨by decide, by decide⟩ d_X7_init_47 (fun M11 e11 hn11 => ?_)
  refine tw_putRF f_X7_27 (by rw [hn11]; decide) s_75 (Or.inr rfl) ⟨rfl, rfl⟩ d_X7_init_49 (fun M12 e12 hn12 => ?_)
  rw [hn11] at hn12
  refine tw_aload_n 0 d_X7_init_52 rfl rfl ?_
  refine tw_iconst d_X7_init_53 k_4 ?_
  refine tw_newa (ty := .int) (t := 0) (N := 4) rfl ⟨by decide, rfl, by simp, fun M' => na_0 G M' 4⟩ mg128 hn12 s_82 (by decide) ⟨by decide, by decide⟩ d_X7_init_54 (fun M13 e13 hn13 => ?_)
  refine tw_putRF f_X7_30 (by rw [hn13]; decide) s_75 (Or.inr rfl) ⟨rfl, rfl⟩ d_X7_init_56 (fun M14 e14 hn14 => ?_)
  rw [hn13] at hn14
  refine tw_aload_n 0 d_X7_init_59 rfl rfl ?_
  refine tw_iconst d_X7_init_60 k_4 ?_
  refine tw_newa (ty := .int) (t := 0) (N := 4) rfl ⟨by decide, rfl, by simp, fun M' => na_0 G M' 4⟩ mg128 hn14 s_83 (by decide) ⟨by decide, by decide⟩ d_X7_init_61 (fun M15 e15 hn15 => ?_)
  refine tw_putRF f_X7_33 (by rw [hn15]; decide) s_75 (Or.inr rfl) ⟨rfl, rfl⟩ d_X7_init_63 (fun M16 e16 hn16 => ?_)
  rw [hn15] at hn16
  refine tw_aload_n 0 d_X7_init_66 rfl rfl ?_
  refine tw_iconst d_X7_init_67 k_4 ?_
  refine tw_newa (ty := .int) (t := 0) (N := 4) rfl ⟨by decide, rfl, by simp, fun M' => na_0 G M' 4⟩ mg128 hn16 s_84 (by decide) ⟨by decide, by decide⟩ d_X7_init_68 (fun M17 e17 hn17 => ?_)
  refine tw_putRF f_X7_36 (by rw [hn17]; decide) s_75 (Or.inr rfl) ⟨rfl, rfl⟩ d_X7_init_70 (fun M18 e18 hn18 => ?_)
  rw [hn17] at hn18
  refine tw_vret rfl ⟨by decide, by decide⟩ d_X7_init_73 ?_
  have hf : M18.2.2.2 = 85 := hn18
  rw [e18] at hf
  rw [e17] at hf
  rw [e16] at hf
  rw [e15] at hf
  rw [e14] at hf
  rw [e13] at hf
  rw [e12] at hf
  rw [e11] at hf
  rw [e10] at hf
  rw [e9] at hf
  rw [e8] at hf
  rw [e7] at hf
  rw [e6] at hf
  rw [e5] at hf
  rw [e4] at hf
  rw [e3] at hf
  rw [e2] at hf
  rw [e1] at hf
  rw [e18]
  rw [e17]
  rw [e16]
  rw [e15]
  rw [e14]
  rw [e13]
  rw [e12]
  rw [e11]
  rw [e10]
  rw [e9]
  rw [e8]
  rw [e7]
  rw [e6]
  rw [e5]
  rw [e4]
  rw [e3]
  rw [e2]
  rw [e1]
  exact hQ hf
theorem mg205 : Cond.instanceMethod yX7_init ∈ lw_good := List.mem_filter.mpr ⟨List.mem_append_right _ (List.mem_of_getElem? (i := 205) (by decide +kernel)), by decide +kernel⟩
theorem mg206 : Cond.code yX7_init cX7_init 1 none ∈ lw_good := List.mem_filter.mpr ⟨List.mem_append_right _ (List.mem_of_getElem? (i := 206) (by decide +kernel)), by decide +kernel⟩
theorem ci_X7 : ciOK 0 YI_X7 := ⟨⟨mg205, mg6, mg206⟩, ⟨by decide +kernel, by decide +kernel⟩, by decide +kernel, by decide, rfl, rfl⟩
def ri_X7_86 (M : Mm) : Mm := (sR (sN (sR (sN (sR (sN (sR (sN (sR (sN (sR (sN (sR (sN (sR (sN (sR (sN M) 86 0 (some 87))) 86 1 (some 88))) 86 2 (some 89))) 86 3 (some 90))) 86 4 (some 91))) 86 5 (some 92))) 86 6 (some 93))) 86 8 (some 94))) 86 9 (some 95))
set_option maxRecDepth 100000 in
theorem bi_X7_86 {G : MG} {d : Nat} {Q : Mm → Prop} {M : Mm} (hn : M.2.2.2 = 87)  (hQ : (ri_X7_86 M).2.2.2 = 96 → Q (ri_X7_86 M)) : C G YI_X7 (d + 1) [.ref (G.b + 86)] M (Rv Q) := by
  refine C.of (by decide) (Nat.le_of_ble_eq_true rfl) (lv := [(0, .ref (G.b + 86))]) rfl ?_
  refine tw_aload_n 0 d_X7_init_0 rfl rfl ?_
  refine tw_objinit ⟨mg207, mg30, mg31⟩ (Nat.le_of_ble_eq_true rfl) d_X7_init_1 ?_
  refine tw_aload_n 0 d_X7_init_4 rfl rfl ?_
  refine tw_bipush d_X7_init_5 kb_6 ?_
  refine tw_newa (ty := .int) (t := 0) (N := 6) rfl ⟨by decide, rfl, by simp, fun M' => na_0 G M' 6⟩ mg128 hn s_87 (by decide) ⟨by decide, by decide⟩ d_X7_init_7 (fun M1 e1 hn1 => ?_)
  refine tw_putRF f_X7_9 (by rw [hn1]; decide) s_86 (Or.inr rfl) ⟨rfl, rfl⟩ d_X7_init_9 (fun M2 e2 hn2 => ?_)
  rw [hn1] at hn2
  refine tw_aload_n 0 d_X7_init_12 rfl rfl ?_
  refine tw_bipush d_X7_init_13 kb_6 ?_
  refine tw_newa (ty := .int) (t := 0) (N := 6) rfl ⟨by decide, rfl, by simp, fun M' => na_0 G M' 6⟩ mg128 hn2 s_88 (by decide) ⟨by decide, by decide⟩ d_X7_init_15 (fun M3 e3 hn3 => ?_)
  refine tw_putRF f_X7_15 (by rw [hn3]; decide) s_86 (Or.inr rfl) ⟨rfl, rfl⟩ d_X7_init_17 (fun M4 e4 hn4 => ?_)
  rw [hn3] at hn4
  refine tw_aload_n 0 d_X7_init_20 rfl rfl ?_
  refine tw_bipush d_X7_init_21 kb_6 ?_
  refine tw_newa (ty := .int) (t := 0) (N := 6) rfl ⟨by decide, rfl, by simp, fun M' => na_0 G M' 6⟩ mg128 hn4 s_89 (by decide) ⟨by decide, by decide⟩ d_X7_init_23 (fun M5 e5 hn5 => ?_)
  refine tw_putRF f_X7_18 (by rw [hn5]; decide) s_86 (Or.inr rfl) ⟨rfl, rfl⟩ d_X7_init_25 (fun M6 e6 hn6 => ?_)
  rw [hn5] at hn6
  refine tw_aload_n 0 d_X7_init_28 rfl rfl ?_
  refine tw_bipush d_X7_init_29 kb_6 ?_
  refine tw_newa (ty := .int) (t := 0) (N := 6) rfl ⟨by decide, rfl, by simp, fun M' => na_0 G M' 6⟩ mg128 hn6 s_90 (by decide) ⟨by decide, by decide⟩ d_X7_init_31 (fun M7 e7 hn7 => ?_)
  refine tw_putRF f_X7_21 (by rw [hn7]; decide) s_86 (Or.inr rfl) ⟨rfl, rfl⟩ d_X7_init_33 (fun M8 e8 hn8 => ?_)
  rw [hn7] at hn8
  refine tw_aload_n 0 d_X7_init_36 rfl rfl ?_
  refine tw_bipush d_X7_init_37 kb_6 ?_
  refine tw_newa (ty := .int) (t := 0) (N := 6) rfl ⟨by decide, rfl, by simp, fun M' => na_0 G M' 6⟩ mg128 hn8 s_91 (by decide) ⟨by decide, by decide⟩ d_X7_init_39 (fun M9 e9 hn9 => ?_)
  refine tw_putRF f_X7_24 (by rw [hn9]; decide) s_86 (Or.inr rfl) ⟨rfl, rfl⟩ d_X7_init_41 (fun M10 e10 hn10 => ?_)
  rw [hn9] at hn10
  refine tw_aload_n 0 d_X7_init_44 rfl rfl ?_
  refine tw_bipush d_X7_init_45 kb_6 ?_
  refine tw_newa (ty := .int) (t := 0) (N := 6) rfl ⟨by decide, rfl, by simp, fun M' => na_0 G M' 6⟩ mg128 hn10 s_92 (by decide) ⟨by decide, by decide⟩ d_X7_init_47 (fun M11 e11 hn11 => ?_)
  refine tw_putRF f_X7_27 (by rw [hn11]; decide) s_86 (Or.inr rfl) ⟨rfl, rfl⟩ d_X7_init_49 (fun M12 e12 hn12 => ?_)
  rw [hn11] at hn12
  refine tw_aload_n 0 d_X7_init_52 rfl rfl ?_
  refine tw_iconst d_X7_init_53 k_4 ?_
  refine tw_newa (ty := .int) (t := 0) (N := 4) rfl ⟨by decide, rfl, by simp, fun M' => na_0 G M' 4⟩ mg128 hn12 s_93 (by decide) ⟨by decide, by decide⟩ d_X7_init_54 (fun M13 e13 hn13 => ?_)
  refine tw_putRF f_X7_30 (by rw [hn13]; decide) s_86 (Or.inr rfl) ⟨rfl, rfl⟩ d_X7_init_56 (fun M14 e14 hn14 => ?_)
  rw [hn13] at hn14
  refine tw_aload_n 0 d_X7_init_59 rfl rfl ?_
  refine tw_iconst d_X7_init_60 k_4 ?_
  refine tw_newa (ty := .int) (t := 0) (N := 4) rfl ⟨by decide, rfl, by simp, fun M' => na_0 G M' 4⟩ mg128 hn14 s_94 (by decide) ⟨by decide, by decide⟩ d_X7_init_61 (fun M15 e15 hn15 => ?_)
  refine tw_putRF f_X7_33 (by rw [hn15]; decide) s_86 (Or.inr rfl) ⟨rfl, rfl⟩ d_X7_init_63 (fun M16 e16 hn16 => ?_)
  rw [hn15] at hn16
  refine tw_aload_n 0 d_X7_init_66 rfl rfl ?_
  refine tw_iconst d_X7_init_67 k_4 ?_
  refine tw_newa (ty := .int) (t := 0) (N := 4) rfl ⟨by decide, rfl, by simp, fun M' => na_0 G M' 4⟩ mg128 hn16 s_95 (by decide) ⟨by decide, by decide⟩ d_X7_init_68 (fun M17 e17 hn17 => ?_)
  refine tw_putRF f_X7_36 (by rw [hn17]; decide) s_86 (Or.inr rfl) ⟨rfl, rfl⟩ d_X7_init_70 (fun M18 e18 hn18 => ?_)
  rw [hn17] at hn18
  refine tw_vret rfl ⟨by decide, by decide⟩ d_X7_init_73 ?_
  have hf : M18.2.2.2 = 96 := hn18
  rw [e18] at hf
  rw [e17] at hf
  rw [e16] at hf
  rw [e15] at hf
  rw [e14] at hf
  rw [e13] at hf
  rw [e12] at hf
  rw [e11] at hf
  rw [e10] at hf
  rw [e9] at hf
  rw [e8] at hf
  rw [e7] at hf
  rw [e6] at hf
  rw [e5] at hf
  rw [e4] at hf
  rw [e3] at hf
  rw [e2] at hf
  rw [e1] at hf
  rw [e18]
  rw [e17]
  rw [e16]
  rw [e15]
  rw [e14]
  rw [e13]
  rw [e12]
  rw [e11]
  rw [e10]
  rw [e9]
  rw [e8]
  rw [e7]
  rw [e6]
  rw [e5]
  rw [e4]
  rw [e3]
  rw [e2]
  rw [e1]
  exact hQ hf
def ri_X7_96 (M : Mm) : Mm := (sR (sN (sR (sN (sR (sN (sR (sN (sR (sN (sR (sN (sR (sN (sR (sN (sR (sN M) 96 0 (some 97))) 96 1 (some 98))) 96 2 (some 99))) 96 3 (some 100))) 96 4 (some 101))) 96 5 (some 102))) 96 6 (some 103))) 96 8 (some 104))) 96 9 (some 105))
set_option maxRecDepth 100000 in
theorem bi_X7_96 {G : MG} {d : Nat} {Q : Mm → Prop} {M : Mm} (hn : M.2.2.2 = 97)  (hQ : (ri_X7_96 M).2.2.2 = 106 → Q (ri_X7_96 M)) : C G YI_X7 (d + 1) [.ref (G.b + 96)] M (Rv Q) := by
  refine C.of (by decide) (Nat.le_of_ble_eq_true rfl) (lv := [(0, .ref (G.b + 96))]) rfl ?_
  refine tw_aload_n 0 d_X7_init_0 rfl rfl ?_
  refine tw_objinit ⟨mg207, mg30, mg31⟩ (Nat.le_of_ble_eq_true rfl) d_X7_init_1 ?_
  refine tw_aload_n 0 d_X7_init_4 rfl rfl ?_
  refine tw_bipush d_X7_init_5 kb_6 ?_
  refine tw_newa (ty := .int) (t := 0) (N := 6) rfl ⟨by decide, rfl, by simp, fun M' => na_0 G M' 6⟩ mg128 hn s_97 (by decide) ⟨by decide, by decide⟩ d_X7_init_7 (fun M1 e1 hn1 => ?_)
  refine tw_putRF f_X7_9 (by rw [hn1]; decide) s_96 (Or.inr rfl) ⟨rfl, rfl⟩ d_X7_init_9 (fun M2 e2 hn2 => ?_)
  rw [hn1] at hn2
  refine tw_aload_n 0 d_X7_init_12 rfl rfl ?_
  refine tw_bipush d_X7_init_13 kb_6 ?_
  refine tw_newa (ty := .int) (t := 0) (N := 6) rfl ⟨by decide, rfl, by simp, fun M' => na_0 G M' 6⟩ mg128 hn2 s_98 (by decide) ⟨by decide, by decide⟩ d_X7_init_15 (fun M3 e3 hn3 => ?_)
  refine tw_putRF f_X7_15 (by rw [hn3]; decide) s_96 (Or.inr rfl) ⟨rfl, rfl⟩ d_X7_init_17 (fun M4 e4 hn4 => ?_)
  rw [hn3] at hn4
  refine tw_aload_n 0 d_X7_init_20 rfl rfl ?_
  refine tw_bipush d_X7_init_21 kb_6 ?_
  refine tw_newa (ty := .int) (t := 0) (N := 6) rfl ⟨by decide, rfl, by simp, fun M' => na_0 G M' 6⟩ mg128 hn4 s_99 (by decide) ⟨by decide, by decide⟩ d_X7_init_23 (fun M5 e5 hn5 => ?_)
  refine tw_putRF f_X7_18 (by rw [hn5]; decide) s_96 (Or.inr rfl) ⟨rfl, rfl⟩ d_X7_init_25 (fun M6 e6 hn6 => ?_)
  rw [hn5] at hn6
  refine tw_aload_n 0 d_X7_init_28 rfl rfl ?_
  refine tw_bipush d_X7_init_29 kb_6 ?_
  refine tw_newa (ty := .int) (t := 0) (N := 6) rfl ⟨by decide, rfl, by simp, fun M' => na_0 G M' 6⟩ mg128 hn6 s_100 (by decide) ⟨by decide, by decide⟩ d_X7_init_31 (fun M7 e7 hn7 => ?_)
  refine tw_putRF f_X7_21 (by rw [hn7]; decide) s_96 (Or.inr rfl) ⟨rfl, rfl⟩ d_X7_init_33 (fun M8 e8 hn8 => ?_)
  rw [hn7] at hn8
  refine tw_aload_n 0 d_X7_init_36 rfl rfl ?_
  refine tw_bipush d_X7_init_37 kb_6 ?_
  refine tw_newa (ty := .int) (t := 0) (N := 6) rfl ⟨by decide, rfl, by simp, fun M' => na_0 G M' 6⟩ mg128 hn8 s_101 (by decide) ⟨by decide, by decide⟩ d_X7_init_39 (fun M9 e9 hn9 => ?_)
  refine tw_putRF f_X7_24 (by rw [hn9]; decide) s_96 (Or.inr rfl) ⟨rfl, rfl⟩ d_X7_init_41 (fun M10 e10 hn10 => ?_)
  rw [hn9] at hn10
  refine tw_aload_n 0 d_X7_init_44 rfl rfl ?_
  refine tw_bipush d_X7_init_45 kb_6 ?_
  refine tw_newa (ty := .int) (t := 0) (N := 6) rfl ⟨by decide, rfl, by simp, fun M' => na_0 G M' 6⟩ mg128 hn10 s_102 (by decide) ⟨by decide, by decide⟩ d_X7_init_47 (fun M11 e11 hn11 => ?_)
  refine tw_putRF f_X7_27 (by rw [hn11]; decide) s_96 (Or.inr rfl) ⟨rfl, rfl⟩ d_X7_init_49 (fun M12 e12 hn12 => ?_)
  rw [hn11] at hn12
  refine tw_aload_n 0 d_X7_init_52 rfl rfl ?_
  refine tw_iconst d_X7_init_53 k_4 ?_
  refine tw_newa (ty := .int) (t := 0) (N := 4) rfl ⟨by decide, rfl, by simp, fun M' => na_0 G M' 4⟩ mg128 hn12 s_103 (by decide) ⟨by decide, by decide⟩ d_X7_init_54 (fun M13 e13 hn13 => ?_)
  refine tw_putRF f_X7_30 (by rw [hn13]; decide) s_96 (Or.inr rfl) ⟨rfl, rfl⟩ d_X7_init_56 (fun M14 e14 hn14 => ?_)
  rw [hn13] at hn14
  refine tw_aload_n 0 d_X7_init_59 rfl rfl ?_
  refine tw_iconst d_X7_init_60 k_4 ?_
  refine tw_newa (ty := .int) (t := 0) (N := 4) rfl ⟨by decide, rfl, by simp, fun M' => na_0 G M' 4⟩ mg128 hn14 s_104 (by decide) ⟨by decide, by decide⟩ d_X7_init_61 (fun M15 e15 hn15 => ?_)
  refine tw_putRF f_X7_33 (by rw [hn15]; decide) s_96 (Or.inr rfl) ⟨rfl, rfl⟩ d_X7_init_63 (fun M16 e16 hn16 => ?_)
  rw [hn15] at hn16
  refine tw_aload_n 0 d_X7_init_66 rfl rfl ?_
  refine tw_iconst d_X7_init_67 k_4 ?_
  refine tw_newa (ty := .int) (t := 0) (N := 4) rfl ⟨by decide, rfl, by simp, fun M' => na_0 G M' 4⟩ mg128 hn16 s_105 (by decide) ⟨by decide, by decide⟩ d_X7_init_68 (fun M17 e17 hn17 => ?_)
  refine tw_putRF f_X7_36 (by rw [hn17]; decide) s_96 (Or.inr rfl) ⟨rfl, rfl⟩ d_X7_init_70 (fun M18 e18 hn18 => ?_)
  rw [hn17] at hn18
  refine tw_vret rfl ⟨by decide, by decide⟩ d_X7_init_73 ?_
  have hf : M18.2.2.2 = 106 := hn18
  rw [e18] at hf
  rw [e17] at hf
  rw [e16] at hf
  rw [e15] at hf
  rw [e14] at hf
  rw [e13] at hf
  rw [e12] at hf
  rw [e11] at hf
  rw [e10] at hf
  rw [e9] at hf
  rw [e8] at hf
  rw [e7] at hf
  rw [e6] at hf
  rw [e5] at hf
  rw [e4] at hf
  rw [e3] at hf
  rw [e2] at hf
  rw [e1] at hf
  rw [e18]
  rw [e17]
  rw [e16]
  rw [e15]
  rw [e14]
  rw [e13]
  rw [e12]
  rw [e11]
  rw [e10]
  rw [e9]
  rw [e8]
  rw [e7]
  rw [e6]
  rw [e5]
  rw [e4]
  rw [e3]
  rw [e2]
  rw [e1]
  exact hQ hf
def ri_X7_106 (M : Mm) : Mm := (sR (sN (sR (sN (sR (sN (sR (sN (sR (sN (sR (sN (sR (sN (sR (sN (sR (sN M) 106 0 (some 107))) 106 1 (some 108))) 106 2 (some 109))) 106 3 (some 110))) 106 4 (some 111))) 106 5 (some 112))) 106 6 (some 113))) 106 8 (some 114))) 106 9 (some 115))
set_option maxRecDepth 100000 in
theorem bi_X7_106 {G : MG} {d : Nat} {Q : Mm → Prop} {M : Mm} (hn : M.2.2.2 = 107)  (hQ : (ri_X7_106 M).2.2.2 = 116 → Q (ri_X7_106 M)) : C G YI_X7 (d + 1) [.ref (G.b + 106)] M (Rv Q) := by
  refine C.of (by decide) (Nat.le_of_ble_eq_true rfl) (lv := [(0, .ref (G.b + 106))]) rfl ?_
  refine tw_aload_n 0 d_X7_init_0 rfl rfl ?_
  refine tw_objinit ⟨mg207, mg30, mg31⟩ (Nat.le_of_ble_eq_true rfl) d_X7_init_1 ?_
  refine tw_aload_n 0 d_X7_init_4 rfl rfl ?_
  refine tw_bipush d_X7_init_5 kb_6 ?_
  refine tw_newa (ty := .int) (t := 0) (N := 6) rfl ⟨by decide, rfl, by simp, fun M' => na_0 G M' 6⟩ mg128 hn s_107 (by decide) ⟨by decide, by decide⟩ d_X7_init_7 (fun M1 e1 hn1 => ?_)
  refine tw_putRF f_X7_9 (by rw [hn1]; decide) s_106 (Or.inr rfl) ⟨rfl, rfl⟩ d_X7_init_9 (fun M2 e2 hn2 => ?_)
  rw [hn1] at hn2
  refine tw_aload_n 0 d_X7_init_12 rfl rfl ?_
  refine tw_bipush d_X7_init_13 kb_6 ?_
  refine tw_newa (ty := .int) (t := 0) (N := 6) rfl ⟨by decide, rfl, by simp, fun M' => na_0 G M' 6⟩ mg128 hn2 s_108 (by decide) ⟨by decide, by decide⟩ d_X7_init_15 (fun M3 e3 hn3 => ?_)
  refine tw_putRF f_X7_15 (by rw [hn3]; decide) s_106 (Or.inr rfl) ⟨rfl, rfl⟩ d_X7_init_17 (fun M4 e4 hn4 => ?_)
  rw [hn3] at hn4
  refine tw_aload_n 0 d_X7_init_20 rfl rfl ?_
  refine tw_bipush d_X7_init_21 kb_6 ?_
  refine tw_newa (ty := .int) (t := 0) (N := 6) rfl ⟨by decide, rfl, by simp, fun M' => na_0 G M' 6⟩ mg128 hn4 s_109 (by decide) ⟨by decide, by decide⟩ d_X7_init_23 (fun M5 e5 hn5 => ?_)
  refine tw_putRF f_X7_18 (by rw [hn5]; decide) s_106 (Or.inr rfl) ⟨rfl, rfl⟩ d_X7_init_25 (fun M6 e6 hn6 => ?_)
  rw [hn5] at hn6
  refine tw_aload_n 0 d_X7_init_28 rfl rfl ?_
  refine tw_bipush d_X7_init_29 kb_6 ?_
  refine tw_newa (ty := .int) (t := 0) (N := 6) rfl ⟨by decide, rfl, by simp, fun M' => na_0 G M' 6⟩ mg128 hn6 s_110 (by decide) ⟨by decide, by decide⟩ d_X7_init_31 (fun M7 e7 hn7 => ?_)
  refine tw_putRF f_X7_21 (by rw [hn7]; decide) s_106 (Or.inr rfl) ⟨rfl, rfl⟩ d_X7_init_33 (fun M8 e8 hn8 => ?_)
  rw [hn7] at hn8
  refine tw_aload_n 0 d_X7_init_36 rfl rfl ?_
  refine tw_bipush d_X7_init_37 kb_6 ?_
  refine tw_newa (ty := .int) (t := 0) (N := 6) rfl ⟨by decide, rfl, by simp, fun M' => na_0 G M' 6⟩ mg128 hn8 s_111 (by decide) ⟨by decide, by decide⟩ d_X7_init_39 (fun M9 e9 hn9 => ?_)
  refine tw_putRF f_X7_24 (by rw [hn9]; decide) s_106 (Or.inr rfl) ⟨rfl, rfl⟩ d_X7_init_41 (fun M10 e10 hn10 => ?_)
  rw [hn9] at hn10
  refine tw_aload_n 0 d_X7_init_44 rfl rfl ?_
  refine tw_bipush d_X7_init_45 kb_6 ?_
  refine tw_newa (ty := .int) (t := 0) (N := 6) rfl ⟨by decide, rfl, by simp, fun M' => na_0 G M' 6⟩ mg128 hn10 s_112 (by decide) ⟨by decide, by decide⟩ d_X7_init_47 (fun M11 e11 hn11 => ?_)
  refine tw_putRF f_X7_27 (by rw [hn11]; decide) s_106 (Or.inr rfl) ⟨rfl, rfl⟩ d_X7_init_49 (fun M12 e12 hn12 => ?_)
  rw [hn11] at hn12
  refine tw_aload_n 0 d_X7_init_52 rfl rfl ?_
  refine tw_iconst d_X7_init_53 k_4 ?_
  refine tw_newa (ty := .int) (t := 0) (N := 4) rfl ⟨by decide, rfl, by simp, fun M' => na_0 G M' 4⟩ mg128 hn12 s_113 (by decide) ⟨by decide, by decide⟩ d_X7_init_54 (fun M13 e13 hn13 => ?_)
  refine tw_putRF f_X7_30 (by rw [hn13]; decide) s_106 (Or.inr rfl) ⟨rfl, rfl⟩ d_X7_init_56 (fun M14 e14 hn14 => ?_)
  rw [hn13] at hn14
  refine tw_aload_n 0 d_X7_init_59 rfl rfl ?_
  refine tw_iconst d_X7_init_60 k_4 ?_
  refine tw_newa (ty := .int) (t := 0) (N := 4) rfl ⟨by decide, rfl, by simp, fun M' => na_0 G M' 4⟩ mg128 hn14 s_114 (by decide) ⟨by decide, by decide⟩ d_X7_init_61 (fun M15 e15 hn15 => ?_)
  refine tw_putRF f_X7_33 (by rw [hn15]; decide) s_106 (Or.inr rfl) ⟨rfl, rfl⟩ d_X7_init_63 (fun M16 e16 hn16 => ?_)
  rw [hn15] at hn16
  refine tw_aload_n 0 d_X7_init_66 rfl rfl ?_
  refine tw_iconst d_X7_init_67 k_4 ?_
  refine tw_newa (ty := .int) (t := 0) (N := 4) rfl ⟨by decide, rfl, by simp, fun M' => na_0 G M' 4⟩ mg128 hn16 s_115 (by decide) ⟨by decide, by decide⟩ d_X7_init_68 (fun M17 e17 hn17 => ?_)
  refine tw_putRF f_X7_36 (by rw [hn17]; decide) s_106 (Or.inr rfl) ⟨rfl, rfl⟩ d_X7_init_70 (fun M18 e18 hn18 => ?_)
  rw [hn17] at hn18
  refine tw_vret rfl ⟨by decide, by decide⟩ d_X7_init_73 ?_
  have hf : M18.2.2.2 = 116 := hn18
  rw [e18] at hf
  rw [e17] at hf
  rw [e16] at hf
  rw [e15] at hf
  rw [e14] at hf
  rw [e13] at hf
  rw [e12] at hf
  rw [e11] at hf
  rw [e10] at hf
  rw [e9] at hf
  rw [e8] at hf
  rw [e7] at hf
  rw [e6] at hf
  rw [e5] at hf
  rw [e4] at hf
  rw [e3] at hf
  rw [e2] at hf
  rw [e1] at hf
  rw [e18]
  rw [e17]
  rw [e16]
  rw [e15]
  rw [e14]
  rw [e13]
  rw [e12]
  rw [e11]
  rw [e10]
  rw [e9]
  rw [e8]
  rw [e7]
  rw [e6]
  rw [e5]
  rw [e4]
  rw [e3]
  rw [e2]
  rw [e1]
  exact hQ hf
def ri_X7_116 (M : Mm) : Mm := (sR (sN (sR (sN (sR (sN (sR (sN (sR (sN (sR (sN (sR (sN (sR (sN (sR (sN M) 116 0 (some 117))) 116 1 (some 118))) 116 2 (some 119))) 116 3 (some 120))) 116 4 (some 121))) 116 5 (some 122))) 116 6 (some 123))) 116 8 (some 124))) 116 9 (some 125))
set_option maxRecDepth 100000 in
theorem bi_X7_116 {G : MG} {d : Nat} {Q : Mm → Prop} {M : Mm} (hn : M.2.2.2 = 117)  (hQ : (ri_X7_116 M).2.2.2 = 126 → Q (ri_X7_116 M)) : C G YI_X7 (d + 1) [.ref (G.b + 116)] M (Rv Q) := by
  refine C.of (by decide) (Nat.le_of_ble_eq_true rfl) (lv := [(0, .ref (G.b + 116))]) rfl ?_
  refine tw_aload_n 0 d_X7_init_0 rfl rfl ?_
  refine tw_objinit ⟨mg207, mg30, mg31⟩ (Nat.le_of_ble_eq_true rfl) d_X7_init_1 ?_
  refine tw_aload_n 0 d_X7_init_4 rfl rfl ?_
  refine tw_bipush d_X7_init_5 kb_6 ?_
  refine tw_newa (ty := .int) (t := 0) (N := 6) rfl ⟨by decide, rfl, by simp, fun M' => na_0 G M' 6⟩ mg128 hn s_117 (by decide) ⟨by decide, by decide⟩ d_X7_init_7 (fun M1 e1 hn1 => ?_)
  refine tw_putRF f_X7_9 (by rw [hn1]; decide) s_116 (Or.inr rfl) ⟨rfl, rfl⟩ d_X7_init_9 (fun M2 e2 hn2 => ?_)
  rw [hn1] at hn2
  refine tw_aload_n 0 d_X7_init_12 rfl rfl ?_
  refine tw_bipush d_X7_init_13 kb_6 ?_
  refine tw_newa (ty := .int) (t := 0) (N := 6) rfl ⟨by decide, rfl, by simp, fun M' => na_0 G M' 6⟩ mg128 hn2 s_118 (by decide) ⟨by decide, by decide⟩ d_X7_init_15 (fun M3 e3 hn3 => ?_)
  refine tw_putRF f_X7_15 (by rw [hn3]; decide) s_116 (Or.inr rfl) ⟨rfl, rfl⟩ d_X7_init_17 (fun M4 e4 hn4 => ?_)
  rw [hn3] at hn4
  refine tw_aload_n 0 d_X7_init_20 rfl rfl ?_
  refine tw_bipush d_X7_init_21 kb_6 ?_
  refine tw_newa (ty := .int) (t := 0) (N := 6) rfl ⟨by decide, rfl, by simp, fun M' => na_0 G M' 6⟩ mg128 hn4 s_119 (by decide) ⟨by decide, by decide⟩ d_X7_init_23 (fun M5 e5 hn5 => ?_)
  refine tw_putRF f_X7_18 (by rw [hn5]; decide) s_116 (Or.inr rfl) ⟨rfl, rfl⟩ d_X7_init_25 (fun M6 e6 hn6 => ?_)
  rw [hn5] at hn6
  refine tw_aload_n 0 d_X7_init_28 rfl rfl ?_
  refine tw_bipush d_X7_init_29 kb_6 ?_
  refine tw_newa (ty := .int) (t := 0) (N := 6) rfl ⟨by decide, rfl, by simp, fun M' => na_0 G M' 6⟩ mg128 hn6 s_120 (by decide) ⟨by decide, by decide⟩ d_X7_init_31 (fun M7 e7 hn7 => ?_)
  refine tw_putRF f_X7_21 (by rw [hn7]; decide) s_116 (Or.inr rfl) ⟨rfl, rfl⟩ d_X7_init_33 (fun M8 e8 hn8 => ?_)
  rw [hn7] at hn8
  refine tw_aload_n 0 d_X7_init_36 rfl rfl ?_
  refine tw_bipush d_X7_init_37 kb_6 ?_
  refine tw_newa (ty := .int) (t := 0) (N := 6) rfl ⟨by decide, rfl, by simp, fun M' => na_0 G M' 6⟩ mg128 hn8 s_121 (by decide) ⟨by decide, by decide⟩ d_X7_init_39 (fun M9 e9 hn9 => ?_)
  refine tw_putRF f_X7_24 (by rw [hn9]; decide) s_116 (Or.inr rfl) ⟨rfl, rfl⟩ d_X7_init_41 (fun M10 e10 hn10 => ?_)
  rw [hn9] at hn10
  refine tw_aload_n 0 d_X7_init_44 rfl rfl ?_
  refine tw_bipush d_X7_init_45 kb_6 ?_
  refine tw_newa (ty := .int) (t := 0) (N := 6) rfl ⟨by decide, rfl, by simp, fun M' => na_0 G M' 6⟩ mg128 hn10 s_122 (by decide) ⟨by decide, by decide⟩ d_X7_init_47 (fun M11 e11 hn11 => ?_)
  refine tw_putRF f_X7_27 (by rw [hn11]; decide) s_116 (Or.inr rfl) ⟨rfl, rfl⟩ d_X7_init_49 (fun M12 e12 hn12 => ?_)
  rw [hn11] at hn12
  refine tw_aload_n 0 d_X7_init_52 rfl rfl ?_
  refine tw_iconst d_X7_init_53 k_4 ?_
  refine tw_newa (ty := .int) (t := 0) (N := 4) rfl ⟨by decide, rfl, by simp, fun M' => na_0 G M' 4⟩ mg128 hn12 s_123 (by decide) ⟨by decide, by decide⟩ d_X7_init_54 (fun M13 e13 hn13 => ?_)
  refine tw_putRF f_X7_30 (by rw [hn13]; decide) s_116 (Or.inr rfl) ⟨rfl, rfl⟩ d_X7_init_56 (fun M14 e14 hn14 => ?_)
  rw [hn13] at hn14
  refine tw_aload_n 0 d_X7_init_59 rfl rfl ?_
  refine tw_iconst d_X7_init_60 k_4 ?_
  refine tw_newa (ty := .int) (t := 0) (N := 4) rfl ⟨by decide, rfl, by simp, fun M' => na_0 G M' 4⟩ mg128 hn14 s_124 (by decide) ⟨by decide, by decide⟩ d_X7_init_61 (fun M15 e15 hn15 => ?_)
  refine tw_putRF f_X7_33 (by rw [hn15]; decide) s_116 (Or.inr rfl) ⟨rfl, rfl⟩ d_X7_init_63 (fun M16 e16 hn16 => ?_)
  rw [hn15] at hn16
  refine tw_aload_n 0 d_X7_init_66 rfl rfl ?_
  refine tw_iconst d_X7_init_67 k_4 ?_
  refine tw_newa (ty := .int) (t := 0) (N := 4) rfl ⟨by decide, rfl, by simp, fun M' => na_0 G M' 4⟩ mg128 hn16 s_125 (by decide) ⟨by decide, by decide⟩ d_X7_init_68 (fun M17 e17 hn17 => ?_)
  refine tw_putRF f_X7_36 (by rw [hn17]; decide) s_116 (Or.inr rfl) ⟨rfl, rfl⟩ d_X7_init_70 (fun M18 e18 hn18 => ?_)
  rw [hn17] at hn18
  refine tw_vret rfl ⟨by decide, by decide⟩ d_X7_init_73 ?_
  have hf : M18.2.2.2 = 126 := hn18
  rw [e18] at hf
  rw [e17] at hf
  rw [e16] at hf
  rw [e15] at hf
  rw [e14] at hf
  rw [e13] at hf
  rw [e12] at hf
  rw [e11] at hf
  rw [e10] at hf
  rw [e9] at hf
  rw [e8] at hf
  rw [e7] at hf
  rw [e6] at hf
  rw [e5] at hf
  rw [e4] at hf
  rw [e3] at hf
  rw [e2] at hf
  rw [e1] at hf
  rw [e18]
  rw [e17]
  rw [e16]
  rw [e15]
  rw [e14]
  rw [e13]
  rw [e12]
  rw [e11]
  rw [e10]
  rw [e9]
  rw [e8]
  rw [e7]
  rw [e6]
  rw [e5]
  rw [e4]
  rw [e3]
  rw [e2]
  rw [e1]
  exact hQ hf
theorem mg265 : Cond.classLink RX11 41 RX9 ∈ lw_good := List.mem_filter.mpr ⟨List.mem_append_right _ (List.mem_of_getElem? (i := 265) (by decide +kernel)), by decide +kernel⟩
theorem mg266 : Cond.instantiable RX9 3 ∈ lw_good := List.mem_filter.mpr ⟨List.mem_append_right _ (List.mem_of_getElem? (i := 266) (by decide +kernel)), by decide +kernel⟩
theorem n_X11_41 : nOK RX11 41 9 := ⟨RX9, TX9, 3, rfl, rfl, ⟨mg265, mg266, mg7⟩, inG9, tyX9_ok, by decide⟩
def YI_X9 : MY := (yX9_init, cX9_init, 1, none, 0, 0, [])
theorem d_X9_init_0 : decode YI_X9.cc 0 = .ok (.aload_n 0, 1) := by decide +kernel
theorem d_X9_init_1 : decode YI_X9.cc 1 = .ok (.invokespecial 3, 3) := by decide +kernel
theorem d_X9_init_4 : decode YI_X9.cc 4 = .ok (.return_, 1) := by decide +kernel
theorem mg270 : Cond.methodLink RX9 3 objectInit ∈ lw_good := List.mem_filter.mpr ⟨List.mem_append_right _ (List.mem_of_getElem? (i := 270) (by decide +kernel)), by decide +kernel⟩
def ri_X9_126 (M : Mm) : Mm := M
set_option maxRecDepth 100000 in
theorem bi_X9_126 {G : MG} {d : Nat} {Q : Mm → Prop} {M : Mm} (hn : M.2.2.2 = 127)  (hQ : (ri_X9_126 M).2.2.2 = 127 → Q (ri_X9_126 M)) : C G YI_X9 (d + 1) [.ref (G.b + 126)] M (Rv Q) := by
  refine C.of (by decide) (Nat.le_of_ble_eq_true rfl) (lv := [(0, .ref (G.b + 126))]) rfl ?_
  refine tw_aload_n 0 d_X9_init_0 rfl rfl ?_
  refine tw_objinit ⟨mg270, mg30, mg31⟩ (Nat.le_of_ble_eq_true rfl) d_X9_init_1 ?_
  refine tw_vret rfl ⟨by decide, by decide⟩ d_X9_init_4 ?_
  have hf : M.2.2.2 = 127 := hn
  exact hQ hf
theorem mg268 : Cond.instanceMethod yX9_init ∈ lw_good := List.mem_filter.mpr ⟨List.mem_append_right _ (List.mem_of_getElem? (i := 268) (by decide +kernel)), by decide +kernel⟩
theorem mg269 : Cond.code yX9_init cX9_init 1 none ∈ lw_good := List.mem_filter.mpr ⟨List.mem_append_right _ (List.mem_of_getElem? (i := 269) (by decide +kernel)), by decide +kernel⟩
theorem ci_X9 : ciOK 0 YI_X9 := ⟨⟨mg268, mg7, mg269⟩, ⟨by decide +kernel, by decide +kernel⟩, by decide +kernel, by decide, rfl, rfl⟩
theorem mg281 : Cond.classLink RX11 48 RX8 ∈ lw_good := List.mem_filter.mpr ⟨List.mem_append_right _ (List.mem_of_getElem? (i := 281) (by decide +kernel)), by decide +kernel⟩
theorem mg282 : Cond.instantiable RX8 2 ∈ lw_good := List.mem_filter.mpr ⟨List.mem_append_right _ (List.mem_of_getElem? (i := 282) (by decide +kernel)), by decide +kernel⟩
theorem n_X11_48 : nOK RX11 48 8 := ⟨RX8, TX8, 2, rfl, rfl, ⟨mg281, mg282, mg8⟩, inG8, tyX8_ok, by decide⟩
def YI_X8 : MY := (yX8_init, cX8_init, 1, none, 0, 0, [])
theorem d_X8_init_0 : decode YI_X8.cc 0 = .ok (.aload_n 0, 1) := by decide +kernel
theorem d_X8_init_1 : decode YI_X8.cc 1 = .ok (.invokespecial 1, 3) := by decide +kernel
theorem d_X8_init_4 : decode YI_X8.cc 4 = .ok (.return_, 1) := by decide +kernel
theorem mg286 : Cond.methodLink RX8 1 objectInit ∈ lw_good := List.mem_filter.mpr ⟨List.mem_append_right _ (List.mem_of_getElem? (i := 286) (by decide +kernel)), by decide +kernel⟩
def ri_X8_127 (M : Mm) : Mm := M
set_option maxRecDepth 100000 in
theorem bi_X8_127 {G : MG} {d : Nat} {Q : Mm → Prop} {M : Mm} (hn : M.2.2.2 = 128)  (hQ : (ri_X8_127 M).2.2.2 = 128 → Q (ri_X8_127 M)) : C G YI_X8 (d + 1) [.ref (G.b + 127)] M (Rv Q) := by
  refine C.of (by decide) (Nat.le_of_ble_eq_true rfl) (lv := [(0, .ref (G.b + 127))]) rfl ?_
  refine tw_aload_n 0 d_X8_init_0 rfl rfl ?_
  refine tw_objinit ⟨mg286, mg30, mg31⟩ (Nat.le_of_ble_eq_true rfl) d_X8_init_1 ?_
  refine tw_vret rfl ⟨by decide, by decide⟩ d_X8_init_4 ?_
  have hf : M.2.2.2 = 128 := hn
  exact hQ hf
theorem mg284 : Cond.instanceMethod yX8_init ∈ lw_good := List.mem_filter.mpr ⟨List.mem_append_right _ (List.mem_of_getElem? (i := 284) (by decide +kernel)), by decide +kernel⟩
theorem mg285 : Cond.code yX8_init cX8_init 1 none ∈ lw_good := List.mem_filter.mpr ⟨List.mem_append_right _ (List.mem_of_getElem? (i := 285) (by decide +kernel)), by decide +kernel⟩
theorem ci_X8 : ciOK 0 YI_X8 := ⟨⟨mg284, mg8, mg285⟩, ⟨by decide +kernel, by decide +kernel⟩, by decide +kernel, by decide, rfl, rfl⟩
theorem mg294 : Cond.classLink RX11 55 RX6 ∈ lw_good := List.mem_filter.mpr ⟨List.mem_append_right _ (List.mem_of_getElem? (i := 294) (by decide +kernel)), by decide +kernel⟩
theorem mg295 : Cond.instantiable RX6 5 ∈ lw_good := List.mem_filter.mpr ⟨List.mem_append_right _ (List.mem_of_getElem? (i := 295) (by decide +kernel)), by decide +kernel⟩
theorem n_X11_55 : nOK RX11 55 6 := ⟨RX6, TX6, 5, rfl, rfl, ⟨mg294, mg295, mg9⟩, inG6, tyX6_ok, by decide⟩
def YI_X6 : MY := (yX6_init, cX6_init, 1, none, 4, 12, [])
theorem d_X6_init_0 : decode YI_X6.cc 0 = .ok (.aload_n 0, 1) := by decide +kernel
theorem d_X6_init_1 : decode YI_X6.cc 1 = .ok (.invokespecial 3, 3) := by decide +kernel
theorem d_X6_init_4 : decode YI_X6.cc 4 = .ok (.aload_n 0, 1) := by decide +kernel
theorem d_X6_init_5 : decode YI_X6.cc 5 = .ok (.iconst 4, 1) := by decide +kernel
theorem d_X6_init_6 : decode YI_X6.cc 6 = .ok (.newarray .int, 2) := by decide +kernel
theorem d_X6_init_8 : decode YI_X6.cc 8 = .ok (.putfield 9, 3) := by decide +kernel
theorem d_X6_init_11 : decode YI_X6.cc 11 = .ok (.aload_n 0, 1) := by decide +kernel
theorem d_X6_init_12 : decode YI_X6.cc 12 = .ok (.new 15, 3) := by decide +kernel
theorem d_X6_init_15 : decode YI_X6.cc 15 = .ok (.dup, 1) := by decide +kernel
theorem d_X6_init_16 : decode YI_X6.cc 16 = .ok (.invokespecial 17, 3) := by decide +kernel
theorem d_X6_init_19 : decode YI_X6.cc 19 = .ok (.putfield 18, 3) := by decide +kernel
theorem d_X6_init_22 : decode YI_X6.cc 22 = .ok (.aload_n 0, 1) := by decide +kernel
theorem d_X6_init_23 : decode YI_X6.cc 23 = .ok (.iconst 4, 1) := by decide +kernel
theorem d_X6_init_24 : decode YI_X6.cc 24 = .ok (.newarray .int, 2) := by decide +kernel
theorem d_X6_init_26 : decode YI_X6.cc 26 = .ok (.putfield 22, 3) := by decide +kernel
theorem d_X6_init_29 : decode YI_X6.cc 29 = .ok (.aload_n 0, 1) := by decide +kernel
theorem d_X6_init_30 : decode YI_X6.cc 30 = .ok (.new 15, 3) := by decide +kernel
theorem d_X6_init_33 : decode YI_X6.cc 33 = .ok (.dup, 1) := by decide +kernel
theorem d_X6_init_34 : decode YI_X6.cc 34 = .ok (.invokespecial 17, 3) := by decide +kernel
theorem d_X6_init_37 : decode YI_X6.cc 37 = .ok (.putfield 25, 3) := by decide +kernel
theorem d_X6_init_40 : decode YI_X6.cc 40 = .ok (.return_, 1) := by decide +kernel
theorem mg299 : Cond.methodLink RX6 3 objectInit ∈ lw_good := List.mem_filter.mpr ⟨List.mem_append_right _ (List.mem_of_getElem? (i := 299) (by decide +kernel)), by decide +kernel⟩
theorem mg300 : Cond.classLink RX6 15 RX8 ∈ lw_good := List.mem_filter.mpr ⟨List.mem_append_right _ (List.mem_of_getElem? (i := 300) (by decide +kernel)), by decide +kernel⟩
theorem n_X6_15 : nOK RX6 15 8 := ⟨RX8, TX8, 2, rfl, rfl, ⟨mg300, mg282, mg8⟩, inG8, tyX8_ok, by decide⟩
def ri_X8_130 (M : Mm) : Mm := M
set_option maxRecDepth 100000 in
theorem bi_X8_130 {G : MG} {d : Nat} {Q : Mm → Prop} {M : Mm} (hn : M.2.2.2 = 131)  (hQ : (ri_X8_130 M).2.2.2 = 131 → Q (ri_X8_130 M)) : C G YI_X8 (d + 1) [.ref (G.b + 130)] M (Rv Q) := by
  refine C.of (by decide) (Nat.le_of_ble_eq_true rfl) (lv := [(0, .ref (G.b + 130))]) rfl ?_
  refine tw_aload_n 0 d_X8_init_0 rfl rfl ?_
  refine tw_objinit ⟨mg286, mg30, mg31⟩ (Nat.le_of_ble_eq_true rfl) d_X8_init_1 ?_
  refine tw_vret rfl ⟨by decide, by decide⟩ d_X8_init_4 ?_
  have hf : M.2.2.2 = 131 := hn
  exact hQ hf
def ri_X8_132 (M : Mm) : Mm := M
set_option maxRecDepth 100000 in
theorem bi_X8_132 {G : MG} {d : Nat} {Q : Mm → Prop} {M : Mm} (hn : M.2.2.2 = 133)  (hQ : (ri_X8_132 M).2.2.2 = 133 → Q (ri_X8_132 M)) : C G YI_X8 (d + 1) [.ref (G.b + 132)] M (Rv Q) := by
  refine C.of (by decide) (Nat.le_of_ble_eq_true rfl) (lv := [(0, .ref (G.b + 132))]) rfl ?_
  refine tw_aload_n 0 d_X8_init_0 rfl rfl ?_
  refine tw_objinit ⟨mg286, mg30, mg31⟩ (Nat.le_of_ble_eq_true rfl) d_X8_init_1 ?_
  refine tw_vret rfl ⟨by decide, by decide⟩ d_X8_init_4 ?_
  have hf : M.2.2.2 = 133 := hn
  exact hQ hf
def ri_X6_128 (M : Mm) : Mm := (sR (ri_X8_132 (sN (sR (sN (sR (ri_X8_130 (sN (sR (sN M) 128 0 (some 129)))) 128 1 (some 130))) 128 2 (some 131)))) 128 3 (some 132))
set_option maxRecDepth 100000 in
theorem bi_X6_128 {G : MG} {d : Nat} {Q : Mm → Prop} {M : Mm} (hn : M.2.2.2 = 129) (hni_X6_17 : ∀ U, G.X U → va_Nw (.methodLinkNest RX6 17 YI_X8.y "CopyArms") U) (hQ : (ri_X6_128 M).2.2.2 = 133 → Q (ri_X6_128 M)) : C G YI_X6 (d + 2) [.ref (G.b + 128)] M (Rv Q) := by
  refine C.of (by decide) (Nat.le_of_ble_eq_true rfl) (lv := [(0, .ref (G.b + 128))]) rfl ?_
  refine tw_aload_n 0 d_X6_init_0 rfl rfl ?_
  refine tw_objinit ⟨mg299, mg30, mg31⟩ (Nat.le_of_ble_eq_true rfl) d_X6_init_1 ?_
  refine tw_aload_n 0 d_X6_init_4 rfl rfl ?_
  refine tw_iconst d_X6_init_5 k_4 ?_
  refine tw_newa (ty := .int) (t := 0) (N := 4) rfl ⟨by decide, rfl, by simp, fun M' => na_0 G M' 4⟩ mg128 hn s_129 (by decide) ⟨by decide, by decide⟩ d_X6_init_6 (fun M1 e1 hn1 => ?_)
  refine tw_putRF f_X6_9 (by rw [hn1]; decide) s_128 (Or.inr rfl) ⟨rfl, rfl⟩ d_X6_init_8 (fun M2 e2 hn2 => ?_)
  rw [hn1] at hn2
  refine tw_aload_n 0 d_X6_init_11 rfl rfl ?_
  refine tw_new n_X6_15 hn2 s_130 ⟨by decide, by decide⟩ d_X6_init_12 (fun M3 e3 hn3 => ?_)
  refine tw_dup d_X6_init_15 rfl ?_
  refine tw_callIN (Z := YI_X8) (As := []) (Q' := fun N => N = ri_X8_130 M3 ∧ N.2.2.2 = 131) ci_X8 hni_X6_17 rfl (Nat.le_of_ble_eq_true rfl) ⟨by decide, by decide⟩ d_X6_init_16 (bi_X8_130 hn3  (fun hf => ⟨rfl, hf⟩)) (fun M4 he4 => ?_)
  obtain ⟨e4, hn4⟩ := he4
  refine tw_putRF f_X6_18 (by rw [hn4]; decide) s_128 (Or.inr rfl) ⟨rfl, rfl⟩ d_X6_init_19 (fun M5 e5 hn5 => ?_)
  rw [hn4] at hn5
  refine tw_aload_n 0 d_X6_init_22 rfl rfl ?_
  refine tw_iconst d_X6_init_23 k_4 ?_
  refine tw_newa (ty := .int) (t := 0) (N := 4) rfl ⟨by decide, rfl, by simp, fun M' => na_0 G M' 4⟩ mg128 hn5 s_131 (by decide) ⟨by decide, by decide⟩ d_X6_init_24 (fun M6 e6 hn6 => ?_)
  refine tw_putRF f_X6_22 (by rw [hn6]; decide) s_128 (Or.inr rfl) ⟨rfl, rfl⟩ d_X6_init_26 (fun M7 e7 hn7 => ?_)
  rw [hn6] at hn7
  refine tw_aload_n 0 d_X6_init_29 rfl rfl ?_
  refine tw_new n_X6_15 hn7 s_132 ⟨by decide, by decide⟩ d_X6_init_30 (fun M8 e8 hn8 => ?_)
  refine tw_dup d_X6_init_33 rfl ?_
  refine tw_callIN (Z := YI_X8) (As := []) (Q' := fun N => N = ri_X8_132 M8 ∧ N.2.2.2 = 133) ci_X8 hni_X6_17 rfl (Nat.le_of_ble_eq_true rfl) ⟨by decide, by decide⟩ d_X6_init_34 (bi_X8_132 hn8  (fun hf => ⟨rfl, hf⟩)) (fun M9 he9 => ?_)
  obtain ⟨e9, hn9⟩ := he9
  refine tw_putRF f_X6_25 (by rw [hn9]; decide) s_128 (Or.inr rfl) ⟨rfl, rfl⟩ d_X6_init_37 (fun M10 e10 hn10 => ?_)
  rw [hn9] at hn10
  refine tw_vret rfl ⟨by decide, by decide⟩ d_X6_init_40 ?_
  have hf : M10.2.2.2 = 133 := hn10
  rw [e10] at hf
  rw [e9] at hf
  rw [e8] at hf
  rw [e7] at hf
  rw [e6] at hf
  rw [e5] at hf
  rw [e4] at hf
  rw [e3] at hf
  rw [e2] at hf
  rw [e1] at hf
  rw [e10]
  rw [e9]
  rw [e8]
  rw [e7]
  rw [e6]
  rw [e5]
  rw [e4]
  rw [e3]
  rw [e2]
  rw [e1]
  exact hQ hf
theorem mg297 : Cond.instanceMethod yX6_init ∈ lw_good := List.mem_filter.mpr ⟨List.mem_append_right _ (List.mem_of_getElem? (i := 297) (by decide +kernel)), by decide +kernel⟩
theorem mg298 : Cond.code yX6_init cX6_init 1 none ∈ lw_good := List.mem_filter.mpr ⟨List.mem_append_right _ (List.mem_of_getElem? (i := 298) (by decide +kernel)), by decide +kernel⟩
theorem ci_X6 : ciOK 0 YI_X6 := ⟨⟨mg297, mg9, mg298⟩, ⟨by decide +kernel, by decide +kernel⟩, by decide +kernel, by decide, rfl, rfl⟩
theorem mg320 : Cond.classLink RX11 62 RX4 ∈ lw_good := List.mem_filter.mpr ⟨List.mem_append_right _ (List.mem_of_getElem? (i := 320) (by decide +kernel)), by decide +kernel⟩
theorem mg321 : Cond.instantiable RX4 3 ∈ lw_good := List.mem_filter.mpr ⟨List.mem_append_right _ (List.mem_of_getElem? (i := 321) (by decide +kernel)), by decide +kernel⟩
theorem n_X11_62 : nOK RX11 62 4 := ⟨RX4, TX4, 3, rfl, rfl, ⟨mg320, mg321, mg10⟩, inG4, tyX4_ok, by decide⟩
def YI_X4 : MY := (yX4_init, cX4_init, 1, none, 0, 0, [])
theorem d_X4_init_0 : decode YI_X4.cc 0 = .ok (.aload_n 0, 1) := by decide +kernel
theorem d_X4_init_1 : decode YI_X4.cc 1 = .ok (.invokespecial 3, 3) := by decide +kernel
theorem d_X4_init_4 : decode YI_X4.cc 4 = .ok (.return_, 1) := by decide +kernel
theorem mg325 : Cond.methodLink RX4 3 objectInit ∈ lw_good := List.mem_filter.mpr ⟨List.mem_append_right _ (List.mem_of_getElem? (i := 325) (by decide +kernel)), by decide +kernel⟩
def ri_X4_133 (M : Mm) : Mm := M
set_option maxRecDepth 100000 in
theorem bi_X4_133 {G : MG} {d : Nat} {Q : Mm → Prop} {M : Mm} (hn : M.2.2.2 = 134)  (hQ : (ri_X4_133 M).2.2.2 = 134 → Q (ri_X4_133 M)) : C G YI_X4 (d + 1) [.ref (G.b + 133)] M (Rv Q) := by
  refine C.of (by decide) (Nat.le_of_ble_eq_true rfl) (lv := [(0, .ref (G.b + 133))]) rfl ?_
  refine tw_aload_n 0 d_X4_init_0 rfl rfl ?_
  refine tw_objinit ⟨mg325, mg30, mg31⟩ (Nat.le_of_ble_eq_true rfl) d_X4_init_1 ?_
  refine tw_vret rfl ⟨by decide, by decide⟩ d_X4_init_4 ?_
  have hf : M.2.2.2 = 134 := hn
  exact hQ hf
theorem mg323 : Cond.instanceMethod yX4_init ∈ lw_good := List.mem_filter.mpr ⟨List.mem_append_right _ (List.mem_of_getElem? (i := 323) (by decide +kernel)), by decide +kernel⟩
theorem mg324 : Cond.code yX4_init cX4_init 1 none ∈ lw_good := List.mem_filter.mpr ⟨List.mem_append_right _ (List.mem_of_getElem? (i := 324) (by decide +kernel)), by decide +kernel⟩
theorem ci_X4 : ciOK 0 YI_X4 := ⟨⟨mg323, mg10, mg324⟩, ⟨by decide +kernel, by decide +kernel⟩, by decide +kernel, by decide, rfl, rfl⟩
theorem mg339 : Cond.classLink RX11 69 RX3 ∈ lw_good := List.mem_filter.mpr ⟨List.mem_append_right _ (List.mem_of_getElem? (i := 339) (by decide +kernel)), by decide +kernel⟩
theorem mg340 : Cond.instantiable RX3 2 ∈ lw_good := List.mem_filter.mpr ⟨List.mem_append_right _ (List.mem_of_getElem? (i := 340) (by decide +kernel)), by decide +kernel⟩
theorem n_X11_69 : nOK RX11 69 3 := ⟨RX3, TX3, 2, rfl, rfl, ⟨mg339, mg340, mg11⟩, inG3, tyX3_ok, by decide⟩
def YI_X3 : MY := (yX3_init, cX3_init, 1, none, 2, 128, [])
theorem d_X3_init_0 : decode YI_X3.cc 0 = .ok (.aload_n 0, 1) := by decide +kernel
theorem d_X3_init_1 : decode YI_X3.cc 1 = .ok (.invokespecial 3, 3) := by decide +kernel
theorem d_X3_init_4 : decode YI_X3.cc 4 = .ok (.aload_n 0, 1) := by decide +kernel
theorem d_X3_init_5 : decode YI_X3.cc 5 = .ok (.bipush 64, 2) := by decide +kernel
theorem d_X3_init_7 : decode YI_X3.cc 7 = .ok (.newarray .boolean, 2) := by decide +kernel
theorem d_X3_init_9 : decode YI_X3.cc 9 = .ok (.putfield 9, 3) := by decide +kernel
theorem d_X3_init_12 : decode YI_X3.cc 12 = .ok (.aload_n 0, 1) := by decide +kernel
theorem d_X3_init_13 : decode YI_X3.cc 13 = .ok (.bipush 64, 2) := by decide +kernel
theorem d_X3_init_15 : decode YI_X3.cc 15 = .ok (.newarray .int, 2) := by decide +kernel
theorem d_X3_init_17 : decode YI_X3.cc 17 = .ok (.putfield 15, 3) := by decide +kernel
theorem d_X3_init_20 : decode YI_X3.cc 20 = .ok (.return_, 1) := by decide +kernel
theorem mg344 : Cond.methodLink RX3 3 objectInit ∈ lw_good := List.mem_filter.mpr ⟨List.mem_append_right _ (List.mem_of_getElem? (i := 344) (by decide +kernel)), by decide +kernel⟩
theorem mg352 : Cond.arrayClass .boolean ∈ lw_good := List.mem_filter.mpr ⟨List.mem_append_right _ (List.mem_of_getElem? (i := 352) (by decide +kernel)), by decide +kernel⟩
def ri_X3_134 (M : Mm) : Mm := (sR (sN (sR (sN M) 134 0 (some 135))) 134 1 (some 136))
set_option maxRecDepth 100000 in
theorem bi_X3_134 {G : MG} {d : Nat} {Q : Mm → Prop} {M : Mm} (hn : M.2.2.2 = 135)  (hQ : (ri_X3_134 M).2.2.2 = 137 → Q (ri_X3_134 M)) : C G YI_X3 (d + 1) [.ref (G.b + 134)] M (Rv Q) := by
  refine C.of (by decide) (Nat.le_of_ble_eq_true rfl) (lv := [(0, .ref (G.b + 134))]) rfl ?_
  refine tw_aload_n 0 d_X3_init_0 rfl rfl ?_
  refine tw_objinit ⟨mg344, mg30, mg31⟩ (Nat.le_of_ble_eq_true rfl) d_X3_init_1 ?_
  refine tw_aload_n 0 d_X3_init_4 rfl rfl ?_
  refine tw_bipush d_X3_init_5 kb_64 ?_
  refine tw_newa (ty := .boolean) (t := 3) (N := 64) rfl ⟨by decide, rfl, by simp, fun M' => na_3 G M' 64⟩ mg352 hn s_135 (by decide) ⟨by decide, by decide⟩ d_X3_init_7 (fun M1 e1 hn1 => ?_)
  refine tw_putRF f_X3_9 (by rw [hn1]; decide) s_134 (Or.inr rfl) ⟨rfl, rfl⟩ d_X3_init_9 (fun M2 e2 hn2 => ?_)
  rw [hn1] at hn2
  refine tw_aload_n 0 d_X3_init_12 rfl rfl ?_
  refine tw_bipush d_X3_init_13 kb_64 ?_
  refine tw_newa (ty := .int) (t := 0) (N := 64) rfl ⟨by decide, rfl, by simp, fun M' => na_0 G M' 64⟩ mg128 hn2 s_136 (by decide) ⟨by decide, by decide⟩ d_X3_init_15 (fun M3 e3 hn3 => ?_)
  refine tw_putRF f_X3_15 (by rw [hn3]; decide) s_134 (Or.inr rfl) ⟨rfl, rfl⟩ d_X3_init_17 (fun M4 e4 hn4 => ?_)
  rw [hn3] at hn4
  refine tw_vret rfl ⟨by decide, by decide⟩ d_X3_init_20 ?_
  have hf : M4.2.2.2 = 137 := hn4
  rw [e4] at hf
  rw [e3] at hf
  rw [e2] at hf
  rw [e1] at hf
  rw [e4]
  rw [e3]
  rw [e2]
  rw [e1]
  exact hQ hf
theorem mg342 : Cond.instanceMethod yX3_init ∈ lw_good := List.mem_filter.mpr ⟨List.mem_append_right _ (List.mem_of_getElem? (i := 342) (by decide +kernel)), by decide +kernel⟩
theorem mg343 : Cond.code yX3_init cX3_init 1 none ∈ lw_good := List.mem_filter.mpr ⟨List.mem_append_right _ (List.mem_of_getElem? (i := 343) (by decide +kernel)), by decide +kernel⟩
theorem ci_X3 : ciOK 0 YI_X3 := ⟨⟨mg342, mg11, mg343⟩, ⟨by decide +kernel, by decide +kernel⟩, by decide +kernel, by decide, rfl, rfl⟩
theorem mg353 : Cond.classLink RX11 76 RX0 ∈ lw_good := List.mem_filter.mpr ⟨List.mem_append_right _ (List.mem_of_getElem? (i := 353) (by decide +kernel)), by decide +kernel⟩
theorem mg354 : Cond.instantiable RX0 3 ∈ lw_good := List.mem_filter.mpr ⟨List.mem_append_right _ (List.mem_of_getElem? (i := 354) (by decide +kernel)), by decide +kernel⟩
theorem n_X11_76 : nOK RX11 76 0 := ⟨RX0, TX0, 3, rfl, rfl, ⟨mg353, mg354, mg12⟩, inG0, tyX0_ok, by decide⟩
def YI_X0 : MY := (yX0_init, cX0_init, 1, none, 9, 184, [])
theorem d_X0_init_0 : decode YI_X0.cc 0 = .ok (.aload_n 0, 1) := by decide +kernel
theorem d_X0_init_1 : decode YI_X0.cc 1 = .ok (.invokespecial 3, 3) := by decide +kernel
theorem d_X0_init_4 : decode YI_X0.cc 4 = .ok (.aload_n 0, 1) := by decide +kernel
theorem d_X0_init_5 : decode YI_X0.cc 5 = .ok (.bipush 7, 2) := by decide +kernel
theorem d_X0_init_7 : decode YI_X0.cc 7 = .ok (.bipush 7, 2) := by decide +kernel
theorem d_X0_init_9 : decode YI_X0.cc 9 = .ok (.multianewarray 9 2, 4) := by decide +kernel
theorem d_X0_init_13 : decode YI_X0.cc 13 = .ok (.putfield 11, 3) := by decide +kernel
theorem d_X0_init_16 : decode YI_X0.cc 16 = .ok (.aload_n 0, 1) := by decide +kernel
theorem d_X0_init_17 : decode YI_X0.cc 17 = .ok (.sipush 128, 3) := by decide +kernel
theorem d_X0_init_20 : decode YI_X0.cc 20 = .ok (.newarray .int, 2) := by decide +kernel
theorem d_X0_init_22 : decode YI_X0.cc 22 = .ok (.putfield 16, 3) := by decide +kernel
theorem d_X0_init_25 : decode YI_X0.cc 25 = .ok (.return_, 1) := by decide +kernel
theorem mg358 : Cond.methodLink RX0 3 objectInit ∈ lw_good := List.mem_filter.mpr ⟨List.mem_append_right _ (List.mem_of_getElem? (i := 358) (by decide +kernel)), by decide +kernel⟩
theorem mg359 : Cond.classLink RX0 9 "[[I" ∈ lw_good := List.mem_filter.mpr ⟨List.mem_append_right _ (List.mem_of_getElem? (i := 359) (by decide +kernel)), by decide +kernel⟩
theorem ks_128 : (Int16.ofInt 128).toInt32 = 128 := by decide
def ri_X0_137 (M : Mm) : Mm := (sR (sN (sR (sM M 7) 137 0 (some 138))) 137 1 (some 146))
set_option maxRecDepth 100000 in
theorem bi_X0_137 {G : MG} {d : Nat} {Q : Mm → Prop} {M : Mm} (hn : M.2.2.2 = 138) (hao_I : ∀ U, G.X U → ∀ A : Array Value, (Cond.arrayOver (.array .int)).before A U = true) (hQ : (ri_X0_137 M).2.2.2 = 147 → Q (ri_X0_137 M)) : C G YI_X0 (d + 1) [.ref (G.b + 137)] M (Rv Q) := by
  refine C.of (by decide) (Nat.le_of_ble_eq_true rfl) (lv := [(0, .ref (G.b + 137))]) rfl ?_
  refine tw_aload_n 0 d_X0_init_0 rfl rfl ?_
  refine tw_objinit ⟨mg358, mg30, mg31⟩ (Nat.le_of_ble_eq_true rfl) d_X0_init_1 ?_
  refine tw_aload_n 0 d_X0_init_4 rfl rfl ?_
  refine tw_bipush d_X0_init_5 kb_7 ?_
  refine tw_bipush d_X0_init_7 kb_7 ?_
  refine tw_mna (N := 7) (K := 7) mg359 mg128 hao_I hn (by decide) s_138 (by decide +kernel) (by decide) (by decide) ⟨by decide, by decide⟩ d_X0_init_9 (fun M1 e1 hn1 => ?_)
  refine tw_putRF f_X0_11 (by rw [hn1]; decide) s_137 (Or.inr rfl) ⟨rfl, rfl⟩ d_X0_init_13 (fun M2 e2 hn2 => ?_)
  rw [hn1] at hn2
  refine tw_aload_n 0 d_X0_init_16 rfl rfl ?_
  refine tw_sipush d_X0_init_17 ks_128 ?_
  refine tw_newa (ty := .int) (t := 0) (N := 128) rfl ⟨by decide, rfl, by simp, fun M' => na_0 G M' 128⟩ mg128 hn2 s_146 (by decide) ⟨by decide, by decide⟩ d_X0_init_20 (fun M3 e3 hn3 => ?_)
  refine tw_putRF f_X0_16 (by rw [hn3]; decide) s_137 (Or.inr rfl) ⟨rfl, rfl⟩ d_X0_init_22 (fun M4 e4 hn4 => ?_)
  rw [hn3] at hn4
  refine tw_vret rfl ⟨by decide, by decide⟩ d_X0_init_25 ?_
  have hf : M4.2.2.2 = 147 := hn4
  rw [e4] at hf
  rw [e3] at hf
  rw [e2] at hf
  rw [e1] at hf
  rw [e4]
  rw [e3]
  rw [e2]
  rw [e1]
  exact hQ hf
theorem mg356 : Cond.instanceMethod yX0_init ∈ lw_good := List.mem_filter.mpr ⟨List.mem_append_right _ (List.mem_of_getElem? (i := 356) (by decide +kernel)), by decide +kernel⟩
theorem mg357 : Cond.code yX0_init cX0_init 1 none ∈ lw_good := List.mem_filter.mpr ⟨List.mem_append_right _ (List.mem_of_getElem? (i := 357) (by decide +kernel)), by decide +kernel⟩
theorem ci_X0 : ciOK 0 YI_X0 := ⟨⟨mg356, mg12, mg357⟩, ⟨by decide +kernel, by decide +kernel⟩, by decide +kernel, by decide, rfl, rfl⟩
def ri_X11_0 (M : Mm) : Mm := (sR (ri_X0_137 (sN (sR (ri_X3_134 (sN (sR (ri_X4_133 (sN (sR (ri_X6_128 (sN (sR (ri_X8_127 (sN (sR (ri_X9_126 (sN (sI (sR (ri_X7_116 (sN (sR (ri_X7_106 (sN (sR (ri_X7_96 (sN (sR (ri_X7_86 (sN (sR (sN (sR (ri_X7_75 (sN (sR (ri_X5_39 (sN (sR (ri_X5_3 (sN (sR (ri_X10_1 (sN M)) 0 0 (some 1)))) 0 1 (some 3)))) 0 2 (some 39)))) 0 3 (some 75))) 0 4 (some 85)))) 85 (Int32.toNatClampNeg 0) (some 86)))) 85 (Int32.toNatClampNeg 1) (some 96)))) 85 (Int32.toNatClampNeg 2) (some 106)))) 85 (Int32.toNatClampNeg 3) (some 116)) 0 5 0))) 0 6 (some 126)))) 0 7 (some 127)))) 0 8 (some 128)))) 0 9 (some 133)))) 0 10 (some 134)))) 0 11 (some 137))
set_option maxRecDepth 100000 in
theorem bi_X11_0 {G : MG} {d : Nat} {Q : Mm → Prop} {M : Mm} (hn : M.2.2.2 = 1) (hao_I : ∀ U, G.X U → ∀ A : Array Value, (Cond.arrayOver (.array .int)).before A U = true) (hao_X1 : ∀ U, G.X U → va_AO "CopyArms$Arm" U) (hao_X2 : ∀ U, G.X U → va_AO "CopyArms$Chart" U) (hao_X7 : ∀ U, G.X U → va_AO "CopyArms$Setting" U) (hni_X11_28 : ∀ U, G.X U → va_Nw (.methodLinkNest RX11 28 YI_X7.y "CopyArms") U) (hni_X11_43 : ∀ U, G.X U → va_Nw (.methodLinkNest RX11 43 YI_X9.y "CopyArms") U) (hni_X11_50 : ∀ U, G.X U → va_Nw (.methodLinkNest RX11 50 YI_X8.y "CopyArms") U) (hni_X11_57 : ∀ U, G.X U → va_Nw (.methodLinkNest RX11 57 YI_X6.y "CopyArms") U) (hni_X11_64 : ∀ U, G.X U → va_Nw (.methodLinkNest RX11 64 YI_X4.y "CopyArms") U) (hni_X11_71 : ∀ U, G.X U → va_Nw (.methodLinkNest RX11 71 YI_X3.y "CopyArms") U) (hni_X11_78 : ∀ U, G.X U → va_Nw (.methodLinkNest RX11 78 YI_X0.y "CopyArms") U) (hni_X11_9 : ∀ U, G.X U → va_Nw (.methodLinkNest RX11 9 YI_X10.y "CopyArms") U) (hni_X5_23 : ∀ U, G.X U → va_Nw (.methodLinkNest RX5 23 YI_X1.y "CopyArms") U) (hni_X5_24 : ∀ U, G.X U → va_Nw (.methodLinkNest RX5 24 YI_X2.y "CopyArms") U) (hni_X6_17 : ∀ U, G.X U → va_Nw (.methodLinkNest RX6 17 YI_X8.y "CopyArms") U) (hQ : (ri_X11_0 M).2.2.2 = 147 → Q (ri_X11_0 M)) : C G YI_X11 (d + 3) [.ref (G.b + 0)] M (Rv Q) := by
  refine C.of (by decide) (Nat.le_of_ble_eq_true rfl) (lv := [(0, .ref (G.b + 0))]) rfl ?_
  refine tw_aload_n 0 d_X11_init_0 rfl rfl ?_
  refine tw_objinit ⟨mg29, mg30, mg31⟩ (Nat.le_of_ble_eq_true rfl) d_X11_init_1 ?_
  refine tw_aload_n 0 d_X11_init_4 rfl rfl ?_
  refine tw_new n_X11_7 hn s_1 ⟨by decide, by decide⟩ d_X11_init_5 (fun M1 e1 hn1 => ?_)
  refine tw_dup d_X11_init_8 rfl ?_
  refine tw_callIN (Z := YI_X10) (As := []) (Q' := fun N => N = ri_X10_1 M1 ∧ N.2.2.2 = 3) ci_X10 hni_X11_9 rfl (Nat.le_of_ble_eq_true rfl) ⟨by decide, by decide⟩ d_X11_init_9 (bi_X10_1 hn1  (fun hf => ⟨rfl, hf⟩)) (fun M2 he2 => ?_)
  obtain ⟨e2, hn2⟩ := he2
  refine tw_putRF f_X11_10 (by rw [hn2]; decide) s_0 (Or.inr rfl) ⟨rfl, rfl⟩ d_X11_init_12 (fun M3 e3 hn3 => ?_)
  rw [hn2] at hn3
  refine tw_aload_n 0 d_X11_init_15 rfl rfl ?_
  refine tw_new n_X11_16 hn3 s_3 ⟨by decide, by decide⟩ d_X11_init_16 (fun M4 e4 hn4 => ?_)
  refine tw_dup d_X11_init_19 rfl ?_
  refine tw_callI (Z := YI_X5) (As := []) (Q' := fun N => N = ri_X5_3 M4 ∧ N.2.2.2 = 39) ci_X5 mg64 rfl (Nat.le_of_ble_eq_true rfl) ⟨by decide, by decide⟩ d_X11_init_20 (bi_X5_3 hn4 hao_X1 hao_X2 hni_X5_23 hni_X5_24 (fun hf => ⟨rfl, hf⟩)) (fun M5 he5 => ?_)
  obtain ⟨e5, hn5⟩ := he5
  refine tw_putRF f_X11_19 (by rw [hn5]; decide) s_0 (Or.inr rfl) ⟨rfl, rfl⟩ d_X11_init_23 (fun M6 e6 hn6 => ?_)
  rw [hn5] at hn6
  refine tw_aload_n 0 d_X11_init_26 rfl rfl ?_
  refine tw_new n_X11_16 hn6 s_39 ⟨by decide, by decide⟩ d_X11_init_27 (fun M7 e7 hn7 => ?_)
  refine tw_dup d_X11_init_30 rfl ?_
  refine tw_callI (Z := YI_X5) (As := []) (Q' := fun N => N = ri_X5_39 M7 ∧ N.2.2.2 = 75) ci_X5 mg64 rfl (Nat.le_of_ble_eq_true rfl) ⟨by decide, by decide⟩ d_X11_init_31 (bi_X5_39 hn7 hao_X1 hao_X2 hni_X5_23 hni_X5_24 (fun hf => ⟨rfl, hf⟩)) (fun M8 he8 => ?_)
  obtain ⟨e8, hn8⟩ := he8
  refine tw_putRF f_X11_23 (by rw [hn8]; decide) s_0 (Or.inr rfl) ⟨rfl, rfl⟩ d_X11_init_34 (fun M9 e9 hn9 => ?_)
  rw [hn8] at hn9
  refine tw_aload_n 0 d_X11_init_37 rfl rfl ?_
  refine tw_new n_X11_26 hn9 s_75 ⟨by decide, by decide⟩ d_X11_init_38 (fun M10 e10 hn10 => ?_)
  refine tw_dup d_X11_init_41 rfl ?_
  refine tw_callIN (Z := YI_X7) (As := []) (Q' := fun N => N = ri_X7_75 M10 ∧ N.2.2.2 = 85) ci_X7 hni_X11_28 rfl (Nat.le_of_ble_eq_true rfl) ⟨by decide, by decide⟩ d_X11_init_42 (bi_X7_75 hn10  (fun hf => ⟨rfl, hf⟩)) (fun M11 he11 => ?_)
  obtain ⟨e11, hn11⟩ := he11
  refine tw_putRF f_X11_29 (by rw [hn11]; decide) s_0 (Or.inr rfl) ⟨rfl, rfl⟩ d_X11_init_45 (fun M12 e12 hn12 => ?_)
  rw [hn11] at hn12
  refine tw_aload_n 0 d_X11_init_48 rfl rfl ?_
  refine tw_iconst d_X11_init_49 k_4 ?_
  refine tw_anew (t := 6) (N := 4) ⟨by decide, by decide, rfl⟩ mg202 hao_X7 hn12 s_85 (by decide) ⟨by decide, by decide⟩ d_X11_init_50 (fun M13 e13 hn13 => ?_)
  refine tw_putRF f_X11_33 (by rw [hn13]; decide) s_0 (Or.inr rfl) ⟨rfl, rfl⟩ d_X11_init_53 (fun M14 e14 hn14 => ?_)
  rw [hn13] at hn14
  have hr14_0_4 : M14.2.2.1 0 4 = some 85 := by rw [e14]; simp [sR, upR]
  refine tw_iconst d_X11_init_56 k_0 ?_
  refine tw_istore_n [(1, .int 0), (0, .ref (G.b + 0))] d_X11_init_57 rfl (Nat.le_of_ble_eq_true rfl) rfl ?_
  refine tw_iload_n 0 d_X11_init_58 rfl rfl ?_
  refine tw_iconst d_X11_init_59 k_4 ?_
  refine tw_icmp_ge 82 d_X11_init_60 (by decide) (fun z => absurd z (by decide)) (fun _ => ?_)
  refine tw_aload_n 1 d_X11_init_63 rfl rfl ?_
  refine tw_getRF (q := 85) f_X11_33 (by rw [hn14]; decide) s_0 ⟨rfl, rfl⟩ hr14_0_4 d_X11_init_64 ?_
  refine tw_iload_n 0 d_X11_init_67 rfl rfl ?_
  refine tw_new n_X11_26 hn14 s_86 ⟨by decide, by decide⟩ d_X11_init_68 (fun M15 e15 hn15 => ?_)
  have hr15_0_4 : M15.2.2.1 0 4 = some 85 := by rw [e15]; simp [sR, sN, sM, sI, sJ, upR, hn14, hr14_0_4]
  refine tw_dup d_X11_init_71 rfl ?_
  refine tw_callIN (Z := YI_X7) (As := []) (Q' := fun N => N = ri_X7_86 M15 ∧ N.2.2.2 = 96) ci_X7 hni_X11_28 rfl (Nat.le_of_ble_eq_true rfl) ⟨by decide, by decide⟩ d_X11_init_72 (bi_X7_86 hn15  (fun hf => ⟨rfl, hf⟩)) (fun M16 he16 => ?_)
  obtain ⟨e16, hn16⟩ := he16
  have hr16_0_4 : M16.2.2.1 0 4 = some 85 := by rw [e16]; simp [sR, sN, sM, sI, sJ, upR, hn15, hr15_0_4, ri_X7_86]
  refine tw_aast (t := 6) ⟨by decide, by decide, rfl⟩ (ci := 7) rfl (by rw [hn16]; decide) (by rw [hn16]; decide) s_85 s_86 d_X11_init_75 (by unfold vp_in; decide) (fun M17 e17 hn17 => ?_)
  rw [hn16] at hn17
  have hr17_0_4 : M17.2.2.1 0 4 = some 85 := by rw [e17]; simp [sR, sN, sM, sI, sJ, upR, hn16, hr16_0_4]
  refine tw_iinc 0 [(1, .int 1), (0, .ref (G.b + 0))] d_X11_init_76 rfl (by decide) (Nat.le_of_ble_eq_true rfl) rfl ?_
  refine tw_goto 58 d_X11_init_79 (by decide) ?_
  refine tw_iload_n 0 d_X11_init_58 rfl rfl ?_
  refine tw_iconst d_X11_init_59 k_4 ?_
  refine tw_icmp_ge 82 d_X11_init_60 (by decide) (fun z => absurd z (by decide)) (fun _ => ?_)
  refine tw_aload_n 1 d_X11_init_63 rfl rfl ?_
  refine tw_getRF (q := 85) f_X11_33 (by rw [hn17]; decide) s_0 ⟨rfl, rfl⟩ hr17_0_4 d_X11_init_64 ?_
  refine tw_iload_n 0 d_X11_init_67 rfl rfl ?_
  refine tw_new n_X11_26 hn17 s_96 ⟨by decide, by decide⟩ d_X11_init_68 (fun M18 e18 hn18 => ?_)
  have hr18_0_4 : M18.2.2.1 0 4 = some 85 := by rw [e18]; simp [sR, sN, sM, sI, sJ, upR, hn17, hr17_0_4]
  refine tw_dup d_X11_init_71 rfl ?_
  refine tw_callIN (Z := YI_X7) (As := []) (Q' := fun N => N = ri_X7_96 M18 ∧ N.2.2.2 = 106) ci_X7 hni_X11_28 rfl (Nat.le_of_ble_eq_true rfl) ⟨by decide, by decide⟩ d_X11_init_72 (bi_X7_96 hn18  (fun hf => ⟨rfl, hf⟩)) (fun M19 he19 => ?_)
  obtain ⟨e19, hn19⟩ := he19
  have hr19_0_4 : M19.2.2.1 0 4 = some 85 := by rw [e19]; simp [sR, sN, sM, sI, sJ, upR, hn18, hr18_0_4, ri_X7_96]
  refine tw_aast (t := 6) ⟨by decide, by decide, rfl⟩ (ci := 7) rfl (by rw [hn19]; decide) (by rw [hn19]; decide) s_85 s_96 d_X11_init_75 (by unfold vp_in; decide) (fun M20 e20 hn20 => ?_)
  rw [hn19] at hn20
  have hr20_0_4 : M20.2.2.1 0 4 = some 85 := by rw [e20]; simp [sR, sN, sM, sI, sJ, upR, hn19, hr19_0_4]
  refine tw_iinc 0 [(1, .int 2), (0, .ref (G.b + 0))] d_X11_init_76 rfl (by decide) (Nat.le_of_ble_eq_true rfl) rfl ?_
  refine tw_goto 58 d_X11_init_79 (by decide) ?_
  refine tw_iload_n 0 d_X11_init_58 rfl rfl ?_
  refine tw_iconst d_X11_init_59 k_4 ?_
  refine tw_icmp_ge 82 d_X11_init_60 (by decide) (fun z => absurd z (by decide)) (fun _ => ?_)
  refine tw_aload_n 1 d_X11_init_63 rfl rfl ?_
  refine tw_getRF (q := 85) f_X11_33 (by rw [hn20]; decide) s_0 ⟨rfl, rfl⟩ hr20_0_4 d_X11_init_64 ?_
  refine tw_iload_n 0 d_X11_init_67 rfl rfl ?_
  refine tw_new n_X11_26 hn20 s_106 ⟨by decide, by decide⟩ d_X11_init_68 (fun M21 e21 hn21 => ?_)
  have hr21_0_4 : M21.2.2.1 0 4 = some 85 := by rw [e21]; simp [sR, sN, sM, sI, sJ, upR, hn20, hr20_0_4]
  refine tw_dup d_X11_init_71 rfl ?_
  refine tw_callIN (Z := YI_X7) (As := []) (Q' := fun N => N = ri_X7_106 M21 ∧ N.2.2.2 = 116) ci_X7 hni_X11_28 rfl (Nat.le_of_ble_eq_true rfl) ⟨by decide, by decide⟩ d_X11_init_72 (bi_X7_106 hn21  (fun hf => ⟨rfl, hf⟩)) (fun M22 he22 => ?_)
  obtain ⟨e22, hn22⟩ := he22
  have hr22_0_4 : M22.2.2.1 0 4 = some 85 := by rw [e22]; simp [sR, sN, sM, sI, sJ, upR, hn21, hr21_0_4, ri_X7_106]
  refine tw_aast (t := 6) ⟨by decide, by decide, rfl⟩ (ci := 7) rfl (by rw [hn22]; decide) (by rw [hn22]; decide) s_85 s_106 d_X11_init_75 (by unfold vp_in; decide) (fun M23 e23 hn23 => ?_)
  rw [hn22] at hn23
  have hr23_0_4 : M23.2.2.1 0 4 = some 85 := by rw [e23]; simp [sR, sN, sM, sI, sJ, upR, hn22, hr22_0_4]
  refine tw_iinc 0 [(1, .int 3), (0, .ref (G.b + 0))] d_X11_init_76 rfl (by decide) (Nat.le_of_ble_eq_true rfl) rfl ?_
  refine tw_goto 58 d_X11_init_79 (by decide) ?_
  refine tw_iload_n 0 d_X11_init_58 rfl rfl ?_
  refine tw_iconst d_X11_init_59 k_4 ?_
  refine tw_icmp_ge 82 d_X11_init_60 (by decide) (fun z => absurd z (by decide)) (fun _ => ?_)
  refine tw_aload_n 1 d_X11_init_63 rfl rfl ?_
  refine tw_getRF (q := 85) f_X11_33 (by rw [hn23]; decide) s_0 ⟨rfl, rfl⟩ hr23_0_4 d_X11_init_64 ?_
  refine tw_iload_n 0 d_X11_init_67 rfl rfl ?_
  refine tw_new n_X11_26 hn23 s_116 ⟨by decide, by decide⟩ d_X11_init_68 (fun M24 e24 hn24 => ?_)
  have hr24_0_4 : M24.2.2.1 0 4 = some 85 := by rw [e24]; simp [sR, sN, sM, sI, sJ, upR, hn23, hr23_0_4]
  refine tw_dup d_X11_init_71 rfl ?_
  refine tw_callIN (Z := YI_X7) (As := []) (Q' := fun N => N = ri_X7_116 M24 ∧ N.2.2.2 = 126) ci_X7 hni_X11_28 rfl (Nat.le_of_ble_eq_true rfl) ⟨by decide, by decide⟩ d_X11_init_72 (bi_X7_116 hn24  (fun hf => ⟨rfl, hf⟩)) (fun M25 he25 => ?_)
  obtain ⟨e25, hn25⟩ := he25
  have hr25_0_4 : M25.2.2.1 0 4 = some 85 := by rw [e25]; simp [sR, sN, sM, sI, sJ, upR, hn24, hr24_0_4, ri_X7_116]
  refine tw_aast (t := 6) ⟨by decide, by decide, rfl⟩ (ci := 7) rfl (by rw [hn25]; decide) (by rw [hn25]; decide) s_85 s_116 d_X11_init_75 (by unfold vp_in; decide) (fun M26 e26 hn26 => ?_)
  rw [hn25] at hn26
  have hr26_0_4 : M26.2.2.1 0 4 = some 85 := by rw [e26]; simp [sR, sN, sM, sI, sJ, upR, hn25, hr25_0_4]
  refine tw_iinc 0 [(1, .int 4), (0, .ref (G.b + 0))] d_X11_init_76 rfl (by decide) (Nat.le_of_ble_eq_true rfl) rfl ?_
  refine tw_goto 58 d_X11_init_79 (by decide) ?_
  refine tw_iload_n 0 d_X11_init_58 rfl rfl ?_
  refine tw_iconst d_X11_init_59 k_4 ?_
  refine tw_icmp_ge 82 d_X11_init_60 (by decide) (fun _ => ?_) (fun z => absurd (by decide) z)
  refine tw_aload_n 1 d_X11_init_82 rfl rfl ?_
  refine tw_iconst d_X11_init_83 k_0 ?_
  refine tw_putIF f_X11_37 (by rw [hn26]; decide) s_0 rfl rfl d_X11_init_84 (fun M27 e27 hn27 => ?_)
  rw [hn26] at hn27
  have hr27_0_4 : M27.2.2.1 0 4 = some 85 := by rw [e27]; simp [sR, sN, sM, sI, sJ, upR, hn26, hr26_0_4]
  refine tw_aload_n 1 d_X11_init_87 rfl rfl ?_
  refine tw_new n_X11_41 hn27 s_126 ⟨by decide, by decide⟩ d_X11_init_88 (fun M28 e28 hn28 => ?_)
  have hr28_0_4 : M28.2.2.1 0 4 = some 85 := by rw [e28]; simp [sR, sN, sM, sI, sJ, upR, hn27, hr27_0_4]
  refine tw_dup d_X11_init_91 rfl ?_
  refine tw_callIN (Z := YI_X9) (As := []) (Q' := fun N => N = ri_X9_126 M28 ∧ N.2.2.2 = 127) ci_X9 hni_X11_43 rfl (Nat.le_of_ble_eq_true rfl) ⟨by decide, by decide⟩ d_X11_init_92 (bi_X9_126 hn28  (fun hf => ⟨rfl, hf⟩)) (fun M29 he29 => ?_)
  obtain ⟨e29, hn29⟩ := he29
  have hr29_0_4 : M29.2.2.1 0 4 = some 85 := by rw [e29]; simp [sR, sN, sM, sI, sJ, upR, hn28, hr28_0_4, ri_X9_126]
  refine tw_putRF f_X11_44 (by rw [hn29]; decide) s_0 (Or.inr rfl) ⟨rfl, rfl⟩ d_X11_init_95 (fun M30 e30 hn30 => ?_)
  rw [hn29] at hn30
  have hr30_0_4 : M30.2.2.1 0 4 = some 85 := by rw [e30]; simp [sR, sN, sM, sI, sJ, upR, hn29, hr29_0_4]
  refine tw_aload_n 1 d_X11_init_98 rfl rfl ?_
  refine tw_new n_X11_48 hn30 s_127 ⟨by decide, by decide⟩ d_X11_init_99 (fun M31 e31 hn31 => ?_)
  have hr31_0_4 : M31.2.2.1 0 4 = some 85 := by rw [e31]; simp [sR, sN, sM, sI, sJ, upR, hn30, hr30_0_4]
  refine tw_dup d_X11_init_102 rfl ?_
  refine tw_callIN (Z := YI_X8) (As := []) (Q' := fun N => N = ri_X8_127 M31 ∧ N.2.2.2 = 128) ci_X8 hni_X11_50 rfl (Nat.le_of_ble_eq_true rfl) ⟨by decide, by decide⟩ d_X11_init_103 (bi_X8_127 hn31  (fun hf => ⟨rfl, hf⟩)) (fun M32 he32 => ?_)
  obtain ⟨e32, hn32⟩ := he32
  have hr32_0_4 : M32.2.2.1 0 4 = some 85 := by rw [e32]; simp [sR, sN, sM, sI, sJ, upR, hn31, hr31_0_4, ri_X8_127]
  refine tw_putRF f_X11_51 (by rw [hn32]; decide) s_0 (Or.inr rfl) ⟨rfl, rfl⟩ d_X11_init_106 (fun M33 e33 hn33 => ?_)
  rw [hn32] at hn33
  have hr33_0_4 : M33.2.2.1 0 4 = some 85 := by rw [e33]; simp [sR, sN, sM, sI, sJ, upR, hn32, hr32_0_4]
  refine tw_aload_n 1 d_X11_init_109 rfl rfl ?_
  refine tw_new n_X11_55 hn33 s_128 ⟨by decide, by decide⟩ d_X11_init_110 (fun M34 e34 hn34 => ?_)
  have hr34_0_4 : M34.2.2.1 0 4 = some 85 := by rw [e34]; simp [sR, sN, sM, sI, sJ, upR, hn33, hr33_0_4]
  refine tw_dup d_X11_init_113 rfl ?_
  refine tw_callIN (Z := YI_X6) (As := []) (Q' := fun N => N = ri_X6_128 M34 ∧ N.2.2.2 = 133) ci_X6 hni_X11_57 rfl (Nat.le_of_ble_eq_true rfl) ⟨by decide, by decide⟩ d_X11_init_114 (bi_X6_128 hn34 hni_X6_17 (fun hf => ⟨rfl, hf⟩)) (fun M35 he35 => ?_)
  obtain ⟨e35, hn35⟩ := he35
  have hr35_0_4 : M35.2.2.1 0 4 = some 85 := by rw [e35]; simp [sR, sN, sM, sI, sJ, upR, hn34, hr34_0_4, ri_X6_128, ri_X8_130, ri_X8_132]
  refine tw_putRF f_X11_58 (by rw [hn35]; decide) s_0 (Or.inr rfl) ⟨rfl, rfl⟩ d_X11_init_117 (fun M36 e36 hn36 => ?_)
  rw [hn35] at hn36
  have hr36_0_4 : M36.2.2.1 0 4 = some 85 := by rw [e36]; simp [sR, sN, sM, sI, sJ, upR, hn35, hr35_0_4]
  refine tw_aload_n 1 d_X11_init_120 rfl rfl ?_
  refine tw_new n_X11_62 hn36 s_133 ⟨by decide, by decide⟩ d_X11_init_121 (fun M37 e37 hn37 => ?_)
  have hr37_0_4 : M37.2.2.1 0 4 = some 85 := by rw [e37]; simp [sR, sN, sM, sI, sJ, upR, hn36, hr36_0_4]
  refine tw_dup d_X11_init_124 rfl ?_
  refine tw_callIN (Z := YI_X4) (As := []) (Q' := fun N => N = ri_X4_133 M37 ∧ N.2.2.2 = 134) ci_X4 hni_X11_64 rfl (Nat.le_of_ble_eq_true rfl) ⟨by decide, by decide⟩ d_X11_init_125 (bi_X4_133 hn37  (fun hf => ⟨rfl, hf⟩)) (fun M38 he38 => ?_)
  obtain ⟨e38, hn38⟩ := he38
  have hr38_0_4 : M38.2.2.1 0 4 = some 85 := by rw [e38]; simp [sR, sN, sM, sI, sJ, upR, hn37, hr37_0_4, ri_X4_133]
  refine tw_putRF f_X11_65 (by rw [hn38]; decide) s_0 (Or.inr rfl) ⟨rfl, rfl⟩ d_X11_init_128 (fun M39 e39 hn39 => ?_)
  rw [hn38] at hn39
  have hr39_0_4 : M39.2.2.1 0 4 = some 85 := by rw [e39]; simp [sR, sN, sM, sI, sJ, upR, hn38, hr38_0_4]
  refine tw_aload_n 1 d_X11_init_131 rfl rfl ?_
  refine tw_new n_X11_69 hn39 s_134 ⟨by decide, by decide⟩ d_X11_init_132 (fun M40 e40 hn40 => ?_)
  have hr40_0_4 : M40.2.2.1 0 4 = some 85 := by rw [e40]; simp [sR, sN, sM, sI, sJ, upR, hn39, hr39_0_4]
  refine tw_dup d_X11_init_135 rfl ?_
  refine tw_callIN (Z := YI_X3) (As := []) (Q' := fun N => N = ri_X3_134 M40 ∧ N.2.2.2 = 137) ci_X3 hni_X11_71 rfl (Nat.le_of_ble_eq_true rfl) ⟨by decide, by decide⟩ d_X11_init_136 (bi_X3_134 hn40  (fun hf => ⟨rfl, hf⟩)) (fun M41 he41 => ?_)
  obtain ⟨e41, hn41⟩ := he41
  have hr41_0_4 : M41.2.2.1 0 4 = some 85 := by rw [e41]; simp [sR, sN, sM, sI, sJ, upR, hn40, hr40_0_4, ri_X3_134]
  refine tw_putRF f_X11_72 (by rw [hn41]; decide) s_0 (Or.inr rfl) ⟨rfl, rfl⟩ d_X11_init_139 (fun M42 e42 hn42 => ?_)
  rw [hn41] at hn42
  have hr42_0_4 : M42.2.2.1 0 4 = some 85 := by rw [e42]; simp [sR, sN, sM, sI, sJ, upR, hn41, hr41_0_4]
  refine tw_aload_n 1 d_X11_init_142 rfl rfl ?_
  refine tw_new n_X11_76 hn42 s_137 ⟨by decide, by decide⟩ d_X11_init_143 (fun M43 e43 hn43 => ?_)
  have hr43_0_4 : M43.2.2.1 0 4 = some 85 := by rw [e43]; simp [sR, sN, sM, sI, sJ, upR, hn42, hr42_0_4]
  refine tw_dup d_X11_init_146 rfl ?_
  refine tw_callIN (Z := YI_X0) (As := []) (Q' := fun N => N = ri_X0_137 M43 ∧ N.2.2.2 = 147) ci_X0 hni_X11_78 rfl (Nat.le_of_ble_eq_true rfl) ⟨by decide, by decide⟩ d_X11_init_147 (bi_X0_137 hn43 hao_I (fun hf => ⟨rfl, hf⟩)) (fun M44 he44 => ?_)
  obtain ⟨e44, hn44⟩ := he44
  have hr44_0_4 : M44.2.2.1 0 4 = some 85 := by rw [e44]; simp [sR, sN, sM, sI, sJ, upR, hn43, hr43_0_4, ri_X0_137]
  refine tw_putRF f_X11_79 (by rw [hn44]; decide) s_0 (Or.inr rfl) ⟨rfl, rfl⟩ d_X11_init_150 (fun M45 e45 hn45 => ?_)
  rw [hn44] at hn45
  have hr45_0_4 : M45.2.2.1 0 4 = some 85 := by rw [e45]; simp [sR, sN, sM, sI, sJ, upR, hn44, hr44_0_4]
  refine tw_vret rfl ⟨by decide, by decide⟩ d_X11_init_153 ?_
  have hf : M45.2.2.2 = 147 := hn45
  rw [e45] at hf
  rw [e44] at hf
  rw [e43] at hf
  rw [e42] at hf
  rw [e41] at hf
  rw [e40] at hf
  rw [e39] at hf
  rw [e38] at hf
  rw [e37] at hf
  rw [e36] at hf
  rw [e35] at hf
  rw [e34] at hf
  rw [e33] at hf
  rw [e32] at hf
  rw [e31] at hf
  rw [e30] at hf
  rw [e29] at hf
  rw [e28] at hf
  rw [e27] at hf
  rw [e26] at hf
  rw [e25] at hf
  rw [e24] at hf
  rw [e23] at hf
  rw [e22] at hf
  rw [e21] at hf
  rw [e20] at hf
  rw [e19] at hf
  rw [e18] at hf
  rw [e17] at hf
  rw [e16] at hf
  rw [e15] at hf
  rw [e14] at hf
  rw [e13] at hf
  rw [e12] at hf
  rw [e11] at hf
  rw [e10] at hf
  rw [e9] at hf
  rw [e8] at hf
  rw [e7] at hf
  rw [e6] at hf
  rw [e5] at hf
  rw [e4] at hf
  rw [e3] at hf
  rw [e2] at hf
  rw [e1] at hf
  rw [e45]
  rw [e44]
  rw [e43]
  rw [e42]
  rw [e41]
  rw [e40]
  rw [e39]
  rw [e38]
  rw [e37]
  rw [e36]
  rw [e35]
  rw [e34]
  rw [e33]
  rw [e32]
  rw [e31]
  rw [e30]
  rw [e29]
  rw [e28]
  rw [e27]
  rw [e26]
  rw [e25]
  rw [e24]
  rw [e23]
  rw [e22]
  rw [e21]
  rw [e20]
  rw [e19]
  rw [e18]
  rw [e17]
  rw [e16]
  rw [e15]
  rw [e14]
  rw [e13]
  rw [e12]
  rw [e11]
  rw [e10]
  rw [e9]
  rw [e8]
  rw [e7]
  rw [e6]
  rw [e5]
  rw [e4]
  rw [e3]
  rw [e2]
  rw [e1]
  exact hQ hf
def YI_X12 : MY := (yX12_init, cX12_init, 1, none, 13, 5081, [])
theorem d_X12_init_0 : decode YI_X12.cc 0 = .ok (.aload_n 0, 1) := by decide +kernel
theorem d_X12_init_1 : decode YI_X12.cc 1 = .ok (.invokespecial 18, 3) := by decide +kernel
theorem d_X12_init_4 : decode YI_X12.cc 4 = .ok (.aload_n 0, 1) := by decide +kernel
theorem d_X12_init_5 : decode YI_X12.cc 5 = .ok (.sipush 1000, 3) := by decide +kernel
theorem d_X12_init_8 : decode YI_X12.cc 8 = .ok (.newarray .int, 2) := by decide +kernel
theorem d_X12_init_10 : decode YI_X12.cc 10 = .ok (.putfield 14, 3) := by decide +kernel
theorem d_X12_init_13 : decode YI_X12.cc 13 = .ok (.aload_n 0, 1) := by decide +kernel
theorem d_X12_init_14 : decode YI_X12.cc 14 = .ok (.sipush 1002, 3) := by decide +kernel
theorem d_X12_init_17 : decode YI_X12.cc 17 = .ok (.newarray .int, 2) := by decide +kernel
theorem d_X12_init_19 : decode YI_X12.cc 19 = .ok (.putfield 24, 3) := by decide +kernel
theorem d_X12_init_22 : decode YI_X12.cc 22 = .ok (.aload_n 0, 1) := by decide +kernel
theorem d_X12_init_23 : decode YI_X12.cc 23 = .ok (.sipush 1002, 3) := by decide +kernel
theorem d_X12_init_26 : decode YI_X12.cc 26 = .ok (.newarray .int, 2) := by decide +kernel
theorem d_X12_init_28 : decode YI_X12.cc 28 = .ok (.putfield 27, 3) := by decide +kernel
theorem d_X12_init_31 : decode YI_X12.cc 31 = .ok (.aload_n 0, 1) := by decide +kernel
theorem d_X12_init_32 : decode YI_X12.cc 32 = .ok (.sipush 1002, 3) := by decide +kernel
theorem d_X12_init_35 : decode YI_X12.cc 35 = .ok (.newarray .long, 2) := by decide +kernel
theorem d_X12_init_37 : decode YI_X12.cc 37 = .ok (.putfield 30, 3) := by decide +kernel
theorem d_X12_init_40 : decode YI_X12.cc 40 = .ok (.aload_n 0, 1) := by decide +kernel
theorem d_X12_init_41 : decode YI_X12.cc 41 = .ok (.bipush 16, 2) := by decide +kernel
theorem d_X12_init_43 : decode YI_X12.cc 43 = .ok (.newarray .long, 2) := by decide +kernel
theorem d_X12_init_45 : decode YI_X12.cc 45 = .ok (.dup, 1) := by decide +kernel
theorem d_X12_init_46 : decode YI_X12.cc 46 = .ok (.iconst 0, 1) := by decide +kernel
theorem d_X12_init_47 : decode YI_X12.cc 47 = .ok (.ldc2_w 34, 3) := by decide +kernel
theorem d_X12_init_50 : decode YI_X12.cc 50 = .ok (.lastore, 1) := by decide +kernel
theorem d_X12_init_51 : decode YI_X12.cc 51 = .ok (.dup, 1) := by decide +kernel
theorem d_X12_init_52 : decode YI_X12.cc 52 = .ok (.iconst 1, 1) := by decide +kernel
theorem d_X12_init_53 : decode YI_X12.cc 53 = .ok (.ldc2_w 36, 3) := by decide +kernel
theorem d_X12_init_56 : decode YI_X12.cc 56 = .ok (.lastore, 1) := by decide +kernel
theorem d_X12_init_57 : decode YI_X12.cc 57 = .ok (.dup, 1) := by decide +kernel
theorem d_X12_init_58 : decode YI_X12.cc 58 = .ok (.iconst 2, 1) := by decide +kernel
theorem d_X12_init_59 : decode YI_X12.cc 59 = .ok (.ldc2_w 38, 3) := by decide +kernel
theorem d_X12_init_62 : decode YI_X12.cc 62 = .ok (.lastore, 1) := by decide +kernel
theorem d_X12_init_63 : decode YI_X12.cc 63 = .ok (.dup, 1) := by decide +kernel
theorem d_X12_init_64 : decode YI_X12.cc 64 = .ok (.iconst 3, 1) := by decide +kernel
theorem d_X12_init_65 : decode YI_X12.cc 65 = .ok (.ldc2_w 40, 3) := by decide +kernel
theorem d_X12_init_68 : decode YI_X12.cc 68 = .ok (.lastore, 1) := by decide +kernel
theorem d_X12_init_69 : decode YI_X12.cc 69 = .ok (.dup, 1) := by decide +kernel
theorem d_X12_init_70 : decode YI_X12.cc 70 = .ok (.iconst 4, 1) := by decide +kernel
theorem d_X12_init_71 : decode YI_X12.cc 71 = .ok (.ldc2_w 42, 3) := by decide +kernel
theorem d_X12_init_74 : decode YI_X12.cc 74 = .ok (.lastore, 1) := by decide +kernel
theorem d_X12_init_75 : decode YI_X12.cc 75 = .ok (.dup, 1) := by decide +kernel
theorem d_X12_init_76 : decode YI_X12.cc 76 = .ok (.iconst 5, 1) := by decide +kernel
theorem d_X12_init_77 : decode YI_X12.cc 77 = .ok (.ldc2_w 44, 3) := by decide +kernel
theorem d_X12_init_80 : decode YI_X12.cc 80 = .ok (.lastore, 1) := by decide +kernel
theorem d_X12_init_81 : decode YI_X12.cc 81 = .ok (.dup, 1) := by decide +kernel
theorem d_X12_init_82 : decode YI_X12.cc 82 = .ok (.bipush 6, 2) := by decide +kernel
theorem d_X12_init_84 : decode YI_X12.cc 84 = .ok (.ldc2_w 46, 3) := by decide +kernel
theorem d_X12_init_87 : decode YI_X12.cc 87 = .ok (.lastore, 1) := by decide +kernel
theorem d_X12_init_88 : decode YI_X12.cc 88 = .ok (.dup, 1) := by decide +kernel
theorem d_X12_init_89 : decode YI_X12.cc 89 = .ok (.bipush 7, 2) := by decide +kernel
theorem d_X12_init_91 : decode YI_X12.cc 91 = .ok (.ldc2_w 48, 3) := by decide +kernel
theorem d_X12_init_94 : decode YI_X12.cc 94 = .ok (.lastore, 1) := by decide +kernel
theorem d_X12_init_95 : decode YI_X12.cc 95 = .ok (.dup, 1) := by decide +kernel
theorem d_X12_init_96 : decode YI_X12.cc 96 = .ok (.bipush 8, 2) := by decide +kernel
theorem d_X12_init_98 : decode YI_X12.cc 98 = .ok (.ldc2_w 50, 3) := by decide +kernel
theorem d_X12_init_101 : decode YI_X12.cc 101 = .ok (.lastore, 1) := by decide +kernel
theorem d_X12_init_102 : decode YI_X12.cc 102 = .ok (.dup, 1) := by decide +kernel
theorem d_X12_init_103 : decode YI_X12.cc 103 = .ok (.bipush 9, 2) := by decide +kernel
theorem d_X12_init_105 : decode YI_X12.cc 105 = .ok (.ldc2_w 52, 3) := by decide +kernel
theorem d_X12_init_108 : decode YI_X12.cc 108 = .ok (.lastore, 1) := by decide +kernel
theorem d_X12_init_109 : decode YI_X12.cc 109 = .ok (.dup, 1) := by decide +kernel
theorem d_X12_init_110 : decode YI_X12.cc 110 = .ok (.bipush 10, 2) := by decide +kernel
theorem d_X12_init_112 : decode YI_X12.cc 112 = .ok (.ldc2_w 54, 3) := by decide +kernel
theorem d_X12_init_115 : decode YI_X12.cc 115 = .ok (.lastore, 1) := by decide +kernel
theorem d_X12_init_116 : decode YI_X12.cc 116 = .ok (.dup, 1) := by decide +kernel
theorem d_X12_init_117 : decode YI_X12.cc 117 = .ok (.bipush 11, 2) := by decide +kernel
theorem d_X12_init_119 : decode YI_X12.cc 119 = .ok (.ldc2_w 56, 3) := by decide +kernel
theorem d_X12_init_122 : decode YI_X12.cc 122 = .ok (.lastore, 1) := by decide +kernel
theorem d_X12_init_123 : decode YI_X12.cc 123 = .ok (.dup, 1) := by decide +kernel
theorem d_X12_init_124 : decode YI_X12.cc 124 = .ok (.bipush 12, 2) := by decide +kernel
theorem d_X12_init_126 : decode YI_X12.cc 126 = .ok (.ldc2_w 58, 3) := by decide +kernel
theorem d_X12_init_129 : decode YI_X12.cc 129 = .ok (.lastore, 1) := by decide +kernel
theorem d_X12_init_130 : decode YI_X12.cc 130 = .ok (.dup, 1) := by decide +kernel
theorem d_X12_init_131 : decode YI_X12.cc 131 = .ok (.bipush 13, 2) := by decide +kernel
theorem d_X12_init_133 : decode YI_X12.cc 133 = .ok (.ldc2_w 60, 3) := by decide +kernel
theorem d_X12_init_136 : decode YI_X12.cc 136 = .ok (.lastore, 1) := by decide +kernel
theorem d_X12_init_137 : decode YI_X12.cc 137 = .ok (.dup, 1) := by decide +kernel
theorem d_X12_init_138 : decode YI_X12.cc 138 = .ok (.bipush 14, 2) := by decide +kernel
theorem d_X12_init_140 : decode YI_X12.cc 140 = .ok (.ldc2_w 62, 3) := by decide +kernel
theorem d_X12_init_143 : decode YI_X12.cc 143 = .ok (.lastore, 1) := by decide +kernel
theorem d_X12_init_144 : decode YI_X12.cc 144 = .ok (.dup, 1) := by decide +kernel
theorem d_X12_init_145 : decode YI_X12.cc 145 = .ok (.bipush 15, 2) := by decide +kernel
theorem d_X12_init_147 : decode YI_X12.cc 147 = .ok (.ldc2_w 64, 3) := by decide +kernel
theorem d_X12_init_150 : decode YI_X12.cc 150 = .ok (.lastore, 1) := by decide +kernel
theorem d_X12_init_151 : decode YI_X12.cc 151 = .ok (.putfield 66, 3) := by decide +kernel
theorem d_X12_init_154 : decode YI_X12.cc 154 = .ok (.aload_n 0, 1) := by decide +kernel
theorem d_X12_init_155 : decode YI_X12.cc 155 = .ok (.sipush 660, 3) := by decide +kernel
theorem d_X12_init_158 : decode YI_X12.cc 158 = .ok (.newarray .int, 2) := by decide +kernel
theorem d_X12_init_160 : decode YI_X12.cc 160 = .ok (.putfield 69, 3) := by decide +kernel
theorem d_X12_init_163 : decode YI_X12.cc 163 = .ok (.aload_n 0, 1) := by decide +kernel
theorem d_X12_init_164 : decode YI_X12.cc 164 = .ok (.sipush 240, 3) := by decide +kernel
theorem d_X12_init_167 : decode YI_X12.cc 167 = .ok (.newarray .int, 2) := by decide +kernel
theorem d_X12_init_169 : decode YI_X12.cc 169 = .ok (.putfield 72, 3) := by decide +kernel
theorem d_X12_init_172 : decode YI_X12.cc 172 = .ok (.aload_n 0, 1) := by decide +kernel
theorem d_X12_init_173 : decode YI_X12.cc 173 = .ok (.bipush 13, 2) := by decide +kernel
theorem d_X12_init_175 : decode YI_X12.cc 175 = .ok (.newarray .long, 2) := by decide +kernel
theorem d_X12_init_177 : decode YI_X12.cc 177 = .ok (.putfield 75, 3) := by decide +kernel
theorem d_X12_init_180 : decode YI_X12.cc 180 = .ok (.aload_n 0, 1) := by decide +kernel
theorem d_X12_init_181 : decode YI_X12.cc 181 = .ok (.iconst 4, 1) := by decide +kernel
theorem d_X12_init_182 : decode YI_X12.cc 182 = .ok (.newarray .boolean, 2) := by decide +kernel
theorem d_X12_init_184 : decode YI_X12.cc 184 = .ok (.putfield 78, 3) := by decide +kernel
theorem d_X12_init_187 : decode YI_X12.cc 187 = .ok (.aload_n 0, 1) := by decide +kernel
theorem d_X12_init_188 : decode YI_X12.cc 188 = .ok (.bipush 7, 2) := by decide +kernel
theorem d_X12_init_190 : decode YI_X12.cc 190 = .ok (.newarray .int, 2) := by decide +kernel
theorem d_X12_init_192 : decode YI_X12.cc 192 = .ok (.putfield 82, 3) := by decide +kernel
theorem d_X12_init_195 : decode YI_X12.cc 195 = .ok (.aload_n 0, 1) := by decide +kernel
theorem d_X12_init_196 : decode YI_X12.cc 196 = .ok (.bipush 7, 2) := by decide +kernel
theorem d_X12_init_198 : decode YI_X12.cc 198 = .ok (.newarray .int, 2) := by decide +kernel
theorem d_X12_init_200 : decode YI_X12.cc 200 = .ok (.putfield 85, 3) := by decide +kernel
theorem d_X12_init_203 : decode YI_X12.cc 203 = .ok (.aload_n 0, 1) := by decide +kernel
theorem d_X12_init_204 : decode YI_X12.cc 204 = .ok (.bipush 64, 2) := by decide +kernel
theorem d_X12_init_206 : decode YI_X12.cc 206 = .ok (.newarray .boolean, 2) := by decide +kernel
theorem d_X12_init_208 : decode YI_X12.cc 208 = .ok (.putfield 88, 3) := by decide +kernel
theorem d_X12_init_211 : decode YI_X12.cc 211 = .ok (.aload_n 0, 1) := by decide +kernel
theorem d_X12_init_212 : decode YI_X12.cc 212 = .ok (.bipush 64, 2) := by decide +kernel
theorem d_X12_init_214 : decode YI_X12.cc 214 = .ok (.newarray .int, 2) := by decide +kernel
theorem d_X12_init_216 : decode YI_X12.cc 216 = .ok (.putfield 91, 3) := by decide +kernel
theorem d_X12_init_219 : decode YI_X12.cc 219 = .ok (.aload_n 0, 1) := by decide +kernel
theorem d_X12_init_220 : decode YI_X12.cc 220 = .ok (.iconst 0, 1) := by decide +kernel
theorem d_X12_init_221 : decode YI_X12.cc 221 = .ok (.putfield 1, 3) := by decide +kernel
theorem d_X12_init_224 : decode YI_X12.cc 224 = .ok (.return_, 1) := by decide +kernel
theorem mg983 : Cond.methodLink RX12 18 objectInit ∈ lw_good := List.mem_filter.mpr ⟨List.mem_append_right _ (List.mem_of_getElem? (i := 983) (by decide +kernel)), by decide +kernel⟩
theorem ks_1002 : (Int16.ofInt 1002).toInt32 = 1002 := by decide
theorem mg1097 : Cond.arrayClass .long ∈ lw_good := List.mem_filter.mpr ⟨List.mem_append_right _ (List.mem_of_getElem? (i := 1097) (by decide +kernel)), by decide +kernel⟩
theorem mg984 : (Cond.constantLong "CopyArmsModel" (34 : Nat) (2048 : Int64)) ∈ lw_good := List.mem_filter.mpr ⟨List.mem_append_right _ (List.mem_of_getElem? (i := 984) (by decide +kernel)), by decide +kernel⟩
theorem mg985 : (Cond.constantLong "CopyArmsModel" (36 : Nat) (15769715 : Int64)) ∈ lw_good := List.mem_filter.mpr ⟨List.mem_append_right _ (List.mem_of_getElem? (i := 985) (by decide +kernel)), by decide +kernel⟩
theorem mg986 : (Cond.constantLong "CopyArmsModel" (38 : Nat) (1042489 : Int64)) ∈ lw_good := List.mem_filter.mpr ⟨List.mem_append_right _ (List.mem_of_getElem? (i := 986) (by decide +kernel)), by decide +kernel⟩
theorem mg987 : (Cond.constantLong "CopyArmsModel" (40 : Nat) (57 : Int64)) ∈ lw_good := List.mem_filter.mpr ⟨List.mem_append_right _ (List.mem_of_getElem? (i := 987) (by decide +kernel)), by decide +kernel⟩
theorem mg988 : (Cond.constantLong "CopyArmsModel" (42 : Nat) (33989651 : Int64)) ∈ lw_good := List.mem_filter.mpr ⟨List.mem_append_right _ (List.mem_of_getElem? (i := 988) (by decide +kernel)), by decide +kernel⟩
theorem mg989 : (Cond.constantLong "CopyArmsModel" (44 : Nat) (36016064 : Int64)) ∈ lw_good := List.mem_filter.mpr ⟨List.mem_append_right _ (List.mem_of_getElem? (i := 989) (by decide +kernel)), by decide +kernel⟩
theorem mg990 : (Cond.constantLong "CopyArmsModel" (46 : Nat) (108673 : Int64)) ∈ lw_good := List.mem_filter.mpr ⟨List.mem_append_right _ (List.mem_of_getElem? (i := 990) (by decide +kernel)), by decide +kernel⟩
theorem mg991 : (Cond.constantLong "CopyArmsModel" (48 : Nat) (17850 : Int64)) ∈ lw_good := List.mem_filter.mpr ⟨List.mem_append_right _ (List.mem_of_getElem? (i := 991) (by decide +kernel)), by decide +kernel⟩
theorem mg992 : (Cond.constantLong "CopyArmsModel" (50 : Nat) (975695 : Int64)) ∈ lw_good := List.mem_filter.mpr ⟨List.mem_append_right _ (List.mem_of_getElem? (i := 992) (by decide +kernel)), by decide +kernel⟩
theorem mg993 : (Cond.constantLong "CopyArmsModel" (52 : Nat) (755 : Int64)) ∈ lw_good := List.mem_filter.mpr ⟨List.mem_append_right _ (List.mem_of_getElem? (i := 993) (by decide +kernel)), by decide +kernel⟩
theorem mg994 : (Cond.constantLong "CopyArmsModel" (54 : Nat) (36229827 : Int64)) ∈ lw_good := List.mem_filter.mpr ⟨List.mem_append_right _ (List.mem_of_getElem? (i := 994) (by decide +kernel)), by decide +kernel⟩
theorem mg995 : (Cond.constantLong "CopyArmsModel" (56 : Nat) (1138091529 : Int64)) ∈ lw_good := List.mem_filter.mpr ⟨List.mem_append_right _ (List.mem_of_getElem? (i := 995) (by decide +kernel)), by decide +kernel⟩
theorem mg996 : (Cond.constantLong "CopyArmsModel" (58 : Nat) (30596128 : Int64)) ∈ lw_good := List.mem_filter.mpr ⟨List.mem_append_right _ (List.mem_of_getElem? (i := 996) (by decide +kernel)), by decide +kernel⟩
theorem mg997 : (Cond.constantLong "CopyArmsModel" (60 : Nat) (919275859 : Int64)) ∈ lw_good := List.mem_filter.mpr ⟨List.mem_append_right _ (List.mem_of_getElem? (i := 997) (by decide +kernel)), by decide +kernel⟩
theorem mg998 : (Cond.constantLong "CopyArmsModel" (62 : Nat) (36634668 : Int64)) ∈ lw_good := List.mem_filter.mpr ⟨List.mem_append_right _ (List.mem_of_getElem? (i := 998) (by decide +kernel)), by decide +kernel⟩
theorem kb_15 : (Int8.ofInt 15).toInt32 = 15 := by decide
theorem mg999 : (Cond.constantLong "CopyArmsModel" (64 : Nat) (23270970 : Int64)) ∈ lw_good := List.mem_filter.mpr ⟨List.mem_append_right _ (List.mem_of_getElem? (i := 999) (by decide +kernel)), by decide +kernel⟩
theorem ks_660 : (Int16.ofInt 660).toInt32 = 660 := by decide
theorem ks_240 : (Int16.ofInt 240).toInt32 = 240 := by decide
def ri_X12_147 (M : Mm) : Mm := (sI (sR (sN (sR (sN (sR (sN (sR (sN (sR (sN (sR (sN (sR (sN (sR (sN (sR (sJ (sJ (sJ (sJ (sJ (sJ (sJ (sJ (sJ (sJ (sJ (sJ (sJ (sJ (sJ (sJ (sN (sR (sN (sR (sN (sR (sN (sR (sN M) 147 1 (some 148))) 147 4 (some 149))) 147 5 (some 150))) 147 6 (some 151))) 152 (Int32.toNatClampNeg 0) 2048) 152 (Int32.toNatClampNeg 1) 15769715) 152 (Int32.toNatClampNeg 2) 1042489) 152 (Int32.toNatClampNeg 3) 57) 152 (Int32.toNatClampNeg 4) 33989651) 152 (Int32.toNatClampNeg 5) 36016064) 152 (Int32.toNatClampNeg 6) 108673) 152 (Int32.toNatClampNeg 7) 17850) 152 (Int32.toNatClampNeg 8) 975695) 152 (Int32.toNatClampNeg 9) 755) 152 (Int32.toNatClampNeg 10) 36229827) 152 (Int32.toNatClampNeg 11) 1138091529) 152 (Int32.toNatClampNeg 12) 30596128) 152 (Int32.toNatClampNeg 13) 919275859) 152 (Int32.toNatClampNeg 14) 36634668) 152 (Int32.toNatClampNeg 15) 23270970) 147 9 (some 152))) 147 10 (some 153))) 147 11 (some 154))) 147 12 (some 155))) 147 14 (some 156))) 147 23 (some 157))) 147 24 (some 158))) 147 27 (some 159))) 147 28 (some 160)) 147 0 0)
set_option maxRecDepth 100000 in
theorem bi_X12_147 {G : MG} {d : Nat} {Q : Mm → Prop} {M : Mm} (hn : M.2.2.2 = 148)  (hQ : (ri_X12_147 M).2.2.2 = 161 → Q (ri_X12_147 M)) : C G YI_X12 (d + 1) [.ref (G.b + 147)] M (Rv Q) := by
  refine C.of (by decide) (Nat.le_of_ble_eq_true rfl) (lv := [(0, .ref (G.b + 147))]) rfl ?_
  refine tw_aload_n 0 d_X12_init_0 rfl rfl ?_
  refine tw_objinit ⟨mg983, mg30, mg31⟩ (Nat.le_of_ble_eq_true rfl) d_X12_init_1 ?_
  refine tw_aload_n 0 d_X12_init_4 rfl rfl ?_
  refine tw_sipush d_X12_init_5 ks_1000 ?_
  refine tw_newa (ty := .int) (t := 0) (N := 1000) rfl ⟨by decide, rfl, by simp, fun M' => na_0 G M' 1000⟩ mg128 hn s_148 (by decide) ⟨by decide, by decide⟩ d_X12_init_8 (fun M1 e1 hn1 => ?_)
  refine tw_putRF f_X12_14 (by rw [hn1]; decide) s_147 (Or.inr rfl) ⟨rfl, rfl⟩ d_X12_init_10 (fun M2 e2 hn2 => ?_)
  rw [hn1] at hn2
  refine tw_aload_n 0 d_X12_init_13 rfl rfl ?_
  refine tw_sipush d_X12_init_14 ks_1002 ?_
  refine tw_newa (ty := .int) (t := 0) (N := 1002) rfl ⟨by decide, rfl, by simp, fun M' => na_0 G M' 1002⟩ mg128 hn2 s_149 (by decide) ⟨by decide, by decide⟩ d_X12_init_17 (fun M3 e3 hn3 => ?_)
  refine tw_putRF f_X12_24 (by rw [hn3]; decide) s_147 (Or.inr rfl) ⟨rfl, rfl⟩ d_X12_init_19 (fun M4 e4 hn4 => ?_)
  rw [hn3] at hn4
  refine tw_aload_n 0 d_X12_init_22 rfl rfl ?_
  refine tw_sipush d_X12_init_23 ks_1002 ?_
  refine tw_newa (ty := .int) (t := 0) (N := 1002) rfl ⟨by decide, rfl, by simp, fun M' => na_0 G M' 1002⟩ mg128 hn4 s_150 (by decide) ⟨by decide, by decide⟩ d_X12_init_26 (fun M5 e5 hn5 => ?_)
  refine tw_putRF f_X12_27 (by rw [hn5]; decide) s_147 (Or.inr rfl) ⟨rfl, rfl⟩ d_X12_init_28 (fun M6 e6 hn6 => ?_)
  rw [hn5] at hn6
  refine tw_aload_n 0 d_X12_init_31 rfl rfl ?_
  refine tw_sipush d_X12_init_32 ks_1002 ?_
  refine tw_newa (ty := .long) (t := 1) (N := 1002) rfl ⟨by decide, rfl, by simp, fun M' => na_1 G M' 1002⟩ mg1097 hn6 s_151 (by decide) ⟨by decide, by decide⟩ d_X12_init_35 (fun M7 e7 hn7 => ?_)
  refine tw_putRF f_X12_30 (by rw [hn7]; decide) s_147 (Or.inr rfl) ⟨rfl, rfl⟩ d_X12_init_37 (fun M8 e8 hn8 => ?_)
  rw [hn7] at hn8
  refine tw_aload_n 0 d_X12_init_40 rfl rfl ?_
  refine tw_bipush d_X12_init_41 kb_16 ?_
  refine tw_newa (ty := .long) (t := 1) (N := 16) rfl ⟨by decide, rfl, by simp, fun M' => na_1 G M' 16⟩ mg1097 hn8 s_152 (by decide) ⟨by decide, by decide⟩ d_X12_init_43 (fun M9 e9 hn9 => ?_)
  refine tw_dup d_X12_init_45 rfl ?_
  refine tw_iconst d_X12_init_46 k_0 ?_
  refine tw_ldc2 d_X12_init_47 mg984 ?_
  refine tw_lastF (by rw [hn9]; decide) s_152 d_X12_init_50 (by unfold vp_in; decide) (fun M10 e10 hn10 => ?_)
  rw [hn9] at hn10
  refine tw_dup d_X12_init_51 rfl ?_
  refine tw_iconst d_X12_init_52 k_1 ?_
  refine tw_ldc2 d_X12_init_53 mg985 ?_
  refine tw_lastF (by rw [hn10]; decide) s_152 d_X12_init_56 (by unfold vp_in; decide) (fun M11 e11 hn11 => ?_)
  rw [hn10] at hn11
  refine tw_dup d_X12_init_57 rfl ?_
  refine tw_iconst d_X12_init_58 k_2 ?_
  refine tw_ldc2 d_X12_init_59 mg986 ?_
  refine tw_lastF (by rw [hn11]; decide) s_152 d_X12_init_62 (by unfold vp_in; decide) (fun M12 e12 hn12 => ?_)
  rw [hn11] at hn12
  refine tw_dup d_X12_init_63 rfl ?_
  refine tw_iconst d_X12_init_64 k_3 ?_
  refine tw_ldc2 d_X12_init_65 mg987 ?_
  refine tw_lastF (by rw [hn12]; decide) s_152 d_X12_init_68 (by unfold vp_in; decide) (fun M13 e13 hn13 => ?_)
  rw [hn12] at hn13
  refine tw_dup d_X12_init_69 rfl ?_
  refine tw_iconst d_X12_init_70 k_4 ?_
  refine tw_ldc2 d_X12_init_71 mg988 ?_
  refine tw_lastF (by rw [hn13]; decide) s_152 d_X12_init_74 (by unfold vp_in; decide) (fun M14 e14 hn14 => ?_)
  rw [hn13] at hn14
  refine tw_dup d_X12_init_75 rfl ?_
  refine tw_iconst d_X12_init_76 k_5 ?_
  refine tw_ldc2 d_X12_init_77 mg989 ?_
  refine tw_lastF (by rw [hn14]; decide) s_152 d_X12_init_80 (by unfold vp_in; decide) (fun M15 e15 hn15 => ?_)
  rw [hn14] at hn15
  refine tw_dup d_X12_init_81 rfl ?_
  refine tw_bipush d_X12_init_82 kb_6 ?_
  refine tw_ldc2 d_X12_init_84 mg990 ?_
  refine tw_lastF (by rw [hn15]; decide) s_152 d_X12_init_87 (by unfold vp_in; decide) (fun M16 e16 hn16 => ?_)
  rw [hn15] at hn16
  refine tw_dup d_X12_init_88 rfl ?_
  refine tw_bipush d_X12_init_89 kb_7 ?_
  refine tw_ldc2 d_X12_init_91 mg991 ?_
  refine tw_lastF (by rw [hn16]; decide) s_152 d_X12_init_94 (by unfold vp_in; decide) (fun M17 e17 hn17 => ?_)
  rw [hn16] at hn17
  refine tw_dup d_X12_init_95 rfl ?_
  refine tw_bipush d_X12_init_96 kb_8 ?_
  refine tw_ldc2 d_X12_init_98 mg992 ?_
  refine tw_lastF (by rw [hn17]; decide) s_152 d_X12_init_101 (by unfold vp_in; decide) (fun M18 e18 hn18 => ?_)
  rw [hn17] at hn18
  refine tw_dup d_X12_init_102 rfl ?_
  refine tw_bipush d_X12_init_103 kb_9 ?_
  refine tw_ldc2 d_X12_init_105 mg993 ?_
  refine tw_lastF (by rw [hn18]; decide) s_152 d_X12_init_108 (by unfold vp_in; decide) (fun M19 e19 hn19 => ?_)
  rw [hn18] at hn19
  refine tw_dup d_X12_init_109 rfl ?_
  refine tw_bipush d_X12_init_110 kb_10 ?_
  refine tw_ldc2 d_X12_init_112 mg994 ?_
  refine tw_lastF (by rw [hn19]; decide) s_152 d_X12_init_115 (by unfold vp_in; decide) (fun M20 e20 hn20 => ?_)
  rw [hn19] at hn20
  refine tw_dup d_X12_init_116 rfl ?_
  refine tw_bipush d_X12_init_117 kb_11 ?_
  refine tw_ldc2 d_X12_init_119 mg995 ?_
  refine tw_lastF (by rw [hn20]; decide) s_152 d_X12_init_122 (by unfold vp_in; decide) (fun M21 e21 hn21 => ?_)
  rw [hn20] at hn21
  refine tw_dup d_X12_init_123 rfl ?_
  refine tw_bipush d_X12_init_124 kb_12 ?_
  refine tw_ldc2 d_X12_init_126 mg996 ?_
  refine tw_lastF (by rw [hn21]; decide) s_152 d_X12_init_129 (by unfold vp_in; decide) (fun M22 e22 hn22 => ?_)
  rw [hn21] at hn22
  refine tw_dup d_X12_init_130 rfl ?_
  refine tw_bipush d_X12_init_131 kb_13 ?_
  refine tw_ldc2 d_X12_init_133 mg997 ?_
  refine tw_lastF (by rw [hn22]; decide) s_152 d_X12_init_136 (by unfold vp_in; decide) (fun M23 e23 hn23 => ?_)
  rw [hn22] at hn23
  refine tw_dup d_X12_init_137 rfl ?_
  refine tw_bipush d_X12_init_138 kb_14 ?_
  refine tw_ldc2 d_X12_init_140 mg998 ?_
  refine tw_lastF (by rw [hn23]; decide) s_152 d_X12_init_143 (by unfold vp_in; decide) (fun M24 e24 hn24 => ?_)
  rw [hn23] at hn24
  refine tw_dup d_X12_init_144 rfl ?_
  refine tw_bipush d_X12_init_145 kb_15 ?_
  refine tw_ldc2 d_X12_init_147 mg999 ?_
  refine tw_lastF (by rw [hn24]; decide) s_152 d_X12_init_150 (by unfold vp_in; decide) (fun M25 e25 hn25 => ?_)
  rw [hn24] at hn25
  refine tw_putRF f_X12_66 (by rw [hn25]; decide) s_147 (Or.inr rfl) ⟨rfl, rfl⟩ d_X12_init_151 (fun M26 e26 hn26 => ?_)
  rw [hn25] at hn26
  refine tw_aload_n 0 d_X12_init_154 rfl rfl ?_
  refine tw_sipush d_X12_init_155 ks_660 ?_
  refine tw_newa (ty := .int) (t := 0) (N := 660) rfl ⟨by decide, rfl, by simp, fun M' => na_0 G M' 660⟩ mg128 hn26 s_153 (by decide) ⟨by decide, by decide⟩ d_X12_init_158 (fun M27 e27 hn27 => ?_)
  refine tw_putRF f_X12_69 (by rw [hn27]; decide) s_147 (Or.inr rfl) ⟨rfl, rfl⟩ d_X12_init_160 (fun M28 e28 hn28 => ?_)
  rw [hn27] at hn28
  refine tw_aload_n 0 d_X12_init_163 rfl rfl ?_
  refine tw_sipush d_X12_init_164 ks_240 ?_
  refine tw_newa (ty := .int) (t := 0) (N := 240) rfl ⟨by decide, rfl, by simp, fun M' => na_0 G M' 240⟩ mg128 hn28 s_154 (by decide) ⟨by decide, by decide⟩ d_X12_init_167 (fun M29 e29 hn29 => ?_)
  refine tw_putRF f_X12_72 (by rw [hn29]; decide) s_147 (Or.inr rfl) ⟨rfl, rfl⟩ d_X12_init_169 (fun M30 e30 hn30 => ?_)
  rw [hn29] at hn30
  refine tw_aload_n 0 d_X12_init_172 rfl rfl ?_
  refine tw_bipush d_X12_init_173 kb_13 ?_
  refine tw_newa (ty := .long) (t := 1) (N := 13) rfl ⟨by decide, rfl, by simp, fun M' => na_1 G M' 13⟩ mg1097 hn30 s_155 (by decide) ⟨by decide, by decide⟩ d_X12_init_175 (fun M31 e31 hn31 => ?_)
  refine tw_putRF f_X12_75 (by rw [hn31]; decide) s_147 (Or.inr rfl) ⟨rfl, rfl⟩ d_X12_init_177 (fun M32 e32 hn32 => ?_)
  rw [hn31] at hn32
  refine tw_aload_n 0 d_X12_init_180 rfl rfl ?_
  refine tw_iconst d_X12_init_181 k_4 ?_
  refine tw_newa (ty := .boolean) (t := 3) (N := 4) rfl ⟨by decide, rfl, by simp, fun M' => na_3 G M' 4⟩ mg352 hn32 s_156 (by decide) ⟨by decide, by decide⟩ d_X12_init_182 (fun M33 e33 hn33 => ?_)
  refine tw_putRF f_X12_78 (by rw [hn33]; decide) s_147 (Or.inr rfl) ⟨rfl, rfl⟩ d_X12_init_184 (fun M34 e34 hn34 => ?_)
  rw [hn33] at hn34
  refine tw_aload_n 0 d_X12_init_187 rfl rfl ?_
  refine tw_bipush d_X12_init_188 kb_7 ?_
  refine tw_newa (ty := .int) (t := 0) (N := 7) rfl ⟨by decide, rfl, by simp, fun M' => na_0 G M' 7⟩ mg128 hn34 s_157 (by decide) ⟨by decide, by decide⟩ d_X12_init_190 (fun M35 e35 hn35 => ?_)
  refine tw_putRF f_X12_82 (by rw [hn35]; decide) s_147 (Or.inr rfl) ⟨rfl, rfl⟩ d_X12_init_192 (fun M36 e36 hn36 => ?_)
  rw [hn35] at hn36
  refine tw_aload_n 0 d_X12_init_195 rfl rfl ?_
  refine tw_bipush d_X12_init_196 kb_7 ?_
  refine tw_newa (ty := .int) (t := 0) (N := 7) rfl ⟨by decide, rfl, by simp, fun M' => na_0 G M' 7⟩ mg128 hn36 s_158 (by decide) ⟨by decide, by decide⟩ d_X12_init_198 (fun M37 e37 hn37 => ?_)
  refine tw_putRF f_X12_85 (by rw [hn37]; decide) s_147 (Or.inr rfl) ⟨rfl, rfl⟩ d_X12_init_200 (fun M38 e38 hn38 => ?_)
  rw [hn37] at hn38
  refine tw_aload_n 0 d_X12_init_203 rfl rfl ?_
  refine tw_bipush d_X12_init_204 kb_64 ?_
  refine tw_newa (ty := .boolean) (t := 3) (N := 64) rfl ⟨by decide, rfl, by simp, fun M' => na_3 G M' 64⟩ mg352 hn38 s_159 (by decide) ⟨by decide, by decide⟩ d_X12_init_206 (fun M39 e39 hn39 => ?_)
  refine tw_putRF f_X12_88 (by rw [hn39]; decide) s_147 (Or.inr rfl) ⟨rfl, rfl⟩ d_X12_init_208 (fun M40 e40 hn40 => ?_)
  rw [hn39] at hn40
  refine tw_aload_n 0 d_X12_init_211 rfl rfl ?_
  refine tw_bipush d_X12_init_212 kb_64 ?_
  refine tw_newa (ty := .int) (t := 0) (N := 64) rfl ⟨by decide, rfl, by simp, fun M' => na_0 G M' 64⟩ mg128 hn40 s_160 (by decide) ⟨by decide, by decide⟩ d_X12_init_214 (fun M41 e41 hn41 => ?_)
  refine tw_putRF f_X12_91 (by rw [hn41]; decide) s_147 (Or.inr rfl) ⟨rfl, rfl⟩ d_X12_init_216 (fun M42 e42 hn42 => ?_)
  rw [hn41] at hn42
  refine tw_aload_n 0 d_X12_init_219 rfl rfl ?_
  refine tw_iconst d_X12_init_220 k_0 ?_
  refine tw_putIF f_X12_1 (by rw [hn42]; decide) s_147 rfl rfl d_X12_init_221 (fun M43 e43 hn43 => ?_)
  rw [hn42] at hn43
  refine tw_vret rfl ⟨by decide, by decide⟩ d_X12_init_224 ?_
  have hf : M43.2.2.2 = 161 := hn43
  rw [e43] at hf
  rw [e42] at hf
  rw [e41] at hf
  rw [e40] at hf
  rw [e39] at hf
  rw [e38] at hf
  rw [e37] at hf
  rw [e36] at hf
  rw [e35] at hf
  rw [e34] at hf
  rw [e33] at hf
  rw [e32] at hf
  rw [e31] at hf
  rw [e30] at hf
  rw [e29] at hf
  rw [e28] at hf
  rw [e27] at hf
  rw [e26] at hf
  rw [e25] at hf
  rw [e24] at hf
  rw [e23] at hf
  rw [e22] at hf
  rw [e21] at hf
  rw [e20] at hf
  rw [e19] at hf
  rw [e18] at hf
  rw [e17] at hf
  rw [e16] at hf
  rw [e15] at hf
  rw [e14] at hf
  rw [e13] at hf
  rw [e12] at hf
  rw [e11] at hf
  rw [e10] at hf
  rw [e9] at hf
  rw [e8] at hf
  rw [e7] at hf
  rw [e6] at hf
  rw [e5] at hf
  rw [e4] at hf
  rw [e3] at hf
  rw [e2] at hf
  rw [e1] at hf
  rw [e43]
  rw [e42]
  rw [e41]
  rw [e40]
  rw [e39]
  rw [e38]
  rw [e37]
  rw [e36]
  rw [e35]
  rw [e34]
  rw [e33]
  rw [e32]
  rw [e31]
  rw [e30]
  rw [e29]
  rw [e28]
  rw [e27]
  rw [e26]
  rw [e25]
  rw [e24]
  rw [e23]
  rw [e22]
  rw [e21]
  rw [e20]
  rw [e19]
  rw [e18]
  rw [e17]
  rw [e16]
  rw [e15]
  rw [e14]
  rw [e13]
  rw [e12]
  rw [e11]
  rw [e10]
  rw [e9]
  rw [e8]
  rw [e7]
  rw [e6]
  rw [e5]
  rw [e4]
  rw [e3]
  rw [e2]
  rw [e1]
  exact hQ hf
