theorem d_J0_length_8abf5_0 : decode Y_J0_length_8abf5.cc 0 = .ok (.aload_n 0, 1) := by decide +kernel
theorem d_J0_length_8abf5_1 : decode Y_J0_length_8abf5.cc 1 = .ok (.getfield 9, 3) := by decide +kernel
theorem d_J0_length_8abf5_4 : decode Y_J0_length_8abf5.cc 4 = .ok (.arraylength, 1) := by decide +kernel
theorem d_J0_length_8abf5_5 : decode Y_J0_length_8abf5.cc 5 = .ok (.aload_n 0, 1) := by decide +kernel
theorem d_J0_length_8abf5_6 : decode Y_J0_length_8abf5.cc 6 = .ok (.invokevirtual 335, 3) := by decide +kernel
theorem d_J0_length_8abf5_9 : decode Y_J0_length_8abf5.cc 9 = .ok (.ishr, 1) := by decide +kernel
theorem d_J0_length_8abf5_10 : decode Y_J0_length_8abf5.cc 10 = .ok (.ireturn, 1) := by decide +kernel
theorem d_J0_charAt_5068e_0 : decode Y_J0_charAt_5068e.cc 0 = .ok (.aload_n 0, 1) := by decide +kernel
theorem d_J0_charAt_5068e_1 : decode Y_J0_charAt_5068e.cc 1 = .ok (.invokevirtual 492, 3) := by decide +kernel
theorem d_J0_charAt_5068e_4 : decode Y_J0_charAt_5068e.cc 4 = .ok (.ifCond .eq 12, 3) := by decide +kernel
theorem d_J0_charAt_5068e_7 : decode Y_J0_charAt_5068e.cc 7 = .ok (.aload_n 0, 1) := by decide +kernel
theorem d_J0_charAt_5068e_8 : decode Y_J0_charAt_5068e.cc 8 = .ok (.getfield 9, 3) := by decide +kernel
theorem d_J0_charAt_5068e_11 : decode Y_J0_charAt_5068e.cc 11 = .ok (.iload_n 1, 1) := by decide +kernel
theorem d_J0_charAt_5068e_12 : decode Y_J0_charAt_5068e.cc 12 = .ok (.invokestatic 495, 3) := by decide +kernel
theorem d_J0_charAt_5068e_15 : decode Y_J0_charAt_5068e.cc 15 = .ok (.ireturn, 1) := by decide +kernel
theorem d_J0_charAt_5068e_16 : decode Y_J0_charAt_5068e.cc 16 = .ok (.aload_n 0, 1) := by decide +kernel
theorem d_J0_charAt_5068e_17 : decode Y_J0_charAt_5068e.cc 17 = .ok (.getfield 9, 3) := by decide +kernel
theorem d_J0_charAt_5068e_20 : decode Y_J0_charAt_5068e.cc 20 = .ok (.iload_n 1, 1) := by decide +kernel
theorem d_J0_charAt_5068e_21 : decode Y_J0_charAt_5068e.cc 21 = .ok (.invokestatic 498, 3) := by decide +kernel
theorem d_J0_charAt_5068e_24 : decode Y_J0_charAt_5068e.cc 24 = .ok (.ireturn, 1) := by decide +kernel
theorem d_J0_coder_7d493_0 : decode Y_J0_coder_7d493.cc 0 = .ok (.getstatic 38, 3) := by decide +kernel
theorem d_J0_coder_7d493_3 : decode Y_J0_coder_7d493.cc 3 = .ok (.ifCond .eq 10, 3) := by decide +kernel
theorem d_J0_coder_7d493_6 : decode Y_J0_coder_7d493.cc 6 = .ok (.aload_n 0, 1) := by decide +kernel
theorem d_J0_coder_7d493_7 : decode Y_J0_coder_7d493.cc 7 = .ok (.getfield 15, 3) := by decide +kernel
theorem d_J0_coder_7d493_10 : decode Y_J0_coder_7d493.cc 10 = .ok (.goto 4, 3) := by decide +kernel
theorem d_J0_coder_7d493_13 : decode Y_J0_coder_7d493.cc 13 = .ok (.iconst 1, 1) := by decide +kernel
theorem d_J0_coder_7d493_14 : decode Y_J0_coder_7d493.cc 14 = .ok (.ireturn, 1) := by decide +kernel
theorem d_J0_isLatin1_aae02_0 : decode Y_J0_isLatin1_aae02.cc 0 = .ok (.getstatic 38, 3) := by decide +kernel
theorem d_J0_isLatin1_aae02_3 : decode Y_J0_isLatin1_aae02.cc 3 = .ok (.ifCond .eq 14, 3) := by decide +kernel
theorem d_J0_isLatin1_aae02_6 : decode Y_J0_isLatin1_aae02.cc 6 = .ok (.aload_n 0, 1) := by decide +kernel
theorem d_J0_isLatin1_aae02_7 : decode Y_J0_isLatin1_aae02.cc 7 = .ok (.getfield 15, 3) := by decide +kernel
theorem d_J0_isLatin1_aae02_10 : decode Y_J0_isLatin1_aae02.cc 10 = .ok (.ifCond .ne 7, 3) := by decide +kernel
theorem d_J0_isLatin1_aae02_13 : decode Y_J0_isLatin1_aae02.cc 13 = .ok (.iconst 1, 1) := by decide +kernel
theorem d_J0_isLatin1_aae02_14 : decode Y_J0_isLatin1_aae02.cc 14 = .ok (.goto 4, 3) := by decide +kernel
theorem d_J0_isLatin1_aae02_17 : decode Y_J0_isLatin1_aae02.cc 17 = .ok (.iconst 0, 1) := by decide +kernel
theorem d_J0_isLatin1_aae02_18 : decode Y_J0_isLatin1_aae02.cc 18 = .ok (.ireturn, 1) := by decide +kernel
theorem d_J0_checkIndex_df160_0 : decode Y_J0_checkIndex_df160.cc 0 = .ok (.iload_n 0, 1) := by decide +kernel
theorem d_J0_checkIndex_df160_1 : decode Y_J0_checkIndex_df160.cc 1 = .ok (.iload_n 1, 1) := by decide +kernel
theorem d_J0_checkIndex_df160_2 : decode Y_J0_checkIndex_df160.cc 2 = .ok (.getstatic 1053, 3) := by decide +kernel
theorem d_J0_checkIndex_df160_5 : decode Y_J0_checkIndex_df160.cc 5 = .ok (.invokestatic 1059, 3) := by decide +kernel
theorem d_J0_checkIndex_df160_8 : decode Y_J0_checkIndex_df160.cc 8 = .ok (.pop, 1) := by decide +kernel
theorem d_J0_checkIndex_df160_9 : decode Y_J0_checkIndex_df160.cc 9 = .ok (.return_, 1) := by decide +kernel
theorem d_J1_charAt_3b067_0 : decode Y_J1_charAt_3b067.cc 0 = .ok (.iload_n 1, 1) := by decide +kernel
theorem d_J1_charAt_3b067_1 : decode Y_J1_charAt_3b067.cc 1 = .ok (.aload_n 0, 1) := by decide +kernel
theorem d_J1_charAt_3b067_2 : decode Y_J1_charAt_3b067.cc 2 = .ok (.arraylength, 1) := by decide +kernel
theorem d_J1_charAt_3b067_3 : decode Y_J1_charAt_3b067.cc 3 = .ok (.invokestatic 9, 3) := by decide +kernel
theorem d_J1_charAt_3b067_6 : decode Y_J1_charAt_3b067.cc 6 = .ok (.aload_n 0, 1) := by decide +kernel
theorem d_J1_charAt_3b067_7 : decode Y_J1_charAt_3b067.cc 7 = .ok (.iload_n 1, 1) := by decide +kernel
theorem d_J1_charAt_3b067_8 : decode Y_J1_charAt_3b067.cc 8 = .ok (.baload, 1) := by decide +kernel
theorem d_J1_charAt_3b067_9 : decode Y_J1_charAt_3b067.cc 9 = .ok (.sipush 255, 3) := by decide +kernel
theorem d_J1_charAt_3b067_12 : decode Y_J1_charAt_3b067.cc 12 = .ok (.iand, 1) := by decide +kernel
theorem d_J1_charAt_3b067_13 : decode Y_J1_charAt_3b067.cc 13 = .ok (.i2c, 1) := by decide +kernel
theorem d_J1_charAt_3b067_14 : decode Y_J1_charAt_3b067.cc 14 = .ok (.ireturn, 1) := by decide +kernel
theorem d_J3_checkIndex_8e157_0 : decode Y_J3_checkIndex_8e157.cc 0 = .ok (.iload_n 0, 1) := by decide +kernel
theorem d_J3_checkIndex_8e157_1 : decode Y_J3_checkIndex_8e157.cc 1 = .ok (.ifCond .lt 8, 3) := by decide +kernel
theorem d_J3_checkIndex_8e157_4 : decode Y_J3_checkIndex_8e157.cc 4 = .ok (.iload_n 0, 1) := by decide +kernel
theorem d_J3_checkIndex_8e157_5 : decode Y_J3_checkIndex_8e157.cc 5 = .ok (.iload_n 1, 1) := by decide +kernel
theorem d_J3_checkIndex_8e157_6 : decode Y_J3_checkIndex_8e157.cc 6 = .ok (.if_icmp .lt 10, 3) := by decide +kernel
theorem d_J3_checkIndex_8e157_9 : decode Y_J3_checkIndex_8e157.cc 9 = .ok (.aload_n 2, 1) := by decide +kernel
theorem d_J3_checkIndex_8e157_10 : decode Y_J3_checkIndex_8e157.cc 10 = .ok (.iload_n 0, 1) := by decide +kernel
theorem d_J3_checkIndex_8e157_11 : decode Y_J3_checkIndex_8e157.cc 11 = .ok (.iload_n 1, 1) := by decide +kernel
theorem d_J3_checkIndex_8e157_12 : decode Y_J3_checkIndex_8e157.cc 12 = .ok (.invokestatic 95, 3) := by decide +kernel
theorem d_J3_checkIndex_8e157_15 : decode Y_J3_checkIndex_8e157.cc 15 = .ok (.athrow, 1) := by decide +kernel
theorem d_J3_checkIndex_8e157_16 : decode Y_J3_checkIndex_8e157.cc 16 = .ok (.iload_n 0, 1) := by decide +kernel
theorem d_J3_checkIndex_8e157_17 : decode Y_J3_checkIndex_8e157.cc 17 = .ok (.ireturn, 1) := by decide +kernel
theorem d_X10_packed_0 : decode Y_X10_packed.cc 0 = .ok (.lconst 0, 1) := by decide +kernel
theorem d_X10_packed_1 : decode Y_X10_packed.cc 1 = .ok (.lstore_n 1, 1) := by decide +kernel
theorem d_X10_packed_2 : decode Y_X10_packed.cc 2 = .ok (.iconst 0, 1) := by decide +kernel
theorem d_X10_packed_3 : decode Y_X10_packed.cc 3 = .ok (.istore_n 3, 1) := by decide +kernel
theorem d_X10_packed_4 : decode Y_X10_packed.cc 4 = .ok (.iload_n 3, 1) := by decide +kernel
theorem d_X10_packed_5 : decode Y_X10_packed.cc 5 = .ok (.aload_n 0, 1) := by decide +kernel
theorem d_X10_packed_6 : decode Y_X10_packed.cc 6 = .ok (.invokevirtual 232, 3) := by decide +kernel
theorem d_X10_packed_9 : decode Y_X10_packed.cc 9 = .ok (.if_icmp .ge 27, 3) := by decide +kernel
theorem d_X10_packed_12 : decode Y_X10_packed.cc 12 = .ok (.lload_n 1, 1) := by decide +kernel
theorem d_X10_packed_13 : decode Y_X10_packed.cc 13 = .ok (.ldc2_w 228, 3) := by decide +kernel
theorem d_X10_packed_16 : decode Y_X10_packed.cc 16 = .ok (.lmul, 1) := by decide +kernel
theorem d_X10_packed_17 : decode Y_X10_packed.cc 17 = .ok (.aload_n 0, 1) := by decide +kernel
theorem d_X10_packed_18 : decode Y_X10_packed.cc 18 = .ok (.iload_n 3, 1) := by decide +kernel
theorem d_X10_packed_19 : decode Y_X10_packed.cc 19 = .ok (.invokevirtual 236, 3) := by decide +kernel
theorem d_X10_packed_22 : decode Y_X10_packed.cc 22 = .ok (.bipush 97, 2) := by decide +kernel
theorem d_X10_packed_24 : decode Y_X10_packed.cc 24 = .ok (.isub, 1) := by decide +kernel
theorem d_X10_packed_25 : decode Y_X10_packed.cc 25 = .ok (.iconst 1, 1) := by decide +kernel
theorem d_X10_packed_26 : decode Y_X10_packed.cc 26 = .ok (.iadd, 1) := by decide +kernel
theorem d_X10_packed_27 : decode Y_X10_packed.cc 27 = .ok (.i2l, 1) := by decide +kernel
theorem d_X10_packed_28 : decode Y_X10_packed.cc 28 = .ok (.ladd, 1) := by decide +kernel
theorem d_X10_packed_29 : decode Y_X10_packed.cc 29 = .ok (.lstore_n 1, 1) := by decide +kernel
theorem d_X10_packed_30 : decode Y_X10_packed.cc 30 = .ok (.iinc 3 1, 3) := by decide +kernel
theorem d_X10_packed_33 : decode Y_X10_packed.cc 33 = .ok (.goto (-29), 3) := by decide +kernel
theorem d_X10_packed_36 : decode Y_X10_packed.cc 36 = .ok (.lload_n 1, 1) := by decide +kernel
theorem d_X10_packed_37 : decode Y_X10_packed.cc 37 = .ok (.lreturn, 1) := by decide +kernel
/-- a virtual call on an old String -/
def coOK (own : String) (idx n : Nat) (Z : MY) : Prop := (Cond.methodLink own idx Z.y ∈ lw_good ∧ Cond.instanceMethod Z.y ∈ lw_good ∧ Cond.selects Z.y.cls Z.y Z.y ∈ lw_good ∧ Cond.initialized Z.y.cls ∈ lw_good ∧ Cond.code Z.y Z.cc Z.nL Z.rt ∈ lw_good) ∧ (Z.y.cls ≠ "java/lang/invoke/MethodHandle" ∧ Z.y.cls ≠ "java/lang/invoke/VarHandle") ∧ (parseMethodDescriptor Z.y.desc).map (fun d => d.parameters.length) = some n ∧ Z.nL ≤ 21 ∧ Z.mc = 0 ∧ Z.ms = 0
section
variable {G : MG} {Y Z : MY} {d : Nat} {Q : Option Value → Mm → Prop} {ce sl pc : Nat} {lv : List (Nat × Value)} {st : List Value} {M : Mm}
theorem tw_callO {idx a n : Nat} {As : List Value} {Q' : Int32 → Mm → Prop} (cw : coOK Y.y.cls idx n Z) (hO : ∀ U, G.X U → va_O Z.y.cls a (gA G) U U.heap) (hn : As.length = n) (hst : (st.map fun v => v.category).sum ≤ 8) (hz : ce ≤ Y.mc ∧ sl ≤ Y.ms) (hd : decode Y.cc pc = .ok (.invokevirtual idx, 3)) (hC : C G Z d (.ref a :: As) M (Ri Q'))
    (kk : ∀ v M', Q' v M' → T G Y (d + 1) Q ce sl (pc + 3) lv (.int v :: st) M') : T G Y (d + 1) Q ce sl pc lv (As.reverse ++ .ref a :: st) M := by
  intro p e s m args below meth cd H locs ls X hR hS hl
  obtain ⟨⟨w1, w2, w3, w4, w5⟩, h3, h4, h5, h6, h7⟩ := cw
  obtain ⟨d0, hd0, hM⟩ := hC
  obtain ⟨hx, hb, -, -, hml, hown, hts, hK, -, -, -⟩ := id X
  have hrecv : ∃ cell : Cell, H[a]? = some cell ∧ cell.vm.isStatics = false ∧ s.vm.findClass Z.y.cls = some cell.cls := by
    obtain ⟨cell, g1, g2, g3, -⟩ := (hO s hK.2.1).kept hS.2.1
    exact ⟨cell, g1, g2, g3⟩
  refine runC (va_runV (C := Z.y.cls) (n := n) (index := idx) (As := As) (rest := st) (bytes := Z.cc) (maxL := Z.nL) (ret := Z.rt) (mc := Z.mc) (ms := Z.ms) ⟨hx, hb, hml, hown, hts⟩ hM (cwV n hts ?_ rfl rfl rfl ⟨rfl, h3.1, h3.2, h4⟩ ⟨?_, ?_⟩) ⟨blindC _ _, hrecv, preC X hR hS _⟩ rfl hn hl.1 rfl ?_ hd ⟨?_, ?_⟩) hS (fun r M' H' locs' hq hR' hS' => ?_)
  · intro w hw
    unfold wsV at hw
    rcases List.mem_append.mp hw with h | h
    · simp only [List.mem_cons, List.not_mem_nil, or_false] at h
      rcases h with rfl | rfl | rfl | rfl
      · exact gin1 w1
      · exact gin1 w2
      · exact gin1 w3
      · exact gin1 w4
    · exact gin w5 w h
  · show d0 + 1 ≤ d + 1
    omega
  · show 8 + (Z.nL + 11) + 40 * d0 ≤ 40 * (d + 1)
    omega
  · show 2 * 0 + _ ≤ 8
    omega
  · rw [h6]; exact hz.1
  · rw [h7]; exact hz.2
  · rw [h6, h7]
    obtain ⟨v, rfl, hq⟩ := hq
    exact kk v M' hq p e s m args below meth cd H' locs' ls X hR' hS' hl
theorem tw_getO {idx q : Nat} {ob n ds : String} {v : Value} (hX : ∀ U, G.X U → va_OF ob n ds v q (gA G) U U.heap) (hw : Cond.fieldLink Y.y.cls idx ob n ds ∈ lw_good) (hd : decode Y.cc pc = .ok (.getfield idx, 3)) (kk : T G Y d Q ce sl (pc + 3) lv (v :: st) M) : T G Y d Q ce sl pc lv (.ref q :: st) M := by
  intro p e s m args below meth cd H locs ls X hR hS hl
  exact vk_getf X.1 X.2.1 (hX s X.2.2.2.2.2.2.2.1.2.1) hS X.2.2.2.2.2.1 (X.2.2.2.2.2.2.1 _ (List.mem_cons_of_mem _ hw)) (fun _ h => h) hd (kk p e s m args below meth cd H locs ls X hR hS hl)
theorem tw_getsV {i : Nat} {Cn n ds : String} {v : Value} (hX : ∀ U, G.X U → va_Z Cn n ds v (gA G) U U.heap) (hw : Cond.fieldLink Y.y.cls i Cn n ds ∈ lw_good) (hd : decode Y.cc pc = .ok (.getstatic i, 3)) (kk : T G Y d Q ce sl (pc + 3) lv (v :: st) M) : T G Y d Q ce sl pc lv st M := by
  intro p e s m args below meth cd H locs ls X hR hS hl
  exact va_gets X.1 X.2.1 (hX s X.2.2.2.2.2.2.2.1.2.1) hS X.2.2.2.2.2.1 (X.2.2.2.2.2.2.1 _ (List.mem_cons_of_mem _ hw)) (fun _ h => h) hd (kk p e s m args below meth cd H locs ls X hR hS hl)
theorem tw_getsQ {i : Nat} {Cn n ds : String} (hX : ∀ U, G.X U → va_Zq Cn n ds (gA G) U U.heap) (hw : Cond.fieldLink Y.y.cls i Cn n ds ∈ lw_good) (hd : decode Y.cc pc = .ok (.getstatic i, 3)) (kn : T G Y d Q ce sl (pc + 3) lv (.null :: st) M) (kr : ∀ t, T G Y d Q ce sl (pc + 3) lv (.ref t :: st) M) : T G Y d Q ce sl pc lv st M := by
  intro p e s m args below meth cd H locs ls X hR hS hl
  rcases hX s X.2.2.2.2.2.2.2.1.2.1 with h | ⟨t, h⟩
  · exact va_gets X.1 X.2.1 h hS X.2.2.2.2.2.1 (X.2.2.2.2.2.2.1 _ (List.mem_cons_of_mem _ hw)) (fun _ h => h) hd (kn p e s m args below meth cd H locs ls X hR hS hl)
  · exact va_gets X.1 X.2.1 h hS X.2.2.2.2.2.1 (X.2.2.2.2.2.2.1 _ (List.mem_cons_of_mem _ hw)) (fun _ h => h) hd (kr t p e s m args below meth cd H locs ls X hR hS hl)
theorem tw_tlen {a N : Nat} {ty : FieldType} {f : Nat → Value} {v : Int32} (hX : ∀ U, G.X U → va_T ty a N f (gA G) U U.heap) (hv : Int32.ofNat N = v) (hd : decode Y.cc pc = .ok (.arraylength, 1)) (kk : T G Y d Q ce sl (pc + 1) lv (.int v :: st) M) : T G Y d Q ce sl pc lv (.ref a :: st) M := by
  intro p e s m args below meth cd H locs ls X hR hS hl
  exact va_tlen X.1 X.2.1 (hX s X.2.2.2.2.2.2.2.1.2.1) hS hv hd (kk p e s m args below meth cd H locs ls X hR hS hl)
theorem tw_tb {a N : Nat} {f : Nat → Int32} {i : Int32} (hX : ∀ U, G.X U → va_T .byte a N (fun j => .int (f j)) (gA G) U U.heap) (hd : decode Y.cc pc = .ok (.baload, 1)) (hin : vp_in i N) (kk : T G Y d Q ce sl (pc + 1) lv (.int (f i.toNatClampNeg) :: st) M) : T G Y d Q ce sl pc lv (.int i :: .ref a :: st) M := by
  intro p e s m args below meth cd H locs ls X hR hS hl
  exact va_tb X.1 X.2.1 (hX s X.2.2.2.2.2.2.2.1.2.1) hS hin rfl hd (kk p e s m args below meth cd H locs ls X hR hS hl)
end
/-- what is known of a String constant: a Latin text of n bytes f -/
def sFacts (G : MG) (a av n : Nat) (f : Nat → Int32) : Prop := ∀ U, G.X U → va_O "java/lang/String" a (gA G) U U.heap ∧ va_OF "java/lang/String" "coder" "B" (.int 0) a (gA G) U U.heap ∧ va_OF "java/lang/String" "value" "[B" (.ref av) a (gA G) U U.heap ∧ va_T .byte av n (fun j => .int (f j)) (gA G) U U.heap
def jFacts (G : MG) : Prop := ∀ U, G.X U → va_Z "java/lang/String" "COMPACT_STRINGS" "Z" (.int 1) (gA G) U U.heap ∧ va_Zq "jdk/internal/util/Preconditions" "SIOOBE_FORMATTER" "Ljava/util/function/BiFunction;" (gA G) U U.heap
theorem mg462 : Cond.methodLink RJ0 335 Y_J0_coder_7d493.y ∈ lw_good := List.mem_filter.mpr ⟨List.mem_append_right _ (List.mem_of_getElem? (i := 462) (by decide +kernel)), by decide +kernel⟩
theorem mg465 : Cond.code Y_J0_coder_7d493.y Y_J0_coder_7d493.cc Y_J0_coder_7d493.nL Y_J0_coder_7d493.rt ∈ lw_good := List.mem_filter.mpr ⟨List.mem_append_right _ (List.mem_of_getElem? (i := 465) (by decide +kernel)), by decide +kernel⟩
theorem mg14 : Cond.initialized RJ0 ∈ lw_good := List.mem_filter.mpr ⟨List.mem_append_right _ (List.mem_of_getElem? (i := 14) (by decide +kernel)), by decide +kernel⟩
theorem mg463 : Cond.instanceMethod Y_J0_coder_7d493.y ∈ lw_good := List.mem_filter.mpr ⟨List.mem_append_right _ (List.mem_of_getElem? (i := 463) (by decide +kernel)), by decide +kernel⟩
theorem mg464 : Cond.selects RJ0 yJ0_coder_7d493 yJ0_coder_7d493 ∈ lw_good := List.mem_filter.mpr ⟨List.mem_append_right _ (List.mem_of_getElem? (i := 464) (by decide +kernel)), by decide +kernel⟩
theorem co_J0_335 : coOK RJ0 335 0 Y_J0_coder_7d493 := ⟨⟨mg462, mg463, mg464, mg14, mg465⟩, ⟨by decide +kernel, by decide +kernel⟩, by decide +kernel, by decide, rfl, rfl⟩
theorem mg472 : Cond.methodLink RJ0 492 Y_J0_isLatin1_aae02.y ∈ lw_good := List.mem_filter.mpr ⟨List.mem_append_right _ (List.mem_of_getElem? (i := 472) (by decide +kernel)), by decide +kernel⟩
theorem mg475 : Cond.code Y_J0_isLatin1_aae02.y Y_J0_isLatin1_aae02.cc Y_J0_isLatin1_aae02.nL Y_J0_isLatin1_aae02.rt ∈ lw_good := List.mem_filter.mpr ⟨List.mem_append_right _ (List.mem_of_getElem? (i := 475) (by decide +kernel)), by decide +kernel⟩
theorem mg473 : Cond.instanceMethod Y_J0_isLatin1_aae02.y ∈ lw_good := List.mem_filter.mpr ⟨List.mem_append_right _ (List.mem_of_getElem? (i := 473) (by decide +kernel)), by decide +kernel⟩
theorem mg474 : Cond.selects RJ0 yJ0_isLatin1_aae02 yJ0_isLatin1_aae02 ∈ lw_good := List.mem_filter.mpr ⟨List.mem_append_right _ (List.mem_of_getElem? (i := 474) (by decide +kernel)), by decide +kernel⟩
theorem co_J0_492 : coOK RJ0 492 0 Y_J0_isLatin1_aae02 := ⟨⟨mg472, mg473, mg474, mg14, mg475⟩, ⟨by decide +kernel, by decide +kernel⟩, by decide +kernel, by decide, rfl, rfl⟩
theorem mg476 : Cond.methodLink RJ0 495 Y_J1_charAt_3b067.y ∈ lw_good := List.mem_filter.mpr ⟨List.mem_append_right _ (List.mem_of_getElem? (i := 476) (by decide +kernel)), by decide +kernel⟩
theorem mg478 : Cond.code Y_J1_charAt_3b067.y Y_J1_charAt_3b067.cc Y_J1_charAt_3b067.nL Y_J1_charAt_3b067.rt ∈ lw_good := List.mem_filter.mpr ⟨List.mem_append_right _ (List.mem_of_getElem? (i := 478) (by decide +kernel)), by decide +kernel⟩
theorem mg15 : Cond.initialized RJ1 ∈ lw_good := List.mem_filter.mpr ⟨List.mem_append_right _ (List.mem_of_getElem? (i := 15) (by decide +kernel)), by decide +kernel⟩
theorem mg477 : Cond.static Y_J1_charAt_3b067.y ∈ lw_good := List.mem_filter.mpr ⟨List.mem_append_right _ (List.mem_of_getElem? (i := 477) (by decide +kernel)), by decide +kernel⟩
theorem cs_J0_495 : csOK RJ0 495 2 Y_J1_charAt_3b067 := ⟨⟨mg476, mg477, mg15, mg478⟩, ⟨by decide +kernel, by decide +kernel⟩, by decide +kernel, by decide, rfl, rfl⟩
theorem mg479 : Cond.methodLink RJ1 9 Y_J0_checkIndex_df160.y ∈ lw_good := List.mem_filter.mpr ⟨List.mem_append_right _ (List.mem_of_getElem? (i := 479) (by decide +kernel)), by decide +kernel⟩
theorem mg481 : Cond.code Y_J0_checkIndex_df160.y Y_J0_checkIndex_df160.cc Y_J0_checkIndex_df160.nL Y_J0_checkIndex_df160.rt ∈ lw_good := List.mem_filter.mpr ⟨List.mem_append_right _ (List.mem_of_getElem? (i := 481) (by decide +kernel)), by decide +kernel⟩
theorem mg480 : Cond.static Y_J0_checkIndex_df160.y ∈ lw_good := List.mem_filter.mpr ⟨List.mem_append_right _ (List.mem_of_getElem? (i := 480) (by decide +kernel)), by decide +kernel⟩
theorem cs_J1_9 : csOK RJ1 9 2 Y_J0_checkIndex_df160 := ⟨⟨mg479, mg480, mg14, mg481⟩, ⟨by decide +kernel, by decide +kernel⟩, by decide +kernel, by decide, rfl, rfl⟩
theorem mg484 : Cond.methodLink RJ0 1059 Y_J3_checkIndex_8e157.y ∈ lw_good := List.mem_filter.mpr ⟨List.mem_append_right _ (List.mem_of_getElem? (i := 484) (by decide +kernel)), by decide +kernel⟩
theorem mg486 : Cond.code Y_J3_checkIndex_8e157.y Y_J3_checkIndex_8e157.cc Y_J3_checkIndex_8e157.nL Y_J3_checkIndex_8e157.rt ∈ lw_good := List.mem_filter.mpr ⟨List.mem_append_right _ (List.mem_of_getElem? (i := 486) (by decide +kernel)), by decide +kernel⟩
theorem mg16 : Cond.initialized RJ3 ∈ lw_good := List.mem_filter.mpr ⟨List.mem_append_right _ (List.mem_of_getElem? (i := 16) (by decide +kernel)), by decide +kernel⟩
theorem mg485 : Cond.static Y_J3_checkIndex_8e157.y ∈ lw_good := List.mem_filter.mpr ⟨List.mem_append_right _ (List.mem_of_getElem? (i := 485) (by decide +kernel)), by decide +kernel⟩
theorem cs_J0_1059 : csOK RJ0 1059 3 Y_J3_checkIndex_8e157 := ⟨⟨mg484, mg485, mg16, mg486⟩, ⟨by decide +kernel, by decide +kernel⟩, by decide +kernel, by decide, rfl, rfl⟩
theorem mg458 : Cond.methodLink RX10 232 Y_J0_length_8abf5.y ∈ lw_good := List.mem_filter.mpr ⟨List.mem_append_right _ (List.mem_of_getElem? (i := 458) (by decide +kernel)), by decide +kernel⟩
theorem mg461 : Cond.code Y_J0_length_8abf5.y Y_J0_length_8abf5.cc Y_J0_length_8abf5.nL Y_J0_length_8abf5.rt ∈ lw_good := List.mem_filter.mpr ⟨List.mem_append_right _ (List.mem_of_getElem? (i := 461) (by decide +kernel)), by decide +kernel⟩
theorem mg459 : Cond.instanceMethod Y_J0_length_8abf5.y ∈ lw_good := List.mem_filter.mpr ⟨List.mem_append_right _ (List.mem_of_getElem? (i := 459) (by decide +kernel)), by decide +kernel⟩
theorem mg460 : Cond.selects RJ0 yJ0_length_8abf5 yJ0_length_8abf5 ∈ lw_good := List.mem_filter.mpr ⟨List.mem_append_right _ (List.mem_of_getElem? (i := 460) (by decide +kernel)), by decide +kernel⟩
theorem co_X10_232 : coOK RX10 232 0 Y_J0_length_8abf5 := ⟨⟨mg458, mg459, mg460, mg14, mg461⟩, ⟨by decide +kernel, by decide +kernel⟩, by decide +kernel, by decide, rfl, rfl⟩
theorem mg468 : Cond.methodLink RX10 236 Y_J0_charAt_5068e.y ∈ lw_good := List.mem_filter.mpr ⟨List.mem_append_right _ (List.mem_of_getElem? (i := 468) (by decide +kernel)), by decide +kernel⟩
theorem mg471 : Cond.code Y_J0_charAt_5068e.y Y_J0_charAt_5068e.cc Y_J0_charAt_5068e.nL Y_J0_charAt_5068e.rt ∈ lw_good := List.mem_filter.mpr ⟨List.mem_append_right _ (List.mem_of_getElem? (i := 471) (by decide +kernel)), by decide +kernel⟩
theorem mg469 : Cond.instanceMethod Y_J0_charAt_5068e.y ∈ lw_good := List.mem_filter.mpr ⟨List.mem_append_right _ (List.mem_of_getElem? (i := 469) (by decide +kernel)), by decide +kernel⟩
theorem mg470 : Cond.selects RJ0 yJ0_charAt_5068e yJ0_charAt_5068e ∈ lw_good := List.mem_filter.mpr ⟨List.mem_append_right _ (List.mem_of_getElem? (i := 470) (by decide +kernel)), by decide +kernel⟩
theorem co_X10_236 : coOK RX10 236 1 Y_J0_charAt_5068e := ⟨⟨mg468, mg469, mg470, mg14, mg471⟩, ⟨by decide +kernel, by decide +kernel⟩, by decide +kernel, by decide, rfl, rfl⟩
theorem mg1409 : Cond.fieldLink RJ0 9 "java/lang/String" "value" "[B" ∈ lw_good := List.mem_filter.mpr ⟨List.mem_append_right _ (List.mem_of_getElem? (i := 1409) (by decide +kernel)), by decide +kernel⟩
theorem mg1410 : Cond.fieldLink RJ0 15 "java/lang/String" "coder" "B" ∈ lw_good := List.mem_filter.mpr ⟨List.mem_append_right _ (List.mem_of_getElem? (i := 1410) (by decide +kernel)), by decide +kernel⟩
theorem mg466 : Cond.fieldLink RJ0 38 "java/lang/String" "COMPACT_STRINGS" "Z" ∈ lw_good := List.mem_filter.mpr ⟨List.mem_append_right _ (List.mem_of_getElem? (i := 466) (by decide +kernel)), by decide +kernel⟩
theorem mg482 : Cond.fieldLink RJ0 1053 "jdk/internal/util/Preconditions" "SIOOBE_FORMATTER" "Ljava/util/function/BiFunction;" ∈ lw_good := List.mem_filter.mpr ⟨List.mem_append_right _ (List.mem_of_getElem? (i := 482) (by decide +kernel)), by decide +kernel⟩
section
variable {G : MG} {d a av n : Nat} {f : Nat → Int32} {M : Mm} {Q : Int32 → Mm → Prop}
theorem s_coder (hs : sFacts G a av n f) (hj : jFacts G) (h : Q 0 M) : C G Y_J0_coder_7d493 (d + 1) [.ref a] M (Ri Q) := by
  refine C.of (by decide) (Nat.le_of_ble_eq_true rfl) (lv := [(0, .ref a)]) rfl ?_
  refine tw_getsV (fun U h => (hj U h).1) mg466 d_J0_coder_7d493_0 ?_
  refine tw_if_eq 13 d_J0_coder_7d493_3 (by decide) (fun z => absurd z (by decide)) (fun _ => ?_)
  refine tw_aload_n 0 d_J0_coder_7d493_6 rfl rfl ?_
  refine tw_getO (fun U h => (hs U h).2.1) mg1410 d_J0_coder_7d493_7 ?_
  refine tw_goto 14 d_J0_coder_7d493_10 (by decide) ?_
  exact tw_zret (ty := .byte) rfl rfl ⟨Nat.zero_le _, Nat.zero_le _⟩ d_J0_coder_7d493_14 h
theorem s_isLatin1 (hs : sFacts G a av n f) (hj : jFacts G) (h : Q 1 M) : C G Y_J0_isLatin1_aae02 (d + 1) [.ref a] M (Ri Q) := by
  refine C.of (by decide) (Nat.le_of_ble_eq_true rfl) (lv := [(0, .ref a)]) rfl ?_
  refine tw_getsV (fun U h => (hj U h).1) mg466 d_J0_isLatin1_aae02_0 ?_
  refine tw_if_eq 17 d_J0_isLatin1_aae02_3 (by decide) (fun z => absurd z (by decide)) (fun _ => ?_)
  refine tw_aload_n 0 d_J0_isLatin1_aae02_6 rfl rfl ?_
  refine tw_getO (fun U h => (hs U h).2.1) mg1410 d_J0_isLatin1_aae02_7 ?_
  refine tw_if_ne 17 d_J0_isLatin1_aae02_10 (by decide) (fun z => absurd rfl z) (fun _ => ?_)
  refine tw_iconst d_J0_isLatin1_aae02_13 k_1 ?_
  refine tw_goto 18 d_J0_isLatin1_aae02_14 (by decide) ?_
  exact tw_zret (ty := .boolean) rfl rfl ⟨Nat.zero_le _, Nat.zero_le _⟩ d_J0_isLatin1_aae02_18 h
theorem shr0 (x : Int32) : x >>> ((0 : Int32) &&& 31) = x := by
  have h : ((0 : Int32) &&& 31) = 0 := by decide
  rw [h]
  exact Int32.toInt_inj.mp (by rw [pk_shr x 0 0 (by decide)]; simp)
theorem s_length (hs : sFacts G a av n f) (hj : jFacts G) (h : Q (nI n) M) : C G Y_J0_length_8abf5 (d + 2) [.ref a] M (Ri Q) := by
  refine C.of (by decide) (Nat.le_of_ble_eq_true rfl) (lv := [(0, .ref a)]) rfl ?_
  refine tw_aload_n 0 d_J0_length_8abf5_0 rfl rfl ?_
  refine tw_getO (fun U h => (hs U h).2.2.1) mg1409 d_J0_length_8abf5_1 ?_
  refine tw_tlen (fun U h => (hs U h).2.2.2) rfl d_J0_length_8abf5_4 ?_
  refine tw_aload_n 0 d_J0_length_8abf5_5 rfl rfl ?_
  refine tw_callO (As := []) (Q' := fun v N => v = 0 ∧ M = N) co_J0_335 (fun U h => (hs U h).1) rfl (Nat.le_of_ble_eq_true rfl) ⟨Nat.zero_le _, Nat.zero_le _⟩ d_J0_length_8abf5_6 (s_coder hs hj ⟨rfl, rfl⟩) (fun v N hv => ?_)
  obtain ⟨rfl, rfl⟩ := hv
  refine tw_ishr d_J0_length_8abf5_9 ?_
  rw [shr0]
  exact tw_iret rfl ⟨Nat.zero_le _, Nat.zero_le _⟩ d_J0_length_8abf5_10 h
theorem s_pre_null {i m : Int32} (h1 : ¬ i < 0) (h2 : i < m) (h : Q i M) : C G Y_J3_checkIndex_8e157 (d + 1) [.int i, .int m, .null] M (Ri Q) := by
  refine C.of (by decide) (Nat.le_of_ble_eq_true rfl) (lv := [(0, .int i), (1, .int m), (2, .null)]) rfl ?_
  refine tw_iload_n 0 d_J3_checkIndex_8e157_0 rfl rfl ?_
  refine tw_if_lt 9 d_J3_checkIndex_8e157_1 (by decide) (fun z => absurd z h1) (fun _ => ?_)
  refine tw_iload_n 0 d_J3_checkIndex_8e157_4 rfl rfl ?_
  refine tw_iload_n 1 d_J3_checkIndex_8e157_5 rfl rfl ?_
  refine tw_icmp_lt 16 d_J3_checkIndex_8e157_6 (by decide) (fun _ => ?_) (fun z => absurd h2 z)
  refine tw_iload_n 0 d_J3_checkIndex_8e157_16 rfl rfl ?_
  exact tw_iret rfl ⟨Nat.zero_le _, Nat.zero_le _⟩ d_J3_checkIndex_8e157_17 h
theorem s_pre_ref {i m : Int32} {t : Nat} (h1 : ¬ i < 0) (h2 : i < m) (h : Q i M) : C G Y_J3_checkIndex_8e157 (d + 1) [.int i, .int m, .ref t] M (Ri Q) := by
  refine C.of (by decide) (Nat.le_of_ble_eq_true rfl) (lv := [(0, .int i), (1, .int m), (2, .ref t)]) rfl ?_
  refine tw_iload_n 0 d_J3_checkIndex_8e157_0 rfl rfl ?_
  refine tw_if_lt 9 d_J3_checkIndex_8e157_1 (by decide) (fun z => absurd z h1) (fun _ => ?_)
  refine tw_iload_n 0 d_J3_checkIndex_8e157_4 rfl rfl ?_
  refine tw_iload_n 1 d_J3_checkIndex_8e157_5 rfl rfl ?_
  refine tw_icmp_lt 16 d_J3_checkIndex_8e157_6 (by decide) (fun _ => ?_) (fun z => absurd h2 z)
  refine tw_iload_n 0 d_J3_checkIndex_8e157_16 rfl rfl ?_
  exact tw_iret rfl ⟨Nat.zero_le _, Nat.zero_le _⟩ d_J3_checkIndex_8e157_17 h
theorem s_chk {i m : Int32} (hj : jFacts G) {Q : Mm → Prop} (h1 : ¬ i < 0) (h2 : i < m) (h : Q M) : C G Y_J0_checkIndex_df160 (d + 2) [.int i, .int m] M (Rv Q) := by
  refine C.of (by decide) (Nat.le_of_ble_eq_true rfl) (lv := [(0, .int i), (1, .int m)]) rfl ?_
  refine tw_iload_n 0 d_J0_checkIndex_df160_0 rfl rfl ?_
  refine tw_iload_n 1 d_J0_checkIndex_df160_1 rfl rfl ?_
  refine tw_getsQ (fun U h => (hj U h).2) mg482 d_J0_checkIndex_df160_2 ?_ (fun t => ?_)
  · refine tu_cSi (As := [.int i, .int m, .null]) (Q' := fun v N => M = N) cs_J0_1059 rfl (Nat.le_of_ble_eq_true rfl) ⟨Nat.zero_le _, Nat.zero_le _⟩ d_J0_checkIndex_df160_5 (s_pre_null h1 h2 rfl) (fun v N hv => ?_)
    subst hv
    refine tw_pop d_J0_checkIndex_df160_8 rfl ?_
    exact tw_vret rfl ⟨Nat.zero_le _, Nat.zero_le _⟩ d_J0_checkIndex_df160_9 h
  · refine tu_cSi (As := [.int i, .int m, .ref t]) (Q' := fun v N => M = N) cs_J0_1059 rfl (Nat.le_of_ble_eq_true rfl) ⟨Nat.zero_le _, Nat.zero_le _⟩ d_J0_checkIndex_df160_5 (s_pre_ref h1 h2 rfl) (fun v N hv => ?_)
    subst hv
    refine tw_pop d_J0_checkIndex_df160_8 rfl ?_
    exact tw_vret rfl ⟨Nat.zero_le _, Nat.zero_le _⟩ d_J0_checkIndex_df160_9 h
theorem nar_char (x : Int32) : narrow .char (.int (x.toUInt32 % 65536).toInt32) = .int (x.toUInt32 % 65536).toInt32 := pk_nc x
theorem s_l1 {i : Int32} (hs : sFacts G a av n f) (hj : jFacts G) (hn : n < 2 ^ 31) (hin : vp_in i n) (h : Q (((f i.toNatClampNeg) &&& 255).toUInt32 % 65536).toInt32 M) : C G Y_J1_charAt_3b067 (d + 3) [.ref av, .int i] M (Ri Q) := by
  have h1 : ¬ i < 0 := fun q => hin (Or.inl q)
  have h2 : i < nI n := by
    obtain ⟨j, hj, rfl⟩ := vp_in_of hin hn
    exact nI_lt hj hn
  refine C.of (by decide) (Nat.le_of_ble_eq_true rfl) (lv := [(0, .ref av), (1, .int i)]) rfl ?_
  refine tw_iload_n 1 d_J1_charAt_3b067_0 rfl rfl ?_
  refine tw_aload_n 0 d_J1_charAt_3b067_1 rfl rfl ?_
  refine tw_tlen (fun U h => (hs U h).2.2.2) (v := nI n) rfl d_J1_charAt_3b067_2 ?_
  refine tu_cSv (As := [.int i, .int (nI n)]) (Q' := fun N => M = N) cs_J1_9 rfl (Nat.le_of_ble_eq_true rfl) ⟨Nat.zero_le _, Nat.zero_le _⟩ d_J1_charAt_3b067_3 (s_chk hj h1 h2 rfl) (fun N hv => ?_)
  subst hv
  refine tw_aload_n 0 d_J1_charAt_3b067_6 rfl rfl ?_
  refine tw_iload_n 1 d_J1_charAt_3b067_7 rfl rfl ?_
  refine tw_tb (fun U h => (hs U h).2.2.2) d_J1_charAt_3b067_8 hin ?_
  refine tw_sipush d_J1_charAt_3b067_9 (v := 255) (by decide) ?_
  refine tw_iand d_J1_charAt_3b067_12 ?_
  refine tw_i2c d_J1_charAt_3b067_13 ?_
  exact tw_zret (ty := .char) rfl (nar_char _) ⟨Nat.zero_le _, Nat.zero_le _⟩ d_J1_charAt_3b067_14 h
theorem s_charAt {i : Int32} (hs : sFacts G a av n f) (hj : jFacts G) (hn : n < 2 ^ 31) (hin : vp_in i n) (h : Q (((f i.toNatClampNeg) &&& 255).toUInt32 % 65536).toInt32 M) : C G Y_J0_charAt_5068e (d + 4) [.ref a, .int i] M (Ri Q) := by
  refine C.of (by decide) (Nat.le_of_ble_eq_true rfl) (lv := [(0, .ref a), (1, .int i)]) rfl ?_
  refine tw_aload_n 0 d_J0_charAt_5068e_0 rfl rfl ?_
  refine tw_callO (As := []) (Q' := fun v N => v = 1 ∧ M = N) co_J0_492 (fun U h => (hs U h).1) rfl (Nat.le_of_ble_eq_true rfl) ⟨Nat.zero_le _, Nat.zero_le _⟩ d_J0_charAt_5068e_1 (s_isLatin1 hs hj ⟨rfl, rfl⟩) (fun v N hv => ?_)
  obtain ⟨rfl, rfl⟩ := hv
  refine tw_if_eq 16 d_J0_charAt_5068e_4 (by decide) (fun z => absurd z (by decide)) (fun _ => ?_)
  refine tw_aload_n 0 d_J0_charAt_5068e_7 rfl rfl ?_
  refine tw_getO (fun U h => (hs U h).2.2.1) mg1409 d_J0_charAt_5068e_8 ?_
  refine tw_iload_n 1 d_J0_charAt_5068e_11 rfl rfl ?_
  refine tu_cSi (As := [.ref av, .int i]) (Q' := fun v N => v = (((f i.toNatClampNeg) &&& 255).toUInt32 % 65536).toInt32 ∧ M = N) cs_J0_495 rfl (Nat.le_of_ble_eq_true rfl) ⟨Nat.zero_le _, Nat.zero_le _⟩ d_J0_charAt_5068e_12 (s_l1 hs hj hn hin ⟨rfl, rfl⟩) (fun v N hv => ?_)
  obtain ⟨rfl, rfl⟩ := hv
  exact tw_zret (ty := .char) rfl (nar_char _) ⟨Nat.zero_le _, Nat.zero_le _⟩ d_J0_charAt_5068e_15 h
end
/-- a text as one number -/
def chrOf (f : Nat → Int32) (i : Nat) : Int32 := (((f i) &&& 255).toUInt32 % 65536).toInt32
def pk32 (f : Nat → Int32) : Nat → Int64
  | 0 => 0
  | k + 1 => pk32 f k * 32 + (chrOf f k - 97 + 1).toInt64
section
variable {G : MG} {d a av n : Nat} {f : Nat → Int32} {M : Mm} {Q : Int64 → Mm → Prop}
theorem packed_loop (hs : sFacts G a av n f) (hj : jFacts G) (hn : n < 2 ^ 31) (h : Q (pk32 f n) M) : ∀ k i, i ≤ n → n - i = k → T G Y_X10_packed (d + 5) (Rj Q) 0 0 4 [(3, .int (nI i)), (1, .long (pk32 f i)), (0, .ref a)] [] M := by
  intro k
  induction k with
  | zero =>
    intro i hi hk
    have hin : i = n := by omega
    subst hin
    refine tw_iload_n 0 d_X10_packed_4 rfl rfl ?_
    refine tw_aload_n 2 d_X10_packed_5 rfl rfl ?_
    refine tw_callO (As := []) (Q' := fun v N => v = nI i ∧ M = N) co_X10_232 (fun U h => (hs U h).1) rfl (Nat.le_of_ble_eq_true rfl) ⟨Nat.zero_le _, Nat.zero_le _⟩ d_X10_packed_6 ((s_length (d := d) hs hj ⟨rfl, rfl⟩).mono (by omega)) (fun v N hv => ?_)
    obtain ⟨rfl, rfl⟩ := hv
    refine tw_icmp_ge 36 d_X10_packed_9 (by decide) (fun _ => ?_) (fun z => absurd (nI_le (Nat.le_refl i) hn) z)
    refine tw_lload_n 1 d_X10_packed_36 rfl rfl ?_
    exact tw_lret rfl ⟨Nat.zero_le _, Nat.zero_le _⟩ d_X10_packed_37 h
  | succ k ih =>
    intro i hi hk
    have hlt : i < n := by omega
    refine tw_iload_n 0 d_X10_packed_4 rfl rfl ?_
    refine tw_aload_n 2 d_X10_packed_5 rfl rfl ?_
    refine tw_callO (As := []) (Q' := fun v N => v = nI n ∧ M = N) co_X10_232 (fun U h => (hs U h).1) rfl (Nat.le_of_ble_eq_true rfl) ⟨Nat.zero_le _, Nat.zero_le _⟩ d_X10_packed_6 ((s_length (d := d) hs hj ⟨rfl, rfl⟩).mono (by omega)) (fun v N hv => ?_)
    obtain ⟨rfl, rfl⟩ := hv
    refine tw_icmp_ge 36 d_X10_packed_9 (by decide) (fun z => absurd z (nI_ge hlt hn)) (fun _ => ?_)
    refine tw_lload_n 1 d_X10_packed_12 rfl rfl ?_
    refine tw_ldc2 d_X10_packed_13 mg439 ?_
    refine tw_lmul d_X10_packed_16 ?_
    refine tw_aload_n 2 d_X10_packed_17 rfl rfl ?_
    refine tw_iload_n 0 d_X10_packed_18 rfl rfl ?_
    refine tw_callO (As := [.int (nI i)]) (Q' := fun v N => v = chrOf f i ∧ M = N) co_X10_236 (fun U h => (hs U h).1) rfl (Nat.le_of_ble_eq_true rfl) ⟨Nat.zero_le _, Nat.zero_le _⟩ d_X10_packed_19 ((s_charAt (d := d) hs hj hn (vp_in_nI hlt hn) ⟨by rw [nI_clamp (by omega)]; rfl, rfl⟩).mono (by omega)) (fun v N hv => ?_)
    obtain ⟨rfl, rfl⟩ := hv
    refine tw_bipush (v := 97) d_X10_packed_22 (by decide) ?_
    refine tw_isub d_X10_packed_24 ?_
    refine tw_iconst d_X10_packed_25 k_1 ?_
    refine tw_iadd d_X10_packed_26 ?_
    refine tw_i2l d_X10_packed_27 ?_
    refine tw_ladd d_X10_packed_28 ?_
    refine tw_lstore_n [(1, .long (pk32 f (i + 1))), (3, .int (nI i)), (0, .ref a)] d_X10_packed_29 rfl (Nat.le_of_ble_eq_true rfl) rfl ?_
    refine tw_iinc 1 [(3, .int (nI (i + 1))), (1, .long (pk32 f (i + 1))), (0, .ref a)] d_X10_packed_30 rfl (by rw [← nI_1]; rfl) (Nat.le_of_ble_eq_true rfl) rfl ?_
    refine tw_goto 4 d_X10_packed_33 (by decide) ?_
    exact ih (i + 1) (by omega) (by omega)
theorem s_packed (hs : sFacts G a av n f) (hj : jFacts G) (hn : n < 2 ^ 31) (h : Q (pk32 f n) M) : C G Y_X10_packed (d + 5) [.ref a] M (Rj Q) := by
  refine C.of (by decide) (Nat.le_of_ble_eq_true rfl) (lv := [(0, .ref a)]) rfl ?_
  refine tw_lconst (v := 0) d_X10_packed_0 rfl ?_
  refine tw_lstore_n [(1, .long 0), (0, .ref a)] d_X10_packed_1 rfl (Nat.le_of_ble_eq_true rfl) rfl ?_
  refine tw_iconst d_X10_packed_2 k_0 ?_
  refine tw_istore_n [(3, .int 0), (1, .long 0), (0, .ref a)] d_X10_packed_3 rfl (Nat.le_of_ble_eq_true rfl) rfl ?_
  exact packed_loop hs hj hn h n 0 (Nat.zero_le n) rfl
end
