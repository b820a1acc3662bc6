theorem mg421 : Cond.methodLink RX11 90 Y_X10_readOffice.y ∈ lw_good := List.mem_filter.mpr ⟨List.mem_append_right _ (List.mem_of_getElem? (i := 421) (by decide +kernel)), by decide +kernel⟩
theorem mg424 : Cond.code Y_X10_readOffice.y Y_X10_readOffice.cc Y_X10_readOffice.nL Y_X10_readOffice.rt ∈ lw_good := List.mem_filter.mpr ⟨List.mem_append_right _ (List.mem_of_getElem? (i := 424) (by decide +kernel)), by decide +kernel⟩
theorem mg422 : Cond.instanceMethod Y_X10_readOffice.y ∈ lw_good := List.mem_filter.mpr ⟨List.mem_append_right _ (List.mem_of_getElem? (i := 422) (by decide +kernel)), by decide +kernel⟩
theorem mg423 : Cond.selects RX10 yX10_readOffice yX10_readOffice ∈ lw_good := List.mem_filter.mpr ⟨List.mem_append_right _ (List.mem_of_getElem? (i := 423) (by decide +kernel)), by decide +kernel⟩
theorem cv_X11_90 : cvOK RX11 90 10 1 Y_X10_readOffice := ⟨RX10, TX10, 7, rfl, rfl, ⟨mg421, mg422, mg423, mg2, mg424⟩, ⟨by decide +kernel, by decide +kernel⟩, by decide +kernel, by decide, rfl, rfl⟩
theorem mg586 : Cond.methodLink RX11 94 Y_X7_begin.y ∈ lw_good := List.mem_filter.mpr ⟨List.mem_append_right _ (List.mem_of_getElem? (i := 586) (by decide +kernel)), by decide +kernel⟩
theorem mg589 : Cond.code Y_X7_begin.y Y_X7_begin.cc Y_X7_begin.nL Y_X7_begin.rt ∈ lw_good := List.mem_filter.mpr ⟨List.mem_append_right _ (List.mem_of_getElem? (i := 589) (by decide +kernel)), by decide +kernel⟩
theorem mg587 : Cond.instanceMethod Y_X7_begin.y ∈ lw_good := List.mem_filter.mpr ⟨List.mem_append_right _ (List.mem_of_getElem? (i := 587) (by decide +kernel)), by decide +kernel⟩
theorem mg588 : Cond.selects RX7 yX7_begin yX7_begin ∈ lw_good := List.mem_filter.mpr ⟨List.mem_append_right _ (List.mem_of_getElem? (i := 588) (by decide +kernel)), by decide +kernel⟩
theorem cv_X11_94 : cvOK RX11 94 7 1 Y_X7_begin := ⟨RX7, TX7, 11, rfl, rfl, ⟨mg586, mg587, mg588, mg6, mg589⟩, ⟨by decide +kernel, by decide +kernel⟩, by decide +kernel, by decide, rfl, rfl⟩
theorem lay_swap {c : Nat} {M M1 M2 : Mm} (hL : Lay c M) (hc : c = 3 ∨ c = 39) (e1 : M1 = sR M 0 2 (some c)) (e2 : M2 = sR M1 0 1 (some (42 - c))) : Lay (42 - c) M2 := by
  have h1 : M.2.2 = (RF c, NC) := hL
  have hR : M.2.2.1 = RF c := by rw [h1]
  have hN : M.2.2.2 = NC := by rw [h1]
  subst e1
  subst e2
  show ((fun a => _), _) = (RF (42 - c), NC)
  rw [show (sR M 0 2 (some c)).2.2.2 = NC from hN]
  congr 1
  funext a
  by_cases ha : a = 0
  · subst ha
    rw [if_pos rfl]
    funext k
    unfold upR
    have hs : sh 0 = some (.inr 11) := s_0
    by_cases h1 : k = 1
    · subst h1
      simp [RF, hs, RFC]
    · rw [if_neg h1]
      show (if (0 : Nat) = 0 then upR (M.2.2.1 0) 2 (some c) else M.2.2.1 0) k = _
      rw [if_pos rfl, hR]
      unfold upR
      by_cases h2 : k = 2
      · subst h2
        simp only [if_pos, RF, hs, RFC]
        congr 1
        omega
      · rw [if_neg h2]
        simp only [RF, hs]
        unfold RFC
        split <;> simp_all
  · rw [if_neg ha]
    show (if a = 0 then _ else M.2.2.1 a) = _
    rw [if_neg ha, hR]
    funext k
    unfold RF
    have hs : sh a ≠ some (.inr 11) := fun h => ha ((by decide +kernel : ∀ a, a < 162 → sh a = some (.inr 11) → a = 0) a (sh_lt h) h)
    split <;> simp_all
theorem d_X11_office_0 : decode Y_X11_office.cc 0 = .ok (.aload_n 0, 1) := by decide +kernel
theorem d_X11_office_1 : decode Y_X11_office.cc 1 = .ok (.getfield 10, 3) := by decide +kernel
theorem d_X11_office_4 : decode Y_X11_office.cc 4 = .ok (.aload_n 0, 1) := by decide +kernel
theorem d_X11_office_5 : decode Y_X11_office.cc 5 = .ok (.getfield 23, 3) := by decide +kernel
theorem d_X11_office_8 : decode Y_X11_office.cc 8 = .ok (.invokevirtual 90, 3) := by decide +kernel
theorem d_X11_office_11 : decode Y_X11_office.cc 11 = .ok (.istore_n 1, 1) := by decide +kernel
theorem d_X11_office_12 : decode Y_X11_office.cc 12 = .ok (.aload_n 0, 1) := by decide +kernel
theorem d_X11_office_13 : decode Y_X11_office.cc 13 = .ok (.getfield 10, 3) := by decide +kernel
theorem d_X11_office_16 : decode Y_X11_office.cc 16 = .ok (.iconst 0, 1) := by decide +kernel
theorem d_X11_office_17 : decode Y_X11_office.cc 17 = .ok (.putfield 87, 3) := by decide +kernel
theorem d_X11_office_20 : decode Y_X11_office.cc 20 = .ok (.iload_n 1, 1) := by decide +kernel
theorem d_X11_office_21 : decode Y_X11_office.cc 21 = .ok (.ifCond .ne 37, 3) := by decide +kernel
theorem d_X11_office_24 : decode Y_X11_office.cc 24 = .ok (.aload_n 0, 1) := by decide +kernel
theorem d_X11_office_25 : decode Y_X11_office.cc 25 = .ok (.getfield 23, 3) := by decide +kernel
theorem d_X11_office_28 : decode Y_X11_office.cc 28 = .ok (.astore_n 2, 1) := by decide +kernel
theorem d_X11_office_29 : decode Y_X11_office.cc 29 = .ok (.aload_n 0, 1) := by decide +kernel
theorem d_X11_office_30 : decode Y_X11_office.cc 30 = .ok (.aload_n 0, 1) := by decide +kernel
theorem d_X11_office_31 : decode Y_X11_office.cc 31 = .ok (.getfield 19, 3) := by decide +kernel
theorem d_X11_office_34 : decode Y_X11_office.cc 34 = .ok (.putfield 23, 3) := by decide +kernel
theorem d_X11_office_37 : decode Y_X11_office.cc 37 = .ok (.aload_n 0, 1) := by decide +kernel
theorem d_X11_office_38 : decode Y_X11_office.cc 38 = .ok (.aload_n 2, 1) := by decide +kernel
theorem d_X11_office_39 : decode Y_X11_office.cc 39 = .ok (.putfield 19, 3) := by decide +kernel
theorem d_X11_office_42 : decode Y_X11_office.cc 42 = .ok (.aload_n 0, 1) := by decide +kernel
theorem d_X11_office_43 : decode Y_X11_office.cc 43 = .ok (.getfield 29, 3) := by decide +kernel
theorem d_X11_office_46 : decode Y_X11_office.cc 46 = .ok (.aload_n 0, 1) := by decide +kernel
theorem d_X11_office_47 : decode Y_X11_office.cc 47 = .ok (.getfield 19, 3) := by decide +kernel
theorem d_X11_office_50 : decode Y_X11_office.cc 50 = .ok (.invokevirtual 94, 3) := by decide +kernel
theorem d_X11_office_53 : decode Y_X11_office.cc 53 = .ok (.aload_n 0, 1) := by decide +kernel
theorem d_X11_office_54 : decode Y_X11_office.cc 54 = .ok (.iconst 0, 1) := by decide +kernel
theorem d_X11_office_55 : decode Y_X11_office.cc 55 = .ok (.putfield 37, 3) := by decide +kernel
theorem d_X11_office_58 : decode Y_X11_office.cc 58 = .ok (.iload_n 1, 1) := by decide +kernel
theorem d_X11_office_59 : decode Y_X11_office.cc 59 = .ok (.ireturn, 1) := by decide +kernel
theorem b_X11_office {G : MG} {d : Nat} {Q : Int32 → Mm → Prop}  {M : Mm} {c : Nat} (hL : Lay c M) (hc : c = 3 ∨ c = 39)  (h : (C G Y_X10_readOffice d [.ref (G.b + 1), .ref (G.b + (42 - c))] M (Ri fun r2 M1 => M1.2.2 = M.2.2 ∧ (∀ M3 : Mm, M3 = sI M1 1 0 0 → ((¬ r2 = 0 → Q r2 M3) ∧ (r2 = 0 → (∀ M5 : Mm, M5 = sR M3 0 2 (some c) → (∀ M6 : Mm, M6 = sR M5 0 1 (some (42 - c)) → (C G Y_X7_begin d [.ref (G.b + 75), .ref (G.b + (42 - c))] M6 (Rv fun M7 => M7.2.2 = M6.2.2 ∧ (∀ M8 : Mm, M8 = sI M7 0 5 0 → Q r2 M8))))))))))) : C G Y_X11_office (d + 1) [.ref (G.b + 0)] M (Ri Q) := by
  refine C.of (by decide) (Nat.le_of_ble_eq_true rfl) (lv := [(0, .ref (G.b + 0))]) rfl ?_
  refine tw_aload_n 0 d_X11_office_0 rfl rfl ?_
  refine tw_getR f_X11_10 hL s_0 ⟨rfl, rfl⟩ (rr_X11_0 s_0) d_X11_office_1 ?_
  refine tw_aload_n 0 d_X11_office_4 rfl rfl ?_
  refine tw_getR f_X11_23 hL s_0 ⟨rfl, rfl⟩ (rr_X11_2 s_0) d_X11_office_5 ?_
  refine tu_cVi (As := [.ref (G.b + (42 - c))]) cv_X11_90 hL s_1 rfl (Nat.le_of_ble_eq_true rfl) ⟨Nat.zero_le _, Nat.zero_le _⟩ d_X11_office_8 h (fun r2 M1 h => ?_)
  have hL_M1 : Lay c M1 := hL.to h.1
  replace h := h.2
  refine tw_istore_n [(1, .int r2), (0, .ref (G.b + 0))] d_X11_office_11 rfl (Nat.le_of_ble_eq_true rfl) rfl ?_
  refine tw_aload_n 1 d_X11_office_12 rfl rfl ?_
  refine tw_getR f_X11_10 hL_M1 s_0 ⟨rfl, rfl⟩ (rr_X11_0 s_0) d_X11_office_13 ?_
  refine tw_iconst d_X11_office_16 k_0 ?_
  refine tu_putI f_X11_87 hL_M1 s_1 rfl rfl d_X11_office_17 (fun M3 e_M3 hL_M3 => ?_)
  replace h := h M3 e_M3
  refine tw_iload_n 0 d_X11_office_20 rfl rfl ?_
  refine tw_if_ne 58 d_X11_office_21 (by decide) (fun z4 => ?_) (fun z4 => ?_)
  · replace h := h.1 z4
    refine tw_iload_n 0 d_X11_office_58 rfl rfl ?_
    exact tw_iret rfl ⟨Nat.zero_le _, Nat.zero_le _⟩ d_X11_office_59 h
  · replace h := h.2 z4
    refine tw_aload_n 1 d_X11_office_24 rfl rfl ?_
    refine tw_getR f_X11_23 hL_M3 s_0 ⟨rfl, rfl⟩ (rr_X11_2 s_0) d_X11_office_25 ?_
    refine tw_astore_n [(2, .ref (G.b + (42 - c))), (1, .int r2), (0, .ref (G.b + 0))] d_X11_office_28 rfl (Nat.le_of_ble_eq_true rfl) rfl ?_
    refine tw_aload_n 2 d_X11_office_29 rfl rfl ?_
    refine tw_aload_n 2 d_X11_office_30 rfl rfl ?_
    refine tw_getR f_X11_19 hL_M3 s_0 ⟨rfl, rfl⟩ (rr_X11_1 s_0) d_X11_office_31 ?_
    refine tw_putRF f_X11_23 (hL_M3.lt s_0) s_0 (Or.inl rfl) ⟨rfl, rfl⟩ d_X11_office_34 (fun M5 e_M5 hn_M5 => ?_)
    replace h := h M5 e_M5
    refine tw_aload_n 2 d_X11_office_37 rfl rfl ?_
    refine tw_aload_n 0 d_X11_office_38 rfl rfl ?_
    refine tw_putRF f_X11_19 (by rw [hn_M5]; exact hL_M3.lt s_0) s_0 (Or.inl rfl) ⟨rfl, rfl⟩ d_X11_office_39 (fun M6 e_M6 hn_M6 => ?_)
    replace h := h M6 e_M6
    have hL_M6 : Lay (42 - c) M6 := lay_swap hL_M3 hc e_M5 e_M6
    have hc2 : 42 - c = 3 ∨ 42 - c = 39 := by omega
    refine tw_aload_n 2 d_X11_office_42 rfl rfl ?_
    refine tw_getR f_X11_29 hL_M6 s_0 ⟨rfl, rfl⟩ (rr_X11_3 s_0) d_X11_office_43 ?_
    refine tw_aload_n 2 d_X11_office_46 rfl rfl ?_
    refine tw_getR f_X11_19 hL_M6 s_0 ⟨rfl, rfl⟩ (rr_X11_1 s_0) d_X11_office_47 ?_
    refine tu_cVv (As := [.ref (G.b + (42 - c))]) cv_X11_94 hL_M6 s_75 rfl (Nat.le_of_ble_eq_true rfl) ⟨Nat.zero_le _, Nat.zero_le _⟩ d_X11_office_50 h (fun M7 h => ?_)
    have hL_M7 : Lay (42 - c) M7 := hL_M6.to h.1
    replace h := h.2
    refine tw_aload_n 2 d_X11_office_53 rfl rfl ?_
    refine tw_iconst d_X11_office_54 k_0 ?_
    refine tu_putI f_X11_37 hL_M7 s_0 rfl rfl d_X11_office_55 (fun M8 e_M8 hL_M8 => ?_)
    replace h := h M8 e_M8
    refine tw_iload_n 1 d_X11_office_58 rfl rfl ?_
    exact tw_iret rfl ⟨Nat.zero_le _, Nat.zero_le _⟩ d_X11_office_59 h
