/-! ===== the law's entry ===== -/
theorem inGd {w : Cond} (h : (decide (w ∈ tables_1) && goodWord w) = true) : w ∈ lw_good := by
  simp only [Bool.and_eq_true, decide_eq_true_eq] at h
  exact List.mem_filter.mpr ⟨List.mem_append_right _ h.1, h.2⟩
theorem n_L_8 : nOK RL 8 11 := ⟨RX11, TX11, 12, rfl, rfl, ⟨inGd (by decide +kernel), inGd (by decide +kernel), inGd (by decide +kernel)⟩, inG11, tyX11_ok, by decide⟩
theorem n_L_24 : nOK RL 24 12 := ⟨RX12, TX12, 32, rfl, rfl, ⟨inGd (by decide +kernel), inGd (by decide +kernel), inGd (by decide +kernel)⟩, inG12, tyX12_ok, by decide⟩
theorem ci_X11 : ciOK 0 YI_X11 := ⟨⟨inGd (by decide +kernel), inGd (by decide +kernel), inGd (by decide +kernel)⟩, ⟨by decide +kernel, by decide +kernel⟩, by decide +kernel, by decide, rfl, rfl⟩
theorem ci_X12 : ciOK 0 YI_X12 := ⟨⟨inGd (by decide +kernel), inGd (by decide +kernel), inGd (by decide +kernel)⟩, ⟨by decide +kernel, by decide +kernel⟩, by decide +kernel, by decide, rfl, rfl⟩
theorem ml_L_23 : Cond.methodLink RL 23 YI_X11.y ∈ lw_good := inGd (by decide +kernel)
theorem ml_L_26 : Cond.methodLink RL 26 YI_X12.y ∈ lw_good := inGd (by decide +kernel)
theorem ac_J : Cond.arrayClass .long ∈ lw_good := inGd (by decide +kernel)
/-- what the constructors want of the world -/
def Ini (G : MG) : Prop := (∀ U, G.X U → ∀ A : Array Value, (Cond.arrayOver (.array .int)).before A U = true) ∧ (∀ U, G.X U → va_AO "CopyArms$Arm" U) ∧ (∀ U, G.X U → va_AO "CopyArms$Chart" U) ∧ (∀ U, G.X U → va_AO "CopyArms$Setting" U) ∧ (∀ U, G.X U → va_Nw (.methodLinkNest RX11 28 YI_X7.y "CopyArms") U) ∧ (∀ U, G.X U → va_Nw (.methodLinkNest RX11 43 YI_X9.y "CopyArms") U) ∧ (∀ U, G.X U → va_Nw (.methodLinkNest RX11 50 YI_X8.y "CopyArms") U) ∧ (∀ U, G.X U → va_Nw (.methodLinkNest RX11 57 YI_X6.y "CopyArms") U) ∧ (∀ U, G.X U → va_Nw (.methodLinkNest RX11 64 YI_X4.y "CopyArms") U) ∧ (∀ U, G.X U → va_Nw (.methodLinkNest RX11 71 YI_X3.y "CopyArms") U) ∧ (∀ U, G.X U → va_Nw (.methodLinkNest RX11 78 YI_X0.y "CopyArms") U) ∧ (∀ U, G.X U → va_Nw (.methodLinkNest RX11 9 YI_X10.y "CopyArms") U) ∧ (∀ U, G.X U → va_Nw (.methodLinkNest RX5 23 YI_X1.y "CopyArms") U) ∧ (∀ U, G.X U → va_Nw (.methodLinkNest RX5 24 YI_X2.y "CopyArms") U) ∧ (∀ U, G.X U → va_Nw (.methodLinkNest RX6 17 YI_X8.y "CopyArms") U)
set_option maxRecDepth 100000 in
theorem law_all {G : MG} {sb sL : Nat} {xs : Nat → Int32} (hG : Wld G) (hi : Ini G) (hscr : ∀ U, G.X U → va_X sb sL xs U U.heap) (hsb : sb < G.b) (hsL : sL ≤ 3584) : C G Y_L_law 21 [.ref sb] M00 (Ri fun r _ => r = 1) := by
  obtain ⟨i1, i2, i3, i4, i5, i6, i7, i8, i9, i10, i11, i12, i13, i14, i15⟩ := hi
  refine C.of (by decide) (Nat.le_of_ble_eq_true rfl) (lv := [(0, .ref sb)]) rfl ?_
  refine tw_new n_L_8 (n := 0) rfl s_0 ⟨by decide, by decide⟩ d_L_law_0 (fun M1 e1 hn1 => ?_)
  refine tw_dup d_L_law_3 rfl ?_
  refine tw_callI (Z := YI_X11) (As := []) (Q' := fun N => N = ri_X11_0 M1 ∧ N.2.2.2 = 147) ci_X11 ml_L_23 rfl (Nat.le_of_ble_eq_true rfl) ⟨by decide, by decide⟩ d_L_law_4 (C.mono (bi_X11_0 (d := 0) hn1 i1 i2 i3 i4 i5 i6 i7 i8 i9 i10 i11 i12 i13 i14 i15 (fun hf => ⟨rfl, hf⟩)) (by decide)) (fun M2 he2 => ?_)
  obtain ⟨e2, hn2⟩ := he2
  refine tw_astore_n [(1, .ref (G.b + 0)), (0, .ref sb)] d_L_law_7 rfl (by decide) rfl ?_
  refine tw_new n_L_24 hn2 s_147 ⟨by decide, by decide⟩ d_L_law_8 (fun M3 e3 hn3 => ?_)
  refine tw_dup d_L_law_11 rfl ?_
  refine tw_callI (Z := YI_X12) (As := []) (Q' := fun N => N = ri_X12_147 M3 ∧ N.2.2.2 = 161) ci_X12 ml_L_26 rfl (Nat.le_of_ble_eq_true rfl) ⟨by decide, by decide⟩ d_L_law_12 (C.mono (bi_X12_147 (d := 0) hn3 (fun hf => ⟨rfl, hf⟩)) (by decide)) (fun M4 he4 => ?_)
  obtain ⟨e4, hn4⟩ := he4
  refine tw_astore_n [(2, .ref (G.b + 147)), (1, .ref (G.b + 0)), (0, .ref sb)] d_L_law_15 rfl (by decide) rfl ?_
  refine tw_iconst (v := 1) d_L_law_16 rfl ?_
  refine tw_newa (ty := .long) (t := 1) (N := 1) rfl ⟨by decide, rfl, by simp, fun M' => na_1 G M' 1⟩ ac_J hn4 s_161 (by decide) ⟨by decide, by decide⟩ d_L_law_17 (fun M5 e5 hn5 => ?_)
  refine tw_astore_n [(3, .ref (G.b + 161)), (2, .ref (G.b + 147)), (1, .ref (G.b + 0)), (0, .ref sb)] d_L_law_19 rfl (by decide) rfl ?_
  refine tw_iconst (v := 0) d_L_law_20 rfl ?_
  refine tw_istore [(4, .int 0), (3, .ref (G.b + 161)), (2, .ref (G.b + 147)), (1, .ref (G.b + 0)), (0, .ref sb)] d_L_law_21 (by decide) rfl ?_
  have hM : M5 = Mb := by rw [e5, e4, e3, e2, e1]; rfl
  rw [hM]
  refine T.canon ?_
  have h := law_loop (d := 20) (Q := fun r _ => r = 1) (by decide) hG hscr hsb hsL (fun _ => rfl) 600 0 _ _ 3 Mc rfl (by omega) (show 0 + 1 + YI_X11.mc + 1 + YI_X12.mc + 1 ≤ 1000 + 0 by decide) (show 0 + nfc 11 + YI_X11.ms + nfc 12 + YI_X12.ms + 1 ≤ 100000 + 6 * 0 by decide) inv_Mc
  unfold L_L_law_23 at h
  exact tw_lv [4, 3, 2, 1, 0] rfl h
