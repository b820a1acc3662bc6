section
variable {G : MG} {Y Z : MY} {d : Nat} {Q : Option Value → Mm → Prop} {ce sl pc : Nat} {lv : List (Nat × Value)} {st : List Value} {M : Mm}
theorem tw_sld {sb sL : Nat} {xs : Nat → Int32} {i : Int32} (hX : ∀ U, G.X U → va_X sb sL xs U U.heap) (hsb : sb < G.b) (hd : decode Y.cc pc = .ok (.iaload, 1)) (hin : vp_in i sL) (kk : T G Y d Q ce sl (pc + 1) lv (.int (xs i.toNatClampNeg) :: st) M) : T G Y d Q ce sl pc lv (.int i :: .ref sb :: st) M := by
  intro p e s m args below meth cd H locs ls X hR hS hl
  obtain ⟨hx, hb, -, -, -, -, -, hK, -, hbs, -⟩ := id X
  exact va_sld hx hb (hX s hK.2.1) (Nat.lt_of_lt_of_le hsb hbs) (Nat.not_le.mpr hsb) hS hin hd (kk p e s m args below meth cd H locs ls X hR hS hl)
theorem tw_slen {sb sL : Nat} {xs : Nat → Int32} (hX : ∀ U, G.X U → va_X sb sL xs U U.heap) (hsb : sb < G.b) (hd : decode Y.cc pc = .ok (.arraylength, 1)) (kk : T G Y d Q ce sl (pc + 1) lv (.int (Int32.ofNat sL) :: st) M) : T G Y d Q ce sl pc lv (.ref sb :: st) M := by
  intro p e s m args below meth cd H locs ls X hR hS hl
  obtain ⟨hx, hb, -, -, -, -, -, hK, -, hbs, -⟩ := id X
  exact va_slen hx hb (hX s hK.2.1) (Nat.lt_of_lt_of_le hsb hbs) (Nat.not_le.mpr hsb) hS hd (kk p e s m args below meth cd H locs ls X hR hS hl)
end
def Y_L_law : MY := (yL_law, cL_law, 8, some .boolean, 601024, 7293034, [])
theorem mg694 : Cond.methodLink RL 100 Y_X11_fitted.y ∈ lw_good := List.mem_filter.mpr ⟨List.mem_append_right _ (List.mem_of_getElem? (i := 694) (by decide +kernel)), by decide +kernel⟩
theorem mg697 : Cond.code Y_X11_fitted.y Y_X11_fitted.cc Y_X11_fitted.nL Y_X11_fitted.rt ∈ lw_good := List.mem_filter.mpr ⟨List.mem_append_right _ (List.mem_of_getElem? (i := 697) (by decide +kernel)), by decide +kernel⟩
theorem mg695 : Cond.instanceMethod Y_X11_fitted.y ∈ lw_good := List.mem_filter.mpr ⟨List.mem_append_right _ (List.mem_of_getElem? (i := 695) (by decide +kernel)), by decide +kernel⟩
theorem mg696 : Cond.selects RX11 yX11_fitted yX11_fitted ∈ lw_good := List.mem_filter.mpr ⟨List.mem_append_right _ (List.mem_of_getElem? (i := 696) (by decide +kernel)), by decide +kernel⟩
theorem cv_L_100 : cvOK RL 100 11 3 Y_X11_fitted := ⟨RX11, TX11, 12, rfl, rfl, ⟨mg694, mg695, mg696, mg1, mg697⟩, ⟨by decide +kernel, by decide +kernel⟩, by decide +kernel, by decide, rfl, rfl⟩
theorem mg1297 : Cond.methodLink RL 104 Y_X12_fitted.y ∈ lw_good := List.mem_filter.mpr ⟨List.mem_append_right _ (List.mem_of_getElem? (i := 1297) (by decide +kernel)), by decide +kernel⟩
theorem mg1300 : Cond.code Y_X12_fitted.y Y_X12_fitted.cc Y_X12_fitted.nL Y_X12_fitted.rt ∈ lw_good := List.mem_filter.mpr ⟨List.mem_append_right _ (List.mem_of_getElem? (i := 1300) (by decide +kernel)), by decide +kernel⟩
theorem mg1298 : Cond.instanceMethod Y_X12_fitted.y ∈ lw_good := List.mem_filter.mpr ⟨List.mem_append_right _ (List.mem_of_getElem? (i := 1298) (by decide +kernel)), by decide +kernel⟩
theorem mg1299 : Cond.selects RX12 yX12_fitted yX12_fitted ∈ lw_good := List.mem_filter.mpr ⟨List.mem_append_right _ (List.mem_of_getElem? (i := 1299) (by decide +kernel)), by decide +kernel⟩
theorem cv_L_104 : cvOK RL 104 12 3 Y_X12_fitted := ⟨RX12, TX12, 32, rfl, rfl, ⟨mg1297, mg1298, mg1299, mg13, mg1300⟩, ⟨by decide +kernel, by decide +kernel⟩, by decide +kernel, by decide, rfl, rfl⟩
theorem mg719 : Cond.methodLink RL 105 Y_X11_see.y ∈ lw_good := List.mem_filter.mpr ⟨List.mem_append_right _ (List.mem_of_getElem? (i := 719) (by decide +kernel)), by decide +kernel⟩
theorem mg722 : Cond.code Y_X11_see.y Y_X11_see.cc Y_X11_see.nL Y_X11_see.rt ∈ lw_good := List.mem_filter.mpr ⟨List.mem_append_right _ (List.mem_of_getElem? (i := 722) (by decide +kernel)), by decide +kernel⟩
theorem mg720 : Cond.instanceMethod Y_X11_see.y ∈ lw_good := List.mem_filter.mpr ⟨List.mem_append_right _ (List.mem_of_getElem? (i := 720) (by decide +kernel)), by decide +kernel⟩
theorem mg721 : Cond.selects RX11 yX11_see yX11_see ∈ lw_good := List.mem_filter.mpr ⟨List.mem_append_right _ (List.mem_of_getElem? (i := 721) (by decide +kernel)), by decide +kernel⟩
theorem cv_L_105 : cvOK RL 105 11 3 Y_X11_see := ⟨RX11, TX11, 12, rfl, rfl, ⟨mg719, mg720, mg721, mg1, mg722⟩, ⟨by decide +kernel, by decide +kernel⟩, by decide +kernel, by decide, rfl, rfl⟩
theorem mg1305 : Cond.methodLink RL 108 Y_X12_see.y ∈ lw_good := List.mem_filter.mpr ⟨List.mem_append_right _ (List.mem_of_getElem? (i := 1305) (by decide +kernel)), by decide +kernel⟩
theorem mg1308 : Cond.code Y_X12_see.y Y_X12_see.cc Y_X12_see.nL Y_X12_see.rt ∈ lw_good := List.mem_filter.mpr ⟨List.mem_append_right _ (List.mem_of_getElem? (i := 1308) (by decide +kernel)), by decide +kernel⟩
theorem mg1306 : Cond.instanceMethod Y_X12_see.y ∈ lw_good := List.mem_filter.mpr ⟨List.mem_append_right _ (List.mem_of_getElem? (i := 1306) (by decide +kernel)), by decide +kernel⟩
theorem mg1307 : Cond.selects RX12 yX12_see yX12_see ∈ lw_good := List.mem_filter.mpr ⟨List.mem_append_right _ (List.mem_of_getElem? (i := 1307) (by decide +kernel)), by decide +kernel⟩
theorem cv_L_108 : cvOK RL 108 12 3 Y_X12_see := ⟨RX12, TX12, 32, rfl, rfl, ⟨mg1305, mg1306, mg1307, mg13, mg1308⟩, ⟨by decide +kernel, by decide +kernel⟩, by decide +kernel, by decide, rfl, rfl⟩
theorem mg723 : Cond.methodLink RL 109 Y_X11_clear.y ∈ lw_good := List.mem_filter.mpr ⟨List.mem_append_right _ (List.mem_of_getElem? (i := 723) (by decide +kernel)), by decide +kernel⟩
theorem mg726 : Cond.code Y_X11_clear.y Y_X11_clear.cc Y_X11_clear.nL Y_X11_clear.rt ∈ lw_good := List.mem_filter.mpr ⟨List.mem_append_right _ (List.mem_of_getElem? (i := 726) (by decide +kernel)), by decide +kernel⟩
theorem mg724 : Cond.instanceMethod Y_X11_clear.y ∈ lw_good := List.mem_filter.mpr ⟨List.mem_append_right _ (List.mem_of_getElem? (i := 724) (by decide +kernel)), by decide +kernel⟩
theorem mg725 : Cond.selects RX11 yX11_clear yX11_clear ∈ lw_good := List.mem_filter.mpr ⟨List.mem_append_right _ (List.mem_of_getElem? (i := 725) (by decide +kernel)), by decide +kernel⟩
theorem cv_L_109 : cvOK RL 109 11 0 Y_X11_clear := ⟨RX11, TX11, 12, rfl, rfl, ⟨mg723, mg724, mg725, mg1, mg726⟩, ⟨by decide +kernel, by decide +kernel⟩, by decide +kernel, by decide, rfl, rfl⟩
theorem mg1309 : Cond.methodLink RL 113 Y_X12_clear.y ∈ lw_good := List.mem_filter.mpr ⟨List.mem_append_right _ (List.mem_of_getElem? (i := 1309) (by decide +kernel)), by decide +kernel⟩
theorem mg1312 : Cond.code Y_X12_clear.y Y_X12_clear.cc Y_X12_clear.nL Y_X12_clear.rt ∈ lw_good := List.mem_filter.mpr ⟨List.mem_append_right _ (List.mem_of_getElem? (i := 1312) (by decide +kernel)), by decide +kernel⟩
theorem mg1310 : Cond.instanceMethod Y_X12_clear.y ∈ lw_good := List.mem_filter.mpr ⟨List.mem_append_right _ (List.mem_of_getElem? (i := 1310) (by decide +kernel)), by decide +kernel⟩
theorem mg1311 : Cond.selects RX12 yX12_clear yX12_clear ∈ lw_good := List.mem_filter.mpr ⟨List.mem_append_right _ (List.mem_of_getElem? (i := 1311) (by decide +kernel)), by decide +kernel⟩
theorem cv_L_113 : cvOK RL 113 12 0 Y_X12_clear := ⟨RX12, TX12, 32, rfl, rfl, ⟨mg1309, mg1310, mg1311, mg13, mg1312⟩, ⟨by decide +kernel, by decide +kernel⟩, by decide +kernel, by decide, rfl, rfl⟩
theorem mg727 : Cond.methodLink RL 114 Y_X11_suspects.y ∈ lw_good := List.mem_filter.mpr ⟨List.mem_append_right _ (List.mem_of_getElem? (i := 727) (by decide +kernel)), by decide +kernel⟩
theorem mg730 : Cond.code Y_X11_suspects.y Y_X11_suspects.cc Y_X11_suspects.nL Y_X11_suspects.rt ∈ lw_good := List.mem_filter.mpr ⟨List.mem_append_right _ (List.mem_of_getElem? (i := 730) (by decide +kernel)), by decide +kernel⟩
theorem mg728 : Cond.instanceMethod Y_X11_suspects.y ∈ lw_good := List.mem_filter.mpr ⟨List.mem_append_right _ (List.mem_of_getElem? (i := 728) (by decide +kernel)), by decide +kernel⟩
theorem mg729 : Cond.selects RX11 yX11_suspects yX11_suspects ∈ lw_good := List.mem_filter.mpr ⟨List.mem_append_right _ (List.mem_of_getElem? (i := 729) (by decide +kernel)), by decide +kernel⟩
theorem cv_L_114 : cvOK RL 114 11 0 Y_X11_suspects := ⟨RX11, TX11, 12, rfl, rfl, ⟨mg727, mg728, mg729, mg1, mg730⟩, ⟨by decide +kernel, by decide +kernel⟩, by decide +kernel, by decide, rfl, rfl⟩
theorem mg1313 : Cond.methodLink RL 117 Y_X12_suspects.y ∈ lw_good := List.mem_filter.mpr ⟨List.mem_append_right _ (List.mem_of_getElem? (i := 1313) (by decide +kernel)), by decide +kernel⟩
theorem mg1316 : Cond.code Y_X12_suspects.y Y_X12_suspects.cc Y_X12_suspects.nL Y_X12_suspects.rt ∈ lw_good := List.mem_filter.mpr ⟨List.mem_append_right _ (List.mem_of_getElem? (i := 1316) (by decide +kernel)), by decide +kernel⟩
theorem mg1314 : Cond.instanceMethod Y_X12_suspects.y ∈ lw_good := List.mem_filter.mpr ⟨List.mem_append_right _ (List.mem_of_getElem? (i := 1314) (by decide +kernel)), by decide +kernel⟩
theorem mg1315 : Cond.selects RX12 yX12_suspects yX12_suspects ∈ lw_good := List.mem_filter.mpr ⟨List.mem_append_right _ (List.mem_of_getElem? (i := 1315) (by decide +kernel)), by decide +kernel⟩
theorem cv_L_117 : cvOK RL 117 12 0 Y_X12_suspects := ⟨RX12, TX12, 32, rfl, rfl, ⟨mg1313, mg1314, mg1315, mg13, mg1316⟩, ⟨by decide +kernel, by decide +kernel⟩, by decide +kernel, by decide, rfl, rfl⟩
theorem mg1329 : Cond.methodLink RL 121 Y_X12_crooked.y ∈ lw_good := List.mem_filter.mpr ⟨List.mem_append_right _ (List.mem_of_getElem? (i := 1329) (by decide +kernel)), by decide +kernel⟩
theorem mg1332 : Cond.code Y_X12_crooked.y Y_X12_crooked.cc Y_X12_crooked.nL Y_X12_crooked.rt ∈ lw_good := List.mem_filter.mpr ⟨List.mem_append_right _ (List.mem_of_getElem? (i := 1332) (by decide +kernel)), by decide +kernel⟩
theorem mg1330 : Cond.instanceMethod Y_X12_crooked.y ∈ lw_good := List.mem_filter.mpr ⟨List.mem_append_right _ (List.mem_of_getElem? (i := 1330) (by decide +kernel)), by decide +kernel⟩
theorem mg1331 : Cond.selects RX12 yX12_crooked yX12_crooked ∈ lw_good := List.mem_filter.mpr ⟨List.mem_append_right _ (List.mem_of_getElem? (i := 1331) (by decide +kernel)), by decide +kernel⟩
theorem cv_L_121 : cvOK RL 121 12 1 Y_X12_crooked := ⟨RX12, TX12, 32, rfl, rfl, ⟨mg1329, mg1330, mg1331, mg13, mg1332⟩, ⟨by decide +kernel, by decide +kernel⟩, by decide +kernel, by decide, rfl, rfl⟩
theorem mg747 : Cond.methodLink RL 122 Y_X11_shakes.y ∈ lw_good := List.mem_filter.mpr ⟨List.mem_append_right _ (List.mem_of_getElem? (i := 747) (by decide +kernel)), by decide +kernel⟩
theorem mg750 : Cond.code Y_X11_shakes.y Y_X11_shakes.cc Y_X11_shakes.nL Y_X11_shakes.rt ∈ lw_good := List.mem_filter.mpr ⟨List.mem_append_right _ (List.mem_of_getElem? (i := 750) (by decide +kernel)), by decide +kernel⟩
theorem mg748 : Cond.instanceMethod Y_X11_shakes.y ∈ lw_good := List.mem_filter.mpr ⟨List.mem_append_right _ (List.mem_of_getElem? (i := 748) (by decide +kernel)), by decide +kernel⟩
theorem mg749 : Cond.selects RX11 yX11_shakes yX11_shakes ∈ lw_good := List.mem_filter.mpr ⟨List.mem_append_right _ (List.mem_of_getElem? (i := 749) (by decide +kernel)), by decide +kernel⟩
theorem cv_L_122 : cvOK RL 122 11 1 Y_X11_shakes := ⟨RX11, TX11, 12, rfl, rfl, ⟨mg747, mg748, mg749, mg1, mg750⟩, ⟨by decide +kernel, by decide +kernel⟩, by decide +kernel, by decide, rfl, rfl⟩
theorem mg1333 : Cond.methodLink RL 126 Y_X12_shakes.y ∈ lw_good := List.mem_filter.mpr ⟨List.mem_append_right _ (List.mem_of_getElem? (i := 1333) (by decide +kernel)), by decide +kernel⟩
theorem mg1336 : Cond.code Y_X12_shakes.y Y_X12_shakes.cc Y_X12_shakes.nL Y_X12_shakes.rt ∈ lw_good := List.mem_filter.mpr ⟨List.mem_append_right _ (List.mem_of_getElem? (i := 1336) (by decide +kernel)), by decide +kernel⟩
theorem mg1334 : Cond.instanceMethod Y_X12_shakes.y ∈ lw_good := List.mem_filter.mpr ⟨List.mem_append_right _ (List.mem_of_getElem? (i := 1334) (by decide +kernel)), by decide +kernel⟩
theorem mg1335 : Cond.selects RX12 yX12_shakes yX12_shakes ∈ lw_good := List.mem_filter.mpr ⟨List.mem_append_right _ (List.mem_of_getElem? (i := 1335) (by decide +kernel)), by decide +kernel⟩
theorem cv_L_126 : cvOK RL 126 12 1 Y_X12_shakes := ⟨RX12, TX12, 32, rfl, rfl, ⟨mg1333, mg1334, mg1335, mg13, mg1336⟩, ⟨by decide +kernel, by decide +kernel⟩, by decide +kernel, by decide, rfl, rfl⟩
theorem mg765 : Cond.methodLink RL 127 Y_X11_steadiest.y ∈ lw_good := List.mem_filter.mpr ⟨List.mem_append_right _ (List.mem_of_getElem? (i := 765) (by decide +kernel)), by decide +kernel⟩
theorem mg768 : Cond.code Y_X11_steadiest.y Y_X11_steadiest.cc Y_X11_steadiest.nL Y_X11_steadiest.rt ∈ lw_good := List.mem_filter.mpr ⟨List.mem_append_right _ (List.mem_of_getElem? (i := 768) (by decide +kernel)), by decide +kernel⟩
theorem mg766 : Cond.instanceMethod Y_X11_steadiest.y ∈ lw_good := List.mem_filter.mpr ⟨List.mem_append_right _ (List.mem_of_getElem? (i := 766) (by decide +kernel)), by decide +kernel⟩
theorem mg767 : Cond.selects RX11 yX11_steadiest yX11_steadiest ∈ lw_good := List.mem_filter.mpr ⟨List.mem_append_right _ (List.mem_of_getElem? (i := 767) (by decide +kernel)), by decide +kernel⟩
theorem cv_L_127 : cvOK RL 127 11 1 Y_X11_steadiest := ⟨RX11, TX11, 12, rfl, rfl, ⟨mg765, mg766, mg767, mg1, mg768⟩, ⟨by decide +kernel, by decide +kernel⟩, by decide +kernel, by decide, rfl, rfl⟩
theorem mg1342 : Cond.methodLink RL 130 Y_X12_steadiest.y ∈ lw_good := List.mem_filter.mpr ⟨List.mem_append_right _ (List.mem_of_getElem? (i := 1342) (by decide +kernel)), by decide +kernel⟩
theorem mg1345 : Cond.code Y_X12_steadiest.y Y_X12_steadiest.cc Y_X12_steadiest.nL Y_X12_steadiest.rt ∈ lw_good := List.mem_filter.mpr ⟨List.mem_append_right _ (List.mem_of_getElem? (i := 1345) (by decide +kernel)), by decide +kernel⟩
theorem mg1343 : Cond.instanceMethod Y_X12_steadiest.y ∈ lw_good := List.mem_filter.mpr ⟨List.mem_append_right _ (List.mem_of_getElem? (i := 1343) (by decide +kernel)), by decide +kernel⟩
theorem mg1344 : Cond.selects RX12 yX12_steadiest yX12_steadiest ∈ lw_good := List.mem_filter.mpr ⟨List.mem_append_right _ (List.mem_of_getElem? (i := 1344) (by decide +kernel)), by decide +kernel⟩
theorem cv_L_130 : cvOK RL 130 12 1 Y_X12_steadiest := ⟨RX12, TX12, 32, rfl, rfl, ⟨mg1342, mg1343, mg1344, mg13, mg1345⟩, ⟨by decide +kernel, by decide +kernel⟩, by decide +kernel, by decide, rfl, rfl⟩
theorem mg795 : Cond.methodLink RL 131 Y_X11_sheets.y ∈ lw_good := List.mem_filter.mpr ⟨List.mem_append_right _ (List.mem_of_getElem? (i := 795) (by decide +kernel)), by decide +kernel⟩
theorem mg798 : Cond.code Y_X11_sheets.y Y_X11_sheets.cc Y_X11_sheets.nL Y_X11_sheets.rt ∈ lw_good := List.mem_filter.mpr ⟨List.mem_append_right _ (List.mem_of_getElem? (i := 798) (by decide +kernel)), by decide +kernel⟩
theorem mg796 : Cond.instanceMethod Y_X11_sheets.y ∈ lw_good := List.mem_filter.mpr ⟨List.mem_append_right _ (List.mem_of_getElem? (i := 796) (by decide +kernel)), by decide +kernel⟩
theorem mg797 : Cond.selects RX11 yX11_sheets yX11_sheets ∈ lw_good := List.mem_filter.mpr ⟨List.mem_append_right _ (List.mem_of_getElem? (i := 797) (by decide +kernel)), by decide +kernel⟩
theorem cv_L_131 : cvOK RL 131 11 2 Y_X11_sheets := ⟨RX11, TX11, 12, rfl, rfl, ⟨mg795, mg796, mg797, mg1, mg798⟩, ⟨by decide +kernel, by decide +kernel⟩, by decide +kernel, by decide, rfl, rfl⟩
theorem mg1354 : Cond.methodLink RL 134 Y_X12_sheets.y ∈ lw_good := List.mem_filter.mpr ⟨List.mem_append_right _ (List.mem_of_getElem? (i := 1354) (by decide +kernel)), by decide +kernel⟩
theorem mg1357 : Cond.code Y_X12_sheets.y Y_X12_sheets.cc Y_X12_sheets.nL Y_X12_sheets.rt ∈ lw_good := List.mem_filter.mpr ⟨List.mem_append_right _ (List.mem_of_getElem? (i := 1357) (by decide +kernel)), by decide +kernel⟩
theorem mg1355 : Cond.instanceMethod Y_X12_sheets.y ∈ lw_good := List.mem_filter.mpr ⟨List.mem_append_right _ (List.mem_of_getElem? (i := 1355) (by decide +kernel)), by decide +kernel⟩
theorem mg1356 : Cond.selects RX12 yX12_sheets yX12_sheets ∈ lw_good := List.mem_filter.mpr ⟨List.mem_append_right _ (List.mem_of_getElem? (i := 1356) (by decide +kernel)), by decide +kernel⟩
theorem cv_L_134 : cvOK RL 134 12 2 Y_X12_sheets := ⟨RX12, TX12, 32, rfl, rfl, ⟨mg1354, mg1355, mg1356, mg13, mg1357⟩, ⟨by decide +kernel, by decide +kernel⟩, by decide +kernel, by decide, rfl, rfl⟩
theorem mg816 : Cond.methodLink RL 135 Y_X11_descent.y ∈ lw_good := List.mem_filter.mpr ⟨List.mem_append_right _ (List.mem_of_getElem? (i := 816) (by decide +kernel)), by decide +kernel⟩
theorem mg819 : Cond.code Y_X11_descent.y Y_X11_descent.cc Y_X11_descent.nL Y_X11_descent.rt ∈ lw_good := List.mem_filter.mpr ⟨List.mem_append_right _ (List.mem_of_getElem? (i := 819) (by decide +kernel)), by decide +kernel⟩
theorem mg817 : Cond.instanceMethod Y_X11_descent.y ∈ lw_good := List.mem_filter.mpr ⟨List.mem_append_right _ (List.mem_of_getElem? (i := 817) (by decide +kernel)), by decide +kernel⟩
theorem mg818 : Cond.selects RX11 yX11_descent yX11_descent ∈ lw_good := List.mem_filter.mpr ⟨List.mem_append_right _ (List.mem_of_getElem? (i := 818) (by decide +kernel)), by decide +kernel⟩
theorem cv_L_135 : cvOK RL 135 11 1 Y_X11_descent := ⟨RX11, TX11, 12, rfl, rfl, ⟨mg816, mg817, mg818, mg1, mg819⟩, ⟨by decide +kernel, by decide +kernel⟩, by decide +kernel, by decide, rfl, rfl⟩
theorem mg1363 : Cond.methodLink RL 138 Y_X12_descent.y ∈ lw_good := List.mem_filter.mpr ⟨List.mem_append_right _ (List.mem_of_getElem? (i := 1363) (by decide +kernel)), by decide +kernel⟩
theorem mg1366 : Cond.code Y_X12_descent.y Y_X12_descent.cc Y_X12_descent.nL Y_X12_descent.rt ∈ lw_good := List.mem_filter.mpr ⟨List.mem_append_right _ (List.mem_of_getElem? (i := 1366) (by decide +kernel)), by decide +kernel⟩
theorem mg1364 : Cond.instanceMethod Y_X12_descent.y ∈ lw_good := List.mem_filter.mpr ⟨List.mem_append_right _ (List.mem_of_getElem? (i := 1364) (by decide +kernel)), by decide +kernel⟩
theorem mg1365 : Cond.selects RX12 yX12_descent yX12_descent ∈ lw_good := List.mem_filter.mpr ⟨List.mem_append_right _ (List.mem_of_getElem? (i := 1365) (by decide +kernel)), by decide +kernel⟩
theorem cv_L_138 : cvOK RL 138 12 1 Y_X12_descent := ⟨RX12, TX12, 32, rfl, rfl, ⟨mg1363, mg1364, mg1365, mg13, mg1366⟩, ⟨by decide +kernel, by decide +kernel⟩, by decide +kernel, by decide, rfl, rfl⟩
theorem mg854 : Cond.methodLink RL 139 Y_X11_mark.y ∈ lw_good := List.mem_filter.mpr ⟨List.mem_append_right _ (List.mem_of_getElem? (i := 854) (by decide +kernel)), by decide +kernel⟩
theorem mg857 : Cond.code Y_X11_mark.y Y_X11_mark.cc Y_X11_mark.nL Y_X11_mark.rt ∈ lw_good := List.mem_filter.mpr ⟨List.mem_append_right _ (List.mem_of_getElem? (i := 857) (by decide +kernel)), by decide +kernel⟩
theorem mg855 : Cond.instanceMethod Y_X11_mark.y ∈ lw_good := List.mem_filter.mpr ⟨List.mem_append_right _ (List.mem_of_getElem? (i := 855) (by decide +kernel)), by decide +kernel⟩
theorem mg856 : Cond.selects RX11 yX11_mark yX11_mark ∈ lw_good := List.mem_filter.mpr ⟨List.mem_append_right _ (List.mem_of_getElem? (i := 856) (by decide +kernel)), by decide +kernel⟩
theorem cv_L_139 : cvOK RL 139 11 2 Y_X11_mark := ⟨RX11, TX11, 12, rfl, rfl, ⟨mg854, mg855, mg856, mg1, mg857⟩, ⟨by decide +kernel, by decide +kernel⟩, by decide +kernel, by decide, rfl, rfl⟩
theorem mg1383 : Cond.methodLink RL 143 Y_X12_mark.y ∈ lw_good := List.mem_filter.mpr ⟨List.mem_append_right _ (List.mem_of_getElem? (i := 1383) (by decide +kernel)), by decide +kernel⟩
theorem mg1386 : Cond.code Y_X12_mark.y Y_X12_mark.cc Y_X12_mark.nL Y_X12_mark.rt ∈ lw_good := List.mem_filter.mpr ⟨List.mem_append_right _ (List.mem_of_getElem? (i := 1386) (by decide +kernel)), by decide +kernel⟩
theorem mg1384 : Cond.instanceMethod Y_X12_mark.y ∈ lw_good := List.mem_filter.mpr ⟨List.mem_append_right _ (List.mem_of_getElem? (i := 1384) (by decide +kernel)), by decide +kernel⟩
theorem mg1385 : Cond.selects RX12 yX12_mark yX12_mark ∈ lw_good := List.mem_filter.mpr ⟨List.mem_append_right _ (List.mem_of_getElem? (i := 1385) (by decide +kernel)), by decide +kernel⟩
theorem cv_L_143 : cvOK RL 143 12 2 Y_X12_mark := ⟨RX12, TX12, 32, rfl, rfl, ⟨mg1383, mg1384, mg1385, mg13, mg1386⟩, ⟨by decide +kernel, by decide +kernel⟩, by decide +kernel, by decide, rfl, rfl⟩
theorem mg862 : Cond.methodLink RL 144 Y_X11_count.y ∈ lw_good := List.mem_filter.mpr ⟨List.mem_append_right _ (List.mem_of_getElem? (i := 862) (by decide +kernel)), by decide +kernel⟩
theorem mg865 : Cond.code Y_X11_count.y Y_X11_count.cc Y_X11_count.nL Y_X11_count.rt ∈ lw_good := List.mem_filter.mpr ⟨List.mem_append_right _ (List.mem_of_getElem? (i := 865) (by decide +kernel)), by decide +kernel⟩
theorem mg863 : Cond.instanceMethod Y_X11_count.y ∈ lw_good := List.mem_filter.mpr ⟨List.mem_append_right _ (List.mem_of_getElem? (i := 863) (by decide +kernel)), by decide +kernel⟩
theorem mg864 : Cond.selects RX11 yX11_count yX11_count ∈ lw_good := List.mem_filter.mpr ⟨List.mem_append_right _ (List.mem_of_getElem? (i := 864) (by decide +kernel)), by decide +kernel⟩
theorem cv_L_144 : cvOK RL 144 11 1 Y_X11_count := ⟨RX11, TX11, 12, rfl, rfl, ⟨mg862, mg863, mg864, mg1, mg865⟩, ⟨by decide +kernel, by decide +kernel⟩, by decide +kernel, by decide, rfl, rfl⟩
theorem mg1387 : Cond.methodLink RL 147 Y_X12_count.y ∈ lw_good := List.mem_filter.mpr ⟨List.mem_append_right _ (List.mem_of_getElem? (i := 1387) (by decide +kernel)), by decide +kernel⟩
theorem mg1390 : Cond.code Y_X12_count.y Y_X12_count.cc Y_X12_count.nL Y_X12_count.rt ∈ lw_good := List.mem_filter.mpr ⟨List.mem_append_right _ (List.mem_of_getElem? (i := 1390) (by decide +kernel)), by decide +kernel⟩
theorem mg1388 : Cond.instanceMethod Y_X12_count.y ∈ lw_good := List.mem_filter.mpr ⟨List.mem_append_right _ (List.mem_of_getElem? (i := 1388) (by decide +kernel)), by decide +kernel⟩
theorem mg1389 : Cond.selects RX12 yX12_count yX12_count ∈ lw_good := List.mem_filter.mpr ⟨List.mem_append_right _ (List.mem_of_getElem? (i := 1389) (by decide +kernel)), by decide +kernel⟩
theorem cv_L_147 : cvOK RL 147 12 1 Y_X12_count := ⟨RX12, TX12, 32, rfl, rfl, ⟨mg1387, mg1388, mg1389, mg13, mg1390⟩, ⟨by decide +kernel, by decide +kernel⟩, by decide +kernel, by decide, rfl, rfl⟩
theorem mg408 : Cond.methodLink RL 29 Y_X11_feed.y ∈ lw_good := List.mem_filter.mpr ⟨List.mem_append_right _ (List.mem_of_getElem? (i := 408) (by decide +kernel)), by decide +kernel⟩
theorem mg411 : Cond.code Y_X11_feed.y Y_X11_feed.cc Y_X11_feed.nL Y_X11_feed.rt ∈ lw_good := List.mem_filter.mpr ⟨List.mem_append_right _ (List.mem_of_getElem? (i := 411) (by decide +kernel)), by decide +kernel⟩
theorem mg409 : Cond.instanceMethod Y_X11_feed.y ∈ lw_good := List.mem_filter.mpr ⟨List.mem_append_right _ (List.mem_of_getElem? (i := 409) (by decide +kernel)), by decide +kernel⟩
theorem mg410 : Cond.selects RX11 yX11_feed yX11_feed ∈ lw_good := List.mem_filter.mpr ⟨List.mem_append_right _ (List.mem_of_getElem? (i := 410) (by decide +kernel)), by decide +kernel⟩
theorem cv_L_29 : cvOK RL 29 11 3 Y_X11_feed := ⟨RX11, TX11, 12, rfl, rfl, ⟨mg408, mg409, mg410, mg1, mg411⟩, ⟨by decide +kernel, by decide +kernel⟩, by decide +kernel, by decide, rfl, rfl⟩
theorem mg970 : Cond.methodLink RL 33 Y_X12_feed.y ∈ lw_good := List.mem_filter.mpr ⟨List.mem_append_right _ (List.mem_of_getElem? (i := 970) (by decide +kernel)), by decide +kernel⟩
theorem mg973 : Cond.code Y_X12_feed.y Y_X12_feed.cc Y_X12_feed.nL Y_X12_feed.rt ∈ lw_good := List.mem_filter.mpr ⟨List.mem_append_right _ (List.mem_of_getElem? (i := 973) (by decide +kernel)), by decide +kernel⟩
theorem mg971 : Cond.instanceMethod Y_X12_feed.y ∈ lw_good := List.mem_filter.mpr ⟨List.mem_append_right _ (List.mem_of_getElem? (i := 971) (by decide +kernel)), by decide +kernel⟩
theorem mg972 : Cond.selects RX12 yX12_feed yX12_feed ∈ lw_good := List.mem_filter.mpr ⟨List.mem_append_right _ (List.mem_of_getElem? (i := 972) (by decide +kernel)), by decide +kernel⟩
theorem cv_L_33 : cvOK RL 33 12 3 Y_X12_feed := ⟨RX12, TX12, 32, rfl, rfl, ⟨mg970, mg971, mg972, mg13, mg973⟩, ⟨by decide +kernel, by decide +kernel⟩, by decide +kernel, by decide, rfl, rfl⟩
theorem mg417 : Cond.methodLink RL 34 Y_X11_office.y ∈ lw_good := List.mem_filter.mpr ⟨List.mem_append_right _ (List.mem_of_getElem? (i := 417) (by decide +kernel)), by decide +kernel⟩
theorem mg420 : Cond.code Y_X11_office.y Y_X11_office.cc Y_X11_office.nL Y_X11_office.rt ∈ lw_good := List.mem_filter.mpr ⟨List.mem_append_right _ (List.mem_of_getElem? (i := 420) (by decide +kernel)), by decide +kernel⟩
theorem mg418 : Cond.instanceMethod Y_X11_office.y ∈ lw_good := List.mem_filter.mpr ⟨List.mem_append_right _ (List.mem_of_getElem? (i := 418) (by decide +kernel)), by decide +kernel⟩
theorem mg419 : Cond.selects RX11 yX11_office yX11_office ∈ lw_good := List.mem_filter.mpr ⟨List.mem_append_right _ (List.mem_of_getElem? (i := 419) (by decide +kernel)), by decide +kernel⟩
theorem cv_L_34 : cvOK RL 34 11 0 Y_X11_office := ⟨RX11, TX11, 12, rfl, rfl, ⟨mg417, mg418, mg419, mg1, mg420⟩, ⟨by decide +kernel, by decide +kernel⟩, by decide +kernel, by decide, rfl, rfl⟩
theorem mg1098 : Cond.methodLink RL 38 Y_X12_office.y ∈ lw_good := List.mem_filter.mpr ⟨List.mem_append_right _ (List.mem_of_getElem? (i := 1098) (by decide +kernel)), by decide +kernel⟩
theorem mg1101 : Cond.code Y_X12_office.y Y_X12_office.cc Y_X12_office.nL Y_X12_office.rt ∈ lw_good := List.mem_filter.mpr ⟨List.mem_append_right _ (List.mem_of_getElem? (i := 1101) (by decide +kernel)), by decide +kernel⟩
theorem mg1099 : Cond.instanceMethod Y_X12_office.y ∈ lw_good := List.mem_filter.mpr ⟨List.mem_append_right _ (List.mem_of_getElem? (i := 1099) (by decide +kernel)), by decide +kernel⟩
theorem mg1100 : Cond.selects RX12 yX12_office yX12_office ∈ lw_good := List.mem_filter.mpr ⟨List.mem_append_right _ (List.mem_of_getElem? (i := 1100) (by decide +kernel)), by decide +kernel⟩
theorem cv_L_38 : cvOK RL 38 12 0 Y_X12_office := ⟨RX12, TX12, 32, rfl, rfl, ⟨mg1098, mg1099, mg1100, mg13, mg1101⟩, ⟨by decide +kernel, by decide +kernel⟩, by decide +kernel, by decide, rfl, rfl⟩
theorem mg591 : Cond.methodLink RL 39 Y_X11_arm.y ∈ lw_good := List.mem_filter.mpr ⟨List.mem_append_right _ (List.mem_of_getElem? (i := 591) (by decide +kernel)), by decide +kernel⟩
theorem mg594 : Cond.code Y_X11_arm.y Y_X11_arm.cc Y_X11_arm.nL Y_X11_arm.rt ∈ lw_good := List.mem_filter.mpr ⟨List.mem_append_right _ (List.mem_of_getElem? (i := 594) (by decide +kernel)), by decide +kernel⟩
theorem mg592 : Cond.instanceMethod Y_X11_arm.y ∈ lw_good := List.mem_filter.mpr ⟨List.mem_append_right _ (List.mem_of_getElem? (i := 592) (by decide +kernel)), by decide +kernel⟩
theorem mg593 : Cond.selects RX11 yX11_arm yX11_arm ∈ lw_good := List.mem_filter.mpr ⟨List.mem_append_right _ (List.mem_of_getElem? (i := 593) (by decide +kernel)), by decide +kernel⟩
theorem cv_L_39 : cvOK RL 39 11 2 Y_X11_arm := ⟨RX11, TX11, 12, rfl, rfl, ⟨mg591, mg592, mg593, mg1, mg594⟩, ⟨by decide +kernel, by decide +kernel⟩, by decide +kernel, by decide, rfl, rfl⟩
theorem mg1184 : Cond.methodLink RL 43 Y_X12_arm.y ∈ lw_good := List.mem_filter.mpr ⟨List.mem_append_right _ (List.mem_of_getElem? (i := 1184) (by decide +kernel)), by decide +kernel⟩
theorem mg1187 : Cond.code Y_X12_arm.y Y_X12_arm.cc Y_X12_arm.nL Y_X12_arm.rt ∈ lw_good := List.mem_filter.mpr ⟨List.mem_append_right _ (List.mem_of_getElem? (i := 1187) (by decide +kernel)), by decide +kernel⟩
theorem mg1185 : Cond.instanceMethod Y_X12_arm.y ∈ lw_good := List.mem_filter.mpr ⟨List.mem_append_right _ (List.mem_of_getElem? (i := 1185) (by decide +kernel)), by decide +kernel⟩
theorem mg1186 : Cond.selects RX12 yX12_arm yX12_arm ∈ lw_good := List.mem_filter.mpr ⟨List.mem_append_right _ (List.mem_of_getElem? (i := 1186) (by decide +kernel)), by decide +kernel⟩
theorem cv_L_43 : cvOK RL 43 12 2 Y_X12_arm := ⟨RX12, TX12, 32, rfl, rfl, ⟨mg1184, mg1185, mg1186, mg13, mg1187⟩, ⟨by decide +kernel, by decide +kernel⟩, by decide +kernel, by decide, rfl, rfl⟩
theorem mg599 : Cond.methodLink RL 44 Y_X11_hole.y ∈ lw_good := List.mem_filter.mpr ⟨List.mem_append_right _ (List.mem_of_getElem? (i := 599) (by decide +kernel)), by decide +kernel⟩
theorem mg602 : Cond.code Y_X11_hole.y Y_X11_hole.cc Y_X11_hole.nL Y_X11_hole.rt ∈ lw_good := List.mem_filter.mpr ⟨List.mem_append_right _ (List.mem_of_getElem? (i := 602) (by decide +kernel)), by decide +kernel⟩
theorem mg600 : Cond.instanceMethod Y_X11_hole.y ∈ lw_good := List.mem_filter.mpr ⟨List.mem_append_right _ (List.mem_of_getElem? (i := 600) (by decide +kernel)), by decide +kernel⟩
theorem mg601 : Cond.selects RX11 yX11_hole yX11_hole ∈ lw_good := List.mem_filter.mpr ⟨List.mem_append_right _ (List.mem_of_getElem? (i := 601) (by decide +kernel)), by decide +kernel⟩
theorem cv_L_44 : cvOK RL 44 11 2 Y_X11_hole := ⟨RX11, TX11, 12, rfl, rfl, ⟨mg599, mg600, mg601, mg1, mg602⟩, ⟨by decide +kernel, by decide +kernel⟩, by decide +kernel, by decide, rfl, rfl⟩
theorem mg1200 : Cond.methodLink RL 47 Y_X12_hole.y ∈ lw_good := List.mem_filter.mpr ⟨List.mem_append_right _ (List.mem_of_getElem? (i := 1200) (by decide +kernel)), by decide +kernel⟩
theorem mg1203 : Cond.code Y_X12_hole.y Y_X12_hole.cc Y_X12_hole.nL Y_X12_hole.rt ∈ lw_good := List.mem_filter.mpr ⟨List.mem_append_right _ (List.mem_of_getElem? (i := 1203) (by decide +kernel)), by decide +kernel⟩
theorem mg1201 : Cond.instanceMethod Y_X12_hole.y ∈ lw_good := List.mem_filter.mpr ⟨List.mem_append_right _ (List.mem_of_getElem? (i := 1201) (by decide +kernel)), by decide +kernel⟩
theorem mg1202 : Cond.selects RX12 yX12_hole yX12_hole ∈ lw_good := List.mem_filter.mpr ⟨List.mem_append_right _ (List.mem_of_getElem? (i := 1202) (by decide +kernel)), by decide +kernel⟩
theorem cv_L_47 : cvOK RL 47 12 2 Y_X12_hole := ⟨RX12, TX12, 32, rfl, rfl, ⟨mg1200, mg1201, mg1202, mg13, mg1203⟩, ⟨by decide +kernel, by decide +kernel⟩, by decide +kernel, by decide, rfl, rfl⟩
theorem mg608 : Cond.methodLink RL 48 Y_X11_map.y ∈ lw_good := List.mem_filter.mpr ⟨List.mem_append_right _ (List.mem_of_getElem? (i := 608) (by decide +kernel)), by decide +kernel⟩
theorem mg611 : Cond.code Y_X11_map.y Y_X11_map.cc Y_X11_map.nL Y_X11_map.rt ∈ lw_good := List.mem_filter.mpr ⟨List.mem_append_right _ (List.mem_of_getElem? (i := 611) (by decide +kernel)), by decide +kernel⟩
theorem mg609 : Cond.instanceMethod Y_X11_map.y ∈ lw_good := List.mem_filter.mpr ⟨List.mem_append_right _ (List.mem_of_getElem? (i := 609) (by decide +kernel)), by decide +kernel⟩
theorem mg610 : Cond.selects RX11 yX11_map yX11_map ∈ lw_good := List.mem_filter.mpr ⟨List.mem_append_right _ (List.mem_of_getElem? (i := 610) (by decide +kernel)), by decide +kernel⟩
theorem cv_L_48 : cvOK RL 48 11 2 Y_X11_map := ⟨RX11, TX11, 12, rfl, rfl, ⟨mg608, mg609, mg610, mg1, mg611⟩, ⟨by decide +kernel, by decide +kernel⟩, by decide +kernel, by decide, rfl, rfl⟩
theorem mg1204 : Cond.methodLink RL 51 Y_X12_map.y ∈ lw_good := List.mem_filter.mpr ⟨List.mem_append_right _ (List.mem_of_getElem? (i := 1204) (by decide +kernel)), by decide +kernel⟩
theorem mg1207 : Cond.code Y_X12_map.y Y_X12_map.cc Y_X12_map.nL Y_X12_map.rt ∈ lw_good := List.mem_filter.mpr ⟨List.mem_append_right _ (List.mem_of_getElem? (i := 1207) (by decide +kernel)), by decide +kernel⟩
theorem mg1205 : Cond.instanceMethod Y_X12_map.y ∈ lw_good := List.mem_filter.mpr ⟨List.mem_append_right _ (List.mem_of_getElem? (i := 1205) (by decide +kernel)), by decide +kernel⟩
theorem mg1206 : Cond.selects RX12 yX12_map yX12_map ∈ lw_good := List.mem_filter.mpr ⟨List.mem_append_right _ (List.mem_of_getElem? (i := 1206) (by decide +kernel)), by decide +kernel⟩
theorem cv_L_51 : cvOK RL 51 12 2 Y_X12_map := ⟨RX12, TX12, 32, rfl, rfl, ⟨mg1204, mg1205, mg1206, mg13, mg1207⟩, ⟨by decide +kernel, by decide +kernel⟩, by decide +kernel, by decide, rfl, rfl⟩
theorem mg625 : Cond.methodLink RL 52 Y_X11_point.y ∈ lw_good := List.mem_filter.mpr ⟨List.mem_append_right _ (List.mem_of_getElem? (i := 625) (by decide +kernel)), by decide +kernel⟩
theorem mg628 : Cond.code Y_X11_point.y Y_X11_point.cc Y_X11_point.nL Y_X11_point.rt ∈ lw_good := List.mem_filter.mpr ⟨List.mem_append_right _ (List.mem_of_getElem? (i := 628) (by decide +kernel)), by decide +kernel⟩
theorem mg626 : Cond.instanceMethod Y_X11_point.y ∈ lw_good := List.mem_filter.mpr ⟨List.mem_append_right _ (List.mem_of_getElem? (i := 626) (by decide +kernel)), by decide +kernel⟩
theorem mg627 : Cond.selects RX11 yX11_point yX11_point ∈ lw_good := List.mem_filter.mpr ⟨List.mem_append_right _ (List.mem_of_getElem? (i := 627) (by decide +kernel)), by decide +kernel⟩
theorem cv_L_52 : cvOK RL 52 11 3 Y_X11_point := ⟨RX11, TX11, 12, rfl, rfl, ⟨mg625, mg626, mg627, mg1, mg628⟩, ⟨by decide +kernel, by decide +kernel⟩, by decide +kernel, by decide, rfl, rfl⟩
theorem mg1219 : Cond.methodLink RL 56 Y_X12_point.y ∈ lw_good := List.mem_filter.mpr ⟨List.mem_append_right _ (List.mem_of_getElem? (i := 1219) (by decide +kernel)), by decide +kernel⟩
theorem mg1222 : Cond.code Y_X12_point.y Y_X12_point.cc Y_X12_point.nL Y_X12_point.rt ∈ lw_good := List.mem_filter.mpr ⟨List.mem_append_right _ (List.mem_of_getElem? (i := 1222) (by decide +kernel)), by decide +kernel⟩
theorem mg1220 : Cond.instanceMethod Y_X12_point.y ∈ lw_good := List.mem_filter.mpr ⟨List.mem_append_right _ (List.mem_of_getElem? (i := 1220) (by decide +kernel)), by decide +kernel⟩
theorem mg1221 : Cond.selects RX12 yX12_point yX12_point ∈ lw_good := List.mem_filter.mpr ⟨List.mem_append_right _ (List.mem_of_getElem? (i := 1221) (by decide +kernel)), by decide +kernel⟩
theorem cv_L_56 : cvOK RL 56 12 3 Y_X12_point := ⟨RX12, TX12, 32, rfl, rfl, ⟨mg1219, mg1220, mg1221, mg13, mg1222⟩, ⟨by decide +kernel, by decide +kernel⟩, by decide +kernel, by decide, rfl, rfl⟩
theorem mg629 : Cond.methodLink RL 57 Y_X11_set.y ∈ lw_good := List.mem_filter.mpr ⟨List.mem_append_right _ (List.mem_of_getElem? (i := 629) (by decide +kernel)), by decide +kernel⟩
theorem mg632 : Cond.code Y_X11_set.y Y_X11_set.cc Y_X11_set.nL Y_X11_set.rt ∈ lw_good := List.mem_filter.mpr ⟨List.mem_append_right _ (List.mem_of_getElem? (i := 632) (by decide +kernel)), by decide +kernel⟩
theorem mg630 : Cond.instanceMethod Y_X11_set.y ∈ lw_good := List.mem_filter.mpr ⟨List.mem_append_right _ (List.mem_of_getElem? (i := 630) (by decide +kernel)), by decide +kernel⟩
theorem mg631 : Cond.selects RX11 yX11_set yX11_set ∈ lw_good := List.mem_filter.mpr ⟨List.mem_append_right _ (List.mem_of_getElem? (i := 631) (by decide +kernel)), by decide +kernel⟩
theorem cv_L_57 : cvOK RL 57 11 3 Y_X11_set := ⟨RX11, TX11, 12, rfl, rfl, ⟨mg629, mg630, mg631, mg1, mg632⟩, ⟨by decide +kernel, by decide +kernel⟩, by decide +kernel, by decide, rfl, rfl⟩
theorem mg1223 : Cond.methodLink RL 61 Y_X12_set.y ∈ lw_good := List.mem_filter.mpr ⟨List.mem_append_right _ (List.mem_of_getElem? (i := 1223) (by decide +kernel)), by decide +kernel⟩
theorem mg1226 : Cond.code Y_X12_set.y Y_X12_set.cc Y_X12_set.nL Y_X12_set.rt ∈ lw_good := List.mem_filter.mpr ⟨List.mem_append_right _ (List.mem_of_getElem? (i := 1226) (by decide +kernel)), by decide +kernel⟩
theorem mg1224 : Cond.instanceMethod Y_X12_set.y ∈ lw_good := List.mem_filter.mpr ⟨List.mem_append_right _ (List.mem_of_getElem? (i := 1224) (by decide +kernel)), by decide +kernel⟩
theorem mg1225 : Cond.selects RX12 yX12_set yX12_set ∈ lw_good := List.mem_filter.mpr ⟨List.mem_append_right _ (List.mem_of_getElem? (i := 1225) (by decide +kernel)), by decide +kernel⟩
theorem cv_L_61 : cvOK RL 61 12 3 Y_X12_set := ⟨RX12, TX12, 32, rfl, rfl, ⟨mg1223, mg1224, mg1225, mg13, mg1226⟩, ⟨by decide +kernel, by decide +kernel⟩, by decide +kernel, by decide, rfl, rfl⟩
theorem mg633 : Cond.methodLink RL 62 Y_X11_turn.y ∈ lw_good := List.mem_filter.mpr ⟨List.mem_append_right _ (List.mem_of_getElem? (i := 633) (by decide +kernel)), by decide +kernel⟩
theorem mg636 : Cond.code Y_X11_turn.y Y_X11_turn.cc Y_X11_turn.nL Y_X11_turn.rt ∈ lw_good := List.mem_filter.mpr ⟨List.mem_append_right _ (List.mem_of_getElem? (i := 636) (by decide +kernel)), by decide +kernel⟩
theorem mg634 : Cond.instanceMethod Y_X11_turn.y ∈ lw_good := List.mem_filter.mpr ⟨List.mem_append_right _ (List.mem_of_getElem? (i := 634) (by decide +kernel)), by decide +kernel⟩
theorem mg635 : Cond.selects RX11 yX11_turn yX11_turn ∈ lw_good := List.mem_filter.mpr ⟨List.mem_append_right _ (List.mem_of_getElem? (i := 635) (by decide +kernel)), by decide +kernel⟩
theorem cv_L_62 : cvOK RL 62 11 2 Y_X11_turn := ⟨RX11, TX11, 12, rfl, rfl, ⟨mg633, mg634, mg635, mg1, mg636⟩, ⟨by decide +kernel, by decide +kernel⟩, by decide +kernel, by decide, rfl, rfl⟩
theorem mg1231 : Cond.methodLink RL 66 Y_X12_turn.y ∈ lw_good := List.mem_filter.mpr ⟨List.mem_append_right _ (List.mem_of_getElem? (i := 1231) (by decide +kernel)), by decide +kernel⟩
theorem mg1234 : Cond.code Y_X12_turn.y Y_X12_turn.cc Y_X12_turn.nL Y_X12_turn.rt ∈ lw_good := List.mem_filter.mpr ⟨List.mem_append_right _ (List.mem_of_getElem? (i := 1234) (by decide +kernel)), by decide +kernel⟩
theorem mg1232 : Cond.instanceMethod Y_X12_turn.y ∈ lw_good := List.mem_filter.mpr ⟨List.mem_append_right _ (List.mem_of_getElem? (i := 1232) (by decide +kernel)), by decide +kernel⟩
theorem mg1233 : Cond.selects RX12 yX12_turn yX12_turn ∈ lw_good := List.mem_filter.mpr ⟨List.mem_append_right _ (List.mem_of_getElem? (i := 1233) (by decide +kernel)), by decide +kernel⟩
theorem cv_L_66 : cvOK RL 66 12 2 Y_X12_turn := ⟨RX12, TX12, 32, rfl, rfl, ⟨mg1231, mg1232, mg1233, mg13, mg1234⟩, ⟨by decide +kernel, by decide +kernel⟩, by decide +kernel, by decide, rfl, rfl⟩
theorem mg640 : Cond.methodLink RL 67 Y_X11_pin.y ∈ lw_good := List.mem_filter.mpr ⟨List.mem_append_right _ (List.mem_of_getElem? (i := 640) (by decide +kernel)), by decide +kernel⟩
theorem mg643 : Cond.code Y_X11_pin.y Y_X11_pin.cc Y_X11_pin.nL Y_X11_pin.rt ∈ lw_good := List.mem_filter.mpr ⟨List.mem_append_right _ (List.mem_of_getElem? (i := 643) (by decide +kernel)), by decide +kernel⟩
theorem mg641 : Cond.instanceMethod Y_X11_pin.y ∈ lw_good := List.mem_filter.mpr ⟨List.mem_append_right _ (List.mem_of_getElem? (i := 641) (by decide +kernel)), by decide +kernel⟩
theorem mg642 : Cond.selects RX11 yX11_pin yX11_pin ∈ lw_good := List.mem_filter.mpr ⟨List.mem_append_right _ (List.mem_of_getElem? (i := 642) (by decide +kernel)), by decide +kernel⟩
theorem cv_L_67 : cvOK RL 67 11 3 Y_X11_pin := ⟨RX11, TX11, 12, rfl, rfl, ⟨mg640, mg641, mg642, mg1, mg643⟩, ⟨by decide +kernel, by decide +kernel⟩, by decide +kernel, by decide, rfl, rfl⟩
theorem mg1235 : Cond.methodLink RL 70 Y_X12_pin.y ∈ lw_good := List.mem_filter.mpr ⟨List.mem_append_right _ (List.mem_of_getElem? (i := 1235) (by decide +kernel)), by decide +kernel⟩
theorem mg1238 : Cond.code Y_X12_pin.y Y_X12_pin.cc Y_X12_pin.nL Y_X12_pin.rt ∈ lw_good := List.mem_filter.mpr ⟨List.mem_append_right _ (List.mem_of_getElem? (i := 1238) (by decide +kernel)), by decide +kernel⟩
theorem mg1236 : Cond.instanceMethod Y_X12_pin.y ∈ lw_good := List.mem_filter.mpr ⟨List.mem_append_right _ (List.mem_of_getElem? (i := 1236) (by decide +kernel)), by decide +kernel⟩
theorem mg1237 : Cond.selects RX12 yX12_pin yX12_pin ∈ lw_good := List.mem_filter.mpr ⟨List.mem_append_right _ (List.mem_of_getElem? (i := 1237) (by decide +kernel)), by decide +kernel⟩
theorem cv_L_70 : cvOK RL 70 12 3 Y_X12_pin := ⟨RX12, TX12, 32, rfl, rfl, ⟨mg1235, mg1236, mg1237, mg13, mg1238⟩, ⟨by decide +kernel, by decide +kernel⟩, by decide +kernel, by decide, rfl, rfl⟩
theorem mg644 : Cond.methodLink RL 71 Y_X11_bend.y ∈ lw_good := List.mem_filter.mpr ⟨List.mem_append_right _ (List.mem_of_getElem? (i := 644) (by decide +kernel)), by decide +kernel⟩
theorem mg647 : Cond.code Y_X11_bend.y Y_X11_bend.cc Y_X11_bend.nL Y_X11_bend.rt ∈ lw_good := List.mem_filter.mpr ⟨List.mem_append_right _ (List.mem_of_getElem? (i := 647) (by decide +kernel)), by decide +kernel⟩
theorem mg645 : Cond.instanceMethod Y_X11_bend.y ∈ lw_good := List.mem_filter.mpr ⟨List.mem_append_right _ (List.mem_of_getElem? (i := 645) (by decide +kernel)), by decide +kernel⟩
theorem mg646 : Cond.selects RX11 yX11_bend yX11_bend ∈ lw_good := List.mem_filter.mpr ⟨List.mem_append_right _ (List.mem_of_getElem? (i := 646) (by decide +kernel)), by decide +kernel⟩
theorem cv_L_71 : cvOK RL 71 11 2 Y_X11_bend := ⟨RX11, TX11, 12, rfl, rfl, ⟨mg644, mg645, mg646, mg1, mg647⟩, ⟨by decide +kernel, by decide +kernel⟩, by decide +kernel, by decide, rfl, rfl⟩
theorem mg1239 : Cond.methodLink RL 74 Y_X12_bend.y ∈ lw_good := List.mem_filter.mpr ⟨List.mem_append_right _ (List.mem_of_getElem? (i := 1239) (by decide +kernel)), by decide +kernel⟩
theorem mg1242 : Cond.code Y_X12_bend.y Y_X12_bend.cc Y_X12_bend.nL Y_X12_bend.rt ∈ lw_good := List.mem_filter.mpr ⟨List.mem_append_right _ (List.mem_of_getElem? (i := 1242) (by decide +kernel)), by decide +kernel⟩
theorem mg1240 : Cond.instanceMethod Y_X12_bend.y ∈ lw_good := List.mem_filter.mpr ⟨List.mem_append_right _ (List.mem_of_getElem? (i := 1240) (by decide +kernel)), by decide +kernel⟩
theorem mg1241 : Cond.selects RX12 yX12_bend yX12_bend ∈ lw_good := List.mem_filter.mpr ⟨List.mem_append_right _ (List.mem_of_getElem? (i := 1241) (by decide +kernel)), by decide +kernel⟩
theorem cv_L_74 : cvOK RL 74 12 2 Y_X12_bend := ⟨RX12, TX12, 32, rfl, rfl, ⟨mg1239, mg1240, mg1241, mg13, mg1242⟩, ⟨by decide +kernel, by decide +kernel⟩, by decide +kernel, by decide, rfl, rfl⟩
theorem mg1243 : Cond.methodLink RL 80 Y_X12_trace.y ∈ lw_good := List.mem_filter.mpr ⟨List.mem_append_right _ (List.mem_of_getElem? (i := 1243) (by decide +kernel)), by decide +kernel⟩
theorem mg1246 : Cond.code Y_X12_trace.y Y_X12_trace.cc Y_X12_trace.nL Y_X12_trace.rt ∈ lw_good := List.mem_filter.mpr ⟨List.mem_append_right _ (List.mem_of_getElem? (i := 1246) (by decide +kernel)), by decide +kernel⟩
theorem mg1244 : Cond.instanceMethod Y_X12_trace.y ∈ lw_good := List.mem_filter.mpr ⟨List.mem_append_right _ (List.mem_of_getElem? (i := 1244) (by decide +kernel)), by decide +kernel⟩
theorem mg1245 : Cond.selects RX12 yX12_trace yX12_trace ∈ lw_good := List.mem_filter.mpr ⟨List.mem_append_right _ (List.mem_of_getElem? (i := 1245) (by decide +kernel)), by decide +kernel⟩
theorem cv_L_80 : cvOK RL 80 12 4 Y_X12_trace := ⟨RX12, TX12, 32, rfl, rfl, ⟨mg1243, mg1244, mg1245, mg13, mg1246⟩, ⟨by decide +kernel, by decide +kernel⟩, by decide +kernel, by decide, rfl, rfl⟩
theorem mg966 : Cond.methodLink RL 81 Y_X12_thrown.y ∈ lw_good := List.mem_filter.mpr ⟨List.mem_append_right _ (List.mem_of_getElem? (i := 966) (by decide +kernel)), by decide +kernel⟩
theorem mg969 : Cond.code Y_X12_thrown.y Y_X12_thrown.cc Y_X12_thrown.nL Y_X12_thrown.rt ∈ lw_good := List.mem_filter.mpr ⟨List.mem_append_right _ (List.mem_of_getElem? (i := 969) (by decide +kernel)), by decide +kernel⟩
theorem mg967 : Cond.instanceMethod Y_X12_thrown.y ∈ lw_good := List.mem_filter.mpr ⟨List.mem_append_right _ (List.mem_of_getElem? (i := 967) (by decide +kernel)), by decide +kernel⟩
theorem mg968 : Cond.selects RX12 yX12_thrown yX12_thrown ∈ lw_good := List.mem_filter.mpr ⟨List.mem_append_right _ (List.mem_of_getElem? (i := 968) (by decide +kernel)), by decide +kernel⟩
theorem cv_L_81 : cvOK RL 81 12 0 Y_X12_thrown := ⟨RX12, TX12, 32, rfl, rfl, ⟨mg966, mg967, mg968, mg13, mg969⟩, ⟨by decide +kernel, by decide +kernel⟩, by decide +kernel, by decide, rfl, rfl⟩
theorem mg648 : Cond.methodLink RL 84 Y_X11_chain.y ∈ lw_good := List.mem_filter.mpr ⟨List.mem_append_right _ (List.mem_of_getElem? (i := 648) (by decide +kernel)), by decide +kernel⟩
theorem mg651 : Cond.code Y_X11_chain.y Y_X11_chain.cc Y_X11_chain.nL Y_X11_chain.rt ∈ lw_good := List.mem_filter.mpr ⟨List.mem_append_right _ (List.mem_of_getElem? (i := 651) (by decide +kernel)), by decide +kernel⟩
theorem mg649 : Cond.instanceMethod Y_X11_chain.y ∈ lw_good := List.mem_filter.mpr ⟨List.mem_append_right _ (List.mem_of_getElem? (i := 649) (by decide +kernel)), by decide +kernel⟩
theorem mg650 : Cond.selects RX11 yX11_chain yX11_chain ∈ lw_good := List.mem_filter.mpr ⟨List.mem_append_right _ (List.mem_of_getElem? (i := 650) (by decide +kernel)), by decide +kernel⟩
theorem cv_L_84 : cvOK RL 84 11 1 Y_X11_chain := ⟨RX11, TX11, 12, rfl, rfl, ⟨mg648, mg649, mg650, mg1, mg651⟩, ⟨by decide +kernel, by decide +kernel⟩, by decide +kernel, by decide, rfl, rfl⟩
theorem mg1269 : Cond.methodLink RL 87 Y_X12_chain.y ∈ lw_good := List.mem_filter.mpr ⟨List.mem_append_right _ (List.mem_of_getElem? (i := 1269) (by decide +kernel)), by decide +kernel⟩
theorem mg1272 : Cond.code Y_X12_chain.y Y_X12_chain.cc Y_X12_chain.nL Y_X12_chain.rt ∈ lw_good := List.mem_filter.mpr ⟨List.mem_append_right _ (List.mem_of_getElem? (i := 1272) (by decide +kernel)), by decide +kernel⟩
theorem mg1270 : Cond.instanceMethod Y_X12_chain.y ∈ lw_good := List.mem_filter.mpr ⟨List.mem_append_right _ (List.mem_of_getElem? (i := 1270) (by decide +kernel)), by decide +kernel⟩
theorem mg1271 : Cond.selects RX12 yX12_chain yX12_chain ∈ lw_good := List.mem_filter.mpr ⟨List.mem_append_right _ (List.mem_of_getElem? (i := 1271) (by decide +kernel)), by decide +kernel⟩
theorem cv_L_87 : cvOK RL 87 12 1 Y_X12_chain := ⟨RX12, TX12, 32, rfl, rfl, ⟨mg1269, mg1270, mg1271, mg13, mg1272⟩, ⟨by decide +kernel, by decide +kernel⟩, by decide +kernel, by decide, rfl, rfl⟩
theorem mg656 : Cond.methodLink RL 88 Y_X11_size.y ∈ lw_good := List.mem_filter.mpr ⟨List.mem_append_right _ (List.mem_of_getElem? (i := 656) (by decide +kernel)), by decide +kernel⟩
theorem mg659 : Cond.code Y_X11_size.y Y_X11_size.cc Y_X11_size.nL Y_X11_size.rt ∈ lw_good := List.mem_filter.mpr ⟨List.mem_append_right _ (List.mem_of_getElem? (i := 659) (by decide +kernel)), by decide +kernel⟩
theorem mg657 : Cond.instanceMethod Y_X11_size.y ∈ lw_good := List.mem_filter.mpr ⟨List.mem_append_right _ (List.mem_of_getElem? (i := 657) (by decide +kernel)), by decide +kernel⟩
theorem mg658 : Cond.selects RX11 yX11_size yX11_size ∈ lw_good := List.mem_filter.mpr ⟨List.mem_append_right _ (List.mem_of_getElem? (i := 658) (by decide +kernel)), by decide +kernel⟩
theorem cv_L_88 : cvOK RL 88 11 1 Y_X11_size := ⟨RX11, TX11, 12, rfl, rfl, ⟨mg656, mg657, mg658, mg1, mg659⟩, ⟨by decide +kernel, by decide +kernel⟩, by decide +kernel, by decide, rfl, rfl⟩
theorem mg1281 : Cond.methodLink RL 91 Y_X12_size.y ∈ lw_good := List.mem_filter.mpr ⟨List.mem_append_right _ (List.mem_of_getElem? (i := 1281) (by decide +kernel)), by decide +kernel⟩
theorem mg1284 : Cond.code Y_X12_size.y Y_X12_size.cc Y_X12_size.nL Y_X12_size.rt ∈ lw_good := List.mem_filter.mpr ⟨List.mem_append_right _ (List.mem_of_getElem? (i := 1284) (by decide +kernel)), by decide +kernel⟩
theorem mg1282 : Cond.instanceMethod Y_X12_size.y ∈ lw_good := List.mem_filter.mpr ⟨List.mem_append_right _ (List.mem_of_getElem? (i := 1282) (by decide +kernel)), by decide +kernel⟩
theorem mg1283 : Cond.selects RX12 yX12_size yX12_size ∈ lw_good := List.mem_filter.mpr ⟨List.mem_append_right _ (List.mem_of_getElem? (i := 1283) (by decide +kernel)), by decide +kernel⟩
theorem cv_L_91 : cvOK RL 91 12 1 Y_X12_size := ⟨RX12, TX12, 32, rfl, rfl, ⟨mg1281, mg1282, mg1283, mg13, mg1284⟩, ⟨by decide +kernel, by decide +kernel⟩, by decide +kernel, by decide, rfl, rfl⟩
theorem mg1285 : Cond.methodLink RL 95 Y_X12_draw.y ∈ lw_good := List.mem_filter.mpr ⟨List.mem_append_right _ (List.mem_of_getElem? (i := 1285) (by decide +kernel)), by decide +kernel⟩
theorem mg1288 : Cond.code Y_X12_draw.y Y_X12_draw.cc Y_X12_draw.nL Y_X12_draw.rt ∈ lw_good := List.mem_filter.mpr ⟨List.mem_append_right _ (List.mem_of_getElem? (i := 1288) (by decide +kernel)), by decide +kernel⟩
theorem mg1286 : Cond.instanceMethod Y_X12_draw.y ∈ lw_good := List.mem_filter.mpr ⟨List.mem_append_right _ (List.mem_of_getElem? (i := 1286) (by decide +kernel)), by decide +kernel⟩
theorem mg1287 : Cond.selects RX12 yX12_draw yX12_draw ∈ lw_good := List.mem_filter.mpr ⟨List.mem_append_right _ (List.mem_of_getElem? (i := 1287) (by decide +kernel)), by decide +kernel⟩
theorem cv_L_95 : cvOK RL 95 12 3 Y_X12_draw := ⟨RX12, TX12, 32, rfl, rfl, ⟨mg1285, mg1286, mg1287, mg13, mg1288⟩, ⟨by decide +kernel, by decide +kernel⟩, by decide +kernel, by decide, rfl, rfl⟩
theorem mg672 : Cond.methodLink RL 96 Y_X11_outs.y ∈ lw_good := List.mem_filter.mpr ⟨List.mem_append_right _ (List.mem_of_getElem? (i := 672) (by decide +kernel)), by decide +kernel⟩
theorem mg675 : Cond.code Y_X11_outs.y Y_X11_outs.cc Y_X11_outs.nL Y_X11_outs.rt ∈ lw_good := List.mem_filter.mpr ⟨List.mem_append_right _ (List.mem_of_getElem? (i := 675) (by decide +kernel)), by decide +kernel⟩
theorem mg673 : Cond.instanceMethod Y_X11_outs.y ∈ lw_good := List.mem_filter.mpr ⟨List.mem_append_right _ (List.mem_of_getElem? (i := 673) (by decide +kernel)), by decide +kernel⟩
theorem mg674 : Cond.selects RX11 yX11_outs yX11_outs ∈ lw_good := List.mem_filter.mpr ⟨List.mem_append_right _ (List.mem_of_getElem? (i := 674) (by decide +kernel)), by decide +kernel⟩
theorem cv_L_96 : cvOK RL 96 11 1 Y_X11_outs := ⟨RX11, TX11, 12, rfl, rfl, ⟨mg672, mg673, mg674, mg1, mg675⟩, ⟨by decide +kernel, by decide +kernel⟩, by decide +kernel, by decide, rfl, rfl⟩
theorem mg1293 : Cond.methodLink RL 99 Y_X12_outs.y ∈ lw_good := List.mem_filter.mpr ⟨List.mem_append_right _ (List.mem_of_getElem? (i := 1293) (by decide +kernel)), by decide +kernel⟩
theorem mg1296 : Cond.code Y_X12_outs.y Y_X12_outs.cc Y_X12_outs.nL Y_X12_outs.rt ∈ lw_good := List.mem_filter.mpr ⟨List.mem_append_right _ (List.mem_of_getElem? (i := 1296) (by decide +kernel)), by decide +kernel⟩
theorem mg1294 : Cond.instanceMethod Y_X12_outs.y ∈ lw_good := List.mem_filter.mpr ⟨List.mem_append_right _ (List.mem_of_getElem? (i := 1294) (by decide +kernel)), by decide +kernel⟩
theorem mg1295 : Cond.selects RX12 yX12_outs yX12_outs ∈ lw_good := List.mem_filter.mpr ⟨List.mem_append_right _ (List.mem_of_getElem? (i := 1295) (by decide +kernel)), by decide +kernel⟩
theorem cv_L_99 : cvOK RL 99 12 1 Y_X12_outs := ⟨RX12, TX12, 32, rfl, rfl, ⟨mg1293, mg1294, mg1295, mg13, mg1296⟩, ⟨by decide +kernel, by decide +kernel⟩, by decide +kernel, by decide, rfl, rfl⟩
theorem mg957 : Cond.methodLink RL 118 Y_L_crooked.y ∈ lw_good := List.mem_filter.mpr ⟨List.mem_append_right _ (List.mem_of_getElem? (i := 957) (by decide +kernel)), by decide +kernel⟩
theorem mg0 : Cond.initialized RL ∈ lw_good := List.mem_filter.mpr ⟨List.mem_append_right _ (List.mem_of_getElem? (i := 0) (by decide +kernel)), by decide +kernel⟩
theorem mg959 : Cond.codeWith Y_L_crooked.y Y_L_crooked.cc Y_L_crooked.nL Y_L_crooked.rt Y_L_crooked.hh ∈ lw_good := List.mem_filter.mpr ⟨List.mem_append_right _ (List.mem_of_getElem? (i := 959) (by decide +kernel)), by decide +kernel⟩
theorem mg958 : Cond.static Y_L_crooked.y ∈ lw_good := List.mem_filter.mpr ⟨List.mem_append_right _ (List.mem_of_getElem? (i := 958) (by decide +kernel)), by decide +kernel⟩
theorem cw_L_118 : cwOK RL 118 3 Y_L_crooked := ⟨⟨mg957, mg958, mg0, mg959⟩, ⟨by decide +kernel, by decide +kernel⟩, by decide +kernel, by decide⟩
theorem mg867 : Cond.methodLink RL 75 Y_L_trace.y ∈ lw_good := List.mem_filter.mpr ⟨List.mem_append_right _ (List.mem_of_getElem? (i := 867) (by decide +kernel)), by decide +kernel⟩
theorem mg869 : Cond.codeWith Y_L_trace.y Y_L_trace.cc Y_L_trace.nL Y_L_trace.rt Y_L_trace.hh ∈ lw_good := List.mem_filter.mpr ⟨List.mem_append_right _ (List.mem_of_getElem? (i := 869) (by decide +kernel)), by decide +kernel⟩
theorem mg868 : Cond.static Y_L_trace.y ∈ lw_good := List.mem_filter.mpr ⟨List.mem_append_right _ (List.mem_of_getElem? (i := 868) (by decide +kernel)), by decide +kernel⟩
theorem cw_L_75 : cwOK RL 75 6 Y_L_trace := ⟨⟨mg867, mg868, mg0, mg869⟩, ⟨by decide +kernel, by decide +kernel⟩, by decide +kernel, by decide⟩
theorem mg949 : Cond.methodLink RL 92 Y_L_draw.y ∈ lw_good := List.mem_filter.mpr ⟨List.mem_append_right _ (List.mem_of_getElem? (i := 949) (by decide +kernel)), by decide +kernel⟩
theorem mg951 : Cond.codeWith Y_L_draw.y Y_L_draw.cc Y_L_draw.nL Y_L_draw.rt Y_L_draw.hh ∈ lw_good := List.mem_filter.mpr ⟨List.mem_append_right _ (List.mem_of_getElem? (i := 951) (by decide +kernel)), by decide +kernel⟩
theorem mg950 : Cond.static Y_L_draw.y ∈ lw_good := List.mem_filter.mpr ⟨List.mem_append_right _ (List.mem_of_getElem? (i := 950) (by decide +kernel)), by decide +kernel⟩
theorem cw_L_92 : cwOK RL 92 5 Y_L_draw := ⟨⟨mg949, mg950, mg0, mg951⟩, ⟨by decide +kernel, by decide +kernel⟩, by decide +kernel, by decide⟩
theorem mg1391 : (Cond.constantLong "CopyArmsLaw" (27 : Nat) (4294967295 : Int64)) ∈ lw_good := List.mem_filter.mpr ⟨List.mem_append_right _ (List.mem_of_getElem? (i := 1391) (by decide +kernel)), by decide +kernel⟩
theorem kb_31 : (Int8.ofInt 31).toInt32 = 31 := by decide
theorem d_L_law_0 : decode Y_L_law.cc 0 = .ok (.new 8, 3) := by decide +kernel
theorem d_L_law_3 : decode Y_L_law.cc 3 = .ok (.dup, 1) := by decide +kernel
theorem d_L_law_4 : decode Y_L_law.cc 4 = .ok (.invokespecial 23, 3) := by decide +kernel
theorem d_L_law_7 : decode Y_L_law.cc 7 = .ok (.astore_n 1, 1) := by decide +kernel
theorem d_L_law_8 : decode Y_L_law.cc 8 = .ok (.new 24, 3) := by decide +kernel
theorem d_L_law_11 : decode Y_L_law.cc 11 = .ok (.dup, 1) := by decide +kernel
theorem d_L_law_12 : decode Y_L_law.cc 12 = .ok (.invokespecial 26, 3) := by decide +kernel
theorem d_L_law_15 : decode Y_L_law.cc 15 = .ok (.astore_n 2, 1) := by decide +kernel
theorem d_L_law_16 : decode Y_L_law.cc 16 = .ok (.iconst 1, 1) := by decide +kernel
theorem d_L_law_17 : decode Y_L_law.cc 17 = .ok (.newarray .long, 2) := by decide +kernel
theorem d_L_law_19 : decode Y_L_law.cc 19 = .ok (.astore_n 3, 1) := by decide +kernel
theorem d_L_law_20 : decode Y_L_law.cc 20 = .ok (.iconst 0, 1) := by decide +kernel
theorem d_L_law_21 : decode Y_L_law.cc 21 = .ok (.istore 4, 2) := by decide +kernel
theorem d_L_law_23 : decode Y_L_law.cc 23 = .ok (.iload 4, 2) := by decide +kernel
theorem d_L_law_25 : decode Y_L_law.cc 25 = .ok (.aload_n 0, 1) := by decide +kernel
theorem d_L_law_26 : decode Y_L_law.cc 26 = .ok (.arraylength, 1) := by decide +kernel
theorem d_L_law_27 : decode Y_L_law.cc 27 = .ok (.bipush 7, 2) := by decide +kernel
theorem d_L_law_29 : decode Y_L_law.cc 29 = .ok (.isub, 1) := by decide +kernel
theorem d_L_law_30 : decode Y_L_law.cc 30 = .ok (.if_icmp .gt 1261, 3) := by decide +kernel
theorem d_L_law_33 : decode Y_L_law.cc 33 = .ok (.aload_n 0, 1) := by decide +kernel
theorem d_L_law_34 : decode Y_L_law.cc 34 = .ok (.iload 4, 2) := by decide +kernel
theorem d_L_law_36 : decode Y_L_law.cc 36 = .ok (.iaload, 1) := by decide +kernel
theorem d_L_law_37 : decode Y_L_law.cc 37 = .ok (.bipush 31, 2) := by decide +kernel
theorem d_L_law_39 : decode Y_L_law.cc 39 = .ok (.iand, 1) := by decide +kernel
theorem d_L_law_40 : decode Y_L_law.cc 40 = .ok (.tableswitch 1245 0 25 #[120, 267, 280, 317, 354, 391, 456, 505, 542, 591, 628, 719, 744, 769, 848, 873, 922, 971, 984, 997, 1053, 1079, 1105, 1142, 1167, 1220], 120) := by decide +kernel
theorem d_L_law_160 : decode Y_L_law.cc 160 = .ok (.aload_n 1, 1) := by decide +kernel
theorem d_L_law_161 : decode Y_L_law.cc 161 = .ok (.aload_n 0, 1) := by decide +kernel
theorem d_L_law_162 : decode Y_L_law.cc 162 = .ok (.iload 4, 2) := by decide +kernel
theorem d_L_law_164 : decode Y_L_law.cc 164 = .ok (.iconst 1, 1) := by decide +kernel
theorem d_L_law_165 : decode Y_L_law.cc 165 = .ok (.iadd, 1) := by decide +kernel
theorem d_L_law_166 : decode Y_L_law.cc 166 = .ok (.iaload, 1) := by decide +kernel
theorem d_L_law_167 : decode Y_L_law.cc 167 = .ok (.i2l, 1) := by decide +kernel
theorem d_L_law_168 : decode Y_L_law.cc 168 = .ok (.bipush 32, 2) := by decide +kernel
theorem d_L_law_170 : decode Y_L_law.cc 170 = .ok (.lshl, 1) := by decide +kernel
theorem d_L_law_171 : decode Y_L_law.cc 171 = .ok (.aload_n 0, 1) := by decide +kernel
theorem d_L_law_172 : decode Y_L_law.cc 172 = .ok (.iload 4, 2) := by decide +kernel
theorem d_L_law_174 : decode Y_L_law.cc 174 = .ok (.iconst 2, 1) := by decide +kernel
theorem d_L_law_175 : decode Y_L_law.cc 175 = .ok (.iadd, 1) := by decide +kernel
theorem d_L_law_176 : decode Y_L_law.cc 176 = .ok (.iaload, 1) := by decide +kernel
theorem d_L_law_177 : decode Y_L_law.cc 177 = .ok (.i2l, 1) := by decide +kernel
theorem d_L_law_178 : decode Y_L_law.cc 178 = .ok (.ldc2_w 27, 3) := by decide +kernel
theorem d_L_law_181 : decode Y_L_law.cc 181 = .ok (.land, 1) := by decide +kernel
theorem d_L_law_182 : decode Y_L_law.cc 182 = .ok (.lor, 1) := by decide +kernel
theorem d_L_law_183 : decode Y_L_law.cc 183 = .ok (.aload_n 0, 1) := by decide +kernel
theorem d_L_law_184 : decode Y_L_law.cc 184 = .ok (.iload 4, 2) := by decide +kernel
theorem d_L_law_186 : decode Y_L_law.cc 186 = .ok (.iconst 3, 1) := by decide +kernel
theorem d_L_law_187 : decode Y_L_law.cc 187 = .ok (.iadd, 1) := by decide +kernel
theorem d_L_law_188 : decode Y_L_law.cc 188 = .ok (.iaload, 1) := by decide +kernel
theorem d_L_law_189 : decode Y_L_law.cc 189 = .ok (.i2l, 1) := by decide +kernel
theorem d_L_law_190 : decode Y_L_law.cc 190 = .ok (.bipush 32, 2) := by decide +kernel
theorem d_L_law_192 : decode Y_L_law.cc 192 = .ok (.lshl, 1) := by decide +kernel
theorem d_L_law_193 : decode Y_L_law.cc 193 = .ok (.aload_n 0, 1) := by decide +kernel
theorem d_L_law_194 : decode Y_L_law.cc 194 = .ok (.iload 4, 2) := by decide +kernel
theorem d_L_law_196 : decode Y_L_law.cc 196 = .ok (.iconst 4, 1) := by decide +kernel
theorem d_L_law_197 : decode Y_L_law.cc 197 = .ok (.iadd, 1) := by decide +kernel
theorem d_L_law_198 : decode Y_L_law.cc 198 = .ok (.iaload, 1) := by decide +kernel
theorem d_L_law_199 : decode Y_L_law.cc 199 = .ok (.i2l, 1) := by decide +kernel
theorem d_L_law_200 : decode Y_L_law.cc 200 = .ok (.ldc2_w 27, 3) := by decide +kernel
theorem d_L_law_203 : decode Y_L_law.cc 203 = .ok (.land, 1) := by decide +kernel
theorem d_L_law_204 : decode Y_L_law.cc 204 = .ok (.lor, 1) := by decide +kernel
theorem d_L_law_205 : decode Y_L_law.cc 205 = .ok (.aload_n 0, 1) := by decide +kernel
theorem d_L_law_206 : decode Y_L_law.cc 206 = .ok (.iload 4, 2) := by decide +kernel
theorem d_L_law_208 : decode Y_L_law.cc 208 = .ok (.iconst 5, 1) := by decide +kernel
theorem d_L_law_209 : decode Y_L_law.cc 209 = .ok (.iadd, 1) := by decide +kernel
theorem d_L_law_210 : decode Y_L_law.cc 210 = .ok (.iaload, 1) := by decide +kernel
theorem d_L_law_211 : decode Y_L_law.cc 211 = .ok (.i2l, 1) := by decide +kernel
theorem d_L_law_212 : decode Y_L_law.cc 212 = .ok (.bipush 32, 2) := by decide +kernel
theorem d_L_law_214 : decode Y_L_law.cc 214 = .ok (.lshl, 1) := by decide +kernel
theorem d_L_law_215 : decode Y_L_law.cc 215 = .ok (.aload_n 0, 1) := by decide +kernel
theorem d_L_law_216 : decode Y_L_law.cc 216 = .ok (.iload 4, 2) := by decide +kernel
theorem d_L_law_218 : decode Y_L_law.cc 218 = .ok (.bipush 6, 2) := by decide +kernel
theorem d_L_law_220 : decode Y_L_law.cc 220 = .ok (.iadd, 1) := by decide +kernel
theorem d_L_law_221 : decode Y_L_law.cc 221 = .ok (.iaload, 1) := by decide +kernel
theorem d_L_law_222 : decode Y_L_law.cc 222 = .ok (.i2l, 1) := by decide +kernel
theorem d_L_law_223 : decode Y_L_law.cc 223 = .ok (.ldc2_w 27, 3) := by decide +kernel
theorem d_L_law_226 : decode Y_L_law.cc 226 = .ok (.land, 1) := by decide +kernel
theorem d_L_law_227 : decode Y_L_law.cc 227 = .ok (.lor, 1) := by decide +kernel
theorem d_L_law_228 : decode Y_L_law.cc 228 = .ok (.invokevirtual 29, 3) := by decide +kernel
theorem d_L_law_231 : decode Y_L_law.cc 231 = .ok (.aload_n 2, 1) := by decide +kernel
theorem d_L_law_232 : decode Y_L_law.cc 232 = .ok (.aload_n 0, 1) := by decide +kernel
theorem d_L_law_233 : decode Y_L_law.cc 233 = .ok (.iload 4, 2) := by decide +kernel
theorem d_L_law_235 : decode Y_L_law.cc 235 = .ok (.iconst 1, 1) := by decide +kernel
theorem d_L_law_236 : decode Y_L_law.cc 236 = .ok (.iadd, 1) := by decide +kernel
theorem d_L_law_237 : decode Y_L_law.cc 237 = .ok (.iaload, 1) := by decide +kernel
theorem d_L_law_238 : decode Y_L_law.cc 238 = .ok (.i2l, 1) := by decide +kernel
theorem d_L_law_239 : decode Y_L_law.cc 239 = .ok (.bipush 32, 2) := by decide +kernel
theorem d_L_law_241 : decode Y_L_law.cc 241 = .ok (.lshl, 1) := by decide +kernel
theorem d_L_law_242 : decode Y_L_law.cc 242 = .ok (.aload_n 0, 1) := by decide +kernel
theorem d_L_law_243 : decode Y_L_law.cc 243 = .ok (.iload 4, 2) := by decide +kernel
theorem d_L_law_245 : decode Y_L_law.cc 245 = .ok (.iconst 2, 1) := by decide +kernel
theorem d_L_law_246 : decode Y_L_law.cc 246 = .ok (.iadd, 1) := by decide +kernel
theorem d_L_law_247 : decode Y_L_law.cc 247 = .ok (.iaload, 1) := by decide +kernel
theorem d_L_law_248 : decode Y_L_law.cc 248 = .ok (.i2l, 1) := by decide +kernel
theorem d_L_law_249 : decode Y_L_law.cc 249 = .ok (.ldc2_w 27, 3) := by decide +kernel
theorem d_L_law_252 : decode Y_L_law.cc 252 = .ok (.land, 1) := by decide +kernel
theorem d_L_law_253 : decode Y_L_law.cc 253 = .ok (.lor, 1) := by decide +kernel
theorem d_L_law_254 : decode Y_L_law.cc 254 = .ok (.aload_n 0, 1) := by decide +kernel
theorem d_L_law_255 : decode Y_L_law.cc 255 = .ok (.iload 4, 2) := by decide +kernel
theorem d_L_law_257 : decode Y_L_law.cc 257 = .ok (.iconst 3, 1) := by decide +kernel
theorem d_L_law_258 : decode Y_L_law.cc 258 = .ok (.iadd, 1) := by decide +kernel
theorem d_L_law_259 : decode Y_L_law.cc 259 = .ok (.iaload, 1) := by decide +kernel
theorem d_L_law_260 : decode Y_L_law.cc 260 = .ok (.i2l, 1) := by decide +kernel
theorem d_L_law_261 : decode Y_L_law.cc 261 = .ok (.bipush 32, 2) := by decide +kernel
theorem d_L_law_263 : decode Y_L_law.cc 263 = .ok (.lshl, 1) := by decide +kernel
theorem d_L_law_264 : decode Y_L_law.cc 264 = .ok (.aload_n 0, 1) := by decide +kernel
theorem d_L_law_265 : decode Y_L_law.cc 265 = .ok (.iload 4, 2) := by decide +kernel
theorem d_L_law_267 : decode Y_L_law.cc 267 = .ok (.iconst 4, 1) := by decide +kernel
theorem d_L_law_268 : decode Y_L_law.cc 268 = .ok (.iadd, 1) := by decide +kernel
theorem d_L_law_269 : decode Y_L_law.cc 269 = .ok (.iaload, 1) := by decide +kernel
theorem d_L_law_270 : decode Y_L_law.cc 270 = .ok (.i2l, 1) := by decide +kernel
theorem d_L_law_271 : decode Y_L_law.cc 271 = .ok (.ldc2_w 27, 3) := by decide +kernel
theorem d_L_law_274 : decode Y_L_law.cc 274 = .ok (.land, 1) := by decide +kernel
theorem d_L_law_275 : decode Y_L_law.cc 275 = .ok (.lor, 1) := by decide +kernel
theorem d_L_law_276 : decode Y_L_law.cc 276 = .ok (.aload_n 0, 1) := by decide +kernel
theorem d_L_law_277 : decode Y_L_law.cc 277 = .ok (.iload 4, 2) := by decide +kernel
theorem d_L_law_279 : decode Y_L_law.cc 279 = .ok (.iconst 5, 1) := by decide +kernel
theorem d_L_law_280 : decode Y_L_law.cc 280 = .ok (.iadd, 1) := by decide +kernel
theorem d_L_law_281 : decode Y_L_law.cc 281 = .ok (.iaload, 1) := by decide +kernel
theorem d_L_law_282 : decode Y_L_law.cc 282 = .ok (.i2l, 1) := by decide +kernel
theorem d_L_law_283 : decode Y_L_law.cc 283 = .ok (.bipush 32, 2) := by decide +kernel
theorem d_L_law_285 : decode Y_L_law.cc 285 = .ok (.lshl, 1) := by decide +kernel
theorem d_L_law_286 : decode Y_L_law.cc 286 = .ok (.aload_n 0, 1) := by decide +kernel
theorem d_L_law_287 : decode Y_L_law.cc 287 = .ok (.iload 4, 2) := by decide +kernel
theorem d_L_law_289 : decode Y_L_law.cc 289 = .ok (.bipush 6, 2) := by decide +kernel
theorem d_L_law_291 : decode Y_L_law.cc 291 = .ok (.iadd, 1) := by decide +kernel
theorem d_L_law_292 : decode Y_L_law.cc 292 = .ok (.iaload, 1) := by decide +kernel
theorem d_L_law_293 : decode Y_L_law.cc 293 = .ok (.i2l, 1) := by decide +kernel
theorem d_L_law_294 : decode Y_L_law.cc 294 = .ok (.ldc2_w 27, 3) := by decide +kernel
theorem d_L_law_297 : decode Y_L_law.cc 297 = .ok (.land, 1) := by decide +kernel
theorem d_L_law_298 : decode Y_L_law.cc 298 = .ok (.lor, 1) := by decide +kernel
theorem d_L_law_299 : decode Y_L_law.cc 299 = .ok (.invokevirtual 33, 3) := by decide +kernel
theorem d_L_law_302 : decode Y_L_law.cc 302 = .ok (.if_icmp .eq 983, 3) := by decide +kernel
theorem d_L_law_305 : decode Y_L_law.cc 305 = .ok (.iconst 0, 1) := by decide +kernel
theorem d_L_law_306 : decode Y_L_law.cc 306 = .ok (.ireturn, 1) := by decide +kernel
theorem d_L_law_307 : decode Y_L_law.cc 307 = .ok (.aload_n 1, 1) := by decide +kernel
theorem d_L_law_308 : decode Y_L_law.cc 308 = .ok (.invokevirtual 34, 3) := by decide +kernel
theorem d_L_law_311 : decode Y_L_law.cc 311 = .ok (.aload_n 2, 1) := by decide +kernel
theorem d_L_law_312 : decode Y_L_law.cc 312 = .ok (.invokevirtual 38, 3) := by decide +kernel
theorem d_L_law_315 : decode Y_L_law.cc 315 = .ok (.if_icmp .eq 970, 3) := by decide +kernel
theorem d_L_law_318 : decode Y_L_law.cc 318 = .ok (.iconst 0, 1) := by decide +kernel
theorem d_L_law_319 : decode Y_L_law.cc 319 = .ok (.ireturn, 1) := by decide +kernel
theorem d_L_law_320 : decode Y_L_law.cc 320 = .ok (.aload_n 1, 1) := by decide +kernel
theorem d_L_law_321 : decode Y_L_law.cc 321 = .ok (.aload_n 0, 1) := by decide +kernel
theorem d_L_law_322 : decode Y_L_law.cc 322 = .ok (.iload 4, 2) := by decide +kernel
theorem d_L_law_324 : decode Y_L_law.cc 324 = .ok (.iconst 1, 1) := by decide +kernel
theorem d_L_law_325 : decode Y_L_law.cc 325 = .ok (.iadd, 1) := by decide +kernel
theorem d_L_law_326 : decode Y_L_law.cc 326 = .ok (.iaload, 1) := by decide +kernel
theorem d_L_law_327 : decode Y_L_law.cc 327 = .ok (.aload_n 0, 1) := by decide +kernel
theorem d_L_law_328 : decode Y_L_law.cc 328 = .ok (.iload 4, 2) := by decide +kernel
theorem d_L_law_330 : decode Y_L_law.cc 330 = .ok (.iconst 2, 1) := by decide +kernel
theorem d_L_law_331 : decode Y_L_law.cc 331 = .ok (.iadd, 1) := by decide +kernel
theorem d_L_law_332 : decode Y_L_law.cc 332 = .ok (.iaload, 1) := by decide +kernel
theorem d_L_law_333 : decode Y_L_law.cc 333 = .ok (.invokevirtual 39, 3) := by decide +kernel
theorem d_L_law_336 : decode Y_L_law.cc 336 = .ok (.aload_n 2, 1) := by decide +kernel
theorem d_L_law_337 : decode Y_L_law.cc 337 = .ok (.aload_n 0, 1) := by decide +kernel
theorem d_L_law_338 : decode Y_L_law.cc 338 = .ok (.iload 4, 2) := by decide +kernel
theorem d_L_law_340 : decode Y_L_law.cc 340 = .ok (.iconst 1, 1) := by decide +kernel
theorem d_L_law_341 : decode Y_L_law.cc 341 = .ok (.iadd, 1) := by decide +kernel
theorem d_L_law_342 : decode Y_L_law.cc 342 = .ok (.iaload, 1) := by decide +kernel
theorem d_L_law_343 : decode Y_L_law.cc 343 = .ok (.aload_n 0, 1) := by decide +kernel
theorem d_L_law_344 : decode Y_L_law.cc 344 = .ok (.iload 4, 2) := by decide +kernel
theorem d_L_law_346 : decode Y_L_law.cc 346 = .ok (.iconst 2, 1) := by decide +kernel
theorem d_L_law_347 : decode Y_L_law.cc 347 = .ok (.iadd, 1) := by decide +kernel
theorem d_L_law_348 : decode Y_L_law.cc 348 = .ok (.iaload, 1) := by decide +kernel
theorem d_L_law_349 : decode Y_L_law.cc 349 = .ok (.invokevirtual 43, 3) := by decide +kernel
theorem d_L_law_352 : decode Y_L_law.cc 352 = .ok (.if_icmp .eq 933, 3) := by decide +kernel
theorem d_L_law_355 : decode Y_L_law.cc 355 = .ok (.iconst 0, 1) := by decide +kernel
theorem d_L_law_356 : decode Y_L_law.cc 356 = .ok (.ireturn, 1) := by decide +kernel
theorem d_L_law_357 : decode Y_L_law.cc 357 = .ok (.aload_n 1, 1) := by decide +kernel
theorem d_L_law_358 : decode Y_L_law.cc 358 = .ok (.aload_n 0, 1) := by decide +kernel
theorem d_L_law_359 : decode Y_L_law.cc 359 = .ok (.iload 4, 2) := by decide +kernel
theorem d_L_law_361 : decode Y_L_law.cc 361 = .ok (.iconst 1, 1) := by decide +kernel
theorem d_L_law_362 : decode Y_L_law.cc 362 = .ok (.iadd, 1) := by decide +kernel
theorem d_L_law_363 : decode Y_L_law.cc 363 = .ok (.iaload, 1) := by decide +kernel
theorem d_L_law_364 : decode Y_L_law.cc 364 = .ok (.aload_n 0, 1) := by decide +kernel
theorem d_L_law_365 : decode Y_L_law.cc 365 = .ok (.iload 4, 2) := by decide +kernel
theorem d_L_law_367 : decode Y_L_law.cc 367 = .ok (.iconst 2, 1) := by decide +kernel
theorem d_L_law_368 : decode Y_L_law.cc 368 = .ok (.iadd, 1) := by decide +kernel
theorem d_L_law_369 : decode Y_L_law.cc 369 = .ok (.iaload, 1) := by decide +kernel
theorem d_L_law_370 : decode Y_L_law.cc 370 = .ok (.invokevirtual 44, 3) := by decide +kernel
theorem d_L_law_373 : decode Y_L_law.cc 373 = .ok (.aload_n 2, 1) := by decide +kernel
theorem d_L_law_374 : decode Y_L_law.cc 374 = .ok (.aload_n 0, 1) := by decide +kernel
theorem d_L_law_375 : decode Y_L_law.cc 375 = .ok (.iload 4, 2) := by decide +kernel
theorem d_L_law_377 : decode Y_L_law.cc 377 = .ok (.iconst 1, 1) := by decide +kernel
theorem d_L_law_378 : decode Y_L_law.cc 378 = .ok (.iadd, 1) := by decide +kernel
theorem d_L_law_379 : decode Y_L_law.cc 379 = .ok (.iaload, 1) := by decide +kernel
theorem d_L_law_380 : decode Y_L_law.cc 380 = .ok (.aload_n 0, 1) := by decide +kernel
theorem d_L_law_381 : decode Y_L_law.cc 381 = .ok (.iload 4, 2) := by decide +kernel
theorem d_L_law_383 : decode Y_L_law.cc 383 = .ok (.iconst 2, 1) := by decide +kernel
theorem d_L_law_384 : decode Y_L_law.cc 384 = .ok (.iadd, 1) := by decide +kernel
theorem d_L_law_385 : decode Y_L_law.cc 385 = .ok (.iaload, 1) := by decide +kernel
theorem d_L_law_386 : decode Y_L_law.cc 386 = .ok (.invokevirtual 47, 3) := by decide +kernel
theorem d_L_law_389 : decode Y_L_law.cc 389 = .ok (.if_icmp .eq 896, 3) := by decide +kernel
theorem d_L_law_392 : decode Y_L_law.cc 392 = .ok (.iconst 0, 1) := by decide +kernel
theorem d_L_law_393 : decode Y_L_law.cc 393 = .ok (.ireturn, 1) := by decide +kernel
theorem d_L_law_394 : decode Y_L_law.cc 394 = .ok (.aload_n 1, 1) := by decide +kernel
theorem d_L_law_395 : decode Y_L_law.cc 395 = .ok (.aload_n 0, 1) := by decide +kernel
theorem d_L_law_396 : decode Y_L_law.cc 396 = .ok (.iload 4, 2) := by decide +kernel
theorem d_L_law_398 : decode Y_L_law.cc 398 = .ok (.iconst 1, 1) := by decide +kernel
theorem d_L_law_399 : decode Y_L_law.cc 399 = .ok (.iadd, 1) := by decide +kernel
theorem d_L_law_400 : decode Y_L_law.cc 400 = .ok (.iaload, 1) := by decide +kernel
theorem d_L_law_401 : decode Y_L_law.cc 401 = .ok (.aload_n 0, 1) := by decide +kernel
theorem d_L_law_402 : decode Y_L_law.cc 402 = .ok (.iload 4, 2) := by decide +kernel
theorem d_L_law_404 : decode Y_L_law.cc 404 = .ok (.iconst 2, 1) := by decide +kernel
theorem d_L_law_405 : decode Y_L_law.cc 405 = .ok (.iadd, 1) := by decide +kernel
theorem d_L_law_406 : decode Y_L_law.cc 406 = .ok (.iaload, 1) := by decide +kernel
theorem d_L_law_407 : decode Y_L_law.cc 407 = .ok (.invokevirtual 48, 3) := by decide +kernel
theorem d_L_law_410 : decode Y_L_law.cc 410 = .ok (.aload_n 2, 1) := by decide +kernel
theorem d_L_law_411 : decode Y_L_law.cc 411 = .ok (.aload_n 0, 1) := by decide +kernel
theorem d_L_law_412 : decode Y_L_law.cc 412 = .ok (.iload 4, 2) := by decide +kernel
theorem d_L_law_414 : decode Y_L_law.cc 414 = .ok (.iconst 1, 1) := by decide +kernel
theorem d_L_law_415 : decode Y_L_law.cc 415 = .ok (.iadd, 1) := by decide +kernel
theorem d_L_law_416 : decode Y_L_law.cc 416 = .ok (.iaload, 1) := by decide +kernel
theorem d_L_law_417 : decode Y_L_law.cc 417 = .ok (.aload_n 0, 1) := by decide +kernel
theorem d_L_law_418 : decode Y_L_law.cc 418 = .ok (.iload 4, 2) := by decide +kernel
theorem d_L_law_420 : decode Y_L_law.cc 420 = .ok (.iconst 2, 1) := by decide +kernel
theorem d_L_law_421 : decode Y_L_law.cc 421 = .ok (.iadd, 1) := by decide +kernel
theorem d_L_law_422 : decode Y_L_law.cc 422 = .ok (.iaload, 1) := by decide +kernel
theorem d_L_law_423 : decode Y_L_law.cc 423 = .ok (.invokevirtual 51, 3) := by decide +kernel
theorem d_L_law_426 : decode Y_L_law.cc 426 = .ok (.if_icmp .eq 859, 3) := by decide +kernel
theorem d_L_law_429 : decode Y_L_law.cc 429 = .ok (.iconst 0, 1) := by decide +kernel
theorem d_L_law_430 : decode Y_L_law.cc 430 = .ok (.ireturn, 1) := by decide +kernel
theorem d_L_law_431 : decode Y_L_law.cc 431 = .ok (.aload_n 1, 1) := by decide +kernel
theorem d_L_law_432 : decode Y_L_law.cc 432 = .ok (.aload_n 0, 1) := by decide +kernel
theorem d_L_law_433 : decode Y_L_law.cc 433 = .ok (.iload 4, 2) := by decide +kernel
theorem d_L_law_435 : decode Y_L_law.cc 435 = .ok (.iconst 1, 1) := by decide +kernel
theorem d_L_law_436 : decode Y_L_law.cc 436 = .ok (.iadd, 1) := by decide +kernel
theorem d_L_law_437 : decode Y_L_law.cc 437 = .ok (.iaload, 1) := by decide +kernel
theorem d_L_law_438 : decode Y_L_law.cc 438 = .ok (.aload_n 0, 1) := by decide +kernel
theorem d_L_law_439 : decode Y_L_law.cc 439 = .ok (.iload 4, 2) := by decide +kernel
theorem d_L_law_441 : decode Y_L_law.cc 441 = .ok (.iconst 2, 1) := by decide +kernel
theorem d_L_law_442 : decode Y_L_law.cc 442 = .ok (.iadd, 1) := by decide +kernel
theorem d_L_law_443 : decode Y_L_law.cc 443 = .ok (.iaload, 1) := by decide +kernel
theorem d_L_law_444 : decode Y_L_law.cc 444 = .ok (.aload_n 0, 1) := by decide +kernel
theorem d_L_law_445 : decode Y_L_law.cc 445 = .ok (.iload 4, 2) := by decide +kernel
theorem d_L_law_447 : decode Y_L_law.cc 447 = .ok (.iconst 3, 1) := by decide +kernel
theorem d_L_law_448 : decode Y_L_law.cc 448 = .ok (.iadd, 1) := by decide +kernel
theorem d_L_law_449 : decode Y_L_law.cc 449 = .ok (.iaload, 1) := by decide +kernel
theorem d_L_law_450 : decode Y_L_law.cc 450 = .ok (.ifCond .eq 7, 3) := by decide +kernel
theorem d_L_law_453 : decode Y_L_law.cc 453 = .ok (.iconst 1, 1) := by decide +kernel
theorem d_L_law_454 : decode Y_L_law.cc 454 = .ok (.goto 4, 3) := by decide +kernel
theorem d_L_law_457 : decode Y_L_law.cc 457 = .ok (.iconst 0, 1) := by decide +kernel
theorem d_L_law_458 : decode Y_L_law.cc 458 = .ok (.invokevirtual 52, 3) := by decide +kernel
theorem d_L_law_461 : decode Y_L_law.cc 461 = .ok (.aload_n 2, 1) := by decide +kernel
theorem d_L_law_462 : decode Y_L_law.cc 462 = .ok (.aload_n 0, 1) := by decide +kernel
theorem d_L_law_463 : decode Y_L_law.cc 463 = .ok (.iload 4, 2) := by decide +kernel
theorem d_L_law_465 : decode Y_L_law.cc 465 = .ok (.iconst 1, 1) := by decide +kernel
theorem d_L_law_466 : decode Y_L_law.cc 466 = .ok (.iadd, 1) := by decide +kernel
theorem d_L_law_467 : decode Y_L_law.cc 467 = .ok (.iaload, 1) := by decide +kernel
theorem d_L_law_468 : decode Y_L_law.cc 468 = .ok (.aload_n 0, 1) := by decide +kernel
theorem d_L_law_469 : decode Y_L_law.cc 469 = .ok (.iload 4, 2) := by decide +kernel
theorem d_L_law_471 : decode Y_L_law.cc 471 = .ok (.iconst 2, 1) := by decide +kernel
theorem d_L_law_472 : decode Y_L_law.cc 472 = .ok (.iadd, 1) := by decide +kernel
theorem d_L_law_473 : decode Y_L_law.cc 473 = .ok (.iaload, 1) := by decide +kernel
theorem d_L_law_474 : decode Y_L_law.cc 474 = .ok (.aload_n 0, 1) := by decide +kernel
theorem d_L_law_475 : decode Y_L_law.cc 475 = .ok (.iload 4, 2) := by decide +kernel
theorem d_L_law_477 : decode Y_L_law.cc 477 = .ok (.iconst 3, 1) := by decide +kernel
theorem d_L_law_478 : decode Y_L_law.cc 478 = .ok (.iadd, 1) := by decide +kernel
theorem d_L_law_479 : decode Y_L_law.cc 479 = .ok (.iaload, 1) := by decide +kernel
theorem d_L_law_480 : decode Y_L_law.cc 480 = .ok (.ifCond .eq 7, 3) := by decide +kernel
theorem d_L_law_483 : decode Y_L_law.cc 483 = .ok (.iconst 1, 1) := by decide +kernel
theorem d_L_law_484 : decode Y_L_law.cc 484 = .ok (.goto 4, 3) := by decide +kernel
theorem d_L_law_487 : decode Y_L_law.cc 487 = .ok (.iconst 0, 1) := by decide +kernel
theorem d_L_law_488 : decode Y_L_law.cc 488 = .ok (.invokevirtual 56, 3) := by decide +kernel
theorem d_L_law_491 : decode Y_L_law.cc 491 = .ok (.if_icmp .eq 794, 3) := by decide +kernel
theorem d_L_law_494 : decode Y_L_law.cc 494 = .ok (.iconst 0, 1) := by decide +kernel
theorem d_L_law_495 : decode Y_L_law.cc 495 = .ok (.ireturn, 1) := by decide +kernel
theorem d_L_law_496 : decode Y_L_law.cc 496 = .ok (.aload_n 1, 1) := by decide +kernel
theorem d_L_law_497 : decode Y_L_law.cc 497 = .ok (.aload_n 0, 1) := by decide +kernel
theorem d_L_law_498 : decode Y_L_law.cc 498 = .ok (.iload 4, 2) := by decide +kernel
theorem d_L_law_500 : decode Y_L_law.cc 500 = .ok (.iconst 1, 1) := by decide +kernel
theorem d_L_law_501 : decode Y_L_law.cc 501 = .ok (.iadd, 1) := by decide +kernel
theorem d_L_law_502 : decode Y_L_law.cc 502 = .ok (.iaload, 1) := by decide +kernel
theorem d_L_law_503 : decode Y_L_law.cc 503 = .ok (.aload_n 0, 1) := by decide +kernel
theorem d_L_law_504 : decode Y_L_law.cc 504 = .ok (.iload 4, 2) := by decide +kernel
theorem d_L_law_506 : decode Y_L_law.cc 506 = .ok (.iconst 2, 1) := by decide +kernel
theorem d_L_law_507 : decode Y_L_law.cc 507 = .ok (.iadd, 1) := by decide +kernel
theorem d_L_law_508 : decode Y_L_law.cc 508 = .ok (.iaload, 1) := by decide +kernel
theorem d_L_law_509 : decode Y_L_law.cc 509 = .ok (.aload_n 0, 1) := by decide +kernel
theorem d_L_law_510 : decode Y_L_law.cc 510 = .ok (.iload 4, 2) := by decide +kernel
theorem d_L_law_512 : decode Y_L_law.cc 512 = .ok (.iconst 3, 1) := by decide +kernel
theorem d_L_law_513 : decode Y_L_law.cc 513 = .ok (.iadd, 1) := by decide +kernel
theorem d_L_law_514 : decode Y_L_law.cc 514 = .ok (.iaload, 1) := by decide +kernel
theorem d_L_law_515 : decode Y_L_law.cc 515 = .ok (.invokevirtual 57, 3) := by decide +kernel
theorem d_L_law_518 : decode Y_L_law.cc 518 = .ok (.aload_n 2, 1) := by decide +kernel
theorem d_L_law_519 : decode Y_L_law.cc 519 = .ok (.aload_n 0, 1) := by decide +kernel
theorem d_L_law_520 : decode Y_L_law.cc 520 = .ok (.iload 4, 2) := by decide +kernel
theorem d_L_law_522 : decode Y_L_law.cc 522 = .ok (.iconst 1, 1) := by decide +kernel
theorem d_L_law_523 : decode Y_L_law.cc 523 = .ok (.iadd, 1) := by decide +kernel
theorem d_L_law_524 : decode Y_L_law.cc 524 = .ok (.iaload, 1) := by decide +kernel
theorem d_L_law_525 : decode Y_L_law.cc 525 = .ok (.aload_n 0, 1) := by decide +kernel
theorem d_L_law_526 : decode Y_L_law.cc 526 = .ok (.iload 4, 2) := by decide +kernel
theorem d_L_law_528 : decode Y_L_law.cc 528 = .ok (.iconst 2, 1) := by decide +kernel
theorem d_L_law_529 : decode Y_L_law.cc 529 = .ok (.iadd, 1) := by decide +kernel
theorem d_L_law_530 : decode Y_L_law.cc 530 = .ok (.iaload, 1) := by decide +kernel
theorem d_L_law_531 : decode Y_L_law.cc 531 = .ok (.aload_n 0, 1) := by decide +kernel
theorem d_L_law_532 : decode Y_L_law.cc 532 = .ok (.iload 4, 2) := by decide +kernel
theorem d_L_law_534 : decode Y_L_law.cc 534 = .ok (.iconst 3, 1) := by decide +kernel
theorem d_L_law_535 : decode Y_L_law.cc 535 = .ok (.iadd, 1) := by decide +kernel
theorem d_L_law_536 : decode Y_L_law.cc 536 = .ok (.iaload, 1) := by decide +kernel
theorem d_L_law_537 : decode Y_L_law.cc 537 = .ok (.invokevirtual 61, 3) := by decide +kernel
theorem d_L_law_540 : decode Y_L_law.cc 540 = .ok (.if_icmp .eq 745, 3) := by decide +kernel
theorem d_L_law_543 : decode Y_L_law.cc 543 = .ok (.iconst 0, 1) := by decide +kernel
theorem d_L_law_544 : decode Y_L_law.cc 544 = .ok (.ireturn, 1) := by decide +kernel
theorem d_L_law_545 : decode Y_L_law.cc 545 = .ok (.aload_n 1, 1) := by decide +kernel
theorem d_L_law_546 : decode Y_L_law.cc 546 = .ok (.aload_n 0, 1) := by decide +kernel
theorem d_L_law_547 : decode Y_L_law.cc 547 = .ok (.iload 4, 2) := by decide +kernel
theorem d_L_law_549 : decode Y_L_law.cc 549 = .ok (.iconst 1, 1) := by decide +kernel
theorem d_L_law_550 : decode Y_L_law.cc 550 = .ok (.iadd, 1) := by decide +kernel
theorem d_L_law_551 : decode Y_L_law.cc 551 = .ok (.iaload, 1) := by decide +kernel
theorem d_L_law_552 : decode Y_L_law.cc 552 = .ok (.aload_n 0, 1) := by decide +kernel
theorem d_L_law_553 : decode Y_L_law.cc 553 = .ok (.iload 4, 2) := by decide +kernel
theorem d_L_law_555 : decode Y_L_law.cc 555 = .ok (.iconst 2, 1) := by decide +kernel
theorem d_L_law_556 : decode Y_L_law.cc 556 = .ok (.iadd, 1) := by decide +kernel
theorem d_L_law_557 : decode Y_L_law.cc 557 = .ok (.iaload, 1) := by decide +kernel
theorem d_L_law_558 : decode Y_L_law.cc 558 = .ok (.invokevirtual 62, 3) := by decide +kernel
theorem d_L_law_561 : decode Y_L_law.cc 561 = .ok (.aload_n 2, 1) := by decide +kernel
theorem d_L_law_562 : decode Y_L_law.cc 562 = .ok (.aload_n 0, 1) := by decide +kernel
theorem d_L_law_563 : decode Y_L_law.cc 563 = .ok (.iload 4, 2) := by decide +kernel
theorem d_L_law_565 : decode Y_L_law.cc 565 = .ok (.iconst 1, 1) := by decide +kernel
theorem d_L_law_566 : decode Y_L_law.cc 566 = .ok (.iadd, 1) := by decide +kernel
theorem d_L_law_567 : decode Y_L_law.cc 567 = .ok (.iaload, 1) := by decide +kernel
theorem d_L_law_568 : decode Y_L_law.cc 568 = .ok (.aload_n 0, 1) := by decide +kernel
theorem d_L_law_569 : decode Y_L_law.cc 569 = .ok (.iload 4, 2) := by decide +kernel
theorem d_L_law_571 : decode Y_L_law.cc 571 = .ok (.iconst 2, 1) := by decide +kernel
theorem d_L_law_572 : decode Y_L_law.cc 572 = .ok (.iadd, 1) := by decide +kernel
theorem d_L_law_573 : decode Y_L_law.cc 573 = .ok (.iaload, 1) := by decide +kernel
theorem d_L_law_574 : decode Y_L_law.cc 574 = .ok (.invokevirtual 66, 3) := by decide +kernel
theorem d_L_law_577 : decode Y_L_law.cc 577 = .ok (.if_icmp .eq 708, 3) := by decide +kernel
theorem d_L_law_580 : decode Y_L_law.cc 580 = .ok (.iconst 0, 1) := by decide +kernel
theorem d_L_law_581 : decode Y_L_law.cc 581 = .ok (.ireturn, 1) := by decide +kernel
theorem d_L_law_582 : decode Y_L_law.cc 582 = .ok (.aload_n 1, 1) := by decide +kernel
theorem d_L_law_583 : decode Y_L_law.cc 583 = .ok (.aload_n 0, 1) := by decide +kernel
theorem d_L_law_584 : decode Y_L_law.cc 584 = .ok (.iload 4, 2) := by decide +kernel
theorem d_L_law_586 : decode Y_L_law.cc 586 = .ok (.iconst 1, 1) := by decide +kernel
theorem d_L_law_587 : decode Y_L_law.cc 587 = .ok (.iadd, 1) := by decide +kernel
theorem d_L_law_588 : decode Y_L_law.cc 588 = .ok (.iaload, 1) := by decide +kernel
theorem d_L_law_589 : decode Y_L_law.cc 589 = .ok (.aload_n 0, 1) := by decide +kernel
theorem d_L_law_590 : decode Y_L_law.cc 590 = .ok (.iload 4, 2) := by decide +kernel
theorem d_L_law_592 : decode Y_L_law.cc 592 = .ok (.iconst 2, 1) := by decide +kernel
theorem d_L_law_593 : decode Y_L_law.cc 593 = .ok (.iadd, 1) := by decide +kernel
theorem d_L_law_594 : decode Y_L_law.cc 594 = .ok (.iaload, 1) := by decide +kernel
theorem d_L_law_595 : decode Y_L_law.cc 595 = .ok (.aload_n 0, 1) := by decide +kernel
theorem d_L_law_596 : decode Y_L_law.cc 596 = .ok (.iload 4, 2) := by decide +kernel
theorem d_L_law_598 : decode Y_L_law.cc 598 = .ok (.iconst 3, 1) := by decide +kernel
theorem d_L_law_599 : decode Y_L_law.cc 599 = .ok (.iadd, 1) := by decide +kernel
theorem d_L_law_600 : decode Y_L_law.cc 600 = .ok (.iaload, 1) := by decide +kernel
theorem d_L_law_601 : decode Y_L_law.cc 601 = .ok (.invokevirtual 67, 3) := by decide +kernel
theorem d_L_law_604 : decode Y_L_law.cc 604 = .ok (.aload_n 2, 1) := by decide +kernel
theorem d_L_law_605 : decode Y_L_law.cc 605 = .ok (.aload_n 0, 1) := by decide +kernel
theorem d_L_law_606 : decode Y_L_law.cc 606 = .ok (.iload 4, 2) := by decide +kernel
theorem d_L_law_608 : decode Y_L_law.cc 608 = .ok (.iconst 1, 1) := by decide +kernel
theorem d_L_law_609 : decode Y_L_law.cc 609 = .ok (.iadd, 1) := by decide +kernel
theorem d_L_law_610 : decode Y_L_law.cc 610 = .ok (.iaload, 1) := by decide +kernel
theorem d_L_law_611 : decode Y_L_law.cc 611 = .ok (.aload_n 0, 1) := by decide +kernel
theorem d_L_law_612 : decode Y_L_law.cc 612 = .ok (.iload 4, 2) := by decide +kernel
theorem d_L_law_614 : decode Y_L_law.cc 614 = .ok (.iconst 2, 1) := by decide +kernel
theorem d_L_law_615 : decode Y_L_law.cc 615 = .ok (.iadd, 1) := by decide +kernel
theorem d_L_law_616 : decode Y_L_law.cc 616 = .ok (.iaload, 1) := by decide +kernel
theorem d_L_law_617 : decode Y_L_law.cc 617 = .ok (.aload_n 0, 1) := by decide +kernel
theorem d_L_law_618 : decode Y_L_law.cc 618 = .ok (.iload 4, 2) := by decide +kernel
theorem d_L_law_620 : decode Y_L_law.cc 620 = .ok (.iconst 3, 1) := by decide +kernel
theorem d_L_law_621 : decode Y_L_law.cc 621 = .ok (.iadd, 1) := by decide +kernel
theorem d_L_law_622 : decode Y_L_law.cc 622 = .ok (.iaload, 1) := by decide +kernel
theorem d_L_law_623 : decode Y_L_law.cc 623 = .ok (.invokevirtual 70, 3) := by decide +kernel
theorem d_L_law_626 : decode Y_L_law.cc 626 = .ok (.if_icmp .eq 659, 3) := by decide +kernel
theorem d_L_law_629 : decode Y_L_law.cc 629 = .ok (.iconst 0, 1) := by decide +kernel
theorem d_L_law_630 : decode Y_L_law.cc 630 = .ok (.ireturn, 1) := by decide +kernel
theorem d_L_law_631 : decode Y_L_law.cc 631 = .ok (.aload_n 1, 1) := by decide +kernel
theorem d_L_law_632 : decode Y_L_law.cc 632 = .ok (.aload_n 0, 1) := by decide +kernel
theorem d_L_law_633 : decode Y_L_law.cc 633 = .ok (.iload 4, 2) := by decide +kernel
theorem d_L_law_635 : decode Y_L_law.cc 635 = .ok (.iconst 1, 1) := by decide +kernel
theorem d_L_law_636 : decode Y_L_law.cc 636 = .ok (.iadd, 1) := by decide +kernel
theorem d_L_law_637 : decode Y_L_law.cc 637 = .ok (.iaload, 1) := by decide +kernel
theorem d_L_law_638 : decode Y_L_law.cc 638 = .ok (.aload_n 0, 1) := by decide +kernel
theorem d_L_law_639 : decode Y_L_law.cc 639 = .ok (.iload 4, 2) := by decide +kernel
theorem d_L_law_641 : decode Y_L_law.cc 641 = .ok (.iconst 2, 1) := by decide +kernel
theorem d_L_law_642 : decode Y_L_law.cc 642 = .ok (.iadd, 1) := by decide +kernel
theorem d_L_law_643 : decode Y_L_law.cc 643 = .ok (.iaload, 1) := by decide +kernel
theorem d_L_law_644 : decode Y_L_law.cc 644 = .ok (.invokevirtual 71, 3) := by decide +kernel
theorem d_L_law_647 : decode Y_L_law.cc 647 = .ok (.aload_n 2, 1) := by decide +kernel
theorem d_L_law_648 : decode Y_L_law.cc 648 = .ok (.aload_n 0, 1) := by decide +kernel
theorem d_L_law_649 : decode Y_L_law.cc 649 = .ok (.iload 4, 2) := by decide +kernel
theorem d_L_law_651 : decode Y_L_law.cc 651 = .ok (.iconst 1, 1) := by decide +kernel
theorem d_L_law_652 : decode Y_L_law.cc 652 = .ok (.iadd, 1) := by decide +kernel
theorem d_L_law_653 : decode Y_L_law.cc 653 = .ok (.iaload, 1) := by decide +kernel
theorem d_L_law_654 : decode Y_L_law.cc 654 = .ok (.aload_n 0, 1) := by decide +kernel
theorem d_L_law_655 : decode Y_L_law.cc 655 = .ok (.iload 4, 2) := by decide +kernel
theorem d_L_law_657 : decode Y_L_law.cc 657 = .ok (.iconst 2, 1) := by decide +kernel
theorem d_L_law_658 : decode Y_L_law.cc 658 = .ok (.iadd, 1) := by decide +kernel
theorem d_L_law_659 : decode Y_L_law.cc 659 = .ok (.iaload, 1) := by decide +kernel
theorem d_L_law_660 : decode Y_L_law.cc 660 = .ok (.invokevirtual 74, 3) := by decide +kernel
theorem d_L_law_663 : decode Y_L_law.cc 663 = .ok (.if_icmp .eq 622, 3) := by decide +kernel
theorem d_L_law_666 : decode Y_L_law.cc 666 = .ok (.iconst 0, 1) := by decide +kernel
theorem d_L_law_667 : decode Y_L_law.cc 667 = .ok (.ireturn, 1) := by decide +kernel
theorem d_L_law_668 : decode Y_L_law.cc 668 = .ok (.aload_n 1, 1) := by decide +kernel
theorem d_L_law_669 : decode Y_L_law.cc 669 = .ok (.aload_n 0, 1) := by decide +kernel
theorem d_L_law_670 : decode Y_L_law.cc 670 = .ok (.iload 4, 2) := by decide +kernel
theorem d_L_law_672 : decode Y_L_law.cc 672 = .ok (.iconst 1, 1) := by decide +kernel
theorem d_L_law_673 : decode Y_L_law.cc 673 = .ok (.iadd, 1) := by decide +kernel
theorem d_L_law_674 : decode Y_L_law.cc 674 = .ok (.iaload, 1) := by decide +kernel
theorem d_L_law_675 : decode Y_L_law.cc 675 = .ok (.aload_n 0, 1) := by decide +kernel
theorem d_L_law_676 : decode Y_L_law.cc 676 = .ok (.iload 4, 2) := by decide +kernel
theorem d_L_law_678 : decode Y_L_law.cc 678 = .ok (.iconst 2, 1) := by decide +kernel
theorem d_L_law_679 : decode Y_L_law.cc 679 = .ok (.iadd, 1) := by decide +kernel
theorem d_L_law_680 : decode Y_L_law.cc 680 = .ok (.iaload, 1) := by decide +kernel
theorem d_L_law_681 : decode Y_L_law.cc 681 = .ok (.aload_n 0, 1) := by decide +kernel
theorem d_L_law_682 : decode Y_L_law.cc 682 = .ok (.iload 4, 2) := by decide +kernel
theorem d_L_law_684 : decode Y_L_law.cc 684 = .ok (.iconst 3, 1) := by decide +kernel
theorem d_L_law_685 : decode Y_L_law.cc 685 = .ok (.iadd, 1) := by decide +kernel
theorem d_L_law_686 : decode Y_L_law.cc 686 = .ok (.iaload, 1) := by decide +kernel
theorem d_L_law_687 : decode Y_L_law.cc 687 = .ok (.aload_n 0, 1) := by decide +kernel
theorem d_L_law_688 : decode Y_L_law.cc 688 = .ok (.iload 4, 2) := by decide +kernel
theorem d_L_law_690 : decode Y_L_law.cc 690 = .ok (.iconst 4, 1) := by decide +kernel
theorem d_L_law_691 : decode Y_L_law.cc 691 = .ok (.iadd, 1) := by decide +kernel
theorem d_L_law_692 : decode Y_L_law.cc 692 = .ok (.iaload, 1) := by decide +kernel
theorem d_L_law_693 : decode Y_L_law.cc 693 = .ok (.aload_n 3, 1) := by decide +kernel
theorem d_L_law_694 : decode Y_L_law.cc 694 = .ok (.invokestatic 75, 3) := by decide +kernel
theorem d_L_law_697 : decode Y_L_law.cc 697 = .ok (.istore 5, 2) := by decide +kernel
theorem d_L_law_699 : decode Y_L_law.cc 699 = .ok (.aload_n 2, 1) := by decide +kernel
theorem d_L_law_700 : decode Y_L_law.cc 700 = .ok (.aload_n 0, 1) := by decide +kernel
theorem d_L_law_701 : decode Y_L_law.cc 701 = .ok (.iload 4, 2) := by decide +kernel
theorem d_L_law_703 : decode Y_L_law.cc 703 = .ok (.iconst 1, 1) := by decide +kernel
theorem d_L_law_704 : decode Y_L_law.cc 704 = .ok (.iadd, 1) := by decide +kernel
theorem d_L_law_705 : decode Y_L_law.cc 705 = .ok (.iaload, 1) := by decide +kernel
theorem d_L_law_706 : decode Y_L_law.cc 706 = .ok (.aload_n 0, 1) := by decide +kernel
theorem d_L_law_707 : decode Y_L_law.cc 707 = .ok (.iload 4, 2) := by decide +kernel
theorem d_L_law_709 : decode Y_L_law.cc 709 = .ok (.iconst 2, 1) := by decide +kernel
theorem d_L_law_710 : decode Y_L_law.cc 710 = .ok (.iadd, 1) := by decide +kernel
theorem d_L_law_711 : decode Y_L_law.cc 711 = .ok (.iaload, 1) := by decide +kernel
theorem d_L_law_712 : decode Y_L_law.cc 712 = .ok (.aload_n 0, 1) := by decide +kernel
theorem d_L_law_713 : decode Y_L_law.cc 713 = .ok (.iload 4, 2) := by decide +kernel
theorem d_L_law_715 : decode Y_L_law.cc 715 = .ok (.iconst 3, 1) := by decide +kernel
theorem d_L_law_716 : decode Y_L_law.cc 716 = .ok (.iadd, 1) := by decide +kernel
theorem d_L_law_717 : decode Y_L_law.cc 717 = .ok (.iaload, 1) := by decide +kernel
theorem d_L_law_718 : decode Y_L_law.cc 718 = .ok (.aload_n 0, 1) := by decide +kernel
theorem d_L_law_719 : decode Y_L_law.cc 719 = .ok (.iload 4, 2) := by decide +kernel
theorem d_L_law_721 : decode Y_L_law.cc 721 = .ok (.iconst 4, 1) := by decide +kernel
theorem d_L_law_722 : decode Y_L_law.cc 722 = .ok (.iadd, 1) := by decide +kernel
theorem d_L_law_723 : decode Y_L_law.cc 723 = .ok (.iaload, 1) := by decide +kernel
theorem d_L_law_724 : decode Y_L_law.cc 724 = .ok (.invokevirtual 80, 3) := by decide +kernel
theorem d_L_law_727 : decode Y_L_law.cc 727 = .ok (.lstore 6, 2) := by decide +kernel
theorem d_L_law_729 : decode Y_L_law.cc 729 = .ok (.aload_n 2, 1) := by decide +kernel
theorem d_L_law_730 : decode Y_L_law.cc 730 = .ok (.invokevirtual 81, 3) := by decide +kernel
theorem d_L_law_733 : decode Y_L_law.cc 733 = .ok (.iload 5, 2) := by decide +kernel
theorem d_L_law_735 : decode Y_L_law.cc 735 = .ok (.if_icmp .eq 5, 3) := by decide +kernel
theorem d_L_law_738 : decode Y_L_law.cc 738 = .ok (.iconst 0, 1) := by decide +kernel
theorem d_L_law_739 : decode Y_L_law.cc 739 = .ok (.ireturn, 1) := by decide +kernel
theorem d_L_law_740 : decode Y_L_law.cc 740 = .ok (.iload 5, 2) := by decide +kernel
theorem d_L_law_742 : decode Y_L_law.cc 742 = .ok (.ifCond .ne 14, 3) := by decide +kernel
theorem d_L_law_745 : decode Y_L_law.cc 745 = .ok (.aload_n 3, 1) := by decide +kernel
theorem d_L_law_746 : decode Y_L_law.cc 746 = .ok (.iconst 0, 1) := by decide +kernel
theorem d_L_law_747 : decode Y_L_law.cc 747 = .ok (.laload, 1) := by decide +kernel
theorem d_L_law_748 : decode Y_L_law.cc 748 = .ok (.lload 6, 2) := by decide +kernel
theorem d_L_law_750 : decode Y_L_law.cc 750 = .ok (.lcmp, 1) := by decide +kernel
theorem d_L_law_751 : decode Y_L_law.cc 751 = .ok (.ifCond .eq 5, 3) := by decide +kernel
theorem d_L_law_754 : decode Y_L_law.cc 754 = .ok (.iconst 0, 1) := by decide +kernel
theorem d_L_law_755 : decode Y_L_law.cc 755 = .ok (.ireturn, 1) := by decide +kernel
theorem d_L_law_756 : decode Y_L_law.cc 756 = .ok (.goto 529, 3) := by decide +kernel
theorem d_L_law_759 : decode Y_L_law.cc 759 = .ok (.aload_n 1, 1) := by decide +kernel
theorem d_L_law_760 : decode Y_L_law.cc 760 = .ok (.aload_n 0, 1) := by decide +kernel
theorem d_L_law_761 : decode Y_L_law.cc 761 = .ok (.iload 4, 2) := by decide +kernel
theorem d_L_law_763 : decode Y_L_law.cc 763 = .ok (.iconst 1, 1) := by decide +kernel
theorem d_L_law_764 : decode Y_L_law.cc 764 = .ok (.iadd, 1) := by decide +kernel
theorem d_L_law_765 : decode Y_L_law.cc 765 = .ok (.iaload, 1) := by decide +kernel
theorem d_L_law_766 : decode Y_L_law.cc 766 = .ok (.invokevirtual 84, 3) := by decide +kernel
theorem d_L_law_769 : decode Y_L_law.cc 769 = .ok (.aload_n 2, 1) := by decide +kernel
theorem d_L_law_770 : decode Y_L_law.cc 770 = .ok (.aload_n 0, 1) := by decide +kernel
theorem d_L_law_771 : decode Y_L_law.cc 771 = .ok (.iload 4, 2) := by decide +kernel
theorem d_L_law_773 : decode Y_L_law.cc 773 = .ok (.iconst 1, 1) := by decide +kernel
theorem d_L_law_774 : decode Y_L_law.cc 774 = .ok (.iadd, 1) := by decide +kernel
theorem d_L_law_775 : decode Y_L_law.cc 775 = .ok (.iaload, 1) := by decide +kernel
theorem d_L_law_776 : decode Y_L_law.cc 776 = .ok (.invokevirtual 87, 3) := by decide +kernel
theorem d_L_law_779 : decode Y_L_law.cc 779 = .ok (.if_icmp .eq 506, 3) := by decide +kernel
theorem d_L_law_782 : decode Y_L_law.cc 782 = .ok (.iconst 0, 1) := by decide +kernel
theorem d_L_law_783 : decode Y_L_law.cc 783 = .ok (.ireturn, 1) := by decide +kernel
theorem d_L_law_784 : decode Y_L_law.cc 784 = .ok (.aload_n 1, 1) := by decide +kernel
theorem d_L_law_785 : decode Y_L_law.cc 785 = .ok (.aload_n 0, 1) := by decide +kernel
theorem d_L_law_786 : decode Y_L_law.cc 786 = .ok (.iload 4, 2) := by decide +kernel
theorem d_L_law_788 : decode Y_L_law.cc 788 = .ok (.iconst 1, 1) := by decide +kernel
theorem d_L_law_789 : decode Y_L_law.cc 789 = .ok (.iadd, 1) := by decide +kernel
theorem d_L_law_790 : decode Y_L_law.cc 790 = .ok (.iaload, 1) := by decide +kernel
theorem d_L_law_791 : decode Y_L_law.cc 791 = .ok (.invokevirtual 88, 3) := by decide +kernel
theorem d_L_law_794 : decode Y_L_law.cc 794 = .ok (.aload_n 2, 1) := by decide +kernel
theorem d_L_law_795 : decode Y_L_law.cc 795 = .ok (.aload_n 0, 1) := by decide +kernel
theorem d_L_law_796 : decode Y_L_law.cc 796 = .ok (.iload 4, 2) := by decide +kernel
theorem d_L_law_798 : decode Y_L_law.cc 798 = .ok (.iconst 1, 1) := by decide +kernel
theorem d_L_law_799 : decode Y_L_law.cc 799 = .ok (.iadd, 1) := by decide +kernel
theorem d_L_law_800 : decode Y_L_law.cc 800 = .ok (.iaload, 1) := by decide +kernel
theorem d_L_law_801 : decode Y_L_law.cc 801 = .ok (.invokevirtual 91, 3) := by decide +kernel
theorem d_L_law_804 : decode Y_L_law.cc 804 = .ok (.if_icmp .eq 481, 3) := by decide +kernel
theorem d_L_law_807 : decode Y_L_law.cc 807 = .ok (.iconst 0, 1) := by decide +kernel
theorem d_L_law_808 : decode Y_L_law.cc 808 = .ok (.ireturn, 1) := by decide +kernel
theorem d_L_law_809 : decode Y_L_law.cc 809 = .ok (.aload_n 1, 1) := by decide +kernel
theorem d_L_law_810 : decode Y_L_law.cc 810 = .ok (.aload_n 0, 1) := by decide +kernel
theorem d_L_law_811 : decode Y_L_law.cc 811 = .ok (.iload 4, 2) := by decide +kernel
theorem d_L_law_813 : decode Y_L_law.cc 813 = .ok (.iconst 1, 1) := by decide +kernel
theorem d_L_law_814 : decode Y_L_law.cc 814 = .ok (.iadd, 1) := by decide +kernel
theorem d_L_law_815 : decode Y_L_law.cc 815 = .ok (.iaload, 1) := by decide +kernel
theorem d_L_law_816 : decode Y_L_law.cc 816 = .ok (.aload_n 0, 1) := by decide +kernel
theorem d_L_law_817 : decode Y_L_law.cc 817 = .ok (.iload 4, 2) := by decide +kernel
theorem d_L_law_819 : decode Y_L_law.cc 819 = .ok (.iconst 2, 1) := by decide +kernel
theorem d_L_law_820 : decode Y_L_law.cc 820 = .ok (.iadd, 1) := by decide +kernel
theorem d_L_law_821 : decode Y_L_law.cc 821 = .ok (.iaload, 1) := by decide +kernel
theorem d_L_law_822 : decode Y_L_law.cc 822 = .ok (.aload_n 0, 1) := by decide +kernel
theorem d_L_law_823 : decode Y_L_law.cc 823 = .ok (.iload 4, 2) := by decide +kernel
theorem d_L_law_825 : decode Y_L_law.cc 825 = .ok (.iconst 3, 1) := by decide +kernel
theorem d_L_law_826 : decode Y_L_law.cc 826 = .ok (.iadd, 1) := by decide +kernel
theorem d_L_law_827 : decode Y_L_law.cc 827 = .ok (.iaload, 1) := by decide +kernel
theorem d_L_law_828 : decode Y_L_law.cc 828 = .ok (.aload_n 3, 1) := by decide +kernel
theorem d_L_law_829 : decode Y_L_law.cc 829 = .ok (.invokestatic 92, 3) := by decide +kernel
theorem d_L_law_832 : decode Y_L_law.cc 832 = .ok (.istore 5, 2) := by decide +kernel
theorem d_L_law_834 : decode Y_L_law.cc 834 = .ok (.aload_n 2, 1) := by decide +kernel
theorem d_L_law_835 : decode Y_L_law.cc 835 = .ok (.aload_n 0, 1) := by decide +kernel
theorem d_L_law_836 : decode Y_L_law.cc 836 = .ok (.iload 4, 2) := by decide +kernel
theorem d_L_law_838 : decode Y_L_law.cc 838 = .ok (.iconst 1, 1) := by decide +kernel
theorem d_L_law_839 : decode Y_L_law.cc 839 = .ok (.iadd, 1) := by decide +kernel
theorem d_L_law_840 : decode Y_L_law.cc 840 = .ok (.iaload, 1) := by decide +kernel
theorem d_L_law_841 : decode Y_L_law.cc 841 = .ok (.aload_n 0, 1) := by decide +kernel
theorem d_L_law_842 : decode Y_L_law.cc 842 = .ok (.iload 4, 2) := by decide +kernel
theorem d_L_law_844 : decode Y_L_law.cc 844 = .ok (.iconst 2, 1) := by decide +kernel
theorem d_L_law_845 : decode Y_L_law.cc 845 = .ok (.iadd, 1) := by decide +kernel
theorem d_L_law_846 : decode Y_L_law.cc 846 = .ok (.iaload, 1) := by decide +kernel
theorem d_L_law_847 : decode Y_L_law.cc 847 = .ok (.aload_n 0, 1) := by decide +kernel
theorem d_L_law_848 : decode Y_L_law.cc 848 = .ok (.iload 4, 2) := by decide +kernel
theorem d_L_law_850 : decode Y_L_law.cc 850 = .ok (.iconst 3, 1) := by decide +kernel
theorem d_L_law_851 : decode Y_L_law.cc 851 = .ok (.iadd, 1) := by decide +kernel
theorem d_L_law_852 : decode Y_L_law.cc 852 = .ok (.iaload, 1) := by decide +kernel
theorem d_L_law_853 : decode Y_L_law.cc 853 = .ok (.invokevirtual 95, 3) := by decide +kernel
theorem d_L_law_856 : decode Y_L_law.cc 856 = .ok (.lstore 6, 2) := by decide +kernel
theorem d_L_law_858 : decode Y_L_law.cc 858 = .ok (.aload_n 2, 1) := by decide +kernel
theorem d_L_law_859 : decode Y_L_law.cc 859 = .ok (.invokevirtual 81, 3) := by decide +kernel
theorem d_L_law_862 : decode Y_L_law.cc 862 = .ok (.iload 5, 2) := by decide +kernel
theorem d_L_law_864 : decode Y_L_law.cc 864 = .ok (.if_icmp .eq 5, 3) := by decide +kernel
theorem d_L_law_867 : decode Y_L_law.cc 867 = .ok (.iconst 0, 1) := by decide +kernel
theorem d_L_law_868 : decode Y_L_law.cc 868 = .ok (.ireturn, 1) := by decide +kernel
theorem d_L_law_869 : decode Y_L_law.cc 869 = .ok (.iload 5, 2) := by decide +kernel
theorem d_L_law_871 : decode Y_L_law.cc 871 = .ok (.ifCond .ne 14, 3) := by decide +kernel
theorem d_L_law_874 : decode Y_L_law.cc 874 = .ok (.aload_n 3, 1) := by decide +kernel
theorem d_L_law_875 : decode Y_L_law.cc 875 = .ok (.iconst 0, 1) := by decide +kernel
theorem d_L_law_876 : decode Y_L_law.cc 876 = .ok (.laload, 1) := by decide +kernel
theorem d_L_law_877 : decode Y_L_law.cc 877 = .ok (.lload 6, 2) := by decide +kernel
theorem d_L_law_879 : decode Y_L_law.cc 879 = .ok (.lcmp, 1) := by decide +kernel
theorem d_L_law_880 : decode Y_L_law.cc 880 = .ok (.ifCond .eq 5, 3) := by decide +kernel
theorem d_L_law_883 : decode Y_L_law.cc 883 = .ok (.iconst 0, 1) := by decide +kernel
theorem d_L_law_884 : decode Y_L_law.cc 884 = .ok (.ireturn, 1) := by decide +kernel
theorem d_L_law_885 : decode Y_L_law.cc 885 = .ok (.goto 400, 3) := by decide +kernel
theorem d_L_law_888 : decode Y_L_law.cc 888 = .ok (.aload_n 1, 1) := by decide +kernel
theorem d_L_law_889 : decode Y_L_law.cc 889 = .ok (.aload_n 0, 1) := by decide +kernel
theorem d_L_law_890 : decode Y_L_law.cc 890 = .ok (.iload 4, 2) := by decide +kernel
theorem d_L_law_892 : decode Y_L_law.cc 892 = .ok (.iconst 1, 1) := by decide +kernel
theorem d_L_law_893 : decode Y_L_law.cc 893 = .ok (.iadd, 1) := by decide +kernel
theorem d_L_law_894 : decode Y_L_law.cc 894 = .ok (.iaload, 1) := by decide +kernel
theorem d_L_law_895 : decode Y_L_law.cc 895 = .ok (.invokevirtual 96, 3) := by decide +kernel
theorem d_L_law_898 : decode Y_L_law.cc 898 = .ok (.aload_n 2, 1) := by decide +kernel
theorem d_L_law_899 : decode Y_L_law.cc 899 = .ok (.aload_n 0, 1) := by decide +kernel
theorem d_L_law_900 : decode Y_L_law.cc 900 = .ok (.iload 4, 2) := by decide +kernel
theorem d_L_law_902 : decode Y_L_law.cc 902 = .ok (.iconst 1, 1) := by decide +kernel
theorem d_L_law_903 : decode Y_L_law.cc 903 = .ok (.iadd, 1) := by decide +kernel
theorem d_L_law_904 : decode Y_L_law.cc 904 = .ok (.iaload, 1) := by decide +kernel
theorem d_L_law_905 : decode Y_L_law.cc 905 = .ok (.invokevirtual 99, 3) := by decide +kernel
theorem d_L_law_908 : decode Y_L_law.cc 908 = .ok (.if_icmp .eq 377, 3) := by decide +kernel
theorem d_L_law_911 : decode Y_L_law.cc 911 = .ok (.iconst 0, 1) := by decide +kernel
theorem d_L_law_912 : decode Y_L_law.cc 912 = .ok (.ireturn, 1) := by decide +kernel
theorem d_L_law_913 : decode Y_L_law.cc 913 = .ok (.aload_n 1, 1) := by decide +kernel
theorem d_L_law_914 : decode Y_L_law.cc 914 = .ok (.aload_n 0, 1) := by decide +kernel
theorem d_L_law_915 : decode Y_L_law.cc 915 = .ok (.iload 4, 2) := by decide +kernel
theorem d_L_law_917 : decode Y_L_law.cc 917 = .ok (.iconst 1, 1) := by decide +kernel
theorem d_L_law_918 : decode Y_L_law.cc 918 = .ok (.iadd, 1) := by decide +kernel
theorem d_L_law_919 : decode Y_L_law.cc 919 = .ok (.iaload, 1) := by decide +kernel
theorem d_L_law_920 : decode Y_L_law.cc 920 = .ok (.aload_n 0, 1) := by decide +kernel
theorem d_L_law_921 : decode Y_L_law.cc 921 = .ok (.iload 4, 2) := by decide +kernel
theorem d_L_law_923 : decode Y_L_law.cc 923 = .ok (.iconst 2, 1) := by decide +kernel
theorem d_L_law_924 : decode Y_L_law.cc 924 = .ok (.iadd, 1) := by decide +kernel
theorem d_L_law_925 : decode Y_L_law.cc 925 = .ok (.iaload, 1) := by decide +kernel
theorem d_L_law_926 : decode Y_L_law.cc 926 = .ok (.aload_n 0, 1) := by decide +kernel
theorem d_L_law_927 : decode Y_L_law.cc 927 = .ok (.iload 4, 2) := by decide +kernel
theorem d_L_law_929 : decode Y_L_law.cc 929 = .ok (.iconst 3, 1) := by decide +kernel
theorem d_L_law_930 : decode Y_L_law.cc 930 = .ok (.iadd, 1) := by decide +kernel
theorem d_L_law_931 : decode Y_L_law.cc 931 = .ok (.iaload, 1) := by decide +kernel
theorem d_L_law_932 : decode Y_L_law.cc 932 = .ok (.invokevirtual 100, 3) := by decide +kernel
theorem d_L_law_935 : decode Y_L_law.cc 935 = .ok (.aload_n 2, 1) := by decide +kernel
theorem d_L_law_936 : decode Y_L_law.cc 936 = .ok (.aload_n 0, 1) := by decide +kernel
theorem d_L_law_937 : decode Y_L_law.cc 937 = .ok (.iload 4, 2) := by decide +kernel
theorem d_L_law_939 : decode Y_L_law.cc 939 = .ok (.iconst 1, 1) := by decide +kernel
theorem d_L_law_940 : decode Y_L_law.cc 940 = .ok (.iadd, 1) := by decide +kernel
theorem d_L_law_941 : decode Y_L_law.cc 941 = .ok (.iaload, 1) := by decide +kernel
theorem d_L_law_942 : decode Y_L_law.cc 942 = .ok (.aload_n 0, 1) := by decide +kernel
theorem d_L_law_943 : decode Y_L_law.cc 943 = .ok (.iload 4, 2) := by decide +kernel
theorem d_L_law_945 : decode Y_L_law.cc 945 = .ok (.iconst 2, 1) := by decide +kernel
theorem d_L_law_946 : decode Y_L_law.cc 946 = .ok (.iadd, 1) := by decide +kernel
theorem d_L_law_947 : decode Y_L_law.cc 947 = .ok (.iaload, 1) := by decide +kernel
theorem d_L_law_948 : decode Y_L_law.cc 948 = .ok (.aload_n 0, 1) := by decide +kernel
theorem d_L_law_949 : decode Y_L_law.cc 949 = .ok (.iload 4, 2) := by decide +kernel
theorem d_L_law_951 : decode Y_L_law.cc 951 = .ok (.iconst 3, 1) := by decide +kernel
theorem d_L_law_952 : decode Y_L_law.cc 952 = .ok (.iadd, 1) := by decide +kernel
theorem d_L_law_953 : decode Y_L_law.cc 953 = .ok (.iaload, 1) := by decide +kernel
theorem d_L_law_954 : decode Y_L_law.cc 954 = .ok (.invokevirtual 104, 3) := by decide +kernel
theorem d_L_law_957 : decode Y_L_law.cc 957 = .ok (.if_icmp .eq 328, 3) := by decide +kernel
theorem d_L_law_960 : decode Y_L_law.cc 960 = .ok (.iconst 0, 1) := by decide +kernel
theorem d_L_law_961 : decode Y_L_law.cc 961 = .ok (.ireturn, 1) := by decide +kernel
theorem d_L_law_962 : decode Y_L_law.cc 962 = .ok (.aload_n 1, 1) := by decide +kernel
theorem d_L_law_963 : decode Y_L_law.cc 963 = .ok (.aload_n 0, 1) := by decide +kernel
theorem d_L_law_964 : decode Y_L_law.cc 964 = .ok (.iload 4, 2) := by decide +kernel
theorem d_L_law_966 : decode Y_L_law.cc 966 = .ok (.iconst 1, 1) := by decide +kernel
theorem d_L_law_967 : decode Y_L_law.cc 967 = .ok (.iadd, 1) := by decide +kernel
theorem d_L_law_968 : decode Y_L_law.cc 968 = .ok (.iaload, 1) := by decide +kernel
theorem d_L_law_969 : decode Y_L_law.cc 969 = .ok (.aload_n 0, 1) := by decide +kernel
theorem d_L_law_970 : decode Y_L_law.cc 970 = .ok (.iload 4, 2) := by decide +kernel
theorem d_L_law_972 : decode Y_L_law.cc 972 = .ok (.iconst 2, 1) := by decide +kernel
theorem d_L_law_973 : decode Y_L_law.cc 973 = .ok (.iadd, 1) := by decide +kernel
theorem d_L_law_974 : decode Y_L_law.cc 974 = .ok (.iaload, 1) := by decide +kernel
theorem d_L_law_975 : decode Y_L_law.cc 975 = .ok (.aload_n 0, 1) := by decide +kernel
theorem d_L_law_976 : decode Y_L_law.cc 976 = .ok (.iload 4, 2) := by decide +kernel
theorem d_L_law_978 : decode Y_L_law.cc 978 = .ok (.iconst 3, 1) := by decide +kernel
theorem d_L_law_979 : decode Y_L_law.cc 979 = .ok (.iadd, 1) := by decide +kernel
theorem d_L_law_980 : decode Y_L_law.cc 980 = .ok (.iaload, 1) := by decide +kernel
theorem d_L_law_981 : decode Y_L_law.cc 981 = .ok (.invokevirtual 105, 3) := by decide +kernel
theorem d_L_law_984 : decode Y_L_law.cc 984 = .ok (.aload_n 2, 1) := by decide +kernel
theorem d_L_law_985 : decode Y_L_law.cc 985 = .ok (.aload_n 0, 1) := by decide +kernel
theorem d_L_law_986 : decode Y_L_law.cc 986 = .ok (.iload 4, 2) := by decide +kernel
theorem d_L_law_988 : decode Y_L_law.cc 988 = .ok (.iconst 1, 1) := by decide +kernel
theorem d_L_law_989 : decode Y_L_law.cc 989 = .ok (.iadd, 1) := by decide +kernel
theorem d_L_law_990 : decode Y_L_law.cc 990 = .ok (.iaload, 1) := by decide +kernel
theorem d_L_law_991 : decode Y_L_law.cc 991 = .ok (.aload_n 0, 1) := by decide +kernel
theorem d_L_law_992 : decode Y_L_law.cc 992 = .ok (.iload 4, 2) := by decide +kernel
theorem d_L_law_994 : decode Y_L_law.cc 994 = .ok (.iconst 2, 1) := by decide +kernel
theorem d_L_law_995 : decode Y_L_law.cc 995 = .ok (.iadd, 1) := by decide +kernel
theorem d_L_law_996 : decode Y_L_law.cc 996 = .ok (.iaload, 1) := by decide +kernel
theorem d_L_law_997 : decode Y_L_law.cc 997 = .ok (.aload_n 0, 1) := by decide +kernel
theorem d_L_law_998 : decode Y_L_law.cc 998 = .ok (.iload 4, 2) := by decide +kernel
theorem d_L_law_1000 : decode Y_L_law.cc 1000 = .ok (.iconst 3, 1) := by decide +kernel
theorem d_L_law_1001 : decode Y_L_law.cc 1001 = .ok (.iadd, 1) := by decide +kernel
theorem d_L_law_1002 : decode Y_L_law.cc 1002 = .ok (.iaload, 1) := by decide +kernel
theorem d_L_law_1003 : decode Y_L_law.cc 1003 = .ok (.invokevirtual 108, 3) := by decide +kernel
theorem d_L_law_1006 : decode Y_L_law.cc 1006 = .ok (.if_icmp .eq 279, 3) := by decide +kernel
theorem d_L_law_1009 : decode Y_L_law.cc 1009 = .ok (.iconst 0, 1) := by decide +kernel
theorem d_L_law_1010 : decode Y_L_law.cc 1010 = .ok (.ireturn, 1) := by decide +kernel
theorem d_L_law_1011 : decode Y_L_law.cc 1011 = .ok (.aload_n 1, 1) := by decide +kernel
theorem d_L_law_1012 : decode Y_L_law.cc 1012 = .ok (.invokevirtual 109, 3) := by decide +kernel
theorem d_L_law_1015 : decode Y_L_law.cc 1015 = .ok (.aload_n 2, 1) := by decide +kernel
theorem d_L_law_1016 : decode Y_L_law.cc 1016 = .ok (.invokevirtual 113, 3) := by decide +kernel
theorem d_L_law_1019 : decode Y_L_law.cc 1019 = .ok (.if_icmp .eq 266, 3) := by decide +kernel
theorem d_L_law_1022 : decode Y_L_law.cc 1022 = .ok (.iconst 0, 1) := by decide +kernel
theorem d_L_law_1023 : decode Y_L_law.cc 1023 = .ok (.ireturn, 1) := by decide +kernel
theorem d_L_law_1024 : decode Y_L_law.cc 1024 = .ok (.aload_n 1, 1) := by decide +kernel
theorem d_L_law_1025 : decode Y_L_law.cc 1025 = .ok (.invokevirtual 114, 3) := by decide +kernel
theorem d_L_law_1028 : decode Y_L_law.cc 1028 = .ok (.aload_n 2, 1) := by decide +kernel
theorem d_L_law_1029 : decode Y_L_law.cc 1029 = .ok (.invokevirtual 117, 3) := by decide +kernel
theorem d_L_law_1032 : decode Y_L_law.cc 1032 = .ok (.if_icmp .eq 253, 3) := by decide +kernel
theorem d_L_law_1035 : decode Y_L_law.cc 1035 = .ok (.iconst 0, 1) := by decide +kernel
theorem d_L_law_1036 : decode Y_L_law.cc 1036 = .ok (.ireturn, 1) := by decide +kernel
theorem d_L_law_1037 : decode Y_L_law.cc 1037 = .ok (.aload_n 1, 1) := by decide +kernel
theorem d_L_law_1038 : decode Y_L_law.cc 1038 = .ok (.aload_n 0, 1) := by decide +kernel
theorem d_L_law_1039 : decode Y_L_law.cc 1039 = .ok (.iload 4, 2) := by decide +kernel
theorem d_L_law_1041 : decode Y_L_law.cc 1041 = .ok (.iconst 1, 1) := by decide +kernel
theorem d_L_law_1042 : decode Y_L_law.cc 1042 = .ok (.iadd, 1) := by decide +kernel
theorem d_L_law_1043 : decode Y_L_law.cc 1043 = .ok (.iaload, 1) := by decide +kernel
theorem d_L_law_1044 : decode Y_L_law.cc 1044 = .ok (.aload_n 3, 1) := by decide +kernel
theorem d_L_law_1045 : decode Y_L_law.cc 1045 = .ok (.invokestatic 118, 3) := by decide +kernel
theorem d_L_law_1048 : decode Y_L_law.cc 1048 = .ok (.istore 5, 2) := by decide +kernel
theorem d_L_law_1050 : decode Y_L_law.cc 1050 = .ok (.aload_n 2, 1) := by decide +kernel
theorem d_L_law_1051 : decode Y_L_law.cc 1051 = .ok (.aload_n 0, 1) := by decide +kernel
theorem d_L_law_1052 : decode Y_L_law.cc 1052 = .ok (.iload 4, 2) := by decide +kernel
theorem d_L_law_1054 : decode Y_L_law.cc 1054 = .ok (.iconst 1, 1) := by decide +kernel
theorem d_L_law_1055 : decode Y_L_law.cc 1055 = .ok (.iadd, 1) := by decide +kernel
theorem d_L_law_1056 : decode Y_L_law.cc 1056 = .ok (.iaload, 1) := by decide +kernel
theorem d_L_law_1057 : decode Y_L_law.cc 1057 = .ok (.invokevirtual 121, 3) := by decide +kernel
theorem d_L_law_1060 : decode Y_L_law.cc 1060 = .ok (.istore 6, 2) := by decide +kernel
theorem d_L_law_1062 : decode Y_L_law.cc 1062 = .ok (.aload_n 2, 1) := by decide +kernel
theorem d_L_law_1063 : decode Y_L_law.cc 1063 = .ok (.invokevirtual 81, 3) := by decide +kernel
theorem d_L_law_1066 : decode Y_L_law.cc 1066 = .ok (.iload 5, 2) := by decide +kernel
theorem d_L_law_1068 : decode Y_L_law.cc 1068 = .ok (.if_icmp .eq 5, 3) := by decide +kernel
theorem d_L_law_1071 : decode Y_L_law.cc 1071 = .ok (.iconst 0, 1) := by decide +kernel
theorem d_L_law_1072 : decode Y_L_law.cc 1072 = .ok (.ireturn, 1) := by decide +kernel
theorem d_L_law_1073 : decode Y_L_law.cc 1073 = .ok (.iload 5, 2) := by decide +kernel
theorem d_L_law_1075 : decode Y_L_law.cc 1075 = .ok (.ifCond .ne 15, 3) := by decide +kernel
theorem d_L_law_1078 : decode Y_L_law.cc 1078 = .ok (.aload_n 3, 1) := by decide +kernel
theorem d_L_law_1079 : decode Y_L_law.cc 1079 = .ok (.iconst 0, 1) := by decide +kernel
theorem d_L_law_1080 : decode Y_L_law.cc 1080 = .ok (.laload, 1) := by decide +kernel
theorem d_L_law_1081 : decode Y_L_law.cc 1081 = .ok (.iload 6, 2) := by decide +kernel
theorem d_L_law_1083 : decode Y_L_law.cc 1083 = .ok (.i2l, 1) := by decide +kernel
theorem d_L_law_1084 : decode Y_L_law.cc 1084 = .ok (.lcmp, 1) := by decide +kernel
theorem d_L_law_1085 : decode Y_L_law.cc 1085 = .ok (.ifCond .eq 5, 3) := by decide +kernel
theorem d_L_law_1088 : decode Y_L_law.cc 1088 = .ok (.iconst 0, 1) := by decide +kernel
theorem d_L_law_1089 : decode Y_L_law.cc 1089 = .ok (.ireturn, 1) := by decide +kernel
theorem d_L_law_1090 : decode Y_L_law.cc 1090 = .ok (.goto 195, 3) := by decide +kernel
theorem d_L_law_1093 : decode Y_L_law.cc 1093 = .ok (.aload_n 1, 1) := by decide +kernel
theorem d_L_law_1094 : decode Y_L_law.cc 1094 = .ok (.aload_n 0, 1) := by decide +kernel
theorem d_L_law_1095 : decode Y_L_law.cc 1095 = .ok (.iload 4, 2) := by decide +kernel
theorem d_L_law_1097 : decode Y_L_law.cc 1097 = .ok (.iconst 1, 1) := by decide +kernel
theorem d_L_law_1098 : decode Y_L_law.cc 1098 = .ok (.iadd, 1) := by decide +kernel
theorem d_L_law_1099 : decode Y_L_law.cc 1099 = .ok (.iaload, 1) := by decide +kernel
theorem d_L_law_1100 : decode Y_L_law.cc 1100 = .ok (.invokevirtual 122, 3) := by decide +kernel
theorem d_L_law_1103 : decode Y_L_law.cc 1103 = .ok (.aload_n 2, 1) := by decide +kernel
theorem d_L_law_1104 : decode Y_L_law.cc 1104 = .ok (.aload_n 0, 1) := by decide +kernel
theorem d_L_law_1105 : decode Y_L_law.cc 1105 = .ok (.iload 4, 2) := by decide +kernel
theorem d_L_law_1107 : decode Y_L_law.cc 1107 = .ok (.iconst 1, 1) := by decide +kernel
theorem d_L_law_1108 : decode Y_L_law.cc 1108 = .ok (.iadd, 1) := by decide +kernel
theorem d_L_law_1109 : decode Y_L_law.cc 1109 = .ok (.iaload, 1) := by decide +kernel
theorem d_L_law_1110 : decode Y_L_law.cc 1110 = .ok (.invokevirtual 126, 3) := by decide +kernel
theorem d_L_law_1113 : decode Y_L_law.cc 1113 = .ok (.lcmp, 1) := by decide +kernel
theorem d_L_law_1114 : decode Y_L_law.cc 1114 = .ok (.ifCond .eq 171, 3) := by decide +kernel
theorem d_L_law_1117 : decode Y_L_law.cc 1117 = .ok (.iconst 0, 1) := by decide +kernel
theorem d_L_law_1118 : decode Y_L_law.cc 1118 = .ok (.ireturn, 1) := by decide +kernel
theorem d_L_law_1119 : decode Y_L_law.cc 1119 = .ok (.aload_n 1, 1) := by decide +kernel
theorem d_L_law_1120 : decode Y_L_law.cc 1120 = .ok (.aload_n 0, 1) := by decide +kernel
theorem d_L_law_1121 : decode Y_L_law.cc 1121 = .ok (.iload 4, 2) := by decide +kernel
theorem d_L_law_1123 : decode Y_L_law.cc 1123 = .ok (.iconst 1, 1) := by decide +kernel
theorem d_L_law_1124 : decode Y_L_law.cc 1124 = .ok (.iadd, 1) := by decide +kernel
theorem d_L_law_1125 : decode Y_L_law.cc 1125 = .ok (.iaload, 1) := by decide +kernel
theorem d_L_law_1126 : decode Y_L_law.cc 1126 = .ok (.invokevirtual 127, 3) := by decide +kernel
theorem d_L_law_1129 : decode Y_L_law.cc 1129 = .ok (.aload_n 2, 1) := by decide +kernel
theorem d_L_law_1130 : decode Y_L_law.cc 1130 = .ok (.aload_n 0, 1) := by decide +kernel
theorem d_L_law_1131 : decode Y_L_law.cc 1131 = .ok (.iload 4, 2) := by decide +kernel
theorem d_L_law_1133 : decode Y_L_law.cc 1133 = .ok (.iconst 1, 1) := by decide +kernel
theorem d_L_law_1134 : decode Y_L_law.cc 1134 = .ok (.iadd, 1) := by decide +kernel
theorem d_L_law_1135 : decode Y_L_law.cc 1135 = .ok (.iaload, 1) := by decide +kernel
theorem d_L_law_1136 : decode Y_L_law.cc 1136 = .ok (.invokevirtual 130, 3) := by decide +kernel
theorem d_L_law_1139 : decode Y_L_law.cc 1139 = .ok (.lcmp, 1) := by decide +kernel
theorem d_L_law_1140 : decode Y_L_law.cc 1140 = .ok (.ifCond .eq 145, 3) := by decide +kernel
theorem d_L_law_1143 : decode Y_L_law.cc 1143 = .ok (.iconst 0, 1) := by decide +kernel
theorem d_L_law_1144 : decode Y_L_law.cc 1144 = .ok (.ireturn, 1) := by decide +kernel
theorem d_L_law_1145 : decode Y_L_law.cc 1145 = .ok (.aload_n 1, 1) := by decide +kernel
theorem d_L_law_1146 : decode Y_L_law.cc 1146 = .ok (.aload_n 0, 1) := by decide +kernel
theorem d_L_law_1147 : decode Y_L_law.cc 1147 = .ok (.iload 4, 2) := by decide +kernel
theorem d_L_law_1149 : decode Y_L_law.cc 1149 = .ok (.iconst 1, 1) := by decide +kernel
theorem d_L_law_1150 : decode Y_L_law.cc 1150 = .ok (.iadd, 1) := by decide +kernel
theorem d_L_law_1151 : decode Y_L_law.cc 1151 = .ok (.iaload, 1) := by decide +kernel
theorem d_L_law_1152 : decode Y_L_law.cc 1152 = .ok (.aload_n 0, 1) := by decide +kernel
theorem d_L_law_1153 : decode Y_L_law.cc 1153 = .ok (.iload 4, 2) := by decide +kernel
theorem d_L_law_1155 : decode Y_L_law.cc 1155 = .ok (.iconst 2, 1) := by decide +kernel
theorem d_L_law_1156 : decode Y_L_law.cc 1156 = .ok (.iadd, 1) := by decide +kernel
theorem d_L_law_1157 : decode Y_L_law.cc 1157 = .ok (.iaload, 1) := by decide +kernel
theorem d_L_law_1158 : decode Y_L_law.cc 1158 = .ok (.invokevirtual 131, 3) := by decide +kernel
theorem d_L_law_1161 : decode Y_L_law.cc 1161 = .ok (.aload_n 2, 1) := by decide +kernel
theorem d_L_law_1162 : decode Y_L_law.cc 1162 = .ok (.aload_n 0, 1) := by decide +kernel
theorem d_L_law_1163 : decode Y_L_law.cc 1163 = .ok (.iload 4, 2) := by decide +kernel
theorem d_L_law_1165 : decode Y_L_law.cc 1165 = .ok (.iconst 1, 1) := by decide +kernel
theorem d_L_law_1166 : decode Y_L_law.cc 1166 = .ok (.iadd, 1) := by decide +kernel
theorem d_L_law_1167 : decode Y_L_law.cc 1167 = .ok (.iaload, 1) := by decide +kernel
theorem d_L_law_1168 : decode Y_L_law.cc 1168 = .ok (.aload_n 0, 1) := by decide +kernel
theorem d_L_law_1169 : decode Y_L_law.cc 1169 = .ok (.iload 4, 2) := by decide +kernel
theorem d_L_law_1171 : decode Y_L_law.cc 1171 = .ok (.iconst 2, 1) := by decide +kernel
theorem d_L_law_1172 : decode Y_L_law.cc 1172 = .ok (.iadd, 1) := by decide +kernel
theorem d_L_law_1173 : decode Y_L_law.cc 1173 = .ok (.iaload, 1) := by decide +kernel
theorem d_L_law_1174 : decode Y_L_law.cc 1174 = .ok (.invokevirtual 134, 3) := by decide +kernel
theorem d_L_law_1177 : decode Y_L_law.cc 1177 = .ok (.if_icmp .eq 108, 3) := by decide +kernel
theorem d_L_law_1180 : decode Y_L_law.cc 1180 = .ok (.iconst 0, 1) := by decide +kernel
theorem d_L_law_1181 : decode Y_L_law.cc 1181 = .ok (.ireturn, 1) := by decide +kernel
theorem d_L_law_1182 : decode Y_L_law.cc 1182 = .ok (.aload_n 1, 1) := by decide +kernel
theorem d_L_law_1183 : decode Y_L_law.cc 1183 = .ok (.aload_n 0, 1) := by decide +kernel
theorem d_L_law_1184 : decode Y_L_law.cc 1184 = .ok (.iload 4, 2) := by decide +kernel
theorem d_L_law_1186 : decode Y_L_law.cc 1186 = .ok (.iconst 1, 1) := by decide +kernel
theorem d_L_law_1187 : decode Y_L_law.cc 1187 = .ok (.iadd, 1) := by decide +kernel
theorem d_L_law_1188 : decode Y_L_law.cc 1188 = .ok (.iaload, 1) := by decide +kernel
theorem d_L_law_1189 : decode Y_L_law.cc 1189 = .ok (.invokevirtual 135, 3) := by decide +kernel
theorem d_L_law_1192 : decode Y_L_law.cc 1192 = .ok (.aload_n 2, 1) := by decide +kernel
theorem d_L_law_1193 : decode Y_L_law.cc 1193 = .ok (.aload_n 0, 1) := by decide +kernel
theorem d_L_law_1194 : decode Y_L_law.cc 1194 = .ok (.iload 4, 2) := by decide +kernel
theorem d_L_law_1196 : decode Y_L_law.cc 1196 = .ok (.iconst 1, 1) := by decide +kernel
theorem d_L_law_1197 : decode Y_L_law.cc 1197 = .ok (.iadd, 1) := by decide +kernel
theorem d_L_law_1198 : decode Y_L_law.cc 1198 = .ok (.iaload, 1) := by decide +kernel
theorem d_L_law_1199 : decode Y_L_law.cc 1199 = .ok (.invokevirtual 138, 3) := by decide +kernel
theorem d_L_law_1202 : decode Y_L_law.cc 1202 = .ok (.if_icmp .eq 83, 3) := by decide +kernel
theorem d_L_law_1205 : decode Y_L_law.cc 1205 = .ok (.iconst 0, 1) := by decide +kernel
theorem d_L_law_1206 : decode Y_L_law.cc 1206 = .ok (.ireturn, 1) := by decide +kernel
theorem d_L_law_1207 : decode Y_L_law.cc 1207 = .ok (.aload_n 1, 1) := by decide +kernel
theorem d_L_law_1208 : decode Y_L_law.cc 1208 = .ok (.aload_n 0, 1) := by decide +kernel
theorem d_L_law_1209 : decode Y_L_law.cc 1209 = .ok (.iload 4, 2) := by decide +kernel
theorem d_L_law_1211 : decode Y_L_law.cc 1211 = .ok (.iconst 1, 1) := by decide +kernel
theorem d_L_law_1212 : decode Y_L_law.cc 1212 = .ok (.iadd, 1) := by decide +kernel
theorem d_L_law_1213 : decode Y_L_law.cc 1213 = .ok (.iaload, 1) := by decide +kernel
theorem d_L_law_1214 : decode Y_L_law.cc 1214 = .ok (.aload_n 0, 1) := by decide +kernel
theorem d_L_law_1215 : decode Y_L_law.cc 1215 = .ok (.iload 4, 2) := by decide +kernel
theorem d_L_law_1217 : decode Y_L_law.cc 1217 = .ok (.iconst 2, 1) := by decide +kernel
theorem d_L_law_1218 : decode Y_L_law.cc 1218 = .ok (.iadd, 1) := by decide +kernel
theorem d_L_law_1219 : decode Y_L_law.cc 1219 = .ok (.iaload, 1) := by decide +kernel
theorem d_L_law_1220 : decode Y_L_law.cc 1220 = .ok (.ifCond .eq 7, 3) := by decide +kernel
theorem d_L_law_1223 : decode Y_L_law.cc 1223 = .ok (.iconst 1, 1) := by decide +kernel
theorem d_L_law_1224 : decode Y_L_law.cc 1224 = .ok (.goto 4, 3) := by decide +kernel
theorem d_L_law_1227 : decode Y_L_law.cc 1227 = .ok (.iconst 0, 1) := by decide +kernel
theorem d_L_law_1228 : decode Y_L_law.cc 1228 = .ok (.invokevirtual 139, 3) := by decide +kernel
theorem d_L_law_1231 : decode Y_L_law.cc 1231 = .ok (.aload_n 2, 1) := by decide +kernel
theorem d_L_law_1232 : decode Y_L_law.cc 1232 = .ok (.aload_n 0, 1) := by decide +kernel
theorem d_L_law_1233 : decode Y_L_law.cc 1233 = .ok (.iload 4, 2) := by decide +kernel
theorem d_L_law_1235 : decode Y_L_law.cc 1235 = .ok (.iconst 1, 1) := by decide +kernel
theorem d_L_law_1236 : decode Y_L_law.cc 1236 = .ok (.iadd, 1) := by decide +kernel
theorem d_L_law_1237 : decode Y_L_law.cc 1237 = .ok (.iaload, 1) := by decide +kernel
theorem d_L_law_1238 : decode Y_L_law.cc 1238 = .ok (.aload_n 0, 1) := by decide +kernel
theorem d_L_law_1239 : decode Y_L_law.cc 1239 = .ok (.iload 4, 2) := by decide +kernel
theorem d_L_law_1241 : decode Y_L_law.cc 1241 = .ok (.iconst 2, 1) := by decide +kernel
theorem d_L_law_1242 : decode Y_L_law.cc 1242 = .ok (.iadd, 1) := by decide +kernel
theorem d_L_law_1243 : decode Y_L_law.cc 1243 = .ok (.iaload, 1) := by decide +kernel
theorem d_L_law_1244 : decode Y_L_law.cc 1244 = .ok (.ifCond .eq 7, 3) := by decide +kernel
theorem d_L_law_1247 : decode Y_L_law.cc 1247 = .ok (.iconst 1, 1) := by decide +kernel
theorem d_L_law_1248 : decode Y_L_law.cc 1248 = .ok (.goto 4, 3) := by decide +kernel
theorem d_L_law_1251 : decode Y_L_law.cc 1251 = .ok (.iconst 0, 1) := by decide +kernel
theorem d_L_law_1252 : decode Y_L_law.cc 1252 = .ok (.invokevirtual 143, 3) := by decide +kernel
theorem d_L_law_1255 : decode Y_L_law.cc 1255 = .ok (.if_icmp .eq 30, 3) := by decide +kernel
theorem d_L_law_1258 : decode Y_L_law.cc 1258 = .ok (.iconst 0, 1) := by decide +kernel
theorem d_L_law_1259 : decode Y_L_law.cc 1259 = .ok (.ireturn, 1) := by decide +kernel
theorem d_L_law_1260 : decode Y_L_law.cc 1260 = .ok (.aload_n 1, 1) := by decide +kernel
theorem d_L_law_1261 : decode Y_L_law.cc 1261 = .ok (.aload_n 0, 1) := by decide +kernel
theorem d_L_law_1262 : decode Y_L_law.cc 1262 = .ok (.iload 4, 2) := by decide +kernel
theorem d_L_law_1264 : decode Y_L_law.cc 1264 = .ok (.iconst 1, 1) := by decide +kernel
theorem d_L_law_1265 : decode Y_L_law.cc 1265 = .ok (.iadd, 1) := by decide +kernel
theorem d_L_law_1266 : decode Y_L_law.cc 1266 = .ok (.iaload, 1) := by decide +kernel
theorem d_L_law_1267 : decode Y_L_law.cc 1267 = .ok (.invokevirtual 144, 3) := by decide +kernel
theorem d_L_law_1270 : decode Y_L_law.cc 1270 = .ok (.aload_n 2, 1) := by decide +kernel
theorem d_L_law_1271 : decode Y_L_law.cc 1271 = .ok (.aload_n 0, 1) := by decide +kernel
theorem d_L_law_1272 : decode Y_L_law.cc 1272 = .ok (.iload 4, 2) := by decide +kernel
theorem d_L_law_1274 : decode Y_L_law.cc 1274 = .ok (.iconst 1, 1) := by decide +kernel
theorem d_L_law_1275 : decode Y_L_law.cc 1275 = .ok (.iadd, 1) := by decide +kernel
theorem d_L_law_1276 : decode Y_L_law.cc 1276 = .ok (.iaload, 1) := by decide +kernel
theorem d_L_law_1277 : decode Y_L_law.cc 1277 = .ok (.invokevirtual 147, 3) := by decide +kernel
theorem d_L_law_1280 : decode Y_L_law.cc 1280 = .ok (.if_icmp .eq 5, 3) := by decide +kernel
theorem d_L_law_1283 : decode Y_L_law.cc 1283 = .ok (.iconst 0, 1) := by decide +kernel
theorem d_L_law_1284 : decode Y_L_law.cc 1284 = .ok (.ireturn, 1) := by decide +kernel
theorem d_L_law_1285 : decode Y_L_law.cc 1285 = .ok (.iinc 4 7, 3) := by decide +kernel
theorem d_L_law_1288 : decode Y_L_law.cc 1288 = .ok (.goto (-1265), 3) := by decide +kernel
theorem d_L_law_1291 : decode Y_L_law.cc 1291 = .ok (.iconst 1, 1) := by decide +kernel
theorem d_L_law_1292 : decode Y_L_law.cc 1292 = .ok (.ireturn, 1) := by decide +kernel
def L_L_law_23 (G : MG) (d : Nat) (sb : Nat) (Q : Int32 → Mm → Prop) (ce sl : Nat) (x4 : Int32) (M : Mm) : Prop := T G Y_L_law (d + 1) (Ri Q) ce sl 23 [(0, .ref sb), (1, .ref (G.b + 0)), (2, .ref (G.b + 147)), (3, .ref (G.b + 161)), (4, .int x4)] [] M
def L_L_law_160 (G : MG) (d : Nat) (sb : Nat) (Q : Int32 → Mm → Prop) (ce sl : Nat) (x4 : Int32) (M : Mm) : Prop := T G Y_L_law (d + 1) (Ri Q) ce sl 160 [(0, .ref sb), (1, .ref (G.b + 0)), (2, .ref (G.b + 147)), (3, .ref (G.b + 161)), (4, .int x4)] [] M
def L_L_law_307 (G : MG) (d : Nat) (sb : Nat) (Q : Int32 → Mm → Prop) (ce sl : Nat) (x4 : Int32) (M : Mm) : Prop := T G Y_L_law (d + 1) (Ri Q) ce sl 307 [(0, .ref sb), (1, .ref (G.b + 0)), (2, .ref (G.b + 147)), (3, .ref (G.b + 161)), (4, .int x4)] [] M
def L_L_law_320 (G : MG) (d : Nat) (sb : Nat) (Q : Int32 → Mm → Prop) (ce sl : Nat) (x4 : Int32) (M : Mm) : Prop := T G Y_L_law (d + 1) (Ri Q) ce sl 320 [(0, .ref sb), (1, .ref (G.b + 0)), (2, .ref (G.b + 147)), (3, .ref (G.b + 161)), (4, .int x4)] [] M
def L_L_law_357 (G : MG) (d : Nat) (sb : Nat) (Q : Int32 → Mm → Prop) (ce sl : Nat) (x4 : Int32) (M : Mm) : Prop := T G Y_L_law (d + 1) (Ri Q) ce sl 357 [(0, .ref sb), (1, .ref (G.b + 0)), (2, .ref (G.b + 147)), (3, .ref (G.b + 161)), (4, .int x4)] [] M
def L_L_law_394 (G : MG) (d : Nat) (sb : Nat) (Q : Int32 → Mm → Prop) (ce sl : Nat) (x4 : Int32) (M : Mm) : Prop := T G Y_L_law (d + 1) (Ri Q) ce sl 394 [(0, .ref sb), (1, .ref (G.b + 0)), (2, .ref (G.b + 147)), (3, .ref (G.b + 161)), (4, .int x4)] [] M
def L_L_law_431 (G : MG) (d : Nat) (sb : Nat) (Q : Int32 → Mm → Prop) (ce sl : Nat) (x4 : Int32) (M : Mm) : Prop := T G Y_L_law (d + 1) (Ri Q) ce sl 431 [(0, .ref sb), (1, .ref (G.b + 0)), (2, .ref (G.b + 147)), (3, .ref (G.b + 161)), (4, .int x4)] [] M
def L_L_law_458 (G : MG) (d : Nat) (sb : Nat) (Q : Int32 → Mm → Prop) (ce sl : Nat) (x4 : Int32) (sx0 : Int32) (sx1 : Int32) (sx2 : Int32) (M : Mm) : Prop := T G Y_L_law (d + 1) (Ri Q) ce sl 458 [(0, .ref sb), (1, .ref (G.b + 0)), (2, .ref (G.b + 147)), (3, .ref (G.b + 161)), (4, .int x4)] [.int sx0, .int sx1, .int sx2, .ref (G.b + 0)] M
def L_L_law_496 (G : MG) (d : Nat) (sb : Nat) (Q : Int32 → Mm → Prop) (ce sl : Nat) (x4 : Int32) (M : Mm) : Prop := T G Y_L_law (d + 1) (Ri Q) ce sl 496 [(0, .ref sb), (1, .ref (G.b + 0)), (2, .ref (G.b + 147)), (3, .ref (G.b + 161)), (4, .int x4)] [] M
def L_L_law_545 (G : MG) (d : Nat) (sb : Nat) (Q : Int32 → Mm → Prop) (ce sl : Nat) (x4 : Int32) (M : Mm) : Prop := T G Y_L_law (d + 1) (Ri Q) ce sl 545 [(0, .ref sb), (1, .ref (G.b + 0)), (2, .ref (G.b + 147)), (3, .ref (G.b + 161)), (4, .int x4)] [] M
def L_L_law_582 (G : MG) (d : Nat) (sb : Nat) (Q : Int32 → Mm → Prop) (ce sl : Nat) (x4 : Int32) (M : Mm) : Prop := T G Y_L_law (d + 1) (Ri Q) ce sl 582 [(0, .ref sb), (1, .ref (G.b + 0)), (2, .ref (G.b + 147)), (3, .ref (G.b + 161)), (4, .int x4)] [] M
def L_L_law_631 (G : MG) (d : Nat) (sb : Nat) (Q : Int32 → Mm → Prop) (ce sl : Nat) (x4 : Int32) (M : Mm) : Prop := T G Y_L_law (d + 1) (Ri Q) ce sl 631 [(0, .ref sb), (1, .ref (G.b + 0)), (2, .ref (G.b + 147)), (3, .ref (G.b + 161)), (4, .int x4)] [] M
def L_L_law_668 (G : MG) (d : Nat) (sb : Nat) (Q : Int32 → Mm → Prop) (ce sl : Nat) (x4 : Int32) (M : Mm) : Prop := T G Y_L_law (d + 1) (Ri Q) ce sl 668 [(0, .ref sb), (1, .ref (G.b + 0)), (2, .ref (G.b + 147)), (3, .ref (G.b + 161)), (4, .int x4)] [] M
def L_L_law_759 (G : MG) (d : Nat) (sb : Nat) (Q : Int32 → Mm → Prop) (ce sl : Nat) (x4 : Int32) (M : Mm) : Prop := T G Y_L_law (d + 1) (Ri Q) ce sl 759 [(0, .ref sb), (1, .ref (G.b + 0)), (2, .ref (G.b + 147)), (3, .ref (G.b + 161)), (4, .int x4)] [] M
def L_L_law_784 (G : MG) (d : Nat) (sb : Nat) (Q : Int32 → Mm → Prop) (ce sl : Nat) (x4 : Int32) (M : Mm) : Prop := T G Y_L_law (d + 1) (Ri Q) ce sl 784 [(0, .ref sb), (1, .ref (G.b + 0)), (2, .ref (G.b + 147)), (3, .ref (G.b + 161)), (4, .int x4)] [] M
def L_L_law_809 (G : MG) (d : Nat) (sb : Nat) (Q : Int32 → Mm → Prop) (ce sl : Nat) (x4 : Int32) (M : Mm) : Prop := T G Y_L_law (d + 1) (Ri Q) ce sl 809 [(0, .ref sb), (1, .ref (G.b + 0)), (2, .ref (G.b + 147)), (3, .ref (G.b + 161)), (4, .int x4)] [] M
def L_L_law_888 (G : MG) (d : Nat) (sb : Nat) (Q : Int32 → Mm → Prop) (ce sl : Nat) (x4 : Int32) (M : Mm) : Prop := T G Y_L_law (d + 1) (Ri Q) ce sl 888 [(0, .ref sb), (1, .ref (G.b + 0)), (2, .ref (G.b + 147)), (3, .ref (G.b + 161)), (4, .int x4)] [] M
def L_L_law_913 (G : MG) (d : Nat) (sb : Nat) (Q : Int32 → Mm → Prop) (ce sl : Nat) (x4 : Int32) (M : Mm) : Prop := T G Y_L_law (d + 1) (Ri Q) ce sl 913 [(0, .ref sb), (1, .ref (G.b + 0)), (2, .ref (G.b + 147)), (3, .ref (G.b + 161)), (4, .int x4)] [] M
def L_L_law_962 (G : MG) (d : Nat) (sb : Nat) (Q : Int32 → Mm → Prop) (ce sl : Nat) (x4 : Int32) (M : Mm) : Prop := T G Y_L_law (d + 1) (Ri Q) ce sl 962 [(0, .ref sb), (1, .ref (G.b + 0)), (2, .ref (G.b + 147)), (3, .ref (G.b + 161)), (4, .int x4)] [] M
def L_L_law_1011 (G : MG) (d : Nat) (sb : Nat) (Q : Int32 → Mm → Prop) (ce sl : Nat) (x4 : Int32) (M : Mm) : Prop := T G Y_L_law (d + 1) (Ri Q) ce sl 1011 [(0, .ref sb), (1, .ref (G.b + 0)), (2, .ref (G.b + 147)), (3, .ref (G.b + 161)), (4, .int x4)] [] M
def L_L_law_1024 (G : MG) (d : Nat) (sb : Nat) (Q : Int32 → Mm → Prop) (ce sl : Nat) (x4 : Int32) (M : Mm) : Prop := T G Y_L_law (d + 1) (Ri Q) ce sl 1024 [(0, .ref sb), (1, .ref (G.b + 0)), (2, .ref (G.b + 147)), (3, .ref (G.b + 161)), (4, .int x4)] [] M
def L_L_law_1037 (G : MG) (d : Nat) (sb : Nat) (Q : Int32 → Mm → Prop) (ce sl : Nat) (x4 : Int32) (M : Mm) : Prop := T G Y_L_law (d + 1) (Ri Q) ce sl 1037 [(0, .ref sb), (1, .ref (G.b + 0)), (2, .ref (G.b + 147)), (3, .ref (G.b + 161)), (4, .int x4)] [] M
def L_L_law_1093 (G : MG) (d : Nat) (sb : Nat) (Q : Int32 → Mm → Prop) (ce sl : Nat) (x4 : Int32) (M : Mm) : Prop := T G Y_L_law (d + 1) (Ri Q) ce sl 1093 [(0, .ref sb), (1, .ref (G.b + 0)), (2, .ref (G.b + 147)), (3, .ref (G.b + 161)), (4, .int x4)] [] M
def L_L_law_1119 (G : MG) (d : Nat) (sb : Nat) (Q : Int32 → Mm → Prop) (ce sl : Nat) (x4 : Int32) (M : Mm) : Prop := T G Y_L_law (d + 1) (Ri Q) ce sl 1119 [(0, .ref sb), (1, .ref (G.b + 0)), (2, .ref (G.b + 147)), (3, .ref (G.b + 161)), (4, .int x4)] [] M
def L_L_law_1145 (G : MG) (d : Nat) (sb : Nat) (Q : Int32 → Mm → Prop) (ce sl : Nat) (x4 : Int32) (M : Mm) : Prop := T G Y_L_law (d + 1) (Ri Q) ce sl 1145 [(0, .ref sb), (1, .ref (G.b + 0)), (2, .ref (G.b + 147)), (3, .ref (G.b + 161)), (4, .int x4)] [] M
def L_L_law_1182 (G : MG) (d : Nat) (sb : Nat) (Q : Int32 → Mm → Prop) (ce sl : Nat) (x4 : Int32) (M : Mm) : Prop := T G Y_L_law (d + 1) (Ri Q) ce sl 1182 [(0, .ref sb), (1, .ref (G.b + 0)), (2, .ref (G.b + 147)), (3, .ref (G.b + 161)), (4, .int x4)] [] M
def L_L_law_1207 (G : MG) (d : Nat) (sb : Nat) (Q : Int32 → Mm → Prop) (ce sl : Nat) (x4 : Int32) (M : Mm) : Prop := T G Y_L_law (d + 1) (Ri Q) ce sl 1207 [(0, .ref sb), (1, .ref (G.b + 0)), (2, .ref (G.b + 147)), (3, .ref (G.b + 161)), (4, .int x4)] [] M
def L_L_law_1228 (G : MG) (d : Nat) (sb : Nat) (Q : Int32 → Mm → Prop) (ce sl : Nat) (x4 : Int32) (sx0 : Int32) (sx1 : Int32) (M : Mm) : Prop := T G Y_L_law (d + 1) (Ri Q) ce sl 1228 [(0, .ref sb), (1, .ref (G.b + 0)), (2, .ref (G.b + 147)), (3, .ref (G.b + 161)), (4, .int x4)] [.int sx0, .int sx1, .ref (G.b + 0)] M
def L_L_law_1260 (G : MG) (d : Nat) (sb : Nat) (Q : Int32 → Mm → Prop) (ce sl : Nat) (x4 : Int32) (M : Mm) : Prop := T G Y_L_law (d + 1) (Ri Q) ce sl 1260 [(0, .ref sb), (1, .ref (G.b + 0)), (2, .ref (G.b + 147)), (3, .ref (G.b + 161)), (4, .int x4)] [] M
def L_L_law_1285 (G : MG) (d : Nat) (sb : Nat) (Q : Int32 → Mm → Prop) (ce sl : Nat) (x4 : Int32) (M : Mm) : Prop := T G Y_L_law (d + 1) (Ri Q) ce sl 1285 [(0, .ref sb), (1, .ref (G.b + 0)), (2, .ref (G.b + 147)), (3, .ref (G.b + 161)), (4, .int x4)] [] M
theorem b_L_law_23 {G : MG} {d sb sL : Nat} {xs : Nat → Int32} {Q : Int32 → Mm → Prop} {ce sl : Nat} {x4 : Int32} {M : Mm} {c : Nat} (hL : Lay c M) (hscr : ∀ U, G.X U → va_X sb sL xs U U.heap) (hsb : sb < G.b) (hcz0 : ce ≤ Y_L_law.mc ∧ sl ≤ Y_L_law.ms) (hcz1 : ce + 1 ≤ Y_L_law.mc ∧ sl + 6 ≤ Y_L_law.ms)  (h : ((((Int32.ofNat sL) - 7) < x4 → Q 1 M) ∧ (¬ ((Int32.ofNat sL) - 7) < x4 → (vp_in x4 sL ∧ (((xs x4.toNatClampNeg) &&& 31 = 0 → L_L_law_160 G d sb Q ce sl x4 M) ∧ ((xs x4.toNatClampNeg) &&& 31 = 1 → L_L_law_307 G d sb Q ce sl x4 M) ∧ ((xs x4.toNatClampNeg) &&& 31 = 2 → L_L_law_320 G d sb Q ce sl x4 M) ∧ ((xs x4.toNatClampNeg) &&& 31 = 3 → L_L_law_357 G d sb Q ce sl x4 M) ∧ ((xs x4.toNatClampNeg) &&& 31 = 4 → L_L_law_394 G d sb Q ce sl x4 M) ∧ ((xs x4.toNatClampNeg) &&& 31 = 5 → L_L_law_431 G d sb Q ce sl x4 M) ∧ ((xs x4.toNatClampNeg) &&& 31 = 6 → L_L_law_496 G d sb Q ce sl x4 M) ∧ ((xs x4.toNatClampNeg) &&& 31 = 7 → L_L_law_545 G d sb Q ce sl x4 M) ∧ ((xs x4.toNatClampNeg) &&& 31 = 8 → L_L_law_582 G d sb Q ce sl x4 M) ∧ ((xs x4.toNatClampNeg) &&& 31 = 9 → L_L_law_631 G d sb Q ce sl x4 M) ∧ ((xs x4.toNatClampNeg) &&& 31 = 10 → L_L_law_668 G d sb Q ce sl x4 M) ∧ ((xs x4.toNatClampNeg) &&& 31 = 11 → L_L_law_759 G d sb Q ce sl x4 M) ∧ ((xs x4.toNatClampNeg) &&& 31 = 12 → L_L_law_784 G d sb Q ce sl x4 M) ∧ ((xs x4.toNatClampNeg) &&& 31 = 13 → L_L_law_809 G d sb Q ce sl x4 M) ∧ ((xs x4.toNatClampNeg) &&& 31 = 14 → L_L_law_888 G d sb Q ce sl x4 M) ∧ ((xs x4.toNatClampNeg) &&& 31 = 15 → L_L_law_913 G d sb Q ce sl x4 M) ∧ ((xs x4.toNatClampNeg) &&& 31 = 16 → L_L_law_962 G d sb Q ce sl x4 M) ∧ ((xs x4.toNatClampNeg) &&& 31 = 17 → L_L_law_1011 G d sb Q ce sl x4 M) ∧ ((xs x4.toNatClampNeg) &&& 31 = 18 → L_L_law_1024 G d sb Q ce sl x4 M) ∧ ((xs x4.toNatClampNeg) &&& 31 = 19 → L_L_law_1037 G d sb Q ce sl x4 M) ∧ ((xs x4.toNatClampNeg) &&& 31 = 20 → L_L_law_1093 G d sb Q ce sl x4 M) ∧ ((xs x4.toNatClampNeg) &&& 31 = 21 → L_L_law_1119 G d sb Q ce sl x4 M) ∧ ((xs x4.toNatClampNeg) &&& 31 = 22 → L_L_law_1145 G d sb Q ce sl x4 M) ∧ ((xs x4.toNatClampNeg) &&& 31 = 23 → L_L_law_1182 G d sb Q ce sl x4 M) ∧ ((xs x4.toNatClampNeg) &&& 31 = 24 → L_L_law_1207 G d sb Q ce sl x4 M) ∧ ((xs x4.toNatClampNeg) &&& 31 = 25 → L_L_law_1260 G d sb Q ce sl x4 M) ∧ (¬ (xs x4.toNatClampNeg) &&& 31 = 0 → ¬ (xs x4.toNatClampNeg) &&& 31 = 1 → ¬ (xs x4.toNatClampNeg) &&& 31 = 2 → ¬ (xs x4.toNatClampNeg) &&& 31 = 3 → ¬ (xs x4.toNatClampNeg) &&& 31 = 4 → ¬ (xs x4.toNatClampNeg) &&& 31 = 5 → ¬ (xs x4.toNatClampNeg) &&& 31 = 6 → ¬ (xs x4.toNatClampNeg) &&& 31 = 7 → ¬ (xs x4.toNatClampNeg) &&& 31 = 8 → ¬ (xs x4.toNatClampNeg) &&& 31 = 9 → ¬ (xs x4.toNatClampNeg) &&& 31 = 10 → ¬ (xs x4.toNatClampNeg) &&& 31 = 11 → ¬ (xs x4.toNatClampNeg) &&& 31 = 12 → ¬ (xs x4.toNatClampNeg) &&& 31 = 13 → ¬ (xs x4.toNatClampNeg) &&& 31 = 14 → ¬ (xs x4.toNatClampNeg) &&& 31 = 15 → ¬ (xs x4.toNatClampNeg) &&& 31 = 16 → ¬ (xs x4.toNatClampNeg) &&& 31 = 17 → ¬ (xs x4.toNatClampNeg) &&& 31 = 18 → ¬ (xs x4.toNatClampNeg) &&& 31 = 19 → ¬ (xs x4.toNatClampNeg) &&& 31 = 20 → ¬ (xs x4.toNatClampNeg) &&& 31 = 21 → ¬ (xs x4.toNatClampNeg) &&& 31 = 22 → ¬ (xs x4.toNatClampNeg) &&& 31 = 23 → ¬ (xs x4.toNatClampNeg) &&& 31 = 24 → ¬ (xs x4.toNatClampNeg) &&& 31 = 25 → L_L_law_1285 G d sb Q ce sl x4 M)))))) : L_L_law_23 G d sb Q ce sl x4 M := by
  unfold L_L_law_23
  refine tw_iload 4 d_L_law_23 rfl ?_
  refine tw_aload_n 0 d_L_law_25 rfl rfl ?_
  refine tw_slen hscr hsb d_L_law_26 ?_
  refine tw_bipush d_L_law_27 kb_7 ?_
  refine tw_isub d_L_law_29 ?_
  refine tw_icmp_gt 1291 d_L_law_30 (by decide) (fun z1 => ?_) (fun z1 => ?_)
  · replace h := h.1 z1
    refine tw_iconst d_L_law_1291 k_1 ?_
    exact tw_zret (ty := .boolean) rfl rfl hcz0 d_L_law_1292 h
  · replace h := h.2 z1
    refine tw_aload_n 0 d_L_law_33 rfl rfl ?_
    refine tw_iload 4 d_L_law_34 rfl ?_
    refine tw_sld hscr hsb d_L_law_36 h.1 ?_
    replace h := h.2
    refine tw_bipush d_L_law_37 kb_31 ?_
    refine tw_iand d_L_law_39 ?_
    by_cases hz0 : (xs x4.toNatClampNeg) &&& 31 = 0
    · replace h := h.1 hz0
      refine tw_tabIn 160 d_L_law_40 (by rw [hz0]; decide) (by rw [hz0]; decide) (by rw [hz0]; rfl) (by decide) ?_
      exact tw_lv [0, 1, 2, 3, 4] rfl h
    by_cases hz1 : (xs x4.toNatClampNeg) &&& 31 = 1
    · replace h := h.2.1 hz1
      refine tw_tabIn 307 d_L_law_40 (by rw [hz1]; decide) (by rw [hz1]; decide) (by rw [hz1]; rfl) (by decide) ?_
      exact tw_lv [0, 1, 2, 3, 4] rfl h
    by_cases hz2 : (xs x4.toNatClampNeg) &&& 31 = 2
    · replace h := h.2.2.1 hz2
      refine tw_tabIn 320 d_L_law_40 (by rw [hz2]; decide) (by rw [hz2]; decide) (by rw [hz2]; rfl) (by decide) ?_
      exact tw_lv [0, 1, 2, 3, 4] rfl h
    by_cases hz3 : (xs x4.toNatClampNeg) &&& 31 = 3
    · replace h := h.2.2.2.1 hz3
      refine tw_tabIn 357 d_L_law_40 (by rw [hz3]; decide) (by rw [hz3]; decide) (by rw [hz3]; rfl) (by decide) ?_
      exact tw_lv [0, 1, 2, 3, 4] rfl h
    by_cases hz4 : (xs x4.toNatClampNeg) &&& 31 = 4
    · replace h := h.2.2.2.2.1 hz4
      refine tw_tabIn 394 d_L_law_40 (by rw [hz4]; decide) (by rw [hz4]; decide) (by rw [hz4]; rfl) (by decide) ?_
      exact tw_lv [0, 1, 2, 3, 4] rfl h
    by_cases hz5 : (xs x4.toNatClampNeg) &&& 31 = 5
    · replace h := h.2.2.2.2.2.1 hz5
      refine tw_tabIn 431 d_L_law_40 (by rw [hz5]; decide) (by rw [hz5]; decide) (by rw [hz5]; rfl) (by decide) ?_
      exact tw_lv [0, 1, 2, 3, 4] rfl h
    by_cases hz6 : (xs x4.toNatClampNeg) &&& 31 = 6
    · replace h := h.2.2.2.2.2.2.1 hz6
      refine tw_tabIn 496 d_L_law_40 (by rw [hz6]; decide) (by rw [hz6]; decide) (by rw [hz6]; rfl) (by decide) ?_
      exact tw_lv [0, 1, 2, 3, 4] rfl h
    by_cases hz7 : (xs x4.toNatClampNeg) &&& 31 = 7
    · replace h := h.2.2.2.2.2.2.2.1 hz7
      refine tw_tabIn 545 d_L_law_40 (by rw [hz7]; decide) (by rw [hz7]; decide) (by rw [hz7]; rfl) (by decide) ?_
      exact tw_lv [0, 1, 2, 3, 4] rfl h
    by_cases hz8 : (xs x4.toNatClampNeg) &&& 31 = 8
    · replace h := h.2.2.2.2.2.2.2.2.1 hz8
      refine tw_tabIn 582 d_L_law_40 (by rw [hz8]; decide) (by rw [hz8]; decide) (by rw [hz8]; rfl) (by decide) ?_
      exact tw_lv [0, 1, 2, 3, 4] rfl h
    by_cases hz9 : (xs x4.toNatClampNeg) &&& 31 = 9
    · replace h := h.2.2.2.2.2.2.2.2.2.1 hz9
      refine tw_tabIn 631 d_L_law_40 (by rw [hz9]; decide) (by rw [hz9]; decide) (by rw [hz9]; rfl) (by decide) ?_
      exact tw_lv [0, 1, 2, 3, 4] rfl h
    by_cases hz10 : (xs x4.toNatClampNeg) &&& 31 = 10
    · replace h := h.2.2.2.2.2.2.2.2.2.2.1 hz10
      refine tw_tabIn 668 d_L_law_40 (by rw [hz10]; decide) (by rw [hz10]; decide) (by rw [hz10]; rfl) (by decide) ?_
      exact tw_lv [0, 1, 2, 3, 4] rfl h
    by_cases hz11 : (xs x4.toNatClampNeg) &&& 31 = 11
    · replace h := h.2.2.2.2.2.2.2.2.2.2.2.1 hz11
      refine tw_tabIn 759 d_L_law_40 (by rw [hz11]; decide) (by rw [hz11]; decide) (by rw [hz11]; rfl) (by decide) ?_
      exact tw_lv [0, 1, 2, 3, 4] rfl h
    by_cases hz12 : (xs x4.toNatClampNeg) &&& 31 = 12
    · replace h := h.2.2.2.2.2.2.2.2.2.2.2.2.1 hz12
      refine tw_tabIn 784 d_L_law_40 (by rw [hz12]; decide) (by rw [hz12]; decide) (by rw [hz12]; rfl) (by decide) ?_
      exact tw_lv [0, 1, 2, 3, 4] rfl h
    by_cases hz13 : (xs x4.toNatClampNeg) &&& 31 = 13
    · replace h := h.2.2.2.2.2.2.2.2.2.2.2.2.2.1 hz13
      refine tw_tabIn 809 d_L_law_40 (by rw [hz13]; decide) (by rw [hz13]; decide) (by rw [hz13]; rfl) (by decide) ?_
      exact tw_lv [0, 1, 2, 3, 4] rfl h
    by_cases hz14 : (xs x4.toNatClampNeg) &&& 31 = 14
    · replace h := h.2.2.2.2.2.2.2.2.2.2.2.2.2.2.1 hz14
      refine tw_tabIn 888 d_L_law_40 (by rw [hz14]; decide) (by rw [hz14]; decide) (by rw [hz14]; rfl) (by decide) ?_
      exact tw_lv [0, 1, 2, 3, 4] rfl h
    by_cases hz15 : (xs x4.toNatClampNeg) &&& 31 = 15
    · replace h := h.2.2.2.2.2.2.2.2.2.2.2.2.2.2.2.1 hz15
      refine tw_tabIn 913 d_L_law_40 (by rw [hz15]; decide) (by rw [hz15]; decide) (by rw [hz15]; rfl) (by decide) ?_
      exact tw_lv [0, 1, 2, 3, 4] rfl h
    by_cases hz16 : (xs x4.toNatClampNeg) &&& 31 = 16
    · replace h := h.2.2.2.2.2.2.2.2.2.2.2.2.2.2.2.2.1 hz16
      refine tw_tabIn 962 d_L_law_40 (by rw [hz16]; decide) (by rw [hz16]; decide) (by rw [hz16]; rfl) (by decide) ?_
      exact tw_lv [0, 1, 2, 3, 4] rfl h
    by_cases hz17 : (xs x4.toNatClampNeg) &&& 31 = 17
    · replace h := h.2.2.2.2.2.2.2.2.2.2.2.2.2.2.2.2.2.1 hz17
      refine tw_tabIn 1011 d_L_law_40 (by rw [hz17]; decide) (by rw [hz17]; decide) (by rw [hz17]; rfl) (by decide) ?_
      exact tw_lv [0, 1, 2, 3, 4] rfl h
    by_cases hz18 : (xs x4.toNatClampNeg) &&& 31 = 18
    · replace h := h.2.2.2.2.2.2.2.2.2.2.2.2.2.2.2.2.2.2.1 hz18
      refine tw_tabIn 1024 d_L_law_40 (by rw [hz18]; decide) (by rw [hz18]; decide) (by rw [hz18]; rfl) (by decide) ?_
      exact tw_lv [0, 1, 2, 3, 4] rfl h
    by_cases hz19 : (xs x4.toNatClampNeg) &&& 31 = 19
    · replace h := h.2.2.2.2.2.2.2.2.2.2.2.2.2.2.2.2.2.2.2.1 hz19
      refine tw_tabIn 1037 d_L_law_40 (by rw [hz19]; decide) (by rw [hz19]; decide) (by rw [hz19]; rfl) (by decide) ?_
      exact tw_lv [0, 1, 2, 3, 4] rfl h
    by_cases hz20 : (xs x4.toNatClampNeg) &&& 31 = 20
    · replace h := h.2.2.2.2.2.2.2.2.2.2.2.2.2.2.2.2.2.2.2.2.1 hz20
      refine tw_tabIn 1093 d_L_law_40 (by rw [hz20]; decide) (by rw [hz20]; decide) (by rw [hz20]; rfl) (by decide) ?_
      exact tw_lv [0, 1, 2, 3, 4] rfl h
    by_cases hz21 : (xs x4.toNatClampNeg) &&& 31 = 21
    · replace h := h.2.2.2.2.2.2.2.2.2.2.2.2.2.2.2.2.2.2.2.2.2.1 hz21
      refine tw_tabIn 1119 d_L_law_40 (by rw [hz21]; decide) (by rw [hz21]; decide) (by rw [hz21]; rfl) (by decide) ?_
      exact tw_lv [0, 1, 2, 3, 4] rfl h
    by_cases hz22 : (xs x4.toNatClampNeg) &&& 31 = 22
    · replace h := h.2.2.2.2.2.2.2.2.2.2.2.2.2.2.2.2.2.2.2.2.2.2.1 hz22
      refine tw_tabIn 1145 d_L_law_40 (by rw [hz22]; decide) (by rw [hz22]; decide) (by rw [hz22]; rfl) (by decide) ?_
      exact tw_lv [0, 1, 2, 3, 4] rfl h
    by_cases hz23 : (xs x4.toNatClampNeg) &&& 31 = 23
    · replace h := h.2.2.2.2.2.2.2.2.2.2.2.2.2.2.2.2.2.2.2.2.2.2.2.1 hz23
      refine tw_tabIn 1182 d_L_law_40 (by rw [hz23]; decide) (by rw [hz23]; decide) (by rw [hz23]; rfl) (by decide) ?_
      exact tw_lv [0, 1, 2, 3, 4] rfl h
    by_cases hz24 : (xs x4.toNatClampNeg) &&& 31 = 24
    · replace h := h.2.2.2.2.2.2.2.2.2.2.2.2.2.2.2.2.2.2.2.2.2.2.2.2.1 hz24
      refine tw_tabIn 1207 d_L_law_40 (by rw [hz24]; decide) (by rw [hz24]; decide) (by rw [hz24]; rfl) (by decide) ?_
      exact tw_lv [0, 1, 2, 3, 4] rfl h
    by_cases hz25 : (xs x4.toNatClampNeg) &&& 31 = 25
    · replace h := h.2.2.2.2.2.2.2.2.2.2.2.2.2.2.2.2.2.2.2.2.2.2.2.2.2.1 hz25
      refine tw_tabIn 1260 d_L_law_40 (by rw [hz25]; decide) (by rw [hz25]; decide) (by rw [hz25]; rfl) (by decide) ?_
      exact tw_lv [0, 1, 2, 3, 4] rfl h
    replace h := h.2.2.2.2.2.2.2.2.2.2.2.2.2.2.2.2.2.2.2.2.2.2.2.2.2.2 hz0 hz1 hz2 hz3 hz4 hz5 hz6 hz7 hz8 hz9 hz10 hz11 hz12 hz13 hz14 hz15 hz16 hz17 hz18 hz19 hz20 hz21 hz22 hz23 hz24 hz25
    refine tw_tabOut 1285 d_L_law_40 (tab_out_0_25 hz0 hz1 hz2 hz3 hz4 hz5 hz6 hz7 hz8 hz9 hz10 hz11 hz12 hz13 hz14 hz15 hz16 hz17 hz18 hz19 hz20 hz21 hz22 hz23 hz24 hz25) (by decide) ?_
    exact tw_lv [0, 1, 2, 3, 4] rfl h
theorem b_L_law_160 {G : MG} {d sb sL : Nat} {xs : Nat → Int32} {Q : Int32 → Mm → Prop} {ce sl : Nat} {x4 : Int32} {M : Mm} {c : Nat} (hL : Lay c M) (hscr : ∀ U, G.X U → va_X sb sL xs U U.heap) (hsb : sb < G.b) (hcz0 : ce ≤ Y_L_law.mc ∧ sl ≤ Y_L_law.ms) (hcz1 : ce + 1 ≤ Y_L_law.mc ∧ sl + 6 ≤ Y_L_law.ms)  (h : (vp_in (x4 + 1) sL ∧ (vp_in (x4 + 2) sL ∧ (vp_in (x4 + 3) sL ∧ (vp_in (x4 + 4) sL ∧ (vp_in (x4 + 5) sL ∧ (vp_in (x4 + 6) sL ∧ (C G Y_X11_feed d [.ref (G.b + 0), .long ((((xs (x4 + 1).toNatClampNeg).toInt64) <<< ((32 : Int32).toInt64 &&& 63)) ||| (((xs (x4 + 2).toNatClampNeg).toInt64) &&& 4294967295)), .long ((((xs (x4 + 3).toNatClampNeg).toInt64) <<< ((32 : Int32).toInt64 &&& 63)) ||| (((xs (x4 + 4).toNatClampNeg).toInt64) &&& 4294967295)), .long ((((xs (x4 + 5).toNatClampNeg).toInt64) <<< ((32 : Int32).toInt64 &&& 63)) ||| (((xs (x4 + 6).toNatClampNeg).toInt64) &&& 4294967295))] M (Ri fun r2 M1 => M1.2.2 = M.2.2 ∧ (vp_in (x4 + 1) sL ∧ (vp_in (x4 + 2) sL ∧ (vp_in (x4 + 3) sL ∧ (vp_in (x4 + 4) sL ∧ (vp_in (x4 + 5) sL ∧ (vp_in (x4 + 6) sL ∧ (C G Y_X12_feed d [.ref (G.b + 147), .long ((((xs (x4 + 1).toNatClampNeg).toInt64) <<< ((32 : Int32).toInt64 &&& 63)) ||| (((xs (x4 + 2).toNatClampNeg).toInt64) &&& 4294967295)), .long ((((xs (x4 + 3).toNatClampNeg).toInt64) <<< ((32 : Int32).toInt64 &&& 63)) ||| (((xs (x4 + 4).toNatClampNeg).toInt64) &&& 4294967295)), .long ((((xs (x4 + 5).toNatClampNeg).toInt64) <<< ((32 : Int32).toInt64 &&& 63)) ||| (((xs (x4 + 6).toNatClampNeg).toInt64) &&& 4294967295))] M1 (Ri fun r4 M3 => M3.2.2 = M1.2.2 ∧ ((r2 = r4 → L_L_law_1285 G d sb Q ce sl x4 M3) ∧ (¬ r2 = r4 → Q 0 M3))))))))))))))))))) : L_L_law_160 G d sb Q ce sl x4 M := by
  unfold L_L_law_160
  refine tw_aload_n 1 d_L_law_160 rfl rfl ?_
  refine tw_aload_n 0 d_L_law_161 rfl rfl ?_
  refine tw_iload 4 d_L_law_162 rfl ?_
  refine tw_iconst d_L_law_164 k_1 ?_
  refine tw_iadd d_L_law_165 ?_
  refine tw_sld hscr hsb d_L_law_166 h.1 ?_
  replace h := h.2
  refine tw_i2l d_L_law_167 ?_
  refine tw_bipush d_L_law_168 kb_32 ?_
  refine tw_lshl d_L_law_170 rfl ?_
  refine tw_aload_n 0 d_L_law_171 rfl rfl ?_
  refine tw_iload 4 d_L_law_172 rfl ?_
  refine tw_iconst d_L_law_174 k_2 ?_
  refine tw_iadd d_L_law_175 ?_
  refine tw_sld hscr hsb d_L_law_176 h.1 ?_
  replace h := h.2
  refine tw_i2l d_L_law_177 ?_
  refine tw_ldc2 d_L_law_178 mg1391 ?_
  refine tw_land d_L_law_181 ?_
  refine tw_lor d_L_law_182 ?_
  refine tw_aload_n 0 d_L_law_183 rfl rfl ?_
  refine tw_iload 4 d_L_law_184 rfl ?_
  refine tw_iconst d_L_law_186 k_3 ?_
  refine tw_iadd d_L_law_187 ?_
  refine tw_sld hscr hsb d_L_law_188 h.1 ?_
  replace h := h.2
  refine tw_i2l d_L_law_189 ?_
  refine tw_bipush d_L_law_190 kb_32 ?_
  refine tw_lshl d_L_law_192 rfl ?_
  refine tw_aload_n 0 d_L_law_193 rfl rfl ?_
  refine tw_iload 4 d_L_law_194 rfl ?_
  refine tw_iconst d_L_law_196 k_4 ?_
  refine tw_iadd d_L_law_197 ?_
  refine tw_sld hscr hsb d_L_law_198 h.1 ?_
  replace h := h.2
  refine tw_i2l d_L_law_199 ?_
  refine tw_ldc2 d_L_law_200 mg1391 ?_
  refine tw_land d_L_law_203 ?_
  refine tw_lor d_L_law_204 ?_
  refine tw_aload_n 0 d_L_law_205 rfl rfl ?_
  refine tw_iload 4 d_L_law_206 rfl ?_
  refine tw_iconst d_L_law_208 k_5 ?_
  refine tw_iadd d_L_law_209 ?_
  refine tw_sld hscr hsb d_L_law_210 h.1 ?_
  replace h := h.2
  refine tw_i2l d_L_law_211 ?_
  refine tw_bipush d_L_law_212 kb_32 ?_
  refine tw_lshl d_L_law_214 rfl ?_
  refine tw_aload_n 0 d_L_law_215 rfl rfl ?_
  refine tw_iload 4 d_L_law_216 rfl ?_
  refine tw_bipush d_L_law_218 kb_6 ?_
  refine tw_iadd d_L_law_220 ?_
  refine tw_sld hscr hsb d_L_law_221 h.1 ?_
  replace h := h.2
  refine tw_i2l d_L_law_222 ?_
  refine tw_ldc2 d_L_law_223 mg1391 ?_
  refine tw_land d_L_law_226 ?_
  refine tw_lor d_L_law_227 ?_
  refine tu_cVi (As := [.long ((((xs (x4 + 1).toNatClampNeg).toInt64) <<< ((32 : Int32).toInt64 &&& 63)) ||| (((xs (x4 + 2).toNatClampNeg).toInt64) &&& 4294967295)), .long ((((xs (x4 + 3).toNatClampNeg).toInt64) <<< ((32 : Int32).toInt64 &&& 63)) ||| (((xs (x4 + 4).toNatClampNeg).toInt64) &&& 4294967295)), .long ((((xs (x4 + 5).toNatClampNeg).toInt64) <<< ((32 : Int32).toInt64 &&& 63)) ||| (((xs (x4 + 6).toNatClampNeg).toInt64) &&& 4294967295))]) cv_L_29 hL s_0 rfl (Nat.le_of_ble_eq_true rfl) hcz0 d_L_law_228 h (fun r2 M1 h => ?_)
  have hL_M1 : Lay c M1 := hL.to h.1
  replace h := h.2
  refine tw_aload_n 2 d_L_law_231 rfl rfl ?_
  refine tw_aload_n 0 d_L_law_232 rfl rfl ?_
  refine tw_iload 4 d_L_law_233 rfl ?_
  refine tw_iconst d_L_law_235 k_1 ?_
  refine tw_iadd d_L_law_236 ?_
  refine tw_sld hscr hsb d_L_law_237 h.1 ?_
  replace h := h.2
  refine tw_i2l d_L_law_238 ?_
  refine tw_bipush d_L_law_239 kb_32 ?_
  refine tw_lshl d_L_law_241 rfl ?_
  refine tw_aload_n 0 d_L_law_242 rfl rfl ?_
  refine tw_iload 4 d_L_law_243 rfl ?_
  refine tw_iconst d_L_law_245 k_2 ?_
  refine tw_iadd d_L_law_246 ?_
  refine tw_sld hscr hsb d_L_law_247 h.1 ?_
  replace h := h.2
  refine tw_i2l d_L_law_248 ?_
  refine tw_ldc2 d_L_law_249 mg1391 ?_
  refine tw_land d_L_law_252 ?_
  refine tw_lor d_L_law_253 ?_
  refine tw_aload_n 0 d_L_law_254 rfl rfl ?_
  refine tw_iload 4 d_L_law_255 rfl ?_
  refine tw_iconst d_L_law_257 k_3 ?_
  refine tw_iadd d_L_law_258 ?_
  refine tw_sld hscr hsb d_L_law_259 h.1 ?_
  replace h := h.2
  refine tw_i2l d_L_law_260 ?_
  refine tw_bipush d_L_law_261 kb_32 ?_
  refine tw_lshl d_L_law_263 rfl ?_
  refine tw_aload_n 0 d_L_law_264 rfl rfl ?_
  refine tw_iload 4 d_L_law_265 rfl ?_
  refine tw_iconst d_L_law_267 k_4 ?_
  refine tw_iadd d_L_law_268 ?_
  refine tw_sld hscr hsb d_L_law_269 h.1 ?_
  replace h := h.2
  refine tw_i2l d_L_law_270 ?_
  refine tw_ldc2 d_L_law_271 mg1391 ?_
  refine tw_land d_L_law_274 ?_
  refine tw_lor d_L_law_275 ?_
  refine tw_aload_n 0 d_L_law_276 rfl rfl ?_
  refine tw_iload 4 d_L_law_277 rfl ?_
  refine tw_iconst d_L_law_279 k_5 ?_
  refine tw_iadd d_L_law_280 ?_
  refine tw_sld hscr hsb d_L_law_281 h.1 ?_
  replace h := h.2
  refine tw_i2l d_L_law_282 ?_
  refine tw_bipush d_L_law_283 kb_32 ?_
  refine tw_lshl d_L_law_285 rfl ?_
  refine tw_aload_n 0 d_L_law_286 rfl rfl ?_
  refine tw_iload 4 d_L_law_287 rfl ?_
  refine tw_bipush d_L_law_289 kb_6 ?_
  refine tw_iadd d_L_law_291 ?_
  refine tw_sld hscr hsb d_L_law_292 h.1 ?_
  replace h := h.2
  refine tw_i2l d_L_law_293 ?_
  refine tw_ldc2 d_L_law_294 mg1391 ?_
  refine tw_land d_L_law_297 ?_
  refine tw_lor d_L_law_298 ?_
  refine tu_cVi (As := [.long ((((xs (x4 + 1).toNatClampNeg).toInt64) <<< ((32 : Int32).toInt64 &&& 63)) ||| (((xs (x4 + 2).toNatClampNeg).toInt64) &&& 4294967295)), .long ((((xs (x4 + 3).toNatClampNeg).toInt64) <<< ((32 : Int32).toInt64 &&& 63)) ||| (((xs (x4 + 4).toNatClampNeg).toInt64) &&& 4294967295)), .long ((((xs (x4 + 5).toNatClampNeg).toInt64) <<< ((32 : Int32).toInt64 &&& 63)) ||| (((xs (x4 + 6).toNatClampNeg).toInt64) &&& 4294967295))]) cv_L_33 hL_M1 s_147 rfl (Nat.le_of_ble_eq_true rfl) hcz0 d_L_law_299 h (fun r4 M3 h => ?_)
  have hL_M3 : Lay c M3 := hL_M1.to h.1
  replace h := h.2
  refine tw_icmp_eq 1285 d_L_law_302 (by decide) (fun z5 => ?_) (fun z5 => ?_)
  · replace h := h.1 z5
    exact tw_lv [0, 1, 2, 3, 4] rfl h
  · replace h := h.2 z5
    refine tw_iconst d_L_law_305 k_0 ?_
    exact tw_zret (ty := .boolean) rfl rfl hcz0 d_L_law_306 h
theorem b_L_law_307 {G : MG} {d sb sL : Nat} {xs : Nat → Int32} {Q : Int32 → Mm → Prop} {ce sl : Nat} {x4 : Int32} {M : Mm} {c : Nat} (hL : Lay c M) (hscr : ∀ U, G.X U → va_X sb sL xs U U.heap) (hsb : sb < G.b) (hcz0 : ce ≤ Y_L_law.mc ∧ sl ≤ Y_L_law.ms) (hcz1 : ce + 1 ≤ Y_L_law.mc ∧ sl + 6 ≤ Y_L_law.ms)  (h : (C G Y_X11_office d [.ref (G.b + 0)] M (Ri fun r2 M1 => ∃ c2, Lay c2 M1 ∧ (C G Y_X12_office d [.ref (G.b + 147)] M1 (Ri fun r4 M3 => M3.2.2 = M1.2.2 ∧ ((r2 = r4 → L_L_law_1285 G d sb Q ce sl x4 M3) ∧ (¬ r2 = r4 → Q 0 M3))))))) : L_L_law_307 G d sb Q ce sl x4 M := by
  unfold L_L_law_307
  refine tw_aload_n 1 d_L_law_307 rfl rfl ?_
  refine tu_cVi (As := []) cv_L_34 hL s_0 rfl (Nat.le_of_ble_eq_true rfl) hcz0 d_L_law_308 h (fun r2 M1 h => ?_)
  obtain ⟨c2, hL_M1, h⟩ := h
  refine tw_aload_n 2 d_L_law_311 rfl rfl ?_
  refine tu_cVi (As := []) cv_L_38 hL_M1 s_147 rfl (Nat.le_of_ble_eq_true rfl) hcz0 d_L_law_312 h (fun r4 M3 h => ?_)
  have hL_M3 : Lay c2 M3 := hL_M1.to h.1
  replace h := h.2
  refine tw_icmp_eq 1285 d_L_law_315 (by decide) (fun z5 => ?_) (fun z5 => ?_)
  · replace h := h.1 z5
    exact tw_lv [0, 1, 2, 3, 4] rfl h
  · replace h := h.2 z5
    refine tw_iconst d_L_law_318 k_0 ?_
    exact tw_zret (ty := .boolean) rfl rfl hcz0 d_L_law_319 h
theorem b_L_law_320 {G : MG} {d sb sL : Nat} {xs : Nat → Int32} {Q : Int32 → Mm → Prop} {ce sl : Nat} {x4 : Int32} {M : Mm} {c : Nat} (hL : Lay c M) (hscr : ∀ U, G.X U → va_X sb sL xs U U.heap) (hsb : sb < G.b) (hcz0 : ce ≤ Y_L_law.mc ∧ sl ≤ Y_L_law.ms) (hcz1 : ce + 1 ≤ Y_L_law.mc ∧ sl + 6 ≤ Y_L_law.ms)  (h : (vp_in (x4 + 1) sL ∧ (vp_in (x4 + 2) sL ∧ (C G Y_X11_arm d [.ref (G.b + 0), .int (xs (x4 + 1).toNatClampNeg), .int (xs (x4 + 2).toNatClampNeg)] M (Ri fun r2 M1 => M1.2.2 = M.2.2 ∧ (vp_in (x4 + 1) sL ∧ (vp_in (x4 + 2) sL ∧ (C G Y_X12_arm d [.ref (G.b + 147), .int (xs (x4 + 1).toNatClampNeg), .int (xs (x4 + 2).toNatClampNeg)] M1 (Ri fun r4 M3 => M3.2.2 = M1.2.2 ∧ ((r2 = r4 → L_L_law_1285 G d sb Q ce sl x4 M3) ∧ (¬ r2 = r4 → Q 0 M3))))))))))) : L_L_law_320 G d sb Q ce sl x4 M := by
  unfold L_L_law_320
  refine tw_aload_n 1 d_L_law_320 rfl rfl ?_
  refine tw_aload_n 0 d_L_law_321 rfl rfl ?_
  refine tw_iload 4 d_L_law_322 rfl ?_
  refine tw_iconst d_L_law_324 k_1 ?_
  refine tw_iadd d_L_law_325 ?_
  refine tw_sld hscr hsb d_L_law_326 h.1 ?_
  replace h := h.2
  refine tw_aload_n 0 d_L_law_327 rfl rfl ?_
  refine tw_iload 4 d_L_law_328 rfl ?_
  refine tw_iconst d_L_law_330 k_2 ?_
  refine tw_iadd d_L_law_331 ?_
  refine tw_sld hscr hsb d_L_law_332 h.1 ?_
  replace h := h.2
  refine tu_cVi (As := [.int (xs (x4 + 1).toNatClampNeg), .int (xs (x4 + 2).toNatClampNeg)]) cv_L_39 hL s_0 rfl (Nat.le_of_ble_eq_true rfl) hcz0 d_L_law_333 h (fun r2 M1 h => ?_)
  have hL_M1 : Lay c M1 := hL.to h.1
  replace h := h.2
  refine tw_aload_n 2 d_L_law_336 rfl rfl ?_
  refine tw_aload_n 0 d_L_law_337 rfl rfl ?_
  refine tw_iload 4 d_L_law_338 rfl ?_
  refine tw_iconst d_L_law_340 k_1 ?_
  refine tw_iadd d_L_law_341 ?_
  refine tw_sld hscr hsb d_L_law_342 h.1 ?_
  replace h := h.2
  refine tw_aload_n 0 d_L_law_343 rfl rfl ?_
  refine tw_iload 4 d_L_law_344 rfl ?_
  refine tw_iconst d_L_law_346 k_2 ?_
  refine tw_iadd d_L_law_347 ?_
  refine tw_sld hscr hsb d_L_law_348 h.1 ?_
  replace h := h.2
  refine tu_cVi (As := [.int (xs (x4 + 1).toNatClampNeg), .int (xs (x4 + 2).toNatClampNeg)]) cv_L_43 hL_M1 s_147 rfl (Nat.le_of_ble_eq_true rfl) hcz0 d_L_law_349 h (fun r4 M3 h => ?_)
  have hL_M3 : Lay c M3 := hL_M1.to h.1
  replace h := h.2
  refine tw_icmp_eq 1285 d_L_law_352 (by decide) (fun z5 => ?_) (fun z5 => ?_)
  · replace h := h.1 z5
    exact tw_lv [0, 1, 2, 3, 4] rfl h
  · replace h := h.2 z5
    refine tw_iconst d_L_law_355 k_0 ?_
    exact tw_zret (ty := .boolean) rfl rfl hcz0 d_L_law_356 h
theorem b_L_law_357 {G : MG} {d sb sL : Nat} {xs : Nat → Int32} {Q : Int32 → Mm → Prop} {ce sl : Nat} {x4 : Int32} {M : Mm} {c : Nat} (hL : Lay c M) (hscr : ∀ U, G.X U → va_X sb sL xs U U.heap) (hsb : sb < G.b) (hcz0 : ce ≤ Y_L_law.mc ∧ sl ≤ Y_L_law.ms) (hcz1 : ce + 1 ≤ Y_L_law.mc ∧ sl + 6 ≤ Y_L_law.ms)  (h : (vp_in (x4 + 1) sL ∧ (vp_in (x4 + 2) sL ∧ (C G Y_X11_hole d [.ref (G.b + 0), .int (xs (x4 + 1).toNatClampNeg), .int (xs (x4 + 2).toNatClampNeg)] M (Ri fun r2 M1 => M1.2.2 = M.2.2 ∧ (vp_in (x4 + 1) sL ∧ (vp_in (x4 + 2) sL ∧ (C G Y_X12_hole d [.ref (G.b + 147), .int (xs (x4 + 1).toNatClampNeg), .int (xs (x4 + 2).toNatClampNeg)] M1 (Ri fun r4 M3 => M3.2.2 = M1.2.2 ∧ ((r2 = r4 → L_L_law_1285 G d sb Q ce sl x4 M3) ∧ (¬ r2 = r4 → Q 0 M3))))))))))) : L_L_law_357 G d sb Q ce sl x4 M := by
  unfold L_L_law_357
  refine tw_aload_n 1 d_L_law_357 rfl rfl ?_
  refine tw_aload_n 0 d_L_law_358 rfl rfl ?_
  refine tw_iload 4 d_L_law_359 rfl ?_
  refine tw_iconst d_L_law_361 k_1 ?_
  refine tw_iadd d_L_law_362 ?_
  refine tw_sld hscr hsb d_L_law_363 h.1 ?_
  replace h := h.2
  refine tw_aload_n 0 d_L_law_364 rfl rfl ?_
  refine tw_iload 4 d_L_law_365 rfl ?_
  refine tw_iconst d_L_law_367 k_2 ?_
  refine tw_iadd d_L_law_368 ?_
  refine tw_sld hscr hsb d_L_law_369 h.1 ?_
  replace h := h.2
  refine tu_cVi (As := [.int (xs (x4 + 1).toNatClampNeg), .int (xs (x4 + 2).toNatClampNeg)]) cv_L_44 hL s_0 rfl (Nat.le_of_ble_eq_true rfl) hcz0 d_L_law_370 h (fun r2 M1 h => ?_)
  have hL_M1 : Lay c M1 := hL.to h.1
  replace h := h.2
  refine tw_aload_n 2 d_L_law_373 rfl rfl ?_
  refine tw_aload_n 0 d_L_law_374 rfl rfl ?_
  refine tw_iload 4 d_L_law_375 rfl ?_
  refine tw_iconst d_L_law_377 k_1 ?_
  refine tw_iadd d_L_law_378 ?_
  refine tw_sld hscr hsb d_L_law_379 h.1 ?_
  replace h := h.2
  refine tw_aload_n 0 d_L_law_380 rfl rfl ?_
  refine tw_iload 4 d_L_law_381 rfl ?_
  refine tw_iconst d_L_law_383 k_2 ?_
  refine tw_iadd d_L_law_384 ?_
  refine tw_sld hscr hsb d_L_law_385 h.1 ?_
  replace h := h.2
  refine tu_cVi (As := [.int (xs (x4 + 1).toNatClampNeg), .int (xs (x4 + 2).toNatClampNeg)]) cv_L_47 hL_M1 s_147 rfl (Nat.le_of_ble_eq_true rfl) hcz0 d_L_law_386 h (fun r4 M3 h => ?_)
  have hL_M3 : Lay c M3 := hL_M1.to h.1
  replace h := h.2
  refine tw_icmp_eq 1285 d_L_law_389 (by decide) (fun z5 => ?_) (fun z5 => ?_)
  · replace h := h.1 z5
    exact tw_lv [0, 1, 2, 3, 4] rfl h
  · replace h := h.2 z5
    refine tw_iconst d_L_law_392 k_0 ?_
    exact tw_zret (ty := .boolean) rfl rfl hcz0 d_L_law_393 h
theorem b_L_law_394 {G : MG} {d sb sL : Nat} {xs : Nat → Int32} {Q : Int32 → Mm → Prop} {ce sl : Nat} {x4 : Int32} {M : Mm} {c : Nat} (hL : Lay c M) (hscr : ∀ U, G.X U → va_X sb sL xs U U.heap) (hsb : sb < G.b) (hcz0 : ce ≤ Y_L_law.mc ∧ sl ≤ Y_L_law.ms) (hcz1 : ce + 1 ≤ Y_L_law.mc ∧ sl + 6 ≤ Y_L_law.ms)  (h : (vp_in (x4 + 1) sL ∧ (vp_in (x4 + 2) sL ∧ (C G Y_X11_map d [.ref (G.b + 0), .int (xs (x4 + 1).toNatClampNeg), .int (xs (x4 + 2).toNatClampNeg)] M (Ri fun r2 M1 => M1.2.2 = M.2.2 ∧ (vp_in (x4 + 1) sL ∧ (vp_in (x4 + 2) sL ∧ (C G Y_X12_map d [.ref (G.b + 147), .int (xs (x4 + 1).toNatClampNeg), .int (xs (x4 + 2).toNatClampNeg)] M1 (Ri fun r4 M3 => M3.2.2 = M1.2.2 ∧ ((r2 = r4 → L_L_law_1285 G d sb Q ce sl x4 M3) ∧ (¬ r2 = r4 → Q 0 M3))))))))))) : L_L_law_394 G d sb Q ce sl x4 M := by
  unfold L_L_law_394
  refine tw_aload_n 1 d_L_law_394 rfl rfl ?_
  refine tw_aload_n 0 d_L_law_395 rfl rfl ?_
  refine tw_iload 4 d_L_law_396 rfl ?_
  refine tw_iconst d_L_law_398 k_1 ?_
  refine tw_iadd d_L_law_399 ?_
  refine tw_sld hscr hsb d_L_law_400 h.1 ?_
  replace h := h.2
  refine tw_aload_n 0 d_L_law_401 rfl rfl ?_
  refine tw_iload 4 d_L_law_402 rfl ?_
  refine tw_iconst d_L_law_404 k_2 ?_
  refine tw_iadd d_L_law_405 ?_
  refine tw_sld hscr hsb d_L_law_406 h.1 ?_
  replace h := h.2
  refine tu_cVi (As := [.int (xs (x4 + 1).toNatClampNeg), .int (xs (x4 + 2).toNatClampNeg)]) cv_L_48 hL s_0 rfl (Nat.le_of_ble_eq_true rfl) hcz0 d_L_law_407 h (fun r2 M1 h => ?_)
  have hL_M1 : Lay c M1 := hL.to h.1
  replace h := h.2
  refine tw_aload_n 2 d_L_law_410 rfl rfl ?_
  refine tw_aload_n 0 d_L_law_411 rfl rfl ?_
  refine tw_iload 4 d_L_law_412 rfl ?_
  refine tw_iconst d_L_law_414 k_1 ?_
  refine tw_iadd d_L_law_415 ?_
  refine tw_sld hscr hsb d_L_law_416 h.1 ?_
  replace h := h.2
  refine tw_aload_n 0 d_L_law_417 rfl rfl ?_
  refine tw_iload 4 d_L_law_418 rfl ?_
  refine tw_iconst d_L_law_420 k_2 ?_
  refine tw_iadd d_L_law_421 ?_
  refine tw_sld hscr hsb d_L_law_422 h.1 ?_
  replace h := h.2
  refine tu_cVi (As := [.int (xs (x4 + 1).toNatClampNeg), .int (xs (x4 + 2).toNatClampNeg)]) cv_L_51 hL_M1 s_147 rfl (Nat.le_of_ble_eq_true rfl) hcz0 d_L_law_423 h (fun r4 M3 h => ?_)
  have hL_M3 : Lay c M3 := hL_M1.to h.1
  replace h := h.2
  refine tw_icmp_eq 1285 d_L_law_426 (by decide) (fun z5 => ?_) (fun z5 => ?_)
  · replace h := h.1 z5
    exact tw_lv [0, 1, 2, 3, 4] rfl h
  · replace h := h.2 z5
    refine tw_iconst d_L_law_429 k_0 ?_
    exact tw_zret (ty := .boolean) rfl rfl hcz0 d_L_law_430 h
theorem b_L_law_431 {G : MG} {d sb sL : Nat} {xs : Nat → Int32} {Q : Int32 → Mm → Prop} {ce sl : Nat} {x4 : Int32} {M : Mm} {c : Nat} (hL : Lay c M) (hscr : ∀ U, G.X U → va_X sb sL xs U U.heap) (hsb : sb < G.b) (hcz0 : ce ≤ Y_L_law.mc ∧ sl ≤ Y_L_law.ms) (hcz1 : ce + 1 ≤ Y_L_law.mc ∧ sl + 6 ≤ Y_L_law.ms)  (h : (vp_in (x4 + 1) sL ∧ (vp_in (x4 + 2) sL ∧ (vp_in (x4 + 3) sL ∧ (((xs (x4 + 3).toNatClampNeg) = 0 → L_L_law_458 G d sb Q ce sl x4 0 (xs (x4 + 2).toNatClampNeg) (xs (x4 + 1).toNatClampNeg) M) ∧ (¬ (xs (x4 + 3).toNatClampNeg) = 0 → L_L_law_458 G d sb Q ce sl x4 1 (xs (x4 + 2).toNatClampNeg) (xs (x4 + 1).toNatClampNeg) M)))))) : L_L_law_431 G d sb Q ce sl x4 M := by
  unfold L_L_law_431
  refine tw_aload_n 1 d_L_law_431 rfl rfl ?_
  refine tw_aload_n 0 d_L_law_432 rfl rfl ?_
  refine tw_iload 4 d_L_law_433 rfl ?_
  refine tw_iconst d_L_law_435 k_1 ?_
  refine tw_iadd d_L_law_436 ?_
  refine tw_sld hscr hsb d_L_law_437 h.1 ?_
  replace h := h.2
  refine tw_aload_n 0 d_L_law_438 rfl rfl ?_
  refine tw_iload 4 d_L_law_439 rfl ?_
  refine tw_iconst d_L_law_441 k_2 ?_
  refine tw_iadd d_L_law_442 ?_
  refine tw_sld hscr hsb d_L_law_443 h.1 ?_
  replace h := h.2
  refine tw_aload_n 0 d_L_law_444 rfl rfl ?_
  refine tw_iload 4 d_L_law_445 rfl ?_
  refine tw_iconst d_L_law_447 k_3 ?_
  refine tw_iadd d_L_law_448 ?_
  refine tw_sld hscr hsb d_L_law_449 h.1 ?_
  replace h := h.2
  refine tw_if_eq 457 d_L_law_450 (by decide) (fun z1 => ?_) (fun z1 => ?_)
  · replace h := h.1 z1
    refine tw_iconst d_L_law_457 k_0 ?_
    exact tw_lv [0, 1, 2, 3, 4] rfl h
  · replace h := h.2 z1
    refine tw_iconst d_L_law_453 k_1 ?_
    refine tw_goto 458 d_L_law_454 (by decide) ?_
    exact tw_lv [0, 1, 2, 3, 4] rfl h
theorem b_L_law_458 {G : MG} {d sb sL : Nat} {xs : Nat → Int32} {Q : Int32 → Mm → Prop} {ce sl : Nat} {x4 : Int32} {sx0 : Int32} {sx1 : Int32} {sx2 : Int32} {M : Mm} {c : Nat} (hL : Lay c M) (hscr : ∀ U, G.X U → va_X sb sL xs U U.heap) (hsb : sb < G.b) (hcz0 : ce ≤ Y_L_law.mc ∧ sl ≤ Y_L_law.ms) (hcz1 : ce + 1 ≤ Y_L_law.mc ∧ sl + 6 ≤ Y_L_law.ms)  (h : (C G Y_X11_point d [.ref (G.b + 0), .int sx2, .int sx1, .int sx0] M (Ri fun r2 M1 => M1.2.2 = M.2.2 ∧ (vp_in (x4 + 1) sL ∧ (vp_in (x4 + 2) sL ∧ (vp_in (x4 + 3) sL ∧ (((xs (x4 + 3).toNatClampNeg) = 0 → (C G Y_X12_point d [.ref (G.b + 147), .int (xs (x4 + 1).toNatClampNeg), .int (xs (x4 + 2).toNatClampNeg), .int 0] M1 (Ri fun r5 M4 => M4.2.2 = M1.2.2 ∧ ((r2 = r5 → L_L_law_1285 G d sb Q ce sl x4 M4) ∧ (¬ r2 = r5 → Q 0 M4))))) ∧ (¬ (xs (x4 + 3).toNatClampNeg) = 0 → (C G Y_X12_point d [.ref (G.b + 147), .int (xs (x4 + 1).toNatClampNeg), .int (xs (x4 + 2).toNatClampNeg), .int 1] M1 (Ri fun r8 M7 => M7.2.2 = M1.2.2 ∧ ((r2 = r8 → L_L_law_1285 G d sb Q ce sl x4 M7) ∧ (¬ r2 = r8 → Q 0 M7)))))))))))) : L_L_law_458 G d sb Q ce sl x4 sx0 sx1 sx2 M := by
  unfold L_L_law_458
  refine tu_cVi (As := [.int sx2, .int sx1, .int sx0]) cv_L_52 hL s_0 rfl (Nat.le_of_ble_eq_true rfl) hcz0 d_L_law_458 h (fun r2 M1 h => ?_)
  have hL_M1 : Lay c M1 := hL.to h.1
  replace h := h.2
  refine tw_aload_n 2 d_L_law_461 rfl rfl ?_
  refine tw_aload_n 0 d_L_law_462 rfl rfl ?_
  refine tw_iload 4 d_L_law_463 rfl ?_
  refine tw_iconst d_L_law_465 k_1 ?_
  refine tw_iadd d_L_law_466 ?_
  refine tw_sld hscr hsb d_L_law_467 h.1 ?_
  replace h := h.2
  refine tw_aload_n 0 d_L_law_468 rfl rfl ?_
  refine tw_iload 4 d_L_law_469 rfl ?_
  refine tw_iconst d_L_law_471 k_2 ?_
  refine tw_iadd d_L_law_472 ?_
  refine tw_sld hscr hsb d_L_law_473 h.1 ?_
  replace h := h.2
  refine tw_aload_n 0 d_L_law_474 rfl rfl ?_
  refine tw_iload 4 d_L_law_475 rfl ?_
  refine tw_iconst d_L_law_477 k_3 ?_
  refine tw_iadd d_L_law_478 ?_
  refine tw_sld hscr hsb d_L_law_479 h.1 ?_
  replace h := h.2
  refine tw_if_eq 487 d_L_law_480 (by decide) (fun z3 => ?_) (fun z3 => ?_)
  · replace h := h.1 z3
    refine tw_iconst d_L_law_487 k_0 ?_
    refine tu_cVi (As := [.int (xs (x4 + 1).toNatClampNeg), .int (xs (x4 + 2).toNatClampNeg), .int 0]) cv_L_56 hL_M1 s_147 rfl (Nat.le_of_ble_eq_true rfl) hcz0 d_L_law_488 h (fun r5 M4 h => ?_)
    have hL_M4 : Lay c M4 := hL_M1.to h.1
    replace h := h.2
    refine tw_icmp_eq 1285 d_L_law_491 (by decide) (fun z6 => ?_) (fun z6 => ?_)
    · replace h := h.1 z6
      exact tw_lv [0, 1, 2, 3, 4] rfl h
    · replace h := h.2 z6
      refine tw_iconst d_L_law_494 k_0 ?_
      exact tw_zret (ty := .boolean) rfl rfl hcz0 d_L_law_495 h
  · replace h := h.2 z3
    refine tw_iconst d_L_law_483 k_1 ?_
    refine tw_goto 488 d_L_law_484 (by decide) ?_
    refine tu_cVi (As := [.int (xs (x4 + 1).toNatClampNeg), .int (xs (x4 + 2).toNatClampNeg), .int 1]) cv_L_56 hL_M1 s_147 rfl (Nat.le_of_ble_eq_true rfl) hcz0 d_L_law_488 h (fun r8 M7 h => ?_)
    have hL_M7 : Lay c M7 := hL_M1.to h.1
    replace h := h.2
    refine tw_icmp_eq 1285 d_L_law_491 (by decide) (fun z9 => ?_) (fun z9 => ?_)
    · replace h := h.1 z9
      exact tw_lv [0, 1, 2, 3, 4] rfl h
    · replace h := h.2 z9
      refine tw_iconst d_L_law_494 k_0 ?_
      exact tw_zret (ty := .boolean) rfl rfl hcz0 d_L_law_495 h
theorem b_L_law_496 {G : MG} {d sb sL : Nat} {xs : Nat → Int32} {Q : Int32 → Mm → Prop} {ce sl : Nat} {x4 : Int32} {M : Mm} {c : Nat} (hL : Lay c M) (hscr : ∀ U, G.X U → va_X sb sL xs U U.heap) (hsb : sb < G.b) (hcz0 : ce ≤ Y_L_law.mc ∧ sl ≤ Y_L_law.ms) (hcz1 : ce + 1 ≤ Y_L_law.mc ∧ sl + 6 ≤ Y_L_law.ms)  (h : (vp_in (x4 + 1) sL ∧ (vp_in (x4 + 2) sL ∧ (vp_in (x4 + 3) sL ∧ (C G Y_X11_set d [.ref (G.b + 0), .int (xs (x4 + 1).toNatClampNeg), .int (xs (x4 + 2).toNatClampNeg), .int (xs (x4 + 3).toNatClampNeg)] M (Ri fun r2 M1 => M1.2.2 = M.2.2 ∧ (vp_in (x4 + 1) sL ∧ (vp_in (x4 + 2) sL ∧ (vp_in (x4 + 3) sL ∧ (C G Y_X12_set d [.ref (G.b + 147), .int (xs (x4 + 1).toNatClampNeg), .int (xs (x4 + 2).toNatClampNeg), .int (xs (x4 + 3).toNatClampNeg)] M1 (Ri fun r4 M3 => M3.2.2 = M1.2.2 ∧ ((r2 = r4 → L_L_law_1285 G d sb Q ce sl x4 M3) ∧ (¬ r2 = r4 → Q 0 M3))))))))))))) : L_L_law_496 G d sb Q ce sl x4 M := by
  unfold L_L_law_496
  refine tw_aload_n 1 d_L_law_496 rfl rfl ?_
  refine tw_aload_n 0 d_L_law_497 rfl rfl ?_
  refine tw_iload 4 d_L_law_498 rfl ?_
  refine tw_iconst d_L_law_500 k_1 ?_
  refine tw_iadd d_L_law_501 ?_
  refine tw_sld hscr hsb d_L_law_502 h.1 ?_
  replace h := h.2
  refine tw_aload_n 0 d_L_law_503 rfl rfl ?_
  refine tw_iload 4 d_L_law_504 rfl ?_
  refine tw_iconst d_L_law_506 k_2 ?_
  refine tw_iadd d_L_law_507 ?_
  refine tw_sld hscr hsb d_L_law_508 h.1 ?_
  replace h := h.2
  refine tw_aload_n 0 d_L_law_509 rfl rfl ?_
  refine tw_iload 4 d_L_law_510 rfl ?_
  refine tw_iconst d_L_law_512 k_3 ?_
  refine tw_iadd d_L_law_513 ?_
  refine tw_sld hscr hsb d_L_law_514 h.1 ?_
  replace h := h.2
  refine tu_cVi (As := [.int (xs (x4 + 1).toNatClampNeg), .int (xs (x4 + 2).toNatClampNeg), .int (xs (x4 + 3).toNatClampNeg)]) cv_L_57 hL s_0 rfl (Nat.le_of_ble_eq_true rfl) hcz0 d_L_law_515 h (fun r2 M1 h => ?_)
  have hL_M1 : Lay c M1 := hL.to h.1
  replace h := h.2
  refine tw_aload_n 2 d_L_law_518 rfl rfl ?_
  refine tw_aload_n 0 d_L_law_519 rfl rfl ?_
  refine tw_iload 4 d_L_law_520 rfl ?_
  refine tw_iconst d_L_law_522 k_1 ?_
  refine tw_iadd d_L_law_523 ?_
  refine tw_sld hscr hsb d_L_law_524 h.1 ?_
  replace h := h.2
  refine tw_aload_n 0 d_L_law_525 rfl rfl ?_
  refine tw_iload 4 d_L_law_526 rfl ?_
  refine tw_iconst d_L_law_528 k_2 ?_
  refine tw_iadd d_L_law_529 ?_
  refine tw_sld hscr hsb d_L_law_530 h.1 ?_
  replace h := h.2
  refine tw_aload_n 0 d_L_law_531 rfl rfl ?_
  refine tw_iload 4 d_L_law_532 rfl ?_
  refine tw_iconst d_L_law_534 k_3 ?_
  refine tw_iadd d_L_law_535 ?_
  refine tw_sld hscr hsb d_L_law_536 h.1 ?_
  replace h := h.2
  refine tu_cVi (As := [.int (xs (x4 + 1).toNatClampNeg), .int (xs (x4 + 2).toNatClampNeg), .int (xs (x4 + 3).toNatClampNeg)]) cv_L_61 hL_M1 s_147 rfl (Nat.le_of_ble_eq_true rfl) hcz0 d_L_law_537 h (fun r4 M3 h => ?_)
  have hL_M3 : Lay c M3 := hL_M1.to h.1
  replace h := h.2
  refine tw_icmp_eq 1285 d_L_law_540 (by decide) (fun z5 => ?_) (fun z5 => ?_)
  · replace h := h.1 z5
    exact tw_lv [0, 1, 2, 3, 4] rfl h
  · replace h := h.2 z5
    refine tw_iconst d_L_law_543 k_0 ?_
    exact tw_zret (ty := .boolean) rfl rfl hcz0 d_L_law_544 h
theorem b_L_law_545 {G : MG} {d sb sL : Nat} {xs : Nat → Int32} {Q : Int32 → Mm → Prop} {ce sl : Nat} {x4 : Int32} {M : Mm} {c : Nat} (hL : Lay c M) (hscr : ∀ U, G.X U → va_X sb sL xs U U.heap) (hsb : sb < G.b) (hcz0 : ce ≤ Y_L_law.mc ∧ sl ≤ Y_L_law.ms) (hcz1 : ce + 1 ≤ Y_L_law.mc ∧ sl + 6 ≤ Y_L_law.ms)  (h : (vp_in (x4 + 1) sL ∧ (vp_in (x4 + 2) sL ∧ (C G Y_X11_turn d [.ref (G.b + 0), .int (xs (x4 + 1).toNatClampNeg), .int (xs (x4 + 2).toNatClampNeg)] M (Ri fun r2 M1 => M1.2.2 = M.2.2 ∧ (vp_in (x4 + 1) sL ∧ (vp_in (x4 + 2) sL ∧ (C G Y_X12_turn d [.ref (G.b + 147), .int (xs (x4 + 1).toNatClampNeg), .int (xs (x4 + 2).toNatClampNeg)] M1 (Ri fun r4 M3 => M3.2.2 = M1.2.2 ∧ ((r2 = r4 → L_L_law_1285 G d sb Q ce sl x4 M3) ∧ (¬ r2 = r4 → Q 0 M3))))))))))) : L_L_law_545 G d sb Q ce sl x4 M := by
  unfold L_L_law_545
  refine tw_aload_n 1 d_L_law_545 rfl rfl ?_
  refine tw_aload_n 0 d_L_law_546 rfl rfl ?_
  refine tw_iload 4 d_L_law_547 rfl ?_
  refine tw_iconst d_L_law_549 k_1 ?_
  refine tw_iadd d_L_law_550 ?_
  refine tw_sld hscr hsb d_L_law_551 h.1 ?_
  replace h := h.2
  refine tw_aload_n 0 d_L_law_552 rfl rfl ?_
  refine tw_iload 4 d_L_law_553 rfl ?_
  refine tw_iconst d_L_law_555 k_2 ?_
  refine tw_iadd d_L_law_556 ?_
  refine tw_sld hscr hsb d_L_law_557 h.1 ?_
  replace h := h.2
  refine tu_cVi (As := [.int (xs (x4 + 1).toNatClampNeg), .int (xs (x4 + 2).toNatClampNeg)]) cv_L_62 hL s_0 rfl (Nat.le_of_ble_eq_true rfl) hcz0 d_L_law_558 h (fun r2 M1 h => ?_)
  have hL_M1 : Lay c M1 := hL.to h.1
  replace h := h.2
  refine tw_aload_n 2 d_L_law_561 rfl rfl ?_
  refine tw_aload_n 0 d_L_law_562 rfl rfl ?_
  refine tw_iload 4 d_L_law_563 rfl ?_
  refine tw_iconst d_L_law_565 k_1 ?_
  refine tw_iadd d_L_law_566 ?_
  refine tw_sld hscr hsb d_L_law_567 h.1 ?_
  replace h := h.2
  refine tw_aload_n 0 d_L_law_568 rfl rfl ?_
  refine tw_iload 4 d_L_law_569 rfl ?_
  refine tw_iconst d_L_law_571 k_2 ?_
  refine tw_iadd d_L_law_572 ?_
  refine tw_sld hscr hsb d_L_law_573 h.1 ?_
  replace h := h.2
  refine tu_cVi (As := [.int (xs (x4 + 1).toNatClampNeg), .int (xs (x4 + 2).toNatClampNeg)]) cv_L_66 hL_M1 s_147 rfl (Nat.le_of_ble_eq_true rfl) hcz0 d_L_law_574 h (fun r4 M3 h => ?_)
  have hL_M3 : Lay c M3 := hL_M1.to h.1
  replace h := h.2
  refine tw_icmp_eq 1285 d_L_law_577 (by decide) (fun z5 => ?_) (fun z5 => ?_)
  · replace h := h.1 z5
    exact tw_lv [0, 1, 2, 3, 4] rfl h
  · replace h := h.2 z5
    refine tw_iconst d_L_law_580 k_0 ?_
    exact tw_zret (ty := .boolean) rfl rfl hcz0 d_L_law_581 h
theorem b_L_law_582 {G : MG} {d sb sL : Nat} {xs : Nat → Int32} {Q : Int32 → Mm → Prop} {ce sl : Nat} {x4 : Int32} {M : Mm} {c : Nat} (hL : Lay c M) (hscr : ∀ U, G.X U → va_X sb sL xs U U.heap) (hsb : sb < G.b) (hcz0 : ce ≤ Y_L_law.mc ∧ sl ≤ Y_L_law.ms) (hcz1 : ce + 1 ≤ Y_L_law.mc ∧ sl + 6 ≤ Y_L_law.ms)  (h : (vp_in (x4 + 1) sL ∧ (vp_in (x4 + 2) sL ∧ (vp_in (x4 + 3) sL ∧ (C G Y_X11_pin d [.ref (G.b + 0), .int (xs (x4 + 1).toNatClampNeg), .int (xs (x4 + 2).toNatClampNeg), .int (xs (x4 + 3).toNatClampNeg)] M (Ri fun r2 M1 => M1.2.2 = M.2.2 ∧ (vp_in (x4 + 1) sL ∧ (vp_in (x4 + 2) sL ∧ (vp_in (x4 + 3) sL ∧ (C G Y_X12_pin d [.ref (G.b + 147), .int (xs (x4 + 1).toNatClampNeg), .int (xs (x4 + 2).toNatClampNeg), .int (xs (x4 + 3).toNatClampNeg)] M1 (Ri fun r4 M3 => M3.2.2 = M1.2.2 ∧ ((r2 = r4 → L_L_law_1285 G d sb Q ce sl x4 M3) ∧ (¬ r2 = r4 → Q 0 M3))))))))))))) : L_L_law_582 G d sb Q ce sl x4 M := by
  unfold L_L_law_582
  refine tw_aload_n 1 d_L_law_582 rfl rfl ?_
  refine tw_aload_n 0 d_L_law_583 rfl rfl ?_
  refine tw_iload 4 d_L_law_584 rfl ?_
  refine tw_iconst d_L_law_586 k_1 ?_
  refine tw_iadd d_L_law_587 ?_
  refine tw_sld hscr hsb d_L_law_588 h.1 ?_
  replace h := h.2
  refine tw_aload_n 0 d_L_law_589 rfl rfl ?_
  refine tw_iload 4 d_L_law_590 rfl ?_
  refine tw_iconst d_L_law_592 k_2 ?_
  refine tw_iadd d_L_law_593 ?_
  refine tw_sld hscr hsb d_L_law_594 h.1 ?_
  replace h := h.2
  refine tw_aload_n 0 d_L_law_595 rfl rfl ?_
  refine tw_iload 4 d_L_law_596 rfl ?_
  refine tw_iconst d_L_law_598 k_3 ?_
  refine tw_iadd d_L_law_599 ?_
  refine tw_sld hscr hsb d_L_law_600 h.1 ?_
  replace h := h.2
  refine tu_cVi (As := [.int (xs (x4 + 1).toNatClampNeg), .int (xs (x4 + 2).toNatClampNeg), .int (xs (x4 + 3).toNatClampNeg)]) cv_L_67 hL s_0 rfl (Nat.le_of_ble_eq_true rfl) hcz0 d_L_law_601 h (fun r2 M1 h => ?_)
  have hL_M1 : Lay c M1 := hL.to h.1
  replace h := h.2
  refine tw_aload_n 2 d_L_law_604 rfl rfl ?_
  refine tw_aload_n 0 d_L_law_605 rfl rfl ?_
  refine tw_iload 4 d_L_law_606 rfl ?_
  refine tw_iconst d_L_law_608 k_1 ?_
  refine tw_iadd d_L_law_609 ?_
  refine tw_sld hscr hsb d_L_law_610 h.1 ?_
  replace h := h.2
  refine tw_aload_n 0 d_L_law_611 rfl rfl ?_
  refine tw_iload 4 d_L_law_612 rfl ?_
  refine tw_iconst d_L_law_614 k_2 ?_
  refine tw_iadd d_L_law_615 ?_
  refine tw_sld hscr hsb d_L_law_616 h.1 ?_
  replace h := h.2
  refine tw_aload_n 0 d_L_law_617 rfl rfl ?_
  refine tw_iload 4 d_L_law_618 rfl ?_
  refine tw_iconst d_L_law_620 k_3 ?_
  refine tw_iadd d_L_law_621 ?_
  refine tw_sld hscr hsb d_L_law_622 h.1 ?_
  replace h := h.2
  refine tu_cVi (As := [.int (xs (x4 + 1).toNatClampNeg), .int (xs (x4 + 2).toNatClampNeg), .int (xs (x4 + 3).toNatClampNeg)]) cv_L_70 hL_M1 s_147 rfl (Nat.le_of_ble_eq_true rfl) hcz0 d_L_law_623 h (fun r4 M3 h => ?_)
  have hL_M3 : Lay c M3 := hL_M1.to h.1
  replace h := h.2
  refine tw_icmp_eq 1285 d_L_law_626 (by decide) (fun z5 => ?_) (fun z5 => ?_)
  · replace h := h.1 z5
    exact tw_lv [0, 1, 2, 3, 4] rfl h
  · replace h := h.2 z5
    refine tw_iconst d_L_law_629 k_0 ?_
    exact tw_zret (ty := .boolean) rfl rfl hcz0 d_L_law_630 h
theorem b_L_law_631 {G : MG} {d sb sL : Nat} {xs : Nat → Int32} {Q : Int32 → Mm → Prop} {ce sl : Nat} {x4 : Int32} {M : Mm} {c : Nat} (hL : Lay c M) (hscr : ∀ U, G.X U → va_X sb sL xs U U.heap) (hsb : sb < G.b) (hcz0 : ce ≤ Y_L_law.mc ∧ sl ≤ Y_L_law.ms) (hcz1 : ce + 1 ≤ Y_L_law.mc ∧ sl + 6 ≤ Y_L_law.ms)  (h : (vp_in (x4 + 1) sL ∧ (vp_in (x4 + 2) sL ∧ (C G Y_X11_bend d [.ref (G.b + 0), .int (xs (x4 + 1).toNatClampNeg), .int (xs (x4 + 2).toNatClampNeg)] M (Ri fun r2 M1 => M1.2.2 = M.2.2 ∧ (vp_in (x4 + 1) sL ∧ (vp_in (x4 + 2) sL ∧ (C G Y_X12_bend d [.ref (G.b + 147), .int (xs (x4 + 1).toNatClampNeg), .int (xs (x4 + 2).toNatClampNeg)] M1 (Ri fun r4 M3 => M3.2.2 = M1.2.2 ∧ ((r2 = r4 → L_L_law_1285 G d sb Q ce sl x4 M3) ∧ (¬ r2 = r4 → Q 0 M3))))))))))) : L_L_law_631 G d sb Q ce sl x4 M := by
  unfold L_L_law_631
  refine tw_aload_n 1 d_L_law_631 rfl rfl ?_
  refine tw_aload_n 0 d_L_law_632 rfl rfl ?_
  refine tw_iload 4 d_L_law_633 rfl ?_
  refine tw_iconst d_L_law_635 k_1 ?_
  refine tw_iadd d_L_law_636 ?_
  refine tw_sld hscr hsb d_L_law_637 h.1 ?_
  replace h := h.2
  refine tw_aload_n 0 d_L_law_638 rfl rfl ?_
  refine tw_iload 4 d_L_law_639 rfl ?_
  refine tw_iconst d_L_law_641 k_2 ?_
  refine tw_iadd d_L_law_642 ?_
  refine tw_sld hscr hsb d_L_law_643 h.1 ?_
  replace h := h.2
  refine tu_cVi (As := [.int (xs (x4 + 1).toNatClampNeg), .int (xs (x4 + 2).toNatClampNeg)]) cv_L_71 hL s_0 rfl (Nat.le_of_ble_eq_true rfl) hcz0 d_L_law_644 h (fun r2 M1 h => ?_)
  have hL_M1 : Lay c M1 := hL.to h.1
  replace h := h.2
  refine tw_aload_n 2 d_L_law_647 rfl rfl ?_
  refine tw_aload_n 0 d_L_law_648 rfl rfl ?_
  refine tw_iload 4 d_L_law_649 rfl ?_
  refine tw_iconst d_L_law_651 k_1 ?_
  refine tw_iadd d_L_law_652 ?_
  refine tw_sld hscr hsb d_L_law_653 h.1 ?_
  replace h := h.2
  refine tw_aload_n 0 d_L_law_654 rfl rfl ?_
  refine tw_iload 4 d_L_law_655 rfl ?_
  refine tw_iconst d_L_law_657 k_2 ?_
  refine tw_iadd d_L_law_658 ?_
  refine tw_sld hscr hsb d_L_law_659 h.1 ?_
  replace h := h.2
  refine tu_cVi (As := [.int (xs (x4 + 1).toNatClampNeg), .int (xs (x4 + 2).toNatClampNeg)]) cv_L_74 hL_M1 s_147 rfl (Nat.le_of_ble_eq_true rfl) hcz0 d_L_law_660 h (fun r4 M3 h => ?_)
  have hL_M3 : Lay c M3 := hL_M1.to h.1
  replace h := h.2
  refine tw_icmp_eq 1285 d_L_law_663 (by decide) (fun z5 => ?_) (fun z5 => ?_)
  · replace h := h.1 z5
    exact tw_lv [0, 1, 2, 3, 4] rfl h
  · replace h := h.2 z5
    refine tw_iconst d_L_law_666 k_0 ?_
    exact tw_zret (ty := .boolean) rfl rfl hcz0 d_L_law_667 h
theorem b_L_law_668 {G : MG} {d sb sL : Nat} {xs : Nat → Int32} {Q : Int32 → Mm → Prop} {ce sl : Nat} {x4 : Int32} {M : Mm} {c : Nat} (hL : Lay c M) (hscr : ∀ U, G.X U → va_X sb sL xs U U.heap) (hsb : sb < G.b) (hcz0 : ce ≤ Y_L_law.mc ∧ sl ≤ Y_L_law.ms) (hcz1 : ce + 1 ≤ Y_L_law.mc ∧ sl + 6 ≤ Y_L_law.ms)  (h : (vp_in (x4 + 1) sL ∧ (vp_in (x4 + 2) sL ∧ (vp_in (x4 + 3) sL ∧ (vp_in (x4 + 4) sL ∧ (CW G Y_L_trace d [.ref (G.b + 0), .int (xs (x4 + 1).toNatClampNeg), .int (xs (x4 + 2).toNatClampNeg), .int (xs (x4 + 3).toNatClampNeg), .int (xs (x4 + 4).toNatClampNeg), .ref (G.b + 161)] M (Ri fun r2 M1 => M1.2.2 = M.2.2 ∧ (vp_in (x4 + 1) sL ∧ (vp_in (x4 + 2) sL ∧ (vp_in (x4 + 3) sL ∧ (vp_in (x4 + 4) sL ∧ (C G Y_X12_trace d [.ref (G.b + 147), .int (xs (x4 + 1).toNatClampNeg), .int (xs (x4 + 2).toNatClampNeg), .int (xs (x4 + 3).toNatClampNeg), .int (xs (x4 + 4).toNatClampNeg)] M1 (Rj fun r4 M3 => M3.2.2 = M1.2.2 ∧ (C G Y_X12_thrown d [.ref (G.b + 147)] M3 (Ri fun r6 M5 => M5.2.2 = M3.2.2 ∧ ((r6 = r2 → ((¬ r2 = 0 → L_L_law_1285 G d sb Q (ce + 1) (sl + 6) x4 M5) ∧ (r2 = 0 → (((M5.2.1 161 (Int32.toNatClampNeg 0)) = r4 → L_L_law_1285 G d sb Q (ce + 1) (sl + 6) x4 M5) ∧ (¬ (M5.2.1 161 (Int32.toNatClampNeg 0)) = r4 → Q 0 M5))))) ∧ (¬ r6 = r2 → Q 0 M5))))))))))))))))) : L_L_law_668 G d sb Q ce sl x4 M := by
  unfold L_L_law_668
  refine tw_aload_n 1 d_L_law_668 rfl rfl ?_
  refine tw_aload_n 0 d_L_law_669 rfl rfl ?_
  refine tw_iload 4 d_L_law_670 rfl ?_
  refine tw_iconst d_L_law_672 k_1 ?_
  refine tw_iadd d_L_law_673 ?_
  refine tw_sld hscr hsb d_L_law_674 h.1 ?_
  replace h := h.2
  refine tw_aload_n 0 d_L_law_675 rfl rfl ?_
  refine tw_iload 4 d_L_law_676 rfl ?_
  refine tw_iconst d_L_law_678 k_2 ?_
  refine tw_iadd d_L_law_679 ?_
  refine tw_sld hscr hsb d_L_law_680 h.1 ?_
  replace h := h.2
  refine tw_aload_n 0 d_L_law_681 rfl rfl ?_
  refine tw_iload 4 d_L_law_682 rfl ?_
  refine tw_iconst d_L_law_684 k_3 ?_
  refine tw_iadd d_L_law_685 ?_
  refine tw_sld hscr hsb d_L_law_686 h.1 ?_
  replace h := h.2
  refine tw_aload_n 0 d_L_law_687 rfl rfl ?_
  refine tw_iload 4 d_L_law_688 rfl ?_
  refine tw_iconst d_L_law_690 k_4 ?_
  refine tw_iadd d_L_law_691 ?_
  refine tw_sld hscr hsb d_L_law_692 h.1 ?_
  replace h := h.2
  refine tw_aload_n 3 d_L_law_693 rfl rfl ?_
  refine tw_callW (As := [.ref (G.b + 0), .int (xs (x4 + 1).toNatClampNeg), .int (xs (x4 + 2).toNatClampNeg), .int (xs (x4 + 3).toNatClampNeg), .int (xs (x4 + 4).toNatClampNeg), .ref (G.b + 161)]) cw_L_75 rfl (Nat.le_of_ble_eq_true rfl) hcz1 d_L_law_694 h (fun r2 M1 h => ?_)
  have hL_M1 : Lay c M1 := hL.to h.1
  replace h := h.2
  refine tw_istore [(5, .int r2), (0, .ref sb), (1, .ref (G.b + 0)), (2, .ref (G.b + 147)), (3, .ref (G.b + 161)), (4, .int x4)] d_L_law_697 (Nat.le_of_ble_eq_true rfl) rfl ?_
  refine tw_aload_n 3 d_L_law_699 rfl rfl ?_
  refine tw_aload_n 1 d_L_law_700 rfl rfl ?_
  refine tw_iload 5 d_L_law_701 rfl ?_
  refine tw_iconst d_L_law_703 k_1 ?_
  refine tw_iadd d_L_law_704 ?_
  refine tw_sld hscr hsb d_L_law_705 h.1 ?_
  replace h := h.2
  refine tw_aload_n 1 d_L_law_706 rfl rfl ?_
  refine tw_iload 5 d_L_law_707 rfl ?_
  refine tw_iconst d_L_law_709 k_2 ?_
  refine tw_iadd d_L_law_710 ?_
  refine tw_sld hscr hsb d_L_law_711 h.1 ?_
  replace h := h.2
  refine tw_aload_n 1 d_L_law_712 rfl rfl ?_
  refine tw_iload 5 d_L_law_713 rfl ?_
  refine tw_iconst d_L_law_715 k_3 ?_
  refine tw_iadd d_L_law_716 ?_
  refine tw_sld hscr hsb d_L_law_717 h.1 ?_
  replace h := h.2
  refine tw_aload_n 1 d_L_law_718 rfl rfl ?_
  refine tw_iload 5 d_L_law_719 rfl ?_
  refine tw_iconst d_L_law_721 k_4 ?_
  refine tw_iadd d_L_law_722 ?_
  refine tw_sld hscr hsb d_L_law_723 h.1 ?_
  replace h := h.2
  refine tu_cVJ (As := [.int (xs (x4 + 1).toNatClampNeg), .int (xs (x4 + 2).toNatClampNeg), .int (xs (x4 + 3).toNatClampNeg), .int (xs (x4 + 4).toNatClampNeg)]) cv_L_80 hL_M1 s_147 rfl (Nat.le_of_ble_eq_true rfl) hcz1 d_L_law_724 h (fun r4 M3 h => ?_)
  have hL_M3 : Lay c M3 := hL_M1.to h.1
  replace h := h.2
  refine tw_lstore [(6, .long r4), (5, .int r2), (0, .ref sb), (1, .ref (G.b + 0)), (2, .ref (G.b + 147)), (3, .ref (G.b + 161)), (4, .int x4)] d_L_law_727 (Nat.le_of_ble_eq_true rfl) rfl ?_
  refine tw_aload_n 4 d_L_law_729 rfl rfl ?_
  refine tu_cVi (As := []) cv_L_81 hL_M3 s_147 rfl (Nat.le_of_ble_eq_true rfl) hcz1 d_L_law_730 h (fun r6 M5 h => ?_)
  have hL_M5 : Lay c M5 := hL_M3.to h.1
  replace h := h.2
  refine tw_iload 1 d_L_law_733 rfl ?_
  refine tw_icmp_eq 740 d_L_law_735 (by decide) (fun z7 => ?_) (fun z7 => ?_)
  · replace h := h.1 z7
    refine tw_iload 1 d_L_law_740 rfl ?_
    refine tw_if_ne 756 d_L_law_742 (by decide) (fun z8 => ?_) (fun z8 => ?_)
    · replace h := h.1 z8
      refine tw_goto 1285 d_L_law_756 (by decide) ?_
      exact tw_lv [2, 3, 4, 5, 6] rfl h
    · replace h := h.2 z8
      refine tw_aload_n 5 d_L_law_745 rfl rfl ?_
      refine tw_iconst d_L_law_746 k_0 ?_
      refine tw_lald hL_M5 s_161 d_L_law_747 (by unfold vp_in; decide) ?_
      refine tw_lload 0 d_L_law_748 rfl ?_
      refine tw_lcmp_eq 756 d_L_law_750 d_L_law_751 (by decide) (fun z9 => ?_) (fun z9 => ?_)
      · replace h := h.1 z9
        refine tw_goto 1285 d_L_law_756 (by decide) ?_
        exact tw_lv [2, 3, 4, 5, 6] rfl h
      · replace h := h.2 z9
        refine tw_iconst d_L_law_754 k_0 ?_
        exact tw_zret (ty := .boolean) rfl rfl hcz1 d_L_law_755 h
  · replace h := h.2 z7
    refine tw_iconst d_L_law_738 k_0 ?_
    exact tw_zret (ty := .boolean) rfl rfl hcz1 d_L_law_739 h
theorem b_L_law_759 {G : MG} {d sb sL : Nat} {xs : Nat → Int32} {Q : Int32 → Mm → Prop} {ce sl : Nat} {x4 : Int32} {M : Mm} {c : Nat} (hL : Lay c M) (hscr : ∀ U, G.X U → va_X sb sL xs U U.heap) (hsb : sb < G.b) (hcz0 : ce ≤ Y_L_law.mc ∧ sl ≤ Y_L_law.ms) (hcz1 : ce + 1 ≤ Y_L_law.mc ∧ sl + 6 ≤ Y_L_law.ms)  (h : (vp_in (x4 + 1) sL ∧ (C G Y_X11_chain d [.ref (G.b + 0), .int (xs (x4 + 1).toNatClampNeg)] M (Ri fun r2 M1 => M1.2.2 = M.2.2 ∧ (vp_in (x4 + 1) sL ∧ (C G Y_X12_chain d [.ref (G.b + 147), .int (xs (x4 + 1).toNatClampNeg)] M1 (Ri fun r4 M3 => M3.2.2 = M1.2.2 ∧ ((r2 = r4 → L_L_law_1285 G d sb Q ce sl x4 M3) ∧ (¬ r2 = r4 → Q 0 M3))))))))) : L_L_law_759 G d sb Q ce sl x4 M := by
  unfold L_L_law_759
  refine tw_aload_n 1 d_L_law_759 rfl rfl ?_
  refine tw_aload_n 0 d_L_law_760 rfl rfl ?_
  refine tw_iload 4 d_L_law_761 rfl ?_
  refine tw_iconst d_L_law_763 k_1 ?_
  refine tw_iadd d_L_law_764 ?_
  refine tw_sld hscr hsb d_L_law_765 h.1 ?_
  replace h := h.2
  refine tu_cVi (As := [.int (xs (x4 + 1).toNatClampNeg)]) cv_L_84 hL s_0 rfl (Nat.le_of_ble_eq_true rfl) hcz0 d_L_law_766 h (fun r2 M1 h => ?_)
  have hL_M1 : Lay c M1 := hL.to h.1
  replace h := h.2
  refine tw_aload_n 2 d_L_law_769 rfl rfl ?_
  refine tw_aload_n 0 d_L_law_770 rfl rfl ?_
  refine tw_iload 4 d_L_law_771 rfl ?_
  refine tw_iconst d_L_law_773 k_1 ?_
  refine tw_iadd d_L_law_774 ?_
  refine tw_sld hscr hsb d_L_law_775 h.1 ?_
  replace h := h.2
  refine tu_cVi (As := [.int (xs (x4 + 1).toNatClampNeg)]) cv_L_87 hL_M1 s_147 rfl (Nat.le_of_ble_eq_true rfl) hcz0 d_L_law_776 h (fun r4 M3 h => ?_)
  have hL_M3 : Lay c M3 := hL_M1.to h.1
  replace h := h.2
  refine tw_icmp_eq 1285 d_L_law_779 (by decide) (fun z5 => ?_) (fun z5 => ?_)
  · replace h := h.1 z5
    exact tw_lv [0, 1, 2, 3, 4] rfl h
  · replace h := h.2 z5
    refine tw_iconst d_L_law_782 k_0 ?_
    exact tw_zret (ty := .boolean) rfl rfl hcz0 d_L_law_783 h
theorem b_L_law_784 {G : MG} {d sb sL : Nat} {xs : Nat → Int32} {Q : Int32 → Mm → Prop} {ce sl : Nat} {x4 : Int32} {M : Mm} {c : Nat} (hL : Lay c M) (hscr : ∀ U, G.X U → va_X sb sL xs U U.heap) (hsb : sb < G.b) (hcz0 : ce ≤ Y_L_law.mc ∧ sl ≤ Y_L_law.ms) (hcz1 : ce + 1 ≤ Y_L_law.mc ∧ sl + 6 ≤ Y_L_law.ms)  (h : (vp_in (x4 + 1) sL ∧ (C G Y_X11_size d [.ref (G.b + 0), .int (xs (x4 + 1).toNatClampNeg)] M (Ri fun r2 M1 => M1.2.2 = M.2.2 ∧ (vp_in (x4 + 1) sL ∧ (C G Y_X12_size d [.ref (G.b + 147), .int (xs (x4 + 1).toNatClampNeg)] M1 (Ri fun r4 M3 => M3.2.2 = M1.2.2 ∧ ((r2 = r4 → L_L_law_1285 G d sb Q ce sl x4 M3) ∧ (¬ r2 = r4 → Q 0 M3))))))))) : L_L_law_784 G d sb Q ce sl x4 M := by
  unfold L_L_law_784
  refine tw_aload_n 1 d_L_law_784 rfl rfl ?_
  refine tw_aload_n 0 d_L_law_785 rfl rfl ?_
  refine tw_iload 4 d_L_law_786 rfl ?_
  refine tw_iconst d_L_law_788 k_1 ?_
  refine tw_iadd d_L_law_789 ?_
  refine tw_sld hscr hsb d_L_law_790 h.1 ?_
  replace h := h.2
  refine tu_cVi (As := [.int (xs (x4 + 1).toNatClampNeg)]) cv_L_88 hL s_0 rfl (Nat.le_of_ble_eq_true rfl) hcz0 d_L_law_791 h (fun r2 M1 h => ?_)
  have hL_M1 : Lay c M1 := hL.to h.1
  replace h := h.2
  refine tw_aload_n 2 d_L_law_794 rfl rfl ?_
  refine tw_aload_n 0 d_L_law_795 rfl rfl ?_
  refine tw_iload 4 d_L_law_796 rfl ?_
  refine tw_iconst d_L_law_798 k_1 ?_
  refine tw_iadd d_L_law_799 ?_
  refine tw_sld hscr hsb d_L_law_800 h.1 ?_
  replace h := h.2
  refine tu_cVi (As := [.int (xs (x4 + 1).toNatClampNeg)]) cv_L_91 hL_M1 s_147 rfl (Nat.le_of_ble_eq_true rfl) hcz0 d_L_law_801 h (fun r4 M3 h => ?_)
  have hL_M3 : Lay c M3 := hL_M1.to h.1
  replace h := h.2
  refine tw_icmp_eq 1285 d_L_law_804 (by decide) (fun z5 => ?_) (fun z5 => ?_)
  · replace h := h.1 z5
    exact tw_lv [0, 1, 2, 3, 4] rfl h
  · replace h := h.2 z5
    refine tw_iconst d_L_law_807 k_0 ?_
    exact tw_zret (ty := .boolean) rfl rfl hcz0 d_L_law_808 h
theorem b_L_law_809 {G : MG} {d sb sL : Nat} {xs : Nat → Int32} {Q : Int32 → Mm → Prop} {ce sl : Nat} {x4 : Int32} {M : Mm} {c : Nat} (hL : Lay c M) (hscr : ∀ U, G.X U → va_X sb sL xs U U.heap) (hsb : sb < G.b) (hcz0 : ce ≤ Y_L_law.mc ∧ sl ≤ Y_L_law.ms) (hcz1 : ce + 1 ≤ Y_L_law.mc ∧ sl + 6 ≤ Y_L_law.ms)  (h : (vp_in (x4 + 1) sL ∧ (vp_in (x4 + 2) sL ∧ (vp_in (x4 + 3) sL ∧ (CW G Y_L_draw d [.ref (G.b + 0), .int (xs (x4 + 1).toNatClampNeg), .int (xs (x4 + 2).toNatClampNeg), .int (xs (x4 + 3).toNatClampNeg), .ref (G.b + 161)] M (Ri fun r2 M1 => M1.2.2 = M.2.2 ∧ (vp_in (x4 + 1) sL ∧ (vp_in (x4 + 2) sL ∧ (vp_in (x4 + 3) sL ∧ (C G Y_X12_draw d [.ref (G.b + 147), .int (xs (x4 + 1).toNatClampNeg), .int (xs (x4 + 2).toNatClampNeg), .int (xs (x4 + 3).toNatClampNeg)] M1 (Rj fun r4 M3 => M3.2.2 = M1.2.2 ∧ (C G Y_X12_thrown d [.ref (G.b + 147)] M3 (Ri fun r6 M5 => M5.2.2 = M3.2.2 ∧ ((r6 = r2 → ((¬ r2 = 0 → L_L_law_1285 G d sb Q (ce + 1) (sl + 6) x4 M5) ∧ (r2 = 0 → (((M5.2.1 161 (Int32.toNatClampNeg 0)) = r4 → L_L_law_1285 G d sb Q (ce + 1) (sl + 6) x4 M5) ∧ (¬ (M5.2.1 161 (Int32.toNatClampNeg 0)) = r4 → Q 0 M5))))) ∧ (¬ r6 = r2 → Q 0 M5))))))))))))))) : L_L_law_809 G d sb Q ce sl x4 M := by
  unfold L_L_law_809
  refine tw_aload_n 1 d_L_law_809 rfl rfl ?_
  refine tw_aload_n 0 d_L_law_810 rfl rfl ?_
  refine tw_iload 4 d_L_law_811 rfl ?_
  refine tw_iconst d_L_law_813 k_1 ?_
  refine tw_iadd d_L_law_814 ?_
  refine tw_sld hscr hsb d_L_law_815 h.1 ?_
  replace h := h.2
  refine tw_aload_n 0 d_L_law_816 rfl rfl ?_
  refine tw_iload 4 d_L_law_817 rfl ?_
  refine tw_iconst d_L_law_819 k_2 ?_
  refine tw_iadd d_L_law_820 ?_
  refine tw_sld hscr hsb d_L_law_821 h.1 ?_
  replace h := h.2
  refine tw_aload_n 0 d_L_law_822 rfl rfl ?_
  refine tw_iload 4 d_L_law_823 rfl ?_
  refine tw_iconst d_L_law_825 k_3 ?_
  refine tw_iadd d_L_law_826 ?_
  refine tw_sld hscr hsb d_L_law_827 h.1 ?_
  replace h := h.2
  refine tw_aload_n 3 d_L_law_828 rfl rfl ?_
  refine tw_callW (As := [.ref (G.b + 0), .int (xs (x4 + 1).toNatClampNeg), .int (xs (x4 + 2).toNatClampNeg), .int (xs (x4 + 3).toNatClampNeg), .ref (G.b + 161)]) cw_L_92 rfl (Nat.le_of_ble_eq_true rfl) hcz1 d_L_law_829 h (fun r2 M1 h => ?_)
  have hL_M1 : Lay c M1 := hL.to h.1
  replace h := h.2
  refine tw_istore [(5, .int r2), (0, .ref sb), (1, .ref (G.b + 0)), (2, .ref (G.b + 147)), (3, .ref (G.b + 161)), (4, .int x4)] d_L_law_832 (Nat.le_of_ble_eq_true rfl) rfl ?_
  refine tw_aload_n 3 d_L_law_834 rfl rfl ?_
  refine tw_aload_n 1 d_L_law_835 rfl rfl ?_
  refine tw_iload 5 d_L_law_836 rfl ?_
  refine tw_iconst d_L_law_838 k_1 ?_
  refine tw_iadd d_L_law_839 ?_
  refine tw_sld hscr hsb d_L_law_840 h.1 ?_
  replace h := h.2
  refine tw_aload_n 1 d_L_law_841 rfl rfl ?_
  refine tw_iload 5 d_L_law_842 rfl ?_
  refine tw_iconst d_L_law_844 k_2 ?_
  refine tw_iadd d_L_law_845 ?_
  refine tw_sld hscr hsb d_L_law_846 h.1 ?_
  replace h := h.2
  refine tw_aload_n 1 d_L_law_847 rfl rfl ?_
  refine tw_iload 5 d_L_law_848 rfl ?_
  refine tw_iconst d_L_law_850 k_3 ?_
  refine tw_iadd d_L_law_851 ?_
  refine tw_sld hscr hsb d_L_law_852 h.1 ?_
  replace h := h.2
  refine tu_cVJ (As := [.int (xs (x4 + 1).toNatClampNeg), .int (xs (x4 + 2).toNatClampNeg), .int (xs (x4 + 3).toNatClampNeg)]) cv_L_95 hL_M1 s_147 rfl (Nat.le_of_ble_eq_true rfl) hcz1 d_L_law_853 h (fun r4 M3 h => ?_)
  have hL_M3 : Lay c M3 := hL_M1.to h.1
  replace h := h.2
  refine tw_lstore [(6, .long r4), (5, .int r2), (0, .ref sb), (1, .ref (G.b + 0)), (2, .ref (G.b + 147)), (3, .ref (G.b + 161)), (4, .int x4)] d_L_law_856 (Nat.le_of_ble_eq_true rfl) rfl ?_
  refine tw_aload_n 4 d_L_law_858 rfl rfl ?_
  refine tu_cVi (As := []) cv_L_81 hL_M3 s_147 rfl (Nat.le_of_ble_eq_true rfl) hcz1 d_L_law_859 h (fun r6 M5 h => ?_)
  have hL_M5 : Lay c M5 := hL_M3.to h.1
  replace h := h.2
  refine tw_iload 1 d_L_law_862 rfl ?_
  refine tw_icmp_eq 869 d_L_law_864 (by decide) (fun z7 => ?_) (fun z7 => ?_)
  · replace h := h.1 z7
    refine tw_iload 1 d_L_law_869 rfl ?_
    refine tw_if_ne 885 d_L_law_871 (by decide) (fun z8 => ?_) (fun z8 => ?_)
    · replace h := h.1 z8
      refine tw_goto 1285 d_L_law_885 (by decide) ?_
      exact tw_lv [2, 3, 4, 5, 6] rfl h
    · replace h := h.2 z8
      refine tw_aload_n 5 d_L_law_874 rfl rfl ?_
      refine tw_iconst d_L_law_875 k_0 ?_
      refine tw_lald hL_M5 s_161 d_L_law_876 (by unfold vp_in; decide) ?_
      refine tw_lload 0 d_L_law_877 rfl ?_
      refine tw_lcmp_eq 885 d_L_law_879 d_L_law_880 (by decide) (fun z9 => ?_) (fun z9 => ?_)
      · replace h := h.1 z9
        refine tw_goto 1285 d_L_law_885 (by decide) ?_
        exact tw_lv [2, 3, 4, 5, 6] rfl h
      · replace h := h.2 z9
        refine tw_iconst d_L_law_883 k_0 ?_
        exact tw_zret (ty := .boolean) rfl rfl hcz1 d_L_law_884 h
  · replace h := h.2 z7
    refine tw_iconst d_L_law_867 k_0 ?_
    exact tw_zret (ty := .boolean) rfl rfl hcz1 d_L_law_868 h
theorem b_L_law_888 {G : MG} {d sb sL : Nat} {xs : Nat → Int32} {Q : Int32 → Mm → Prop} {ce sl : Nat} {x4 : Int32} {M : Mm} {c : Nat} (hL : Lay c M) (hscr : ∀ U, G.X U → va_X sb sL xs U U.heap) (hsb : sb < G.b) (hcz0 : ce ≤ Y_L_law.mc ∧ sl ≤ Y_L_law.ms) (hcz1 : ce + 1 ≤ Y_L_law.mc ∧ sl + 6 ≤ Y_L_law.ms)  (h : (vp_in (x4 + 1) sL ∧ (C G Y_X11_outs d [.ref (G.b + 0), .int (xs (x4 + 1).toNatClampNeg)] M (Ri fun r2 M1 => M1.2.2 = M.2.2 ∧ (vp_in (x4 + 1) sL ∧ (C G Y_X12_outs d [.ref (G.b + 147), .int (xs (x4 + 1).toNatClampNeg)] M1 (Ri fun r4 M3 => M3.2.2 = M1.2.2 ∧ ((r2 = r4 → L_L_law_1285 G d sb Q ce sl x4 M3) ∧ (¬ r2 = r4 → Q 0 M3))))))))) : L_L_law_888 G d sb Q ce sl x4 M := by
  unfold L_L_law_888
  refine tw_aload_n 1 d_L_law_888 rfl rfl ?_
  refine tw_aload_n 0 d_L_law_889 rfl rfl ?_
  refine tw_iload 4 d_L_law_890 rfl ?_
  refine tw_iconst d_L_law_892 k_1 ?_
  refine tw_iadd d_L_law_893 ?_
  refine tw_sld hscr hsb d_L_law_894 h.1 ?_
  replace h := h.2
  refine tu_cVi (As := [.int (xs (x4 + 1).toNatClampNeg)]) cv_L_96 hL s_0 rfl (Nat.le_of_ble_eq_true rfl) hcz0 d_L_law_895 h (fun r2 M1 h => ?_)
  have hL_M1 : Lay c M1 := hL.to h.1
  replace h := h.2
  refine tw_aload_n 2 d_L_law_898 rfl rfl ?_
  refine tw_aload_n 0 d_L_law_899 rfl rfl ?_
  refine tw_iload 4 d_L_law_900 rfl ?_
  refine tw_iconst d_L_law_902 k_1 ?_
  refine tw_iadd d_L_law_903 ?_
  refine tw_sld hscr hsb d_L_law_904 h.1 ?_
  replace h := h.2
  refine tu_cVi (As := [.int (xs (x4 + 1).toNatClampNeg)]) cv_L_99 hL_M1 s_147 rfl (Nat.le_of_ble_eq_true rfl) hcz0 d_L_law_905 h (fun r4 M3 h => ?_)
  have hL_M3 : Lay c M3 := hL_M1.to h.1
  replace h := h.2
  refine tw_icmp_eq 1285 d_L_law_908 (by decide) (fun z5 => ?_) (fun z5 => ?_)
  · replace h := h.1 z5
    exact tw_lv [0, 1, 2, 3, 4] rfl h
  · replace h := h.2 z5
    refine tw_iconst d_L_law_911 k_0 ?_
    exact tw_zret (ty := .boolean) rfl rfl hcz0 d_L_law_912 h
theorem b_L_law_913 {G : MG} {d sb sL : Nat} {xs : Nat → Int32} {Q : Int32 → Mm → Prop} {ce sl : Nat} {x4 : Int32} {M : Mm} {c : Nat} (hL : Lay c M) (hscr : ∀ U, G.X U → va_X sb sL xs U U.heap) (hsb : sb < G.b) (hcz0 : ce ≤ Y_L_law.mc ∧ sl ≤ Y_L_law.ms) (hcz1 : ce + 1 ≤ Y_L_law.mc ∧ sl + 6 ≤ Y_L_law.ms)  (h : (vp_in (x4 + 1) sL ∧ (vp_in (x4 + 2) sL ∧ (vp_in (x4 + 3) sL ∧ (C G Y_X11_fitted d [.ref (G.b + 0), .int (xs (x4 + 1).toNatClampNeg), .int (xs (x4 + 2).toNatClampNeg), .int (xs (x4 + 3).toNatClampNeg)] M (Ri fun r2 M1 => M1.2.2 = M.2.2 ∧ (vp_in (x4 + 1) sL ∧ (vp_in (x4 + 2) sL ∧ (vp_in (x4 + 3) sL ∧ (C G Y_X12_fitted d [.ref (G.b + 147), .int (xs (x4 + 1).toNatClampNeg), .int (xs (x4 + 2).toNatClampNeg), .int (xs (x4 + 3).toNatClampNeg)] M1 (Ri fun r4 M3 => M3.2.2 = M1.2.2 ∧ ((r2 = r4 → L_L_law_1285 G d sb Q ce sl x4 M3) ∧ (¬ r2 = r4 → Q 0 M3))))))))))))) : L_L_law_913 G d sb Q ce sl x4 M := by
  unfold L_L_law_913
  refine tw_aload_n 1 d_L_law_913 rfl rfl ?_
  refine tw_aload_n 0 d_L_law_914 rfl rfl ?_
  refine tw_iload 4 d_L_law_915 rfl ?_
  refine tw_iconst d_L_law_917 k_1 ?_
  refine tw_iadd d_L_law_918 ?_
  refine tw_sld hscr hsb d_L_law_919 h.1 ?_
  replace h := h.2
  refine tw_aload_n 0 d_L_law_920 rfl rfl ?_
  refine tw_iload 4 d_L_law_921 rfl ?_
  refine tw_iconst d_L_law_923 k_2 ?_
  refine tw_iadd d_L_law_924 ?_
  refine tw_sld hscr hsb d_L_law_925 h.1 ?_
  replace h := h.2
  refine tw_aload_n 0 d_L_law_926 rfl rfl ?_
  refine tw_iload 4 d_L_law_927 rfl ?_
  refine tw_iconst d_L_law_929 k_3 ?_
  refine tw_iadd d_L_law_930 ?_
  refine tw_sld hscr hsb d_L_law_931 h.1 ?_
  replace h := h.2
  refine tu_cVi (As := [.int (xs (x4 + 1).toNatClampNeg), .int (xs (x4 + 2).toNatClampNeg), .int (xs (x4 + 3).toNatClampNeg)]) cv_L_100 hL s_0 rfl (Nat.le_of_ble_eq_true rfl) hcz0 d_L_law_932 h (fun r2 M1 h => ?_)
  have hL_M1 : Lay c M1 := hL.to h.1
  replace h := h.2
  refine tw_aload_n 2 d_L_law_935 rfl rfl ?_
  refine tw_aload_n 0 d_L_law_936 rfl rfl ?_
  refine tw_iload 4 d_L_law_937 rfl ?_
  refine tw_iconst d_L_law_939 k_1 ?_
  refine tw_iadd d_L_law_940 ?_
  refine tw_sld hscr hsb d_L_law_941 h.1 ?_
  replace h := h.2
  refine tw_aload_n 0 d_L_law_942 rfl rfl ?_
  refine tw_iload 4 d_L_law_943 rfl ?_
  refine tw_iconst d_L_law_945 k_2 ?_
  refine tw_iadd d_L_law_946 ?_
  refine tw_sld hscr hsb d_L_law_947 h.1 ?_
  replace h := h.2
  refine tw_aload_n 0 d_L_law_948 rfl rfl ?_
  refine tw_iload 4 d_L_law_949 rfl ?_
  refine tw_iconst d_L_law_951 k_3 ?_
  refine tw_iadd d_L_law_952 ?_
  refine tw_sld hscr hsb d_L_law_953 h.1 ?_
  replace h := h.2
  refine tu_cVi (As := [.int (xs (x4 + 1).toNatClampNeg), .int (xs (x4 + 2).toNatClampNeg), .int (xs (x4 + 3).toNatClampNeg)]) cv_L_104 hL_M1 s_147 rfl (Nat.le_of_ble_eq_true rfl) hcz0 d_L_law_954 h (fun r4 M3 h => ?_)
  have hL_M3 : Lay c M3 := hL_M1.to h.1
  replace h := h.2
  refine tw_icmp_eq 1285 d_L_law_957 (by decide) (fun z5 => ?_) (fun z5 => ?_)
  · replace h := h.1 z5
    exact tw_lv [0, 1, 2, 3, 4] rfl h
  · replace h := h.2 z5
    refine tw_iconst d_L_law_960 k_0 ?_
    exact tw_zret (ty := .boolean) rfl rfl hcz0 d_L_law_961 h
theorem b_L_law_962 {G : MG} {d sb sL : Nat} {xs : Nat → Int32} {Q : Int32 → Mm → Prop} {ce sl : Nat} {x4 : Int32} {M : Mm} {c : Nat} (hL : Lay c M) (hscr : ∀ U, G.X U → va_X sb sL xs U U.heap) (hsb : sb < G.b) (hcz0 : ce ≤ Y_L_law.mc ∧ sl ≤ Y_L_law.ms) (hcz1 : ce + 1 ≤ Y_L_law.mc ∧ sl + 6 ≤ Y_L_law.ms)  (h : (vp_in (x4 + 1) sL ∧ (vp_in (x4 + 2) sL ∧ (vp_in (x4 + 3) sL ∧ (C G Y_X11_see d [.ref (G.b + 0), .int (xs (x4 + 1).toNatClampNeg), .int (xs (x4 + 2).toNatClampNeg), .int (xs (x4 + 3).toNatClampNeg)] M (Ri fun r2 M1 => M1.2.2 = M.2.2 ∧ (vp_in (x4 + 1) sL ∧ (vp_in (x4 + 2) sL ∧ (vp_in (x4 + 3) sL ∧ (C G Y_X12_see d [.ref (G.b + 147), .int (xs (x4 + 1).toNatClampNeg), .int (xs (x4 + 2).toNatClampNeg), .int (xs (x4 + 3).toNatClampNeg)] M1 (Ri fun r4 M3 => M3.2.2 = M1.2.2 ∧ ((r2 = r4 → L_L_law_1285 G d sb Q ce sl x4 M3) ∧ (¬ r2 = r4 → Q 0 M3))))))))))))) : L_L_law_962 G d sb Q ce sl x4 M := by
  unfold L_L_law_962
  refine tw_aload_n 1 d_L_law_962 rfl rfl ?_
  refine tw_aload_n 0 d_L_law_963 rfl rfl ?_
  refine tw_iload 4 d_L_law_964 rfl ?_
  refine tw_iconst d_L_law_966 k_1 ?_
  refine tw_iadd d_L_law_967 ?_
  refine tw_sld hscr hsb d_L_law_968 h.1 ?_
  replace h := h.2
  refine tw_aload_n 0 d_L_law_969 rfl rfl ?_
  refine tw_iload 4 d_L_law_970 rfl ?_
  refine tw_iconst d_L_law_972 k_2 ?_
  refine tw_iadd d_L_law_973 ?_
  refine tw_sld hscr hsb d_L_law_974 h.1 ?_
  replace h := h.2
  refine tw_aload_n 0 d_L_law_975 rfl rfl ?_
  refine tw_iload 4 d_L_law_976 rfl ?_
  refine tw_iconst d_L_law_978 k_3 ?_
  refine tw_iadd d_L_law_979 ?_
  refine tw_sld hscr hsb d_L_law_980 h.1 ?_
  replace h := h.2
  refine tu_cVi (As := [.int (xs (x4 + 1).toNatClampNeg), .int (xs (x4 + 2).toNatClampNeg), .int (xs (x4 + 3).toNatClampNeg)]) cv_L_105 hL s_0 rfl (Nat.le_of_ble_eq_true rfl) hcz0 d_L_law_981 h (fun r2 M1 h => ?_)
  have hL_M1 : Lay c M1 := hL.to h.1
  replace h := h.2
  refine tw_aload_n 2 d_L_law_984 rfl rfl ?_
  refine tw_aload_n 0 d_L_law_985 rfl rfl ?_
  refine tw_iload 4 d_L_law_986 rfl ?_
  refine tw_iconst d_L_law_988 k_1 ?_
  refine tw_iadd d_L_law_989 ?_
  refine tw_sld hscr hsb d_L_law_990 h.1 ?_
  replace h := h.2
  refine tw_aload_n 0 d_L_law_991 rfl rfl ?_
  refine tw_iload 4 d_L_law_992 rfl ?_
  refine tw_iconst d_L_law_994 k_2 ?_
  refine tw_iadd d_L_law_995 ?_
  refine tw_sld hscr hsb d_L_law_996 h.1 ?_
  replace h := h.2
  refine tw_aload_n 0 d_L_law_997 rfl rfl ?_
  refine tw_iload 4 d_L_law_998 rfl ?_
  refine tw_iconst d_L_law_1000 k_3 ?_
  refine tw_iadd d_L_law_1001 ?_
  refine tw_sld hscr hsb d_L_law_1002 h.1 ?_
  replace h := h.2
  refine tu_cVi (As := [.int (xs (x4 + 1).toNatClampNeg), .int (xs (x4 + 2).toNatClampNeg), .int (xs (x4 + 3).toNatClampNeg)]) cv_L_108 hL_M1 s_147 rfl (Nat.le_of_ble_eq_true rfl) hcz0 d_L_law_1003 h (fun r4 M3 h => ?_)
  have hL_M3 : Lay c M3 := hL_M1.to h.1
  replace h := h.2
  refine tw_icmp_eq 1285 d_L_law_1006 (by decide) (fun z5 => ?_) (fun z5 => ?_)
  · replace h := h.1 z5
    exact tw_lv [0, 1, 2, 3, 4] rfl h
  · replace h := h.2 z5
    refine tw_iconst d_L_law_1009 k_0 ?_
    exact tw_zret (ty := .boolean) rfl rfl hcz0 d_L_law_1010 h
theorem b_L_law_1011 {G : MG} {d sb sL : Nat} {xs : Nat → Int32} {Q : Int32 → Mm → Prop} {ce sl : Nat} {x4 : Int32} {M : Mm} {c : Nat} (hL : Lay c M) (hscr : ∀ U, G.X U → va_X sb sL xs U U.heap) (hsb : sb < G.b) (hcz0 : ce ≤ Y_L_law.mc ∧ sl ≤ Y_L_law.ms) (hcz1 : ce + 1 ≤ Y_L_law.mc ∧ sl + 6 ≤ Y_L_law.ms)  (h : (C G Y_X11_clear d [.ref (G.b + 0)] M (Ri fun r2 M1 => M1.2.2 = M.2.2 ∧ (C G Y_X12_clear d [.ref (G.b + 147)] M1 (Ri fun r4 M3 => M3.2.2 = M1.2.2 ∧ ((r2 = r4 → L_L_law_1285 G d sb Q ce sl x4 M3) ∧ (¬ r2 = r4 → Q 0 M3))))))) : L_L_law_1011 G d sb Q ce sl x4 M := by
  unfold L_L_law_1011
  refine tw_aload_n 1 d_L_law_1011 rfl rfl ?_
  refine tu_cVi (As := []) cv_L_109 hL s_0 rfl (Nat.le_of_ble_eq_true rfl) hcz0 d_L_law_1012 h (fun r2 M1 h => ?_)
  have hL_M1 : Lay c M1 := hL.to h.1
  replace h := h.2
  refine tw_aload_n 2 d_L_law_1015 rfl rfl ?_
  refine tu_cVi (As := []) cv_L_113 hL_M1 s_147 rfl (Nat.le_of_ble_eq_true rfl) hcz0 d_L_law_1016 h (fun r4 M3 h => ?_)
  have hL_M3 : Lay c M3 := hL_M1.to h.1
  replace h := h.2
  refine tw_icmp_eq 1285 d_L_law_1019 (by decide) (fun z5 => ?_) (fun z5 => ?_)
  · replace h := h.1 z5
    exact tw_lv [0, 1, 2, 3, 4] rfl h
  · replace h := h.2 z5
    refine tw_iconst d_L_law_1022 k_0 ?_
    exact tw_zret (ty := .boolean) rfl rfl hcz0 d_L_law_1023 h
theorem b_L_law_1024 {G : MG} {d sb sL : Nat} {xs : Nat → Int32} {Q : Int32 → Mm → Prop} {ce sl : Nat} {x4 : Int32} {M : Mm} {c : Nat} (hL : Lay c M) (hscr : ∀ U, G.X U → va_X sb sL xs U U.heap) (hsb : sb < G.b) (hcz0 : ce ≤ Y_L_law.mc ∧ sl ≤ Y_L_law.ms) (hcz1 : ce + 1 ≤ Y_L_law.mc ∧ sl + 6 ≤ Y_L_law.ms)  (h : (C G Y_X11_suspects d [.ref (G.b + 0)] M (Ri fun r2 M1 => M1.2.2 = M.2.2 ∧ (C G Y_X12_suspects d [.ref (G.b + 147)] M1 (Ri fun r4 M3 => M3.2.2 = M1.2.2 ∧ ((r2 = r4 → L_L_law_1285 G d sb Q ce sl x4 M3) ∧ (¬ r2 = r4 → Q 0 M3))))))) : L_L_law_1024 G d sb Q ce sl x4 M := by
  unfold L_L_law_1024
  refine tw_aload_n 1 d_L_law_1024 rfl rfl ?_
  refine tu_cVi (As := []) cv_L_114 hL s_0 rfl (Nat.le_of_ble_eq_true rfl) hcz0 d_L_law_1025 h (fun r2 M1 h => ?_)
  have hL_M1 : Lay c M1 := hL.to h.1
  replace h := h.2
  refine tw_aload_n 2 d_L_law_1028 rfl rfl ?_
  refine tu_cVi (As := []) cv_L_117 hL_M1 s_147 rfl (Nat.le_of_ble_eq_true rfl) hcz0 d_L_law_1029 h (fun r4 M3 h => ?_)
  have hL_M3 : Lay c M3 := hL_M1.to h.1
  replace h := h.2
  refine tw_icmp_eq 1285 d_L_law_1032 (by decide) (fun z5 => ?_) (fun z5 => ?_)
  · replace h := h.1 z5
    exact tw_lv [0, 1, 2, 3, 4] rfl h
  · replace h := h.2 z5
    refine tw_iconst d_L_law_1035 k_0 ?_
    exact tw_zret (ty := .boolean) rfl rfl hcz0 d_L_law_1036 h
theorem b_L_law_1037 {G : MG} {d sb sL : Nat} {xs : Nat → Int32} {Q : Int32 → Mm → Prop} {ce sl : Nat} {x4 : Int32} {M : Mm} {c : Nat} (hL : Lay c M) (hscr : ∀ U, G.X U → va_X sb sL xs U U.heap) (hsb : sb < G.b) (hcz0 : ce ≤ Y_L_law.mc ∧ sl ≤ Y_L_law.ms) (hcz1 : ce + 1 ≤ Y_L_law.mc ∧ sl + 6 ≤ Y_L_law.ms)  (h : (vp_in (x4 + 1) sL ∧ (CW G Y_L_crooked d [.ref (G.b + 0), .int (xs (x4 + 1).toNatClampNeg), .ref (G.b + 161)] M (Ri fun r2 M1 => M1.2.2 = M.2.2 ∧ (vp_in (x4 + 1) sL ∧ (C G Y_X12_crooked d [.ref (G.b + 147), .int (xs (x4 + 1).toNatClampNeg)] M1 (Ri fun r4 M3 => M3.2.2 = M1.2.2 ∧ (C G Y_X12_thrown d [.ref (G.b + 147)] M3 (Ri fun r6 M5 => M5.2.2 = M3.2.2 ∧ ((r6 = r2 → ((¬ r2 = 0 → L_L_law_1285 G d sb Q (ce + 1) (sl + 6) x4 M5) ∧ (r2 = 0 → (((M5.2.1 161 (Int32.toNatClampNeg 0)) = r4.toInt64 → L_L_law_1285 G d sb Q (ce + 1) (sl + 6) x4 M5) ∧ (¬ (M5.2.1 161 (Int32.toNatClampNeg 0)) = r4.toInt64 → Q 0 M5))))) ∧ (¬ r6 = r2 → Q 0 M5))))))))))) : L_L_law_1037 G d sb Q ce sl x4 M := by
  unfold L_L_law_1037
  refine tw_aload_n 1 d_L_law_1037 rfl rfl ?_
  refine tw_aload_n 0 d_L_law_1038 rfl rfl ?_
  refine tw_iload 4 d_L_law_1039 rfl ?_
  refine tw_iconst d_L_law_1041 k_1 ?_
  refine tw_iadd d_L_law_1042 ?_
  refine tw_sld hscr hsb d_L_law_1043 h.1 ?_
  replace h := h.2
  refine tw_aload_n 3 d_L_law_1044 rfl rfl ?_
  refine tw_callW (As := [.ref (G.b + 0), .int (xs (x4 + 1).toNatClampNeg), .ref (G.b + 161)]) cw_L_118 rfl (Nat.le_of_ble_eq_true rfl) hcz1 d_L_law_1045 h (fun r2 M1 h => ?_)
  have hL_M1 : Lay c M1 := hL.to h.1
  replace h := h.2
  refine tw_istore [(5, .int r2), (0, .ref sb), (1, .ref (G.b + 0)), (2, .ref (G.b + 147)), (3, .ref (G.b + 161)), (4, .int x4)] d_L_law_1048 (Nat.le_of_ble_eq_true rfl) rfl ?_
  refine tw_aload_n 3 d_L_law_1050 rfl rfl ?_
  refine tw_aload_n 1 d_L_law_1051 rfl rfl ?_
  refine tw_iload 5 d_L_law_1052 rfl ?_
  refine tw_iconst d_L_law_1054 k_1 ?_
  refine tw_iadd d_L_law_1055 ?_
  refine tw_sld hscr hsb d_L_law_1056 h.1 ?_
  replace h := h.2
  refine tu_cVi (As := [.int (xs (x4 + 1).toNatClampNeg)]) cv_L_121 hL_M1 s_147 rfl (Nat.le_of_ble_eq_true rfl) hcz1 d_L_law_1057 h (fun r4 M3 h => ?_)
  have hL_M3 : Lay c M3 := hL_M1.to h.1
  replace h := h.2
  refine tw_istore [(6, .int r4), (5, .int r2), (0, .ref sb), (1, .ref (G.b + 0)), (2, .ref (G.b + 147)), (3, .ref (G.b + 161)), (4, .int x4)] d_L_law_1060 (Nat.le_of_ble_eq_true rfl) rfl ?_
  refine tw_aload_n 4 d_L_law_1062 rfl rfl ?_
  refine tu_cVi (As := []) cv_L_81 hL_M3 s_147 rfl (Nat.le_of_ble_eq_true rfl) hcz1 d_L_law_1063 h (fun r6 M5 h => ?_)
  have hL_M5 : Lay c M5 := hL_M3.to h.1
  replace h := h.2
  refine tw_iload 1 d_L_law_1066 rfl ?_
  refine tw_icmp_eq 1073 d_L_law_1068 (by decide) (fun z7 => ?_) (fun z7 => ?_)
  · replace h := h.1 z7
    refine tw_iload 1 d_L_law_1073 rfl ?_
    refine tw_if_ne 1090 d_L_law_1075 (by decide) (fun z8 => ?_) (fun z8 => ?_)
    · replace h := h.1 z8
      refine tw_goto 1285 d_L_law_1090 (by decide) ?_
      exact tw_lv [2, 3, 4, 5, 6] rfl h
    · replace h := h.2 z8
      refine tw_aload_n 5 d_L_law_1078 rfl rfl ?_
      refine tw_iconst d_L_law_1079 k_0 ?_
      refine tw_lald hL_M5 s_161 d_L_law_1080 (by unfold vp_in; decide) ?_
      refine tw_iload 0 d_L_law_1081 rfl ?_
      refine tw_i2l d_L_law_1083 ?_
      refine tw_lcmp_eq 1090 d_L_law_1084 d_L_law_1085 (by decide) (fun z9 => ?_) (fun z9 => ?_)
      · replace h := h.1 z9
        refine tw_goto 1285 d_L_law_1090 (by decide) ?_
        exact tw_lv [2, 3, 4, 5, 6] rfl h
      · replace h := h.2 z9
        refine tw_iconst d_L_law_1088 k_0 ?_
        exact tw_zret (ty := .boolean) rfl rfl hcz1 d_L_law_1089 h
  · replace h := h.2 z7
    refine tw_iconst d_L_law_1071 k_0 ?_
    exact tw_zret (ty := .boolean) rfl rfl hcz1 d_L_law_1072 h
theorem b_L_law_1093 {G : MG} {d sb sL : Nat} {xs : Nat → Int32} {Q : Int32 → Mm → Prop} {ce sl : Nat} {x4 : Int32} {M : Mm} {c : Nat} (hL : Lay c M) (hscr : ∀ U, G.X U → va_X sb sL xs U U.heap) (hsb : sb < G.b) (hcz0 : ce ≤ Y_L_law.mc ∧ sl ≤ Y_L_law.ms) (hcz1 : ce + 1 ≤ Y_L_law.mc ∧ sl + 6 ≤ Y_L_law.ms)  (h : (vp_in (x4 + 1) sL ∧ (C G Y_X11_shakes d [.ref (G.b + 0), .int (xs (x4 + 1).toNatClampNeg)] M (Rj fun r2 M1 => M1.2.2 = M.2.2 ∧ (vp_in (x4 + 1) sL ∧ (C G Y_X12_shakes d [.ref (G.b + 147), .int (xs (x4 + 1).toNatClampNeg)] M1 (Rj fun r4 M3 => M3.2.2 = M1.2.2 ∧ ((r2 = r4 → L_L_law_1285 G d sb Q ce sl x4 M3) ∧ (¬ r2 = r4 → Q 0 M3))))))))) : L_L_law_1093 G d sb Q ce sl x4 M := by
  unfold L_L_law_1093
  refine tw_aload_n 1 d_L_law_1093 rfl rfl ?_
  refine tw_aload_n 0 d_L_law_1094 rfl rfl ?_
  refine tw_iload 4 d_L_law_1095 rfl ?_
  refine tw_iconst d_L_law_1097 k_1 ?_
  refine tw_iadd d_L_law_1098 ?_
  refine tw_sld hscr hsb d_L_law_1099 h.1 ?_
  replace h := h.2
  refine tu_cVJ (As := [.int (xs (x4 + 1).toNatClampNeg)]) cv_L_122 hL s_0 rfl (Nat.le_of_ble_eq_true rfl) hcz0 d_L_law_1100 h (fun r2 M1 h => ?_)
  have hL_M1 : Lay c M1 := hL.to h.1
  replace h := h.2
  refine tw_aload_n 2 d_L_law_1103 rfl rfl ?_
  refine tw_aload_n 0 d_L_law_1104 rfl rfl ?_
  refine tw_iload 4 d_L_law_1105 rfl ?_
  refine tw_iconst d_L_law_1107 k_1 ?_
  refine tw_iadd d_L_law_1108 ?_
  refine tw_sld hscr hsb d_L_law_1109 h.1 ?_
  replace h := h.2
  refine tu_cVJ (As := [.int (xs (x4 + 1).toNatClampNeg)]) cv_L_126 hL_M1 s_147 rfl (Nat.le_of_ble_eq_true rfl) hcz0 d_L_law_1110 h (fun r4 M3 h => ?_)
  have hL_M3 : Lay c M3 := hL_M1.to h.1
  replace h := h.2
  refine tw_lcmp_eq 1285 d_L_law_1113 d_L_law_1114 (by decide) (fun z5 => ?_) (fun z5 => ?_)
  · replace h := h.1 z5
    exact tw_lv [0, 1, 2, 3, 4] rfl h
  · replace h := h.2 z5
    refine tw_iconst d_L_law_1117 k_0 ?_
    exact tw_zret (ty := .boolean) rfl rfl hcz0 d_L_law_1118 h
theorem b_L_law_1119 {G : MG} {d sb sL : Nat} {xs : Nat → Int32} {Q : Int32 → Mm → Prop} {ce sl : Nat} {x4 : Int32} {M : Mm} {c : Nat} (hL : Lay c M) (hscr : ∀ U, G.X U → va_X sb sL xs U U.heap) (hsb : sb < G.b) (hcz0 : ce ≤ Y_L_law.mc ∧ sl ≤ Y_L_law.ms) (hcz1 : ce + 1 ≤ Y_L_law.mc ∧ sl + 6 ≤ Y_L_law.ms)  (h : (vp_in (x4 + 1) sL ∧ (C G Y_X11_steadiest d [.ref (G.b + 0), .int (xs (x4 + 1).toNatClampNeg)] M (Rj fun r2 M1 => M1.2.2 = M.2.2 ∧ (vp_in (x4 + 1) sL ∧ (C G Y_X12_steadiest d [.ref (G.b + 147), .int (xs (x4 + 1).toNatClampNeg)] M1 (Rj fun r4 M3 => M3.2.2 = M1.2.2 ∧ ((r2 = r4 → L_L_law_1285 G d sb Q ce sl x4 M3) ∧ (¬ r2 = r4 → Q 0 M3))))))))) : L_L_law_1119 G d sb Q ce sl x4 M := by
  unfold L_L_law_1119
  refine tw_aload_n 1 d_L_law_1119 rfl rfl ?_
  refine tw_aload_n 0 d_L_law_1120 rfl rfl ?_
  refine tw_iload 4 d_L_law_1121 rfl ?_
  refine tw_iconst d_L_law_1123 k_1 ?_
  refine tw_iadd d_L_law_1124 ?_
  refine tw_sld hscr hsb d_L_law_1125 h.1 ?_
  replace h := h.2
  refine tu_cVJ (As := [.int (xs (x4 + 1).toNatClampNeg)]) cv_L_127 hL s_0 rfl (Nat.le_of_ble_eq_true rfl) hcz0 d_L_law_1126 h (fun r2 M1 h => ?_)
  have hL_M1 : Lay c M1 := hL.to h.1
  replace h := h.2
  refine tw_aload_n 2 d_L_law_1129 rfl rfl ?_
  refine tw_aload_n 0 d_L_law_1130 rfl rfl ?_
  refine tw_iload 4 d_L_law_1131 rfl ?_
  refine tw_iconst d_L_law_1133 k_1 ?_
  refine tw_iadd d_L_law_1134 ?_
  refine tw_sld hscr hsb d_L_law_1135 h.1 ?_
  replace h := h.2
  refine tu_cVJ (As := [.int (xs (x4 + 1).toNatClampNeg)]) cv_L_130 hL_M1 s_147 rfl (Nat.le_of_ble_eq_true rfl) hcz0 d_L_law_1136 h (fun r4 M3 h => ?_)
  have hL_M3 : Lay c M3 := hL_M1.to h.1
  replace h := h.2
  refine tw_lcmp_eq 1285 d_L_law_1139 d_L_law_1140 (by decide) (fun z5 => ?_) (fun z5 => ?_)
  · replace h := h.1 z5
    exact tw_lv [0, 1, 2, 3, 4] rfl h
  · replace h := h.2 z5
    refine tw_iconst d_L_law_1143 k_0 ?_
    exact tw_zret (ty := .boolean) rfl rfl hcz0 d_L_law_1144 h
theorem b_L_law_1145 {G : MG} {d sb sL : Nat} {xs : Nat → Int32} {Q : Int32 → Mm → Prop} {ce sl : Nat} {x4 : Int32} {M : Mm} {c : Nat} (hL : Lay c M) (hscr : ∀ U, G.X U → va_X sb sL xs U U.heap) (hsb : sb < G.b) (hcz0 : ce ≤ Y_L_law.mc ∧ sl ≤ Y_L_law.ms) (hcz1 : ce + 1 ≤ Y_L_law.mc ∧ sl + 6 ≤ Y_L_law.ms)  (h : (vp_in (x4 + 1) sL ∧ (vp_in (x4 + 2) sL ∧ (C G Y_X11_sheets d [.ref (G.b + 0), .int (xs (x4 + 1).toNatClampNeg), .int (xs (x4 + 2).toNatClampNeg)] M (Ri fun r2 M1 => M1.2.2 = M.2.2 ∧ (vp_in (x4 + 1) sL ∧ (vp_in (x4 + 2) sL ∧ (C G Y_X12_sheets d [.ref (G.b + 147), .int (xs (x4 + 1).toNatClampNeg), .int (xs (x4 + 2).toNatClampNeg)] M1 (Ri fun r4 M3 => M3.2.2 = M1.2.2 ∧ ((r2 = r4 → L_L_law_1285 G d sb Q ce sl x4 M3) ∧ (¬ r2 = r4 → Q 0 M3))))))))))) : L_L_law_1145 G d sb Q ce sl x4 M := by
  unfold L_L_law_1145
  refine tw_aload_n 1 d_L_law_1145 rfl rfl ?_
  refine tw_aload_n 0 d_L_law_1146 rfl rfl ?_
  refine tw_iload 4 d_L_law_1147 rfl ?_
  refine tw_iconst d_L_law_1149 k_1 ?_
  refine tw_iadd d_L_law_1150 ?_
  refine tw_sld hscr hsb d_L_law_1151 h.1 ?_
  replace h := h.2
  refine tw_aload_n 0 d_L_law_1152 rfl rfl ?_
  refine tw_iload 4 d_L_law_1153 rfl ?_
  refine tw_iconst d_L_law_1155 k_2 ?_
  refine tw_iadd d_L_law_1156 ?_
  refine tw_sld hscr hsb d_L_law_1157 h.1 ?_
  replace h := h.2
  refine tu_cVi (As := [.int (xs (x4 + 1).toNatClampNeg), .int (xs (x4 + 2).toNatClampNeg)]) cv_L_131 hL s_0 rfl (Nat.le_of_ble_eq_true rfl) hcz0 d_L_law_1158 h (fun r2 M1 h => ?_)
  have hL_M1 : Lay c M1 := hL.to h.1
  replace h := h.2
  refine tw_aload_n 2 d_L_law_1161 rfl rfl ?_
  refine tw_aload_n 0 d_L_law_1162 rfl rfl ?_
  refine tw_iload 4 d_L_law_1163 rfl ?_
  refine tw_iconst d_L_law_1165 k_1 ?_
  refine tw_iadd d_L_law_1166 ?_
  refine tw_sld hscr hsb d_L_law_1167 h.1 ?_
  replace h := h.2
  refine tw_aload_n 0 d_L_law_1168 rfl rfl ?_
  refine tw_iload 4 d_L_law_1169 rfl ?_
  refine tw_iconst d_L_law_1171 k_2 ?_
  refine tw_iadd d_L_law_1172 ?_
  refine tw_sld hscr hsb d_L_law_1173 h.1 ?_
  replace h := h.2
  refine tu_cVi (As := [.int (xs (x4 + 1).toNatClampNeg), .int (xs (x4 + 2).toNatClampNeg)]) cv_L_134 hL_M1 s_147 rfl (Nat.le_of_ble_eq_true rfl) hcz0 d_L_law_1174 h (fun r4 M3 h => ?_)
  have hL_M3 : Lay c M3 := hL_M1.to h.1
  replace h := h.2
  refine tw_icmp_eq 1285 d_L_law_1177 (by decide) (fun z5 => ?_) (fun z5 => ?_)
  · replace h := h.1 z5
    exact tw_lv [0, 1, 2, 3, 4] rfl h
  · replace h := h.2 z5
    refine tw_iconst d_L_law_1180 k_0 ?_
    exact tw_zret (ty := .boolean) rfl rfl hcz0 d_L_law_1181 h
theorem b_L_law_1182 {G : MG} {d sb sL : Nat} {xs : Nat → Int32} {Q : Int32 → Mm → Prop} {ce sl : Nat} {x4 : Int32} {M : Mm} {c : Nat} (hL : Lay c M) (hscr : ∀ U, G.X U → va_X sb sL xs U U.heap) (hsb : sb < G.b) (hcz0 : ce ≤ Y_L_law.mc ∧ sl ≤ Y_L_law.ms) (hcz1 : ce + 1 ≤ Y_L_law.mc ∧ sl + 6 ≤ Y_L_law.ms)  (h : (vp_in (x4 + 1) sL ∧ (C G Y_X11_descent d [.ref (G.b + 0), .int (xs (x4 + 1).toNatClampNeg)] M (Ri fun r2 M1 => M1.2.2 = M.2.2 ∧ (vp_in (x4 + 1) sL ∧ (C G Y_X12_descent d [.ref (G.b + 147), .int (xs (x4 + 1).toNatClampNeg)] M1 (Ri fun r4 M3 => M3.2.2 = M1.2.2 ∧ ((r2 = r4 → L_L_law_1285 G d sb Q ce sl x4 M3) ∧ (¬ r2 = r4 → Q 0 M3))))))))) : L_L_law_1182 G d sb Q ce sl x4 M := by
  unfold L_L_law_1182
  refine tw_aload_n 1 d_L_law_1182 rfl rfl ?_
  refine tw_aload_n 0 d_L_law_1183 rfl rfl ?_
  refine tw_iload 4 d_L_law_1184 rfl ?_
  refine tw_iconst d_L_law_1186 k_1 ?_
  refine tw_iadd d_L_law_1187 ?_
  refine tw_sld hscr hsb d_L_law_1188 h.1 ?_
  replace h := h.2
  refine tu_cVi (As := [.int (xs (x4 + 1).toNatClampNeg)]) cv_L_135 hL s_0 rfl (Nat.le_of_ble_eq_true rfl) hcz0 d_L_law_1189 h (fun r2 M1 h => ?_)
  have hL_M1 : Lay c M1 := hL.to h.1
  replace h := h.2
  refine tw_aload_n 2 d_L_law_1192 rfl rfl ?_
  refine tw_aload_n 0 d_L_law_1193 rfl rfl ?_
  refine tw_iload 4 d_L_law_1194 rfl ?_
  refine tw_iconst d_L_law_1196 k_1 ?_
  refine tw_iadd d_L_law_1197 ?_
  refine tw_sld hscr hsb d_L_law_1198 h.1 ?_
  replace h := h.2
  refine tu_cVi (As := [.int (xs (x4 + 1).toNatClampNeg)]) cv_L_138 hL_M1 s_147 rfl (Nat.le_of_ble_eq_true rfl) hcz0 d_L_law_1199 h (fun r4 M3 h => ?_)
  have hL_M3 : Lay c M3 := hL_M1.to h.1
  replace h := h.2
  refine tw_icmp_eq 1285 d_L_law_1202 (by decide) (fun z5 => ?_) (fun z5 => ?_)
  · replace h := h.1 z5
    exact tw_lv [0, 1, 2, 3, 4] rfl h
  · replace h := h.2 z5
    refine tw_iconst d_L_law_1205 k_0 ?_
    exact tw_zret (ty := .boolean) rfl rfl hcz0 d_L_law_1206 h
theorem b_L_law_1207 {G : MG} {d sb sL : Nat} {xs : Nat → Int32} {Q : Int32 → Mm → Prop} {ce sl : Nat} {x4 : Int32} {M : Mm} {c : Nat} (hL : Lay c M) (hscr : ∀ U, G.X U → va_X sb sL xs U U.heap) (hsb : sb < G.b) (hcz0 : ce ≤ Y_L_law.mc ∧ sl ≤ Y_L_law.ms) (hcz1 : ce + 1 ≤ Y_L_law.mc ∧ sl + 6 ≤ Y_L_law.ms)  (h : (vp_in (x4 + 1) sL ∧ (vp_in (x4 + 2) sL ∧ (((xs (x4 + 2).toNatClampNeg) = 0 → L_L_law_1228 G d sb Q ce sl x4 0 (xs (x4 + 1).toNatClampNeg) M) ∧ (¬ (xs (x4 + 2).toNatClampNeg) = 0 → L_L_law_1228 G d sb Q ce sl x4 1 (xs (x4 + 1).toNatClampNeg) M))))) : L_L_law_1207 G d sb Q ce sl x4 M := by
  unfold L_L_law_1207
  refine tw_aload_n 1 d_L_law_1207 rfl rfl ?_
  refine tw_aload_n 0 d_L_law_1208 rfl rfl ?_
  refine tw_iload 4 d_L_law_1209 rfl ?_
  refine tw_iconst d_L_law_1211 k_1 ?_
  refine tw_iadd d_L_law_1212 ?_
  refine tw_sld hscr hsb d_L_law_1213 h.1 ?_
  replace h := h.2
  refine tw_aload_n 0 d_L_law_1214 rfl rfl ?_
  refine tw_iload 4 d_L_law_1215 rfl ?_
  refine tw_iconst d_L_law_1217 k_2 ?_
  refine tw_iadd d_L_law_1218 ?_
  refine tw_sld hscr hsb d_L_law_1219 h.1 ?_
  replace h := h.2
  refine tw_if_eq 1227 d_L_law_1220 (by decide) (fun z1 => ?_) (fun z1 => ?_)
  · replace h := h.1 z1
    refine tw_iconst d_L_law_1227 k_0 ?_
    exact tw_lv [0, 1, 2, 3, 4] rfl h
  · replace h := h.2 z1
    refine tw_iconst d_L_law_1223 k_1 ?_
    refine tw_goto 1228 d_L_law_1224 (by decide) ?_
    exact tw_lv [0, 1, 2, 3, 4] rfl h
theorem b_L_law_1228 {G : MG} {d sb sL : Nat} {xs : Nat → Int32} {Q : Int32 → Mm → Prop} {ce sl : Nat} {x4 : Int32} {sx0 : Int32} {sx1 : Int32} {M : Mm} {c : Nat} (hL : Lay c M) (hscr : ∀ U, G.X U → va_X sb sL xs U U.heap) (hsb : sb < G.b) (hcz0 : ce ≤ Y_L_law.mc ∧ sl ≤ Y_L_law.ms) (hcz1 : ce + 1 ≤ Y_L_law.mc ∧ sl + 6 ≤ Y_L_law.ms)  (h : (C G Y_X11_mark d [.ref (G.b + 0), .int sx1, .int sx0] M (Ri fun r2 M1 => M1.2.2 = M.2.2 ∧ (vp_in (x4 + 1) sL ∧ (vp_in (x4 + 2) sL ∧ (((xs (x4 + 2).toNatClampNeg) = 0 → (C G Y_X12_mark d [.ref (G.b + 147), .int (xs (x4 + 1).toNatClampNeg), .int 0] M1 (Ri fun r5 M4 => M4.2.2 = M1.2.2 ∧ ((r2 = r5 → L_L_law_1285 G d sb Q ce sl x4 M4) ∧ (¬ r2 = r5 → Q 0 M4))))) ∧ (¬ (xs (x4 + 2).toNatClampNeg) = 0 → (C G Y_X12_mark d [.ref (G.b + 147), .int (xs (x4 + 1).toNatClampNeg), .int 1] M1 (Ri fun r8 M7 => M7.2.2 = M1.2.2 ∧ ((r2 = r8 → L_L_law_1285 G d sb Q ce sl x4 M7) ∧ (¬ r2 = r8 → Q 0 M7))))))))))) : L_L_law_1228 G d sb Q ce sl x4 sx0 sx1 M := by
  unfold L_L_law_1228
  refine tu_cVi (As := [.int sx1, .int sx0]) cv_L_139 hL s_0 rfl (Nat.le_of_ble_eq_true rfl) hcz0 d_L_law_1228 h (fun r2 M1 h => ?_)
  have hL_M1 : Lay c M1 := hL.to h.1
  replace h := h.2
  refine tw_aload_n 2 d_L_law_1231 rfl rfl ?_
  refine tw_aload_n 0 d_L_law_1232 rfl rfl ?_
  refine tw_iload 4 d_L_law_1233 rfl ?_
  refine tw_iconst d_L_law_1235 k_1 ?_
  refine tw_iadd d_L_law_1236 ?_
  refine tw_sld hscr hsb d_L_law_1237 h.1 ?_
  replace h := h.2
  refine tw_aload_n 0 d_L_law_1238 rfl rfl ?_
  refine tw_iload 4 d_L_law_1239 rfl ?_
  refine tw_iconst d_L_law_1241 k_2 ?_
  refine tw_iadd d_L_law_1242 ?_
  refine tw_sld hscr hsb d_L_law_1243 h.1 ?_
  replace h := h.2
  refine tw_if_eq 1251 d_L_law_1244 (by decide) (fun z3 => ?_) (fun z3 => ?_)
  · replace h := h.1 z3
    refine tw_iconst d_L_law_1251 k_0 ?_
    refine tu_cVi (As := [.int (xs (x4 + 1).toNatClampNeg), .int 0]) cv_L_143 hL_M1 s_147 rfl (Nat.le_of_ble_eq_true rfl) hcz0 d_L_law_1252 h (fun r5 M4 h => ?_)
    have hL_M4 : Lay c M4 := hL_M1.to h.1
    replace h := h.2
    refine tw_icmp_eq 1285 d_L_law_1255 (by decide) (fun z6 => ?_) (fun z6 => ?_)
    · replace h := h.1 z6
      exact tw_lv [0, 1, 2, 3, 4] rfl h
    · replace h := h.2 z6
      refine tw_iconst d_L_law_1258 k_0 ?_
      exact tw_zret (ty := .boolean) rfl rfl hcz0 d_L_law_1259 h
  · replace h := h.2 z3
    refine tw_iconst d_L_law_1247 k_1 ?_
    refine tw_goto 1252 d_L_law_1248 (by decide) ?_
    refine tu_cVi (As := [.int (xs (x4 + 1).toNatClampNeg), .int 1]) cv_L_143 hL_M1 s_147 rfl (Nat.le_of_ble_eq_true rfl) hcz0 d_L_law_1252 h (fun r8 M7 h => ?_)
    have hL_M7 : Lay c M7 := hL_M1.to h.1
    replace h := h.2
    refine tw_icmp_eq 1285 d_L_law_1255 (by decide) (fun z9 => ?_) (fun z9 => ?_)
    · replace h := h.1 z9
      exact tw_lv [0, 1, 2, 3, 4] rfl h
    · replace h := h.2 z9
      refine tw_iconst d_L_law_1258 k_0 ?_
      exact tw_zret (ty := .boolean) rfl rfl hcz0 d_L_law_1259 h
theorem b_L_law_1260 {G : MG} {d sb sL : Nat} {xs : Nat → Int32} {Q : Int32 → Mm → Prop} {ce sl : Nat} {x4 : Int32} {M : Mm} {c : Nat} (hL : Lay c M) (hscr : ∀ U, G.X U → va_X sb sL xs U U.heap) (hsb : sb < G.b) (hcz0 : ce ≤ Y_L_law.mc ∧ sl ≤ Y_L_law.ms) (hcz1 : ce + 1 ≤ Y_L_law.mc ∧ sl + 6 ≤ Y_L_law.ms)  (h : (vp_in (x4 + 1) sL ∧ (C G Y_X11_count d [.ref (G.b + 0), .int (xs (x4 + 1).toNatClampNeg)] M (Ri fun r2 M1 => M1.2.2 = M.2.2 ∧ (vp_in (x4 + 1) sL ∧ (C G Y_X12_count d [.ref (G.b + 147), .int (xs (x4 + 1).toNatClampNeg)] M1 (Ri fun r4 M3 => M3.2.2 = M1.2.2 ∧ ((r2 = r4 → L_L_law_1285 G d sb Q ce sl x4 M3) ∧ (¬ r2 = r4 → Q 0 M3))))))))) : L_L_law_1260 G d sb Q ce sl x4 M := by
  unfold L_L_law_1260
  refine tw_aload_n 1 d_L_law_1260 rfl rfl ?_
  refine tw_aload_n 0 d_L_law_1261 rfl rfl ?_
  refine tw_iload 4 d_L_law_1262 rfl ?_
  refine tw_iconst d_L_law_1264 k_1 ?_
  refine tw_iadd d_L_law_1265 ?_
  refine tw_sld hscr hsb d_L_law_1266 h.1 ?_
  replace h := h.2
  refine tu_cVi (As := [.int (xs (x4 + 1).toNatClampNeg)]) cv_L_144 hL s_0 rfl (Nat.le_of_ble_eq_true rfl) hcz0 d_L_law_1267 h (fun r2 M1 h => ?_)
  have hL_M1 : Lay c M1 := hL.to h.1
  replace h := h.2
  refine tw_aload_n 2 d_L_law_1270 rfl rfl ?_
  refine tw_aload_n 0 d_L_law_1271 rfl rfl ?_
  refine tw_iload 4 d_L_law_1272 rfl ?_
  refine tw_iconst d_L_law_1274 k_1 ?_
  refine tw_iadd d_L_law_1275 ?_
  refine tw_sld hscr hsb d_L_law_1276 h.1 ?_
  replace h := h.2
  refine tu_cVi (As := [.int (xs (x4 + 1).toNatClampNeg)]) cv_L_147 hL_M1 s_147 rfl (Nat.le_of_ble_eq_true rfl) hcz0 d_L_law_1277 h (fun r4 M3 h => ?_)
  have hL_M3 : Lay c M3 := hL_M1.to h.1
  replace h := h.2
  refine tw_icmp_eq 1285 d_L_law_1280 (by decide) (fun z5 => ?_) (fun z5 => ?_)
  · replace h := h.1 z5
    exact tw_lv [0, 1, 2, 3, 4] rfl h
  · replace h := h.2 z5
    refine tw_iconst d_L_law_1283 k_0 ?_
    exact tw_zret (ty := .boolean) rfl rfl hcz0 d_L_law_1284 h
theorem b_L_law_1285 {G : MG} {d sb sL : Nat} {xs : Nat → Int32} {Q : Int32 → Mm → Prop} {ce sl : Nat} {x4 : Int32} {M : Mm} {c : Nat} (hL : Lay c M) (hscr : ∀ U, G.X U → va_X sb sL xs U U.heap) (hsb : sb < G.b) (hcz0 : ce ≤ Y_L_law.mc ∧ sl ≤ Y_L_law.ms) (hcz1 : ce + 1 ≤ Y_L_law.mc ∧ sl + 6 ≤ Y_L_law.ms)  (h : L_L_law_23 G d sb Q ce sl (x4 + 7) M) : L_L_law_1285 G d sb Q ce sl x4 M := by
  unfold L_L_law_1285
  refine tw_iinc 4 [(4, .int (x4 + 7)), (0, .ref sb), (1, .ref (G.b + 0)), (2, .ref (G.b + 147)), (3, .ref (G.b + 161))] d_L_law_1285 rfl rfl (Nat.le_of_ble_eq_true rfl) rfl ?_
  refine tw_goto 23 d_L_law_1288 (by decide) ?_
  exact tw_lv [1, 2, 3, 4, 0] rfl h
