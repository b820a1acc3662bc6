/-! ===== the world, at every later state ===== -/
def XS (s U : State) : Prop := s.WarmedH U.vm ∧ ∀ q, q < s.heap.size → U.heap[q]? = s.heap[q]?
def GS (l : Launch) (s : State) (D : va_G) (dA : Nat → ClassId) (ad : Nat → Nat) : MG := (l, s.heap.size, D, dA, XS s, ad)
theorem XS.k {s U : State} {A : Nat → Prop} (h : XS s U) : ∀ a : Nat, a < s.heap.size → ¬ A a → U.heap[a]? = s.heap[a]? := fun a ha _ => h.2 a ha
theorem tb_nest : Cond.methodLinkNest RX9 62 yX11_inLowestTerms "CopyArms" ∈ tables_1 ∧ Cond.methodLinkNest RX8 41 yX11_inLowestTerms "CopyArms" ∈ tables_1 ∧ Cond.methodLinkNest RX11 28 YI_X7.y "CopyArms" ∈ tables_1 ∧ Cond.methodLinkNest RX11 43 YI_X9.y "CopyArms" ∈ tables_1 ∧ Cond.methodLinkNest RX11 50 YI_X8.y "CopyArms" ∈ tables_1 ∧ Cond.methodLinkNest RX11 57 YI_X6.y "CopyArms" ∈ tables_1 ∧ Cond.methodLinkNest RX11 64 YI_X4.y "CopyArms" ∈ tables_1 ∧ Cond.methodLinkNest RX11 71 YI_X3.y "CopyArms" ∈ tables_1 ∧ Cond.methodLinkNest RX11 78 YI_X0.y "CopyArms" ∈ tables_1 ∧ Cond.methodLinkNest RX11 9 YI_X10.y "CopyArms" ∈ tables_1 ∧ Cond.methodLinkNest RX5 23 YI_X1.y "CopyArms" ∈ tables_1 ∧ Cond.methodLinkNest RX5 24 YI_X2.y "CopyArms" ∈ tables_1 ∧ Cond.methodLinkNest RX6 17 YI_X8.y "CopyArms" ∈ tables_1 := by decide +kernel
theorem tb_ao : Cond.arrayOver (.array .int) ∈ tables_1 ∧ Cond.arrayOver (.object "CopyArms$Arm") ∈ tables_1 ∧ Cond.arrayOver (.object "CopyArms$Chart") ∈ tables_1 ∧ Cond.arrayOver (.object "CopyArms$Setting") ∈ tables_1 ∧ Cond.castable NSE NSE ∈ tables_1 := by decide +kernel
theorem ini_of {l : Launch} {s : State} {D : va_G} {dA : Nat → ClassId} {ad : Nat → Nat} {args : Array Value} (hts : ∀ w ∈ tables_1, w.before args s = true) : Ini (GS l s D dA ad) := by
  obtain ⟨-, -, n1, n2, n3, n4, n5, n6, n7, n8, n9, n10, n11⟩ := tb_nest
  obtain ⟨o1, o2, o3, o4, -⟩ := tb_ao
  have hN : ∀ {a : String} {i : Nat} {x : MethodName} {h : String}, Cond.methodLinkNest a i x h ∈ tables_1 → ∀ U, (GS l s D dA ad).X U → va_Nw (.methodLinkNest a i x h) U := fun hm U hU => va_Nw.warmM hU.1 (va_Nw.of rfl (hts _ hm))
  have hO : ∀ {C : String}, Cond.arrayOver (.object C) ∈ tables_1 → ∀ U, (GS l s D dA ad).X U → va_AO C U := fun hm U hU => va_AO.moved hU.1.alike (va_AO.of (hts _ hm))
  refine ⟨?_, hO o2, hO o3, hO o4, hN n1, hN n2, hN n3, hN n4, hN n5, hN n6, hN n7, hN n8, hN n9, hN n10, hN n11⟩
  intro U hU A
  have h1 : (Cond.arrayOver (.array .int)).before args (s.setVm U.vm) = true := by
    rw [Cond.arrayOver_setVmC hU.1.alike]
    exact hts _ o1
  exact h1
theorem wld_of {l : Launch} {s : State} {D : va_G} {dA : Nat → ClassId} {ad : Nat → Nat} {args : Array Value} (hst : l.stackTraces = false) (hts : ∀ w ∈ tables_1, w.before args s = true) (hF : SF s ad) : Wld (GS l s D dA ad) := by
  obtain ⟨f1, f2, ⟨f3, f4⟩, ⟨f5, f6⟩, ⟨f7, f8⟩, ⟨f9, f10⟩, f11, f12⟩ := hF
  have hS : ∀ i, i < 21 → ∀ U, (GS l s D dA ad).X U → vk_R (ownS i) (ixS i) (txS i) ((GS l s D dA ad).ad i) U := fun i hi U hU => vk_R.warm hU.1 (f1 i hi)
  refine ⟨⟨fun U hU => (f3.moved hU.1.alike).kept (XS.k hU), fun U hU => (f4.moved hU.1.alike).kept (XS.k hU), fun U hU => (f5.moved hU.1.alike).kept (XS.k hU), fun U hU => (f6.moved hU.1.alike).kept (XS.k hU)⟩, ?_, ?_, ⟨fun U hU => (f7.moved hU.1.alike).kept (XS.k hU), fun U hU => (f8.moved hU.1.alike).kept (XS.k hU)⟩, ?_⟩
  · refine ⟨fun U hU => va_Nw.warmC hU.1 (va_Nw.of rfl (hts _ tb_ao.2.2.2.2)), ⟨hst, fun U hU => ⟨(f11.moved hU.1.alike).kept (XS.k hU), (f12.moved hU.1.alike).kept (XS.k hU), fun w hw => ?_⟩⟩, hS 16 (by decide), hS 17 (by decide), hS 18 (by decide), hS 19 (by decide), hS 20 (by decide)⟩
    have h := List.all_eq_true.mp tb_xa w hw
    simp only [Bool.and_eq_true, decide_eq_true_eq] at h
    exact isCa_mv h.2 hU.1 (hts _ h.1)
  · exact ⟨fun U hU => va_Nw.warmM hU.1 (va_Nw.of rfl (hts _ tb_nest.1)), fun U hU => va_Nw.warmM hU.1 (va_Nw.of rfl (hts _ tb_nest.2.1))⟩
  · refine ⟨⟨fun U hU => ⟨(f9.moved hU.1.alike).kept (XS.k hU), (f10.moved hU.1.alike).kept (XS.k hU)⟩, fun w hw => ?_⟩, ⟨hS 0 (by decide), hS 1 (by decide), hS 2 (by decide), hS 3 (by decide), hS 4 (by decide), hS 5 (by decide), hS 6 (by decide), hS 7 (by decide)⟩, ⟨hS 8 (by decide), hS 9 (by decide), hS 10 (by decide), hS 11 (by decide), hS 12 (by decide), hS 13 (by decide), hS 14 (by decide), hS 15 (by decide)⟩⟩
    obtain ⟨av, g1, g2, g3, g4⟩ := f2 w hw
    exact ⟨av, fun j => nI (wl w j + 96), fun U hU => ⟨(g1.moved hU.1.alike).kept (XS.k hU), (g2.moved hU.1.alike).kept (XS.k hU), (g3.moved hU.1.alike).kept (XS.k hU), (g4.moved hU.1.alike).kept (XS.k hU)⟩, fun i hi => rfl⟩
