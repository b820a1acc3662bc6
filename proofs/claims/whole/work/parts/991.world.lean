/-! ===== the world at the start ===== -/
def ixS (i : Nat) : Nat := [41, 162, 85, 94, 106, 110, 114, 51, 130, 135, 140, 179, 198, 200, 202, 204, 186, 198, 228, 260, 262].getD i 0
def ownS (i : Nat) : String := if i < 16 then RX10 else RX11
def txS (i : Nat) : String := ["arm", "holes", "turn", "at", "reach", "shake", "bend", "map", "size", "to", "slips", "points", "plain", "mirror", "stiff", "loose", "no such arm, point or part", "out of reach", "no such point or part", "no such arm, or no corner seen", "no suspect"].getD i ""
def tmS (i : Nat) : Term := .string (ownS i) (ixS i)
def svT (i : Nat) : Term := .field (tmS i) "java/lang/String" "value" "[B"
abbrev prC : List Cond := flatC (Jvm.Cond.and given_1 narrow_1)
theorem fl_ex : ∀ i, i < 21 → Cond.exactly (tmS i) "java/lang/String" ∈ prC := by decide +kernel
theorem fl_co : ∀ i, i < 16 → Cond.eq (.field (tmS i) "java/lang/String" "coder" "B") (.int 0) ∈ prC := by decide +kernel
theorem fl_ar : ∀ i, i < 16 → Cond.arrayOf (svT i) .byte ∈ prC := by decide +kernel
theorem fl_le : ∀ i, i < 16 → Cond.eq (.length (svT i)) (.int (Int32.ofNat (wlen i))) ∈ prC := by decide +kernel
theorem fl_el : ∀ i, i < 16 → ∀ j, j < wlen i → Cond.eq (.elem (svT i) (.int (Int32.ofNat j))) (.int (nI (wl i j + 96))) ∈ prC := by decide +kernel
theorem tb_sr : ∀ i, i < 21 → Cond.stringRef (ownS i) (ixS i) (txS i) ∈ tables_1 := by decide +kernel
theorem wlen_lt : ∀ i, i < 16 → wlen i < 2 ^ 31 := by decide +kernel
abbrev cxT : Term := .static "CopyArms" "CORNER_X" "[I"
abbrev cyT : Term := .static "CopyArms" "CORNER_Y" "[I"
abbrev dgT : Term := .static "CopyArms$Ancestry" "DIGIT" "[I"
theorem fl_cx : (Cond.arrayOf cxT .int ∈ prC ∧ Cond.eq (.length cxT) (.int (Int32.ofNat 4)) ∈ prC) ∧ ∀ j, j < 4 → Cond.eq (.elem cxT (.int (Int32.ofNat j))) (.int (cornX j)) ∈ prC := by decide +kernel
theorem fl_cy : (Cond.arrayOf cyT .int ∈ prC ∧ Cond.eq (.length cyT) (.int (Int32.ofNat 4)) ∈ prC) ∧ ∀ j, j < 4 → Cond.eq (.elem cyT (.int (Int32.ofNat j))) (.int (cornY j)) ∈ prC := by decide +kernel
theorem fl_dg : (Cond.arrayOf dgT .int ∈ prC ∧ Cond.eq (.length dgT) (.int (Int32.ofNat 7)) ∈ prC) ∧ ∀ j, j < 7 → Cond.eq (.elem dgT (.int (Int32.ofNat j))) (.int (digitT j)) ∈ prC := by decide +kernel
theorem fl_st : Cond.eq (.static "java/lang/String" "COMPACT_STRINGS" "Z") (.int 1) ∈ prC ∧ Cond.isRef (.static "jdk/internal/util/Preconditions" "SIOOBE_FORMATTER" "Ljava/util/function/BiFunction;") ∈ prC ∧ Cond.isRef (.static Bundle.tN "UNASSIGNED_STACK" Bundle.steD) ∈ prC ∧ Cond.isRef (.static Bundle.tN "SUPPRESSED_SENTINEL" Bundle.listD) ∈ prC := by decide +kernel
theorem tb_ls : (Cond.laysStatic "java/lang/String" "COMPACT_STRINGS" "Z" ∈ tables_1 ∧ Cond.initialized "java/lang/String" ∈ tables_1) ∧ (Cond.laysStatic "jdk/internal/util/Preconditions" "SIOOBE_FORMATTER" "Ljava/util/function/BiFunction;" ∈ tables_1 ∧ Cond.initialized "jdk/internal/util/Preconditions" ∈ tables_1) ∧ (Cond.laysStatic Bundle.tN "UNASSIGNED_STACK" Bundle.steD ∈ tables_1 ∧ Cond.laysStatic Bundle.tN "SUPPRESSED_SENTINEL" Bundle.listD ∈ tables_1 ∧ Cond.initialized Bundle.tN ∈ tables_1) ∧ (Cond.laysStatic "CopyArms" "CORNER_X" "[I" ∈ tables_1 ∧ Cond.laysStatic "CopyArms" "CORNER_Y" "[I" ∈ tables_1 ∧ Cond.initialized "CopyArms" ∈ tables_1) ∧ (Cond.laysStatic "CopyArms$Ancestry" "DIGIT" "[I" ∈ tables_1 ∧ Cond.initialized "CopyArms$Ancestry" ∈ tables_1) := by decide +kernel
def isCa (w : Cond) : Bool := match w with
  | .castable _ _ => true
  | .declares _ => true
  | _ => false
theorem tb_xa : ((xAtS RX11 188).filter (fun w => !goodWord w)).all (fun w => decide (w ∈ tables_1) && isCa w) = true := by decide +kernel
/-- what is found at the start -/
def SF (s : State) (ad : Nat → Nat) : Prop :=
  (∀ i, i < 21 → vk_R (ownS i) (ixS i) (txS i) (ad i) s) ∧
  (∀ i, i < 16 → ∃ av, va_O "java/lang/String" (ad i) (fun q => s.heap.size ≤ q) s s.heap ∧ va_OF "java/lang/String" "coder" "B" (.int 0) (ad i) (fun q => s.heap.size ≤ q) s s.heap ∧ va_OF "java/lang/String" "value" "[B" (.ref av) (ad i) (fun q => s.heap.size ≤ q) s s.heap ∧ va_T .byte av (wlen i) (fun j => .int (nI (wl i j + 96))) (fun q => s.heap.size ≤ q) s s.heap) ∧
  (va_Z "CopyArms" "CORNER_X" "[I" (.ref (ad 21)) (fun q => s.heap.size ≤ q) s s.heap ∧ va_T .int (ad 21) 4 (fun q => .int (cornX q)) (fun q => s.heap.size ≤ q) s s.heap) ∧
  (va_Z "CopyArms" "CORNER_Y" "[I" (.ref (ad 22)) (fun q => s.heap.size ≤ q) s s.heap ∧ va_T .int (ad 22) 4 (fun q => .int (cornY q)) (fun q => s.heap.size ≤ q) s s.heap) ∧
  (va_Z "CopyArms$Ancestry" "DIGIT" "[I" (.ref (ad 23)) (fun q => s.heap.size ≤ q) s s.heap ∧ va_T .int (ad 23) 7 (fun q => .int (digitT q)) (fun q => s.heap.size ≤ q) s s.heap) ∧
  (va_Z "java/lang/String" "COMPACT_STRINGS" "Z" (.int 1) (fun q => s.heap.size ≤ q) s s.heap ∧ va_Zq "jdk/internal/util/Preconditions" "SIOOBE_FORMATTER" "Ljava/util/function/BiFunction;" (fun q => s.heap.size ≤ q) s s.heap) ∧
  vx_Zq Bundle.tN "UNASSIGNED_STACK" Bundle.steD (fun q => s.heap.size ≤ q) s s.heap ∧ vx_Zq Bundle.tN "SUPPRESSED_SENTINEL" Bundle.listD (fun q => s.heap.size ≤ q) s s.heap
theorem start_facts {args : Array Value} {s : State} (hts : ∀ w ∈ tables_1, w.before args s = true) (hp : (Jvm.Cond.and given_1 narrow_1).before args s = true) : ∃ ad : Nat → Nat, SF s ad := by
  have hA : ∀ a : Nat, a < s.heap.size → ¬ (fun q => s.heap.size ≤ q) a := fun a ha hh => absurd ha (Nat.not_lt.mpr hh)
  have hs := flat_of_before _ hp
  obtain ⟨⟨l1, l2⟩, ⟨l3, l4⟩, ⟨l5, l6, l7⟩, ⟨l8, l9, l10⟩, l11, l12⟩ := tb_ls
  obtain ⟨p1, p2, p3, p4⟩ := fl_st
  have h0 : ∀ i : Nat, ∃ a : Nat, i < 21 → (tmS i).eval args s none [] s = some (.ref a) ∧ va_O "java/lang/String" a (fun q => s.heap.size ≤ q) s s.heap := by
    intro i
    by_cases hi : i < 21
    · obtain ⟨a, c, cA, kA, q1, q2, q3, q4, q5, q6, -⟩ := Cond.exactly_spec (args := args) (first := s) (o := none) (s := s) (idx := []) (t := tmS i) (cls := "java/lang/String") (hs _ (fl_ex i hi))
      exact ⟨a, fun _ => ⟨q1, ⟨cA, q3, q5, by rw [q6]; exact q2, hA a (Array.getElem?_eq_some_iff.mp q3).1⟩⟩⟩
    · exact ⟨0, fun h => absurd h hi⟩
  obtain ⟨ad, had⟩ := Classical.axiomOfChoice h0
  obtain ⟨tx, hx1, hx2⟩ := va_Tof (tm := cxT) (ty := .int) (N := 4) (f := fun q => .int (cornX q)) (A := fun q => s.heap.size ≤ q) (by decide) (hs _ fl_cx.1.1) (va_eqt (hs _ fl_cx.1.2)) (fun j hj => va_eqt (hs _ (fl_cx.2 j hj))) hA
  obtain ⟨ty, hy1, hy2⟩ := va_Tof (tm := cyT) (ty := .int) (N := 4) (f := fun q => .int (cornY q)) (A := fun q => s.heap.size ≤ q) (by decide) (hs _ fl_cy.1.1) (va_eqt (hs _ fl_cy.1.2)) (fun j hj => va_eqt (hs _ (fl_cy.2 j hj))) hA
  obtain ⟨td, hd1, hd2⟩ := va_Tof (tm := dgT) (ty := .int) (N := 7) (f := fun q => .int (digitT q)) (A := fun q => s.heap.size ≤ q) (by decide) (hs _ fl_dg.1.1) (va_eqt (hs _ fl_dg.1.2)) (fun j hj => va_eqt (hs _ (fl_dg.2 j hj))) hA
  refine ⟨fun i => if i < 21 then ad i else if i = 21 then tx else if i = 22 then ty else td, ?_, ?_, ⟨va_Zref (hts _ l8) (hts _ l10) hx1 hA, hx2⟩, ⟨va_Zref (hts _ l9) (hts _ l10) hy1 hA, hy2⟩, ⟨va_Zref (hts _ l11) (hts _ l12) hd1 hA, hd2⟩, ⟨va_Zof (hts _ l1) (hts _ l2) (va_eqt (hs _ p1)) hA, va_Zqof (hts _ l3) (hts _ l4) (hs _ p2) hA⟩, vx_Zqof (hts _ l5) (hts _ l7) (hs _ p3) hA, vx_Zqof (hts _ l6) (hts _ l7) (hs _ p4) hA⟩
  · intro i hi
    have e : (if i < 21 then ad i else if i = 21 then tx else if i = 22 then ty else td) = ad i := if_pos hi
    dsimp only
    rw [e]
    exact vk_R.of (hts _ (tb_sr i hi)) (had i hi).1
  · intro i hi
    have e : (if i < 21 then ad i else if i = 21 then tx else if i = 22 then ty else td) = ad i := if_pos (by omega)
    dsimp only
    rw [e]
    obtain ⟨q1, q2⟩ := had i (by omega)
    obtain ⟨t, ht, hT⟩ := va_Tof (f := fun j => .int (nI (wl i j + 96))) (A := fun q => s.heap.size ≤ q) (wlen_lt i hi) (hs _ (fl_ar i hi)) (va_eqt (hs _ (fl_le i hi))) (fun j hj => va_eqt (hs _ (fl_el i hi j hj))) hA
    exact ⟨t, q2, vk_OFof q1 (va_eqt (hs _ (fl_co i hi))) hA, vk_OFof q1 ht hA, hT⟩

theorem isCa_mv {w : Cond} {args : Array Value} {s U : State} (hc : isCa w = true) (hW : s.WarmedH U.vm) (h : w.before args s = true) : va_Nw w U := by
  cases w <;> first | (simp [isCa] at hc; done) | exact va_Nw.warmC hW (va_Nw.of rfl h) | exact va_Nw.warmD hW (va_Nw.of rfl h)
