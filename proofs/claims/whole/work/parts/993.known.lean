/-! ===== the classes at the start, and the claim ===== -/
theorem tb_ins : Cond.instantiable RX0 3 ∈ tables_1 ∧ Cond.instantiable RX1 10 ∈ tables_1 ∧ Cond.instantiable RX2 7 ∈ tables_1 ∧ Cond.instantiable RX3 2 ∈ tables_1 ∧ Cond.instantiable RX4 3 ∈ tables_1 ∧ Cond.instantiable RX5 4 ∈ tables_1 ∧ Cond.instantiable RX6 5 ∈ tables_1 ∧ Cond.instantiable RX7 11 ∈ tables_1 ∧ Cond.instantiable RX8 2 ∈ tables_1 ∧ Cond.instantiable RX9 3 ∈ tables_1 ∧ Cond.instantiable RX10 7 ∈ tables_1 ∧ Cond.instantiable RX11 12 ∈ tables_1 ∧ Cond.instantiable RX12 32 ∈ tables_1 := by decide +kernel
theorem in_tbl {w : Cond} (h : w ∈ tables_1) : w ∈ lw_tbl := List.mem_append_right _ h
theorem cls_of {s : State} {args : Array Value} (hts : ∀ w ∈ lw_tbl, w.before args s = true) : ∃ D : va_G, ∀ (c : Nat) (q : vw_C), cls[c]? = some q → u_Kn s q.1 q.2.1 q.2.2 (D.1 c) (D.2 c) := by
  have hg : ∀ w ∈ lw_good, w.before args s = true := fun w hw => hts w (List.mem_filter.mp hw).1
  obtain ⟨i0, i1, i2, i3, i4, i5, i6, i7, i8, i9, i10, i11, i12⟩ := tb_ins
  have h : ∀ c : Nat, ∃ p : ClassId × (Nat → Nat), ∀ q : vw_C, cls[c]? = some q → u_Kn s q.1 q.2.1 q.2.2 p.1 p.2 := by
    intro c
    match c with
    | 0 =>
      obtain ⟨a, f, hk⟩ := u_known hg inG0 (hts _ (in_tbl i0))
      exact ⟨(a, f), fun q hq => by cases hq; exact hk⟩
    | 1 =>
      obtain ⟨a, f, hk⟩ := u_known hg inG1 (hts _ (in_tbl i1))
      exact ⟨(a, f), fun q hq => by cases hq; exact hk⟩
    | 2 =>
      obtain ⟨a, f, hk⟩ := u_known hg inG2 (hts _ (in_tbl i2))
      exact ⟨(a, f), fun q hq => by cases hq; exact hk⟩
    | 3 =>
      obtain ⟨a, f, hk⟩ := u_known hg inG3 (hts _ (in_tbl i3))
      exact ⟨(a, f), fun q hq => by cases hq; exact hk⟩
    | 4 =>
      obtain ⟨a, f, hk⟩ := u_known hg inG4 (hts _ (in_tbl i4))
      exact ⟨(a, f), fun q hq => by cases hq; exact hk⟩
    | 5 =>
      obtain ⟨a, f, hk⟩ := u_known hg inG5 (hts _ (in_tbl i5))
      exact ⟨(a, f), fun q hq => by cases hq; exact hk⟩
    | 6 =>
      obtain ⟨a, f, hk⟩ := u_known hg inG6 (hts _ (in_tbl i6))
      exact ⟨(a, f), fun q hq => by cases hq; exact hk⟩
    | 7 =>
      obtain ⟨a, f, hk⟩ := u_known hg inG7 (hts _ (in_tbl i7))
      exact ⟨(a, f), fun q hq => by cases hq; exact hk⟩
    | 8 =>
      obtain ⟨a, f, hk⟩ := u_known hg inG8 (hts _ (in_tbl i8))
      exact ⟨(a, f), fun q hq => by cases hq; exact hk⟩
    | 9 =>
      obtain ⟨a, f, hk⟩ := u_known hg inG9 (hts _ (in_tbl i9))
      exact ⟨(a, f), fun q hq => by cases hq; exact hk⟩
    | 10 =>
      obtain ⟨a, f, hk⟩ := u_known hg inG10 (hts _ (in_tbl i10))
      exact ⟨(a, f), fun q hq => by cases hq; exact hk⟩
    | 11 =>
      obtain ⟨a, f, hk⟩ := u_known hg inG11 (hts _ (in_tbl i11))
      exact ⟨(a, f), fun q hq => by cases hq; exact hk⟩
    | 12 =>
      obtain ⟨a, f, hk⟩ := u_known hg inG12 (hts _ (in_tbl i12))
      exact ⟨(a, f), fun q hq => by cases hq; exact hk⟩
    | n + 13 => exact ⟨(0, fun _ => 0), fun q hq => by cases hq⟩
  obtain ⟨D, hD⟩ := Classical.axiomOfChoice h
  exact ⟨(fun c => (D c).1, fun c => (D c).2), hD⟩
theorem tb_ac : Cond.arrayClass .int ∈ tables_1 ∧ Cond.arrayClass .long ∈ tables_1 ∧ Cond.arrayClass .char ∈ tables_1 ∧ Cond.arrayClass .boolean ∈ tables_1 := by decide +kernel
theorem ac_of {s : State} {args : Array Value} {ty : FieldType} (hp : ty = .int ∨ ty = .long ∨ ty = .char ∨ ty = .boolean) (h : (Cond.arrayClass ty).before args s = true) : ∃ c : ClassId, ArrOfT s c ty ∧ va_RA s c ty := by
  obtain ⟨c, k, comp, h1, h2, h3⟩ := Cond.arrayClass_spec (args := args) (first := s) (o := none) (s := s) (idx := []) h
  refine ⟨c, fun n z => ⟨fun k h => (by cases h), k, h2, comp, h3⟩, ?_⟩
  rcases hp with rfl | rfl | rfl | rfl <;> exact h1
theorem ao_of {s : State} {args : Array Value} {C : String} (h : (Cond.arrayOver (.object C)).before args s = true) : ∃ c : ClassId, ArrOfT s c (.object C) ∧ va_RA s c (.object C) := by
  obtain ⟨comp, c, k, h1, -, h2, h3, h4⟩ := Cond.arrayOver_spec (args := args) (first := s) (o := none) (s := s) (idx := []) h
  exact ⟨c, fun n z => ⟨fun k h => (by cases h), k, h2, comp, h3⟩, k, comp, h2, h3, h1, h4⟩
theorem aoI_of {s : State} {args : Array Value} (h : (Cond.arrayOver (.array .int)).before args s = true) : ∃ c : ClassId, ArrOfT s c (.array .int) ∧ va_RA s c (.array .int) := by
  obtain ⟨comp, c, k, h1, h2, h3, h4⟩ := Cond.arrayOver_specA (args := args) (first := s) (o := none) (s := s) (idx := []) h
  exact ⟨c, fun n z => ⟨fun k h => (by cases h), k, h2, comp, h3⟩, h4⟩
theorem arr_of {s : State} {args : Array Value} (hts : ∀ w ∈ tables_1, w.before args s = true) : ∃ dA : Nat → ClassId, (ArrOfT s (dA 0) .int ∧ va_RA s (dA 0) .int) ∧ (ArrOfT s (dA 1) .long ∧ va_RA s (dA 1) .long) ∧ (ArrOfT s (dA 2) .char ∧ va_RA s (dA 2) .char) ∧ (ArrOfT s (dA 3) .boolean ∧ va_RA s (dA 3) .boolean) ∧ (ArrOfT s (dA 4) (.object "CopyArms$Arm") ∧ va_RA s (dA 4) (.object "CopyArms$Arm")) ∧ (ArrOfT s (dA 5) (.object "CopyArms$Chart") ∧ va_RA s (dA 5) (.object "CopyArms$Chart")) ∧ (ArrOfT s (dA 6) (.object "CopyArms$Setting") ∧ va_RA s (dA 6) (.object "CopyArms$Setting")) ∧ (ArrOfT s (dA 7) (.array .int) ∧ va_RA s (dA 7) (.array .int)) := by
  obtain ⟨a1, a2, a3, a4⟩ := tb_ac
  obtain ⟨o1, o2, o3, o4, -⟩ := tb_ao
  obtain ⟨c0, h0⟩ := ac_of (Or.inl rfl) (hts _ a1)
  obtain ⟨c1, h1⟩ := ac_of (Or.inr (Or.inl rfl)) (hts _ a2)
  obtain ⟨c2, h2⟩ := ac_of (Or.inr (Or.inr (Or.inl rfl))) (hts _ a3)
  obtain ⟨c3, h3⟩ := ac_of (Or.inr (Or.inr (Or.inr rfl))) (hts _ a4)
  obtain ⟨c4, h4⟩ := ao_of (hts _ o2)
  obtain ⟨c5, h5⟩ := ao_of (hts _ o3)
  obtain ⟨c6, h6⟩ := ao_of (hts _ o4)
  obtain ⟨c7, h7⟩ := aoI_of (hts _ o1)
  exact ⟨fun t => match t with
    | 0 => c0
    | 1 => c1
    | 2 => c2
    | 3 => c3
    | 4 => c4
    | 5 => c5
    | 6 => c6
    | _ => c7, h0, h1, h2, h3, h4, h5, h6, h7⟩
theorem kn_of {l : Launch} {s : State} {D : va_G} {dA : Nat → ClassId} {ad : Nat → Nat} (hD : ∀ (c : Nat) (q : vw_C), cls[c]? = some q → u_Kn s q.1 q.2.1 q.2.2 (D.1 c) (D.2 c)) (hA : (ArrOfT s (dA 0) .int ∧ va_RA s (dA 0) .int) ∧ (ArrOfT s (dA 1) .long ∧ va_RA s (dA 1) .long) ∧ (ArrOfT s (dA 2) .char ∧ va_RA s (dA 2) .char) ∧ (ArrOfT s (dA 3) .boolean ∧ va_RA s (dA 3) .boolean) ∧ (ArrOfT s (dA 4) (.object "CopyArms$Arm") ∧ va_RA s (dA 4) (.object "CopyArms$Arm")) ∧ (ArrOfT s (dA 5) (.object "CopyArms$Chart") ∧ va_RA s (dA 5) (.object "CopyArms$Chart")) ∧ (ArrOfT s (dA 6) (.object "CopyArms$Setting") ∧ va_RA s (dA 6) (.object "CopyArms$Setting")) ∧ (ArrOfT s (dA 7) (.array .int) ∧ va_RA s (dA 7) (.array .int))) : Kn (GS l s D dA ad) s := by
  obtain ⟨h0, h1, h2, h3, h4, h5, h6, h7⟩ := hA
  refine ⟨⟨hD, fun k q hk => ?_⟩, ⟨State.WarmedH.refl s, fun _ _ => rfl⟩, fun u U hu hW hq => ⟨State.WarmedH.trans hu.1 hW, fun q hl => (hq q hl).trans (hu.2 q hl)⟩⟩
  match k, hk with
  | 0, hk => cases hk; exact h0
  | 1, hk => cases hk; exact h1
  | 2, hk => cases hk; exact h2
  | 3, hk => cases hk; exact h3
  | 4, hk => cases hk; exact h4
  | 5, hk => cases hk; exact h5
  | 6, hk => cases hk; exact h6
  | 7, hk => cases hk; exact h7
  | n + 8, hk => cases hk
