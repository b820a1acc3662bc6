/-! throws and catches -/
def NSE_RE : String := "java/lang/RuntimeException"
def NSE_EX : String := "java/lang/Exception"
def b13 : ByteArray := ⟨#[0x2a, 0x2b, 0xb7, 0x00, 0x0d, 0xb1]⟩
theorem b13_0 : decode b13 0 = .ok (.aload_n 0, 1) := by decide +kernel
theorem b13_1 : decode b13 1 = .ok (.aload_n 1, 1) := by decide +kernel
theorem b13_2 : decode b13 2 = .ok (.invokespecial 13, 3) := by decide +kernel
theorem b13_5 : decode b13 5 = .ok (.return_, 1) := by decide +kernel
/-- the words of 'throw new NoSuchElementException(text)' under this JDK: its constructor names its parent's by the entry 13 -/
def xAt (own : String) (ic : Nat) : List Cond :=
  Bundle.throwableAtoms ++ Bundle.throwableSAtoms ++ Bundle.passSAtoms NSE NSE_RE 13 b13 ++ Bundle.chainSAtoms NSE_RE [NSE_EX] ++
  [.methodLink own ic (Bundle.initS NSE), .instantiable NSE 6, .castable NSE NSE, .selects NSE Bundle.tFill0 Bundle.tFill0, .selects NSE Bundle.tFill Bundle.tFill,
   .lays NSE Bundle.tN "cause" "Ljava/lang/Throwable;", .lays NSE Bundle.tN "stackTrace" Bundle.steD, .lays NSE Bundle.tN "suppressedExceptions" Bundle.listD, .lays NSE Bundle.tN "detailMessage" "Ljava/lang/String;",
   .isRef (.static Bundle.tN "UNASSIGNED_STACK" Bundle.steD), .isRef (.static Bundle.tN "SUPPRESSED_SENTINEL" Bundle.listD),
   .fieldLink Bundle.tN 198 Bundle.tN "backtrace" "Ljava/lang/Object;", .lays Bundle.tN Bundle.tN "backtrace" "Ljava/lang/Object;", .lays NSE Bundle.tN "backtrace" "Ljava/lang/Object;"]
def xAtS (own : String) (ic : Nat) : List Cond := (xAt own ic).filter vx_no
section
variable {p : Program} {l : Launch} {e : Env} {R : Room} {s : State} {m₀ : MethodId} {args : Array Value} {below : List Frame} {meth : Method} {c : Code} {W : State} {locs : List Loc} {cells slots : Nat}
set_option maxHeartbeats 4000000 in
/-- after the library's law of a throw with a text (its chain has the entry 7 everywhere; here the first link has 13) -/
theorem xc_ctor (X : Stand p l e R s m₀ args below meth c W locs cells slots) (hexec : p.tables.exec = Jvm.exec) (htr : e.platform.stackTraces = false) {own : String} {ic : Nat}
    (hown : s.vm.findClass own = some m₀.cls) (h : ∀ a ∈ xAt own ic, a.before args s = true)
    (hlocs : ∀ x ∈ locs, ∀ cell, s.heap[x.base]? = some cell → cell.vm.isStatics = false)
    {a : Addr} {cX : ClassId} {kX : Class} (hfoundX : s.vm.findClass NSE = some cX) (hkX : s.vm.classes[cX]? = some kX) (hcell : W.heap[a]? = some (freshCell cX kX)) (hnew : s.heap.size ≤ a)
    {msg : Value} (hmsg : msg.isRef = true)
    {g : JFrame} (hg : g.method = m₀) (hsize : g.locals.size = c.maxLocals) (hlocked : g.locked = none) (hentered : g.entered = []) {rest : List Value} (hstack : g.stack = msg :: .ref a :: .ref a :: rest)
    (hd6 : decode c.code g.pc = .ok (.invokespecial ic, 3)) (hd9 : decode c.code (g.pc + 3) = .ok (.athrow, 1)) (hout : ∀ x ∈ c.exceptionTable.toList, covers x (g.pc + 3) = false)
    (hRframes : 2 + 3 < R.frames) (hRlocals : 2 * g.monitorRoom + ((Value.ref a :: rest).map fun v => v.category).sum + (13 * (2 + 1) + 42) ≤ R.locals) (hlocks : meth.locks = false) :
    ∃ U : State, Steps p.tables e below (W.setTop g) U ∧ U.status = .running ∧ Ended U below (.threw a) ∧ s.WarmedH U.vm ∧ s.sameButNew ({ U with vm := s.vm } : State) locs cells slots ∧
      ∃ ce, U.heap[a]? = some ce ∧ ce.vm = .none ∧ s.vm.findClass NSE = some ce.cls := by
  have howns : e.platform.frameOwnsMonitors = true := by rw [X.admits.platform]
  have hfin : e.platform.finalization = false := by rw [X.admits.platform]
  have hpl : e.platform.magicAccessors = ({} : Platform).magicAccessors := by rw [X.admits.platform]
  have a' : ∀ x, x ∈ xAt own ic → x.holds args s none s [] = true := fun x hx => h x hx
  obtain ⟨T, Z0, L, -, Y⟩ := ThrowableC.of_atoms (args := args) howns hfin hpl (fun x hx => h x (by simp [xAt, hx]))
  obtain ⟨Z, M, LZ, LM, hnZ⟩ := Init0T.ofS_atoms (args := args) hpl L Y (fun x hx => h x (by simp [xAt, hx]))
  obtain ⟨P1, L1, hP1m, hs1⟩ := PassC.ofS_atoms (args := args) (s := s) hpl (X := NSE) (Y := NSE_RE) (by decide +kernel) (by decide +kernel) b13_0 b13_1 b13_2 b13_5 (fun x hx => h x (by simp [xAt, hx]))
  obtain ⟨P2, Ps, hlen, L2, hL, hP2m, hlink2, hlink⟩ := Bundle.chainS (args := args) hpl hnZ [NSE_EX] NSE_RE (by decide +kernel) (by decide +kernel) (fun x hx => h x (by simp [xAt, hx]))
  have hlink1 : P1.sup = P2.m := Option.some.inj (hs1.symm.trans hP2m)
  have hfound : s.vm.findClass NSE = some P1.m.cls := findClass_of_methodNamed hP1m
  cases Option.some.inj (hfoundX.symm.trans hfound)
  obtain ⟨c1, kX', hc1, hk, hord, -, -, hn6⟩ := Cond.instantiable_spec (a' (.instantiable NSE 6) (by simp [xAt]))
  cases Option.some.inj (hc1.symm.trans hfound)
  cases Option.some.inj (hkX.symm.trans hk)
  have hsel0 : selectMethod e.platform s.vm P1.m.cls T.fill0 = .method T.fill0 := by
    obtain ⟨c2, r2, m2, q1, q2, q3, q4, -⟩ := Cond.selects_spec (a' (.selects NSE Bundle.tFill0 Bundle.tFill0) (by simp [xAt]))
    cases Option.some.inj (q1.symm.trans hfound)
    cases Option.some.inj (q2.symm.trans (State.methodFound?_of_named Y.fill0 (by decide)))
    cases Option.some.inj (q3.symm.trans Y.fill0)
    rw [Launch.admits_selectMethod X.admits]; exact q4
  have hselF : selectMethod e.platform s.vm P1.m.cls T.fill = .method T.fill := by
    obtain ⟨c2, r2, m2, q1, q2, q3, q4, -⟩ := Cond.selects_spec (a' (.selects NSE Bundle.tFill Bundle.tFill) (by simp [xAt]))
    cases Option.some.inj (q1.symm.trans hfound)
    cases Option.some.inj (q2.symm.trans (State.methodFound?_of_named Y.fill (by decide)))
    cases Option.some.inj (q3.symm.trans Y.fill)
    rw [Launch.admits_selectMethod X.admits]; exact q4
  obtain ⟨cellS0, hcS0, hiss⟩ := Y.statics
  obtain ⟨u0, hu0⟩ := Cond.staticRefV Y.unassigned L.unassignedStatic L.statics hcS0 hiss (a' (.isRef (.static Bundle.tN "UNASSIGNED_STACK" Bundle.steD)) (by simp [xAt]))
  obtain ⟨sen, hsen⟩ := Cond.staticRefV Y.sentinel L.sentinelStatic L.statics hcS0 hiss (a' (.isRef (.static Bundle.tN "SUPPRESSED_SENTINEL" Bundle.listD)) (by simp [xAt]))
  obtain ⟨ci198, i198, fB, hk198, hg198, ha198, hsB, -, hnB, htB, hffB⟩ := Cond.ownField (t := .object "java/lang/Object") Y.found L.cls (by decide +kernel) (a' (.fieldLink Bundle.tN 198 Bundle.tN "backtrace" "Ljava/lang/Object;") (by simp [xAt])) (a' (.lays Bundle.tN Bundle.tN "backtrace" "Ljava/lang/Object;") (by simp [xAt])) e.platform hpl
  obtain ⟨cellS, hcS', heS, -, hkeep⟩ := X.same.2.2.2.2.2 T.aS cellS0 hcS0
  have hcellS : W.heap[T.aS]? = some cellS := hcS'
  have hout' : ∀ i, (⟨T.aS, i⟩ : Loc) ∉ locs := fun i hmem => by
    have := hlocs _ hmem cellS0 hcS0
    rw [hiss] at this; cases this
  have hknownS : cellS.vm ≠ .unknown := by
    rw [heS]; intro hu
    rw [show cellS0.vm = .unknown from hu] at hiss
    cases hiss
  have hneS : T.aS ≠ a := Nat.ne_of_lt (Nat.lt_of_lt_of_le (Array.getElem?_eq_some_iff.mp hcS0).1 hnew)
  obtain ⟨iM, hffM⟩ := Y.msg
  obtain ⟨tyC, dC, hdC, hdnC⟩ := Cond.laysAt hfound hk Y.cause (a' (.lays NSE Bundle.tN "cause" "Ljava/lang/Throwable;") (by simp [xAt]))
  obtain ⟨tyS, dS, hdS, hdnS⟩ := Cond.laysAt hfound hk Y.stack (a' (.lays NSE Bundle.tN "stackTrace" Bundle.steD) (by simp [xAt]))
  obtain ⟨tyP, dP, hdP, hdnP⟩ := Cond.laysAt hfound hk Y.supp (a' (.lays NSE Bundle.tN "suppressedExceptions" Bundle.listD) (by simp [xAt]))
  obtain ⟨tyM, dM, hdM, hdnM⟩ := Cond.laysAt hfound hk hffM (a' (.lays NSE Bundle.tN "detailMessage" "Ljava/lang/String;") (by simp [xAt]))
  obtain ⟨tyB, dB, hdB, hdnB⟩ := Cond.laysAt hfound hk hffB (a' (.lays NSE Bundle.tN "backtrace" "Ljava/lang/Object;") (by simp [xAt]))
  have bC := Cond.laysApart hdB hdC hdnB hdnC (by rw [hnB, Y.causeName]; decide)
  have bS := Cond.laysApart hdB hdS hdnB hdnS (by rw [hnB, Y.stackName]; decide)
  have bP := Cond.laysApart hdB hdP hdnB hdnP (by rw [hnB, Y.suppName]; decide)
  have hskip : SkipFacts T e.platform s (fun u => u) u0 ((preparedCellV T.toThrowableT (freshCell P1.m.cls kX) a u0 sen).withEntry W.cur) :=
    ⟨{ ci198 := ci198, i198 := i198, fBack := fB }, ⟨hk198, hg198, ha198, hsB⟩, by
      have := fresh_default (c := P1.m.cls) tyB
      rw [htB] at this
      simpa [preparedCellV, Cell.setSlot, Cell.withEntry, Array.getElem?_setIfInBounds, bC, bS, bP, bC.symm, bS.symm, bP.symm, defaultValue] using this, fun _ _ => rfl⟩
  obtain ⟨tm, methC, cdC, kC, vm₁, hnC, -, -, -, -, -, -, -, hW₁, st1⟩ := Steps.initColdS (tb := p.tables) (e := e) (below := below) (s := s) (U := W) X.here hexec X.warmed hpl hown (t := Bundle.initS NSE) rfl rfl (by decide +kernel)
    (a' (.methodLink own ic (Bundle.initS NSE)) (by simp [xAt])) (h (.instanceMethod (Bundle.initS NSE)) (by simp [xAt, Bundle.passSAtoms])) (bytes := b13) (maxL := 2) (h (.code (Bundle.initS NSE) b13 2 none) (by simp [xAt, Bundle.passSAtoms]))
    (f := g) hg (a := a) (msg := msg) (rest := .ref a :: rest) hstack hd6
  cases Option.some.inj (hnC.symm.trans hP1m)
  have X₁ := X.noted hW₁
  obtain ⟨vm₂, X₂, st2⟩ := X₁.ctorMessageOffV hexec (g := { g with stack := .ref a :: rest }) hg hsize T L Z LZ M LM (P1 :: P2 :: Ps)
    (fun P hP => by
      rcases List.mem_cons.mp hP with rfl | hP
      · exact L1
      · rcases List.mem_cons.mp hP with rfl | hP
        · exact L2
        · exact hL P hP) ⟨hlink1, hlink2, hlink⟩ (u0 := u0) (sen := sen) (self := a) hmsg (cell := freshCell P1.m.cls kX) (cellS := cellS)
    hcell (fun _ => by simp) (by simp) rfl rfl hsel0 hselF hcellS hneS hknownS (by rw [hkeep _ (hout' _)]; exact hu0) (by rw [hkeep _ (hout' _)]; exact hsen)
    (Takes.of_laid hk hord tyC (by rw [Y.causeType]; rfl)) (Takes.of_laid hk hord tyS (by rw [Y.stackType]; exact fits_refV_array _ u0)) (Takes.of_laid hk hord tyP (by rw [Y.suppType]; exact fits_refV_object _ sen))
    (Takes.of_laid hk hord tyM (by rw [Y.msgType]; exact fits_refV_object _ ⟨msg, hmsg⟩)) Y.objLocals hskip htr [] hd6
    (by simp only [List.length_cons, hlen, List.length_nil]; omega) (by simp only [List.length_cons, hlen, List.length_nil]; exact hRlocals)
  obtain ⟨hwalk, hrun, hended, hWU, hsame⟩ := X₂.athrowLeaves hexec (g := { g with stack := .ref a :: rest, pc := g.pc + 3 }) hg hlocked hentered hout (a := a) (rest := rest) rfl hd9
  have hlt : a < ((W.setVm vm₁).setVm vm₂).heap.size := (Array.getElem?_eq_some_iff.mp hcell).1
  have hU := heapAt_setCell_self (s := (W.setVm vm₁).setVm vm₂) (plainBareV T.toThrowableT (freshCell P1.m.cls kX) a u0 sen msg) hlt
  refine ⟨_, st1 _ (fun acts => ?_), hrun, hended, hWU, hsame.weaken (fun y hy hlt' => ?_) (Nat.le_refl _) (Nat.le_refl _), _, hU, rfl, hfound⟩
  · rw [doInvoke_state]
    exact st2 _ hwalk
  · rcases List.mem_append.mp hy with h1 | h1
    · exact h1
    · exfalso
      have hb : y.base = a := by
        simp only [List.mem_cons, List.not_mem_nil, or_false] at h1
        rcases h1 with rfl | rfl | rfl | rfl | rfl <;> rfl
      rw [hb] at hlt'
      exact Nat.not_lt.mpr hnew hlt'
end
section
variable {p : Program} {l : Launch} {e : Env} {R : Room} {s : State} {m : MethodId} {args : Array Value} {below : List Frame} {meth : Method} {c : Code} {H : Heap} {locs : List Loc} {cells slots : Nat}
variable {Qc : Array Value → State → Outcome → State → Prop} {XC : String → State → State → Prop} {free : Addr → Prop} {ls : Array Slot} {rest : List Value}
theorem xv_throwS {cc : ByteArray} {pc : Nat} (hexec : p.tables.exec = Jvm.exec) (hb : c.code = cc) (hl : l.stackTraces = false) {own text : String} {ik is ic mc ms sa : Nat} {A : Nat → Prop}
    (hown : s.vm.findClass own = some m.cls) 
    (hk : (Cond.classLink own ik NSE).before args s = true) (hini : (Cond.initialized NSE).before args s = true) (hstr : vk_R own is text sa s) (hat : ∀ w ∈ xAtS own ic, w.before args s = true)
    (hgood : ∀ w ∈ Cond.classLink own ik NSE :: Cond.initialized NSE :: xAtS own ic, vx_ot w = true)
    (hU : vx_Zq Bundle.tN "UNASSIGNED_STACK" Bundle.steD A s s.heap) (hN : vx_Zq Bundle.tN "SUPPRESSED_SENTINEL" Bundle.listD A s s.heap) (hS : va_S A s.heap H locs) (hsize : ls.size = c.maxLocals)
    (d0 : decode cc pc = .ok (.new ik, 3)) (d3 : decode cc (pc + 3) = .ok (.dup, 1)) (d4 : decode cc (pc + 4) = .ok (.ldc is, 2)) (d6 : decode cc (pc + 6) = .ok (.invokespecial ic, 3)) (d9 : decode cc (pc + 9) = .ok (.athrow, 1))
    (hout : ∀ x ∈ c.exceptionTable.toList, covers x (pc + 9) = false)
    (hRframes : 2 + 3 < R.frames) (hRlocals : (rest.map fun v => v.category).sum + (13 * (2 + 1) + 43) ≤ R.locals) (hRcells : cells + 1 ≤ R.cells) (hRslots : slots + 6 ≤ R.slots) (hlocks : meth.locks = false)
    (hx : ∀ t : State, s.vm.Alike t.vm → H.size ≤ t.heap.size → (∀ q : Nat, q < H.size → t.heap[q]? = H[q]?) → XC NSE s t)
    (hf : ∀ z ∈ locs, free z.base) (hc : cells + 1 ≤ mc) (hs : slots + 6 ≤ ms) :
    W p l e R s m args below meth c H locs cells slots (vx_MQ below Qc XC args s mc ms free) (F0 m pc ls rest) := by
  intro T hT X
  have htr : e.platform.stackTraces = false := (show e.platform.stackTraces = l.stackTraces by rw [X.admits.platform]).trans hl
  have Y := vx_rebase X (R' := { frames := R.frames, locals := R.locals, cells := 1, slots := 6 }) (Nat.le_refl _) (Nat.le_refl _) hRcells hRslots
  obtain ⟨s', hA⟩ : ∃ z, z = (T.setVm s.vm).setFrames (.invoking m args :: below) := ⟨_, rfl⟩
  rw [← hA] at Y
  have hvm : s'.vm = s.vm := by rw [hA]; rfl
  have hhp : s'.heap = H := by rw [hA]; exact hT
  have hW0 : s.WarmedH s'.vm := by rw [hvm]; exact State.WarmedH.refl s
  have hat' : ∀ w ∈ xAtS own ic, w.before args s' = true := fun w hw => vx_ot_at hW0 hvm.symm (hgood w (List.mem_cons_of_mem _ (List.mem_cons_of_mem _ hw))) (hat w hw)
  have hk' : (Cond.classLink own ik NSE).before args s' = true := vx_ot_at hW0 hvm.symm (hgood _ List.mem_cons_self) hk
  have hini' : (Cond.initialized NSE).before args s' = true := vx_ot_at hW0 hvm.symm (hgood _ (List.mem_cons_of_mem _ List.mem_cons_self)) hini
  have hU' : vx_Zq Bundle.tN "UNASSIGNED_STACK" Bundle.steD A s' s'.heap := by rw [hhp]; exact vx_Zq.moved hW0.alike (hU.kept hS.2.1)
  have hN' : vx_Zq Bundle.tN "SUPPRESSED_SENTINEL" Bundle.listD A s' s'.heap := by rw [hhp]; exact vx_Zq.moved hW0.alike (hN.kept hS.2.1)
  have h : ∀ w ∈ xAt own ic, w.before args s' = true := vx_own hat' (vx_isRefq hU'.1) (vx_isRefq hN'.1) hU'.2.word hN'.2.word
  have hown' : s'.vm.findClass own = some m.cls := by rw [hvm]; exact hown
  have hins : (Cond.instantiable NSE 6).before args s' = true := h _ (by simp [xAt])
  obtain ⟨vm₁, cX, kX, hfX, hkX, -, -, X₁, st1⟩ := Y.newCold hexec (own := own) (C := NSE) (index := ik) (n := 6) hown' hk' hins hini'
    (g := F0 m pc ls rest) rfl (by rw [hb]; exact d0) (Nat.le_refl _) (Nat.le_refl _)
  generalize hT1 : (T.setVm vm₁).pushCell { cls := cX, slots := kX.instanceTypes.map defaultValue, vm := .none } = T1 at X₁ st1
  have hcat : (Value.ref T.heap.size).category = 1 := rfl
  have hcellA : T1.heap[T.heap.size]? = some (freshCell cX kX) := by rw [← hT1]; exact State.heap_pushCell_size _ _
  have d3' : decode c.code (pc + 3) = .ok (.dup, 1) := by rw [hb]; exact d3
  have d4' : decode c.code (pc + 4) = .ok (.ldc is, 2) := by rw [hb]; exact d4
  have hstr' : vk_R own is text sa s' := vk_R.warm hW0 hstr
  obtain ⟨U, hsteps, hrun, hend, hW, hsame, ce, hce, hO1, hO2⟩ := xc_ctor X₁ hexec htr (own := own) (ic := ic) hown' h (fun x hx => nomatch hx) hfX hkX hcellA (by rw [hhp, hT]; exact Nat.le_refl _) (msg := .ref sa) rfl
    (g := { method := m, pc := pc + 6, locals := ls, stack := .ref sa :: .ref T.heap.size :: .ref T.heap.size :: rest, locked := none }) rfl hsize rfl rfl (rest := rest) rfl
    (by rw [hb]; exact d6) (by rw [hb]; exact d9) hout hRframes (by simp only [List.map_cons, List.sum_cons, hcat]; omega) hlocks
  obtain ⟨f1, f2⟩ := vx_frame hsame
  rw [hhp] at f1 f2
  have hWs : s.WarmedH U.vm := State.WarmedH.trans hW0 hW
  have hcl : s.vm.findClass NSE = some ce.cls := by
    have h9 := hO2
    rw [hvm] at h9
    exact h9
  have hall : s.sameButNew ({ U with vm := s.vm } : State) locs mc ms := by
    subst hA
    obtain ⟨e1, e2⟩ := hsame
    rw [State.setFrames_setFrames] at e1
    have h2 : (T.setVm s.vm).sameButNew ({ U with vm := s.vm } : State) [] (0 + 1) (0 + 6) := ⟨e1, e2⟩
    have h3 := X.same.trans h2
    rw [List.append_nil] at h3
    exact h3.mono hc hs
  refine ⟨U, ?_, .threw T.heap.size, hrun, hend, Or.inr ⟨T.heap.size, rfl, NSE, ce, locs, hx U hWs.alike f1 (fun q hq => f2 q hq (fun z hz => nomatch hz)), hce, hO1, hcl, hWs, hall, hf⟩⟩
  refine st1 _ ?_
  show Steps p.tables e below (T1.setTop { method := m, pc := pc + 3, locals := ls, stack := .ref T.heap.size :: rest, locked := none }) _
  jvm_step X₁.here [X₁.here.top, hexec, d3', Value.category]
  exact X₁.ldcString hexec (own := own) (text := text) (index := is) (a := sa) hown' hstr'.1 hstr'.2
    (g := { method := m, pc := pc + 4, locals := ls, stack := .ref T.heap.size :: .ref T.heap.size :: rest, locked := none }) rfl d4' _ hsteps
theorem xv_throwSW {cc : ByteArray} {pc : Nat} (hexec : p.tables.exec = Jvm.exec) (hb : c.code = cc) (hl : l.stackTraces = false) {own text : String} {ik is ic mc ms sa : Nat} {A : Nat → Prop}
    (hown : s.vm.findClass own = some m.cls) 
    (hk : (Cond.classLink own ik NSE).before args s = true) (hini : (Cond.initialized NSE).before args s = true) (hstr : vk_R own is text sa s) (hat : ∀ w ∈ xAtS own ic, w.before args s = true)
    (hgood : ∀ w ∈ Cond.classLink own ik NSE :: Cond.initialized NSE :: xAtS own ic, vx_ot w = true)
    (hU : vx_Zq Bundle.tN "UNASSIGNED_STACK" Bundle.steD A s s.heap) (hN : vx_Zq Bundle.tN "SUPPRESSED_SENTINEL" Bundle.listD A s s.heap) (hS : va_S A s.heap H locs) (hsize : ls.size = c.maxLocals)
    (d0 : decode cc pc = .ok (.new ik, 3)) (d3 : decode cc (pc + 3) = .ok (.dup, 1)) (d4 : decode cc (pc + 4) = .ok (.ldc_w is, 3)) (d7 : decode cc (pc + 7) = .ok (.invokespecial ic, 3)) (d10 : decode cc (pc + 10) = .ok (.athrow, 1))
    (hout : ∀ x ∈ c.exceptionTable.toList, covers x (pc + 10) = false)
    (hRframes : 2 + 3 < R.frames) (hRlocals : (rest.map fun v => v.category).sum + (13 * (2 + 1) + 43) ≤ R.locals) (hRcells : cells + 1 ≤ R.cells) (hRslots : slots + 6 ≤ R.slots) (hlocks : meth.locks = false)
    (hx : ∀ t : State, s.vm.Alike t.vm → H.size ≤ t.heap.size → (∀ q : Nat, q < H.size → t.heap[q]? = H[q]?) → XC NSE s t)
    (hf : ∀ z ∈ locs, free z.base) (hc : cells + 1 ≤ mc) (hs : slots + 6 ≤ ms) :
    W p l e R s m args below meth c H locs cells slots (vx_MQ below Qc XC args s mc ms free) (F0 m pc ls rest) := by
  intro T hT X
  have htr : e.platform.stackTraces = false := (show e.platform.stackTraces = l.stackTraces by rw [X.admits.platform]).trans hl
  have Y := vx_rebase X (R' := { frames := R.frames, locals := R.locals, cells := 1, slots := 6 }) (Nat.le_refl _) (Nat.le_refl _) hRcells hRslots
  obtain ⟨s', hA⟩ : ∃ z, z = (T.setVm s.vm).setFrames (.invoking m args :: below) := ⟨_, rfl⟩
  rw [← hA] at Y
  have hvm : s'.vm = s.vm := by rw [hA]; rfl
  have hhp : s'.heap = H := by rw [hA]; exact hT
  have hW0 : s.WarmedH s'.vm := by rw [hvm]; exact State.WarmedH.refl s
  have hat' : ∀ w ∈ xAtS own ic, w.before args s' = true := fun w hw => vx_ot_at hW0 hvm.symm (hgood w (List.mem_cons_of_mem _ (List.mem_cons_of_mem _ hw))) (hat w hw)
  have hk' : (Cond.classLink own ik NSE).before args s' = true := vx_ot_at hW0 hvm.symm (hgood _ List.mem_cons_self) hk
  have hini' : (Cond.initialized NSE).before args s' = true := vx_ot_at hW0 hvm.symm (hgood _ (List.mem_cons_of_mem _ List.mem_cons_self)) hini
  have hU' : vx_Zq Bundle.tN "UNASSIGNED_STACK" Bundle.steD A s' s'.heap := by rw [hhp]; exact vx_Zq.moved hW0.alike (hU.kept hS.2.1)
  have hN' : vx_Zq Bundle.tN "SUPPRESSED_SENTINEL" Bundle.listD A s' s'.heap := by rw [hhp]; exact vx_Zq.moved hW0.alike (hN.kept hS.2.1)
  have h : ∀ w ∈ xAt own ic, w.before args s' = true := vx_own hat' (vx_isRefq hU'.1) (vx_isRefq hN'.1) hU'.2.word hN'.2.word
  have hown' : s'.vm.findClass own = some m.cls := by rw [hvm]; exact hown
  have hins : (Cond.instantiable NSE 6).before args s' = true := h _ (by simp [xAt])
  obtain ⟨vm₁, cX, kX, hfX, hkX, -, -, X₁, st1⟩ := Y.newCold hexec (own := own) (C := NSE) (index := ik) (n := 6) hown' hk' hins hini'
    (g := F0 m pc ls rest) rfl (by rw [hb]; exact d0) (Nat.le_refl _) (Nat.le_refl _)
  generalize hT1 : (T.setVm vm₁).pushCell { cls := cX, slots := kX.instanceTypes.map defaultValue, vm := .none } = T1 at X₁ st1
  have hcat : (Value.ref T.heap.size).category = 1 := rfl
  have hcellA : T1.heap[T.heap.size]? = some (freshCell cX kX) := by rw [← hT1]; exact State.heap_pushCell_size _ _
  have d3' : decode c.code (pc + 3) = .ok (.dup, 1) := by rw [hb]; exact d3
  have d4' : decode c.code (pc + 4) = .ok (.ldc_w is, 3) := by rw [hb]; exact d4
  have hstr' : vk_R own is text sa s' := vk_R.warm hW0 hstr
  obtain ⟨U, hsteps, hrun, hend, hW, hsame, ce, hce, hO1, hO2⟩ := xc_ctor X₁ hexec htr (own := own) (ic := ic) hown' h (fun x hx => nomatch hx) hfX hkX hcellA (by rw [hhp, hT]; exact Nat.le_refl _) (msg := .ref sa) rfl
    (g := { method := m, pc := pc + 7, locals := ls, stack := .ref sa :: .ref T.heap.size :: .ref T.heap.size :: rest, locked := none }) rfl hsize rfl rfl (rest := rest) rfl
    (by rw [hb]; exact d7) (by rw [hb]; exact d10) hout hRframes (by simp only [List.map_cons, List.sum_cons, hcat]; omega) hlocks
  obtain ⟨f1, f2⟩ := vx_frame hsame
  rw [hhp] at f1 f2
  have hWs : s.WarmedH U.vm := State.WarmedH.trans hW0 hW
  have hcl : s.vm.findClass NSE = some ce.cls := by
    have h9 := hO2
    rw [hvm] at h9
    exact h9
  have hall : s.sameButNew ({ U with vm := s.vm } : State) locs mc ms := by
    subst hA
    obtain ⟨e1, e2⟩ := hsame
    rw [State.setFrames_setFrames] at e1
    have h2 : (T.setVm s.vm).sameButNew ({ U with vm := s.vm } : State) [] (0 + 1) (0 + 6) := ⟨e1, e2⟩
    have h3 := X.same.trans h2
    rw [List.append_nil] at h3
    exact h3.mono hc hs
  refine ⟨U, ?_, .threw T.heap.size, hrun, hend, Or.inr ⟨T.heap.size, rfl, NSE, ce, locs, hx U hWs.alike f1 (fun q hq => f2 q hq (fun z hz => nomatch hz)), hce, hO1, hcl, hWs, hall, hf⟩⟩
  refine st1 _ ?_
  show Steps p.tables e below (T1.setTop { method := m, pc := pc + 3, locals := ls, stack := .ref T.heap.size :: rest, locked := none }) _
  jvm_step X₁.here [X₁.here.top, hexec, d3', Value.category]
  exact X₁.ldcStringW hexec (own := own) (text := text) (index := is) (a := sa) hown' hstr'.1 hstr'.2
    (g := { method := m, pc := pc + 4, locals := ls, stack := .ref T.heap.size :: .ref T.heap.size :: rest, locked := none }) rfl d4' _ hsteps
end
/-- what a throw of NoSuchElementException needs of the tables and of old cells -/
def xFacts (G : MG) (own : String) (ic : Nat) : Prop := G.l.stackTraces = false ∧ ∀ U, G.X U → vx_Zq Bundle.tN "UNASSIGNED_STACK" Bundle.steD (gA G) U U.heap ∧ vx_Zq Bundle.tN "SUPPRESSED_SENTINEL" Bundle.listD (gA G) U U.heap ∧ ∀ w ∈ (xAtS own ic).filter (fun w => !goodWord w), va_Nw w U
def xOK (own : String) (ik ic : Nat) : Prop := Cond.classLink own ik NSE ∈ lw_good ∧ Cond.initialized NSE ∈ lw_good ∧ (∀ w ∈ (xAtS own ic).filter goodWord, w ∈ lw_good) ∧ ∀ w ∈ Cond.classLink own ik NSE :: Cond.initialized NSE :: xAtS own ic, vx_ot w = true
theorem Rl.more {G : MG} {M : Mm} {H H' : Heap} (h : Rl G M H) (hn : M.2.2.2 = NC) (hz : H.size ≤ H'.size) (hq : ∀ q : Nat, q < H.size → H'[q]? = H[q]?) : Rl G M H' := by
  refine ⟨h.1.kept (fun k q hk => hq _ ((h.1 k q hk).lt)), h.2.1, fun hl => absurd hl (by omega), Nat.le_trans h.2.2.2 hz⟩
section
variable {G : MG} {Y Z : MY} {d : Nat} {Q : Option Value → Mm → Prop} {ce sl pc : Nat} {lv : List (Nat × Value)} {st : List Value} {M : Mm}
theorem xhat {own : String} {ik ic : Nat} {args : Array Value} {s : State} (hK : G.X s) (hts : ∀ w ∈ wsT, w.before args s = true) (hF : xFacts G own ic) (hw : xOK own ik ic) : ∀ w ∈ xAtS own ic, w.before args s = true := by
  intro w hm
  by_cases hg : goodWord w = true
  · exact hts _ (List.mem_cons_of_mem _ (hw.2.2.1 w (List.mem_filter.mpr ⟨hm, hg⟩)))
  · have h1 := (hF.2 s hK).2.2 w (List.mem_filter.mpr ⟨hm, by simp only [Bool.not_eq_true] at hg; rw [hg]; rfl⟩)
    have h2 := hw.2.2.2 w (List.mem_cons_of_mem _ (List.mem_cons_of_mem _ hm))
    unfold vx_ot at h2
    simp only [Bool.not_eq_true] at hg
    rw [hg, Bool.or_false] at h2
    exact va_Nw.use h2 h1
theorem tw_throwS {c ik ic i j : Nat} {tx : String} (hL : Lay c M) (hF : xFacts G Y.y.cls ic) (hw : xOK Y.y.cls ik ic) (hX : ∀ U, G.X U → vk_R Y.y.cls i tx (G.ad j) U) (hh : Y.hh = []) (hdp : 6 ≤ d) (hst : (st.map fun v => v.category).sum ≤ 8) (hz : ce + 1 ≤ Y.mc ∧ sl + 6 ≤ Y.ms)
    (d0 : decode Y.cc pc = .ok (.new ik, 3)) (d3 : decode Y.cc (pc + 3) = .ok (.dup, 1)) (d4 : decode Y.cc (pc + 4) = .ok (.ldc i, 2)) (d6 : decode Y.cc (pc + 6) = .ok (.invokespecial ic, 3)) (d9 : decode Y.cc (pc + 9) = .ok (.athrow, 1)) (h : Q rX M) : T G Y d Q ce sl pc lv st M := by
  intro p e s m args below meth cd H locs ls X hR hS hl
  obtain ⟨hx, hb, -, hlk, hml, hown, hts, hK, -, -, htab⟩ := id X
  refine xv_throwS (A := gA G) hx hb hF.1 hown (hts _ (List.mem_cons_of_mem _ hw.1)) (hts _ (List.mem_cons_of_mem _ hw.2.1)) (hX s hK.2.1) (xhat hK.2.1 hts hF hw) hw.2.2.2 (hF.2 s hK.2.1).1 (hF.2 s hK.2.1).2.1 hS (hl.1.trans hml.symm) d0 d3 d4 d6 d9 ?_ (show 2 + 3 < d by omega) (show _ ≤ 40 * d by (show _ + (13 * (2 + 1) + 43) ≤ 40 * d); omega) hz.1 hz.2 hlk ?_ hS.2.2 hz.1 hz.2
  · intro x hx
    rw [htab, hh] at hx
    cases hx
  · intro t hvm hsz hq
    exact ⟨rfl, M, h, hR.more (by have h1 : M.2.2 = (RF c, NC) := hL; rw [h1]) hsz hq, ⟨Nat.le_trans hS.1 hsz, fun q h1 h2 => (hq q (Nat.lt_of_lt_of_le h1 hS.1)).trans (hS.2.1 q h1 h2)⟩⟩
theorem tw_throwSW {c ik ic i j : Nat} {tx : String} (hL : Lay c M) (hF : xFacts G Y.y.cls ic) (hw : xOK Y.y.cls ik ic) (hX : ∀ U, G.X U → vk_R Y.y.cls i tx (G.ad j) U) (hh : Y.hh = []) (hdp : 6 ≤ d) (hst : (st.map fun v => v.category).sum ≤ 8) (hz : ce + 1 ≤ Y.mc ∧ sl + 6 ≤ Y.ms)
    (d0 : decode Y.cc pc = .ok (.new ik, 3)) (d3 : decode Y.cc (pc + 3) = .ok (.dup, 1)) (d4 : decode Y.cc (pc + 4) = .ok (.ldc_w i, 3)) (d7 : decode Y.cc (pc + 7) = .ok (.invokespecial ic, 3)) (d10 : decode Y.cc (pc + 10) = .ok (.athrow, 1)) (h : Q rX M) : T G Y d Q ce sl pc lv st M := by
  intro p e s m args below meth cd H locs ls X hR hS hl
  obtain ⟨hx, hb, -, hlk, hml, hown, hts, hK, -, -, htab⟩ := id X
  refine xv_throwSW (A := gA G) hx hb hF.1 hown (hts _ (List.mem_cons_of_mem _ hw.1)) (hts _ (List.mem_cons_of_mem _ hw.2.1)) (hX s hK.2.1) (xhat hK.2.1 hts hF hw) hw.2.2.2 (hF.2 s hK.2.1).1 (hF.2 s hK.2.1).2.1 hS (hl.1.trans hml.symm) d0 d3 d4 d7 d10 ?_ (show 2 + 3 < d by omega) (show _ ≤ 40 * d by (show _ + (13 * (2 + 1) + 43) ≤ 40 * d); omega) hz.1 hz.2 hlk ?_ hS.2.2 hz.1 hz.2
  · intro x hx
    rw [htab, hh] at hx
    cases hx
  · intro t hvm hsz hq
    exact ⟨rfl, M, h, hR.more (by have h1 : M.2.2 = (RF c, NC) := hL; rw [h1]) hsz hq, ⟨Nat.le_trans hS.1 hsz, fun q h1 h2 => (hq q (Nat.lt_of_lt_of_le h1 hS.1)).trans (hS.2.1 q h1 h2)⟩⟩
theorem runX {p : Program} {e : Env} {R : Room} {s : State} {m : MethodId} {args : Array Value} {below : List Frame} {meth : Method} {c : Code} {H : Heap} {locs : List Loc} {mc ms : Nat} {Qf : State → Prop} {ls : Array Slot} {st0 : List Value} {a : Array Value} {Q' : Option Value → Mm → Prop}
    (hr : vx_Run p G.l e R s m args below meth c H locs ce sl mc ms (F0 m pc ls st0) st (QcG G Q' a) (XcG G Q') (gA G)) (hS : va_S (gA G) s.heap H locs)
    (kk : ∀ (r : Option Value) (M' : Mm) (H' : Heap) (locs' : List Loc), r ≠ rX → Q' r M' → Rl G M' H' → va_S (gA G) s.heap H' locs' → W p G.l e R s m args below meth c H' locs' (ce + mc) (sl + ms) Qf (F0 m (pc + 3) ls (r.toList ++ st)))
    (kx : ∀ (q : Addr) (cl : Cell) (M' : Mm) (H' : Heap) (locs' : List Loc), Q' rX M' → Rl G M' H' → va_S (gA G) s.heap H' locs' → H'[q]? = some cl → cl.vm = .none → s.vm.findClass NSE = some cl.cls → vx_W p G.l e R s m args below meth c H' locs' (ce + mc) (sl + ms) Qf (F0 m pc ls st) q) : W p G.l e R s m args below meth c H locs ce sl Qf (F0 m pc ls st0) := by
  intro T hT X
  have fr : ∀ (st₀ t T' : State) (L : List Loc), st₀.heap = H → T'.heap = t.heap → (∀ q ∈ L, gA G q.base) → va_F (gA G) st₀ t → va_S (gA G) s.heap T'.heap (locs ++ L) := by
    intro st₀ t T' L h0 e1 hL hF
    exact ⟨Nat.le_trans hS.1 (by rw [e1, ← h0]; exact hF.1), fun q h1 h2 => by rw [e1, hF.2 q (by rw [h0]; exact Nat.lt_of_lt_of_le h1 hS.1) h2, h0]; exact hS.2.1 q h1 h2, fun q hq => by
      rcases List.mem_append.mp hq with h | h
      · exact hS.2.2 q h
      · exact hL q h⟩
  rcases hr T hT X with ⟨v, st₀, t, T', L, h0, X', hL, e1, e2, ⟨r, M', hv, hne, hq, hR', hF⟩, stp⟩ | ⟨q, st₀, t, T', L, E, cl, h0, X', hL, e1, e2, ⟨rfl, M', hq, hR', hF⟩, g1, g2, g3, stp⟩
  · cases hv
    obtain ⟨t2, a1, b1⟩ := kk v M' T'.heap (locs ++ L) hne hq (by rw [e1]; exact hR') (fr st₀ t T' L h0 e1 hL hF) T' rfl X'
    exact ⟨t2, stp t2 a1, b1⟩
  · obtain ⟨t2, a1, b1⟩ := kx q cl M' T'.heap (locs ++ L) hq (by rw [e1]; exact hR') (fr st₀ t T' L h0 e1 hL hF) (by rw [e1]; exact g1) g2 g3 T' rfl X'
    exact ⟨t2, stp.trans a1, b1⟩
def cxOK (own : String) (idx ci n : Nat) (Z : MY) : Prop := ∃ (C : String) (Tb : u_T) (N : Nat), cls[ci]? = some (C, Tb, N) ∧ Z.y.cls = C ∧ (Cond.methodLink own idx Z.y ∈ lw_good ∧ Cond.instanceMethod Z.y ∈ lw_good ∧ Cond.selects C Z.y Z.y ∈ lw_good ∧ Cond.initialized C ∈ lw_good ∧ Cond.code Z.y Z.cc Z.nL Z.rt ∈ lw_good) ∧ (C ≠ "java/lang/invoke/MethodHandle" ∧ C ≠ "java/lang/invoke/VarHandle") ∧ (parseMethodDescriptor Z.y.desc).map (fun d => d.parameters.length) = some n ∧ Z.nL ≤ 21
/-- a call that may throw, in a method whose one handler covers it -/
theorem tw_callX {c idx ci o n a1 a2 hp ht : Nat} {As : List Value} {Q' : Option Value → Mm → Prop} (cw : cxOK Y.y.cls idx ci n Z) (hL : Lay c M) (hs : sh o = some (.inr ci)) (hn : As.length = n) (hst : (st.map fun v => v.category).sum ≤ 8) (hz : ce + Z.mc ≤ Y.mc ∧ sl + Z.ms ≤ Y.ms) (hd : decode Y.cc pc = .ok (.invokevirtual idx, 3)) (hC : CX G Z d (.ref (G.b + o) :: As) M Q')
    (hh : Y.hh = [(a1, a2, hp, ht)]) (hcov : covers ⟨a1, a2, hp, ht⟩ pc = true) (ht0 : ht ≠ 0) (hlk : Cond.classLink Y.y.cls ht NSE ∈ lw_good) (hcast : ∀ U, G.X U → va_Nw (.castable NSE NSE) U)
    (kk : ∀ r M', r ≠ rX → Q' r M' → T G Y (d + 1) Q (ce + Z.mc) (sl + Z.ms) (pc + 3) lv (r.toList ++ st) M') (kx : ∀ M', Q' rX M' → ∀ q, T G Y (d + 1) Q (ce + Z.mc) (sl + Z.ms) hp lv [.ref q] M') : T G Y (d + 1) Q ce sl pc lv (As.reverse ++ .ref (G.b + o) :: st) M := by
  intro p e s m args below meth cd H locs ls X hR hS hl
  obtain ⟨Cn, Tb, N, h1, h2, ⟨w1, w2, w3, w4, w5⟩, h3, h4, h5⟩ := cw
  obtain ⟨d0, hd0, hM⟩ := hC
  obtain ⟨hx, hb, -, -, hml, hown, hts, hK, -, -, htab⟩ := id X
  refine runX (vx_runV (C := Cn) (n := n) (index := idx) (As := As) (rest := st) (bytes := Z.cc) (maxL := Z.nL) (ret := Z.rt) (mc := Z.mc) (ms := Z.ms) ⟨hx, hb, hml, hown, hts⟩ hM (cwV n hts ?_ rfl rfl rfl ⟨h2, by rw [h2]; exact h3.1, by rw [h2]; exact h3.2, h4⟩ ⟨?_, ?_⟩) ⟨blindC _ _, va_recv hK.1 hR.P h1 (by rw [ws_at (hL.lt hs), ent_obj hs]), preC X hR hS _⟩ rfl hn hl.1 rfl ?_ hd hz) hS (fun r M' H' locs' hne hq hR' hS' => kk r M' hne hq p e s m args below meth cd H' locs' ls X hR' hS' hl) (fun q cl M' H' locs' hq hR' hS' g1 g2 g3 => ?_)
  · intro w hw
    unfold wsV at hw
    rcases List.mem_append.mp hw with h | h
    · simp only [List.mem_cons, List.not_mem_nil, or_false] at h
      rcases h with rfl | rfl | rfl | rfl
      · exact gin1 w1
      · exact gin1 w2
      · exact gin1 w3
      · exact gin1 w4
    · exact gin w5 w h
  · show d0 + 1 ≤ d + 1
    omega
  · show 8 + (Z.nL + 11) + 40 * d0 ≤ 40 * (d + 1)
    omega
  · show 2 * 0 + _ ≤ 8
    omega
  · exact vx_catch (own := Y.y.cls) (name := NSE) hown [] ⟨a1, a2, hp, ht⟩ [] (by rw [htab, hh]; rfl) (fun z hz => by cases hz) hcov ht0 (hts _ (List.mem_cons_of_mem _ hlk)) (va_Nw.use rfl (hcast s hK.2.1)) g1 g2 g3 (kx M' hq q p e s m args below meth cd H' locs' ls X hR' hS' hl)
/-- a static method with handlers of its own, that returns -/
abbrev wsH (Y : MY) : List Cond := Cond.codeWith Y.y Y.cc Y.nL Y.rt Y.hh :: lw_good
def CW (G : MG) (Y : MY) (d : Nat) (av : List Value) (M : Mm) (Q : Option Value → Mm → Prop) : Prop :=
  ∃ d0, d0 ≤ d ∧ Met G.l Y.y (wsH Y) (rmD d0 Y.mc Y.ms) (va_Pc av (fun U => Rl G M U.heap ∧ Kn G U)) (QcG G Q) Y.mc Y.ms (gA G)
theorem CW.of {av : List Value} (hy : plainName Y.y.cls = true) (hn : (lg_sl av).length ≤ Y.nL) {lv : List (Nat × Value)} (hlv : lv_args 0 av = lv) (hq : ∀ M, ¬ Q rX M) (h : T G Y d Q 0 0 0 lv [] M) : CW G Y d av M Q := by
  refine ⟨d, Nat.le_refl d, ?_⟩
  have hX : vx_Met G.l Y.y (wsH Y) (rmD d Y.mc Y.ms) (va_Pc av (fun U => Rl G M U.heap ∧ Kn G U)) (QcG G Q) (XcG G Q) Y.mc Y.ms (gA G) := by
    refine vx_ofWH (cc := Y.cc) (maxL := Y.nL) (ret := Y.rt) (hh := Y.hh) hy rfl ?_
    intro p e s m args below meth c s₁ B hml hv
    obtain ⟨rfl, hR, hK⟩ := hv
    have hl := lv_entry av hn
    rw [lg_entry_eq]
    rw [hlv] at hl
    have hts := atoms_spec (ws := wsH Y) B.pre
    exact h p e s m _ below meth c s.heap [] _ ⟨B.exec, B.bytes, B.returns, B.notSynchronized, hml, findClass_of_methodNamed B.named, ht_of hts (fun w hw => List.mem_cons_of_mem _ hw), hK, (name_of_methodNamed B.named B.method).1, hR.2.2.2, vx_table (x := Y.y) B (hts _ List.mem_cons_self)⟩ hR va_S.rf hl
  intro p e ha hc hk s m args below hf happ hP hK
  obtain ⟨n, o, a1, a2, a3, a4⟩ := hX p e ha hc hk s m args below hf happ hP hK
  rcases a4 with a4 | ⟨q, -, E, ce, L, ⟨-, M', hx, -⟩, -⟩
  · exact ⟨n, o, a1, a2, a3, a4⟩
  · exact absurd hx (hq M')
def cwOK (own : String) (idx n : Nat) (Z : MY) : Prop := (Cond.methodLink own idx Z.y ∈ lw_good ∧ Cond.static Z.y ∈ lw_good ∧ Cond.initialized Z.y.cls ∈ lw_good ∧ Cond.codeWith Z.y Z.cc Z.nL Z.rt Z.hh ∈ lw_good) ∧ (Z.y.cls ≠ "java/lang/invoke/MethodHandle" ∧ Z.y.cls ≠ "java/lang/invoke/VarHandle") ∧ (parseMethodDescriptor Z.y.desc).map (fun d => d.parameters.length) = some n ∧ Z.nL ≤ 21
theorem tw_callW {idx n : Nat} {As : List Value} {Q' : Int32 → Mm → Prop} (cw : cwOK Y.y.cls idx n Z) (hn : As.length = n) (hst : (st.map fun v => v.category).sum ≤ 8) (hz : ce + Z.mc ≤ Y.mc ∧ sl + Z.ms ≤ Y.ms) (hd : decode Y.cc pc = .ok (.invokestatic idx, 3)) (hC : CW G Z d As M (Ri Q'))
    (kk : ∀ v M', Q' v M' → T G Y (d + 1) Q (ce + Z.mc) (sl + Z.ms) (pc + 3) lv (.int v :: st) M') : T G Y (d + 1) Q ce sl pc lv (As.reverse ++ st) M := by
  intro p e s m args below meth cd H locs ls X hR hS hl
  obtain ⟨⟨w1, w2, w3, w4⟩, h3, h4, h5⟩ := cw
  obtain ⟨d0, hd0, hM⟩ := hC
  obtain ⟨hx, hb, -, -, hml, hown, hts, hK, -, -, -⟩ := id X
  refine runC (vx_runSW (n := n) (index := idx) (As := As) (rest := st) (bytes := Z.cc) (maxL := Z.nL) (ret := Z.rt) (hh := Z.hh) (mc := Z.mc) (ms := Z.ms) ⟨hx, hb, hml, hown, hts⟩ hM (vx_cwSW n hts ?_ rfl rfl rfl ⟨h3.1, h3.2, h4⟩ ⟨?_, ?_⟩) ⟨blindC _ _, preC X hR hS _⟩ rfl hn hl.1 rfl ?_ hd hz) hS (fun r M' H' locs' hq hR' hS' => ?_)
  · intro w hw
    unfold va_wsS at hw
    rcases List.mem_append.mp hw with h | h
    · simp only [List.mem_cons, List.not_mem_nil, or_false] at h
      rcases h with rfl | rfl | rfl
      · exact gin1 w1
      · exact gin1 w2
      · exact gin1 w3
    · have hm : w ∈ lw_good := by
        rcases List.mem_cons.mp h with rfl | h
        · exact w4
        · exact h
      exact gin1 hm
  · show d0 + 1 ≤ d + 1
    omega
  · show 8 + (Z.nL + 11) + 40 * d0 ≤ 40 * (d + 1)
    omega
  · show 2 * 0 + _ ≤ 8
    omega
  · obtain ⟨v, rfl, hq⟩ := hq
    exact kk v M' hq p e s m args below meth cd H' locs' ls X hR' hS' hl
end
