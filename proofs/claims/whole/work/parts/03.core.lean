/-! ===== memory, worlds, the judgement T (inside a body) and C (a call) ===== -/
/-- memory: ints, longs, references (offsets), how many cells there are -/
abbrev Mm : Type := (Nat → Nat → Int32) × (Nat → Nat → Int64) × (Nat → Nat → Option Nat) × Nat
/-- what is fixed: launch, base address, class numbers and slots, array classes, what else is known of the tables, addresses of constants -/
abbrev MG : Type := Launch × Nat × va_G × (Nat → ClassId) × (State → Prop) × (Nat → Nat)
abbrev MG.l (G : MG) : Launch := G.1
abbrev MG.b (G : MG) : Nat := G.2.1
abbrev MG.D (G : MG) : va_G := G.2.2.1
abbrev MG.dA (G : MG) : Nat → ClassId := G.2.2.2.1
abbrev MG.X (G : MG) : State → Prop := G.2.2.2.2.1
abbrev MG.ad (G : MG) : Nat → Nat := G.2.2.2.2.2
/-- a method: name, code, locals, what it returns, cells and slots that it makes, its handlers -/
abbrev MY : Type := MethodName × ByteArray × Nat × Option FieldType × Nat × Nat × List (Nat × Nat × Nat × Nat)
abbrev MY.y (Y : MY) : MethodName := Y.1
abbrev MY.cc (Y : MY) : ByteArray := Y.2.1
abbrev MY.nL (Y : MY) : Nat := Y.2.2.1
abbrev MY.rt (Y : MY) : Option FieldType := Y.2.2.2.1
abbrev MY.mc (Y : MY) : Nat := Y.2.2.2.2.1
abbrev MY.ms (Y : MY) : Nat := Y.2.2.2.2.2.1
abbrev MY.hh (Y : MY) : List (Nat × Nat × Nat × Nat) := Y.2.2.2.2.2.2
def upR (f : Nat → Option Nat) (k : Nat) (v : Option Nat) : Nat → Option Nat := fun j => if j = k then v else f j
def sI (M : Mm) (o k : Nat) (v : Int32) : Mm := (fun a => if a = o then upd (M.1 o) k v else M.1 a, M.2)
def sJ (M : Mm) (o k : Nat) (v : Int64) : Mm := (M.1, fun a => if a = o then vp_updL (M.2.1 o) k v else M.2.1 a, M.2.2)
def sR (M : Mm) (o k : Nat) (v : Option Nat) : Mm := (M.1, M.2.1, fun a => if a = o then upR (M.2.2.1 o) k v else M.2.2.1 a, M.2.2.2)
/-- one cell more, all its slots at their defaults -/
def sN (M : Mm) : Mm := (fun a => if a = M.2.2.2 then fun _ => 0 else M.1 a, fun a => if a = M.2.2.2 then fun _ => 0 else M.2.1 a, fun a => if a = M.2.2.2 then fun _ => none else M.2.2.1 a, M.2.2.2 + 1)
def fvl (b : Nat) (M : Mm) (o : Nat) (t : FieldType) (j : Nat) : Value := match t with
  | .long => .long (M.2.1 o j)
  | .object _ => va_rf ((M.2.2.1 o j).map (b + ·))
  | .array _ => va_rf ((M.2.2.1 o j).map (b + ·))
  | _ => .int (M.1 o j)
def arw (b : Nat) (M : Mm) (o t : Nat) : (Nat → Int32) ⊕ (Nat → Int64) ⊕ (Nat → UInt32) ⊕ (Nat → UInt64) ⊕ (Nat → Option Nat) := match t with
  | 0 => .inl (M.1 o)
  | 1 => .inr (.inl (M.2.1 o))
  | 2 => .inl (M.1 o)
  | 3 => .inl (M.1 o)
  | _ => .inr (.inr (.inr (.inr (fun i => (M.2.2.1 o i).map (b + ·)))))
def ent (G : MG) (M : Mm) (o : Nat) : va_E := match sh o with
  | some (.inl (t, n)) => .inl (G.dA t, n, arw G.b M o t)
  | some (.inr ci) => .inr (ci, (List.range (nfc ci)).map (fun j => fvl G.b M o (tyc ci j) j))
  | none => .inr (0, [])
def wsOf (G : MG) (M : Mm) : va_W := (List.range M.2.2.2).map (fun o => (G.b + o, ent G M o))
abbrev gA (G : MG) : Nat → Prop := fun q => G.b ≤ q
def gtys (G : MG) : List (ClassId × FieldType) := [(G.dA 0, .int), (G.dA 1, .long), (G.dA 2, .char), (G.dA 3, .boolean), (G.dA 4, .object "CopyArms$Arm"), (G.dA 5, .object "CopyArms$Chart"), (G.dA 6, .object "CopyArms$Setting"), (G.dA 7, .array .int)]
def Rl (G : MG) (M : Mm) (H : Heap) : Prop := va_P G.D cls (wsOf G M) H ∧ M.2.2.2 ≤ NC ∧ (M.2.2.2 < NC → H.size = G.b + M.2.2.2) ∧ G.b ≤ H.size
/-- what the tables and old cells tell, at a state: it stays while nothing below the base changes -/
def Kn (G : MG) (U : State) : Prop := va_K G.D cls (gtys G) U ∧ G.X U ∧ ∀ s U' : State, G.X s → s.WarmedH U'.vm → (∀ q : Nat, q < G.b → U'.heap[q]? = s.heap[q]?) → G.X U'
theorem Kn.step {G : MG} {s U : State} (h : Kn G s) (hW : s.WarmedH U.vm) (hq : ∀ q : Nat, q < G.b → U.heap[q]? = s.heap[q]?) : Kn G U := ⟨va_K.moved hW.alike h.1, h.2.2 s U h.2.1 hW hq, h.2.2⟩
def lw_good : List Cond := lw_tbl.filter goodWord
abbrev wsY (Y : MY) : List Cond := Cond.code Y.y Y.cc Y.nL Y.rt :: lw_good
/-- the words that a body has -/
def wsT : List Cond := Cond.tt :: lw_good
def rmD (d mc ms : Nat) : Room := { frames := d, cells := mc, slots := ms, locals := 40 * d }
def QcG (G : MG) (Q : Option Value → Mm → Prop) : Array Value → State → Outcome → State → Prop := fun _ st oc t => ∃ (r : Option Value) (M' : Mm), oc = .returned r ∧ r ≠ some (.float 0) ∧ Q r M' ∧ Rl G M' t.heap ∧ va_F (gA G) st t
/-- how a throw is told: as if a float had been returned -/
abbrev rX : Option Value := some (.float 0)
def NSE : String := "java/util/NoSuchElementException"
def XcG (G : MG) (Q : Option Value → Mm → Prop) : String → State → State → Prop := fun E st t => E = NSE ∧ ∃ M' : Mm, Q rX M' ∧ Rl G M' t.heap ∧ va_F (gA G) st t
/-- the machine's context in a body -/
def Cx (G : MG) (Y : MY) (p : Program) (s : State) (m : MethodId) (args : Array Value) (meth : Method) (c : Code) : Prop :=
  p.tables.exec = Jvm.exec ∧ c.code = Y.cc ∧ meth.sig.returnType = Y.rt ∧ meth.locks = false ∧ c.maxLocals = Y.nL ∧ s.vm.findClass Y.y.cls = some m.cls ∧ (∀ w ∈ wsT, w.before args s = true) ∧ Kn G s ∧ meth.name = Y.y.name ∧ G.b ≤ s.heap.size ∧ c.exceptionTable.toList = tableOf Y.hh
/-- WITHIN A BODY: at pc, with these locals and stack and this memory, the method comes to its end with Q -/
def T (G : MG) (Y : MY) (d : Nat) (Q : Option Value → Mm → Prop) (ce sl pc : Nat) (lv : List (Nat × Value)) (st : List Value) (M : Mm) : Prop :=
  ∀ (p : Program) (e : Env) (s : State) (m : MethodId) (args : Array Value) (below : List Frame) (meth : Method) (c : Code) (H : Heap) (locs : List Loc) (ls : Array Slot),
    Cx G Y p s m args meth c → Rl G M H → va_S (gA G) s.heap H locs → lv_has ls Y.nL lv →
    W p G.l e (rmD d Y.mc Y.ms) s m args below meth c H locs ce sl (vx_MQ below (QcG G Q) (XcG G Q) args s Y.mc Y.ms (gA G)) (F0 m pc ls st)
/-- A CALL: of depth at most d, on these arguments and this memory, it returns with Q -/
def C (G : MG) (Y : MY) (d : Nat) (av : List Value) (M : Mm) (Q : Option Value → Mm → Prop) : Prop :=
  ∃ d0, d0 ≤ d ∧ Met G.l Y.y (wsY Y) (rmD d0 Y.mc Y.ms) (va_Pc av (fun U => Rl G M U.heap ∧ Kn G U)) (QcG G Q) Y.mc Y.ms (gA G)
abbrev Ri (Q : Int32 → Mm → Prop) : Option Value → Mm → Prop := fun r M => ∃ v : Int32, r = some (.int v) ∧ Q v M
abbrev Rj (Q : Int64 → Mm → Prop) : Option Value → Mm → Prop := fun r M => ∃ v : Int64, r = some (.long v) ∧ Q v M
abbrev Rv (Q : Mm → Prop) : Option Value → Mm → Prop := fun r M => r = none ∧ Q M
theorem C.mono {G : MG} {Y : MY} {d d' : Nat} {av : List Value} {M : Mm} {Q : Option Value → Mm → Prop} (h : C G Y d av M Q) (hd : d ≤ d') : C G Y d' av M Q := by
  obtain ⟨d0, h1, h2⟩ := h
  exact ⟨d0, Nat.le_trans h1 hd, h2⟩
/-- a call that returns or throws NoSuchElementException (told as rX) -/
def CX (G : MG) (Y : MY) (d : Nat) (av : List Value) (M : Mm) (Q : Option Value → Mm → Prop) : Prop :=
  ∃ d0, d0 ≤ d ∧ vx_Met G.l Y.y (wsY Y) (rmD d0 Y.mc Y.ms) (va_Pc av (fun U => Rl G M U.heap ∧ Kn G U)) (QcG G Q) (XcG G Q) Y.mc Y.ms (gA G)
theorem ht_of {ws : List Cond} {args : Array Value} {s : State} (h : ∀ w ∈ ws, w.before args s = true) (hin : ∀ w ∈ lw_good, w ∈ ws) : ∀ w ∈ wsT, w.before args s = true := by
  intro w hw
  rcases List.mem_cons.mp hw with rfl | hw
  · rfl
  · exact h w (hin w hw)
theorem CX.of {G : MG} {Y : MY} {d : Nat} {av : List Value} {M : Mm} {Q : Option Value → Mm → Prop} (hy : plainName Y.y.cls = true) (hn : (lg_sl av).length ≤ Y.nL) {lv : List (Nat × Value)} (hlv : lv_args 0 av = lv) (hh : Y.hh = []) (h : T G Y d Q 0 0 0 lv [] M) : CX G Y d av M Q := by
  refine ⟨d, Nat.le_refl d, ?_⟩
  refine vx_ofW (cc := Y.cc) (maxL := Y.nL) (ret := Y.rt) hy rfl ?_
  intro p e s m args below meth c s₁ B hml hex hv
  obtain ⟨rfl, hR, hK⟩ := hv
  have hl := lv_entry av hn
  rw [lg_entry_eq]
  rw [hlv] at hl
  have hts := atoms_spec (ws := wsY Y) B.pre
  have htab : c.exceptionTable.toList = tableOf Y.hh := by
    rw [hh]
    exact List.eq_nil_iff_forall_not_mem.mpr hex
  exact h p e s m _ below meth c s.heap [] _ ⟨B.exec, B.bytes, B.returns, B.notSynchronized, hml, findClass_of_methodNamed B.named, ht_of hts (fun w hw => List.mem_cons_of_mem _ hw), hK, (name_of_methodNamed B.named B.method).1, hR.2.2.2, htab⟩ hR va_S.rf hl
theorem C.ofX {G : MG} {Y : MY} {d : Nat} {av : List Value} {M : Mm} {Q : Option Value → Mm → Prop} (hq : ∀ M, ¬ Q rX M) (h : CX G Y d av M Q) : C G Y d av M Q := by
  obtain ⟨d0, h1, h2⟩ := h
  refine ⟨d0, h1, ?_⟩
  intro p e ha hc hk s m args below hf happ hP hK
  obtain ⟨n, o, a1, a2, a3, a4⟩ := h2 p e ha hc hk s m args below hf happ hP hK
  rcases a4 with a4 | ⟨q, -, E, ce, L, ⟨-, M', hx, -⟩, -⟩
  · exact ⟨n, o, a1, a2, a3, a4⟩
  · exact absurd hx (hq M')
theorem C.of {G : MG} {Y : MY} {d : Nat} {av : List Value} {M : Mm} {Q : Option Value → Mm → Prop} (hy : plainName Y.y.cls = true) (hn : (lg_sl av).length ≤ Y.nL) {lv : List (Nat × Value)} (hlv : lv_args 0 av = lv) (h : T G Y d Q 0 0 0 lv [] M) (hh : Y.hh = [] := by rfl) (hq : ∀ M, ¬ Q rX M := by (intro M h; first | (obtain ⟨v, h, _⟩ := h; cases h) | (obtain ⟨h, _⟩ := h; cases h))) : C G Y d av M Q := C.ofX hq (CX.of hy hn hlv hh h)
-- worlds
theorem ws_at {G : MG} {M : Mm} {o : Nat} (h : o < M.2.2.2) : (wsOf G M)[o]? = some (G.b + o, ent G M o) := by
  unfold wsOf
  rw [List.getElem?_map, List.getElem?_range h]
  rfl
theorem ws_lt {G : MG} {M : Mm} {k : Nat} {q : Nat × va_E} (h : (wsOf G M)[k]? = some q) : k < M.2.2.2 ∧ q = (G.b + k, ent G M k) := by
  have hl : k < (wsOf G M).length := (List.getElem?_eq_some_iff.mp h).1
  have hk : k < M.2.2.2 := by simpa [wsOf] using hl
  rw [ws_at hk] at h
  exact ⟨hk, (Option.some.inj h).symm⟩
theorem ws_D (G : MG) (M : Mm) : va_D (gA G) (wsOf G M) := by
  refine ⟨fun i j x y hi hj hxy => ?_, fun k q hk => ?_⟩
  · obtain ⟨-, rfl⟩ := ws_lt hi
    obtain ⟨-, rfl⟩ := ws_lt hj
    have : G.b + i = G.b + j := hxy
    omega
  · obtain ⟨-, rfl⟩ := ws_lt hk
    exact Nat.le_add_right _ _
theorem ws_set {G : MG} {M M' : Mm} {o : Nat} {e : va_E} (hn : M'.2.2.2 = M.2.2.2) (he : ent G M' o = e) (ho : ∀ a, a ≠ o → ent G M' a = ent G M a) : (wsOf G M).set o (G.b + o, e) = wsOf G M' := by
  apply List.ext_getElem?
  intro k
  by_cases hk : k < M.2.2.2
  · rw [ws_at (M := M') (by rw [hn]; exact hk)]
    by_cases hko : k = o
    · subst hko
      rw [List.getElem?_set_self (by simpa [wsOf] using hk), he]
    · rw [List.getElem?_set_ne (Ne.symm hko), ws_at hk, ho k hko]
  · have h1 : (wsOf G M').length ≤ k := by simp [wsOf, hn]; omega
    have h2 : ((wsOf G M).set o (G.b + o, e)).length ≤ k := by simp [wsOf]; omega
    rw [List.getElem?_eq_none h1, List.getElem?_eq_none h2]
theorem ent_congr {G : MG} {M M' : Mm} {a : Nat} (h1 : M'.1 a = M.1 a) (h2 : M'.2.1 a = M.2.1 a) (h3 : M'.2.2.1 a = M.2.2.1 a) : ent G M' a = ent G M a := by
  unfold ent
  cases hs : sh a with
  | none => rfl
  | some x =>
    cases x with
    | inl q =>
      obtain ⟨t, n⟩ := q
      simp only [arw, h1, h2, h3]
    | inr ci => simp only [fvl, h1, h2, h3]
theorem rset {α : Type} (f : Nat → α) (n k : Nat) (v : α) : ((List.range n).map f).set k v = (List.range n).map (fun j => if j = k then v else f j) := by
  apply List.ext_getElem?
  intro i
  by_cases h : i = k
  · subst h
    by_cases hi : i < n
    · rw [List.getElem?_set_self (by simpa using hi), List.getElem?_map, List.getElem?_range hi]
      simp
    · rw [List.getElem?_eq_none (by simpa using hi), List.getElem?_eq_none (by simpa using hi)]
  · rw [List.getElem?_set_ne (Ne.symm h), List.getElem?_map, List.getElem?_map]
    by_cases hi : i < n
    · rw [List.getElem?_range hi]
      simp [h]
    · rw [List.getElem?_eq_none (by simpa using hi)]
      rfl
theorem sI_ne {M : Mm} {o k a : Nat} {v : Int32} (h : a ≠ o) : (sI M o k v).1 a = M.1 a := if_neg h
theorem sI_at {M : Mm} {o k : Nat} {v : Int32} : (sI M o k v).1 o = upd (M.1 o) k v := if_pos rfl
theorem sJ_ne {M : Mm} {o k a : Nat} {v : Int64} (h : a ≠ o) : (sJ M o k v).2.1 a = M.2.1 a := if_neg h
theorem sJ_at {M : Mm} {o k : Nat} {v : Int64} : (sJ M o k v).2.1 o = vp_updL (M.2.1 o) k v := if_pos rfl
theorem sR_ne {M : Mm} {o k a : Nat} {v : Option Nat} (h : a ≠ o) : (sR M o k v).2.2.1 a = M.2.2.1 a := if_neg h
theorem sR_at {M : Mm} {o k : Nat} {v : Option Nat} : (sR M o k v).2.2.1 o = upR (M.2.2.1 o) k v := if_pos rfl
