/-! throws and catches -/
abbrev xNames : List String := ["java/lang/RuntimeException", "java/lang/Exception"]
/-- what a throw of NoSuchElementException needs of the tables and of old cells -/
def xFacts (G : MG) (own : String) (ic : Nat) : Prop := G.l.stackTraces = false ∧ ∀ U, G.X U → vx_Zq Bundle.tN "UNASSIGNED_STACK" Bundle.steD (gA G) U U.heap ∧ vx_Zq Bundle.tN "SUPPRESSED_SENTINEL" Bundle.listD (gA G) U U.heap ∧ ∀ w ∈ (vx_atS own ic NSE xNames).filter (fun w => !goodWord w), va_Nw w U
def xOK (own : String) (ik ic : Nat) : Prop := Cond.classLink own ik NSE ∈ lw_good ∧ Cond.initialized NSE ∈ lw_good ∧ (∀ w ∈ (vx_atS own ic NSE xNames).filter goodWord, w ∈ lw_good) ∧ ∀ w ∈ Cond.classLink own ik NSE :: Cond.initialized NSE :: vx_atS own ic NSE xNames, vx_ot w = true
theorem Rl.more {G : MG} {M : Mm} {H H' : Heap} (h : Rl G M H) (hn : M.2.2.2 = NC) (hz : H.size ≤ H'.size) (hq : ∀ q : Nat, q < H.size → H'[q]? = H[q]?) : Rl G M H' := by
  refine ⟨h.1.kept (fun k q hk => hq _ ((h.1 k q hk).lt)), h.2.1, fun hl => absurd hl (by omega), Nat.le_trans h.2.2.2 hz⟩
section
variable {G : MG} {Y Z : MY} {d : Nat} {Q : Option Value → Mm → Prop} {ce sl pc : Nat} {lv : List (Nat × Value)} {st : List Value} {M : Mm}
theorem xhat {own : String} {ik ic : Nat} {args : Array Value} {s : State} (hK : G.X s) (hts : ∀ w ∈ wsT, w.before args s = true) (hF : xFacts G own ic) (hw : xOK own ik ic) : ∀ w ∈ vx_atS own ic NSE xNames, w.before args s = true := by
  intro w hm
  by_cases hg : goodWord w = true
  · exact hts _ (List.mem_cons_of_mem _ (hw.2.2.1 w (List.mem_filter.mpr ⟨hm, hg⟩)))
  · have h1 := (hF.2 s hK).2.2 w (List.mem_filter.mpr ⟨hm, by simp only [Bool.not_eq_true] at hg; rw [hg]; rfl⟩)
    have h2 := hw.2.2.2 w (List.mem_cons_of_mem _ (List.mem_cons_of_mem _ hm))
    unfold vx_ot at h2
    simp only [Bool.not_eq_true] at hg
    rw [hg, Bool.or_false] at h2
    exact va_Nw.use h2 h1
theorem tw_throwS {c ik ic i j : Nat} {tx : String} (hL : Lay c M) (hF : xFacts G Y.y.cls ic) (hw : xOK Y.y.cls ik ic) (hX : ∀ U, G.X U → vk_R Y.y.cls i tx (G.ad j) U) (hh : Y.hh = []) (hdp : 6 ≤ d) (hst : (st.map fun v => v.category).sum ≤ 8) (hz : ce + 1 ≤ Y.mc ∧ sl + 6 ≤ Y.ms)
    (d0 : decode Y.cc pc = .ok (.new ik, 3)) (d3 : decode Y.cc (pc + 3) = .ok (.dup, 1)) (d4 : decode Y.cc (pc + 4) = .ok (.ldc i, 2)) (d6 : decode Y.cc (pc + 6) = .ok (.invokespecial ic, 3)) (d9 : decode Y.cc (pc + 9) = .ok (.athrow, 1)) (h : Q rX M) : T G Y d Q ce sl pc lv st M := by
  intro p e s m args below meth cd H locs ls X hR hS hl
  obtain ⟨hx, hb, -, hlk, hml, hown, hts, hK, -, -, htab⟩ := id X
  refine vx_throwS (names := xNames) (A := gA G) hx hb hF.1 hown (by decide +kernel) (by decide +kernel) (hts _ (List.mem_cons_of_mem _ hw.1)) (hts _ (List.mem_cons_of_mem _ hw.2.1)) (hX s hK.2.1) (xhat hK.2.1 hts hF hw) hw.2.2.2 (hF.2 s hK.2.1).1 (hF.2 s hK.2.1).2.1 hS (hl.1.trans hml.symm) d0 d3 d4 d6 d9 ?_ (show 2 + 3 < d by omega) (show _ ≤ 40 * d by (show _ + (13 * (2 + 1) + 43) ≤ 40 * d); omega) hz.1 hz.2 hlk ?_ hS.2.2 hz.1 hz.2
  · intro x hx
    rw [htab, hh] at hx
    cases hx
  · intro t hvm hsz hq
    exact ⟨rfl, M, h, hR.more (by have h1 : M.2.2 = (RF c, NC) := hL; rw [h1]) hsz hq, ⟨Nat.le_trans hS.1 hsz, fun q h1 h2 => (hq q (Nat.lt_of_lt_of_le h1 hS.1)).trans (hS.2.1 q h1 h2)⟩⟩
theorem tw_throwSW {c ik ic i j : Nat} {tx : String} (hL : Lay c M) (hF : xFacts G Y.y.cls ic) (hw : xOK Y.y.cls ik ic) (hX : ∀ U, G.X U → vk_R Y.y.cls i tx (G.ad j) U) (hh : Y.hh = []) (hdp : 6 ≤ d) (hst : (st.map fun v => v.category).sum ≤ 8) (hz : ce + 1 ≤ Y.mc ∧ sl + 6 ≤ Y.ms)
    (d0 : decode Y.cc pc = .ok (.new ik, 3)) (d3 : decode Y.cc (pc + 3) = .ok (.dup, 1)) (d4 : decode Y.cc (pc + 4) = .ok (.ldc_w i, 3)) (d7 : decode Y.cc (pc + 7) = .ok (.invokespecial ic, 3)) (d10 : decode Y.cc (pc + 10) = .ok (.athrow, 1)) (h : Q rX M) : T G Y d Q ce sl pc lv st M := by
  intro p e s m args below meth cd H locs ls X hR hS hl
  obtain ⟨hx, hb, -, hlk, hml, hown, hts, hK, -, -, htab⟩ := id X
  refine vx_throwSW (names := xNames) (A := gA G) hx hb hF.1 hown (by decide +kernel) (by decide +kernel) (hts _ (List.mem_cons_of_mem _ hw.1)) (hts _ (List.mem_cons_of_mem _ hw.2.1)) (hX s hK.2.1) (xhat hK.2.1 hts hF hw) hw.2.2.2 (hF.2 s hK.2.1).1 (hF.2 s hK.2.1).2.1 hS (hl.1.trans hml.symm) d0 d3 d4 d7 d10 ?_ (show 2 + 3 < d by omega) (show _ ≤ 40 * d by (show _ + (13 * (2 + 1) + 43) ≤ 40 * d); omega) hz.1 hz.2 hlk ?_ hS.2.2 hz.1 hz.2
  · intro x hx
    rw [htab, hh] at hx
    cases hx
  · intro t hvm hsz hq
    exact ⟨rfl, M, h, hR.more (by have h1 : M.2.2 = (RF c, NC) := hL; rw [h1]) hsz hq, ⟨Nat.le_trans hS.1 hsz, fun q h1 h2 => (hq q (Nat.lt_of_lt_of_le h1 hS.1)).trans (hS.2.1 q h1 h2)⟩⟩
theorem runX {p : Program} {e : Env} {R : Room} {s : State} {m : MethodId} {args : Array Value} {below : List Frame} {meth : Method} {c : Code} {H : Heap} {locs : List Loc} {mc ms : Nat} {Qf : State → Prop} {ls : Array Slot} {st0 : List Value} {a : Array Value} {Q' : Option Value → Mm → Prop}
    (hr : vx_Run p G.l e R s m args below meth c H locs ce sl mc ms (F0 m pc ls st0) st (QcG G Q' a) (XcG G Q') (gA G)) (hS : va_S (gA G) s.heap H locs)
    (kk : ∀ (r : Option Value) (M' : Mm) (H' : Heap) (locs' : List Loc), r ≠ rX → Q' r M' → Rl G M' H' → va_S (gA G) s.heap H' locs' → W p G.l e R s m args below meth c H' locs' (ce + mc) (sl + ms) Qf (F0 m (pc + 3) ls (r.toList ++ st)))
    (kx : ∀ (q : Addr) (cl : Cell) (M' : Mm) (H' : Heap) (locs' : List Loc), Q' rX M' → Rl G M' H' → va_S (gA G) s.heap H' locs' → H'[q]? = some cl → cl.vm = .none → s.vm.findClass NSE = some cl.cls → vx_W p G.l e R s m args below meth c H' locs' (ce + mc) (sl + ms) Qf (F0 m pc ls st) q) : W p G.l e R s m args below meth c H locs ce sl Qf (F0 m pc ls st0) := by
  intro T hT X
  have fr : ∀ (st₀ t T' : State) (L : List Loc), st₀.heap = H → T'.heap = t.heap → (∀ q ∈ L, gA G q.base) → va_F (gA G) st₀ t → va_S (gA G) s.heap T'.heap (locs ++ L) := by
    intro st₀ t T' L h0 e1 hL hF
    exact ⟨Nat.le_trans hS.1 (by rw [e1, ← h0]; exact hF.1), fun q h1 h2 => by rw [e1, hF.2 q (by rw [h0]; exact Nat.lt_of_lt_of_le h1 hS.1) h2, h0]; exact hS.2.1 q h1 h2, fun q hq => by
      rcases List.mem_append.mp hq with h | h
      · exact hS.2.2 q h
      · exact hL q h⟩
  rcases hr T hT X with ⟨v, st₀, t, T', L, h0, X', hL, e1, e2, ⟨r, M', hv, hne, hq, hR', hF⟩, stp⟩ | ⟨q, st₀, t, T', L, E, cl, h0, X', hL, e1, e2, ⟨rfl, M', hq, hR', hF⟩, g1, g2, g3, stp⟩
  · cases hv
    obtain ⟨t2, a1, b1⟩ := kk v M' T'.heap (locs ++ L) hne hq (by rw [e1]; exact hR') (fr st₀ t T' L h0 e1 hL hF) T' rfl X'
    exact ⟨t2, stp t2 a1, b1⟩
  · obtain ⟨t2, a1, b1⟩ := kx q cl M' T'.heap (locs ++ L) hq (by rw [e1]; exact hR') (fr st₀ t T' L h0 e1 hL hF) (by rw [e1]; exact g1) g2 g3 T' rfl X'
    exact ⟨t2, stp.trans a1, b1⟩
def cxOK (own : String) (idx ci n : Nat) (Z : MY) : Prop := ∃ (C : String) (Tb : u_T) (N : Nat), cls[ci]? = some (C, Tb, N) ∧ Z.y.cls = C ∧ (Cond.methodLink own idx Z.y ∈ lw_good ∧ Cond.instanceMethod Z.y ∈ lw_good ∧ Cond.selects C Z.y Z.y ∈ lw_good ∧ Cond.initialized C ∈ lw_good ∧ Cond.code Z.y Z.cc Z.nL Z.rt ∈ lw_good) ∧ (C ≠ "java/lang/invoke/MethodHandle" ∧ C ≠ "java/lang/invoke/VarHandle") ∧ (parseMethodDescriptor Z.y.desc).map (fun d => d.parameters.length) = some n ∧ Z.nL ≤ 21
/-- a call that may throw, in a method whose one handler covers it -/
theorem tw_callX {c idx ci o n a1 a2 hp ht : Nat} {As : List Value} {Q' : Option Value → Mm → Prop} (cw : cxOK Y.y.cls idx ci n Z) (hL : Lay c M) (hs : sh o = some (.inr ci)) (hn : As.length = n) (hst : (st.map fun v => v.category).sum ≤ 8) (hz : ce + Z.mc ≤ Y.mc ∧ sl + Z.ms ≤ Y.ms) (hd : decode Y.cc pc = .ok (.invokevirtual idx, 3)) (hC : CX G Z d (.ref (G.b + o) :: As) M Q')
    (hh : Y.hh = [(a1, a2, hp, ht)]) (hcov : covers ⟨a1, a2, hp, ht⟩ pc = true) (ht0 : ht ≠ 0) (hlk : Cond.classLink Y.y.cls ht NSE ∈ lw_good) (hcast : ∀ U, G.X U → va_Nw (.castable NSE NSE) U)
    (kk : ∀ r M', r ≠ rX → Q' r M' → T G Y (d + 1) Q (ce + Z.mc) (sl + Z.ms) (pc + 3) lv (r.toList ++ st) M') (kx : ∀ M', Q' rX M' → ∀ q, T G Y (d + 1) Q (ce + Z.mc) (sl + Z.ms) hp lv [.ref q] M') : T G Y (d + 1) Q ce sl pc lv (As.reverse ++ .ref (G.b + o) :: st) M := by
  intro p e s m args below meth cd H locs ls X hR hS hl
  obtain ⟨Cn, Tb, N, h1, h2, ⟨w1, w2, w3, w4, w5⟩, h3, h4, h5⟩ := cw
  obtain ⟨d0, hd0, hM⟩ := hC
  obtain ⟨hx, hb, -, -, hml, hown, hts, hK, -, -, htab⟩ := id X
  refine runX (vx_runV (C := Cn) (n := n) (index := idx) (As := As) (rest := st) (bytes := Z.cc) (maxL := Z.nL) (ret := Z.rt) (mc := Z.mc) (ms := Z.ms) ⟨hx, hb, hml, hown, hts⟩ hM (cwV n hts ?_ rfl rfl rfl ⟨h2, by rw [h2]; exact h3.1, by rw [h2]; exact h3.2, h4⟩ ⟨?_, ?_⟩) ⟨blindC _ _, va_recv hK.1 hR.P h1 (by rw [ws_at (hL.lt hs), ent_obj hs]), preC X hR hS _⟩ rfl hn hl.1 rfl ?_ hd hz) hS (fun r M' H' locs' hne hq hR' hS' => kk r M' hne hq p e s m args below meth cd H' locs' ls X hR' hS' hl) (fun q cl M' H' locs' hq hR' hS' g1 g2 g3 => ?_)
  · intro w hw
    unfold wsV at hw
    rcases List.mem_append.mp hw with h | h
    · simp only [List.mem_cons, List.not_mem_nil, or_false] at h
      rcases h with rfl | rfl | rfl | rfl
      · exact gin1 w1
      · exact gin1 w2
      · exact gin1 w3
      · exact gin1 w4
    · exact gin w5 w h
  · show d0 + 1 ≤ d + 1
    omega
  · show 8 + (Z.nL + 11) + 40 * d0 ≤ 40 * (d + 1)
    omega
  · show 2 * 0 + _ ≤ 8
    omega
  · exact vx_catch (own := Y.y.cls) (name := NSE) hown [] ⟨a1, a2, hp, ht⟩ [] (by rw [htab, hh]; rfl) (fun z hz => by cases hz) hcov ht0 (hts _ (List.mem_cons_of_mem _ hlk)) (va_Nw.use rfl (hcast s hK.2.1)) g1 g2 g3 (kx M' hq q p e s m args below meth cd H' locs' ls X hR' hS' hl)
/-- a static method with handlers of its own, that returns -/
abbrev wsH (Y : MY) : List Cond := Cond.codeWith Y.y Y.cc Y.nL Y.rt Y.hh :: lw_good
def CW (G : MG) (Y : MY) (d : Nat) (av : List Value) (M : Mm) (Q : Option Value → Mm → Prop) : Prop :=
  ∃ d0, d0 ≤ d ∧ Met G.l Y.y (wsH Y) (rmD d0 Y.mc Y.ms) (va_Pc av (fun U => Rl G M U.heap ∧ Kn G U)) (QcG G Q) Y.mc Y.ms (gA G)
theorem CW.of {av : List Value} (hy : plainName Y.y.cls = true) (hn : (lg_sl av).length ≤ Y.nL) {lv : List (Nat × Value)} (hlv : lv_args 0 av = lv) (hq : ∀ M, ¬ Q rX M) (h : T G Y d Q 0 0 0 lv [] M) : CW G Y d av M Q := by
  refine ⟨d, Nat.le_refl d, ?_⟩
  have hX : vx_Met G.l Y.y (wsH Y) (rmD d Y.mc Y.ms) (va_Pc av (fun U => Rl G M U.heap ∧ Kn G U)) (QcG G Q) (XcG G Q) Y.mc Y.ms (gA G) := by
    refine vx_ofWH (cc := Y.cc) (maxL := Y.nL) (ret := Y.rt) (hh := Y.hh) hy rfl ?_
    intro p e s m args below meth c s₁ B hml hv
    obtain ⟨rfl, hR, hK⟩ := hv
    have hl := lv_entry av hn
    rw [lg_entry_eq]
    rw [hlv] at hl
    have hts := atoms_spec (ws := wsH Y) B.pre
    exact h p e s m _ below meth c s.heap [] _ ⟨B.exec, B.bytes, B.returns, B.notSynchronized, hml, findClass_of_methodNamed B.named, ht_of hts (fun w hw => List.mem_cons_of_mem _ hw), hK, (name_of_methodNamed B.named B.method).1, hR.2.2.2, vx_table (x := Y.y) B (hts _ List.mem_cons_self)⟩ hR va_S.rf hl
  intro p e ha hc hk s m args below hf happ hP hK
  obtain ⟨n, o, a1, a2, a3, a4⟩ := hX p e ha hc hk s m args below hf happ hP hK
  rcases a4 with a4 | ⟨q, -, E, ce, L, ⟨-, M', hx, -⟩, -⟩
  · exact ⟨n, o, a1, a2, a3, a4⟩
  · exact absurd hx (hq M')
def cwOK (own : String) (idx n : Nat) (Z : MY) : Prop := (Cond.methodLink own idx Z.y ∈ lw_good ∧ Cond.static Z.y ∈ lw_good ∧ Cond.initialized Z.y.cls ∈ lw_good ∧ Cond.codeWith Z.y Z.cc Z.nL Z.rt Z.hh ∈ lw_good) ∧ (Z.y.cls ≠ "java/lang/invoke/MethodHandle" ∧ Z.y.cls ≠ "java/lang/invoke/VarHandle") ∧ (parseMethodDescriptor Z.y.desc).map (fun d => d.parameters.length) = some n ∧ Z.nL ≤ 21
theorem tw_callW {idx n : Nat} {As : List Value} {Q' : Int32 → Mm → Prop} (cw : cwOK Y.y.cls idx n Z) (hn : As.length = n) (hst : (st.map fun v => v.category).sum ≤ 8) (hz : ce + Z.mc ≤ Y.mc ∧ sl + Z.ms ≤ Y.ms) (hd : decode Y.cc pc = .ok (.invokestatic idx, 3)) (hC : CW G Z d As M (Ri Q'))
    (kk : ∀ v M', Q' v M' → T G Y (d + 1) Q (ce + Z.mc) (sl + Z.ms) (pc + 3) lv (.int v :: st) M') : T G Y (d + 1) Q ce sl pc lv (As.reverse ++ st) M := by
  intro p e s m args below meth cd H locs ls X hR hS hl
  obtain ⟨⟨w1, w2, w3, w4⟩, h3, h4, h5⟩ := cw
  obtain ⟨d0, hd0, hM⟩ := hC
  obtain ⟨hx, hb, -, -, hml, hown, hts, hK, -, -, -⟩ := id X
  refine runC (vx_runSW (n := n) (index := idx) (As := As) (rest := st) (bytes := Z.cc) (maxL := Z.nL) (ret := Z.rt) (hh := Z.hh) (mc := Z.mc) (ms := Z.ms) ⟨hx, hb, hml, hown, hts⟩ hM (vx_cwSW n hts ?_ rfl rfl rfl ⟨h3.1, h3.2, h4⟩ ⟨?_, ?_⟩) ⟨blindC _ _, preC X hR hS _⟩ rfl hn hl.1 rfl ?_ hd hz) hS (fun r M' H' locs' hq hR' hS' => ?_)
  · intro w hw
    unfold va_wsS at hw
    rcases List.mem_append.mp hw with h | h
    · simp only [List.mem_cons, List.not_mem_nil, or_false] at h
      rcases h with rfl | rfl | rfl
      · exact gin1 w1
      · exact gin1 w2
      · exact gin1 w3
    · have hm : w ∈ lw_good := by
        rcases List.mem_cons.mp h with rfl | h
        · exact w4
        · exact h
      exact gin1 hm
  · show d0 + 1 ≤ d + 1
    omega
  · show 8 + (Z.nL + 11) + 40 * d0 ≤ 40 * (d + 1)
    omega
  · show 2 * 0 + _ ≤ 8
    omega
  · obtain ⟨v, rfl, hq⟩ := hq
    exact kk v M' hq p e s m args below meth cd H' locs' ls X hR' hS' hl
end
