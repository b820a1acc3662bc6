/-! calls -/
theorem good_in {w : Cond} (h : w ∈ lw_good) : (w.onTables && w.keeps) = true ∨ ∃ ty, w = .arrayClass ty := good_of_word (List.mem_filter.mp h).2
def cvOK (own : String) (idx ci n : Nat) (Z : MY) : Prop := ∃ (C : String) (Tb : u_T) (N : Nat), cls[ci]? = some (C, Tb, N) ∧ Z.y.cls = C ∧ (Cond.methodLink own idx Z.y ∈ lw_good ∧ Cond.instanceMethod Z.y ∈ lw_good ∧ Cond.selects C Z.y Z.y ∈ lw_good ∧ Cond.initialized C ∈ lw_good ∧ Cond.code Z.y Z.cc Z.nL Z.rt ∈ lw_good) ∧ (C ≠ "java/lang/invoke/MethodHandle" ∧ C ≠ "java/lang/invoke/VarHandle") ∧ (parseMethodDescriptor Z.y.desc).map (fun d => d.parameters.length) = some n ∧ Z.nL ≤ 21 ∧ Z.mc = 0 ∧ Z.ms = 0
def csOK (own : String) (idx n : Nat) (Z : MY) : Prop := (Cond.methodLink own idx Z.y ∈ lw_good ∧ Cond.static Z.y ∈ lw_good ∧ Cond.initialized Z.y.cls ∈ lw_good ∧ Cond.code Z.y Z.cc Z.nL Z.rt ∈ lw_good) ∧ (Z.y.cls ≠ "java/lang/invoke/MethodHandle" ∧ Z.y.cls ≠ "java/lang/invoke/VarHandle") ∧ (parseMethodDescriptor Z.y.desc).map (fun d => d.parameters.length) = some n ∧ Z.nL ≤ 21 ∧ Z.mc = 0 ∧ Z.ms = 0
def cnOK (n : Nat) (Z : MY) : Prop := (Cond.static Z.y ∈ lw_good ∧ Cond.initialized Z.y.cls ∈ lw_good ∧ Cond.code Z.y Z.cc Z.nL Z.rt ∈ lw_good) ∧ (Z.y.cls ≠ "java/lang/invoke/MethodHandle" ∧ Z.y.cls ≠ "java/lang/invoke/VarHandle") ∧ (parseMethodDescriptor Z.y.desc).map (fun d => d.parameters.length) = some n ∧ Z.nL ≤ 21 ∧ Z.mc = 0 ∧ Z.ms = 0
section
variable {G : MG} {Y Z : MY} {d : Nat} {Q : Option Value → Mm → Prop} {ce sl pc : Nat} {lv : List (Nat × Value)} {st : List Value} {M : Mm}
theorem gin {Z : MY} (hc : Cond.code Z.y Z.cc Z.nL Z.rt ∈ lw_good) : GoodIn wsT (wsY Z) := by
  intro w hw
  have h : w ∈ lw_good := by
    rcases List.mem_cons.mp hw with rfl | h
    · exact hc
    · exact h
  exact ⟨List.mem_cons_of_mem _ h, good_in h⟩
theorem gin1 {w : Cond} (h : w ∈ lw_good) : w ∈ wsT ∧ ((w.onTables && w.keeps) = true ∨ ∃ ty, w = .arrayClass ty) := ⟨List.mem_cons_of_mem _ h, good_in h⟩
theorem blindC (av : List Value) (M : Mm) : FrameBlind (va_Pc av (fun U => Rl G M U.heap ∧ Kn G U)) := by
  intro a U g mk q
  obtain ⟨q0, q1, q2⟩ := q
  exact ⟨q0, q1, Kn.step (U := U.calling g mk a) q2 (State.WarmedH.refl U) (fun _ _ => rfl)⟩
theorem preC {p : Program} {s : State} {m : MethodId} {args : Array Value} {meth : Method} {c : Code} {H : Heap} {locs : List Loc} (X : Cx G Y p s m args meth c) (hR : Rl G M H) (hS : va_S (gA G) s.heap H locs) (av : List Value) : ∀ U : State, U.heap = H → s.WarmedH U.vm → va_Pc av (fun U => Rl G M U.heap ∧ Kn G U) av.toArray U := by
  intro U hU hW
  obtain ⟨-, -, -, -, -, -, -, hK, -, hb, -⟩ := X
  refine ⟨rfl, by rw [hU]; exact hR, hK.step hW (fun q hq => ?_)⟩
  rw [hU]
  exact hS.2.1 q (Nat.lt_of_lt_of_le hq hb) (Nat.not_le.mpr hq)
theorem runC {p : Program} {e : Env} {R : Room} {s : State} {m : MethodId} {args : Array Value} {below : List Frame} {meth : Method} {c : Code} {H : Heap} {locs : List Loc} {mc ms : Nat} {Qf : State → Prop} {ls : Array Slot} {st0 : List Value} {a : Array Value} {Q' : Option Value → Mm → Prop}
    (hr : va_Run p G.l e R s m args below meth c H locs ce sl mc ms (F0 m pc ls st0) st (QcG G Q' a) (gA G)) (hS : va_S (gA G) s.heap H locs)
    (kk : ∀ (r : Option Value) (M' : Mm) (H' : Heap) (locs' : List Loc), Q' r M' → Rl G M' H' → va_S (gA G) s.heap H' locs' → W p G.l e R s m args below meth c H' locs' (ce + mc) (sl + ms) Qf (F0 m (pc + 3) ls (r.toList ++ st))) : W p G.l e R s m args below meth c H locs ce sl Qf (F0 m pc ls st0) := by
  intro T hT X
  obtain ⟨v, st₀, t, T', L, h0, X', hL, e1, e2, ⟨r, M', hv, -, hq, hR', hF⟩, stp⟩ := hr T hT X
  cases hv
  obtain ⟨t2, a1, b1⟩ := kk v M' T'.heap (locs ++ L) hq (by rw [e1]; exact hR') ⟨Nat.le_trans hS.1 (by rw [e1, ← h0]; exact hF.1), fun q h1 h2 => by rw [e1, hF.2 q (by rw [h0]; exact Nat.lt_of_lt_of_le h1 hS.1) h2, h0]; exact hS.2.1 q h1 h2, fun q hq => by
      rcases List.mem_append.mp hq with h | h
      · exact hS.2.2 q h
      · exact hL q h⟩ T' rfl X'
  exact ⟨t2, stp t2 a1, b1⟩
theorem tw_callV {c idx ci o n : Nat} {As : List Value} {Q' : Option Value → Mm → Prop} (cw : cvOK Y.y.cls idx ci n Z) (hL : Lay c M) (hs : sh o = some (.inr ci)) (hn : As.length = n) (hst : (st.map fun v => v.category).sum ≤ 8) (hz : ce ≤ Y.mc ∧ sl ≤ Y.ms) (hd : decode Y.cc pc = .ok (.invokevirtual idx, 3)) (hC : C G Z d (.ref (G.b + o) :: As) M Q')
    (kk : ∀ r M', Q' r M' → T G Y (d + 1) Q ce sl (pc + 3) lv (r.toList ++ st) M') : T G Y (d + 1) Q ce sl pc lv (As.reverse ++ .ref (G.b + o) :: st) M := by
  intro p e s m args below meth cd H locs ls X hR hS hl
  obtain ⟨Cn, Tb, N, h1, h2, ⟨w1, w2, w3, w4, w5⟩, h3, h4, h5, h6, h7⟩ := cw
  obtain ⟨d0, hd0, hM⟩ := hC
  obtain ⟨hx, hb, -, -, hml, hown, hts, hK, -, -, -⟩ := id X
  refine runC (va_runV (C := Cn) (n := n) (index := idx) (As := As) (rest := st) (bytes := Z.cc) (maxL := Z.nL) (ret := Z.rt) (mc := Z.mc) (ms := Z.ms) ⟨hx, hb, hml, hown, hts⟩ hM (cwV n hts ?_ rfl rfl rfl ⟨h2, by rw [h2]; exact h3.1, by rw [h2]; exact h3.2, h4⟩ ⟨?_, ?_⟩) ⟨blindC _ _, va_recv hK.1 hR.P h1 (by rw [ws_at (hL.lt hs), ent_obj hs]), preC X hR hS _⟩ rfl hn hl.1 rfl ?_ hd ⟨?_, ?_⟩) hS (fun r M' H' locs' hq hR' hS' => ?_)
  · intro w hw
    unfold wsV at hw
    rcases List.mem_append.mp hw with h | h
    · simp only [List.mem_cons, List.not_mem_nil, or_false] at h
      rcases h with rfl | rfl | rfl | rfl
      · exact gin1 w1
      · exact gin1 w2
      · exact gin1 w3
      · exact gin1 w4
    · exact gin w5 w h
  · show d0 + 1 ≤ d + 1
    omega
  · show 8 + (Z.nL + 11) + 40 * d0 ≤ 40 * (d + 1)
    omega
  · show 2 * 0 + _ ≤ 8
    omega
  · rw [h6]; exact hz.1
  · rw [h7]; exact hz.2
  · rw [h6, h7]
    exact kk r M' hq p e s m args below meth cd H' locs' ls X hR' hS' hl
theorem tw_callS {idx n : Nat} {As : List Value} {Q' : Option Value → Mm → Prop} (cw : csOK Y.y.cls idx n Z) (hn : As.length = n) (hst : (st.map fun v => v.category).sum ≤ 8) (hz : ce ≤ Y.mc ∧ sl ≤ Y.ms) (hd : decode Y.cc pc = .ok (.invokestatic idx, 3)) (hC : C G Z d As M Q')
    (kk : ∀ r M', Q' r M' → T G Y (d + 1) Q ce sl (pc + 3) lv (r.toList ++ st) M') : T G Y (d + 1) Q ce sl pc lv (As.reverse ++ st) M := by
  intro p e s m args below meth cd H locs ls X hR hS hl
  obtain ⟨⟨w1, w2, w3, w4⟩, h3, h4, h5, h6, h7⟩ := cw
  obtain ⟨d0, hd0, hM⟩ := hC
  obtain ⟨hx, hb, -, -, hml, hown, hts, hK, -, -, -⟩ := id X
  refine runC (va_runS (n := n) (index := idx) (As := As) (rest := st) (bytes := Z.cc) (maxL := Z.nL) (ret := Z.rt) (mc := Z.mc) (ms := Z.ms) ⟨hx, hb, hml, hown, hts⟩ hM (va_cwS n hts ?_ rfl rfl rfl ⟨h3.1, h3.2, h4⟩ ⟨?_, ?_⟩) ⟨blindC _ _, preC X hR hS _⟩ rfl hn hl.1 rfl ?_ hd ⟨?_, ?_⟩) hS (fun r M' H' locs' hq hR' hS' => ?_)
  · intro w hw
    unfold va_wsS at hw
    rcases List.mem_append.mp hw with h | h
    · simp only [List.mem_cons, List.not_mem_nil, or_false] at h
      rcases h with rfl | rfl | rfl
      · exact gin1 w1
      · exact gin1 w2
      · exact gin1 w3
    · exact gin w4 w h
  · show d0 + 1 ≤ d + 1
    omega
  · show 8 + (Z.nL + 11) + 40 * d0 ≤ 40 * (d + 1)
    omega
  · show 2 * 0 + _ ≤ 8
    omega
  · rw [h6]; exact hz.1
  · rw [h7]; exact hz.2
  · rw [h6, h7]
    exact kk r M' hq p e s m args below meth cd H' locs' ls X hR' hS' hl
theorem tw_callN {idx n : Nat} {host : String} {As : List Value} {Q' : Option Value → Mm → Prop} (cw : cnOK n Z) (hN : ∀ U, G.X U → va_Nw (.methodLinkNest Y.y.cls idx Z.y host) U) (hn : As.length = n) (hst : (st.map fun v => v.category).sum ≤ 8) (hz : ce ≤ Y.mc ∧ sl ≤ Y.ms) (hd : decode Y.cc pc = .ok (.invokestatic idx, 3)) (hC : C G Z d As M Q')
    (kk : ∀ r M', Q' r M' → T G Y (d + 1) Q ce sl (pc + 3) lv (r.toList ++ st) M') : T G Y (d + 1) Q ce sl pc lv (As.reverse ++ st) M := by
  intro p e s m args below meth cd H locs ls X hR hS hl
  obtain ⟨⟨w2, w3, w4⟩, h3, h4, h5, h6, h7⟩ := cw
  obtain ⟨d0, hd0, hM⟩ := hC
  obtain ⟨hx, hb, -, -, hml, hown, hts, hK, -, -, -⟩ := id X
  refine runC (va_runSN (n := n) (host := host) (index := idx) (As := As) (rest := st) (bytes := Z.cc) (maxL := Z.nL) (ret := Z.rt) (mc := Z.mc) (ms := Z.ms) ⟨hx, hb, hml, hown, hts⟩ hM ⟨va_cnB n hts (gin w4) rfl rfl rfl (hN s hK.2.1) (hts _ (List.mem_cons_of_mem _ w3)) ⟨h3.1, h3.2, h4⟩ ⟨?_, ?_⟩, hts _ (List.mem_cons_of_mem _ w2), trivial⟩ ⟨blindC _ _, preC X hR hS _⟩ rfl hn hl.1 rfl ?_ hd ⟨?_, ?_⟩) hS (fun r M' H' locs' hq hR' hS' => ?_)
  · show d0 + 1 ≤ d + 1
    omega
  · show 8 + (Z.nL + 11) + 40 * d0 ≤ 40 * (d + 1)
    omega
  · show 2 * 0 + _ ≤ 8
    omega
  · rw [h6]; exact hz.1
  · rw [h7]; exact hz.2
  · rw [h6, h7]
    exact kk r M' hq p e s m args below meth cd H' locs' ls X hR' hS' hl
/-- Math of the JDK -/
def mOK (own : String) (idx : Nat) (y : MethodName) (cc : ByteArray) (n : Nat) (rt : Option FieldType) : Prop := Cond.methodLink own idx y ∈ lw_good ∧ Cond.static y ∈ lw_good ∧ Cond.initialized "java/lang/Math" ∈ lw_good ∧ Cond.code y cc n rt ∈ lw_good
theorem tw_mabs {idx : Nat} {x : Int64} (hm : mOK Y.y.cls idx Lib.MathLoose.abs_long.x Lib.MathLoose.abs_long.code 2 (some .long)) (hst : (st.map fun v => v.category).sum ≤ 8) (hz : ce ≤ Y.mc ∧ sl ≤ Y.ms) (hd : decode Y.cc pc = .ok (.invokestatic idx, 3)) (kk : T G Y (d + 1) Q ce sl (pc + 3) lv (.long (if 0 < x then x else -x) :: st) M) : T G Y (d + 1) Q ce sl pc lv (.long x :: st) M := by
  intro p e s m args below meth cd H locs ls X hR hS hl
  obtain ⟨hx, hb, -, -, hml, hown, hts, hK, -, -, -⟩ := id X
  obtain ⟨w1, w2, w3, w4⟩ := hm
  exact va_mabs_long hx hb (hml.trans hl.1.symm) hown (hts _ (List.mem_cons_of_mem _ w1)) (hts _ (List.mem_cons_of_mem _ w2)) (hts _ (List.mem_cons_of_mem _ w3)) (hts _ (List.mem_cons_of_mem _ w4)) (show 1 ≤ d + 1 by omega) (show _ ≤ 40 * (d + 1) by omega) hz.1 hz.2 hd (kk p e s m args below meth cd H locs ls X hR hS hl)
theorem tw_mmin {idx : Nat} {x y : Int32} (hm : mOK Y.y.cls idx Lib.Math.min.name Lib.Math.min.code 2 (some .int)) (hst : (st.map fun v => v.category).sum ≤ 8) (hz : ce ≤ Y.mc ∧ sl ≤ Y.ms) (hd : decode Y.cc pc = .ok (.invokestatic idx, 3)) (kk : T G Y (d + 1) Q ce sl (pc + 3) lv (.int (if y < x then y else x) :: st) M) : T G Y (d + 1) Q ce sl pc lv (.int y :: .int x :: st) M := by
  intro p e s m args below meth cd H locs ls X hR hS hl
  obtain ⟨hx, hb, -, -, hml, hown, hts, hK, -, -, -⟩ := id X
  obtain ⟨w1, w2, w3, w4⟩ := hm
  exact va_mmin hx hb (hml.trans hl.1.symm) hown (hts _ (List.mem_cons_of_mem _ w1)) (hts _ (List.mem_cons_of_mem _ w2)) (hts _ (List.mem_cons_of_mem _ w3)) (hts _ (List.mem_cons_of_mem _ w4)) (show 1 ≤ d + 1 by omega) (show _ ≤ 40 * (d + 1) by omega) hz.1 hz.2 hd (kk p e s m args below meth cd H locs ls X hR hS hl)
theorem tw_mmax {idx : Nat} {x y : Int32} (hm : mOK Y.y.cls idx Lib.Math.max.name Lib.Math.max.code 2 (some .int)) (hst : (st.map fun v => v.category).sum ≤ 8) (hz : ce ≤ Y.mc ∧ sl ≤ Y.ms) (hd : decode Y.cc pc = .ok (.invokestatic idx, 3)) (kk : T G Y (d + 1) Q ce sl (pc + 3) lv (.int (if x < y then y else x) :: st) M) : T G Y (d + 1) Q ce sl pc lv (.int y :: .int x :: st) M := by
  intro p e s m args below meth cd H locs ls X hR hS hl
  obtain ⟨hx, hb, -, -, hml, hown, hts, hK, -, -, -⟩ := id X
  obtain ⟨w1, w2, w3, w4⟩ := hm
  exact va_mmax hx hb (hml.trans hl.1.symm) hown (hts _ (List.mem_cons_of_mem _ w1)) (hts _ (List.mem_cons_of_mem _ w2)) (hts _ (List.mem_cons_of_mem _ w3)) (hts _ (List.mem_cons_of_mem _ w4)) (show 1 ≤ d + 1 by omega) (show _ ≤ 40 * (d + 1) by omega) hz.1 hz.2 hd (kk p e s m args below meth cd H locs ls X hR hS hl)
/-- a table switch: inside and outside -/
theorem tw_tabIn {dflt lo hi : Int} {offs : Array Int} {len : Nat} {x : Int32} {off : Int} (tgt : Nat) (hd : decode Y.cc pc = .ok (.tableswitch dflt lo hi offs, len)) (h1 : ¬ x.toInt < lo) (h2 : ¬ hi < x.toInt) (ho : offs[(x.toInt - lo).toNat]? = some off) (ht : (pc : Int) + off = (tgt : Int)) (kk : T G Y d Q ce sl tgt lv st M) : T G Y d Q ce sl pc lv (.int x :: st) M :=
  fun p e s m args below meth c H locs ls X hR hS hl => lv_tableIn X.1 X.2.1 hd h1 h2 ho ht (kk p e s m args below meth c H locs ls X hR hS hl)
theorem tw_tabOut {dflt lo hi : Int} {offs : Array Int} {len : Nat} {x : Int32} (tgt : Nat) (hd : decode Y.cc pc = .ok (.tableswitch dflt lo hi offs, len)) (h : x.toInt < lo ∨ hi < x.toInt) (ht : (pc : Int) + dflt = (tgt : Int)) (kk : T G Y d Q ce sl tgt lv st M) : T G Y d Q ce sl pc lv (.int x :: st) M :=
  fun p e s m args below meth c H locs ls X hR hS hl => lv_tableOut X.1 X.2.1 hd h ht (kk p e s m args below meth c H locs ls X hR hS hl)
end
