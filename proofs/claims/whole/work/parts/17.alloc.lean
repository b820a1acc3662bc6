/-! making cells -/
theorem sN_ne {M : Mm} {a : Nat} (h : a ≠ M.2.2.2) : (sN M).1 a = M.1 a ∧ (sN M).2.1 a = M.2.1 a ∧ (sN M).2.2.1 a = M.2.2.1 a := ⟨if_neg h, if_neg h, if_neg h⟩
theorem sN_at {M : Mm} {n : Nat} (hn : M.2.2.2 = n) : (sN M).1 n = (fun _ => 0) ∧ (sN M).2.1 n = (fun _ => 0) ∧ (sN M).2.2.1 n = (fun _ => none) := by
  subst hn
  exact ⟨if_pos rfl, if_pos rfl, if_pos rfl⟩
theorem Rl.grow {G : MG} {M : Mm} {n : Nat} {H H' : Heap} (h : Rl G M H) (hn : M.2.2.2 = n) (hlt : n < NC) (hz : H'.size = G.b + n + 1) (hq : ∀ q : Nat, q < G.b + n → H'[q]? = H[q]?) (hat : va_at G.D cls (G.b + n, ent G (sN M) n) H') : Rl G (sN M) H' := by
  refine ⟨fun k q hk => ?_, by show M.2.2.2 + 1 ≤ NC; omega, fun _ => by rw [hz]; show _ = G.b + (M.2.2.2 + 1); omega, by rw [hz]; omega⟩
  obtain ⟨hk1, rfl⟩ := ws_lt hk
  have hk2 : k < M.2.2.2 + 1 := hk1
  by_cases hkn : k = n
  · subst hkn
    exact hat
  · have h2 := h.1 k _ (ws_at (by omega))
    rw [← ent_congr (M' := sN M) (sN_ne (by omega)).1 (sN_ne (by omega)).2.1 (sN_ne (by omega)).2.2] at h2
    exact h2.kept (hq _ (by show G.b + k < G.b + n; omega))
def nOK (own : String) (idx ci : Nat) : Prop := ∃ (C : String) (Tb : u_T) (N : Nat), cls[ci]? = some (C, Tb, N) ∧ nfc ci = N ∧ (Cond.classLink own idx C ∈ lw_good ∧ Cond.instantiable C N ∈ lw_good ∧ Cond.initialized C ∈ lw_good) ∧ (∀ w ∈ u_ws C Tb N, w ∈ lw_good) ∧ (∀ k, k < N → parseFieldDescriptor (Tb k).2.2.1 = some (tyc ci k)) ∧ ∀ k, k < N → tyc ci k ≠ .float ∧ tyc ci k ≠ .double
section
variable {G : MG} {Y Z : MY} {d : Nat} {Q : Option Value → Mm → Prop} {ce sl pc : Nat} {lv : List (Nat × Value)} {st : List Value} {M : Mm}
theorem tw_new {idx ci n : Nat} (hc : nOK Y.y.cls idx ci) (hn : M.2.2.2 = n) (hs : sh n = some (.inr ci)) (hz : ce + 1 ≤ Y.mc ∧ sl + nfc ci ≤ Y.ms) (hd : decode Y.cc pc = .ok (.new idx, 3)) (kk : ∀ N, N = sN M → N.2.2.2 = n + 1 → T G Y d Q (ce + 1) (sl + nfc ci) (pc + 3) lv (.ref (G.b + n) :: st) N) : T G Y d Q ce sl pc lv st M := by
  intro p e s m args below meth c H locs ls X hR hS hl
  obtain ⟨Cn, Tb, N, h1, h2, ⟨w1, w2, w3⟩, h5, h6, h7⟩ := hc
  obtain ⟨hx, hb, -, -, -, hown, hts, hK, -, -, -⟩ := id X
  have hlt := sh_lt hs
  have hsz : H.size = G.b + n := by rw [← hn]; exact hR.2.2.1 (by omega)
  have hKn := hK.1.1 ci _ h1
  rw [h2] at hz kk
  refine W.newcK hx hb hown (hts _ (List.mem_cons_of_mem _ w1)) (hts _ (List.mem_cons_of_mem _ w2)) (hts _ (List.mem_cons_of_mem _ w3)) rfl hd hz.1 hz.2 hKn.2.1 hsz fun H1 kC hkC e1 z1 o1 => ?_
  refine kk (sN M) rfl (by show M.2.2.2 + 1 = _; omega) p e s m args below meth c H1 locs ls X (hR.grow hn hlt z1 o1 ?_) ⟨by rw [z1, ← hsz]; have := hS.1; omega, fun q q1 q2 => (o1 q (by rw [← hsz]; exact Nat.lt_of_lt_of_le q1 hS.1)).trans (hS.2.1 q q1 q2), hS.2.2⟩ hl
  rw [ent_obj hs]
  refine ⟨_, h1, (u_born (tyc ci) hts (fun w hw => List.mem_cons_of_mem _ (h5 w hw)) hKn hkC e1 h6).to (fun j hj => ?_)⟩
  have hj : j < N := hj
  simp only [vp_V, List.getD_eq_getElem?_getD, List.getElem?_map, List.getElem?_range (show j < nfc ci by omega), Option.map_some, Option.getD_some]
  unfold fvl
  rw [(sN_at hn).1, (sN_at hn).2.1, (sN_at hn).2.2]
  have h8 := h7 j hj
  cases htt : tyc ci j <;> first | rfl | exact absurd htt h8.1 | exact absurd htt h8.2
theorem tw_newa {n t N : Nat} {v : Int32} {aty : ArrayType} {ty : FieldType} (hty : newarray.typeOf aty = ty) (hg : t < 4 ∧ (gtys G)[t]? = some (G.dA t, ty) ∧ (ty = .int ∨ ty = .long ∨ ty = .char ∨ ty = .boolean) ∧ ∀ M' : Mm, vp_cell (G.dA t) (N, arw G.b (sN M') M'.2.2.2 t) = arrV (G.dA t) N (fun _ => defaultValue ty)) (ha : Cond.arrayClass ty ∈ lw_good) (hn : M.2.2.2 = n) (hs : sh n = some (.inl (t, N))) (hv : ¬ v < 0 ∧ v.toNatClampNeg = N ∧ N * componentBytes ty ≤ 536870912) (hz : ce + 1 ≤ Y.mc ∧ sl + N ≤ Y.ms) (hd : decode Y.cc pc = .ok (.newarray aty, 2)) (kk : ∀ N', N' = sN M → N'.2.2.2 = n + 1 → T G Y d Q (ce + 1) (sl + N) (pc + 2) lv (.ref (G.b + n) :: st) N') : T G Y d Q ce sl pc lv (.int v :: st) M := by
  intro p e s m args below meth c H locs ls X hR hS hl
  obtain ⟨hx, hb, -, -, -, hown, hts, hK, -, -, -⟩ := id X
  subst hty
  have hlt := sh_lt hs
  have hsz : H.size = G.b + n := by rw [← hn]; exact hR.2.2.1 (by omega)
  refine va_newaK hx hb (hts _ (List.mem_cons_of_mem _ ha)) rfl hd rfl hv.1 hv.2.1 hv.2.2 hz.1 hz.2 hsz fun H1 cA e1 z1 o1 hAr hNm => ?_
  have hcA : cA = G.dA t := by
    have h2 := (hK.1.2 t _ hg.2.1).2
    have h3 : s.vm.findClass ("[" ++ (newarray.typeOf aty).toString) = some (G.dA t) := by
      rcases hg.2.2.1 with h | h | h | h <;> (rw [h] at h2 ⊢; exact h2)
    exact Option.some.inj (hNm.symm.trans h3)
  subst hcA
  refine kk (sN M) rfl (by show M.2.2.2 + 1 = _; omega) p e s m args below meth c H1 locs ls X (hR.grow hn hlt z1 o1 ?_) ⟨by rw [z1, ← hsz]; have := hS.1; omega, fun q q1 q2 => (o1 q (by rw [← hsz]; exact Nat.lt_of_lt_of_le q1 hS.1)).trans (hS.2.1 q q1 q2), hS.2.2⟩ hl
  rw [ent_arr hs]
  show H1[G.b + n]? = some (vp_cell (G.dA t) (N, arw G.b (sN M) n t))
  have h9 := hg.2.2.2 M
  rw [hn] at h9
  rw [h9]
  exact e1
theorem tw_anew {idx n t N : Nat} {v : Int32} {Cn : String} (hg : 4 ≤ t ∧ t < 7 ∧ (gtys G)[t]? = some (G.dA t, .object Cn)) (hw : Cond.classLink Y.y.cls idx Cn ∈ lw_good) (hX : ∀ U, G.X U → va_AO Cn U) (hn : M.2.2.2 = n) (hs : sh n = some (.inl (t, N))) (hv : ¬ v < 0 ∧ v.toNatClampNeg = N ∧ N * 4 ≤ 536870912) (hz : ce + 1 ≤ Y.mc ∧ sl + N ≤ Y.ms) (hd : decode Y.cc pc = .ok (.anewarray idx, 3)) (kk : ∀ N', N' = sN M → N'.2.2.2 = n + 1 → T G Y d Q (ce + 1) (sl + N) (pc + 3) lv (.ref (G.b + n) :: st) N') : T G Y d Q ce sl pc lv (.int v :: st) M := by
  intro p e s m args below meth c H locs ls X hR hS hl
  obtain ⟨hx, hb, -, -, -, hown, hts, hK, -, -, -⟩ := id X
  have hlt := sh_lt hs
  have hsz : H.size = G.b + n := by rw [← hn]; exact hR.2.2.1 (by omega)
  obtain ⟨hv1, hv2, hv3⟩ := hv
  subst hv2
  refine W.anew hx hb hown (hts _ (List.mem_cons_of_mem _ hw)) (va_AO.use (hX s hK.2.1)) rfl hd rfl hv1 hv3 hz.1 hz.2 fun cA kA comp f1 f2 f3 f4 => ?_
  have hcA : cA = G.dA t := by
    obtain ⟨kA', comp', -, -, -, h4⟩ := (hK.1.2 t _ hg.2.2).2
    exact Option.some.inj (f1.symm.trans h4)
  subst hcA
  rw [hsz]
  generalize hH1 : H.push ({ cls := G.dA t, slots := Array.replicate v.toNatClampNeg .null, vm := .none } : Cell) = H1
  have z1 : H1.size = G.b + n + 1 := by rw [← hH1, Array.size_push, hsz]
  have e1 : H1[G.b + n]? = some (arrV (G.dA t) v.toNatClampNeg (fun _ => .null)) := by rw [← hH1, ← hsz, Array.getElem?_push_size, ← arrV_new]
  have o1 : ∀ q : Nat, q < G.b + n → H1[q]? = H[q]? := fun q hq => by rw [← hH1, Array.getElem?_push, if_neg (by rw [hsz]; exact Nat.ne_of_lt hq)]
  refine kk (sN M) rfl (by show M.2.2.2 + 1 = _; omega) p e s m args below meth c H1 locs ls X (hR.grow hn hlt z1 o1 ?_) ⟨by rw [z1, ← hsz]; have := hS.1; omega, fun q q1 q2 => (o1 q (by rw [← hsz]; exact Nat.lt_of_lt_of_le q1 hS.1)).trans (hS.2.1 q q1 q2), hS.2.2⟩ hl
  rw [ent_arr hs]
  show H1[G.b + n]? = some (vp_cell (G.dA t) (v.toNatClampNeg, arw G.b (sN M) n t))
  rw [e1]
  have ea : arw G.b (sN M) n t = .inr (.inr (.inr (.inr (fun i => ((sN M).2.2.1 n i).map (G.b + ·))))) := by
    rcases (show t = 4 ∨ t = 5 ∨ t = 6 by omega) with rfl | rfl | rfl <;> rfl
  rw [ea, vp_cell_q, (sN_at hn).2.2]
  rfl
theorem tw_aast {o q n t ci : Nat} {i : Int32} {Cn : String} {Tb : u_T} {N : Nat} (hg : 4 ≤ t ∧ t < 7 ∧ (gtys G)[t]? = some (G.dA t, .object Cn)) (hc : cls[ci]? = some (Cn, Tb, N)) (ho : o < M.2.2.2) (hq : q < M.2.2.2) (hs : sh o = some (.inl (t, n))) (hsq : sh q = some (.inr ci)) (hd : decode Y.cc pc = .ok (.aastore, 1)) (hin : vp_in i n) (kk : ∀ N', N' = sR M o i.toNatClampNeg (some q) → N'.2.2.2 = M.2.2.2 → T G Y d Q ce sl (pc + 1) lv st N') : T G Y d Q ce sl pc lv (.ref (G.b + q) :: .int i :: .ref (G.b + o) :: st) M := by
  intro p e s m args below meth c H locs ls X hR hS hl
  obtain ⟨hx, hb, -, -, -, hown, hts, hK, -, -, -⟩ := id X
  have hlt : i.toNatClampNeg < n := vp_lt hin
  have h0 : ¬ i < 0 := fun q => hin (Or.inl q)
  have hca := hR.P o _ (ws_at ho)
  rw [ent_arr hs] at hca
  have hca : H[G.b + o]? = some (vp_cell (G.dA t) (n, arw G.b M o t)) := hca
  have ea : ∀ M' : Mm, arw G.b M' o t = .inr (.inr (.inr (.inr (fun i => (M'.2.2.1 o i).map (G.b + ·))))) := by
    intro M'
    rcases (show t = 4 ∨ t = 5 ∨ t = 6 by omega) with rfl | rfl | rfl <;> rfl
  rw [ea, vp_cell_q] at hca
  have hcq := hR.P q _ (ws_at hq)
  rw [ent_obj hsq] at hcq
  obtain ⟨r', hr', cellV, g1, g2, g3, -⟩ := hcq
  have hcls := (hK.1.1 ci _ hc).2
  obtain ⟨kA, comp, k1, k2, k3, -⟩ := (hK.1.2 t _ hg.2.2).2
  have hcomp : comp = G.D.1 ci := Option.some.inj (k3.symm.trans hcls.1)
  subst hcomp
  obtain ⟨kC, hkC, -⟩ := hcls.2
  refine W.aast hx hb hca (fun q h => by cases h) (fun h => by cases h) k1 k2 rfl hkC ⟨h0, by rw [arrV_size]; exact hlt⟩ g1 (fun q h => by rw [g3] at h; cases h) (by rw [g2]; exact hkC) (by rw [g2]; exact va_assign hcls) rfl rfl hd fun H1 e1 z oq => ?_
  refine kk (sR M o i.toNatClampNeg (some q)) rfl rfl p e s m args below meth c H1 _ ls X (hR.set (M' := sR M o i.toNatClampNeg (some q)) rfl z oq ?_ (fun a ha => ent_congr rfl rfl (sR_ne ha))) (hS.put z oq (Nat.le_add_right _ _)) hl
  rw [ent_arr hs]
  show H1[G.b + o]? = some (vp_cell (G.dA t) (n, arw G.b _ o t))
  rw [e1, ea, vp_cell_q, arrV_store, sR_at]
  congr 2
  funext j
  by_cases hj : j = i.toNatClampNeg <;> simp [updV, upR, va_rf, hj]
theorem tw_putRF {idx ci k o q : Nat} {t : FieldType} (hf : fOK Y.y.cls idx ci k) (ho : o < M.2.2.2) (hs : sh o = some (.inr ci)) (hfin : fFin ci k = false ∨ Y.y = ⟨(cls.getD ci ("", fun _ => ("", "", "", true), 0)).1, "<init>", "()V"⟩) (ht : tyc ci k = t ∧ t.isReference = true) (hd : decode Y.cc pc = .ok (.putfield idx, 3)) (kk : ∀ N', N' = sR M o k (some q) → N'.2.2.2 = M.2.2.2 → T G Y d Q ce sl (pc + 3) lv st N') : T G Y d Q ce sl pc lv (.ref (G.b + q) :: .ref (G.b + o) :: st) M := by
  obtain ⟨ht, hr⟩ := ht
  refine tw_put0 hf hs ho hfin ?_ ?_ (M' := sR M o k (some q)) rfl (fun j => ?_) (fun a ha => ⟨rfl, rfl, sR_ne ha⟩) hd (kk _ rfl rfl)
  · rw [ht]; cases t <;> first | rfl | (simp [FieldType.isReference] at hr; done)
  · rw [ht]; cases t <;> first | rfl | (simp [FieldType.isReference] at hr; done)
  · by_cases hj : j = k
    · subst hj
      rw [if_pos rfl, ht]
      cases t <;> first | (simp [FieldType.isReference] at hr; done) | simp [fvl, sR, upR, va_rf]
    · rw [if_neg hj]
      cases htt : tyc ci j <;> simp [fvl, sR, upR, hj]
theorem tw_putIF {idx ci k o : Nat} {x : Int32} (hf : fOK Y.y.cls idx ci k) (ho : o < M.2.2.2) (hs : sh o = some (.inr ci)) (hfin : fFin ci k = false) (ht : tyc ci k = .int) (hd : decode Y.cc pc = .ok (.putfield idx, 3)) (kk : ∀ N', N' = sI M o k x → N'.2.2.2 = M.2.2.2 → T G Y d Q ce sl (pc + 3) lv st N') : T G Y d Q ce sl pc lv (.int x :: .ref (G.b + o) :: st) M := by
  refine tw_put0 hf hs ho (Or.inl hfin) (by rw [ht]; rfl) (by rw [ht]; rfl) (M' := sI M o k x) rfl (fun j => ?_) (fun a ha => ⟨sI_ne ha, rfl, rfl⟩) hd (kk _ rfl rfl)
  by_cases hj : j = k
  · subst hj
    rw [if_pos rfl, ht]
    show Value.int ((sI M o j x).1 o j) = _
    rw [sI_at]
    simp [upd]
  · rw [if_neg hj]
    cases htt : tyc ci j <;> simp [fvl, sI_at, upd, hj, sI]
theorem tw_getRF {idx ci k o q : Nat} {t : FieldType} (hf : fOK Y.y.cls idx ci k) (ho : o < M.2.2.2) (hs : sh o = some (.inr ci)) (ht : tyc ci k = t ∧ t.isReference = true) (hq : M.2.2.1 o k = some q) (hd : decode Y.cc pc = .ok (.getfield idx, 3)) (kk : T G Y d Q ce sl (pc + 3) lv (.ref (G.b + q) :: st) M) : T G Y d Q ce sl pc lv (.ref (G.b + o) :: st) M := by
  refine tw_get0 hf hs ho hd ?_
  obtain ⟨ht, hr⟩ := ht
  rw [ht]
  cases t <;> first | (simp [FieldType.isReference] at hr; done) | (unfold fvl; rw [hq]; exact kk)
theorem tw_lastF {o n : Nat} {i : Int32} {x : Int64} (ho : o < M.2.2.2) (hs : sh o = some (.inl (1, n))) (hd : decode Y.cc pc = .ok (.lastore, 1)) (hin : vp_in i n) (kk : ∀ N', N' = sJ M o i.toNatClampNeg x → N'.2.2.2 = M.2.2.2 → T G Y d Q ce sl (pc + 1) lv st N') : T G Y d Q ce sl pc lv (.long x :: .int i :: .ref (G.b + o) :: st) M := by
  intro p e s m args below meth cd H locs ls X hR hS hl
  have hc := hR.P o _ (ws_at ho)
  rw [ent_arr hs] at hc
  have hc : H[G.b + o]? = some (arrV (G.dA 1) n (fun j => .long (M.2.1 o j))) := hc
  refine W.last X.1 X.2.1 hc ((X.2.2.2.2.2.2.2.1.1.2 1 _ rfl).1 n _) (fun q => by cases q) (by rw [arrV_size]; exact hin) rfl rfl hd fun H1 e1 z oq => ?_
  refine kk _ rfl rfl p e s m args below meth cd H1 _ ls X (hR.set (M' := sJ M o i.toNatClampNeg x) rfl z oq ?_ (fun a ha => ent_congr rfl (sJ_ne ha) rfl)) (hS.put z oq (Nat.le_add_right _ _)) hl
  rw [ent_arr hs]
  show H1[G.b + o]? = some (vp_cell _ (n, .inr (.inl ((sJ M o i.toNatClampNeg x).2.1 o))))
  rw [e1, vp_cell_l, arrV_store, sJ_at]
  congr 2
  funext q
  by_cases hq : q = i.toNatClampNeg <;> simp [updV, vp_updL, hq]
theorem tw_objinit {idx o : Nat} (hw : Cond.methodLink Y.y.cls idx objectInit ∈ lw_good ∧ Cond.instanceMethod objectInit ∈ lw_good ∧ Cond.code objectInit ⟨#[0xb1]⟩ 1 none ∈ lw_good) (hst : (st.map fun v => v.category).sum ≤ 8) (hd : decode Y.cc pc = .ok (.invokespecial idx, 3)) (kk : T G Y (d + 1) Q ce sl (pc + 3) lv st M) : T G Y (d + 1) Q ce sl pc lv (.ref (G.b + o) :: st) M := by
  intro p e s m args below meth c H locs ls X hR hS hl
  obtain ⟨hx, hb, -, -, hml, hown, hts, hK, -, -, -⟩ := id X
  exact W.objInit hx hb hown (hts _ (List.mem_cons_of_mem _ hw.1)) (hts _ (List.mem_cons_of_mem _ hw.2.1)) (hts _ (List.mem_cons_of_mem _ hw.2.2)) rfl (by rw [hml]; exact hl.1) rfl hd (show 1 ≤ d + 1 by omega) (show 2 * 0 + _ + 12 ≤ 40 * (d + 1) by omega) (kk p e s m args below meth c H locs ls X hR hS hl)
def ciOK (n : Nat) (Z : MY) : Prop := (Cond.instanceMethod Z.y ∈ lw_good ∧ Cond.initialized Z.y.cls ∈ lw_good ∧ Cond.code Z.y Z.cc Z.nL Z.rt ∈ lw_good) ∧ (Z.y.cls ≠ "java/lang/invoke/MethodHandle" ∧ Z.y.cls ≠ "java/lang/invoke/VarHandle") ∧ (parseMethodDescriptor Z.y.desc).map (fun d => d.parameters.length) = some n ∧ Z.nL ≤ 21 ∧ Z.y.name = "<init>" ∧ Z.rt = none
theorem tw_callI {idx o n : Nat} {As : List Value} {Q' : Mm → Prop} (cw : ciOK n Z) (hl0 : Cond.methodLink Y.y.cls idx Z.y ∈ lw_good) (hn : As.length = n) (hst : (st.map fun v => v.category).sum ≤ 8) (hz : ce + Z.mc ≤ Y.mc ∧ sl + Z.ms ≤ Y.ms) (hd : decode Y.cc pc = .ok (.invokespecial idx, 3)) (hC : C G Z d (.ref (G.b + o) :: As) M (Rv Q'))
    (kk : ∀ M', Q' M' → T G Y (d + 1) Q (ce + Z.mc) (sl + Z.ms) (pc + 3) lv st M') : T G Y (d + 1) Q ce sl pc lv (As.reverse ++ .ref (G.b + o) :: st) M := by
  intro p e s m args below meth cd H locs ls X hR hS hl
  obtain ⟨⟨w2, w3, w4⟩, h3, h4, h5, h6, h7⟩ := cw
  obtain ⟨d0, hd0, hM⟩ := hC
  obtain ⟨hx, hb, -, -, hml, hown, hts, hK, -, -, -⟩ := id X
  refine runC (va_runI (n := n) (index := idx) (As := As) (rest := st) (bytes := Z.cc) (maxL := Z.nL) (mc := Z.mc) (ms := Z.ms) ⟨hx, hb, hml, hown, hts⟩ hM (cwI n hts (gin w4) (by rw [← h7]) rfl rfl (hts _ (List.mem_cons_of_mem _ w3)) (hts _ (List.mem_cons_of_mem _ hl0)) (hts _ (List.mem_cons_of_mem _ w2)) h6 ⟨h3.1, h3.2, h4⟩ ⟨?_, ?_⟩) ⟨blindC _ _, preC X hR hS _⟩ rfl hn hl.1 rfl ?_ hd hz) hS (fun r M' H' locs' hq hR' hS' => ?_)
  · show d0 + 1 ≤ d + 1
    omega
  · show 8 + (Z.nL + 11) + 40 * d0 ≤ 40 * (d + 1)
    omega
  · show 2 * 0 + _ ≤ 8
    omega
  · obtain ⟨rfl, hq⟩ := hq
    exact kk M' hq p e s m args below meth cd H' locs' ls X hR' hS' hl
theorem tw_callIN {idx o n : Nat} {host : String} {As : List Value} {Q' : Mm → Prop} (cw : ciOK n Z) (hN : ∀ U, G.X U → va_Nw (.methodLinkNest Y.y.cls idx Z.y host) U) (hn : As.length = n) (hst : (st.map fun v => v.category).sum ≤ 8) (hz : ce + Z.mc ≤ Y.mc ∧ sl + Z.ms ≤ Y.ms) (hd : decode Y.cc pc = .ok (.invokespecial idx, 3)) (hC : C G Z d (.ref (G.b + o) :: As) M (Rv Q'))
    (kk : ∀ M', Q' M' → T G Y (d + 1) Q (ce + Z.mc) (sl + Z.ms) (pc + 3) lv st M') : T G Y (d + 1) Q ce sl pc lv (As.reverse ++ .ref (G.b + o) :: st) M := by
  intro p e s m args below meth cd H locs ls X hR hS hl
  obtain ⟨⟨w2, w3, w4⟩, h3, h4, h5, h6, h7⟩ := cw
  obtain ⟨d0, hd0, hM⟩ := hC
  obtain ⟨hx, hb, -, -, hml, hown, hts, hK, -, -, -⟩ := id X
  refine runC (va_runIN (n := n) (host := host) (index := idx) (As := As) (rest := st) (bytes := Z.cc) (maxL := Z.nL) (mc := Z.mc) (ms := Z.ms) ⟨hx, hb, hml, hown, hts⟩ hM ⟨va_cnB n hts (gin w4) (by rw [← h7]) rfl rfl (hN s hK.2.1) (hts _ (List.mem_cons_of_mem _ w3)) ⟨h3.1, h3.2, h4⟩ ⟨?_, ?_⟩, h6, hts _ (List.mem_cons_of_mem _ w2)⟩ ⟨blindC _ _, preC X hR hS _⟩ rfl hn hl.1 rfl ?_ hd hz) hS (fun r M' H' locs' hq hR' hS' => ?_)
  · show d0 + 1 ≤ d + 1
    omega
  · show 8 + (Z.nL + 11) + 40 * d0 ≤ 40 * (d + 1)
    omega
  · show 2 * 0 + _ ≤ 8
    omega
  · obtain ⟨rfl, hq⟩ := hq
    exact kk M' hq p e s m args below meth cd H' locs' ls X hR' hS' hl
end
