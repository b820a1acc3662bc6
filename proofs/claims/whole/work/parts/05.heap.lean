/-! fields, arrays, calls -/
theorem Rl.P {G : MG} {M : Mm} {H : Heap} (h : Rl G M H) : va_P G.D cls (wsOf G M) H := h.1
theorem ent_obj {G : MG} {M : Mm} {o ci : Nat} (hs : sh o = some (.inr ci)) : ent G M o = .inr (ci, (List.range (nfc ci)).map (fun j => fvl G.b M o (tyc ci j) j)) := by
  unfold ent
  rw [hs]
theorem ent_arr {G : MG} {M : Mm} {o t n : Nat} (hs : sh o = some (.inl (t, n))) : ent G M o = .inl (G.dA t, n, arw G.b M o t) := by
  unfold ent
  rw [hs]
theorem sh_lt {o : Nat} {x : (Nat × Nat) ⊕ Nat} (h : sh o = some x) : o < NC := by
  rcases Nat.lt_or_ge o NC with q | q
  · exact q
  · unfold sh at h
    rw [List.getD_eq_getElem?_getD, List.getElem?_eq_none (show shL.length ≤ o from q)] at h
    cases h
/-- the world stands: what points where, all cells are there -/
def Lay (c : Nat) (M : Mm) : Prop := M.2.2 = (RF c, NC)
theorem Lay.lt {c : Nat} {M : Mm} (h : Lay c M) {o : Nat} {x : (Nat × Nat) ⊕ Nat} (hs : sh o = some x) : o < M.2.2.2 := by
  unfold Lay at h
  rw [h]
  exact sh_lt hs
theorem Lay.rf {c : Nat} {M : Mm} (h : Lay c M) (o k : Nat) : M.2.2.1 o k = RF c o k := by
  unfold Lay at h
  rw [h]
theorem Lay.to {c : Nat} {M N : Mm} (h : Lay c M) (e : N.2.2 = M.2.2) : Lay c N := e.trans h
theorem Rl.set {G : MG} {M M' : Mm} {o : Nat} {H H' : Heap} (h : Rl G M H) (hn : M'.2.2.2 = M.2.2.2) (hz : H'.size = H.size) (hq : ∀ q : Nat, q ≠ G.b + o → H'[q]? = H[q]?) (hat : va_at G.D cls (G.b + o, ent G M' o) H') (hM : ∀ a, a ≠ o → ent G M' a = ent G M a) : Rl G M' H' := by
  refine ⟨fun k q hk => ?_, by rw [hn]; exact h.2.1, fun hl => by rw [hz, hn]; exact h.2.2.1 (by rw [← hn]; exact hl), by rw [hz]; exact h.2.2.2⟩
  obtain ⟨hk1, rfl⟩ := ws_lt hk
  by_cases hko : k = o
  · subst hko
    exact hat
  · have h2 := h.1 k _ (ws_at (by rw [← hn]; exact hk1))
    rw [← hM k hko] at h2
    exact h2.kept (hq _ (by show G.b + k ≠ G.b + o; omega))
/-- a field of a class, as a method of 'own' names it by the entry idx -/
def fOK (own : String) (idx ci k : Nat) : Prop := ∃ (C : String) (Tb : u_T) (N : Nat), cls[ci]? = some (C, Tb, N) ∧ nfc ci = N ∧ k < N ∧ Cond.fieldLink own idx (Tb k).1 (Tb k).2.1 (Tb k).2.2.1 ∈ lw_good ∧ (∀ w ∈ u_ws C Tb N, w ∈ lw_good) ∧ (∀ k, k < N → parseFieldDescriptor (Tb k).2.2.1 = some (tyc ci k)) ∧ (∀ a, a < N → ∀ b, b < N → a ≠ b → (Tb a).2.1 ≠ (Tb b).2.1) ∧ (Tb k).1 = C
def fFin (ci k : Nat) : Bool := match cls[ci]? with
  | some q => (q.2.1 k).2.2.2
  | none => true
section
variable {G : MG} {Y : MY} {d : Nat} {Q : Option Value → Mm → Prop} {ce sl pc : Nat} {lv : List (Nat × Value)} {st : List Value} {M : Mm}
theorem tw_get0 {idx ci k o : Nat} (hf : fOK Y.y.cls idx ci k) (hs : sh o = some (.inr ci)) (ho : o < M.2.2.2) (hd : decode Y.cc pc = .ok (.getfield idx, 3)) (kk : T G Y d Q ce sl (pc + 3) lv (fvl G.b M o (tyc ci k) k :: st) M) : T G Y d Q ce sl pc lv (.ref (G.b + o) :: st) M := by
  intro p e s m args below meth c H locs ls X hR hS hl
  obtain ⟨C, Tb, N, h1, h2, h3, h4, h5, h6, h7, -⟩ := hf
  obtain ⟨hx, hb, -, -, -, hown, hts, hK, -, -, -⟩ := id X
  refine va_get (D := G.D) (ci := ci) (C := C) (T := Tb) (N := N) (index := idx) (v := fvl G.b M o (tyc ci k) k) hx hb hts (fun w hw => List.mem_cons_of_mem _ (h5 w hw)) hown hK.1 hR.P o (by rw [ws_at ho, ent_obj hs]) h1 k h3 (hts _ (List.mem_cons_of_mem _ h4)) (fun _ h9 => h9) ?_ hd (kk p e s m args below meth c H locs ls X hR hS hl)
  rw [List.getElem?_map, List.getElem?_range (by omega)]
  rfl
theorem fv_set {b : Nat} {M M' : Mm} {o ci k N : Nat} {v : Value} (hN : nfc ci = N) (hMo : ∀ j, fvl b M' o (tyc ci j) j = if j = k then v else fvl b M o (tyc ci j) j) : ((List.range (nfc ci)).map (fun j => fvl b M o (tyc ci j) j)).set k v = (List.range (nfc ci)).map (fun j => fvl b M' o (tyc ci j) j) := by
  rw [rset]
  apply List.map_congr_left
  intro j _
  rw [hMo j]
theorem tw_put0 {idx ci k o : Nat} {v : Value} {M' : Mm} (hf : fOK Y.y.cls idx ci k) (hs : sh o = some (.inr ci)) (ho : o < M.2.2.2) (hfin : fFin ci k = false ∨ Y.y = ⟨(cls.getD ci ("", fun _ => ("", "", "", true), 0)).1, "<init>", "()V"⟩) (hn : narrow (tyc ci k) v = v) (hfit : fits (tyc ci k) v = true)
    (hM0 : M'.2.2.2 = M.2.2.2) (hMo : ∀ j, fvl G.b M' o (tyc ci j) j = if j = k then v else fvl G.b M o (tyc ci j) j) (hMa : ∀ a, a ≠ o → M'.1 a = M.1 a ∧ M'.2.1 a = M.2.1 a ∧ M'.2.2.1 a = M.2.2.1 a)
    (hd : decode Y.cc pc = .ok (.putfield idx, 3)) (kk : T G Y d Q ce sl (pc + 3) lv st M') : T G Y d Q ce sl pc lv (v :: .ref (G.b + o) :: st) M := by
  intro p e s m args below meth c H locs ls X hR hS hl
  obtain ⟨C, Tb, N, h1, h2, h3, h4, h5, h6, h7, h8⟩ := hf
  obtain ⟨hx, hb, -, -, -, hown, hts, hK, hnm, -, -⟩ := id X
  have hin : ∀ w ∈ u_ws C Tb N, w ∈ wsT := fun w hw => List.mem_cons_of_mem _ (h5 w hw)
  have hap := va_apart (own := Y.y.cls) hts hin (tyc ci) h6 h7 hK.1 h1
  have he : (wsOf G M)[o]? = some (G.b + o, .inr (ci, (List.range (nfc ci)).map (fun j => fvl G.b M o (tyc ci j) j))) := by rw [ws_at ho, ent_obj hs]
  obtain ⟨r, g1, cell, q1, q2, q3, q4⟩ := hR.P o _ he
  have hr : r = (C, Tb, N) := Option.some.inj (g1.symm.trans h1)
  subst hr
  obtain ⟨hSl, hfc, kC, hkC, hkind⟩ := hK.1.1 ci _ h1
  obtain ⟨cf, kf, fi, f, hi, hsl⟩ := hSl k h3
  have hlay := hts _ (hin _ (u_in_lay h3))
  unfold u_lay at hlay
  have hst := (u_facts hfc hkC (u_lays hts hin h3) hi).1
  have hlen : k < ((List.range (nfc ci)).map (fun j => fvl G.b M o (tyc ci j) j)).length := by simp; omega
  have fin : ∀ H' : Heap, H'[G.b + o]? = some (cell.setSlot f.slot v) → H'.size = H.size → (∀ q, q ≠ G.b + o → H'[q]? = H[q]?) → W p G.l e (rmD d Y.mc Y.ms) s m args below meth c H' (locs ++ [⟨G.b + o, f.slot⟩]) ce sl (vx_MQ below (QcG G Q) (XcG G Q) args s Y.mc Y.ms (gA G)) (F0 m (pc + 3) ls st) := by
    intro H' e1 e2 e3
    rw [hsl] at e1
    refine kk p e s m args below meth c H' _ ls X (hR.set hM0 e2 e3 ?_ (fun a ha => ent_congr (hMa a ha).1 (hMa a ha).2.1 (hMa a ha).2.2)) (hS.put e2 e3 (Nat.le_add_right _ _)) hl
    rw [ent_obj hs, ← fv_set h2 hMo]
    exact ⟨_, h1, t_OB.to (V := updV (vp_V _) k v) ⟨_, e1, q2, q3, t_set q4 hap h3 v⟩ (fun j _ => vp_updV_set hlen v j)⟩
  by_cases hf2 : (Tb k).2.2.2 = true
  · rw [if_pos hf2] at hlay
    have hY : Y.y = ⟨C, "<init>", "()V"⟩ := by
      rcases hfin with h | h
      · unfold fFin at h
        rw [h1] at h
        rw [show (Tb k).2.2.2 = false from h] at hf2
        cases hf2
      · rw [h, List.getD_eq_getElem?_getD, h1]
        rfl
    have hcf : m.cls = cf := by
      obtain ⟨_, _, c', _, _, _, -, -, hf', -, -, -, hown2, -⟩ := Cond.laysFinal_spec hlay
      have e1 : c' = cf := by have := hi.symm.trans hf'; simp at this; exact this.1.symm
      rw [h8] at hown2
      rw [hY] at hown
      rw [← e1]; exact Option.some.inj (hown.symm.trans hown2)
    have h6' := u_fits hfc hkC hkind (Or.inr hlay) hi (h6 k h3) hn hfit
    refine W.putFinK hx hb hown (hts _ (List.mem_cons_of_mem _ h4)) hi hst hcf (by rw [hnm, hY]) (by rw [q2]; exact h6') q1 q3 (by rw [hsl]; exact k2_hasslot (q4 k h3)) rfl rfl hd fin
  · rw [if_neg hf2] at hlay
    have h6' := u_store hfc hkC hkind hlay hi (h6 k h3) hn hfit
    exact W.putK hx hb (f := f) ⟨hown, hts _ (List.mem_cons_of_mem _ h4), ⟨_, _, _, hi⟩, hst⟩ (by rw [q2]; exact h6') q1 q3 (by rw [hsl]; exact k2_hasslot (q4 k h3)) rfl rfl hd fin
theorem tw_iald {c o n : Nat} {i : Int32} (hL : Lay c M) (hs : sh o = some (.inl (0, n))) (hd : decode Y.cc pc = .ok (.iaload, 1)) (hin : vp_in i n) (kk : T G Y d Q ce sl (pc + 1) lv (.int (M.1 o i.toNatClampNeg) :: st) M) : T G Y d Q ce sl pc lv (.int i :: .ref (G.b + o) :: st) M := by
  intro p e s m args below meth cd H locs ls X hR hS hl
  exact va_iald X.1 X.2.1 X.2.2.2.2.2.2.2.1.1 hR.P o 0 (by rw [ws_at (hL.lt hs), ent_arr hs]; rfl) rfl hin hd (kk p e s m args below meth cd H locs ls X hR hS hl)
theorem tw_lald {c o n : Nat} {i : Int32} (hL : Lay c M) (hs : sh o = some (.inl (1, n))) (hd : decode Y.cc pc = .ok (.laload, 1)) (hin : vp_in i n) (kk : T G Y d Q ce sl (pc + 1) lv (.long (M.2.1 o i.toNatClampNeg) :: st) M) : T G Y d Q ce sl pc lv (.int i :: .ref (G.b + o) :: st) M := by
  intro p e s m args below meth cd H locs ls X hR hS hl
  exact va_lald X.1 X.2.1 X.2.2.2.2.2.2.2.1.1 hR.P o 1 (by rw [ws_at (hL.lt hs), ent_arr hs]; rfl) rfl hin hd (kk p e s m args below meth cd H locs ls X hR hS hl)
theorem tw_cald {c o n : Nat} {i : Int32} (hL : Lay c M) (hs : sh o = some (.inl (2, n))) (hd : decode Y.cc pc = .ok (.caload, 1)) (hin : vp_in i n) (kk : T G Y d Q ce sl (pc + 1) lv (.int (M.1 o i.toNatClampNeg) :: st) M) : T G Y d Q ce sl pc lv (.int i :: .ref (G.b + o) :: st) M := by
  intro p e s m args below meth cd H locs ls X hR hS hl
  exact va_cald X.1 X.2.1 X.2.2.2.2.2.2.2.1.1 hR.P o 2 (by rw [ws_at (hL.lt hs), ent_arr hs]; rfl) rfl hin hd (kk p e s m args below meth cd H locs ls X hR hS hl)
theorem tw_zald {c o n : Nat} {i : Int32} (hL : Lay c M) (hs : sh o = some (.inl (3, n))) (hd : decode Y.cc pc = .ok (.baload, 1)) (hin : vp_in i n) (kk : T G Y d Q ce sl (pc + 1) lv (.int (M.1 o i.toNatClampNeg) :: st) M) : T G Y d Q ce sl pc lv (.int i :: .ref (G.b + o) :: st) M := by
  intro p e s m args below meth cd H locs ls X hR hS hl
  exact va_zald X.1 X.2.1 X.2.2.2.2.2.2.2.1.1 hR.P o 3 (by rw [ws_at (hL.lt hs), ent_arr hs]; rfl) rfl hin hd (kk p e s m args below meth cd H locs ls X hR hS hl)
theorem tw_aald {c o n t q : Nat} {i : Int32} (hL : Lay c M) (hs : sh o = some (.inl (t, n))) (ht : 4 ≤ t ∧ t ≤ 7) (hq : RF c o i.toNatClampNeg = some q) (hd : decode Y.cc pc = .ok (.aaload, 1)) (hin : vp_in i n) (kk : T G Y d Q ce sl (pc + 1) lv (.ref (G.b + q) :: st) M) : T G Y d Q ce sl pc lv (.int i :: .ref (G.b + o) :: st) M := by
  intro p e s m args below meth cd H locs ls X hR hS hl
  have hlt : i.toNatClampNeg < n := Nat.not_le.mp fun q => hin (Or.inr q)
  have hc := hR.P o _ (ws_at (hL.lt hs))
  rw [ent_arr hs] at hc
  have hc : H[G.b + o]? = some (vp_cell (G.dA t) (n, arw G.b M o t)) := hc
  have ea : arw G.b M o t = .inr (.inr (.inr (.inr (fun i => (M.2.2.1 o i).map (G.b + ·))))) := by
    rcases (show t = 4 ∨ t = 5 ∨ t = 6 ∨ t = 7 by omega) with rfl | rfl | rfl | rfl <;> rfl
  rw [ea, vp_cell_q] at hc
  have hK : ∃ ty : FieldType, (gtys G)[t]? = some (G.dA t, ty) ∧ ty.isReference = true := by
    rcases (show t = 4 ∨ t = 5 ∨ t = 6 ∨ t = 7 by omega) with rfl | rfl | rfl | rfl <;> exact ⟨_, rfl, rfl⟩
  obtain ⟨ty, hty, href⟩ := hK
  refine W.aald (v := .ref (G.b + q)) (ty := ty) X.1 X.2.1 hc ((X.2.2.2.2.2.2.2.1.1.2 t _ hty).1 n _) href (fun q => by cases q) (by rw [arrV_size]; exact hin) ?_ rfl rfl hd (kk p e s m args below meth cd H locs ls X hR hS hl)
  rw [arrV_read _ _ hlt, hL.rf, hq]
  rfl
theorem tw_iast {c o n : Nat} {i x : Int32} (hL : Lay c M) (hs : sh o = some (.inl (0, n))) (hd : decode Y.cc pc = .ok (.iastore, 1)) (hin : vp_in i n) (kk : T G Y d Q ce sl (pc + 1) lv st (sI M o i.toNatClampNeg x)) : T G Y d Q ce sl pc lv (.int x :: .int i :: .ref (G.b + o) :: st) M := by
  intro p e s m args below meth cd H locs ls X hR hS hl
  have hc := hR.P o _ (ws_at (hL.lt hs))
  rw [ent_arr hs] at hc
  have hc : H[G.b + o]? = some (arrV (G.dA 0) n (fun j => .int (M.1 o j))) := hc
  refine W.iast X.1 X.2.1 hc ((X.2.2.2.2.2.2.2.1.1.2 0 _ rfl).1 n _) (fun q => by cases q) (by rw [arrV_size]; exact hin) rfl rfl hd fun H1 e1 z oq => ?_
  refine kk p e s m args below meth cd H1 _ ls X (hR.set (M' := sI M o i.toNatClampNeg x) rfl z oq ?_ (fun a ha => ent_congr (sI_ne ha) rfl rfl)) (hS.put z oq (Nat.le_add_right _ _)) hl
  rw [ent_arr hs]
  show H1[G.b + o]? = some (vp_cell _ (n, .inl ((sI M o i.toNatClampNeg x).1 o)))
  rw [e1, vp_cell_i, arrV_store, sI_at]
  congr 2
  funext q
  by_cases hq : q = i.toNatClampNeg <;> simp [updV, upd, hq]
theorem tw_last {c o n : Nat} {i : Int32} {x : Int64} (hL : Lay c M) (hs : sh o = some (.inl (1, n))) (hd : decode Y.cc pc = .ok (.lastore, 1)) (hin : vp_in i n) (kk : T G Y d Q ce sl (pc + 1) lv st (sJ M o i.toNatClampNeg x)) : T G Y d Q ce sl pc lv (.long x :: .int i :: .ref (G.b + o) :: st) M := by
  intro p e s m args below meth cd H locs ls X hR hS hl
  have hc := hR.P o _ (ws_at (hL.lt hs))
  rw [ent_arr hs] at hc
  have hc : H[G.b + o]? = some (arrV (G.dA 1) n (fun j => .long (M.2.1 o j))) := hc
  refine W.last X.1 X.2.1 hc ((X.2.2.2.2.2.2.2.1.1.2 1 _ rfl).1 n _) (fun q => by cases q) (by rw [arrV_size]; exact hin) rfl rfl hd fun H1 e1 z oq => ?_
  refine kk p e s m args below meth cd H1 _ ls X (hR.set (M' := sJ M o i.toNatClampNeg x) rfl z oq ?_ (fun a ha => ent_congr rfl (sJ_ne ha) rfl)) (hS.put z oq (Nat.le_add_right _ _)) hl
  rw [ent_arr hs]
  show H1[G.b + o]? = some (vp_cell _ (n, .inr (.inl ((sJ M o i.toNatClampNeg x).2.1 o))))
  rw [e1, vp_cell_l, arrV_store, sJ_at]
  congr 2
  funext q
  by_cases hq : q = i.toNatClampNeg <;> simp [updV, vp_updL, hq]
theorem vp_narI {ty : FieldType} (hty : ty = .char ∨ ty = .boolean) (x : Int32) : narrow ty (.int x) = .int (vp_nar ty x) := by
  rcases hty with rfl | rfl <;> rfl
theorem tw_cast {c o n : Nat} {i x : Int32} (hL : Lay c M) (hs : sh o = some (.inl (2, n))) (hd : decode Y.cc pc = .ok (.castore, 1)) (hin : vp_in i n) (kk : T G Y d Q ce sl (pc + 1) lv st (sI M o i.toNatClampNeg (vp_nar .char x))) : T G Y d Q ce sl pc lv (.int x :: .int i :: .ref (G.b + o) :: st) M := by
  intro p e s m args below meth cd H locs ls X hR hS hl
  have hc := hR.P o _ (ws_at (hL.lt hs))
  rw [ent_arr hs] at hc
  have hc : H[G.b + o]? = some (arrV (G.dA 2) n (fun j => .int (M.1 o j))) := hc
  refine W.cast X.1 X.2.1 hc ((X.2.2.2.2.2.2.2.1.1.2 2 _ rfl).1 n _) (fun q => by cases q) (by rw [arrV_size]; exact hin) rfl rfl hd fun H1 e1 z oq => ?_
  refine kk p e s m args below meth cd H1 _ ls X (hR.set (M' := sI M o i.toNatClampNeg (vp_nar .char x)) rfl z oq ?_ (fun a ha => ent_congr (sI_ne ha) rfl rfl)) (hS.put z oq (Nat.le_add_right _ _)) hl
  rw [ent_arr hs]
  show H1[G.b + o]? = some (vp_cell _ (n, .inl ((sI M o i.toNatClampNeg (vp_nar .char x)).1 o)))
  rw [e1, vp_cell_i, arrV_store, sI_at, vp_narI (Or.inl rfl)]
  congr 2
  funext q
  by_cases hq : q = i.toNatClampNeg <;> simp [updV, upd, hq]
theorem tw_zast {c o n : Nat} {i x : Int32} (hL : Lay c M) (hs : sh o = some (.inl (3, n))) (hd : decode Y.cc pc = .ok (.bastore, 1)) (hin : vp_in i n) (kk : T G Y d Q ce sl (pc + 1) lv st (sI M o i.toNatClampNeg (vp_nar .boolean x))) : T G Y d Q ce sl pc lv (.int x :: .int i :: .ref (G.b + o) :: st) M := by
  intro p e s m args below meth cd H locs ls X hR hS hl
  have hc := hR.P o _ (ws_at (hL.lt hs))
  rw [ent_arr hs] at hc
  have hc : H[G.b + o]? = some (arrV (G.dA 3) n (fun j => .int (M.1 o j))) := hc
  refine W.zast X.1 X.2.1 hc ((X.2.2.2.2.2.2.2.1.1.2 3 _ rfl).1 n _) (fun q => by cases q) (by rw [arrV_size]; exact hin) rfl rfl hd fun H1 e1 z oq => ?_
  refine kk p e s m args below meth cd H1 _ ls X (hR.set (M' := sI M o i.toNatClampNeg (vp_nar .boolean x)) rfl z oq ?_ (fun a ha => ent_congr (sI_ne ha) rfl rfl)) (hS.put z oq (Nat.le_add_right _ _)) hl
  rw [ent_arr hs]
  show H1[G.b + o]? = some (vp_cell _ (n, .inl ((sI M o i.toNatClampNeg (vp_nar .boolean x)).1 o)))
  rw [e1, vp_cell_i, arrV_store, sI_at, vp_narI (Or.inr rfl)]
  congr 2
  funext q
  by_cases hq : q = i.toNatClampNeg <;> simp [updV, upd, hq]
theorem tw_alen {c o n t : Nat} {v : Int32} (hL : Lay c M) (hs : sh o = some (.inl (t, n))) (ht : t < 8) (hv : Int32.ofNat n = v) (hd : decode Y.cc pc = .ok (.arraylength, 1)) (kk : T G Y d Q ce sl (pc + 1) lv (.int v :: st) M) : T G Y d Q ce sl pc lv (.ref (G.b + o) :: st) M := by
  intro p e s m args below meth cd H locs ls X hR hS hl
  have hK : ∃ ty : FieldType, (gtys G)[t]? = some (G.dA t, ty) := by
    rcases (show t = 0 ∨ t = 1 ∨ t = 2 ∨ t = 3 ∨ t = 4 ∨ t = 5 ∨ t = 6 ∨ t = 7 by omega) with rfl | rfl | rfl | rfl | rfl | rfl | rfl | rfl <;> exact ⟨_, rfl⟩
  obtain ⟨ty, hty⟩ := hK
  exact va_alen X.1 X.2.1 X.2.2.2.2.2.2.2.1.1 hR.P o t (by rw [ws_at (hL.lt hs), ent_arr hs]) hty hv hd (kk p e s m args below meth cd H locs ls X hR hS hl)
/-- getfield by the field's type -/
theorem tw_getI {c idx ci k o : Nat} (hf : fOK Y.y.cls idx ci k) (hL : Lay c M) (hs : sh o = some (.inr ci)) (ht : tyc ci k = .int ∨ tyc ci k = .boolean) (hd : decode Y.cc pc = .ok (.getfield idx, 3)) (kk : T G Y d Q ce sl (pc + 3) lv (.int (M.1 o k) :: st) M) : T G Y d Q ce sl pc lv (.ref (G.b + o) :: st) M := by
  refine tw_get0 hf hs (hL.lt hs) hd ?_
  rcases ht with ht | ht <;> (rw [ht]; exact kk)
theorem tw_getJ {c idx ci k o : Nat} (hf : fOK Y.y.cls idx ci k) (hL : Lay c M) (hs : sh o = some (.inr ci)) (ht : tyc ci k = .long) (hd : decode Y.cc pc = .ok (.getfield idx, 3)) (kk : T G Y d Q ce sl (pc + 3) lv (.long (M.2.1 o k) :: st) M) : T G Y d Q ce sl pc lv (.ref (G.b + o) :: st) M := by
  refine tw_get0 hf hs (hL.lt hs) hd ?_
  rw [ht]
  exact kk
theorem tw_getR {c idx ci k o q : Nat} {t : FieldType} (hf : fOK Y.y.cls idx ci k) (hL : Lay c M) (hs : sh o = some (.inr ci)) (ht : tyc ci k = t ∧ t.isReference = true) (hq : RF c o k = some q) (hd : decode Y.cc pc = .ok (.getfield idx, 3)) (kk : T G Y d Q ce sl (pc + 3) lv (.ref (G.b + q) :: st) M) : T G Y d Q ce sl pc lv (.ref (G.b + o) :: st) M := by
  refine tw_get0 hf hs (hL.lt hs) hd ?_
  obtain ⟨ht, hr⟩ := ht
  rw [ht]
  cases t <;> first | (simp [FieldType.isReference] at hr; done) | (unfold fvl; rw [hL.rf, hq]; exact kk)
theorem tw_putI {c idx ci k o : Nat} {x : Int32} (hf : fOK Y.y.cls idx ci k) (hL : Lay c M) (hs : sh o = some (.inr ci)) (hfin : fFin ci k = false) (ht : tyc ci k = .int) (hd : decode Y.cc pc = .ok (.putfield idx, 3)) (kk : T G Y d Q ce sl (pc + 3) lv st (sI M o k x)) : T G Y d Q ce sl pc lv (.int x :: .ref (G.b + o) :: st) M := by
  refine tw_put0 hf hs (hL.lt hs) (Or.inl hfin) (by rw [ht]; rfl) (by rw [ht]; rfl) (M' := sI M o k x) rfl (fun j => ?_) (fun a ha => ⟨sI_ne ha, rfl, rfl⟩) hd kk
  by_cases hj : j = k
  · subst hj
    rw [if_pos rfl, ht]
    show Value.int ((sI M o j x).1 o j) = _
    rw [sI_at]
    simp [upd]
  · rw [if_neg hj]
    cases htt : tyc ci j <;> simp [fvl, sI_at, upd, hj, sI]
theorem tw_putZ {c idx ci k o : Nat} {x : Int32} (hf : fOK Y.y.cls idx ci k) (hL : Lay c M) (hs : sh o = some (.inr ci)) (hfin : fFin ci k = false) (ht : tyc ci k = .boolean) (hx : x = 0 ∨ x = 1) (hd : decode Y.cc pc = .ok (.putfield idx, 3)) (kk : T G Y d Q ce sl (pc + 3) lv st (sI M o k x)) : T G Y d Q ce sl pc lv (.int x :: .ref (G.b + o) :: st) M := by
  refine tw_put0 hf hs (hL.lt hs) (Or.inl hfin) (by rw [ht]; rcases hx with rfl | rfl <;> rfl) (by rw [ht]; rcases hx with rfl | rfl <;> rfl) (M' := sI M o k x) rfl (fun j => ?_) (fun a ha => ⟨sI_ne ha, rfl, rfl⟩) hd kk
  by_cases hj : j = k
  · subst hj
    rw [if_pos rfl, ht]
    show Value.int ((sI M o j x).1 o j) = _
    rw [sI_at]
    simp [upd]
  · rw [if_neg hj]
    cases htt : tyc ci j <;> simp [fvl, sI_at, upd, hj, sI]
theorem tw_putJ {c idx ci k o : Nat} {x : Int64} (hf : fOK Y.y.cls idx ci k) (hL : Lay c M) (hs : sh o = some (.inr ci)) (hfin : fFin ci k = false) (ht : tyc ci k = .long) (hd : decode Y.cc pc = .ok (.putfield idx, 3)) (kk : T G Y d Q ce sl (pc + 3) lv st (sJ M o k x)) : T G Y d Q ce sl pc lv (.long x :: .ref (G.b + o) :: st) M := by
  refine tw_put0 hf hs (hL.lt hs) (Or.inl hfin) (by rw [ht]; rfl) (by rw [ht]; rfl) (M' := sJ M o k x) rfl (fun j => ?_) (fun a ha => ⟨rfl, sJ_ne ha, rfl⟩) hd kk
  by_cases hj : j = k
  · subst hj
    rw [if_pos rfl, ht]
    show Value.long ((sJ M o j x).2.1 o j) = _
    rw [sJ_at]
    simp [vp_updL]
  · rw [if_neg hj]
    cases htt : tyc ci j <;> simp [fvl, sJ_at, vp_updL, hj, sJ]
theorem tw_putR {c idx ci k o q : Nat} {t : FieldType} (hf : fOK Y.y.cls idx ci k) (hL : Lay c M) (hs : sh o = some (.inr ci)) (hfin : fFin ci k = false) (ht : tyc ci k = t ∧ t.isReference = true) (hd : decode Y.cc pc = .ok (.putfield idx, 3)) (kk : T G Y d Q ce sl (pc + 3) lv st (sR M o k (some q))) : T G Y d Q ce sl pc lv (.ref (G.b + q) :: .ref (G.b + o) :: st) M := by
  obtain ⟨ht, hr⟩ := ht
  refine tw_put0 hf hs (hL.lt hs) (Or.inl hfin) ?_ ?_ (M' := sR M o k (some q)) rfl (fun j => ?_) (fun a ha => ⟨rfl, rfl, sR_ne ha⟩) hd kk
  · rw [ht]; cases t <;> first | rfl | (simp [FieldType.isReference] at hr; done)
  · rw [ht]; cases t <;> first | rfl | (simp [FieldType.isReference] at hr; done)
  · by_cases hj : j = k
    · subst hj
      rw [if_pos rfl, ht]
      cases t <;> first | (simp [FieldType.isReference] at hr; done) | simp [fvl, sR, upR, va_rf]
    · rw [if_neg hj]
      cases htt : tyc ci j <;> simp [fvl, sR, upR, hj]
end
