/-! ===== office: an arm, a map, of the component ===== -/
noncomputable def bnd (T : Nat → Nat) (n : Nat) : Except Nat Nat → Except Nat Nat
  | .error e => .error e
  | .ok j => ifc (isW T n j 6) (sNu T n 0 9 (.ok (j + 1))) (.ok j)
noncomputable def bdv (T : Nat → Nat) (n : Nat) : Except Nat Nat → Nat
  | .error _ => 0
  | .ok j => ifc (isW T n j 6) (nv T n (j + 1)) 0
noncomputable def aN (T : Nat → Nat) (n : Nat) (nm : List Nat) (j : Nat) : Except Nat Nat := sNm T n nm (.ok (j + 1))
noncomputable def aK (T : Nat → Nat) (n : Nat) (nm : List Nat) (j : Nat) : Except Nat Nat := sKd T n (aN T n nm j)
noncomputable def aHr (T : Nat → Nat) (n : Nat) (nm : List Nat) (j : Nat) : Except Nat Nat × List Nat := hlS T n 5 0 (sW T n 1 (aK T n nm j)) []
noncomputable def aT (T : Nat → Nat) (n : Nat) (nm : List Nat) (j : Nat) : Except Nat Nat := sNu T n 0 3 (sW T n 2 (aHr T n nm j).1)
noncomputable def aX (T : Nat → Nat) (n : Nat) (nm : List Nat) (j : Nat) : Except Nat Nat := sNu T n 0 99 (sW T n 3 (aT T n nm j))
noncomputable def aY (T : Nat → Nat) (n : Nat) (nm : List Nat) (j : Nat) : Except Nat Nat := sNu T n 0 99 (aX T n nm j)
noncomputable def aR (T : Nat → Nat) (n : Nat) (nm : List Nat) (j : Nat) : Except Nat Nat := sNu T n 1 200 (sW T n 4 (aY T n nm j))
noncomputable def aS (T : Nat → Nat) (n : Nat) (nm : List Nat) (j : Nat) : Except Nat Nat := sNu T n 0 9 (sW T n 5 (aR T n nm j))
noncomputable def aE (T : Nat → Nat) (n : Nat) (nm : List Nat) (j : Nat) : Except Nat Nat := sG T n 59 (bnd T n (aS T n nm j))
noncomputable def aRow (T : Nat → Nat) (n : Nat) (nm : List Nat) (j : Nat) : Nat → Nat := fun k =>
  [kdX T n (aN T n nm j), (aHr T n nm j).2.length, hf (aHr T n nm j).2 0, hf (aHr T n nm j).2 1, hf (aHr T n nm j).2 2, hf (aHr T n nm j).2 3, hf (aHr T n nm j).2 0, hf (aHr T n nm j).2 1, vl T n (sW T n 2 (aHr T n nm j).1), vl T n (sW T n 3 (aT T n nm j)), vl T n (aX T n nm j), vl T n (sW T n 4 (aY T n nm j)), vl T n (sW T n 5 (aR T n nm j)), bdv T n (aS T n nm j)].getD k 0
theorem bnd_ok {T : Nat → Nat} {n j : Nat} {x : Except Nat Nat} (h : bnd T n x = .ok j) : ∃ i, x = .ok i ∧ bdv T n x ≤ 9 := by
  cases x with
  | error e => cases h
  | ok i =>
    refine ⟨i, rfl, ?_⟩
    by_cases g : isW T n i 6
    · rw [show bnd T n (.ok i) = sNu T n 0 9 (.ok (i + 1)) from ifc_pos g] at h
      rw [show bdv T n (.ok i) = nv T n (i + 1) from ifc_pos g]
      obtain ⟨k, e, h1, h2, h3, h4⟩ := sNu_ok h
      cases e; exact h3
    · rw [show bdv T n (.ok i) = 0 from ifc_neg g]; omega
/-- what is known once an arm has been read -/
theorem aE_ok {T : Nat → Nat} {n j j' : Nat} {nm : List Nat} (h : aE T n nm j = .ok j') :
    (∃ k, bnd T n (aS T n nm j) = .ok k) ∧ (∃ k, aS T n nm j = .ok k) ∧ (∃ k, aR T n nm j = .ok k) ∧ (∃ k, aY T n nm j = .ok k) ∧ (∃ k, aX T n nm j = .ok k) ∧ (∃ k, aT T n nm j = .ok k) ∧ (∃ k, (aHr T n nm j).1 = .ok k) ∧ (∃ k, sW T n 1 (aK T n nm j) = .ok k) ∧ (∃ k, aK T n nm j = .ok k) ∧ aN T n nm j = .ok (j + 2) ∧ soF T n (tbF T n (j + 1)) = 1 ∧
    (vl T n (sW T n 2 (aHr T n nm j).1) ≤ 3 ∧ vl T n (sW T n 3 (aT T n nm j)) ≤ 99 ∧ vl T n (aX T n nm j) ≤ 99 ∧ (1 ≤ vl T n (sW T n 4 (aY T n nm j)) ∧ vl T n (sW T n 4 (aY T n nm j)) ≤ 200) ∧ vl T n (sW T n 5 (aR T n nm j)) ≤ 9 ∧ bdv T n (aS T n nm j) ≤ 9 ∧ kdX T n (aN T n nm j) ≤ 3) := by
  obtain ⟨k1, e1, -, -⟩ := sG_ok h
  obtain ⟨k2, e2, b2⟩ := bnd_ok e1
  obtain ⟨k3, e3, v3, v3', v3'', -⟩ := sNu_ok e2
  obtain ⟨k4, e4, -, -⟩ := sW_ok e3
  obtain ⟨k5, e5, v5, v5', v5'', -⟩ := sNu_ok e4
  obtain ⟨k6, e6, -, -⟩ := sW_ok e5
  obtain ⟨k7, e7, v7, v7', v7'', -⟩ := sNu_ok e6
  obtain ⟨k8, e8, v8, v8', v8'', -⟩ := sNu_ok e7
  obtain ⟨k9, e9, -, -⟩ := sW_ok e8
  obtain ⟨k10, e10, v10, v10', v10'', -⟩ := sNu_ok e9
  obtain ⟨k11, e11, -, -⟩ := sW_ok e10
  have e12 : ∃ k, sW T n 1 (aK T n nm j) = .ok k := by
    cases hh : sW T n 1 (aK T n nm j) with
    | error z =>
      have e11' : (hlS T n 5 0 (sW T n 1 (aK T n nm j)) []).1 = .ok k11 := e11
      rw [hh, hlS_err] at e11'
      cases e11'
    | ok k => exact ⟨k, rfl⟩
  obtain ⟨k12, e12⟩ := e12
  obtain ⟨k13, e13, -, -⟩ := sW_ok e12
  obtain ⟨k14, e14, -, -⟩ := sKd_ok e13
  obtain ⟨k15, e15, s15, e16⟩ := sNm_ok e14
  cases e15
  refine ⟨⟨_, e1⟩, ⟨_, e2⟩, ⟨_, e4⟩, ⟨_, e6⟩, ⟨_, e7⟩, ⟨_, e9⟩, ⟨_, e11⟩, ⟨_, e12⟩, ⟨_, e13⟩, by rw [e14, e16], s15, ?_⟩
  rw [e10, e8, e7, e5, e3]
  refine ⟨v10'', v8'', v7'', ⟨v5', v5''⟩, v3'', b2, ?_⟩
  rw [e14]; exact kdv_le
def FO (o q w : Nat) (N N' : Mm) : Prop := N'.2.2 = N.2.2 ∧ (∀ a, a ≠ 1 → a ≠ o → (a < q ∨ q + w < a) → N'.1 a = N.1 a) ∧ N'.1 1 0 = N.1 1 0 ∧ ∀ a, a ≠ 1 → a ≠ q → N'.2.1 a = N.2.1 a
theorem FO.tr {o q w : Nat} {N N' P : Mm} (h : FO o q w N N') (k : FO o q w N' P) : FO o q w N P := ⟨k.1.trans h.1, fun a h1 h2 h3 => (k.2.1 a h1 h2 h3).trans (h.2.1 a h1 h2 h3), k.2.2.1.trans h.2.2.1, fun a h1 h2 => (k.2.2.2 a h1 h2).trans (h.2.2.2 a h1 h2)⟩
theorem FT.fo {o q w : Nat} {N N' : Mm} (h : FT N N') : FO o q w N N' := ⟨h.1, fun a h1 _ _ => h.2.1 a h1, h.2.2.1, fun a h1 _ => h.2.2.2 a h1⟩
theorem FA.fo {o q : Nat} {N N' : Mm} (h : FA q N N') : FO o q 1 N N' := ⟨h.1, fun a h1 _ h3 => h.2.1 a h1 (by omega) (by omega), h.2.2.2.1, fun a h1 _ => h.2.2.2.2 a h1⟩
theorem FP.fo {o q : Nat} {N N' : Mm} (h : FP q N N') : FO o q 2 N N' := ⟨h.1, fun a h1 _ h3 => h.2.1 a h1 (by omega) (by omega) (by omega), h.2.2.2.1, fun a h1 _ => h.2.2.2.2 a h1⟩
theorem FO.si {o q w k : Nat} {N : Mm} {v : Int32} (hq : 2 ≤ q) : FO o q w N (sI N q k v) := ⟨rfl, fun a _ _ h3 => sI_ne (by omega), by rw [rd_sI, if_neg (by omega)], fun _ _ _ => rfl⟩
theorem FO.so {o q w k : Nat} {N : Mm} {v : Int32} (ho : 2 ≤ o) : FO o q w N (sI N o k v) := ⟨rfl, fun a _ h2 _ => sI_ne h2, by rw [rd_sI, if_neg (by omega)], fun _ _ _ => rfl⟩
theorem FO.sj {o q w k : Nat} {N : Mm} {v : Int64} : FO o q w N (sJ N q k v) := ⟨rfl, fun _ _ _ _ => rfl, rfl, fun a _ h2 => sJ_ne h2⟩
theorem TpX.fo {T : Nat → Nat} {n o q w : Nat} {N N' : Mm} (h : TpX T n N) (k : FO o q w N N') (ho : 3 ≤ o) (hq : 3 ≤ q) : TpX T n N' := by
  unfold TpX
  rw [k.2.2.1, k.2.1 2 (by omega) (by omega) (by omega)]
  exact h
/-- fields of one cell -/
def CE (P : Mm) (q : Nat) (l : List (Nat × Int32)) : Prop := ∀ kv, kv ∈ l → P.1 q kv.1 = kv.2
theorem CE.ft {P P' : Mm} {q : Nat} {l : List (Nat × Int32)} (h : CE P q l) (e : FT P P') (hq : q ≠ 1) : CE P' q l := fun kv hm => by rw [e.2.1 q hq]; exact h kv hm
theorem CE.fa {P P' : Mm} {q : Nat} {l : List (Nat × Int32)} (h : CE P q l) (e : FA q P P') (hl : ∀ kv, kv ∈ l → kv.1 ≠ 3) : CE P' q l := fun kv hm => by rw [e.2.2.1 kv.1 (hl kv hm)]; exact h kv hm
theorem CE.fp {P P' : Mm} {q : Nat} {l : List (Nat × Int32)} (h : CE P q l) (e : FP q P P') (hl : ∀ kv, kv ∈ l → kv.1 ≠ 6) : CE P' q l := fun kv hm => by rw [e.2.2.1 kv.1 (hl kv hm)]; exact h kv hm
theorem CE.si {P : Mm} {q k : Nat} {v : Int32} {l : List (Nat × Int32)} (h : CE P q l) (hl : ∀ kv, kv ∈ l → kv.1 ≠ k) : CE (sI P q k v) q ((k, v) :: l) := fun kv hm => by
  rcases List.mem_cons.mp hm with e | hm
  · rw [e, rd_sI, if_pos ⟨rfl, rfl⟩]
  · rw [rd_sI, if_neg (fun hh => hl kv hm hh.2)]; exact h kv hm
theorem NmX.ft {T : Nat → Nat} {n o na nc : Nat} {nm : List Nat} {N N' : Mm} (h : NmX T n N o na nc nm) (e : FT N N') (ho : 2 ≤ o) : NmX T n N' o na nc nm := by
  have e1 : ∀ a, 1 < a → N'.2.1 a = N.2.1 a := fun a ha => e.2.2.2 a (by omega)
  obtain ⟨h1, h2, h3⟩ := h
  refine ⟨fun a ha => ?_, fun m hm => ?_, fun i hi => ⟨(h3 i hi).1, ?_⟩⟩
  · rw [e1 _ (by omega)]; exact h1 a ha
  · rw [e1 _ (by omega)]; exact h2 m hm
  · rcases (h3 i hi).2 with ⟨a, ha, hc⟩ | ⟨m, hm, hc⟩
    · exact .inl ⟨a, ha, by rw [e1 _ (by omega)]; exact hc⟩
    · exact .inr ⟨m, hm, by rw [e1 _ (by omega)]; exact hc⟩
/-- an arm as read, without the hands' part -/
def AX (N : Mm) (q : Nat) (r : Nat → Nat) : Prop := CE N q [(9, nI (r 13)), (8, nI (r 12)), (7, nI (r 11)), (6, nI (r 10)), (5, nI (r 9)), (4, nI (r 8)), (1, nI (r 0))] ∧ AF N q (r 1) (fun i => r (2 + i))
theorem x_readArm {G : MG} {d : Nat} {Q : Mm → Prop} {T : Nat → Nat} {n c o na nc j : Nat} {nm : List Nat} {N : Mm} (hd : 9 ≤ d) (hS : Str G) (hL : Lay c N) (hT : TpX T n N) (ho : o = 3 ∨ o = 39) (ha : N.1 o 2 = nI na) (ha6 : na < 6) (hm : N.1 o 3 = nI nc) (hm7 : nc ≤ 7) (hN : NmX T n N o na nc nm) (hx : Tk T n N (.ok j))
    (h : ∀ N', FO o (o + 3 + 2 * na) 1 N N' → N'.1 o 2 = nI (na + 1) → N'.1 o 3 = nI nc → Tk T n N' (aE T n nm j) → (∀ j', aE T n nm j = .ok j' → AX N' (o + 3 + 2 * na) (aRow T n nm j) ∧ N'.2.1 (o + 3 + 2 * na) 0 = lN (wdF 32 T n (tbF T n (j + 1)))) → Q N') : C G Y_X10_readArm d [.ref (G.b + 1), .ref (G.b + o)] N (Rv Q) := by
  obtain ⟨s0, s1, s2, s3, s4, s5, s6, s7⟩ := hS.2.1
  have F := hS.1
  have hn := hT.2.1
  have hsh : sh (o + 3 + 2 * na) = some (.inr 1) := sh_ar ho ha6
  refine up1 (P := fun d => C G Y_X10_readArm d _ N (Rv Q)) (fun e => b_X10_readArm (d := e + 8) hL s2 s3 s4 s5 s6 (sh_of ho) ?_) hd
  rw [ha, show (6 : Int32) = nI 6 from rfl, nI_ltI (by omega) (by omega), nI_clamp (by omega), show o + 1 + 2 + 2 * na = o + 3 + 2 * na by omega]
  refine ⟨fun _ => ⟨(inN ha6 (by omega)).1, ?_⟩, fun g => absurd ha6 g⟩
  have ho2 : 3 ≤ o := by omega
  generalize hq : o + 3 + 2 * na = q at *
  have hq3 : 6 ≤ q := by omega
  have hqo : o < q := by omega
  refine x_adv (by omega) hL hT hx (fun N3 f3 k3 => ⟨f3.1, ?_⟩)
  have F3 : FO o q 1 N N3 := f3.fo
  refine x_readName (by omega) hS (lay_of hL F3.1) (hT.fo F3 ho2 (by omega)) ho (by rw [f3.2.1 o (by omega)]; exact ha) (by omega) (by rw [f3.2.1 o (by omega)]; exact hm) hm7 (hN.ft f3 (by omega)) k3 (fun r5 N4 f4 k4 v5 => ⟨f4.1, fun M6 e6 => ?_⟩)
  have F6 : FO o q 1 N M6 := by subst e6; exact F3.tr (f4.fo.tr FO.sj)
  have k6 : Tk T n M6 (aN T n nm j) := k4.fr (by subst e6; rfl) (by subst e6; exact sJ_ne (by omega))
  have o6 : M6.1 o = N.1 o := by subst e6; show N4.1 o = _; rw [f4.2.1 o (by omega), f3.2.1 o (by omega)]
  have l6 : M6.2.1 q 0 = r5 := by subst e6; rw [rd_sJ', if_pos ⟨rfl, rfl⟩]
  refine x_readKind (by omega) hS (lay_of hL F6.1) (hT.fo F6 ho2 (by omega)) k6 (fun r8 N7 f7 k7 v8 => ⟨f7.1, fun M9 e9 => ?_⟩)
  have F9 : FO o q 1 N M9 := by subst e9; exact F6.tr (f7.fo.tr (FO.si (by omega)))
  have k9 : Tk T n M9 (aK T n nm j) := k7.fr (by subst e9; exact sI_ne (by omega)) (by subst e9; rfl)
  have o9 : M9.1 o = N.1 o := by subst e9; rw [sI_ne (show o ≠ q by omega), f7.2.1 o (by omega)]; exact o6
  have l9 : M9.2.1 q 0 = r5 := by subst e9; show N7.2.1 q 0 = _; rw [f7.2.2.2 q (by omega)]; exact l6
  have c9 : CE M9 q [(1, r8)] := by subst e9; exact CE.si (fun kv hm => by cases hm) (fun kv hm => by cases hm)
  refine x_readHoles (by omega) hS (lay_of hL F9.1) (hT.fo F9 ho2 (by omega)) hsh (by omega) k9 (fun N10 f10 k10 v10 => ⟨f10.1, ?_⟩)
  have F10 : FO o q 1 N N10 := F9.tr f10.fo
  have k10' : Tk T n N10 (aHr T n nm j).1 := k10
  have o10 : N10.1 o = N.1 o := by rw [f10.2.1 o (by omega) (by omega) (by omega)]; exact o9
  have l10 : N10.2.1 q 0 = r5 := by rw [f10.2.2.2.2 q (by omega)]; exact l9
  have c10 : CE N10 q [(1, r8)] := c9.fa f10 (by simp)
  have h10 : ∀ k, (aHr T n nm j).1 = .ok k → AF N10 q (aHr T n nm j).2.length (hf (aHr T n nm j).2) := v10
  -- a field more
  have fld : ∀ {P P' P'' : Mm} {k : Nat} {r : Int32} {l : List (Nat × Int32)} {x : Except Nat Nat}, FO o q 1 N P → P.1 o = N.1 o → P.2.1 q 0 = r5 → CE P q l → (∀ k, (aHr T n nm j).1 = .ok k → AF P q (aHr T n nm j).2.length (hf (aHr T n nm j).2)) → FT P P' → Tk T n P' x → P'' = sI P' q k r → k ≠ 3 → (∀ kv, kv ∈ l → kv.1 ≠ k) →
      FO o q 1 N P'' ∧ P''.1 o = N.1 o ∧ P''.2.1 q 0 = r5 ∧ CE P'' q ((k, r) :: l) ∧ (∀ k, (aHr T n nm j).1 = .ok k → AF P'' q (aHr T n nm j).2.length (hf (aHr T n nm j).2)) ∧ Tk T n P'' x := by
    intro P P' P'' k r l x h1 h2 h3 h4 h5 h6 h7 h8 h9 h10
    subst h8
    refine ⟨h1.tr (h6.fo.tr (FO.si (by omega))), ?_, ?_, (h4.ft h6 (by omega)).si h10, fun k' hk' => ?_, h7.fr (sI_ne (by omega)) rfl⟩
    · rw [sI_ne (show o ≠ q by omega), h6.2.1 o (by omega)]; exact h2
    · show P'.2.1 q 0 = _
      rw [h6.2.2.2 q (by omega)]; exact h3
    · have a := (h5 k' hk').ft h6 (by omega)
      unfold AF
      rw [rd_sI, if_neg (fun hh => h9 hh.2.symm), sI_ne (show q + 1 ≠ q by omega)]
      exact a
  refine x_readBehind 2 0 3 (by omega) (by omega) (by omega) (by omega) F (lay_of hL F10.1) (hT.fo F10 ho2 (by omega)) k10' (fun r12 N11 f11 k11 v12 => ⟨f11.1, fun M13 e13 => ?_⟩)
  obtain ⟨F13, o13, l13, c13, h13, k13⟩ := fld F10 o10 l10 c10 h10 f11 k11 e13 (by omega) (by simp)
  have k13' : Tk T n M13 (aT T n nm j) := k13
  refine x_readBehind 3 0 99 (by omega) (by omega) (by omega) (by omega) F (lay_of hL F13.1) (hT.fo F13 ho2 (by omega)) k13' (fun r15 N14 f14 k14 v15 => ⟨f14.1, fun M16 e16 => ?_⟩)
  obtain ⟨F16, o16, l16, c16, h16, k16⟩ := fld F13 o13 l13 c13 h13 f14 k14 e16 (by omega) (by simp)
  have k16' : Tk T n M16 (aX T n nm j) := k16
  refine x_readNumber 0 99 (by omega) (by omega) (by omega) (lay_of hL F16.1) (hT.fo F16 ho2 (by omega)) k16' (fun r18 N17 f17 k17 v18 => ⟨f17.1, fun M19 e19 => ?_⟩)
  obtain ⟨F19, o19, l19, c19, h19, k19⟩ := fld F16 o16 l16 c16 h16 f17 k17 e19 (by omega) (by simp)
  have k19' : Tk T n M19 (aY T n nm j) := k19
  refine x_readBehind 4 1 200 (by omega) (by omega) (by omega) (by omega) F (lay_of hL F19.1) (hT.fo F19 ho2 (by omega)) k19' (fun r21 N20 f20 k20 v21 => ⟨f20.1, fun M22 e22 => ?_⟩)
  obtain ⟨F22, o22, l22, c22, h22, k22⟩ := fld F19 o19 l19 c19 h19 f20 k20 e22 (by omega) (by simp)
  have k22' : Tk T n M22 (aR T n nm j) := k22
  refine x_readBehind 5 0 9 (by omega) (by omega) (by omega) (by omega) F (lay_of hL F22.1) (hT.fo F22 ho2 (by omega)) k22' (fun r24 N23 f23 k23 v24 => ⟨f23.1, fun M25 e25 => ?_⟩)
  obtain ⟨F25, o25, l25, c25, h25, k25⟩ := fld F22 o22 l22 c22 h22 f23 k23 e25 (by omega) (by simp)
  have k25' : Tk T n M25 (aS T n nm j) := k25
  -- the last field, the sign and the count
  have fin : ∀ (P P' : Mm) (r9 : Int32), FT M25 P → Tk T n P (bnd T n (aS T n nm j)) → (∀ k, bnd T n (aS T n nm j) = .ok k → r9 = nI (bdv T n (aS T n nm j))) → P' = sI P q 9 r9 →
      C G Y_X10_skipSign (e + 8) [.ref (G.b + 1), .int 59] P' (Rv fun M30 => M30.2.2 = P'.2.2 ∧ (∀ M31 : Mm, M31 = sI M30 o 2 ((M30.1 o 2) + 1) → Q M31)) := by
    intro P P' r9 fP kP v9 eP
    obtain ⟨F29, o29, l29, c29, h29, k29⟩ := fld F25 o25 l25 c25 h25 fP kP eP (by omega) (by simp)
    refine x_skipSign 59 (by omega) (by omega) (lay_of hL F29.1) (hT.fo F29 ho2 (by omega)) k29 (fun N30 f30 k30 => ⟨f30.1, fun M31 e31 => ?_⟩)
    have o30 : N30.1 o = N.1 o := by rw [f30.2.1 o (by omega)]; exact o29
    rw [o30, ha, nI_1] at e31
    have F31 : FO o q 1 N M31 := by subst e31; exact F29.tr (f30.fo.tr (FO.so (by omega)))
    have k31 : Tk T n M31 (aE T n nm j) := k30.fr (by subst e31; exact sI_ne (by omega)) (by subst e31; rfl)
    refine h M31 F31 ?_ ?_ k31 (fun j' hj' => ?_)
    · subst e31; rw [rd_sI, if_pos ⟨rfl, rfl⟩]
    · subst e31; rw [rd_sI, if_neg (by omega), o30]; exact hm
    · obtain ⟨⟨b1, q1⟩, ⟨b2, q2⟩, ⟨b3, q3⟩, ⟨b4, q4⟩, ⟨b5, q5⟩, ⟨b6, q6⟩, ⟨b7, q7⟩, -, ⟨b8, q8⟩, q9, -, -⟩ := aE_ok hj'
      have hq31 : M31.1 q = N30.1 q := by subst e31; exact sI_ne (by omega)
      have hq31' : M31.1 (q + 1) = N30.1 (q + 1) := by subst e31; exact sI_ne (by omega)
      refine ⟨⟨?_, ?_⟩, ?_⟩
      · have c30 := c29.ft f30 (by omega)
        rw [v9 _ q1, v24 _ q2, v21 _ q3, v18 _ q4, v15 _ q5, v12 _ q6, v8 _ q8] at c30
        intro kv hkv
        rw [hq31]
        exact c30 kv hkv
      · have a := (h29 b7 q7).ft f30 (by omega)
        obtain ⟨a1, a2, a3, a4⟩ := a
        have hr : ∀ i, i < (aHr T n nm j).2.length → aRow T n nm j (2 + i) = hf (aHr T n nm j).2 i := fun i hi => by
          have : i = 0 ∨ i = 1 ∨ i = 2 ∨ i = 3 := by omega
          rcases this with rfl | rfl | rfl | rfl <;> rfl
        have hr1 : aRow T n nm j 1 = (aHr T n nm j).2.length := rfl
        rw [hr1]
        refine ⟨by rw [hq31]; exact a1, a2, fun i hi => ?_, fun i k hi hk he => ?_⟩
        · have b := a3 i hi
          rw [← hr i hi] at b
          rw [hq31']; exact b
        · exact a4 i k hi hk ((hr i hi).symm.trans (Eq.trans he (hr k hk)))
      · subst e31
        show N30.2.1 q 0 = _
        rw [f30.2.2.2 q (by omega), l29]
        exact v5 (j + 1) rfl q9
  refine x_reads 6 (by omega) (by omega) F (lay_of hL F25.1) k25' (fun k hk hW => ⟨rfl, fun g => (by cases g), fun _ => ?_⟩) (fun k hk hW => ⟨rfl, fun _ M29 e29 => ?_, fun g => absurd rfl g⟩) (fun z hz => ⟨⟨rfl, fun _ M29 e29 => ?_, fun g => absurd rfl g⟩, ⟨rfl, fun g => (by cases g), fun _ => ?_⟩⟩)
  · refine x_readBehind 6 0 9 (by omega) (by omega) (by omega) (by omega) F (lay_of hL F25.1) (hT.fo F25 ho2 (by omega)) k25' (fun r33 N32 f32 k32 v33 => ⟨f32.1, fun M34 e34 => fin N32 M34 r33 f32 ?_ (fun k' hk' => ?_) e34⟩)
    · have eb : bnd T n (aS T n nm j) = sNu T n 0 9 (sW T n 6 (aS T n nm j)) := by
        rw [hk, show bnd T n (.ok k) = sNu T n 0 9 (.ok (k + 1)) from ifc_pos hW, show sW T n 6 (.ok k) = .ok (k + 1) from ifc_pos hW]
      rw [eb]; exact k32
    · have eb : bnd T n (aS T n nm j) = sNu T n 0 9 (sW T n 6 (aS T n nm j)) := by
        rw [hk, show bnd T n (.ok k) = sNu T n 0 9 (.ok (k + 1)) from ifc_pos hW, show sW T n 6 (.ok k) = .ok (k + 1) from ifc_pos hW]
      rw [eb] at hk'
      rw [v33 _ hk', hk, show sW T n 6 (.ok k) = .ok (k + 1) from ifc_pos hW, show bdv T n (.ok k) = nv T n (k + 1) from ifc_pos hW]
      rfl
  · refine fin M25 M29 0 (FT.rf _) (by rw [hk, show bnd T n (.ok k) = .ok k from ifc_neg hW, ← hk]; exact k25') (fun k' hk' => ?_) e29
    rw [hk, show bdv T n (.ok k) = 0 from ifc_neg hW]; rfl
  · exact fin M25 M29 0 (FT.rf _) (by rw [hz]; rw [hz] at k25'; exact k25') (fun k' hk' => by rw [hz] at hk'; cases hk') e29
  · refine x_readBehind 6 0 9 (by omega) (by omega) (by omega) (by omega) F (lay_of hL F25.1) (hT.fo F25 ho2 (by omega)) k25' (fun r33 N32 f32 k32 v33 => ⟨f32.1, fun M34 e34 => fin N32 M34 r33 f32 ?_ (fun k' hk' => by rw [hz] at hk'; cases hk') e34⟩)
    rw [hz] at k32 ⊢; exact k32
