/-! ===== office: a map of the component ===== -/
noncomputable def mA (T : Nat → Nat) (n : Nat) (nm : List Nat) (j : Nat) : Except Nat Nat := sNu T n 1 9 (sW T n 8 (aN T n nm j))
noncomputable def mB (T : Nat → Nat) (n : Nat) (nm : List Nat) (j : Nat) : Except Nat Nat := sNu T n 1 9 (sW T n 9 (mA T n nm j))
noncomputable def mS (T : Nat → Nat) (n : Nat) (nm : List Nat) (j : Nat) : Except Nat Nat := sNu T n 0 255 (sW T n 10 (mB T n nm j))
noncomputable def mPr (T : Nat → Nat) (n : Nat) (nm : List Nat) (j : Nat) : Except Nat Nat × List (Nat × Nat) := ptS T n 6 (sW T n 11 (mS T n nm j)) []
noncomputable def mE (T : Nat → Nat) (n : Nat) (nm : List Nat) (j : Nat) : Except Nat Nat := sG T n 59 (mPr T n nm j).1
/-- a map as read: above, below, slips, points -/
abbrev MapD := Nat × Nat × Nat × List (Nat × Nat)
noncomputable def mRow (T : Nat → Nat) (n : Nat) (nm : List Nat) (j : Nat) : MapD := (vl T n (sW T n 8 (aN T n nm j)), vl T n (sW T n 9 (mA T n nm j)), vl T n (sW T n 10 (mB T n nm j)), (mPr T n nm j).2)
theorem ptS_ok {T : Nat → Nat} {n : Nat} : ∀ m (x : Except Nat Nat) ps j', (ptS T n m x ps).1 = .ok j' → (m + ps.length ≤ 6) → (∀ i, i < ps.length → (ps.getD i (0, 0)).1 ≤ 99 ∧ (ps.getD i (0, 0)).2 ≤ 99) → (0 < m → ∃ k, x = .ok k) ∧ ((ptS T n m x ps).2.length ≤ 6 ∧ ∀ i, i < (ptS T n m x ps).2.length → ((ptS T n m x ps).2.getD i (0, 0)).1 ≤ 99 ∧ ((ptS T n m x ps).2.getD i (0, 0)).2 ≤ 99) ∧ (0 < m → 1 ≤ (ptS T n m x ps).2.length) := by
  intro m
  induction m with
  | zero => intro x ps j' h hl hb; exact ⟨fun h => by omega, ⟨by show ps.length ≤ 6; omega, hb⟩, fun h => by omega⟩
  | succ m ih =>
    intro x ps j' h hl hb
    cases x with
    | error e => rw [ptS_err] at h; cases h
    | ok j =>
      refine ⟨fun _ => ⟨j, rfl⟩, ?_⟩
      cases h2 : sNu T n 0 99 (sNu T n 0 99 (.ok j)) with
      | error e => rw [ptS_bad h2] at h; cases h
      | ok j2 =>
        obtain ⟨i1, q1, q2, q3, q4, q5⟩ := sNu_ok h2
        obtain ⟨i0, p1, p2, p3, p4, p5⟩ := sNu_ok q1
        cases p1
        subst p5
        have ll : (ps ++ [(nv T n j, nv T n (j + 1))]).length = ps.length + 1 := by rw [List.length_append]; rfl
        have hb' : ∀ i, i < (ps ++ [(nv T n j, nv T n (j + 1))]).length → ((ps ++ [(nv T n j, nv T n (j + 1))]).getD i (0, 0)).1 ≤ 99 ∧ ((ps ++ [(nv T n j, nv T n (j + 1))]).getD i (0, 0)).2 ≤ 99 := fun i hi => by
          by_cases e : i = ps.length
          · subst e; rw [gD_eq]; exact ⟨p4, q4⟩
          · rw [gD_lt (by omega)]; exact hb i (by omega)
        have he := ptS_go (m := m) (ps := ps) h2
        by_cases hG : isG T n j2 44
        · rw [ifc_pos hG] at he
          by_cases h5 : ps.length = 5
          · rw [ifc_pos h5] at he; rw [he] at h; cases h
          · rw [ifc_neg h5] at he
            rw [he] at h ⊢
            obtain ⟨r1, r2, r3⟩ := ih _ _ j' h (by omega) hb'
            refine ⟨r2, fun _ => ?_⟩
            by_cases h0 : 0 < m
            · exact r3 h0
            · have : m = 0 := by omega
              subst this
              show 1 ≤ (ps ++ [(nv T n j, nv T n (j + 1))]).length
              omega
        · rw [ifc_neg hG] at he
          rw [he]
          exact ⟨⟨by show (ps ++ [(nv T n j, nv T n (j + 1))]).length ≤ 6; omega, hb'⟩, fun _ => by show 1 ≤ (ps ++ [(nv T n j, nv T n (j + 1))]).length; omega⟩
theorem mE_ok {T : Nat → Nat} {n j j' : Nat} {nm : List Nat} (h : mE T n nm j = .ok j') :
    (∃ k, (mPr T n nm j).1 = .ok k) ∧ (∃ k, mS T n nm j = .ok k) ∧ (∃ k, mB T n nm j = .ok k) ∧ (∃ k, mA T n nm j = .ok k) ∧ aN T n nm j = .ok (j + 2) ∧ soF T n (tbF T n (j + 1)) = 1 ∧
    ((1 ≤ (mRow T n nm j).1 ∧ (mRow T n nm j).1 ≤ 9) ∧ (1 ≤ (mRow T n nm j).2.1 ∧ (mRow T n nm j).2.1 ≤ 9) ∧ (mRow T n nm j).2.2.1 ≤ 255 ∧ (1 ≤ (mRow T n nm j).2.2.2.length ∧ (mRow T n nm j).2.2.2.length ≤ 6) ∧ ∀ i, i < (mRow T n nm j).2.2.2.length → ((mRow T n nm j).2.2.2.getD i (0, 0)).1 ≤ 99 ∧ ((mRow T n nm j).2.2.2.getD i (0, 0)).2 ≤ 99) := by
  obtain ⟨k1, e1, -, -⟩ := sG_ok h
  obtain ⟨p1, p2, p3⟩ := ptS_ok 6 _ _ k1 e1 (by show 6 + 0 ≤ 6; omega) (fun i hi => by have : i < 0 := hi; omega)
  obtain ⟨k2, e2⟩ := p1 (by omega)
  obtain ⟨k3, e3, -, -⟩ := sW_ok e2
  obtain ⟨k4, e4, v4, v4', v4'', -⟩ := sNu_ok e3
  obtain ⟨k5, e5, -, -⟩ := sW_ok e4
  obtain ⟨k6, e6, v6, v6', v6'', -⟩ := sNu_ok e5
  obtain ⟨k7, e7, -, -⟩ := sW_ok e6
  obtain ⟨k8, e8, v8, v8', v8'', -⟩ := sNu_ok e7
  obtain ⟨k9, e9, -, -⟩ := sW_ok e8
  obtain ⟨k10, e10, s10, e11⟩ := sNm_ok e9
  cases e10
  refine ⟨⟨_, e1⟩, ⟨_, e3⟩, ⟨_, e5⟩, ⟨_, e7⟩, by rw [e9, e11], s10, ?_, ?_, ?_, ⟨p3 (by omega), p2.1⟩, p2.2⟩
  · show 1 ≤ vl T n (sW T n 8 (aN T n nm j)) ∧ vl T n (sW T n 8 (aN T n nm j)) ≤ 9
    rw [e8]; exact ⟨v8', v8''⟩
  · show 1 ≤ vl T n (sW T n 9 (mA T n nm j)) ∧ vl T n (sW T n 9 (mA T n nm j)) ≤ 9
    rw [e6]; exact ⟨v6', v6''⟩
  · show vl T n (sW T n 10 (mB T n nm j)) ≤ 255
    rw [e4]; exact v4''
def MX (N : Mm) (q : Nat) (r : MapD) : Prop := CE N q [(3, nI r.2.2.1), (2, nI r.2.1), (1, nI r.1)] ∧ PC N q r.2.2.2
theorem x_readChart {G : MG} {d : Nat} {Q : Mm → Prop} {T : Nat → Nat} {n c o na nc j : Nat} {nm : List Nat} {N : Mm} (hd : 9 ≤ d) (hS : Str G) (hL : Lay c N) (hT : TpX T n N) (ho : o = 3 ∨ o = 39) (ha : N.1 o 2 = nI na) (ha6 : na ≤ 6) (hm : N.1 o 3 = nI nc) (hm7 : nc < 7) (hN : NmX T n N o na nc nm) (hx : Tk T n N (.ok j))
    (h : ∀ N', FO o (o + 15 + 3 * nc) 2 N N' → N'.1 o 2 = nI na → N'.1 o 3 = nI (nc + 1) → Tk T n N' (mE T n nm j) → (∀ j', mE T n nm j = .ok j' → MX N' (o + 15 + 3 * nc) (mRow T n nm j) ∧ N'.2.1 (o + 15 + 3 * nc) 0 = lN (wdF 32 T n (tbF T n (j + 1)))) → Q N') : C G Y_X10_readChart d [.ref (G.b + 1), .ref (G.b + o)] N (Rv Q) := by
  obtain ⟨s8, s9, s10, s11, -, -, -, -⟩ := hS.2.2
  have F := hS.1
  have hn := hT.2.1
  have hsh : sh (o + 15 + 3 * nc) = some (.inr 2) := sh_cht ho hm7
  refine up1 (P := fun d => C G Y_X10_readChart d _ N (Rv Q)) (fun e => b_X10_readChart (d := e + 8) hL s8 s9 s10 (sh_of ho) ?_) hd
  rw [hm, show (7 : Int32) = nI 7 from rfl, nI_ltI (by omega) (by omega), nI_clamp (by omega), show o + 2 + 13 + 3 * nc = o + 15 + 3 * nc by omega]
  refine ⟨fun _ => ⟨(inN hm7 (by omega)).1, ?_⟩, fun g => absurd hm7 g⟩
  have ho2 : 3 ≤ o := by omega
  generalize hq : o + 15 + 3 * nc = q at *
  have hq3 : 6 ≤ q := by omega
  have hqo : o < q := by omega
  refine x_adv (by omega) hL hT hx (fun N3 f3 k3 => ⟨f3.1, ?_⟩)
  have F3 : FO o q 2 N N3 := f3.fo
  refine x_readName (by omega) hS (lay_of hL F3.1) (hT.fo F3 ho2 (by omega)) ho (by rw [f3.2.1 o (by omega)]; exact ha) (by omega) (by rw [f3.2.1 o (by omega)]; exact hm) (by omega) (hN.ft f3 (by omega)) k3 (fun r5 N4 f4 k4 v5 => ⟨f4.1, fun M6 e6 => ?_⟩)
  have F6 : FO o q 2 N M6 := by subst e6; exact F3.tr (f4.fo.tr FO.sj)
  have k6 : Tk T n M6 (aN T n nm j) := k4.fr (by subst e6; rfl) (by subst e6; exact sJ_ne (by omega))
  have o6 : M6.1 o = N.1 o := by subst e6; show N4.1 o = _; rw [f4.2.1 o (by omega), f3.2.1 o (by omega)]
  have l6 : M6.2.1 q 0 = r5 := by subst e6; rw [rd_sJ', if_pos ⟨rfl, rfl⟩]
  have c6 : CE M6 q [] := fun kv hm => by cases hm
  have fld : ∀ {P P' P'' : Mm} {k : Nat} {r : Int32} {l : List (Nat × Int32)} {x : Except Nat Nat}, FO o q 2 N P → P.1 o = N.1 o → P.2.1 q 0 = r5 → CE P q l → FT P P' → Tk T n P' x → P'' = sI P' q k r → (∀ kv, kv ∈ l → kv.1 ≠ k) →
      FO o q 2 N P'' ∧ P''.1 o = N.1 o ∧ P''.2.1 q 0 = r5 ∧ CE P'' q ((k, r) :: l) ∧ Tk T n P'' x := by
    intro P P' P'' k r l x h1 h2 h3 h4 h6 h7 h8 h10
    subst h8
    refine ⟨h1.tr (h6.fo.tr (FO.si (by omega))), ?_, ?_, (h4.ft h6 (by omega)).si h10, h7.fr (sI_ne (by omega)) rfl⟩
    · rw [sI_ne (show o ≠ q by omega), h6.2.1 o (by omega)]; exact h2
    · show P'.2.1 q 0 = _
      rw [h6.2.2.2 q (by omega)]; exact h3
  refine x_readBehind 8 1 9 (by omega) (by omega) (by omega) (by omega) F (lay_of hL F6.1) (hT.fo F6 ho2 (by omega)) k6 (fun r8 N7 f7 k7 v8 => ⟨f7.1, fun M9 e9 => ?_⟩)
  obtain ⟨F9, o9, l9, c9, k9⟩ := fld F6 o6 l6 c6 f7 k7 e9 (by simp)
  have k9' : Tk T n M9 (mA T n nm j) := k9
  refine x_readBehind 9 1 9 (by omega) (by omega) (by omega) (by omega) F (lay_of hL F9.1) (hT.fo F9 ho2 (by omega)) k9' (fun r11 N10 f10 k10 v11 => ⟨f10.1, fun M12 e12 => ?_⟩)
  obtain ⟨F12, o12, l12, c12, k12⟩ := fld F9 o9 l9 c9 f10 k10 e12 (by simp)
  have k12' : Tk T n M12 (mB T n nm j) := k12
  refine x_readBehind 10 0 255 (by omega) (by omega) (by omega) (by omega) F (lay_of hL F12.1) (hT.fo F12 ho2 (by omega)) k12' (fun r14 N13 f13 k13 v14 => ⟨f13.1, fun M15 e15 => ?_⟩)
  obtain ⟨F15, o15, l15, c15, k15⟩ := fld F12 o12 l12 c12 f13 k13 e15 (by simp)
  have k15' : Tk T n M15 (mS T n nm j) := k15
  refine x_readPoints (by omega) hS (lay_of hL F15.1) (hT.fo F15 ho2 (by omega)) hsh (by omega) k15' (fun N16 f16 k16 v16 => ⟨f16.1, ?_⟩)
  have F16 : FO o q 2 N N16 := F15.tr f16.fo
  have o16 : N16.1 o = N.1 o := by rw [f16.2.1 o (by omega) (by omega) (by omega) (by omega)]; exact o15
  have l16 : N16.2.1 q 0 = r5 := by rw [f16.2.2.2.2 q (by omega)]; exact l15
  have c16 := c15.fp f16 (by simp)
  have k16' : Tk T n N16 (mPr T n nm j).1 := k16
  refine x_skipSign 59 (by omega) (by omega) (lay_of hL F16.1) (hT.fo F16 ho2 (by omega)) k16' (fun N17 f17 k17 => ⟨f17.1, fun M18 e18 => ?_⟩)
  have o17 : N17.1 o = N.1 o := by rw [f17.2.1 o (by omega)]; exact o16
  rw [o17, hm, nI_1] at e18
  have F18 : FO o q 2 N M18 := by subst e18; exact F16.tr (f17.fo.tr (FO.so (by omega)))
  have k18 : Tk T n M18 (mE T n nm j) := k17.fr (by subst e18; exact sI_ne (by omega)) (by subst e18; rfl)
  refine h M18 F18 ?_ ?_ k18 (fun j' hj' => ?_)
  · subst e18; rw [rd_sI, if_neg (by omega), o17]; exact ha
  · subst e18; rw [rd_sI, if_pos ⟨rfl, rfl⟩]
  · obtain ⟨⟨b1, q1⟩, ⟨b2, q2⟩, ⟨b3, q3⟩, ⟨b4, q4⟩, q9, -, -⟩ := mE_ok hj'
    have e0 : ∀ a, a ≠ o → M18.1 a = N17.1 a := fun a ha' => by subst e18; exact sI_ne ha'
    refine ⟨⟨?_, ?_⟩, ?_⟩
    · have c17 := c16.ft f17 (by omega)
      rw [v14 _ q2, v11 _ q3, v8 _ q4] at c17
      intro kv hkv
      rw [e0 q (by omega)]
      exact c17 kv hkv
    · have a : PC N16 q (mPr T n nm j).2 := v16 b1 q1
      show PC M18 q (mPr T n nm j).2
      unfold PC
      rw [e0 q (by omega), e0 (q + 1) (by omega), e0 (q + 2) (by omega), f17.2.1 q (by omega), f17.2.1 (q + 1) (by omega), f17.2.1 (q + 2) (by omega)]
      exact a
    · subst e18
      show N17.2.1 q 0 = _
      rw [f17.2.2.2 q (by omega), l16]
      exact v5 (j + 1) rfl q9
