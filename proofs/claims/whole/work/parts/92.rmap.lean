/-! ===== office: a map of the reference ===== -/
def FRM (i0 : Nat) (N N' : Mm) : Prop := N'.2.2 = N.2.2 ∧ (∀ o, o ≠ 147 → o ≠ 154 → N'.1 o = N.1 o) ∧ (∀ k, k ≠ 7 → k ≠ 8 → k ≠ 13 → N'.1 147 k = N.1 147 k) ∧ (∀ k, k ≠ 120 → (k < i0 ∨ i0 + 15 < k) → N'.1 154 k = N.1 154 k) ∧ ∀ o, o ≠ 155 → N'.2.1 o = N.2.1 o
theorem FRM.tr {i0 : Nat} {N N' P : Mm} (h : FRM i0 N N') (k : FRM i0 N' P) : FRM i0 N P := ⟨k.1.trans h.1, fun o h1 h2 => (k.2.1 o h1 h2).trans (h.2.1 o h1 h2), fun q h1 h2 h3 => (k.2.2.1 q h1 h2 h3).trans (h.2.2.1 q h1 h2 h3), fun q h1 h2 => (k.2.2.2.1 q h1 h2).trans (h.2.2.2.1 q h1 h2), fun o ho => (k.2.2.2.2 o ho).trans (h.2.2.2.2 o ho)⟩
theorem FN.fm {i0 : Nat} {N N' : Mm} (h : FN N N') : FRM i0 N N' := ⟨h.1, fun o h1 _ => h.2.1 o h1, h.2.2.1, fun k _ _ => by rw [h.2.1 154 (by omega)], h.2.2.2⟩
theorem FR.fm {i0 : Nat} {N N' : Mm} (h : FR N N') : FRM i0 N N' := h.fn.fm
theorem FRM.si {i0 k : Nat} {N : Mm} {v : Int32} (h : k = 120 ∨ i0 ≤ k ∧ k ≤ i0 + 15) : FRM i0 N (sI N 154 k v) := ⟨rfl, fun o _ h2 => sI_ne h2, fun q _ _ _ => by rw [rd_sI, if_neg (by omega)], fun q h1 h2 => by rw [rd_sI, if_neg (by omega)], fun _ _ => rfl⟩
theorem RTs.m {T : Nat → Nat} {n m i0 : Nat} {N N' : Mm} (h : RTs T n m N) (k : FRM i0 N N') : RTs T n m N' := h.fr (k.2.1 149 (by omega) (by omega)) (k.2.1 150 (by omega) (by omega)) (k.2.2.2.2 151 (by omega)) (k.2.2.2.2 152 (by omega))
/-- the points in the row that begins at i0 -/
def PR (N : Mm) (i0 : Nat) (ps : List (Nat × Nat)) : Prop := ∀ i, i < ps.length → N.1 154 (i0 + 4 + 2 * i) = nI (ps.getD i (0, 0)).1 ∧ N.1 154 (i0 + 4 + 2 * i + 1) = nI (ps.getD i (0, 0)).2
def FPt (i0 : Nat) (N N' : Mm) : Prop := N'.2.2 = N.2.2 ∧ (∀ o, o ≠ 147 → o ≠ 154 → N'.1 o = N.1 o) ∧ (∀ k, k ≠ 7 → k ≠ 8 → N'.1 147 k = N.1 147 k) ∧ (∀ k, (k < i0 + 3 ∨ i0 + 15 < k) → N'.1 154 k = N.1 154 k) ∧ N'.2.1 = N.2.1
theorem FPt.tr {i0 : Nat} {N N' P : Mm} (h : FPt i0 N N') (k : FPt i0 N' P) : FPt i0 N P := ⟨k.1.trans h.1, fun o h1 h2 => (k.2.1 o h1 h2).trans (h.2.1 o h1 h2), fun q h1 h2 => (k.2.2.1 q h1 h2).trans (h.2.2.1 q h1 h2), fun q h1 => (k.2.2.2.1 q h1).trans (h.2.2.2.1 q h1), k.2.2.2.2.trans h.2.2.2.2⟩
theorem FR.fpt {i0 : Nat} {N N' : Mm} (h : FR N N') : FPt i0 N N' := ⟨h.1, fun o h1 _ => h.2.1 o h1, h.2.2.1, fun k _ => by rw [h.2.1 154 (by omega)], h.2.2.2⟩
theorem FPt.si {i0 k : Nat} {N : Mm} {v : Int32} (h : i0 + 3 ≤ k ∧ k ≤ i0 + 15) : FPt i0 N (sI N 154 k v) := ⟨rfl, fun o _ h2 => sI_ne h2, fun q _ _ => by rw [rd_sI, if_neg (by omega)], fun q h1 => by rw [rd_sI, if_neg (by omega)], rfl⟩
theorem FPt.fm {i0 : Nat} {N N' : Mm} (h : FPt i0 N N') : FRM i0 N N' := ⟨h.1, h.2.1, fun k h1 h2 _ => h.2.2.1 k h1 h2, fun k h1 h2 => h.2.2.2.1 k (by omega), fun o _ => by rw [h.2.2.2.2]⟩
theorem m_takePoint {G : MG} {d : Nat} {Q : Mm → Prop} {T : Nat → Nat} {n m c i0 : Nat} {N : Mm} {x : Except Nat Nat} {ps : List (Nat × Nat)} (hd : 3 ≤ d) (hL : Lay c N) (hR : RTs T n m N) (hi : 121 ≤ i0 ∧ i0 ≤ 217) (hx : Tr T n m N x) (hc : N.1 154 (i0 + 3) = nI ps.length) (hl : ps.length ≤ 5) (hP : PR N i0 ps)
    (h : ∀ N', FPt i0 N N' → N'.1 154 (i0 + 3) = nI (ps.length + 1) → Tr T n m N' (sNu T n 0 99 (sNu T n 0 99 x)) → (∀ j k, x = .ok j → sNu T n 0 99 (sNu T n 0 99 x) = .ok k → PR N' i0 (ps ++ [(nv T n j, nv T n (j + 1))])) → Q N') : C G Y_X12_takePoint d [.ref (G.b + 147), .int (nI i0)] N (Rv Q) := by
  refine up1 (P := fun d => C G Y_X12_takePoint d _ N (Rv Q)) (fun e => b_X12_takePoint (d := e + 2) hL ?_) hd
  have i3 : nI i0 + 3 = nI (i0 + 3) := by rw [show (3 : Int32) = nI 3 from rfl, nI_add]
  have i4 : nI i0 + 4 + 2 * nI ps.length = nI (i0 + 4 + 2 * ps.length) := by rw [show (4 : Int32) = nI 4 from rfl, show (2 : Int32) = nI 2 from rfl, nI_add, pk_mul, nI_add]
  rw [i3, nI_clamp (show i0 + 3 < 2 ^ 31 by omega), hc, i4, nI_1, nI_clamp (show i0 + 4 + 2 * ps.length < 2 ^ 31 by omega), nI_clamp (show i0 + 4 + 2 * ps.length + 1 < 2 ^ 31 by omega)]
  refine ⟨inM (by omega) (by omega), m_takeNumber 0 99 (by omega) (by omega) (by omega) hL hR hx (fun r2 N1 f1 x1 v1 => ⟨f1.1, inM (by omega) (by omega), fun M3 e3 => ?_⟩)⟩
  have F3 : FPt i0 N M3 := by subst e3; exact f1.fpt.tr (FPt.si ⟨by omega, by omega⟩)
  have x3 : Tr T n m M3 (sNu T n 0 99 x) := x1.fr (by subst e3; rw [sI_ne (show (147 : Nat) ≠ 154 by omega)]) (by subst e3; rw [sI_ne (show (147 : Nat) ≠ 154 by omega)])
  refine m_takeNumber 0 99 (by omega) (by omega) (by omega) (lay_of hL F3.1) (hR.m F3.fm) x3 (fun r5 N4 f4 x4 v4 => ⟨f4.1, inM (by omega) (by omega), fun M6 e6 => ⟨inM (by omega) (by omega), inM (by omega) (by omega), fun M7 e7 => ?_⟩⟩)
  have c6 : M6.1 154 (i0 + 3) = nI ps.length := by
    subst e6; rw [rd_sI, if_neg (by omega), f4.2.1 154 (by omega)]
    subst e3; rw [rd_sI, if_neg (by omega), f1.2.1 154 (by omega)]; exact hc
  rw [c6, nI_1] at e7
  have F7 : FPt i0 N M7 := by subst e7; subst e6; exact F3.tr (f4.fpt.tr ((FPt.si ⟨by omega, by omega⟩).tr (FPt.si ⟨by omega, by omega⟩)))
  refine h M7 F7 (by subst e7; rw [rd_sI, if_pos ⟨rfl, rfl⟩]) (x4.fr (by subst e7; subst e6; rw [sI_ne (show (147 : Nat) ≠ 154 by omega), sI_ne (show (147 : Nat) ≠ 154 by omega)]) (by subst e7; subst e6; rw [sI_ne (show (147 : Nat) ≠ 154 by omega), sI_ne (show (147 : Nat) ≠ 154 by omega)])) (fun j k hj hk => ?_)
  subst hj
  obtain ⟨q0, q1, q2, q3, q4, q5⟩ := sNu_ok hk
  obtain ⟨p0, p1, p2, p3, p4, p5⟩ := sNu_ok q1
  cases p1
  subst p5
  have w2 : r2 = nI (nv T n j) := v1 _ q1
  have w5 : r5 = nI (nv T n (j + 1)) := by have := v4 _ hk; rw [q1] at this; exact this
  intro i hi'
  have ll : (ps ++ [(nv T n j, nv T n (j + 1))]).length = ps.length + 1 := by rw [List.length_append]; rfl
  rw [ll] at hi'
  subst e7
  rw [rd_sI, if_neg (by omega), rd_sI, if_neg (by omega)]
  subst e6
  by_cases e1 : i = ps.length
  · subst e1
    rw [rd_sI, if_neg (by omega), rd_sI, if_pos ⟨rfl, rfl⟩, f4.2.1 154 (by omega), gD_eq]
    subst e3
    rw [rd_sI, if_pos ⟨rfl, rfl⟩]
    exact ⟨w2, w5⟩
  · rw [rd_sI, if_neg (by omega), rd_sI, if_neg (by omega), f4.2.1 154 (by omega), gD_lt (by omega)]
    subst e3
    rw [rd_sI, if_neg (by omega), rd_sI, if_neg (by omega), f1.2.1 154 (by omega)]
    exact hP i (by omega)
/-- a map's row of the reference -/
def MRX (N : Mm) (i0 : Nat) (r : MapD) : Prop := N.1 154 i0 = nI (r.1 / Nat.gcd r.1 r.2.1) ∧ N.1 154 (i0 + 1) = nI (r.2.1 / Nat.gcd r.1 r.2.1) ∧ N.1 154 (i0 + 2) = nI r.2.2.1 ∧ N.1 154 (i0 + 3) = nI r.2.2.2.length ∧ PR N i0 r.2.2.2
theorem m_readMap {G : MG} {d : Nat} {Q : Mm → Prop} {T : Nat → Nat} {n m c nc j i0 : Nat} {nm : List Nat} {N : Mm} (hd : 5 ≤ d) (hL : Lay c N) (hR : RTs T n m N) (hx : Tr T n m N (.ok j)) (hj1 : j + 1 ≤ m) (hnc : nc < 7) (hi0 : i0 = 121 + 16 * nc) (h120 : N.1 154 120 = nI nc) (hz3 : N.1 154 (i0 + 3) = 0) (hN : NmR T n N nm) (hl : nm.length < 13)
    (h : ∀ N', FRM i0 N N' → Tr T n m N' (mPr T n nm j).1 → (∀ k, (mPr T n nm j).1 = .ok k → N'.1 154 120 = nI (nc + 1) ∧ NmR T n N' (nm ++ [j + 1]) ∧ ((∃ k', mE T n nm j = .ok k') → MRX N' i0 (mRow T n nm j))) → Q N') : C G Y_X12_readMap d [.ref (G.b + 147)] N (Rv Q) := by
  refine up1 (P := fun d => C G Y_X12_readMap d _ N (Rv Q)) (fun e => b_X12_readMap (d := e + 4) hL ?_) hd
  have i1 : (121 : Int32) + 16 * nI nc = nI i0 := by rw [show (121 : Int32) = nI 121 from rfl, show (16 : Int32) = nI 16 from rfl, pk_mul, nI_add, hi0]
  rw [show Int32.toNatClampNeg 120 = 120 from rfl, h120, show (7 : Int32) = nI 7 from rfl, nI_eq (by omega) (by omega), i1, show nI i0 + 2 = nI (i0 + 2) by rw [show (2 : Int32) = nI 2 from rfl, nI_add], nI_clamp (show i0 + 2 < 2 ^ 31 by omega)]
  refine ⟨fun _ => ?_, fun g => by omega⟩
  refine m_readName (by omega) hL hR hx hj1 hN hl (fun N2 f2 k2 n2 => ⟨f2.1, ?_⟩)
  have F2 : FRM i0 N N2 := f2.fm
  refine m_takeAfter 8 1 9 (by omega) (by omega) (by omega) (by omega) (lay_of hL F2.1) (hR.m F2) k2 (fun r4 N3 f3 x3 v4 => ⟨f3.1, ?_⟩)
  have F3 : FRM i0 N N3 := F2.tr f3.fm
  have x3' : Tr T n m N3 (mA T n nm j) := x3
  refine m_takeAfter 9 1 9 (by omega) (by omega) (by omega) (by omega) (lay_of hL F3.1) (hR.m F3) x3' (fun r6 N5 f5 x5 v6 => ⟨f5.1, ?_⟩)
  have F5 : FRM i0 N N5 := F3.tr f5.fm
  have x5' : Tr T n m N5 (mB T n nm j) := x5
  refine m_takeAfter 10 0 255 (by omega) (by omega) (by omega) (by omega) (lay_of hL F5.1) (hR.m F5) x5' (fun r8 N7 f7 x7 v8 => ⟨f7.1, inM (by omega) (by omega), fun M9 e9 => ?_⟩)
  have F9 : FRM i0 N M9 := by subst e9; exact F5.tr (f7.fm.tr (FRM.si (.inr ⟨by omega, by omega⟩)))
  have x9 : Tr T n m M9 (mS T n nm j) := x7.fr (by subst e9; rw [sI_ne (show (147 : Nat) ≠ 154 by omega)]) (by subst e9; rw [sI_ne (show (147 : Nat) ≠ 154 by omega)])
  have q9 : ∀ k, k ≠ i0 + 2 → M9.1 154 k = N.1 154 k := fun k hk => by
    subst e9; rw [rd_sI, if_neg (by omega), f7.2.1 154 (by omega), f5.2.1 154 (by omega), f3.2.1 154 (by omega), f2.2.1 154 (by omega)]
  have c9 : M9.1 154 (i0 + 2) = r8 := by subst e9; rw [rd_sI, if_pos ⟨rfl, rfl⟩]
  have nm9 : ∀ k, aN T n nm j = .ok k → NmR T n M9 (nm ++ [j + 1]) := fun k hk => by
    have a := (((n2 k hk).r f3).r f5).r f7
    exact a.fr (by subst e9; rw [sI_ne (show (147 : Nat) ≠ 154 by omega)]) (by subst e9; rfl)
  refine m_takeWord 11 (by omega) (by omega) (lay_of hL F9.1) (hR.m F9) x9 (fun N10 f10 x10 => ⟨f10.1, ?_⟩)
  have F10 : FRM i0 N N10 := F9.tr f10.fm
  have q10 : N10.1 154 = M9.1 154 := f10.2.1 154 (by omega)
  have nm10 : ∀ k, aN T n nm j = .ok k → NmR T n N10 (nm ++ [j + 1]) := fun k hk => (nm9 k hk).r f10
  -- what stays while points are read
  have keep : ∀ {P P' : Mm}, FRM i0 N P ∧ P.1 154 (i0 + 2) = r8 ∧ P.1 154 120 = nI nc ∧ (∀ k, aN T n nm j = .ok k → NmR T n P (nm ++ [j + 1])) → FPt i0 P P' → FRM i0 N P' ∧ P'.1 154 (i0 + 2) = r8 ∧ P'.1 154 120 = nI nc ∧ (∀ k, aN T n nm j = .ok k → NmR T n P' (nm ++ [j + 1])) := fun ⟨h1, h2, h3, h4⟩ hF =>
    ⟨h1.tr hF.fm, by rw [hF.2.2.2.1 _ (by omega)]; exact h2, by rw [hF.2.2.2.1 _ (by omega)]; exact h3, fun k hk => (h4 k hk).fr (hF.2.2.1 13 (by omega) (by omega)) (by rw [hF.2.2.2.2])⟩
  have K10 : FRM i0 N N10 ∧ N10.1 154 (i0 + 2) = r8 ∧ N10.1 154 120 = nI nc ∧ (∀ k, aN T n nm j = .ok k → NmR T n N10 (nm ++ [j + 1])) := ⟨F10, by rw [q10]; exact c9, by rw [q10, q9 120 (by omega)]; exact h120, nm10⟩
  -- a fault: nothing more is done
  have lost82 : ∀ z (P : Mm), FRM i0 N P → Tr T n m P (.error z) → (mPr T n nm j).1 = .error z → L_X12_readMap_82 G (e + 4) Q (nI i0) r4 r6 P := by
    intro z P FP xP he
    refine b_X12_readMap_82 (lay_of hL FP.1) (m_isSign 44 (by omega) (by omega) (lay_of hL FP.1) (hR.m FP) xP (fun j' hj' => by cases hj') (fun _ => ⟨rfl, fun _ => ⟨fun _ => h P FP (by rw [he]; exact xP) (fun k hk => by rw [he] at hk; cases hk), fun g => ?_⟩, fun g => absurd rfl g⟩))
    rw [xP.1] at g
    exact absurd g (nI_ne0 (by have := xP.2.1; omega) xP.2.2)
  have key : ∀ p (P : Mm) (i : Nat) (ps : List (Nat × Nat)), ps.length + p = 5 → (FRM i0 N P ∧ P.1 154 (i0 + 2) = r8 ∧ P.1 154 120 = nI nc ∧ (∀ k, aN T n nm j = .ok k → NmR T n P (nm ++ [j + 1]))) → P.1 154 (i0 + 3) = nI (ps.length + 1) → Tr T n m P (sNu T n 0 99 (sNu T n 0 99 (.ok i))) → (∀ k, sNu T n 0 99 (sNu T n 0 99 (.ok i)) = .ok k → PR P i0 (ps ++ [(nv T n i, nv T n (i + 1))])) → ptS T n (p + 1) (.ok i) ps = mPr T n nm j → L_X12_readMap_82 G (e + 4) Q (nI i0) r4 r6 P := by
    intro p
    induction p with
    | zero =>
      intro P i ps hp KP cP xP hP he
      cases hy : sNu T n 0 99 (sNu T n 0 99 (.ok i)) with
      | error z =>
        rw [hy] at xP
        exact lost82 z P KP.1 xP (by rw [← he, ptS_bad hy])
      | ok j2 =>
        rw [hy] at xP
        have he2 := (ptS_go (m := 0) (ps := ps) hy).symm.trans he
        have hLP := lay_of hL KP.1.1
        refine b_X12_readMap_82 hLP (m_isSign 44 (by omega) (by omega) hLP (hR.m KP.1) xP (fun j' hj' hG => ⟨rfl, fun g => (by cases g), fun _ => ?_⟩) (fun hno => ⟨rfl, fun _ => ⟨fun g => absurd xP.1 g, fun _ => ?_⟩, fun g => absurd rfl g⟩))
        · cases hj'
          rw [show nI i0 + 3 = nI (i0 + 3) by rw [show (3 : Int32) = nI 3 from rfl, nI_add], nI_clamp (show i0 + 3 < 2 ^ 31 by omega), cP, show (6 : Int32) = nI 6 from rfl, nI_eq (by omega) (by omega)]
          refine ⟨inM (by omega) (by omega), fun g => by omega, fun g => ?_⟩
          rw [ifc_pos hG, ifc_pos (by omega)] at he2
          refine m_wrong (k := 5) (by omega) hLP (hR.m KP.1) (by omega) xP (fun P' hF hk => ⟨hF.1, h P' (KP.1.tr hF.fm) (by rw [← he2]; exact hk) (fun k hk' => by rw [← he2] at hk'; cases hk')⟩)
        · rw [ifc_neg (hno j2 rfl)] at he2
          have hok : (mPr T n nm j).1 = .ok j2 := by rw [← he2]
          have hps : (mPr T n nm j).2 = ps ++ [(nv T n i, nv T n (i + 1))] := by rw [← he2]
          obtain ⟨p1, p2, p3⟩ := ptS_ok 6 _ _ j2 hok (by show 6 + 0 ≤ 6; omega) (fun i hi => by have : i < 0 := hi; omega)
          obtain ⟨k2', e2'⟩ := p1 (by omega)
          obtain ⟨k3, e3, -, -⟩ := sW_ok e2'
          obtain ⟨k4, e4, u4, u4', u4'', -⟩ := sNu_ok e3
          obtain ⟨k5, e5, -, -⟩ := sW_ok e4
          obtain ⟨k6, e6, u6, u6', u6'', -⟩ := sNu_ok e5
          obtain ⟨k7, e7, -, -⟩ := sW_ok e6
          obtain ⟨k8, e8, u8, u8', u8'', -⟩ := sNu_ok e7
          obtain ⟨k9, e9', -, -⟩ := sW_ok e8
          have w4 : r4 = nI (mRow T n nm j).1 := v4 _ e7
          have w6 : r6 = nI (mRow T n nm j).2.1 := v6 _ e5
          have w8 : r8 = nI (mRow T n nm j).2.2.1 := v8 _ e3
          have bA : 1 ≤ (mRow T n nm j).1 ∧ (mRow T n nm j).1 ≤ 9 := by
            show 1 ≤ vl T n (sW T n 8 (aN T n nm j)) ∧ vl T n (sW T n 8 (aN T n nm j)) ≤ 9
            rw [e8]; exact ⟨u8', u8''⟩
          have bB : 1 ≤ (mRow T n nm j).2.1 ∧ (mRow T n nm j).2.1 ≤ 9 := by
            show 1 ≤ vl T n (sW T n 9 (mA T n nm j)) ∧ vl T n (sW T n 9 (mA T n nm j)) ≤ 9
            rw [e6]; exact ⟨u6', u6''⟩
          have hg : 0 < Nat.gcd (mRow T n nm j).1 (mRow T n nm j).2.1 := Nat.gcd_pos_of_pos_left _ (by omega)
          have hgl : Nat.gcd (mRow T n nm j).1 (mRow T n nm j).2.1 ≤ (mRow T n nm j).1 := Nat.gcd_le_left _ (by omega)
          rw [w4, w6, nI_l (by omega), nI_l (by omega)]
          refine s_common (by omega) hLP (show (mRow T n nm j).1 < 2 ^ 63 by omega) (fun _ => rfl) (fun g => absurd (by rw [show (0 : Int64) = lN 0 from rfl, pk_lLE (by omega) (by omega)]; omega) g) (by omega) ⟨rfl, ?_⟩
          rw [lN_i, pk_div (by omega) hg (by omega), pk_div (by omega) hg (by omega), nI_1, nI_clamp (show i0 < 2 ^ 31 by omega), nI_clamp (show i0 + 1 < 2 ^ 31 by omega), show Int32.toNatClampNeg 120 = 120 from rfl]
          refine ⟨nI_ne0 hg (by omega), inM (by omega) (by omega), fun M7 e7' => ⟨nI_ne0 hg (by omega), inM (by omega) (by omega), fun M8 e8' M9' e9'' => ?_⟩⟩
          obtain ⟨KP1, KP2, KP3, KP4⟩ := KP
          have c120 : M8.1 154 120 = nI nc := by subst e8'; rw [rd_sI, if_neg (by omega)]; subst e7'; rw [rd_sI, if_neg (by omega)]; exact KP3
          rw [c120, nI_1] at e9''
          have F9' : FRM i0 N M9' := by subst e9''; subst e8'; subst e7'; exact KP1.tr ((FRM.si (.inr ⟨by omega, by omega⟩)).tr ((FRM.si (.inr ⟨by omega, by omega⟩)).tr (FRM.si (.inl rfl))))
          have o147 : M9'.1 147 = P.1 147 := by subst e9''; subst e8'; subst e7'; rw [sI_ne (show (147 : Nat) ≠ 154 by omega), sI_ne (show (147 : Nat) ≠ 154 by omega), sI_ne (show (147 : Nat) ≠ 154 by omega)]
          have o154 : ∀ k, k ≠ i0 → k ≠ i0 + 1 → k ≠ 120 → M9'.1 154 k = P.1 154 k := fun k h1 h2 h3 => by
            subst e9''; subst e8'; subst e7'
            rw [rd_sI, if_neg (fun hh => h3 hh.2), rd_sI, if_neg (fun hh => h2 hh.2), rd_sI, if_neg (fun hh => h1 hh.2)]
          refine h M9' F9' (by rw [hok]; exact xP.fr (by rw [o147]) (by rw [o147])) (fun k hk => ⟨by subst e9''; rw [rd_sI, if_pos ⟨rfl, rfl⟩], (KP4 _ e9').fr (by rw [o147]) (by subst e9''; subst e8'; subst e7'; rfl), fun _ => ⟨?_, ?_, ?_, ?_, ?_⟩⟩)
          · subst e9''; rw [rd_sI, if_neg (by omega)]; subst e8'; rw [rd_sI, if_neg (by omega)]; subst e7'; rw [rd_sI, if_pos ⟨rfl, rfl⟩]
          · subst e9''; rw [rd_sI, if_neg (by omega)]; subst e8'; rw [rd_sI, if_pos ⟨rfl, rfl⟩]
          · rw [o154 _ (by omega) (by omega) (by omega), KP2, w8]
          · show _ = nI (mPr T n nm j).2.length
            rw [o154 _ (by omega) (by omega) (by omega), cP, hps, List.length_append]; rfl
          · show PR M9' i0 (mPr T n nm j).2
            rw [hps]
            have a := hP j2 hy
            intro q hq
            rw [o154 _ (by omega) (by omega) (by omega), o154 _ (by omega) (by omega) (by omega)]
            exact a q hq
    | succ p ihp =>
      intro P i ps hp KP cP xP hP he
      cases hy : sNu T n 0 99 (sNu T n 0 99 (.ok i)) with
      | error z =>
        rw [hy] at xP
        exact lost82 z P KP.1 xP (by rw [← he, ptS_bad hy])
      | ok j2 =>
        rw [hy] at xP
        have he2 := (ptS_go (m := p + 1) (ps := ps) hy).symm.trans he
        have hLP := lay_of hL KP.1.1
        by_cases hG : isG T n j2 44
        · refine b_X12_readMap_82 hLP (m_isSign 44 (by omega) (by omega) hLP (hR.m KP.1) xP (fun j' hj' hG' => ⟨rfl, fun g => (by cases g), fun _ => ?_⟩) (fun hno => absurd hG (hno j2 rfl)))
          rw [show nI i0 + 3 = nI (i0 + 3) by rw [show (3 : Int32) = nI 3 from rfl, nI_add], nI_clamp (show i0 + 3 < 2 ^ 31 by omega), cP, show (6 : Int32) = nI 6 from rfl, nI_eq (by omega) (by omega)]
          refine ⟨inM (by omega) (by omega), fun g M11 e11 => ?_, fun g => by omega⟩
          rw [ifc_pos hG, ifc_neg (by omega)] at he2
          rw [xP.2.1, nI_1] at e11
          have ll : (ps ++ [(nv T n i, nv T n (i + 1))]).length = ps.length + 1 := by rw [List.length_append]; rfl
          have f11 : FR P M11 := by subst e11; exact FR.si (.inl rfl)
          have K11 := keep KP f11.fpt
          have x11 : Tr T n m M11 (.ok (j2 + 1)) := by subst e11; exact ⟨by rw [rd_sI, if_neg (by omega)]; exact xP.1, by rw [rd_sI, if_pos ⟨rfl, rfl⟩], so_lt (hR.m KP.1) xP.2.2 (by have := hG.1; omega)⟩
          have a := hP j2 hy
          refine m_takePoint (ps := ps ++ [(nv T n i, nv T n (i + 1))]) (by omega) (lay_of hL K11.1.1) (hR.m K11.1) (by omega) x11 (by rw [ll, f11.2.1 154 (by omega)]; exact cP) (by omega) (by unfold PR; rw [f11.2.1 154 (by omega)]; exact a) (fun N' g1 g2 g3 g4 => ⟨g1.1, ?_⟩)
          exact ihp N' (j2 + 1) _ (by rw [ll]; omega) (keep K11 g1) g2 g3 (fun k hk => g4 (j2 + 1) k rfl hk) he2
        · -- no comma: the same end as behind the sixth point
          have he3 : (Except.ok j2, ps ++ [(nv T n i, nv T n (i + 1))]) = mPr T n nm j := by rw [ifc_neg hG] at he2; exact he2
          have hok : (mPr T n nm j).1 = .ok j2 := by rw [← he3]
          have hps : (mPr T n nm j).2 = ps ++ [(nv T n i, nv T n (i + 1))] := by rw [← he3]
          refine b_X12_readMap_82 hLP (m_isSign 44 (by omega) (by omega) hLP (hR.m KP.1) xP (fun j' hj' hG' => by cases hj'; exact absurd hG' hG) (fun hno => ⟨rfl, fun _ => ⟨fun g => absurd xP.1 g, fun _ => ?_⟩, fun g => absurd rfl g⟩))
          obtain ⟨p1, p2, p3⟩ := ptS_ok 6 _ _ j2 hok (by show 6 + 0 ≤ 6; omega) (fun i hi => by have : i < 0 := hi; omega)
          obtain ⟨k2', e2'⟩ := p1 (by omega)
          obtain ⟨k3, e3, -, -⟩ := sW_ok e2'
          obtain ⟨k4, e4, u4, u4', u4'', -⟩ := sNu_ok e3
          obtain ⟨k5, e5, -, -⟩ := sW_ok e4
          obtain ⟨k6, e6, u6, u6', u6'', -⟩ := sNu_ok e5
          obtain ⟨k7, e7, -, -⟩ := sW_ok e6
          obtain ⟨k8, e8, u8, u8', u8'', -⟩ := sNu_ok e7
          obtain ⟨k9, e9', -, -⟩ := sW_ok e8
          have w4 : r4 = nI (mRow T n nm j).1 := v4 _ e7
          have w6 : r6 = nI (mRow T n nm j).2.1 := v6 _ e5
          have w8 : r8 = nI (mRow T n nm j).2.2.1 := v8 _ e3
          have bA : 1 ≤ (mRow T n nm j).1 ∧ (mRow T n nm j).1 ≤ 9 := by
            show 1 ≤ vl T n (sW T n 8 (aN T n nm j)) ∧ vl T n (sW T n 8 (aN T n nm j)) ≤ 9
            rw [e8]; exact ⟨u8', u8''⟩
          have bB : 1 ≤ (mRow T n nm j).2.1 ∧ (mRow T n nm j).2.1 ≤ 9 := by
            show 1 ≤ vl T n (sW T n 9 (mA T n nm j)) ∧ vl T n (sW T n 9 (mA T n nm j)) ≤ 9
            rw [e6]; exact ⟨u6', u6''⟩
          have hg : 0 < Nat.gcd (mRow T n nm j).1 (mRow T n nm j).2.1 := Nat.gcd_pos_of_pos_left _ (by omega)
          have hgl : Nat.gcd (mRow T n nm j).1 (mRow T n nm j).2.1 ≤ (mRow T n nm j).1 := Nat.gcd_le_left _ (by omega)
          rw [w4, w6, nI_l (by omega), nI_l (by omega)]
          refine s_common (by omega) hLP (show (mRow T n nm j).1 < 2 ^ 63 by omega) (fun _ => rfl) (fun g => absurd (by rw [show (0 : Int64) = lN 0 from rfl, pk_lLE (by omega) (by omega)]; omega) g) (by omega) ⟨rfl, ?_⟩
          rw [lN_i, pk_div (by omega) hg (by omega), pk_div (by omega) hg (by omega), nI_1, nI_clamp (show i0 < 2 ^ 31 by omega), nI_clamp (show i0 + 1 < 2 ^ 31 by omega), show Int32.toNatClampNeg 120 = 120 from rfl]
          refine ⟨nI_ne0 hg (by omega), inM (by omega) (by omega), fun M7 e7' => ⟨nI_ne0 hg (by omega), inM (by omega) (by omega), fun M8 e8' M9' e9'' => ?_⟩⟩
          obtain ⟨KP1, KP2, KP3, KP4⟩ := KP
          have c120 : M8.1 154 120 = nI nc := by subst e8'; rw [rd_sI, if_neg (by omega)]; subst e7'; rw [rd_sI, if_neg (by omega)]; exact KP3
          rw [c120, nI_1] at e9''
          have F9' : FRM i0 N M9' := by subst e9''; subst e8'; subst e7'; exact KP1.tr ((FRM.si (.inr ⟨by omega, by omega⟩)).tr ((FRM.si (.inr ⟨by omega, by omega⟩)).tr (FRM.si (.inl rfl))))
          have o147 : M9'.1 147 = P.1 147 := by subst e9''; subst e8'; subst e7'; rw [sI_ne (show (147 : Nat) ≠ 154 by omega), sI_ne (show (147 : Nat) ≠ 154 by omega), sI_ne (show (147 : Nat) ≠ 154 by omega)]
          have o154 : ∀ k, k ≠ i0 → k ≠ i0 + 1 → k ≠ 120 → M9'.1 154 k = P.1 154 k := fun k h1 h2 h3 => by
            subst e9''; subst e8'; subst e7'
            rw [rd_sI, if_neg (fun hh => h3 hh.2), rd_sI, if_neg (fun hh => h2 hh.2), rd_sI, if_neg (fun hh => h1 hh.2)]
          refine h M9' F9' (by rw [hok]; exact xP.fr (by rw [o147]) (by rw [o147])) (fun k hk => ⟨by subst e9''; rw [rd_sI, if_pos ⟨rfl, rfl⟩], (KP4 _ e9').fr (by rw [o147]) (by subst e9''; subst e8'; subst e7'; rfl), fun _ => ⟨?_, ?_, ?_, ?_, ?_⟩⟩)
          · subst e9''; rw [rd_sI, if_neg (by omega)]; subst e8'; rw [rd_sI, if_neg (by omega)]; subst e7'; rw [rd_sI, if_pos ⟨rfl, rfl⟩]
          · subst e9''; rw [rd_sI, if_neg (by omega)]; subst e8'; rw [rd_sI, if_pos ⟨rfl, rfl⟩]
          · rw [o154 _ (by omega) (by omega) (by omega), KP2, w8]
          · show _ = nI (mPr T n nm j).2.length
            rw [o154 _ (by omega) (by omega) (by omega), cP, hps, List.length_append]; rfl
          · show PR M9' i0 (mPr T n nm j).2
            rw [hps]
            have a := hP j2 hy
            intro q hq
            rw [o154 _ (by omega) (by omega) (by omega), o154 _ (by omega) (by omega) (by omega)]
            exact a q hq
  refine m_takePoint (ps := []) (by omega) (lay_of hL F10.1) (hR.m F10) (by omega) x10 (by rw [q10, q9 (i0 + 3) (by omega)]; exact hz3) (by show 0 ≤ 5; omega) (fun q hq => by have : q < 0 := hq; omega) (fun N11 f11 c11 x11 p11 => ⟨f11.1, ?_⟩)
  cases hx5 : sW T n 11 (mS T n nm j) with
  | error z =>
    rw [hx5] at x11
    exact lost82 z N11 (F10.tr f11.fm) x11 (by show (ptS T n 6 (sW T n 11 (mS T n nm j)) []).1 = _; rw [hx5, ptS_err])
  | ok i =>
    rw [hx5] at x11 p11
    exact key 5 N11 i [] rfl (keep K10 f11) c11 x11 (fun k hk => p11 i k rfl hk) (by show ptS T n 6 (.ok i) [] = ptS T n 6 (sW T n 11 (mS T n nm j)) []; rw [hx5])
