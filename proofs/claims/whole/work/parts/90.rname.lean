/-! ===== office: the reference's names and holes ===== -/
def NmR (T : Nat → Nat) (n : Nat) (N : Mm) (nm : List Nat) : Prop := N.1 147 13 = nI nm.length ∧ ∀ i, i < nm.length → N.2.1 155 i = lN (wdF 37 T n (tbF T n (nm.getD i 0))) ∧ soF T n (tbF T n (nm.getD i 0)) = 1
def FN (N N' : Mm) : Prop := N'.2.2 = N.2.2 ∧ (∀ o, o ≠ 147 → N'.1 o = N.1 o) ∧ (∀ k, k ≠ 7 → k ≠ 8 → k ≠ 13 → N'.1 147 k = N.1 147 k) ∧ ∀ o, o ≠ 155 → N'.2.1 o = N.2.1 o
theorem FN.tr {N N' P : Mm} (h : FN N N') (k : FN N' P) : FN N P := ⟨k.1.trans h.1, fun o ho => (k.2.1 o ho).trans (h.2.1 o ho), fun q h1 h2 h3 => (k.2.2.1 q h1 h2 h3).trans (h.2.2.1 q h1 h2 h3), fun o ho => (k.2.2.2 o ho).trans (h.2.2.2 o ho)⟩
theorem FR.fn {N N' : Mm} (h : FR N N') : FN N N' := ⟨h.1, h.2.1, fun k h1 h2 _ => h.2.2.1 k h1 h2, fun o _ => by rw [h.2.2.2]⟩
theorem RTs.n {T : Nat → Nat} {n m : Nat} {N N' : Mm} (h : RTs T n m N) (k : FN N N') : RTs T n m N' := h.fr (k.2.1 149 (by omega)) (k.2.1 150 (by omega)) (k.2.2.2 151 (by omega)) (k.2.2.2 152 (by omega))
theorem NmR.r {T : Nat → Nat} {n : Nat} {N N' : Mm} {nm : List Nat} (h : NmR T n N nm) (k : FR N N') : NmR T n N' nm := by
  unfold NmR
  rw [k.2.2.1 13 (by omega) (by omega), k.2.2.2]
  exact h
theorem m_readName {G : MG} {d : Nat} {Q : Mm → Prop} {T : Nat → Nat} {n m c j : Nat} {nm : List Nat} {N : Mm} (hd : 2 ≤ d) (hL : Lay c N) (hR : RTs T n m N) (hx : Tr T n m N (.ok j)) (hj1 : j + 1 ≤ m) (hN : NmR T n N nm) (hl : nm.length < 13)
    (h : ∀ N', FN N N' → Tr T n m N' (aN T n nm j) → (∀ j', aN T n nm j = .ok j' → NmR T n N' (nm ++ [j + 1])) → Q N') : C G Y_X12_readName d [.ref (G.b + 147)] N (Rv Q) := by
  have hm := hR.1
  refine up1 (P := fun d => C G Y_X12_readName d _ N (Rv Q)) (fun e => b_X12_readName (d := e + 1) hL (fun M1 e1 => ?_)) hd
  rw [hx.2.1, nI_1] at e1
  have F1 : FR N M1 := by subst e1; exact FR.si (.inl rfl)
  have hL1 := lay_of hL F1.1
  have hR1 := hR.r F1
  have x1 : Tr T n m M1 (.ok (j + 1)) := by subst e1; exact ⟨by rw [rd_sI, if_neg (by omega)]; exact hx.1, by rw [rd_sI, if_pos ⟨rfl, rfl⟩], hj1⟩
  have lost69 : ∀ z (P : Mm), FR N P → Tr T n m P (.error z) → aN T n nm j = .error z → L_X12_readName_69 G (e + 1) Q P := by
    intro z P hF hk he
    refine b_X12_readName_69 (lay_of hL hF.1) ⟨fun _ => h P hF.fn (by rw [he]; exact hk) (fun j' hj' => by rw [he] at hj'; cases hj'), fun g => ?_⟩
    rw [hk.1] at g
    exact absurd g (nI_ne0 (by have := hk.2.1; omega) hk.2.2)
  have lost24 : ∀ z (P : Mm) k, FR N P → Tr T n m P (.error z) → aN T n nm j = .error z → L_X12_readName_24 G (e + 1) Q (nI k) P := by
    intro z P k hF hk he
    refine b_X12_readName_24 (lay_of hL hF.1) ⟨fun _ => lost69 z P hF hk he, fun _ => ⟨fun _ => lost69 z P hF hk he, fun g => ?_⟩⟩
    rw [hk.1] at g
    exact absurd g (nI_ne0 (by have := hk.2.1; omega) hk.2.2)
  refine m_isName (by omega) hL1 hR1 x1 (fun hy => ⟨rfl, fun _ => ?_, fun g => (by cases g)⟩) (fun hno => ⟨rfl, fun g => absurd rfl g, fun _ => ?_⟩)
  · have s1 := hy.1
    have b1 := (wd_lt s1).2
    obtain ⟨t1, t2, t3, t4, t5⟩ := hR1.2.1 (j + 1) hj1
    have hN1 := hN.r F1
    have key : ∀ p k, k + p = nm.length → (∀ i, i < k → wdF 37 T n (tbF T n (nm.getD i 0)) ≠ wdF 37 T n (tbF T n (j + 1))) → L_X12_readName_24 G (e + 1) Q (nI k) M1 := by
      intro p
      induction p with
      | zero =>
        intro k hk hne
        have he : aN T n nm j = .ok (j + 1 + 1) := (ifc_pos hy).trans (ifc_neg (fun ⟨i, hi, hw⟩ => by
          obtain ⟨q, hq, e⟩ := mem_gD.mp hi
          exact hne q (by omega) (by rw [e]; exact hw)))
        refine b_X12_readName_24 hL1 ⟨fun _ => b_X12_readName_69 hL1 ⟨fun g => absurd x1.1 g, fun _ => ?_⟩, fun g => absurd ?_ g⟩
        · rw [x1.2.1, hN1.1, nI_clamp (by omega), nI_clamp (by omega), t3 s1]
          refine ⟨inM (by omega) (by omega), inM (by omega) (by omega), fun M2 e2 M3 e3 M4 e4 => ?_⟩
          have r13 : M2.1 147 13 = nI nm.length := by subst e2; exact hN1.1
          rw [r13, nI_1] at e3
          have r7 : M3.1 147 7 = nI (j + 1) := by subst e3; rw [rd_sI, if_neg (by omega)]; subst e2; exact x1.2.1
          rw [r7, nI_1] at e4
          have FN4 : FN N M4 := by
            subst e4; subst e3; subst e2
            refine F1.fn.tr ⟨rfl, fun o ho => ?_, fun k h1 h2 h3 => ?_, fun o ho => ?_⟩
            · rw [sI_ne ho, sI_ne ho]; rfl
            · rw [rd_sI, if_neg (by omega), rd_sI, if_neg (by omega)]; rfl
            · exact sJ_ne ho
          refine h M4 FN4 ?_ (fun j' hj' => ?_)
          · rw [he]
            refine ⟨?_, ?_, so_lt hR1 hj1 (by omega)⟩
            · subst e4; rw [rd_sI, if_neg (by omega)]; subst e3; rw [rd_sI, if_neg (by omega)]; subst e2; exact x1.1
            · subst e4; rw [rd_sI, if_pos ⟨rfl, rfl⟩]
          · refine ⟨?_, fun i hi => ?_⟩
            · subst e4; rw [rd_sI, if_neg (by omega)]; subst e3; rw [rd_sI, if_pos ⟨rfl, rfl⟩, List.length_append]; rfl
            · have ll : (nm ++ [j + 1]).length = nm.length + 1 := by rw [List.length_append]; rfl
              rw [ll] at hi
              have l4 : M4.2.1 155 i = M2.2.1 155 i := by subst e4; subst e3; rfl
              rw [l4]
              subst e2
              by_cases e5 : i = nm.length
              · subst e5
                rw [rd_sJ', if_pos ⟨rfl, rfl⟩, gD_eq]
                exact ⟨rfl, s1⟩
              · rw [rd_sJ', if_neg (by omega), gD_lt (by omega)]
                exact hN1.2 i (by omega)
        · rw [hN1.1, nI_leI (by omega) (by omega)]; omega
      | succ p ih =>
        intro k hk hne
        obtain ⟨n1, n2⟩ := hN1.2 k (by omega)
        refine b_X12_readName_24 hL1 ⟨fun g => absurd g ?_, fun _ => ⟨fun g => absurd x1.1 g, fun _ => ?_⟩⟩
        · rw [hN1.1, nI_leI (by omega) (by omega)]; omega
        · rw [x1.2.1, nI_clamp (by omega), nI_clamp (by omega), n1, t3 s1, pk_lEQ (by have := (wd_lt n2).2; omega) (by omega), nI_1]
          refine ⟨inM (by omega) (by omega), inM (by omega) (by omega), fun g => ih (k + 1) (by omega) (fun i hi => ?_), fun g => ?_⟩
          · by_cases e1 : i = k
            · subst e1; exact g
            · exact hne i (by omega)
          · have he : aN T n nm j = fl T n 3 (.ok (j + 1)) := (ifc_pos hy).trans (ifc_pos ⟨nm.getD k 0, mem_gD.mpr ⟨k, by omega, rfl⟩, g⟩)
            exact m_wrong (k := 3) (by omega) hL1 hR1 (by omega) x1 (fun P hF hk' => ⟨hF.1, lost24 _ P (k + 1) (F1.tr hF) hk' he⟩)
    exact key nm.length 0 (by omega) (fun i hi => by omega)
  · have he : aN T n nm j = fl T n 1 (.ok (j + 1)) := ifc_neg hno
    exact m_wrong (k := 1) (by omega) hL1 hR1 (by omega) x1 (fun P hF hk' => ⟨hF.1, lost24 _ P 0 (F1.tr hF) hk' he⟩)
/-- the holes told so far, in the row that begins at i0 -/
def HR (N : Mm) (i0 : Nat) (hs : List Nat) : Prop := N.1 153 (i0 + 1) = nI hs.length ∧ hs.length ≤ 4 ∧ ∀ k, k < hs.length → N.1 153 (i0 + 2 + k) = nI (hf hs k) ∧ 1 ≤ hf hs k ∧ hf hs k ≤ 9
noncomputable def hS2 (T : Nat → Nat) (n : Nat) (x : Except Nat Nat) (hs : List Nat) : Except Nat Nat × List Nat := match x with
  | .error e => (.error e, hs)
  | .ok j => match hst T n hs.length j hs with
    | .error e => (.error e, hs)
    | .ok j' => (.ok j', hs ++ [nv T n j])
theorem hS2_bad {T : Nat → Nat} {n j z : Nat} {hs : List Nat} (h : hst T n hs.length j hs = .error z) : hS2 T n (.ok j) hs = (.error z, hs) := by
  show (match hst T n hs.length j hs with
    | Except.error e => ((Except.error e, hs) : Except Nat Nat × List Nat)
    | Except.ok j' => (Except.ok j', hs ++ [nv T n j])) = _
  rw [h]
theorem hS2_ok {T : Nat → Nat} {n j j' : Nat} {hs : List Nat} (h : hst T n hs.length j hs = .ok j') : hS2 T n (.ok j) hs = (.ok j', hs ++ [nv T n j]) := by
  show (match hst T n hs.length j hs with
    | Except.error e => ((Except.error e, hs) : Except Nat Nat × List Nat)
    | Except.ok j' => (Except.ok j', hs ++ [nv T n j])) = _
  rw [h]
theorem hlS_S2 {T : Nat → Nat} {n m i : Nat} {x : Except Nat Nat} {hs : List Nat} (h : ∀ j, x = .ok j → i = hs.length ∧ ¬ (2 ≤ i ∧ soF T n (tbF T n j) ≠ 2)) : hlS T n (m + 1) i x hs = hlS T n m (i + 1) (hS2 T n x hs).1 (hS2 T n x hs).2 := by
  cases x with
  | error z => rw [hlS_err]; exact (hlS_err _ _).symm
  | ok j =>
    obtain ⟨h1, h2⟩ := h j rfl
    subst h1
    cases h3 : hst T n hs.length j hs with
    | error z => rw [hlS_bad h2 h3, hS2_bad h3, hlS_err]
    | ok j' => rw [hlS_more h2 h3, hS2_ok h3]
def FH (i0 : Nat) (N N' : Mm) : Prop := N'.2.2 = N.2.2 ∧ (∀ o, o ≠ 147 → o ≠ 153 → N'.1 o = N.1 o) ∧ (∀ k, k ≠ 7 → k ≠ 8 → N'.1 147 k = N.1 147 k) ∧ (∀ k, k ≠ i0 + 1 → (k < i0 + 2 ∨ i0 + 5 < k) → N'.1 153 k = N.1 153 k) ∧ N'.2.1 = N.2.1
theorem FH.tr {i0 : Nat} {N N' P : Mm} (h : FH i0 N N') (k : FH i0 N' P) : FH i0 N P := ⟨k.1.trans h.1, fun o h1 h2 => (k.2.1 o h1 h2).trans (h.2.1 o h1 h2), fun q h1 h2 => (k.2.2.1 q h1 h2).trans (h.2.2.1 q h1 h2), fun q h1 h2 => (k.2.2.2.1 q h1 h2).trans (h.2.2.2.1 q h1 h2), k.2.2.2.2.trans h.2.2.2.2⟩
theorem FR.fh {i0 : Nat} {N N' : Mm} (h : FR N N') : FH i0 N N' := ⟨h.1, fun o h1 _ => h.2.1 o h1, h.2.2.1, fun k _ _ => by rw [h.2.1 153 (by omega)], h.2.2.2⟩
theorem FH.si {i0 k : Nat} {N : Mm} {v : Int32} (h : k = i0 + 1 ∨ i0 + 2 ≤ k ∧ k ≤ i0 + 5) : FH i0 N (sI N 153 k v) := ⟨rfl, fun o _ h2 => sI_ne h2, fun q _ _ => by rw [rd_sI, if_neg (by omega)], fun q h1 h2 => by rw [rd_sI, if_neg (by omega)], rfl⟩
theorem RTs.h {T : Nat → Nat} {n m i0 : Nat} {N N' : Mm} (h : RTs T n m N) (k : FH i0 N N') : RTs T n m N' := h.fr (k.2.1 149 (by omega) (by omega)) (k.2.1 150 (by omega) (by omega)) (by rw [k.2.2.2.2]) (by rw [k.2.2.2.2])
theorem HR.r {N N' : Mm} {i0 : Nat} {hs : List Nat} (h : HR N i0 hs) (k : FR N N') : HR N' i0 hs := by
  unfold HR
  rw [k.2.1 153 (by omega)]
  exact h
theorem m_takeHole {G : MG} {d : Nat} {Q : Mm → Prop} {T : Nat → Nat} {n m c i0 : Nat} {N : Mm} {x : Except Nat Nat} {hs : List Nat} (hd : 3 ≤ d) (hL : Lay c N) (hR : RTs T n m N) (hi : i0 ≤ 600) (hx : Tr T n m N x) (hH : ∀ j, x = .ok j → HR N i0 hs)
    (h : ∀ N', FH i0 N N' → Tr T n m N' (hS2 T n x hs).1 → (∀ j, (hS2 T n x hs).1 = .ok j → HR N' i0 (hS2 T n x hs).2) → Q N') : C G Y_X12_takeHole d [.ref (G.b + 147), .int (nI i0)] N (Rv Q) := by
  have ei : ∀ k : Nat, nI i0 + nI k = nI (i0 + k) := fun k => nI_add i0 k
  refine up1 (P := fun d => C G Y_X12_takeHole d _ N (Rv Q)) (fun e => b_X12_takeHole (d := e + 2) hL ?_) hd
  rw [nI_1, nI_clamp (by omega)]
  refine ⟨inM (by omega) (by omega), m_takeNumber 1 9 (by omega) (by omega) (by omega) hL hR hx (fun r2 N1 f1 k1 v1 => ⟨f1.1, ?_⟩)⟩
  -- a fault already, or now
  have lost : ∀ z, sNu T n 1 9 x = .error z → (hS2 T n x hs) = (.error z, hs) → ((N1.1 147 8) ≤ 0 → ∀ M4 : Mm, M4 = sI N1 147 7 ((N1.1 147 7) - 1) → L_X12_takeHole_38 G (e + 2) Q (nI i0) (N.1 153 (i0 + 1)) r2 0 M4) ∧ (¬ (N1.1 147 8) ≤ 0 → Q N1) := by
    intro z hz he
    rw [hz] at k1
    refine ⟨fun g => ?_, fun _ => h N1 f1.fh (by rw [he]; exact k1) (fun j hj => by rw [he] at hj; cases hj)⟩
    rw [k1.1] at g
    exact absurd g (nI_nle (by have := k1.2.1; omega) k1.2.2)
  cases x with
  | error z => exact lost z rfl rfl
  | ok j =>
    have hH0 := hH j rfl
    obtain ⟨g1, g2, g3⟩ := id hH0
    cases hs1 : sNu T n 1 9 (.ok j) with
    | error z =>
      refine lost z hs1 (hS2_bad ?_)
      have a1 : ¬ (soF T n (tbF T n j) = 2 ∧ nv T n j ∈ hs) := by
        rintro ⟨b1, b2⟩
        obtain ⟨k, hk, e1⟩ := mem_gD.mp b2
        have b3 := (g3 k hk).2
        have e1' : hf hs k = nv T n j := e1
        rw [show sNu T n 1 9 (.ok j) = .ok (j + 1) from (ifc_pos b1).trans (ifc_neg (by omega))] at hs1
        cases hs1
      have a2 : ¬ (soF T n (tbF T n j) = 2 ∧ hs.length = 4 ∧ 1 ≤ nv T n j ∧ nv T n j ≤ 9) := by
        rintro ⟨b1, -, b2, b3⟩
        rw [show sNu T n 1 9 (.ok j) = .ok (j + 1) from (ifc_pos b1).trans (ifc_neg (by omega))] at hs1
        cases hs1
      exact ((ifc_neg a1).trans (ifc_neg a2)).trans hs1
    | ok j1 =>
      obtain ⟨j0, q1, q2, q3, q4, q5⟩ := sNu_ok hs1
      cases q1
      subst q5
      have hv : r2 = nI (nv T n j) := v1 _ hs1
      rw [hs1] at k1
      refine ⟨fun _ M4 e4 => ?_, fun g => absurd (by rw [k1.1]; decide) g⟩
      rw [k1.2.1, nI_pred] at e4
      have f4 : FR N M4 := by subst e4; exact f1.tr (FR.si (.inl rfl))
      have x4 : Tr T n m M4 (.ok j) := by
        subst e4
        exact ⟨by rw [rd_sI, if_neg (by omega)]; exact k1.1, by rw [rd_sI, if_pos ⟨rfl, rfl⟩], by have := k1.2.2; omega⟩
      subst hv
      rw [g1]
      -- behind the looks
      have fin80 : ∀ (P : Mm) (y : Except Nat Nat), FR N P → Tr T n m P y → (∀ z, y = .error z → hst T n hs.length j hs = .error z) → (∀ i, y = .ok i → i = j ∧ nv T n j ∉ hs ∧ hs.length ≠ 4) → L_X12_takeHole_80 G (e + 2) Q (nI i0) (nI hs.length) (nI (nv T n j)) P := by
        intro P y hF hy h1 h2
        have hLP := lay_of hL hF.1
        cases y with
        | error z =>
          refine b_X12_takeHole_80 hLP ⟨fun _ => h P hF.fh (by rw [hS2_bad (h1 z rfl)]; exact hy) (fun j' hj' => by rw [hS2_bad (h1 z rfl)] at hj'; cases hj'), fun g => ?_⟩
          rw [hy.1] at g
          exact absurd g (nI_ne0 (by have := hy.2.1; omega) hy.2.2)
        | ok i =>
          obtain ⟨rfl, b1, b2⟩ := h2 i rfl
          have hst0 : hst T n hs.length i hs = .ok (i + 1) := ((ifc_neg (fun hh => b1 hh.2)).trans (ifc_neg (fun hh => b2 hh.2.1))).trans hs1
          have hp := (hH0.r hF)
          refine b_X12_takeHole_80 hLP ⟨fun g => absurd hy.1 g, fun _ M2 e2 => ?_⟩
          rw [hy.2.1, nI_1] at e2
          rw [show (2 : Int32) = nI 2 from rfl, nI_add, nI_add, nI_1, nI_clamp (by omega), nI_clamp (by omega)]
          refine ⟨inM (by omega) (by omega), fun M3 e3 => ⟨inM (by omega) (by omega), inM (by omega) (by omega), fun M4' e4' => ?_⟩⟩
          have r1 : M3.1 153 (i0 + 1) = nI hs.length := by subst e3; rw [rd_sI, if_neg (by omega)]; subst e2; rw [sI_ne (show (153 : Nat) ≠ 147 by omega)]; exact hp.1
          rw [r1, nI_1] at e4'
          have F4 : FH i0 N M4' := by
            subst e4'; subst e3; subst e2
            exact hF.fh.tr ((FR.si (.inl rfl)).fh.tr ((FH.si (.inr ⟨by omega, by omega⟩)).tr (FH.si (.inl rfl))))
          refine h M4' F4 ?_ (fun j' hj' => ?_)
          · rw [hS2_ok hst0]
            have := so_lt hR hy.2.2 (by omega)
            refine ⟨?_, ?_, this⟩
            · subst e4'; rw [rd_sI, if_neg (by omega)]; subst e3; rw [rd_sI, if_neg (by omega)]; subst e2; rw [rd_sI, if_neg (by omega)]; exact hy.1
            · subst e4'; rw [rd_sI, if_neg (by omega)]; subst e3; rw [rd_sI, if_neg (by omega)]; subst e2; rw [rd_sI, if_pos ⟨rfl, rfl⟩]
          · rw [hS2_ok hst0]
            have ll : (hs ++ [nv T n i]).length = hs.length + 1 := by rw [List.length_append]; rfl
            refine ⟨?_, by show (hs ++ [nv T n i]).length ≤ 4; omega, fun k hk => ?_⟩
            · show _ = nI (hs ++ [nv T n i]).length
              rw [ll]; subst e4'; rw [rd_sI, if_pos ⟨rfl, rfl⟩]
            · have hk' : k < hs.length + 1 := by rw [← ll]; exact hk
              show M4'.1 153 (i0 + 2 + k) = nI ((hs ++ [nv T n i]).getD k 0) ∧ 1 ≤ (hs ++ [nv T n i]).getD k 0 ∧ (hs ++ [nv T n i]).getD k 0 ≤ 9
              subst e4'
              rw [rd_sI, if_neg (by omega)]
              subst e3
              by_cases e5 : k = hs.length
              · subst e5
                rw [rd_sI, if_pos ⟨rfl, rfl⟩, gD_eq]
                exact ⟨rfl, q3, q4⟩
              · rw [rd_sI, if_neg (by omega), gD_lt (by omega)]
                subst e2
                rw [sI_ne (show (153 : Nat) ≠ 147 by omega)]
                exact hp.2.2 k (by omega)
      have h38 : ∀ p k (P : Mm) (y : Except Nat Nat), k + p = hs.length → FR N P → Tr T n m P y → ((y = .ok j ∧ ∀ k', k' < k → hf hs k' ≠ nv T n j) ∨ (y = fl T n 3 (.ok j) ∧ nv T n j ∈ hs)) → L_X12_takeHole_38 G (e + 2) Q (nI i0) (nI hs.length) (nI (nv T n j)) (nI k) P := by
        intro p
        induction p with
        | zero =>
          intro k P y hk hF hy hc
          have hLP := lay_of hL hF.1
          refine b_X12_takeHole_38 hLP ⟨fun _ => ?_, fun g => absurd ?_ g⟩
          · rw [show (4 : Int32) = nI 4 from rfl, nI_eq (by omega) (by omega)]
            refine ⟨fun g => ?_, fun g => ?_⟩
            · rcases hc with ⟨rfl, hc⟩ | ⟨rfl, hc⟩
              · have hnm : nv T n j ∉ hs := fun hh => by
                  obtain ⟨k', hk', e1⟩ := mem_gD.mp hh
                  exact hc k' (by omega) e1
                exact fin80 P _ hF hy (fun z hz => by cases hz) (fun i hi => by cases hi; exact ⟨rfl, hnm, g⟩)
              · exact fin80 P _ hF hy (fun z hz => by cases hz; exact ifc_pos ⟨q2, hc⟩) (fun i hi => absurd hi fl_err)
            · refine m_wrong (k := 5) (by omega) hLP (hR.r hF) (by omega) hy (fun P' hF' hy' => ⟨hF'.1, ?_⟩)
              rcases hc with ⟨rfl, hc⟩ | ⟨rfl, hc⟩
              · refine fin80 P' _ (hF.tr hF') hy' (fun z hz => by
                  cases hz
                  refine (ifc_neg (fun hh => ?_)).trans (ifc_pos ⟨q2, g, q3, q4⟩)
                  obtain ⟨k', hk', e1⟩ := mem_gD.mp hh.2
                  exact hc k' (by omega) e1) (fun i hi => absurd hi fl_err)
              · exact fin80 P' _ (hF.tr hF') hy' (fun z hz => by cases hz; exact ifc_pos ⟨q2, hc⟩) (fun i hi => absurd hi fl_err)
          · rw [nI_leI (by omega) (by omega)]; omega
        | succ p ih =>
          intro k P y hk hF hy hc
          have hLP := lay_of hL hF.1
          obtain ⟨c1, c2, c3⟩ := (hH0.r hF).2.2 k (by omega)
          refine b_X12_takeHole_38 hLP ⟨fun g => absurd g ?_, fun _ => ?_⟩
          · rw [nI_leI (by omega) (by omega)]; omega
          · have hvv := nv_lt q2
            have hvv' : nv T n j < 10000 := hvv
            rw [show (2 : Int32) = nI 2 from rfl, nI_add, nI_add, nI_clamp (by omega), c1, nI_eq (by omega) (by omega), nI_1]
            refine ⟨inM (by omega) (by omega), fun g => ih (k + 1) P y (by omega) hF hy ?_, fun g => ?_⟩
            · rcases hc with ⟨e1, hc⟩ | hc
              · refine .inl ⟨e1, fun k' hk' => ?_⟩
                by_cases e2 : k' = k
                · subst e2; exact g
                · exact hc k' (by omega)
              · exact .inr hc
            · refine m_wrong (k := 3) (by omega) hLP (hR.r hF) (by omega) hy (fun P' hF' hy' => ⟨hF'.1, ih (k + 1) P' _ (by omega) (hF.tr hF') hy' (.inr ?_)⟩)
              rcases hc with ⟨rfl, -⟩ | ⟨rfl, hc⟩
              · exact ⟨rfl, mem_gD.mpr ⟨k, by omega, g⟩⟩
              · exact ⟨rfl, hc⟩
      exact h38 hs.length 0 M4 (.ok j) (by omega) f4 x4 (.inl ⟨rfl, fun k' h => by omega⟩)
