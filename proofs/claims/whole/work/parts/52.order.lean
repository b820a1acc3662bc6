/-! ===== steadiest: what is tried, and the component's compare ===== -/
def fo (p : List Nat) (i : Nat) : Nat := p.getD i 0
abbrev lessO (M : Mm) (k : Nat) (p q : List Nat) : Prop := (shk M (fo p) k 0 (0, 1)).1 * (shk M (fo q) k 0 (0, 1)).2 < (shk M (fo q) k 0 (0, 1)).1 * (shk M (fo p) k 0 (0, 1)).2
def cmpO (M : Mm) (k : Nat) (p : List Nat) : Option (List Nat) → Option (List Nat)
  | none => some p
  | some q => if lessO M k p q then some p else some q
def goodO (M : Mm) (c k : Nat) (p : List Nat) : Prop := p.length = k ∧ ∀ i, i < k → ArmK M c (fo p i)
def StX (M N : Mm) (c k : Nat) (p : List Nat) (b : Option (List Nat)) : Prop :=
  Ess M N ∧ (∀ i, i < p.length → N.1 131 i = nI (fo p i)) ∧ (b = none → N.1 128 4 = 0) ∧
  ∀ q, b = some q → goodO M c k q ∧ N.1 128 4 = 1 ∧ (∀ i, i < k → N.1 129 i = nI (fo q i)) ∧ N.2.1 130 0 = lN (shk M (fo q) k 0 (0, 1)).1 ∧ N.2.1 130 1 = lN (shk M (fo q) k 0 (0, 1)).2
theorem ArmK.ess {M N : Mm} {c a : Nat} (h : ArmK M c a) (hc : c = 3 ∨ c = 39) (k : Ess M N) : ArmK N c a := by
  obtain ⟨h1, h2, h3⟩ := h
  have e153 : N.1 153 = M.1 153 := k.2.2.2.2.2.2.2.1
  refine ⟨h1, ?_, ?_⟩
  · rw [e153]
    exact h2.ess (k.2.1 _ (by omega) (by omega)) (k.2.1 _ (by omega) (by omega))
  · unfold HandC at h3 ⊢
    rw [e153, k.2.1 (75 + 1) (by omega) (by omega), k.2.1 (75 + 2) (by omega) (by omega), k.2.1 (75 + 3) (by omega) (by omega), k.2.1 (75 + 4) (by omega) (by omega), k.2.1 (75 + 5) (by omega) (by omega), k.2.1 (75 + 6) (by omega) (by omega)]
    exact h3
theorem s_isLaid {G : MG} {d : Nat} {Q : Int32 → Mm → Prop} {M : Mm} {c k : Nat} {x : Int32} (hd : 1 ≤ d) (hL : Lay c M) (hk : k ≤ 4) (h0 : (∀ i, i < k → ¬ M.1 131 i = x) → Q 0 M) (h1 : (∃ i, i < k ∧ M.1 131 i = x) → Q 1 M) : C G Y_X6_isLaid d [.ref (G.b + 128), .int x, .int (nI k)] M (Ri Q) := by
  refine up1 (P := fun d => C G Y_X6_isLaid d _ M (Ri Q)) (fun e => b_X6_isLaid (d := e) hL ?_) hd
  have key : ∀ m i, i + m = k → (∀ i', i' < i → ¬ M.1 131 i' = x) → L_X6_isLaid_2 G e Q x (nI k) (nI i) M := by
    intro m
    induction m with
    | zero =>
      intro i hi hn
      refine b_X6_isLaid_2 hL ⟨fun _ => h0 (fun i' hi' => hn i' (by omega)), fun h => absurd ?_ h⟩
      rw [nI_leI (by omega) (by omega)]; omega
    | succ m ih =>
      intro i hi hn
      refine b_X6_isLaid_2 hL ⟨fun h => absurd h ?_, fun h => ⟨(inN (by omega) (by omega)).1, ?_⟩⟩
      · rw [nI_leI (by omega) (by omega)]; omega
      · rw [nI_clamp (show i < 2 ^ 31 by omega), nI_1]
        refine ⟨fun h2 => ih (i + 1) (by omega) (fun i' hi' => ?_), fun h2 => h1 ⟨i, by omega, h2⟩⟩
        by_cases he : i' = i
        · rw [he]; exact h2
        · exact hn i' (by omega)
  exact key k 0 (by omega) (fun i' hi' => by omega)
theorem s_compare {G : MG} {d : Nat} {Q : Mm → Prop} {M N : Mm} {c k : Nat} {p : List Nat} {b : Option (List Nat)} (hd : 3 ≤ d) (hI : Inv c M) (hk4 : k ≤ 4) (hk7 : M.1 75 7 = nI k) (hS : StX M N c k p b) (hp : goodO M c k p) (h : ∀ N', StX M N' c k p (cmpO M k p b) → Q N') : C G Y_X6_compare d [.ref (G.b + 128), .ref (G.b + c), .ref (G.b + 75)] N (Rv Q) := by
  obtain ⟨s1, s2, s3, s4⟩ := hS
  have hIN := hI.ess s1
  have hLN := hIN.lay
  have e153 : N.1 153 = M.1 153 := s1.2.2.2.2.2.2.2.1
  have hcc := hI.cc
  obtain ⟨bp1, bp2, bp3⟩ := Inv.shB (c := c) (f := fo p) hk4 hp.2
  refine up1 (P := fun d => C G Y_X6_compare d _ N (Rv Q)) (fun e => b_X6_compare (d := e + 2) hLN (sh_off hcc) (by decide) ?_) hd
  refine s_sum (k := k) (f := fo p) (by omega) hIN hk4 (by rw [s1.2.1 75 (by omega) (by omega)]; exact hk7) (by decide) (by decide) (fun i hi => ⟨(hp.2 i hi).1, s2 i (by rw [hp.1]; exact hi), (hp.2 i hi).ess hcc s1⟩) (fun N1 h1 g0 g1 => ⟨h1.2.1, ?_⟩)
  rw [shk_eq e153] at g0 g1
  have hE1 : Ess M N1 := s1.tr (h1.ess (by omega))
  have l1 := lay_of hLN h1.2.1
  -- the tail: the tried one is taken over
  have tail : ∀ N2 : Mm, Ess M N2 → N2.2.1 132 0 = N1.2.1 132 0 → N2.2.1 132 1 = N1.2.1 132 1 → N2.1 131 = N.1 131 → N2.1 128 4 = 1 → cmpO M k p b = some p → C G Y_X8_copyFrom (e + 2) [.ref (G.b + 130), .ref (G.b + 132)] N2 (Rv fun M4 => M4.2.2 = N2.2.2 ∧ L_X6_compare_52 G (e + 2) Q 0 M4) := by
    intro N2 hE2 t0 t1 t131 t4 hc
    have l2 : Lay c N2 := lay_of hI.lay hE2.1
    refine up1 (P := fun d => C G Y_X8_copyFrom d _ N2 (Rv fun M4 => M4.2.2 = N2.2.2 ∧ L_X6_compare_52 G (e + 2) Q 0 M4)) (fun e' => b_X8_copyFrom (d := e') l2 (by decide) (by decide) (fun A1 a1 A2 a2 => ?_)) (show 1 ≤ e + 2 by omega)
    have u0 : A2.2.1 130 0 = lN (shk M (fo p) k 0 (0, 1)).1 := by
      rw [a2, rd_sJ, if_neg (by omega), a1, rd_sJ, if_pos ⟨rfl, rfl⟩, t0, g0]
    have u1 : A2.2.1 130 1 = lN (shk M (fo p) k 0 (0, 1)).2 := by
      rw [a2, rd_sJ, if_pos ⟨rfl, rfl⟩, a1, rd_sJ, if_neg (by omega), t1, g1]
    have uE : Ess M A2 := by
      rw [a2, a1]
      exact (hE2.tr (ess_sJ (by omega))).tr (ess_sJ (by omega))
    have u131 : A2.1 131 = N.1 131 := by rw [a2, a1]; exact t131
    have u4 : A2.1 128 4 = 1 := by rw [a2, a1]; exact t4
    refine ⟨by rw [a2, a1]; rfl, ?_⟩
    have key : ∀ m i (A : Mm), i + m = 4 → Ess M A → A.2.1 = A2.2.1 → A.1 131 = N.1 131 → A.1 128 4 = 1 → (∀ j, j < i → A.1 129 j = A.1 131 j) → L_X6_compare_52 G (e + 2) Q (nI i) A := by
      intro m
      induction m with
      | zero =>
        intro i A hi hA hJ h131 h4 hj
        refine b_X6_compare_52 (lay_of hI.lay hA.1) ⟨fun _ => h A ?_, fun h => absurd ?_ h⟩
        · rw [hc]
          refine ⟨hA, fun j hj' => by rw [h131]; exact s2 j hj', fun h => (by cases h), fun q hq => ?_⟩
          cases hq
          refine ⟨hp, h4, fun j hj' => ?_, by rw [hJ]; exact u0, by rw [hJ]; exact u1⟩
          rw [hj j (by omega), h131]
          exact s2 j (by rw [hp.1]; exact hj')
        · rw [show (4 : Int32) = nI 4 from rfl, nI_leI (by omega) (by omega)]; omega
      | succ m ih =>
        intro i A hi hA hJ h131 h4 hj
        have hin : vp_in (nI i) 4 := (inN (by omega) (by omega)).1
        refine b_X6_compare_52 (lay_of hI.lay hA.1) ⟨fun h => absurd h ?_, fun _ => ⟨hin, hin, fun B eB => ?_⟩⟩
        · rw [show (4 : Int32) = nI 4 from rfl, nI_leI (by omega) (by omega)]; omega
        · rw [nI_clamp (show i < 2 ^ 31 by omega)] at eB
          rw [nI_1]
          subst eB
          refine ih (i + 1) _ (by omega) (hA.tr (ess_sI (by omega))) hJ (by rw [sI_ne (by omega)]; exact h131) (by rw [rd_sI, if_neg (by omega)]; exact h4) (fun j hj' => ?_)
          by_cases he : j = i
          · rw [he, rd_sI, if_pos ⟨rfl, rfl⟩, rd_sI, if_neg (by omega)]
          · rw [rd_sI, if_neg (by omega), rd_sI, if_neg (by omega)]; exact hj j (by omega)
    exact key 4 0 A2 (by omega) uE rfl u131 u4 (fun j hj => by omega)
  have e128 : N1.1 128 4 = N.1 128 4 := by rw [h1.1]
  rw [e128]
  cases hb : b with
  | none =>
    refine ⟨fun _ M3 e3 => ?_, fun h => absurd (s3 hb) h⟩
    subst e3
    exact tail _ (hE1.tr (ess_sI (by omega))) rfl rfl (by rw [sI_ne (by omega), h1.1]) (by rw [rd_sI, if_pos ⟨rfl, rfl⟩]) (by rw [hb]; rfl)
  | some q =>
    obtain ⟨q1, q2, q3, q4, q5⟩ := s4 q hb
    obtain ⟨bq1, bq2, bq3⟩ := Inv.shB (c := c) (f := fo q) hk4 q1.2
    refine ⟨fun h => absurd (h.symm.trans q2) (by decide), fun _ => ?_⟩
    have v0 : N1.2.1 130 0 = lN (shk M (fo q) k 0 (0, 1)).1 := by rw [h1.2.2 130 (by omega)]; exact q4
    have v1 : N1.2.1 130 1 = lN (shk M (fo q) k 0 (0, 1)).2 := by rw [h1.2.2 130 (by omega)]; exact q5
    refine up1 (P := fun d => C G Y_X8_isLessThan d _ N1 _) (fun e' => b_X8_isLessThan (d := e') l1 (by decide) (by decide) ?_) (show 1 ≤ e + 2 by omega)
    have m1 : (shk M (fo q) k 0 (0, 1)).1 * (shk M (fo p) k 0 (0, 1)).2 ≤ 72 * 6561 * 6561 := Nat.mul_le_mul bq1 bp3
    have m2 : (shk M (fo p) k 0 (0, 1)).1 * (shk M (fo q) k 0 (0, 1)).2 ≤ 72 * 6561 * 6561 := Nat.mul_le_mul bp1 bq3
    rw [v0, v1, g0, g1, lN_mul, lN_mul, pk_lLE (by omega) (by omega)]
    refine ⟨fun hle => ⟨rfl, fun _ => h N1 ?_, fun h => absurd rfl h⟩, fun hlt => ⟨rfl, fun h => (by cases h), fun _ M3 e3 => ?_⟩⟩
    · have hc : cmpO M k p b = some q := by rw [hb]; exact if_neg (by omega)
      rw [hc]
      refine ⟨hE1, fun j hj => by rw [h1.1]; exact s2 j hj, fun h => (by cases h), fun q' hq' => ?_⟩
      cases hq'
      exact ⟨q1, by rw [h1.1]; exact q2, fun j hj => by rw [h1.1]; exact q3 j hj, v0, v1⟩
    · subst e3
      exact tail _ (hE1.tr (ess_sI (by omega))) rfl rfl (by rw [sI_ne (by omega), h1.1]) (by rw [rd_sI, if_pos ⟨rfl, rfl⟩]) (by rw [hb]; exact if_pos (by omega))
