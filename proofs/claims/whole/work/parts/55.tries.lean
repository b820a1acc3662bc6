/-! ===== steadiest: the reference's recursion ===== -/
theorem red_lt {s t : Nat × Nat} (hs : 0 < s.2) (ht : 0 < t.2) : redA s * redB t < redA t * redB s ↔ s.1 * t.2 < t.1 * s.2 := by
  unfold redA redB
  have g1 : 0 < Nat.gcd s.1 s.2 := Nat.gcd_pos_of_pos_right _ hs
  have g2 : 0 < Nat.gcd t.1 t.2 := Nat.gcd_pos_of_pos_right _ ht
  have a1 := Nat.mul_div_cancel' (Nat.gcd_dvd_left s.1 s.2)
  have b1 := Nat.mul_div_cancel' (Nat.gcd_dvd_right s.1 s.2)
  have a2 := Nat.mul_div_cancel' (Nat.gcd_dvd_left t.1 t.2)
  have b2 := Nat.mul_div_cancel' (Nat.gcd_dvd_right t.1 t.2)
  generalize Nat.gcd s.1 s.2 = g at *
  generalize Nat.gcd t.1 t.2 = h at *
  generalize s.1 / g = x1 at *
  generalize s.2 / g = y1 at *
  generalize t.1 / h = x2 at *
  generalize t.2 / h = y2 at *
  rw [← a1, ← b1, ← a2, ← b2]
  have e1 : g * x1 * (h * y2) = g * h * (x1 * y2) := by
    rw [Nat.mul_assoc, Nat.mul_assoc, Nat.mul_left_comm x1 h y2]
  have e2 : h * x2 * (g * y1) = g * h * (x2 * y1) := by
    rw [Nat.mul_comm g h, Nat.mul_assoc, Nat.mul_assoc, Nat.mul_left_comm x2 g y1]
  rw [e1, e2]
  exact (Nat.mul_lt_mul_left (Nat.mul_pos g1 g2)).symm
theorem red_b {s : Nat × Nat} (hs : 0 < s.2) : redA s ≤ s.1 ∧ redB s ≤ s.2 ∧ 0 < redB s := by
  unfold redA redB
  exact ⟨Nat.div_le_self _ _, Nat.div_le_self _ _, Nat.div_pos (Nat.gcd_le_right _ hs) (Nat.gcd_pos_of_pos_right _ hs)⟩
def StM (M N : Mm) (c k : Nat) (p : List Nat) (b : Option (List Nat)) : Prop :=
  Ess M N ∧ (∀ i, i < p.length → N.1 157 i = nI (fo p i)) ∧ (b = none → N.2.1 147 26 = 0) ∧
  ∀ q, b = some q → goodO M c k q ∧ (∀ i, i < k → N.1 158 i = nI (fo q i)) ∧ N.2.1 147 25 = lN (redA (shk M (fo q) k 0 (0, 1))) ∧ N.2.1 147 26 = lN (redB (shk M (fo q) k 0 (0, 1)))
theorem StM.pre {M N : Mm} {c k a : Nat} {p : List Nat} {b : Option (List Nat)} (h : StM M N c k (p ++ [a]) b) : StM M N c k p b := by
  obtain ⟨s1, s2, s3, s4⟩ := h
  refine ⟨s1, fun i hi => ?_, s3, s4⟩
  rw [s2 i (by rw [List.length_append]; omega), fo_app hi]
theorem s_tries0 {G : MG} {d : Nat} {Q : Mm → Prop} {M N : Mm} {c k : Nat} {x2 : Int32} {p : List Nat} {b : Option (List Nat)} (hd : 3 ≤ d) (hI : Inv c M) (hk4 : k ≤ 4) (hk : M.1 153 85 = nI k) (hS : StM M N c k p b) (hp : goodO M c k p) (h : ∀ N', StM M N' c k p (cmpO M k p b) → Q N') : C G Y_X12_triesOrder d [.ref (G.b + 147), .int (nI k), .int x2] N (Rv Q) := by
  obtain ⟨s1, s2, s3, s4⟩ := hS
  have hIN := hI.ess s1
  have hLN := hIN.lay
  have e153 : N.1 153 = M.1 153 := s1.2.2.2.2.2.2.2.1
  have hcc := hI.cc
  obtain ⟨bp1, bp2, bp3⟩ := Inv.shB (c := c) (f := fo p) hk4 hp.2
  obtain ⟨rp1, rp2, rp3⟩ := red_b (s := shk M (fo p) k 0 (0, 1)) (by omega)
  refine up1 (P := fun d => C G Y_X12_triesOrder d _ N (Rv Q)) (fun e => b_X12_triesOrder (d := e + 2) hLN ?_) hd
  refine s_chained (by omega) hLN ⟨rfl, fun hne => absurd ?_ hne, fun _ => ?_⟩
  · rw [e153, hk]
  · refine s_findShakes (k := k) (f := fo p) (by omega) hLN hk4 (by rw [e153]; exact hk) (fun i hi => ⟨(hp.2 i hi).1, s2 i (by rw [hp.1]; exact hi), (hp.2 i hi).ess hcc s1⟩) (fun N1 h1 k1 k2 g0 g1 => ⟨h1.2.1, ?_⟩)
    rw [shk_eq e153] at g0 g1
    have hE1 : Ess M N1 := s1.tr (h1.ess (by omega))
    have tail : ∀ A2 : Mm, Ess M A2 → A2.1 157 = N.1 157 → A2.2.1 147 25 = lN (redA (shk M (fo p) k 0 (0, 1))) → A2.2.1 147 26 = lN (redB (shk M (fo p) k 0 (0, 1))) → cmpO M k p b = some p → L_X12_triesOrder_65 G (e + 2) Q (nI k) 0 A2 := by
      intro A2 uE u157 u0 u1 hc
      have key : ∀ m i (A : Mm), i + m = k → Ess M A → A.2.1 = A2.2.1 → A.1 157 = N.1 157 → (∀ j, j < i → A.1 158 j = A.1 157 j) → L_X12_triesOrder_65 G (e + 2) Q (nI k) (nI i) A := by
        intro m
        induction m with
        | zero =>
          intro i A hi hA hJ h157 hj
          refine b_X12_triesOrder_65 (lay_of hI.lay hA.1) ⟨fun _ => h A ?_, fun h => absurd ?_ h⟩
          · rw [hc]
            refine ⟨hA, fun j hj' => by rw [h157]; exact s2 j hj', fun h => (by cases h), fun q hq => ?_⟩
            cases hq
            refine ⟨hp, fun j hj' => ?_, by rw [hJ]; exact u0, by rw [hJ]; exact u1⟩
            rw [hj j (by omega), h157]
            exact s2 j (by rw [hp.1]; exact hj')
          · rw [nI_leI (by omega) (by omega)]; omega
        | succ m ih =>
          intro i A hi hA hJ h157 hj
          have hin : vp_in (nI i) 7 := (inN (by omega) (by omega)).1
          refine b_X12_triesOrder_65 (lay_of hI.lay hA.1) ⟨fun h => absurd h ?_, fun _ => ⟨hin, hin, fun B eB => ?_⟩⟩
          · rw [nI_leI (by omega) (by omega)]; omega
          · rw [nI_clamp (show i < 2 ^ 31 by omega)] at eB
            rw [nI_1]
            subst eB
            refine ih (i + 1) _ (by omega) (hA.tr (ess_sI (by omega))) hJ (by rw [sI_ne (by omega)]; exact h157) (fun j hj' => ?_)
            by_cases he : j = i
            · rw [he, rd_sI, if_pos ⟨rfl, rfl⟩, rd_sI, if_neg (by omega)]
            · rw [rd_sI, if_neg (by omega), rd_sI, if_neg (by omega)]; exact hj j (by omega)
      exact key k 0 A2 (by omega) uE rfl u157 (fun j hj => by omega)
    have tail2 : ∀ A1 A2 : Mm, A1 = sJ N1 147 25 (N1.2.1 147 21) → A2 = sJ A1 147 26 (A1.2.1 147 22) → cmpO M k p b = some p → L_X12_triesOrder_65 G (e + 2) Q (nI k) 0 A2 := by
      intro A1 A2 a1 a2 hc
      refine tail A2 ?_ ?_ ?_ ?_ hc
      · rw [a2, a1]; exact (hE1.tr (ess_sJ (by omega))).tr (ess_sJ (by omega))
      · rw [a2, a1]; show N1.1 157 = N.1 157; rw [h1.1]
      · rw [a2, rd_sJ, if_neg (by omega), a1, rd_sJ, if_pos ⟨rfl, rfl⟩]; exact g0
      · rw [a2, rd_sJ, if_pos ⟨rfl, rfl⟩, a1, rd_sJ, if_neg (by omega)]; exact g1
    rw [k2]
    cases hb : b with
    | none => exact ⟨fun _ A1 a1 A2 a2 => tail2 A1 A2 a1 a2 (by rw [hb]; rfl), fun h => absurd (s3 hb) h⟩
    | some q =>
      obtain ⟨q1, q3, q4, q5⟩ := s4 q hb
      obtain ⟨bq1, bq2, bq3⟩ := Inv.shB (c := c) (f := fo q) hk4 q1.2
      obtain ⟨rq1, rq2, rq3⟩ := red_b (s := shk M (fo q) k 0 (0, 1)) (by omega)
      have hl := red_lt (s := shk M (fo p) k 0 (0, 1)) (t := shk M (fo q) k 0 (0, 1)) (by omega) (by omega)
      have m1 : redA (shk M (fo q) k 0 (0, 1)) * redB (shk M (fo p) k 0 (0, 1)) ≤ 72 * 6561 * 6561 := Nat.mul_le_mul (by omega) (by omega)
      have m2 : redA (shk M (fo p) k 0 (0, 1)) * redB (shk M (fo q) k 0 (0, 1)) ≤ 72 * 6561 * 6561 := Nat.mul_le_mul (by omega) (by omega)
      refine ⟨fun h0 => ?_, fun _ => ?_⟩
      · rw [q5, show (0 : Int64) = lN 0 from rfl, pk_lEQ (by omega) (by omega)] at h0
        omega
      · rw [k1, q4, q5, g0, g1]
        have e0 : ∀ s : Nat × Nat, s.1 / Nat.gcd s.1 s.2 = redA s := fun _ => rfl
        have e1 : ∀ s : Nat × Nat, s.2 / Nat.gcd s.1 s.2 = redB s := fun _ => rfl
        rw [e0, e1, lN_mul, lN_mul, pk_lLE (by omega) (by omega)]
        refine ⟨fun hle => h N1 ?_, fun hlt A1 a1 A2 a2 => ?_⟩
        · have hc : cmpO M k p b = some q := by rw [hb]; exact if_neg (fun h => by have := hl.mpr h; omega)
          rw [hc]
          refine ⟨hE1, fun j hj => by rw [h1.1]; exact s2 j hj, fun h => (by cases h), fun q' hq' => ?_⟩
          cases hq'
          exact ⟨q1, fun j hj => by rw [h1.1]; exact q3 j hj, by rw [k1]; exact q4, by rw [k2]; exact q5⟩
        · rw [← e0, ← g0] at a1
          exact tail2 A1 A2 a1 a2 (by rw [hb]; exact if_pos (hl.mp (by omega)))
