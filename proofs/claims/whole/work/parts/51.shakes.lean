/-! ===== shakes, both sides ===== -/
theorem hsk_eq {M N : Mm} (h : N.1 153 = M.1 153) (a : Nat) : hsk N a = hsk M a := by unfold hsk hp; simp only [ar_eq h]
theorem shk_eq {M N : Mm} (h : N.1 153 = M.1 153) (f : Nat → Nat) : ∀ m i s, shk N f m i s = shk M f m i s := by
  intro m
  induction m with
  | zero => intro i s; rfl
  | succ m ih =>
    intro i s
    unfold shk
    rw [ih, hsk_eq h]
    unfold hp
    rw [ar_eq h, ar_eq h]
theorem shk_fe {M : Mm} {f g : Nat → Nat} : ∀ m i s, (∀ i', i ≤ i' → i' < i + m → f i' = g i') → shk M f m i s = shk M g m i s := by
  intro m
  induction m with
  | zero => intro i s _; rfl
  | succ m ih =>
    intro i s h
    unfold shk
    rw [h i (by omega) (by omega), ih (i + 1) _ (fun i' h1 h2 => h i' (by omega) (by omega))]
theorem Inv.shB {c k : Nat} {M : Mm} {f : Nat → Nat} (hk4 : k ≤ 4) (hf : ∀ i, i < k → ArmK M c (f i)) : (shk M f k 0 (0, 1)).1 ≤ 72 * 6561 ∧ 1 ≤ (shk M f k 0 (0, 1)).2 ∧ (shk M f k 0 (0, 1)).2 ≤ 6561 := by
  obtain ⟨b1, b2, b3⟩ := shk_b (c := c) hf k 0 (0, 1) (by omega) (by omega) (by omega) (by omega)
  have h94 : 9 ^ k ≤ 9 ^ 4 := Nat.pow_le_pow_right (by omega) hk4
  have h9 : (9 : Nat) ^ 4 = 6561 := by decide
  exact ⟨Nat.le_trans b1 (Nat.mul_le_mul (by omega) (by omega)), b2, by omega⟩
def redA (s : Nat × Nat) : Nat := s.1 / Nat.gcd s.1 s.2
def redB (s : Nat × Nat) : Nat := s.2 / Nat.gcd s.1 s.2
theorem s_partS {G : MG} {d o0 : Nat} {Q : Int64 → Mm → Prop} {M : Mm} {c : Nat} {x : Int32} {s : Nat × Nat} (hd : 3 ≤ d) (hL : Lay c M) (hP : Prt G) (ho0 : sh o0 = some (.inr 8)) (h0 : M.2.1 o0 0 = lN s.1) (h1 : M.2.1 o0 1 = lN s.2) (hs1 : s.1 < 2 ^ 62) (hs2 : s.2 < 2 ^ 62) (hs : 0 < s.2) (h : Q (lN (if x = 0 then redA s else redB s)) M) : C G Y_X8_part d [.ref (G.b + o0), .int x] M (Rj Q) := by
  have hg := gcd_lt (a := s.1) (b := s.2) hs (by omega)
  refine up1 (P := fun d => C G Y_X8_part d _ M (Rj Q)) (fun e => b_X8_part (d := e + 2) hL hP.2 ho0 ?_) hd
  rw [h0, h1]
  refine ⟨fun hx => s_inLowest (by omega) hL (by omega) (by omega) (abs_lN (by omega)) (abs_lN (by omega)) (by rw [Nat.gcd_comm]; exact hg.1) ⟨rfl, ?_⟩, fun hx => s_inLowest (by omega) hL (by omega) (by omega) (abs_lN (by omega)) (abs_lN (by omega)) hg.1 ⟨rfl, ?_⟩⟩
  · rw [Nat.gcd_comm, pk_lDiv (by omega) hg.1 hg.2]
    rw [if_neg hx] at h
    exact h
  · rw [pk_lDiv (by omega) hg.1 hg.2]
    rw [if_pos hx] at h
    exact h
theorem m_shakes {G : MG} {d : Nat} {Q : Int64 → Mm → Prop} {M : Mm} {c k : Nat} {x1 : Int32} (hd : 3 ≤ d) (hI : Inv c M) (hk4 : k ≤ 4) (hk : M.1 153 85 = nI k)
    (h : ∀ N, Ess M N → (x1 = 0 → Q (lN (redA (shk M (cha M) k 0 (0, 1)))) N) ∧ (x1 = 1 → Q (lN (redB (shk M (cha M) k 0 (0, 1)))) N) ∧ (¬ x1 = 0 → ¬ x1 = 1 → Q (-1) N)) : C G Y_X12_shakes d [.ref (G.b + 147), .int x1] M (Rj Q) := by
  have hL := hI.lay
  refine up1 (P := fun d => C G Y_X12_shakes d _ M (Rj Q)) (fun e => b_X12_shakes (d := e + 2) hL (fun M1 e1 => ?_)) hd
  have key : ∀ m i (N : Mm), i + m = k → Ess M N → (∀ j, j < i → N.1 157 j = nI (cha M j)) → L_X12_shakes_7 G (e + 2) Q x1 (nI i) N := by
    intro m
    induction m with
    | zero =>
      intro i N hi hN hr
      have hIN := hI.ess hN
      have hLN := hIN.lay
      have e153 : N.1 153 = M.1 153 := hN.2.2.2.2.2.2.2.1
      refine b_X12_shakes_7 hLN (s_chained (by omega) hLN ⟨rfl, fun _ => ?_, fun h => absurd ?_ h⟩)
      · refine s_findShakes (k := k) (f := cha M) (by omega) hLN hk4 (by rw [e153]; exact hk) (fun j hj => ?_) (fun N2 hN2 _ _ g1 g2 => ⟨hN2.2.1, ?_⟩)
        · obtain ⟨c1, c2, c3, c4⟩ := hIN.chP hk4 (by rw [e153]; exact hk) hj
          have ec : cha N j = cha M j := by unfold cha; rw [e153]
          rw [ec] at c1 c4
          exact ⟨c1, hr j (by omega), c4⟩
        · rw [g1, g2, shk_eq e153]
          obtain ⟨q0, q1, q2⟩ := h N2 (hN.tr (hN2.ess (by omega)))
          exact ⟨fun e0 => ⟨fun e1 => q2 e0 e1, fun e1 => q1 e1⟩, fun e0 => q0 e0⟩
      · rw [e153, hk, nI_leI (by omega) (by omega)]; omega
    | succ m ih =>
      intro i N hi hN hr
      have hIN := hI.ess hN
      have hLN := hIN.lay
      have e153 : N.1 153 = M.1 153 := hN.2.2.2.2.2.2.2.1
      obtain ⟨c1, c2, c3, c4⟩ := hI.chP hk4 hk (show i < k by omega)
      refine b_X12_shakes_7 hLN (s_chained (by omega) hLN ⟨rfl, fun h => absurd h ?_, fun _ => ?_⟩)
      · rw [e153, hk, nI_leI (by omega) (by omega)]; omega
      · refine s_chainOf (by omega) hLN (by omega) ⟨rfl, (inN (by omega) (by omega)).1, fun M9 e9 => ?_⟩
        rw [e153, c3, nI_clamp (show i < 2 ^ 31 by omega)] at e9
        rw [nI_1]
        subst e9
        refine ih (i + 1) _ (by omega) (hN.tr (ess_sI (by omega))) (fun j hj => ?_)
        by_cases he : j = i
        · rw [he, rd_sI, if_pos ⟨rfl, rfl⟩]
        · rw [rd_sI, if_neg (by omega)]; exact hr j (by omega)
  exact key k 0 M1 (by omega) (by rw [e1]; exact ess_sI (by omega)) (fun j hj => by omega)
theorem c_shakes {G : MG} {d : Nat} {M : Mm} {c : Nat} {x1 : Int32} (hd : 4 ≤ d) (hP : Prt G) (hI : Inv c M) : TwoJ G d c Y_X11_shakes [.ref (G.b + 0), .int x1] Y_X12_shakes [.ref (G.b + 147), .int x1] M := by
  have hL := hI.lay
  obtain ⟨k, hk4, hk7, hk, -⟩ := hI.chK
  obtain ⟨b1, b2, b3⟩ := Inv.shB (c := c) (f := cha M) hk4 (fun i hi => (hI.chP hk4 hk hi).2.2.2)
  have m : ∀ (N : Mm) (r : Int64), Ess M N → (x1 = 0 → r = lN (redA (shk M (cha M) k 0 (0, 1)))) → (x1 = 1 → r = lN (redB (shk M (cha M) k 0 (0, 1)))) → (¬ x1 = 0 → ¬ x1 = 1 → r = -1) → C G Y_X12_shakes d [.ref (G.b + 147), .int x1] N (Rj fun r' M2 => M2.2.2 = N.2.2 ∧ r = r' ∧ Inv c M2) := by
    intro N r hN q0 q1 q2
    have hIN := hI.ess hN
    have e153 : N.1 153 = M.1 153 := hN.2.2.2.2.2.2.2.1
    have ec : cha N = cha M := funext fun i => by unfold cha; rw [e153]
    refine m_shakes (by omega) hIN hk4 (by rw [e153]; exact hk) (fun P hPE => ?_)
    rw [shk_eq e153, ec]
    exact ⟨fun e => ⟨hPE.1, q0 e, hIN.ess hPE⟩, fun e => ⟨hPE.1, q1 e, hIN.ess hPE⟩, fun e0 e1 => ⟨hPE.1, q2 e0 e1, hIN.ess hPE⟩⟩
  have x : ∀ e, C G Y_X11_shakes (e + 4) [.ref (G.b + 0), .int x1] M (Rj fun r M1 => M1.2.2 = M.2.2 ∧ C G Y_X12_shakes d [.ref (G.b + 147), .int x1] M1 (Rj fun r' M2 => M2.2.2 = M1.2.2 ∧ r = r' ∧ Inv c M2)) := by
    intro e
    refine b_X11_shakes (d := e + 3) hL hI.cc ?_
    refine s_isWithin (by omega) hL ⟨rfl, fun h => ?_, fun h => ⟨rfl, m M _ (Ess.rf M) (fun e0 => ?_) (fun e0 => ?_) (fun _ _ => rfl)⟩⟩
    · obtain ⟨w, hw, rfl⟩ := wn_of (n := 1) (by omega) rfl (if02 h)
      refine s_sum (k := k) (f := cha M) (by omega) hI hk4 hk7 (by decide) (by decide) (fun i hi => ?_) (fun N hN g0 g1 => ⟨hN.2.1, ?_⟩)
      · obtain ⟨c1, c2, c3, c4⟩ := hI.chP hk4 hk hi
        exact ⟨c1, c2, c4⟩
      · refine s_partS (by omega) (lay_of hL hN.2.1) hP (by decide) g0 g1 (by omega) (by omega) (by omega) ⟨rfl, hN.2.1, ?_⟩
        refine m N _ (hN.ess (by omega)) (fun e0 => ?_) (fun e1 => ?_) (fun e0 e1 => ?_)
        · rw [if_pos e0]
        · rw [if_neg (by rw [e1]; decide)]
        · exfalso
          rcases (show w = 0 ∨ w = 1 by omega) with rfl | rfl
          · exact e0 rfl
          · exact e1 rfl
    · rw [e0] at h
      exact absurd (if01 h) (by decide)
    · rw [e0] at h
      exact absurd (if01 h) (by decide)
  exact up1 (P := fun d' => C G Y_X11_shakes d' [.ref (G.b + 0), .int x1] M (Rj fun r M1 => M1.2.2 = M.2.2 ∧ C G Y_X12_shakes d [.ref (G.b + 147), .int x1] M1 (Rj fun r' M2 => M2.2.2 = M1.2.2 ∧ r = r' ∧ Inv c M2))) x hd
