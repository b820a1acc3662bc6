/-! ===== steadiest, both sides ===== -/
theorem m_steadiest {G : MG} {d : Nat} {Q : Int64 → Mm → Prop} {M N : Mm} {c k n : Nat} {x1 : Int32} {q : List Nat} (hd : 8 ≤ d) (hI : Inv c M) (hN : Ess M N) (hk4 : k ≤ 4) (hk : M.1 153 85 = nI k) (hn : M.1 153 0 = nI n) (hn6 : n ≤ 6) (hq : tryO M k n k [] none = some q)
    (h0 : (x1 < 0 ∨ nI (1 + k) < x1) → ∀ P, Ess M P → Q (-1) P) (h1 : ∀ w, w ≤ 1 + k → x1 = nI w → ∀ P, Ess M P → Q (if w = 0 then lN (redA (shk M (fo q) k 0 (0, 1))) else if w = 1 then lN (redB (shk M (fo q) k 0 (0, 1))) else (nI (fo q (w - 2))).toInt64) P) : C G Y_X12_steadiest d [.ref (G.b + 147), .int x1] N (Rj Q) := by
  have hLN := lay_of hI.lay hN.1
  have e153 : N.1 153 = M.1 153 := hN.2.2.2.2.2.2.2.1
  refine up1 (P := fun d => C G Y_X12_steadiest d _ N (Rj Q)) (fun e => b_X12_steadiest (d := e + 7) hLN (fun M1 e1 => ?_)) hd
  have hE1 : Ess M M1 := by rw [e1]; exact hN.tr (ess_sI (by omega))
  have l1 := lay_of hI.lay hE1.1
  have k1 : M1.1 153 85 = nI k := by rw [hE1.2.2.2.2.2.2.2.1]; exact hk
  refine s_chained (by omega) l1 ⟨rfl, ?_⟩
  rw [k1, show (1 : Int32) + nI k = nI (1 + k) by rw [show (1 : Int32) = nI 1 from rfl, nI_add]]
  refine s_within (by omega) l1 ⟨rfl, fun h => ?_, fun h => h0 (if01 h) M1 hE1⟩
  obtain ⟨w, hw, rfl⟩ := wn_of (n := 1 + k) (by omega) rfl (if02 h)
  intro M7 e7
  have hS : StM M M7 c k [] none := by
    refine ⟨by rw [e7]; exact hE1.tr (ess_sJ (by omega)), fun i hi => absurd hi (Nat.not_lt_zero i), fun _ => by rw [e7, rd_sJ, if_pos ⟨rfl, rfl⟩], fun q h => by cases h⟩
  refine s_tries hI hk4 hk hn hn6 k [] none 0 M7 _ _ (by omega) (by simp) us_0 hS (fun i hi => absurd hi (Nat.not_lt_zero i)) (fun P hP => ⟨by rw [hP.1.1, hS.1.1], ?_⟩)
  rw [hq] at hP
  obtain ⟨p1, p2, p3, p4⟩ := hP
  obtain ⟨q1, q3, q4, q5⟩ := p4 q rfl
  have hv := h1 w hw rfl P p1
  refine ⟨fun e0 => ⟨fun e1 => ?_, fun e1 => ?_⟩, fun e0 => ?_⟩
  · have w0 : w ≠ 0 := fun h => e0 (by rw [h]; rfl)
    have w1 : w ≠ 1 := fun h => e1 (by rw [h]; rfl)
    rw [if_neg w0, if_neg w1] at hv
    have ex : nI w - 2 = nI (w - 2) := by rw [show (2 : Int32) = nI 2 from rfl, pk_sub (by omega)]
    rw [ex, nI_clamp (show w - 2 < 2 ^ 31 by omega), q3 (w - 2) (by omega)]
    exact ⟨(inN (by omega) (by omega)).1, hv⟩
  · have w1 : w = 1 := by rw [show (1 : Int32) = nI 1 from rfl, nI_eq (by omega) (by omega)] at e1; exact e1
    rw [if_neg (by omega), if_pos w1] at hv
    rw [q5]; exact hv
  · have w1 : w = 0 := by rw [show (0 : Int32) = nI 0 from rfl, nI_eq (by omega) (by omega)] at e0; exact e0
    rw [if_pos w1] at hv
    rw [q4]; exact hv
theorem c_steadiest {G : MG} {d : Nat} {M : Mm} {c : Nat} {x1 : Int32} (hd : 12 ≤ d) (hP : Prt G) (hI : Inv c M) : TwoJ G d c Y_X11_steadiest [.ref (G.b + 0), .int x1] Y_X12_steadiest [.ref (G.b + 147), .int x1] M := by
  have hL := hI.lay
  have hcc := hI.cc
  obtain ⟨n, ⟨o1, o2, o3, o4⟩, ⟨-, ⟨kk1, k, hk4, hk, k4, k5⟩, -⟩, -⟩ := hI.2.2.2.2.1
  have hk7 : M.1 75 7 = nI k := kk1.trans hk
  have hcn : ∀ i, i < k → cha M i < n ∧ M.1 153 (86 + i) = nI (cha M i) := fun i hi => by
    obtain ⟨-, a, ha, e⟩ := k4 i hi
    have : cha M i = a := by unfold cha; rw [e]; exact nI_clamp (by omega)
    rw [this]; exact ⟨ha, e⟩
  have hne := tryO_some (M := M) (k := k) (n := n) (fun i j hi hj e => k5 i j hi hj (by rw [(hcn i hi).2, (hcn j hj).2, e])) (fun i hi => (hcn i hi).1) k [] none (by simp)
  obtain ⟨q, hq⟩ := Option.ne_none_iff_exists'.mp hne
  have e2k : (2 : Int32) + nI k = nI (2 + k) := by rw [show (2 : Int32) = nI 2 from rfl, nI_add]
  have x : ∀ e, C G Y_X11_steadiest (e + 12) [.ref (G.b + 0), .int x1] M (Rj fun r M1 => M1.2.2 = M.2.2 ∧ C G Y_X12_steadiest d [.ref (G.b + 147), .int x1] M1 (Rj fun r' M2 => M2.2.2 = M1.2.2 ∧ r = r' ∧ Inv c M2)) := by
    intro e
    have bad : (x1 < 0 ∨ nI (2 + k) ≤ x1) → C G Y_X12_steadiest d [.ref (G.b + 147), .int x1] M (Rj fun r' M2 => M2.2.2 = M.2.2 ∧ -1 = r' ∧ Inv c M2) := fun hb => by
      refine m_steadiest (by omega) hI (Ess.rf M) hk4 hk o2 o3 hq (fun _ P hPE => ⟨hPE.1, rfl, hI.ess hPE⟩) (fun w hw ew P hPE => ?_)
      subst ew
      exfalso
      rcases hb with hb | hb
      · exact absurd hb (nI_pos (by omega))
      · rw [nI_leI (by omega) (by omega)] at hb; omega
    refine b_X11_steadiest (d := e + 11) hL hcc ⟨fun h => ⟨rfl, bad (.inl h)⟩, fun hnn => ?_⟩
    rw [hk7, e2k]
    refine ⟨fun hlt => ?_, fun hlt => ⟨rfl, bad (.inr ?_)⟩⟩
    · obtain ⟨w, hw, rfl⟩ := nI_of hnn
      rw [nI_ltI hw (by omega)] at hlt
      refine up1 (P := fun d => C G Y_X6_find d _ M _) (fun e' => b_X6_find (d := e' + 10) hL (sh_off hcc) (by decide) (fun M1 e1 => ?_)) (show 11 ≤ e + 11 by omega)
      have hS : StX M M1 c k [] none := by
        refine ⟨by rw [e1]; exact ess_sI (by omega), fun i hi => absurd hi (Nat.not_lt_zero i), fun _ => by rw [e1, rd_sI, if_pos ⟨rfl, rfl⟩], fun q h => by cases h⟩
      refine s_layO hI hk4 hk hk7 o2 o1 o3 k [] none M1 _ _ (by omega) (by simp) hS (fun i hi => absurd hi (Nat.not_lt_zero i)) (fun P hPS => ⟨by rw [hPS.1.1, hS.1.1], hPS.1.1, ?_⟩)
      rw [hq] at hPS
      obtain ⟨p1, p2, p3, p4⟩ := hPS
      obtain ⟨q1, q2, q3, q4, q5⟩ := p4 q rfl
      obtain ⟨b1, b2, b3⟩ := Inv.shB (c := c) (f := fo q) hk4 q1.2
      have fin : ∀ r : Int64, r = (if w = 0 then lN (redA (shk M (fo q) k 0 (0, 1))) else if w = 1 then lN (redB (shk M (fo q) k 0 (0, 1))) else (nI (fo q (w - 2))).toInt64) → C G Y_X12_steadiest d [.ref (G.b + 147), .int (nI w)] P (Rj fun r' M2 => M2.2.2 = P.2.2 ∧ r = r' ∧ Inv c M2) := fun r hr => by
        refine m_steadiest (by omega) hI p1 hk4 hk o2 o3 hq (fun hb => ?_) (fun w' hw' ew P' hP' => ⟨by rw [hP'.1, p1.1], ?_, hI.ess hP'⟩)
        · exfalso
          rcases hb with hb | hb
          · exact absurd hb (nI_pos (by omega))
          · rw [nI_ltI (by omega) (by omega)] at hb; omega
        · rw [nI_eq (by omega) (by omega)] at ew
          subst ew
          exact hr
      refine ⟨fun h2 => ?_, fun h2 => ?_⟩
      · rw [show (2 : Int32) = nI 2 from rfl, nI_leI (by omega) (by omega)] at h2
        rw [show (2 : Int32) = nI 2 from rfl, pk_sub h2, nI_clamp (show w - 2 < 2 ^ 31 by omega), q3 (w - 2) (by omega)]
        exact ⟨(inN (by omega) (by omega)).1, p1.1, fin _ (by rw [if_neg (by omega), if_neg (by omega)])⟩
      · rw [show (2 : Int32) = nI 2 from rfl, nI_leI (by omega) (by omega)] at h2
        refine s_partS (by omega) (lay_of hL p1.1) hP (by decide) q4 q5 (by omega) (by omega) (by omega) ⟨rfl, p1.1, fin _ ?_⟩
        rcases (show w = 0 ∨ w = 1 by omega) with rfl | rfl
        · rw [if_pos (show nI 0 = 0 from rfl), if_pos rfl]
        · rw [if_neg (show ¬ nI 1 = 0 by decide), if_neg (by omega), if_pos rfl]
    · obtain ⟨w, hw, rfl⟩ := nI_of hnn
      rw [nI_ltI hw (by omega)] at hlt
      rw [nI_leI (by omega) hw]; omega
  exact up1 (P := fun d' => C G Y_X11_steadiest d' [.ref (G.b + 0), .int x1] M (Rj fun r M1 => M1.2.2 = M.2.2 ∧ C G Y_X12_steadiest d [.ref (G.b + 147), .int x1] M1 (Rj fun r' M2 => M2.2.2 = M1.2.2 ∧ r = r' ∧ Inv c M2))) x hd
