/-! ===== fitted: both ===== -/
theorem lo1 {x : Int32} (h : ¬ (x < 1 ∨ 999 < x)) : ∃ j : Nat, 1 ≤ j ∧ j ≤ 999 ∧ x = nI j := by
  have h1 : ¬ x < 1 := fun g => h (.inl g)
  have h2 : ¬ 999 < x := fun g => h (.inr g)
  rw [Int32.lt_iff_toInt_lt, show (1 : Int32).toInt = 1 from rfl] at h1
  rw [Int32.lt_iff_toInt_lt, show (999 : Int32).toInt = 999 from rfl] at h2
  obtain ⟨j, hj, rfl⟩ := nI_of (x := x) (by rw [Int32.lt_iff_toInt_lt, show (0 : Int32).toInt = 0 from rfl]; omega)
  rw [nI_toInt hj] at h1 h2
  exact ⟨j, by omega, by omega, rfl⟩
theorem m_fitted {G : MG} {d : Nat} {Q : Int32 → Mm → Prop} {M : Mm} {c n p q : Nat} {K : Nat → Nat} {H : Nat → Nat → Nat} {x3 : Int32} (hd : 9 ≤ d) (hL : Lay c M) (hn6 : n ≤ 6) (hn : M.1 153 0 = nI n) (hR : FitR M n K H) (hp : 1 ≤ p ∧ p ≤ 999) (hq : 1 ≤ q ∧ q ≤ 999) (h3 : ¬ (x3 < 0 ∨ 2 < x3))
    (h : ∀ N f w l, Ess M N → StA (2 ^ n) (fun s => wz K H s p q) f w l → (f = 4 → Q (-1) N) ∧ (f ≠ 4 → Q (if x3 = 0 then nI f else if x3 = 1 then nI w else nI l) N)) : C G Y_X12_fitted d [.ref (G.b + 147), .int (nI q), .int (nI p), .int x3] M (Ri Q) := by
  refine up1 (P := fun d => C G Y_X12_fitted d _ M (Ri Q)) (fun e => b_X12_fitted (d := e + 8) hL (fun M1 e1 => ?_)) hd
  subst e1
  have hL1 : Lay c (sI M 147 0 0) := lay_sI hL
  have ok : ∀ {j : Nat}, 1 ≤ j ∧ j ≤ 999 → ¬ (nI j < 1 ∨ 999 < nI j) := fun {j} hj => by
    rw [show (1 : Int32) = nI 1 from rfl, show (999 : Int32) = nI 999 from rfl, nI_ltI (by omega) (by omega), nI_ltI (by omega) (by omega)]; omega
  refine s_within (by omega) hL1 ⟨rfl, fun g => absurd (if01 g) (ok hq), fun _ => ?_⟩
  refine s_within (by omega) hL1 ⟨rfl, fun g => absurd (if01 g) (ok hp), fun _ => ?_⟩
  refine s_within (by omega) hL1 ⟨rfl, fun _ M11 e11 M12 e12 M13 e13 => ?_, fun g => absurd (if01 g) h3⟩
  subst e11 e12 e13
  have hE : Ess M (sI (sI (sI (sI M 147 0 0) 147 18 4) 147 19 0) 147 20 0) := (((ess_sI (by omega)).tr (ess_sI (by omega))).tr (ess_sI (by omega))).tr (ess_sI (by omega))
  have hF : FitM M (sI (sI (sI (sI M 147 0 0) 147 18 4) 147 19 0) 147 20 0) (2 ^ n) (fun _ => 0) := by
    refine ⟨hE, 4, 0, 0, ?_, ?_, ?_, .inl ⟨rfl, rfl, rfl, fun _ _ _ => rfl⟩⟩
    · rw [rd_sI, if_neg (by omega), rd_sI, if_neg (by omega), rd_sI, if_pos ⟨rfl, rfl⟩]; rfl
    · rw [rd_sI, if_neg (by omega), rd_sI, if_pos ⟨rfl, rfl⟩]; rfl
    · rw [rd_sI, if_pos ⟨rfl, rfl⟩]; rfl
  have b9 : (9 : Nat) ^ (3 - 0) = 729 := by decide
  refine s_fits hL hn6 hn hR n 0 0 0 p q _ _ _ _ (by omega) (by decide) (by decide) (by omega) (by rw [b9]; omega) (by rw [b9]; omega) (by omega) hF (fun N' hN' => ⟨hN'.1.1.trans hE.1.symm, ?_⟩)
  obtain ⟨hE', f, w, l, f1, f2, f3, hS⟩ := hN'
  have hS' := hS.cong (cnt' := fun s => wz K H s p q) (fun s hs hps => by
    show _ = 0 + dc K H n 0 0 0 p q s
    rw [Nat.zero_add, dc_wy hn6 n 0 0 0 p q s (by omega) (by decide) (by decide) (by omega) hs hps, if_pos (by omega)])
  obtain ⟨h1, h2⟩ := h N' f w l hE' hS'
  have bf := (hS'.bd (two_le n hn6).2).1
  rw [f1, f2, f3, show (4 : Int32) = nI 4 from rfl, nI_eq (by omega) (by omega)]
  refine ⟨fun g => ⟨fun g0 => ⟨fun g1 => ?_, fun g1 => ?_⟩, fun g0 => ?_⟩, h1⟩
  · have := h2 g; rwa [if_neg g0, if_neg g1] at this
  · have := h2 g; rwa [if_neg g0, if_pos g1] at this
  · have := h2 g; rwa [if_pos g0] at this
theorem m_fittedN {G : MG} {d : Nat} {Q : Int32 → Mm → Prop} {M : Mm} {c : Nat} {x1 x2 x3 : Int32} (hd : 2 ≤ d) (hL : Lay c M) (hb : (x1 < 1 ∨ 999 < x1) ∨ (x2 < 1 ∨ 999 < x2) ∨ (x3 < 0 ∨ 2 < x3)) (h : Q (-1) (sI M 147 0 0)) :
    C G Y_X12_fitted d [.ref (G.b + 147), .int x1, .int x2, .int x3] M (Ri Q) := by
  refine up1 (P := fun d => C G Y_X12_fitted d _ M (Ri Q)) (fun e => b_X12_fitted (d := e + 1) hL (fun M1 e1 => ?_)) hd
  subst e1
  have hL1 : Lay c (sI M 147 0 0) := lay_sI hL
  refine s_within (by omega) hL1 ⟨rfl, fun _ => h, fun g => s_within (by omega) hL1 ⟨rfl, fun _ => h, fun g2 => s_within (by omega) hL1 ⟨rfl, fun g3 => ?_, fun _ => h⟩⟩⟩
  rcases hb with hb | hb | hb
  · exact absurd hb (if02 g)
  · exact absurd hb (if02 g2)
  · exact absurd hb (if02 g3)
theorem c_fitted {G : MG} {d : Nat} {M : Mm} {c : Nat} {x1 x2 x3 : Int32} (hd : 9 ≤ d) (hI : Inv c M) : Two G d c Y_X11_fitted [.ref (G.b + 0), .int x1, .int x2, .int x3] Y_X12_fitted [.ref (G.b + 147), .int x1, .int x2, .int x3] M := by
  have hL := hI.lay
  have hcc := hI.cc
  obtain ⟨n, ⟨o1, o2, o3, o4⟩, -, -⟩ := hI.2.2.2.2.1
  refine up1 (P := fun e => C G Y_X11_fitted e _ M _) (fun e => b_X11_fitted (d := e + 8) hL hcc ?_) hd
  refine s_isWithin (by omega) hL ⟨rfl, fun g => ⟨rfl, m_fittedN (by omega) hL (.inl (if01 g)) ⟨rfl, rfl, hI.th⟩⟩, fun g1 => ?_⟩
  refine s_isWithin (by omega) hL ⟨rfl, fun g2 => ?_, fun g => ⟨rfl, m_fittedN (by omega) hL (.inr (.inl (if01 g))) ⟨rfl, rfl, hI.th⟩⟩⟩
  refine s_isWithin (by omega) hL ⟨rfl, fun g => ⟨rfl, m_fittedN (by omega) hL (.inr (.inr (if01 g))) ⟨rfl, rfl, hI.th⟩⟩, fun g3 => ?_⟩
  have g3 := if02 g3
  obtain ⟨q, q1, q2, rfl⟩ := lo1 (if02 g1)
  obtain ⟨p, p1, p2, rfl⟩ := lo1 (if02 g2)
  have hK : ∀ a, min 4 (M.1 153 (1 + 14 * a + 1)).toNatClampNeg ≤ 4 := fun a => Nat.min_le_left _ _
  have kk : ∀ a, a < n → ∃ k, k ≤ 4 ∧ M.1 153 (1 + 14 * a + 1) = nI k ∧ min 4 (M.1 153 (1 + 14 * a + 1)).toNatClampNeg = k := fun a ha => by
    obtain ⟨-, -, -, ⟨k, k1, k2, k3, -⟩, -⟩ := o4 a ha
    have k3' : M.1 153 (1 + 14 * a + 1) = nI k := k3
    refine ⟨k, k2, k3', ?_⟩
    rw [k3', nI_clamp (by omega)]; omega
  have hh : ∀ a, a < n → ∀ i, i < min 4 (M.1 153 (1 + 14 * a + 1)).toNatClampNeg → M.1 (c + 3 + 2 * a + 1) i = M.1 153 (1 + 14 * a + (2 + i)) ∧ M.1 153 (1 + 14 * a + (2 + i)) = nI (M.1 153 (1 + 14 * a + (2 + i))).toNatClampNeg ∧ 1 ≤ (M.1 153 (1 + 14 * a + (2 + i))).toNatClampNeg ∧ (M.1 153 (1 + 14 * a + (2 + i))).toNatClampNeg ≤ 9 := fun a ha i hi => by
    obtain ⟨k, kk1, kk2, kk3⟩ := kk a ha
    obtain ⟨-, -, -, ⟨k', k1, k2, k3, k4, k5⟩, -⟩ := o4 a ha
    have k3' : M.1 153 (1 + 14 * a + 1) = nI k' := k3
    rw [kk2, nI_eq (by omega) (by omega)] at k3'
    subst k3'
    obtain ⟨a1, v, v1, v2, v3⟩ := k4 i (by omega)
    have v3' : M.1 153 (1 + 14 * a + (2 + i)) = nI v := v3
    refine ⟨a1, ?_⟩
    rw [v3', nI_clamp (by omega)]
    exact ⟨rfl, v1, v2⟩
  have hA : ∀ a, a < n → AF M (c + 3 + 2 * a) (min 4 (M.1 153 (1 + 14 * a + 1)).toNatClampNeg) (fun i => (M.1 153 (1 + 14 * a + (2 + i))).toNatClampNeg) := fun a ha => by
    obtain ⟨k, kk1, kk2, kk3⟩ := kk a ha
    refine ⟨?_, hK a, fun i hi => ?_, fun i j hi hj he => ?_⟩
    · rw [kk3, ← kk2]; exact (o4 a ha).2.2.1
    · obtain ⟨e1, e2, e3, e4⟩ := hh a ha i hi
      exact ⟨e1.trans e2, e3, e4⟩
    · obtain ⟨e1, e2, e3, e4⟩ := hh a ha i hi
      obtain ⟨f1, f2, f3, f4⟩ := hh a ha j hj
      obtain ⟨-, -, -, ⟨k', k1, k2, k3, k4, k5⟩, -⟩ := o4 a ha
      have k3' : M.1 153 (1 + 14 * a + 1) = nI k' := k3
      rw [kk2, nI_eq (by omega) (by omega)] at k3'
      subst k3'
      refine k5 i j (by omega) (by omega) ?_
      show M.1 153 (1 + 14 * a + (2 + i)) = M.1 153 (1 + 14 * a + (2 + j))
      have he' : (M.1 153 (1 + 14 * a + (2 + i))).toNatClampNeg = (M.1 153 (1 + 14 * a + (2 + j))).toNatClampNeg := he
      rw [e2, f2, he']
  have hR : FitR M n (fun a => min 4 (M.1 153 (1 + 14 * a + 1)).toNatClampNeg) (fun a i => (M.1 153 (1 + 14 * a + (2 + i))).toNatClampNeg) := fun a ha => by
    obtain ⟨k, kk1, kk2, kk3⟩ := kk a ha
    refine ⟨?_, hK a, fun i hi => (hh a ha i hi).2⟩
    show _ = nI (min 4 (M.1 153 (1 + 14 * a + 1)).toNatClampNeg)
    rw [kk3]; exact kk2
  have e153 : ∀ {N}, Ess M N → N.1 153 = M.1 153 := fun h => h.2.2.2.2.2.2.2.1
  have R : ∀ N, Ess M N → ∀ (Q : Int32 → Mm → Prop), (∀ N' f w l, Ess N N' → StA (2 ^ n) (fun s => wz (fun a => min 4 (M.1 153 (1 + 14 * a + 1)).toNatClampNeg) (fun a i => (M.1 153 (1 + 14 * a + (2 + i))).toNatClampNeg) s p q) f w l → (f = 4 → Q (-1) N') ∧ (f ≠ 4 → Q (if x3 = 0 then nI f else if x3 = 1 then nI w else nI l) N')) → C G Y_X12_fitted d [.ref (G.b + 147), .int (nI q), .int (nI p), .int x3] N (Ri Q) := fun N hN Q h =>
    m_fitted hd (lay_of hL hN.1) o3 (by rw [e153 hN]; exact o2) (by unfold FitR; rw [e153 hN]; exact hR) ⟨p1, p2⟩ ⟨q1, q2⟩ g3 h
  refine s_find (K := fun a => min 4 (M.1 153 (1 + 14 * a + 1)).toNatClampNeg) (H := fun a i => (M.1 153 (1 + 14 * a + (2 + i))).toNatClampNeg) (by omega) hL hcc o3 o1 hA hK (by omega) p2 q2 (fun f w l N hS hN c0 c1 c2 => ⟨hN.1, fun _ => ?_, fun h => (by cases h)⟩) (fun N hN hz => ⟨hN.1, fun h => absurd rfl h, fun _ => ⟨hN.1, ?_⟩⟩)
  · have fin : ∀ v, v = (if x3 = 0 then nI f else if x3 = 1 then nI w else nI l) → C G Y_X12_fitted d [.ref (G.b + 147), .int (nI q), .int (nI p), .int x3] N (Ri fun r' M2 => M2.2.2 = N.2.2 ∧ v = r' ∧ Inv c M2) := fun v hv =>
      R N hN _ (fun N' f' w' l' hN' hS' => by
        obtain ⟨u1, u2, u3⟩ := StA.uniq (.inr hS) hS'
        subst u1 u2 u3
        exact ⟨fun h => by have := hS.1; omega, fun _ => ⟨hN'.1, hv, (hI.ess hN).ess hN'⟩⟩)
    refine ⟨fun e0 => ⟨fun e1 => ⟨hN.1, ?_⟩, fun e1 => ⟨hN.1, ?_⟩⟩, fun e0 => ⟨hN.1, ?_⟩⟩
    · rw [c2]; exact fin _ (by rw [if_neg e0, if_neg e1])
    · rw [c1]; exact fin _ (by rw [if_neg e0, if_pos e1])
    · rw [c0]; exact fin _ (by rw [if_pos e0])
  · refine R N hN _ (fun N' f' w' l' hN' hS' => ?_)
    obtain ⟨u1, u2, u3⟩ := StA.uniq (.inl ⟨rfl, rfl, rfl, hz⟩) hS'
    subst u1
    exact ⟨fun _ => ⟨hN'.1, rfl, (hI.ess hN).ess hN'⟩, fun h => absurd rfl h⟩
