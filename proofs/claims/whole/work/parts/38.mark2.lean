/-! ===== mark, both sides ===== -/
theorem Inv.mks {c : Nat} {M N : Mm} (hI : Inv c M) (e : N.2.2 = M.2.2) (eJ : N.2.1 152 = M.2.1 152)
    (e1 : ∀ o k, ES o k → ¬ (86 ≤ o ∧ o ≤ 125) → o ≠ 0 → o ≠ 156 → (o = 153 → k < 220) → N.1 o k = M.1 o k) (hl : bn (N.1 0 5) 0 15)
    (hM : ∀ n, n ≤ 6 → M.1 153 0 = nI n → SetC M 75 (M.1 153) n → (∀ q, q < 4 → MarkC M n q) → ∀ q, q < 4 → MarkC N n q) : Inv c N := by
  obtain ⟨hL, hc, hT, ⟨kc, g1, g2, g3, g4⟩, ⟨n, ⟨o1, o2, o3, o4⟩, hS0, hM0⟩, hl0, hw⟩ := hI
  have f : ∀ o k, ES o k → ¬ (86 ≤ o ∧ o ≤ 125) → o ≠ 0 → o ≠ 156 → o ≠ 153 → N.1 o k = M.1 o k := fun o k h1 h2 h3 h4 h5 => e1 o k h1 h2 h3 h4 (fun h => absurd h h5)
  have g : ∀ o, 2 ≤ o → o ≤ 85 → N.1 o = M.1 o := fun o h1 h2 => funext fun k => f o k (.inl ⟨h1, by omega⟩) (by omega) (by omega) (by omega) (by omega)
  have st : ∀ k, k < 110 → N.1 153 k = M.1 153 k := fun k hk => e1 153 k (by unfold ES; omega) (by omega) (by omega) (by omega) (by omega)
  have e9 : N.1 154 = M.1 154 := funext fun k => f 154 k (by unfold ES; omega) (by omega) (by omega) (by omega) (by omega)
  have e6 : N.1 148 = M.1 148 := funext fun k => f 148 k (by unfold ES; omega) (by omega) (by omega) (by omega) (by omega)
  refine ⟨by unfold Lay at hL ⊢; rw [e]; exact hL, hc, ?_, ⟨kc, ?_, ?_, g3, ?_⟩, ⟨n, ⟨?_, ?_, o3, ?_⟩, ?_, hM n o3 o2 hS0 hM0⟩, hl, by rw [eJ]; exact hw⟩
  · unfold TapeC at hT ⊢
    rw [f 147 2 (by unfold ES; omega) (by omega) (by omega) (by omega) (by omega), f 1 0 (by unfold ES; omega) (by omega) (by omega) (by omega) (by omega), e6, g 2 (by omega) (by omega)]
    exact hT
  · rw [g c (by omega) (by omega)]; exact g1
  · rw [e9]; exact g2
  · intro m hm
    rw [e9]
    exact (g4 m hm).ess (g _ (by omega) (by omega)) (g _ (by omega) (by omega)) (g _ (by omega) (by omega))
  · rw [g c (by omega) (by omega)]; exact o1
  · rw [st 0 (by omega)]; exact o2
  · intro a ha
    have h1 := (o4 a ha).ess (g _ (by omega) (by omega)) (g _ (by omega) (by omega))
    obtain ⟨a1, a2, a3, ⟨k, k1, k2, k3, k4, k5⟩, a5, a6, a7, a8⟩ := h1
    have h0 : ∀ j, j < 14 → N.1 153 (1 + 14 * a + j) = M.1 153 (1 + 14 * a + j) := fun j hj => st _ (by omega)
    unfold ArmC
    simp only [h0 0 (by omega), h0 1 (by omega), h0 11 (by omega), h0 12 (by omega)]
    refine ⟨a1, a2, a3, ⟨k, k1, k2, k3, fun i hi => ?_, fun i j hi hj => ?_⟩, a5, a6, a7, a8⟩
    · rw [h0 (2 + i) (by omega)]; exact k4 i hi
    · rw [h0 (2 + i) (by omega), h0 (2 + j) (by omega)]; exact k5 i j hi hj
  · exact hS0.copy o3 (fun j k h1 h2 h3 => by rw [g _ (by omega) (by omega)]) (fun j k h1 h2 h3 => by rw [g _ (by omega) (by omega)]) (by rw [g 75 (by omega) (by omega)]) (by rw [g 75 (by omega) (by omega)]) st
theorem m_mark {G : MG} {d : Nat} {Q : Int32 → Mm → Prop} {M : Mm} {c : Nat} {x1 x2 : Int32} (hd : 2 ≤ d) (hL : Lay c M)
    (h0 : (x1 < 0 ∨ 3 < x1) ∨ (∃ q, q < 4 ∧ x1 = nI q ∧ ¬ x2 = 0 ∧ M.1 156 q = 0) → Q 0 (sI M 147 0 0))
    (hl : ∀ q, q < 4 → x1 = nI q → x2 = 0 → ∀ N, Car (sI (sI M 147 0 0) 156 q 1) N 0 (2 + q) → Q 1 N)
    (hb : ∀ q, q < 4 → x1 = nI q → ¬ x2 = 0 → ¬ M.1 156 q = 0 → ∀ N, Car (sI (sI M 147 0 0) 156 q 1) N (2 + q) 0 → Q 1 N) : C G Y_X12_mark d [.ref (G.b + 147), .int x1, .int x2] M (Ri Q) := by
  refine up1 (P := fun d => C G Y_X12_mark d _ M (Ri Q)) (fun e => b_X12_mark (d := e + 1) hL (fun M1 e1 => ?_)) hd
  subst e1
  refine s_within (by omega) (lay_sI hL) ⟨rfl, fun h => h0 (.inl (if01 h)), fun h => ?_⟩
  obtain ⟨q, hq, rfl⟩ := wn_of (n := 3) (by omega) rfl (if02 h)
  have e2 : 2 + nI q = nI (2 + q) := by rw [show (2 : Int32) = nI 2 from rfl, nI_add]
  have hin : vp_in (nI q) 4 := (inN (by omega) (by omega)).1
  refine ⟨fun hx => ?_, fun hx => ⟨hin, ?_⟩⟩
  · refine b_X12_mark_29 (lay_sI hL) ⟨hin, fun M1 e1 => ⟨fun _ => ⟨fun _ => ?_, fun h => absurd hx h⟩, fun h => absurd hx h⟩⟩
    rw [nI_clamp (show q < 2 ^ 31 by omega), show vp_nar .boolean 1 = 1 from rfl] at e1
    subst e1
    rw [e2]
    exact s_carry (a := 0) (b := 2 + q) (by omega) (lay_sI (lay_sI hL)) (by omega) (by omega) (by omega) (fun N hN => ⟨by rw [hN.1], hl q (by omega) rfl hx N hN⟩)
  · rw [nI_clamp (show q < 2 ^ 31 by omega)]
    refine ⟨fun hm => ?_, fun hm => h0 (.inr ⟨q, by omega, rfl, hx, hm⟩)⟩
    refine b_X12_mark_29 (lay_sI hL) ⟨hin, fun M1 e1 => ⟨fun h => absurd h hx, fun _ => ⟨fun h => absurd h hx, fun _ => ?_⟩⟩⟩
    rw [nI_clamp (show q < 2 ^ 31 by omega), show vp_nar .boolean 1 = 1 from rfl] at e1
    subst e1
    rw [e2]
    exact s_carry (a := 2 + q) (b := 0) (by omega) (lay_sI (lay_sI hL)) (by omega) (by omega) (by omega) (fun N hN => ⟨by rw [hN.1], hb q (by omega) rfl hx hm N hN⟩)
theorem sh_mark : ∀ q, q < 4 → sh (86 + 10 * q) = some (.inr 7) := by decide +kernel
theorem x_mark {G : MG} {d : Nat} {Q : Int32 → Mm → Prop} {M : Mm} {c : Nat} {x1 x2 : Int32} (hd : 2 ≤ d) (hL : Lay c M)
    (h0 : (x1 < 0 ∨ 3 < x1) ∨ (∃ q, q < 4 ∧ x1 = nI q ∧ ¬ x2 = 0 ∧ bitI (M.1 0 5) q = 0) → Q 0 M)
    (hl : ∀ q, q < 4 → x1 = nI q → x2 = 0 → ∀ N, Cop M N (86 + 10 * q) 75 → Q 1 (sI N 0 5 (N.1 0 5 ||| (1 <<< (nI q &&& 31)))))
    (hb : ∀ q, q < 4 → x1 = nI q → ¬ x2 = 0 → ¬ bitI (M.1 0 5) q = 0 → ∀ N, Cop M N 75 (86 + 10 * q) → Q 1 N) : C G Y_X11_mark d [.ref (G.b + 0), .int x1, .int x2] M (Ri Q) := by
  refine up1 (P := fun d => C G Y_X11_mark d _ M (Ri Q)) (fun e => b_X11_mark (d := e + 1) hL ?_) hd
  refine s_isWithin (by omega) hL ⟨rfl, fun h => ?_, fun h => h0 (.inl (if01 h))⟩
  obtain ⟨q, hq, rfl⟩ := wn_of (n := 3) (by omega) rfl (if02 h)
  have hin : vp_in (nI q) 4 := (inN (by omega) (by omega)).1
  rw [nI_clamp (show q < 2 ^ 31 by omega)]
  refine ⟨fun hx => ⟨fun hm => ⟨hin, ?_⟩, fun hm => h0 (.inr ⟨q, by omega, rfl, hx, ?_⟩)⟩, fun hx => ⟨hin, ?_⟩⟩
  · refine s_copyFrom (o0 := 75) (o1 := 86 + 10 * q) (by omega) hL (by decide) (sh_mark q (by omega)) (by omega) (fun N hN => ⟨by rw [hN.1], hb q (by omega) rfl hx ?_ N hN⟩)
    unfold bitI
    rw [if_neg hm]
    decide
  · unfold bitI
    rw [if_pos hm]
  · refine s_copyFrom (o0 := 86 + 10 * q) (o1 := 75) (by omega) hL (sh_mark q (by omega)) (by decide) (by omega) (fun N hN => ⟨by rw [hN.1], fun M10 e10 => ?_⟩)
    subst e10
    exact hl q (by omega) rfl hx N hN
theorem c_mark {G : MG} {d : Nat} {M : Mm} {c : Nat} {x1 x2 : Int32} (hd : 3 ≤ d) (hI : Inv c M) : Two G d c Y_X11_mark [.ref (G.b + 0), .int x1, .int x2] Y_X12_mark [.ref (G.b + 147), .int x1, .int x2] M := by
  have hL := hI.lay
  obtain ⟨n, ⟨o1, o2, o3, o4⟩, hS, hM⟩ := hI.2.2.2.2.1
  obtain ⟨b, -, b2, b3⟩ := hI.2.2.2.2.2.1
  have w : ∀ q, q < 4 → ¬ (nI q < 0 ∨ 3 < nI q) := fun q hq h => by
    rcases h with h | h
    · exact absurd h (nI_pos (by omega))
    · rw [show (3 : Int32) = nI 3 from rfl, nI_ltI (by omega) (by omega)] at h
      omega
  refine x_mark (by omega) hL (fun hb => ⟨rfl, m_mark (by omega) hL (fun _ => ⟨rfl, rfl, hI.th⟩) (fun q hq e hx N _ => ?_) (fun q hq e hx hm N _ => ?_)⟩) (fun q hq e hx N1 hC => ⟨by rw [← hC.1]; rfl, m_mark (c := c) (by omega) (by have := hL; unfold Lay at this ⊢; rw [← this]; show N1.2.2 = M.2.2; rw [hC.1]) (fun hb => ?_) (fun q' hq' e' _ N hN => ?_) (fun q' hq' e' h => absurd hx h)⟩) (fun q hq e hx hm N1 hC => ⟨by rw [hC.1], m_mark (c := c) (by omega) (by have := hL; unfold Lay at this ⊢; rw [← this]; rw [hC.1]) (fun hb => ?_) (fun q' hq' e' h => absurd h hx) (fun q' hq' e' _ hm' N hN => ?_)⟩)
  · subst e
    rcases hb with hb | ⟨q', hq', e', h', -⟩
    · exact absurd hb (w q hq)
    · exact absurd hx h'
  · subst e
    rcases hb with hb | ⟨q', hq', e', h', h2⟩
    · exact absurd hb (w q hq)
    · rw [nI_eq (by omega) (by omega)] at e'
      subst e'
      rw [← (hM q hq).1] at h2
      exact absurd h2 hm
  · subst e
    rcases hb with hb | ⟨q', hq', e', h', h2⟩
    · exact absurd hb (w q hq)
    · exact absurd hx h'
  · subst e
    rw [nI_eq (by omega) (by omega)] at e'
    subst e'
    obtain ⟨c1, c2, c3, c4, c5, c6⟩ := hC
    obtain ⟨d1, d2, d3⟩ := hN
    have hlaid : N1.1 0 5 = nI b := by rw [c2 0 5 (by omega)]; exact b3
    have rn : ∀ o k, o ≠ 153 → o ≠ 156 → o ≠ 147 → o ≠ 0 → N.1 o k = N1.1 o k := fun o k h1 h2 h3 h4 => by
      rw [d2 o k (by omega), rd_sI, if_neg (by omega), rd_sI, if_neg (by omega), rd_sI, if_neg (by omega)]
    have r0 : N.1 0 5 = nI b ||| (1 <<< (nI q &&& 31)) := by
      rw [d2 0 5 (by omega), rd_sI, if_neg (by omega), rd_sI, if_neg (by omega), rd_sI, if_pos ⟨rfl, rfl⟩, hlaid]
    have r156 : ∀ p, N.1 156 p = if p = q then 1 else M.1 156 p := fun p => by
      rw [d2 156 p (by omega), rd_sI]
      by_cases hp : p = q
      · rw [if_pos ⟨rfl, hp⟩, if_pos hp]
      · rw [if_neg (by omega), if_neg hp, rd_sI, if_neg (by omega), rd_sI, if_neg (by omega), c2 156 p (by omega)]
    have rr : ∀ k, k < 110 * (2 + q) ∨ 110 * (2 + q) + 110 ≤ k → N.1 153 k = M.1 153 k := fun k hk => by
      rw [d2 153 k (by omega), rd_sI, if_neg (by omega), rd_sI, if_neg (by omega), rd_sI, if_neg (by omega), c2 153 k (by omega)]
    have rb : ∀ k, k < 110 → N.1 153 (110 * (2 + q) + k) = M.1 153 k := fun k hk => by
      rw [d3 k hk, rd_sI, if_neg (by omega), rd_sI, if_neg (by omega), rd_sI, if_neg (by omega), c2 153 _ (by omega), show 110 * 0 + k = k by omega]
    refine ⟨by rw [d1]; rfl, rfl, hI.mks (by rw [d1]; show N1.2.2 = M.2.2; rw [c1]) (by rw [d1]; show N1.2.1 152 = M.2.1 152; rw [c1]) (fun o k a1 a2 a3 a4 a5 => ?_) ?_ (fun n' hn' h0 hS' hM' p hp => ?_)⟩
    · by_cases h153 : o = 153
      · subst h153
        exact rr k (by omega)
      · unfold ES at a1
        by_cases h147 : o = 147
        · subst h147
          rw [d2 147 k (by omega), rd_sI, if_neg (by omega), rd_sI, if_neg (by omega), rd_sI, if_neg (by omega), c2 147 k (by omega)]
        · rw [rn o k h153 a4 h147 a3, c2 o k (by omega)]
    · rw [r0]
      obtain ⟨m, hm, e⟩ := or_bn b (by omega) q hq
      exact ⟨m, by omega, by omega, e⟩
    · obtain ⟨m1, m2⟩ := hM' p hp
      refine ⟨?_, fun h1 => ?_⟩
      · rw [r156, r0, bit_or b (by omega) q hq p hp, m1, b3]
      · by_cases hpq : p = q
        · subst hpq
          refine ⟨hS'.copy hn' (fun j k h1 h2 h3 => ?_) (fun j k h1 h2 h3 => ?_) ?_ ?_ (fun k hk => rb k hk), fun k hk => ?_⟩
          · rw [rn _ k (by omega) (by omega) (by omega) (by omega)]; exact c3 j k h1 h2 h3
          · rw [rn _ k (by omega) (by omega) (by omega) (by omega)]; exact c4 j k h1 h2 h3
          · rw [rn _ 7 (by omega) (by omega) (by omega) (by omega)]; exact c5
          · rw [rn _ 10 (by omega) (by omega) (by omega) (by omega)]; exact c6
          · unfold statI at hk
            rw [rb k (by omega), rr k (by omega)]
        · rw [r156, if_neg hpq] at h1
          obtain ⟨m3, m4⟩ := m2 h1
          refine ⟨m3.copy hn' (fun j k h1 h2 h3 => ?_) (fun j k h1 h2 h3 => ?_) ?_ ?_ (fun k hk => rr _ (by omega)), fun k hk => ?_⟩
          · rw [rn _ k (by omega) (by omega) (by omega) (by omega), c2 _ k (by omega)]
          · rw [rn _ k (by omega) (by omega) (by omega) (by omega), c2 _ k (by omega)]
          · rw [rn _ 7 (by omega) (by omega) (by omega) (by omega), c2 _ 7 (by omega)]
          · rw [rn _ 10 (by omega) (by omega) (by omega) (by omega), c2 _ 10 (by omega)]
          · have hk' := hk
            unfold statI at hk'
            rw [rr _ (by omega), rr k (by omega)]
            exact m4 k hk
  · subst e
    rcases hb with hb | ⟨q', hq', e', h', h2⟩
    · exact absurd hb (w q hq)
    · rw [nI_eq (by omega) (by omega)] at e'
      subst e'
      rw [hC.2.1 156 q (by omega), (hM q hq).1] at h2
      exact absurd h2 hm
  · subst e
    rw [nI_eq (by omega) (by omega)] at e'
    subst e'
    obtain ⟨c1, c2, c3, c4, c5, c6⟩ := hC
    obtain ⟨d1, d2, d3⟩ := hN
    have hbit : M.1 156 q = 1 := by
      rw [(hM q hq).1]
      unfold bitI at hm ⊢
      by_cases h : M.1 0 5 &&& 1 <<< (nI q &&& 31) = 0
      · rw [if_pos h] at hm
        exact absurd rfl hm
      · rw [if_neg h]
    obtain ⟨m3, m4⟩ := (hM q hq).2 hbit
    have rn : ∀ o k, o ≠ 153 → o ≠ 156 → o ≠ 147 → N.1 o k = N1.1 o k := fun o k h1 h2 h3 => by
      rw [d2 o k (by omega), rd_sI, if_neg (by omega), rd_sI, if_neg (by omega)]
    have rr : ∀ k, 110 ≤ k → N.1 153 k = M.1 153 k := fun k hk => by
      rw [d2 153 k (by omega), rd_sI, if_neg (by omega), rd_sI, if_neg (by omega), c2 153 k (by omega)]
    have rb : ∀ k, k < 110 → N.1 153 k = M.1 153 (110 * (2 + q) + k) := fun k hk => by
      have := d3 k hk
      rw [rd_sI, if_neg (by omega), rd_sI, if_neg (by omega), c2 153 _ (by omega)] at this
      rw [← this, show 110 * 0 + k = k by omega]
    refine ⟨by rw [d1]; rfl, rfl, hI.now (by rw [d1]; show N1.2.2 = M.2.2; rw [c1]) (by rw [d1]; show N1.2.1 152 = M.2.1 152; rw [c1]) (fun o k a1 a2 a3 => ?_) (fun n' hn' h0 hS' => ?_)⟩
    · by_cases h153 : o = 153
      · subst h153
        by_cases hk : k < 110
        · rw [rb k hk]
          exact m4 k (a3 rfl hk)
        · exact rr k (by omega)
      · unfold ES at a1
        by_cases h147 : o = 147
        · subst h147
          rw [d2 147 k (by omega), rd_sI, if_neg (by omega), rd_sI, if_neg (by omega), c2 147 k (by omega)]
        · by_cases h156 : o = 156
          · subst h156
            rw [d2 156 k (by omega), rd_sI]
            by_cases hk : k = q
            · rw [if_pos ⟨rfl, hk⟩, hk, hbit]
            · rw [if_neg (by omega), rd_sI, if_neg (by omega), c2 156 k (by omega)]
          · rw [rn o k h153 h156 h147, c2 o k (by omega)]
    · rw [o2, nI_eq (by omega) (by omega)] at h0
      subst h0
      refine m3.copy hn' (fun j k h1 h2 h3 => ?_) (fun j k h1 h2 h3 => ?_) ?_ ?_ (fun k hk => rb k hk)
      · rw [rn _ k (by omega) (by omega) (by omega)]; exact c3 j k h1 h2 h3
      · rw [rn _ k (by omega) (by omega) (by omega)]; exact c4 j k h1 h2 h3
      · rw [rn _ 7 (by omega) (by omega) (by omega)]; exact c5
      · rw [rn _ 10 (by omega) (by omega) (by omega)]; exact c6
