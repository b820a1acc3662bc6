/-! ===== count, clear, see ===== -/
def bcnt (x : Int32) : Int32 :=
  let v1 := x - (((x.toUInt32 >>> ((1 : Int32).toUInt32 &&& Int32.toUInt32 31)).toInt32) &&& 1431655765)
  let v2 := (v1 &&& 858993459) + (((v1.toUInt32 >>> ((2 : Int32).toUInt32 &&& Int32.toUInt32 31)).toInt32) &&& 858993459)
  let v3 := (v2 + ((v2.toUInt32 >>> ((4 : Int32).toUInt32 &&& Int32.toUInt32 31)).toInt32)) &&& 252645135
  let v4 := v3 + ((v3.toUInt32 >>> ((8 : Int32).toUInt32 &&& Int32.toUInt32 31)).toInt32)
  let v5 := v4 + ((v4.toUInt32 >>> ((16 : Int32).toUInt32 &&& Int32.toUInt32 31)).toInt32)
  v5 &&& 63
theorem s_bitCount {G : MG} {d : Nat} {Q : Int32 → Mm → Prop} {M : Mm} {c : Nat} {x : Int32} (hd : 1 ≤ d) (hL : Lay c M) (h : Q (bcnt x) M) : C G Y_J6_bitCount_0f7a4 d [.int x] M (Ri Q) := by
  refine up1 (P := fun d => C G Y_J6_bitCount_0f7a4 d _ M (Ri Q)) (fun e => b_J6_bitCount_0f7a4 hL (fun v1 e1 v2 e2 v3 e3 v4 e4 v5 e5 => ?_)) hd
  subst e1; subst e2; subst e3; subst e4; subst e5
  exact h
theorem bcnt16 : ∀ n, n < 16 → bcnt (nI n) = bitI (nI n) 0 + bitI (nI n) 1 + bitI (nI n) 2 + bitI (nI n) 3 := by decide +kernel
theorem bit_or : ∀ n, n < 16 → ∀ k, k < 4 → ∀ q, q < 4 → bitI (nI n ||| (1 <<< (nI k &&& 31))) q = if q = k then 1 else bitI (nI n) q := by decide +kernel
theorem or_bn : ∀ n, n < 16 → ∀ k, k < 4 → ∃ m, m < 16 ∧ nI n ||| (1 <<< (nI k &&& 31)) = nI m := by decide +kernel
theorem bit_0 : ∀ q, q < 4 → bitI 0 q = 0 := by decide +kernel
theorem c_count {G : MG} {d : Nat} {M : Mm} {c : Nat} {x1 : Int32} (hd : 3 ≤ d) (hI : Inv c M) : Two G d c Y_X11_count [.ref (G.b + 0), .int x1] Y_X12_count [.ref (G.b + 147), .int x1] M := by
  have hL := hI.lay
  obtain ⟨-, -, ⟨t1, -⟩, ⟨n', g1, g2, -⟩, ⟨n, ⟨o1, o2, o3, o4⟩, ⟨-, ⟨k1, -⟩, ⟨b, -, b2, b3⟩, s2⟩, -⟩, -⟩ := id hI
  have m : ∀ (r : Int32), (x1 = 0 → r = M.1 153 0) → (x1 = 1 → r = M.1 154 0) → (x1 = 2 → r = M.1 153 85) → (x1 = 3 → r = M.1 153 90 + M.1 153 93 + M.1 153 96 + M.1 153 99) → (x1 = 4 → r = M.1 147 2) → (¬ x1 = 0 → ¬ x1 = 1 → ¬ x1 = 2 → ¬ x1 = 3 → ¬ x1 = 4 → r = -1) →
      C G Y_X12_count d [.ref (G.b + 147), .int x1] M (Ri fun r' M2 => M2.2.2 = M.2.2 ∧ r = r' ∧ Inv c M2) := by
    intro r h0 h1 h2 h3 h4 h5
    refine up1 (P := fun d => C G Y_X12_count d _ M (Ri fun r' M2 => M2.2.2 = M.2.2 ∧ r = r' ∧ Inv c M2)) (fun e => b_X12_count (d := e + 1) hL (fun M1 e1 => ?_)) (show 2 ≤ d by omega)
    subst e1
    refine ⟨fun e => s_arms (by omega) (lay_sI hL) ⟨rfl, rfl, h0 e, hI.th⟩, fun e => ⟨rfl, h1 e, hI.th⟩, fun e => s_chained (by omega) (lay_sI hL) ⟨rfl, rfl, h2 e, hI.th⟩, fun e => s_seen (by omega) (lay_sI hL) ⟨rfl, rfl, h3 e, hI.th⟩, fun e => ⟨rfl, ?_, hI.th⟩, fun e0 e1 e2 e3 e4 => ⟨rfl, h5 e0 e1 e2 e3 e4, hI.th⟩⟩
    rw [rd_sI, if_neg (by omega)]
    exact h4 e
  have nn : ∀ {a b : Int32} {P : Prop}, a ≠ b → x1 = a → x1 = b → P := fun h e1 e2 => absurd (e1.symm.trans e2) h
  have x : ∀ e, C G Y_X11_count (e + 2) [.ref (G.b + 0), .int x1] M (Ri fun r M1 => M1.2.2 = M.2.2 ∧ C G Y_X12_count d [.ref (G.b + 147), .int x1] M1 (Ri fun r' M2 => M2.2.2 = M1.2.2 ∧ r = r' ∧ Inv c M2)) := by
    intro e
    refine b_X11_count (d := e + 1) hL hI.cc ⟨fun e => ⟨rfl, m _ (fun _ => o1.trans o2.symm) (nn (by decide) e) (nn (by decide) e) (nn (by decide) e) (nn (by decide) e) (fun h => absurd e h)⟩,
      fun e => ⟨rfl, m _ (nn (by decide) e) (fun _ => g1.trans g2.symm) (nn (by decide) e) (nn (by decide) e) (nn (by decide) e) (fun _ h => absurd e h)⟩,
      fun e => ⟨rfl, m _ (nn (by decide) e) (nn (by decide) e) (fun _ => k1) (nn (by decide) e) (nn (by decide) e) (fun _ _ h => absurd e h)⟩,
      fun e => s_bitCount (by omega) hL ⟨rfl, rfl, m _ (nn (by decide) e) (nn (by decide) e) (nn (by decide) e) (fun _ => ?_) (nn (by decide) e) (fun _ _ _ h => absurd e h)⟩,
      fun e => ⟨rfl, m _ (nn (by decide) e) (nn (by decide) e) (nn (by decide) e) (nn (by decide) e) (fun _ => t1.symm) (fun _ _ _ _ h => absurd e h)⟩,
      fun e0 e1 e2 e3 e4 => ⟨rfl, m _ (fun h => absurd h e0) (fun h => absurd h e1) (fun h => absurd h e2) (fun h => absurd h e3) (fun h => absurd h e4) (fun _ _ _ _ _ => rfl)⟩⟩
    have q0 := (s2 0 (by omega)).1
    have q1 := (s2 1 (by omega)).1
    have q2 := (s2 2 (by omega)).1
    have q3 := (s2 3 (by omega)).1
    simp only [Nat.mul_zero, Nat.add_zero, Nat.mul_one, Nat.reduceAdd, Nat.reduceMul] at q0 q1 q2 q3
    rw [q0, q1, q2, q3, b3]
    exact bcnt16 b (by omega)
  exact up1 (P := fun d' => C G Y_X11_count d' [.ref (G.b + 0), .int x1] M (Ri fun r M1 => M1.2.2 = M.2.2 ∧ C G Y_X12_count d [.ref (G.b + 147), .int x1] M1 (Ri fun r' M2 => M2.2.2 = M1.2.2 ∧ r = r' ∧ Inv c M2))) x (show 2 ≤ d by omega)
/-- the corners are laid anew, on both sides -/
theorem Inv.seen {c : Nat} {M N : Mm} (hI : Inv c M) (e : N.2.2 = M.2.2) (eJ : N.2.1 152 = M.2.1 152)
    (e1 : ∀ o k, ES o k → (o = 75 → k ≠ 10) → (o ≠ 83) → o ≠ 84 → (o = 153 → ¬ (90 ≤ k ∧ k ≤ 101)) → N.1 o k = M.1 o k)
    (hH : SeenC M 75 (M.1 153) → SeenC N 75 (N.1 153)) : Inv c N := by
  refine hI.now e eJ (fun o k h1 h2 h3 => e1 o k h1 (by omega) (by omega) (by omega) (fun h => ?_)) ?_
  · intro hk
    have := h3 h (by omega)
    unfold statI at this
    omega
  · intro n hn h0 hS
    obtain ⟨s1, s2, s3⟩ := hS
    have r0 : ∀ k, k < 90 → N.1 153 k = M.1 153 k := fun k hk => e1 153 k (by unfold ES; omega) (by omega) (by omega) (by omega) (fun _ => by omega)
    have r1 : ∀ o k, 76 ≤ o → o ≤ 82 → N.1 o k = M.1 o k := fun o k h1 h2 => e1 o k (by unfold ES; omega) (by omega) (by omega) (by omega) (by omega)
    have r2 : N.1 75 7 = M.1 75 7 := e1 75 7 (by unfold ES; omega) (by omega) (by omega) (by omega) (by omega)
    refine ⟨fun a ha => ?_, ?_, hH s3⟩
    · have h4 := s1 a ha
      unfold HandC at h4 ⊢
      have q2 : ∀ w, w < 14 → N.1 153 (1 + 14 * a + w) = M.1 153 (1 + 14 * a + w) := fun w hw => r0 _ (by omega)
      simp only [r1 (75 + 1) a (by omega) (by omega), r1 (75 + 2) a (by omega) (by omega), r1 (75 + 3) a (by omega) (by omega), r1 (75 + 4) a (by omega) (by omega), r1 (75 + 5) a (by omega) (by omega), r1 (75 + 6) a (by omega) (by omega), q2 6 (by omega), q2 7 (by omega), q2 8 (by omega), q2 9 (by omega), q2 10 (by omega), q2 13 (by omega)]
      exact h4
    · obtain ⟨c1, k, k1, k2, k3, k4⟩ := s2
      refine ⟨by rw [r2, r0 85 (by omega)]; exact c1, k, k1, by rw [r0 85 (by omega)]; exact k2, fun i hi => ?_, fun i j hi hj => ?_⟩
      · rw [r1 (75 + 7) i (by omega) (by omega), r0 (86 + i) (by omega)]; exact k3 i hi
      · rw [r0 (86 + i) (by omega), r0 (86 + j) (by omega)]; exact k4 i j hi hj
theorem c_clear {G : MG} {d : Nat} {M : Mm} {c : Nat} (hd : 3 ≤ d) (hI : Inv c M) : Two G d c Y_X11_clear [.ref (G.b + 0)] Y_X12_clear [.ref (G.b + 147)] M := by
  have hL := hI.lay
  have m : ∀ N : Mm, N = sI M 75 10 0 → C G Y_X12_clear d [.ref (G.b + 147)] N (Ri fun r' M2 => M2.2.2 = N.2.2 ∧ 1 = r' ∧ Inv c M2) := by
    intro N hN
    have hLN : Lay c N := by rw [hN]; exact lay_sI hL
    refine up1 (P := fun d => C G Y_X12_clear d _ N (Ri fun r' M2 => M2.2.2 = N.2.2 ∧ 1 = r' ∧ Inv c M2)) (fun e => b_X12_clear (d := e) hLN (fun M1 e1 => ?_)) (show 1 ≤ d by omega)
    subst e1
    refine b_X12_clear_7 (lay_sI hLN) ⟨fun h => absurd h (by decide), fun _ => ⟨(ix3' (q := 0) (by omega)).1, fun M2 e2 => ?_⟩⟩
    refine b_X12_clear_7 (c := c) (by rw [e2]; exact hLN) ⟨fun h => absurd h (by decide), fun _ => ⟨(ix3' (q := 1) (by omega)).1, fun M3 e3 => ?_⟩⟩
    refine b_X12_clear_7 (c := c) (by rw [e3, e2]; exact hLN) ⟨fun h => absurd h (by decide), fun _ => ⟨(ix3' (q := 2) (by omega)).1, fun M4 e4 => ?_⟩⟩
    refine b_X12_clear_7 (c := c) (by rw [e4, e3, e2]; exact hLN) ⟨fun h => absurd h (by decide), fun _ => ⟨(ix3' (q := 3) (by omega)).1, fun M5 e5 => ?_⟩⟩
    refine b_X12_clear_7 (c := c) (by rw [e5, e4, e3, e2]; exact hLN) ⟨fun _ => ?_, fun h => absurd (by decide) h⟩
    rw [show (90 + 3 * (0 : Int32)).toNatClampNeg = 90 from rfl] at e2
    rw [show (90 + 3 * ((0 : Int32) + 1)).toNatClampNeg = 93 from rfl] at e3
    rw [show (90 + 3 * ((0 : Int32) + 1 + 1)).toNatClampNeg = 96 from rfl] at e4
    rw [show (90 + 3 * ((0 : Int32) + 1 + 1 + 1)).toNatClampNeg = 99 from rfl] at e5
    subst e5; subst e4; subst e3; subst e2; subst hN
    refine ⟨rfl, rfl, hI.seen rfl rfl (fun o k a1 a2 a3 a4 a5 => ?_) (fun hS => ⟨?_, fun q hq => ?_⟩)⟩
    · unfold ES at a1
      simp only [rd_sI]
      rw [if_neg (by omega), if_neg (by omega), if_neg (by omega), if_neg (by omega), if_neg (by omega), if_neg (by omega)]
    · refine ⟨0, by omega, by omega, ?_⟩
      simp [rd_sI]
      rfl
    · have h1 : (sI (sI (sI (sI (sI (sI M 75 10 0) 147 0 0) 153 90 0) 153 93 0) 153 96 0) 153 99 0).1 153 (90 + 3 * q) = 0 := by
        simp only [rd_sI]
        match q, hq with
        | 0, _ => simp
        | 1, _ => simp
        | 2, _ => simp
        | 3, _ => simp
      have h2 : (sI (sI (sI (sI (sI (sI M 75 10 0) 147 0 0) 153 90 0) 153 93 0) 153 96 0) 153 99 0).1 75 10 = 0 := by
        simp [rd_sI]
      rw [h1, h2]
      exact ⟨(bit_0 q hq).symm, fun h => by cases h⟩
  exact up1 (P := fun d' => C G Y_X11_clear d' [.ref (G.b + 0)] M (Ri fun r M1 => M1.2.2 = M.2.2 ∧ C G Y_X12_clear d [.ref (G.b + 147)] M1 (Ri fun r' M2 => M2.2.2 = M1.2.2 ∧ r = r' ∧ Inv c M2))) (fun e => b_X11_clear (d := e) hL (fun N hN => ⟨by rw [hN]; rfl, m N hN⟩)) (show 1 ≤ d by omega)
theorem m_see {G : MG} {d : Nat} {Q : Int32 → Mm → Prop} {M : Mm} {c : Nat} {x1 x2 x3 : Int32} (hd : 2 ≤ d) (hL : Lay c M)
    (h0 : (x1 < 0 ∨ 3 < x1) ∨ (x2 < -999 ∨ 999 < x2) ∨ (x3 < -999 ∨ 999 < x3) → Q 0 (sI M 147 0 0))
    (h1 : ∀ q, q < 4 → x1 = nI q → ¬ ((x2 < -999 ∨ 999 < x2) ∨ (x3 < -999 ∨ 999 < x3)) → Q 1 (sI (sI (sI (sI M 147 0 0) 153 (90 + 3 * q) 1) 153 (90 + 3 * q + 1) x2) 153 (90 + 3 * q + 2) x3)) : C G Y_X12_see d [.ref (G.b + 147), .int x1, .int x2, .int x3] M (Ri Q) := by
  refine up1 (P := fun d => C G Y_X12_see d _ M (Ri Q)) (fun e => b_X12_see (d := e + 1) hL (fun M1 e1 => ?_)) hd
  subst e1
  refine s_within (by omega) (lay_sI hL) ⟨rfl, fun h => h0 (.inl (if01 h)), fun h => ?_⟩
  obtain ⟨q, hq, rfl⟩ := wn_of (n := 3) (by omega) rfl (if02 h)
  refine s_within (by omega) (lay_sI hL) ⟨rfl, fun h => h0 (.inr (.inl (if01 h))), fun h => ?_⟩
  refine s_within (by omega) (lay_sI hL) ⟨rfl, fun h' => ?_, fun h => h0 (.inr (.inr (if01 h)))⟩
  refine ⟨(ix3' (by omega)).1, fun M2 e2 => ⟨(ix3 (w := 1) (by omega) (by omega)).1, fun M3 e3 => ⟨(ix3 (w := 2) (by omega) (by omega)).1, fun M4 e4 => ?_⟩⟩⟩
  rw [(ix3' (by omega)).2] at e2
  rw [show (1 : Int32) = nI 1 from rfl, (ix3 (w := 1) (by omega) (by omega)).2] at e3
  rw [show (2 : Int32) = nI 2 from rfl, (ix3 (w := 2) (by omega) (by omega)).2] at e4
  subst e4; subst e3; subst e2
  exact h1 q (by omega) rfl (by rintro (h0 | h0); exact if02 h h0; exact if02 h' h0)
theorem x_see {G : MG} {d : Nat} {Q : Int32 → Mm → Prop} {M : Mm} {c : Nat} {x1 x2 x3 : Int32} (hd : 2 ≤ d) (hL : Lay c M)
    (h0 : (x1 < 0 ∨ 3 < x1) ∨ (x2 < -999 ∨ 999 < x2) ∨ (x3 < -999 ∨ 999 < x3) → Q 0 M)
    (h1 : ∀ q, q < 4 → x1 = nI q → ¬ ((x2 < -999 ∨ 999 < x2) ∨ (x3 < -999 ∨ 999 < x3)) → Q 1 (sI (sI (sI M 83 q x2) 84 q x3) 75 10 (M.1 75 10 ||| (1 <<< (nI q &&& 31))))) : C G Y_X11_see d [.ref (G.b + 0), .int x1, .int x2, .int x3] M (Ri Q) := by
  refine up1 (P := fun d => C G Y_X11_see d _ M (Ri Q)) (fun e => b_X11_see (d := e + 1) hL ?_) hd
  refine s_isWithin (by omega) hL ⟨rfl, fun h => ?_, fun h => h0 (.inl (if01 h))⟩
  obtain ⟨q, hq, rfl⟩ := wn_of (n := 3) (by omega) rfl (if02 h)
  refine s_isWithin (by omega) hL ⟨rfl, fun h => h0 (.inr (.inl (if01 h))), fun h => ?_⟩
  refine s_isWithin (by omega) hL ⟨rfl, fun h' => ?_, fun h => h0 (.inr (.inr (if01 h)))⟩
  rw [nI_clamp (show q < 2 ^ 31 by omega)]
  refine ⟨(inN (by omega) (by omega)).1, fun M2 e2 => ⟨(inN (by omega) (by omega)).1, fun M3 e3 M4 e4 => ?_⟩⟩
  subst e4; subst e3; subst e2
  have := h1 q (by omega) rfl (by rintro (h0 | h0); exact if02 h h0; exact if02 h' h0)
  rw [show (sI (sI M 83 q x2) 84 q x3).1 75 10 = M.1 75 10 by rw [rd_sI, rd_sI, if_neg (by omega), if_neg (by omega)]]
  exact this
theorem c_see {G : MG} {d : Nat} {M : Mm} {c : Nat} {x1 x2 x3 : Int32} (hd : 3 ≤ d) (hI : Inv c M) : Two G d c Y_X11_see [.ref (G.b + 0), .int x1, .int x2, .int x3] Y_X12_see [.ref (G.b + 147), .int x1, .int x2, .int x3] M := by
  have hL := hI.lay
  have w : ∀ q, q < 4 → ¬ (nI q < 0 ∨ 3 < nI q) := fun q hq h => by
    rcases h with h | h
    · exact absurd h (nI_pos (by omega))
    · rw [show (3 : Int32) = nI 3 from rfl, nI_ltI (by omega) (by omega)] at h
      omega
  refine x_see (by omega) hL (fun hb => ⟨rfl, m_see (by omega) hL (fun _ => ⟨rfl, rfl, hI.th⟩) (fun q hq e hw => ?_)⟩) (fun q hq e hw => ⟨rfl, m_see (by omega) (lay_sI (lay_sI (lay_sI hL))) (fun hb => ?_) (fun q' hq' e' _ => ?_)⟩)
  · subst e
    rcases hb with hb | hb
    · exact absurd hb (w q hq)
    · exact absurd hb hw
  · subst e
    rcases hb with hb | hb
    · exact absurd hb (w q hq)
    · exact absurd hb hw
  · subst e
    rw [nI_eq (by omega) (by omega)] at e'
    subst e'
    refine ⟨rfl, rfl, hI.seen rfl rfl (fun o k a1 a2 a3 a4 a5 => ?_) (fun hS => ?_)⟩
    · unfold ES at a1
      simp only [rd_sI]
      rw [if_neg (by omega), if_neg (by omega), if_neg (by omega), if_neg (by omega), if_neg (by omega), if_neg (by omega), if_neg (by omega)]
    · obtain ⟨⟨b, -, b2, b3⟩, s2⟩ := hS
      have h2 : ∀ x : Int32, (sI (sI (sI (sI (sI (sI (sI M 83 q x2) 84 q x3) 75 10 x) 147 0 0) 153 (90 + 3 * q) 1) 153 (90 + 3 * q + 1) x2) 153 (90 + 3 * q + 2) x3).1 75 10 = x := fun x => by
        simp [rd_sI]
      refine ⟨?_, fun p hp => ?_⟩
      · rw [h2, b3]
        obtain ⟨m, hm, e⟩ := or_bn b (by omega) q hq
        exact ⟨m, by omega, by omega, e⟩
      · rw [h2, b3, bit_or b (by omega) q hq p hp]
        simp only [rd_sI]
        obtain ⟨s3, s4⟩ := s2 p hp
        by_cases hpq : p = q
        · subst hpq
          simp
          rw [if_neg (by omega), if_pos (by omega)]
          exact ⟨rfl, fun h => absurd (by omega) h⟩
        · rw [if_neg hpq, if_neg (by omega), if_neg (by omega), if_neg (by omega), if_neg (by omega), if_neg (by omega), if_neg (by omega), if_neg (by omega)]
          rw [if_neg (by omega), if_neg (by omega), if_neg (by omega), if_neg (by omega), if_neg (by omega), if_neg (by omega), if_neg (by omega)]
          rw [if_neg (by omega), if_neg (by omega), if_neg (by omega), if_neg (by omega), if_neg (by omega), if_neg (by omega), if_neg (by omega)]
          rw [if_neg (by omega), if_neg (by omega), if_neg (by omega), if_neg (by omega), if_neg (by omega), if_neg (by omega), if_neg (by omega)]
          rw [if_neg (by omega), if_neg (by omega), if_neg (by omega), if_neg (by omega), if_neg (by omega), if_neg (by omega), if_neg (by omega)]
          rw [← b3]
          exact ⟨s3, s4⟩
