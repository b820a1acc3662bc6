/-! ===== calls that look or lay one thing ===== -/
/-- both answer alike, and the invariant holds behind them -/
def Two (G : MG) (d c : Nat) (Yx : MY) (ax : List Value) (Ym : MY) (am : List Value) (M : Mm) : Prop :=
  C G Yx d ax M (Ri fun r M1 => M1.2.2 = M.2.2 ∧ C G Ym d am M1 (Ri fun r' M2 => M2.2.2 = M1.2.2 ∧ r = r' ∧ Inv c M2))
def TwoJ (G : MG) (d c : Nat) (Yx : MY) (ax : List Value) (Ym : MY) (am : List Value) (M : Mm) : Prop :=
  C G Yx d ax M (Rj fun r M1 => M1.2.2 = M.2.2 ∧ C G Ym d am M1 (Rj fun r' M2 => M2.2.2 = M1.2.2 ∧ r = r' ∧ Inv c M2))
theorem Inv.th {c : Nat} {M : Mm} {v : Int32} (h : Inv c M) : Inv c (sI M 147 0 v) := h.ess (ess_sI (by omega))
theorem lay_sI {c o k : Nat} {M : Mm} {v : Int32} (h : Lay c M) : Lay c (sI M o k v) := h
theorem if01 {p : Prop} [Decidable p] (h : (if p then (0 : Int32) else 1) = 0) : p := by
  by_cases hp : p
  · exact hp
  · rw [if_neg hp] at h; cases h
theorem if02 {p : Prop} [Decidable p] (h : ¬ (if p then (0 : Int32) else 1) = 0) : ¬ p := by
  intro hp
  rw [if_pos hp] at h
  exact h rfl
theorem wn_of {x : Int32} {n : Nat} {u : Int32} (hn : n < 2 ^ 31) (hu : u = nI n) (h : ¬ (x < 0 ∨ u < x)) : ∃ j : Nat, j ≤ n ∧ x = nI j := by
  subst hu
  obtain ⟨j, hj, rfl⟩ := nI_of (fun h0 => h (.inl h0))
  refine ⟨j, ?_, rfl⟩
  have h2 : ¬ nI n < nI j := fun h0 => h (.inr h0)
  rw [nI_ltI hn hj] at h2
  omega
theorem an_of {x : Int32} {n : Nat} (hn : n < 2 ^ 31) (h : ¬ (x < 0 ∨ nI n ≤ x)) : ∃ j : Nat, j < n ∧ x = nI j := by
  rcases sp_ix x hn with (h1 | h1) | ⟨j, hj, e, -⟩
  · exact absurd (.inl h1) h
  · exact absurd (.inr h1.2) h
  · exact ⟨j, hj, e⟩
theorem bn_of {x : Int32} {n : Nat} {u : Int32} (hn : n < 2 ^ 31) (hu : u = nI n) (h : ¬ (x < 0 ∨ u < x)) : bn x 0 n := by
  obtain ⟨j, h1, h2⟩ := wn_of hn hu h
  exact ⟨j, Nat.zero_le _, h1, h2⟩
/-- the reference's checks at an arm -/
theorem HandC.mk6 {M N : Mm} {s a : Nat} {r r' : Nat → Int32} (h : HandC M s a r) (h6 : N.1 (s + 6) a = r' 13 ∧ bn (r' 13) 0 9) (e1 : ∀ j, 1 ≤ j → j ≤ 5 → N.1 (s + j) a = M.1 (s + j) a) (e2 : ∀ j, j ≤ 12 → r' j = r j) : HandC N s a r' := by
  obtain ⟨a1, a2, a3, a4, a5, -⟩ := h
  refine ⟨?_, ?_, ?_, ?_, ?_, h6⟩
  · rw [e1 1 (by omega) (by omega), e2 6 (by omega)]; exact a1
  · rw [e1 2 (by omega) (by omega), e2 7 (by omega)]; exact a2
  · rw [e1 3 (by omega) (by omega), e2 8 (by omega)]; exact a3
  · rw [e1 4 (by omega) (by omega), e2 9 (by omega)]; exact a4
  · rw [e1 5 (by omega) (by omega), e2 10 (by omega)]; exact a5
/-- one arm's hand is laid anew, on both sides -/
theorem Inv.hand {c j : Nat} {M N : Mm} (hI : Inv c M) (hj : j < 6) (e : N.2.2 = M.2.2) (eJ : N.2.1 152 = M.2.1 152)
    (e1 : ∀ o k, ES o k → (76 ≤ o ∧ o ≤ 81 → k ≠ j) → (o = 153 → k ≠ 1 + 14 * j + 6 ∧ k ≠ 1 + 14 * j + 7 ∧ k ≠ 1 + 14 * j + 8 ∧ k ≠ 1 + 14 * j + 9 ∧ k ≠ 1 + 14 * j + 10 ∧ k ≠ 1 + 14 * j + 13) → N.1 o k = M.1 o k)
    (hH : HandC M 75 j (fun w => M.1 153 (1 + 14 * j + w)) → HandC N 75 j (fun w => N.1 153 (1 + 14 * j + w))) : Inv c N := by
  refine hI.now e eJ (fun o k h1 h2 h3 => e1 o k h1 (fun h => by omega) (fun h => ?_)) ?_
  · by_cases hk : k < 110
    · have := h3 h hk
      unfold statI at this
      omega
    · omega
  · intro n hn h0 hS
    obtain ⟨s1, s2, s3⟩ := hS
    have r0 : ∀ k, 85 ≤ k → N.1 153 k = M.1 153 k := fun k hk => e1 153 k (by unfold ES; omega) (by omega) (fun _ => by omega)
    have r1 : ∀ o k, 82 ≤ o → o ≤ 84 → N.1 o k = M.1 o k := fun o k h1 h2 => e1 o k (by unfold ES; omega) (by omega) (by omega)
    have r2 : ∀ k, N.1 75 k = M.1 75 k := fun k => e1 75 k (by unfold ES; omega) (by omega) (by omega)
    refine ⟨fun a ha => ?_, ?_, ?_⟩
    · by_cases haj : a = j
      · subst haj
        exact hH (s1 a ha)
      · have h4 := s1 a ha
        unfold HandC at h4 ⊢
        have q1 : ∀ o, 76 ≤ o → o ≤ 81 → N.1 o a = M.1 o a := fun o h1 h2 => e1 o a (by unfold ES; omega) (fun _ => haj) (by omega)
        have q2 : ∀ w, w < 14 → N.1 153 (1 + 14 * a + w) = M.1 153 (1 + 14 * a + w) := fun w hw => e1 153 _ (by unfold ES; omega) (by omega) (fun _ => by omega)
        simp only [q1 (75 + 1) (by omega) (by omega), q1 (75 + 2) (by omega) (by omega), q1 (75 + 3) (by omega) (by omega), q1 (75 + 4) (by omega) (by omega), q1 (75 + 5) (by omega) (by omega), q1 (75 + 6) (by omega) (by omega), q2 6 (by omega), q2 7 (by omega), q2 8 (by omega), q2 9 (by omega), q2 10 (by omega), q2 13 (by omega)]
        exact h4
    · obtain ⟨c1, k, k1, k2, k3, k4⟩ := s2
      refine ⟨by rw [r2, r0 85 (by omega)]; exact c1, k, k1, by rw [r0 85 (by omega)]; exact k2, fun i hi => ?_, fun i j hi hj => ?_⟩
      · rw [r1 (75 + 7) i (by omega) (by omega), r0 (86 + i) (by omega)]; exact k3 i hi
      · rw [r0 (86 + i) (by omega), r0 (86 + j) (by omega)]; exact k4 i j hi hj
    · obtain ⟨c1, c2⟩ := s3
      refine ⟨by rw [r2]; exact c1, fun q hq => ?_⟩
      rw [r2, r0 (90 + 3 * q) (by omega), r0 (91 + 3 * q) (by omega), r0 (92 + 3 * q) (by omega), r1 (75 + 8) q (by omega) (by omega), r1 (75 + 9) q (by omega) (by omega)]
      exact c2 q hq
theorem m_bend {G : MG} {d : Nat} {Q : Int32 → Mm → Prop} {M : Mm} {c : Nat} {x1 x2 : Int32} (hd : 3 ≤ d) (hL : Lay c M) {n : Nat} (hn : M.1 153 0 = nI n) (h6 : n ≤ 6)
    (h0 : (x1 < 0 ∨ nI n ≤ x1) ∨ (x2 < 0 ∨ 9 < x2) → Q 0 (sI M 147 0 0)) (h1 : ∀ j, j < n → x1 = nI j → ¬ (x2 < 0 ∨ 9 < x2) → Q 1 (sI (sI M 147 0 0) 153 (1 + 14 * j + 13) x2)) : C G Y_X12_bend d [.ref (G.b + 147), .int x1, .int x2] M (Ri Q) := by
  refine up1 (P := fun d => C G Y_X12_bend d _ M (Ri Q)) (fun e => b_X12_bend (d := e + 2) hL (fun M1 e1 => ?_)) hd
  subst e1
  refine s_isArm (by omega) (lay_sI hL) ⟨rfl, fun h => h0 (.inl ?_), fun h => ?_⟩
  · have := if01 h
    rw [show (sI M 147 0 0).1 153 0 = nI n from hn] at this
    exact this
  · have := if02 h
    rw [show (sI M 147 0 0).1 153 0 = nI n from hn] at this
    obtain ⟨j, hj, rfl⟩ := an_of (by omega) this
    refine s_within (by omega) (lay_sI hL) ⟨rfl, fun h => ?_, fun h => h0 (.inr (if01 h))⟩
    exact s_lays 13 (by omega) (lay_sI hL) (by omega) (by omega) rfl ⟨rfl, h1 j hj rfl (if02 h)⟩
theorem x_bend {G : MG} {d : Nat} {Q : Int32 → Mm → Prop} {M : Mm} {c : Nat} {x1 x2 : Int32} (hd : 2 ≤ d) (hL : Lay c M) (hc : c = 3 ∨ c = 39) {n : Nat} (hn : M.1 c 2 = nI n) (h6 : n ≤ 6)
    (h0 : (x1 < 0 ∨ nI n ≤ x1) ∨ (x2 < 0 ∨ 9 < x2) → Q 0 M) (h1 : ∀ j, j < n → x1 = nI j → ¬ (x2 < 0 ∨ 9 < x2) → Q 1 (sI M 81 j x2)) : C G Y_X11_bend d [.ref (G.b + 0), .int x1, .int x2] M (Ri Q) := by
  refine up1 (P := fun d => C G Y_X11_bend d _ M (Ri Q)) (fun e => b_X11_bend (d := e + 1) hL hc ?_) hd
  refine s_hasArm (by omega) hL hc ⟨rfl, fun h => h0 (.inl ?_), fun h => ?_⟩
  · rw [hn] at h
    exact if01 h
  · rw [hn] at h
    obtain ⟨j, hj, rfl⟩ := an_of (by omega) (if02 h)
    refine s_isWithin (by omega) hL ⟨rfl, fun h2 => ⟨(inN (by omega) (by omega)).1, fun M7 e7 => ?_⟩, fun h2 => h0 (.inr (if01 h2))⟩
    subst e7
    rw [nI_clamp (show j < 2 ^ 31 by omega)]
    exact h1 j hj rfl (if02 h2)
theorem noA {n j : Nat} {P : Prop} (hj : j < n) (hn : n ≤ 6) (h : nI j < 0 ∨ nI n ≤ nI j) : P := by
  rcases h with h | h
  · exact absurd h (nI_pos (by omega))
  · exact absurd h (nI_ge hj (by omega))
theorem c_bend {G : MG} {d : Nat} {M : Mm} {c : Nat} {x1 x2 : Int32} (hd : 3 ≤ d) (hI : Inv c M) : Two G d c Y_X11_bend [.ref (G.b + 0), .int x1, .int x2] Y_X12_bend [.ref (G.b + 147), .int x1, .int x2] M := by
  obtain ⟨n, ⟨o1, o2, o3, o4⟩, -, -⟩ := hI.2.2.2.2.1
  have hL := hI.lay
  refine x_bend (by omega) hL hI.cc o1 o3 (fun hb => ⟨rfl, m_bend hd hL o2 o3 (fun _ => ⟨rfl, rfl, hI.th⟩) (fun j hj e hw => ?_)⟩) (fun j hj e hw => ⟨rfl, m_bend hd (lay_sI hL) (n := n) o2 o3 (fun hb => ?_) (fun j' hj' e' _ => ?_)⟩)
  · subst e
    rcases hb with hb | hb
    · exact noA hj o3 hb
    · exact absurd hb hw
  · subst e
    rcases hb with hb | hb
    · exact noA hj o3 hb
    · exact absurd hb hw
  · subst e
    rw [nI_eq (by omega) (by omega)] at e'
    subst e'
    refine ⟨rfl, rfl, hI.hand (j := j) (by omega) rfl rfl (fun o k a1 a2 a3 => ?_) (fun hH => ?_)⟩
    · unfold ES at a1
      simp only [rd_sI]
      rw [if_neg (by omega), if_neg (by omega), if_neg (by omega)]
    · refine hH.mk6 (N := sI (sI (sI M 81 j x2) 147 0 0) 153 (1 + 14 * j + 13) x2) ⟨?_, ?_⟩ (fun i h1 h2 => ?_) (fun i hi => ?_)
      · simp only [rd_sI]
        simp
      · simp only [rd_sI]
        simp only [and_self, if_true]
        exact bn_of (by omega) rfl hw
      · simp only [rd_sI]
        rw [if_neg (by omega), if_neg (by omega), if_neg (by omega)]
      · simp only [rd_sI]
        rw [if_neg (by omega), if_neg (by omega), if_neg (by omega)]
theorem m_turn {G : MG} {d : Nat} {Q : Int32 → Mm → Prop} {M : Mm} {c : Nat} {x1 x2 : Int32} (hd : 3 ≤ d) (hL : Lay c M) {n : Nat} (hn : M.1 153 0 = nI n) (h6 : n ≤ 6)
    (h0 : (x1 < 0 ∨ nI n ≤ x1) ∨ (x2 < 0 ∨ 3 < x2) ∨ (∃ j, j < n ∧ x1 = nI j ∧ M.1 153 (1 + 14 * j + 0) = 2) → Q 0 (sI M 147 0 0)) (h1 : ∀ j, j < n → x1 = nI j → ¬ (x2 < 0 ∨ 3 < x2) → ¬ M.1 153 (1 + 14 * j + 0) = 2 → Q 1 (sI (sI M 147 0 0) 153 (1 + 14 * j + 8) x2)) : C G Y_X12_turn d [.ref (G.b + 147), .int x1, .int x2] M (Ri Q) := by
  refine up1 (P := fun d => C G Y_X12_turn d _ M (Ri Q)) (fun e => b_X12_turn (d := e + 2) hL (fun M1 e1 => ?_)) hd
  subst e1
  refine s_isArm (by omega) (lay_sI hL) ⟨rfl, fun h => h0 (.inl ?_), fun h => ?_⟩
  · have := if01 h
    rw [show (sI M 147 0 0).1 153 0 = nI n from hn] at this
    exact this
  · have := if02 h
    rw [show (sI M 147 0 0).1 153 0 = nI n from hn] at this
    obtain ⟨j, hj, rfl⟩ := an_of (by omega) this
    refine s_within (by omega) (lay_sI hL) ⟨rfl, fun h => h0 (.inr (.inl (if01 h))), fun h => ?_⟩
    refine s_of 0 (by omega) (lay_sI hL) (by omega) (by omega) rfl ⟨rfl, fun hk => ?_, fun hk => h0 (.inr (.inr ⟨j, hj, rfl, hk⟩))⟩
    exact s_lays 8 (by omega) (lay_sI hL) (by omega) (by omega) rfl ⟨rfl, h1 j hj rfl (if02 h) hk⟩
theorem x_turn {G : MG} {d : Nat} {Q : Int32 → Mm → Prop} {M : Mm} {c : Nat} {x1 x2 : Int32} (hd : 2 ≤ d) (hL : Lay c M) (hc : c = 3 ∨ c = 39) {n : Nat} (hn : M.1 c 2 = nI n) (h6 : n ≤ 6)
    (h0 : (x1 < 0 ∨ nI n ≤ x1) ∨ (x2 < 0 ∨ 3 < x2) ∨ (∃ j, j < n ∧ x1 = nI j ∧ M.1 (c + 3 + 2 * j) 1 = 2) → Q 0 M) (h1 : ∀ j, j < n → x1 = nI j → ¬ (x2 < 0 ∨ 3 < x2) → ¬ M.1 (c + 3 + 2 * j) 1 = 2 → Q 1 (sI M 78 j x2)) : C G Y_X11_turn d [.ref (G.b + 0), .int x1, .int x2] M (Ri Q) := by
  refine up1 (P := fun d => C G Y_X11_turn d _ M (Ri Q)) (fun e => b_X11_turn (d := e + 1) hL hc ?_) hd
  refine s_hasArm (by omega) hL hc ⟨rfl, fun h => h0 (.inl ?_), fun h => ?_⟩
  · rw [hn] at h
    exact if01 h
  · rw [hn] at h
    obtain ⟨j, hj, rfl⟩ := an_of (by omega) (if02 h)
    have hcl := nI_clamp (show j < 2 ^ 31 by omega)
    have hco : c + 1 + 2 + 2 * j = c + 3 + 2 * j := by omega
    have hin : vp_in (nI j) 6 := (inN (by omega) (by omega)).1
    refine s_isWithin (by omega) hL ⟨rfl, fun h2 => ⟨hin, ?_⟩, fun h2 => h0 (.inr (.inl (if01 h2)))⟩
    rw [hcl, hco]
    refine ⟨fun hk => ⟨hin, fun M7 e7 => ?_⟩, fun hk => h0 (.inr (.inr ⟨j, hj, rfl, hk⟩))⟩
    subst e7
    exact h1 j hj rfl (if02 h2) hk
theorem c_turn {G : MG} {d : Nat} {M : Mm} {c : Nat} {x1 x2 : Int32} (hd : 3 ≤ d) (hI : Inv c M) : Two G d c Y_X11_turn [.ref (G.b + 0), .int x1, .int x2] Y_X12_turn [.ref (G.b + 147), .int x1, .int x2] M := by
  obtain ⟨n, ⟨o1, o2, o3, o4⟩, -, -⟩ := hI.2.2.2.2.1
  have hL := hI.lay
  refine x_turn (by omega) hL hI.cc o1 o3 (fun hb => ⟨rfl, m_turn hd hL o2 o3 (fun _ => ⟨rfl, rfl, hI.th⟩) (fun j hj e hw hk => ?_)⟩) (fun j hj e hw hk => ⟨rfl, m_turn hd (lay_sI hL) (n := n) o2 o3 (fun hb => ?_) (fun j' hj' e' _ hk' => ?_)⟩)
  · subst e
    rcases hb with hb | hb | ⟨j', hj', e', hk'⟩
    · exact noA hj o3 hb
    · exact absurd hb hw
    · rw [nI_eq (by omega) (by omega)] at e'
      subst e'
      rw [(o4 j hj).1] at hk'
      exact absurd hk' hk
  · subst e
    rcases hb with hb | hb | ⟨j', hj', e', hk'⟩
    · exact noA hj o3 hb
    · exact absurd hb hw
    · rw [nI_eq (by omega) (by omega)] at e'
      subst e'
      rw [(o4 j hj).1] at hk
      exact absurd hk' hk
  · subst e
    rw [nI_eq (by omega) (by omega)] at e'
    subst e'
    refine ⟨rfl, rfl, hI.hand (j := j) (by omega) rfl rfl (fun o k a1 a2 a3 => ?_) (fun hH => ?_)⟩
    · unfold ES at a1
      simp only [rd_sI]
      rw [if_neg (by omega), if_neg (by omega), if_neg (by omega)]
    · obtain ⟨a1, a2, a3, a4, a5, a6⟩ := hH
      refine ⟨by simpa [rd_sI] using a1, by simpa [rd_sI] using a2, ?_, by simpa [rd_sI] using a4, by simpa [rd_sI] using a5, by simpa [rd_sI] using a6⟩
      simp [rd_sI]
      exact bn_of (by omega) rfl hw
theorem m_pin {G : MG} {d : Nat} {Q : Int32 → Mm → Prop} {M : Mm} {c : Nat} {x1 x2 x3 : Int32} (hd : 3 ≤ d) (hL : Lay c M) {n : Nat} (hn : M.1 153 0 = nI n) (h6 : n ≤ 6)
    (h0 : (x1 < 0 ∨ nI n ≤ x1) ∨ (x2 < 0 ∨ 99 < x2) ∨ (x3 < 0 ∨ 99 < x3) → Q 0 (sI M 147 0 0)) (h1 : ∀ j, j < n → x1 = nI j → ¬ (x2 < 0 ∨ 99 < x2) → ¬ (x3 < 0 ∨ 99 < x3) → Q 1 (sI (sI (sI M 147 0 0) 153 (1 + 14 * j + 9) x2) 153 (1 + 14 * j + 10) x3)) : C G Y_X12_pin d [.ref (G.b + 147), .int x1, .int x2, .int x3] M (Ri Q) := by
  refine up1 (P := fun d => C G Y_X12_pin d _ M (Ri Q)) (fun e => b_X12_pin (d := e + 2) hL (fun M1 e1 => ?_)) hd
  subst e1
  refine s_isArm (by omega) (lay_sI hL) ⟨rfl, fun h => h0 (.inl ?_), fun h => ?_⟩
  · have := if01 h
    rw [show (sI M 147 0 0).1 153 0 = nI n from hn] at this
    exact this
  · have := if02 h
    rw [show (sI M 147 0 0).1 153 0 = nI n from hn] at this
    obtain ⟨j, hj, rfl⟩ := an_of (by omega) this
    refine s_within (by omega) (lay_sI hL) ⟨rfl, fun h => h0 (.inr (.inl (if01 h))), fun h => ?_⟩
    refine s_within (by omega) (lay_sI hL) ⟨rfl, fun h' => ?_, fun h => h0 (.inr (.inr (if01 h)))⟩
    refine s_lays 9 (by omega) (lay_sI hL) (by omega) (by omega) rfl ⟨rfl, ?_⟩
    exact s_lays 10 (by omega) (lay_sI (lay_sI hL)) (by omega) (by omega) rfl ⟨rfl, h1 j hj rfl (if02 h) (if02 h')⟩
theorem x_pin {G : MG} {d : Nat} {Q : Int32 → Mm → Prop} {M : Mm} {c : Nat} {x1 x2 x3 : Int32} (hd : 2 ≤ d) (hL : Lay c M) (hc : c = 3 ∨ c = 39) {n : Nat} (hn : M.1 c 2 = nI n) (h6 : n ≤ 6)
    (h0 : (x1 < 0 ∨ nI n ≤ x1) ∨ (x2 < 0 ∨ 99 < x2) ∨ (x3 < 0 ∨ 99 < x3) → Q 0 M) (h1 : ∀ j, j < n → x1 = nI j → ¬ (x2 < 0 ∨ 99 < x2) → ¬ (x3 < 0 ∨ 99 < x3) → Q 1 (sI (sI M 79 j x2) 80 j x3)) : C G Y_X11_pin d [.ref (G.b + 0), .int x1, .int x2, .int x3] M (Ri Q) := by
  refine up1 (P := fun d => C G Y_X11_pin d _ M (Ri Q)) (fun e => b_X11_pin (d := e + 1) hL hc ?_) hd
  refine s_hasArm (by omega) hL hc ⟨rfl, fun h => h0 (.inl ?_), fun h => ?_⟩
  · rw [hn] at h
    exact if01 h
  · rw [hn] at h
    obtain ⟨j, hj, rfl⟩ := an_of (by omega) (if02 h)
    have hcl := nI_clamp (show j < 2 ^ 31 by omega)
    have hin : vp_in (nI j) 6 := (inN (by omega) (by omega)).1
    refine s_isWithin (by omega) hL ⟨rfl, fun h2 => h0 (.inr (.inl (if01 h2))), fun h2 => ?_⟩
    refine s_isWithin (by omega) hL ⟨rfl, fun h3 => ⟨hin, ?_⟩, fun h2 => h0 (.inr (.inr (if01 h2)))⟩
    rw [hcl]
    intro M7 e7
    subst e7
    refine ⟨hin, fun M8 e8 => ?_⟩
    subst e8
    exact h1 j hj rfl (if02 h2) (if02 h3)
theorem c_pin {G : MG} {d : Nat} {M : Mm} {c : Nat} {x1 x2 x3 : Int32} (hd : 3 ≤ d) (hI : Inv c M) : Two G d c Y_X11_pin [.ref (G.b + 0), .int x1, .int x2, .int x3] Y_X12_pin [.ref (G.b + 147), .int x1, .int x2, .int x3] M := by
  obtain ⟨n, ⟨o1, o2, o3, o4⟩, -, -⟩ := hI.2.2.2.2.1
  have hL := hI.lay
  refine x_pin (by omega) hL hI.cc o1 o3 (fun hb => ⟨rfl, m_pin hd hL o2 o3 (fun _ => ⟨rfl, rfl, hI.th⟩) (fun j hj e hw hk => ?_)⟩) (fun j hj e hw hk => ⟨rfl, m_pin hd (lay_sI hL) (n := n) o2 o3 (fun hb => ?_) (fun j' hj' e' _ hk' => ?_)⟩)
  · subst e
    rcases hb with hb | hb | hb
    · exact noA hj o3 hb
    · exact absurd hb hw
    · exact absurd hb hk
  · subst e
    rcases hb with hb | hb | hb
    · exact noA hj o3 hb
    · exact absurd hb hw
    · exact absurd hb hk
  · subst e
    rw [nI_eq (by omega) (by omega)] at e'
    subst e'
    refine ⟨rfl, rfl, hI.hand (j := j) (by omega) rfl rfl (fun o k a1 a2 a3 => ?_) (fun hH => ?_)⟩
    · unfold ES at a1
      simp only [rd_sI]
      rw [if_neg (by omega), if_neg (by omega), if_neg (by omega), if_neg (by omega), if_neg (by omega)]
    · obtain ⟨a1, a2, a3, a4, a5, a6⟩ := hH
      refine ⟨by simpa [rd_sI] using a1, by simpa [rd_sI] using a2, by simpa [rd_sI] using a3, ?_, ?_, by simpa [rd_sI] using a6⟩
      · simp [rd_sI]
        exact bn_of (by omega) rfl hw
      · simp [rd_sI]
        exact bn_of (by omega) rfl hk
