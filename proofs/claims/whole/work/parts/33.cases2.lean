/-! ===== set, arm, hole, point, count, clear, see ===== -/
theorem s_hasHole {G : MG} {d : Nat} {Q : Int32 → Mm → Prop} {M : Mm} {c o n : Nat} {x1 x2 : Int32} (hd : 2 ≤ d) (hL : Lay c M) (ho : o = 3 ∨ o = 39) (hn : M.1 o 2 = nI n) (h6 : n ≤ 6)
    (h0 : (x1 < 0 ∨ nI n ≤ x1) ∨ (∃ j, j < n ∧ x1 = nI j ∧ (x2 < 0 ∨ M.1 (o + 3 + 2 * j) 3 ≤ x2)) → Q 0 M) (h1 : ∀ j, j < n → x1 = nI j → ¬ (x2 < 0 ∨ M.1 (o + 3 + 2 * j) 3 ≤ x2) → Q 1 M) : C G Y_X5_hasHole d [.ref (G.b + o), .int x1, .int x2] M (Ri Q) := by
  refine up1 (P := fun d => C G Y_X5_hasHole d _ M (Ri Q)) (fun e => b_X5_hasHole (d := e + 1) hL (by rcases ho with rfl | rfl <;> decide) ?_) hd
  refine s_hasArm (by omega) hL ho ⟨rfl, fun h => h0 (.inl ?_), fun h => ?_⟩
  · rw [hn] at h
    exact if01 h
  · rw [hn] at h
    obtain ⟨j, hj, rfl⟩ := an_of (by omega) (if02 h)
    have hin : vp_in (nI j) 6 := (inN (by omega) (by omega)).1
    refine ⟨fun h2 => h0 (.inr ⟨j, hj, rfl, .inl h2⟩), fun h2 => ⟨hin, ?_⟩⟩
    rw [nI_clamp (show j < 2 ^ 31 by omega), show o + 1 + 2 + 2 * j = o + 3 + 2 * j by omega]
    exact ⟨fun h3 => h0 (.inr ⟨j, hj, rfl, .inr h3⟩), fun h3 => h1 j hj rfl (by rintro (h | h); exact h2 h; exact h3 h)⟩
theorem m_hole {G : MG} {d : Nat} {Q : Int32 → Mm → Prop} {M : Mm} {c : Nat} {x1 x2 : Int32} (hd : 3 ≤ d) (hL : Lay c M) {n : Nat} (hn : M.1 153 0 = nI n) (h6 : n ≤ 6)
    (hk : ∀ j, j < n → ∃ k : Nat, k ≤ 4 ∧ M.1 153 (1 + 14 * j + 1) = nI k)
    (h0 : (x1 < 0 ∨ nI n ≤ x1) ∨ (∃ j, j < n ∧ x1 = nI j ∧ (x2 < 0 ∨ M.1 153 (1 + 14 * j + 1) ≤ x2)) → Q (-1) (sI M 147 0 0))
    (h1 : ∀ j i, j < n → x1 = nI j → i < 4 → x2 = nI i → ¬ M.1 153 (1 + 14 * j + 1) ≤ x2 → Q (M.1 153 (1 + 14 * j + (2 + i))) (sI M 147 0 0)) : C G Y_X12_hole d [.ref (G.b + 147), .int x1, .int x2] M (Ri Q) := by
  refine up1 (P := fun d => C G Y_X12_hole d _ M (Ri Q)) (fun e => b_X12_hole (d := e + 2) hL (fun M1 e1 => ?_)) hd
  subst e1
  refine s_isArm (by omega) (lay_sI hL) ⟨rfl, fun h => h0 (.inl ?_), fun h => ?_⟩
  · have := if01 h
    rw [show (sI M 147 0 0).1 153 0 = nI n from hn] at this
    exact this
  · have := if02 h
    rw [show (sI M 147 0 0).1 153 0 = nI n from hn] at this
    obtain ⟨j, hj, rfl⟩ := an_of (by omega) this
    refine ⟨fun h2 => h0 (.inr ⟨j, hj, rfl, .inl h2⟩), fun h2 => ?_⟩
    refine s_of 1 (by omega) (lay_sI hL) (by omega) (by omega) rfl ⟨rfl, fun h3 => h0 (.inr ⟨j, hj, rfl, .inr h3⟩), fun h3 => ?_⟩
    obtain ⟨k, hk1, hk2⟩ := hk j hj
    have h3' : ¬ M.1 153 (1 + 14 * j + 1) ≤ x2 := h3
    rw [hk2] at h3'
    obtain ⟨i, hi, rfl⟩ := an_of (n := k) (by omega) (by rintro (h | h); exact h2 h; exact h3' h)
    exact s_of (2 + i) (by omega) (lay_sI hL) (by omega) (by omega) (by rw [show (2 : Int32) = nI 2 from rfl, nI_add]) ⟨rfl, h1 j i hj rfl (by omega) rfl h3⟩
theorem x_hole {G : MG} {d : Nat} {Q : Int32 → Mm → Prop} {M : Mm} {c : Nat} {x1 x2 : Int32} (hd : 3 ≤ d) (hL : Lay c M) (hc : c = 3 ∨ c = 39) {n : Nat} (hn : M.1 c 2 = nI n) (h6 : n ≤ 6)
    (hk : ∀ j, j < n → ∃ k : Nat, k ≤ 4 ∧ M.1 (c + 3 + 2 * j) 3 = nI k)
    (h0 : (x1 < 0 ∨ nI n ≤ x1) ∨ (∃ j, j < n ∧ x1 = nI j ∧ (x2 < 0 ∨ M.1 (c + 3 + 2 * j) 3 ≤ x2)) → Q (-1) M)
    (h1 : ∀ j i, j < n → x1 = nI j → i < 4 → x2 = nI i → ¬ M.1 (c + 3 + 2 * j) 3 ≤ x2 → Q (M.1 (c + 3 + 2 * j + 1) i) M) : C G Y_X11_hole d [.ref (G.b + 0), .int x1, .int x2] M (Ri Q) := by
  refine up1 (P := fun d => C G Y_X11_hole d _ M (Ri Q)) (fun e => b_X11_hole (d := e + 2) hL hc ?_) hd
  refine s_hasHole (by omega) hL hc hn h6 (fun h => ⟨rfl, fun _ => h0 h, fun h => absurd rfl h⟩) (fun j hj e h => ⟨rfl, fun h => (by cases h), fun _ => ?_⟩)
  subst e
  obtain ⟨k, hk1, hk2⟩ := hk j hj
  have h' := h
  rw [hk2] at h'
  obtain ⟨i, hi, rfl⟩ := an_of (n := k) (by omega) h'
  refine ⟨(inN (by omega) (by omega)).1, (inN (by omega) (by omega)).1, ?_⟩
  rw [nI_clamp (show j < 2 ^ 31 by omega), nI_clamp (show i < 2 ^ 31 by omega), show c + 1 + 2 + 2 * j = c + 3 + 2 * j by omega]
  exact h1 j i hj rfl (by omega) rfl (fun h0 => h (.inr h0))
theorem c_hole {G : MG} {d : Nat} {M : Mm} {c : Nat} {x1 x2 : Int32} (hd : 3 ≤ d) (hI : Inv c M) : Two G d c Y_X11_hole [.ref (G.b + 0), .int x1, .int x2] Y_X12_hole [.ref (G.b + 147), .int x1, .int x2] M := by
  obtain ⟨n, ⟨o1, o2, o3, o4⟩, -, -⟩ := hI.2.2.2.2.1
  have hL := hI.lay
  have hk : ∀ j, j < n → ∃ k : Nat, k ≤ 4 ∧ M.1 153 (1 + 14 * j + 1) = nI k := fun j hj => by
    obtain ⟨-, -, -, ⟨k, -, k2, k3, -⟩, -⟩ := o4 j hj
    exact ⟨k, k2, k3⟩
  have hk' : ∀ j, j < n → ∃ k : Nat, k ≤ 4 ∧ M.1 (c + 3 + 2 * j) 3 = nI k := fun j hj => by
    obtain ⟨-, -, a3, ⟨k, -, k2, k3, -⟩, -⟩ := o4 j hj
    exact ⟨k, k2, a3.trans k3⟩
  refine x_hole hd hL hI.cc o1 o3 hk' (fun hb => ⟨rfl, m_hole hd hL o2 o3 hk (fun _ => ⟨rfl, rfl, hI.th⟩) (fun j i hj e hi e2 hw => ?_)⟩) (fun j i hj e hi e2 hw => ⟨rfl, m_hole hd hL o2 o3 hk (fun hb => ?_) (fun j' i' hj' e' hi' e2' _ => ?_)⟩)
  · subst e; subst e2
    rcases hb with hb | ⟨j', hj', e', hb⟩
    · exact noA hj o3 hb
    · rw [nI_eq (by omega) (by omega)] at e'
      subst e'
      rcases hb with hb | hb
      · exact absurd hb (nI_pos (by omega))
      · rw [(o4 j hj).2.2.1] at hb
        exact absurd hb hw
  · subst e; subst e2
    rcases hb with hb | ⟨j', hj', e', hb⟩
    · exact noA hj o3 hb
    · rw [nI_eq (by omega) (by omega)] at e'
      subst e'
      rcases hb with hb | hb
      · exact absurd hb (nI_pos (by omega))
      · rw [(o4 j hj).2.2.1] at hw
        exact absurd hb hw
  · subst e; subst e2
    rw [nI_eq (by omega) (by omega)] at e' e2'
    subst e'; subst e2'
    refine ⟨rfl, ?_, hI.th⟩
    obtain ⟨-, -, a3, ⟨k, -, k2, k3, k4, -⟩, -⟩ := o4 j hj
    rw [a3, k3, nI_leI (by omega) (by omega)] at hw
    exact (k4 i (by omega)).1
theorem m_set {G : MG} {d : Nat} {Q : Int32 → Mm → Prop} {M : Mm} {c : Nat} {x1 x2 x3 : Int32} (hd : 3 ≤ d) (hL : Lay c M) {n : Nat} (hn : M.1 153 0 = nI n) (h6 : n ≤ 6)
    (hk : ∀ j, j < n → ∃ k : Nat, 2 ≤ k ∧ k ≤ 4 ∧ M.1 153 (1 + 14 * j + 1) = nI k)
    (h0 : (x1 < 0 ∨ nI n ≤ x1) ∨ x2 = x3 ∨ (∃ j, j < n ∧ x1 = nI j ∧ ((x2 < 0 ∨ M.1 153 (1 + 14 * j + 1) ≤ x2) ∨ (x3 < 0 ∨ M.1 153 (1 + 14 * j + 1) ≤ x3))) → Q 0 (sI M 147 0 0))
    (h1 : ∀ j i i', j < n → x1 = nI j → i < 4 → x2 = nI i → i' < 4 → x3 = nI i' → i ≠ i' → ¬ M.1 153 (1 + 14 * j + 1) ≤ x2 → ¬ M.1 153 (1 + 14 * j + 1) ≤ x3 → Q 1 (sI (sI (sI M 147 0 0) 153 (1 + 14 * j + 6) (M.1 153 (1 + 14 * j + (2 + i)))) 153 (1 + 14 * j + 7) (M.1 153 (1 + 14 * j + (2 + i'))))) : C G Y_X12_set d [.ref (G.b + 147), .int x1, .int x2, .int x3] M (Ri Q) := by
  refine up1 (P := fun d => C G Y_X12_set d _ M (Ri Q)) (fun e => b_X12_set (d := e + 2) hL (fun M1 e1 => ?_)) hd
  subst e1
  refine s_isArm (by omega) (lay_sI hL) ⟨rfl, fun h => h0 (.inl ?_), fun h => ?_⟩
  · have := if01 h
    rw [show (sI M 147 0 0).1 153 0 = nI n from hn] at this
    exact this
  · have := if02 h
    rw [show (sI M 147 0 0).1 153 0 = nI n from hn] at this
    obtain ⟨j, hj, rfl⟩ := an_of (by omega) this
    obtain ⟨k, hk0, hk1, hk2⟩ := hk j hj
    have hk2' : (sI M 147 0 0).1 153 (1 + 14 * j + 1) = nI k := hk2
    have hpr : nI k - 1 = nI (k - 1) := by
      rw [show (1 : Int32) = nI 1 from rfl, pk_sub (by omega)]
    refine ⟨fun h2 => h0 (.inr (.inl h2)), fun h2 => ?_⟩
    refine s_of 1 (by omega) (lay_sI hL) (by omega) (by omega) rfl ⟨rfl, ?_⟩
    rw [hk2', hpr]
    have key : ∀ x : Int32, (x < 0 ∨ nI (k - 1) < x) → (x < 0 ∨ M.1 153 (1 + 14 * j + 1) ≤ x) := by
      intro x hx
      rcases hx with hx | hx
      · exact .inl hx
      · by_cases h0 : x < 0
        · exact .inl h0
        · obtain ⟨i, hi, rfl⟩ := nI_of h0
          rw [nI_ltI (by omega) hi] at hx
          exact .inr (by rw [hk2, nI_leI (by omega) hi]; omega)
    have key2 : ∀ x : Int32, ¬ (x < 0 ∨ nI (k - 1) < x) → ∃ i, i < k ∧ x = nI i := by
      intro x hx
      obtain ⟨i, hi, e⟩ := wn_of (n := k - 1) (by omega) rfl hx
      exact ⟨i, by omega, e⟩
    refine s_within (by omega) (lay_sI hL) ⟨rfl, fun h => h0 (.inr (.inr ⟨j, hj, rfl, .inl (key _ (if01 h))⟩)), fun h => ?_⟩
    refine s_of 1 (by omega) (lay_sI hL) (by omega) (by omega) rfl ⟨rfl, ?_⟩
    rw [hk2', hpr]
    refine s_within (by omega) (lay_sI hL) ⟨rfl, fun h' => ?_, fun h => h0 (.inr (.inr ⟨j, hj, rfl, .inr (key _ (if01 h))⟩))⟩
    obtain ⟨i, hi, rfl⟩ := key2 _ (if02 h)
    obtain ⟨i', hi', rfl⟩ := key2 _ (if02 h')
    have hne : i ≠ i' := fun h => h2 (by rw [h])
    have e2 : ∀ i, 2 + nI i = nI (2 + i) := fun i => by rw [show (2 : Int32) = nI 2 from rfl, nI_add]
    refine s_of (2 + i) (by omega) (lay_sI hL) (by omega) (by omega) (e2 i) ⟨rfl, ?_⟩
    refine s_lays 6 (by omega) (lay_sI hL) (by omega) (by omega) rfl ⟨rfl, ?_⟩
    refine s_of (2 + i') (by omega) (lay_sI (lay_sI hL)) (by omega) (by omega) (e2 i') ⟨rfl, ?_⟩
    refine s_lays 7 (by omega) (lay_sI (lay_sI hL)) (by omega) (by omega) rfl ⟨rfl, ?_⟩
    have h3 := h1 j i i' hj rfl (by omega) rfl (by omega) rfl hne (by rw [hk2, nI_leI (by omega) (by omega)]; omega) (by rw [hk2, nI_leI (by omega) (by omega)]; omega)
    have e3 : (sI (sI M 147 0 0) 153 (1 + 14 * j + 6) ((sI M 147 0 0).1 153 (1 + 14 * j + (2 + i)))).1 153 (1 + 14 * j + (2 + i')) = M.1 153 (1 + 14 * j + (2 + i')) := by
      simp only [rd_sI]
      rw [if_neg (by omega), if_neg (by omega)]
    rw [e3]
    exact h3
theorem x_set {G : MG} {d : Nat} {Q : Int32 → Mm → Prop} {M : Mm} {c : Nat} {x1 x2 x3 : Int32} (hd : 3 ≤ d) (hL : Lay c M) (hc : c = 3 ∨ c = 39) {n : Nat} (hn : M.1 c 2 = nI n) (h6 : n ≤ 6)
    (hk : ∀ j, j < n → ∃ k : Nat, k ≤ 4 ∧ M.1 (c + 3 + 2 * j) 3 = nI k)
    (h0 : (x1 < 0 ∨ nI n ≤ x1) ∨ x2 = x3 ∨ (∃ j, j < n ∧ x1 = nI j ∧ ((x2 < 0 ∨ M.1 (c + 3 + 2 * j) 3 ≤ x2) ∨ (x3 < 0 ∨ M.1 (c + 3 + 2 * j) 3 ≤ x3))) → Q 0 M)
    (h1 : ∀ j i i', j < n → x1 = nI j → i < 4 → x2 = nI i → i' < 4 → x3 = nI i' → i ≠ i' → ¬ M.1 (c + 3 + 2 * j) 3 ≤ x2 → ¬ M.1 (c + 3 + 2 * j) 3 ≤ x3 → Q 1 (sI (sI M 76 j (M.1 (c + 3 + 2 * j + 1) i)) 77 j (M.1 (c + 3 + 2 * j + 1) i'))) : C G Y_X11_set d [.ref (G.b + 0), .int x1, .int x2, .int x3] M (Ri Q) := by
  refine up1 (P := fun d => C G Y_X11_set d _ M (Ri Q)) (fun e => b_X11_set (d := e + 2) hL hc ?_) hd
  refine s_hasHole (by omega) hL hc hn h6 (fun h => ⟨rfl, fun _ => h0 (h.elim .inl fun ⟨j, a, b, c⟩ => .inr (.inr ⟨j, a, b, .inl c⟩)), fun h => absurd rfl h⟩) (fun j hj e h => ⟨rfl, fun h => (by cases h), fun _ => ?_⟩)
  refine s_hasHole (by omega) hL hc hn h6 (fun h => ⟨rfl, fun _ => h0 (h.elim .inl fun ⟨j, a, b, c⟩ => .inr (.inr ⟨j, a, b, .inr c⟩)), fun h => absurd rfl h⟩) (fun j' hj' e' h' => ⟨rfl, fun h => (by cases h), fun _ => ?_⟩)
  subst e
  rw [nI_eq (by omega) (by omega)] at e'
  subst e'
  refine ⟨fun hne => ?_, fun h => h0 (.inr (.inl h))⟩
  obtain ⟨k, hk1, hk2⟩ := hk j hj
  have g1 := h
  have g2 := h'
  rw [hk2] at g1 g2
  obtain ⟨i, hi, rfl⟩ := an_of (n := k) (by omega) g1
  obtain ⟨i', hi', rfl⟩ := an_of (n := k) (by omega) g2
  have hin : vp_in (nI j) 6 := (inN (by omega) (by omega)).1
  refine ⟨hin, (inN (by omega) (by omega)).1, hin, ?_⟩
  rw [nI_clamp (show j < 2 ^ 31 by omega), nI_clamp (show i < 2 ^ 31 by omega), nI_clamp (show i' < 2 ^ 31 by omega), show c + 1 + 2 + 2 * j = c + 3 + 2 * j by omega]
  intro M9 e9
  subst e9
  refine ⟨hin, (inN (by omega) (by omega)).1, hin, ?_⟩
  intro M11 e11
  subst e11
  rw [show (sI M 76 j (M.1 (c + 3 + 2 * j + 1) i)).1 (c + 3 + 2 * j + 1) i' = M.1 (c + 3 + 2 * j + 1) i' by rw [rd_sI, if_neg (by omega)]]
  exact h1 j i i' hj rfl (by omega) rfl (by omega) rfl (fun h => hne (by rw [h])) (fun h0 => h (.inr h0)) (fun h0 => h' (.inr h0))
theorem c_set {G : MG} {d : Nat} {M : Mm} {c : Nat} {x1 x2 x3 : Int32} (hd : 3 ≤ d) (hI : Inv c M) : Two G d c Y_X11_set [.ref (G.b + 0), .int x1, .int x2, .int x3] Y_X12_set [.ref (G.b + 147), .int x1, .int x2, .int x3] M := by
  obtain ⟨n, ⟨o1, o2, o3, o4⟩, -, -⟩ := hI.2.2.2.2.1
  have hL := hI.lay
  have hk : ∀ j, j < n → ∃ k : Nat, 2 ≤ k ∧ k ≤ 4 ∧ M.1 153 (1 + 14 * j + 1) = nI k := fun j hj => by
    obtain ⟨-, -, -, ⟨k, k1, k2, k3, -⟩, -⟩ := o4 j hj
    exact ⟨k, k1, k2, k3⟩
  have hk' : ∀ j, j < n → ∃ k : Nat, k ≤ 4 ∧ M.1 (c + 3 + 2 * j) 3 = nI k := fun j hj => by
    obtain ⟨-, -, a3, ⟨k, -, k2, k3, -⟩, -⟩ := o4 j hj
    exact ⟨k, k2, a3.trans k3⟩
  refine x_set hd hL hI.cc o1 o3 hk' (fun hb => ⟨rfl, m_set hd hL o2 o3 hk (fun _ => ⟨rfl, rfl, hI.th⟩) (fun j i i' hj e hi e2 hi' e3 hne hw hw' => ?_)⟩) (fun j i i' hj e hi e2 hi' e3 hne hw hw' => ⟨rfl, m_set hd (lay_sI (lay_sI hL)) o2 o3 hk (fun hb => ?_) (fun j2 i2 i2' hj2 f1 hi2 f2 hi2' f3 hne' _ _ => ?_)⟩)
  · subst e; subst e2; subst e3
    rcases hb with hb | hb | ⟨j', hj', e', hb⟩
    · exact noA hj o3 hb
    · rw [nI_eq (by omega) (by omega)] at hb
      exact absurd hb hne
    · rw [nI_eq (by omega) (by omega)] at e'
      subst e'
      rw [(o4 j hj).2.2.1] at hb
      rcases hb with (hb | hb) | (hb | hb)
      · exact absurd hb (nI_pos (by omega))
      · exact absurd hb hw
      · exact absurd hb (nI_pos (by omega))
      · exact absurd hb hw'
  · subst e; subst e2; subst e3
    rcases hb with hb | hb | ⟨j', hj', e', hb⟩
    · exact noA hj o3 hb
    · rw [nI_eq (by omega) (by omega)] at hb
      exact absurd hb hne
    · rw [nI_eq (by omega) (by omega)] at e'
      subst e'
      rw [(o4 j hj).2.2.1] at hw hw'
      rcases hb with (hb | hb) | (hb | hb)
      · exact absurd hb (nI_pos (by omega))
      · exact absurd hb hw
      · exact absurd hb (nI_pos (by omega))
      · exact absurd hb hw'
  · subst e; subst e2; subst e3
    rw [nI_eq (by omega) (by omega)] at f1 f2 f3
    subst f1; subst f2; subst f3
    obtain ⟨-, -, a3, ⟨k, -, k2, k3, k4, -⟩, -⟩ := o4 j hj
    rw [a3, k3, nI_leI (by omega) (by omega)] at hw hw'
    obtain ⟨p1, p2⟩ := k4 i (by omega)
    obtain ⟨q1, q2⟩ := k4 i' (by omega)
    refine ⟨rfl, rfl, hI.hand (j := j) (by omega) rfl rfl (fun o k a1 a2 a3 => ?_) (fun hH => ?_)⟩
    · unfold ES at a1
      simp only [rd_sI]
      rw [if_neg (by omega), if_neg (by omega), if_neg (by omega), if_neg (by omega), if_neg (by omega)]
    · obtain ⟨a1, a2, a3, a4, a5, a6⟩ := hH
      refine ⟨?_, ?_, by simpa [rd_sI] using a3, by simpa [rd_sI] using a4, by simpa [rd_sI] using a5, by simpa [rd_sI] using a6⟩
      · simp [rd_sI]
        exact ⟨p1, p2⟩
      · simp [rd_sI]
        exact ⟨q1, q2⟩
