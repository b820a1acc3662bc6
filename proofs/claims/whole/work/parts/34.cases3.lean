/-! ===== arm, point, count, clear, see ===== -/
def pick (x : Int32) (f : Nat → Int32) (v : Int32) : Prop := (∀ k, k < 10 → x = nI k → v = f k) ∧ ((∀ k, k < 10 → ¬ x = nI k) → v = -1)
theorem pick_at {x v : Int32} {f : Nat → Int32} (k : Nat) (hx : x = nI k) (hk : k < 10) (hv : v = f k) : pick x f v := by
  refine ⟨fun i hi h => ?_, fun h => absurd hx (h k hk)⟩
  rw [hx, nI_eq (by omega) (by omega)] at h
  rw [← h]; exact hv
theorem pick_no {x : Int32} {f : Nat → Int32} (h : ∀ k, k < 10 → ¬ x = nI k) : pick x f (-1) := ⟨fun k hk e => absurd e (h k hk), fun _ => rfl⟩
theorem pick_eq {x v w : Int32} {f g : Nat → Int32} (h1 : pick x f v) (h2 : pick x g w) (h : ∀ k, k < 10 → f k = g k) : v = w := by
  by_cases hx : ∃ k, k < 10 ∧ x = nI k
  · obtain ⟨k, hk, e⟩ := hx
    rw [h1.1 k hk e, h2.1 k hk e, h k hk]
  · have hn : ∀ k, k < 10 → ¬ x = nI k := fun k hk e => hx ⟨k, hk, e⟩
    rw [h1.2 hn, h2.2 hn]
theorem ten {x : Int32} (h0 : ¬ x = 0) (h1 : ¬ x = 1) (h2 : ¬ x = 2) (h3 : ¬ x = 3) (h4 : ¬ x = 4) (h5 : ¬ x = 5) (h6 : ¬ x = 6) (h7 : ¬ x = 7) (h8 : ¬ x = 8) (h9 : ¬ x = 9) : ∀ k, k < 10 → ¬ x = nI k := by
  intro k hk
  match k, hk with
  | 0, _ => exact h0
  | 1, _ => exact h1
  | 2, _ => exact h2
  | 3, _ => exact h3
  | 4, _ => exact h4
  | 5, _ => exact h5
  | 6, _ => exact h6
  | 7, _ => exact h7
  | 8, _ => exact h8
  | 9, _ => exact h9
def armX (M : Mm) (c j : Nat) : Nat → Int32 := fun k => [M.1 (c + 3 + 2 * j) 1, M.1 76 j, M.1 77 j, M.1 78 j, M.1 79 j, M.1 80 j, M.1 (c + 3 + 2 * j) 7, M.1 (c + 3 + 2 * j) 8, M.1 81 j, M.1 (c + 3 + 2 * j) 3].getD k 0
def armR (M : Mm) (j : Nat) : Nat → Int32 := fun k => M.1 153 (1 + 14 * j + [0, 6, 7, 8, 9, 10, 11, 12, 13, 1].getD k 0)
theorem x_arm {G : MG} {d : Nat} {Q : Int32 → Mm → Prop} {M : Mm} {c : Nat} {x1 x2 : Int32} (hd : 2 ≤ d) (hL : Lay c M) (hc : c = 3 ∨ c = 39) {n : Nat} (hn : M.1 c 2 = nI n) (h6 : n ≤ 6)
    (h0 : (x1 < 0 ∨ nI n ≤ x1) → Q (-1) M) (h1 : ∀ j v, j < n → x1 = nI j → pick x2 (armX M c j) v → Q v M) : C G Y_X11_arm d [.ref (G.b + 0), .int x1, .int x2] M (Ri Q) := by
  refine up1 (P := fun d => C G Y_X11_arm d _ M (Ri Q)) (fun e => b_X11_arm (d := e + 1) hL hc ?_) hd
  refine s_hasArm (by omega) hL hc ⟨rfl, fun h => ?_, fun h => h0 ?_⟩
  · rw [hn] at h
    obtain ⟨j, hj, rfl⟩ := an_of (by omega) (if02 h)
    have hin : vp_in (nI j) 6 := (inN (by omega) (by omega)).1
    rw [nI_clamp (show j < 2 ^ 31 by omega), show c + 1 + 2 + 2 * j = c + 3 + 2 * j by omega]
    have g := fun k hk v hv (e : x2 = nI k) => h1 j v hj rfl (pick_at k e hk hv)
    exact ⟨fun e => ⟨hin, g 0 (by omega) _ rfl e⟩, fun e => ⟨hin, g 1 (by omega) _ rfl e⟩, fun e => ⟨hin, g 2 (by omega) _ rfl e⟩, fun e => ⟨hin, g 3 (by omega) _ rfl e⟩, fun e => ⟨hin, g 4 (by omega) _ rfl e⟩, fun e => ⟨hin, g 5 (by omega) _ rfl e⟩, fun e => ⟨hin, g 6 (by omega) _ rfl e⟩, fun e => ⟨hin, g 7 (by omega) _ rfl e⟩, fun e => ⟨hin, g 8 (by omega) _ rfl e⟩, fun e => ⟨hin, g 9 (by omega) _ rfl e⟩, fun e0 e1 e2 e3 e4 e5 e6 e7 e8 e9 => h1 j _ hj rfl (pick_no (ten e0 e1 e2 e3 e4 e5 e6 e7 e8 e9))⟩
  · rw [hn] at h
    exact if01 h
theorem m_arm {G : MG} {d : Nat} {Q : Int32 → Mm → Prop} {M : Mm} {c : Nat} {x1 x2 : Int32} (hd : 3 ≤ d) (hL : Lay c M) {n : Nat} (hn : M.1 153 0 = nI n) (h6 : n ≤ 6)
    (h0 : (x1 < 0 ∨ nI n ≤ x1) → Q (-1) (sI M 147 0 0)) (h1 : ∀ j v, j < n → x1 = nI j → pick x2 (armR M j) v → Q v (sI M 147 0 0)) : C G Y_X12_arm d [.ref (G.b + 147), .int x1, .int x2] M (Ri Q) := by
  refine up1 (P := fun d => C G Y_X12_arm d _ M (Ri Q)) (fun e => b_X12_arm (d := e + 2) hL (fun M1 e1 => ?_)) hd
  subst e1
  refine s_isArm (by omega) (lay_sI hL) ⟨rfl, fun h => ?_, fun h => h0 ?_⟩
  · have := if02 h
    rw [show (sI M 147 0 0).1 153 0 = nI n from hn] at this
    obtain ⟨j, hj, rfl⟩ := an_of (by omega) this
    have g := fun k hk v hv (e : x2 = nI k) => h1 j v hj rfl (pick_at k e hk hv)
    exact ⟨fun e => s_of 0 (by omega) (lay_sI hL) (by omega) (by omega) rfl ⟨rfl, g 0 (by omega) _ rfl e⟩,
      fun e => s_of 6 (by omega) (lay_sI hL) (by omega) (by omega) rfl ⟨rfl, g 1 (by omega) _ rfl e⟩,
      fun e => s_of 7 (by omega) (lay_sI hL) (by omega) (by omega) rfl ⟨rfl, g 2 (by omega) _ rfl e⟩,
      fun e => s_of 8 (by omega) (lay_sI hL) (by omega) (by omega) rfl ⟨rfl, g 3 (by omega) _ rfl e⟩,
      fun e => s_of 9 (by omega) (lay_sI hL) (by omega) (by omega) rfl ⟨rfl, g 4 (by omega) _ rfl e⟩,
      fun e => s_of 10 (by omega) (lay_sI hL) (by omega) (by omega) rfl ⟨rfl, g 5 (by omega) _ rfl e⟩,
      fun e => s_of 11 (by omega) (lay_sI hL) (by omega) (by omega) rfl ⟨rfl, g 6 (by omega) _ rfl e⟩,
      fun e => s_of 12 (by omega) (lay_sI hL) (by omega) (by omega) rfl ⟨rfl, g 7 (by omega) _ rfl e⟩,
      fun e => s_of 13 (by omega) (lay_sI hL) (by omega) (by omega) rfl ⟨rfl, g 8 (by omega) _ rfl e⟩,
      fun e => s_of 1 (by omega) (lay_sI hL) (by omega) (by omega) rfl ⟨rfl, g 9 (by omega) _ rfl e⟩,
      fun e0 e1 e2 e3 e4 e5 e6 e7 e8 e9 => h1 j _ hj rfl (pick_no (ten e0 e1 e2 e3 e4 e5 e6 e7 e8 e9))⟩
  · have := if01 h
    rw [show (sI M 147 0 0).1 153 0 = nI n from hn] at this
    exact this
theorem c_arm {G : MG} {d : Nat} {M : Mm} {c : Nat} {x1 x2 : Int32} (hd : 3 ≤ d) (hI : Inv c M) : Two G d c Y_X11_arm [.ref (G.b + 0), .int x1, .int x2] Y_X12_arm [.ref (G.b + 147), .int x1, .int x2] M := by
  obtain ⟨n, ⟨o1, o2, o3, o4⟩, ⟨hS, -, -⟩, -⟩ := hI.2.2.2.2.1
  have hL := hI.lay
  refine x_arm (by omega) hL hI.cc o1 o3 (fun hb => ⟨rfl, m_arm hd hL o2 o3 (fun _ => ⟨rfl, rfl, hI.th⟩) (fun j v hj e hw => ?_)⟩) (fun j v hj e hw => ⟨rfl, m_arm hd hL o2 o3 (fun hb => ?_) (fun j' v' hj' e' hw' => ?_)⟩)
  · subst e
    exact noA hj o3 hb
  · subst e
    exact noA hj o3 hb
  · subst e
    rw [nI_eq (by omega) (by omega)] at e'
    subst e'
    refine ⟨rfl, pick_eq hw hw' (fun k hk => ?_), hI.th⟩
    obtain ⟨b1, -, b3, -, b5, -, b7, -⟩ := o4 j hj
    obtain ⟨⟨a1, -⟩, ⟨a2, -⟩, ⟨a3, -⟩, ⟨a4, -⟩, ⟨a5, -⟩, ⟨a6, -⟩⟩ := hS j hj
    match k, hk with
    | 0, _ => exact b1
    | 1, _ => exact a1
    | 2, _ => exact a2
    | 3, _ => exact a3
    | 4, _ => exact a4
    | 5, _ => exact a5
    | 6, _ => exact b5
    | 7, _ => exact b7
    | 8, _ => exact a6
    | 9, _ => exact b3
theorem x_point {G : MG} {d : Nat} {Q : Int32 → Mm → Prop} {M : Mm} {c : Nat} {x1 x2 x3 : Int32} (hd : 2 ≤ d) (hL : Lay c M) (hc : c = 3 ∨ c = 39) {n : Nat} (hn : M.1 c 3 = nI n) (h6 : n ≤ 7)
    (hk : ∀ j, j < n → ∃ k : Nat, k ≤ 6 ∧ M.1 (c + 15 + 3 * j) 6 = nI k)
    (h0 : (x1 < 0 ∨ nI n ≤ x1) ∨ (∃ j, j < n ∧ x1 = nI j ∧ (x2 < 0 ∨ ¬ x2 < M.1 (c + 15 + 3 * j) 6)) → Q (-1) M)
    (h1 : ∀ j i, j < n → x1 = nI j → i < 6 → x2 = nI i → x2 < M.1 (c + 15 + 3 * j) 6 → (x3 = 0 → Q (M.1 (c + 15 + 3 * j + 1) i) M) ∧ (¬ x3 = 0 → Q (M.1 (c + 15 + 3 * j + 2) i) M)) : C G Y_X11_point d [.ref (G.b + 0), .int x1, .int x2, .int x3] M (Ri Q) := by
  refine up1 (P := fun d => C G Y_X11_point d _ M (Ri Q)) (fun e => b_X11_point (d := e + 1) hL hc ?_) hd
  refine s_hasChart (by omega) hL hc ⟨rfl, fun h => ?_, fun h => h0 (.inl ?_)⟩
  · rw [hn] at h
    obtain ⟨j, hj, rfl⟩ := an_of (by omega) (if02 h)
    refine ⟨(inN (by omega) (by omega)).1, ?_⟩
    rw [nI_clamp (show j < 2 ^ 31 by omega), show c + 2 + 13 + 3 * j = c + 15 + 3 * j by omega]
    refine ⟨fun h2 => h0 (.inr ⟨j, hj, rfl, .inl h2⟩), fun h2 => ⟨fun h3 => ?_, fun h3 => h0 (.inr ⟨j, hj, rfl, .inr h3⟩)⟩⟩
    obtain ⟨k, hk1, hk2⟩ := hk j hj
    obtain ⟨i, hi, rfl⟩ := nI_of h2
    have h3' := h3
    rw [hk2, nI_ltI (by omega) (by omega)] at h3'
    rw [nI_clamp hi]
    obtain ⟨g1, g2⟩ := h1 j i hj rfl (by omega) rfl h3
    exact ⟨fun e => ⟨(inN (by omega) (by omega)).1, g1 e⟩, fun e => ⟨(inN (by omega) (by omega)).1, g2 e⟩⟩
  · rw [hn] at h
    exact if01 h
theorem m_point {G : MG} {d : Nat} {Q : Int32 → Mm → Prop} {M : Mm} {c : Nat} {x1 x2 x3 : Int32} (hd : 2 ≤ d) (hL : Lay c M) {n : Nat} (hn : M.1 154 0 = nI n) (h6 : n ≤ 7)
    (hk : ∀ j, j < n → ∃ k : Nat, k ≤ 6 ∧ M.1 154 (1 + 16 * j + 3) = nI k)
    (h0 : (x1 < 0 ∨ nI n ≤ x1) ∨ (∃ j, j < n ∧ x1 = nI j ∧ (x2 < 0 ∨ M.1 154 (1 + 16 * j + 3) ≤ x2)) → Q (-1) (sI M 147 0 0))
    (h1 : ∀ j i, j < n → x1 = nI j → i < 6 → x2 = nI i → ¬ M.1 154 (1 + 16 * j + 3) ≤ x2 → (x3 = 0 → Q (M.1 154 (1 + 16 * j + (4 + 2 * i))) (sI M 147 0 0)) ∧ (¬ x3 = 0 → Q (M.1 154 (1 + 16 * j + (5 + 2 * i))) (sI M 147 0 0))) : C G Y_X12_point d [.ref (G.b + 147), .int x1, .int x2, .int x3] M (Ri Q) := by
  refine up1 (P := fun d => C G Y_X12_point d _ M (Ri Q)) (fun e => b_X12_point (d := e + 1) hL (fun M1 e1 => ?_)) hd
  subst e1
  refine s_isMap (by omega) (lay_sI hL) ⟨rfl, fun h => h0 (.inl ?_), fun h => ?_⟩
  · have := if01 h
    rw [show (sI M 147 0 0).1 154 0 = nI n from hn] at this
    exact this
  · have := if02 h
    rw [show (sI M 147 0 0).1 154 0 = nI n from hn] at this
    obtain ⟨j, hj, rfl⟩ := an_of (by omega) this
    refine ⟨fun h2 => h0 (.inr ⟨j, hj, rfl, .inl h2⟩), fun h2 => ?_⟩
    refine s_mapOf 3 (by omega) (lay_sI hL) (by omega) (by omega) rfl ⟨rfl, fun h3 => h0 (.inr ⟨j, hj, rfl, .inr h3⟩), fun h3 => ?_⟩
    obtain ⟨k, hk1, hk2⟩ := hk j hj
    have h3' : ¬ M.1 154 (1 + 16 * j + 3) ≤ x2 := h3
    rw [hk2] at h3'
    obtain ⟨i, hi, rfl⟩ := an_of (n := k) (by omega) (by rintro (h | h); exact h2 h; exact h3' h)
    obtain ⟨g1, g2⟩ := h1 j i hj rfl (by omega) rfl h3
    have e2 : ∀ w, 4 + 2 * nI i + nI w = nI (4 + 2 * i + w) := fun w => by rw [show (4 : Int32) = nI 4 from rfl, show (2 : Int32) = nI 2 from rfl, pk_mul, nI_add, nI_add]
    refine ⟨fun e => s_mapOf (4 + 2 * i) (by omega) (lay_sI hL) (by omega) (by omega) (e2 0) ⟨rfl, g1 e⟩, fun e => s_mapOf (5 + 2 * i) (by omega) (lay_sI hL) (by omega) (by omega) (by rw [show 5 + 2 * i = 4 + 2 * i + 1 by omega]; exact e2 1) ⟨rfl, g2 e⟩⟩
theorem noB {n j : Nat} {P : Prop} (hj : j < n) (hn : n ≤ 7) (h : nI j < 0 ∨ nI n ≤ nI j) : P := by
  rcases h with h | h
  · exact absurd h (nI_pos (by omega))
  · exact absurd h (nI_ge hj (by omega))
theorem c_point {G : MG} {d : Nat} {M : Mm} {c : Nat} {x1 x2 x3 : Int32} (hd : 3 ≤ d) (hI : Inv c M) : Two G d c Y_X11_point [.ref (G.b + 0), .int x1, .int x2, .int x3] Y_X12_point [.ref (G.b + 147), .int x1, .int x2, .int x3] M := by
  obtain ⟨n, o1, o2, o3, o4⟩ := hI.2.2.2.1
  have hL := hI.lay
  have hk : ∀ j, j < n → ∃ k : Nat, k ≤ 6 ∧ M.1 154 (1 + 16 * j + 3) = nI k := fun j hj => by
    obtain ⟨-, -, -, -, k, -, k2, k3, -⟩ := o4 j hj
    exact ⟨k, k2, k3⟩
  have hk' : ∀ j, j < n → ∃ k : Nat, k ≤ 6 ∧ M.1 (c + 15 + 3 * j) 6 = nI k := fun j hj => by
    obtain ⟨-, -, -, a3, k, -, k2, k3, -⟩ := o4 j hj
    exact ⟨k, k2, a3.trans k3⟩
  have hlt : ∀ j i, j < n → i < 6 → (nI i < M.1 (c + 15 + 3 * j) 6 ↔ ¬ M.1 154 (1 + 16 * j + 3) ≤ nI i) := fun j i hj hi => by
    obtain ⟨-, -, -, a3, k, -, k2, k3, -⟩ := o4 j hj
    have k3' : M.1 154 (1 + 16 * j + 3) = nI k := k3
    rw [a3, k3, k3', nI_ltI (by omega) (by omega), nI_leI (by omega) (by omega)]
    omega
  refine x_point (by omega) hL hI.cc o1 o3 hk' (fun hb => ⟨rfl, m_point (by omega) hL o2 o3 hk (fun _ => ⟨rfl, rfl, hI.th⟩) (fun j i hj e hi e2 hw => ?_)⟩) (fun j i hj e hi e2 hw => ?_)
  · subst e; subst e2
    rcases hb with hb | ⟨j', hj', e', hb⟩
    · exact noB hj o3 hb
    · rw [nI_eq (by omega) (by omega)] at e'
      subst e'
      rcases hb with hb | hb
      · exact absurd hb (nI_pos (by omega))
      · exact absurd ((hlt j i hj hi).mpr hw) hb
  · subst e; subst e2
    have hbad : ∀ {P : Prop}, (nI j < 0 ∨ nI n ≤ nI j) ∨ (∃ j', j' < n ∧ nI j = nI j' ∧ (nI i < 0 ∨ M.1 154 (1 + 16 * j' + 3) ≤ nI i)) → P := by
      intro P hb
      rcases hb with hb | ⟨j', hj', e', hb⟩
      · exact noB hj o3 hb
      · rw [nI_eq (by omega) (by omega)] at e'
        subst e'
        rcases hb with hb | hb
        · exact absurd hb (nI_pos (by omega))
        · exact absurd hb ((hlt j i hj hi).mp hw)
    obtain ⟨-, -, -, a3, k, -, k2, k3, k4⟩ := o4 j hj
    rw [a3, k3, nI_ltI (by omega) (by omega)] at hw
    obtain ⟨⟨p1, -⟩, ⟨p2, -⟩⟩ := k4 i hw
    refine ⟨fun e3 => ⟨rfl, m_point (by omega) hL o2 o3 hk hbad (fun j' i' hj' e' hi' e2' _ => ⟨fun _ => ?_, fun h => absurd e3 h⟩)⟩, fun e3 => ⟨rfl, m_point (by omega) hL o2 o3 hk hbad (fun j' i' hj' e' hi' e2' _ => ⟨fun h => absurd h e3, fun _ => ?_⟩)⟩⟩
    · rw [nI_eq (by omega) (by omega)] at e' e2'
      subst e'; subst e2'
      exact ⟨rfl, p1, hI.th⟩
    · rw [nI_eq (by omega) (by omega)] at e' e2'
      subst e'; subst e2'
      exact ⟨rfl, p2, hI.th⟩
