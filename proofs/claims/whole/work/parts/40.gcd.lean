/-! ===== common divisors; map ===== -/
theorem ab_of (y : Int64) (h : -(2 ^ 63 : Int) < y.toInt) : ∃ a : Nat, a < 2 ^ 63 ∧ (if 0 < y then y else -y) = lN a ∧ (0 ≤ y → y = lN a) ∧ (¬ 0 ≤ y → -y = lN a) ∧ (a = 0 → y = 0) := by
  by_cases h0 : 0 < y
  · have h1 : ¬ y < 0 := by rw [Int64.lt_iff_toInt_lt] at h0 ⊢; omega
    obtain ⟨k, hk, rfl⟩ := pk_lOf h1
    rw [if_pos h0]
    refine ⟨k, hk, rfl, fun _ => rfl, fun h => absurd ?_ h, fun h => by rw [h]; rfl⟩
    rw [Int64.le_iff_toInt_le]; rw [Int64.lt_iff_toInt_lt] at h0; omega
  · rw [if_neg h0]
    have h2 : y.toInt ≤ 0 := by
      rw [Int64.lt_iff_toInt_lt, Int64.toInt_zero] at h0; omega
    have h3 : (-y).toInt = - y.toInt := by
      rw [Int64.toInt_neg, Int.bmod_eq_of_le (by omega) (by omega)]
    have h4 : ¬ (-y) < 0 := by
      rw [Int64.lt_iff_toInt_lt, h3, Int64.toInt_zero]; omega
    obtain ⟨k, hk, e⟩ := pk_lOf h4
    refine ⟨k, hk, e, fun h5 => ?_, fun _ => e, fun h5 => ?_⟩
    · have h6 : y = 0 := by
        apply Int64.toInt_inj.mp
        rw [Int64.le_iff_toInt_le, Int64.toInt_zero] at h5
        rw [Int64.toInt_zero]; omega
      rw [h6] at e ⊢
      exact e
    · rw [h5] at e
      have : y = - (-y) := by simp
      rw [this, e]
      rfl
theorem s_common {G : MG} {d : Nat} {Q : Int64 → Mm → Prop} {M : Mm} {c : Nat} {y : Int64} {a b : Nat} (hd : 1 ≤ d) (hL : Lay c M) (ha : a < 2 ^ 63) (h1 : 0 ≤ y → y = lN a) (h2 : ¬ 0 ≤ y → -y = lN a) (hb : b < 2 ^ 63) (h : Q (lN (Nat.gcd a b)) M) : C G Y_X12_common d [.long y, .long (lN b)] M (Rj Q) := by
  refine up1 (P := fun d => C G Y_X12_common d _ M (Rj Q)) (fun e => b_X12_common (d := e) hL ?_) hd
  have key : ∀ m a b, b ≤ m → a < 2 ^ 63 → b < 2 ^ 63 → Q (lN (Nat.gcd a b)) M → L_X12_common_17 G e Q (lN a) (lN b) M := by
    intro m
    induction m with
    | zero =>
      intro a b hbm ha hb h
      have : b = 0 := Nat.le_zero.mp hbm
      subst this
      refine b_X12_common_17 hL ⟨fun _ => ?_, fun h0 => absurd rfl h0⟩
      rwa [Nat.gcd_zero_right] at h
    | succ m ih =>
      intro a b hbm ha hb h
      by_cases h0 : b = 0
      · subst h0
        refine b_X12_common_17 hL ⟨fun _ => ?_, fun h0 => absurd rfl h0⟩
        rwa [Nat.gcd_zero_right] at h
      · have hne : ¬ lN b = 0 := by
          rw [show (0 : Int64) = lN 0 from rfl, pk_lEQ hb (by omega)]; exact h0
        refine b_X12_common_17 hL ⟨fun h1 => absurd h1 hne, fun _ => ⟨hne, ?_⟩⟩
        rw [pk_lRem ha (by omega) hb]
        have hlt := Nat.mod_lt a (show 0 < b by omega)
        refine ih b (a % b) (by omega) hb (by omega) ?_
        rw [Nat.gcd_comm, ← Nat.gcd_rec, Nat.gcd_comm]
        exact h
  refine ⟨fun hp => ?_, fun hp => ?_⟩
  · rw [h1 hp]
    exact key b a b (Nat.le_refl b) ha hb h
  · rw [h2 hp]
    exact key b a b (Nat.le_refl b) ha hb h
theorem s_commonDivisor {G : MG} {d : Nat} {Q : Int64 → Mm → Prop} {M : Mm} {c a b : Nat} (hd : 1 ≤ d) (hL : Lay c M) (ha : a < 2 ^ 63) (hb : b < 2 ^ 63) (h : Q (lN (Nat.gcd a b)) M) : C G Y_X11_commonDivisor d [.long (lN a), .long (lN b)] M (Rj Q) := by
  refine up1 (P := fun d => C G Y_X11_commonDivisor d _ M (Rj Q)) (fun e => b_X11_commonDivisor (d := e) hL ?_) hd
  have h200 : ∀ i, i < 200 → ¬ (200 : Int32) ≤ nI i := fun i hi => by
    rw [show (200 : Int32) = nI 200 from rfl, nI_leI (by omega) (by omega)]; omega
  have fin : ∀ a i, i < 200 → Q (lN a) M → L_X11_commonDivisor_9 G e Q (lN a) (lN 0) (nI i) M := fun a i hi h =>
    b_X11_commonDivisor_9 hL ⟨fun h1 => absurd h1 (h200 i hi), fun _ => ⟨fun _ => h, fun h0 => absurd rfl h0⟩⟩
  have stp : ∀ a b i, i < 200 → 0 < b → a < 2 ^ 63 → b < 2 ^ 63 → L_X11_commonDivisor_9 G e Q (lN b) (lN (a % b)) (nI (i + 1)) M → L_X11_commonDivisor_9 G e Q (lN a) (lN b) (nI i) M := fun a b i hi h0 ha hb h => by
    have hne : ¬ lN b = 0 := by
      rw [show (0 : Int64) = lN 0 from rfl, pk_lEQ hb (by omega)]; omega
    refine b_X11_commonDivisor_9 hL ⟨fun h1 => absurd h1 (h200 i hi), fun _ => ⟨fun h1 => absurd h1 hne, fun _ => ⟨hne, ?_⟩⟩⟩
    rw [pk_lRem ha h0 hb, nI_1]
    exact h
  have key : ∀ k a b i, b < 2 ^ k → i + 2 * k + 1 ≤ 200 → a < 2 ^ 63 → b < 2 ^ 63 → Q (lN (Nat.gcd a b)) M → L_X11_commonDivisor_9 G e Q (lN a) (lN b) (nI i) M := by
    intro k
    induction k with
    | zero =>
      intro a b i hbk hi ha hb h
      have : b = 0 := by omega
      subst this
      rw [Nat.gcd_zero_right] at h
      exact fin a i (by omega) h
    | succ k ih =>
      intro a b i hbk hi ha hb h
      by_cases h0 : b = 0
      · subst h0
        rw [Nat.gcd_zero_right] at h
        exact fin a i (by omega) h
      · refine stp a b i (by omega) (by omega) ha hb ?_
        have hlt := Nat.mod_lt a (show 0 < b by omega)
        have hg : Nat.gcd b (a % b) = Nat.gcd a b := by rw [Nat.gcd_comm, ← Nat.gcd_rec, Nat.gcd_comm]
        rw [← hg] at h
        generalize a % b = r at hlt h
        by_cases hr : r = 0
        · subst hr
          rw [Nat.gcd_zero_right] at h
          exact fin b (i + 1) (by omega) h
        · refine stp b r (i + 1) (by omega) (by omega) hb (by omega) ?_
          have hlt2 := Nat.mod_lt b (show 0 < r by omega)
          have hdm := Nat.div_add_mod b r
          have hq : 1 ≤ b / r := (Nat.le_div_iff_mul_le (by omega)).mpr (by omega)
          have hmul : r * 1 ≤ r * (b / r) := Nat.mul_le_mul_left r hq
          have hp2 : 2 ^ (k + 1) = 2 * 2 ^ k := by rw [Nat.pow_succ]; omega
          have hg2 : Nat.gcd r (b % r) = Nat.gcd b r := by rw [Nat.gcd_comm, ← Nat.gcd_rec, Nat.gcd_comm]
          rw [← hg2] at h
          exact ih r (b % r) (i + 1 + 1) (by omega) (by omega) (by omega) (by omega) h
  exact key 63 a b 0 hb (by omega) ha hb h
/-- what inLowestTerms gives, where its numbers are not both nothing -/
theorem s_inLowest {G : MG} {d : Nat} {Q : Int64 → Mm → Prop} {M : Mm} {c a b : Nat} {y z : Int64} (hd : 2 ≤ d) (hL : Lay c M) (ha : a < 2 ^ 63) (hb : b < 2 ^ 63) (hy : (if 0 < y then y else -y) = lN a) (hz : (if 0 < z then z else -z) = lN b) (hg : 0 < Nat.gcd a b) (h : Q (y / lN (Nat.gcd a b)) M) : C G Y_X11_inLowestTerms d [.long y, .long z] M (Rj Q) := by
  refine up1 (P := fun d => C G Y_X11_inLowestTerms d _ M (Rj Q)) (fun e => b_X11_inLowestTerms (d := e + 1) hL ?_) hd
  rw [hy, hz]
  have hl : Nat.gcd a b < 2 ^ 63 := by
    by_cases h0 : a = 0
    · subst h0; rw [Nat.gcd_zero_left]; exact hb
    · exact Nat.lt_of_le_of_lt (Nat.gcd_le_left b (by omega)) ha
  have hne : ¬ lN (Nat.gcd a b) = 0 := by
    rw [show (0 : Int64) = lN 0 from rfl, pk_lEQ hl (by omega)]; omega
  exact s_commonDivisor (by omega) hL ha hb ⟨rfl, fun _ => ⟨hne, h⟩, fun h0 => absurd h0 hne⟩
theorem abs_lN {a : Nat} (ha : a < 2 ^ 63) : (if 0 < lN a then lN a else -lN a) = lN a := by
  by_cases h0 : a = 0
  · subst h0; rfl
  · rw [if_pos]
    rw [show (0 : Int64) = lN 0 from rfl, pk_lLT (by omega) ha]; omega
theorem c_map {G : MG} {d : Nat} {M : Mm} {c : Nat} {x1 x2 : Int32} (hd : 3 ≤ d) (hI : Inv c M) : Two G d c Y_X11_map [.ref (G.b + 0), .int x1, .int x2] Y_X12_map [.ref (G.b + 147), .int x1, .int x2] M := by
  have hL := hI.lay
  obtain ⟨n, o1, o2, o3, o4⟩ := hI.2.2.2.1
  have m : ∀ r : Int32, ((x1 < 0 ∨ nI n ≤ x1) ∨ (x2 < 0 ∨ 3 < x2) → r = -1) → (∀ j i, j < n → x1 = nI j → i < 4 → x2 = nI i → r = M.1 154 (1 + 16 * j + i)) → C G Y_X12_map d [.ref (G.b + 147), .int x1, .int x2] M (Ri fun r' M2 => M2.2.2 = M.2.2 ∧ r = r' ∧ Inv c M2) := by
    intro r h0 h1
    refine up1 (P := fun d => C G Y_X12_map d _ M (Ri fun r' M2 => M2.2.2 = M.2.2 ∧ r = r' ∧ Inv c M2)) (fun e => b_X12_map (d := e + 1) hL (fun M1 e1 => ?_)) (show 2 ≤ d by omega)
    subst e1
    refine s_isMap (by omega) (lay_sI hL) ⟨rfl, fun h => ⟨rfl, h0 (.inl ?_), hI.th⟩, fun h => ?_⟩
    · have := if01 h
      rw [show (sI M 147 0 0).1 154 0 = nI n from o2] at this
      exact this
    · have := if02 h
      rw [show (sI M 147 0 0).1 154 0 = nI n from o2] at this
      obtain ⟨j, hj, rfl⟩ := an_of (by omega) this
      refine s_within (by omega) (lay_sI hL) ⟨rfl, fun h => ⟨rfl, h0 (.inr (if01 h)), hI.th⟩, fun h => ?_⟩
      obtain ⟨i, hi, rfl⟩ := wn_of (n := 3) (by omega) rfl (if02 h)
      exact s_mapOf i (by omega) (lay_sI hL) (by omega) (by omega) rfl ⟨rfl, rfl, h1 j i hj rfl (by omega) rfl, hI.th⟩
  have x : ∀ e, C G Y_X11_map (e + 3) [.ref (G.b + 0), .int x1, .int x2] M (Ri fun r M1 => M1.2.2 = M.2.2 ∧ C G Y_X12_map d [.ref (G.b + 147), .int x1, .int x2] M1 (Ri fun r' M2 => M2.2.2 = M1.2.2 ∧ r = r' ∧ Inv c M2)) := by
    intro e
    refine b_X11_map (d := e + 2) hL hI.cc ?_
    refine s_hasChart (by omega) hL hI.cc ⟨rfl, fun h => ?_, fun h => ⟨rfl, m _ (fun _ => rfl) (fun j i hj e1 hi e2 => ?_)⟩⟩
    · rw [o1] at h
      obtain ⟨j, hj, rfl⟩ := an_of (by omega) (if02 h)
      refine ⟨(inN (by omega) (by omega)).1, ?_⟩
      rw [nI_clamp (show j < 2 ^ 31 by omega), show c + 2 + 13 + 3 * j = c + 15 + 3 * j by omega]
      obtain ⟨⟨u, v, u1, u2, v1, v2, eu, ev, r0, r1⟩, r2, -, r3, -⟩ := o4 j hj
      have hg : 0 < Nat.gcd u v := Nat.gcd_pos_of_pos_left v (by omega)
      have hno : ∀ k, k < 4 → x2 = nI k → ((nI j < 0 ∨ nI n ≤ nI j) ∨ (x2 < 0 ∨ 3 < x2) → M.1 154 (1 + 16 * j + k) = -1) := fun k hk e2 hb => by
        rcases hb with hb | hb
        · exact noB hj o3 hb
        · subst e2
          rcases hb with hb | hb
          · exact absurd hb (nI_pos (by omega))
          · rw [show (3 : Int32) = nI 3 from rfl, nI_ltI (by omega) (by omega)] at hb
            omega
      have hyes : ∀ k, k < 4 → x2 = nI k → (∀ j' i, j' < n → nI j = nI j' → i < 4 → x2 = nI i → M.1 154 (1 + 16 * j + k) = M.1 154 (1 + 16 * j' + i)) := fun k hk e2 j' i hj' e1 hi e3 => by
        rw [nI_eq (by omega) (by omega)] at e1
        rw [e2, nI_eq (by omega) (by omega)] at e3
        rw [e1, e3]
      rw [eu, ev, nI_l (by omega), nI_l (by omega)]
      refine ⟨fun e2 => ?_, fun e2 => ?_, fun e2 => ?_, fun e2 => ?_, fun e0 e1 e2 e3 => ?_⟩
      · refine s_inLowest (by omega) hL (by omega) (by omega) (abs_lN (by omega)) (abs_lN (by omega)) hg ⟨rfl, rfl, ?_⟩
        rw [pk_lDiv (by omega) hg (by have := Nat.gcd_le_left v (show 0 < u by omega); omega), lN_i, ← r0]
        exact m _ (hno 0 (by omega) e2) (hyes 0 (by omega) e2)
      · refine s_inLowest (by omega) hL (by omega) (by omega) (abs_lN (by omega)) (abs_lN (by omega)) (by rw [Nat.gcd_comm]; exact hg) ⟨rfl, rfl, ?_⟩
        rw [Nat.gcd_comm v u, pk_lDiv (by omega) hg (by have := Nat.gcd_le_left v (show 0 < u by omega); omega), lN_i, ← r1]
        exact m _ (hno 1 (by omega) e2) (hyes 1 (by omega) e2)
      · rw [r2]
        exact ⟨rfl, m _ (hno 2 (by omega) e2) (hyes 2 (by omega) e2)⟩
      · rw [r3]
        exact ⟨rfl, m _ (hno 3 (by omega) e2) (hyes 3 (by omega) e2)⟩
      · refine ⟨rfl, m _ (fun _ => rfl) (fun j' i hj' e4 hi e5 => ?_)⟩
        exfalso
        subst e5
        match i, hi with
        | 0, _ => exact e0 rfl
        | 1, _ => exact e1 rfl
        | 2, _ => exact e2 rfl
        | 3, _ => exact e3 rfl
    · rw [o1] at h
      subst e1
      exact noB hj o3 (if01 h)
  exact up1 (P := fun d' => C G Y_X11_map d' [.ref (G.b + 0), .int x1, .int x2] M (Ri fun r M1 => M1.2.2 = M.2.2 ∧ C G Y_X12_map d [.ref (G.b + 147), .int x1, .int x2] M1 (Ri fun r' M2 => M2.2.2 = M1.2.2 ∧ r = r' ∧ Inv c M2))) x hd
