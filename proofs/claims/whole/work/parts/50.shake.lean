/-! ===== shakes ===== -/
def hp (M : Mm) (a w : Nat) : Nat := (ar M a w).toNatClampNeg
def hsk (M : Mm) (a : Nat) : Nat := if ar M a 0 = 3 then 2 * hp M a 12 else hp M a 12
def shk (M : Mm) (f : Nat → Nat) : Nat → Nat → Nat × Nat → Nat × Nat
  | 0, _, s => s
  | m + 1, i, s => shk M f m (i + 1) ((s.1 + hsk M (f i) * s.2) * hp M (f i) 6, s.2 * hp M (f i) 7)
def Lg (M N : Mm) (o : Nat) : Prop := N.1 = M.1 ∧ N.2.2 = M.2.2 ∧ ∀ o', o' ≠ o → N.2.1 o' = M.2.1 o'
theorem Lg.ess {M N : Mm} {o : Nat} (h : Lg M N o) (ho : o ≠ 152) : Ess M N := ⟨h.2.1, fun o _ _ => by rw [h.1], by rw [h.1], by rw [h.1], by rw [h.1], by rw [h.1], h.2.2 152 (Ne.symm ho), by rw [h.1], by rw [h.1], by rw [h.1]⟩
theorem ArmK.num {M : Mm} {c a : Nat} (h : ArmK M c a) : ar M a 6 = nI (hp M a 6) ∧ 1 ≤ hp M a 6 ∧ hp M a 6 ≤ 9 ∧ ar M a 7 = nI (hp M a 7) ∧ 1 ≤ hp M a 7 ∧ hp M a 7 ≤ 9 ∧ ar M a 12 = nI (hp M a 12) ∧ hp M a 12 ≤ 9 ∧ hsk M a ≤ 18 := by
  obtain ⟨-, ⟨-, -, -, -, -, -, -, s, -, s2, s3⟩, ⟨⟨-, p, p1, p2, p3⟩, ⟨-, q, q1, q2, q3⟩, -⟩⟩ := h
  have ep : hp M a 6 = p := by unfold hp; rw [show ar M a 6 = nI p from p3]; exact nI_clamp (by omega)
  have eq : hp M a 7 = q := by unfold hp; rw [show ar M a 7 = nI q from q3]; exact nI_clamp (by omega)
  have es : hp M a 12 = s := by unfold hp; rw [show ar M a 12 = nI s from s3]; exact nI_clamp (by omega)
  have hh : hsk M a ≤ 18 := by
    unfold hsk
    rw [es]
    by_cases h : ar M a 0 = 3
    · rw [if_pos h]; omega
    · rw [if_neg h]; omega
  rw [ep, eq, es]
  exact ⟨p3, p1, p2, q3, q1, q2, s3, s2, hh⟩
theorem shk_b {M : Mm} {c : Nat} {f : Nat → Nat} {k : Nat} (hf : ∀ i, i < k → ArmK M c (f i)) : ∀ m i (s : Nat × Nat), i + m = k → s.1 ≤ 18 * i * 9 ^ i → 1 ≤ s.2 → s.2 ≤ 9 ^ i → (shk M f m i s).1 ≤ 18 * k * 9 ^ k ∧ 1 ≤ (shk M f m i s).2 ∧ (shk M f m i s).2 ≤ 9 ^ k := by
  intro m
  induction m with
  | zero =>
    intro i s hi h1 h2 h3
    have : i = k := by omega
    subst this
    exact ⟨h1, h2, h3⟩
  | succ m ih =>
    intro i s hi h1 h2 h3
    obtain ⟨-, p1, p2, -, q1, q2, -, -, hh⟩ := (hf i (by omega)).num
    refine ih (i + 1) _ (by omega) ?_ (Nat.mul_le_mul h2 q1) ?_
    · show (s.1 + hsk M (f i) * s.2) * hp M (f i) 6 ≤ 18 * (i + 1) * 9 ^ (i + 1)
      have a1 : hsk M (f i) * s.2 ≤ 18 * 9 ^ i := Nat.mul_le_mul hh h3
      have a2 : (s.1 + hsk M (f i) * s.2) * hp M (f i) 6 ≤ (18 * i * 9 ^ i + 18 * 9 ^ i) * 9 := Nat.mul_le_mul (Nat.add_le_add h1 a1) p2
      have a3 : 18 * (i + 1) * 9 ^ (i + 1) = (18 * i * 9 ^ i + 18 * 9 ^ i) * 9 := by
        rw [Nat.pow_succ, Nat.mul_add, Nat.mul_one, ← Nat.mul_assoc, Nat.add_mul]
      omega
    · show s.2 * hp M (f i) 7 ≤ 9 ^ (i + 1)
      rw [Nat.pow_succ]
      exact Nat.mul_le_mul h3 q2
theorem sh_arm {c a : Nat} (hc : c = 3 ∨ c = 39) (ha : a < 6) : sh (c + 3 + 2 * a) = some (.inr 1) := by
  have h : ∀ a, a < 6 → sh (3 + 3 + 2 * a) = some (.inr 1) ∧ sh (39 + 3 + 2 * a) = some (.inr 1) := by decide +kernel
  rcases hc with rfl | rfl
  · exact (h a ha).1
  · exact (h a ha).2
theorem s_hand {G : MG} {d : Nat} {Q : Int32 → Mm → Prop} {M : Mm} {c a : Nat} (hd : 1 ≤ d) (hL : Lay c M) (hc : c = 3 ∨ c = 39) (hk : ArmK M c a) (h : Q (nI (hsk M a)) M) : C G Y_X1_shakeOfHand d [.ref (G.b + (c + 3 + 2 * a))] M (Ri Q) := by
  obtain ⟨-, -, -, -, -, -, e12, -, -⟩ := hk.num
  obtain ⟨ha, ⟨k0, -, -, -, -, -, k8, -⟩, -⟩ := hk
  have e8 : M.1 (c + 3 + 2 * a) 8 = nI (hp M a 12) := k8.trans e12
  refine up1 (P := fun d => C G Y_X1_shakeOfHand d _ M (Ri Q)) (fun e => b_X1_shakeOfHand (d := e) hL (sh_arm hc ha) ?_) hd
  rw [e8, show M.1 (c + 3 + 2 * a) 1 = ar M a 0 from k0]
  unfold hsk at h
  refine ⟨fun h3 => ?_, fun h3 => ?_⟩
  · rw [if_neg h3] at h; exact h
  · rw [if_pos h3] at h
    rw [show (2 : Int32) = nI 2 from rfl, pk_mul]; exact h
theorem s_sum {G : MG} {d : Nat} {Q : Mm → Prop} {M : Mm} {c k o0 o3 : Nat} {f : Nat → Nat} (hd : 2 ≤ d) (hI : Inv c M) (hk4 : k ≤ 4) (hk7 : M.1 75 7 = nI k) (ho0 : sh o0 = some (.inr 8)) (ho3 : sh o3 = some (.inl (0, 4)))
    (hf : ∀ i, i < k → f i < 6 ∧ M.1 o3 i = nI (f i) ∧ ArmK M c (f i)) (h : ∀ N, Lg M N o0 → N.2.1 o0 0 = lN (shk M f k 0 (0, 1)).1 → N.2.1 o0 1 = lN (shk M f k 0 (0, 1)).2 → Q N) : C G Y_X8_sum d [.ref (G.b + o0), .ref (G.b + c), .ref (G.b + 75), .ref (G.b + o3)] M (Rv Q) := by
  have hL := hI.lay
  refine up1 (P := fun d => C G Y_X8_sum d _ M (Rv Q)) (fun e => b_X8_sum (d := e + 1) hL ho0 (sh_off hI.cc) (by decide) ho3 (fun M1 e1 M2 e2 => ?_)) hd
  have key : ∀ m i (N : Mm) (s : Nat × Nat), i + m = k → Lg M N o0 → N.2.1 o0 0 = lN s.1 → N.2.1 o0 1 = lN s.2 → (∀ N', Lg M N' o0 → N'.2.1 o0 0 = lN (shk M f m i s).1 → N'.2.1 o0 1 = lN (shk M f m i s).2 → Q N') → L_X8_sum_13 G (e + 1) Q o0 c 75 o3 (nI i) N := by
    intro m
    induction m with
    | zero =>
      intro i N s hi hN n0 n1 hq
      refine b_X8_sum_13 (lay_of hL hN.2.1) ho0 (sh_off hI.cc) (by decide) ho3 ⟨fun _ => hq N hN n0 n1, fun h => absurd ?_ h⟩
      rw [hN.1, hk7, nI_leI (by omega) (by omega)]; omega
    | succ m ih =>
      intro i N s hi hN n0 n1 hq
      obtain ⟨f1, f2, f3⟩ := hf i (by omega)
      have hLN := lay_of hL hN.2.1
      obtain ⟨e6, p1, p2, e7, q1, q2, e12, -, hh⟩ := f3.num
      have hkN : ArmK N c (f i) := by
        obtain ⟨a1, a2, a3⟩ := f3
        unfold ArmK ArmC HandC at *
        rw [hN.1]
        exact ⟨a1, a2, a3⟩
      have hskN : hsk N (f i) = hsk M (f i) := by unfold hsk hp ar; rw [hN.1]
      have hin : vp_in (nI (f i)) 6 := (inN f1 (by omega)).1
      have hcl := nI_clamp (show f i < 2 ^ 31 by omega)
      refine b_X8_sum_13 hLN ho0 (sh_off hI.cc) (by decide) ho3 ⟨fun h => absurd h ?_, fun _ => ⟨fun h => absurd h ?_, fun _ => ⟨(inN (by omega) (by omega)).1, ?_⟩⟩⟩
      · rw [hN.1, hk7, nI_leI (by omega) (by omega)]; omega
      · rw [show Int32.ofNat 4 = nI 4 from rfl, nI_leI (by omega) (by omega)]; omega
      · rw [nI_clamp (show i < 2 ^ 31 by omega), show N.1 o3 i = nI (f i) by rw [hN.1]; exact f2, hcl, show c + 1 + 2 + 2 * f i = c + 3 + 2 * f i by omega, nI_1]
        refine ⟨hin, s_hand (by omega) hLN hI.cc hkN ⟨rfl, hin, fun M6 e6' => ⟨hin, fun M7 e7' => ?_⟩⟩⟩
        obtain ⟨-, -, ⟨⟨h76, -⟩, ⟨h77, -⟩, -⟩⟩ := f3
        rw [hskN, n0, n1, hN.1, show M.1 (75 + 1) (f i) = nI (hp M (f i) 6) from h76.trans e6, nI_l (by omega), nI_l (by omega), lN_mul, lN_add, lN_mul] at e6'
        have g6 : M6.1 = M.1 := by rw [e6']; exact hN.1
        have n61 : M6.2.1 o0 1 = lN s.2 := by rw [e6', rd_sJ, if_neg (by omega)]; exact n1
        rw [g6, n61, show M.1 (75 + 2) (f i) = nI (hp M (f i) 7) from h77.trans e7, nI_l (by omega), lN_mul] at e7'
        refine ih (i + 1) M7 _ (by omega) ⟨by rw [e7']; exact g6, by rw [e7', e6']; exact hN.2.1, fun o' ho => ?_⟩ ?_ ?_ hq
        · rw [e7', sJ_ne ho, e6', sJ_ne ho]; exact hN.2.2 o' ho
        · rw [e7', rd_sJ, if_neg (by omega), e6', rd_sJ, if_pos ⟨rfl, rfl⟩]
        · rw [e7', rd_sJ, if_pos ⟨rfl, rfl⟩]
  refine key k 0 M2 (0, 1) (by omega) ⟨by rw [e2, e1]; rfl, by rw [e2, e1]; rfl, fun o' ho => ?_⟩ ?_ ?_ h
  · rw [e2, sJ_ne ho, e1, sJ_ne ho]
  · rw [e2, rd_sJ, if_neg (by omega), e1, rd_sJ, if_pos ⟨rfl, rfl⟩]; rfl
  · rw [e2, rd_sJ, if_pos ⟨rfl, rfl⟩]; rfl
theorem s_findShakes {G : MG} {d : Nat} {Q : Mm → Prop} {M : Mm} {c k : Nat} {f : Nat → Nat} (hd : 2 ≤ d) (hL : Lay c M) (hk4 : k ≤ 4) (hk : M.1 153 85 = nI k)
    (hf : ∀ i, i < k → f i < 6 ∧ M.1 157 i = nI (f i) ∧ ArmK M c (f i)) (h : ∀ N, Lg M N 147 → N.2.1 147 25 = M.2.1 147 25 → N.2.1 147 26 = M.2.1 147 26 → N.2.1 147 21 = lN ((shk M f k 0 (0, 1)).1 / Nat.gcd (shk M f k 0 (0, 1)).1 (shk M f k 0 (0, 1)).2) → N.2.1 147 22 = lN ((shk M f k 0 (0, 1)).2 / Nat.gcd (shk M f k 0 (0, 1)).1 (shk M f k 0 (0, 1)).2) → Q N) : C G Y_X12_findShakes d [.ref (G.b + 147), .ref (G.b + 157)] M (Rv Q) := by
  obtain ⟨b1, b2, b3⟩ := shk_b (c := c) (fun i hi => (hf i hi).2.2) k 0 (0, 1) (by omega) (by omega) (by omega) (by omega)
  have h94 : 9 ^ k ≤ 9 ^ 4 := Nat.pow_le_pow_right (by omega) hk4
  have h9 : (9 : Nat) ^ 4 = 6561 := by decide
  have b1' : (shk M f k 0 (0, 1)).1 ≤ 72 * 6561 := Nat.le_trans b1 (Nat.mul_le_mul (by omega) (by omega))
  refine up1 (P := fun d => C G Y_X12_findShakes d _ M (Rv Q)) (fun e => b_X12_findShakes (d := e + 1) hL (n1 := 7) (by decide) (fun M1 e1 M2 e2 => ?_)) hd
  have key : ∀ m i (N : Mm) (s : Nat × Nat), i + m = k → Lg M N 147 → N.2.1 147 25 = M.2.1 147 25 → N.2.1 147 26 = M.2.1 147 26 → N.2.1 147 21 = lN s.1 → N.2.1 147 22 = lN s.2 → shk M f m i s = shk M f k 0 (0, 1) → L_X12_findShakes_12 G (e + 1) Q 157 (nI i) N := by
    intro m
    induction m with
    | zero =>
      intro i N s hi hN k1 k2 n0 n1 hq
      have hs : s = shk M f k 0 (0, 1) := hq
      rw [← hs] at b1' b2 b3 h
      have hLN := lay_of hL hN.2.1
      have hg := gcd_lt (a := s.1) (b := s.2) (by omega) (by omega)
      have hne : ¬ lN (Nat.gcd s.1 s.2) = 0 := by
        rw [show (0 : Int64) = lN 0 from rfl, pk_lEQ hg.2 (by omega)]; omega
      refine b_X12_findShakes_12 hLN (n1 := 7) (by decide) (s_chained (by omega) hLN ⟨rfl, fun _ => ?_, fun h => absurd ?_ h⟩)
      · rw [n0, n1]
        refine s_common (a := s.1) (by omega) hLN (by omega) (fun _ => rfl) (fun h => absurd ?_ h) (by omega) ⟨rfl, hne, fun M6 e6 => ⟨hne, fun M7 e7 => ?_⟩⟩
        · rw [show (0 : Int64) = lN 0 from rfl, pk_lLE (by omega) (by omega)]; omega
        · rw [n0, pk_lDiv (by omega) hg.1 hg.2] at e6
          have n62 : M6.2.1 147 22 = lN s.2 := by rw [e6, rd_sJ, if_neg (by omega)]; exact n1
          rw [n62, pk_lDiv (by omega) hg.1 hg.2] at e7
          refine h M7 ⟨by rw [e7, e6]; exact hN.1, by rw [e7, e6]; exact hN.2.1, fun o' ho => ?_⟩ ?_ ?_ ?_ ?_
          · rw [e7, sJ_ne ho, e6, sJ_ne ho]; exact hN.2.2 o' ho
          · rw [e7, rd_sJ, if_neg (by omega), e6, rd_sJ, if_neg (by omega)]; exact k1
          · rw [e7, rd_sJ, if_neg (by omega), e6, rd_sJ, if_neg (by omega)]; exact k2
          · rw [e7, rd_sJ, if_neg (by omega), e6, rd_sJ, if_pos ⟨rfl, rfl⟩]
          · rw [e7, rd_sJ, if_pos ⟨rfl, rfl⟩]
      · rw [hN.1, hk, nI_leI (by omega) (by omega)]; omega
    | succ m ih =>
      intro i N s hi hN k1 k2 n0 n1 hq
      obtain ⟨f1, f2, f3⟩ := hf i (by omega)
      have hLN := lay_of hL hN.2.1
      obtain ⟨e6, p1, p2, e7, q1, q2, e12, hs9, hh⟩ := f3.num
      have at46 : ∀ t : Nat, hsk M (f i) = t * hp M (f i) 12 → L_X12_findShakes_46 G (e + 1) Q 157 (nI i) (nI (f i)) (nI t) (nI (hp M (f i) 12)) N := by
        intro t ht
        refine b_X12_findShakes_46 hLN (n1 := 7) (by decide) (s_of 6 (by omega) hLN f1 (by omega) rfl ⟨rfl, fun M3 e3 => ?_⟩)
        rw [n0, n1, pk_mul, Nat.mul_comm, ← ht, nI_l (by omega), hN.1, show M.1 153 (1 + 14 * f i + 6) = nI (hp M (f i) 6) from e6, nI_l (by omega), lN_mul, lN_add, lN_mul] at e3
        have l3 : Lay c M3 := by rw [e3]; exact hLN
        have g3 : M3.1 = M.1 := by rw [e3]; exact hN.1
        have n31 : M3.2.1 147 22 = lN s.2 := by rw [e3, rd_sJ, if_neg (by omega)]; exact n1
        refine s_of 7 (by omega) l3 f1 (by omega) rfl ⟨rfl, fun M6 e6' => ?_⟩
        rw [g3, n31, show M.1 153 (1 + 14 * f i + 7) = nI (hp M (f i) 7) from e7, nI_l (by omega), lN_mul] at e6'
        rw [nI_1]
        refine ih (i + 1) M6 _ (by omega) ⟨by rw [e6']; exact g3, by rw [e6', e3]; exact hN.2.1, fun o' ho => ?_⟩ ?_ ?_ ?_ ?_ hq
        · rw [e6', sJ_ne ho, e3, sJ_ne ho]; exact hN.2.2 o' ho
        · rw [e6', rd_sJ, if_neg (by omega), e3, rd_sJ, if_neg (by omega)]; exact k1
        · rw [e6', rd_sJ, if_neg (by omega), e3, rd_sJ, if_neg (by omega)]; exact k2
        · rw [e6', rd_sJ, if_neg (by omega), e3, rd_sJ, if_pos ⟨rfl, rfl⟩]
        · rw [e6', rd_sJ, if_pos ⟨rfl, rfl⟩]
      refine b_X12_findShakes_12 hLN (n1 := 7) (by decide) (s_chained (by omega) hLN ⟨rfl, fun h => absurd h ?_, fun _ => ⟨(inN (by omega) (by omega)).1, ?_⟩⟩)
      · rw [hN.1, hk, nI_leI (by omega) (by omega)]; omega
      · rw [nI_clamp (show i < 2 ^ 31 by omega), show N.1 157 i = nI (f i) by rw [hN.1]; exact f2]
        refine s_of 12 (by omega) hLN f1 (by omega) rfl ⟨rfl, ?_⟩
        refine s_of 0 (by omega) hLN f1 (by omega) rfl ⟨rfl, ?_⟩
        rw [hN.1, show M.1 153 (1 + 14 * f i + 12) = nI (hp M (f i) 12) from e12]
        refine ⟨fun h3 => at46 1 ?_, fun h3 => at46 2 ?_⟩
        · unfold hsk
          rw [if_neg (show ¬ ar M (f i) 0 = 3 from h3), Nat.one_mul]
        · unfold hsk
          rw [if_pos (show ar M (f i) 0 = 3 from h3)]
  refine key k 0 M2 (0, 1) (by omega) ⟨by rw [e2, e1]; rfl, by rw [e2, e1]; rfl, fun o' ho => ?_⟩ ?_ ?_ ?_ ?_ rfl
  · rw [e2, sJ_ne ho, e1, sJ_ne ho]
  · rw [e2, rd_sJ, if_neg (by omega), e1, rd_sJ, if_neg (by omega)]
  · rw [e2, rd_sJ, if_neg (by omega), e1, rd_sJ, if_neg (by omega)]
  · rw [e2, rd_sJ, if_neg (by omega), e1, rd_sJ, if_pos ⟨rfl, rfl⟩]; rfl
  · rw [e2, rd_sJ, if_pos ⟨rfl, rfl⟩]; rfl
