/-! ===== sheets: reachesAll, the call ===== -/
/-- some pin reaches all points of a set -/
def RP (X Y : Nat → Int) (p r s : Nat) : Prop := ∃ x y : Int, (0 ≤ x ∧ x ≤ 99) ∧ (0 ≤ y ∧ y ≤ 99) ∧ ∀ i, (i < p ∧ s.testBit i = true) → ((X i - x).natAbs + (Y i - y).natAbs : Int) ≤ r
theorem if_iI (P P' : Prop) [Decidable P] [Decidable P'] (h : P ↔ P') (a b : Int) : (if P then iI a else iI b) = iI (if P' then a else b) := by
  by_cases g : P
  · rw [if_pos g, if_pos (h.mp g)]
  · rw [if_neg g, if_neg (fun h' => g (h.mpr h'))]
theorem s_reachesAll {G : MG} {d : Nat} {Q : Int32 → Mm → Prop} {M : Mm} {c o0 p r s : Nat} {X Y : Nat → Int} (hd : 1 ≤ d) (hL : Lay c M) (ho0 : sh o0 = some (.inr 2)) (hp6 : p ≤ 6) (hp : M.1 o0 6 = nI p)
    (hX : ∀ i, i < p → M.1 (o0 + 1) i = iI (X i) ∧ 0 ≤ X i ∧ X i ≤ 99) (hY : ∀ i, i < p → M.1 (o0 + 2) i = iI (Y i) ∧ 0 ≤ Y i ∧ Y i ≤ 99) (hs : s < 64) (hs1 : ∃ i, i < p ∧ s.testBit i = true) (hr : r ≤ 200)
    (h0 : ¬ RP X Y p r s → Q 0 M) (h1 : RP X Y p r s → Q 1 M) : C G Y_X3_reachesAll d [.ref (G.b + o0), .int (nI s), .int (nI r)] M (Ri Q) := by
  refine up1 (P := fun d => C G Y_X3_reachesAll d _ M (Ri Q)) (fun e => b_X3_reachesAll (d := e) hL ho0 ?_) hd
  have key : ∀ m i (a b c' e' : Int), i + m = p → Bnd X Y s i a b c' e' → L_X3_reachesAll_18 G e Q o0 (nI s) (nI r) (iI a) (iI b) (iI c') (iI e') (nI i) M := by
    intro m
    induction m with
    | zero =>
      intro i a b c' e' hi hB
      have hip : i = p := by omega
      subst hip
      obtain ⟨hb, hall, hatt⟩ := hB
      have hatt' : (∃ j, (j < i ∧ s.testBit j = true) ∧ X j + Y j = a) ∧ (∃ j, (j < i ∧ s.testBit j = true) ∧ X j + Y j = b) ∧ (∃ j, (j < i ∧ s.testBit j = true) ∧ X j - Y j = c') ∧ (∃ j, (j < i ∧ s.testBit j = true) ∧ X j - Y j = e') := by
        rcases hatt with ⟨-, -, -, -, hn⟩ | h
        · obtain ⟨j, hj, ht⟩ := hs1
          rw [hn j hj] at ht
          cases ht
        · exact h
      obtain ⟨ta, tb, tc, te⟩ := hatt'
      have G1 := geo (fun j => j < i ∧ s.testBit j = true) X Y r a b c' e' (fun j hj => (hX j hj.1).2) (fun j hj => (hY j hj.1).2) (fun j hj => (hall j hj.1 hj.2).1) (fun j hj => (hall j hj.1 hj.2).2) ta tb tc te
      have R1 : RP X Y i r s ↔ (b - a ≤ 2 * (r : Int) ∧ e' - c' ≤ 2 * (r : Int) ∧ (b - a < 2 * (r : Int) ∨ e' - c' < 2 * (r : Int) ∨ (b - e') % 2 = 0)) := G1
      refine b_X3_reachesAll_18 hL ho0 ⟨fun _ => ?_, fun h => absurd ?_ h⟩
      · have e1 : (2 : Int32) * nI r - (iI b - iI a) = iI (2 * (r : Int) - (b - a)) := by
          rw [iI_nI, show (2 : Int32) = iI 2 from rfl, iI_mul, iI_sub, iI_sub]
        have e2 : (2 : Int32) * nI r - (iI e' - iI c') = iI (2 * (r : Int) - (e' - c')) := by
          rw [iI_nI, show (2 : Int32) = iI 2 from rfl, iI_mul, iI_sub, iI_sub]
        have e3 : iI b - iI e' = iI (b - e') := iI_sub b e'
        rw [e1, e2, e3, show (0 : Int32) = iI 0 from rfl, iI_lt (by omega) (by omega) (by omega) (by omega), iI_lt (by omega) (by omega) (by omega) (by omega), iI_lt (by omega) (by omega) (by omega) (by omega), iI_le (by omega) (by omega) (by omega) (by omega)]
        have par := iI_par (b - e' + 100).toNat (by omega)
        rw [show (((b - e' + 100).toNat : Nat) : Int) - 100 = b - e' by omega, show (0 : Int32) = iI 0 from rfl] at par
        rw [par]
        refine ⟨fun g => h0 (fun h => ?_), fun g => ⟨fun g2 => ⟨fun g3 => h1 (R1.mpr ?_), fun g3 => ⟨fun g4 => h1 (R1.mpr ?_), fun g4 => ⟨fun g5 => h0 (fun h => ?_), fun g5 => h1 (R1.mpr ?_)⟩⟩⟩, fun g2 => h0 (fun h => ?_)⟩⟩
        · have := R1.mp h; omega
        · exact ⟨by omega, by omega, .inl (by omega)⟩
        · exact ⟨by omega, by omega, .inr (.inl (by omega))⟩
        · have := (R1.mp h).2.2
          rcases this with h | h | h
          · omega
          · omega
          · exact g5 h
        · exact ⟨by omega, by omega, .inr (.inr g5)⟩
        · have := R1.mp h; omega
      · rw [hp, nI_leI (by omega) (by omega)]; omega
    | succ m ih =>
      intro i a b c' e' hi hB
      have hin : vp_in (nI i) 6 := (inN (by omega) (by omega)).1
      obtain ⟨hb, -, -⟩ := id hB
      obtain ⟨x1, x2⟩ := hX i (by omega)
      obtain ⟨y1, y2⟩ := hY i (by omega)
      refine b_X3_reachesAll_18 hL ho0 ⟨fun h => absurd h ?_, fun _ => ?_⟩
      · rw [hp, nI_leI (by omega) (by omega)]; omega
      · rw [nI_1, bit_nI s hs i (by omega), nI_clamp (show i < 2 ^ 31 by omega), x1, y1, iI_add, iI_sub]
        refine ⟨fun g => ih (i + 1) a b c' e' (by omega) (hB.no g), fun g => ⟨hin, hin, fun v8 e8 => ⟨hin, hin, fun v9 e9 => ?_⟩⟩⟩
        subst e8; subst e9
        rw [if_iI _ (X i + Y i < a) (iI_lt (by omega) (by omega) (by omega) (by omega)), if_iI _ (b < X i + Y i) (iI_lt (by omega) (by omega) (by omega) (by omega)), if_iI _ (X i - Y i < c') (iI_lt (by omega) (by omega) (by omega) (by omega)), if_iI _ (e' < X i - Y i) (iI_lt (by omega) (by omega) (by omega) (by omega))]
        exact ih (i + 1) _ _ _ _ (by omega) (hB.yes (by cases hh : s.testBit i with
          | true => rfl
          | false => exact absurd hh g) x2 y2)
  exact key p 0 198 0 99 (-99) (by omega) ⟨by omega, fun j hj => absurd hj (Nat.not_lt_zero j), .inl ⟨rfl, rfl, rfl, rfl, fun j hj => absurd hj (Nat.not_lt_zero j)⟩⟩
