/-! ===== sheets: when one pin reaches all of a set ===== -/
theorem geo {α : Type} (s : α → Prop) (X Y : α → Int) (r a b c e : Int) (hX : ∀ i, s i → 0 ≤ X i ∧ X i ≤ 99) (hY : ∀ i, s i → 0 ≤ Y i ∧ Y i ≤ 99)
    (hS : ∀ i, s i → a ≤ X i + Y i ∧ X i + Y i ≤ b) (hD : ∀ i, s i → c ≤ X i - Y i ∧ X i - Y i ≤ e)
    (ea : ∃ i, s i ∧ X i + Y i = a) (eb : ∃ i, s i ∧ X i + Y i = b) (ec : ∃ i, s i ∧ X i - Y i = c) (ee : ∃ i, s i ∧ X i - Y i = e) :
    (∃ x y : Int, (0 ≤ x ∧ x ≤ 99) ∧ (0 ≤ y ∧ y ≤ 99) ∧ ∀ i, s i → ((X i - x).natAbs + (Y i - y).natAbs : Int) ≤ r) ↔ (b - a ≤ 2 * r ∧ e - c ≤ 2 * r ∧ (b - a < 2 * r ∨ e - c < 2 * r ∨ (b - e) % 2 = 0)) := by
  constructor
  · rintro ⟨x, y, hx, hy, h⟩
    obtain ⟨i, hi, e1⟩ := ea
    obtain ⟨j, hj, e2⟩ := eb
    obtain ⟨k, hk, e3⟩ := ec
    obtain ⟨l, hl, e4⟩ := ee
    have := h i hi; have := h j hj; have := h k hk; have := h l hl
    refine ⟨by omega, by omega, ?_⟩
    by_cases g1 : b - a < 2 * r
    · exact .inl g1
    · by_cases g2 : e - c < 2 * r
      · exact .inr (.inl g2)
      · exact .inr (.inr (by omega))
  · rintro ⟨h1, h2, h3⟩
    have huv : ∃ u v : Int, b - r ≤ u ∧ u ≤ a + r ∧ e - r ≤ v ∧ v ≤ c + r ∧ (u - v) % 2 = 0 := by
      by_cases hp : (b - e) % 2 = 0
      · exact ⟨b - r, e - r, by omega, by omega, by omega, by omega, by omega⟩
      · rcases h3 with h3 | h3 | h3
        · exact ⟨b - r + 1, e - r, by omega, by omega, by omega, by omega, by omega⟩
        · exact ⟨b - r, e - r + 1, by omega, by omega, by omega, by omega, by omega⟩
        · exact absurd h3 hp
    obtain ⟨u, v, u1, u2, v1, v2, huv⟩ := huv
    refine ⟨max 0 (min 99 ((u + v) / 2)), max 0 (min 99 ((u - v) / 2)), by omega, by omega, fun i hi => ?_⟩
    have := hX i hi; have := hY i hi; have := hS i hi; have := hD i hi
    have b1 : ((X i - max 0 (min 99 ((u + v) / 2))).natAbs : Int) ≤ (X i - (u + v) / 2).natAbs := by omega
    have b2 : ((Y i - max 0 (min 99 ((u - v) / 2))).natAbs : Int) ≤ (Y i - (u - v) / 2).natAbs := by omega
    have b3 : ((X i - (u + v) / 2).natAbs + (Y i - (u - v) / 2).natAbs : Int) ≤ r := by omega
    omega
