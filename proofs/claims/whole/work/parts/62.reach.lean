/-! ===== sheets: reachesAll ===== -/
def iI (z : Int) : Int32 := Int32.ofInt z
theorem iI_t {z : Int} (h1 : -(2 ^ 31) ≤ z) (h2 : z < 2 ^ 31) : (iI z).toInt = z := Int32.toInt_ofInt_of_le h1 h2
theorem iI_add (a b : Int) : iI a + iI b = iI (a + b) := (Int32.ofInt_add a b).symm
theorem iI_sub (a b : Int) : iI a - iI b = iI (a - b) := (Int32.ofInt_sub a b).symm
theorem iI_mul (a b : Int) : iI a * iI b = iI (a * b) := (Int32.ofInt_mul a b).symm
theorem iI_nI (n : Nat) : nI n = iI n := by unfold nI iI; rw [Int32.ofInt_eq_ofNat]
theorem iI_lt {a b : Int} (a1 : -(2 ^ 31) ≤ a) (a2 : a < 2 ^ 31) (b1 : -(2 ^ 31) ≤ b) (b2 : b < 2 ^ 31) : iI a < iI b ↔ a < b := by
  rw [Int32.lt_iff_toInt_lt, iI_t a1 a2, iI_t b1 b2]
theorem iI_le {a b : Int} (a1 : -(2 ^ 31) ≤ a) (a2 : a < 2 ^ 31) (b1 : -(2 ^ 31) ≤ b) (b2 : b < 2 ^ 31) : iI a ≤ iI b ↔ a ≤ b := by
  rw [Int32.le_iff_toInt_le, iI_t a1 a2, iI_t b1 b2]
theorem iI_par : ∀ n : Nat, n < 400 → (iI ((n : Int) - 100) - iI ((n : Int) - 100) / 2 * 2 = 0 ↔ ((n : Int) - 100) % 2 = 0) := by decide +kernel
theorem bit_nI : ∀ s, s < 64 → ∀ i, i < 6 → (nI s &&& (1 <<< (nI i &&& 31)) = 0 ↔ s.testBit i = false) := by decide +kernel
/-- the four bounds, as far as point i -/
def Bnd (X Y : Nat → Int) (s i : Nat) (a b c e : Int) : Prop :=
  (0 ≤ a ∧ a ≤ 198 ∧ 0 ≤ b ∧ b ≤ 198 ∧ -99 ≤ c ∧ c ≤ 99 ∧ -99 ≤ e ∧ e ≤ 99) ∧ (∀ j, j < i → s.testBit j = true → (a ≤ X j + Y j ∧ X j + Y j ≤ b) ∧ (c ≤ X j - Y j ∧ X j - Y j ≤ e)) ∧
  ((a = 198 ∧ b = 0 ∧ c = 99 ∧ e = -99 ∧ ∀ j, j < i → s.testBit j = false) ∨ ((∃ j, (j < i ∧ s.testBit j = true) ∧ X j + Y j = a) ∧ (∃ j, (j < i ∧ s.testBit j = true) ∧ X j + Y j = b) ∧ (∃ j, (j < i ∧ s.testBit j = true) ∧ X j - Y j = c) ∧ (∃ j, (j < i ∧ s.testBit j = true) ∧ X j - Y j = e)))
theorem Bnd.no {X Y : Nat → Int} {s i : Nat} {a b c e : Int} (h : Bnd X Y s i a b c e) (hb : s.testBit i = false) : Bnd X Y s (i + 1) a b c e := by
  obtain ⟨h1, h2, h3⟩ := h
  have up : ∀ j, j < i + 1 → s.testBit j = true → j < i := fun j hj ht => by
    by_cases he : j = i
    · subst he; rw [hb] at ht; cases ht
    · omega
  refine ⟨h1, fun j hj ht => h2 j (up j hj ht) ht, ?_⟩
  rcases h3 with ⟨e1, e2, e3, e4, e5⟩ | ⟨⟨j1, ⟨a1, a2⟩, a3⟩, ⟨j2, ⟨b1, b2⟩, b3⟩, ⟨j3, ⟨c1, c2⟩, c3⟩, ⟨j4, ⟨d1, d2⟩, d3⟩⟩
  · refine .inl ⟨e1, e2, e3, e4, fun j hj => ?_⟩
    by_cases he : j = i
    · rw [he]; exact hb
    · exact e5 j (by omega)
  · exact .inr ⟨⟨j1, ⟨by omega, a2⟩, a3⟩, ⟨j2, ⟨by omega, b2⟩, b3⟩, ⟨j3, ⟨by omega, c2⟩, c3⟩, ⟨j4, ⟨by omega, d2⟩, d3⟩⟩
theorem Bnd.yes {X Y : Nat → Int} {s i : Nat} {a b c e : Int} (h : Bnd X Y s i a b c e) (hb : s.testBit i = true) (hx : 0 ≤ X i ∧ X i ≤ 99) (hy : 0 ≤ Y i ∧ Y i ≤ 99) :
    Bnd X Y s (i + 1) (if X i + Y i < a then X i + Y i else a) (if b < X i + Y i then X i + Y i else b) (if X i - Y i < c then X i - Y i else c) (if e < X i - Y i then X i - Y i else e) := by
  obtain ⟨h1, h2, h3⟩ := h
  have me : (i < i + 1 ∧ s.testBit i = true) := ⟨by omega, hb⟩
  refine ⟨?_, fun j hj ht => ?_, .inr ?_⟩
  · refine ⟨?_, ?_, ?_, ?_, ?_, ?_, ?_, ?_⟩ <;> split <;> omega
  · by_cases he : j = i
    · subst he
      refine ⟨⟨?_, ?_⟩, ⟨?_, ?_⟩⟩ <;> split <;> omega
    · have := h2 j (by omega) ht
      refine ⟨⟨?_, ?_⟩, ⟨?_, ?_⟩⟩ <;> split <;> omega
  · rcases h3 with ⟨e1, e2, e3, e4, -⟩ | ⟨⟨j1, ⟨a1, a2⟩, a3⟩, ⟨j2, ⟨b1, b2⟩, b3⟩, ⟨j3, ⟨c1, c2⟩, c3⟩, ⟨j4, ⟨d1, d2⟩, d3⟩⟩
    · refine ⟨⟨i, me, ?_⟩, ⟨i, me, ?_⟩, ⟨i, me, ?_⟩, ⟨i, me, ?_⟩⟩ <;> split <;> omega
    · refine ⟨?_, ?_, ?_, ?_⟩
      · by_cases g : X i + Y i < a
        · rw [if_pos g]; exact ⟨i, me, rfl⟩
        · rw [if_neg g]; exact ⟨j1, ⟨by omega, a2⟩, a3⟩
      · by_cases g : b < X i + Y i
        · rw [if_pos g]; exact ⟨i, me, rfl⟩
        · rw [if_neg g]; exact ⟨j2, ⟨by omega, b2⟩, b3⟩
      · by_cases g : X i - Y i < c
        · rw [if_pos g]; exact ⟨i, me, rfl⟩
        · rw [if_neg g]; exact ⟨j3, ⟨by omega, c2⟩, c3⟩
      · by_cases g : e < X i - Y i
        · rw [if_pos g]; exact ⟨i, me, rfl⟩
        · rw [if_neg g]; exact ⟨j4, ⟨by omega, d2⟩, d3⟩
