/-! ===== steadiest: some order is found ===== -/
theorem pig : ∀ (k : Nat) (f : Nat → Nat) (p : List Nat), (∀ i j, i < k → j < k → f i = f j → i = j) → p.length < k → ∃ i, i < k ∧ ¬ f i ∈ p := by
  intro k
  induction k with
  | zero => intro f p _ h; omega
  | succ k ih =>
    intro f p hf hp
    by_cases h : f k ∈ p
    · have hl : (p.erase (f k)).length < k := by
        rw [List.length_erase_of_mem h]
        have := List.length_pos_of_mem h
        omega
      obtain ⟨i, hi, hn⟩ := ih f (p.erase (f k)) (fun i j h1 h2 => hf i j (by omega) (by omega)) hl
      refine ⟨i, by omega, fun hm => hn ?_⟩
      have hne : f i ≠ f k := fun e => by have := hf i k (by omega) (by omega) e; omega
      exact (List.mem_erase_of_ne hne).mpr hm
    · exact ⟨k, by omega, h⟩
theorem tryL_keep {M : Mm} {k : Nat} {rec : List Nat → Option (List Nat) → Option (List Nat)} (hr : ∀ p b, b ≠ none → rec p b ≠ none) : ∀ r a p b, b ≠ none → tryL M k rec r a p b ≠ none := by
  intro r
  induction r with
  | zero => intro a p b hb; exact hb
  | succ r ih =>
    intro a p b hb
    rw [show tryL M k rec (r + 1) a p b = tryL M k rec r (a + 1) p (@ite _ (chB M k a ∧ ¬ a ∈ p) (Classical.propDecidable _) (rec (p ++ [a]) b) b) from rfl]
    apply ih
    by_cases h : chB M k a ∧ ¬ a ∈ p
    · rw [if_pos h]; exact hr _ _ hb
    · rw [if_neg h]; exact hb
theorem tryL_hit {M : Mm} {k x : Nat} {p : List Nat} {rec : List Nat → Option (List Nat) → Option (List Nat)} (hr : ∀ p b, b ≠ none → rec p b ≠ none) (hx : chB M k x) (hp : ¬ x ∈ p) (hrx : ∀ b, rec (p ++ [x]) b ≠ none) : ∀ r a b, a ≤ x → x < a + r → tryL M k rec r a p b ≠ none := by
  intro r
  induction r with
  | zero => intro a b h1 h2; omega
  | succ r ih =>
    intro a b h1 h2
    rw [show tryL M k rec (r + 1) a p b = tryL M k rec r (a + 1) p (@ite _ (chB M k a ∧ ¬ a ∈ p) (Classical.propDecidable _) (rec (p ++ [a]) b) b) from rfl]
    by_cases he : a = x
    · subst he
      apply tryL_keep hr
      rw [if_pos ⟨hx, hp⟩]
      exact hrx b
    · exact ih (a + 1) _ (by omega) (by omega)
theorem tryO_keep {M : Mm} {k n : Nat} : ∀ m p b, b ≠ none → tryO M k n m p b ≠ none := by
  intro m
  induction m with
  | zero =>
    intro p b hb
    cases b with
    | none => exact absurd rfl hb
    | some q =>
      show (if lessO M k p q then some p else some q) ≠ none
      by_cases h : lessO M k p q
      · rw [if_pos h]; exact fun h => by cases h
      · rw [if_neg h]; exact fun h => by cases h
  | succ m ih =>
    intro p b hb
    exact tryL_keep ih n 0 p b hb
theorem tryO_some {M : Mm} {k n : Nat} (hinj : ∀ i j, i < k → j < k → cha M i = cha M j → i = j) (hlt : ∀ i, i < k → cha M i < n) : ∀ m p b, p.length + m = k → tryO M k n m p b ≠ none := by
  intro m
  induction m with
  | zero =>
    intro p b _
    cases b with
    | none => exact fun h => by cases h
    | some q =>
      show (if lessO M k p q then some p else some q) ≠ none
      by_cases h : lessO M k p q
      · rw [if_pos h]; exact fun h => by cases h
      · rw [if_neg h]; exact fun h => by cases h
  | succ m ih =>
    intro p b hp
    obtain ⟨i, hi, hn⟩ := pig k (cha M) p hinj (by omega)
    exact tryL_hit (tryO_keep m) ⟨i, hi, rfl⟩ hn (fun b => ih _ b (by rw [List.length_append]; simp; omega)) n 0 b (Nat.zero_le _) (by have := hlt i hi; omega)
