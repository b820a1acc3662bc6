/-! ===== steadiest: the reference's masks ===== -/
theorem s_isChained {G : MG} {d : Nat} {Q : Int32 → Mm → Prop} {M : Mm} {c k : Nat} {x1 : Int32} (hd : 2 ≤ d) (hL : Lay c M) (h4 : k ≤ 4) (hk : M.1 153 85 = nI k)
    (h0 : (∀ i, i < k → ¬ M.1 153 (86 + i) = x1) → Q 0 M) (h1 : (∃ i, i < k ∧ M.1 153 (86 + i) = x1) → Q 1 M) : C G Y_X12_isChained d [.ref (G.b + 147), .int x1] M (Ri Q) := by
  refine up1 (P := fun d => C G Y_X12_isChained d _ M (Ri Q)) (fun e => b_X12_isChained (d := e + 1) hL ?_) hd
  have key : ∀ m i f, i + m = k → (f = 0 ∧ (∀ i', i' < i → ¬ M.1 153 (86 + i') = x1) ∨ f = 1 ∧ ∃ i', i' < i ∧ M.1 153 (86 + i') = x1) → L_X12_isChained_4 G (e + 1) Q x1 f (nI i) M := by
    intro m
    induction m with
    | zero =>
      intro i f hi hf
      refine b_X12_isChained_4 hL (s_chained (by omega) hL ⟨rfl, fun _ => ?_, fun h => absurd ?_ h⟩)
      · rcases hf with ⟨rfl, hf⟩ | ⟨rfl, i', hi', hf⟩
        · exact ⟨.inl rfl, h0 (fun i' hi' => hf i' (by omega))⟩
        · exact ⟨.inr rfl, h1 ⟨i', by omega, hf⟩⟩
      · rw [hk, nI_leI (by omega) (by omega)]; omega
    | succ m ih =>
      intro i f hi hf
      refine b_X12_isChained_4 hL (s_chained (by omega) hL ⟨rfl, fun h => absurd h ?_, fun _ => ?_⟩)
      · rw [hk, nI_leI (by omega) (by omega)]; omega
      · rw [nI_1]
        refine ⟨fun h => ih (i + 1) 1 (by omega) (.inr ⟨rfl, ?_⟩), fun h => s_chainOf (by omega) hL (by omega) ⟨rfl, fun h2 => ih (i + 1) 0 (by omega) (.inl ⟨rfl, ?_⟩), fun h2 => ih (i + 1) 1 (by omega) (.inr ⟨rfl, i, by omega, h2⟩)⟩⟩
        · rcases hf with ⟨rfl, hf⟩ | ⟨-, i', hi', hf⟩
          · exact absurd rfl h
          · exact ⟨i', by omega, hf⟩
        · intro i' hi'
          rcases hf with ⟨-, hf⟩ | ⟨rfl, -⟩
          · by_cases he : i' = i
            · rw [he]; exact h2
            · exact hf i' (by omega)
          · cases h
  exact key k 0 0 (by omega) (.inl ⟨rfl, fun i' hi' => by omega⟩)
/-- the mask x tells which arms below 6 are in p -/
def Us (x : Int32) (p : List Nat) : Prop := ∃ u : Nat, u < 64 ∧ x = nI u ∧ ∀ a, a < 6 → ((nI u >>> (nI a &&& 31)) &&& 1 = 0 ↔ ¬ a ∈ p)
theorem us_or : ∀ u, u < 64 → ∀ a, a < 6 → ∃ v, v < 64 ∧ nI u ||| (1 <<< (nI a &&& 31)) = nI v ∧ ∀ a', a' < 6 → ((nI v >>> (nI a' &&& 31)) &&& 1 = 0 ↔ (¬ a' = a ∧ (nI u >>> (nI a' &&& 31)) &&& 1 = 0)) := by
  have h : ∀ u, u < 64 → ∀ a, a < 6 → nI u ||| (1 <<< (nI a &&& 31)) = nI (u ||| 2 ^ a) ∧ u ||| 2 ^ a < 64 ∧ ∀ a', a' < 6 → ((nI (u ||| 2 ^ a) >>> (nI a' &&& 31)) &&& 1 = 0 ↔ (¬ a' = a ∧ (nI u >>> (nI a' &&& 31)) &&& 1 = 0)) := by decide +kernel
  intro u hu a ha
  obtain ⟨h1, h2, h3⟩ := h u hu a ha
  exact ⟨_, h2, h1, h3⟩
theorem us_0 : Us 0 [] := ⟨0, by omega, rfl, by decide +kernel⟩
theorem Us.add {x : Int32} {p : List Nat} {a : Nat} (h : Us x p) (ha : a < 6) : Us (x ||| (1 <<< (nI a &&& 31))) (p ++ [a]) := by
  obtain ⟨u, hu, rfl, h2⟩ := h
  obtain ⟨v, hv, e, h3⟩ := us_or u hu a ha
  refine ⟨v, hv, e, fun a' ha' => ?_⟩
  rw [h3 a' ha', h2 a' ha', List.mem_append, List.mem_singleton]
  constructor
  · rintro ⟨h4, h5⟩ (h6 | h6)
    · exact h5 h6
    · exact h4 h6
  · intro h4
    exact ⟨fun h5 => h4 (.inr h5), fun h5 => h4 (.inl h5)⟩
