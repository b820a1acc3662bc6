/-! ===== office: tokens ===== -/
def blB (x : Nat) : Bool := x == 10 || x == 32
def ltB (x : Nat) : Bool := Nat.ble 97 x && Nat.ble x 122
def dgB (x : Nat) : Bool := Nat.ble 48 x && Nat.ble x 57
/-- how far signs of one sort go -/
def goF (P : Nat → Bool) (T : Nat → Nat) (n : Nat) : Nat → Nat → Nat
  | 0, k => k
  | m + 1, k => if k < n ∧ P (T k) = true then goF P T n m (k + 1) else k
def fwd (P : Nat → Bool) (T : Nat → Nat) (n k : Nat) : Nat := goF P T n (n - k) k
theorem fwd_step {P : Nat → Bool} {T : Nat → Nat} {n k : Nat} (h : k < n) (hp : P (T k) = true) : fwd P T n k = fwd P T n (k + 1) := by
  unfold fwd
  rw [show n - k = (n - (k + 1)) + 1 by omega]
  exact if_pos ⟨h, hp⟩
theorem fwd_stop {P : Nat → Bool} {T : Nat → Nat} {n k : Nat} (h : ¬ (k < n ∧ P (T k) = true)) : fwd P T n k = k := by
  unfold fwd
  cases hm : n - k with
  | zero => rfl
  | succ m => exact if_neg h
theorem goF_le {P : Nat → Bool} {T : Nat → Nat} {n : Nat} : ∀ m k, k ≤ n → k ≤ goF P T n m k ∧ goF P T n m k ≤ n := by
  intro m
  induction m with
  | zero => intro k hk; exact ⟨Nat.le_refl _, hk⟩
  | succ m ih =>
    intro k hk
    show k ≤ (if k < n ∧ P (T k) = true then goF P T n m (k + 1) else k) ∧ (if k < n ∧ P (T k) = true then goF P T n m (k + 1) else k) ≤ n
    by_cases h : k < n ∧ P (T k) = true
    · rw [if_pos h]; have := ih (k + 1) (by omega); omega
    · rw [if_neg h]; exact ⟨Nat.le_refl _, hk⟩
theorem fwd_le {P : Nat → Bool} {T : Nat → Nat} {n k : Nat} (hk : k ≤ n) : k ≤ fwd P T n k ∧ fwd P T n k ≤ n := goF_le _ _ hk
theorem goF_all {P : Nat → Bool} {T : Nat → Nat} {n : Nat} : ∀ m k i, k ≤ i → i < goF P T n m k → P (T i) = true := by
  intro m
  induction m with
  | zero => intro k i h1 h2; have h2' : i < k := h2; omega
  | succ m ih =>
    intro k i h1 h2
    have h2' : i < (if k < n ∧ P (T k) = true then goF P T n m (k + 1) else k) := h2
    by_cases h : k < n ∧ P (T k) = true
    · rw [if_pos h] at h2'
      by_cases e : i = k
      · subst e; exact h.2
      · exact ih (k + 1) i (by omega) h2'
    · rw [if_neg h] at h2'; omega
theorem fwd_all {P : Nat → Bool} {T : Nat → Nat} {n k i : Nat} (h1 : k ≤ i) (h2 : i < fwd P T n k) : P (T i) = true := goF_all _ _ _ h1 h2
theorem goF_end {P : Nat → Bool} {T : Nat → Nat} {n : Nat} : ∀ m k, n ≤ k + m → ¬ (goF P T n m k < n ∧ P (T (goF P T n m k)) = true) := by
  intro m
  induction m with
  | zero => intro k hk h; have h' : k < n := h.1; omega
  | succ m ih =>
    intro k hk
    show ¬ ((if k < n ∧ P (T k) = true then goF P T n m (k + 1) else k) < n ∧ P (T (if k < n ∧ P (T k) = true then goF P T n m (k + 1) else k)) = true)
    by_cases h : k < n ∧ P (T k) = true
    · rw [if_pos h]; exact ih (k + 1) (by omega)
    · rw [if_neg h]; exact h
theorem fwd_end {P : Nat → Bool} {T : Nat → Nat} {n k : Nat} : ¬ (fwd P T n k < n ∧ P (T (fwd P T n k)) = true) := goF_end _ _ (by omega)
/-- the token that begins its scan at b: place, end, sort -/
def plF (T : Nat → Nat) (n b : Nat) : Nat := fwd blB T n b
def enP (T : Nat → Nat) (n p : Nat) : Nat := if n ≤ p then p else if ltB (T p) = true then fwd ltB T n p else if dgB (T p) = true then fwd dgB T n p else p + 1
def enF (T : Nat → Nat) (n b : Nat) : Nat := enP T n (plF T n b)
def soP (T : Nat → Nat) (n p : Nat) : Nat :=
  if n ≤ p then 0 else if ltB (T p) = true then (if fwd ltB T n p - p ≤ 8 then 1 else 4) else if dgB (T p) = true then (if fwd dgB T n p - p ≤ 4 then 2 else 4) else if T p = 44 ∨ T p = 59 then 3 else 4
def soF (T : Nat → Nat) (n b : Nat) : Nat := soP T n (plF T n b)
def cod (B : Nat) (f : Nat → Nat) : Nat → Nat
  | 0 => 0
  | m + 1 => B * cod B f m + f m
def wdP (B : Nat) (T : Nat → Nat) (n p : Nat) : Nat := cod B (fun i => T (p + i) - 96) (fwd ltB T n p - p)
def wdF (B : Nat) (T : Nat → Nat) (n b : Nat) : Nat := wdP B T n (plF T n b)
def nvP (T : Nat → Nat) (n p : Nat) : Nat := cod 10 (fun i => T (p + i) - 48) (fwd dgB T n p - p)
def nvF (T : Nat → Nat) (n b : Nat) : Nat := nvP T n (plF T n b)
def tbF (T : Nat → Nat) (n : Nat) : Nat → Nat
  | 0 => 0
  | j + 1 => enF T n (tbF T n j)
theorem plF_le {T : Nat → Nat} {n b : Nat} (h : b ≤ n) : b ≤ plF T n b ∧ plF T n b ≤ n := fwd_le h
theorem enP_le {T : Nat → Nat} {n p : Nat} (h : p ≤ n) : p ≤ enP T n p ∧ enP T n p ≤ n ∧ (p < n → p < enP T n p) := by
  unfold enP
  by_cases h0 : n ≤ p
  · rw [if_pos h0]; omega
  · rw [if_neg h0]
    by_cases h1 : ltB (T p) = true
    · rw [if_pos h1, fwd_step (by omega) h1]
      have := fwd_le (P := ltB) (T := T) (n := n) (k := p + 1) (by omega); omega
    · rw [if_neg h1]
      by_cases h2 : dgB (T p) = true
      · rw [if_pos h2, fwd_step (by omega) h2]
        have := fwd_le (P := dgB) (T := T) (n := n) (k := p + 1) (by omega); omega
      · rw [if_neg h2]; omega
theorem enF_le {T : Nat → Nat} {n b : Nat} (h : b ≤ n) : b ≤ enF T n b ∧ enF T n b ≤ n := by
  have h1 := plF_le (T := T) h
  have h2 := enP_le (T := T) h1.2
  unfold enF; omega
theorem tbF_le (T : Nat → Nat) (n : Nat) : ∀ j, tbF T n j ≤ n
  | 0 => Nat.zero_le _
  | j + 1 => (enF_le (tbF_le T n j)).2
theorem soP_le (T : Nat → Nat) (n p : Nat) : soP T n p ≤ 4 := by
  unfold soP
  by_cases h0 : n ≤ p
  · rw [if_pos h0]; omega
  · rw [if_neg h0]
    by_cases h1 : ltB (T p) = true
    · rw [if_pos h1]; split <;> omega
    · rw [if_neg h1]
      by_cases h2 : dgB (T p) = true
      · rw [if_pos h2]; split <;> omega
      · rw [if_neg h2]; split <;> omega
/-- words of at most eight letters are told apart by their numbers, in every base -/
theorem cod_inj {B : Nat} (hB : 27 ≤ B) {f g : Nat → Nat} : ∀ m m', (∀ i, i < m → 1 ≤ f i ∧ f i ≤ 26) → (∀ i, i < m' → 1 ≤ g i ∧ g i ≤ 26) → cod B f m = cod B g m' → m = m' ∧ ∀ i, i < m → f i = g i
  | 0, 0, _, _, _ => ⟨rfl, fun i h => by omega⟩
  | 0, m' + 1, _, hg, h => by
    have h' : 0 = B * cod B g m' + g m' := h
    have := hg m' (by omega); omega
  | m + 1, 0, hf, _, h => by
    have h' : B * cod B f m + f m = 0 := h
    have := hf m (by omega); omega
  | m + 1, m' + 1, hf, hg, h => by
    have h' : B * cod B f m + f m = B * cod B g m' + g m' := h
    have h1 := hf m (by omega)
    have h2 := hg m' (by omega)
    have e1 : f m = g m' := by
      have a1 : (B * cod B f m + f m) % B = f m := by rw [Nat.mul_add_mod]; exact Nat.mod_eq_of_lt (by omega)
      have a2 : (B * cod B g m' + g m') % B = g m' := by rw [Nat.mul_add_mod]; exact Nat.mod_eq_of_lt (by omega)
      rw [← a1, h', a2]
    have e2 : cod B f m = cod B g m' := Nat.eq_of_mul_eq_mul_left (show 0 < B by omega) (by omega)
    obtain ⟨e3, e4⟩ := cod_inj hB m m' (fun i hi => hf i (by omega)) (fun i hi => hg i (by omega)) e2
    subst e3
    refine ⟨rfl, fun i hi => ?_⟩
    by_cases e : i = m
    · subst e; exact e1
    · exact e4 i (by omega)
theorem cod_cong {B : Nat} {f g : Nat → Nat} : ∀ {m}, (∀ i, i < m → f i = g i) → cod B f m = cod B g m
  | 0, _ => rfl
  | m + 1, h => by
    show B * cod B f m + f m = B * cod B g m + g m
    rw [cod_cong (fun i hi => h i (by omega)), h m (by omega)]
theorem cod_base {B C : Nat} (hB : 27 ≤ B) (hC : 27 ≤ C) {f g : Nat → Nat} {m m' : Nat} (hf : ∀ i, i < m → 1 ≤ f i ∧ f i ≤ 26) (hg : ∀ i, i < m' → 1 ≤ g i ∧ g i ≤ 26) : cod B f m = cod B g m' ↔ cod C f m = cod C g m' := by
  constructor
  · intro h
    obtain ⟨rfl, e⟩ := cod_inj hB m m' hf hg h
    exact cod_cong e
  · intro h
    obtain ⟨rfl, e⟩ := cod_inj hC m m' hf hg h
    exact cod_cong e
theorem cod_lt {B : Nat} {f : Nat → Nat} (hB : 0 < B) : ∀ {m}, (∀ i, i < m → f i < B) → cod B f m < B ^ m
  | 0, _ => by show 0 < B ^ 0; rw [Nat.pow_zero]; omega
  | m + 1, h => by
    have h1 := cod_lt hB (fun i hi => h i (by omega) : ∀ i, i < m → f i < B)
    have h2 := h m (by omega)
    show B * cod B f m + f m < B ^ (m + 1)
    rw [Nat.pow_succ, Nat.mul_comm (B ^ m) B]
    have h3 : B * (cod B f m + 1) ≤ B * B ^ m := Nat.mul_le_mul_left B h1
    rw [Nat.mul_add, Nat.mul_one] at h3
    omega
theorem ltB_iff (x : Nat) : ltB x = true ↔ 97 ≤ x ∧ x ≤ 122 := by unfold ltB; simp
theorem dgB_iff (x : Nat) : dgB x = true ↔ 48 ≤ x ∧ x ≤ 57 := by unfold dgB; simp
theorem blB_iff (x : Nat) : blB x = true ↔ x = 10 ∨ x = 32 := by unfold blB; simp
theorem wl_in {T : Nat → Nat} {n p : Nat} : ∀ i, i < fwd ltB T n p - p → 1 ≤ T (p + i) - 96 ∧ T (p + i) - 96 ≤ 26 := fun i hi => by
  have := (ltB_iff _).mp (fwd_all (P := ltB) (T := T) (n := n) (k := p) (i := p + i) (by omega) (by omega))
  omega
