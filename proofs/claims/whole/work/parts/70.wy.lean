/-! ===== fitted: numbers ===== -/
def sm (f : Nat → Nat) : Nat → Nat
  | 0 => 0
  | n + 1 => sm f n + f n
theorem sm_cong {f g : Nat → Nat} : ∀ {n}, (∀ i, i < n → f i = g i) → sm f n = sm g n
  | 0, _ => rfl
  | n + 1, h => by
    show sm f n + f n = sm g n + g n
    rw [sm_cong (fun i hi => h i (by omega)), h n (by omega)]
theorem sm_zero {f : Nat → Nat} : ∀ {n}, (∀ i, i < n → f i = 0) → sm f n = 0
  | 0, _ => rfl
  | n + 1, h => by
    show sm f n + f n = 0
    rw [sm_zero (fun i hi => h i (by omega)), h n (by omega)]
theorem sm_add (f g : Nat → Nat) : ∀ n, sm (fun i => f i + g i) n = sm f n + sm g n
  | 0 => rfl
  | n + 1 => by
    show sm (fun i => f i + g i) n + (f n + g n) = (sm f n + f n) + (sm g n + g n)
    rw [sm_add f g n]; omega
theorem sm_le {f : Nat → Nat} {b : Nat} : ∀ {n}, (∀ i, i < n → f i ≤ b) → sm f n ≤ n * b
  | 0, _ => by rw [Nat.zero_mul]; exact Nat.le_refl 0
  | n + 1, h => by
    have h1 := sm_le (fun i hi => h i (by omega) : ∀ i, i < n → f i ≤ b)
    have h2 := h n (by omega)
    show sm f n + f n ≤ (n + 1) * b
    rw [Nat.succ_mul]; omega
theorem sm_ge {f : Nat → Nat} : ∀ {n i}, i < n → f i ≤ sm f n
  | 0, _, h => by omega
  | n + 1, i, h => by
    show f i ≤ sm f n + f n
    by_cases e : i = n
    · subst e; omega
    · have := sm_ge (f := f) (show i < n by omega); omega
theorem sm_delta {j v : Nat} : ∀ {n}, sm (fun i => if i = j then v else 0) n = if j < n then v else 0
  | 0 => by rw [if_neg (by omega)]; rfl
  | n + 1 => by
    show sm (fun i => if i = j then v else 0) n + (if n = j then v else 0) = _
    rw [sm_delta (n := n)]
    by_cases e : n = j
    · subst e; rw [if_neg (by omega), if_pos rfl, if_pos (by omega)]; omega
    · rw [if_neg e]
      by_cases h : j < n
      · rw [if_pos h, if_pos (by omega)]; omega
      · rw [if_neg h, if_neg (by omega)]
theorem sm_comm (f : Nat → Nat → Nat) (m : Nat) : ∀ n, sm (fun i => sm (fun j => f i j) m) n = sm (fun j => sm (fun i => f i j) n) m
  | 0 => (sm_zero (fun _ _ => rfl)).symm
  | n + 1 => by
    show sm (fun i => sm (fun j => f i j) m) n + sm (fun j => f n j) m = sm (fun j => sm (fun i => f i j) n + f n j) m
    rw [sm_comm f m n, sm_add]
/-- over the pairs of two holes of one arm -/
def s2 (k : Nat) (f : Nat → Nat → Nat) : Nat := sm (fun i => sm (fun j => if i = j then 0 else f i j) k) k
theorem s2_cong {k : Nat} {f g : Nat → Nat → Nat} (h : ∀ i j, i < k → j < k → f i j = g i j) : s2 k f = s2 k g := by
  refine sm_cong (fun i hi => sm_cong (fun j hj => ?_))
  rw [h i j hi hj]
theorem s2_zero {k : Nat} {f : Nat → Nat → Nat} (h : ∀ i j, i < k → j < k → f i j = 0) : s2 k f = 0 := by
  refine sm_zero (fun i hi => sm_zero (fun j hj => ?_))
  rw [h i j hi hj]; split <;> rfl
theorem s2_le {k b : Nat} {f : Nat → Nat → Nat} (hk : k ≤ 4) (h : ∀ i j, i < k → j < k → f i j ≤ b) : s2 k f ≤ 16 * b := by
  have h1 : s2 k f ≤ k * (k * b) := sm_le (fun i hi => sm_le (fun j hj => by
    by_cases e : i = j
    · rw [if_pos e]; omega
    · rw [if_neg e]; exact h i j hi hj))
  have h2 : k * (k * b) ≤ 4 * (4 * b) := Nat.mul_le_mul hk (Nat.mul_le_mul hk (Nat.le_refl b))
  omega
/-- the ways in which the arms of a set, from arm a on, give p = q -/
def wy (K : Nat → Nat) (H : Nat → Nat → Nat) : Nat → Nat → Nat → Nat → Nat → Nat
  | 0, _, _, p, q => if p = q then 1 else 0
  | m + 1, a, s, p, q => if s.testBit a = true then s2 (K a) (fun i j => wy K H m (a + 1) s (p * H a i) (q * H a j)) else wy K H m (a + 1) s p q
theorem wy_on {K : Nat → Nat} {H : Nat → Nat → Nat} {m a s p q : Nat} (h : s.testBit a = true) : wy K H (m + 1) a s p q = s2 (K a) (fun i j => wy K H m (a + 1) s (p * H a i) (q * H a j)) := if_pos h
theorem wy_off {K : Nat → Nat} {H : Nat → Nat → Nat} {m a s p q : Nat} (h : s.testBit a = false) : wy K H (m + 1) a s p q = wy K H m (a + 1) s p q := if_neg (by rw [h]; exact Bool.false_ne_true)
theorem wy_le {K : Nat → Nat} {H : Nat → Nat → Nat} (hK : ∀ a, K a ≤ 4) : ∀ m a s p q, wy K H m a s p q ≤ 16 ^ m := by
  intro m
  induction m with
  | zero => intro a s p q; show (if p = q then 1 else 0) ≤ 16 ^ 0; split <;> omega
  | succ m ih =>
    intro a s p q
    have e : 16 ^ (m + 1) = 16 * 16 ^ m := by rw [Nat.pow_succ]; omega
    rw [e]
    cases hb : s.testBit a
    · rw [wy_off hb]; have := ih (a + 1) s p q; omega
    · rw [wy_on hb]; exact s2_le (hK a) (fun i j _ _ => ih _ _ _ _)
theorem wy_agree {K : Nat → Nat} {H : Nat → Nat → Nat} : ∀ m a s t p q, (∀ i, a ≤ i → s.testBit i = t.testBit i) → wy K H m a s p q = wy K H m a t p q := by
  intro m
  induction m with
  | zero => intros; rfl
  | succ m ih =>
    intro a s t p q h
    have h' : ∀ i, a + 1 ≤ i → s.testBit i = t.testBit i := fun i hi => h i (by omega)
    have ha := h a (Nat.le_refl a)
    cases hb : t.testBit a
    · rw [wy_off hb, wy_off (ha.trans hb)]; exact ih _ _ _ _ _ h'
    · rw [wy_on hb, wy_on (ha.trans hb)]; exact s2_cong (fun i j _ _ => ih _ _ _ _ _ h')
theorem wy_none {K : Nat → Nat} {H : Nat → Nat → Nat} : ∀ m a s p q, (∀ i, a ≤ i → s.testBit i = false) → wy K H m a s p q = if p = q then 1 else 0 := by
  intro m
  induction m with
  | zero => intros; rfl
  | succ m ih =>
    intro a s p q h
    rw [wy_off (h a (Nat.le_refl a))]
    exact ih _ _ _ _ (fun i hi => h i (by omega))
theorem wy_skip {K : Nat → Nat} {H : Nat → Nat → Nat} : ∀ j m a s p q, (∀ i, a ≤ i → i < a + j → s.testBit i = false) → wy K H (m + j) a s p q = wy K H m (a + j) s p q := by
  intro j
  induction j with
  | zero => intros; rfl
  | succ j ih =>
    intro m a s p q h
    rw [show m + (j + 1) = (m + j) + 1 by omega, wy_off (h a (Nat.le_refl a) (by omega)), ih m (a + 1) s p q (fun i h1 h2 => h i (by omega) (by omega)), show a + 1 + j = a + (j + 1) by omega]
/-- all six arms -/
abbrev wz (K : Nat → Nat) (H : Nat → Nat → Nat) (s p q : Nat) : Nat := wy K H 6 0 s p q
theorem wz_step {K : Nat → Nat} {H : Nat → Nat → Nat} {b s p q : Nat} (hb : b < 6) (h1 : s.testBit b = true) (h0 : ∀ i, i < b → s.testBit i = false) :
    wz K H s p q = s2 (K b) (fun i j => wz K H (dif s (2 ^ b)) (p * H b i) (q * H b j)) := by
  have e1 : wy K H 6 0 s p q = wy K H ((5 - b) + 1) b s p q := by
    have := wy_skip (K := K) (H := H) b (5 - b + 1) 0 s p q (fun i _ hi => h0 i (by omega))
    rw [show 5 - b + 1 + b = 6 by omega, Nat.zero_add] at this
    exact this
  rw [show wz K H s p q = wy K H 6 0 s p q from rfl, e1, wy_on h1]
  refine s2_cong (fun i j _ _ => ?_)
  have bit : ∀ i, (dif s (2 ^ b)).testBit i = (s.testBit i && !decide (b = i)) := fun i => by rw [dif_bit, Nat.testBit_two_pow]
  have e2 := wy_skip (K := K) (H := H) (b + 1) (5 - b) 0 (dif s (2 ^ b)) (p * H b i) (q * H b j) (fun i _ hi => by
    rw [bit]
    by_cases e : b = i
    · simp [e]
    · rw [h0 i (by omega)]; rfl)
  rw [show 5 - b + (b + 1) = 6 by omega, Nat.zero_add] at e2
  refine Eq.trans ?_ e2.symm
  refine wy_agree _ _ _ _ _ _ (fun i hi => ?_)
  rw [bit]
  have : ¬ b = i := by omega
  simp [this]
/-- how many arms a set has -/
def pop (s : Nat) : Nat := (s % 2) + (s / 2 % 2) + (s / 4 % 2) + (s / 8 % 2) + (s / 16 % 2) + (s / 32 % 2)
theorem pop_bc : ∀ s, s < 64 → bcnt (nI s) = nI (pop s) := by decide +kernel
theorem pop_mod : ∀ a, a < 7 → ∀ t, t < 64 → pop (t % 2 ^ a) ≤ pop t ∧ (pop t ≤ pop (t % 2 ^ a) → t % 2 ^ a = t) := by decide +kernel
theorem pop_le : ∀ s, s < 64 → pop s ≤ 6 := by decide +kernel
theorem mod_bit : ∀ a, a < 6 → ∀ t, t < 64 → (t.testBit a = false → t % 2 ^ (a + 1) = t % 2 ^ a) ∧ (t.testBit a = true → t % 2 ^ (a + 1) = t % 2 ^ a + 2 ^ a) := by decide +kernel
theorem or_bit : ∀ a, a < 6 → ∀ t, t < 2 ^ a → t ||| 2 ^ a = t + 2 ^ a ∧ pop (t + 2 ^ a) = pop t + 1 ∧ t + 2 ^ a < 2 ^ (a + 1) ∧ 2 ^ (a + 1) ≤ 64 := by decide +kernel
theorem mod_lt2 : ∀ a, a < 7 → ∀ t, t < 64 → t % 2 ^ a < 2 ^ a := by decide +kernel
/-- what a search from arm a on adds to the count of each set -/
def dc (K : Nat → Nat) (H : Nat → Nat → Nat) : Nat → Nat → Nat → Nat → Nat → Nat → Nat → Nat
  | 0, _, _, z, p, q, t => if p = q ∧ t = z then 1 else 0
  | m + 1, a, u, z, p, q, t => if u = 3 then (if p = q ∧ t = z then 1 else 0) else dc K H m (a + 1) u z p q t + s2 (K a) (fun i j => dc K H m (a + 1) (u + 1) (z + 2 ^ a) (p * H a i) (q * H a j) t)
theorem dc_wy {K : Nat → Nat} {H : Nat → Nat → Nat} {n : Nat} (hn : n ≤ 6) : ∀ m a u z p q t, m + a = n → z < 2 ^ a → pop z = u → u ≤ 3 → t < 2 ^ n → pop t ≤ 3 →
    dc K H m a u z p q t = if t % 2 ^ a = z then wy K H (6 - a) a t p q else 0 := by
  intro m
  have h64 : ∀ n, n ≤ 6 → 2 ^ n ≤ 64 := by decide +kernel
  have leaf : ∀ a z p q t : Nat, a ≤ 6 → z < 2 ^ a → t < 64 → (t % 2 ^ a = z → t % 2 ^ a = t) → (if p = q ∧ t = z then 1 else 0) = if t % 2 ^ a = z then wy K H (6 - a) a t p q else 0 := by
    intro a z p q t ha hz ht h
    by_cases e : t % 2 ^ a = z
    · have e' := h e
      have e2 : t = z := e'.symm.trans e
      rw [if_pos e, wy_none _ _ _ _ _ (fun i hi => Nat.testBit_lt_two_pow (Nat.lt_of_lt_of_le (by rw [e2]; exact hz) (Nat.pow_le_pow_right (by omega) hi)))]
      by_cases g : p = q
      · rw [if_pos ⟨g, e2⟩, if_pos g]
      · rw [if_neg (fun h => g h.1), if_neg g]
    · rw [if_neg e, if_neg]
      rintro ⟨-, rfl⟩
      exact e (Nat.mod_eq_of_lt hz)
  induction m with
  | zero =>
    intro a u z p q t hm hz hu h3 ht hp
    have : a = n := by omega
    subst this
    have := h64 a hn
    exact leaf a z p q t hn hz (by omega) (fun _ => Nat.mod_eq_of_lt ht)
  | succ m ih =>
    intro a u z p q t hm hz hu h3 ht hp
    have h6 := h64 n hn
    have ht6 : t < 64 := by omega
    rw [show dc K H (m + 1) a u z p q t = (if u = 3 then (if p = q ∧ t = z then 1 else 0) else dc K H m (a + 1) u z p q t + s2 (K a) (fun i j => dc K H m (a + 1) (u + 1) (z + 2 ^ a) (p * H a i) (q * H a j) t)) from rfl]
    by_cases hu3 : u = 3
    · rw [if_pos hu3]
      refine leaf a z p q t (by omega) hz ht6 (fun e => (pop_mod a (by omega) t ht6).2 ?_)
      rw [e]; omega
    · rw [if_neg hu3]
      obtain ⟨o1, o2, o3, o4⟩ := or_bit a (by omega) z hz
      have hml := mod_lt2 a (by omega) t ht6
      rw [ih (a + 1) u z p q t (by omega) (by omega) hu h3 ht hp, s2_cong (fun i j _ _ => ih (a + 1) (u + 1) (z + 2 ^ a) (p * H a i) (q * H a j) t (by omega) o3 (by omega) (by omega) ht hp)]
      obtain ⟨b0, b1⟩ := mod_bit a (by omega) t ht6
      have e6 : 6 - a = (6 - (a + 1)) + 1 := by omega
      cases hb : t.testBit a
      · rw [b0 hb, s2_zero (fun i j _ _ => if_neg (by omega)), e6, wy_off hb]
        rfl
      · rw [b1 hb, if_neg (by omega), e6, wy_on hb]
        by_cases e : t % 2 ^ a = z
        · rw [if_pos e, s2_cong (fun i j _ _ => if_pos (by omega))]; omega
        · rw [if_neg e, s2_zero (fun i j _ _ => if_neg (by omega))]
/-- least number of arms, number of ways, least set, out of the counts -/
def StF (B : Nat) (cnt : Nat → Nat) (f w l : Nat) : Prop :=
  f ≤ 3 ∧ w = sm (fun s => if pop s = f then cnt s else 0) B ∧ (∀ s, s < B → pop s < f → cnt s = 0) ∧ l < B ∧ pop l = f ∧ 0 < cnt l ∧ ∀ s, s < B → pop s = f → 0 < cnt s → l ≤ s
def StA (B : Nat) (cnt : Nat → Nat) (f w l : Nat) : Prop := (f = 4 ∧ w = 0 ∧ l = 0 ∧ ∀ s, s < B → pop s ≤ 3 → cnt s = 0) ∨ StF B cnt f w l
theorem StA.cong {B : Nat} {cnt cnt' : Nat → Nat} {f w l : Nat} (h : StA B cnt f w l) (e : ∀ s, s < B → pop s ≤ 3 → cnt' s = cnt s) : StA B cnt' f w l := by
  rcases h with ⟨h1, h2, h3, h4⟩ | ⟨h1, h2, h3, h4, h5, h6, h7⟩
  · exact .inl ⟨h1, h2, h3, fun s hs hp => (e s hs hp).trans (h4 s hs hp)⟩
  · refine .inr ⟨h1, ?_, fun s hs hp => (e s hs (by omega)).trans (h3 s hs hp), h4, h5, by rw [e l h4 (by omega)]; exact h6, fun s hs hp hc => h7 s hs hp (by rw [← e s hs (by omega)]; exact hc)⟩
    rw [h2]
    refine sm_cong (fun s hs => ?_)
    by_cases g : pop s = f
    · rw [if_pos g, if_pos g, e s hs (by omega)]
    · rw [if_neg g, if_neg g]
theorem StA.uniq {B : Nat} {cnt : Nat → Nat} {f w l f' w' l' : Nat} (h : StA B cnt f w l) (h' : StA B cnt f' w' l') : f = f' ∧ w = w' ∧ l = l' := by
  rcases h with ⟨h1, h2, h3, h4⟩ | ⟨h1, h2, h3, h4, h5, h6, h7⟩ <;> rcases h' with ⟨k1, k2, k3, k4⟩ | ⟨k1, k2, k3, k4, k5, k6, k7⟩
  · omega
  · have := h4 l' k4 (by omega); omega
  · have := k4 l h4 (by omega); omega
  · have e : f = f' := by
      have a1 : ¬ f < f' := fun hlt => by have := k3 l h4 (by omega); omega
      have a2 : ¬ f' < f := fun hlt => by have := h3 l' k4 (by omega); omega
      omega
    subst e
    refine ⟨rfl, h2.trans k2.symm, ?_⟩
    have := h7 l' k4 k5 k6
    have := k7 l h4 h5 h6
    omega
/-- one more way found -/
theorem StA.add {B : Nat} {cnt : Nat → Nat} {f w l u z : Nat} (h : StA B cnt f w l) (hz : z < B) (hu : pop z = u) (h3 : u ≤ 3) :
    (f < u → StA B (fun t => cnt t + if t = z then 1 else 0) f w l) ∧ (u = f → StA B (fun t => cnt t + if t = z then 1 else 0) f (w + 1) (if z < l then z else l)) ∧ (u < f → StA B (fun t => cnt t + if t = z then 1 else 0) u 1 z) := by
  have sml : ∀ g : Nat, sm (fun s => if pop s = g then cnt s + (if s = z then 1 else 0) else 0) B = sm (fun s => if pop s = g then cnt s else 0) B + (if u = g then 1 else 0) := by
    intro g
    have e1 : sm (fun s => if pop s = g then cnt s + (if s = z then 1 else 0) else 0) B = sm (fun s => (if pop s = g then cnt s else 0) + (if s = z then (if u = g then 1 else 0) else 0)) B := by
      refine sm_cong (fun s hs => ?_)
      by_cases e : s = z
      · subst e
        rw [hu]
        by_cases g' : u = g
        · simp only [if_pos g', if_true]
        · simp only [if_neg g']; simp
      · by_cases g' : pop s = g
        · rw [if_pos g', if_pos g', if_neg e, if_neg e]
        · rw [if_neg g', if_neg g', if_neg e]
    rw [e1, sm_add, sm_delta, if_pos hz]
  refine ⟨fun hlt => ?_, fun he => ?_, fun hlt => ?_⟩
  · rcases h with ⟨h1, h2, h3', h4⟩ | ⟨h1, h2, h3', h4, h5, h6, h7⟩
    · omega
    · refine .inr ⟨h1, ?_, fun s hs hp => ?_, h4, h5, Nat.lt_of_lt_of_le h6 (Nat.le_add_right _ _), fun s hs hp hc => h7 s hs hp ?_⟩
      · rw [sml, if_neg (by omega), h2]; rfl
      · show cnt s + (if s = z then 1 else 0) = 0
        rw [h3' s hs hp, if_neg (by rintro rfl; omega)]
      · have hc' : 0 < cnt s + (if s = z then 1 else 0) := hc
        rw [if_neg (by rintro rfl; omega)] at hc'
        omega
  · rcases h with ⟨h1, h2, h3', h4⟩ | ⟨h1, h2, h3', h4, h5, h6, h7⟩
    · omega
    · refine .inr ⟨h1, ?_, fun s hs hp => ?_, by split <;> omega, by split <;> omega, ?_, fun s hs hp hc => ?_⟩
      · rw [sml, if_pos he, h2]
      · show cnt s + (if s = z then 1 else 0) = 0
        rw [h3' s hs hp, if_neg (by rintro rfl; omega)]
      · show 0 < cnt (if z < l then z else l) + (if (if z < l then z else l) = z then 1 else 0)
        by_cases g : z < l
        · rw [if_pos g, if_pos rfl]; omega
        · rw [if_neg g]; omega
      · have hc' : 0 < cnt s + (if s = z then 1 else 0) := hc
        by_cases e : s = z
        · subst e; split <;> omega
        · rw [if_neg e] at hc'
          have := h7 s hs hp (by omega)
          split <;> omega
  · have z0 : ∀ s, s < B → pop s ≤ u → cnt s = 0 := by
      intro s hs hp
      rcases h with ⟨h1, h2, h3', h4⟩ | ⟨h1, h2, h3', h4, h5, h6, h7⟩
      · exact h4 s hs (by omega)
      · exact h3' s hs (by omega)
    refine .inr ⟨h3, ?_, fun s hs hp => ?_, hz, hu, ?_, fun s hs hp hc => ?_⟩
    · rw [sml, if_pos rfl, sm_zero (fun s hs => ?_)]
      by_cases g : pop s = u
      · rw [if_pos g]; exact z0 s hs (by omega)
      · rw [if_neg g]
    · show cnt s + (if s = z then 1 else 0) = 0
      rw [z0 s hs (by omega), if_neg (by rintro rfl; omega)]
    · show 0 < cnt z + (if z = z then 1 else 0)
      rw [if_pos rfl]; omega
    · have hc' : 0 < cnt s + (if s = z then 1 else 0) := hc
      rw [z0 s hs (by omega)] at hc'
      by_cases e : s = z
      · omega
      · rw [if_neg e] at hc'; omega
