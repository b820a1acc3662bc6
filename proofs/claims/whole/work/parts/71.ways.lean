/-! ===== fitted: the component ===== -/
/-- an arm's holes, as numbers -/
def AF (N : Mm) (o k : Nat) (h : Nat → Nat) : Prop := N.1 o 3 = nI k ∧ k ≤ 4 ∧ (∀ i, i < k → N.1 (o + 1) i = nI (h i) ∧ 1 ≤ h i ∧ h i ≤ 9) ∧ ∀ i j, i < k → j < k → h i = h j → i = j
theorem s_hasHoleOf {G : MG} {d : Nat} {Q : Int32 → Mm → Prop} {M : Mm} {c o k v : Nat} {h : Nat → Nat} (hd : 1 ≤ d) (hL : Lay c M) (ho : sh o = some (.inr 1)) (hA : AF M o k h) (hv : v < 2 ^ 63)
    (h1 : ∀ i, i < k → h i = v → Q 1 M) (h0 : (∀ i, i < k → h i ≠ v) → Q 0 M) : C G Y_X1_hasHoleOf d [.ref (G.b + o), .long (lN v)] M (Ri Q) := by
  refine up1 (P := fun d => C G Y_X1_hasHoleOf d _ M (Ri Q)) (fun e => b_X1_hasHoleOf (d := e) hL ho ?_) hd
  obtain ⟨a1, a2, a3, a4⟩ := hA
  have key : ∀ m i, i + m = k → (∀ j, j < i → h j ≠ v) → L_X1_hasHoleOf_2 G e Q o (lN v) (nI i) M := by
    intro m
    induction m with
    | zero =>
      intro i hi hn
      refine b_X1_hasHoleOf_2 hL ho ⟨fun _ => h0 (fun j hj => hn j (by omega)), fun g => absurd ?_ g⟩
      rw [a1, nI_leI (by omega) (by omega)]; omega
    | succ m ih =>
      intro i hi hn
      obtain ⟨b1, b2, b3⟩ := a3 i (by omega)
      refine b_X1_hasHoleOf_2 hL ho ⟨fun g => absurd g ?_, fun _ => ⟨(inN (by omega) (by omega)).1, ?_⟩⟩
      · rw [a1, nI_leI (by omega) (by omega)]; omega
      · rw [nI_clamp (by omega), b1, nI_l (by omega), pk_lEQ (by omega) hv, nI_1]
        refine ⟨fun g => ih (i + 1) (by omega) (fun j hj => ?_), fun g => h1 i (by omega) g⟩
        by_cases e1 : j = i
        · subst e1; exact g
        · exact hn j (by omega)
  exact key k 0 (by omega) (fun j hj => by omega)
/-- the ways of one arm, hole by hole -/
def colW (k : Nat) (h : Nat → Nat) (p q j : Nat) : Nat := sm (fun i => if i = j then 0 else if p * h i = q * h j then 1 else 0) k
theorem colW_0 {k : Nat} {h : Nat → Nat} {p q j : Nat} (H : ∀ i, i < k → i ≠ j → p * h i ≠ q * h j) : colW k h p q j = 0 := by
  refine sm_zero (fun i hi => ?_)
  by_cases e : i = j
  · rw [if_pos e]
  · rw [if_neg e, if_neg (H i hi e)]
theorem colW_1 {k : Nat} {h : Nat → Nat} {p q j i0 : Nat} (hp : 0 < p) (hi0 : i0 < k) (hne : i0 ≠ j) (he : p * h i0 = q * h j) (hd : ∀ i j, i < k → j < k → h i = h j → i = j) : colW k h p q j = 1 := by
  have : colW k h p q j = sm (fun i => if i = i0 then 1 else 0) k := by
    refine sm_cong (fun i hi => ?_)
    by_cases e : i = i0
    · subst e; rw [if_neg hne, if_pos he, if_pos rfl]
    · rw [if_neg e]
      by_cases e2 : i = j
      · rw [if_pos e2]
      · rw [if_neg e2, if_neg]
        intro h2
        exact e (hd i i0 hi hi0 (Nat.eq_of_mul_eq_mul_left hp (h2.trans he.symm)))
  rw [this, sm_delta, if_pos hi0]
theorem s_waysOfLast {G : MG} {d : Nat} {Q : Int32 → Mm → Prop} {M : Mm} {c o k p q : Nat} {h : Nat → Nat} (hd : 2 ≤ d) (hL : Lay c M) (ho : sh o = some (.inr 1)) (hA : AF M o k h) (hp : 0 < p) (hp2 : p < 2 ^ 31) (hq : q < 2 ^ 31)
    (hQ : Q (nI (s2 k (fun i j => if p * h i = q * h j then 1 else 0))) M) : C G Y_X4_waysOfLast d [.ref (G.b + o), .long (lN q), .long (lN p)] M (Ri Q) := by
  refine up1 (P := fun d => C G Y_X4_waysOfLast d _ M (Ri Q)) (fun e => b_X4_waysOfLast (d := e + 1) hL ho ?_) hd
  obtain ⟨a1, a2, a3, a4⟩ := id hA
  have e2 : s2 k (fun i j => if p * h i = q * h j then 1 else 0) = sm (colW k h p q) k := sm_comm (fun i j => if i = j then 0 else if p * h i = q * h j then 1 else 0) k k
  rw [e2] at hQ
  have key : ∀ m j, j + m = k → L_X4_waysOfLast_6 G (e + 1) Q o (lN q) (lN p) (nI (sm (colW k h p q) j)) (nI j) M := by
    intro m
    induction m with
    | zero =>
      intro j hj
      have : j = k := by omega
      subst this
      refine b_X4_waysOfLast_6 hL ho ⟨fun _ => hQ, fun g => absurd ?_ g⟩
      rw [a1, nI_leI (by omega) (by omega)]; omega
    | succ m ih =>
      intro j hj
      obtain ⟨b1, b2, b3⟩ := a3 j (by omega)
      have ihs : ∀ v, colW k h p q j = v → L_X4_waysOfLast_6 G (e + 1) Q o (lN q) (lN p) (nI (sm (colW k h p q) j + v)) (nI (j + 1)) M := fun v hv => by
        rw [← hv]; exact ih (j + 1) (by omega)
      have hqh : q * h j < 2 ^ 63 := by
        have : q * h j ≤ q * 9 := Nat.mul_le_mul (Nat.le_refl q) b3
        omega
      have hpn : ¬ lN p = 0 := by rw [show (0 : Int64) = lN 0 from rfl, pk_lEQ (by omega) (by omega)]; omega
      refine b_X4_waysOfLast_6 hL ho ⟨fun g => absurd g ?_, fun _ => ⟨(inN (by omega) (by omega)).1, fun g => absurd g ?_, fun _ => ⟨hpn, ?_⟩⟩⟩
      · rw [a1, nI_leI (by omega) (by omega)]; omega
      · rw [show (0 : Int64) = lN 0 from rfl, pk_lLE (by omega) (by omega)]; omega
      · rw [nI_clamp (by omega), b1, nI_l (by omega), lN_mul, pk_lRem hqh hp (by omega), pk_lDiv hqh hp (by omega), show (0 : Int64) = lN 0 from rfl, pk_lEQ (by have := Nat.mod_lt (q * h j) hp; omega) (by omega), pk_lEQ (Nat.lt_of_le_of_lt (Nat.div_le_self _ _) hqh) (by omega), nI_1]
        have div : q * h j % p = 0 → p * (q * h j / p) = q * h j := fun h0 => Nat.mul_div_cancel' (Nat.dvd_of_mod_eq_zero h0)
        refine ⟨fun g => ihs 0 (colW_0 (fun i _ _ hh => g (by rw [← hh]; exact Nat.mul_mod_right _ _))), fun g => ⟨hpn, fun g2 => ihs 0 (colW_0 (fun i hi hne hh => ?_)), fun g2 => ?_⟩⟩
        · have := div g
          rw [g2] at this
          exact hne (a4 i j hi (by omega) (Nat.eq_of_mul_eq_mul_left hp (hh.trans this.symm)))
        · refine s_hasHoleOf (by omega) hL ho hA (Nat.lt_of_le_of_lt (Nat.div_le_self _ _) hqh) (fun i hi hv => ⟨rfl, fun h => (by cases h), fun _ => ?_⟩) (fun hno => ⟨rfl, fun _ => ihs 0 (colW_0 (fun i hi hne hh => ?_)), fun h => absurd rfl h⟩)
          · rw [nI_1]
            refine ihs 1 (colW_1 hp hi (fun hij => g2 (by rw [← hv, hij])) (by rw [hv]; exact div g) a4)
          · exact hno i hi (Nat.eq_of_mul_eq_mul_left hp (hh.trans (div g).symm))
  exact key k 0 (by omega)
theorem low_f : ∀ s, s < 64 → ∀ b, b < 6 → nI s &&& ((1 <<< (nI b &&& 31)) ^^^ (-1)) = nI (dif s (2 ^ b)) ∧ (s.testBit b = true → pop (dif s (2 ^ b)) + 1 = pop s) := by decide +kernel
theorem pop_0 : ∀ s, s < 64 → (pop s = 0 ↔ s = 0) := by decide +kernel
theorem low_5 : ∀ s, s < 64 → s ≠ 0 → (∀ i, i < 5 → s.testBit i = false) → s.testBit 5 = true := by decide +kernel
theorem sh_ar {c a : Nat} (hc : c = 3 ∨ c = 39) (ha : a < 6) : sh (c + 3 + 2 * a) = some (.inr 1) := by
  have h : ∀ a, a < 6 → sh (3 + 3 + 2 * a) = some (.inr 1) ∧ sh (39 + 3 + 2 * a) = some (.inr 1) := by decide +kernel
  rcases hc with rfl | rfl
  · exact (h a ha).1
  · exact (h a ha).2
theorem sh_of {c : Nat} (hc : c = 3 ∨ c = 39) : sh c = some (.inr 5) := by rcases hc with rfl | rfl <;> decide
theorem s_waysOf {G : MG} {M : Mm} {c n : Nat} {K : Nat → Nat} {H : Nat → Nat → Nat} (hL : Lay c M) (hc : c = 3 ∨ c = 39) (hn6 : n ≤ 6) (hA : ∀ a, a < n → AF M (c + 3 + 2 * a) (K a) (H a)) :
    ∀ k s p q d (Q : Int32 → Mm → Prop), s < 2 ^ n → pop s = k → k + 2 ≤ d → 0 < p → p * 9 ^ k < 2 ^ 31 → q * 9 ^ k < 2 ^ 31 → Q (nI (wz K H s p q)) M → C G Y_X4_waysOf d [.ref (G.b + c), .int (nI s), .long (lN q), .long (lN p)] M (Ri Q) := by
  intro k
  have h64 := (two_le n hn6).2
  induction k with
  | zero =>
    intro s p q d Q hs hk hd hp hp9 hq9 hQ
    have s0 : s = 0 := (pop_0 s (by omega)).mp hk
    subst s0
    rw [wz, wy_none _ _ _ _ _ (fun i _ => Nat.zero_testBit i)] at hQ
    refine up1 (P := fun d => C G Y_X4_waysOf d _ M (Ri Q)) (fun e => b_X4_waysOf (d := e + 1) hL (sh_of hc) ⟨fun g => absurd rfl g, fun _ => ?_⟩) hd
    rw [pk_lEQ (by omega) (by omega)]
    refine ⟨fun g => ?_, fun g => ?_⟩
    · rw [if_neg (fun h => g h.symm)] at hQ; exact hQ
    · rw [if_pos g.symm] at hQ; exact hQ
  | succ k ih =>
    intro s p q d Q hs hk hd hp hp9 hq9 hQ
    have s0 : s ≠ 0 := fun h => by rw [(pop_0 s (by omega)).mpr h] at hk; omega
    have h9 : 9 ^ (k + 1) = 9 * 9 ^ k := by rw [Nat.pow_succ]; omega
    have h9k : 0 < 9 ^ k := Nat.pow_pos (by omega)
    have pp : ∀ x, x * 9 ^ (k + 1) < 2 ^ 31 → x < 2 ^ 31 ∧ ∀ y, y ≤ 9 → x * y * 9 ^ k < 2 ^ 31 := fun x hx => by
      refine ⟨Nat.lt_of_le_of_lt (Nat.le_mul_of_pos_right _ (Nat.pow_pos (by omega))) hx, fun y hy => Nat.lt_of_le_of_lt ?_ hx⟩
      rw [h9, ← Nat.mul_assoc]
      exact Nat.mul_le_mul_right _ (Nat.mul_le_mul_left _ hy)
    refine up1 (P := fun d => C G Y_X4_waysOf d _ M (Ri Q)) (fun e => b_X4_waysOf (d := e + (k + 2)) hL (sh_of hc) ⟨fun _ => ?_, fun g => absurd g (nI_ne0 (by omega) (by omega))⟩) hd
    have go : ∀ b, b < 6 → s.testBit b = true → (∀ i, i < b → s.testBit i = false) → L_X4_waysOf_41 G (e + (k + 2)) Q c (nI s) (lN q) (lN p) (nI b) M := by
      intro b hb hb1 hb0
      have hbn : b < n := Classical.byContradiction fun hn => by
        have : s.testBit b = false := Nat.testBit_lt_two_pow (Nat.lt_of_lt_of_le hs (Nat.pow_le_pow_right (by omega) (by omega)))
        rw [this] at hb1; cases hb1
      obtain ⟨l1, l2⟩ := low_f s (by omega) b hb
      have l2 := l2 hb1
      have hdl := dif_le s (2 ^ b)
      rw [wz_step hb hb1 hb0] at hQ
      have hAb := hA b hbn
      refine b_X4_waysOf_41 hL (sh_of hc) ⟨(inN hb (by omega)).1, ?_⟩
      rw [l1, nI_clamp (by omega), show c + 1 + 2 + 2 * b = c + 3 + 2 * b by omega]
      refine ⟨fun g => ?_, fun g => ?_⟩
      · obtain ⟨a1, a2, a3, a4⟩ := id hAb
        have key : ∀ m i, i + m = K b → L_X4_waysOf_80 G (e + (k + 2)) Q c (lN q) (lN p) (c + 3 + 2 * b) (nI (dif s (2 ^ b))) (nI (sm (fun i => sm (fun j => if i = j then 0 else wz K H (dif s (2 ^ b)) (p * H b i) (q * H b j)) (K b)) i)) (nI i) M := by
          intro m
          induction m with
          | zero =>
            intro i hi
            have : i = K b := by omega
            subst this
            refine b_X4_waysOf_80 hL (sh_of hc) (sh_ar hc hb) ⟨fun _ => hQ, fun g => absurd ?_ g⟩
            rw [a1, nI_leI (by omega) (by omega)]; omega
          | succ m ihm =>
            intro i hi
            have inner : ∀ m' j, j + m' = K b → L_X4_waysOf_93 G (e + (k + 2)) Q c (lN q) (lN p) (c + 3 + 2 * b) (nI (dif s (2 ^ b))) (nI (sm (fun i => sm (fun j => if i = j then 0 else wz K H (dif s (2 ^ b)) (p * H b i) (q * H b j)) (K b)) i + sm (fun j => if i = j then 0 else wz K H (dif s (2 ^ b)) (p * H b i) (q * H b j)) j)) (nI i) (nI j) M := by
              intro m'
              induction m' with
              | zero =>
                intro j hj
                have : j = K b := by omega
                subst this
                refine b_X4_waysOf_93 hL (sh_of hc) (sh_ar hc hb) ⟨fun _ => ?_, fun g => absurd ?_ g⟩
                · rw [nI_1]; exact ihm (i + 1) (by omega)
                · rw [a1, nI_leI (by omega) (by omega)]; omega
              | succ m' ihj =>
                intro j hj
                have nx := ihj (j + 1) (by omega)
                rw [show sm (fun j => if i = j then 0 else wz K H (dif s (2 ^ b)) (p * H b i) (q * H b j)) (j + 1) = sm (fun j => if i = j then 0 else wz K H (dif s (2 ^ b)) (p * H b i) (q * H b j)) j + (if i = j then 0 else wz K H (dif s (2 ^ b)) (p * H b i) (q * H b j)) from rfl] at nx
                refine b_X4_waysOf_93 hL (sh_of hc) (sh_ar hc hb) ⟨fun g => absurd g ?_, fun _ => ⟨fun g => ?_, fun g => ⟨(inN (by omega) (by omega)).1, (inN (by omega) (by omega)).1, ?_⟩⟩⟩
                · rw [a1, nI_leI (by omega) (by omega)]; omega
                · rw [nI_eq (by omega) (by omega)] at g
                  rw [if_pos g] at nx
                  rw [nI_1]; exact nx
                · rw [nI_eq (by omega) (by omega)] at g
                  rw [if_neg g] at nx
                  obtain ⟨b1, b2, b3⟩ := a3 i (by omega)
                  obtain ⟨c1, c2, c3⟩ := a3 j (by omega)
                  rw [nI_clamp (by omega), nI_clamp (by omega), b1, c1, nI_l (by omega), nI_l (by omega), lN_mul, lN_mul]
                  refine ih (dif s (2 ^ b)) (p * H b i) (q * H b j) _ _ (by omega) (by omega) (by omega) (Nat.mul_pos hp b2) ((pp p hp9).2 _ b3) ((pp q hq9).2 _ c3) ⟨rfl, ?_⟩
                  rw [nI_add, nI_1, Nat.add_assoc (sm _ i)]; exact nx
            refine b_X4_waysOf_80 hL (sh_of hc) (sh_ar hc hb) ⟨fun g => absurd g ?_, fun _ => inner (K b) 0 (by omega)⟩
            rw [a1, nI_leI (by omega) (by omega)]; omega
        exact key (K b) 0 (by omega)
      · rw [show (0 : Int32) = nI 0 from rfl, nI_eq (by omega) (by omega)] at g
        rw [g, s2_cong (fun i j _ _ => wy_none _ _ _ _ _ (fun i _ => Nat.zero_testBit i))] at hQ
        exact s_waysOfLast (by omega) hL (sh_ar hc hb) hAb hp (pp p hp9).1 (pp q hq9).1 ⟨rfl, hQ⟩
    have key : ∀ m b, b + m = 5 → (∀ i, i < b → s.testBit i = false) → L_X4_waysOf_20 G (e + (k + 2)) Q c (nI s) (lN q) (lN p) (nI b) M := by
      intro m
      induction m with
      | zero =>
        intro b hb h0
        have : b = 5 := by omega
        subst this
        exact b_X4_waysOf_20 hL (sh_of hc) ⟨fun _ => go 5 (by omega) (low_5 s (by omega) s0 h0) h0, fun g => absurd (by decide) g⟩
      | succ m ihm =>
        intro b hb h0
        refine b_X4_waysOf_20 hL (sh_of hc) ⟨fun g => absurd g ?_, fun _ => ?_⟩
        · rw [show (5 : Int32) = nI 5 from rfl, nI_leI (by omega) (by omega)]; omega
        · rw [bit_nI s (by omega) b (by omega), nI_1]
          refine ⟨fun g => go b (by omega) (by simpa using g) h0, fun g => ihm (b + 1) (by omega) (fun i hi => ?_)⟩
          by_cases e1 : i = b
          · subst e1; exact g
          · exact h0 i (by omega)
    exact key 5 0 (by omega) (fun i hi => by omega)
theorem AF.ess {M N : Mm} {o k : Nat} {h : Nat → Nat} (a : AF M o k h) (e : Ess M N) (h1 : 2 ≤ o) (h2 : o + 1 ≤ 125) : AF N o k h := by
  unfold AF
  rw [e.2.1 o (by omega) (by omega), e.2.1 (o + 1) (by omega) (by omega)]
  exact a
theorem s_find {G : MG} {d : Nat} {Q : Int32 → Mm → Prop} {M : Mm} {c n p q : Nat} {K : Nat → Nat} {H : Nat → Nat → Nat} (hd : 6 ≤ d) (hL : Lay c M) (hc : c = 3 ∨ c = 39) (hn6 : n ≤ 6) (hn : M.1 c 2 = nI n) (hA : ∀ a, a < n → AF M (c + 3 + 2 * a) (K a) (H a))
    (hK : ∀ a, K a ≤ 4) (hp : 0 < p) (hp9 : p ≤ 999) (hq9 : q ≤ 999)
    (h1 : ∀ f w l N, StF (2 ^ n) (fun s => wz K H s p q) f w l → Ess M N → N.1 133 0 = nI f → N.1 133 1 = nI w → N.1 133 2 = nI l → Q 1 N)
    (h0 : ∀ N, Ess M N → (∀ s, s < 2 ^ n → pop s ≤ 3 → wz K H s p q = 0) → Q 0 N) : C G Y_X4_find d [.ref (G.b + 133), .ref (G.b + c), .int (nI q), .int (nI p)] M (Ri Q) := by
  refine up1 (P := fun d => C G Y_X4_find d _ M (Ri Q)) (fun e => b_X4_find (d := e + 5) hL (sh_of hc) ?_) hd
  obtain ⟨t1, t2⟩ := two_le n hn6
  have hwz : ∀ s, wz K H s p q ≤ 16777216 := fun s => by have := wy_le (H := H) hK 6 0 s p q; rwa [show (16 : Nat) ^ 6 = 16777216 by decide] at this
  have key : ∀ m w (N : Mm), w + m = 4 → Ess M N → (∀ s, s < 2 ^ n → pop s < w → wz K H s p q = 0) → L_X4_find_3 G (e + 5) Q c (nI q) (nI p) (nI w) N := by
    intro m
    induction m with
    | zero =>
      intro w N hw hE hz
      have : w = 4 := by omega
      subst this
      exact b_X4_find_3 (lay_of hL hE.1) (sh_of hc) ⟨fun _ => h0 N hE (fun s hs hp' => hz s hs (by omega)), fun g => absurd (by decide) g⟩
    | succ m ih =>
      intro w N hw hE hz
      have inner : ∀ m' t (N : Mm) l, t + m' = 2 ^ n → Ess M N → N.1 133 0 = nI w → N.1 133 1 = nI (sm (fun s => if pop s = w then wz K H s p q else 0) t) → N.1 133 2 = nI l →
          (sm (fun s => if pop s = w then wz K H s p q else 0) t = 0 ∨ (l < t ∧ pop l = w ∧ 0 < wz K H l p q ∧ ∀ s, s < t → pop s = w → 0 < wz K H s p q → l ≤ s)) → L_X4_find_28 G (e + 5) Q c (nI q) (nI p) (nI w) (nI t) N := by
        intro m'
        have smb : ∀ t, t ≤ 64 → sm (fun s => if pop s = w then wz K H s p q else 0) t < 2 ^ 31 := fun t ht => by
          have := sm_le (f := fun s => if pop s = w then wz K H s p q else 0) (b := 16777216) (n := t) (fun i _ => by
            show (if pop i = w then wz K H i p q else 0) ≤ _
            split
            · exact hwz i
            · omega)
          omega
        induction m' with
        | zero =>
          intro t N l ht hE c0 c1 c2 hl
          have : t = 2 ^ n := by omega
          subst this
          refine b_X4_find_28 (lay_of hL hE.1) (sh_of hc) ⟨fun _ => ?_, fun g => absurd ?_ g⟩
          · rw [c1, show (0 : Int32) = nI 0 from rfl, nI_leI (smb _ t2) (by omega), nI_1]
            refine ⟨fun g => ih (w + 1) N (by omega) hE (fun s hs hp' => ?_), fun g => h1 w _ l N ⟨by omega, rfl, hz, ?_⟩ hE c0 c1 c2⟩
            · by_cases e1 : pop s = w
              · have := sm_ge (f := fun s => if pop s = w then wz K H s p q else 0) hs
                have h2 : (if pop s = w then wz K H s p q else 0) ≤ 0 := Nat.le_trans this g
                rw [if_pos e1] at h2; omega
              · exact hz s hs (by omega)
            · rcases hl with hl | hl
              · omega
              · exact hl
          · rw [hE.2.1 c (by omega) (by omega), hn, (sh1 n (by omega)).1, nI_leI (by omega) (by omega)]; omega
        | succ m' ih' =>
          intro t N l ht hE c0 c1 c2 hl
          have hLN := lay_of hL hE.1
          have nxt : ∀ (N' : Mm) l', Ess M N' → N'.1 133 0 = nI w → N'.1 133 1 = nI (sm (fun s => if pop s = w then wz K H s p q else 0) t + (if pop t = w then wz K H t p q else 0)) → N'.1 133 2 = nI l' →
              (sm (fun s => if pop s = w then wz K H s p q else 0) t + (if pop t = w then wz K H t p q else 0) = 0 ∨ (l' < t + 1 ∧ pop l' = w ∧ 0 < wz K H l' p q ∧ ∀ s, s < t + 1 → pop s = w → 0 < wz K H s p q → l' ≤ s)) → L_X4_find_28 G (e + 5) Q c (nI q) (nI p) (nI w) (nI (t + 1)) N' :=
            fun N' l' a1 a2 a3 a4 a5 => ih' (t + 1) N' l' (by omega) a1 a2 a3 a4 a5
          refine b_X4_find_28 hLN (sh_of hc) ⟨fun g => absurd g ?_, fun _ => ?_⟩
          · rw [hE.2.1 c (by omega) (by omega), hn, (sh1 n (by omega)).1, nI_leI (by omega) (by omega)]; omega
          · refine s_bitCount (by omega) hLN ⟨rfl, ?_⟩
            have hpl := pop_le t (by omega)
            rw [pop_bc t (by omega), nI_eq (by omega) (by omega), nI_1]
            refine ⟨fun g => nxt N l hE c0 (by rw [if_neg g]; exact c1) c2 ?_, fun g => ?_⟩
            · rw [if_neg g]
              rcases hl with hl | ⟨l1, l2, l3, l4⟩
              · exact .inl hl
              · refine .inr ⟨by omega, l2, l3, fun s hs hp' hc' => ?_⟩
                by_cases e1 : s = t
                · subst e1; exact absurd hp' g
                · exact l4 s (by omega) hp' hc'
            · rw [nI_l (by omega), nI_l (by omega)]
              have h9 : 9 ^ w ≤ 9 ^ 3 := Nat.pow_le_pow_right (by omega) (by omega)
              rw [show (9 : Nat) ^ 3 = 729 by decide] at h9
              have b1 : p * 9 ^ w ≤ 999 * 729 := Nat.mul_le_mul hp9 h9
              have b2 : q * 9 ^ w ≤ 999 * 729 := Nat.mul_le_mul hq9 h9
              refine s_waysOf hLN hc hn6 (fun a ha => (hA a ha).ess hE (by omega) (by omega)) w t p q _ _ (by omega) g (by omega) hp (by omega) (by omega) ⟨rfl, ?_⟩
              have nx := nxt
              rw [if_pos g] at nx
              have hw0 := hwz t
              refine up1 (P := fun d => C G Y_X4_add d _ N (Rv _)) (fun e => b_X4_add (d := e) hLN ?_) (show 1 ≤ e + 5 by omega)
              rw [c1, nI_add, show (0 : Int32) = nI 0 from rfl, nI_eq (smb t (by omega)) (by omega), nI_leI (by omega) (by omega)]
              have mk : ∀ (N' : Mm) v, N' = sI N 133 1 v → Ess M N' ∧ N'.1 133 0 = nI w ∧ N'.1 133 1 = v ∧ N'.1 133 2 = nI l := fun N' v hN' => by
                subst hN'
                exact ⟨hE.tr (ess_sI (by omega)), by rw [rd_sI, if_neg (by omega)]; exact c0, by rw [rd_sI, if_pos ⟨rfl, rfl⟩], by rw [rd_sI, if_neg (by omega)]; exact c2⟩
              refine ⟨fun g2 M2 e2 => ?_, fun g2 => ⟨fun g3 M4 e4 => ?_, fun g3 M5 e5 M6 e6 => ?_⟩⟩
              · obtain ⟨m1, m2, m3, m4⟩ := mk M2 _ e2
                refine ⟨m1.1.trans hE.1.symm, nx M2 l m1 m2 m3 m4 (.inr ?_)⟩
                rcases hl with hl | ⟨l1, l2, l3, l4⟩
                · exact absurd hl g2
                · refine ⟨by omega, l2, l3, fun s hs hp' hc' => ?_⟩
                  by_cases e1 : s = t
                  · omega
                  · exact l4 s (by omega) hp' hc'
              · obtain ⟨m1, m2, m3, m4⟩ := mk M4 _ e4
                exact ⟨m1.1.trans hE.1.symm, nx M4 l m1 m2 m3 m4 (.inl (by omega))⟩
              · subst e5
                have r1 : (sI N 133 2 (nI t)).1 133 1 = nI (sm (fun s => if pop s = w then wz K H s p q else 0) t) := by rw [rd_sI, if_neg (by omega)]; exact c1
                rw [r1, nI_add] at e6
                subst e6
                have m1 : Ess M (sI (sI N 133 2 (nI t)) 133 1 (nI (sm (fun s => if pop s = w then wz K H s p q else 0) t + wz K H t p q))) := (hE.tr (ess_sI (by omega))).tr (ess_sI (by omega))
                refine ⟨m1.1.trans hE.1.symm, nx _ t m1 (by rw [rd_sI, if_neg (by omega), rd_sI, if_neg (by omega)]; exact c0) (by rw [rd_sI, if_pos ⟨rfl, rfl⟩]) (by rw [rd_sI, if_neg (by omega), rd_sI, if_pos ⟨rfl, rfl⟩]) (.inr ⟨by omega, g, by omega, fun s hs hp' hc' => ?_⟩)⟩
                by_cases e1 : s = t
                · omega
                · have := sm_ge (f := fun s => if pop s = w then wz K H s p q else 0) (show s < t by omega)
                  have h2 : (if pop s = w then wz K H s p q else 0) ≤ 0 := Nat.le_trans this (Nat.le_of_eq g2)
                  rw [if_pos hp'] at h2; omega
      refine b_X4_find_3 (lay_of hL hE.1) (sh_of hc) ⟨fun g => absurd g ?_, fun _ M2 e2 M3 e3 M4 e4 => ?_⟩
      · rw [show (3 : Int32) = nI 3 from rfl, nI_ltI (by omega) (by omega)]; omega
      · subst e2 e3 e4
        refine inner (2 ^ n) 0 _ 0 (by omega) (((hE.tr (ess_sI (by omega))).tr (ess_sI (by omega))).tr (ess_sI (by omega))) ?_ ?_ ?_ (.inl rfl)
        · rw [rd_sI, if_neg (by omega), rd_sI, if_neg (by omega), rd_sI, if_pos ⟨rfl, rfl⟩]
        · rw [rd_sI, if_neg (by omega), rd_sI, if_pos ⟨rfl, rfl⟩]; rfl
        · rw [rd_sI, if_pos ⟨rfl, rfl⟩]; rfl
  exact key 4 0 M (by omega) (Ess.rf M) (fun s _ h => by omega)
