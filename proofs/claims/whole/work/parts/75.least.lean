/-! ===== descent: the component ===== -/
def Dgt (G : MG) : Prop := (∀ U, G.X U → va_Z "CopyArms$Ancestry" "DIGIT" "[I" (.ref (G.ad 23)) (gA G) U U.heap) ∧ (∀ U, G.X U → va_T .int (G.ad 23) 7 (fun q => .int (digitT q)) (gA G) U U.heap)
theorem digitT_W : ∀ k, k < 7 → digitT k = nI (W7 k) ∧ W7 k ≤ 117649 ∧ 1 ≤ W7 k := by decide +kernel
def pop8 (s : Nat) : Nat := (s % 2) + (s / 2 % 2) + (s / 4 % 2) + (s / 8 % 2) + (s / 16 % 2) + (s / 32 % 2) + (s / 64 % 2) + (s / 128 % 2)
theorem pop8_le (s : Nat) : pop8 s ≤ 8 := by unfold pop8; omega
theorem pop8_bc : ∀ s, s < 256 → bcnt (nI s) = nI (pop8 s) := by decide +kernel
theorem nI_xor (a b : Nat) : nI a ^^^ nI b = nI (a ^^^ b) := by
  unfold nI
  apply Int32.toBitVec_inj.mp
  show BitVec.ofNat 32 a ^^^ BitVec.ofNat 32 b = BitVec.ofNat 32 (a ^^^ b)
  rw [BitVec.ofNat_xor]
theorem xor_lt {a b : Nat} (ha : a < 256) (hb : b < 256) : a ^^^ b < 256 := Nat.xor_lt_two_pow (n := 8) ha hb
def unS (s : Nat → Nat) (a b : Nat) : Nat := pop8 (s a ^^^ s b)
def canS (na : Nat) (P Qh u v : Nat → Nat) (a b : Nat) : Prop := ∃ i, i < na ∧ u a * P i * v b = u b * Qh i * v a
/-- what the prices rest on -/
def AncC (M : Mm) (c na n : Nat) (P Qh u v s : Nat → Nat) : Prop :=
  M.1 c 2 = nI na ∧ na ≤ 6 ∧ M.1 c 3 = nI n ∧ n ≤ 7 ∧ (∀ i, i < na → M.1 (75 + 1) i = nI (P i) ∧ P i ≤ 9 ∧ M.1 (75 + 2) i = nI (Qh i) ∧ Qh i ≤ 9) ∧
  ∀ m, m < n → M.1 (c + 15 + 3 * m) 1 = nI (u m) ∧ u m ≤ 9 ∧ M.1 (c + 15 + 3 * m) 2 = nI (v m) ∧ v m ≤ 9 ∧ M.1 (c + 15 + 3 * m) 3 = nI (s m) ∧ s m < 256
theorem AncC.ess {M N : Mm} {c na n : Nat} {P Qh u v s : Nat → Nat} (h : AncC M c na n P Qh u v s) (hc : c = 3 ∨ c = 39) (e : Ess M N) : AncC N c na n P Qh u v s := by
  obtain ⟨h1, h2, h3, h4, h5, h6⟩ := h
  unfold AncC
  rw [e.2.1 c (by omega) (by omega), e.2.1 (75 + 1) (by omega) (by omega), e.2.1 (75 + 2) (by omega) (by omega)]
  refine ⟨h1, h2, h3, h4, h5, fun m hm => ?_⟩
  rw [e.2.1 (c + 15 + 3 * m) (by omega) (by omega)]
  exact h6 m hm
theorem mul9 {a b c : Nat} (ha : a ≤ 9) (hb : b ≤ 9) (hc : c ≤ 9) : a * b * c ≤ 729 := by
  have h1 : a * b ≤ 9 * 9 := Nat.mul_le_mul ha hb
  have h2 : a * b * c ≤ 9 * 9 * 9 := Nat.mul_le_mul h1 hc
  omega
theorem s_priceOf {G : MG} {d : Nat} {Q : Int32 → Mm → Prop} {M : Mm} {c na n a b : Nat} {P Qh u v s : Nat → Nat} (hd : 2 ≤ d) (hD : Dgt G) (hL : Lay c M) (hc : c = 3 ∨ c = 39) (hA : AncC M c na n P Qh u v s) (ha : a < n) (hb : b < n)
    (h1 : a ≠ b ∧ canS na P Qh u v a b → Q (nI (pr (unS s) a b)) M) (h0 : ¬ (a ≠ b ∧ canS na P Qh u v a b) → Q (nI 2147483647) M) : C G Y_X0_priceOf d [.ref (G.b + c), .ref (G.b + 75), .int (nI a), .int (nI b)] M (Ri Q) := by
  obtain ⟨a1, a2, a3, a4, a5, a6⟩ := hA
  refine up1 (P := fun d => C G Y_X0_priceOf d _ M (Ri Q)) (fun e => b_X0_priceOf (d := e + 1) hL hD.1 hD.2 (sh_of hc) (by decide) ⟨(inN (by omega) (by omega)).1, (inN (by omega) (by omega)).1, ?_⟩) hd
  rw [nI_clamp (by omega), nI_clamp (by omega), show c + 2 + 13 + 3 * a = c + 15 + 3 * a by omega, show c + 2 + 13 + 3 * b = c + 15 + 3 * b by omega]
  obtain ⟨u1, u2, v1, v2, s1, s2⟩ := a6 a ha
  obtain ⟨u3, u4, v3, v4, s3, s4⟩ := a6 b hb
  have key : ∀ m i, i + m = na → (∀ j, j < i → ¬ (a ≠ b ∧ u a * P j * v b = u b * Qh j * v a)) → L_X0_priceOf_19 G (e + 1) Q c 75 (nI a) (nI b) (c + 15 + 3 * a) (c + 15 + 3 * b) (nI i) M := by
    intro m
    induction m with
    | zero =>
      intro i hi hn
      refine b_X0_priceOf_19 hL hD.1 hD.2 (sh_of hc) (by decide) (sh_cht hc (by omega)) (sh_cht hc (by omega)) ⟨fun _ => h0 (fun ⟨g1, j, g2, g3⟩ => hn j (by omega) ⟨g1, g3⟩), fun g => absurd ?_ g⟩
      rw [a1, nI_leI (by omega) (by omega)]; omega
    | succ m ih =>
      intro i hi hn
      obtain ⟨p1, p2, q1, q2⟩ := a5 i (by omega)
      have nx : ¬ (a ≠ b ∧ u a * P i * v b = u b * Qh i * v a) → L_X0_priceOf_19 G (e + 1) Q c 75 (nI a) (nI b) (c + 15 + 3 * a) (c + 15 + 3 * b) (nI (i + 1)) M := fun h => ih (i + 1) (by omega) (fun j hj => by
        by_cases e1 : j = i
        · subst e1; exact h
        · exact hn j (by omega))
      have b1 := mul9 u2 p2 v4
      have b2 := mul9 u4 q2 v2
      refine b_X0_priceOf_19 hL hD.1 hD.2 (sh_of hc) (by decide) (sh_cht hc (by omega)) (sh_cht hc (by omega)) ⟨fun g => absurd g ?_, fun _ => ⟨(inN (by omega) (by omega)).1, (inN (by omega) (by omega)).1, fun g => ?_, fun g => ?_⟩⟩
      · rw [a1, nI_leI (by omega) (by omega)]; omega
      · rw [nI_eq (by omega) (by omega)] at g
        rw [nI_1]; exact nx (fun h => h.1 g)
      · rw [nI_eq (by omega) (by omega)] at g
        rw [nI_clamp (by omega), nI_clamp (by omega), u1, u3, v1, v3, p1, q1, pk_mul, pk_mul, pk_mul, pk_mul, nI_eq (by omega) (by omega), nI_1, s1, s3, nI_xor]
        refine ⟨fun g2 => nx (fun h => g2 h.2), fun g2 => s_bitCount (by omega) hL ⟨rfl, (inN (by omega) (by omega)).1, ?_⟩⟩
        rw [pop8_bc _ (xor_lt s2 s4), (digitT_W b (by omega)).1, show (5764801 : Int32) = nI 5764801 from rfl, pk_mul, pk_mul, nI_add]
        exact h1 ⟨g, i, by omega, g2⟩
  exact key na 0 (by omega) (fun j hj => by omega)
/-- the least of some numbers, or the largest int -/
def IsMin (P : Nat → Prop) (z : Nat) : Prop := (z = 2147483647 ∧ ∀ x, ¬ P x) ∨ (P z ∧ z < 1000000000 ∧ ∀ x, P x → z ≤ x)
theorem IsMin.lt {P : Nat → Prop} {z : Nat} (h : IsMin P z) : z < 2 ^ 31 := by
  rcases h with ⟨h, -⟩ | ⟨-, h, -⟩ <;> omega
theorem IsMin.iff {P P' : Nat → Prop} {z : Nat} (h : IsMin P z) (e : ∀ x, P' x ↔ P x) : IsMin P' z := by
  have : P' = P := funext fun x => propext (e x)
  rw [this]; exact h
theorem IsMin.un {P P' : Nat → Prop} {z w : Nat} (h : IsMin P z) (k : IsMin P' w) : IsMin (fun x => P x ∨ P' x) (if w < z then w else z) := by
  rcases h with ⟨rfl, h⟩ | ⟨h1, h2, h3⟩ <;> rcases k with ⟨rfl, k⟩ | ⟨k1, k2, k3⟩
  · rw [if_neg (by omega)]
    exact .inl ⟨rfl, fun x hx => hx.elim (h x) (k x)⟩
  · rw [if_pos (by omega)]
    exact .inr ⟨.inr k1, k2, fun x hx => hx.elim (fun g => absurd g (h x)) (k3 x)⟩
  · rw [if_neg (by omega)]
    exact .inr ⟨.inl h1, h2, fun x hx => hx.elim (h3 x) (fun g => absurd g (k x))⟩
  · by_cases g : w < z
    · rw [if_pos g]
      exact .inr ⟨.inr k1, k2, fun x hx => hx.elim (fun q => by have := h3 x q; omega) (k3 x)⟩
    · rw [if_neg g]
      exact .inr ⟨.inl h1, h2, fun x hx => hx.elim (h3 x) (fun q => by have := k3 x q; omega)⟩
theorem IsMin.none {P : Nat → Prop} (h : ∀ x, ¬ P x) : IsMin P 2147483647 := .inl ⟨rfl, h⟩
theorem IsMin.one {P : Nat → Prop} {v : Nat} (hv : v < 1000000000) (h : ∀ x, P x ↔ x = v) : IsMin P v := .inr ⟨(h v).mpr rfl, hv, fun x hx => by rw [(h x).mp hx]; exact Nat.le_refl _⟩
def TT (n : Nat) (can : Nat → Nat → Prop) (un : Nat → Nat → Nat) (S x : Nat) : Prop := ∃ k, Tt n can un k S x
theorem bit_pow {S c : Nat} (h : S.testBit c = true) (h0 : dif S (2 ^ c) = 0) : S = 2 ^ c := by
  refine Nat.eq_of_testBit_eq (fun m => ?_)
  have := congrArg (fun z => Nat.testBit z m) h0
  simp only [bit_dif2, Nat.zero_testBit] at this
  rw [Nat.testBit_two_pow]
  by_cases e : c = m
  · subst e; simp [h]
  · simp [e] at this ⊢
    exact this
/-- what map c, copied last, gives -/
def lastC (n : Nat) (can : Nat → Nat → Prop) (un : Nat → Nat → Nat) (S c x : Nat) : Prop :=
  (dif S (2 ^ c) = 0 ∧ x = c * 823543 + c * W7 c) ∨ (dif S (2 ^ c) ≠ 0 ∧ ∃ y q, TT n can un (dif S (2 ^ c)) y ∧ (∃ a, a < n ∧ ((dif S (2 ^ c)).testBit a = true ∧ can a c ∧ q = pr un a c)) ∧ x = y + q)
theorem TT_step {n : Nat} {can : Nat → Nat → Prop} {un : Nat → Nat → Nat} {S x : Nat} : TT n can un S x ↔ ∃ c, c < n ∧ (S.testBit c = true ∧ lastC n can un S c x) := by
  constructor
  · rintro ⟨k, h⟩
    cases k with
    | zero =>
      obtain ⟨f, hf, rfl, rfl⟩ := h
      refine ⟨f, hf, by rw [Nat.testBit_two_pow]; simp, .inl ⟨?_, rfl⟩⟩
      refine Nat.eq_of_testBit_eq (fun m => ?_)
      rw [bit_dif2, Nat.testBit_two_pow, Nat.zero_testBit]
      cases decide (f = m) <;> rfl
    | succ k =>
      obtain ⟨c, a, y, hc, hS, ha, hSa, hcan, hT, rfl⟩ := h
      exact ⟨c, hc, hS, .inr ⟨(fun h0 => (by rw [h0, Nat.zero_testBit] at hSa; cases hSa)), y, _, ⟨k, hT⟩, ⟨a, ha, hSa, hcan, rfl⟩, rfl⟩⟩
  · rintro ⟨c, hc, hS, ⟨h0, rfl⟩ | ⟨h0, y, q, ⟨k, hT⟩, ⟨a, ha, hSa, hcan, rfl⟩, rfl⟩⟩
    · exact ⟨0, c, hc, bit_pow hS h0, rfl⟩
    · exact ⟨k + 1, c, a, y, hc, hS, ha, hSa, hcan, hT, rfl⟩
theorem IsMin.nx {P : Nat → Nat → Prop} {i z w : Nat} (h : IsMin (fun x => ∃ a, a < i ∧ P a x) z) (k : IsMin (P i) w) : IsMin (fun x => ∃ a, a < i + 1 ∧ P a x) (if w < z then w else z) := by
  refine (h.un k).iff (fun x => ⟨?_, ?_⟩)
  · rintro ⟨a, ha, hp⟩
    by_cases e : a = i
    · subst e; exact .inr hp
    · exact .inl ⟨a, by omega, hp⟩
  · rintro (⟨a, ha, hp⟩ | hp)
    · exact ⟨a, by omega, hp⟩
    · exact ⟨i, by omega, hp⟩
theorem IsMin.skip {P : Nat → Nat → Prop} {i z : Nat} (h : IsMin (fun x => ∃ a, a < i ∧ P a x) z) (k : ∀ x, ¬ P i x) : IsMin (fun x => ∃ a, a < i + 1 ∧ P a x) z := by
  refine h.iff (fun x => ⟨?_, ?_⟩)
  · rintro ⟨a, ha, hp⟩
    by_cases e : a = i
    · subst e; exact absurd hp (k x)
    · exact ⟨a, by omega, hp⟩
  · rintro ⟨a, ha, hp⟩; exact ⟨a, by omega, hp⟩
/-- the prices -/
def PrC (N : Mm) (can : Nat → Nat → Prop) (un : Nat → Nat → Nat) (a b : Nat) : Prop := (a ≠ b ∧ can a b → N.1 (138 + 1 + a) b = nI (pr un a b)) ∧ (¬ (a ≠ b ∧ can a b) → N.1 (138 + 1 + a) b = nI 2147483647)
theorem if_nI {w z : Nat} (hw : w < 2 ^ 31) (hz : z < 2 ^ 31) : (if nI w < nI z then nI w else nI z) = nI (if w < z then w else z) := by
  by_cases h : w < z
  · rw [if_pos h, if_pos ((nI_ltI hw hz).mpr h)]
  · rw [if_neg h, if_neg (fun g => h ((nI_ltI hw hz).mp g))]
theorem bit7 : ∀ s, s < 128 → ∀ i, i < 7 → (nI s &&& (1 <<< (nI i &&& 31)) = 0 ↔ s.testBit i = false) ∧ nI s &&& ((1 <<< (nI i &&& 31)) ^^^ (-1)) = nI (dif s (2 ^ i)) := by decide +kernel
theorem pr_lt {un : Nat → Nat → Nat} (hun : ∀ a b, un a b ≤ 8) {a b : Nat} (ha : a < 7) (hb : b < 7) : pr un a b < 1000000000 := by
  have h1 := hun a b
  have h2 : a * W7 b ≤ 7 * 117649 := Nat.mul_le_mul (by omega) (digitT_W b hb).2.1
  unfold pr; omega
theorem s_leastWithCopy {G : MG} {d : Nat} {Q : Int32 → Mm → Prop} {M : Mm} {c0 n R c z : Nat} {can : Nat → Nat → Prop} {un : Nat → Nat → Nat} (hd : 1 ≤ d) (hL : Lay c0 M) (hn : n ≤ 7) (hun : ∀ a b, un a b ≤ 8) (hc : c < n) (hR : R < 128) (hRc : R.testBit c = false)
    (hP : ∀ a, a < n → PrC M can un a c) (hz : M.1 146 R = nI z) (hzm : IsMin (TT n can un R) z) (hb : ∀ y a, a < n → R.testBit a = true → can a c → TT n can un R y → y + pr un a c < 1000000000)
    (hQ : ∀ w, IsMin (fun x => ∃ y q, TT n can un R y ∧ (∃ a, a < n ∧ (R.testBit a = true ∧ can a c ∧ q = pr un a c)) ∧ x = y + q) w → Q (nI w) M) : C G Y_X0_leastWithCopy d [.ref (G.b + 137), .int (nI R), .int (nI c), .int (nI n)] M (Ri Q) := by
  refine up1 (P := fun d => C G Y_X0_leastWithCopy d _ M (Ri Q)) (fun e => b_X0_leastWithCopy (d := e) hL ?_) hd
  have key : ∀ m i w, i + m = n → IsMin (fun q => ∃ a, a < i ∧ (R.testBit a = true ∧ can a c ∧ q = pr un a c)) w → L_X0_leastWithCopy_7 G e Q (nI R) (nI c) (nI n) (nI w) (nI i) M := by
    intro m
    induction m with
    | zero =>
      intro i w hi hw
      have : i = n := by omega
      subst this
      have hwl := hw.lt
      have hzl := hzm.lt
      refine b_X0_leastWithCopy_7 hL ⟨fun _ => ⟨(inN (by omega) (by omega)).1, ?_⟩, fun g => absurd ?_ g⟩
      · rw [nI_clamp (by omega), hz, show (2147483647 : Int32) = nI 2147483647 from rfl, nI_eq hzl (by omega), nI_eq hwl (by omega), nI_add]
        refine ⟨fun g => hQ _ (IsMin.none ?_), fun g => ⟨fun g2 => ⟨(inN (by omega) (by omega)).1, hQ _ ?_⟩, fun g2 => hQ _ (IsMin.none ?_)⟩⟩
        · rintro x ⟨y, q, hy, -, -⟩
          rcases hzm with ⟨-, h⟩ | ⟨-, h, -⟩
          · exact h y hy
          · omega
        · rcases hzm with ⟨h, -⟩ | ⟨z1, z2, z3⟩
          · exact absurd h g
          · rcases hw with ⟨h, -⟩ | ⟨w1, w2, w3⟩
            · exact absurd h g2
            · refine .inr ⟨⟨z, w, z1, w1, rfl⟩, ?_, ?_⟩
              · obtain ⟨a, ha, hRa, hca, rfl⟩ := w1
                exact hb z a ha hRa hca z1
              · rintro x ⟨y, q, hy, hq, rfl⟩
                have := z3 y hy
                have := w3 q hq
                omega
        · rintro x ⟨y, q, -, hq, -⟩
          rcases hw with ⟨-, h⟩ | ⟨-, h, -⟩
          · exact h q hq
          · omega
      · rw [nI_leI (by omega) (by omega)]; omega
    | succ m ih =>
      intro i w hi hw
      have hwl := hw.lt
      obtain ⟨b1, b2⟩ := bit7 R hR i (by omega)
      refine b_X0_leastWithCopy_7 hL ⟨fun g => absurd g ?_, fun _ => ?_⟩
      · rw [nI_leI (by omega) (by omega)]; omega
      · rw [b1, nI_1]
        refine ⟨fun g => ih (i + 1) w (by omega) (hw.skip (fun x hx => by rw [g] at hx; cases hx.1)), fun g => ⟨(inN (by omega) (by omega)).1, (inN (by omega) (by omega)).1, fun v6 e6 => ?_⟩⟩
        rw [nI_clamp (by omega), nI_clamp (by omega)] at e6
        have g' : R.testBit i = true := by simpa using g
        have hic : i ≠ c := fun h => by rw [h, hRc] at g'; cases g'
        have hpl := pr_lt hun (a := i) (b := c) (by omega) (by omega)
        by_cases hcan : can i c
        · rw [(hP i (by omega)).1 ⟨hic, hcan⟩, if_nI (by omega) hwl] at e6
          subst e6
          exact ih (i + 1) _ (by omega) (hw.nx (IsMin.one hpl (fun x => ⟨fun h => h.2.2, fun h => ⟨g', hcan, h⟩⟩)))
        · rw [(hP i (by omega)).2 (fun h => hcan h.2), if_nI (by omega) hwl] at e6
          subst e6
          exact ih (i + 1) _ (by omega) (hw.nx (IsMin.none (fun x hx => hcan hx.2.1)))
  exact key n 0 2147483647 (by omega) (IsMin.none (fun x ⟨a, ha, _⟩ => by omega))
theorem s_leastOf {G : MG} {d : Nat} {Q : Int32 → Mm → Prop} {M : Mm} {c0 n S : Nat} {can : Nat → Nat → Prop} {un : Nat → Nat → Nat} (hd : 2 ≤ d) (hD : Dgt G) (hL : Lay c0 M) (hn : n ≤ 7) (hun : ∀ a b, un a b ≤ 8) (hS : S < 128)
    (hP : ∀ a b, a < n → b < n → PrC M can un a b) (hT : ∀ R, R < S → R ≠ 0 → ∃ z, M.1 146 R = nI z ∧ IsMin (TT n can un R) z)
    (hQ : ∀ w, IsMin (TT n can un S) w → Q (nI w) M) : C G Y_X0_leastOf d [.ref (G.b + 137), .int (nI S), .int (nI n)] M (Ri Q) := by
  refine up1 (P := fun d => C G Y_X0_leastOf d _ M (Ri Q)) (fun e => b_X0_leastOf (d := e + 1) hL hD.1 hD.2 ?_) hd
  have key : ∀ m i w, i + m = n → IsMin (fun x => ∃ c, c < i ∧ (S.testBit c = true ∧ lastC n can un S c x)) w → L_X0_leastOf_6 G (e + 1) Q (nI S) (nI n) (nI w) (nI i) M := by
    intro m
    induction m with
    | zero =>
      intro i w hi hw
      have : i = n := by omega
      subst this
      refine b_X0_leastOf_6 hL hD.1 hD.2 ⟨fun _ => hQ w (hw.iff (fun x => TT_step)), fun g => absurd ?_ g⟩
      rw [nI_leI (by omega) (by omega)]; omega
    | succ m ih =>
      intro i w hi hw
      have hwl := hw.lt
      obtain ⟨b1, b2⟩ := bit7 S hS i (by omega)
      have hdl := dif_le S (2 ^ i)
      refine b_X0_leastOf_6 hL hD.1 hD.2 ⟨fun g => absurd g ?_, fun _ => ?_⟩
      · rw [nI_leI (by omega) (by omega)]; omega
      · rw [b1, b2, nI_1, show (0 : Int32) = nI 0 from rfl, nI_eq (by omega) (by omega)]
        refine ⟨fun g => ih (i + 1) w (by omega) (hw.skip (fun x hx => by rw [g] at hx; cases hx.1)), fun g => ?_⟩
        have g' : S.testBit i = true := by simpa using g
        refine ⟨fun g2 => ?_, fun g2 => ⟨(inN (by omega) (by omega)).1, fun v6 e6 => ?_⟩⟩
        · have hlt : dif S (2 ^ i) < S := dif_lt (fun h0 => by
            have := congrArg (fun z => Nat.testBit z i) h0
            simp only [Nat.testBit_and, g', Nat.testBit_two_pow, Nat.zero_testBit] at this
            simp at this)
          obtain ⟨z, hz, hzm⟩ := hT _ hlt g2
          refine s_leastWithCopy (z := z) (by omega) hL hn hun (by omega) (by omega) (by rw [bit_dif2]; simp) (fun a ha => hP a i ha (by omega)) hz hzm (fun y a ha hRa hca ⟨k, hy⟩ => ?_) (fun v hv => ⟨rfl, ?_⟩)
          · exact T_lt (k := k + 1) (S := S) hn hun ⟨i, a, y, by omega, g', ha, hRa, hca, hy, rfl⟩
          · rw [if_nI hv.lt hwl]
            refine ih (i + 1) _ (by omega) (hw.nx (hv.iff (fun x => ⟨?_, fun h => ⟨g', .inr ⟨g2, h⟩⟩⟩)))
            rintro ⟨-, ⟨h0, -⟩ | ⟨-, h⟩⟩
            · exact absurd h0 g2
            · exact h
        · obtain ⟨w1, w2, w3⟩ := digitT_W i (by omega)
          have hm : i * W7 i ≤ 7 * 117649 := Nat.mul_le_mul (by omega) w2
          rw [nI_clamp (by omega), w1, show (823543 : Int32) = nI 823543 from rfl, pk_mul, pk_mul, nI_add, if_nI (by omega) hwl] at e6
          subst e6
          refine ih (i + 1) _ (by omega) (hw.nx (IsMin.one (by omega) (fun x => ⟨?_, fun h => ⟨g', .inl ⟨g2, h⟩⟩⟩)))
          rintro ⟨-, ⟨-, h⟩ | ⟨h0, -⟩⟩
          · exact h
          · exact absurd g2 h0
  exact key n 0 2147483647 (by omega) (IsMin.none (fun x ⟨a, ha, _⟩ => by omega))
theorem sh7 : ∀ p, p < 8 → (1 : Int32) <<< (nI p &&& 31) = nI (2 ^ p) := by decide +kernel
theorem s_ancFind {G : MG} {d : Nat} {Q : Int32 → Mm → Prop} {M : Mm} {c na n : Nat} {P Qh u v s : Nat → Nat} (hd : 3 ≤ d) (hD : Dgt G) (hL : Lay c M) (hc : c = 3 ∨ c = 39) (hA : AncC M c na n P Qh u v s) (hn0 : n ≠ 0)
    (hQ : ∀ N z, Ess M N → N.1 137 2 = nI z → IsMin (TT n (canS na P Qh u v) (unS s) (2 ^ n - 1)) z → (z = 2147483647 → Q 0 N) ∧ (z ≠ 2147483647 → Q 1 N)) : C G Y_X0_find d [.ref (G.b + 137), .ref (G.b + c), .ref (G.b + 75)] M (Ri Q) := by
  obtain ⟨a1, a2, a3, a4, a5, a6⟩ := id hA
  have hun : ∀ a b, unS s a b ≤ 8 := fun a b => pop8_le _
  obtain ⟨t1, t2⟩ := pw128 n (by omega)
  have key3 : ∀ e m S (N : Mm), S + m = 2 ^ n → 1 ≤ S → Ess M N → (∀ a b, a < n → b < n → PrC N (canS na P Qh u v) (unS s) a b) → (∀ R, R < S → R ≠ 0 → ∃ z, N.1 146 R = nI z ∧ IsMin (TT n (canS na P Qh u v) (unS s) R) z) → L_X0_find_63 G (e + 2) Q (nI n) (nI S) N := by
    intro e m
    induction m with
    | zero =>
      intro S N hS h1 hE hP hT
      have : S = 2 ^ n := by omega
      subst this
      refine b_X0_find_63 (lay_of hL hE.1) ?_
      rw [sh7 n (by omega), show nI (2 ^ n) - 1 = nI (2 ^ n - 1) by rw [show (1 : Int32) = nI 1 from rfl, pk_sub (by omega)], nI_leI (by omega) (by omega)]
      refine ⟨fun _ => ⟨(inN (by omega) (by omega)).1, fun M2 e2 => ?_⟩, fun g => absurd (Nat.le_refl _) g⟩
      have h2 : 2 ≤ 2 ^ n := by
        have : 2 ^ 1 ≤ 2 ^ n := Nat.pow_le_pow_right (by omega) (by omega)
        omega
      obtain ⟨z, hz, hzm⟩ := hT (2 ^ n - 1) (by omega) (by omega)
      rw [nI_clamp (by omega), hz] at e2
      subst e2
      have r2 : (sI N 137 2 (nI z)).1 137 2 = nI z := by rw [rd_sI, if_pos ⟨rfl, rfl⟩]
      rw [r2, show (2147483647 : Int32) = nI 2147483647 from rfl, nI_eq hzm.lt (by omega)]
      exact hQ _ z (hE.tr (ess_sI (by omega))) r2 hzm
    | succ m ih =>
      intro S N hS h1 hE hP hT
      refine b_X0_find_63 (lay_of hL hE.1) ?_
      rw [sh7 n (by omega), nI_leI (by omega) (by omega)]
      refine ⟨fun g => by omega, fun _ => ?_⟩
      refine s_leastOf (by omega) hD (lay_of hL hE.1) a4 hun (by omega) hP hT (fun w hw => ⟨rfl, (inN (by omega) (by omega)).1, fun M6 e6 => ?_⟩)
      subst e6
      rw [nI_clamp (by omega), nI_1]
      refine ih (S + 1) _ (by omega) (by omega) (hE.tr (ess_sI (by omega))) (fun a b ha hb => ?_) (fun R hR h0 => ?_)
      · unfold PrC
        rw [rd_sI, if_neg (by omega)]; exact hP a b ha hb
      · by_cases e1 : R = S
        · subst e1
          exact ⟨w, by rw [rd_sI, if_pos ⟨rfl, rfl⟩], hw⟩
        · rw [rd_sI, if_neg (fun h => e1 h.2)]
          exact hT R (by omega) h0
  refine up1 (P := fun d => C G Y_X0_find d _ M (Ri Q)) (fun e => b_X0_find (d := e + 2) hL (sh_of hc) (by decide) ⟨fun _ => ?_, fun g => ?_⟩) hd
  · rw [a3]
    have key1 : ∀ m a (N : Mm), a + m = n → Ess M N → (∀ a' b, a' < a → b < n → PrC N (canS na P Qh u v) (unS s) a' b) → L_X0_find_14 G (e + 2) Q c 75 (nI n) (nI a) N := by
      intro m
      induction m with
      | zero =>
        intro a N ha hE hP
        have : a = n := by omega
        subst this
        refine b_X0_find_14 (lay_of hL hE.1) (sh_of hc) (by decide) ⟨fun _ => key3 e (2 ^ a - 1) 1 N (by omega) (by omega) hE hP (fun R h1 h2 => by omega), fun g => absurd ?_ g⟩
        rw [nI_leI (by omega) (by omega)]; omega
      | succ m ih =>
        intro a N ha hE hP
        have key2 : ∀ m' b (N : Mm), b + m' = n → Ess M N → (∀ a' b', a' < a → b' < n → PrC N (canS na P Qh u v) (unS s) a' b') → (∀ b', b' < b → PrC N (canS na P Qh u v) (unS s) a b') → L_X0_find_23 G (e + 2) Q c 75 (nI n) (nI a) (nI b) N := by
          intro m'
          induction m' with
          | zero =>
            intro b N hb hE hP hP2
            have : b = n := by omega
            subst this
            refine b_X0_find_23 (lay_of hL hE.1) (sh_of hc) (by decide) ⟨fun _ => ?_, fun g => absurd ?_ g⟩
            · rw [nI_1]
              refine ih (a + 1) N (by omega) hE (fun a' b' h1 h2 => ?_)
              by_cases e1 : a' = a
              · subst e1; exact hP2 b' h2
              · exact hP a' b' (by omega) h2
            · rw [nI_leI (by omega) (by omega)]; omega
          | succ m' ih' =>
            intro b N hb hE hP hP2
            have nx : ∀ v', ((a ≠ b ∧ canS na P Qh u v a b) → v' = nI (pr (unS s) a b)) → (¬ (a ≠ b ∧ canS na P Qh u v a b) → v' = nI 2147483647) → L_X0_find_23 G (e + 2) Q c 75 (nI n) (nI a) (nI (b + 1)) (sI N (138 + 1 + a) b v') := fun v' h1 h0 => by
              refine ih' (b + 1) _ (by omega) (hE.tr (ess_sI (by omega))) (fun a' b' h1' h2' => ?_) (fun b' hb' => ?_)
              · unfold PrC
                rw [rd_sI, if_neg (by omega)]; exact hP a' b' h1' h2'
              · by_cases e1 : b' = b
                · subst e1
                  unfold PrC
                  rw [rd_sI, if_pos ⟨rfl, rfl⟩]; exact ⟨h1, h0⟩
                · unfold PrC
                  rw [rd_sI, if_neg (by omega)]; exact hP2 b' (by omega)
            refine b_X0_find_23 (lay_of hL hE.1) (sh_of hc) (by decide) ⟨fun g => absurd g ?_, fun _ => ⟨(inN (by omega) (by omega)).1, ?_⟩⟩
            · rw [nI_leI (by omega) (by omega)]; omega
            · refine s_priceOf (by omega) hD (lay_of hL hE.1) hc (hA.ess hc hE) (by omega) (by omega) (fun h => ⟨rfl, (inN (by omega) (by omega)).1, fun M5 e5 => ?_⟩) (fun h => ⟨rfl, (inN (by omega) (by omega)).1, fun M5 e5 => ?_⟩)
              · subst e5
                rw [nI_clamp (by omega), nI_clamp (by omega), nI_1]
                exact nx _ (fun _ => rfl) (fun g => absurd h g)
              · subst e5
                rw [nI_clamp (by omega), nI_clamp (by omega), nI_1]
                exact nx _ (fun g => absurd g h) (fun _ => rfl)
        refine b_X0_find_14 (lay_of hL hE.1) (sh_of hc) (by decide) ⟨fun g => absurd g ?_, fun _ => key2 n 0 N (by omega) hE hP (fun b' h => by omega)⟩
        rw [nI_leI (by omega) (by omega)]; omega
    exact key1 n 0 M (by omega) (Ess.rf M) (fun a' b h => by omega)
  · rw [a3, show (0 : Int32) = nI 0 from rfl, nI_eq (by omega) (by omega)] at g
    exact absurd g hn0
