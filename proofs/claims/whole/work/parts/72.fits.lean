/-! ===== fitted: the reference, and both ===== -/
def FitM (M N : Mm) (B : Nat) (cnt : Nat → Nat) : Prop := Ess M N ∧ ∃ f w l, N.1 147 18 = nI f ∧ N.1 147 19 = nI w ∧ N.1 147 20 = nI l ∧ StA B cnt f w l
theorem FitM.cong {M N : Mm} {B : Nat} {cnt cnt' : Nat → Nat} (h : FitM M N B cnt) (e : ∀ t, cnt' t = cnt t) : FitM M N B cnt' := by
  have : cnt' = cnt := funext e
  rw [this]; exact h
theorem FitM.mk3 {M N : Mm} {B f w l : Nat} {cnt : Nat → Nat} (hE : Ess M N) (h : StA B cnt f w l) : FitM M (sI (sI (sI N 147 19 (nI w)) 147 20 (nI l)) 147 18 (nI f)) B cnt := by
  refine ⟨((hE.tr (ess_sI (by omega))).tr (ess_sI (by omega))).tr (ess_sI (by omega)), f, w, l, ?_, ?_, ?_, h⟩
  · rw [rd_sI, if_pos ⟨rfl, rfl⟩]
  · rw [rd_sI, if_neg (by omega), rd_sI, if_neg (by omega), rd_sI, if_pos ⟨rfl, rfl⟩]
  · rw [rd_sI, if_neg (by omega), rd_sI, if_pos ⟨rfl, rfl⟩]
theorem StA.bd {B : Nat} {cnt : Nat → Nat} {f w l : Nat} (h : StA B cnt f w l) (hB : B ≤ 64) : f ≤ 4 ∧ l < 64 := by
  rcases h with ⟨h1, h2, h3, h4⟩ | ⟨h1, h2, h3, h4, h5, h6, h7⟩
  · omega
  · omega
theorem s_leaf {G : MG} {e : Nat} {Q : Mm → Prop} {M N : Mm} {c B u z p q : Nat} {cnt : Nat → Nat} (hL : Lay c M) (hB : B ≤ 64) (hz : z < B) (hu : pop z = u) (h3 : u ≤ 3) (hp : p < 2 ^ 31) (hq : q < 2 ^ 31) (hF : FitM M N B cnt)
    (hQ : ∀ N', FitM M N' B (fun t => cnt t + if p = q ∧ t = z then 1 else 0) → Q N') : L_X12_fits_13 G e Q (nI u) (nI z) (nI p) (nI q) N := by
  obtain ⟨hE, f, w, l, f1, f2, f3, hS⟩ := id hF
  obtain ⟨bf, bl⟩ := hS.bd hB
  have hLN := lay_of hL hE.1
  obtain ⟨A1, A2, A3⟩ := hS.add hz hu h3
  refine b_X12_fits_13 hLN ?_
  rw [nI_eq hp hq, f1, f2, nI_ltI (by omega) (by omega), nI_leI (by omega) (by omega)]
  refine ⟨fun g => hQ N (hF.cong (fun t => by rw [if_neg (fun h => g h.1)]; rfl)), fun g => ?_⟩
  have hQ' : ∀ N', FitM M N' B (fun t => cnt t + if t = z then 1 else 0) → Q N' := fun N' h => hQ N' (h.cong (fun t => by
    by_cases e1 : t = z
    · rw [if_pos ⟨g, e1⟩, if_pos e1]
    · rw [if_neg (fun h => e1 h.2), if_neg e1]))
  refine ⟨fun g2 => hQ' N ⟨hE, f, w, l, f1, f2, f3, A1 g2⟩, fun g2 => ⟨fun g3 => ?_, fun g3 => ?_⟩⟩
  · have euf : u = f := by omega
    subst euf
    refine b_X12_fits_47 hLN (fun M1 e1 => ?_)
    subst e1
    have r18 : (sI N 147 19 (nI w + 1)).1 147 18 = nI u := by rw [rd_sI, if_neg (by omega)]; exact f1
    have r20 : (sI N 147 19 (nI w + 1)).1 147 20 = nI l := by rw [rd_sI, if_neg (by omega)]; exact f3
    rw [r18, r20, nI_ltI (by omega) (by omega), nI_leI (by omega) (by omega), nI_1]
    refine ⟨fun g4 => absurd g4 (by omega), fun _ => ⟨fun g5 M6 e6 M7 e7 => ?_, fun g5 M8 e8 M9 e9 => ?_⟩⟩
    · subst e6 e7
      have := A2 rfl
      rw [if_neg (by omega)] at this
      exact hQ' _ (FitM.mk3 hE this)
    · subst e8 e9
      have := A2 rfl
      rw [if_pos (by omega)] at this
      exact hQ' _ (FitM.mk3 hE this)
  · refine b_X12_fits_47 hLN (fun M1 e1 => ?_)
    subst e1
    have r18 : (sI N 147 19 1).1 147 18 = nI f := by rw [rd_sI, if_neg (by omega)]; exact f1
    have r20 : (sI N 147 19 1).1 147 20 = nI l := by rw [rd_sI, if_neg (by omega)]; exact f3
    rw [r18, r20, nI_ltI (by omega) (by omega)]
    refine ⟨fun g4 M3 e3 M4 e4 => ?_, fun g4 => absurd (by omega) g4⟩
    subst e3 e4
    exact hQ' _ (FitM.mk3 hE (A3 (by omega)))
def FitR (M : Mm) (n : Nat) (K : Nat → Nat) (H : Nat → Nat → Nat) : Prop := ∀ a, a < n → M.1 153 (1 + 14 * a + 1) = nI (K a) ∧ K a ≤ 4 ∧ ∀ i, i < K a → M.1 153 (1 + 14 * a + (2 + i)) = nI (H a i) ∧ 1 ≤ H a i ∧ H a i ≤ 9
theorem s_fits {G : MG} {M : Mm} {c n : Nat} {K : Nat → Nat} {H : Nat → Nat → Nat} (hL : Lay c M) (hn6 : n ≤ 6) (hn : M.1 153 0 = nI n) (hR : FitR M n K H) :
    ∀ m a u z p q cnt (N : Mm) d (Q : Mm → Prop), a + m = n → z < 2 ^ a → pop z = u → u ≤ 3 → p * 9 ^ (3 - u) < 2 ^ 31 → q * 9 ^ (3 - u) < 2 ^ 31 → m + 2 ≤ d → FitM M N (2 ^ n) cnt →
      (∀ N', FitM M N' (2 ^ n) (fun t => cnt t + dc K H m a u z p q t) → Q N') → C G Y_X12_fits d [.ref (G.b + 147), .int (nI a), .int (nI u), .int (nI z), .int (nI p), .int (nI q)] N (Rv Q) := by
  intro m
  obtain ⟨t1, t2⟩ := two_le n hn6
  have pw : ∀ {x k : Nat}, x * 9 ^ k < 2 ^ 31 → x < 2 ^ 31 := fun h => Nat.lt_of_le_of_lt (Nat.le_mul_of_pos_right _ (Nat.pow_pos (by omega))) h
  have za : ∀ {z a}, z < 2 ^ a → a ≤ n → z < 2 ^ n := fun hz ha => Nat.lt_of_lt_of_le hz (Nat.pow_le_pow_right (by omega) ha)
  induction m with
  | zero =>
    intro a u z p q cnt N d Q ha hz hu h3 hp hq hd hF hQ
    have : a = n := by omega
    subst this
    have hLN := lay_of hL hF.1.1
    refine up1 (P := fun d => C G Y_X12_fits d _ N (Rv Q)) (fun e => b_X12_fits (d := e + 1) hLN ?_) hd
    refine s_arms (by omega) hLN ⟨rfl, fun _ => s_leaf hL t2 hz hu h3 (pw hp) (pw hq) hF hQ, fun g => absurd ?_ g⟩
    rw [hF.1.2.2.2.2.2.2.2.1, hn]
  | succ m ih =>
    intro a u z p q cnt N d Q ha hz hu h3 hp hq hd hF hQ
    have hLN := lay_of hL hF.1.1
    refine up1 (P := fun d => C G Y_X12_fits d _ N (Rv Q)) (fun e => b_X12_fits (d := e + (m + 2)) hLN ?_) hd
    refine s_arms (by omega) hLN ⟨rfl, fun g => ?_, fun _ => ⟨fun g => ?_, fun g => ?_⟩⟩
    · rw [hF.1.2.2.2.2.2.2.2.1, hn, nI_eq (by omega) (by omega)] at g; omega
    · rw [show (3 : Int32) = nI 3 from rfl, nI_eq (by omega) (by omega)] at g
      have hQ' : ∀ N', FitM M N' (2 ^ n) (fun t => cnt t + dc K H m (a + 1) u z p q t + sm (fun i => sm (fun j => if i = j then 0 else dc K H m (a + 1) (u + 1) (z + 2 ^ a) (p * H a i) (q * H a j) t) (K a)) (K a)) → Q N' := fun N' h => hQ N' (h.cong (fun t => by
        rw [show dc K H (m + 1) a u z p q t = (if u = 3 then (if p = q ∧ t = z then 1 else 0) else dc K H m (a + 1) u z p q t + s2 (K a) (fun i j => dc K H m (a + 1) (u + 1) (z + 2 ^ a) (p * H a i) (q * H a j) t)) from rfl, if_neg g, Nat.add_assoc]
        rfl))
      obtain ⟨k1, k2, k3⟩ := hR a (by omega)
      have hz6 : z < 64 := by have := za hz (show a ≤ n by omega); omega
      obtain ⟨o1, o2, o3, o4⟩ := or_bit a (by omega) z hz
      have e9 : 9 ^ (3 - u) = 9 * 9 ^ (3 - (u + 1)) := by rw [show 3 - u = (3 - (u + 1)) + 1 by omega, Nat.pow_succ]; omega
      have p9 : ∀ x y, x * 9 ^ (3 - u) < 2 ^ 31 → y ≤ 9 → x * y * 9 ^ (3 - (u + 1)) < 2 ^ 31 := fun x y hx hy => by
        refine Nat.lt_of_le_of_lt ?_ hx
        rw [e9, ← Nat.mul_assoc]
        exact Nat.mul_le_mul_right _ (Nat.mul_le_mul_left _ hy)
      have key : ∀ m' i (N : Mm), i + m' = K a → FitM M N (2 ^ n) (fun t => cnt t + dc K H m (a + 1) u z p q t + sm (fun i => sm (fun j => if i = j then 0 else dc K H m (a + 1) (u + 1) (z + 2 ^ a) (p * H a i) (q * H a j) t) (K a)) i) → L_X12_fits_100 G (e + (m + 2)) Q (nI a) (nI u) (nI z) (nI p) (nI q) (nI i) N := by
        intro m'
        induction m' with
        | zero =>
          intro i N hi hN
          have : i = K a := by omega
          subst this
          have hLN := lay_of hL hN.1.1
          refine b_X12_fits_100 hLN (s_of 1 (by omega) hLN (by omega) (by omega) rfl ⟨rfl, fun _ => hQ' N hN, fun g => absurd ?_ g⟩)
          rw [hN.1.2.2.2.2.2.2.2.1, k1, nI_leI (by omega) (by omega)]; omega
        | succ m' ihm =>
          intro i N hi hN
          have inner : ∀ m'' j (N : Mm), j + m'' = K a → FitM M N (2 ^ n) (fun t => cnt t + dc K H m (a + 1) u z p q t + sm (fun i => sm (fun j => if i = j then 0 else dc K H m (a + 1) (u + 1) (z + 2 ^ a) (p * H a i) (q * H a j) t) (K a)) i + sm (fun j => if i = j then 0 else dc K H m (a + 1) (u + 1) (z + 2 ^ a) (p * H a i) (q * H a j) t) j) →
              L_X12_fits_114 G (e + (m + 2)) Q (nI a) (nI u) (nI z) (nI p) (nI q) (nI i) (nI j) N := by
            intro m''
            induction m'' with
            | zero =>
              intro j N hj hN
              have : j = K a := by omega
              subst this
              have hLN := lay_of hL hN.1.1
              refine b_X12_fits_114 hLN (s_of 1 (by omega) hLN (by omega) (by omega) rfl ⟨rfl, fun _ => ?_, fun g => absurd ?_ g⟩)
              · rw [nI_1]
                exact ihm (i + 1) N (by omega) (hN.cong (fun t => by rw [Nat.add_assoc (cnt t + _)]; rfl))
              · rw [hN.1.2.2.2.2.2.2.2.1, k1, nI_leI (by omega) (by omega)]; omega
            | succ m'' ihj =>
              intro j N hj hN
              have hLN := lay_of hL hN.1.1
              have e153 := hN.1.2.2.2.2.2.2.2.1
              refine b_X12_fits_114 hLN (s_of 1 (by omega) hLN (by omega) (by omega) rfl ⟨rfl, fun g => absurd g ?_, fun _ => ⟨fun g => ?_, fun g => ?_⟩⟩)
              · rw [e153, k1, nI_leI (by omega) (by omega)]; omega
              · rw [nI_eq (by omega) (by omega)] at g
                rw [nI_1]
                refine ihj (j + 1) N (by omega) (hN.cong (fun t => ?_))
                show _ + (sm (fun j => if i = j then 0 else dc K H m (a + 1) (u + 1) (z + 2 ^ a) (p * H a i) (q * H a j) t) j + (if i = j then 0 else _)) = _
                rw [if_pos g]; rfl
              · rw [nI_eq (by omega) (by omega)] at g
                obtain ⟨b1, b2, b3⟩ := k3 i (by omega)
                obtain ⟨c1, c2, c3⟩ := k3 j (by omega)
                refine s_of (2 + i) (by omega) hLN (by omega) (by omega) (by rw [show (2 : Int32) = nI 2 from rfl, nI_add]) ⟨rfl, ?_⟩
                refine s_of (2 + j) (by omega) hLN (by omega) (by omega) (by rw [show (2 : Int32) = nI 2 from rfl, nI_add]) ⟨rfl, ?_⟩
                rw [e153, b1, c1, pk_mul, pk_mul, nI_1, nI_1, (orI z hz6 a (by omega)).1, o1]
                refine ih (a + 1) (u + 1) (z + 2 ^ a) (p * H a i) (q * H a j) _ N _ _ (by omega) o3 (by omega) (by omega) (p9 p _ hp b3) (p9 q _ hq c3) (by omega) hN (fun N' hN' => ⟨hN'.1.1.trans hN.1.1.symm, ?_⟩)
                rw [nI_1]
                refine ihj (j + 1) N' (by omega) (hN'.cong (fun t => ?_))
                show _ + (sm (fun j => if i = j then 0 else dc K H m (a + 1) (u + 1) (z + 2 ^ a) (p * H a i) (q * H a j) t) j + (if i = j then 0 else _)) = _
                rw [if_neg g, ← Nat.add_assoc]
          have hLN := lay_of hL hN.1.1
          refine b_X12_fits_100 hLN (s_of 1 (by omega) hLN (by omega) (by omega) rfl ⟨rfl, fun g => absurd g ?_, fun _ => inner (K a) 0 N (by omega) (hN.cong (fun t => rfl))⟩)
          rw [hN.1.2.2.2.2.2.2.2.1, k1, nI_leI (by omega) (by omega)]; omega
      rw [nI_1]
      refine ih (a + 1) u z p q cnt N _ _ (by omega) (by omega) hu h3 hp hq (by omega) hF (fun N' hN' => ⟨hN'.1.1.trans hF.1.1.symm, key (K a) 0 N' (by omega) (hN'.cong (fun t => rfl))⟩)
    · rw [show (3 : Int32) = nI 3 from rfl, nI_eq (by omega) (by omega)] at g
      refine s_leaf hL t2 (za hz (by omega)) hu h3 (pw hp) (pw hq) hF (fun N' hN' => hQ N' (hN'.cong (fun t => ?_)))
      rw [show dc K H (m + 1) a u z p q t = (if u = 3 then (if p = q ∧ t = z then 1 else 0) else dc K H m (a + 1) u z p q t + s2 (K a) (fun i j => dc K H m (a + 1) (u + 1) (z + 2 ^ a) (p * H a i) (q * H a j) t)) from rfl, if_pos g]
