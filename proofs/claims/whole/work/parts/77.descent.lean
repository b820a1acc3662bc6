/-! ===== descent: the reference's search, and both ===== -/
theorem key_lt {a b z y0 q W : Nat} (h1 : a < b) (hz : z < W) (h : b * W + y0 ≤ q) : a * W + z ≤ q :=
  Nat.le_trans (Nat.le_trans (Nat.add_le_add_left (Nat.le_of_lt hz) _) (Nat.le_trans (Nat.le_of_eq (Nat.succ_mul a W).symm) (Nat.mul_le_mul_right W h1))) (Nat.le_trans (Nat.le_add_right _ _) h)
theorem s_triesFrom {G : MG} {M : Mm} {c na n : Nat} {P Qh ru rv s : Nat → Nat} (hL : Lay c M) (hA : AncR M na n P Qh ru rv s) :
    ∀ j m A (N : Mm) d (Q : Mm → Prop), m + j = n → A / 7 ^ m < n → PFx n (canR na P Qh ru rv) (A / 7 ^ m) (rp A m) m → j + 3 ≤ d → Ess M N → N.1 147 30 = nI (A / 7 ^ m) → (∀ k, k < m → N.1 157 k = nI (rp A m k)) → BestM n (canR na P Qh ru rv) (unS s) N (A * 7 ^ (7 - m)) →
      (∀ N', Ess M N' → N'.1 147 30 = nI (A / 7 ^ m) → (∀ k, k < m → N'.1 157 k = nI (rp A m k)) → BestM n (canR na P Qh ru rv) (unS s) N' ((A + 1) * 7 ^ (7 - m)) → Q N') →
      C G Y_X12_triesFrom d [.ref (G.b + 147), .int (nI m), .int (nI (cst (unS s) (A / 7 ^ m) (rp A m) m))] N (Rv Q) := by
  obtain ⟨a1, a2, a3, a4, a5, a6⟩ := id hA
  have hun : ∀ a b, unS s a b ≤ 8 := fun a b => pop8_le _
  have m1 : ¬ (0 : Int32) ≤ -1 ∧ (-1 : Int32) < 0 := by decide
  intro j
  induction j with
  | zero =>
    intro m A N d Q hm hf hP hd hE c30 c157 hB hQ
    have : m = n := by omega
    subst this
    have hLN := lay_of hL hE.1
    have e154 : N.1 154 = M.1 154 := hE.2.2.2.2.2.2.2.2.1
    have hl : A * 7 ^ (7 - m) ≤ (A + 1) * 7 ^ (7 - m) := Nat.mul_le_mul_right _ (by omega)
    have cb := cst_le hun (A / 7 ^ m) (rp A m) (n := m)
    have ceq : ∀ y, y / 7 ^ (7 - m) = A → cst (unS s) (y / 823543) (dg y) m = cst (unS s) (A / 7 ^ m) (rp A m) m := fun y hy => by
      obtain ⟨b1, b2⟩ := blk a4 hy
      rw [b1]
      exact sm_cong (fun k hk => by rw [b2 k hk])
    -- the leaf, once it is not put aside
    have leaf : ∀ e, (N.1 147 29 = -1 ∨ ∃ b, N.1 147 29 = nI b ∧ cst (unS s) (A / 7 ^ m) (rp A m) m < b ∧ b < 1000) → L_X12_triesFrom_23 G (e + 2) Q (nI m) (nI (cst (unS s) (A / 7 ^ m) (rp A m) m)) (nI m) N := by
      intro e hlt
      refine b_X12_triesFrom_23 hLN ⟨fun g => absurd rfl g, fun _ => ?_⟩
      refine s_descends (r := rp A m) (by omega) hLN a4 c30 hf (fun k hk => ⟨c157 k hk, (hP k hk).1⟩) (fun hD => ⟨rfl, fun g => (by cases g), fun _ M5 e5 M6 e6 => ?_⟩) (fun hno => ⟨rfl, fun _ => ?_, fun g => absurd rfl g⟩)
      · subst e5
        have r30 : (sI N 147 29 (nI (cst (unS s) (A / 7 ^ m) (rp A m) m))).1 147 30 = nI (A / 7 ^ m) := by rw [rd_sI, if_neg (by omega)]; exact c30
        rw [r30] at e6
        subst e6
        have hcd := leaf_cd a4 hf hP hD
        have key : ∀ j k (N' : Mm), k + j = m → Ess M N' → N'.1 147 30 = nI (A / 7 ^ m) → (∀ k, k < m → N'.1 157 k = nI (rp A m k)) → N'.1 147 29 = nI (cst (unS s) (A / 7 ^ m) (rp A m) m) → N'.1 147 31 = nI (A / 7 ^ m) → (∀ k', k' < k → N'.1 158 k' = nI (rp A m k')) → L_X12_triesFrom_52 G (e + 2) Q (nI m) (nI k) N' := by
          intro j
          induction j with
          | zero =>
            intro k N' hk hE' d30 d157 d29 d31 d158
            have : k = m := by omega
            subst this
            refine b_X12_triesFrom_52 (lay_of hL hE'.1) ⟨fun _ => hQ N' hE' d30 d157 (.inr ⟨A * 7 ^ (7 - k), ?_, hcd, ?_, ?_, ?_, ?_⟩), fun g => absurd ?_ g⟩
            · have : 0 < 7 ^ (7 - k) := Nat.pow_pos (by omega)
              rw [Nat.add_mul]; omega
            · rw [ceq _ (Nat.mul_div_cancel _ (Nat.pow_pos (by omega)))]; exact d29
            · rw [(blk a4 (Nat.mul_div_cancel _ (Nat.pow_pos (by omega)) : A * 7 ^ (7 - k) / 7 ^ (7 - k) = A)).1]; exact d31
            · intro k' hk'
              rw [(blk a4 (Nat.mul_div_cancel _ (Nat.pow_pos (by omega)) : A * 7 ^ (7 - k) / 7 ^ (7 - k) = A)).2 k' hk']; exact d158 k' hk'
            · intro y hy hyc
              unfold keyN
              rw [ceq _ (Nat.mul_div_cancel _ (Nat.pow_pos (by omega)))]
              have hc1 := hcd.1
              by_cases hlo : y < A * 7 ^ (7 - k)
              · rcases hB with ⟨-, h2⟩ | ⟨y0, h1, h2, h3, h4, h5, h6⟩
                · exact absurd hyc (h2 y hlo)
                · have k1 := h6 y hlo hyc
                  unfold keyN at k1
                  rcases hlt with hlt | ⟨b, hb, hlt, hbb⟩
                  · rw [hlt] at h3
                    have b3 := cst_le hun (y0 / 823543) (dg y0) (n := k)
                    exact absurd h3 (fun h => by
                      have h' := congrArg (fun z : Int32 => decide (z < 0)) h
                      simp only [decide_eq_true m1.2] at h'
                      rw [eq_comm, decide_eq_true_iff] at h'
                      exact nI_pos (by omega) h')
                  · have b3 := cst_le hun (y0 / 823543) (dg y0) (n := k)
                    rw [hb] at h3
                    rw [nI_eq (by omega) (by omega)] at h3
                    rw [h3] at hlt
                    exact key_lt hlt hc1 k1
              · have hyA : y / 7 ^ (7 - k) = A := in_blk (by omega) hy
                rw [(leaf_un a4 hyA hyc).1, ceq _ (Nat.mul_div_cancel _ (Nat.pow_pos (by omega)))]
                exact Nat.le_refl _
            · rw [nI_leI (by omega) (by omega)]; omega
          | succ j ih =>
            intro k N' hk hE' d30 d157 d29 d31 d158
            refine b_X12_triesFrom_52 (lay_of hL hE'.1) ⟨fun g => absurd g ?_, fun _ => ⟨(inN (by omega) (by omega)).1, (inN (by omega) (by omega)).1, fun M2 e2 => ?_⟩⟩
            · rw [nI_leI (by omega) (by omega)]; omega
            · rw [nI_clamp (by omega), d157 k (by omega)] at e2
              subst e2
              rw [nI_1]
              refine ih (k + 1) _ (by omega) (hE'.tr (ess_sI (by omega))) ?_ (fun k' hk' => ?_) ?_ ?_ (fun k' hk' => ?_)
              · rw [rd_sI, if_neg (by omega)]; exact d30
              · rw [rd_sI, if_neg (by omega)]; exact d157 k' hk'
              · rw [rd_sI, if_neg (by omega)]; exact d29
              · rw [rd_sI, if_neg (by omega)]; exact d31
              · by_cases e1 : k' = k
                · subst e1; rw [rd_sI, if_pos ⟨rfl, rfl⟩]
                · rw [rd_sI, if_neg (by omega)]; exact d158 k' (by omega)
        refine key m 0 _ (by omega) ((hE.tr (ess_sI (by omega))).tr (ess_sI (by omega))) ?_ (fun k hk => ?_) ?_ ?_ (fun k' h => by omega)
        · rw [rd_sI, if_neg (by omega)]; exact r30
        · rw [rd_sI, if_neg (by omega), rd_sI, if_neg (by omega)]; exact c157 k hk
        · rw [rd_sI, if_neg (by omega), rd_sI, if_pos ⟨rfl, rfl⟩]
        · rw [rd_sI, if_pos ⟨rfl, rfl⟩]
      · exact hQ N hE c30 c157 (hB.up hl (fun y h1 h2 hc => hno (leaf_un a4 (in_blk h1 h2) hc).2))
    refine up1 (P := fun d => C G Y_X12_triesFrom d _ N (Rv Q)) (fun e => b_X12_triesFrom (d := e + 2) hLN ?_) (show 3 ≤ d by omega)
    rw [show N.1 154 (Int32.toNatClampNeg 0) = nI m by rw [e154]; exact a3]
    rcases hB with ⟨h1, h2⟩ | ⟨y0, h1, h2, h3, h4, h5, h6⟩
    · rw [h1]
      exact ⟨fun _ => leaf e (.inl h1), fun g => absurd m1.2 g⟩
    · have b3 := cst_le hun (y0 / 823543) (dg y0) (n := m)
      rw [h3, nI_ltI (by omega) (by omega)]
      refine ⟨fun g => absurd g (nI_pos (by omega)), fun _ => ⟨fun g => leaf e (.inr ⟨_, h3, g, by omega⟩), fun g => hQ N hE c30 c157 (.inr ⟨y0, by omega, h2, h3, h4, h5, fun y hy hyc => ?_⟩)⟩⟩
      by_cases hlo : y < A * 7 ^ (7 - m)
      · exact h6 y hlo hyc
      · have hyA : y / 7 ^ (7 - m) = A := in_blk (by omega) hy
        have := ceq y hyA
        unfold keyN
        omega
  | succ j ih =>
    intro m A N d Q hm hf hP hd hE c30 c157 hB hQ
    have hLN := lay_of hL hE.1
    have e154 : ∀ {N : Mm}, Ess M N → N.1 154 (Int32.toNatClampNeg 0) = nI n := fun h => by rw [h.2.2.2.2.2.2.2.2.1]; exact a3
    have hw : 7 ^ (7 - m) = 7 * 7 ^ (6 - m) := by rw [show 7 - m = (6 - m) + 1 by omega, Nat.pow_succ, Nat.mul_comm]
    have hA7 : A * 7 ^ (7 - m) = 7 * A * 7 ^ (6 - m) := by rw [hw, ← Nat.mul_assoc, Nat.mul_comm A 7]
    have hA8 : (A + 1) * 7 ^ (7 - m) = (7 * A + 7) * 7 ^ (6 - m) := by rw [hw, ← Nat.mul_assoc, Nat.mul_comm (A + 1) 7, Nat.mul_add]
    have hl : A * 7 ^ (7 - m) ≤ (A + 1) * 7 ^ (7 - m) := Nat.mul_le_mul_right _ (by omega)
    have cb := cst_le hun (A / 7 ^ m) (rp A m) (n := m)
    have e6 : 7 - (m + 1) = 6 - m := by omega
    -- digits of what lies in a block
    have dgm : ∀ y i, i < 7 → y / 7 ^ (6 - m) = 7 * A + i → dg y m = i ∧ y / 823543 = A / 7 ^ m := fun y i hi hy => by
      refine ⟨?_, ?_⟩
      · unfold dg
        rw [W7_pow m (by omega), hy]; omega
      · have := (blk (A := 7 * A + i) (m := m + 1) (by omega) (by rw [e6]; exact hy)).1
        rw [this, (rp_ch hi).1]
    have body : ∀ e, L_X12_triesFrom_23 G (e + (j + 3)) Q (nI m) (nI (cst (unS s) (A / 7 ^ m) (rp A m) m)) (nI n) N := by
      intro e
      have key : ∀ j' i (N : Mm), i + j' = n → Ess M N → N.1 147 30 = nI (A / 7 ^ m) → (∀ k, k < m → N.1 157 k = nI (rp A m k)) → BestM n (canR na P Qh ru rv) (unS s) N ((7 * A + i) * 7 ^ (6 - m)) → L_X12_triesFrom_82 G (e + (j + 3)) Q (nI m) (nI (cst (unS s) (A / 7 ^ m) (rp A m) m)) (nI n) (nI i) N := by
        intro j'
        induction j' with
        | zero =>
          intro i N hi hE c30 c157 hB
          have : i = n := by omega
          subst this
          refine b_X12_triesFrom_82 (lay_of hL hE.1) ⟨fun _ => hQ N hE c30 c157 ?_, fun g => absurd ?_ g⟩
          · rw [hA8]
            refine hB.up (Nat.mul_le_mul_right _ (by omega)) (fun y h1 h2 hc => ?_)
            have d1 : 7 * A + i ≤ y / 7 ^ (6 - m) := (Nat.le_div_iff_mul_le (Nat.pow_pos (by omega))).mpr h1
            have d2 : y / 7 ^ (6 - m) < 7 * A + 7 := (Nat.div_lt_iff_lt_mul (Nat.pow_pos (by omega))).mpr h2
            have d3 := hc.2.2.2.1 m (by omega)
            unfold dg at d3
            rw [W7_pow m (by omega)] at d3
            omega
          · rw [nI_leI (by omega) (by omega)]; omega
        | succ j' ih' =>
          intro i N hi hE c30 c157 hB
          have hLN := lay_of hL hE.1
          have hi7 : i < 7 := by omega
          have up1' : (7 * A + i) * 7 ^ (6 - m) ≤ (7 * A + (i + 1)) * 7 ^ (6 - m) := Nat.mul_le_mul_right _ (by omega)
          have inb : ∀ y, (7 * A + i) * 7 ^ (6 - m) ≤ y → y < (7 * A + (i + 1)) * 7 ^ (6 - m) → dg y m = i ∧ y / 823543 = A / 7 ^ m := fun y h1 h2 => dgm y i hi7 (in_blk h1 (by rw [Nat.add_assoc]; exact h2))
          have skip : (∀ y, dg y m = i → y / 823543 = A / 7 ^ m → ¬ Cd n (canR na P Qh ru rv) y) → L_X12_triesFrom_134 G (e + (j + 3)) Q (nI m) (nI (cst (unS s) (A / 7 ^ m) (rp A m) m)) (nI n) (nI i) 0 N := fun hno =>
            b_X12_triesFrom_134 hLN ⟨fun _ => by rw [nI_1]; exact ih' (i + 1) N (by omega) hE c30 c157 (hB.up up1' (fun y h1 h2 hc => hno y (inb y h1 h2).1 (inb y h1 h2).2 hc)), fun g => absurd rfl g⟩
          have take : (m = A / 7 ^ m → i = A / 7 ^ m) → (m ≠ A / 7 ^ m → i ≠ m ∧ canR na P Qh ru rv i m) → L_X12_triesFrom_134 G (e + (j + 3)) Q (nI m) (nI (cst (unS s) (A / 7 ^ m) (rp A m) m)) (nI n) (nI i) 1 N := by
            intro t1 t2
            refine b_X12_triesFrom_134 hLN ⟨fun g => (by cases g), fun _ => ⟨(inN (by omega) (by omega)).1, fun M2 e2 => ?_⟩⟩
            rw [nI_clamp (by omega)] at e2
            subst e2
            obtain ⟨q1, q2, q3⟩ := rp_ch (A := A) (m := m) hi7
            have r30 : (sI N 157 m (nI i)).1 147 30 = nI (A / 7 ^ m) := by rw [rd_sI, if_neg (by omega)]; exact c30
            have hE2 : Ess M (sI N 157 m (nI i)) := hE.tr (ess_sI (by omega))
            have hP' : PFx n (canR na P Qh ru rv) ((7 * A + i) / 7 ^ (m + 1)) (rp (7 * A + i) (m + 1)) (m + 1) := by
              intro k hk
              rw [q1]
              by_cases e1 : k = m
              · subst e1; rw [q2]; exact ⟨by omega, t1, t2⟩
              · rw [q3 k (by omega)]; exact hP k (by omega)
            have hcs : cst (unS s) ((7 * A + i) / 7 ^ (m + 1)) (rp (7 * A + i) (m + 1)) (m + 1) = cst (unS s) (A / 7 ^ m) (rp A m) m + (if m = A / 7 ^ m then 0 else unS s i m) := by
              rw [q1]
              show sm _ m + (if m = A / 7 ^ m then 0 else unS s (rp (7 * A + i) (m + 1) m) m) = _
              rw [q2]
              refine congrArg (· + _) (sm_cong (fun k hk => ?_))
              rw [q3 k hk]
            have rcl : ∀ x, x = nI (cst (unS s) (A / 7 ^ m) (rp A m) m + (if m = A / 7 ^ m then 0 else unS s i m)) → C G Y_X12_triesFrom (e + (j + 3)) [.ref (G.b + 147), .int (nI m + 1), .int x] (sI N 157 m (nI i)) (Rv fun M6 => M6.2.2 = (sI N 157 m (nI i)).2.2 ∧ L_X12_triesFrom_82 G (e + (j + 3)) Q (nI m) (nI (cst (unS s) (A / 7 ^ m) (rp A m) m)) (nI n) (nI i + 1) M6) := by
              intro x hx
              subst hx
              rw [← hcs, nI_1, nI_1]
              refine ih (m + 1) (7 * A + i) _ _ _ (by omega) (by rw [q1]; exact hf) hP' (by omega) hE2 (by rw [q1]; exact r30) (fun k hk => ?_) ?_ (fun N' hE' d30 d157 hB' => ⟨hE'.1.trans hE2.1.symm, ?_⟩)
              · by_cases e1 : k = m
                · subst e1; rw [rd_sI, if_pos ⟨rfl, rfl⟩, q2]
                · rw [rd_sI, if_neg (by omega), q3 k (by omega)]; exact c157 k (by omega)
              · rw [e6]
                exact hB.fr (by rw [rd_sI, if_neg (by omega)]) (by rw [rd_sI, if_neg (by omega)]) (fun k => by rw [rd_sI, if_neg (by omega)])
              · rw [q1] at d30
                rw [e6, Nat.add_assoc] at hB'
                exact ih' (i + 1) N' (by omega) hE' d30 (fun k hk => by rw [d157 k (by omega), q3 k hk]) hB'
            rw [r30, nI_eq (by omega) (by omega)]
            refine ⟨fun g => ?_, fun g => ?_⟩
            · refine s_unlike (by omega) (lay_of hL hE2.1) (hA.ess hE2) (by omega) (by omega) ⟨rfl, ?_⟩
              rw [nI_add]
              exact rcl _ (by rw [if_neg g])
            · exact rcl _ (by rw [if_pos g, show (0 : Int32) = nI 0 from rfl, nI_add])
          refine b_X12_triesFrom_82 hLN ⟨fun g => absurd g ?_, fun _ => ?_⟩
          · rw [nI_leI (by omega) (by omega)]; omega
          · rw [c30, nI_eq (by omega) (by omega), nI_eq (by omega) (by omega), nI_eq (by omega) (by omega)]
            refine ⟨fun g => ⟨fun g2 => skip (fun y h1 h2 hc => ?_), fun g2 => ?_⟩, fun g => ⟨fun g2 => skip (fun y h1 h2 hc => ?_), fun g2 => take (fun _ => g2) (fun h => absurd g h)⟩⟩
            · exact (hc.2.2.2.2.2.1 m (by omega) (by rw [h2]; exact g)).1 (h1.trans g2)
            · refine s_canCopy (by omega) hLN (hA.ess hE) (by omega) (by omega) (fun hcan => ⟨rfl, fun h => (by cases h), fun _ => take (fun h => absurd h g) (fun _ => ⟨g2, hcan⟩)⟩) (fun hcan => ⟨rfl, fun _ => skip (fun y h1 h2 hc => ?_), fun h => absurd rfl h⟩)
              have := (hc.2.2.2.2.2.1 m (by omega) (by rw [h2]; exact g)).2
              rw [h1] at this
              exact hcan this
            · have := hc.2.2.2.2.1
              rw [h2, ← g, h1] at this
              exact g2 (this.trans g)
      refine b_X12_triesFrom_23 hLN ⟨fun _ => key n 0 N (by omega) hE c30 c157 (by rw [Nat.add_zero, ← hA7]; exact hB), fun g => ?_⟩
      rw [nI_eq (by omega) (by omega)] at g
      omega
    refine up1 (P := fun d => C G Y_X12_triesFrom d _ N (Rv Q)) (fun e => b_X12_triesFrom (d := e + (j + 3)) hLN ?_) hd
    rw [e154 hE]
    rcases id hB with ⟨h1, h2⟩ | ⟨y0, h1, h2, h3, h4, h5, h6⟩
    · rw [h1]
      exact ⟨fun _ => body e, fun g => absurd m1.2 g⟩
    · have b3 := cst_le hun (y0 / 823543) (dg y0) (n := n)
      rw [h3, nI_ltI (by omega) (by omega)]
      refine ⟨fun g => absurd g (nI_pos (by omega)), fun _ => ⟨fun g => body e, fun g => hQ N hE c30 c157 (.inr ⟨y0, by omega, h2, h3, h4, h5, fun y hy hyc => ?_⟩)⟩⟩
      by_cases hlo : y < A * 7 ^ (7 - m)
      · exact h6 y hlo hyc
      · obtain ⟨q1, q2⟩ := blk (by omega) (in_blk (by omega) hy : y / 7 ^ (7 - m) = A)
        have := cst_mono (un := unS s) (f := A / 7 ^ m) q2 (n - m)
        rw [show m + (n - m) = n by omega, ← q1] at this
        unfold keyN
        rw [← q1] at g
        omega
