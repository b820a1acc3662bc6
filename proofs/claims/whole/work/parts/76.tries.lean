/-! ===== descent: the reference ===== -/
def canR (na : Nat) (P Qh ru rv : Nat → Nat) (a b : Nat) : Prop := ∃ i, i < na ∧ ru b * rv a * Qh i = ru a * P i * rv b
def AncR (M : Mm) (na n : Nat) (P Qh ru rv s : Nat → Nat) : Prop :=
  M.1 153 0 = nI na ∧ na ≤ 6 ∧ M.1 154 0 = nI n ∧ n ≤ 7 ∧ (∀ i, i < na → M.1 153 (1 + 14 * i + 6) = nI (P i) ∧ P i ≤ 9 ∧ M.1 153 (1 + 14 * i + 7) = nI (Qh i) ∧ Qh i ≤ 9) ∧
  ∀ m, m < n → M.1 154 (1 + 16 * m + 0) = nI (ru m) ∧ ru m ≤ 9 ∧ M.1 154 (1 + 16 * m + 1) = nI (rv m) ∧ rv m ≤ 9 ∧ M.1 154 (1 + 16 * m + 2) = nI (s m) ∧ s m < 256
theorem AncR.ess {M N : Mm} {na n : Nat} {P Qh ru rv s : Nat → Nat} (h : AncR M na n P Qh ru rv s) (e : Ess M N) : AncR N na n P Qh ru rv s := by
  unfold AncR
  rw [e.2.2.2.2.2.2.2.1, e.2.2.2.2.2.2.2.2.1]
  exact h
theorem s_canCopy {G : MG} {d : Nat} {Q : Int32 → Mm → Prop} {M : Mm} {c na n a b : Nat} {P Qh ru rv s : Nat → Nat} (hd : 2 ≤ d) (hL : Lay c M) (hA : AncR M na n P Qh ru rv s) (ha : a < n) (hb : b < n)
    (h1 : canR na P Qh ru rv a b → Q 1 M) (h0 : ¬ canR na P Qh ru rv a b → Q 0 M) : C G Y_X12_canCopy d [.ref (G.b + 147), .int (nI a), .int (nI b)] M (Ri Q) := by
  obtain ⟨a1, a2, a3, a4, a5, a6⟩ := hA
  refine up1 (P := fun d => C G Y_X12_canCopy d _ M (Ri Q)) (fun e => b_X12_canCopy (d := e + 1) hL ?_) hd
  obtain ⟨u1, u2, v1, v2, s1, s2⟩ := a6 a ha
  obtain ⟨u3, u4, v3, v4, s3, s4⟩ := a6 b hb
  have yes : canR na P Qh ru rv a b → ∀ m i, i + m = na → L_X12_canCopy_5 G (e + 1) Q (nI a) (nI b) 1 (nI i) M := by
    intro hc m
    induction m with
    | zero =>
      intro i hi
      refine b_X12_canCopy_5 hL (s_arms (by omega) hL ⟨rfl, fun _ => ⟨.inr rfl, h1 hc⟩, fun g => absurd ?_ g⟩)
      rw [a1, nI_leI (by omega) (by omega)]; omega
    | succ m ih =>
      intro i hi
      refine b_X12_canCopy_5 hL (s_arms (by omega) hL ⟨rfl, fun g => absurd g ?_, fun _ => ⟨fun _ => by rw [nI_1]; exact ih (i + 1) (by omega), fun g => (by cases g)⟩⟩)
      rw [a1, nI_leI (by omega) (by omega)]; omega
  have key : ∀ m i, i + m = na → (∀ j, j < i → ¬ ru b * rv a * Qh j = ru a * P j * rv b) → L_X12_canCopy_5 G (e + 1) Q (nI a) (nI b) 0 (nI i) M := by
    intro m
    induction m with
    | zero =>
      intro i hi hn
      refine b_X12_canCopy_5 hL (s_arms (by omega) hL ⟨rfl, fun _ => ⟨.inl rfl, h0 (fun ⟨j, hj, g⟩ => hn j (by omega) g)⟩, fun g => absurd ?_ g⟩)
      rw [a1, nI_leI (by omega) (by omega)]; omega
    | succ m ih =>
      intro i hi hn
      obtain ⟨p1, p2, q1, q2⟩ := a5 i (by omega)
      refine b_X12_canCopy_5 hL (s_arms (by omega) hL ⟨rfl, fun g => absurd g ?_, fun _ => ⟨fun g => absurd rfl g, fun _ => ?_⟩⟩)
      · rw [a1, nI_leI (by omega) (by omega)]; omega
      · refine s_mapOf 0 (by omega) hL (by omega) (by omega) rfl ⟨rfl, ?_⟩
        refine s_mapOf 1 (by omega) hL (by omega) (by omega) rfl ⟨rfl, ?_⟩
        refine s_of 7 (by omega) hL (by omega) (by omega) rfl ⟨rfl, ?_⟩
        refine s_mapOf 0 (by omega) hL (by omega) (by omega) rfl ⟨rfl, ?_⟩
        refine s_of 6 (by omega) hL (by omega) (by omega) rfl ⟨rfl, ?_⟩
        refine s_mapOf 1 (by omega) hL (by omega) (by omega) rfl ⟨rfl, ?_⟩
        have b1 := mul9 u4 v2 q2
        have b2 := mul9 u2 p2 v4
        rw [u1, u3, v1, v3, p1, q1, pk_mul, pk_mul, pk_mul, pk_mul, nI_eq (by omega) (by omega), nI_1]
        refine ⟨fun g => ih (i + 1) (by omega) (fun j hj => ?_), fun g => yes ⟨i, by omega, g⟩ m (i + 1) (by omega)⟩
        by_cases e1 : j = i
        · subst e1; exact g
        · exact hn j (by omega)
  exact key na 0 (by omega) (fun j hj => by omega)
theorem bit8 : ∀ y, y < 256 → ∀ k, k < 8 → (nI y >>> (nI k &&& 31)) &&& 1 = nI (y / 2 ^ k % 2) := by decide +kernel
theorem sm8 (y : Nat) : sm (fun k => y / 2 ^ k % 2) 8 = pop8 y := by
  show 0 + y / 2 ^ 0 % 2 + y / 2 ^ 1 % 2 + y / 2 ^ 2 % 2 + y / 2 ^ 3 % 2 + y / 2 ^ 4 % 2 + y / 2 ^ 5 % 2 + y / 2 ^ 6 % 2 + y / 2 ^ 7 % 2 = _
  unfold pop8
  rw [Nat.zero_add, show 2 ^ 0 = 1 from rfl, Nat.div_one]
theorem s_unlike {G : MG} {d : Nat} {Q : Int32 → Mm → Prop} {M : Mm} {c na n a b : Nat} {P Qh ru rv s : Nat → Nat} (hd : 2 ≤ d) (hL : Lay c M) (hA : AncR M na n P Qh ru rv s) (ha : a < n) (hb : b < n)
    (h : Q (nI (unS s a b)) M) : C G Y_X12_unlike d [.ref (G.b + 147), .int (nI a), .int (nI b)] M (Ri Q) := by
  obtain ⟨a1, a2, a3, a4, a5, a6⟩ := hA
  refine up1 (P := fun d => C G Y_X12_unlike d _ M (Ri Q)) (fun e => b_X12_unlike (d := e + 1) hL ?_) hd
  obtain ⟨u1, u2, v1, v2, s1, s2⟩ := a6 a ha
  obtain ⟨u3, u4, v3, v4, s3, s4⟩ := a6 b hb
  have key : ∀ m k, k + m = 8 → L_X12_unlike_5 G (e + 1) Q (nI a) (nI b) (nI (sm (fun k => (s a ^^^ s b) / 2 ^ k % 2) k)) (nI k) M := by
    intro m
    induction m with
    | zero =>
      intro k hk
      have : k = 8 := by omega
      subst this
      rw [sm8]
      exact b_X12_unlike_5 hL ⟨fun _ => h, fun g => absurd (by decide) g⟩
    | succ m ih =>
      intro k hk
      refine b_X12_unlike_5 hL ⟨fun g => absurd g ?_, fun _ => ?_⟩
      · rw [show (8 : Int32) = nI 8 from rfl, nI_leI (by omega) (by omega)]; omega
      · refine s_mapOf 2 (by omega) hL (by omega) (by omega) rfl ⟨rfl, ?_⟩
        refine s_mapOf 2 (by omega) hL (by omega) (by omega) rfl ⟨rfl, ?_⟩
        rw [s1, s3, nI_xor, bit8 _ (xor_lt s2 s4) k (by omega), nI_add, nI_1]
        exact ih (k + 1) (by omega)
  exact key 8 0 (by omega)
theorem s_descends {G : MG} {d : Nat} {Q : Int32 → Mm → Prop} {M : Mm} {c n f : Nat} {r : Nat → Nat} (hd : 1 ≤ d) (hL : Lay c M) (hn : n ≤ 7) (hf : M.1 147 30 = nI f) (hfn : f < n) (hr : ∀ k, k < n → M.1 157 k = nI (r k) ∧ r k < n)
    (h1 : (∀ m, m < n → itr f r n m = f) → Q 1 M) (h0 : ¬ (∀ m, m < n → itr f r n m = f) → Q 0 M) : C G Y_X12_descends d [.ref (G.b + 147), .int (nI n)] M (Ri Q) := by
  refine up1 (P := fun d => C G Y_X12_descends d _ M (Ri Q)) (fun e => b_X12_descends (d := e) hL ?_) hd
  have inner : ∀ (x2 : Int32) m, m < n → (∀ x', x' = itr f r n m → (x2 = 0 → L_X12_descends_4 G e Q (nI n) 0 (nI (m + 1)) M) ∧ (¬ x2 = 0 → (¬ x' = f → L_X12_descends_4 G e Q (nI n) 0 (nI (m + 1)) M) ∧ (x' = f → L_X12_descends_4 G e Q (nI n) 1 (nI (m + 1)) M))) →
      ∀ j k x, k + j = n → x < n → itr f r j x = itr f r n m → L_X12_descends_15 G e Q (nI n) x2 (nI m) (nI x) (nI k) M := by
    intro x2 m hm hQ j
    induction j with
    | zero =>
      intro k x hk hx he
      refine b_X12_descends_15 hL ⟨fun _ => ?_, fun g => absurd ?_ g⟩
      · rw [hf, nI_eq (by omega) (by omega), nI_1]
        exact hQ x he
      · rw [nI_leI (by omega) (by omega)]; omega
    | succ j ih =>
      intro k x hk hx he
      have he' : itr f r j (stp f r x) = itr f r n m := he
      refine b_X12_descends_15 hL ⟨fun g => absurd g ?_, fun _ => ?_⟩
      · rw [nI_leI (by omega) (by omega)]; omega
      · rw [hf, nI_eq (by omega) (by omega), nI_1]
        refine ⟨fun g => ⟨(inN (by omega) (by omega)).1, ?_⟩, fun g => ?_⟩
        · rw [nI_clamp (by omega), (hr x hx).1]
          refine ih (k + 1) (r x) (by omega) (hr x hx).2 ?_
          rw [show stp f r x = r x from if_neg g] at he'; exact he'
        · refine ih (k + 1) f (by omega) hfn ?_
          rw [show stp f r x = f from if_pos g] at he'; exact he'
  have no : ¬ (∀ m, m < n → itr f r n m = f) → ∀ j m, m + j = n → L_X12_descends_4 G e Q (nI n) 0 (nI m) M := by
    intro hno j
    induction j with
    | zero =>
      intro m hm
      refine b_X12_descends_4 hL ⟨fun _ => ⟨.inl rfl, h0 hno⟩, fun g => absurd ?_ g⟩
      rw [nI_leI (by omega) (by omega)]; omega
    | succ j ih =>
      intro m hm
      refine b_X12_descends_4 hL ⟨fun g => absurd g ?_, fun _ => inner 0 m (by omega) (fun x' _ => ⟨fun _ => ih (m + 1) (by omega), fun g => absurd rfl g⟩) n 0 m (by omega) (by omega) rfl⟩
      rw [nI_leI (by omega) (by omega)]; omega
  have key : ∀ j m, m + j = n → (∀ m', m' < m → itr f r n m' = f) → L_X12_descends_4 G e Q (nI n) 1 (nI m) M := by
    intro j
    induction j with
    | zero =>
      intro m hm hy
      refine b_X12_descends_4 hL ⟨fun _ => ⟨.inr rfl, h1 (fun m' h => hy m' (by omega))⟩, fun g => absurd ?_ g⟩
      rw [nI_leI (by omega) (by omega)]; omega
    | succ j ih =>
      intro m hm hy
      refine b_X12_descends_4 hL ⟨fun g => absurd g ?_, fun _ => inner 1 m (by omega) (fun x' hx' => ⟨fun g => (by cases g), fun _ => ⟨fun g => no (fun hall => g (by rw [hx']; exact hall m (by omega))) j (m + 1) (by omega), fun g => ih (m + 1) (by omega) (fun m' hm' => ?_)⟩⟩) n 0 m (by omega) (by omega) rfl⟩
      · rw [nI_leI (by omega) (by omega)]; omega
      · by_cases e1 : m' = m
        · subst e1; rw [← hx']; exact g
        · exact hy m' (by omega)
  exact key n 0 (by omega) (fun m' h => by omega)
/-- the best found so far, of all below L -/
def BestM (n : Nat) (can : Nat → Nat → Prop) (un : Nat → Nat → Nat) (N : Mm) (L : Nat) : Prop :=
  (N.1 147 29 = -1 ∧ ∀ y, y < L → ¬ Cd n can y) ∨ ∃ y0, y0 < L ∧ Cd n can y0 ∧ N.1 147 29 = nI (cst un (y0 / 823543) (dg y0) n) ∧ N.1 147 31 = nI (y0 / 823543) ∧ (∀ k, k < n → N.1 158 k = nI (dg y0 k)) ∧ ∀ y, y < L → Cd n can y → keyN n un y0 ≤ keyN n un y
theorem BestM.fr {n : Nat} {can : Nat → Nat → Prop} {un : Nat → Nat → Nat} {N N' : Mm} {L : Nat} (h : BestM n can un N L) (e1 : N'.1 147 29 = N.1 147 29) (e2 : N'.1 147 31 = N.1 147 31) (e3 : ∀ k, N'.1 158 k = N.1 158 k) : BestM n can un N' L := by
  unfold BestM
  rw [e1, e2]
  simp only [e3]
  exact h
theorem BestM.up {n : Nat} {can : Nat → Nat → Prop} {un : Nat → Nat → Nat} {N : Mm} {L L' : Nat} (h : BestM n can un N L) (hl : L ≤ L') (hno : ∀ y, L ≤ y → y < L' → ¬ Cd n can y) : BestM n can un N L' := by
  have ex : ∀ y, y < L' → Cd n can y → y < L := fun y h1 h2 => Classical.byContradiction fun h3 => hno y (by omega) h1 h2
  rcases h with ⟨h1, h2⟩ | ⟨y0, h1, h2, h3, h4, h5, h6⟩
  · exact .inl ⟨h1, fun y hy hc => h2 y (ex y hy hc) hc⟩
  · exact .inr ⟨y0, by omega, h2, h3, h4, h5, fun y hy hc => h6 y (ex y hy hc) hc⟩
/-- the digits of a number's head -/
def rp (A m k : Nat) : Nat := A / 7 ^ (m - 1 - k) % 7
theorem rp_lt (A m k : Nat) : rp A m k < 7 := Nat.mod_lt _ (by omega)
theorem blk {y A m : Nat} (hm : m ≤ 7) (h : y / 7 ^ (7 - m) = A) : y / 823543 = A / 7 ^ m ∧ ∀ k, k < m → dg y k = rp A m k := by
  subst h
  refine ⟨?_, fun k hk => ?_⟩
  · rw [Nat.div_div_eq_div_mul, ← Nat.pow_add, show 7 - m + m = 7 by omega]
  · unfold dg rp
    rw [W7_pow k (by omega), Nat.div_div_eq_div_mul, ← Nat.pow_add, show 7 - m + (m - 1 - k) = 6 - k by omega]
theorem rp_ch {A m j : Nat} (hj : j < 7) : (7 * A + j) / 7 ^ (m + 1) = A / 7 ^ m ∧ rp (7 * A + j) (m + 1) m = j ∧ ∀ k, k < m → rp (7 * A + j) (m + 1) k = rp A m k := by
  have h1 : (7 * A + j) / 7 = A := by omega
  refine ⟨?_, ?_, fun k hk => ?_⟩
  · rw [Nat.pow_succ, Nat.mul_comm (7 ^ m) 7, ← Nat.div_div_eq_div_mul, h1]
  · unfold rp
    rw [show m + 1 - 1 - m = 0 by omega, Nat.pow_zero, Nat.div_one]; omega
  · unfold rp
    rw [show m + 1 - 1 - k = (m - 1 - k) + 1 by omega, Nat.pow_succ, Nat.mul_comm (7 ^ (m - 1 - k)) 7, ← Nat.div_div_eq_div_mul, h1]
theorem in_blk {y A w : Nat} (h1 : A * w ≤ y) (h2 : y < (A + 1) * w) : y / w = A := Nat.div_eq_of_lt_le h1 h2
def PFx (n : Nat) (can : Nat → Nat → Prop) (f : Nat) (r : Nat → Nat) (m : Nat) : Prop := ∀ k, k < m → r k < n ∧ (k = f → r k = f) ∧ (k ≠ f → r k ≠ k ∧ can (r k) k)
theorem cst_le {un : Nat → Nat → Nat} (hun : ∀ a b, un a b ≤ 8) (f : Nat) (r : Nat → Nat) {n : Nat} : cst un f r n ≤ n * 8 := sm_le (fun k _ => by
  show (if k = f then 0 else un (r k) k) ≤ 8
  split
  · omega
  · exact hun _ _)
theorem cst_mono {un : Nat → Nat → Nat} {f : Nat} {r r' : Nat → Nat} {m : Nat} (h : ∀ k, k < m → r' k = r k) : ∀ j, cst un f r m ≤ cst un f r' (m + j)
  | 0 => Nat.le_of_eq (sm_cong (fun k hk => by rw [h k hk]))
  | j + 1 => Nat.le_trans (cst_mono h j) (Nat.le_add_right _ _)
/-- the one number with this head that can tell a descent -/
theorem leaf_cd {n A : Nat} {can : Nat → Nat → Prop} (hn : n ≤ 7) (hf : A / 7 ^ n < n) (hP : PFx n can (A / 7 ^ n) (rp A n) n) (hD : ∀ m, m < n → itr (A / 7 ^ n) (rp A n) n m = A / 7 ^ n) : Cd n can (A * 7 ^ (7 - n)) := by
  have hpos : 0 < 7 ^ (7 - n) := Nat.pow_pos (by omega)
  have hq : A * 7 ^ (7 - n) / 7 ^ (7 - n) = A := Nat.mul_div_cancel _ hpos
  obtain ⟨b1, b2⟩ := blk hn hq
  have ag : ∀ j m, m < n → itr (A / 7 ^ n) (dg (A * 7 ^ (7 - n))) j m = itr (A / 7 ^ n) (rp A n) j m := itr_agree (P := fun m => m < n) hf (fun m hm => (hP m hm).1) b2
  refine ⟨?_, by rw [b1]; exact hf, fun k h1 h2 => ?_, fun k hk => by rw [b2 k hk]; exact (hP k hk).1, ?_, fun k hk hkf => ?_, fun m hm => ?_⟩
  · have : A < 7 * 7 ^ n := (Nat.div_lt_iff_lt_mul (Nat.pow_pos (by omega))).mp (by omega)
    have h2 : A * 7 ^ (7 - n) < 7 * 7 ^ n * 7 ^ (7 - n) := Nat.mul_lt_mul_of_pos_right this hpos
    rw [Nat.mul_assoc, ← Nat.pow_add, show n + (7 - n) = 7 by omega] at h2
    exact h2
  · unfold dg
    rw [W7_pow k h2, show 7 - n = (6 - k) + (1 + (k - n)) by omega, Nat.pow_add, ← Nat.mul_assoc, Nat.mul_right_comm, Nat.mul_div_cancel _ (Nat.pow_pos (by omega)), Nat.pow_add, Nat.pow_one, ← Nat.mul_assoc, Nat.mul_right_comm]
    exact Nat.mul_mod_left _ _
  · rw [b1, b2 _ hf]; exact (hP _ hf).2.1 rfl
  · rw [b1] at hkf
    rw [b2 k hk]; exact (hP k hk).2.2 hkf
  · rw [b1, ag n m hm]; exact hD m hm
theorem leaf_un {n A y : Nat} {can : Nat → Nat → Prop} (hn : n ≤ 7) (hy : y / 7 ^ (7 - n) = A) (hc : Cd n can y) : y = A * 7 ^ (7 - n) ∧ (∀ m, m < n → itr (A / 7 ^ n) (rp A n) n m = A / 7 ^ n) := by
  obtain ⟨c1, c2, c3, c4, c5, c6, c7⟩ := hc
  obtain ⟨b1, b2⟩ := blk hn hy
  have ag : ∀ j m, m < n → itr (A / 7 ^ n) (dg y) j m = itr (A / 7 ^ n) (rp A n) j m := itr_agree (P := fun m => m < n) (by rw [← b1]; exact c2) (fun m hm => by rw [← b2 m hm]; exact c4 m hm) b2
  refine ⟨?_, fun m hm => ?_⟩
  · have hq : A * 7 ^ (7 - n) / 7 ^ (7 - n) = A := Nat.mul_div_cancel _ (Nat.pow_pos (by omega))
    obtain ⟨d1, d2⟩ := blk hn hq
    rw [← dg_sum y, ← dg_sum (A * 7 ^ (7 - n)), b1, d1]
    refine congrArg _ (sm_cong (fun k hk => ?_))
    by_cases g : k < n
    · rw [b2 k g, d2 k g]
    · rw [c3 k (by omega) hk]
      have : dg (A * 7 ^ (7 - n)) k = 0 := by
        unfold dg
        rw [W7_pow k hk, show 7 - n = (6 - k) + (1 + (k - n)) by omega, Nat.pow_add, ← Nat.mul_assoc, Nat.mul_right_comm, Nat.mul_div_cancel _ (Nat.pow_pos (by omega)), Nat.pow_add, Nat.pow_one, ← Nat.mul_assoc, Nat.mul_right_comm]
        exact Nat.mul_mod_left _ _
      rw [this]
  · rw [← ag n m hm, ← b1]; exact c7 m hm
