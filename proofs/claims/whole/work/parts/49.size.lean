/-! ===== size ===== -/
def cha (M : Mm) (i : Nat) : Nat := (M.1 153 (86 + i)).toNatClampNeg
def chv (M : Mm) (w i : Nat) : Nat := (ar M (cha M i) w).toNatClampNeg
def prd (M : Mm) (w : Nat) : Nat → Nat → Nat → Nat
  | 0, _, s => s
  | m + 1, i, s => prd M w m (i + 1) (s * chv M w i)
def smq (M : Mm) : Nat → Nat → Int32 → Int32
  | 0, _, s => s
  | m + 1, i, s => smq M m (i + 1) (s + ar M (cha M i) 8)
def mir (M : Mm) : Nat → Nat → Int32 → Int32
  | 0, _, s => s
  | m + 1, i, s => mir M m (i + 1) (if ar M (cha M i) 0 = 1 then s + 1 else s)
theorem Inv.chP {c k i : Nat} {M : Mm} (hI : Inv c M) (hk4 : k ≤ 4) (hk : M.1 153 85 = nI k) (hi : i < k) : cha M i < 6 ∧ M.1 82 i = nI (cha M i) ∧ M.1 153 (86 + i) = nI (cha M i) ∧ ArmK M c (cha M i) := by
  obtain ⟨k', hk4', -, hk85, hch⟩ := hI.chK
  rw [hk85, nI_eq (by omega) (by omega)] at hk
  subst hk
  obtain ⟨a, h1, h2, h3, h4⟩ := hch i hi
  have e : cha M i = a := by unfold cha; rw [h3]; exact nI_clamp (by omega)
  rw [e]
  exact ⟨h1, h2, h3, h4⟩
theorem Inv.chQ {c k i w : Nat} {M : Mm} (hI : Inv c M) (hk4 : k ≤ 4) (hk : M.1 153 85 = nI k) (hi : i < k) (hw : w = 6 ∨ w = 7) : 1 ≤ chv M w i ∧ chv M w i ≤ 9 ∧ ar M (cha M i) w = nI (chv M w i) ∧ M.1 (70 + w) (cha M i) = nI (chv M w i) := by
  obtain ⟨-, -, -, -, -, ⟨⟨a1, p, p1, p2, p3⟩, ⟨a2, q, q1, q2, q3⟩, -⟩⟩ := hI.chP hk4 hk hi
  rcases hw with rfl | rfl
  · have e : chv M 6 i = p := by unfold chv; rw [show ar M (cha M i) 6 = nI p from p3]; exact nI_clamp (by omega)
    rw [e]
    exact ⟨p1, p2, p3, a1.trans p3⟩
  · have e : chv M 7 i = q := by unfold chv; rw [show ar M (cha M i) 7 = nI q from q3]; exact nI_clamp (by omega)
    rw [e]
    exact ⟨q1, q2, q3, a2.trans q3⟩
theorem prd_b {c k w : Nat} {M : Mm} (hI : Inv c M) (hk4 : k ≤ 4) (hk : M.1 153 85 = nI k) (hw : w = 6 ∨ w = 7) : ∀ m i s, i + m = k → 1 ≤ s → s ≤ 9 ^ i → 1 ≤ prd M w m i s ∧ prd M w m i s ≤ 9 ^ k := by
  intro m
  induction m with
  | zero =>
    intro i s hi h1 h2
    have : i = k := by omega
    subst this
    exact ⟨h1, h2⟩
  | succ m ih =>
    intro i s hi h1 h2
    obtain ⟨v1, v2, -⟩ := hI.chQ hk4 hk (show i < k by omega) hw
    refine ih (i + 1) _ (by omega) (Nat.mul_le_mul h1 v1) ?_
    rw [Nat.pow_succ]
    exact Nat.mul_le_mul h2 v2
theorem s_chainProduct {G : MG} {d : Nat} {Q : Int64 → Mm → Prop} {M : Mm} {c k w : Nat} (hd : 1 ≤ d) (hI : Inv c M) (hk4 : k ≤ 4) (hk : M.1 153 85 = nI k) (hw : w = 6 ∨ w = 7) (h : Q (lN (prd M w k 0 1)) M) : C G Y_X11_chainProduct d [.ref (G.b + 0), .ref (G.b + (70 + w))] M (Rj Q) := by
  have hL := hI.lay
  have hsh : sh (70 + w) = some (.inl (0, 6)) := by rcases hw with rfl | rfl <;> decide
  have hk7 : M.1 75 7 = nI k := by
    obtain ⟨k', hk4', h7, hk85, -⟩ := hI.chK
    rw [hk85, nI_eq (by omega) (by omega)] at hk
    subst hk
    exact h7
  refine up1 (P := fun d => C G Y_X11_chainProduct d _ M (Rj Q)) (fun e => b_X11_chainProduct (d := e) hL hsh ?_) hd
  have key : ∀ m i s, i + m = k → Q (lN (prd M w m i s)) M → L_X11_chainProduct_5 G e Q (70 + w) (lN s) (nI i) M := by
    intro m
    induction m with
    | zero =>
      intro i s hi hq
      refine b_X11_chainProduct_5 hL hsh ⟨fun _ => hq, fun h => absurd ?_ h⟩
      rw [hk7, nI_leI (by omega) (by omega)]; omega
    | succ m ih =>
      intro i s hi hq
      obtain ⟨c1, c2, c3, -⟩ := hI.chP hk4 hk (show i < k by omega)
      obtain ⟨v1, v2, v3, v4⟩ := hI.chQ hk4 hk (show i < k by omega) hw
      refine b_X11_chainProduct_5 hL hsh ⟨fun h => absurd h ?_, fun _ => ⟨(inN (by omega) (by omega)).1, ?_⟩⟩
      · rw [hk7, nI_leI (by omega) (by omega)]; omega
      · rw [nI_clamp (show i < 2 ^ 31 by omega), c2, nI_clamp (show cha M i < 2 ^ 31 by omega), v4, nI_l (by omega), nI_1]
        refine ⟨(inN c1 (by omega)).1, fun v2 e2 => ?_⟩
        rw [lN_mul] at e2
        subst e2
        exact ih (i + 1) _ (by omega) hq
  exact key k 0 1 (by omega) h
theorem m_size {G : MG} {d : Nat} {Q : Int32 → Mm → Prop} {M : Mm} {c k : Nat} {x1 : Int32} (hd : 2 ≤ d) (hI : Inv c M) (hk4 : k ≤ 4) (hk : M.1 153 85 = nI k)
    (h0 : x1 = 0 → Q (nI (prd M 6 k 0 1 / Nat.gcd (prd M 6 k 0 1) (prd M 7 k 0 1))) (sI M 147 0 0))
    (h1 : x1 = 1 → Q (nI (prd M 7 k 0 1 / Nat.gcd (prd M 6 k 0 1) (prd M 7 k 0 1))) (sI M 147 0 0))
    (h2 : x1 = 2 → Q (smq M k 0 0 - smq M k 0 0 / 4 * 4) (sI M 147 0 0)) (h3 : x1 = 3 → Q (mir M k 0 0 - mir M k 0 0 / 2 * 2) (sI M 147 0 0))
    (h4 : ¬ x1 = 0 → ¬ x1 = 1 → ¬ x1 = 2 → ¬ x1 = 3 → Q (-1) (sI M 147 0 0)) : C G Y_X12_size d [.ref (G.b + 147), .int x1] M (Ri Q) := by
  have hL := hI.lay
  have hL1 : Lay c (sI M 147 0 0) := lay_sI hL
  have b6 := prd_b hI hk4 hk (w := 6) (by omega) k 0 1 (by omega) (by omega) (by omega)
  have b7 := prd_b hI hk4 hk (w := 7) (by omega) k 0 1 (by omega) (by omega) (by omega)
  have h94 : 9 ^ k ≤ 9 ^ 4 := Nat.pow_le_pow_right (by omega) hk4
  have h9 : (9 : Nat) ^ 4 = 6561 := by decide
  refine up1 (P := fun d => C G Y_X12_size d _ M (Ri Q)) (fun e => b_X12_size (d := e + 1) hL (fun M1 e1 => ?_)) hd
  subst e1
  have key : ∀ m i p q s t, i + m = k → prd M 6 m i p = prd M 6 k 0 1 → prd M 7 m i q = prd M 7 k 0 1 → smq M m i s = smq M k 0 0 → mir M m i t = mir M k 0 0 → L_X12_size_18 G (e + 1) Q x1 (nI p) (nI q) s t (nI i) (sI M 147 0 0) := by
    intro m
    induction m with
    | zero =>
      intro i p q s t hi hp hq hs ht
      have hp' : p = prd M 6 k 0 1 := hp
      have hq' : q = prd M 7 k 0 1 := hq
      have hs' : s = smq M k 0 0 := hs
      have ht' : t = mir M k 0 0 := ht
      rw [← hp'] at b6 h0 h1
      rw [← hq'] at b7 h0 h1
      rw [← hs'] at h2
      rw [← ht'] at h3
      have hg : 0 < Nat.gcd p q := Nat.gcd_pos_of_pos_left q (by omega)
      have hgl : Nat.gcd p q ≤ p := Nat.gcd_le_left q (by omega)
      have hne : ¬ (lN (Nat.gcd p q)).toInt32 = 0 := by
        rw [lN_i, show (0 : Int32) = nI 0 from rfl, nI_eq (by omega) (by omega)]; omega
      refine b_X12_size_18 hL1 (s_chained (by omega) hL1 ⟨rfl, fun _ => ?_, fun h => absurd ?_ h⟩)
      · rw [nI_l (by omega), nI_l (by omega)]
        refine s_common (a := p) (by omega) hL1 (by omega) (fun _ => rfl) (fun h => absurd ?_ h) (by omega) ⟨rfl, fun e0 => ⟨fun e1 => ⟨fun e2 => ⟨fun e3 => h4 e0 e1 e2 e3, fun e3 => h3 e3⟩, fun e2 => h2 e2⟩, fun e1 => ⟨hne, ?_⟩⟩, fun e0 => ⟨hne, ?_⟩⟩
        · rw [show (0 : Int64) = lN 0 from rfl, pk_lLE (by omega) (by omega)]; omega
        · rw [lN_i, pk_div (by omega) hg (by omega)]; exact h1 e1
        · rw [lN_i, pk_div (by omega) hg (by omega)]; exact h0 e0
      · rw [show (sI M 147 0 0).1 153 85 = nI k from hk, nI_leI (by omega) (by omega)]; omega
    | succ m ih =>
      intro i p q s t hi hp hq hs ht
      obtain ⟨c1, c2, c3, -⟩ := hI.chP hk4 hk (show i < k by omega)
      obtain ⟨-, -, v6, -⟩ := hI.chQ hk4 hk (show i < k by omega) (w := 6) (by omega)
      obtain ⟨-, -, v7, -⟩ := hI.chQ hk4 hk (show i < k by omega) (w := 7) (by omega)
      have c3' : (sI M 147 0 0).1 153 (86 + i) = nI (cha M i) := c3
      refine b_X12_size_18 hL1 (s_chained (by omega) hL1 ⟨rfl, fun h => absurd h ?_, fun _ => ?_⟩)
      · rw [show (sI M 147 0 0).1 153 85 = nI k from hk, nI_leI (by omega) (by omega)]; omega
      · refine s_chainOf (by omega) hL1 (by omega) ⟨rfl, ?_⟩
        rw [c3']
        refine s_of 6 (by omega) hL1 c1 (by omega) rfl ⟨rfl, ?_⟩
        refine s_chainOf (by omega) hL1 (by omega) ⟨rfl, ?_⟩
        rw [c3']
        refine s_of 7 (by omega) hL1 c1 (by omega) rfl ⟨rfl, ?_⟩
        refine s_chainOf (by omega) hL1 (by omega) ⟨rfl, ?_⟩
        rw [c3']
        refine s_of 8 (by omega) hL1 c1 (by omega) rfl ⟨rfl, ?_⟩
        refine s_chainOf (by omega) hL1 (by omega) ⟨rfl, ?_⟩
        rw [c3']
        refine s_of 0 (by omega) hL1 c1 (by omega) rfl ⟨rfl, ?_⟩
        rw [show (sI M 147 0 0).1 153 (1 + 14 * cha M i + 6) = nI (chv M 6 i) from v6, show (sI M 147 0 0).1 153 (1 + 14 * cha M i + 7) = nI (chv M 7 i) from v7, pk_mul, pk_mul, nI_1]
        refine ⟨fun hm => ih (i + 1) _ _ _ _ (by omega) hp hq hs ?_, fun hm => ih (i + 1) _ _ _ _ (by omega) hp hq hs ?_⟩
        · rw [show mir M (m + 1) i t = mir M m (i + 1) (if ar M (cha M i) 0 = 1 then t + 1 else t) from rfl, if_neg (show ¬ ar M (cha M i) 0 = 1 from hm)] at ht
          rw [Int32.add_zero]; exact ht
        · rw [show mir M (m + 1) i t = mir M m (i + 1) (if ar M (cha M i) 0 = 1 then t + 1 else t) from rfl, if_pos (show ar M (cha M i) 0 = 1 from hm)] at ht
          exact ht
  exact key k 0 1 1 0 0 (by omega) rfl rfl rfl rfl
theorem c_size {G : MG} {d : Nat} {M : Mm} {c : Nat} {x1 : Int32} (hd : 3 ≤ d) (hI : Inv c M) : Two G d c Y_X11_size [.ref (G.b + 0), .int x1] Y_X12_size [.ref (G.b + 147), .int x1] M := by
  have hL := hI.lay
  obtain ⟨k, hk4, hk7, hk, -⟩ := hI.chK
  have b6 := prd_b hI hk4 hk (w := 6) (by omega) k 0 1 (by omega) (by omega) (by omega)
  have b7 := prd_b hI hk4 hk (w := 7) (by omega) k 0 1 (by omega) (by omega) (by omega)
  have h94 : 9 ^ k ≤ 9 ^ 4 := Nat.pow_le_pow_right (by omega) hk4
  have h9 : (9 : Nat) ^ 4 = 6561 := by decide
  have hg : 0 < Nat.gcd (prd M 6 k 0 1) (prd M 7 k 0 1) := Nat.gcd_pos_of_pos_left _ (by omega)
  have hgl : Nat.gcd (prd M 6 k 0 1) (prd M 7 k 0 1) ≤ prd M 6 k 0 1 := Nat.gcd_le_left _ (by omega)
  have nn : ∀ {a b : Int32} {P : Prop}, a ≠ b → x1 = a → x1 = b → P := fun h e1 e2 => absurd (e1.symm.trans e2) h
  have x : ∀ e, C G Y_X11_size (e + 3) [.ref (G.b + 0), .int x1] M (Ri fun r M1 => M1.2.2 = M.2.2 ∧ C G Y_X12_size d [.ref (G.b + 147), .int x1] M1 (Ri fun r' M2 => M2.2.2 = M1.2.2 ∧ r = r' ∧ Inv c M2)) := by
    intro e
    refine b_X11_size (d := e + 2) hL ⟨fun e0 => ?_, fun e0 => ?_, fun e0 => ?_, fun e0 => ?_, fun e0 e1 e2 e3 => ⟨rfl, m_size (by omega) hI hk4 hk (fun h => absurd h e0) (fun h => absurd h e1) (fun h => absurd h e2) (fun h => absurd h e3) (fun _ _ _ _ => ⟨rfl, rfl, hI.th⟩)⟩⟩
    · refine s_chainProduct (w := 6) (by omega) hI hk4 hk (by omega) ⟨rfl, ?_⟩
      refine s_chainProduct (w := 7) (by omega) hI hk4 hk (by omega) ⟨rfl, ?_⟩
      refine s_inLowest (by omega) hL (by omega) (by omega) (abs_lN (by omega)) (abs_lN (by omega)) hg ⟨rfl, rfl, ?_⟩
      rw [pk_lDiv (by omega) hg (by omega), lN_i]
      exact m_size (by omega) hI hk4 hk (fun _ => ⟨rfl, rfl, hI.th⟩) (nn (by decide) e0) (nn (by decide) e0) (nn (by decide) e0) (fun h => absurd e0 h)
    · refine s_chainProduct (w := 7) (by omega) hI hk4 hk (by omega) ⟨rfl, ?_⟩
      refine s_chainProduct (w := 6) (by omega) hI hk4 hk (by omega) ⟨rfl, ?_⟩
      refine s_inLowest (by omega) hL (by omega) (by omega) (abs_lN (by omega)) (abs_lN (by omega)) (by rw [Nat.gcd_comm]; exact hg) ⟨rfl, rfl, ?_⟩
      rw [Nat.gcd_comm, pk_lDiv (by omega) hg (by omega), lN_i]
      exact m_size (by omega) hI hk4 hk (nn (by decide) e0) (fun _ => ⟨rfl, rfl, hI.th⟩) (nn (by decide) e0) (nn (by decide) e0) (fun _ h => absurd e0 h)
    · have fin : ∀ r, r = smq M k 0 0 - smq M k 0 0 / 4 * 4 → C G Y_X12_size d [.ref (G.b + 147), .int x1] M (Ri fun r' M2 => M2.2.2 = M.2.2 ∧ r = r' ∧ Inv c M2) := fun r hr =>
        m_size (by omega) hI hk4 hk (nn (by decide) e0) (nn (by decide) e0) (fun _ => ⟨rfl, hr, hI.th⟩) (nn (by decide) e0) (fun _ _ h => absurd e0 h)
      have key : ∀ m i s, i + m = k → smq M m i s = smq M k 0 0 → L_X11_chainQuarters_4 G (e + 1) (fun r N => N.2.2 = M.2.2 ∧ N.2.2 = M.2.2 ∧ C G Y_X12_size d [.ref (G.b + 147), .int x1] N (Ri fun r' M2 => M2.2.2 = N.2.2 ∧ r = r' ∧ Inv c M2)) s (nI i) M := by
        intro m
        induction m with
        | zero =>
          intro i s hi hs
          refine b_X11_chainQuarters_4 hL ⟨fun _ => ⟨rfl, rfl, fin _ (by rw [show s = smq M k 0 0 from hs])⟩, fun h => absurd ?_ h⟩
          rw [hk7, nI_leI (by omega) (by omega)]; omega
        | succ m ih =>
          intro i s hi hs
          obtain ⟨c1, c2, c3, c4⟩ := hI.chP hk4 hk (show i < k by omega)
          refine b_X11_chainQuarters_4 hL ⟨fun h => absurd h ?_, fun _ => ⟨(inN (by omega) (by omega)).1, ?_⟩⟩
          · rw [hk7, nI_leI (by omega) (by omega)]; omega
          · rw [nI_clamp (show i < 2 ^ 31 by omega), c2, nI_clamp (show cha M i < 2 ^ 31 by omega), nI_1, show M.1 78 (cha M i) = ar M (cha M i) 8 from c4.2.2.2.2.1.1]
            exact ⟨(inN c1 (by omega)).1, ih (i + 1) _ (by omega) hs⟩
      exact b_X11_chainQuarters (d := e + 1) hL (key k 0 0 (by omega) rfl)
    · have fin : ∀ r, r = mir M k 0 0 → C G Y_X12_size d [.ref (G.b + 147), .int x1] M (Ri fun r' M2 => M2.2.2 = M.2.2 ∧ r - r / 2 * 2 = r' ∧ Inv c M2) := fun r hr => by
        subst hr
        exact m_size (by omega) hI hk4 hk (nn (by decide) e0) (nn (by decide) e0) (nn (by decide) e0) (fun _ => ⟨rfl, rfl, hI.th⟩) (fun _ _ _ h => absurd e0 h)
      have key : ∀ m i s, i + m = k → mir M m i s = mir M k 0 0 → L_X11_chainMirrors_4 G (e + 1) (fun r N => N.2.2 = M.2.2 ∧ N.2.2 = M.2.2 ∧ C G Y_X12_size d [.ref (G.b + 147), .int x1] N (Ri fun r' M2 => M2.2.2 = N.2.2 ∧ r - r / 2 * 2 = r' ∧ Inv c M2)) s (nI i) M := by
        intro m
        induction m with
        | zero =>
          intro i s hi hs
          refine b_X11_chainMirrors_4 hL hI.cc ⟨fun _ => ⟨rfl, rfl, fin _ hs⟩, fun h => absurd ?_ h⟩
          rw [hk7, nI_leI (by omega) (by omega)]; omega
        | succ m ih =>
          intro i s hi hs
          obtain ⟨c1, c2, c3, c4⟩ := hI.chP hk4 hk (show i < k by omega)
          rw [show mir M (m + 1) i s = mir M m (i + 1) (if ar M (cha M i) 0 = 1 then s + 1 else s) from rfl] at hs
          refine b_X11_chainMirrors_4 hL hI.cc ⟨fun h => absurd h ?_, fun _ => ⟨(inN (by omega) (by omega)).1, ?_⟩⟩
          · rw [hk7, nI_leI (by omega) (by omega)]; omega
          · rw [nI_clamp (show i < 2 ^ 31 by omega), c2, nI_clamp (show cha M i < 2 ^ 31 by omega), nI_1, show c + 1 + 2 + 2 * cha M i = c + 3 + 2 * cha M i by omega, show M.1 (c + 3 + 2 * cha M i) 1 = ar M (cha M i) 0 from c4.2.1.1]
            refine ⟨(inN c1 (by omega)).1, fun hm => ih (i + 1) _ (by omega) ?_, fun hm => ih (i + 1) _ (by omega) ?_⟩
            · rw [if_neg hm] at hs; exact hs
            · rw [if_pos hm] at hs; exact hs
      exact b_X11_chainMirrors (d := e + 1) hL hI.cc (key k 0 0 (by omega) rfl)
  exact up1 (P := fun d' => C G Y_X11_size d' [.ref (G.b + 0), .int x1] M (Ri fun r M1 => M1.2.2 = M.2.2 ∧ C G Y_X12_size d [.ref (G.b + 147), .int x1] M1 (Ri fun r' M2 => M2.2.2 = M1.2.2 ∧ r = r' ∧ Inv c M2))) x hd
