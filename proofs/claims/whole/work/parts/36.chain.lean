/-! ===== chain ===== -/
theorem le_nlt {a b : Int32} (h : a ≤ b) : ¬ b < a := by
  rw [Int32.lt_iff_toInt_lt]; rw [Int32.le_iff_toInt_le] at h; omega
theorem nle_lt {a b : Int32} (h : ¬ a ≤ b) : b < a := by
  rw [Int32.lt_iff_toInt_lt]; rw [Int32.le_iff_toInt_le] at h; omega
theorem s_hasChained {G : MG} {d : Nat} {Q : Int32 → Mm → Prop} {M : Mm} {c k : Nat} {x1 : Int32} (hd : 1 ≤ d) (hL : Lay c M) (hk : M.1 75 7 = nI k) (h4 : k ≤ 4)
    (h0 : (∀ i, i < k → ¬ M.1 82 i = x1) → Q 0 M) (h1 : (∃ i, i < k ∧ M.1 82 i = x1) → Q 1 M) : C G Y_X7_hasChained d [.ref (G.b + 75), .int x1] M (Ri Q) := by
  refine up1 (P := fun d => C G Y_X7_hasChained d _ M (Ri Q)) (fun e => b_X7_hasChained (d := e) hL (by decide) ?_) hd
  have key : ∀ m i, i + m = k → (∀ i', i' < i → ¬ M.1 82 i' = x1) → L_X7_hasChained_2 G e Q 75 x1 (nI i) M := by
    intro m
    induction m with
    | zero =>
      intro i hi hn
      refine b_X7_hasChained_2 hL (by decide) ⟨fun _ => h0 (fun i' hi' => hn i' (by omega)), fun h => absurd ?_ h⟩
      rw [hk, nI_leI (by omega) (by omega)]
      omega
    | succ m ih =>
      intro i hi hn
      refine b_X7_hasChained_2 hL (by decide) ⟨fun h => absurd h ?_, fun h => ⟨(inN (by omega) (by omega)).1, ?_⟩⟩
      · rw [hk, nI_leI (by omega) (by omega)]
        omega
      · rw [nI_clamp (show i < 2 ^ 31 by omega), nI_1]
        refine ⟨fun h2 => ih (i + 1) (by omega) (fun i' hi' => ?_), fun h2 => h1 ⟨i, by omega, h2⟩⟩
        by_cases he : i' = i
        · rw [he]; exact h2
        · exact hn i' (by omega)
  exact key k 0 (by omega) (fun i' hi' => by omega)
theorem x_chain {G : MG} {d : Nat} {Q : Int32 → Mm → Prop} {M : Mm} {c : Nat} {x1 : Int32} (hd : 2 ≤ d) (hL : Lay c M) (hc : c = 3 ∨ c = 39) {n k : Nat} (hn : M.1 c 2 = nI n) (h6 : n ≤ 6) (hk : M.1 75 7 = nI k) (h4 : k ≤ 4)
    (hneg : x1 < 0 → Q 0 (sI M 75 7 0)) (hbad : ¬ x1 < 0 → nI n ≤ x1 ∨ (∃ i, i < k ∧ M.1 82 i = x1) ∨ k = 4 → Q (-1) M)
    (hok : ∀ j, j < n → x1 = nI j → (∀ i, i < k → ¬ M.1 82 i = x1) → k < 4 → Q (nI (k + 1)) (sI (sI M 82 k x1) 75 7 (nI (k + 1)))) : C G Y_X11_chain d [.ref (G.b + 0), .int x1] M (Ri Q) := by
  refine up1 (P := fun d => C G Y_X11_chain d _ M (Ri Q)) (fun e => b_X11_chain (d := e + 1) hL hc ⟨fun h0 => ?_, fun h0 => ?_⟩) hd
  · have hp : ¬ x1 < 0 := le_nlt h0
    refine s_hasArm (by omega) hL hc ⟨rfl, fun h => ?_, fun h => ?_⟩
    · rw [hn] at h
      rcases if01 h with h | h
      · exact absurd h hp
      · exact hbad hp (.inl h)
    · rw [hn] at h
      obtain ⟨j, hj, rfl⟩ := an_of (by omega) (if02 h)
      refine s_hasChained (by omega) hL hk h4 (fun h1 => ⟨rfl, fun h => absurd rfl h, fun _ => ?_⟩) (fun h1 => ⟨rfl, fun _ => hbad hp (.inr (.inl h1)), fun h => (by cases h)⟩)
      refine ⟨fun h2 => ?_, fun h2 => hbad hp (.inr (.inr ?_))⟩
      · rw [hk, show (4 : Int32) = nI 4 from rfl, nI_ltI (by omega) (by omega)] at h2
        rw [hk, nI_clamp (show k < 2 ^ 31 by omega)]
        refine ⟨(inN (by omega) (by omega)).1, fun M9 e9 M10 e10 => ?_⟩
        subst e9
        rw [show (sI M 82 k (nI j)).1 75 7 = nI k by rw [rd_sI, if_neg (by omega)]; exact hk, nI_1] at e10
        subst e10
        rw [show (sI (sI M 82 k (nI j)) 75 7 (nI (k + 1))).1 75 7 = nI (k + 1) by rw [rd_sI, if_pos ⟨rfl, rfl⟩]]
        exact hok j hj rfl h1 h2
      · rw [hk, show (4 : Int32) = nI 4 from rfl, nI_ltI (by omega) (by omega)] at h2
        omega
  · intro M11 e11
    subst e11
    exact hneg (nle_lt h0)
theorem m_chain {G : MG} {d : Nat} {Q : Int32 → Mm → Prop} {M : Mm} {c : Nat} {x1 : Int32} (hd : 3 ≤ d) (hL : Lay c M) {n k : Nat} (hn : M.1 153 0 = nI n) (h6 : n ≤ 6) (hk : M.1 153 85 = nI k) (h4 : k ≤ 4)
    (hneg : x1 < 0 → Q 0 (sI (sI M 147 0 0) 153 85 0)) (hbad : ¬ x1 < 0 → nI n ≤ x1 ∨ (∃ i, i < k ∧ M.1 153 (86 + i) = x1) ∨ k = 4 → Q (-1) (sI M 147 0 0))
    (hok : ∀ j, j < n → x1 = nI j → (∀ i, i < k → ¬ M.1 153 (86 + i) = x1) → k < 4 → Q (nI (k + 1)) (sI (sI (sI M 147 0 0) 153 (86 + k) x1) 153 85 (nI (k + 1)))) : C G Y_X12_chain d [.ref (G.b + 147), .int x1] M (Ri Q) := by
  refine up1 (P := fun d => C G Y_X12_chain d _ M (Ri Q)) (fun e => b_X12_chain (d := e + 2) hL (fun M1 e1 => ?_)) hd
  subst e1
  have hL1 : Lay c (sI M 147 0 0) := lay_sI hL
  refine ⟨fun h0 => ?_, fun h0 M3 e3 => ?_⟩
  · have hp : ¬ x1 < 0 := le_nlt h0
    have key : ∀ m i f, i + m = k → (f = 0 ∧ (∀ i', i' < i → ¬ M.1 153 (86 + i') = x1) ∨ f = 1 ∧ ∃ i', i' < i ∧ M.1 153 (86 + i') = x1) → L_X12_chain_23 G (e + 2) Q x1 f (nI i) (sI M 147 0 0) := by
      intro m
      induction m with
      | zero =>
        intro i f hi hf
        refine b_X12_chain_23 hL1 (s_chained (by omega) hL1 ⟨rfl, fun _ => ?_, fun h => absurd ?_ h⟩)
        · refine s_isArm (by omega) hL1 ⟨rfl, fun h => ?_, fun h => ?_⟩
          · have := if01 h
            rw [show (sI M 147 0 0).1 153 0 = nI n from hn] at this
            rcases this with h | h
            · exact absurd h hp
            · exact hbad hp (.inl h)
          · have := if02 h
            rw [show (sI M 147 0 0).1 153 0 = nI n from hn] at this
            obtain ⟨j, hj, rfl⟩ := an_of (by omega) this
            rcases hf with ⟨rfl, hf⟩ | ⟨rfl, i', hi', hf⟩
            · refine ⟨fun h => absurd rfl h, fun _ => s_chained (by omega) hL1 ⟨rfl, fun h9 => ?_, fun h9 => ?_⟩⟩
              · rw [show (sI M 147 0 0).1 153 85 = nI k from hk, show (4 : Int32) = nI 4 from rfl, nI_eq (by omega) (by omega)] at h9
                refine s_chained (by omega) hL1 ⟨rfl, ?_⟩
                rw [show (sI M 147 0 0).1 153 85 = nI k from hk]
                refine ⟨(ix4 (by omega)).1, fun M13 e13 M14 e14 => ?_⟩
                rw [(ix4 (by omega)).2] at e13
                have e5 : M13.1 153 (Int32.toNatClampNeg 85) = nI k := by
                  rw [e13, show Int32.toNatClampNeg 85 = 85 from rfl, rd_sI, if_neg (by omega)]
                  exact hk
                rw [e5, nI_1, show Int32.toNatClampNeg 85 = 85 from rfl] at e14
                subst e14; subst e13
                refine s_chained (by omega) (lay_sI (lay_sI hL1)) ⟨rfl, ?_⟩
                rw [show (sI (sI (sI M 147 0 0) 153 (86 + k) (nI j)) 153 85 (nI (k + 1))).1 153 85 = nI (k + 1) by rw [rd_sI, if_pos ⟨rfl, rfl⟩]]
                exact hok j hj rfl (fun i hi => hf i (by omega)) (by omega)
              · rw [show (sI M 147 0 0).1 153 85 = nI k from hk, show (4 : Int32) = nI 4 from rfl, nI_eq (by omega) (by omega)] at h9
                exact hbad hp (.inr (.inr h9))
            · exact ⟨fun _ => hbad hp (.inr (.inl ⟨i', by omega, hf⟩)), fun h => (by cases h)⟩
        · rw [show (sI M 147 0 0).1 153 85 = nI k from hk, nI_leI (by omega) (by omega)]
          omega
      | succ m ih =>
        intro i f hi hf
        refine b_X12_chain_23 hL1 (s_chained (by omega) hL1 ⟨rfl, fun h => absurd h ?_, fun _ => ?_⟩)
        · rw [show (sI M 147 0 0).1 153 85 = nI k from hk, nI_leI (by omega) (by omega)]
          omega
        · rw [nI_1]
          refine ⟨fun h => ih (i + 1) 1 (by omega) (.inr ⟨rfl, ?_⟩), fun h => s_chainOf (by omega) hL1 (by omega) ⟨rfl, fun h2 => ih (i + 1) 0 (by omega) (.inl ⟨rfl, ?_⟩), fun h2 => ih (i + 1) 1 (by omega) (.inr ⟨rfl, i, by omega, h2⟩)⟩⟩
          · rcases hf with ⟨rfl, hf⟩ | ⟨-, i', hi', hf⟩
            · exact absurd rfl h
            · exact ⟨i', by omega, hf⟩
          · intro i' hi'
            rcases hf with ⟨-, hf⟩ | ⟨rfl, -⟩
            · by_cases he : i' = i
              · rw [he]; exact h2
              · exact hf i' (by omega)
            · cases h
    exact key k 0 0 (by omega) (.inl ⟨rfl, fun i' hi' => by omega⟩)
  · subst e3
    exact hneg (nle_lt h0)
/-- the chain is laid anew, on both sides -/
theorem Inv.chn {c : Nat} {M N : Mm} (hI : Inv c M) (e : N.2.2 = M.2.2) (eJ : N.2.1 152 = M.2.1 152)
    (e1 : ∀ o k, ES o k → (o = 75 → k ≠ 7) → (o ≠ 82) → (o = 153 → ¬ (85 ≤ k ∧ k ≤ 89)) → N.1 o k = M.1 o k)
    (hH : ∀ n, n ≤ 6 → M.1 153 0 = nI n → ChainC M 75 (M.1 153) n → ChainC N 75 (N.1 153) n) : Inv c N := by
  refine hI.now e eJ (fun o k h1 h2 h3 => e1 o k h1 (by omega) (by omega) (fun h => ?_)) ?_
  · intro hk
    have := h3 h (by omega)
    unfold statI at this
    omega
  · intro n hn h0 hS
    obtain ⟨s1, s2, s3⟩ := hS
    have r0 : ∀ k, k < 85 ∨ 89 < k → N.1 153 k = M.1 153 k := fun k hk => e1 153 k (by unfold ES; omega) (by omega) (by omega) (fun _ => by omega)
    have r1 : ∀ o k, 76 ≤ o → o ≤ 84 → o ≠ 82 → N.1 o k = M.1 o k := fun o k h1 h2 h3 => e1 o k (by unfold ES; omega) (by omega) (by omega) (by omega)
    have r2 : N.1 75 10 = M.1 75 10 := e1 75 10 (by unfold ES; omega) (by omega) (by omega) (by omega)
    refine ⟨fun a ha => ?_, hH n hn h0 s2, ?_⟩
    · have h4 := s1 a ha
      unfold HandC at h4 ⊢
      have q2 : ∀ w, w < 14 → N.1 153 (1 + 14 * a + w) = M.1 153 (1 + 14 * a + w) := fun w hw => r0 _ (by omega)
      simp only [r1 (75 + 1) a (by omega) (by omega) (by omega), r1 (75 + 2) a (by omega) (by omega) (by omega), r1 (75 + 3) a (by omega) (by omega) (by omega), r1 (75 + 4) a (by omega) (by omega) (by omega), r1 (75 + 5) a (by omega) (by omega) (by omega), r1 (75 + 6) a (by omega) (by omega) (by omega), q2 6 (by omega), q2 7 (by omega), q2 8 (by omega), q2 9 (by omega), q2 10 (by omega), q2 13 (by omega)]
      exact h4
    · obtain ⟨c1, c2⟩ := s3
      refine ⟨by rw [r2]; exact c1, fun q hq => ?_⟩
      rw [r2, r0 (90 + 3 * q) (by omega), r0 (91 + 3 * q) (by omega), r0 (92 + 3 * q) (by omega), r1 (75 + 8) q (by omega) (by omega) (by omega), r1 (75 + 9) q (by omega) (by omega) (by omega)]
      exact c2 q hq
theorem c_chain {G : MG} {d : Nat} {M : Mm} {c : Nat} {x1 : Int32} (hd : 3 ≤ d) (hI : Inv c M) : Two G d c Y_X11_chain [.ref (G.b + 0), .int x1] Y_X12_chain [.ref (G.b + 147), .int x1] M := by
  have hL := hI.lay
  obtain ⟨n, ⟨o1, o2, o3, o4⟩, ⟨-, ⟨k1, k, k2, k3, k4, k5⟩, -⟩, -⟩ := hI.2.2.2.2.1
  have hsame : ∀ i, i < k → (M.1 82 i = M.1 153 (86 + i)) := fun i hi => (k4 i hi).1
  refine x_chain (by omega) hL hI.cc o1 o3 (k1.trans k3) k2 (fun hneg => ⟨rfl, m_chain hd (lay_sI hL) (n := n) (k := k) o2 o3 k3 k2 (fun _ => ⟨rfl, rfl, ?_⟩) (fun h => absurd hneg h) (fun j hj e => ?_)⟩) (fun hp hb => ⟨rfl, m_chain hd hL o2 o3 k3 k2 (fun h => absurd h hp) (fun _ _ => ⟨rfl, rfl, hI.th⟩) (fun j hj e hno h4 => ?_)⟩) (fun j hj e hno h4 => ⟨rfl, m_chain hd (lay_sI (lay_sI hL)) (n := n) (k := k) o2 o3 k3 k2 (fun h => ?_) (fun hp hb => ?_) (fun j' hj' e' _ _ => ⟨rfl, rfl, ?_⟩)⟩)
  · refine hI.chn rfl rfl (fun o i a1 a2 a3 a4 => ?_) (fun n hn h0 hC => ⟨?_, 0, by omega, ?_, fun i hi => by omega, fun i j hi => by omega⟩)
    · unfold ES at a1
      simp only [rd_sI]
      rw [if_neg (by omega), if_neg (by omega), if_neg (by omega)]
    · simp [rd_sI]
    · simp [rd_sI]
      rfl
  · subst e
    exact absurd hneg (nI_pos (by omega))
  · subst e
    rcases hb with hb | ⟨i, hi, hb⟩ | hb
    · exact absurd hb (nI_ge hj (by omega))
    · rw [hsame i hi] at hb
      exact absurd hb (hno i hi)
    · omega
  · subst e
    exact absurd h (nI_pos (by omega))
  · subst e
    rcases hb with hb | ⟨i, hi, hb⟩ | hb
    · exact absurd hb (nI_ge hj (by omega))
    · have := hno i hi
      rw [hsame i hi] at this
      exact absurd hb this
    · omega
  · subst e
    refine hI.chn rfl rfl (fun o i a1 a2 a3 a4 => ?_) (fun n' hn' h0 hC => ?_)
    · unfold ES at a1
      simp only [rd_sI]
      rw [if_neg (by omega), if_neg (by omega), if_neg (by omega), if_neg (by omega), if_neg (by omega)]
    · rw [o2, nI_eq (by omega) (by omega)] at h0
      subst h0
      refine ⟨by simp [rd_sI], k + 1, by omega, by simp [rd_sI], fun i hi => ?_, fun i i2 hi hi2 => ?_⟩
      · by_cases he : i = k
        · subst he
          refine ⟨(by simp [rd_sI]; intro h; omega), j, hj, (by simp [rd_sI]; intro h; omega)⟩
        · simp only [rd_sI]
          rw [if_neg (by omega), if_neg (by omega), if_neg (by omega), if_neg (by omega), if_neg (by omega), if_neg (by omega), if_neg (by omega), if_neg (by omega), if_neg (by omega), if_neg (by omega)]
          exact k4 i (by omega)
      · have g : ∀ i, i < k + 1 → (sI (sI (sI (sI (sI M 82 k (nI j)) 75 7 (nI (k + 1))) 147 0 0) 153 (86 + k) (nI j)) 153 85 (nI (k + 1))).1 153 (86 + i) = if i = k then nI j else M.1 153 (86 + i) := by
          intro i hi
          simp only [rd_sI]
          rw [if_neg (by omega)]
          by_cases he : i = k
          · rw [if_pos he, if_pos ⟨trivial, by rw [he]⟩]
          · rw [if_neg (by omega), if_neg (by omega), if_neg (by omega), if_neg (by omega), if_neg he]
        rw [g i hi, g i2 hi2]
        have hn2 : ∀ i, i < k → ¬ M.1 153 (86 + i) = nI j := fun i hi => by rw [← hsame i hi]; exact hno i hi
        by_cases h1 : i = k
        · by_cases h2 : i2 = k
          · intro _; omega
          · rw [if_pos h1, if_neg h2]
            exact fun h => absurd h.symm (hn2 i2 (by omega))
        · by_cases h2 : i2 = k
          · rw [if_neg h1, if_pos h2]
            exact fun h => absurd h (hn2 i (by omega))
          · rw [if_neg h1, if_neg h2]
            exact k5 i i2 (by omega) (by omega)
