/-! ===== office: the reference's call ===== -/
/-- behind a fault -/
def FMe (M N : Mm) : Prop := N.2.2 = M.2.2 ∧ (∀ o, o ≠ 147 → o ≠ 149 → o ≠ 150 → o ≠ 153 → o ≠ 154 → N.1 o = M.1 o) ∧ N.1 147 2 = 0 ∧ (∀ k, (k < 110 ∨ 220 ≤ k) → N.1 153 k = M.1 153 k) ∧ (∀ k, k < 120 → N.1 154 k = M.1 154 k) ∧ N.2.1 152 = M.2.1 152
/-- behind a told office -/
def FMo (M N : Mm) (na nc : Nat) (R : Nat → Nat → Nat) (Mp : Nat → MapD) : Prop := N.2.2 = M.2.2 ∧ (∀ o, o ≠ 147 → o ≠ 149 → o ≠ 150 → o ≠ 153 → o ≠ 154 → o ≠ 156 → N.1 o = M.1 o) ∧ N.1 147 2 = 0 ∧ N.2.1 152 = M.2.1 152 ∧ (∀ q, q < 4 → N.1 156 q = 0) ∧
  N.1 153 0 = nI na ∧ (∀ a, a < na → RX N (1 + 14 * a) (R a)) ∧ (∀ k, 85 ≤ k → k < 110 → N.1 153 k = 0) ∧ N.1 154 0 = nI nc ∧ ∀ b, b < nc → MRX N (1 + 16 * b) (Mp b)
theorem m_office {G : MG} {d : Nat} {Q : Int32 → Mm → Prop} {T : Nat → Nat} {n c : Nat} {M : Mm} {R0 : Nat → Nat → Nat} {M0 : Nat → MapD} (hd : 6 ≤ d) (hL : Lay c M) (hn : n ≤ 1000) (h2 : M.1 147 2 = nI n) (hT : ∀ i, i < n → M.1 148 i = nI (T i) ∧ 10 ≤ T i ∧ T i ≤ 126) (hW : ∀ k, k < 16 → M.2.1 152 k = wordT k)
    (hE : ∀ z N, (oX T n 14 (.ok 0) 0 0 [] R0 M0).1 = .error z → FMe M N → Q (nI z) N)
    (hO : ∀ j N, (oX T n 14 (.ok 0) 0 0 [] R0 M0).1 = .ok j → FMo M N (oX T n 14 (.ok 0) 0 0 [] R0 M0).2.1 (oX T n 14 (.ok 0) 0 0 [] R0 M0).2.2.1 (oX T n 14 (.ok 0) 0 0 [] R0 M0).2.2.2.1 (oX T n 14 (.ok 0) 0 0 [] R0 M0).2.2.2.2 → Q 0 N) : C G Y_X12_office d [.ref (G.b + 147)] M (Ri Q) := by
  refine up1 (P := fun d => C G Y_X12_office d _ M (Ri Q)) (fun e => b_X12_office (d := e + 5) hL (fun M1 e1 => ?_)) hd
  subst e1
  have hL1 : Lay c (sI M 147 0 0) := lay_sI hL
  refine s_cutAll (T := T) (n := n) (by omega) hL1 hn (by rw [rd_sI, if_neg (by omega)]; exact h2) (fun i hi => by rw [sI_ne (show (148 : Nat) ≠ 147 by omega)]; exact hT i hi) (fun N2 m fC hm hTk hne hend c7 c8 c2 => ⟨fC.1, fun M3 e3 => ?_⟩)
  have hL2 : Lay c N2 := lay_of hL1 fC.1
  -- what is fixed from here on
  have B3 : M3.2.2 = M.2.2 ∧ (∀ o, o ≠ 147 → o ≠ 149 → o ≠ 150 → M3.1 o = M.1 o) ∧ M3.1 147 2 = 0 ∧ M3.1 147 7 = 0 ∧ M3.1 147 8 = 0 ∧ M3.1 147 13 = 0 ∧ M3.2.1 152 = M.2.1 152 := by
    subst e3
    refine ⟨fC.1, fun o h1 h2' h3 => ?_, ?_, ?_, ?_, ?_, ?_⟩
    · rw [sI_ne h1, fC.2.1 o h1 h2' h3, sI_ne h1]
    · rw [rd_sI, if_neg (by omega)]; exact c2
    · rw [rd_sI, if_neg (by omega)]; exact c7
    · rw [rd_sI, if_neg (by omega)]; exact c8
    · rw [rd_sI, if_pos ⟨rfl, rfl⟩]
    · show N2.2.1 152 = _
      rw [fC.2.2.1 152 (by omega)]; rfl
  have R3 : RTs T n m M3 := by
    refine ⟨hm, fun j hj => ?_, hend, fun k hk => by rw [B3.2.2.2.2.2.2]; exact hW k hk, fun i hi => (hT i hi).2, hn⟩
    have a := hTk j hj
    subst e3
    unfold TkR
    rw [sI_ne (show (149 : Nat) ≠ 147 by omega), sI_ne (show (150 : Nat) ≠ 147 by omega)]
    exact a
  obtain ⟨b1, b2, b3, b4, b5, b6, b7⟩ := B3
  have hL3 : Lay c M3 := lay_of hL b1
  have i110 : ∀ k, (110 : Int32) + nI k = nI (110 + k) := fun k => by rw [show (110 : Int32) = nI 110 from rfl, nI_add]
  have i120 : ∀ k, (120 : Int32) + nI k = nI (120 + k) := fun k => by rw [show (120 : Int32) = nI 120 from rfl, nI_add]
  -- behind the loop
  have K62 : ∀ P : Mm, P.2 = M3.2 → (∀ o, o ≠ 153 → o ≠ 154 → P.1 o = M3.1 o) → (∀ k, (k < 110 ∨ 220 ≤ k) → P.1 153 k = M3.1 153 k) → (∀ k, k < 120 → P.1 154 k = M3.1 154 k) → (∀ k, 110 ≤ k → k < 220 → P.1 153 k = 0) → (∀ k, 120 ≤ k → k < 240 → P.1 154 k = 0) → L_X12_office_62 G (e + 5) Q P := by
    intro P hP2 hP1 hPa hPb z1 z2
    have e147 : P.1 147 = M3.1 147 := hP1 147 (by omega) (by omega)
    have hLP : Lay c P := by unfold Lay at hL3 ⊢; rw [hP2]; exact hL3
    have hRP : RTs T n m P := R3.fr (hP1 149 (by omega) (by omega)) (hP1 150 (by omega) (by omega)) (by rw [hP2]) (by rw [hP2])
    have eM : ∀ {N' : Mm}, FM2 P N' → FMe M N' := fun {N'} hF => by
      refine ⟨hF.1.trans (by rw [hP2]; exact b1), fun o h1 h2' h3 h4 h5 => ?_, ?_, fun k hk => ?_, fun k hk => ?_, ?_⟩
      · rw [hF.2.1 o h1 h4 h5, hP1 o h4 h5, b2 o h1 h2' h3]
      · rw [hF.2.2.1, e147]; exact b3
      · rw [hF.2.2.2.1 k hk, hPa k hk, b2 153 (by omega) (by omega) (by omega)]
      · rw [hF.2.2.2.2.1 k hk, hPb k hk, b2 154 (by omega) (by omega) (by omega)]
      · rw [hF.2.2.2.2.2 152 (by omega), hP2]; exact b7
    refine m_loop (e := e) hLP hRP 14 0 P (.ok 0) 0 0 [] R0 M0 (by omega) (FM2.rf P) ⟨by rw [e147]; exact b5, by rw [e147, b4]; rfl, by omega⟩ (fun j hj => ⟨rfl, ⟨z1 110 (by omega) (by omega), z2 120 (by omega) (by omega), fun a ha => by omega, fun b hb => by omega, ⟨by rw [e147, b6]; rfl, fun i hi => by have : i < 0 := hi; omega⟩, rfl, fun a k h1 h2' h3 => z1 _ (by omega) (by omega), fun k h1 h2' => z1 k (by omega) h2', fun b k h1 h2' h3 => z2 _ (by omega) (by omega)⟩, by omega, by omega, fun a ha => by omega, fun b hb => by omega⟩) (fun z N' hz hF _ => hE z N' hz (eM hF)) (fun j N' nm' hj hF hX hW' => ?_)
    -- the told office is laid out
    obtain ⟨x1, x2, x3, x4, x5, x6, x7, x8, x9⟩ := hX
    obtain ⟨w1, w2, w3, w4⟩ := hW'
    obtain ⟨m1, m2, m3, m4, m5, m6⟩ := eM hF
    have hLN : Lay c N' := lay_of hL m1
    generalize hres : oX T n 14 (.ok 0) 0 0 [] R0 M0 = res at *
    refine s_carry (a := 1) (b := 0) (by omega) hLN (by omega) (by omega) (by omega) (fun N3 hC => ⟨by rw [hC.1], ?_⟩)
    obtain ⟨y1, y2, y3⟩ := hC
    have key175 : ∀ p q (N : Mm), q + p = 4 → N.2 = N3.2 → (∀ o, o ≠ 154 → o ≠ 156 → N.1 o = N3.1 o) → (∀ k, k < 120 → N.1 154 k = N'.1 154 (120 + k)) → (∀ q', q' < q → N.1 156 q' = 0) → L_X12_office_175 G (e + 5) Q (nI q) N := by
      intro p
      induction p with
      | zero =>
        intro q N hq hN2 hN1 hN4 hz
        have : q = 4 := by omega
        subst this
        have hLN' : Lay c N := by unfold Lay at hLN ⊢; rw [hN2, y1]; exact hLN
        refine b_X12_office_175 hLN' ⟨fun _ => hO j N hj ⟨?_, fun o h1 h2' h3 h4 h5 h6 => ?_, ?_, ?_, hz, ?_, fun a ha => ?_, fun k h1 h2' => ?_, ?_, fun b hb => ?_⟩, fun g => absurd (by decide) g⟩
        · rw [hN2, y1]; exact m1
        · rw [hN1 o h5 h6, funext fun k => y2 o k (.inl h4)]; exact m2 o h1 h2' h3 h4 h5
        · rw [hN1 147 (by omega) (by omega), y2 147 2 (.inl (by omega))]; exact m3
        · rw [hN2, y1]; exact m6
        · rw [hN1 153 (by omega) (by omega), show (0 : Nat) = 110 * 0 + 0 by omega, y3 0 (by omega)]; exact x1
        · obtain ⟨nm0, j0, k0, r0, r1⟩ := w3 a ha
          refine (x3 a ha).mv (by rw [r0]; exact (row_len r1).1) (fun k hk => ?_)
          rw [hN1 153 (by omega) (by omega), show 1 + 14 * a + k = 110 * 0 + (1 + 14 * a + k) by omega, y3 _ (by omega), show 110 * 1 + (1 + 14 * a + k) = 111 + 14 * a + k by omega]
        · rw [hN1 153 (by omega) (by omega), show k = 110 * 0 + k by omega, y3 k h2']; exact x8 _ (by omega) (by omega)
        · rw [hN4 0 (by omega)]; exact x2
        · obtain ⟨nm0, j0, k0, r0, r1⟩ := w4 b hb
          refine (x4 b hb).mv (by rw [r0]; exact map_len r1) (fun k hk => ?_)
          rw [hN4 _ (by omega), show 120 + (1 + 16 * b + k) = 121 + 16 * b + k by omega]
      | succ p ih =>
        intro q N hq hN2 hN1 hN4 hz
        have hLN' : Lay c N := by unfold Lay at hLN ⊢; rw [hN2, y1]; exact hLN
        refine b_X12_office_175 hLN' ⟨fun g => absurd g ?_, fun _ => ⟨inM (by omega) (by omega), fun M2 e2 => ?_⟩⟩
        · rw [show (4 : Int32) = nI 4 from rfl, nI_leI (by omega) (by omega)]; omega
        · rw [nI_clamp (by omega)] at e2
          subst e2
          rw [nI_1]
          refine ih (q + 1) _ (by omega) hN2 (fun o h1 h2' => by rw [sI_ne h2']; exact hN1 o h1 h2') (fun k hk => by rw [sI_ne (show (154 : Nat) ≠ 156 by omega)]; exact hN4 k hk) (fun q' hq' => ?_)
          by_cases e1 : q' = q
          · rw [rd_sI, if_pos ⟨rfl, e1⟩]; rfl
          · rw [rd_sI, if_neg (fun hh => e1 hh.2)]; exact hz q' (by omega)
    have key146 : ∀ p k (N : Mm), k + p = 120 → N.2 = N3.2 → (∀ o, o ≠ 154 → N.1 o = N3.1 o) → (∀ q, 120 ≤ q → N.1 154 q = N'.1 154 q) → (∀ q, q < k → N.1 154 q = N'.1 154 (120 + q)) → L_X12_office_146 G (e + 5) Q (nI k) N := by
      intro p
      induction p with
      | zero =>
        intro k N hk hN2 hN1 hN3 hN4
        have : k = 120 := by omega
        subst this
        have hLN' : Lay c N := by unfold Lay at hLN ⊢; rw [hN2, y1]; exact hLN
        exact b_X12_office_146 hLN' ⟨fun _ => key175 4 0 N (by omega) hN2 (fun o h1 _ => hN1 o h1) hN4 (fun q' h => by omega), fun g => absurd (by decide) g⟩
      | succ p ih =>
        intro k N hk hN2 hN1 hN3 hN4
        have hLN' : Lay c N := by unfold Lay at hLN ⊢; rw [hN2, y1]; exact hLN
        refine b_X12_office_146 hLN' ⟨fun g => absurd g ?_, fun _ => ?_⟩
        · rw [show (120 : Int32) = nI 120 from rfl, nI_leI (by omega) (by omega)]; omega
        · rw [i120, nI_clamp (by omega), nI_clamp (by omega), nI_1]
          refine ⟨inM (by omega) (by omega), inM (by omega) (by omega), fun M2 e2 => ?_⟩
          subst e2
          refine ih (k + 1) _ (by omega) hN2 (fun o h1 => by rw [sI_ne h1]; exact hN1 o h1) (fun q hq => by rw [rd_sI, if_neg (by omega)]; exact hN3 q hq) (fun q hq => ?_)
          by_cases e1 : q = k
          · subst e1; rw [rd_sI, if_pos ⟨rfl, rfl⟩]; exact hN3 _ (by omega)
          · rw [rd_sI, if_neg (fun hh => e1 hh.2)]; exact hN4 q (by omega)
    exact key146 120 0 N3 (by omega) rfl (fun _ _ => rfl) (fun q _ => y2 154 q (.inl (by omega))) (fun q h => by omega)
  have key40 : ∀ p k (N : Mm), k + p = 120 → N.2 = M3.2 → (∀ o, o ≠ 153 → o ≠ 154 → N.1 o = M3.1 o) → (∀ q, (q < 110 ∨ 220 ≤ q) → N.1 153 q = M3.1 153 q) → (∀ q, q < 120 → N.1 154 q = M3.1 154 q) → (∀ q, 110 ≤ q → q < 220 → N.1 153 q = 0) → (∀ q, 120 ≤ q → q < 120 + k → N.1 154 q = 0) → L_X12_office_40 G (e + 5) Q (nI k) N := by
    intro p
    induction p with
    | zero =>
      intro k N hk g1 g2 g3 g4 g5 g6
      have : k = 120 := by omega
      subst this
      have hLN' : Lay c N := by unfold Lay at hL3 ⊢; rw [g1]; exact hL3
      exact b_X12_office_40 hLN' ⟨fun _ => K62 N g1 g2 g3 g4 g5 (fun q h1 h2' => g6 q h1 (by omega)), fun g => absurd (by decide) g⟩
    | succ p ih =>
      intro k N hk g1 g2 g3 g4 g5 g6
      have hLN' : Lay c N := by unfold Lay at hL3 ⊢; rw [g1]; exact hL3
      refine b_X12_office_40 hLN' ⟨fun g => absurd g ?_, fun _ => ?_⟩
      · rw [show (120 : Int32) = nI 120 from rfl, nI_leI (by omega) (by omega)]; omega
      · rw [i120, nI_clamp (by omega), nI_1]
        refine ⟨inM (by omega) (by omega), fun M2 e2 => ?_⟩
        subst e2
        refine ih (k + 1) _ (by omega) g1 (fun o h1 h2' => by rw [sI_ne h2']; exact g2 o h1 h2') (fun q hq => by rw [sI_ne (show (153 : Nat) ≠ 154 by omega)]; exact g3 q hq) (fun q hq => by rw [rd_sI, if_neg (by omega)]; exact g4 q hq) (fun q h1 h2' => by rw [sI_ne (show (153 : Nat) ≠ 154 by omega)]; exact g5 q h1 h2') (fun q h1 h2' => ?_)
        by_cases e1 : q = 120 + k
        · rw [rd_sI, if_pos ⟨rfl, e1⟩]
        · rw [rd_sI, if_neg (fun hh => e1 hh.2)]; exact g6 q h1 (by omega)
  have key16 : ∀ p k (N : Mm), k + p = 110 → N.2 = M3.2 → (∀ o, o ≠ 153 → N.1 o = M3.1 o) → (∀ q, (q < 110 ∨ 220 ≤ q) → N.1 153 q = M3.1 153 q) → (∀ q, 110 ≤ q → q < 110 + k → N.1 153 q = 0) → L_X12_office_16 G (e + 5) Q (nI k) N := by
    intro p
    induction p with
    | zero =>
      intro k N hk g1 g2 g3 g5
      have : k = 110 := by omega
      subst this
      have hLN' : Lay c N := by unfold Lay at hL3 ⊢; rw [g1]; exact hL3
      exact b_X12_office_16 hLN' ⟨fun _ => key40 120 0 N (by omega) g1 (fun o h1 _ => g2 o h1) g3 (fun q _ => by rw [g2 154 (by omega)]) (fun q h1 h2' => g5 q h1 (by omega)) (fun q h1 h2' => by omega), fun g => absurd (by decide) g⟩
    | succ p ih =>
      intro k N hk g1 g2 g3 g5
      have hLN' : Lay c N := by unfold Lay at hL3 ⊢; rw [g1]; exact hL3
      refine b_X12_office_16 hLN' ⟨fun g => absurd g ?_, fun _ => ?_⟩
      · rw [show (110 : Int32) = nI 110 from rfl, nI_leI (by omega) (by omega)]; omega
      · rw [i110, nI_clamp (by omega), nI_1]
        refine ⟨inM (by omega) (by omega), fun M2 e2 => ?_⟩
        subst e2
        refine ih (k + 1) _ (by omega) g1 (fun o h1 => by rw [sI_ne h1]; exact g2 o h1) (fun q hq => by rw [rd_sI, if_neg (by omega)]; exact g3 q hq) (fun q h1 h2' => ?_)
        by_cases e1 : q = 110 + k
        · rw [rd_sI, if_pos ⟨rfl, e1⟩]
        · rw [rd_sI, if_neg (fun hh => e1 hh.2)]; exact g5 q h1 (by omega)
  exact key16 110 0 M3 (by omega) rfl (fun _ _ => rfl) (fun _ _ => rfl) (fun q h1 h2' => by omega)
