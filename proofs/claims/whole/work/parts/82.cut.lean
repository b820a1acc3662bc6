/-! ===== office: the reference cuts its tape ===== -/
def TkR (T : Nat → Nat) (n : Nat) (N : Mm) (j b : Nat) : Prop :=
  N.1 149 j = nI (soF T n b) ∧ N.1 150 j = nI (plF T n b) ∧ (soF T n b = 1 → N.2.1 151 j = lN (wdF 37 T n b)) ∧ (soF T n b = 2 → N.2.1 151 j = lN (nvF T n b)) ∧ (soF T n b = 3 → N.2.1 151 j = lN (T (plF T n b)))
/-- what cutting leaves as it was -/
def FC (N N' : Mm) : Prop := N'.2.2 = N.2.2 ∧ (∀ o, o ≠ 147 → o ≠ 149 → o ≠ 150 → N'.1 o = N.1 o) ∧ (∀ o, o ≠ 151 → N'.2.1 o = N.2.1 o) ∧ ∀ k, k ≠ 2 → k ≠ 3 → k ≠ 7 → k ≠ 8 → N'.1 147 k = N.1 147 k
theorem FC.rf (N : Mm) : FC N N := ⟨rfl, fun _ _ _ _ => rfl, fun _ _ => rfl, fun _ _ _ _ _ => rfl⟩
theorem FC.tr {N N' P : Mm} (h : FC N N') (k : FC N' P) : FC N P := ⟨k.1.trans h.1, fun o h1 h2 h3 => (k.2.1 o h1 h2 h3).trans (h.2.1 o h1 h2 h3), fun o ho => (k.2.2.1 o ho).trans (h.2.2.1 o ho), fun q h1 h2 h3 h4 => (k.2.2.2 q h1 h2 h3 h4).trans (h.2.2.2 q h1 h2 h3 h4)⟩
theorem FC.si {N : Mm} {o k : Nat} {v : Int32} (h : o = 149 ∨ o = 150 ∨ o = 147 ∧ (k = 2 ∨ k = 3 ∨ k = 7 ∨ k = 8)) : FC N (sI N o k v) :=
  ⟨rfl, fun a h1 h2 h3 => sI_ne (by omega), fun _ _ => rfl, fun q h1 h2 h3 h4 => by rw [rd_sI, if_neg (by omega)]⟩
theorem FC.sj {N : Mm} {k : Nat} {v : Int64} : FC N (sJ N 151 k v) := ⟨rfl, fun _ _ _ _ => rfl, fun o ho => sJ_ne ho, fun _ _ _ _ _ => rfl⟩
theorem s_isLetterM {G : MG} {d : Nat} {Q : Int32 → Mm → Prop} {M : Mm} {c x : Nat} (hd : 1 ≤ d) (hL : Lay c M) (hx : x ≤ 126) (h1 : ltB x = true → Q 1 M) (h0 : ltB x = false → Q 0 M) : C G Y_X12_isLetter d [.int (nI x)] M (Ri Q) := by
  refine up1 (P := fun d => C G Y_X12_isLetter d _ M (Ri Q)) (fun e => b_X12_isLetter (d := e) hL ?_) hd
  rw [show (97 : Int32) = nI 97 from rfl, show (122 : Int32) = nI 122 from rfl, nI_ltI (by omega) (by omega), nI_ltI (by omega) (by omega)]
  have e := ltB_iff x
  cases hb : ltB x
  · rw [hb] at e
    have hn : ¬ (97 ≤ x ∧ x ≤ 122) := fun h => (by cases e.mpr h)
    exact ⟨fun _ => h0 hb, fun g => ⟨fun _ => h0 hb, fun g2 => absurd ⟨by omega, by omega⟩ hn⟩⟩
  · have := e.mp hb
    exact ⟨fun g => by omega, fun _ => ⟨fun g => by omega, fun _ => h1 hb⟩⟩
theorem s_isDigitM {G : MG} {d : Nat} {Q : Int32 → Mm → Prop} {M : Mm} {c x : Nat} (hd : 1 ≤ d) (hL : Lay c M) (hx : x ≤ 126) (h1 : dgB x = true → Q 1 M) (h0 : dgB x = false → Q 0 M) : C G Y_X12_isDigit d [.int (nI x)] M (Ri Q) := by
  refine up1 (P := fun d => C G Y_X12_isDigit d _ M (Ri Q)) (fun e => b_X12_isDigit (d := e) hL ?_) hd
  rw [show (48 : Int32) = nI 48 from rfl, show (57 : Int32) = nI 57 from rfl, nI_ltI (by omega) (by omega), nI_ltI (by omega) (by omega)]
  have e := dgB_iff x
  cases hb : dgB x
  · rw [hb] at e
    have hn : ¬ (48 ≤ x ∧ x ≤ 57) := fun h => (by cases e.mpr h)
    exact ⟨fun _ => h0 hb, fun g => ⟨fun _ => h0 hb, fun g2 => absurd ⟨by omega, by omega⟩ hn⟩⟩
  · have := e.mp hb
    exact ⟨fun g => by omega, fun _ => ⟨fun g => by omega, fun _ => h1 hb⟩⟩
theorem s_rank {G : MG} {d : Nat} {Q : Int32 → Mm → Prop} {M : Mm} {c x : Nat} (hd : 2 ≤ d) (hL : Lay c M) (hx : 97 ≤ x ∧ x ≤ 122) (h : Q (nI (x - 96)) M) : C G Y_X12_rank d [.int (nI x)] M (Ri Q) := by
  refine up1 (P := fun d => C G Y_X12_rank d _ M (Ri Q)) (fun e => b_X12_rank (d := e + 1) hL (s_isLetterM (by omega) hL (by omega) (fun _ => ⟨rfl, fun h => (by cases h), fun _ => ?_⟩) (fun hb => ?_))) hd
  · rw [show (96 : Int32) = nI 96 from rfl, pk_sub (by omega)]; exact h
  · rw [(ltB_iff x).mpr hx] at hb; cases hb
theorem s_cutAll {G : MG} {d : Nat} {Q : Mm → Prop} {T : Nat → Nat} {n c : Nat} {M : Mm} (hd : 3 ≤ d) (hL : Lay c M) (hn : n ≤ 1000) (hn2 : M.1 147 2 = nI n) (hT : ∀ i, i < n → M.1 148 i = nI (T i) ∧ 10 ≤ T i ∧ T i ≤ 126)
    (h : ∀ N m, FC M N → m ≤ 1000 → (∀ j, j ≤ m → TkR T n N j (tbF T n j)) → (∀ j, j < m → soF T n (tbF T n j) ≠ 0) → soF T n (tbF T n m) = 0 → N.1 147 7 = 0 → N.1 147 8 = 0 → N.1 147 2 = 0 → Q N) : C G Y_X12_cutAll d [.ref (G.b + 147)] M (Rv Q) := by
  refine up1 (P := fun d => C G Y_X12_cutAll d _ M (Rv Q)) (fun e => b_X12_cutAll (d := e + 2) hL (fun M1 e1 M2 e2 => ?_)) hd
  have tp : ∀ {N : Mm}, FC M N → ∀ i, i < n → N.1 148 i = nI (T i) ∧ 10 ≤ T i ∧ T i ≤ 126 := fun hF => by
    rw [hF.2.1 148 (by omega) (by omega) (by omega)]; exact hT
  have key : ∀ m k j (N : Mm), n - k ≤ m → k ≤ n → j ≤ k → FC M N → N.1 147 3 = nI n → N.1 147 2 = 0 → fwd blB T n k = plF T n (tbF T n j) → (∀ i, i < j → TkR T n N i (tbF T n i) ∧ soF T n (tbF T n i) ≠ 0) → L_X12_cutAll_17 G (e + 2) Q (nI j) (nI k) N := by
    intro m
    induction m with
    | zero =>
      intro k j N hm hk hj hF h3 h2 hfw hTk
      have hkn : k = n := by omega
      subst hkn
      have ep : plF T k (tbF T k j) = k := by rw [← hfw]; exact fwd_stop (by omega)
      have s0 : soF T k (tbF T k j) = 0 := by unfold soF soP; rw [ep, if_pos (Nat.le_refl k)]
      refine b_X12_cutAll_17 (lay_of hL hF.1) ⟨fun _ => ⟨inM (by omega) (by omega), fun M2 e2 => ⟨inM (by omega) (by omega), fun M3 e3 M4 e4 M5 e5 => ?_⟩⟩, fun g => absurd ?_ g⟩
      · rw [nI_clamp (by omega)] at e2 e3
        subst e2
        rw [show (sI N 149 j 0).1 147 3 = nI k by rw [rd_sI, if_neg (by omega)]; exact h3] at e3
        subst e3; subst e4; subst e5
        refine h _ j (hF.tr ((FC.si (.inl rfl)).tr ((FC.si (.inr (.inl rfl))).tr ((FC.si (.inr (.inr ⟨rfl, by omega⟩))).tr (FC.si (.inr (.inr ⟨rfl, by omega⟩))))))) (by omega) (fun i hi => ?_) (fun i hi => (hTk i hi).2) s0 ?_ ?_ ?_
        · by_cases e1 : i = j
          · subst e1
            refine ⟨?_, ?_, fun g => ?_, fun g => ?_, fun g => ?_⟩
            · rw [rd_sI, if_neg (by omega), rd_sI, if_neg (by omega), rd_sI, if_neg (by omega), rd_sI, if_pos ⟨rfl, rfl⟩, s0]; rfl
            · rw [rd_sI, if_neg (by omega), rd_sI, if_neg (by omega), rd_sI, if_pos ⟨rfl, rfl⟩, ep]
            · omega
            · omega
            · omega
          · obtain ⟨a1, a2, a3⟩ := (hTk i (by omega)).1
            refine ⟨?_, ?_, a3⟩
            · rw [rd_sI, if_neg (by omega), rd_sI, if_neg (by omega), rd_sI, if_neg (by omega), rd_sI, if_neg (by omega)]; exact a1
            · rw [rd_sI, if_neg (by omega), rd_sI, if_neg (by omega), rd_sI, if_neg (by omega), rd_sI, if_neg (by omega)]; exact a2
        · rw [rd_sI, if_neg (by omega), rd_sI, if_pos ⟨rfl, rfl⟩]
        · rw [rd_sI, if_pos ⟨rfl, rfl⟩]
        · rw [rd_sI, if_neg (by omega), rd_sI, if_neg (by omega), rd_sI, if_neg (by omega), rd_sI, if_neg (by omega)]; exact h2
      · rw [h3, nI_leI (by omega) (by omega)]; omega
    | succ m ih =>
      intro k j N hm hk hj hF h3 h2 hfw hTk
      have hLN := lay_of hL hF.1
      by_cases hkn : k = n
      · exact ih k j N (by omega) hk hj hF h3 h2 hfw hTk
      · obtain ⟨u1, u2, u3⟩ := tp hF k (by omega)
        have blank : blB (T k) = true → L_X12_cutAll_17 G (e + 2) Q (nI j) (nI (k + 1)) N := fun hb => ih (k + 1) j N (by omega) (by omega) (by omega) hF h3 h2 (by rw [← hfw, fwd_step (by omega) hb]) hTk
        -- token j stands at k and ends at w
        have done : blB (T k) = false → ∀ (N' : Mm) w, k < w → w ≤ n → enP T n k = w → FC M N' → N'.1 147 3 = nI n → N'.1 147 2 = 0 → (∀ i, i < j → TkR T n N' i (tbF T n i)) → TkR T n N' j (tbF T n j) → L_X12_cutAll_17 G (e + 2) Q (nI (j + 1)) (nI w) N' := by
          intro hb N' w h1 h2' hw hF' g3 g2 hTi hTj
          have ep : plF T n (tbF T n j) = k := by rw [← hfw]; exact fwd_stop (fun g => by rw [hb] at g; cases g.2)
          have etb : tbF T n (j + 1) = w := by show enP T n (plF T n (tbF T n j)) = w; rw [ep]; exact hw
          refine ih w (j + 1) N' (by omega) h2' (by omega) hF' g3 g2 (by rw [etb]; rfl) (fun i hi => ?_)
          by_cases e1 : i = j
          · subst e1
            refine ⟨hTj, ?_⟩
            unfold soF soP
            rw [ep, if_neg (by omega)]
            split
            · split <;> omega
            · split
              · split <;> omega
              · split <;> omega
          · exact ⟨hTi i (by omega), (hTk i (by omega)).2⟩
        refine b_X12_cutAll_17 hLN ⟨fun g => absurd g ?_, fun _ => ⟨inM (by omega) (by omega), ?_⟩⟩
        · rw [h3, nI_leI (by omega) (by omega)]; omega
        · rw [nI_clamp (by omega), u1, show (10 : Int32) = nI 10 from rfl, show (32 : Int32) = nI 32 from rfl, nI_eq (by omega) (by omega), nI_eq (by omega) (by omega), nI_1]
          refine ⟨fun g => blank ((blB_iff _).mpr (.inl g)), fun g1 => ⟨fun g2 => ⟨inM (by omega) (by omega), fun M8 e8 => ?_⟩, fun g => blank ((blB_iff _).mpr (.inr g))⟩⟩
          have hb : blB (T k) = false := by
            cases hbb : blB (T k)
            · rfl
            · have := (blB_iff _).mp hbb; omega
          have ep : plF T n (tbF T n j) = k := by rw [← hfw]; exact fwd_stop (fun g => by rw [hb] at g; cases g.2)
          rw [nI_clamp (by omega)] at e8
          have hF8 : FC M M8 := by subst e8; exact hF.tr (FC.si (.inr (.inl rfl)))
          have hL8 := lay_of hL hF8.1
          have g3 : M8.1 147 3 = nI n := by subst e8; rw [rd_sI, if_neg (by omega)]; exact h3
          have g2' : M8.1 147 2 = 0 := by subst e8; rw [rd_sI, if_neg (by omega)]; exact h2
          have gp : M8.1 150 j = nI k := by subst e8; rw [rd_sI, if_pos ⟨rfl, rfl⟩]
          have gT : ∀ i, i < j → TkR T n M8 i (tbF T n i) := fun i hi => by
            obtain ⟨a1, a2, a3⟩ := (hTk i hi).1
            subst e8
            refine ⟨?_, ?_, a3⟩
            · rw [rd_sI, if_neg (by omega)]; exact a1
            · rw [rd_sI, if_neg (by omega)]; exact a2
          have np : ¬ n ≤ k := by omega
          -- writing the sort and the value of token j
          have wr : ∀ (so w : Nat) (val : Int64) (N' : Mm), N' = sJ (sI M8 149 j (nI so)) 151 j val → soF T n (tbF T n j) = so → (so = 1 → val = lN (wdF 37 T n (tbF T n j))) → (so = 2 → val = lN (nvF T n (tbF T n j))) → (so = 3 → val = lN (T k)) → k < w → w ≤ n → enP T n k = w → L_X12_cutAll_17 G (e + 2) Q (nI (j + 1)) (nI w) N' := by
            intro so w val N' eN hso v1 v2 v3 hw1 hw2 hw3
            subst eN
            refine done hb _ w hw1 hw2 hw3 (hF8.tr ((FC.si (.inl rfl)).tr FC.sj)) ?_ ?_ (fun i hi => ?_) ⟨?_, ?_, fun g => ?_, fun g => ?_, fun g => ?_⟩
            · show (sI M8 149 j (nI so)).1 147 3 = _
              rw [rd_sI, if_neg (by omega)]; exact g3
            · show (sI M8 149 j (nI so)).1 147 2 = _
              rw [rd_sI, if_neg (by omega)]; exact g2'
            · obtain ⟨a1, a2, a3, a4, a5⟩ := gT i hi
              refine ⟨?_, ?_, fun g => ?_, fun g => ?_, fun g => ?_⟩
              · show (sI M8 149 j (nI so)).1 149 i = _
                rw [rd_sI, if_neg (by omega)]; exact a1
              · show (sI M8 149 j (nI so)).1 150 i = _
                rw [rd_sI, if_neg (by omega)]; exact a2
              · rw [rd_sJ', if_neg (by omega)]; exact a3 g
              · rw [rd_sJ', if_neg (by omega)]; exact a4 g
              · rw [rd_sJ', if_neg (by omega)]; exact a5 g
            · show (sI M8 149 j (nI so)).1 149 j = _
              rw [rd_sI, if_pos ⟨rfl, rfl⟩, hso]
            · show (sI M8 149 j (nI so)).1 150 j = _
              rw [rd_sI, if_neg (by omega), ep]; exact gp
            · rw [rd_sJ', if_pos ⟨rfl, rfl⟩]; exact v1 (by omega)
            · rw [rd_sJ', if_pos ⟨rfl, rfl⟩]; exact v2 (by omega)
            · rw [rd_sJ', if_pos ⟨rfl, rfl⟩, ep]; exact v3 (by omega)
          have so0 : soF T n (tbF T n j) = soP T n k := by unfold soF; rw [ep]
          refine s_isLetterM (by omega) hL8 u3 (fun hl => ⟨rfl, fun h => (by cases h), fun _ => ?_⟩) (fun hl => ⟨rfl, fun _ => ?_, fun h => absurd rfl h⟩)
          · -- a word
            have fe := fwd_le (P := ltB) (T := T) (n := n) (k := k) (by omega)
            have fe1 : k < fwd ltB T n k := by
              rw [fwd_step (by omega) hl]
              have := fwd_le (P := ltB) (T := T) (n := n) (k := k + 1) (by omega); omega
            have ew : enP T n k = fwd ltB T n k := by unfold enP; rw [if_neg np, if_pos hl]
            have fin : ∀ y, (fwd ltB T n k - k ≤ 8 → y = lN (cod 37 (fun i => T (k + i) - 96) (fwd ltB T n k - k))) → L_X12_cutAll_129 G (e + 2) Q (nI j) (nI (fwd ltB T n k)) (nI k) y M8 := by
              intro y hy
              refine b_X12_cutAll_129 hL8 ?_
              rw [pk_sub fe.1, show (8 : Int32) = nI 8 from rfl, nI_leI (by omega) (by omega), nI_clamp (by omega), nI_1]
              refine ⟨fun g => ⟨inM (by omega) (by omega), fun M2 e2 => ⟨inM (by omega) (by omega), fun M3 e3 => ?_⟩⟩, fun g => ⟨inM (by omega) (by omega), fun M2 e2 => ⟨inM (by omega) (by omega), fun M3 e3 => ?_⟩⟩⟩
              · subst e2
                refine wr 1 _ y M3 e3 ?_ (fun _ => ?_) (fun h => by omega) (fun h => by omega) fe1 fe.2 ew
                · rw [so0]; unfold soP; rw [if_neg np, if_pos hl, if_pos g]
                · rw [hy g]; unfold wdF wdP; rw [ep]
              · subst e2
                refine wr 4 _ y M3 e3 ?_ (fun h => by omega) (fun h => by omega) (fun h => by omega) fe1 fe.2 ew
                rw [so0]; unfold soP; rw [if_neg np, if_pos hl, if_neg g]
            have key70 : ∀ m' k' y, k' + m' = n → k ≤ k' → fwd ltB T n k' = fwd ltB T n k → (k' - k ≤ 8 → y = lN (cod 37 (fun i => T (k + i) - 96) (k' - k))) → L_X12_cutAll_70 G (e + 2) Q (nI j) (nI k') (nI k) y M8 := by
              intro m'
              induction m' with
              | zero =>
                intro k' y hk' hkk hfw' hy
                have ek : fwd ltB T n k' = k' := fwd_stop (by omega)
                refine b_X12_cutAll_70 hL8 ⟨fun _ => ?_, fun g => absurd ?_ g⟩
                · rw [show k' = fwd ltB T n k by rw [← hfw', ek]]
                  exact fin y (by rw [← hfw', ek]; exact hy)
                · rw [g3, nI_leI (by omega) (by omega)]; omega
              | succ m' ih' =>
                intro k' y hk' hkk hfw' hy
                obtain ⟨w1, w2, w3⟩ := tp hF8 k' (by omega)
                refine b_X12_cutAll_70 hL8 ⟨fun g => absurd g ?_, fun _ => ⟨inM (by omega) (by omega), ?_⟩⟩
                · rw [g3, nI_leI (by omega) (by omega)]; omega
                · rw [nI_clamp (by omega), w1]
                  refine s_isLetterM (by omega) hL8 w3 (fun hl' => ⟨rfl, fun h => (by cases h), fun _ => ?_⟩) (fun hl' => ⟨rfl, fun _ => ?_, fun h => absurd rfl h⟩)
                  · rw [pk_sub hkk, show (8 : Int32) = nI 8 from rfl, nI_leI (by omega) (by omega), nI_1, w1]
                    have hfw2 : fwd ltB T n (k' + 1) = fwd ltB T n k := by rw [← hfw', ← fwd_step (by omega) hl']
                    refine ⟨fun g => ih' (k' + 1) y (by omega) (by omega) hfw2 (fun h => by omega), fun g => ⟨inM (by omega) (by omega), s_rank (by omega) hL8 ((ltB_iff _).mp hl') ⟨rfl, ?_⟩⟩⟩
                    refine ih' (k' + 1) _ (by omega) (by omega) hfw2 (fun _ => ?_)
                    rw [hy (by omega), show (37 : Int64) = lN 37 from rfl, lN_mul, nI_l (by omega), lN_add, show k' + 1 - k = (k' - k) + 1 by omega]
                    refine congrArg lN ?_
                    show _ = 37 * cod 37 (fun i => T (k + i) - 96) (k' - k) + (T (k + (k' - k)) - 96)
                    rw [show k + (k' - k) = k' by omega]
                  · have ek : fwd ltB T n k' = k' := fwd_stop (fun h => by rw [hl'] at h; cases h.2)
                    rw [show k' = fwd ltB T n k by rw [← hfw', ek]]
                    exact fin y (by rw [← hfw', ek]; exact hy)
            exact key70 (n - k) k 0 (by omega) (Nat.le_refl k) rfl (fun _ => by rw [Nat.sub_self]; rfl)
          · have hl' : ¬ ltB (T k) = true := by rw [hl]; exact Bool.false_ne_true
            refine s_isDigitM (by omega) hL8 u3 (fun hg => ⟨rfl, fun h => (by cases h), fun _ => ?_⟩) (fun hg => ⟨rfl, fun _ => ?_, fun h => absurd rfl h⟩)
            · -- a number
              have fe := fwd_le (P := dgB) (T := T) (n := n) (k := k) (by omega)
              have fe1 : k < fwd dgB T n k := by
                rw [fwd_step (by omega) hg]
                have := fwd_le (P := dgB) (T := T) (n := n) (k := k + 1) (by omega); omega
              have ew : enP T n k = fwd dgB T n k := by unfold enP; rw [if_neg np, if_neg hl', if_pos hg]
              have fin : ∀ y, (fwd dgB T n k - k ≤ 4 → y = lN (cod 10 (fun i => T (k + i) - 48) (fwd dgB T n k - k))) → L_X12_cutAll_218 G (e + 2) Q (nI j) (nI (fwd dgB T n k)) (nI k) y M8 := by
                intro y hy
                refine b_X12_cutAll_218 hL8 ?_
                rw [pk_sub fe.1, show (4 : Int32) = nI 4 from rfl, nI_leI (by omega) (by omega), nI_clamp (by omega), nI_1]
                refine ⟨fun g => ⟨inM (by omega) (by omega), fun M2 e2 => ⟨inM (by omega) (by omega), fun M3 e3 => ?_⟩⟩, fun g => ⟨inM (by omega) (by omega), fun M2 e2 => ⟨inM (by omega) (by omega), fun M3 e3 => ?_⟩⟩⟩
                · subst e2
                  refine wr 2 _ y M3 e3 ?_ (fun h => by omega) (fun _ => ?_) (fun h => by omega) fe1 fe.2 ew
                  · rw [so0]; unfold soP; rw [if_neg np, if_neg hl', if_pos hg, if_pos g]
                  · rw [hy g]; unfold nvF nvP; rw [ep]
                · subst e2
                  refine wr 4 _ y M3 e3 ?_ (fun h => by omega) (fun h => by omega) (fun h => by omega) fe1 fe.2 ew
                  rw [so0]; unfold soP; rw [if_neg np, if_neg hl', if_pos hg, if_neg g]
              have key159 : ∀ m' k' y, k' + m' = n → k ≤ k' → fwd dgB T n k' = fwd dgB T n k → (k' - k ≤ 4 → y = lN (cod 10 (fun i => T (k + i) - 48) (k' - k))) → L_X12_cutAll_159 G (e + 2) Q (nI j) (nI k') (nI k) y M8 := by
                intro m'
                induction m' with
                | zero =>
                  intro k' y hk' hkk hfw' hy
                  have ek : fwd dgB T n k' = k' := fwd_stop (by omega)
                  refine b_X12_cutAll_159 hL8 ⟨fun _ => ?_, fun g => absurd ?_ g⟩
                  · rw [show k' = fwd dgB T n k by rw [← hfw', ek]]
                    exact fin y (by rw [← hfw', ek]; exact hy)
                  · rw [g3, nI_leI (by omega) (by omega)]; omega
                | succ m' ih' =>
                  intro k' y hk' hkk hfw' hy
                  obtain ⟨w1, w2, w3⟩ := tp hF8 k' (by omega)
                  refine b_X12_cutAll_159 hL8 ⟨fun g => absurd g ?_, fun _ => ⟨inM (by omega) (by omega), ?_⟩⟩
                  · rw [g3, nI_leI (by omega) (by omega)]; omega
                  · rw [nI_clamp (by omega), w1]
                    refine s_isDigitM (by omega) hL8 w3 (fun hg' => ⟨rfl, fun h => (by cases h), fun _ => ?_⟩) (fun hg' => ⟨rfl, fun _ => ?_, fun h => absurd rfl h⟩)
                    · rw [pk_sub hkk, show (4 : Int32) = nI 4 from rfl, nI_leI (by omega) (by omega), nI_1, w1]
                      have hfw2 : fwd dgB T n (k' + 1) = fwd dgB T n k := by rw [← hfw', ← fwd_step (by omega) hg']
                      have hd' := (dgB_iff _).mp hg'
                      refine ⟨fun g => ih' (k' + 1) y (by omega) (by omega) hfw2 (fun h => by omega), fun g => ⟨inM (by omega) (by omega), ?_⟩⟩
                      refine ih' (k' + 1) _ (by omega) (by omega) hfw2 (fun _ => ?_)
                      rw [hy (by omega), show (10 : Int64) = lN 10 from rfl, lN_mul, nI_l (by omega), lN_add, show (48 : Int64) = lN 48 from rfl, lN_sub (by omega), show k' + 1 - k = (k' - k) + 1 by omega]
                      refine congrArg lN ?_
                      show _ = 10 * cod 10 (fun i => T (k + i) - 48) (k' - k) + (T (k + (k' - k)) - 48)
                      rw [show k + (k' - k) = k' by omega]; omega
                    · have ek : fwd dgB T n k' = k' := fwd_stop (fun h => by rw [hg'] at h; cases h.2)
                      rw [show k' = fwd dgB T n k by rw [← hfw', ek]]
                      exact fin y (by rw [← hfw', ek]; exact hy)
              exact key159 (n - k) k 0 (by omega) (Nat.le_refl k) rfl (fun _ => by rw [Nat.sub_self]; rfl)
            · -- a sign
              have hg' : ¬ dgB (T k) = true := by rw [hg]; exact Bool.false_ne_true
              have ew : enP T n k = k + 1 := by unfold enP; rw [if_neg np, if_neg hl', if_neg hg']
              have so1 : soF T n (tbF T n j) = if T k = 44 ∨ T k = 59 then 3 else 4 := by
                rw [so0]; unfold soP; rw [if_neg np, if_neg hl', if_neg hg']
              refine up1 (P := fun d => C G Y_X12_isSignOf d _ M8 (Ri _)) (fun e' => b_X12_isSignOf (d := e') hL8 ?_) (show 1 ≤ e + 2 by omega)
              rw [show (44 : Int32) = nI 44 from rfl, show (59 : Int32) = nI 59 from rfl, nI_eq (by omega) (by omega), nI_eq (by omega) (by omega), nI_l (by omega), nI_clamp (by omega)]
              have w4 : ∀ v : Nat, v = soF T n (tbF T n j) → (v = 3 ∨ v = 4) → ∀ M18, M18 = sI M8 149 j (nI v) → ∀ M19, M19 = sJ M18 151 j (lN (T k)) → L_X12_cutAll_17 G (e + 2) Q (nI j + 1) (nI (k + 1)) M19 := by
                intro v hv hv2 M18 e18 M19 e19
                subst e18
                rw [nI_1]
                exact wr v (k + 1) _ M19 e19 hv.symm (fun h => by omega) (fun h => by omega) (fun _ => rfl) (by omega) (by omega) ew
              refine ⟨fun q => ⟨rfl, fun h => (by cases h), fun _ => ⟨inM (by omega) (by omega), fun M18 e18 => ⟨inM (by omega) (by omega), fun M19 e19 => w4 3 (by rw [so1, if_pos (.inl q)]) (.inl rfl) M18 e18 M19 e19⟩⟩⟩, fun q => ⟨fun q2 => ⟨rfl, fun _ => ⟨inM (by omega) (by omega), fun M18 e18 => ⟨inM (by omega) (by omega), fun M19 e19 => w4 4 (by rw [so1, if_neg (by omega)]) (.inr rfl) M18 e18 M19 e19⟩⟩, fun h => absurd rfl h⟩, fun q2 => ⟨rfl, fun h => (by cases h), fun _ => ⟨inM (by omega) (by omega), fun M18 e18 => ⟨inM (by omega) (by omega), fun M19 e19 => w4 3 (by rw [so1, if_pos (.inr q2)]) (.inl rfl) M18 e18 M19 e19⟩⟩⟩⟩⟩
  subst e1; subst e2
  refine key n 0 0 _ (by omega) (by omega) (by omega) ((FC.si (.inr (.inr ⟨rfl, by omega⟩))).tr (FC.si (.inr (.inr ⟨rfl, by omega⟩)))) ?_ ?_ rfl (fun i hi => by omega)
  · rw [rd_sI, if_neg (by omega), rd_sI, if_pos ⟨rfl, rfl⟩]; exact hn2
  · rw [rd_sI, if_pos ⟨rfl, rfl⟩]
