/-! ===== office: names and kinds of the component ===== -/
theorem fl_err {T : Nat → Nat} {n k j : Nat} {x : Except Nat Nat} : fl T n k x ≠ .ok j := by
  cases x with
  | error e => intro h; cases h
  | ok i => intro h; cases h
theorem sW_ok {T : Nat → Nat} {n w j : Nat} {x : Except Nat Nat} (h : sW T n w x = .ok j) : ∃ i, x = .ok i ∧ isW T n i w ∧ j = i + 1 := by
  cases x with
  | error e => cases h
  | ok i =>
    by_cases g : isW T n i w
    · rw [show sW T n w (.ok i) = .ok (i + 1) from ifc_pos g] at h
      cases h; exact ⟨i, rfl, g, rfl⟩
    · rw [show sW T n w (.ok i) = .error _ from ifc_neg g] at h
      cases h
theorem sG_ok {T : Nat → Nat} {n ch j : Nat} {x : Except Nat Nat} (h : sG T n ch x = .ok j) : ∃ i, x = .ok i ∧ isG T n i ch ∧ j = i + 1 := by
  cases x with
  | error e => cases h
  | ok i =>
    by_cases g : isG T n i ch
    · rw [show sG T n ch (.ok i) = .ok (i + 1) from ifc_pos g] at h
      cases h; exact ⟨i, rfl, g, rfl⟩
    · rw [show sG T n ch (.ok i) = .error _ from ifc_neg g] at h
      cases h
theorem sNu_ok {T : Nat → Nat} {n lo hi j : Nat} {x : Except Nat Nat} (h : sNu T n lo hi x = .ok j) : ∃ i, x = .ok i ∧ soF T n (tbF T n i) = 2 ∧ lo ≤ nv T n i ∧ nv T n i ≤ hi ∧ j = i + 1 := by
  cases x with
  | error e => cases h
  | ok i =>
    by_cases g : soF T n (tbF T n i) = 2
    · rw [show sNu T n lo hi (.ok i) = ifc (nv T n i < lo ∨ hi < nv T n i) (.error (4 + 16 * plF T n (tbF T n i))) (.ok (i + 1)) from ifc_pos g] at h
      by_cases g2 : nv T n i < lo ∨ hi < nv T n i
      · rw [ifc_pos g2] at h; cases h
      · rw [ifc_neg g2] at h
        cases h; exact ⟨i, rfl, g, by omega, by omega, rfl⟩
    · rw [show sNu T n lo hi (.ok i) = .error _ from ifc_neg g] at h
      cases h
theorem sNm_ok {T : Nat → Nat} {n j : Nat} {nm : List Nat} {x : Except Nat Nat} (h : sNm T n nm x = .ok j) : ∃ i, x = .ok i ∧ soF T n (tbF T n i) = 1 ∧ j = i + 1 := by
  cases x with
  | error e => cases h
  | ok i =>
    by_cases g : soF T n (tbF T n i) = 1 ∧ ¬ isRes T n i
    · by_cases g2 : ∃ k, k ∈ nm ∧ wdF 37 T n (tbF T n k) = wdF 37 T n (tbF T n i)
      · rw [show sNm T n nm (.ok i) = .error _ from (ifc_pos g).trans (ifc_pos g2)] at h; cases h
      · rw [show sNm T n nm (.ok i) = .ok (i + 1) from (ifc_pos g).trans (ifc_neg g2)] at h
        cases h; exact ⟨i, rfl, g.1, rfl⟩
    · rw [show sNm T n nm (.ok i) = .error _ from ifc_neg g] at h
      cases h
theorem sKd_ok {T : Nat → Nat} {n j : Nat} {x : Except Nat Nat} (h : sKd T n x = .ok j) : ∃ i, x = .ok i ∧ isK T n i ∧ j = i + 1 := by
  cases x with
  | error e => cases h
  | ok i =>
    by_cases g : isK T n i
    · rw [show sKd T n (.ok i) = .ok (i + 1) from ifc_pos g] at h
      cases h; exact ⟨i, rfl, g, rfl⟩
    · rw [show sKd T n (.ok i) = .error _ from ifc_neg g] at h
      cases h
theorem kdv_is {T : Nat → Nat} {n j k : Nat} (hk : k < 4) (h : isW T n j (12 + k)) : kdv T n j = k := by
  unfold kdv
  by_cases h0 : isW T n j 12
  · rw [ifc_pos h0]; have := isW_un (by omega) (by omega) h h0; omega
  · rw [ifc_neg h0]
    by_cases h1 : isW T n j 13
    · rw [ifc_pos h1]; have := isW_un (by omega) (by omega) h h1; omega
    · rw [ifc_neg h1]
      by_cases h2 : isW T n j 14
      · rw [ifc_pos h2]; have := isW_un (by omega) (by omega) h h2; omega
      · rw [ifc_neg h2]
        have : k = 0 ∨ k = 1 ∨ k = 2 ∨ k = 3 := by omega
        rcases this with rfl | rfl | rfl | rfl
        · exact absurd h h0
        · exact absurd h h1
        · exact absurd h h2
        · rfl
theorem kdv_le {T : Nat → Nat} {n j : Nat} : kdv T n j ≤ 3 := by
  unfold kdv
  by_cases h0 : isW T n j 12
  · rw [ifc_pos h0]; omega
  · rw [ifc_neg h0]
    by_cases h1 : isW T n j 13
    · rw [ifc_pos h1]; omega
    · rw [ifc_neg h1]
      by_cases h2 : isW T n j 14
      · rw [ifc_pos h2]; omega
      · rw [ifc_neg h2]; omega
/-- the ldc words -/
def StrA (G : MG) : Prop := (∀ U, G.X U → vk_R RX10 41 "arm" (G.ad 0) U) ∧ (∀ U, G.X U → vk_R RX10 162 "holes" (G.ad 1) U) ∧ (∀ U, G.X U → vk_R RX10 85 "turn" (G.ad 2) U) ∧ (∀ U, G.X U → vk_R RX10 94 "at" (G.ad 3) U) ∧ (∀ U, G.X U → vk_R RX10 106 "reach" (G.ad 4) U) ∧ (∀ U, G.X U → vk_R RX10 110 "shake" (G.ad 5) U) ∧ (∀ U, G.X U → vk_R RX10 114 "bend" (G.ad 6) U) ∧ (∀ U, G.X U → vk_R RX10 51 "map" (G.ad 7) U)
def StrB (G : MG) : Prop := (∀ U, G.X U → vk_R RX10 130 "size" (G.ad 8) U) ∧ (∀ U, G.X U → vk_R RX10 135 "to" (G.ad 9) U) ∧ (∀ U, G.X U → vk_R RX10 140 "slips" (G.ad 10) U) ∧ (∀ U, G.X U → vk_R RX10 179 "points" (G.ad 11) U) ∧ (∀ U, G.X U → vk_R RX10 198 "plain" (G.ad 12) U) ∧ (∀ U, G.X U → vk_R RX10 200 "mirror" (G.ad 13) U) ∧ (∀ U, G.X U → vk_R RX10 202 "stiff" (G.ad 14) U) ∧ (∀ U, G.X U → vk_R RX10 204 "loose" (G.ad 15) U)
def Str (G : MG) : Prop := StrF G ∧ StrA G ∧ StrB G
theorem x_readsO {G : MG} {d : Nat} {Q : Int32 → Mm → Prop} {T : Nat → Nat} {n c j : Nat} {N : Mm} (w : Nat) (hw : w < 16) (hd : 6 ≤ d) (hS : StrF G) (hL : Lay c N) (hx : Tk T n N (.ok j))
    (h1 : isW T n j w → Q 1 N) (h0 : ¬ isW T n j w → Q 0 N) : C G Y_X10_reads d [.ref (G.b + 1), .ref (G.ad w)] N (Ri Q) :=
  x_reads w hw hd hS hL hx (fun j' hj => by cases hj; exact h1) (fun j' hj => by cases hj; exact h0) (fun e he => by cases he)
theorem x_kindHere {G : MG} {d : Nat} {Q : Int32 → Mm → Prop} {T : Nat → Nat} {n c j : Nat} {N : Mm} (hd : 7 ≤ d) (hS : Str G) (hL : Lay c N) (hx : Tk T n N (.ok j))
    (h1 : isK T n j → Q (nI (kdv T n j)) N) (h0 : ¬ isK T n j → Q (-1) N) : C G Y_X10_kindHere d [.ref (G.b + 1)] N (Ri Q) := by
  obtain ⟨-, -, -, -, s12, s13, s14, s15⟩ := hS.2.2
  have hk : ∀ k, k < 4 → isW T n j (12 + k) → Q (nI k) N := fun k h h' => by
    have := h1 ⟨k, h, h'⟩
    rwa [kdv_is h h'] at this
  refine up1 (P := fun d => C G Y_X10_kindHere d _ N (Ri Q)) (fun e => b_X10_kindHere (d := e + 6) hL s12 s13 s14 s15 ?_) hd
  refine x_readsO 12 (by omega) (by omega) hS.1 hL hx (fun w => ⟨rfl, fun g => (by cases g), fun _ => hk 0 (by omega) w⟩) (fun w0 => ⟨rfl, fun _ => ?_, fun g => absurd rfl g⟩)
  refine x_readsO 13 (by omega) (by omega) hS.1 hL hx (fun w => ⟨rfl, fun g => (by cases g), fun _ => hk 1 (by omega) w⟩) (fun w1 => ⟨rfl, fun _ => ?_, fun g => absurd rfl g⟩)
  refine x_readsO 14 (by omega) (by omega) hS.1 hL hx (fun w => ⟨rfl, fun g => (by cases g), fun _ => hk 2 (by omega) w⟩) (fun w2 => ⟨rfl, fun _ => ?_, fun g => absurd rfl g⟩)
  refine x_readsO 15 (by omega) (by omega) hS.1 hL hx (fun w => ⟨rfl, fun g => (by cases g), fun _ => hk 3 (by omega) w⟩) (fun w3 => ⟨rfl, fun _ => h0 ?_, fun g => absurd rfl g⟩)
  rintro ⟨k, hk4, hW⟩
  have : k = 0 ∨ k = 1 ∨ k = 2 ∨ k = 3 := by omega
  rcases this with rfl | rfl | rfl | rfl
  · exact w0 hW
  · exact w1 hW
  · exact w2 hW
  · exact w3 hW
theorem x_isReserved {G : MG} {d : Nat} {Q : Int32 → Mm → Prop} {T : Nat → Nat} {n c j : Nat} {N : Mm} (hd : 7 ≤ d) (hS : Str G) (hL : Lay c N) (hx : Tk T n N (.ok j))
    (h1 : (∃ w, w < 12 ∧ isW T n j w) → Q 1 N) (h0 : ¬ (∃ w, w < 12 ∧ isW T n j w) → Q 0 N) : C G Y_X10_isReserved d [.ref (G.b + 1)] N (Ri Q) := by
  obtain ⟨s0, s1, s2, s3, s4, s5, s6, s7⟩ := hS.2.1
  obtain ⟨s8, s9, s10, s11, -, -, -, -⟩ := hS.2.2
  refine up1 (P := fun d => C G Y_X10_isReserved d _ N (Ri Q)) (fun e => b_X10_isReserved (d := e + 6) hL s0 s1 s2 s3 s4 s5 s6 s7 s8 s9 s10 s11 ?_) hd
  have F := hS.1
  refine x_readsO 0 (by omega) (by omega) F hL hx (fun w => ⟨rfl, fun _ => h1 ⟨_, by omega, w⟩, fun g => (by cases g)⟩) (fun w0 => ⟨rfl, fun g => absurd rfl g, fun _ => ?_⟩)
  refine x_readsO 1 (by omega) (by omega) F hL hx (fun w => ⟨rfl, fun _ => h1 ⟨_, by omega, w⟩, fun g => (by cases g)⟩) (fun w1 => ⟨rfl, fun g => absurd rfl g, fun _ => ?_⟩)
  refine x_readsO 2 (by omega) (by omega) F hL hx (fun w => ⟨rfl, fun _ => h1 ⟨_, by omega, w⟩, fun g => (by cases g)⟩) (fun w2 => ⟨rfl, fun g => absurd rfl g, fun _ => ?_⟩)
  refine x_readsO 3 (by omega) (by omega) F hL hx (fun w => ⟨rfl, fun _ => h1 ⟨_, by omega, w⟩, fun g => (by cases g)⟩) (fun w3 => ⟨rfl, fun g => absurd rfl g, fun _ => ?_⟩)
  refine x_readsO 4 (by omega) (by omega) F hL hx (fun w => ⟨rfl, fun _ => h1 ⟨_, by omega, w⟩, fun g => (by cases g)⟩) (fun w4 => ⟨rfl, fun g => absurd rfl g, fun _ => ?_⟩)
  refine x_readsO 5 (by omega) (by omega) F hL hx (fun w => ⟨rfl, fun _ => h1 ⟨_, by omega, w⟩, fun g => (by cases g)⟩) (fun w5 => ⟨rfl, fun g => absurd rfl g, fun _ => ?_⟩)
  refine x_readsO 6 (by omega) (by omega) F hL hx (fun w => ⟨rfl, fun _ => h1 ⟨_, by omega, w⟩, fun g => (by cases g)⟩) (fun w6 => ⟨rfl, fun g => absurd rfl g, fun _ => ?_⟩)
  refine x_readsO 7 (by omega) (by omega) F hL hx (fun w => ⟨rfl, fun _ => h1 ⟨_, by omega, w⟩, fun g => (by cases g)⟩) (fun w7 => ⟨rfl, fun g => absurd rfl g, fun _ => ?_⟩)
  refine x_readsO 8 (by omega) (by omega) F hL hx (fun w => ⟨rfl, fun _ => h1 ⟨_, by omega, w⟩, fun g => (by cases g)⟩) (fun w8 => ⟨rfl, fun g => absurd rfl g, fun _ => ?_⟩)
  refine x_readsO 9 (by omega) (by omega) F hL hx (fun w => ⟨rfl, fun _ => h1 ⟨_, by omega, w⟩, fun g => (by cases g)⟩) (fun w9 => ⟨rfl, fun g => absurd rfl g, fun _ => ?_⟩)
  refine x_readsO 10 (by omega) (by omega) F hL hx (fun w => ⟨rfl, fun _ => h1 ⟨_, by omega, w⟩, fun g => (by cases g)⟩) (fun w10 => ⟨rfl, fun g => absurd rfl g, fun _ => ?_⟩)
  refine x_readsO 11 (by omega) (by omega) F hL hx (fun w => ⟨rfl, fun g => (by cases g), fun _ => h1 ⟨_, by omega, w⟩⟩) (fun w11 => ⟨rfl, fun _ => h0 ?_, fun g => absurd rfl g⟩)
  rintro ⟨w, hw, hW⟩
  have : w = 0 ∨ w = 1 ∨ w = 2 ∨ w = 3 ∨ w = 4 ∨ w = 5 ∨ w = 6 ∨ w = 7 ∨ w = 8 ∨ w = 9 ∨ w = 10 ∨ w = 11 := by omega
  rcases this with rfl | rfl | rfl | rfl | rfl | rfl | rfl | rfl | rfl | rfl | rfl | rfl
  · exact w0 hW
  · exact w1 hW
  · exact w2 hW
  · exact w3 hW
  · exact w4 hW
  · exact w5 hW
  · exact w6 hW
  · exact w7 hW
  · exact w8 hW
  · exact w9 hW
  · exact w10 hW
  · exact w11 hW
/-- the names told so far: of the arms, of the maps -/
def NmX (T : Nat → Nat) (n : Nat) (N : Mm) (o na nc : Nat) (nm : List Nat) : Prop :=
  (∀ a, a < na → ∃ i, i ∈ nm ∧ N.2.1 (o + 3 + 2 * a) 0 = lN (wdF 32 T n (tbF T n i))) ∧ (∀ m, m < nc → ∃ i, i ∈ nm ∧ N.2.1 (o + 15 + 3 * m) 0 = lN (wdF 32 T n (tbF T n i))) ∧
  ∀ i, i ∈ nm → soF T n (tbF T n i) = 1 ∧ ((∃ a, a < na ∧ N.2.1 (o + 3 + 2 * a) 0 = lN (wdF 32 T n (tbF T n i))) ∨ ∃ m, m < nc ∧ N.2.1 (o + 15 + 3 * m) 0 = lN (wdF 32 T n (tbF T n i)))
theorem x_hasName {G : MG} {d : Nat} {Q : Int32 → Mm → Prop} {T : Nat → Nat} {n c o na nc j : Nat} {nm : List Nat} {N : Mm} (hd : 1 ≤ d) (hL : Lay c N) (ho : o = 3 ∨ o = 39) (ha : N.1 o 2 = nI na) (ha6 : na ≤ 6) (hm : N.1 o 3 = nI nc) (hm7 : nc ≤ 7) (hN : NmX T n N o na nc nm) (hj : soF T n (tbF T n j) = 1)
    (h1 : (∃ i, i ∈ nm ∧ wdF 37 T n (tbF T n i) = wdF 37 T n (tbF T n j)) → Q 1 N) (h0 : ¬ (∃ i, i ∈ nm ∧ wdF 37 T n (tbF T n i) = wdF 37 T n (tbF T n j)) → Q 0 N) : C G Y_X5_hasName d [.ref (G.b + o), .long (lN (wdF 32 T n (tbF T n j)))] N (Ri Q) := by
  obtain ⟨n1, n2, n3⟩ := hN
  have eqv : ∀ i, i ∈ nm → (lN (wdF 32 T n (tbF T n i)) = lN (wdF 32 T n (tbF T n j)) ↔ wdF 37 T n (tbF T n i) = wdF 37 T n (tbF T n j)) := fun i hi => by
    have a1 := (wd_lt (n3 i hi).1).1
    have a2 := (wd_lt hj).1
    rw [pk_lEQ (by omega) (by omega), wd_same]
  refine up1 (P := fun d => C G Y_X5_hasName d _ N (Ri Q)) (fun e => b_X5_hasName (d := e) hL (sh_of ho) ?_) hd
  have key2 : (∀ a, a < na → N.2.1 (o + 3 + 2 * a) 0 ≠ lN (wdF 32 T n (tbF T n j))) → ∀ m k, k + m = nc → (∀ k', k' < k → N.2.1 (o + 15 + 3 * k') 0 ≠ lN (wdF 32 T n (tbF T n j))) → L_X5_hasName_34 G e Q o (lN (wdF 32 T n (tbF T n j))) (nI k) N := by
    intro hA m
    induction m with
    | zero =>
      intro k hk hB
      refine b_X5_hasName_34 hL (sh_of ho) ⟨fun _ => h0 ?_, fun g => absurd ?_ g⟩
      · rintro ⟨i, hi, he⟩
        rcases (n3 i hi).2 with ⟨a, ha', hc⟩ | ⟨q, hq, hc⟩
        · exact hA a ha' (hc.trans ((eqv i hi).mpr he))
        · exact hB q (by omega) (hc.trans ((eqv i hi).mpr he))
      · rw [hm, nI_leI (by omega) (by omega)]; omega
    | succ m ih =>
      intro k hk hB
      refine b_X5_hasName_34 hL (sh_of ho) ⟨fun g => absurd g ?_, fun _ => ⟨(inN (by omega) (by omega)).1, ?_⟩⟩
      · rw [hm, nI_leI (by omega) (by omega)]; omega
      · rw [nI_clamp (by omega), show o + 2 + 13 + 3 * k = o + 15 + 3 * k by omega, nI_1]
        refine ⟨fun g => ih (k + 1) (by omega) (fun k' hk' => ?_), fun g => ?_⟩
        · by_cases e1 : k' = k
          · subst e1; exact g
          · exact hB k' (by omega)
        · obtain ⟨i, hi, hc⟩ := n2 k (by omega)
          exact h1 ⟨i, hi, (eqv i hi).mp (hc.symm.trans g)⟩
  have key1 : ∀ m k, k + m = na → (∀ k', k' < k → N.2.1 (o + 3 + 2 * k') 0 ≠ lN (wdF 32 T n (tbF T n j))) → L_X5_hasName_2 G e Q o (lN (wdF 32 T n (tbF T n j))) (nI k) N := by
    intro m
    induction m with
    | zero =>
      intro k hk hB
      refine b_X5_hasName_2 hL (sh_of ho) ⟨fun _ => key2 (fun a ha' => hB a (by omega)) nc 0 (by omega) (fun k' h => by omega), fun g => absurd ?_ g⟩
      rw [ha, nI_leI (by omega) (by omega)]; omega
    | succ m ih =>
      intro k hk hB
      refine b_X5_hasName_2 hL (sh_of ho) ⟨fun g => absurd g ?_, fun _ => ⟨(inN (by omega) (by omega)).1, ?_⟩⟩
      · rw [ha, nI_leI (by omega) (by omega)]; omega
      · rw [nI_clamp (by omega), show o + 1 + 2 + 2 * k = o + 3 + 2 * k by omega, nI_1]
        refine ⟨fun g => ih (k + 1) (by omega) (fun k' hk' => ?_), fun g => ?_⟩
        · by_cases e1 : k' = k
          · subst e1; exact g
          · exact hB k' (by omega)
        · obtain ⟨i, hi, hc⟩ := n1 k (by omega)
          exact h1 ⟨i, hi, (eqv i hi).mp (hc.symm.trans g)⟩
  exact key1 na 0 (by omega) (fun k' h => by omega)
theorem x_readName {G : MG} {d : Nat} {Q : Int64 → Mm → Prop} {T : Nat → Nat} {n c o na nc : Nat} {nm : List Nat} {N : Mm} {x : Except Nat Nat} (hd : 8 ≤ d) (hS : Str G) (hL : Lay c N) (hT : TpX T n N) (ho : o = 3 ∨ o = 39) (ha : N.1 o 2 = nI na) (ha6 : na ≤ 6) (hm : N.1 o 3 = nI nc) (hm7 : nc ≤ 7) (hN : NmX T n N o na nc nm) (hx : Tk T n N x)
    (h : ∀ r N', FT N N' → Tk T n N' (sNm T n nm x) → (∀ j, x = .ok j → sNm T n nm x = .ok (j + 1) → r = lN (wdF 32 T n (tbF T n j))) → Q r N') : C G Y_X10_readName d [.ref (G.b + 1), .ref (G.b + o)] N (Rj Q) := by
  refine up1 (P := fun d => C G Y_X10_readName d _ N (Rj Q)) (fun e => b_X10_readName (d := e + 7) hL (sh_of ho) ?_) hd
  cases x with
  | error z =>
    refine ⟨fun g => ?_, fun _ => h _ N (FT.rf N) hx (fun j hj => (by cases hj))⟩
    rw [hx.1] at g
    exact absurd g (nI_ne0 (by have := hx.2.1; omega) hx.2.2)
  | ok j =>
    refine ⟨fun _ => ?_, fun g => absurd hx.1 g⟩
    obtain ⟨k1, k2, k3, k4, k5, k6, k7⟩ := id hx
    have sl : soF T n (tbF T n j) ≤ 4 := soP_le T n (plF T n (tbF T n j))
    have bad : ∀ k, 1 ≤ k ∧ k ≤ 5 → sNm T n nm (.ok j) = fl T n k (.ok j) → C G Y_X10_fail (e + 7) [.ref (G.b + 1), .int (nI k)] N (Rv fun M4 => M4.2.2 = N.2.2 ∧ Q 0 M4) := fun k hk he =>
      x_fail (by omega) hL hT.2.1 hk hx (fun N' hF hk' => ⟨hF.1, h _ N' hF (by rw [he]; exact hk') (fun j' hj' h' => by rw [he] at h'; exact absurd h' fl_err)⟩)
    rw [k4, show (1 : Int32) = nI 1 from rfl, nI_eq (by omega) (by omega)]
    refine ⟨fun g => bad 1 (by omega) (ifc_neg (fun hh => g hh.1)), fun g => ?_⟩
    refine x_isReserved (by omega) hS hL hx (fun hr => ⟨rfl, fun _ => ?_, fun q => (by cases q)⟩) (fun hr => ⟨rfl, fun q => absurd rfl q, fun _ => ?_⟩)
    · obtain ⟨w, hw, hW⟩ := hr
      exact bad 1 (by omega) (ifc_neg (fun hh => hh.2 ⟨w, by omega, hW⟩))
    · refine x_kindHere (by omega) hS hL hx (fun hk => ⟨rfl, fun q => ?_, fun _ => ?_⟩) (fun hk => ⟨rfl, fun _ => ?_, fun q => absurd rfl q⟩)
      · have kl := kdv_le (T := T) (n := n) (j := j)
        exact absurd (show nI (kdv T n j) < 0 by rw [q]; decide) (nI_pos (by omega))
      · obtain ⟨k, hk4, hW⟩ := hk
        exact bad 1 (by omega) (ifc_neg (fun hh => hh.2 ⟨12 + k, by omega, hW⟩))
      · have nres : ¬ isRes T n j := by
          rintro ⟨w, hw, hW⟩
          by_cases h12 : w < 12
          · exact hr ⟨w, h12, hW⟩
          · exact hk ⟨w - 12, by omega, by rw [show 12 + (w - 12) = w by omega]; exact hW⟩
        rw [k5 g]
        refine x_hasName (by omega) hL ho ha ha6 hm hm7 hN g (fun hh => ⟨rfl, fun q => (by cases q), fun _ => ?_⟩) (fun hh => ⟨rfl, fun _ => ?_, fun q => absurd rfl q⟩)
        · exact bad 3 (by omega) ((ifc_pos ⟨g, nres⟩).trans (ifc_pos hh))
        · have e3 : sNm T n nm (.ok j) = .ok (j + 1) := (ifc_pos ⟨g, nres⟩).trans (ifc_neg hh)
          exact x_adv (by omega) hL hT hx (fun N' hF hk' => ⟨hF.1, h _ N' hF (by rw [e3]; exact hk') (fun j' hj' _ => by cases hj'; exact k5 g)⟩)
theorem x_readKind {G : MG} {d : Nat} {Q : Int32 → Mm → Prop} {T : Nat → Nat} {n c : Nat} {N : Mm} {x : Except Nat Nat} (hd : 8 ≤ d) (hS : Str G) (hL : Lay c N) (hT : TpX T n N) (hx : Tk T n N x)
    (h : ∀ r N', FT N N' → Tk T n N' (sKd T n x) → (∀ j, sKd T n x = .ok j → r = nI (kdX T n x)) → Q r N') : C G Y_X10_readKind d [.ref (G.b + 1)] N (Ri Q) := by
  refine up1 (P := fun d => C G Y_X10_readKind d _ N (Ri Q)) (fun e => b_X10_readKind (d := e + 7) hL ?_) hd
  cases x with
  | error z =>
    refine ⟨fun g => ?_, fun _ => h _ N (FT.rf N) hx (fun j hj => (by cases hj))⟩
    rw [hx.1] at g
    exact absurd g (nI_ne0 (by have := hx.2.1; omega) hx.2.2)
  | ok j =>
    refine ⟨fun _ => x_kindHere (by omega) hS hL hx (fun hk => ⟨rfl, fun _ => ?_, fun q => ?_⟩) (fun hk => ⟨rfl, fun q => absurd rfl q, fun _ => ?_⟩), fun g => absurd hx.1 g⟩
    · exact x_adv (by omega) hL hT hx (fun N' hF hk' => ⟨hF.1, h _ N' hF (by rw [show sKd T n (.ok j) = .ok (j + 1) from ifc_pos hk]; exact hk') (fun _ _ => rfl)⟩)
    · have kl := kdv_le (T := T) (n := n) (j := j)
      exact absurd (show nI (kdv T n j) < 0 by rw [q]; decide) (nI_pos (by omega))
    · exact x_fail (k := 1) (by omega) hL hT.2.1 (by omega) hx (fun N' hF hk' => ⟨hF.1, h _ N' hF (by rw [show sKd T n (.ok j) = fl T n 1 (.ok j) from ifc_neg hk]; exact hk') (fun j' hj' => by rw [show sKd T n (.ok j) = fl T n 1 (.ok j) from ifc_neg hk] at hj'; exact absurd hj' fl_err)⟩)
