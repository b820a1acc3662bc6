/-! ===== through the chain ===== -/
abbrev inS (px py re : Int32) (S : S3) : Prop := abS (dS px S.1 S.2.2) + abS (dS py S.2.1 S.2.2) ≤ re.toInt64 * S.2.2
def goS (M : Mm) : Nat → Nat → S3 → Bool × S3
  | 0, _, S => (true, S)
  | m + 1, i, S => if inS (ar M (M.1 153 (86 + i)).toNatClampNeg 9) (ar M (M.1 153 (86 + i)).toNatClampNeg 10) (ar M (M.1 153 (86 + i)).toNatClampNeg 11) S then goS M m (i + 1) (cpyR M (M.1 153 (86 + i)).toNatClampNeg (ar M (M.1 153 (86 + i)).toNatClampNeg 13) S) else (false, S)
theorem ar_eq {M N : Mm} (h : N.1 153 = M.1 153) (a w : Nat) : ar N a w = ar M a w := by unfold ar; rw [h]
theorem goS_eq {M N : Mm} (h : N.1 153 = M.1 153) : ∀ m i S, goS N m i S = goS M m i S := by
  intro m
  induction m with
  | zero => intro i S; rfl
  | succ m ih =>
    intro i S
    unfold goS cpyR
    simp only [ar_eq h, h, ih]
/-- all that a call through the chain wants -/
theorem Inv.armK {c n a : Nat} {M : Mm} (hI : Inv c M) (hn : M.1 153 0 = nI n) (hn6 : n ≤ 6) (ha : a < n) : ArmK M c a := by
  obtain ⟨n', ⟨o1, o2, o3, o4⟩, ⟨hS, -, -⟩, -⟩ := hI.2.2.2.2.1
  rw [o2, nI_eq (by omega) (by omega)] at hn
  subst hn
  exact ⟨by omega, o4 a ha, hS a ha⟩
theorem Inv.chK {c : Nat} {M : Mm} (hI : Inv c M) : ∃ k : Nat, k ≤ 4 ∧ M.1 75 7 = nI k ∧ M.1 153 85 = nI k ∧ ∀ i, i < k → ∃ a, a < 6 ∧ M.1 82 i = nI a ∧ M.1 153 (86 + i) = nI a ∧ ArmK M c a := by
  obtain ⟨n, ⟨o1, o2, o3, o4⟩, ⟨hS, ⟨k1, k, k2, k3, k4, k5⟩, -⟩, -⟩ := hI.2.2.2.2.1
  refine ⟨k, k2, k1.trans k3, k3, fun i hi => ?_⟩
  obtain ⟨e1, a, ha, e2⟩ := k4 i hi
  exact ⟨a, by omega, e1.trans e2, e2, by omega, o4 a ha, hS a ha⟩
theorem s_passChain {G : MG} {d : Nat} {Q : Int32 → Mm → Prop} {M : Mm} {c k : Nat} {x y : Int32} (hd : 2 ≤ d) (hI : Inv c M) (hk4 : k ≤ 4) (hk : M.1 153 85 = nI k)
    (h : ∀ N S', SpX M N S' → ((goS M k 0 (x.toInt64, y.toInt64, 1)).1 = true → S' = (goS M k 0 (x.toInt64, y.toInt64, 1)).2) → Q (if (goS M k 0 (x.toInt64, y.toInt64, 1)).1 = true then 1 else 0) N) : C G Y_X11_passChain d [.ref (G.b + 0), .int x, .int y] M (Ri Q) := by
  have hL := hI.lay
  obtain ⟨k', hk4', hk7, hk85, hch⟩ := hI.chK
  rw [hk85, nI_eq (by omega) (by omega)] at hk
  subst hk
  refine up1 (P := fun d => C G Y_X11_passChain d _ M (Ri Q)) (fun e => b_X11_passChain (d := e + 1) hL hI.cc ?_) hd
  have key : ∀ m i (N : Mm) S, i + m = k' → SpX M N S → (∀ N' S', SpX M N' S' → ((goS M m i S).1 = true → S' = (goS M m i S).2) → Q (if (goS M m i S).1 = true then 1 else 0) N') → L_X11_passChain_11 G (e + 1) Q (nI i) N := by
    intro m
    induction m with
    | zero =>
      intro i N S hi hN hq
      refine b_X11_passChain_11 (hN.lay hL) hI.cc ⟨fun _ => hq N S hN (fun _ => rfl), fun h => absurd ?_ h⟩
      rw [hN.1, hk7, nI_leI (by omega) (by omega)]; omega
    | succ m ih =>
      intro i N S hi hN hq
      refine b_X11_passChain_11 (hN.lay hL) hI.cc ⟨fun h => absurd h ?_, fun _ => ⟨(inN (by omega) (by omega)).1, ?_⟩⟩
      · rw [hN.1, hk7, nI_leI (by omega) (by omega)]; omega
      · obtain ⟨a, ha6, ea, er, hak⟩ := hch i (by omega)
        have hcl := nI_clamp (show a < 2 ^ 31 by omega)
        rw [hN.1, nI_clamp (show i < 2 ^ 31 by omega), ea]
        unfold goS at hq
        rw [er, hcl] at hq
        refine s_isOutX (by omega) hL hI.cc hak hN (fun ho => ⟨rfl, fun _ => ⟨(inN ha6 (by omega)).1, ?_⟩, fun h => absurd rfl h⟩) (fun ho => ⟨rfl, fun h => (by cases h), fun _ => ?_⟩)
        · have hi2 : inS (ar M a 9) (ar M a 10) (ar M a 11) S := Classical.not_not.mp ho
          rw [if_pos hi2] at hq
          rw [hcl, hN.1, show M.1 81 a = ar M a 13 from hak.2.2.2.2.2.2.2.1, nI_1]
          exact s_copyBy (by omega) hL hI.cc hak hN (fun N' hN' => ⟨by rw [hN'.2.1, hN.2.1], ih (i + 1) N' _ (by omega) hN' hq⟩)
        · have hi2 : ¬ inS (ar M a 9) (ar M a 10) (ar M a 11) S := ho
          rw [if_neg hi2] at hq
          exact hq N S hN (fun h => (by cases h))
  exact s_begin (by omega) hL (fun N hN => ⟨hN.2.1, key k' 0 N _ (by omega) hN h⟩)
theorem s_goes {G : MG} {d : Nat} {Q : Int32 → Mm → Prop} {M : Mm} {c k : Nat} {x y : Int32} (hd : 3 ≤ d) (hI : Inv c M) (hk4 : k ≤ 4) (hk : M.1 153 85 = nI k)
    (h : ∀ N S', SpM M N S' → ((goS M k 0 (x.toInt64, y.toInt64, 1)).1 = true → S' = (goS M k 0 (x.toInt64, y.toInt64, 1)).2) → Q (if (goS M k 0 (x.toInt64, y.toInt64, 1)).1 = true then 1 else 0) N) : C G Y_X12_goes d [.ref (G.b + 147), .int x, .int y] M (Ri Q) := by
  have hL := hI.lay
  obtain ⟨k', hk4', hk7, hk85, hch⟩ := hI.chK
  rw [hk85, nI_eq (by omega) (by omega)] at hk
  subst hk
  refine up1 (P := fun d => C G Y_X12_goes d _ M (Ri Q)) (fun e => b_X12_goes (d := e + 2) hL ?_) hd
  have fin0 : ∀ i (N : Mm) S, SpM M N S → Q 0 N → i ≤ k' → L_X12_goes_11 G (e + 2) Q 0 (nI i) N := fun i N S hN hq hi =>
    b_X12_goes_11 (hN.lay hL) (s_chained (by omega) (hN.lay hL) ⟨rfl, fun _ => ⟨.inl rfl, hq⟩, fun _ => ⟨fun _ => ⟨.inl rfl, hq⟩, fun h => absurd rfl h⟩⟩)
  have key : ∀ m i (N : Mm) S, i + m = k' → SpM M N S → (∀ N' S', SpM M N' S' → ((goS M m i S).1 = true → S' = (goS M m i S).2) → Q (if (goS M m i S).1 = true then 1 else 0) N') → L_X12_goes_11 G (e + 2) Q 1 (nI i) N := by
    intro m
    induction m with
    | zero =>
      intro i N S hi hN hq
      refine b_X12_goes_11 (hN.lay hL) (s_chained (by omega) (hN.lay hL) ⟨rfl, fun _ => ⟨.inr rfl, hq N S hN (fun _ => rfl)⟩, fun h => absurd ?_ h⟩)
      rw [hN.1, hk85, nI_leI (by omega) (by omega)]; omega
    | succ m ih =>
      intro i N S hi hN hq
      have hLN := hN.lay hL
      refine b_X12_goes_11 hLN (s_chained (by omega) hLN ⟨rfl, fun h => absurd h ?_, fun _ => ⟨fun h => (by cases h), fun _ => ?_⟩⟩)
      · rw [hN.1, hk85, nI_leI (by omega) (by omega)]; omega
      · obtain ⟨a, ha6, ea, er, hak⟩ := hch i (by omega)
        have hcl := nI_clamp (show a < 2 ^ 31 by omega)
        unfold goS at hq
        rw [er, hcl] at hq
        have er' : N.1 153 (86 + i) = nI a := by rw [hN.1]; exact er
        refine s_chainOf (by omega) hLN (by omega) ⟨rfl, ?_⟩
        rw [er']
        refine s_isOutM (by omega) hL ha6 hN (fun ho => ⟨rfl, fun h => absurd rfl h, fun _ => ?_⟩) (fun ho => ⟨rfl, fun _ => ?_, fun h => (by cases h)⟩)
        · have hi2 : inS (ar M a 9) (ar M a 10) (ar M a 11) S := Classical.not_not.mp ho
          rw [if_pos hi2] at hq
          refine b_X12_goes_42 hLN ⟨fun h => (by cases h), fun _ => ?_⟩
          refine s_chainOf (by omega) hLN (by omega) ⟨rfl, ?_⟩
          rw [er']
          refine s_chainOf (by omega) hLN (by omega) ⟨rfl, ?_⟩
          rw [er']
          refine s_of 13 (by omega) hLN ha6 (by omega) rfl ⟨rfl, ?_⟩
          rw [hN.1, show M.1 153 (1 + 14 * a + 13) = ar M a 13 from rfl, nI_1]
          exact s_traces (by omega) hL hak hN (fun N' hN' => ⟨by rw [hN'.2.1, hN.2.1], ih (i + 1) N' _ (by omega) hN' hq⟩)
        · have hi2 : ¬ inS (ar M a 9) (ar M a 10) (ar M a 11) S := ho
          rw [if_neg hi2] at hq
          refine b_X12_goes_42 hLN ⟨fun _ => ?_, fun h => absurd rfl h⟩
          rw [nI_1]
          exact fin0 (i + 1) N S hN (hq N S hN (fun h => (by cases h))) (by omega)
  exact s_starts (by omega) hL (fun N hN => ⟨hN.2.1, key k' 0 N _ (by omega) hN h⟩)
/-- which points of a map the chain does not reach, as bits -/
def outB (M : Mm) (k m : Nat) : Nat → Nat → Int32 → Int32
  | 0, _, b => b
  | j + 1, i, b => outB M k m j (i + 1) (if (goS M k 0 ((M.1 154 (1 + 16 * m + (4 + 2 * i))).toInt64, (M.1 154 (1 + 16 * m + (5 + 2 * i))).toInt64, 1)).1 = true then b else b ||| (1 <<< (nI i &&& 31)))
theorem sh_cht {c m : Nat} (hc : c = 3 ∨ c = 39) (hm : m < 7) : sh (c + 15 + 3 * m) = some (.inr 2) := by
  have h : ∀ m, m < 7 → sh (3 + 15 + 3 * m) = some (.inr 2) ∧ sh (39 + 15 + 3 * m) = some (.inr 2) := by decide +kernel
  rcases hc with rfl | rfl
  · exact (h m hm).1
  · exact (h m hm).2
theorem s_outsX {G : MG} {d : Nat} {Q : Int32 → Mm → Prop} {M : Mm} {c k n : Nat} {x1 : Int32} (hd : 3 ≤ d) (hI : Inv c M) (hk4 : k ≤ 4) (hk : M.1 153 85 = nI k) (hC : Charts M c n)
    (h0 : (x1 < 0 ∨ nI n ≤ x1) → Q (-1) M) (h1 : ∀ m p, m < n → x1 = nI m → M.1 154 (1 + 16 * m + 3) = nI p → p ≤ 6 → ∀ N, Ess M N → Q (outB M k m p 0 0) N) : C G Y_X11_outs d [.ref (G.b + 0), .int x1] M (Ri Q) := by
  have hL := hI.lay
  obtain ⟨g1, g2, g3, g4⟩ := hC
  refine up1 (P := fun d => C G Y_X11_outs d _ M (Ri Q)) (fun e => b_X11_outs (d := e + 2) hL hI.cc ?_) hd
  refine s_hasChart (by omega) hL hI.cc ⟨rfl, fun h => ?_, fun h => ?_⟩
  · rw [g1] at h
    obtain ⟨m, hm, rfl⟩ := an_of (by omega) (if02 h)
    refine ⟨(inN (by omega) (by omega)).1, ?_⟩
    rw [nI_clamp (show m < 2 ^ 31 by omega), show c + 2 + 13 + 3 * m = c + 15 + 3 * m by omega]
    obtain ⟨-, -, -, r3, p, p1, p2, p3, p4⟩ := g4 m hm
    have hq := h1 m p hm rfl p3 p2
    have hcc := hI.cc
    have key : ∀ j i b (N : Mm), i + j = p → Ess M N → (∀ N', Ess M N' → Q (outB M k m j i b) N') → L_X11_outs_28 G (e + 2) Q (c + 15 + 3 * m) b (nI i) N := by
      intro j
      induction j with
      | zero =>
        intro i b N hi hN hq
        refine b_X11_outs_28 (lay_of hL hN.1) hcc (sh_cht hcc (by omega)) ⟨fun _ => hq N hN, fun h => absurd ?_ h⟩
        rw [hN.2.1 _ (by omega) (by omega), r3, p3, nI_leI (by omega) (by omega)]; omega
      | succ j ih =>
        intro i b N hi hN hq
        have hin : vp_in (nI i) 6 := (inN (by omega) (by omega)).1
        obtain ⟨⟨x1, -⟩, ⟨x2, -⟩⟩ := p4 i (by omega)
        refine b_X11_outs_28 (lay_of hL hN.1) hcc (sh_cht hcc (by omega)) ⟨fun h => absurd h ?_, fun _ => ⟨hin, hin, ?_⟩⟩
        · rw [hN.2.1 _ (by omega) (by omega), r3, p3, nI_leI (by omega) (by omega)]; omega
        · rw [nI_clamp (show i < 2 ^ 31 by omega), hN.2.1 _ (by omega) (by omega), hN.2.1 _ (by omega) (by omega), x1, x2, nI_1]
          have e153 : N.1 153 = M.1 153 := hN.2.2.2.2.2.2.2.1
          refine s_passChain (by omega) (hI.ess hN) hk4 (by rw [e153]; exact hk) (fun N' S' hN' _ => ⟨hN'.2.1, ?_⟩)
          rw [goS_eq e153]
          unfold outB at hq
          refine ⟨fun h => ih (i + 1) b N' (by omega) (hN.tr hN'.ess) ?_, fun h => ih (i + 1) _ N' (by omega) (hN.tr hN'.ess) ?_⟩
          · rw [if_pos] at hq
            · exact hq
            · exact Classical.not_not.mp (fun hh => h (if_neg hh))
          · rw [if_neg] at hq
            · exact hq
            · intro hh
              rw [if_pos hh] at h
              cases h
    exact key p 0 0 M (by omega) (Ess.rf M) hq
  · rw [g1] at h
    exact h0 (if01 h)
theorem s_outsM {G : MG} {d : Nat} {Q : Int32 → Mm → Prop} {M : Mm} {c k n : Nat} {x1 : Int32} (hd : 4 ≤ d) (hI : Inv c M) (hk4 : k ≤ 4) (hk : M.1 153 85 = nI k) (hC : Charts M c n)
    (h0 : (x1 < 0 ∨ nI n ≤ x1) → Q (-1) (sI M 147 0 0)) (h1 : ∀ m p, m < n → x1 = nI m → M.1 154 (1 + 16 * m + 3) = nI p → p ≤ 6 → ∀ N, Ess M N → Q (outB M k m p 0 0) N) : C G Y_X12_outs d [.ref (G.b + 147), .int x1] M (Ri Q) := by
  have hL := hI.lay
  obtain ⟨g1, g2, g3, g4⟩ := hC
  refine up1 (P := fun d => C G Y_X12_outs d _ M (Ri Q)) (fun e => b_X12_outs (d := e + 3) hL (fun M1 e1 => ?_)) hd
  subst e1
  refine s_isMap (by omega) (lay_sI hL) ⟨rfl, fun h => ?_, fun h => ?_⟩
  · have := if02 h
    rw [show (sI M 147 0 0).1 154 0 = nI n from g2] at this
    obtain ⟨m, hm, rfl⟩ := an_of (by omega) this
    obtain ⟨-, -, -, r3, p, p1, p2, p3, p4⟩ := g4 m hm
    have hq := h1 m p hm rfl p3 p2
    have p3' : M.1 154 (1 + 16 * m + 3) = nI p := p3
    have key : ∀ j i b (N : Mm), i + j = p → Ess M N → (∀ N', Ess M N' → Q (outB M k m j i b) N') → L_X12_outs_19 G (e + 3) Q (nI m) b (nI i) N := by
      intro j
      induction j with
      | zero =>
        intro i b N hi hN hq
        have hLN := lay_of hL hN.1
        refine b_X12_outs_19 hLN (s_mapOf 3 (by omega) hLN (by omega) (by omega) rfl ⟨rfl, fun _ => hq N hN, fun h => absurd ?_ h⟩)
        rw [hN.2.2.2.2.2.2.2.2.1, p3', nI_leI (by omega) (by omega)]; omega
      | succ j ih =>
        intro i b N hi hN hq
        have hLN := lay_of hL hN.1
        have e154 : N.1 154 = M.1 154 := hN.2.2.2.2.2.2.2.2.1
        have e153 : N.1 153 = M.1 153 := hN.2.2.2.2.2.2.2.1
        have ei : ∀ w, nI w + 2 * nI i = nI (w + 2 * i) := fun w => by rw [show (2 : Int32) = nI 2 from rfl, pk_mul, nI_add]
        refine b_X12_outs_19 hLN (s_mapOf 3 (by omega) hLN (by omega) (by omega) rfl ⟨rfl, fun h => absurd h ?_, fun _ => ?_⟩)
        · rw [e154, p3', nI_leI (by omega) (by omega)]; omega
        · refine s_mapOf (4 + 2 * i) (by omega) hLN (by omega) (by omega) (ei 4) ⟨rfl, ?_⟩
          refine s_mapOf (5 + 2 * i) (by omega) hLN (by omega) (by omega) (ei 5) ⟨rfl, ?_⟩
          rw [e154, nI_1]
          refine s_goes (by omega) (hI.ess hN) hk4 (by rw [e153]; exact hk) (fun N' S' hN' _ => ⟨hN'.2.1, ?_⟩)
          rw [goS_eq e153]
          unfold outB at hq
          refine ⟨fun h => ih (i + 1) _ N' (by omega) (hN.tr hN'.ess) ?_, fun h => ih (i + 1) _ N' (by omega) (hN.tr hN'.ess) ?_⟩
          · rw [if_neg] at hq
            · exact hq
            · intro hh
              rw [if_pos hh] at h
              cases h
          · rw [if_pos] at hq
            · rw [show b ||| 0 = b from Int32.or_zero]; exact hq
            · exact Classical.not_not.mp (fun hh => h (if_neg hh))
    exact key p 0 0 _ (by omega) (ess_sI (by omega)) hq
  · have := if01 h
    rw [show (sI M 147 0 0).1 154 0 = nI n from g2] at this
    exact h0 this
theorem outB_eq {M N : Mm} {k m : Nat} (h : N.1 153 = M.1 153) (h' : N.1 154 = M.1 154) : ∀ j i b, outB N k m j i b = outB M k m j i b := by
  intro j
  induction j with
  | zero => intro i b; rfl
  | succ j ih =>
    intro i b
    unfold outB
    rw [ih, goS_eq h, h']
theorem c_outs {G : MG} {d : Nat} {M : Mm} {c : Nat} {x1 : Int32} (hd : 4 ≤ d) (hI : Inv c M) : Two G d c Y_X11_outs [.ref (G.b + 0), .int x1] Y_X12_outs [.ref (G.b + 147), .int x1] M := by
  obtain ⟨n, hC⟩ := hI.2.2.2.1
  obtain ⟨k, hk4, -, hk, -⟩ := hI.chK
  refine s_outsX (by omega) hI hk4 hk hC (fun hb => ⟨rfl, s_outsM hd hI hk4 hk hC (fun _ => ⟨rfl, rfl, hI.th⟩) (fun m p hm e => ?_)⟩) (fun m p hm e hp hp6 N hN => ⟨hN.1, ?_⟩)
  · subst e
    exact noB hm hC.2.2.1 hb
  · have hIN := hI.ess hN
    have e153 : N.1 153 = M.1 153 := hN.2.2.2.2.2.2.2.1
    have e154 : N.1 154 = M.1 154 := hN.2.2.2.2.2.2.2.2.1
    obtain ⟨n', hC'⟩ := hIN.2.2.2.1
    have hnn : n' = n := by
      have h1 := hC'.2.1
      rw [e154, hC.2.1, nI_eq (by have := hC.2.2.1; omega) (by have := hC'.2.2.1; omega)] at h1
      exact h1.symm
    subst hnn
    refine s_outsM hd hIN hk4 (by rw [e153]; exact hk) hC' (fun hb => ?_) (fun m' p' hm' e' hp' hp6' N' hN' => ⟨hN'.1, ?_, hIN.ess hN'⟩)
    · subst e
      exact noB hm hC.2.2.1 hb
    · have := hC.2.2.1
      rw [e, nI_eq (by omega) (by omega)] at e'
      subst e'
      rw [e154, hp, nI_eq (by omega) (by omega)] at hp'
      subst hp'
      rw [outB_eq e153 e154]
