/-! ===== suspects ===== -/
def Cor (G : MG) : Prop := (∀ U, G.X U → va_Z "CopyArms" "CORNER_X" "[I" (.ref (G.ad 21)) (gA G) U U.heap) ∧ (∀ U, G.X U → va_T .int (G.ad 21) 4 (fun q => .int (cornX q)) (gA G) U U.heap) ∧ (∀ U, G.X U → va_Z "CopyArms" "CORNER_Y" "[I" (.ref (G.ad 22)) (gA G) U U.heap) ∧ (∀ U, G.X U → va_T .int (G.ad 22) 4 (fun q => .int (cornY q)) (gA G) U U.heap)
theorem SpX.tr {M N P : Mm} {S S' : S3} (h : SpX M N S) (k : SpX N P S') : SpX M P S' := ⟨k.1.trans h.1, k.2.1.trans h.2.1, fun o ho => (k.2.2.1 o ho).trans (h.2.2.1 o ho), k.2.2.2⟩
theorem SpM.tr {M N P : Mm} {S S' : S3} (h : SpM M N S) (k : SpM N P S') : SpM M P S' := ⟨k.1.trans h.1, k.2.1.trans h.2.1, fun o ho => (k.2.2.1 o ho).trans (h.2.2.1 o ho), k.2.2.2⟩
abbrev atS (x y : Int32) (S : S3) : Prop := S.1 = x.toInt64 * S.2.2 ∧ S.2.1 = y.toInt64 * S.2.2
def drw (M : Mm) (a : Nat) (t : Int32) : Nat → Nat → Bool
  | 0, _ => true
  | m + 1, q => if M.1 153 (90 + 3 * q) = 1 then (if atS (M.1 153 (91 + 3 * q)) (M.1 153 (92 + 3 * q)) (cpyR M a t ((cornX q).toInt64, (cornY q).toInt64, 1)) then drw M a t m (q + 1) else false) else drw M a t m (q + 1)
def tt (j : Nat) : Int32 := (-9) + nI j
theorem tt_1 (j : Nat) : tt j + 1 = tt (j + 1) := by unfold tt; rw [Int32.add_assoc, nI_1]
theorem tt_in : ∀ j, j < 19 → ¬ (9 : Int32) < tt j ∧ ¬ (10 : Int32) ≤ tt j ∧ ¬ (tt j < -9 ∨ 9 < tt j) ∧ ¬ (99 : Int32) ≤ tt j := by decide +kernel
def fbd (M : Mm) (a : Nat) : Nat → Nat → Option Nat
  | 0, _ => none
  | m + 1, j => if drw M a (tt j) 4 0 = true then some j else fbd M a m (j + 1)
theorem fbd_lt {M : Mm} {a : Nat} : ∀ m j r, fbd M a m j = some r → r < j + m := by
  intro m
  induction m with
  | zero => intro j r h; cases h
  | succ m ih =>
    intro j r h
    unfold fbd at h
    by_cases hd : drw M a (tt j) 4 0 = true
    · rw [if_pos hd] at h
      cases h; omega
    · rw [if_neg hd] at h
      have := ih (j + 1) r h
      omega
def rbd (z : Int32) : Option Nat → Int32
  | some j => tt j
  | none => z
theorem cpyR_eq {M N : Mm} (h : N.1 153 = M.1 153) (a : Nat) (t : Int32) (S : S3) : cpyR N a t S = cpyR M a t S := by
  unfold cpyR; simp only [ar_eq h]
theorem drw_eq {M N : Mm} (h : N.1 153 = M.1 153) (a : Nat) (t : Int32) : ∀ m q, drw N a t m q = drw M a t m q := by
  intro m
  induction m with
  | zero => intro q; rfl
  | succ m ih => intro q; unfold drw; simp only [h, ih, cpyR_eq h]
theorem fbd_eq {M N : Mm} (h : N.1 153 = M.1 153) (a : Nat) : ∀ m j, fbd N a m j = fbd M a m j := by
  intro m
  induction m with
  | zero => intro j; rfl
  | succ m ih => intro j; unfold fbd; simp only [drw_eq h, ih]
theorem s_isAt {G : MG} {d : Nat} {Q : Int32 → Mm → Prop} {M0 M : Mm} {c : Nat} {x y : Int32} {S : S3} (hd : 1 ≤ d) (hL : Lay c M0) (hg : SpX M0 M S) (h0 : ¬ atS x y S → Q 0 M) (h1 : atS x y S → Q 1 M) : C G Y_X9_isAt d [.ref (G.b + 126), .int x, .int y] M (Ri Q) := by
  refine up1 (P := fun d => C G Y_X9_isAt d _ M (Ri Q)) (fun e => b_X9_isAt (d := e) (hg.lay hL) ?_) hd
  rw [hg.2.2.2.1, hg.2.2.2.2.1, hg.2.2.2.2.2]
  exact ⟨fun h => h0 (fun h' => h h'.1), fun h => ⟨fun h2 => h0 (fun h' => h2 h'.2), fun h2 => h1 ⟨h, h2⟩⟩⟩
theorem Inv.seenK {c : Nat} {M : Mm} (hI : Inv c M) : bn (M.1 75 10) 0 15 ∧ ∀ q, q < 4 → M.1 153 (90 + 3 * q) = bitI (M.1 75 10) q ∧ (M.1 153 (90 + 3 * q) = 1 → M.1 83 q = M.1 153 (91 + 3 * q) ∧ M.1 84 q = M.1 153 (92 + 3 * q)) := by
  obtain ⟨n, -, ⟨-, -, hs⟩, -⟩ := hI.2.2.2.2.1
  exact hs
theorem bit_ne {x : Int32} {q : Nat} : (x &&& (1 <<< (nI q &&& 31)) = 0 → ¬ bitI x q = 1) ∧ (¬ x &&& (1 <<< (nI q &&& 31)) = 0 → bitI x q = 1) := by
  unfold bitI
  refine ⟨fun h => ?_, fun h => ?_⟩
  · rw [if_pos h]; decide
  · rw [if_neg h]
theorem s_drawsX {G : MG} {d : Nat} {Q : Int32 → Mm → Prop} {M N : Mm} {c a : Nat} {t : Int32} {S : S3} (hd : 2 ≤ d) (hG : Cor G) (hI : Inv c M) (hk : ArmK M c a) (hN : SpX M N S)
    (h : ∀ N' S', SpX M N' S' → Q (if drw M a t 4 0 = true then 1 else 0) N') : C G Y_X11_drawsAllSeen d [.ref (G.b + 0), .int (nI a), .int t] N (Ri Q) := by
  have hL := hI.lay
  obtain ⟨z1, z2, z3, z4⟩ := hG
  obtain ⟨-, hs⟩ := hI.seenK
  refine up1 (P := fun d => C G Y_X11_drawsAllSeen d _ N (Ri Q)) (fun e => b_X11_drawsAllSeen (d := e + 1) (hN.lay hL) hI.cc z1 z2 z3 z4 ?_) hd
  have key : ∀ m q (N : Mm) S, q + m = 4 → SpX M N S → (∀ N' S', SpX M N' S' → Q (if drw M a t m q = true then 1 else 0) N') → L_X11_drawsAllSeen_2 G (e + 1) Q (nI a) t (nI q) N := by
    intro m
    induction m with
    | zero =>
      intro q N S hq hN hk
      refine b_X11_drawsAllSeen_2 (hN.lay hL) hI.cc z1 z2 z3 z4 ⟨fun _ => hk N S hN, fun h => absurd ?_ h⟩
      rw [show (4 : Int32) = nI 4 from rfl, nI_leI (by omega) (by omega)]; omega
    | succ m ih =>
      intro q N S hq hN hq2
      have hin : vp_in (nI q) 4 := (inN (by omega) (by omega)).1
      obtain ⟨s1, s2⟩ := hs q (by omega)
      refine b_X11_drawsAllSeen_2 (hN.lay hL) hI.cc z1 z2 z3 z4 ⟨fun h => absurd h ?_, fun _ => ?_⟩
      · rw [show (4 : Int32) = nI 4 from rfl, nI_leI (by omega) (by omega)]; omega
      · rw [hN.1, nI_1, nI_clamp (show q < 2 ^ 31 by omega)]
        unfold drw at hq2
        refine ⟨fun hb => ?_, fun hb => ⟨hin, hin, ?_⟩⟩
        · have := bit_ne.1 hb
          rw [← s1] at this
          rw [if_neg this] at hq2
          exact ih (q + 1) N S (by omega) hN hq2
        · have h1 := bit_ne.2 hb
          rw [← s1] at h1
          rw [if_pos h1] at hq2
          refine s_begin (by omega) (hN.lay hL) (fun N1 h1' => ⟨h1'.2.1, ?_⟩)
          have hN1 := hN.tr h1'
          refine s_copyBy (by omega) hL hI.cc hk hN1 (fun N2 hN2 => ⟨by rw [hN2.2.1, hN1.2.1], hin, hin, ?_⟩)
          rw [hN2.1, (s2 h1).1, (s2 h1).2]
          refine s_isAt (by omega) hL hN2 (fun ha => ⟨rfl, fun h => absurd rfl h, fun _ => ?_⟩) (fun ha => ⟨rfl, fun _ => ?_, fun h => (by cases h)⟩)
          · rw [if_neg ha] at hq2
            exact hq2 N2 _ hN2
          · rw [if_pos ha] at hq2
            exact ih (q + 1) N2 _ (by omega) hN2 hq2
  exact key 4 0 N S (by omega) hN h
theorem s_drawsM {G : MG} {d : Nat} {Q : Int32 → Mm → Prop} {M N : Mm} {c a : Nat} {t : Int32} {S : S3} (hd : 3 ≤ d) (hI : Inv c M) (hk : ArmK M c a) (hN : SpM M N S)
    (h : ∀ N' S', SpM M N' S' → Q (if drw M a t 4 0 = true then 1 else 0) N') : C G Y_X12_drawsAll d [.ref (G.b + 147), .int (nI a), .int t] N (Ri Q) := by
  have hL := hI.lay
  refine up1 (P := fun d => C G Y_X12_drawsAll d _ N (Ri Q)) (fun e => b_X12_drawsAll (d := e + 2) (hN.lay hL) ?_) hd
  have fin0 : ∀ q (N : Mm), Lay c N → Q 0 N → L_X12_drawsAll_5 G (e + 2) Q (nI a) t 0 q N := fun q N hLN hq =>
    b_X12_drawsAll_5 hLN ⟨fun _ => ⟨.inl rfl, hq⟩, fun _ => ⟨fun _ => ⟨.inl rfl, hq⟩, fun h => absurd rfl h⟩⟩
  have key : ∀ m q (N : Mm) S, q + m = 4 → SpM M N S → (∀ N' S', SpM M N' S' → Q (if drw M a t m q = true then 1 else 0) N') → L_X12_drawsAll_5 G (e + 2) Q (nI a) t 1 (nI q) N := by
    intro m
    induction m with
    | zero =>
      intro q N S hq hN hk
      refine b_X12_drawsAll_5 (hN.lay hL) ⟨fun _ => ⟨.inr rfl, hk N S hN⟩, fun h => absurd ?_ h⟩
      rw [show (4 : Int32) = nI 4 from rfl, nI_leI (by omega) (by omega)]; omega
    | succ m ih =>
      intro q N S hq hN hq2
      obtain ⟨i1, i2⟩ := ix3' (q := q) (by omega)
      unfold drw at hq2
      have at66 : ∀ sx0 sx1 : Int32, M.1 153 (90 + 3 * q) = 1 → cornX q = sx1 → cornY q = sx0 → L_X12_drawsAll_66 G (e + 2) Q (nI a) t (nI q) (90 + 3 * nI q) sx0 sx1 N := by
        intro sx0 sx1 h1 ex ey
        subst ex; subst ey
        rw [if_pos h1] at hq2
        obtain ⟨j1, j2⟩ := ix3 (q := q) (w := 1) (by omega) (by omega)
        obtain ⟨l1, l2⟩ := ix3 (q := q) (w := 2) (by omega) (by omega)
        refine b_X12_drawsAll_66 (hN.lay hL) (s_starts (by omega) (hN.lay hL) (fun N1 h1' => ⟨h1'.2.1, ?_⟩))
        have hN1 := hN.tr h1'
        refine s_traces (by omega) hL hk hN1 (fun N2 hN2 => ⟨by rw [hN2.2.1, hN1.2.1], j1, ?_⟩)
        rw [show (1 : Int32) = nI 1 from rfl, show (2 : Int32) = nI 2 from rfl, j2, l2, hN2.1, hN2.2.2.2.1, hN2.2.2.2.2.1, hN2.2.2.2.2.2, show 90 + 3 * q + 1 = 91 + 3 * q by omega, show 90 + 3 * q + 2 = 92 + 3 * q by omega, nI_add]
        refine ⟨fun ha => ?_, fun ha => ⟨l1, fun hb => ?_, fun hb => ?_⟩⟩
        · rw [if_neg (show ¬ atS (M.1 153 (91 + 3 * q)) (M.1 153 (92 + 3 * q)) (cpyR M a t ((cornX q).toInt64, (cornY q).toInt64, 1)) from fun h => ha h.1)] at hq2
          exact fin0 _ N2 (hN2.lay hL) (hq2 N2 _ hN2)
        · rw [if_neg (show ¬ atS (M.1 153 (91 + 3 * q)) (M.1 153 (92 + 3 * q)) (cpyR M a t ((cornX q).toInt64, (cornY q).toInt64, 1)) from fun h => hb h.2)] at hq2
          exact fin0 _ N2 (hN2.lay hL) (hq2 N2 _ hN2)
        · rw [if_pos (show atS (M.1 153 (91 + 3 * q)) (M.1 153 (92 + 3 * q)) (cpyR M a t ((cornX q).toInt64, (cornY q).toInt64, 1)) from ⟨ha, hb⟩)] at hq2
          exact ih (q + 1) N2 _ (by omega) hN2 hq2
      refine b_X12_drawsAll_5 (hN.lay hL) ⟨fun h => absurd h ?_, fun _ => ⟨fun h => (by cases h), fun _ => ⟨i1, ?_⟩⟩⟩
      · rw [show (4 : Int32) = nI 4 from rfl, nI_leI (by omega) (by omega)]; omega
      · rw [i2, hN.1]
        refine ⟨fun h1 => ?_, fun h1 => ?_⟩
        · rw [if_neg h1] at hq2
          rw [nI_1]
          exact ih (q + 1) N S (by omega) hN hq2
        · rcases (show q = 0 ∨ q = 1 ∨ q = 2 ∨ q = 3 by omega) with rfl | rfl | rfl | rfl
          · exact ⟨fun h => absurd h (by decide), fun _ => ⟨fun _ => ⟨fun _ => at66 0 0 h1 rfl rfl, fun h => absurd (by decide) h⟩, fun h => absurd h (by decide)⟩⟩
          · exact ⟨fun _ => ⟨fun _ => at66 0 10 h1 rfl rfl, fun h => absurd (by decide) h⟩, fun h => absurd rfl h⟩
          · exact ⟨fun h => absurd h (by decide), fun _ => ⟨fun h => absurd rfl h, fun _ => ⟨fun h => absurd h (by decide), fun _ => at66 10 10 h1 rfl rfl⟩⟩⟩
          · exact ⟨fun h => absurd h (by decide), fun _ => ⟨fun _ => ⟨fun h => absurd h (by decide), fun _ => at66 10 0 h1 rfl rfl⟩, fun h => absurd h (by decide)⟩⟩
  exact key 4 0 N S (by omega) hN h
theorem s_leastBend {G : MG} {d : Nat} {Q : Int32 → Mm → Prop} {M N : Mm} {c a : Nat} {S : S3} (hd : 3 ≤ d) (hG : Cor G) (hI : Inv c M) (hk : ArmK M c a) (hN : SpX M N S)
    (h : ∀ N' S', SpX M N' S' → Q (rbd 10 (fbd M a 19 0)) N') : C G Y_X11_leastBend d [.ref (G.b + 0), .int (nI a)] N (Ri Q) := by
  have hL := hI.lay
  refine up1 (P := fun d => C G Y_X11_leastBend d _ N (Ri Q)) (fun e => b_X11_leastBend (d := e + 2) (hN.lay hL) ?_) hd
  have key : ∀ m j (N : Mm) S, j + m = 19 → SpX M N S → (∀ N' S', SpX M N' S' → Q (rbd 10 (fbd M a m j)) N') → L_X11_leastBend_3 G (e + 2) Q (nI a) (tt j) N := by
    intro m
    induction m with
    | zero =>
      intro j N S hj hN hq
      have : j = 19 := by omega
      subst this
      exact b_X11_leastBend_3 (hN.lay hL) ⟨fun _ => hq N S hN, fun h => absurd (by decide) h⟩
    | succ m ih =>
      intro j N S hj hN hq
      refine b_X11_leastBend_3 (hN.lay hL) ⟨fun h => absurd h (tt_in j (by omega)).1, fun _ => s_drawsX (by omega) hG hI hk hN (fun N' S' hN' => ⟨by rw [hN'.2.1, hN.2.1], fun h => ?_, fun h => ?_⟩)⟩
      · unfold fbd at hq
        rw [if_pos (Classical.not_not.mp (fun hh => h (if_neg hh)))] at hq
        exact hq N' S' hN'
      · unfold fbd at hq
        rw [if_neg (fun hh => by rw [if_pos hh] at h; cases h)] at hq
        rw [tt_1]
        exact ih (j + 1) N' S' (by omega) hN' hq
  exact key 19 0 N S (by omega) hN h
theorem s_findBend {G : MG} {d : Nat} {Q : Int32 → Mm → Prop} {M N : Mm} {c a : Nat} {S : S3} (hd : 4 ≤ d) (hI : Inv c M) (hk : ArmK M c a) (hN : SpM M N S)
    (h : ∀ N' S', SpM M N' S' → Q (rbd 99 (fbd M a 19 0)) N') : C G Y_X12_findBend d [.ref (G.b + 147), .int (nI a)] N (Ri Q) := by
  have hL := hI.lay
  refine up1 (P := fun d => C G Y_X12_findBend d _ N (Ri Q)) (fun e => b_X12_findBend (d := e + 3) (hN.lay hL) ?_) hd
  have key : ∀ m j (N : Mm) S, j + m = 19 → SpM M N S → (∀ N' S', SpM M N' S' → Q (rbd 99 (fbd M a m j)) N') → L_X12_findBend_3 G (e + 3) Q (nI a) (tt j) N := by
    intro m
    induction m with
    | zero =>
      intro j N S hj hN hq
      have : j = 19 := by omega
      subst this
      exact b_X12_findBend_3 (hN.lay hL) ⟨fun _ => hq N S hN, fun h => absurd (by decide) h⟩
    | succ m ih =>
      intro j N S hj hN hq
      refine b_X12_findBend_3 (hN.lay hL) ⟨fun h => absurd h (tt_in j (by omega)).2.1, fun _ => s_drawsM (by omega) hI hk hN (fun N' S' hN' => ⟨by rw [hN'.2.1, hN.2.1], fun h => ?_, fun h => ?_⟩)⟩
      · unfold fbd at hq
        rw [if_neg (fun hh => by rw [if_pos hh] at h; cases h)] at hq
        rw [tt_1]
        exact ih (j + 1) N' S' (by omega) hN' hq
      · unfold fbd at hq
        rw [if_pos (Classical.not_not.mp (fun hh => h (if_neg hh)))] at hq
        exact hq N' S' hN'
  exact key 19 0 N S (by omega) hN h
theorem rbd_10 {M : Mm} {a : Nat} : (rbd 10 (fbd M a 19 0) < -9 ∨ 9 < rbd 10 (fbd M a 19 0)) ↔ fbd M a 19 0 = none := by
  cases h : fbd M a 19 0 with
  | none => exact ⟨fun _ => rfl, fun _ => .inr (by decide)⟩
  | some j => exact ⟨fun h' => absurd h' (tt_in j (by have := fbd_lt _ _ _ h; omega)).2.2.1, fun h' => by cases h'⟩
theorem rbd_99 {M : Mm} {a : Nat} : (99 : Int32) ≤ rbd 99 (fbd M a 19 0) ↔ fbd M a 19 0 = none := by
  cases h : fbd M a 19 0 with
  | none => exact ⟨fun _ => rfl, fun _ => by decide⟩
  | some j => exact ⟨fun h' => absurd h' (tt_in j (by have := fbd_lt _ _ _ h; omega)).2.2.2, fun h' => by cases h'⟩
theorem sn_0 : ∀ b, b < 16 → (bitI (nI b) 0 + bitI (nI b) 1 + bitI (nI b) 2 + bitI (nI b) 3 = 0 ↔ nI b = 0) ∧ (bitI (nI b) 0 + bitI (nI b) 1 + bitI (nI b) 2 + bitI (nI b) 3 ≤ 0 ↔ nI b = 0) := by decide +kernel
theorem Inv.seen0 {c : Nat} {M : Mm} (hI : Inv c M) : (M.1 153 90 + M.1 153 93 + M.1 153 96 + M.1 153 99 = 0 ↔ M.1 75 10 = 0) ∧ (M.1 153 90 + M.1 153 93 + M.1 153 96 + M.1 153 99 ≤ 0 ↔ M.1 75 10 = 0) := by
  obtain ⟨⟨b, -, b2, b3⟩, hs⟩ := hI.seenK
  have q0 := (hs 0 (by omega)).1
  have q1 := (hs 1 (by omega)).1
  have q2 := (hs 2 (by omega)).1
  have q3 := (hs 3 (by omega)).1
  simp only [Nat.mul_zero, Nat.add_zero, Nat.mul_one, Nat.reduceAdd, Nat.reduceMul] at q0 q1 q2 q3
  rw [q0, q1, q2, q3, b3]
  exact sn_0 b (by omega)
/-- which arms may be the crooked one, as bits -/
def susB (M : Mm) : Nat → Nat → Int32 → Int32
  | 0, _, b => b
  | m + 1, a, b => susB M m (a + 1) (if fbd M a 19 0 = none then b else b ||| (1 <<< (nI a &&& 31)))
theorem susB_eq {M N : Mm} (h : N.1 153 = M.1 153) : ∀ m a b, susB N m a b = susB M m a b := by
  intro m
  induction m with
  | zero => intro a b; rfl
  | succ m ih => intro a b; unfold susB; rw [ih, fbd_eq h]
theorem c_suspects {G : MG} {d : Nat} {M : Mm} {c : Nat} (hd : 5 ≤ d) (hG : Cor G) (hI : Inv c M) : Two G d c Y_X11_suspects [.ref (G.b + 0)] Y_X12_suspects [.ref (G.b + 147)] M := by
  obtain ⟨n, ⟨o1, o2, o3, o4⟩, -, -⟩ := hI.2.2.2.2.1
  have hL := hI.lay
  have m : ∀ (N : Mm) (r : Int32), Ess M N → (M.1 75 10 = 0 → r = -1) → (¬ M.1 75 10 = 0 → r = susB M n 0 0) → C G Y_X12_suspects d [.ref (G.b + 147)] N (Ri fun r' M2 => M2.2.2 = N.2.2 ∧ r = r' ∧ Inv c M2) := by
    intro N r hN h0 h1
    have hIN := hI.ess hN
    have e153 : N.1 153 = M.1 153 := hN.2.2.2.2.2.2.2.1
    have e75 : N.1 75 = M.1 75 := hN.2.1 75 (by omega) (by omega)
    have hz := hIN.seen0.1
    rw [e75] at hz
    refine up1 (P := fun d => C G Y_X12_suspects d _ N (Ri fun r' M2 => M2.2.2 = N.2.2 ∧ r = r' ∧ Inv c M2)) (fun e => b_X12_suspects (d := e + 4) hIN.lay (fun M1 e1 => ?_)) hd
    have hI1 : Inv c M1 := by rw [e1]; exact hIN.th
    have e1' : M1.1 153 = M.1 153 := by rw [e1, sI_ne (by omega)]; exact e153
    have hz1 : M1.1 153 90 + M1.1 153 93 + M1.1 153 96 + M1.1 153 99 = 0 ↔ M.1 75 10 = 0 := by rw [e1', ← e153]; exact hz
    have f1 : M1.2.2 = N.2.2 := by rw [e1]; rfl
    have key : ∀ m a b (P : Mm) S, a + m = n → SpM M1 P S → (∀ P' S', SpM M1 P' S' → r = susB M m a b) → L_X12_suspects_18 G (e + 4) (fun r' M2 => M2.2.2 = N.2.2 ∧ r = r' ∧ Inv c M2) b (nI a) P := by
      intro m
      induction m with
      | zero =>
        intro a b P S ha hP hq
        refine b_X12_suspects_18 (hP.lay hI1.lay) (s_arms (by omega) (hP.lay hI1.lay) ⟨rfl, fun _ => ⟨hP.2.1.trans f1, hq P S hP, hI1.ess hP.ess⟩, fun h => absurd ?_ h⟩)
        rw [hP.1, e1', o2, nI_leI (by omega) (by omega)]; omega
      | succ m ih =>
        intro a b P S ha hP hq
        refine b_X12_suspects_18 (hP.lay hI1.lay) (s_arms (by omega) (hP.lay hI1.lay) ⟨rfl, fun h => absurd h ?_, fun _ => ?_⟩)
        · rw [hP.1, e1', o2, nI_leI (by omega) (by omega)]; omega
        · refine s_findBend (by omega) hI1 (hI1.armK (n := n) (by rw [e1']; exact o2) o3 (by omega)) hP (fun P' S' hP' => ⟨by rw [hP'.2.1, hP.2.1], fun h => ?_, fun h => ?_⟩)
          · rw [nI_1, show b ||| 0 = b from Int32.or_zero]
            refine ih (a + 1) b P' S' (by omega) hP' (fun P2 S2 hP2 => ?_)
            have := hq P2 S2 hP2
            unfold susB at this
            rw [rbd_99, fbd_eq e1'] at h
            rw [if_pos h] at this
            exact this
          · rw [nI_1]
            refine ih (a + 1) _ P' S' (by omega) hP' (fun P2 S2 hP2 => ?_)
            have := hq P2 S2 hP2
            unfold susB at this
            rw [rbd_99, fbd_eq e1'] at h
            rw [if_neg h] at this
            exact this
    refine s_seen (by omega) hI1.lay ⟨rfl, fun h => ?_, fun h => ⟨f1, h0 (hz1.mp h), hI1⟩⟩
    exact key n 0 0 M1 (M1.2.1 147 15, M1.2.1 147 16, M1.2.1 147 17) (by omega) ⟨rfl, rfl, fun _ _ => rfl, rfl, rfl, rfl⟩ (fun _ _ _ => h1 (fun h' => h (hz1.mpr h')))
  have x : ∀ e, C G Y_X11_suspects (e + 4) [.ref (G.b + 0)] M (Ri fun r M1 => M1.2.2 = M.2.2 ∧ C G Y_X12_suspects d [.ref (G.b + 147)] M1 (Ri fun r' M2 => M2.2.2 = M1.2.2 ∧ r = r' ∧ Inv c M2)) := by
    intro e
    refine b_X11_suspects (d := e + 3) hL hI.cc ⟨fun hs => ?_, fun hs => ⟨rfl, m M _ (Ess.rf M) (fun _ => rfl) (fun h => absurd hs h)⟩⟩
    have key : ∀ m' a b (P : Mm) S, a + m' = n → SpX M P S → (susB M n 0 0 = susB M m' a b) → L_X11_suspects_16 G (e + 3) (fun r M1 => M1.2.2 = M.2.2 ∧ C G Y_X12_suspects d [.ref (G.b + 147)] M1 (Ri fun r' M2 => M2.2.2 = M1.2.2 ∧ r = r' ∧ Inv c M2)) b (nI a) P := by
      intro m'
      induction m' with
      | zero =>
        intro a b P S ha hP hq
        refine b_X11_suspects_16 (hP.lay hL) hI.cc ⟨fun _ => ⟨hP.2.1, m P _ hP.ess (fun h => absurd h hs) (fun _ => hq.symm)⟩, fun h => absurd ?_ h⟩
        rw [hP.1, o1, nI_leI (by omega) (by omega)]; omega
      | succ m' ih =>
        intro a b P S ha hP hq
        refine b_X11_suspects_16 (hP.lay hL) hI.cc ⟨fun h => absurd h ?_, fun _ => ?_⟩
        · rw [hP.1, o1, nI_leI (by omega) (by omega)]; omega
        · rw [show susB M (m' + 1) a b = susB M m' (a + 1) (if fbd M a 19 0 = none then b else b ||| (1 <<< (nI a &&& 31))) from rfl] at hq
          refine s_leastBend (by omega) hG hI (hI.armK o2 o3 (by omega)) hP (fun P' S' hP' => ⟨by rw [hP'.2.1, hP.2.1], s_isWithin (by omega) (hP'.lay hL) ⟨rfl, fun h => ?_, fun h => ?_⟩⟩)
          · rw [if_pos (rbd_10.mp (if01 h))] at hq
            rw [nI_1]
            exact ih (a + 1) b P' S' (by omega) hP' hq
          · rw [if_neg (fun hh => if02 h (rbd_10.mpr hh))] at hq
            rw [nI_1]
            exact ih (a + 1) _ P' S' (by omega) hP' hq
    exact key n 0 0 M (M.2.1 126 0, M.2.1 126 1, M.2.1 126 2) (by omega) ⟨rfl, rfl, fun _ _ => rfl, rfl, rfl, rfl⟩ rfl
  exact up1 (P := fun d' => C G Y_X11_suspects d' [.ref (G.b + 0)] M (Ri fun r M1 => M1.2.2 = M.2.2 ∧ C G Y_X12_suspects d [.ref (G.b + 147)] M1 (Ri fun r' M2 => M2.2.2 = M1.2.2 ∧ r = r' ∧ Inv c M2))) x (show 4 ≤ d by omega)
