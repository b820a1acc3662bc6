/-! ===== feed ===== -/
def chM (y : Int64) (i : Nat) : Int32 := ((y >>> ((nI (8 * i)).toInt64 &&& 63)).toInt32) &&& 255
def chX (y : Int64) (i : Nat) : Int32 := ((((((y.toUInt64 >>> ((nI (8 * i)).toInt64.toUInt64 &&& Int64.toUInt64 63)).toInt64) &&& 255).toInt32).toUInt32 % 65536).toInt32)
theorem shf_c : ∀ i, i < 8 → ((nI (8 * i)).toInt64 &&& 63).toBitVec.smod 64 = BitVec.ofNat 64 (8 * i) := by decide
theorem shf_u : ∀ i, i < 8 → ((nI (8 * i)).toInt64.toUInt64 &&& Int64.toUInt64 63).toBitVec % 64 = BitVec.ofNat 64 (8 * i) := by decide
theorem k255 : ∀ j, j < 32 → (Int32.toBitVec 255).getLsbD j = decide (j < 8) := by decide
theorem k255' : ∀ j, j < 64 → (Int64.toBitVec 255).getLsbD j = decide (j < 8) := by decide
theorem ch_eq (y : Int64) (i : Nat) (hi : i < 8) : chX y i = chM y i := by
  unfold chX chM
  apply Int32.toBitVec_inj.mp
  have h1 := shf_c i hi
  have h2 := shf_u i hi
  generalize ((nI (8 * i)).toInt64 &&& 63) = a at *
  generalize ((nI (8 * i)).toInt64.toUInt64 &&& Int64.toUInt64 63) = b at *
  apply BitVec.eq_of_getLsbD_eq
  intro j hj
  have hn : (BitVec.ofNat 64 (8 * i)).toNat = 8 * i := by
    rw [BitVec.toNat_ofNat]; omega
  have hm : ∀ x : BitVec 32, (x % (65536 : UInt32).toBitVec).getLsbD j = (decide (j < 16) && x.getLsbD j) := by
    intro x
    show (x % (65536 : UInt32).toBitVec).toNat.testBit j = _
    rw [BitVec.toNat_umod, show (65536 : UInt32).toBitVec.toNat = 2 ^ 16 from rfl, Nat.testBit_mod_two_pow]
    rfl
  simp only [Int32.toBitVec_and, Int64.toBitVec_toInt32, Int64.toBitVec_shiftRight, UInt32.toBitVec_toInt32, h1, UInt32.toBitVec_mod, hm, Int32.toBitVec_toUInt32, Int64.toBitVec_and, UInt64.toBitVec_toInt64, UInt64.toBitVec_shiftRight, h2, Int64.toBitVec_toUInt64, BitVec.signExtend_eq_setWidth_of_le _ (show 32 ≤ 64 by omega), BitVec.getLsbD_setWidth, BitVec.getLsbD_and, k255 j hj, k255' j (show j < 64 by omega), BitVec.sshiftRight', BitVec.getLsbD_sshiftRight, hn]
  by_cases h8 : j < 8
  · have e1 : 8 * i + j < 64 := by omega
    simp [h8, e1, hn, show j < 16 by omega, hj, show ¬ 64 ≤ j by omega, BitVec.ushiftRight_eq', BitVec.getLsbD_ushiftRight]
  · simp [h8]
theorem chM_lt (y : Int64) (i : Nat) : ∃ w : Nat, w < 256 ∧ chM y i = nI w := by
  unfold chM
  generalize (y >>> ((nI (8 * i)).toInt64 &&& 63)).toInt32 = x
  refine ⟨x.toBitVec.toNat % 256, Nat.mod_lt _ (by omega), ?_⟩
  apply Int32.toBitVec_inj.mp
  apply BitVec.eq_of_toNat_eq
  rw [Int32.toBitVec_and, BitVec.toNat_and, show (Int32.toBitVec 255).toNat = 2 ^ 8 - 1 from rfl, Nat.and_two_pow_sub_one_eq_mod]
  show _ = (BitVec.ofNat 32 _).toNat
  rw [BitVec.toNat_ofNat]
  omega
abbrev okc (w : Int32) : Prop := w = 10 ∨ ¬ w < 32 ∧ ¬ 126 < w
def push (s : Nat × (Nat → Int32)) (w : Int32) : Nat × (Nat → Int32) := if okc w ∧ s.1 < 1000 then (s.1 + 1, upd s.2 s.1 w) else s
def pushL (y : Int64) : Nat → (Nat × (Nat → Int32)) → Nat × (Nat → Int32)
  | 0, s => push s (chM y 0)
  | i + 1, s => pushL y i (push s (chM y (i + 1)))
/-- two tapes that are alike up to their length -/
def Like (s t : Nat × (Nat → Int32)) : Prop := s.1 = t.1 ∧ s.1 ≤ 1000 ∧ ∀ i, i < s.1 → s.2 i = t.2 i ∧ bn (t.2 i) 10 126
theorem lk_push {s t : Nat × (Nat → Int32)} {w : Int32} (h : Like s t) (hw : ∃ v : Nat, v < 256 ∧ w = nI v) : Like (push s w) (push t w) := by
  obtain ⟨h1, h2, h3⟩ := h
  unfold push
  by_cases hc : okc w ∧ s.1 < 1000
  · have hc' : okc w ∧ t.1 < 1000 := by rw [← h1]; exact hc
    rw [if_pos hc, if_pos hc']
    refine ⟨by show s.1 + 1 = t.1 + 1; omega, by show s.1 + 1 ≤ 1000; omega, fun i hi => ?_⟩
    show upd s.2 s.1 w i = upd t.2 t.1 w i ∧ bn (upd t.2 t.1 w i) 10 126
    have hi' : i < s.1 + 1 := hi
    by_cases he : i = s.1
    · rw [he, pk_us, h1, pk_us]
      refine ⟨rfl, ?_⟩
      obtain ⟨v, hv, rfl⟩ := hw
      rcases hc.1 with h | ⟨ha, hb⟩
      · exact ⟨10, by omega, by omega, h⟩
      · rw [show (32 : Int32) = nI 32 from rfl, nI_ltI (by omega) (by omega)] at ha
        rw [show (126 : Int32) = nI 126 from rfl, nI_ltI (by omega) (by omega)] at hb
        exact ⟨v, by omega, by omega, rfl⟩
    · rw [pk_un he, pk_un (by omega)]
      exact h3 i (by omega)
  · have hc' : ¬ (okc w ∧ t.1 < 1000) := by rw [← h1]; exact hc
    rw [if_neg hc, if_neg hc']
    exact ⟨h1, h2, h3⟩
theorem lk_pushL {y : Int64} : ∀ (i : Nat) {s t : Nat × (Nat → Int32)}, Like s t → Like (pushL y i s) (pushL y i t)
  | 0, _, _, h => lk_push h (chM_lt y 0)
  | i + 1, _, _, h => lk_pushL i (lk_push h (chM_lt y (i + 1)))
def gX (M N : Mm) (s : Nat × (Nat → Int32)) : Prop := N.2 = M.2 ∧ (∀ o k, o ≠ 2 → ¬ (o = 1 ∧ k = 0) → N.1 o k = M.1 o k) ∧ N.1 1 0 = nI s.1 ∧ N.1 2 = s.2 ∧ s.1 ≤ 1000
def gM (M N : Mm) (s : Nat × (Nat → Int32)) : Prop := N.2 = M.2 ∧ (∀ o k, o ≠ 148 → ¬ (o = 147 ∧ k = 2) → N.1 o k = M.1 o k) ∧ N.1 147 2 = nI s.1 ∧ N.1 148 = s.2 ∧ s.1 ≤ 1000
theorem s_add {G : MG} {d : Nat} {Q : Mm → Prop} {M0 M : Mm} {c : Nat} {y : Int64} {s : Nat × (Nat → Int32)} (hd : 1 ≤ d) (hL : Lay c M0) (hg : gX M0 M s) (h : ∀ N, gX M0 N (pushL y 7 s) → Q N) : C G Y_X10_add d [.ref (G.b + 1), .long y] M (Rv Q) := by
  have lay : ∀ {N : Mm} {s}, gX M0 N s → Lay c N := fun hN => by have := hL; unfold Lay at this ⊢; rw [hN.1]; exact this
  refine up1 (P := fun d => C G Y_X10_add d _ M (Rv Q)) (fun e => b_X10_add (d := e) (lay hg) ?_) hd
  have step : ∀ (N : Mm) (s : Nat × (Nat → Int32)) (x3 w f : Int32), gX M0 N s → (∃ v : Nat, v < 256 ∧ w = nI v) → (f = 1 ∧ okc w ∨ f = 0 ∧ ¬ okc w) → (∀ N', gX M0 N' (push s w) → L_X10_add_3 G e Q y (x3 + (-8)) N') → L_X10_add_44 G e Q y x3 w f N := by
    intro N s x3 w f hN hw hf hk
    obtain ⟨g1, g2, g3, g4, g5⟩ := hN
    refine b_X10_add_44 (lay ⟨g1, g2, g3, g4, g5⟩) ⟨fun h0 => hk N ?_, fun h0 => ⟨fun h1 => hk N ?_, fun h1 => ?_⟩⟩
    · unfold push
      rw [if_neg]
      · exact ⟨g1, g2, g3, g4, g5⟩
      · rcases hf with ⟨rfl, -⟩ | ⟨-, hf⟩
        · cases h0
        · exact fun h => hf h.1
    · unfold push
      rw [g3, show (1000 : Int32) = nI 1000 from rfl, nI_leI (by omega) (by omega)] at h1
      rw [if_neg (by omega)]
      exact ⟨g1, g2, g3, g4, g5⟩
    · rw [g3, show (1000 : Int32) = nI 1000 from rfl, nI_leI (by omega) (by omega)] at h1
      rw [g3, nI_clamp (show s.1 < 2 ^ 31 by omega)]
      refine ⟨vp_in_nI (by omega) (by omega), fun M3 e3 M4 e4 => ?_⟩
      obtain ⟨v, hv, rfl⟩ := hw
      have hnar : vp_nar .char (nI v) = nI v := by
        show ((nI v).toUInt32 % 65536).toInt32 = nI v
        rw [pk_char, pk_tn (by omega), Nat.mod_eq_of_lt (by omega)]
      have hok : okc (nI v) := by
        rcases hf with ⟨-, hf⟩ | ⟨rfl, -⟩
        · exact hf
        · exact absurd rfl h0
      rw [hnar] at e3
      subst e3
      rw [rd_sI, if_neg (by omega), g3, nI_1] at e4
      subst e4
      refine hk _ ?_
      unfold push
      rw [if_pos ⟨hok, by omega⟩]
      refine ⟨g1, fun o k h1 h2 => ?_, ?_, ?_, by show s.1 + 1 ≤ 1000; omega⟩
      · rw [rd_sI, if_neg (by omega), rd_sI, if_neg (by omega)]; exact g2 o k h1 h2
      · rw [rd_sI, if_pos ⟨rfl, rfl⟩]
      · rw [sI_ne (by omega), sI_at, g4]
  have key : ∀ i, i < 8 → ∀ (N : Mm) (s : Nat × (Nat → Int32)), gX M0 N s → (∀ N', gX M0 N' (pushL y i s) → Q N') → L_X10_add_3 G e Q y (nI (8 * i)) N := by
    intro i
    induction i with
    | zero =>
      intro _ N s hN hk
      refine b_X10_add_3 (lay hN) ⟨fun h => absurd h (nI_pos (by omega)), fun _ v2 e2 => ?_⟩
      have e2' : v2 = chM y 0 := e2.trans (ch_eq y 0 (by omega))
      subst e2'
      have fin : ∀ N', gX M0 N' (push s (chM y 0)) → L_X10_add_3 G e Q y (nI (8 * 0) + (-8)) N' := fun N' hN' => b_X10_add_3 (lay hN') ⟨fun _ => hk N' hN', fun h => absurd (by decide) h⟩
      exact ⟨fun h => step N s _ _ 1 hN (chM_lt y 0) (.inl ⟨rfl, .inl h⟩) fin, fun h => ⟨fun h2 => step N s _ _ 0 hN (chM_lt y 0) (.inr ⟨rfl, by rintro (h' | h'); exact h h'; exact h'.1 h2⟩) fin, fun h2 => ⟨fun h3 => step N s _ _ 0 hN (chM_lt y 0) (.inr ⟨rfl, by rintro (h' | h'); exact h h'; exact h'.2 h3⟩) fin, fun h3 => step N s _ _ 1 hN (chM_lt y 0) (.inl ⟨rfl, .inr ⟨h2, h3⟩⟩) fin⟩⟩⟩
    | succ i ih =>
      intro hi N s hN hk
      refine b_X10_add_3 (lay hN) ⟨fun h => absurd h (nI_pos (by omega)), fun _ v2 e2 => ?_⟩
      have e2' : v2 = chM y (i + 1) := e2.trans (ch_eq y (i + 1) hi)
      subst e2'
      have fin : ∀ N', gX M0 N' (push s (chM y (i + 1))) → L_X10_add_3 G e Q y (nI (8 * (i + 1)) + (-8)) N' := fun N' hN' => by
        have e8 : nI (8 * (i + 1)) + (-8) = nI (8 * i) := by
          rw [show 8 * (i + 1) = 8 * i + 8 by omega, ← nI_add, show (-8 : Int32) = - nI 8 from rfl, Int32.add_assoc, show nI 8 + -nI 8 = 0 from rfl, Int32.add_zero]
        rw [e8]
        exact ih (by omega) N' _ hN' hk
      exact ⟨fun h => step N s _ _ 1 hN (chM_lt y _) (.inl ⟨rfl, .inl h⟩) fin, fun h => ⟨fun h2 => step N s _ _ 0 hN (chM_lt y _) (.inr ⟨rfl, by rintro (h' | h'); exact h h'; exact h'.1 h2⟩) fin, fun h2 => ⟨fun h3 => step N s _ _ 0 hN (chM_lt y _) (.inr ⟨rfl, by rintro (h' | h'); exact h h'; exact h'.2 h3⟩) fin, fun h3 => step N s _ _ 1 hN (chM_lt y _) (.inl ⟨rfl, .inr ⟨h2, h3⟩⟩) fin⟩⟩⟩
  exact key 7 (by omega) M s hg h
theorem s_lay {G : MG} {d : Nat} {Q : Mm → Prop} {M0 M : Mm} {c : Nat} {y : Int64} {s : Nat × (Nat → Int32)} (hd : 1 ≤ d) (hL : Lay c M0) (hg : gM M0 M s) (h : ∀ N, gM M0 N (pushL y 7 s) → Q N) : C G Y_X12_lay d [.ref (G.b + 147), .long y] M (Rv Q) := by
  have lay : ∀ {N : Mm} {s}, gM M0 N s → Lay c N := fun hN => by have := hL; unfold Lay at this ⊢; rw [hN.1]; exact this
  refine up1 (P := fun d => C G Y_X12_lay d _ M (Rv Q)) (fun e => b_X12_lay (d := e) (lay hg) ?_) hd
  have step : ∀ (N : Mm) (s : Nat × (Nat → Int32)) (x3 w : Int32), gM M0 N s → okc w → (∀ N', gM M0 N' (push s w) → L_X12_lay_3 G e Q y (x3 + (-8)) N') → L_X12_lay_38 G e Q y x3 w N := by
    intro N s x3 w hN hok hk
    obtain ⟨g1, g2, g3, g4, g5⟩ := hN
    refine b_X12_lay_38 (lay ⟨g1, g2, g3, g4, g5⟩) ⟨fun h1 => hk N ?_, fun h1 => ?_⟩
    · unfold push
      rw [g3, show (1000 : Int32) = nI 1000 from rfl, nI_leI (by omega) (by omega)] at h1
      rw [if_neg (by omega)]
      exact ⟨g1, g2, g3, g4, g5⟩
    · rw [g3, show (1000 : Int32) = nI 1000 from rfl, nI_leI (by omega) (by omega)] at h1
      rw [g3, nI_clamp (show s.1 < 2 ^ 31 by omega)]
      refine ⟨vp_in_nI (by omega) (by omega), fun M3 e3 M4 e4 => ?_⟩
      subst e3
      rw [rd_sI, if_neg (by omega), g3, nI_1] at e4
      subst e4
      refine hk _ ?_
      unfold push
      rw [if_pos ⟨hok, by omega⟩]
      refine ⟨g1, fun o k h1 h2 => ?_, ?_, ?_, by show s.1 + 1 ≤ 1000; omega⟩
      · rw [rd_sI, if_neg (by omega), rd_sI, if_neg (by omega)]; exact g2 o k h1 h2
      · rw [rd_sI, if_pos ⟨rfl, rfl⟩]
      · rw [sI_ne (by omega), sI_at, g4]
  have no : ∀ (N : Mm) (s : Nat × (Nat → Int32)) (w : Int32), gM M0 N s → ¬ okc w → gM M0 N (push s w) := fun N s w hN hw => by
    unfold push
    rw [if_neg (fun h => hw h.1)]
    exact hN
  have key : ∀ i, i < 8 → ∀ (N : Mm) (s : Nat × (Nat → Int32)), gM M0 N s → (∀ N', gM M0 N' (pushL y i s) → Q N') → L_X12_lay_3 G e Q y (nI (8 * i)) N := by
    intro i
    induction i with
    | zero =>
      intro _ N s hN hk
      have fin : ∀ N', gM M0 N' (push s (chM y 0)) → L_X12_lay_3 G e Q y (nI (8 * 0) + (-8)) N' := fun N' hN' => b_X12_lay_3 (lay hN') ⟨fun _ => hk N' hN', fun h => absurd (by decide) h⟩
      refine b_X12_lay_3 (lay hN) ⟨fun h => absurd h (nI_pos (by omega)), fun _ => ?_⟩
      exact ⟨fun h => step N s _ _ hN (.inl h) fin, fun h => ⟨fun h2 => fin N (no N s _ hN (by rintro (h' | h'); exact h h'; exact h'.1 h2)), fun h2 => ⟨fun h3 => fin N (no N s _ hN (by rintro (h' | h'); exact h h'; exact h'.2 h3)), fun h3 => step N s _ _ hN (.inr ⟨h2, h3⟩) fin⟩⟩⟩
    | succ i ih =>
      intro hi N s hN hk
      have fin : ∀ N', gM M0 N' (push s (chM y (i + 1))) → L_X12_lay_3 G e Q y (nI (8 * (i + 1)) + (-8)) N' := fun N' hN' => by
        have e8 : nI (8 * (i + 1)) + (-8) = nI (8 * i) := by
          rw [show 8 * (i + 1) = 8 * i + 8 by omega, ← nI_add, show (-8 : Int32) = - nI 8 from rfl, Int32.add_assoc, show nI 8 + -nI 8 = 0 from rfl, Int32.add_zero]
        rw [e8]
        exact ih (by omega) N' _ hN' hk
      refine b_X12_lay_3 (lay hN) ⟨fun h => absurd h (nI_pos (by omega)), fun _ => ?_⟩
      exact ⟨fun h => step N s _ _ hN (.inl h) fin, fun h => ⟨fun h2 => fin N (no N s _ hN (by rintro (h' | h'); exact h h'; exact h'.1 h2)), fun h2 => ⟨fun h3 => fin N (no N s _ hN (by rintro (h' | h'); exact h h'; exact h'.2 h3)), fun h3 => step N s _ _ hN (.inr ⟨h2, h3⟩) fin⟩⟩⟩
  exact key 7 (by omega) M s hg h
theorem c_feed {G : MG} {d : Nat} {M : Mm} {c : Nat} {y1 y3 y5 : Int64} (hd : 3 ≤ d) (hI : Inv c M) : Two G d c Y_X11_feed [.ref (G.b + 0), .long y1, .long y3, .long y5] Y_X12_feed [.ref (G.b + 147), .long y1, .long y3, .long y5] M := by
  have hL := hI.lay
  obtain ⟨t1, n, t2, t3, t4⟩ := hI.2.2.1
  have hx0 : gX M M (n, M.1 2) := ⟨rfl, fun _ _ _ _ => rfl, t3, rfl, t2⟩
  have lik : Like (n, M.1 2) (n, M.1 148) := ⟨rfl, t2, t4⟩
  have layN : ∀ {N : Mm} {s}, gX M N s → Lay c N := fun hN => by have := hL; unfold Lay at this ⊢; rw [hN.1]; exact this
  have m : ∀ N1, gX M N1 (pushL y5 7 (pushL y3 7 (pushL y1 7 (n, M.1 2)))) → C G Y_X12_feed d [.ref (G.b + 147), .long y1, .long y3, .long y5] N1 (Ri fun r' M2 => M2.2.2 = N1.2.2 ∧ N1.1 1 0 = r' ∧ Inv c M2) := by
    intro N1 hN1
    refine up1 (P := fun d => C G Y_X12_feed d _ N1 (Ri fun r' M2 => M2.2.2 = N1.2.2 ∧ N1.1 1 0 = r' ∧ Inv c M2)) (fun e => b_X12_feed (d := e + 1) (layN hN1) (fun M1 e1 => ?_)) (show 2 ≤ d by omega)
    have hL1 : Lay c M1 := by rw [e1]; exact lay_sI (layN hN1)
    have hm0 : gM M1 M1 (n, M.1 148) := by
      refine ⟨rfl, fun _ _ _ _ => rfl, ?_, ?_, t2⟩
      · rw [e1, rd_sI, if_neg (by omega), hN1.2.1 147 2 (by omega) (by omega), t1, t3]
      · rw [e1, sI_ne (by omega)]
        exact funext fun k => hN1.2.1 148 k (by omega) (by omega)
    refine s_lay (by omega) hL1 hm0 (fun N2 h2 => ⟨by rw [h2.1], s_lay (by omega) hL1 h2 (fun N3 h3 => ⟨by rw [h3.1, h2.1], s_lay (by omega) hL1 h3 (fun N4 h4 => ⟨by rw [h4.1, h3.1], ?_⟩)⟩)⟩)
    have hlk := lk_pushL (y := y5) 7 (lk_pushL (y := y3) 7 (lk_pushL (y := y1) 7 lik))
    obtain ⟨a1, a2, a3, a4, a5⟩ := hN1
    obtain ⟨b1, b2, b3, b4, b5⟩ := h4
    obtain ⟨l1, l2, l3⟩ := hlk
    have es : ∀ o k, ES o k → o ≠ 1 → o ≠ 2 → o ≠ 147 → o ≠ 148 → N4.1 o k = M.1 o k := fun o k h1 h2 h3 h4 h5 => by
      rw [b2 o k (by omega) (by omega), e1, rd_sI, if_neg (by omega), a2 o k (by omega) (by omega)]
    have ef : ∀ o, (3 ≤ o ∧ o ≤ 125 ∨ o = 153 ∨ o = 154 ∨ o = 156) → N4.1 o = M.1 o := fun o ho => funext fun k => es o k (by unfold ES; omega) (by omega) (by omega) (by omega) (by omega)
    have e2 : N4.2 = M.2 := by rw [b1, e1]; exact a1
    have e11 : N4.1 1 0 = N1.1 1 0 := by rw [b2 1 0 (by omega) (by omega), e1, rd_sI, if_neg (by omega)]
    have e22 : N4.1 2 = N1.1 2 := funext fun k => by rw [b2 2 k (by omega) (by omega), e1, rd_sI, if_neg (by omega)]
    have hlen : N4.1 147 2 = N1.1 1 0 := by rw [b3, a3, l1]
    refine ⟨(by rw [b1, e1]; rfl), hlen.symm, ?_⟩
    obtain ⟨hL0, hc, hT, ⟨kc, g1, g2, g3, g4⟩, ⟨n', ⟨o1, o2, o3, o4⟩, hS, hM⟩, hl, hw⟩ := hI
    refine ⟨by unfold Lay at hL0 ⊢; rw [e2]; exact hL0, hc, ?_, ⟨kc, ?_, ?_, g3, ?_⟩, ⟨n', ⟨?_, ?_, o3, ?_⟩, ?_, ?_⟩, ?_, ?_⟩
    · refine ⟨by rw [hlen, e11], _, l2, by rw [e11, a3], fun i hi => ?_⟩
      rw [e22, a4, b4]
      exact l3 i hi
    · rw [ef c (by omega)]; exact g1
    · rw [ef 154 (by omega)]; exact g2
    · intro m hm
      rw [ef 154 (by omega)]
      exact (g4 m hm).ess (ef _ (by omega)) (ef _ (by omega)) (ef _ (by omega))
    · rw [ef c (by omega)]; exact o1
    · rw [ef 153 (by omega)]; exact o2
    · intro a ha
      rw [ef 153 (by omega)]
      exact (o4 a ha).ess (ef _ (by omega)) (ef _ (by omega))
    · rw [ef 153 (by omega)]
      exact hS.ess fun j hj => ef _ (by omega)
    · intro q hq
      obtain ⟨m1, m2⟩ := hM q hq
      have e0 := es 0 5 (by unfold ES; omega) (by omega) (by omega) (by omega) (by omega)
      refine ⟨by rw [ef 156 (by omega), e0]; exact m1, fun h => ?_⟩
      rw [ef 156 (by omega)] at h
      obtain ⟨m3, m4⟩ := m2 h
      rw [ef 153 (by omega)]
      exact ⟨m3.ess fun j hj => ef _ (by omega), m4⟩
    · rw [es 0 5 (by unfold ES; omega) (by omega) (by omega) (by omega) (by omega)]; exact hl
    · rw [e2]; exact hw
  exact up1 (P := fun d' => C G Y_X11_feed d' [.ref (G.b + 0), .long y1, .long y3, .long y5] M (Ri fun r M1 => M1.2.2 = M.2.2 ∧ C G Y_X12_feed d [.ref (G.b + 147), .long y1, .long y3, .long y5] M1 (Ri fun r' M2 => M2.2.2 = M1.2.2 ∧ r = r' ∧ Inv c M2)))
    (fun e => b_X11_feed (d := e + 1) hL (s_add (by omega) hL hx0 (fun N1 h1 => ⟨by rw [h1.1], s_add (by omega) hL h1 (fun N2 h2 => ⟨by rw [h2.1, h1.1], s_add (by omega) hL h2 (fun N3 h3 => ⟨by rw [h3.1, h2.1], by rw [h3.1], m N3 h3⟩)⟩)⟩))) (show 2 ≤ d by omega)
