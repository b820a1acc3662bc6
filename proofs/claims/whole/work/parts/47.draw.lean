/-! ===== trace and draw, both sides ===== -/
theorem ok_mono {i j : Nat} {S : S3} (h : okS i S) (hij : i ≤ j) : okS j S := by
  obtain ⟨X, Y, B, e, h1, h2, h3, h4⟩ := h
  exact ⟨X, Y, B, e, h1, Nat.le_trans h2 (Nat.pow_le_pow_right (by omega) hij), h3, h4⟩
theorem ok_far {x y : Int32} (h : ¬ farT x y) : okS 0 (x.toInt64, y.toInt64, 1) := ok_0 (fun h' => h (.inl h')) (fun h' => h (.inr h'))
theorem outR_eq {M N : Mm} (h : N.1 153 = M.1 153) (a : Nat) (S : S3) : outR N a S ↔ outR M a S := by
  unfold outR; simp only [ar_eq h]
theorem m_trace {G : MG} {d : Nat} {Q : Int64 → Mm → Prop} {M : Mm} {c n : Nat} {x1 x2 x3 x4 : Int32} (hd : 3 ≤ d) (hI : Inv c M) (hn : M.1 153 0 = nI n) (h6 : n ≤ 6)
    (h0 : (∀ a w, ¬ GoodT M n x1 x2 x3 x4 a w) → ∀ N, Aft M N 1 → Q 0 N)
    (h1 : ∀ a w, GoodT M n x1 x2 x3 x4 a w → ∀ N, Aft M N 0 → Q (pvS w (cpyR M a (ar M a 13) (x2.toInt64, x3.toInt64, 1))) N) : C G Y_X12_trace d [.ref (G.b + 147), .int x1, .int x2, .int x3, .int x4] M (Rj Q) := by
  have hL := hI.lay
  refine up1 (P := fun d => C G Y_X12_trace d _ M (Rj Q)) (fun e => b_X12_trace (d := e + 2) hL ?_) hd
  refine s_starts (by omega) hL (fun N hN => ⟨hN.2.1, ?_⟩)
  have hLN := hN.lay hL
  have bad : (∀ a w, ¬ GoodT M n x1 x2 x3 x4 a w) → L_X12_trace_38 G (e + 2) Q x1 x4 1 N := fun hb => by
    refine b_X12_trace_38 hLN (fun M1 e1 => ?_)
    subst e1
    refine ⟨fun h' => ?_, fun _ => h0 hb _ hN.aft⟩
    rw [rd_sI, if_pos ⟨rfl, rfl⟩] at h'
    exact absurd h' (by decide)
  refine s_isArm (by omega) hLN ⟨rfl, fun h => bad (fun a w hg => ?_), fun h => ?_⟩
  · rw [hN.1, hn, hg.2.1] at h
    exact noA hg.1 h6 (if01 h)
  · rw [hN.1, hn] at h
    obtain ⟨a, ha, rfl⟩ := an_of (by omega) (if02 h)
    refine s_canTrace (by omega) hLN (fun hf => ⟨rfl, fun _ => bad (fun a' w hg => ?_), fun h => absurd rfl h⟩) (fun hf hz => ⟨rfl, fun h => (by cases h), fun _ => ?_⟩)
    · rcases hf with hf | hf
      · exact hg.2.2.1 hf
      · have hw := hg.2.2.2.1
        rw [hg.2.2.2.2.1] at hf
        rcases hf with hf | hf
        · exact absurd hf (nI_pos (by omega))
        · rw [show (3 : Int32) = nI 3 from rfl, nI_ltI (by omega) (by omega)] at hf
          omega
    · obtain ⟨w, hw, rfl⟩ := wn_of (n := 3) (by omega) rfl hz
      refine s_isOutM (by omega) hL (by omega) hN (fun ho => ⟨rfl, fun h => absurd rfl h, fun _ => ?_⟩) (fun ho => ⟨rfl, fun _ => bad (fun a' w' hg => ?_), fun h => (by cases h)⟩)
      · have hg : GoodT M n (nI a) x2 x3 (nI w) a w := ⟨ha, rfl, hf, by omega, rfl, ho⟩
        refine b_X12_trace_38 hLN (fun M1 e1 => ?_)
        have hA : Aft M M1 0 := by rw [e1]; exact hN.aft
        rw [hA.2.2]
        have hI1 := hI.ess hA.1
        have e153 : M1.1 153 = M.1 153 := hA.1.2.2.2.2.2.2.2.1
        have hk1 := hI1.armK (by rw [e153]; exact hn) h6 ha
        have hsp : SpM M1 M1 (x2.toInt64, x3.toInt64, 1) := by
          refine ⟨rfl, rfl, fun _ _ => rfl, ?_, ?_, ?_⟩
          · rw [e1]; exact hN.2.2.2.1
          · rw [e1]; exact hN.2.2.2.2.1
          · rw [e1]; exact hN.2.2.2.2.2
        refine ⟨fun _ => s_of 13 (by omega) hI1.lay (by omega) (by omega) rfl ⟨rfl, ?_⟩, fun h => absurd (by decide) h⟩
        refine s_traces (by omega) hI1.lay hk1 hsp (fun N2 hN2 => ⟨hN2.2.1, ?_⟩)
        have hok : okS 1 (cpyR M1 a (ar M1 a 13) (x2.toInt64, x3.toInt64, 1)) := ok_tr (by omega) hk1 (ok_far hf) (by rw [outR_eq e153]; exact ho)
        refine s_partM (S := cpyR M1 a (ar M1 a 13) (x2.toInt64, x3.toInt64, 1)) (by omega) (hN2.lay hI1.lay) (by omega) (ok_mono hok (by omega)) hN2.2.2.2.1 hN2.2.2.2.2.1 hN2.2.2.2.2.2 ⟨rfl, ?_⟩
        rw [cpyR_eq e153, ar_eq e153]
        exact h1 a w hg N2 ⟨hA.1.tr hN2.ess, (hN2.2.2.1 161 (by omega)).trans hA.2.1, by rw [hN2.1]; exact hA.2.2⟩
      · have := hg.2.1
        rw [nI_eq (by omega) (by have := hg.1; omega)] at this
        subst this
        exact hg.2.2.2.2.2 ho
theorem GoodT.un {M : Mm} {n a w a' w' : Nat} {x1 x2 x3 x4 : Int32} (hn : n ≤ 6) (h : GoodT M n x1 x2 x3 x4 a w) (h' : GoodT M n x1 x2 x3 x4 a' w') : a' = a ∧ w' = w := by
  have e1 := h.2.1.symm.trans h'.2.1
  have e2 := h.2.2.2.2.1.symm.trans h'.2.2.2.2.1
  have := h.1; have := h'.1; have := h.2.2.2.1; have := h'.2.2.2.1
  rw [nI_eq (by omega) (by omega)] at e1 e2
  exact ⟨e1.symm, e2.symm⟩
theorem GoodT.eq {M N : Mm} (h : N.1 153 = M.1 153) {n a w : Nat} {x1 x2 x3 x4 : Int32} : GoodT N n x1 x2 x3 x4 a w ↔ GoodT M n x1 x2 x3 x4 a w := by
  unfold GoodT; rw [outR_eq h]
def Prt (G : MG) : Prop := (∀ U, G.X U → va_Nw (.methodLinkNest RX9 62 yX11_inLowestTerms "CopyArms") U) ∧ (∀ U, G.X U → va_Nw (.methodLinkNest RX8 41 yX11_inLowestTerms "CopyArms") U)
theorem c_trace {G : MG} {d : Nat} {M : Mm} {c : Nat} {x1 x2 x3 x4 : Int32} (hd : 8 ≤ d) (hP : Prt G) (hT : Thr G) (hI : Inv c M) :
    CW G Y_L_trace d [.ref (G.b + 0), .int x1, .int x2, .int x3, .int x4, .ref (G.b + 161)] M (Ri fun r2 M1 => M1.2.2 = M.2.2 ∧ C G Y_X12_trace d [.ref (G.b + 147), .int x1, .int x2, .int x3, .int x4] M1 (Rj fun r4 M3 => M3.2.2 = M1.2.2 ∧ M3.1 147 0 = r2 ∧ (r2 = 0 → M3.2.1 161 0 = r4) ∧ Inv c M3)) := by
  have hL := hI.lay
  obtain ⟨n, ⟨o1, o2, o3, o4⟩, -, -⟩ := hI.2.2.2.2.1
  obtain ⟨t1, t2, t3, t4, t5, t6, t7⟩ := hT
  have bad : ∀ N : Mm, Ess M N → (∀ a w, ¬ GoodT M n x1 x2 x3 x4 a w) → C G Y_X12_trace d [.ref (G.b + 147), .int x1, .int x2, .int x3, .int x4] N (Rj fun r4 M3 => M3.2.2 = N.2.2 ∧ M3.1 147 0 = 1 ∧ ((1 : Int32) = 0 → M3.2.1 161 0 = r4) ∧ Inv c M3) := by
    intro N hN hb
    have hIN := hI.ess hN
    have e153 : N.1 153 = M.1 153 := hN.2.2.2.2.2.2.2.1
    exact m_trace (by omega) hIN (by rw [e153]; exact o2) o3 (fun _ P hP => ⟨hP.1.1, hP.2.2, fun h => (by cases h), hIN.ess hP.1⟩) (fun a w hg P hP => absurd ((GoodT.eq e153).mp hg) (hb a w))
  have cx : ∀ e, CW G Y_L_trace (e + 8) [.ref (G.b + 0), .int x1, .int x2, .int x3, .int x4, .ref (G.b + 161)] M (Ri fun r2 M1 => M1.2.2 = M.2.2 ∧ C G Y_X12_trace d [.ref (G.b + 147), .int x1, .int x2, .int x3, .int x4] M1 (Rj fun r4 M3 => M3.2.2 = M1.2.2 ∧ M3.1 147 0 = r2 ∧ (r2 = 0 → M3.2.1 161 0 = r4) ∧ Inv c M3)) := by
    intro e
    refine b_L_trace (d := e + 7) hL t1 (b_X11_trace (d := e + 6) hL hI.cc t3 t2 t4 (by omega) ?_)
    refine s_hasArm (by omega) hL hI.cc ⟨rfl, fun h => .inr ⟨rfl, rfl, rfl, bad M (Ess.rf M) (fun a w hg => ?_)⟩, fun h => ?_⟩
    · rw [o1, hg.2.1] at h
      exact noA hg.1 o3 (if01 h)
    · rw [o1] at h
      obtain ⟨a, ha, rfl⟩ := an_of (by omega) (if02 h)
      have hk := hI.armK o2 o3 ha
      refine s_canBeTraced (by omega) hL (fun hf => ⟨rfl, fun _ => .inr ⟨rfl, rfl, rfl, bad M (Ess.rf M) (fun a' w hg => hg.2.2.1 hf)⟩, fun h => absurd rfl h⟩) (fun hf => ⟨rfl, fun h => (by cases h), fun _ => ?_⟩)
      refine s_isWithin (by omega) hL ⟨rfl, fun hz => ?_, fun hz => .inr ⟨rfl, rfl, rfl, bad M (Ess.rf M) (fun a' w hg => ?_)⟩⟩
      · obtain ⟨w, hw, rfl⟩ := wn_of (n := 3) (by omega) rfl (if02 hz)
        refine s_begin (by omega) hL (fun N hN => ⟨hN.2.1, ?_⟩)
        refine s_isOutX (by omega) hL hI.cc hk hN (fun ho => ⟨rfl, fun _ => ⟨(inN (by omega) (by omega)).1, ?_⟩, fun h => absurd rfl h⟩) (fun ho => ⟨rfl, fun h => (by cases h), fun _ => .inr ⟨rfl, hN.2.1, hN.2.1, bad N hN.ess (fun a' w' hg => ?_)⟩⟩)
        · have hg : GoodT M n (nI a) x2 x3 (nI w) a w := ⟨ha, rfl, hf, by omega, rfl, ho⟩
          rw [nI_clamp (show a < 2 ^ 31 by omega), hN.1, show M.1 81 a = ar M a 13 from hk.2.2.2.2.2.2.2.1]
          refine s_copyBy (by omega) hL hI.cc hk hN (fun N2 hN2 => ⟨by rw [hN2.2.1, hN.2.1], ?_⟩)
          have hok : okS 1 (cpyR M a (ar M a 13) (x2.toInt64, x3.toInt64, 1)) := ok_tr (by omega) hk (ok_far hf) ho
          refine s_partX (S := cpyR M a (ar M a 13) (x2.toInt64, x3.toInt64, 1)) (by omega) (hN2.lay hL) hP.1 (by omega) (ok_mono hok (by omega)) hN2.2.2.2.1 hN2.2.2.2.2.1 hN2.2.2.2.2.2 ⟨rfl, .inl ⟨_, rfl, hN2.2.1, fun M3 e3 => ⟨?_, ?_⟩⟩⟩
          · rw [e3]; exact hN2.2.1
          · have hE : Ess M M3 := by rw [e3]; exact hN2.ess.tr (ess_sJ (by omega))
            have hI3 := hI.ess hE
            have e153 : M3.1 153 = M.1 153 := hE.2.2.2.2.2.2.2.1
            have e161 : M3.2.1 161 0 = pvS w (cpyR M a (ar M a 13) (x2.toInt64, x3.toInt64, 1)) := by rw [e3, show Int32.toNatClampNeg 0 = 0 from rfl, rd_sJ, if_pos ⟨rfl, rfl⟩]
            refine m_trace (by omega) hI3 (by rw [e153]; exact o2) o3 (fun hb => absurd ((GoodT.eq e153).mpr hg) (hb a w)) (fun a' w' hg' P hP' => ⟨hP'.1.1, hP'.2.2, fun _ => ?_, hI3.ess hP'.1⟩)
            obtain ⟨ea, ew⟩ := hg.un o3 ((GoodT.eq e153).mp hg')
            rw [hP'.2.1, e161, ea, ew, cpyR_eq e153, ar_eq e153]
        · have := hg.2.1
          rw [nI_eq (by omega) (by have := hg.1; omega)] at this
          subst this
          exact hg.2.2.2.2.2 ho
      · have hw := hg.2.2.2.1
        rw [hg.2.2.2.2.1] at hz
        rcases if01 hz with hf | hf
        · exact absurd hf (nI_pos (by omega))
        · rw [show (3 : Int32) = nI 3 from rfl, nI_ltI (by omega) (by omega)] at hf
          omega
  exact up1 (P := fun d' => CW G Y_L_trace d' [.ref (G.b + 0), .int x1, .int x2, .int x3, .int x4, .ref (G.b + 161)] M (Ri fun r2 M1 => M1.2.2 = M.2.2 ∧ C G Y_X12_trace d [.ref (G.b + 147), .int x1, .int x2, .int x3, .int x4] M1 (Rj fun r4 M3 => M3.2.2 = M1.2.2 ∧ M3.1 147 0 = r2 ∧ (r2 = 0 → M3.2.1 161 0 = r4) ∧ Inv c M3))) cx hd
