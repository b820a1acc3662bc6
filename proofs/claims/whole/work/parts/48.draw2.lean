/-! ===== draw ===== -/
theorem ok_go {M : Mm} {c : Nat} : ∀ (m i : Nat) (S : S3), i + m ≤ 4 → (∀ i', i' < i + m → ∃ a, a < 6 ∧ M.1 153 (86 + i') = nI a ∧ ArmK M c a) → okS i S → (goS M m i S).1 = true → okS (i + m) (goS M m i S).2 := by
  intro m
  induction m with
  | zero => intro i S _ _ hS _; exact hS
  | succ m ih =>
    intro i S hi hch hS hg
    obtain ⟨a, ha, er, hk⟩ := hch i (by omega)
    unfold goS at hg ⊢
    rw [er, nI_clamp (show a < 2 ^ 31 by omega)] at hg ⊢
    by_cases hin : inS (ar M a 9) (ar M a 10) (ar M a 11) S
    · rw [if_pos hin] at hg ⊢
      have := ih (i + 1) _ (by omega) (fun i' hi' => hch i' (by omega)) (ok_tr (by omega) hk hS (fun ho => ho hin)) hg
      rw [show i + 1 + m = i + (m + 1) by omega] at this
      exact this
    · rw [if_neg hin] at hg
      cases hg
def GoodD (M : Mm) (k : Nat) (x1 x2 x3 : Int32) (w : Nat) : Prop := ¬ farT x1 x2 ∧ w < 4 ∧ x3 = nI w ∧ (goS M k 0 (x1.toInt64, x2.toInt64, 1)).1 = true
theorem Inv.okD {c k w : Nat} {M : Mm} {x1 x2 x3 : Int32} (hI : Inv c M) (hk4 : k ≤ 4) (hk : M.1 153 85 = nI k) (hg : GoodD M k x1 x2 x3 w) : okS 4 (goS M k 0 (x1.toInt64, x2.toInt64, 1)).2 := by
  obtain ⟨k', hk4', -, hk85, hch⟩ := hI.chK
  rw [hk85, nI_eq (by omega) (by omega)] at hk
  subst hk
  have := ok_go (c := c) k' 0 _ (by omega) (fun i' hi' => by
    obtain ⟨a, h1, -, h2, h3⟩ := hch i' (by omega)
    exact ⟨a, h1, h2, h3⟩) (ok_far hg.1) hg.2.2.2
  exact ok_mono this (by omega)
theorem m_draw {G : MG} {d : Nat} {Q : Int64 → Mm → Prop} {M : Mm} {c k : Nat} {x1 x2 x3 : Int32} (hd : 4 ≤ d) (hI : Inv c M) (hk4 : k ≤ 4) (hk : M.1 153 85 = nI k)
    (h0 : (∀ w, ¬ GoodD M k x1 x2 x3 w) → ∀ N, Aft M N 1 → Q 0 N)
    (h1 : ∀ w, GoodD M k x1 x2 x3 w → ∀ N, Aft M N 0 → Q (pvS w (goS M k 0 (x1.toInt64, x2.toInt64, 1)).2) N) : C G Y_X12_draw d [.ref (G.b + 147), .int x1, .int x2, .int x3] M (Rj Q) := by
  have hL := hI.lay
  have one : ∀ {N : Mm} {P : Prop}, (sI N 147 0 1).1 147 0 ≤ 0 → P := fun h => by
    rw [rd_sI, if_pos ⟨rfl, rfl⟩] at h
    exact absurd h (by decide)
  refine up1 (P := fun d => C G Y_X12_draw d _ M (Rj Q)) (fun e => b_X12_draw (d := e + 3) hL ?_) hd
  refine s_canTrace (by omega) hL (fun hf => ⟨rfl, fun _ M4 e4 => ?_, fun h => absurd rfl h⟩) (fun hf hz => ⟨rfl, fun h => (by cases h), fun _ => ?_⟩)
  · subst e4
    refine ⟨fun h' => one h', fun _ => h0 (fun w hg => ?_) _ aft_th⟩
    rcases hf with hf | hf
    · exact hg.1 hf
    · have hw := hg.2.1
      rw [hg.2.2.1] at hf
      rcases hf with hf | hf
      · exact absurd hf (nI_pos (by omega))
      · rw [show (3 : Int32) = nI 3 from rfl, nI_ltI (by omega) (by omega)] at hf
        omega
  · obtain ⟨w, hw, rfl⟩ := wn_of (n := 3) (by omega) rfl hz
    refine s_goes (by omega) hI hk4 hk (fun N S' hN hS' => ⟨hN.2.1, fun h M4 e4 => ?_, fun h M4 e4 => ?_⟩)
    · subst e4
      refine ⟨fun h' => one h', fun _ => h0 (fun w' hg => ?_) _ hN.aft⟩
      rw [if_pos hg.2.2.2] at h
      cases h
    · have ht : (goS M k 0 (x1.toInt64, x2.toInt64, 1)).1 = true := Classical.not_not.mp (fun hh => h (if_neg hh))
      have hg : GoodD M k x1 x2 (nI w) w := ⟨hf, by omega, rfl, ht⟩
      have hA : Aft M M4 0 := by rw [e4]; exact hN.aft
      rw [hA.2.2]
      have hS := hS' ht
      refine ⟨fun _ => ?_, fun h => absurd (by decide) h⟩
      refine s_partM (S := (goS M k 0 (x1.toInt64, x2.toInt64, 1)).2) (by omega) (lay_of hL hA.1.1) (by omega) (hI.okD hk4 hk hg) ?_ ?_ ?_ ⟨rfl, h1 w hg M4 hA⟩
      · rw [e4, ← hS]; exact hN.2.2.2.1
      · rw [e4, ← hS]; exact hN.2.2.2.2.1
      · rw [e4, ← hS]; exact hN.2.2.2.2.2
theorem GoodD.eq {M N : Mm} (h : N.1 153 = M.1 153) {k w : Nat} {x1 x2 x3 : Int32} : GoodD N k x1 x2 x3 w ↔ GoodD M k x1 x2 x3 w := by
  unfold GoodD; rw [goS_eq h]
theorem c_draw {G : MG} {d : Nat} {M : Mm} {c : Nat} {x1 x2 x3 : Int32} (hd : 8 ≤ d) (hP : Prt G) (hT : Thr G) (hI : Inv c M) :
    CW G Y_L_draw d [.ref (G.b + 0), .int x1, .int x2, .int x3, .ref (G.b + 161)] M (Ri fun r2 M1 => M1.2.2 = M.2.2 ∧ C G Y_X12_draw d [.ref (G.b + 147), .int x1, .int x2, .int x3] M1 (Rj fun r4 M3 => M3.2.2 = M1.2.2 ∧ M3.1 147 0 = r2 ∧ (r2 = 0 → M3.2.1 161 0 = r4) ∧ Inv c M3)) := by
  have hL := hI.lay
  obtain ⟨k, hk4, -, hk, -⟩ := hI.chK
  obtain ⟨t1, t2, t3, t4, t5, t6, t7⟩ := hT
  have bad : ∀ N : Mm, Ess M N → (∀ w, ¬ GoodD M k x1 x2 x3 w) → C G Y_X12_draw d [.ref (G.b + 147), .int x1, .int x2, .int x3] N (Rj fun r4 M3 => M3.2.2 = N.2.2 ∧ M3.1 147 0 = 1 ∧ ((1 : Int32) = 0 → M3.2.1 161 0 = r4) ∧ Inv c M3) := by
    intro N hN hb
    have hIN := hI.ess hN
    have e153 : N.1 153 = M.1 153 := hN.2.2.2.2.2.2.2.1
    exact m_draw (by omega) hIN hk4 (by rw [e153]; exact hk) (fun _ P hP => ⟨hP.1.1, hP.2.2, fun h => (by cases h), hIN.ess hP.1⟩) (fun w hg P hP => absurd ((GoodD.eq e153).mp hg) (hb w))
  have cx : ∀ e, CW G Y_L_draw (e + 8) [.ref (G.b + 0), .int x1, .int x2, .int x3, .ref (G.b + 161)] M (Ri fun r2 M1 => M1.2.2 = M.2.2 ∧ C G Y_X12_draw d [.ref (G.b + 147), .int x1, .int x2, .int x3] M1 (Rj fun r4 M3 => M3.2.2 = M1.2.2 ∧ M3.1 147 0 = r2 ∧ (r2 = 0 → M3.2.1 161 0 = r4) ∧ Inv c M3)) := by
    intro e
    refine b_L_draw (d := e + 7) hL t1 (b_X11_draw (d := e + 6) hL t5 t2 t4 (by omega) ?_)
    refine s_canBeTraced (by omega) hL (fun hf => ⟨rfl, fun _ => .inr ⟨rfl, rfl, rfl, bad M (Ess.rf M) (fun w hg => hg.1 hf)⟩, fun h => absurd rfl h⟩) (fun hf => ⟨rfl, fun h => (by cases h), fun _ => ?_⟩)
    refine s_isWithin (by omega) hL ⟨rfl, fun hz => ?_, fun hz => .inr ⟨rfl, rfl, rfl, bad M (Ess.rf M) (fun w hg => ?_)⟩⟩
    · obtain ⟨w, hw, rfl⟩ := wn_of (n := 3) (by omega) rfl (if02 hz)
      refine s_passChain (by omega) hI hk4 hk (fun N S' hN hS' => ⟨hN.2.1, fun h => ?_, fun h => .inr ⟨rfl, hN.2.1, hN.2.1, bad N hN.ess (fun w' hg => ?_)⟩⟩)
      · have ht : (goS M k 0 (x1.toInt64, x2.toInt64, 1)).1 = true := Classical.not_not.mp (fun hh => h (if_neg hh))
        have hg : GoodD M k x1 x2 (nI w) w := ⟨hf, by omega, rfl, ht⟩
        have hS := hS' ht
        subst hS
        refine s_partX (S := (goS M k 0 (x1.toInt64, x2.toInt64, 1)).2) (by omega) (hN.lay hL) hP.1 (by omega) (hI.okD hk4 hk hg) hN.2.2.2.1 hN.2.2.2.2.1 hN.2.2.2.2.2 ⟨rfl, .inl ⟨_, rfl, hN.2.1, fun M3 e3 => ⟨?_, ?_⟩⟩⟩
        · rw [e3]; exact hN.2.1
        · have hE : Ess M M3 := by rw [e3]; exact hN.ess.tr (ess_sJ (by omega))
          have hI3 := hI.ess hE
          have e153 : M3.1 153 = M.1 153 := hE.2.2.2.2.2.2.2.1
          have e161 : M3.2.1 161 0 = pvS w (goS M k 0 (x1.toInt64, x2.toInt64, 1)).2 := by rw [e3, show Int32.toNatClampNeg 0 = 0 from rfl, rd_sJ, if_pos ⟨rfl, rfl⟩]
          refine m_draw (by omega) hI3 hk4 (by rw [e153]; exact hk) (fun hb => absurd ((GoodD.eq e153).mpr hg) (hb w)) (fun w' hg' P hP' => ⟨hP'.1.1, hP'.2.2, fun _ => ?_, hI3.ess hP'.1⟩)
          have ew := hg'.2.2.1
          rw [nI_eq (by omega) (by have := hg'.2.1; omega)] at ew
          rw [hP'.2.1, e161, ← ew, goS_eq e153]
      · rw [if_pos hg.2.2.2] at h
        cases h
    · have hw := hg.2.1
      rw [hg.2.2.1] at hz
      rcases if01 hz with hf | hf
      · exact absurd hf (nI_pos (by omega))
      · rw [show (3 : Int32) = nI 3 from rfl, nI_ltI (by omega) (by omega)] at hf
        omega
  exact up1 (P := fun d' => CW G Y_L_draw d' [.ref (G.b + 0), .int x1, .int x2, .int x3, .ref (G.b + 161)] M (Ri fun r2 M1 => M1.2.2 = M.2.2 ∧ C G Y_X12_draw d [.ref (G.b + 147), .int x1, .int x2, .int x3] M1 (Rj fun r4 M3 => M3.2.2 = M1.2.2 ∧ M3.1 147 0 = r2 ∧ (r2 = 0 → M3.2.1 161 0 = r4) ∧ Inv c M3))) cx hd
