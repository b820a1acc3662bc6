/-! ===== the law's loop ===== -/
theorem CW.imp {G : MG} {Y : MY} {d : Nat} {av : List Value} {M : Mm} {Q Q' : Option Value → Mm → Prop} (h : CW G Y d av M Q) (hq : ∀ r N, Q r N → Q' r N) : CW G Y d av M Q' := by
  obtain ⟨d0, h1, h2⟩ := h
  refine ⟨d0, h1, ?_⟩
  intro p e ha hc hk s m args below hf happ hP hK
  obtain ⟨n, o, a1, a2, a3, ⟨r, M', b1, b2, b3, b4⟩, a5⟩ := h2 p e ha hc hk s m args below hf happ hP hK
  exact ⟨n, o, a1, a2, a3, ⟨r, M', b1, b2, hq r M' b3, b4⟩, a5⟩
theorem Two.go {G : MG} {d c : Nat} {Yx Ym : MY} {ax am : List Value} {M : Mm} (h : Two G d c Yx ax Ym am M) {Z : Int32 → Mm → Prop} (hz : ∀ r M1, M1.2.2 = M.2.2 → C G Ym d am M1 (Ri fun r' M2 => M2.2.2 = M1.2.2 ∧ r = r' ∧ Inv c M2) → Z r M1) : C G Yx d ax M (Ri Z) :=
  C.imp h (by rintro _ N ⟨v, rfl, h1, h2⟩; exact ⟨v, rfl, hz v N h1 h2⟩)
theorem TwoJ.go {G : MG} {d c : Nat} {Yx Ym : MY} {ax am : List Value} {M : Mm} (h : TwoJ G d c Yx ax Ym am M) {Z : Int64 → Mm → Prop} (hz : ∀ r M1, M1.2.2 = M.2.2 → C G Ym d am M1 (Rj fun r' M2 => M2.2.2 = M1.2.2 ∧ r = r' ∧ Inv c M2) → Z r M1) : C G Yx d ax M (Rj Z) :=
  C.imp h (by rintro _ N ⟨v, rfl, h1, h2⟩; exact ⟨v, rfl, hz v N h1 h2⟩)
theorem fin2 {G : MG} {d c : Nat} {Ym : MY} {am : List Value} {M1 : Mm} {r : Int32} {K : Mm → Prop} {Q : Int32 → Mm → Prop} (h : C G Ym d am M1 (Ri fun r' M2 => M2.2.2 = M1.2.2 ∧ r = r' ∧ Inv c M2)) (k : ∀ M2, Inv c M2 → K M2) :
    C G Ym d am M1 (Ri fun r4 M3 => M3.2.2 = M1.2.2 ∧ ((r = r4 → K M3) ∧ (¬ r = r4 → Q 0 M3))) :=
  C.imp h (by rintro _ N ⟨v, rfl, h1, h2, h3⟩; exact ⟨v, rfl, h1, fun _ => k N h3, fun g => absurd h2 g⟩)
theorem fin2J {G : MG} {d c : Nat} {Ym : MY} {am : List Value} {M1 : Mm} {r : Int64} {K : Mm → Prop} {Q : Int32 → Mm → Prop} (h : C G Ym d am M1 (Rj fun r' M2 => M2.2.2 = M1.2.2 ∧ r = r' ∧ Inv c M2)) (k : ∀ M2, Inv c M2 → K M2) :
    C G Ym d am M1 (Rj fun r4 M3 => M3.2.2 = M1.2.2 ∧ ((r = r4 → K M3) ∧ (¬ r = r4 → Q 0 M3))) :=
  C.imp h (by rintro _ N ⟨v, rfl, h1, h2, h3⟩; exact ⟨v, rfl, h1, fun _ => k N h3, fun g => absurd h2 g⟩)
theorem s_thrown {G : MG} {d : Nat} {Q : Int32 → Mm → Prop} {M : Mm} {c : Nat} (hd : 1 ≤ d) (hL : Lay c M) (h : Q (M.1 147 0) M) : C G Y_X12_thrown d [.ref (G.b + 147)] M (Ri Q) :=
  up1 (P := fun d => C G Y_X12_thrown d _ M (Ri Q)) (fun _ => b_X12_thrown hL h) hd
/-- all facts of the world that the calls rest on -/
def Wld (G : MG) : Prop := Cor G ∧ Thr G ∧ Prt G ∧ Dgt G ∧ Str G
theorem law_loop {G : MG} {d sb sL : Nat} {xs : Nat → Int32} {Q : Int32 → Mm → Prop} (hd : 12 ≤ d) (hG : Wld G) (hscr : ∀ U, G.X U → va_X sb sL xs U U.heap) (hsb : sb < G.b) (hsL : sL ≤ 3584) (hQ : ∀ M, Q 1 M) :
    ∀ m i ce sl c (M : Mm), i + m = 600 → 7 * i ≤ sL + 6 → ce ≤ 1000 + i → sl ≤ 100000 + 6 * i → Inv c M → L_L_law_23 G d sb Q ce sl (nI (7 * i)) M := by
  obtain ⟨hCor, hThr, hPrt, hDgt, hStr⟩ := hG
  have mcl : Y_L_law.mc = 601024 := rfl
  have msl : Y_L_law.ms = 7293034 := rfl
  intro m
  induction m with
  | zero => intro i ce sl c M hi h7; omega
  | succ m ih =>
    intro i ce sl c M hi h7 hce hsl hI
    have hL := hI.lay
    have z0 : ce ≤ Y_L_law.mc ∧ sl ≤ Y_L_law.ms := by omega
    have z1 : ce + 1 ≤ Y_L_law.mc ∧ sl + 6 ≤ Y_L_law.ms := by omega
    refine b_L_law_23 hL hscr hsb z0 z1 ⟨fun _ => hQ M, fun g => ?_⟩
    have hk : 7 * i + 6 < sL := by
      by_cases h : sL < 7
      · exact absurd (show (Int32.ofNat sL) - 7 < nI (7 * i) by
          rw [Int32.lt_iff_toInt_lt, nI_toInt (by omega)]
          have : (nI sL - nI 7).toInt = (sL : Int) - (7 : Nat) := pk_sub_toInt (by omega) (by omega)
          have h2 : ((Int32.ofNat sL) - 7).toInt = (sL : Int) - 7 := this
          rw [h2]; omega) g
      · have h2 : (Int32.ofNat sL) - 7 = nI (sL - 7) := by
          have : nI sL - nI 7 = nI (sL - 7) := pk_sub (by omega)
          exact this
        rw [h2, nI_ltI (by omega) (by omega)] at g
        omega
    have vi : ∀ j, j ≤ 6 → vp_in (nI (7 * i) + nI j) sL := fun j hj => by rw [nI_add]; exact vp_in_nI (by omega) (by omega)
    have v1 : vp_in (nI (7 * i) + 1) sL := vi 1 (by omega)
    have v2 : vp_in (nI (7 * i) + 2) sL := vi 2 (by omega)
    have v3 : vp_in (nI (7 * i) + 3) sL := vi 3 (by omega)
    have v4 : vp_in (nI (7 * i) + 4) sL := vi 4 (by omega)
    have v5 : vp_in (nI (7 * i) + 5) sL := vi 5 (by omega)
    have v6 : vp_in (nI (7 * i) + 6) sL := vi 6 (by omega)
    have nx : ∀ c' (M' : Mm), Inv c' M' → L_L_law_1285 G d sb Q ce sl (nI (7 * i)) M' := fun c' M' hI' =>
      b_L_law_1285 hI'.lay hscr hsb z0 z1 (by
        rw [show nI (7 * i) + 7 = nI (7 * (i + 1)) by rw [show (7 : Int32) = nI 7 from rfl, nI_add]; rfl]
        exact ih (i + 1) ce sl c' M' (by omega) (by omega) (by omega) (by omega) hI')
    have nx1 : ∀ c' (M' : Mm), Inv c' M' → L_L_law_1285 G d sb Q (ce + 1) (sl + 6) (nI (7 * i)) M' := fun c' M' hI' =>
      b_L_law_1285 hI'.lay hscr hsb z1 (by omega) (by
        rw [show nI (7 * i) + 7 = nI (7 * (i + 1)) by rw [show (7 : Int32) = nI 7 from rfl, nI_add]; rfl]
        exact ih (i + 1) (ce + 1) (sl + 6) c' M' (by omega) (by omega) (by omega) (by omega) hI')
    refine ⟨vp_in_nI (by omega) (by omega), ?_⟩
    refine ⟨fun _ => ?_, fun _ => ?_, fun _ => ?_, fun _ => ?_, fun _ => ?_, fun _ => ?_, fun _ => ?_, fun _ => ?_, fun _ => ?_, fun _ => ?_, fun _ => ?_, fun _ => ?_, fun _ => ?_, fun _ => ?_, fun _ => ?_, fun _ => ?_, fun _ => ?_, fun _ => ?_, fun _ => ?_, fun _ => ?_, fun _ => ?_, fun _ => ?_, fun _ => ?_, fun _ => ?_, fun _ => ?_, fun _ => ?_, fun _ _ _ _ _ _ _ _ _ _ _ _ _ _ _ _ _ _ _ _ _ _ _ _ _ _ => nx c M hI⟩
    · exact b_L_law_160 hL hscr hsb z0 z1 ⟨v1, v2, v3, v4, v5, v6, (c_feed (by omega) hI).go (fun r M1 e h => ⟨e, v1, v2, v3, v4, v5, v6, fin2 h (nx c)⟩)⟩
    · refine b_L_law_307 hL hscr hsb z0 z1 (C.imp (c_office (by omega) hStr hI) ?_)
      rintro _ N ⟨v, rfl, c2, h1, h2⟩
      exact ⟨v, rfl, c2, h1, C.imp h2 (by rintro _ N' ⟨v', rfl, g1, g2, c3, g3⟩; exact ⟨v', rfl, g1, fun _ => nx c3 N' g3, fun q => absurd g2 q⟩)⟩
    · exact b_L_law_320 hL hscr hsb z0 z1 ⟨v1, v2, (c_arm (by omega) hI).go (fun r M1 e h => ⟨e, v1, v2, fin2 h (nx c)⟩)⟩
    · exact b_L_law_357 hL hscr hsb z0 z1 ⟨v1, v2, (c_hole (by omega) hI).go (fun r M1 e h => ⟨e, v1, v2, fin2 h (nx c)⟩)⟩
    · exact b_L_law_394 hL hscr hsb z0 z1 ⟨v1, v2, (c_map (by omega) hI).go (fun r M1 e h => ⟨e, v1, v2, fin2 h (nx c)⟩)⟩
    · refine b_L_law_431 hL hscr hsb z0 z1 ⟨v1, v2, v3, fun g3 => ?_, fun g3 => ?_⟩
      · exact b_L_law_458 hL hscr hsb z0 z1 ((c_point (by omega) hI).go (fun r M1 e h => ⟨e, v1, v2, v3, fun _ => fin2 h (nx c), fun q => absurd g3 q⟩))
      · exact b_L_law_458 hL hscr hsb z0 z1 ((c_point (by omega) hI).go (fun r M1 e h => ⟨e, v1, v2, v3, fun q => absurd q g3, fun _ => fin2 h (nx c)⟩))
    · exact b_L_law_496 hL hscr hsb z0 z1 ⟨v1, v2, v3, (c_set (by omega) hI).go (fun r M1 e h => ⟨e, v1, v2, v3, fin2 h (nx c)⟩)⟩
    · exact b_L_law_545 hL hscr hsb z0 z1 ⟨v1, v2, (c_turn (by omega) hI).go (fun r M1 e h => ⟨e, v1, v2, fin2 h (nx c)⟩)⟩
    · exact b_L_law_582 hL hscr hsb z0 z1 ⟨v1, v2, v3, (c_pin (by omega) hI).go (fun r M1 e h => ⟨e, v1, v2, v3, fin2 h (nx c)⟩)⟩
    · exact b_L_law_631 hL hscr hsb z0 z1 ⟨v1, v2, (c_bend (by omega) hI).go (fun r M1 e h => ⟨e, v1, v2, fin2 h (nx c)⟩)⟩
    · refine b_L_law_668 hL hscr hsb z0 z1 ⟨v1, v2, v3, v4, CW.imp (c_trace (by omega) hPrt hThr hI) ?_⟩
      rintro _ N ⟨v, rfl, h1, h2⟩
      refine ⟨v, rfl, h1, v1, v2, v3, v4, C.imp h2 ?_⟩
      rintro _ N' ⟨v', rfl, g1, g2, g3, g4⟩
      refine ⟨v', rfl, g1, s_thrown (by omega) g4.lay ⟨rfl, fun _ => ⟨fun _ => nx1 c N' g4, fun q => ⟨fun _ => nx1 c N' g4, fun q2 => absurd (g3 q) q2⟩⟩, fun q => absurd g2 q⟩⟩
    · exact b_L_law_759 hL hscr hsb z0 z1 ⟨v1, (c_chain (by omega) hI).go (fun r M1 e h => ⟨e, v1, fin2 h (nx c)⟩)⟩
    · exact b_L_law_784 hL hscr hsb z0 z1 ⟨v1, (c_size (by omega) hI).go (fun r M1 e h => ⟨e, v1, fin2 h (nx c)⟩)⟩
    · refine b_L_law_809 hL hscr hsb z0 z1 ⟨v1, v2, v3, CW.imp (c_draw (by omega) hPrt hThr hI) ?_⟩
      rintro _ N ⟨v, rfl, h1, h2⟩
      refine ⟨v, rfl, h1, v1, v2, v3, C.imp h2 ?_⟩
      rintro _ N' ⟨v', rfl, g1, g2, g3, g4⟩
      refine ⟨v', rfl, g1, s_thrown (by omega) g4.lay ⟨rfl, fun _ => ⟨fun _ => nx1 c N' g4, fun q => ⟨fun _ => nx1 c N' g4, fun q2 => absurd (g3 q) q2⟩⟩, fun q => absurd g2 q⟩⟩
    · exact b_L_law_888 hL hscr hsb z0 z1 ⟨v1, (c_outs (by omega) hI).go (fun r M1 e h => ⟨e, v1, fin2 h (nx c)⟩)⟩
    · exact b_L_law_913 hL hscr hsb z0 z1 ⟨v1, v2, v3, (c_fitted (by omega) hI).go (fun r M1 e h => ⟨e, v1, v2, v3, fin2 h (nx c)⟩)⟩
    · exact b_L_law_962 hL hscr hsb z0 z1 ⟨v1, v2, v3, (c_see (by omega) hI).go (fun r M1 e h => ⟨e, v1, v2, v3, fin2 h (nx c)⟩)⟩
    · exact b_L_law_1011 hL hscr hsb z0 z1 ((c_clear (by omega) hI).go (fun r M1 e h => ⟨e, fin2 h (nx c)⟩))
    · exact b_L_law_1024 hL hscr hsb z0 z1 ((c_suspects (by omega) hCor hI).go (fun r M1 e h => ⟨e, fin2 h (nx c)⟩))
    · refine b_L_law_1037 hL hscr hsb z0 z1 ⟨v1, CW.imp (c_crooked (by omega) hCor hThr hI) ?_⟩
      rintro _ N ⟨v, rfl, h1, h2⟩
      refine ⟨v, rfl, h1, v1, C.imp h2 ?_⟩
      rintro _ N' ⟨v', rfl, g1, g2, g3, g4⟩
      refine ⟨v', rfl, g1, s_thrown (by omega) g4.lay ⟨rfl, fun _ => ⟨fun _ => nx1 c N' g4, fun q => ⟨fun _ => nx1 c N' g4, fun q2 => absurd (g3 q) q2⟩⟩, fun q => absurd g2 q⟩⟩
    · exact b_L_law_1093 hL hscr hsb z0 z1 ⟨v1, (c_shakes (by omega) hPrt hI).go (fun r M1 e h => ⟨e, v1, fin2J h (nx c)⟩)⟩
    · exact b_L_law_1119 hL hscr hsb z0 z1 ⟨v1, (c_steadiest (by omega) hPrt hI).go (fun r M1 e h => ⟨e, v1, fin2J h (nx c)⟩)⟩
    · exact b_L_law_1145 hL hscr hsb z0 z1 ⟨v1, v2, (c_sheets (by omega) hI).go (fun r M1 e h => ⟨e, v1, v2, fin2 h (nx c)⟩)⟩
    · exact b_L_law_1182 hL hscr hsb z0 z1 ⟨v1, (c_descent (by omega) hDgt hI).go (fun r M1 e h => ⟨e, v1, fin2 h (nx c)⟩)⟩
    · refine b_L_law_1207 hL hscr hsb z0 z1 ⟨v1, v2, fun g3 => ?_, fun g3 => ?_⟩
      · exact b_L_law_1228 hL hscr hsb z0 z1 ((c_mark (by omega) hI).go (fun r M1 e h => ⟨e, v1, v2, fun _ => fin2 h (nx c), fun q => absurd g3 q⟩))
      · exact b_L_law_1228 hL hscr hsb z0 z1 ((c_mark (by omega) hI).go (fun r M1 e h => ⟨e, v1, v2, fun q => absurd q g3, fun _ => fin2 h (nx c)⟩))
    · exact b_L_law_1260 hL hscr hsb z0 z1 ⟨v1, (c_count (by omega) hI).go (fun r M1 e h => ⟨e, v1, fin2 h (nx c)⟩)⟩
