/-! ===== office: both ===== -/
theorem x_begin {G : MG} {d : Nat} {Q : Mm → Prop} {c o na : Nat} {M : Mm} (hd : 1 ≤ d) (hL : Lay c M) (ho : o = 3 ∨ o = 39) (hn : M.1 o 2 = nI na) (hn6 : na ≤ 6)
    (h : ∀ N, N.2 = M.2 → (∀ a, a < 75 ∨ 81 < a → N.1 a = M.1 a) → (∀ a, a < na → N.1 76 a = M.1 (o + 3 + 2 * a + 1) 0 ∧ N.1 77 a = M.1 (o + 3 + 2 * a + 1) 1 ∧ N.1 78 a = M.1 (o + 3 + 2 * a) 4 ∧ N.1 79 a = M.1 (o + 3 + 2 * a) 5 ∧ N.1 80 a = M.1 (o + 3 + 2 * a) 6 ∧ N.1 81 a = M.1 (o + 3 + 2 * a) 9) → N.1 75 7 = 0 → N.1 75 10 = 0 → Q N) : C G Y_X7_begin d [.ref (G.b + 75), .ref (G.b + o)] M (Rv Q) := by
  refine up1 (P := fun d => C G Y_X7_begin d _ M (Rv Q)) (fun e => b_X7_begin (d := e) hL (by decide) (sh_of ho) ?_) hd
  have key : ∀ p i (N : Mm), i + p = na → N.2 = M.2 → (∀ a, a < 75 ∨ 81 < a → N.1 a = M.1 a) → (∀ a, a < i → N.1 76 a = M.1 (o + 3 + 2 * a + 1) 0 ∧ N.1 77 a = M.1 (o + 3 + 2 * a + 1) 1 ∧ N.1 78 a = M.1 (o + 3 + 2 * a) 4 ∧ N.1 79 a = M.1 (o + 3 + 2 * a) 5 ∧ N.1 80 a = M.1 (o + 3 + 2 * a) 6 ∧ N.1 81 a = M.1 (o + 3 + 2 * a) 9) → L_X7_begin_2 G e Q 75 o (nI i) N := by
    intro p
    induction p with
    | zero =>
      intro i N hi h2 h1 hA
      have : i = na := by omega
      subst this
      have hLN : Lay c N := by unfold Lay at hL ⊢; rw [h2]; exact hL
      refine b_X7_begin_2 hLN (by decide) (sh_of ho) ⟨fun _ M2 e2 M3 e3 => ?_, fun g => absurd ?_ g⟩
      · subst e2; subst e3
        refine h _ h2 (fun a ha => by rw [sI_ne (by omega), sI_ne (by omega)]; exact h1 a ha) (fun a ha => ?_) (by rw [rd_sI, if_neg (by omega), rd_sI, if_pos ⟨rfl, rfl⟩]) (by rw [rd_sI, if_pos ⟨rfl, rfl⟩])
        rw [sI_ne (show (76 : Nat) ≠ 75 by omega), sI_ne (show (76 : Nat) ≠ 75 by omega), sI_ne (show (77 : Nat) ≠ 75 by omega), sI_ne (show (77 : Nat) ≠ 75 by omega), sI_ne (show (78 : Nat) ≠ 75 by omega), sI_ne (show (78 : Nat) ≠ 75 by omega), sI_ne (show (79 : Nat) ≠ 75 by omega), sI_ne (show (79 : Nat) ≠ 75 by omega), sI_ne (show (80 : Nat) ≠ 75 by omega), sI_ne (show (80 : Nat) ≠ 75 by omega), sI_ne (show (81 : Nat) ≠ 75 by omega), sI_ne (show (81 : Nat) ≠ 75 by omega)]
        exact hA a ha
      · rw [h1 o (by omega), hn, nI_leI (by omega) (by omega)]; omega
    | succ p ih =>
      intro i N hi h2 h1 hA
      have hLN : Lay c N := by unfold Lay at hL ⊢; rw [h2]; exact hL
      have hin : vp_in (nI i) 6 := (inN (by omega) (by omega)).1
      refine b_X7_begin_2 hLN (by decide) (sh_of ho) ⟨fun g => absurd g ?_, fun _ => ⟨hin, hin, fun M5 e5 => ⟨hin, fun M6 e6 => ⟨hin, fun M7 e7 => ⟨hin, fun M8 e8 => ⟨hin, fun M9 e9 => ⟨hin, fun M10 e10 => ?_⟩⟩⟩⟩⟩⟩⟩
      · rw [h1 o (by omega), hn, nI_leI (by omega) (by omega)]; omega
      · rw [nI_clamp (by omega), show o + 1 + 2 + 2 * i = o + 3 + 2 * i by omega] at *
        rw [show Int32.toNatClampNeg 0 = 0 from rfl] at e5
        rw [show Int32.toNatClampNeg 1 = 1 from rfl] at e6
        rw [nI_1]
        have z : ∀ a, (a < 75 ∨ 81 < a) → M5.1 a = M.1 a ∧ M6.1 a = M.1 a ∧ M7.1 a = M.1 a ∧ M8.1 a = M.1 a ∧ M9.1 a = M.1 a ∧ M10.1 a = M.1 a := fun a ha => by
          have q5 : M5.1 a = M.1 a := by rw [e5, sI_ne (by omega)]; exact h1 a ha
          have q6 : M6.1 a = M.1 a := by rw [e6, sI_ne (by omega)]; exact q5
          have q7 : M7.1 a = M.1 a := by rw [e7, sI_ne (by omega)]; exact q6
          have q8 : M8.1 a = M.1 a := by rw [e8, sI_ne (by omega)]; exact q7
          have q9 : M9.1 a = M.1 a := by rw [e9, sI_ne (by omega)]; exact q8
          exact ⟨q5, q6, q7, q8, q9, by rw [e10, sI_ne (by omega)]; exact q9⟩
        have y5 : M5.2 = M.2 := by rw [e5]; exact h2
        have y6 : M6.2 = M.2 := by rw [e6]; exact y5
        have y7 : M7.2 = M.2 := by rw [e7]; exact y6
        have y8 : M8.2 = M.2 := by rw [e8]; exact y7
        have y9 : M9.2 = M.2 := by rw [e9]; exact y8
        have y10 : M10.2 = M.2 := by rw [e10]; exact y9
        refine ih (i + 1) M10 (by omega) y10 (fun a ha => (z a ha).2.2.2.2.2) (fun a ha => ?_)
        have v5 : N.1 (o + 3 + 2 * i + 1) 0 = M.1 (o + 3 + 2 * i + 1) 0 := by rw [h1 _ (by omega)]
        have v6 : M5.1 (o + 3 + 2 * i + 1) 1 = M.1 (o + 3 + 2 * i + 1) 1 := by rw [(z _ (by omega)).1]
        have v7 : M6.1 (o + 3 + 2 * i) 4 = M.1 (o + 3 + 2 * i) 4 := by rw [(z _ (by omega)).2.1]
        have v8 : M7.1 (o + 3 + 2 * i) 5 = M.1 (o + 3 + 2 * i) 5 := by rw [(z _ (by omega)).2.2.1]
        have v9 : M8.1 (o + 3 + 2 * i) 6 = M.1 (o + 3 + 2 * i) 6 := by rw [(z _ (by omega)).2.2.2.1]
        have v10 : M9.1 (o + 3 + 2 * i) 9 = M.1 (o + 3 + 2 * i) 9 := by rw [(z _ (by omega)).2.2.2.2.1]
        rw [v5] at e5; rw [v6] at e6; rw [v7] at e7; rw [v8] at e8; rw [v9] at e9; rw [v10] at e10
        have r : ∀ q b, M10.1 q b = if q = 81 ∧ b = i then M.1 (o + 3 + 2 * i) 9 else if q = 80 ∧ b = i then M.1 (o + 3 + 2 * i) 6 else if q = 79 ∧ b = i then M.1 (o + 3 + 2 * i) 5 else if q = 78 ∧ b = i then M.1 (o + 3 + 2 * i) 4 else if q = 77 ∧ b = i then M.1 (o + 3 + 2 * i + 1) 1 else if q = 76 ∧ b = i then M.1 (o + 3 + 2 * i + 1) 0 else N.1 q b := fun q b => by
          rw [e10, rd_sI, e9, rd_sI, e8, rd_sI, e7, rd_sI, e6, rd_sI, e5, rd_sI]
        by_cases e1 : a = i
        · subst e1
          rw [r, r, r, r, r, r]
          simp
        · have n1 : ∀ q, M10.1 q a = N.1 q a := fun q => by
            rw [r, if_neg (fun hh => e1 hh.2), if_neg (fun hh => e1 hh.2), if_neg (fun hh => e1 hh.2), if_neg (fun hh => e1 hh.2), if_neg (fun hh => e1 hh.2), if_neg (fun hh => e1 hh.2)]
          rw [n1, n1, n1, n1, n1, n1]
          exact hA a (by omega)
  exact key na 0 M (by omega) rfl (fun _ _ => rfl) (fun a h => by omega)
theorem bitI_0 (q : Nat) : bitI 0 q = 0 := by
  unfold bitI
  rw [Int32.zero_and, if_pos rfl]
/-- the old office stays behind a fault -/
theorem Inv.fault {c : Nat} {M N : Mm} (hI : Inv c M) (e : N.2.2 = M.2.2) (t0 : N.1 1 0 = 0) (t2 : N.1 147 2 = 0) (eo : ∀ o, (c ≤ o ∧ o ≤ c + 35 ∨ 75 ≤ o ∧ o ≤ 125) → N.1 o = M.1 o) (e0 : N.1 0 5 = M.1 0 5) (e153 : ∀ k, (k < 110 ∨ 220 ≤ k) → N.1 153 k = M.1 153 k) (e154 : ∀ k, k < 120 → N.1 154 k = M.1 154 k) (e156 : N.1 156 = M.1 156) (eJ : N.2.1 152 = M.2.1 152) : Inv c N := by
  obtain ⟨hL, hc, hT, ⟨kc, g1, g2, g3, g4⟩, ⟨n, ⟨o1, o2, o3, o4⟩, hS, hM⟩, hl, hw⟩ := hI
  refine ⟨by unfold Lay at hL ⊢; rw [e]; exact hL, hc, ⟨by rw [t0, t2], 0, by omega, by rw [t0]; rfl, fun i hi => by omega⟩, ⟨kc, ?_, ?_, g3, fun m hm => ?_⟩, ⟨n, ⟨?_, ?_, o3, fun a ha => ?_⟩, ?_, fun q hq => ?_⟩, by rw [e0]; exact hl, by rw [eJ]; exact hw⟩
  · rw [eo c (by omega)]; exact g1
  · rw [e154 0 (by omega)]; exact g2
  · have a := (g4 m hm).ess (N := N) (eo _ (by omega)) (eo _ (by omega)) (eo _ (by omega))
    obtain ⟨a1, a2, a3, a4, k, k1, k2, k3, k4⟩ := a
    have g0 : ∀ j, j < 16 → N.1 154 (1 + 16 * m + j) = M.1 154 (1 + 16 * m + j) := fun j hj => e154 _ (by omega)
    unfold ChartC
    simp only [g0 0 (by omega), g0 1 (by omega), g0 2 (by omega), g0 3 (by omega)]
    refine ⟨a1, a2, a3, a4, k, k1, k2, k3, fun i hi => ?_⟩
    rw [g0 (4 + 2 * i) (by omega), g0 (5 + 2 * i) (by omega)]
    exact k4 i hi
  · rw [eo c (by omega)]; exact o1
  · rw [e153 0 (by omega)]; exact o2
  · have hA := (o4 a ha).ess (N := N) (eo _ (by omega)) (eo _ (by omega))
    have f0 : ∀ j, j < 14 → N.1 153 (1 + 14 * a + j) = M.1 153 (1 + 14 * a + j) := fun j hj => e153 _ (by omega)
    obtain ⟨a1, a2, a3, ⟨k, k1, k2, k3, k4, k5⟩, a5, a6, a7, a8⟩ := hA
    unfold ArmC
    simp only [f0 0 (by omega), f0 1 (by omega), f0 11 (by omega), f0 12 (by omega)]
    refine ⟨a1, a2, a3, ⟨k, k1, k2, k3, fun i hi => ?_, fun i j hi hj => ?_⟩, a5, a6, a7, a8⟩
    · rw [f0 (2 + i) (by omega)]; exact k4 i hi
    · rw [f0 (2 + i) (by omega), f0 (2 + j) (by omega)]; exact k5 i j hi hj
  · have a := hS.ess (N := N) (fun j hj => eo _ (by omega))
    obtain ⟨b1, ⟨b2, k, k1, k2, k3, k4⟩, ⟨b3, b4⟩⟩ := a
    refine ⟨fun a ha => ?_, ⟨by rw [e153 85 (by omega)]; exact b2, k, k1, by rw [e153 85 (by omega)]; exact k2, fun i hi => ?_, fun i j hi hj => ?_⟩, b3, fun q hq => ?_⟩
    · have h := b1 a ha
      have f0 : ∀ j, j < 14 → N.1 153 (1 + 14 * a + j) = M.1 153 (1 + 14 * a + j) := fun j hj => e153 _ (by omega)
      unfold HandC at h ⊢
      simp only [f0 6 (by omega), f0 7 (by omega), f0 8 (by omega), f0 9 (by omega), f0 10 (by omega), f0 13 (by omega)]
      exact h
    · rw [e153 _ (by omega)]; exact k3 i hi
    · rw [e153 _ (by omega), e153 _ (by omega)]; exact k4 i j hi hj
    · rw [e153 _ (by omega), e153 _ (by omega), e153 _ (by omega)]; exact b4 q hq
  · obtain ⟨m1, m2⟩ := hM q hq
    refine ⟨by rw [e156, e0]; exact m1, fun h => ?_⟩
    rw [e156] at h
    obtain ⟨m3, m4⟩ := m2 h
    have f : (fun k => N.1 153 (110 * (2 + q) + k)) = fun k => M.1 153 (110 * (2 + q) + k) := funext fun k => e153 _ (by omega)
    refine ⟨?_, fun k hk => ?_⟩
    · rw [f]
      exact m3.ess fun j hj => eo _ (by omega)
    · rw [e153 _ (by omega), e153 k (by unfold statI at hk; omega)]; exact m4 k hk
/-- the told office -/
theorem inv_told {o na nc : Nat} {N : Mm} {T : Nat → Nat} {n : Nat} {R : Nat → Nat → Nat} {Mp : Nat → MapD} (hL : Lay o N) (ho : o = 3 ∨ o = 39) (hW : RWk T n na nc R Mp) (t0 : N.1 1 0 = 0) (t2 : N.1 147 2 = 0) (l0 : N.1 0 5 = 0) (c2 : N.1 o 2 = nI na) (c3 : N.1 o 3 = nI nc) (hA : ∀ a, a < na → AX N (o + 3 + 2 * a) (R a)) (hM : ∀ b, b < nc → MX N (o + 15 + 3 * b) (Mp b))
    (hb : ∀ a, a < na → N.1 76 a = N.1 (o + 3 + 2 * a + 1) 0 ∧ N.1 77 a = N.1 (o + 3 + 2 * a + 1) 1 ∧ N.1 78 a = N.1 (o + 3 + 2 * a) 4 ∧ N.1 79 a = N.1 (o + 3 + 2 * a) 5 ∧ N.1 80 a = N.1 (o + 3 + 2 * a) 6 ∧ N.1 81 a = N.1 (o + 3 + 2 * a) 9) (s7 : N.1 75 7 = 0) (s10 : N.1 75 10 = 0)
    (q156 : ∀ q, q < 4 → N.1 156 q = 0) (r0 : N.1 153 0 = nI na) (hR : ∀ a, a < na → RX N (1 + 14 * a) (R a)) (hz : ∀ k, 85 ≤ k → k < 110 → N.1 153 k = 0) (m0 : N.1 154 0 = nI nc) (hMR : ∀ b, b < nc → MRX N (1 + 16 * b) (Mp b)) (hwd : ∀ k, k < 16 → N.2.1 152 k = wordT k) : Inv o N := by
  obtain ⟨w1, w2, w3, w4⟩ := hW
  -- all of an arm
  have arm : ∀ a, a < na → ∃ r : Nat → Nat, (r 0 ≤ 3 ∧ 2 ≤ r 1 ∧ r 1 ≤ 4 ∧ r 8 ≤ 3 ∧ r 9 ≤ 99 ∧ r 10 ≤ 99 ∧ 1 ≤ r 11 ∧ r 11 ≤ 200 ∧ r 12 ≤ 9 ∧ r 13 ≤ 9 ∧ r 6 = r 2 ∧ r 7 = r 3) ∧ AX N (o + 3 + 2 * a) r ∧ RX N (1 + 14 * a) r := fun a ha => by
    obtain ⟨nm, j, k, e1, e2⟩ := w3 a ha
    obtain ⟨l1, l2⟩ := row_len e2
    obtain ⟨-, -, -, -, -, -, -, -, -, -, -, v1, v2, v3, ⟨v4, v4'⟩, v5, v6, v7⟩ := aE_ok e2
    exact ⟨aRow T n nm j, ⟨v7, l2, l1, v1, v2, v3, v4, v4', v5, v6, rfl, rfl⟩, by rw [← e1]; exact hA a ha, by rw [← e1]; exact hR a ha⟩
  have rx : ∀ {i : Nat} {r : Nat → Nat}, RX N i r → N.1 153 (i + 13) = nI (r 13) ∧ N.1 153 (i + 12) = nI (r 12) ∧ N.1 153 (i + 11) = nI (r 11) ∧ N.1 153 (i + 10) = nI (r 10) ∧ N.1 153 (i + 9) = nI (r 9) ∧ N.1 153 (i + 8) = nI (r 8) ∧ N.1 153 (i + 7) = nI (r 7) ∧ N.1 153 (i + 6) = nI (r 6) ∧ N.1 153 (i + 0) = nI (r 0) := fun {i r} h =>
    ⟨h.1 (i + 13, nI (r 13)) (by simp), h.1 (i + 12, nI (r 12)) (by simp), h.1 (i + 11, nI (r 11)) (by simp), h.1 (i + 10, nI (r 10)) (by simp), h.1 (i + 9, nI (r 9)) (by simp), h.1 (i + 8, nI (r 8)) (by simp), h.1 (i + 7, nI (r 7)) (by simp), h.1 (i + 6, nI (r 6)) (by simp), h.1 (i + 0, nI (r 0)) (by simp)⟩
  have ax : ∀ {q : Nat} {r : Nat → Nat}, AX N q r → N.1 q 9 = nI (r 13) ∧ N.1 q 8 = nI (r 12) ∧ N.1 q 7 = nI (r 11) ∧ N.1 q 6 = nI (r 10) ∧ N.1 q 5 = nI (r 9) ∧ N.1 q 4 = nI (r 8) ∧ N.1 q 1 = nI (r 0) := fun {q r} h =>
    ⟨h.1 (9, nI (r 13)) (by simp), h.1 (8, nI (r 12)) (by simp), h.1 (7, nI (r 11)) (by simp), h.1 (6, nI (r 10)) (by simp), h.1 (5, nI (r 9)) (by simp), h.1 (4, nI (r 8)) (by simp), h.1 (1, nI (r 0)) (by simp)⟩
  refine ⟨hL, ho, ⟨by rw [t0, t2], 0, by omega, by rw [t0]; rfl, fun i hi => by omega⟩, ⟨nc, c3, m0, w2, fun m hm => ?_⟩, ⟨na, ⟨c2, r0, w1, fun a ha => ?_⟩, ⟨fun a ha => ?_, ?_, ?_⟩, fun q hq => ?_⟩, ?_, hwd⟩
  · obtain ⟨nm, j, k, e1, e2⟩ := w4 m hm
    obtain ⟨-, -, -, -, -, -, b1, b2, b3, b4, b5⟩ := mE_ok e2
    rw [← e1] at b1 b2 b3 b4 b5
    obtain ⟨x1, x2, x3⟩ := hM m hm
    obtain ⟨y1, y2, y3, y4, y5⟩ := hMR m hm
    have z1 : N.1 (o + 15 + 3 * m) 1 = nI (Mp m).1 := x1 (1, nI (Mp m).1) (by simp)
    have z2 : N.1 (o + 15 + 3 * m) 2 = nI (Mp m).2.1 := x1 (2, nI (Mp m).2.1) (by simp)
    have z3 : N.1 (o + 15 + 3 * m) 3 = nI (Mp m).2.2.1 := x1 (3, nI (Mp m).2.2.1) (by simp)
    refine ⟨⟨(Mp m).1, (Mp m).2.1, b1.1, b1.2, b2.1, b2.2, z1, z2, y1, y2⟩, ?_, ⟨_, Nat.zero_le _, b3, y3⟩, ?_, (Mp m).2.2.2.length, b4.1, b4.2, y4, fun i hi => ?_⟩
    · show _ = N.1 154 (1 + 16 * m + 2)
      rw [z3, y3]
    · show _ = N.1 154 (1 + 16 * m + 3)
      rw [x2, y4]
    · obtain ⟨p1, p2⟩ := x3 i hi
      obtain ⟨p3, p4⟩ := y5 i hi
      obtain ⟨p5, p6⟩ := b5 i hi
      show (N.1 (o + 15 + 3 * m + 1) i = N.1 154 (1 + 16 * m + (4 + 2 * i)) ∧ bn (N.1 154 (1 + 16 * m + (4 + 2 * i))) 0 99) ∧ (N.1 (o + 15 + 3 * m + 2) i = N.1 154 (1 + 16 * m + (5 + 2 * i)) ∧ bn (N.1 154 (1 + 16 * m + (5 + 2 * i))) 0 99)
      rw [show 1 + 16 * m + (4 + 2 * i) = 1 + 16 * m + 4 + 2 * i by omega, show 1 + 16 * m + (5 + 2 * i) = 1 + 16 * m + 4 + 2 * i + 1 by omega, p1, p2, p3, p4]
      exact ⟨⟨rfl, _, Nat.zero_le _, p5, rfl⟩, rfl, _, Nat.zero_le _, p6, rfl⟩
  · obtain ⟨r, ⟨v0, v1, v1', v8, v9, v10, v11, v11', v12, v13, v6, v7⟩, hAx, hRx⟩ := arm a ha
    obtain ⟨a9, a8, a7, a6, a5, a4, a1⟩ := ax hAx
    obtain ⟨q13, q12, q11, q10, q9, q8, q7, q6, q0⟩ := rx hRx
    obtain ⟨f1, f2, f3, f4⟩ := hAx.2
    obtain ⟨-, g1, g2⟩ := hRx
    have gi : ∀ i, i < r 1 → N.1 153 (1 + 14 * a + (2 + i)) = nI (r (2 + i)) := fun i hi => by rw [← Nat.add_assoc]; exact g2 i hi
    show N.1 (o + 3 + 2 * a) 1 = N.1 153 (1 + 14 * a + 0) ∧ bn (N.1 153 (1 + 14 * a + 0)) 0 3 ∧ N.1 (o + 3 + 2 * a) 3 = N.1 153 (1 + 14 * a + 1) ∧ (∃ k : Nat, 2 ≤ k ∧ k ≤ 4 ∧ N.1 153 (1 + 14 * a + 1) = nI k ∧ (∀ i, i < k → N.1 (o + 3 + 2 * a + 1) i = N.1 153 (1 + 14 * a + (2 + i)) ∧ bn (N.1 153 (1 + 14 * a + (2 + i))) 1 9) ∧ (∀ i j, i < k → j < k → N.1 153 (1 + 14 * a + (2 + i)) = N.1 153 (1 + 14 * a + (2 + j)) → i = j)) ∧
      N.1 (o + 3 + 2 * a) 7 = N.1 153 (1 + 14 * a + 11) ∧ bn (N.1 153 (1 + 14 * a + 11)) 1 200 ∧ N.1 (o + 3 + 2 * a) 8 = N.1 153 (1 + 14 * a + 12) ∧ bn (N.1 153 (1 + 14 * a + 12)) 0 9
    rw [q0, g1, q11, q12, a1, a7, a8, f1]
    refine ⟨rfl, ⟨_, Nat.zero_le _, v0, rfl⟩, rfl, ⟨r 1, v1, v1', rfl, fun i hi => ?_, fun i j hi hj he => ?_⟩, rfl, ⟨_, v11, v11', rfl⟩, rfl, ⟨_, Nat.zero_le _, v12, rfl⟩⟩
    · obtain ⟨f3a, f3b, f3c⟩ := f3 i hi
      rw [gi i hi, f3a]
      exact ⟨rfl, _, f3b, f3c, rfl⟩
    · rw [gi i hi, gi j hj] at he
      have bi : r (2 + i) ≤ 9 := (f3 i hi).2.2
      have bj : r (2 + j) ≤ 9 := (f3 j hj).2.2
      rw [nI_eq (by omega) (by omega)] at he
      exact f4 i j hi hj he
  · obtain ⟨r, ⟨v0, v1, v1', v8, v9, v10, v11, v11', v12, v13, v6, v7⟩, hAx, hRx⟩ := arm a ha
    obtain ⟨a9, a8, a7, a6, a5, a4, a1⟩ := ax hAx
    obtain ⟨q13, q12, q11, q10, q9, q8, q7, q6, q0⟩ := rx hRx
    obtain ⟨f1, f2, f3, f4⟩ := hAx.2
    obtain ⟨h1, h2, h3, h4, h5, h6⟩ := hb a ha
    obtain ⟨f30, f31, f32⟩ := f3 0 (by omega)
    obtain ⟨f40, f41, f42⟩ := f3 1 (by omega)
    show (N.1 76 a = N.1 153 (1 + 14 * a + 6) ∧ bn (N.1 153 (1 + 14 * a + 6)) 1 9) ∧ (N.1 77 a = N.1 153 (1 + 14 * a + 7) ∧ bn (N.1 153 (1 + 14 * a + 7)) 1 9) ∧ (N.1 78 a = N.1 153 (1 + 14 * a + 8) ∧ bn (N.1 153 (1 + 14 * a + 8)) 0 3) ∧ (N.1 79 a = N.1 153 (1 + 14 * a + 9) ∧ bn (N.1 153 (1 + 14 * a + 9)) 0 99) ∧ (N.1 80 a = N.1 153 (1 + 14 * a + 10) ∧ bn (N.1 153 (1 + 14 * a + 10)) 0 99) ∧ (N.1 81 a = N.1 153 (1 + 14 * a + 13) ∧ bn (N.1 153 (1 + 14 * a + 13)) 0 9)
    rw [q6, q7, q8, q9, q10, q13, h1, h2, h3, h4, h5, h6, f30, f40, a4, a5, a6, a9, v6, v7]
    exact ⟨⟨rfl, _, f31, f32, rfl⟩, ⟨rfl, _, f41, f42, rfl⟩, ⟨rfl, _, Nat.zero_le _, v8, rfl⟩, ⟨rfl, _, Nat.zero_le _, v9, rfl⟩, ⟨rfl, _, Nat.zero_le _, v10, rfl⟩, rfl, _, Nat.zero_le _, v13, rfl⟩
  · exact ⟨by rw [s7, hz 85 (by omega) (by omega)], 0, by omega, by rw [hz 85 (by omega) (by omega)]; rfl, fun i hi => by omega, fun i j hi => by omega⟩
  · refine ⟨⟨0, by omega, by omega, by rw [s10]; rfl⟩, fun q hq => ⟨?_, fun h => ?_⟩⟩
    · rw [s10, bitI_0]; exact hz _ (by omega) (by omega)
    · rw [hz _ (by omega) (by omega)] at h; cases h
  · refine ⟨by rw [q156 q hq, l0, bitI_0], fun h => ?_⟩
    rw [q156 q hq] at h; cases h
  · exact ⟨0, by omega, by omega, by rw [l0]; rfl⟩
theorem c_office {G : MG} {d : Nat} {M : Mm} {c : Nat} (hd : 11 ≤ d) (hS : Str G) (hI : Inv c M) : C G Y_X11_office d [.ref (G.b + 0)] M (Ri fun r M1 => ∃ c2, Lay c2 M1 ∧ C G Y_X12_office d [.ref (G.b + 147)] M1 (Ri fun r' M2 => M2.2.2 = M1.2.2 ∧ r = r' ∧ ∃ c3, Inv c3 M2)) := by
  have hL := hI.lay
  have hcc := hI.cc
  obtain ⟨t1, n, n1, t2, t3⟩ := hI.2.2.1
  have hwd := hI.2.2.2.2.2.2
  have tt : ∀ i, i < n → M.1 148 i = nI (M.1 148 i).toNatClampNeg ∧ 10 ≤ (M.1 148 i).toNatClampNeg ∧ (M.1 148 i).toNatClampNeg ≤ 126 := fun i hi => by
    obtain ⟨-, k, k1, k2, k3⟩ := t3 i hi
    rw [k3, nI_clamp (by omega)]
    exact ⟨rfl, k1, k2⟩
  have hTp : TpX (fun i => (M.1 148 i).toNatClampNeg) n M := ⟨t2, n1, fun i hi => ⟨(t3 i hi).1.trans (tt i hi).1, (tt i hi).2⟩⟩
  have ho : 42 - c = 3 ∨ 42 - c = 39 := by omega
  refine up1 (P := fun e => C G Y_X11_office e _ M _) (fun e => b_X11_office (d := e + 10) hL hcc ?_) hd
  refine x_readOffice (R0 := fun _ _ => 0) (M0 := fun _ => (0, 0, 0, [])) (by omega) hS hL hTp ho (fun r M1 hF hOut hW => ⟨hF.1, fun M3 e3 => ?_⟩)
  have o147 : M3.1 147 = M.1 147 := by subst e3; rw [sI_ne (show (147 : Nat) ≠ 1 by omega)]; exact hF.2.1 147 (by omega) (by omega)
  have o148 : M3.1 148 = M.1 148 := by subst e3; rw [sI_ne (show (148 : Nat) ≠ 1 by omega)]; exact hF.2.1 148 (by omega) (by omega)
  have l152 : M3.2.1 152 = M.2.1 152 := by subst e3; exact hF.2.2.2 152 (by omega) (by omega)
  have s3 : ∀ a, a ≠ 1 → (a < 42 - c ∨ 42 - c + 35 < a) → M3.1 a = M.1 a := fun a h1 h2 => by subst e3; rw [sI_ne h1]; exact hF.2.1 a h1 h2
  have z3 : M3.1 1 0 = 0 := by subst e3; rw [rd_sI, if_pos ⟨rfl, rfl⟩]
  have hL3 : Lay c M3 := lay_of hL (by subst e3; exact hF.1)
  generalize hres : oX (fun i => (M.1 148 i).toNatClampNeg) n 14 (.ok 0) 0 0 [] (fun _ _ => 0) (fun _ => (0, 0, 0, [])) = res at *
  cases hx : res.1 with
  | error z =>
    obtain ⟨r1, r2, r3⟩ := hOut.1 z hx
    subst r1
    refine ⟨fun _ => ⟨c, hL3, ?_⟩, fun g => absurd g (nI_ne0 (by omega) r3)⟩
    refine m_office (T := fun i => (M.1 148 i).toNatClampNeg) (n := n) (R0 := fun _ _ => 0) (M0 := fun _ => (0, 0, 0, [])) (by omega) hL3 n1 (by rw [o147]; exact t1.trans t2) (by rw [o148]; exact tt) (by rw [l152]; exact hwd) (fun z' N hz' hN => ?_) (fun j N hj => by rw [hres, hx] at hj; cases hj)
    rw [hres, hx] at hz'
    cases hz'
    obtain ⟨f1, f2, f3, f4, f5, f6⟩ := hN
    refine ⟨f1, rfl, c, hI.fault ?_ ?_ f3 (fun o ho' => ?_) ?_ (fun k hk => ?_) (fun k hk => ?_) ?_ ?_⟩
    · rw [f1]; subst e3; exact hF.1
    · rw [f2 1 (by omega) (by omega) (by omega) (by omega) (by omega)]; exact z3
    · rw [f2 o (by omega) (by omega) (by omega) (by omega) (by omega)]; exact s3 o (by omega) (by omega)
    · rw [f2 0 (by omega) (by omega) (by omega) (by omega) (by omega), s3 0 (by omega) (by omega)]
    · rw [f4 k hk, s3 153 (by omega) (by omega)]
    · rw [f5 k hk, s3 154 (by omega) (by omega)]
    · rw [f2 156 (by omega) (by omega) (by omega) (by omega) (by omega), s3 156 (by omega) (by omega)]
    · rw [f6, l152]
  | ok j =>
    obtain ⟨r1, x2, x3, x4, x5⟩ := hOut.2 j hx
    subst r1
    refine ⟨fun g => absurd rfl g, fun _ M5 e5 M6 e6 => ?_⟩
    have hL6 : Lay (42 - c) M6 := lay_swap hL3 hcc e5 e6
    have i6 : M6.1 = M3.1 := by subst e6; subst e5; rfl
    have j6 : M6.2.1 = M3.2.1 := by subst e6; subst e5; rfl
    have hW' := hW j hx
    have k3 : ∀ a, a ≠ 1 → M3.1 a = M1.1 a := fun a h1 => by subst e3; exact sI_ne h1
    refine x_begin (by omega) hL6 ho (by rw [i6, k3 _ (by omega)]; exact x2) hW'.1 (fun M7 b1 b2 b3 b4 b5 => ⟨by rw [b1], fun M8 e8 => ?_⟩)
    have hL8 : Lay (42 - c) M8 := by
      subst e8
      unfold Lay at hL6 ⊢
      show M7.2.2 = _
      rw [b1]; exact hL6
    have q8 : ∀ a, a ≠ 0 → M8.1 a = M7.1 a := fun a h => by subst e8; exact sI_ne h
    have j8 : M8.2.1 = M3.2.1 := by subst e8; show M7.2.1 = _; rw [b1, j6]
    have m8 : ∀ a, a ≠ 0 → a ≠ 1 → (a < 75 ∨ 81 < a) → M8.1 a = M1.1 a := fun a h0 h1 h2 => by rw [q8 a h0, b2 a h2, i6, k3 a h1]
    refine ⟨42 - c, hL8, ?_⟩
    refine m_office (T := fun i => (M.1 148 i).toNatClampNeg) (n := n) (R0 := fun _ _ => 0) (M0 := fun _ => (0, 0, 0, [])) (by omega) hL8 n1 (by rw [q8 147 (by omega), b2 147 (by omega), i6, o147]; exact t1.trans t2) (by rw [q8 148 (by omega), b2 148 (by omega), i6, o148]; exact tt) (by rw [j8, l152]; exact hwd) (fun z' N hz' => by rw [hres, hx] at hz'; cases hz') (fun j' N hj' hN => ?_)
    rw [hres] at hN
    obtain ⟨f1, f2, f3, f4, f5, f6, f7, f8, f9, f10⟩ := hN
    have n0 : ∀ a, a ≤ 125 → N.1 a = M8.1 a := fun a ha => f2 a (by omega) (by omega) (by omega) (by omega) (by omega) (by omega)
    have n1' : ∀ a, a ≠ 0 → a ≠ 1 → (a < 75 ∨ 81 < a) → a ≤ 125 → N.1 a = M1.1 a := fun a h0 h1 h2 h3 => (n0 a h3).trans (m8 a h0 h1 h2)
    refine ⟨f1, rfl, 42 - c, inv_told (lay_of hL8 f1) ho hW' ?_ f3 ?_ ?_ ?_ (fun a ha => ?_) (fun b hb => ?_) (fun a ha => ?_) ?_ ?_ f5 f6 f7 f8 f9 f10 (by rw [f4, j8, l152]; exact hwd)⟩
    · rw [n0 1 (by omega), q8 1 (by omega), b2 1 (by omega), i6]; exact z3
    · rw [n0 0 (by omega)]; subst e8; rw [rd_sI, if_pos ⟨rfl, rfl⟩]
    · rw [n1' _ (by omega) (by omega) (by omega) (by omega)]; exact x2
    · rw [n1' _ (by omega) (by omega) (by omega) (by omega)]; exact x3
    · have := hW'.1
      exact (x4 a ha).fr (n1' _ (by omega) (by omega) (by omega) (by omega)) (n1' _ (by omega) (by omega) (by omega) (by omega))
    · have := hW'.2.1
      exact (x5 b hb).fr (n1' _ (by omega) (by omega) (by omega) (by omega)) (n1' _ (by omega) (by omega) (by omega) (by omega)) (n1' _ (by omega) (by omega) (by omega) (by omega))
    · have := hW'.1
      have h := b3 a ha
      have hq : ∀ q, 75 ≤ q → q ≤ 81 → N.1 q = M7.1 q := fun q h1 h2 => (n0 q (by omega)).trans (q8 q (by omega))
      have hx1 : ∀ q, q ≠ 0 → (q < 75 ∨ 81 < q) → q ≤ 125 → N.1 q = M6.1 q := fun q h0 h2 h3 => (n0 q h3).trans ((q8 q h0).trans (b2 q h2))
      rw [hq 76 (by omega) (by omega), hq 77 (by omega) (by omega), hq 78 (by omega) (by omega), hq 79 (by omega) (by omega), hq 80 (by omega) (by omega), hq 81 (by omega) (by omega), hx1 (42 - c + 3 + 2 * a) (by omega) (by omega) (by omega), hx1 (42 - c + 3 + 2 * a + 1) (by omega) (by omega) (by omega)]
      exact h
    · rw [n0 75 (by omega), q8 75 (by omega)]; exact b4
    · rw [n0 75 (by omega), q8 75 (by omega)]; exact b5
