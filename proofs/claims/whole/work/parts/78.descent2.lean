/-! ===== descent: both ===== -/
theorem pop_dif7 : ∀ S, S < 128 → ∀ c, c < 7 → S.testBit c = true → pop7 (dif S (2 ^ c)) + 1 = pop7 S := by decide +kernel
theorem pop_all : ∀ n, n < 8 → pop7 (2 ^ n - 1) = n := by decide +kernel
theorem Tt_pop {n : Nat} {can : Nat → Nat → Prop} {un : Nat → Nat → Nat} (hn : n ≤ 7) : ∀ k S x, S < 128 → Tt n can un k S x → pop7 S = k + 1 := by
  intro k
  induction k with
  | zero =>
    rintro S x hS ⟨f, hf, rfl, -⟩
    exact pop_two f (by omega)
  | succ k ih =>
    rintro S x hS ⟨c, a, y, hc, hSc, ha, hSa, hcan, hT, rfl⟩
    have h1 := dif_le S (2 ^ c)
    have h2 := ih _ _ (by omega) hT
    have h3 := pop_dif7 S hS c (by omega) hSc
    omega
theorem TT_cd {n : Nat} {can : Nat → Nat → Prop} {un : Nat → Nat → Nat} (hn : n ≤ 7) {x : Nat} : TT n can un (2 ^ n - 1) x ↔ ∃ y, Cd n can y ∧ x = keyN n un y := by
  constructor
  · rintro ⟨k, h⟩
    have h1 := Tt_pop hn k _ _ (by have := (pw128 n (by omega)).2; omega) h
    rw [pop_all n (by omega)] at h1
    exact T_cd hn (by omega) h
  · rintro ⟨y, hy, rfl⟩
    exact ⟨_, cd_T hn hy⟩
theorem canE {na : Nat} {P Qh u v : Nat → Nat} : canS na P Qh u v = canR na P Qh (fun m => u m / Nat.gcd (u m) (v m)) (fun m => v m / Nat.gcd (u m) (v m)) := by
  funext a b
  refine propext ?_
  have e : ∀ m, u m = Nat.gcd (u m) (v m) * (u m / Nat.gcd (u m) (v m)) ∧ v m = Nat.gcd (u m) (v m) * (v m / Nat.gcd (u m) (v m)) := fun m =>
    ⟨(Nat.mul_div_cancel' (Nat.gcd_dvd_left _ _)).symm, (Nat.mul_div_cancel' (Nat.gcd_dvd_right _ _)).symm⟩
  have main : ∀ i, u a * P i * v b = u b * Qh i * v a ↔ u b / Nat.gcd (u b) (v b) * (v a / Nat.gcd (u a) (v a)) * Qh i = u a / Nat.gcd (u a) (v a) * P i * (v b / Nat.gcd (u b) (v b)) := by
    intro i
    obtain ⟨ea, fa⟩ := e a
    obtain ⟨eb, fb⟩ := e b
    by_cases ga : Nat.gcd (u a) (v a) = 0
    · rw [ga, Nat.zero_mul] at ea fa
      rw [ea, fa]; simp
    · by_cases gb : Nat.gcd (u b) (v b) = 0
      · rw [gb, Nat.zero_mul] at eb fb
        rw [eb, fb]; simp
      · have hg : 0 < Nat.gcd (u a) (v a) * Nat.gcd (u b) (v b) := Nat.mul_pos (by omega) (by omega)
        generalize Nat.gcd (u a) (v a) = g at *
        generalize Nat.gcd (u b) (v b) = h at *
        generalize u a / g = p at *
        generalize v a / g = q at *
        generalize u b / h = r at *
        generalize v b / h = t at *
        rw [ea, fa, eb, fb]
        have l1 : g * p * P i * (h * t) = g * h * (p * P i * t) := by ac_rfl
        have l2 : h * r * Qh i * (g * q) = g * h * (r * q * Qh i) := by ac_rfl
        rw [l1, l2]
        constructor
        · intro hh; exact (Nat.eq_of_mul_eq_mul_left hg hh).symm
        · intro hh; rw [hh]
  constructor
  · rintro ⟨i, hi, h⟩; exact ⟨i, hi, (main i).mp h⟩
  · rintro ⟨i, hi, h⟩; exact ⟨i, hi, (main i).mpr h⟩
theorem key_c {c y W : Nat} (h : y < W) : (c * W + y) / W = c := by
  have hW : 0 < W := by omega
  rw [Nat.mul_comm, Nat.mul_add_div hW, Nat.div_eq_of_lt h, Nat.add_zero]
theorem key_d {c y w k W : Nat} (hw : 0 < w) (e : w * (7 * k) = W) : (c * W + y) / w % 7 = y / w % 7 := by
  rw [← e, show c * (w * (7 * k)) = w * (7 * (c * k)) by ac_rfl, Nat.mul_add_div hw, Nat.mul_add_mod]
theorem W7_k : ∀ m, m < 7 → W7 m * (7 * 7 ^ (m + 1)) = 5764801 := by decide +kernel
theorem m_descent {G : MG} {d : Nat} {Q : Int32 → Mm → Prop} {M : Mm} {c na n w : Nat} {P Qh ru rv s : Nat → Nat} (hd : 11 ≤ d) (hL : Lay c M) (hA : AncR M na n P Qh ru rv s) (hn0 : n ≠ 0) (hw : w < 2 + n)
    (hno : (∀ y, ¬ Cd n (canR na P Qh ru rv) y) → ∀ N, Ess M N → Q (-1) N)
    (hyes : ∀ y0, Cd n (canR na P Qh ru rv) y0 → (∀ y, Cd n (canR na P Qh ru rv) y → keyN n (unS s) y0 ≤ keyN n (unS s) y) → ∀ N, Ess M N → Q (if w = 0 then nI (cst (unS s) (y0 / 823543) (dg y0) n) else if w = 1 then nI (y0 / 823543) else nI (dg y0 (w - 2))) N) :
    C G Y_X12_descent d [.ref (G.b + 147), .int (nI w)] M (Ri Q) := by
  obtain ⟨a1, a2, a3, a4, a5, a6⟩ := id hA
  have hun : ∀ a b, unS s a b ≤ 8 := fun a b => pop8_le _
  have e154 : ∀ {N : Mm}, Ess M N → N.1 154 (Int32.toNatClampNeg 0) = nI n := fun h => by rw [h.2.2.2.2.2.2.2.2.1]; exact a3
  refine up1 (P := fun d => C G Y_X12_descent d _ M (Ri Q)) (fun e => b_X12_descent (d := e + 10) hL (fun M1 e1 => ?_)) hd
  subst e1
  have hE1 : Ess M (sI M 147 0 0) := ess_sI (by omega)
  rw [e154 hE1, show (1 : Int32) = nI 1 from rfl, nI_add]
  refine s_within (by omega) (lay_sI hL) ⟨rfl, fun g => ?_, fun _ => ⟨fun _ M6 e6 => ?_, fun g => ?_⟩⟩
  · rcases if01 g with g | g
    · exact absurd g (nI_pos (by omega))
    · rw [nI_ltI (by omega) (by omega)] at g; omega
  · subst e6
    have z7 : (7 : Nat) ^ (7 - 0) = 823543 := by decide
    have key : ∀ j f (N : Mm), f + j = n → Ess M N → BestM n (canR na P Qh ru rv) (unS s) N (f * 7 ^ (7 - 0)) → L_X12_descent_39 G (e + 10) Q (nI w) (nI f) N := by
      intro j
      induction j with
      | zero =>
        intro f N hf hE hB
        have : f = n := by omega
        subst this
        rw [z7] at hB
        have all : ∀ y, Cd f (canR na P Qh ru rv) y → y < f * 823543 := fun y hy => (Nat.div_lt_iff_lt_mul (by omega)).mp hy.2.1
        refine b_X12_descent_39 (lay_of hL hE.1) ?_
        rw [e154 hE, nI_leI (by omega) (by omega)]
        refine ⟨fun _ => ?_, fun g => absurd (Nat.le_refl _) g⟩
        rcases hB with ⟨h1, h2⟩ | ⟨y0, h1, h2, h3, h4, h5, h6⟩
        · rw [h1]
          exact ⟨fun g => absurd g (by decide), fun _ => hno (fun y hy => h2 y (all y hy) hy) N hE⟩
        · have b3 := cst_le hun (y0 / 823543) (dg y0) (n := f)
          have hy := hyes y0 h2 (fun y hy => h6 y (all y hy) hy) N hE
          rw [h3, h4, show (0 : Int32) = nI 0 from rfl, nI_leI (by omega) (by omega), show (1 : Int32) = nI 1 from rfl, nI_eq (by omega) (by omega), nI_eq (by omega) (by omega)]
          refine ⟨fun _ => ⟨fun g0 => ⟨fun g1 => ?_, fun g1 => ?_⟩, fun g0 => ?_⟩, fun g => absurd (Nat.zero_le _) g⟩
          · rw [if_neg g0, if_neg g1] at hy
            rw [show (2 : Int32) = nI 2 from rfl, pk_sub (by omega)]
            refine ⟨(inN (by omega) (by omega)).1, ?_⟩
            rw [nI_clamp (by omega), h5 (w - 2) (by omega)]
            exact hy
          · rw [if_neg g0, if_pos g1] at hy; exact hy
          · rw [if_pos g0] at hy; exact hy
      | succ j ih =>
        intro f N hf hE hB
        refine b_X12_descent_39 (lay_of hL hE.1) ?_
        rw [e154 hE, nI_leI (by omega) (by omega)]
        refine ⟨fun g => by omega, fun _ M5 e5 => ?_⟩
        subst e5
        have hE5 : Ess M (sI N 147 30 (nI f)) := hE.tr (ess_sI (by omega))
        have f0 : f / 7 ^ 0 = f := by rw [Nat.pow_zero, Nat.div_one]
        have := s_triesFrom (G := G) hL hA n 0 f (sI N 147 30 (nI f)) (e + 10) (fun M6 => M6.2.2 = (sI N 147 30 (nI f)).2.2 ∧ L_X12_descent_39 G (e + 10) Q (nI w) (nI f + 1) M6) (by omega) (by rw [f0]; omega) (fun k hk => by omega) (by omega) hE5 (by rw [f0, rd_sI, if_pos ⟨rfl, rfl⟩]) (fun k hk => by omega)
          (hB.fr (by rw [rd_sI, if_neg (by omega)]) (by rw [rd_sI, if_neg (by omega)]) (fun k => by rw [rd_sI, if_neg (by omega)])) (fun N' hE' d30 d157 hB' => ⟨hE'.1.trans hE5.1.symm, by rw [nI_1]; exact ih (f + 1) N' (by omega) hE' hB'⟩)
        exact this
    refine key n 0 _ (by omega) (hE1.tr (ess_sI (by omega))) (.inl ⟨by rw [rd_sI, if_pos ⟨rfl, rfl⟩]; rfl, fun y hy => by rw [Nat.zero_mul] at hy; omega⟩)
  · rw [e154 hE1, show (0 : Int32) = nI 0 from rfl, nI_eq (by omega) (by omega)] at g
    exact absurd g hn0
theorem m_descentN {G : MG} {d : Nat} {Q : Int32 → Mm → Prop} {M : Mm} {c n : Nat} {x1 : Int32} (hd : 2 ≤ d) (hL : Lay c M) (hn : M.1 154 0 = nI n) (hb : n = 0 ∨ (x1 < 0 ∨ nI (1 + n) < x1)) (h : Q (-1) (sI M 147 0 0)) :
    C G Y_X12_descent d [.ref (G.b + 147), .int x1] M (Ri Q) := by
  refine up1 (P := fun d => C G Y_X12_descent d _ M (Ri Q)) (fun e => b_X12_descent (d := e + 1) hL (fun M1 e1 => ?_)) hd
  subst e1
  rw [show (sI M 147 0 0).1 154 (Int32.toNatClampNeg 0) = nI n from hn, show (1 : Int32) = nI 1 from rfl, nI_add]
  refine s_within (by omega) (lay_sI hL) ⟨rfl, fun _ => h, fun g => ⟨fun g2 => ?_, fun _ => h⟩⟩
  rw [show (sI M 147 0 0).1 154 (Int32.toNatClampNeg 0) = nI n from hn] at g2
  rcases hb with hb | hb
  · exact absurd (by rw [hb]; rfl) g2
  · exact absurd hb (if02 g)
theorem c_descent {G : MG} {d : Nat} {M : Mm} {c : Nat} {x1 : Int32} (hd : 11 ≤ d) (hD : Dgt G) (hI : Inv c M) : Two G d c Y_X11_descent [.ref (G.b + 0), .int x1] Y_X12_descent [.ref (G.b + 147), .int x1] M := by
  have hL := hI.lay
  have hcc := hI.cc
  obtain ⟨n, g1, g2, g3, g4⟩ := hI.2.2.2.1
  obtain ⟨na, ⟨o1, o2, o3, o4⟩, ⟨hS, -, -⟩, -⟩ := hI.2.2.2.2.1
  have N1 : ∀ x1 : Int32, (n = 0 ∨ (x1 < 0 ∨ nI (1 + n) < x1)) → C G Y_X12_descent d [.ref (G.b + 147), .int x1] M (Ri fun r' M2 => M2.2.2 = M.2.2 ∧ (-1 : Int32) = r' ∧ Inv c M2) := fun x1 hb => m_descentN (by omega) hL g2 hb ⟨rfl, rfl, hI.th⟩
  refine up1 (P := fun e => C G Y_X11_descent e _ M _) (fun e => b_X11_descent (d := e + 10) hL hcc ?_) hd
  rw [g1, show (2 : Int32) = nI 2 from rfl, nI_add]
  refine ⟨fun g => ⟨rfl, N1 x1 (.inr (.inl g))⟩, fun g => ⟨fun h => ?_, fun h => ?_⟩⟩
  · obtain ⟨k, hk, rfl⟩ := nI_of g
    refine ⟨rfl, N1 _ (.inr (.inr ?_))⟩
    rw [nI_leI (by omega) hk] at h
    rw [nI_ltI (by omega) hk]; omega
  · obtain ⟨w, hw, rfl⟩ := an_of (n := 2 + n) (by omega) (fun hh => hh.elim g h)
    by_cases hn0 : n = 0
    · refine up1 (P := fun e => C G Y_X0_find e _ M _) (fun e => b_X0_find (d := e) hL (sh_of hcc) (by decide) ⟨fun h => ?_, fun _ => ⟨rfl, fun h => absurd rfl h, fun _ => ⟨rfl, N1 _ (.inl hn0)⟩⟩⟩) (show 1 ≤ e + 10 by omega)
      rw [g1, hn0] at h
      exact absurd rfl h
    · have ex : ∀ m, m < n → ∃ u v, 1 ≤ u ∧ u ≤ 9 ∧ 1 ≤ v ∧ v ≤ 9 ∧ M.1 (c + 15 + 3 * m) 1 = nI u ∧ M.1 (c + 15 + 3 * m) 2 = nI v ∧ M.1 154 (1 + 16 * m + 0) = nI (u / Nat.gcd u v) ∧ M.1 154 (1 + 16 * m + 1) = nI (v / Nat.gcd u v) := fun m hm => (g4 m hm).1
      have cu : ∀ m, m < n → (M.1 (c + 15 + 3 * m) 1 = nI (M.1 (c + 15 + 3 * m) 1).toNatClampNeg ∧ (M.1 (c + 15 + 3 * m) 1).toNatClampNeg ≤ 9 ∧ M.1 (c + 15 + 3 * m) 2 = nI (M.1 (c + 15 + 3 * m) 2).toNatClampNeg ∧ (M.1 (c + 15 + 3 * m) 2).toNatClampNeg ≤ 9) ∧
          M.1 154 (1 + 16 * m + 0) = nI ((M.1 (c + 15 + 3 * m) 1).toNatClampNeg / Nat.gcd (M.1 (c + 15 + 3 * m) 1).toNatClampNeg (M.1 (c + 15 + 3 * m) 2).toNatClampNeg) ∧ M.1 154 (1 + 16 * m + 1) = nI ((M.1 (c + 15 + 3 * m) 2).toNatClampNeg / Nat.gcd (M.1 (c + 15 + 3 * m) 1).toNatClampNeg (M.1 (c + 15 + 3 * m) 2).toNatClampNeg) := fun m hm => by
        obtain ⟨u, v, u1, u2, v1, v2, e1, e2, e3, e4⟩ := ex m hm
        rw [e1, e2, nI_clamp (by omega), nI_clamp (by omega)]
        exact ⟨⟨rfl, u2, rfl, v2⟩, e3, e4⟩
      have cs : ∀ m, m < n → M.1 (c + 15 + 3 * m) 3 = M.1 154 (1 + 16 * m + 2) ∧ M.1 154 (1 + 16 * m + 2) = nI (M.1 154 (1 + 16 * m + 2)).toNatClampNeg ∧ (M.1 154 (1 + 16 * m + 2)).toNatClampNeg < 256 := fun m hm => by
        obtain ⟨-, s1, ⟨k, -, k2, k3⟩, -⟩ := g4 m hm
        have k3' : M.1 154 (1 + 16 * m + 2) = nI k := k3
        refine ⟨s1, ?_⟩
        rw [k3', nI_clamp (by omega)]
        exact ⟨rfl, by omega⟩
      have ch : ∀ i, i < na → (M.1 (75 + 1) i = M.1 153 (1 + 14 * i + 6) ∧ M.1 153 (1 + 14 * i + 6) = nI (M.1 153 (1 + 14 * i + 6)).toNatClampNeg ∧ (M.1 153 (1 + 14 * i + 6)).toNatClampNeg ≤ 9) ∧ (M.1 (75 + 2) i = M.1 153 (1 + 14 * i + 7) ∧ M.1 153 (1 + 14 * i + 7) = nI (M.1 153 (1 + 14 * i + 7)).toNatClampNeg ∧ (M.1 153 (1 + 14 * i + 7)).toNatClampNeg ≤ 9) := fun i hi => by
        obtain ⟨⟨p1, k, -, k2, k3⟩, ⟨q1, l, -, l2, l3⟩, -⟩ := hS i hi
        have k3' : M.1 153 (1 + 14 * i + 6) = nI k := k3
        have l3' : M.1 153 (1 + 14 * i + 7) = nI l := l3
        refine ⟨⟨p1, ?_⟩, q1, ?_⟩
        · rw [k3', nI_clamp (by omega)]; exact ⟨rfl, k2⟩
        · rw [l3', nI_clamp (by omega)]; exact ⟨rfl, l2⟩
      have hA : AncC M c na n (fun i => (M.1 153 (1 + 14 * i + 6)).toNatClampNeg) (fun i => (M.1 153 (1 + 14 * i + 7)).toNatClampNeg) (fun m => (M.1 (c + 15 + 3 * m) 1).toNatClampNeg) (fun m => (M.1 (c + 15 + 3 * m) 2).toNatClampNeg) (fun m => (M.1 154 (1 + 16 * m + 2)).toNatClampNeg) :=
        ⟨o1, o3, g1, g3, fun i hi => ⟨(ch i hi).1.1.trans (ch i hi).1.2.1, (ch i hi).1.2.2, (ch i hi).2.1.trans (ch i hi).2.2.1, (ch i hi).2.2.2⟩, fun m hm => ⟨(cu m hm).1.1, (cu m hm).1.2.1, (cu m hm).1.2.2.1, (cu m hm).1.2.2.2, (cs m hm).1.trans (cs m hm).2.1, (cs m hm).2.2⟩⟩
      have hR : AncR M na n (fun i => (M.1 153 (1 + 14 * i + 6)).toNatClampNeg) (fun i => (M.1 153 (1 + 14 * i + 7)).toNatClampNeg) (fun m => (M.1 (c + 15 + 3 * m) 1).toNatClampNeg / Nat.gcd (M.1 (c + 15 + 3 * m) 1).toNatClampNeg (M.1 (c + 15 + 3 * m) 2).toNatClampNeg) (fun m => (M.1 (c + 15 + 3 * m) 2).toNatClampNeg / Nat.gcd (M.1 (c + 15 + 3 * m) 1).toNatClampNeg (M.1 (c + 15 + 3 * m) 2).toNatClampNeg) (fun m => (M.1 154 (1 + 16 * m + 2)).toNatClampNeg) :=
        ⟨o2, o3, g2, g3, fun i hi => ⟨(ch i hi).1.2.1, (ch i hi).1.2.2, (ch i hi).2.2.1, (ch i hi).2.2.2⟩, fun m hm => ⟨(cu m hm).2.1, Nat.le_trans (Nat.div_le_self _ _) (cu m hm).1.2.1, (cu m hm).2.2, Nat.le_trans (Nat.div_le_self _ _) (cu m hm).1.2.2.2, (cs m hm).2.1, (cs m hm).2.2⟩⟩
      refine s_ancFind (by omega) hD hL hcc hA hn0 (fun N z hN hz hm => ?_)
      have hm' := hm.iff (fun x => (TT_cd g3).symm)
      rw [canE] at hm'
      have R : ∀ v : Int32, _ → _ → C G Y_X12_descent d [.ref (G.b + 147), .int (nI w)] N (Ri fun r' M2 => M2.2.2 = N.2.2 ∧ v = r' ∧ Inv c M2) := fun v hno hyes => m_descent (Q := fun r' M2 => M2.2.2 = N.2.2 ∧ v = r' ∧ Inv c M2) hd (lay_of hL hN.1) (hR.ess hN) hn0 hw hno hyes
      rcases hm' with ⟨z1, z2⟩ | ⟨⟨y1, y2, y3⟩, z2, z3⟩
      · refine ⟨fun _ => ⟨hN.1, fun g => absurd rfl g, fun _ => ⟨hN.1, R _ (fun _ N' hN' => ⟨hN'.1, rfl, (hI.ess hN).ess hN'⟩) (fun y0 hy0 _ => absurd ⟨y0, hy0, rfl⟩ (z2 _))⟩⟩, fun g => absurd z1 g⟩
      · have fin : ∀ v : Int32, (∀ y0, y0 < 5764801 → y0 / 823543 < 7 → z = keyN n (unS fun m => (M.1 154 (1 + 16 * m + 2)).toNatClampNeg) y0 → v = (if w = 0 then nI (cst (unS fun m => (M.1 154 (1 + 16 * m + 2)).toNatClampNeg) (y0 / 823543) (dg y0) n) else if w = 1 then nI (y0 / 823543) else nI (dg y0 (w - 2)))) → C G Y_X12_descent d [.ref (G.b + 147), .int (nI w)] N (Ri fun r' M2 => M2.2.2 = N.2.2 ∧ v = r' ∧ Inv c M2) := fun v hv =>
          R v (fun hno => absurd y2 (hno y1)) (fun y0 hy0 hmin N' hN' => ⟨hN'.1, hv y0 hy0.1 (by have := hy0.2.1; omega) (Nat.le_antisymm (z3 _ ⟨y0, hy0, rfl⟩) (by rw [y3]; exact hmin y1 y2)), (hI.ess hN).ess hN'⟩)
        have hzl : z < 2 ^ 31 := by omega
        refine ⟨fun g => by omega, fun _ => ⟨hN.1, fun _ => ?_, fun g => (by cases g)⟩⟩
        rw [show (0 : Int32) = nI 0 from rfl, show (1 : Int32) = nI 1 from rfl, nI_eq (by omega) (by omega), nI_eq (by omega) (by omega)]
        refine ⟨fun g0 => ⟨fun g1 => ?_, fun g1 => ?_⟩, fun g0 => ?_⟩
        · rw [pk_sub (by omega)]
          have hw2 : w - 2 < 7 := by omega
          obtain ⟨w1, w2, w3⟩ := digitT_W (w - 2) hw2
          refine up1 (P := fun e => C G Y_X0_parent e _ N _) (fun e => b_X0_parent (d := e) (lay_of hL hN.1) hD.1 hD.2 ⟨fun g => absurd g (nI_pos (by omega)), fun _ => ⟨fun g => absurd g ?_, fun _ => ⟨(inN (by omega) (by omega)).1, ?_⟩⟩⟩) (show 1 ≤ e + 10 by omega)
          · rw [show (7 : Int32) = nI 7 from rfl, nI_leI (by omega) (by omega)]; omega
          · rw [nI_clamp (by omega), w1, hz, pk_div hzl w3 (by omega), show (7 : Int32) = nI 7 from rfl, pk_rem (Nat.lt_of_le_of_lt (Nat.div_le_self _ _) hzl) (by omega) (by omega)]
            refine ⟨nI_ne0 w3 (by omega), rfl, hN.1, fin _ (fun y0 h1 h2 h3 => ?_)⟩
            rw [if_neg g0, if_neg g1, h3]
            unfold keyN dg
            rw [key_d w3 (W7_k (w - 2) hw2)]
        · refine up1 (P := fun e => C G Y_X0_first e _ N _) (fun e => b_X0_first (d := e) (lay_of hL hN.1) ?_) (show 1 ≤ e + 10 by omega)
          rw [hz, show (823543 : Int32) = nI 823543 from rfl, pk_div hzl (by omega) (by omega), show (7 : Int32) = nI 7 from rfl, pk_rem (Nat.lt_of_le_of_lt (Nat.div_le_self _ _) hzl) (by omega) (by omega)]
          refine ⟨rfl, hN.1, fin _ (fun y0 h1 h2 h3 => ?_)⟩
          rw [if_neg g0, if_pos g1, h3]
          unfold keyN
          rw [key_d (w := 823543) (k := 1) (by decide) (by decide), Nat.mod_eq_of_lt h2]
        · refine up1 (P := fun e => C G Y_X0_cost e _ N _) (fun e => b_X0_cost (d := e) (lay_of hL hN.1) ?_) (show 1 ≤ e + 10 by omega)
          rw [hz, show (5764801 : Int32) = nI 5764801 from rfl, pk_div hzl (by omega) (by omega)]
          refine ⟨rfl, hN.1, fin _ (fun y0 h1 h2 h3 => ?_)⟩
          rw [if_pos g0, h3]
          unfold keyN
          rw [key_c h1]
