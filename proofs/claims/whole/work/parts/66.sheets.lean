/-! ===== sheets: the reference's call, and both ===== -/
def cvQ (X Y : Nat → Int) (p r q o : Nat) : Prop := ∃ q', q' < q ∧ o = rb X Y r ((q' % 100 : Nat) : Int) ((q' / 100 : Nat) : Int) p
theorem m_sheets {G : MG} {d : Nat} {Q : Int32 → Mm → Prop} {M : Mm} {c m n p r : Nat} {X Y : Nat → Int} (hd : 3 ≤ d) (hL : Lay c M) (hn : M.1 154 0 = nI n) (hn7 : n ≤ 7) (hm : m < n) (hp6 : p ≤ 6) (hp : M.1 154 (1 + 16 * m + 3) = nI p)
    (hX : ∀ i, i < p → M.1 154 (1 + 16 * m + (4 + 2 * i)) = iI (X i) ∧ 0 ≤ X i ∧ X i ≤ 99) (hY : ∀ i, i < p → M.1 154 (1 + 16 * m + (5 + 2 * i)) = iI (Y i) ∧ 0 ≤ Y i ∧ Y i ≤ 99) (hr : r ≤ 200)
    (h : ∀ S N, S 0 = 0 → (∀ s, s < 2 ^ p → s ≠ 0 → S1R (cvQ X Y p r 10000) S s (2 ^ p) (S s)) → Ess M N → Q (nI (S (2 ^ p - 1))) N) :
    C G Y_X12_sheets d [.ref (G.b + 147), .int (nI m), .int (nI r)] M (Ri Q) := by
  refine up1 (P := fun d => C G Y_X12_sheets d _ M (Ri Q)) (fun e => b_X12_sheets (d := e + 2) hL (fun M1 e1 => ?_)) hd
  obtain ⟨t1, t2⟩ := two_le p hp6
  have key2 : ∀ k q (N : Mm), q + k = 10000 → Ess M N → (∀ o, o < 64 → (cvQ X Y p r q o → N.1 159 o = 1) ∧ (¬ cvQ X Y p r q o → N.1 159 o = 0)) → L_X12_sheets_49 G (e + 2) Q (nI m) (nI r) (nI q) N := by
    intro k
    induction k with
    | zero =>
      intro q N hq hE hC
      have : q = 10000 := by omega
      subst this
      have e154 : N.1 154 = M.1 154 := hE.2.2.2.2.2.2.2.2.1
      refine b_X12_sheets_49 (lay_of hL hE.1) ⟨fun _ => ?_, fun g => absurd (by decide) g⟩
      refine s_mapOf 3 (by omega) (lay_of hL hE.1) (by omega) (by omega) rfl ⟨rfl, ?_⟩
      rw [e154, hp, (sh1 p (by omega)).1, show nI (2 ^ p) - 1 = nI (2 ^ p - 1) by rw [show (1 : Int32) = nI 1 from rfl, pk_sub (by omega)]]
      exact m_table hL hp6 h N hE hC
    | succ k ih =>
      intro q N hq hE hC
      have e154 : N.1 154 = M.1 154 := hE.2.2.2.2.2.2.2.2.1
      have hb := rb_lt X Y r ((q % 100 : Nat) : Int) ((q / 100 : Nat) : Int) p
      refine b_X12_sheets_49 (lay_of hL hE.1) ⟨fun g => absurd g ?_, fun _ => ?_⟩
      · rw [show (10000 : Int32) = nI 10000 from rfl, nI_leI (by omega) (by omega)]; omega
      · rw [show (100 : Int32) = nI 100 from rfl, pk_rem (by omega) (by omega) (by omega), pk_div (by omega) (by omega) (by omega), nI_1]
        refine s_reached (X := X) (Y := Y) (by omega) (lay_of hL hE.1) (by omega) hp6 (by rw [e154]; exact hp) (by rw [e154]; exact hX) (by rw [e154]; exact hY) hr (by omega) (by omega) ⟨rfl, (inN (by omega) (by omega)).1, fun M6 e6 => ?_⟩
        subst e6
        rw [nI_clamp (by omega)]
        refine ih (q + 1) _ (by omega) (hE.tr (ess_sI (by omega))) (fun o ho => ?_)
        by_cases e1 : o = rb X Y r ((q % 100 : Nat) : Int) ((q / 100 : Nat) : Int) p
        · refine ⟨fun _ => by rw [rd_sI, if_pos ⟨rfl, e1⟩]; rfl, fun hn => absurd ⟨q, by omega, e1⟩ hn⟩
        · rw [rd_sI, if_neg (fun h => e1 h.2)]
          refine ⟨fun hc => (hC o ho).1 ?_, fun hc => (hC o ho).2 (fun ⟨q', h1, h2⟩ => hc ⟨q', by omega, h2⟩)⟩
          obtain ⟨q', h1, h2⟩ := hc
          by_cases e2 : q' = q
          · subst e2; exact absurd h2 e1
          · exact ⟨q', by omega, h2⟩
  have key1 : ∀ k s (N : Mm), s + k = 64 → Ess M N → (∀ o, o < s → N.1 159 o = 0) → L_X12_sheets_28 G (e + 2) Q (nI m) (nI r) (nI s) N := by
    intro k
    induction k with
    | zero =>
      intro s N hs hE hC
      have : s = 64 := by omega
      subst this
      refine b_X12_sheets_28 (lay_of hL hE.1) ⟨fun _ => key2 10000 0 N (by omega) hE (fun o ho => ⟨fun ⟨q', h1, _⟩ => by omega, fun _ => hC o ho⟩), fun g => absurd (by decide) g⟩
    | succ k ih =>
      intro s N hs hE hC
      refine b_X12_sheets_28 (lay_of hL hE.1) ⟨fun g => absurd g ?_, fun _ => ⟨(inN (by omega) (by omega)).1, fun M2 e2 => ?_⟩⟩
      · rw [show (64 : Int32) = nI 64 from rfl, nI_leI (by omega) (by omega)]; omega
      · subst e2
        rw [nI_clamp (by omega), nI_1]
        refine ih (s + 1) _ (by omega) (hE.tr (ess_sI (by omega))) (fun o ho => ?_)
        by_cases e1 : o = s
        · rw [rd_sI, if_pos ⟨rfl, e1⟩]; rfl
        · rw [rd_sI, if_neg (fun h => e1 h.2)]; exact hC o (by omega)
  subst e1
  refine s_isMap (by omega) (lay_sI hL) ⟨rfl, fun g => ?_, fun _ => ?_⟩
  · have := if01 g
    rw [show (sI M 147 0 0).1 154 0 = nI n from hn] at this
    exact noB hm hn7 this
  · refine s_within (by omega) (lay_sI hL) ⟨rfl, fun _ => key1 64 0 _ (by omega) (ess_sI (by omega)) (fun o ho => by omega), fun g => ?_⟩
    rcases if01 g with g | g
    · exact absurd g (nI_pos (by omega))
    · rw [show (200 : Int32) = nI 200 from rfl, nI_ltI (by omega) (by omega)] at g; omega
/-- where both say -1 -/
theorem m_sheetsN {G : MG} {d : Nat} {Q : Int32 → Mm → Prop} {M : Mm} {c n : Nat} {x1 x2 : Int32} (hd : 2 ≤ d) (hL : Lay c M) (hn : M.1 154 0 = nI n) (hb : (x1 < 0 ∨ nI n ≤ x1) ∨ (x2 < 0 ∨ 200 < x2)) (h : Q (-1) (sI M 147 0 0)) :
    C G Y_X12_sheets d [.ref (G.b + 147), .int x1, .int x2] M (Ri Q) := by
  refine up1 (P := fun d => C G Y_X12_sheets d _ M (Ri Q)) (fun e => b_X12_sheets (d := e + 1) hL (fun M1 e1 => ?_)) hd
  subst e1
  refine s_isMap (by omega) (lay_sI hL) ⟨rfl, fun _ => h, fun g => ?_⟩
  have g1 := if02 g
  rw [show (sI M 147 0 0).1 154 0 = nI n from hn] at g1
  refine s_within (by omega) (lay_sI hL) ⟨rfl, fun g2 => ?_, fun _ => h⟩
  rcases hb with hb | hb
  · exact absurd hb g1
  · exact absurd hb (if02 g2)
theorem S_le {X Y : Nat → Int} {p r : Nat} {S : Nat → Nat} (hX : ∀ i, i < p → 0 ≤ X i ∧ X i ≤ 99) (hY : ∀ i, i < p → 0 ≤ Y i ∧ Y i ≤ 99) (S0 : S 0 = 0)
    (hS : ∀ s, s < 2 ^ p → s ≠ 0 → S1R (cvQ X Y p r 10000) S s (2 ^ p) (S s)) : ∀ k, k ≤ p → ∀ s, s < 2 ^ k → S s ≤ k := by
  intro k
  induction k with
  | zero => intro _ s hs; have : s = 0 := by omega
            subst this; omega
  | succ k ih =>
    intro hk s hs
    by_cases hb : s.testBit k = true
    · have hsp : s < 2 ^ p := Nat.lt_of_lt_of_le hs (Nat.pow_le_pow_right (by omega) hk)
      have hs0 : s ≠ 0 := fun h0 => by rw [h0, Nat.zero_testBit] at hb; cases hb
      obtain ⟨x1, x2⟩ := hX k (by omega)
      obtain ⟨y1, y2⟩ := hY k (by omega)
      have ex : (((X k + 100 * Y k).toNat % 100 : Nat) : Int) = X k := by omega
      have ey : (((X k + 100 * Y k).toNat / 100 : Nat) : Int) = Y k := by omega
      have hrb : (rb X Y r (X k) (Y k) p).testBit k = true := (rb_bit X Y r (X k) (Y k) p k).mpr ⟨by omega, by omega⟩
      have hcov : cvQ X Y p r 10000 (rb X Y r (X k) (Y k) p) := ⟨(X k + 100 * Y k).toNat, by omega, by rw [ex, ey]⟩
      have hand : s &&& rb X Y r (X k) (Y k) p ≠ 0 := fun h0 => by
        have := congrArg (fun z => Nat.testBit z k) h0
        simp only [Nat.testBit_and, hb, hrb, Nat.zero_testBit] at this
        cases this
      have hle := (hS s hsp hs0).1 _ (rb_lt X Y r (X k) (Y k) p) hcov hand
      have hlt : dif s (rb X Y r (X k) (Y k) p) < 2 ^ k := by
        refine Nat.lt_pow_two_of_testBit _ (fun i hi => ?_)
        rw [dif_bit]
        by_cases e : i = k
        · subst e; rw [hrb]; simp
        · have : s.testBit i = false := Nat.testBit_lt_two_pow (Nat.lt_of_lt_of_le hs (Nat.pow_le_pow_right (by omega) (by omega)))
          rw [this]; rfl
      have := ih (by omega) _ hlt
      omega
    · have : s < 2 ^ k := by
        refine Nat.lt_pow_two_of_testBit _ (fun i hi => ?_)
        by_cases e : i = k
        · subst e; simpa using hb
        · exact Nat.testBit_lt_two_pow (Nat.lt_of_lt_of_le hs (Nat.pow_le_pow_right (by omega) (by omega)))
      have := ih (by omega) s this
      omega
theorem RP_cov {X Y : Nat → Int} {p r s : Nat} (hs : s < 2 ^ p) : RP X Y p r s ↔ ∃ o, cvQ X Y p r 10000 o ∧ s &&& o = s := by
  constructor
  · rintro ⟨x, y, hx, hy, h⟩
    have ex : (((x + 100 * y).toNat % 100 : Nat) : Int) = x := by omega
    have ey : (((x + 100 * y).toNat / 100 : Nat) : Int) = y := by omega
    refine ⟨_, ⟨(x + 100 * y).toNat, by omega, rfl⟩, sub_iff.mpr (fun i hi => ?_)⟩
    rw [ex, ey]
    have hip : i < p := Classical.byContradiction fun hn => by
      have : s.testBit i = false := Nat.testBit_lt_two_pow (Nat.lt_of_lt_of_le hs (Nat.pow_le_pow_right (by omega) (by omega)))
      rw [this] at hi; cases hi
    exact (rb_bit X Y r x y p i).mpr ⟨hip, h i ⟨hip, hi⟩⟩
  · rintro ⟨o, ⟨q, hq, rfl⟩, h⟩
    refine ⟨((q % 100 : Nat) : Int), ((q / 100 : Nat) : Int), by omega, by omega, fun i hi => ?_⟩
    exact ((rb_bit X Y r _ _ p i).mp (sub_iff.mp h i hi.2)).2
theorem c_sheets {G : MG} {d : Nat} {M : Mm} {c : Nat} {x1 x2 : Int32} (hd : 3 ≤ d) (hI : Inv c M) : Two G d c Y_X11_sheets [.ref (G.b + 0), .int x1, .int x2] Y_X12_sheets [.ref (G.b + 147), .int x1, .int x2] M := by
  have hL := hI.lay
  obtain ⟨n, g1, g2, g3, g4⟩ := hI.2.2.2.1
  have hcc := hI.cc
  refine up1 (P := fun e => C G Y_X11_sheets e _ M _) (fun e => b_X11_sheets (d := e + 2) hL hcc ?_) hd
  refine s_hasChart (by omega) hL hcc ⟨rfl, fun h => ?_, fun h => ?_⟩
  · rw [g1] at h
    exact ⟨rfl, m_sheetsN (by omega) hL g2 (.inl (if01 h)) ⟨rfl, rfl, hI.th⟩⟩
  · rw [g1] at h
    obtain ⟨m, hm, rfl⟩ := an_of (by omega) (if02 h)
    refine s_isWithin (by omega) hL ⟨rfl, fun h2 => ?_, fun h2 => ⟨rfl, m_sheetsN (by omega) hL g2 (.inr (if01 h2)) ⟨rfl, rfl, hI.th⟩⟩⟩
    obtain ⟨r, hr, rfl⟩ := wn_of (n := 200) (by omega) rfl (if02 h2)
    refine ⟨(inN (by omega) (by omega)).1, ?_⟩
    rw [nI_clamp (show m < 2 ^ 31 by omega), show c + 2 + 13 + 3 * m = c + 15 + 3 * m by omega]
    obtain ⟨-, -, -, r3, p, p1, p2, p3, p4⟩ := g4 m hm
    have bb : ∀ {v : Int32}, bn v 0 99 → v = iI v.toInt ∧ 0 ≤ v.toInt ∧ v.toInt ≤ 99 := by
      rintro v ⟨k, -, hk, rfl⟩
      rw [nI_toInt (by omega)]
      exact ⟨iI_nI k, by omega, by omega⟩
    have hX : ∀ i, i < p → M.1 154 (1 + 16 * m + (4 + 2 * i)) = iI (M.1 154 (1 + 16 * m + (4 + 2 * i))).toInt ∧ 0 ≤ (M.1 154 (1 + 16 * m + (4 + 2 * i))).toInt ∧ (M.1 154 (1 + 16 * m + (4 + 2 * i))).toInt ≤ 99 := fun i hi => bb (p4 i hi).1.2
    have hY : ∀ i, i < p → M.1 154 (1 + 16 * m + (5 + 2 * i)) = iI (M.1 154 (1 + 16 * m + (5 + 2 * i))).toInt ∧ 0 ≤ (M.1 154 (1 + 16 * m + (5 + 2 * i))).toInt ∧ (M.1 154 (1 + 16 * m + (5 + 2 * i))).toInt ≤ 99 := fun i hi => bb (p4 i hi).2.2
    refine s_fewestPins (p := p) (X := fun i => (M.1 154 (1 + 16 * m + (4 + 2 * i))).toInt) (Y := fun i => (M.1 154 (1 + 16 * m + (5 + 2 * i))).toInt) (by omega) hL (sh_cht hcc (by omega)) (by omega) p2 (r3.trans p3) (fun i hi => ⟨(p4 i hi).1.1.trans (hX i hi).1, (hX i hi).2⟩) (fun i hi => ⟨(p4 i hi).2.1.trans (hY i hi).1, (hY i hi).2⟩) hr (fun F N F0 hF hN => ⟨hN.1, hN.1, ?_⟩)
    have e154 : N.1 154 = M.1 154 := hN.2.2.2.2.2.2.2.2.1
    refine m_sheets (n := n) (p := p) (X := fun i => (M.1 154 (1 + 16 * m + (4 + 2 * i))).toInt) (Y := fun i => (M.1 154 (1 + 16 * m + (5 + 2 * i))).toInt) hd (lay_of hL hN.1) (by rw [e154]; exact g2) g3 hm p2 (by rw [e154]; exact p3) (by rw [e154]; exact hX) (by rw [e154]; exact hY) hr (fun S N' S0 hS hN' => ⟨hN'.1, ?_, (hI.ess hN).ess hN'⟩)
    obtain ⟨t1, t2⟩ := two_le p p2
    have hle := S_le (fun i hi => (hX i hi).2) (fun i hi => (hY i hi).2) S0 hS p (Nat.le_refl p)
    refine congrArg nI (dp_eq (L := 2 ^ p) (FAR := 100000000) (fun s hs _ => RP_cov hs) F0 S0 hF (fun s hs h0 => ⟨fun o ho hn => (hS s hs h0).1 o ?_ ho hn, (hS s hs h0).2.2⟩) (by omega) (fun s hs => Nat.le_trans (hle s hs) p2) _ (by omega))
    obtain ⟨q, hq, rfl⟩ := ho
    exact rb_lt _ _ _ _ _ _
