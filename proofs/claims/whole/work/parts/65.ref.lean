/-! ===== sheets: the reference's table ===== -/
/-- what one pin reaches -/
def rb (X Y : Nat → Int) (r : Nat) (x y : Int) : Nat → Nat
  | 0 => 0
  | i + 1 => if ((X i - x).natAbs + (Y i - y).natAbs : Int) ≤ r then rb X Y r x y i ||| 2 ^ i else rb X Y r x y i
theorem rb_bit (X Y : Nat → Int) (r : Nat) (x y : Int) : ∀ n j, (rb X Y r x y n).testBit j = true ↔ j < n ∧ ((X j - x).natAbs + (Y j - y).natAbs : Int) ≤ r := by
  intro n
  induction n with
  | zero => intro j; rw [show rb X Y r x y 0 = 0 from rfl, Nat.zero_testBit]; simp
  | succ n ih =>
    intro j
    rw [show rb X Y r x y (n + 1) = (if ((X n - x).natAbs + (Y n - y).natAbs : Int) ≤ r then rb X Y r x y n ||| 2 ^ n else rb X Y r x y n) from rfl]
    by_cases h : ((X n - x).natAbs + (Y n - y).natAbs : Int) ≤ r
    · rw [if_pos h, Nat.testBit_or, Bool.or_eq_true, ih j, Nat.testBit_two_pow]
      constructor
      · rintro (⟨h1, h2⟩ | h1)
        · exact ⟨by omega, h2⟩
        · have : n = j := by simpa using h1
          subst this
          exact ⟨by omega, h⟩
      · rintro ⟨h1, h2⟩
        by_cases e : j = n
        · exact .inr (by simp [e])
        · exact .inl ⟨by omega, h2⟩
    · rw [if_neg h, ih j]
      constructor
      · rintro ⟨h1, h2⟩; exact ⟨by omega, h2⟩
      · rintro ⟨h1, h2⟩
        refine ⟨?_, h2⟩
        by_cases e : j = n
        · subst e; exact absurd h2 h
        · omega
theorem rb_lt (X Y : Nat → Int) (r : Nat) (x y : Int) (n : Nat) : rb X Y r x y n < 2 ^ n := by
  refine Nat.lt_pow_two_of_testBit _ (fun i hi => ?_)
  by_cases h : (rb X Y r x y n).testBit i = true
  · have := ((rb_bit X Y r x y n i).mp h).1; omega
  · simpa using h
theorem abs_iI : ∀ n : Nat, n < 200 → abS (iI ((n : Int) - 100)).toInt64 = lN ((n : Int) - 100).natAbs := by decide +kernel
theorem orI : ∀ b, b < 64 → ∀ i, i < 6 → nI b ||| (1 <<< (nI i &&& 31)) = nI (b ||| 2 ^ i) ∧ nI b ||| 0 = nI b := by decide +kernel
theorem two_le : ∀ n, n ≤ 6 → 1 ≤ 2 ^ n ∧ 2 ^ n ≤ 64 := by decide +kernel
theorem s_reached {G : MG} {d : Nat} {Q : Int32 → Mm → Prop} {M : Mm} {c m p r x y : Nat} {X Y : Nat → Int} (hd : 2 ≤ d) (hL : Lay c M) (hm : m < 7) (hp6 : p ≤ 6) (hp : M.1 154 (1 + 16 * m + 3) = nI p)
    (hX : ∀ i, i < p → M.1 154 (1 + 16 * m + (4 + 2 * i)) = iI (X i) ∧ 0 ≤ X i ∧ X i ≤ 99) (hY : ∀ i, i < p → M.1 154 (1 + 16 * m + (5 + 2 * i)) = iI (Y i) ∧ 0 ≤ Y i ∧ Y i ≤ 99) (hr : r ≤ 200) (hx : x < 100) (hy : y < 100)
    (h : Q (nI (rb X Y r x y p)) M) : C G Y_X12_reached d [.ref (G.b + 147), .int (nI m), .int (nI r), .int (nI x), .int (nI y)] M (Ri Q) := by
  refine up1 (P := fun d => C G Y_X12_reached d _ M (Ri Q)) (fun e => b_X12_reached (d := e + 1) hL ?_) hd
  have key : ∀ k i, i + k = p → L_X12_reached_6 G (e + 1) Q (nI m) (nI r) (nI x) (nI y) (nI (rb X Y r x y i)) (nI i) M := by
    intro k
    induction k with
    | zero =>
      intro i hi
      have : i = p := by omega
      subst this
      refine b_X12_reached_6 hL (s_mapOf 3 (by omega) hL hm (by omega) rfl ⟨rfl, fun _ => h, fun g => absurd ?_ g⟩)
      rw [hp, nI_leI (by omega) (by omega)]; omega
    | succ k ih =>
      intro i hi
      have hb := rb_lt X Y r x y i
      have h2 := two_le i (by omega)
      obtain ⟨o1, o2⟩ := orI (rb X Y r x y i) (by omega) i (by omega)
      obtain ⟨x1, x2, x3⟩ := hX i (by omega)
      obtain ⟨y1, y2, y3⟩ := hY i (by omega)
      have ax : abS ((iI (X i) - nI x).toInt64) = lN (X i - x).natAbs := by
        rw [iI_nI, iI_sub]
        have := abs_iI (X i - x + 100).toNat (by omega)
        rwa [show (((X i - x + 100).toNat : Nat) : Int) - 100 = X i - x by omega] at this
      have ay : abS ((iI (Y i) - nI y).toInt64) = lN (Y i - y).natAbs := by
        rw [iI_nI, iI_sub]
        have := abs_iI (Y i - y + 100).toNat (by omega)
        rwa [show (((Y i - y + 100).toNat : Nat) : Int) - 100 = Y i - y by omega] at this
      refine b_X12_reached_6 hL (s_mapOf 3 (by omega) hL hm (by omega) rfl ⟨rfl, fun g => absurd g ?_, fun _ => ?_⟩)
      · rw [hp, nI_leI (by omega) (by omega)]; omega
      · refine s_mapOf (4 + 2 * i) (by omega) hL hm (by omega) (by rw [show (2 : Int32) = nI 2 from rfl, show (4 : Int32) = nI 4 from rfl, pk_mul, nI_add]) ⟨rfl, ?_⟩
        refine s_lengthOf (by omega) hL ⟨rfl, ?_⟩
        refine s_mapOf (5 + 2 * i) (by omega) hL hm (by omega) (by rw [show (2 : Int32) = nI 2 from rfl, show (5 : Int32) = nI 5 from rfl, pk_mul, nI_add]) ⟨rfl, ?_⟩
        refine s_lengthOf (by omega) hL ⟨rfl, ?_⟩
        rw [x1, y1, ax, ay, nI_l (by omega), lN_add, lN_lt (by omega) (by omega), o1, o2, nI_1]
        have ih' := ih (i + 1) (by omega)
        rw [show rb X Y r x y (i + 1) = (if ((X i - x).natAbs + (Y i - y).natAbs : Int) ≤ r then rb X Y r x y i ||| 2 ^ i else rb X Y r x y i) from rfl] at ih'
        refine ⟨fun g => ?_, fun g => ?_⟩
        · rwa [if_neg (by omega)] at ih'
        · rwa [if_pos (by omega)] at ih'
  exact key p 0 (by omega)
/-- one row of the reference's table -/
def S1R (cov : Nat → Prop) (S : Nat → Nat) (s b v : Nat) : Prop :=
  (∀ o, o < b → cov o → s &&& o ≠ 0 → v ≤ 1 + S (dif s o)) ∧ v ≤ 100000000 ∧ (v = 100000000 ∨ ∃ o, cov o ∧ s &&& o ≠ 0 ∧ v = 1 + S (dif s o))
theorem S1R.cong {cov : Nat → Prop} {S S' : Nat → Nat} {s b v : Nat} (h : S1R cov S s b v) (e : ∀ t, t < s → S' t = S t) : S1R cov S' s b v := by
  obtain ⟨a1, a2, a3⟩ := h
  refine ⟨fun o h0 ho hn => ?_, a2, ?_⟩
  · rw [e _ (dif_lt hn)]; exact a1 o h0 ho hn
  · rcases a3 with c | ⟨o, ho, hn, hv⟩
    · exact .inl c
    · refine .inr ⟨o, ho, hn, ?_⟩
      rw [e _ (dif_lt hn)]; exact hv
theorem and_nI : ∀ s, s < 64 → ∀ t, t < 64 → (nI s &&& nI t = 0 ↔ s &&& t = 0) := by decide +kernel
theorem m_table {G : MG} {e : Nat} {Q : Int32 → Mm → Prop} {M : Mm} {c p : Nat} {cov : Nat → Prop} (hL : Lay c M) (hp6 : p ≤ 6)
    (h : ∀ S N, S 0 = 0 → (∀ s, s < 2 ^ p → s ≠ 0 → S1R cov S s (2 ^ p) (S s)) → Ess M N → Q (nI (S (2 ^ p - 1))) N) (N : Mm) (hE : Ess M N) (hC : ∀ o, o < 64 → (cov o → N.1 159 o = 1) ∧ (¬ cov o → N.1 159 o = 0)) :
    L_X12_sheets_96 G e Q (nI (2 ^ p - 1)) (nI 0) N := by
  obtain ⟨t1, t2⟩ := two_le p hp6
  have es : ∀ N k v, Ess M N → ∀ j, Ess M (sI N (160 + 0 * k) j v) := fun N k v hE j => hE.tr (ess_sI (by omega))
  have key : ∀ m s (N : Mm) S, s + m = 2 ^ p → Ess M N → (∀ o, o < 64 → (cov o → N.1 159 o = 1) ∧ (¬ cov o → N.1 159 o = 0)) → (0 < s → S 0 = 0) →
      (∀ t, t < s → N.1 160 t = nI (S t) ∧ S t ≤ 100000000) → (∀ t, t < s → t ≠ 0 → S1R cov S t (2 ^ p) (S t)) → L_X12_sheets_96 G e Q (nI (2 ^ p - 1)) (nI s) N := by
    intro m
    induction m with
    | zero =>
      intro s N S hi hE hC S0 hS hR
      have hs : s = 2 ^ p := by omega
      subst hs
      refine b_X12_sheets_96 (lay_of hL hE.1) ⟨fun _ => ⟨(inN (by omega) (by omega)).1, ?_⟩, fun g => absurd ?_ g⟩
      · rw [nI_clamp (by omega), (hS _ (by omega)).1]
        exact h S N (S0 (by omega)) hR hE
      · rw [nI_ltI (by omega) (by omega)]; omega
    | succ m ih =>
      intro s N S hi hE hC S0 hS hR
      have inner : ∀ k o (N : Mm) v, o + k = 2 ^ p → 1 ≤ o → Ess M N → (∀ o, o < 64 → (cov o → N.1 159 o = 1) ∧ (¬ cov o → N.1 159 o = 0)) → (∀ t, t < s → N.1 160 t = nI (S t)) → N.1 160 s = nI v →
          (s = 0 → v = 0) → v ≤ 100000000 → (s ≠ 0 → S1R cov S s o v) → L_X12_sheets_124 G e Q (nI (2 ^ p - 1)) (nI s) (nI o) N := by
        intro k
        induction k with
        | zero =>
          intro o N v ho h1 hE hC hS' hv hv0 hvF hvR
          have : o = 2 ^ p := by omega
          subst this
          refine b_X12_sheets_124 (lay_of hL hE.1) ⟨fun _ => ?_, fun g => absurd ?_ g⟩
          · rw [nI_1]
            refine ih (s + 1) N (fun t => if t = s then v else S t) (by omega) hE hC (fun _ => ?_) (fun t ht => ?_) (fun t ht h0 => ?_)
            · show (if 0 = s then v else S 0) = 0
              by_cases e0 : 0 = s
              · rw [if_pos e0]; exact hv0 e0.symm
              · rw [if_neg e0]; exact S0 (by omega)
            · show N.1 160 t = nI (if t = s then v else S t) ∧ (if t = s then v else S t) ≤ 100000000
              by_cases e1 : t = s
              · subst e1; rw [if_pos rfl]; exact ⟨hv, hvF⟩
              · rw [if_neg e1]; exact ⟨hS' t (by omega), (hS t (by omega)).2⟩
            · show S1R _ _ t _ (if t = s then v else S t)
              by_cases e1 : t = s
              · subst e1
                rw [if_pos rfl]
                exact (hvR h0).cong (fun t' ht' => if_neg (by omega))
              · rw [if_neg e1]
                exact (hR t (by omega) h0).cong (fun t' ht' => if_neg (by omega))
          · rw [nI_ltI (by omega) (by omega)]; omega
        | succ k ihk =>
          intro o N v ho h1 hE hC hS' hv hv0 hvF hvR
          have hLN := lay_of hL hE.1
          have st : ∀ w, w = v ∨ w ≤ v → (s = 0 → w = 0) → (s ≠ 0 → S1R cov S s (o + 1) w) → L_X12_sheets_124 G e Q (nI (2 ^ p - 1)) (nI s) (nI (o + 1)) (sI N 160 s (nI w)) := by
            intro w hw w0 wR
            refine ihk (o + 1) _ w (by omega) (by omega) (hE.tr (ess_sI (by omega))) (fun o ho => ?_) (fun t ht => ?_) ?_ w0 (by omega) wR
            · rw [rd_sI, if_neg (by omega)]; exact hC o ho
            · rw [rd_sI, if_neg (by omega)]; exact hS' t ht
            · rw [rd_sI, if_pos ⟨rfl, rfl⟩]
          have stay : (s ≠ 0 → S1R cov S s (o + 1) v) → ∀ sx, v ≤ sx → sx < 2 ^ 31 → L_X12_sheets_168 G e Q (nI (2 ^ p - 1)) (nI s) (nI o) (nI sx) N := by
            intro hR' sx h1' h2'
            refine b_X12_sheets_168 hLN ⟨(inN (by omega) (by omega)).1, fun _ => ⟨(inN (by omega) (by omega)).1, (inN (by omega) (by omega)).1, fun M2 e2 => ?_⟩, fun g => absurd ?_ g⟩
            · subst e2
              rw [nI_clamp (by omega), hv, nI_1]
              exact st v (.inl rfl) hv0 hR'
            · rw [nI_clamp (by omega), hv, nI_leI (by omega) (by omega)]; exact h1'
          refine b_X12_sheets_124 hLN ⟨fun g => absurd g ?_, fun _ => ⟨(inN (by omega) (by omega)).1, fun g => ?_, fun g => ⟨fun g2 => ?_, fun g2 => ?_⟩⟩⟩
          · rw [nI_ltI (by omega) (by omega)]; omega
          · rw [nI_clamp (by omega)] at g
            refine stay (fun h0 => ⟨fun o' h1' h2' h3' => ?_, hvF, (hvR h0).2.2⟩) 100000000 hvF (by omega)
            by_cases e1 : o' = o
            · subst e1
              rw [(hC o' (by omega)).1 h2'] at g; cases g
            · exact (hvR h0).1 o' (by omega) h2' h3'
          · rw [and_nI s (by omega) o (by omega)] at g2
            refine stay (fun h0 => ⟨fun o' h1' h2' h3' => ?_, hvF, (hvR h0).2.2⟩) 100000000 hvF (by omega)
            by_cases e1 : o' = o
            · subst e1; exact absurd g2 h3'
            · exact (hvR h0).1 o' (by omega) h2' h3'
          · rw [and_nI s (by omega) o (by omega)] at g2
            rw [nI_clamp (by omega)] at g
            have hcov : cov o := Classical.byContradiction fun hn => g ((hC o (by omega)).2 hn)
            have hs0 : s ≠ 0 := fun h0 => g2 (by rw [h0, Nat.zero_and])
            have hlt := dif_lt g2
            have hb := (hS _ hlt).2
            rw [msk2 s (by omega) o (by omega)]
            refine ⟨(inN (by omega) (by omega)).1, ?_⟩
            rw [nI_clamp (by omega), hS' _ hlt, show (1 : Int32) = nI 1 from rfl, nI_add]
            by_cases hle : v ≤ 1 + S (dif s o)
            · refine stay (fun h0 => ⟨fun o' h1' h2' h3' => ?_, hvF, (hvR h0).2.2⟩) _ hle (by omega)
              by_cases e1 : o' = o
              · subst e1; exact hle
              · exact (hvR h0).1 o' (by omega) h2' h3'
            · refine b_X12_sheets_168 hLN ⟨(inN (by omega) (by omega)).1, fun g => absurd g ?_, fun _ => ⟨(inN (by omega) (by omega)).1, fun M3 e3 => ?_⟩⟩
              · rw [nI_clamp (by omega), hv, nI_leI (by omega) (by omega)]; exact hle
              · subst e3
                rw [nI_clamp (by omega), nI_1]
                refine st _ (.inr (by omega)) (fun h0 => absurd h0 hs0) (fun h0 => ⟨fun o' h1' h2' h3' => ?_, by omega, .inr ⟨o, hcov, g2, rfl⟩⟩)
                by_cases e1 : o' = o
                · subst e1; exact Nat.le_refl _
                · have := (hvR h0).1 o' (by omega) h2' h3'; omega
      have go : ∀ v, v ≤ 100000000 → (s = 0 → v = 0) → (s ≠ 0 → v = 100000000) → L_X12_sheets_124 G e Q (nI (2 ^ p - 1)) (nI s) (nI 1) (sI N 160 s (nI v)) := by
        intro v hv v0 v1
        refine inner (2 ^ p - 1) 1 _ v (by omega) (by omega) (hE.tr (ess_sI (by omega))) (fun o ho => ?_) (fun t ht => ?_) ?_ v0 hv (fun h0 => ⟨fun o' h1' h2' h3' => ?_, hv, .inl (v1 h0)⟩)
        · rw [rd_sI, if_neg (by omega)]; exact hC o ho
        · rw [rd_sI, if_neg (by omega)]; exact (hS t ht).1
        · rw [rd_sI, if_pos ⟨rfl, rfl⟩]
        · have : o' = 0 := by omega
          subst this
          exact absurd (Nat.and_zero s) h3'
      refine b_X12_sheets_96 (lay_of hL hE.1) ⟨fun g => absurd g ?_, fun _ => ⟨fun g => ⟨(inN (by omega) (by omega)).1, fun M3 e3 => ?_⟩, fun g => ⟨(inN (by omega) (by omega)).1, fun M3 e3 => ?_⟩⟩⟩
      · rw [nI_ltI (by omega) (by omega)]; omega
      · subst e3
        rw [nI_clamp (by omega)]
        refine go 100000000 (by omega) (fun h0 => absurd (by rw [h0]; rfl) g) (fun _ => rfl)
      · subst e3
        rw [nI_clamp (by omega)]
        refine go 0 (by omega) (fun _ => rfl) (fun h0 => ?_)
        rw [show (0 : Int32) = nI 0 from rfl, nI_eq (by omega) (by omega)] at g
        exact absurd g h0
  exact key (2 ^ p) 0 N (fun _ => 0) (by omega) hE hC (fun h => by omega) (fun t ht => by omega) (fun t ht => by omega)
