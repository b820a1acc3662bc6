/-! ===== office: the component's tape ===== -/
theorem inM {j N : Nat} (h : j < N) (hN : N < 2000) : vp_in (nI j) N := vp_in_nI h (by omega)
/-- nothing but the tape's own marks has changed -/
def FT (N N' : Mm) : Prop := N'.2.2 = N.2.2 ∧ (∀ o, o ≠ 1 → N'.1 o = N.1 o) ∧ N'.1 1 0 = N.1 1 0 ∧ ∀ o, o ≠ 1 → N'.2.1 o = N.2.1 o
theorem FT.rf (N : Mm) : FT N N := ⟨rfl, fun _ _ => rfl, rfl, fun _ _ => rfl⟩
theorem FT.tr {N N' P : Mm} (h : FT N N') (k : FT N' P) : FT N P := ⟨k.1.trans h.1, fun o ho => (k.2.1 o ho).trans (h.2.1 o ho), k.2.2.1.trans h.2.2.1, fun o ho => (k.2.2.2 o ho).trans (h.2.2.2 o ho)⟩
theorem FT.si {N : Mm} {k : Nat} {v : Int32} (h : k ≠ 0) : FT N (sI N 1 k v) := ⟨rfl, fun o ho => sI_ne ho, by rw [rd_sI, if_neg (fun g => h g.2.symm)], fun _ _ => rfl⟩
theorem FT.sj {N : Mm} {k : Nat} {v : Int64} : FT N (sJ N 1 k v) := ⟨rfl, fun _ _ => rfl, rfl, fun o ho => sJ_ne ho⟩
theorem rd_sJ' {M : Mm} {o k a b : Nat} {v : Int64} : (sJ M o k v).2.1 a b = if a = o ∧ b = k then v else M.2.1 a b := by
  by_cases h : a = o
  · subst h
    rw [sJ_at]
    by_cases hb : b = k
    · subst hb
      rw [pk_uLs, if_pos ⟨rfl, rfl⟩]
    · rw [pk_uLn hb, if_neg (fun h => hb h.2)]
  · rw [sJ_ne h, if_neg (fun k => h k.1)]
def TpX (T : Nat → Nat) (n : Nat) (N : Mm) : Prop := N.1 1 0 = nI n ∧ n ≤ 1000 ∧ ∀ i, i < n → N.1 2 i = nI (T i) ∧ 10 ≤ T i ∧ T i ≤ 126
theorem TpX.fr {T : Nat → Nat} {n : Nat} {N N' : Mm} (h : TpX T n N) (k : FT N N') : TpX T n N' := by
  unfold TpX
  rw [k.2.2.1, k.2.1 2 (by omega)]
  exact h
/-- the tape stands at the token that begins at b -/
def XT (T : Nat → Nat) (n : Nat) (N : Mm) (b : Nat) : Prop :=
  N.1 1 2 = nI (plF T n b) ∧ N.1 1 3 = nI (enF T n b) ∧ N.1 1 4 = nI (soF T n b) ∧ (soF T n b = 1 → N.2.1 1 5 = lN (wdF 32 T n b)) ∧ (soF T n b = 2 → N.2.1 1 5 = lN (nvF T n b)) ∧ (soF T n b = 3 → N.2.1 1 5 = lN (T (plF T n b)))
theorem s_isLetterX {G : MG} {d : Nat} {Q : Int32 → Mm → Prop} {M : Mm} {c x : Nat} (hd : 1 ≤ d) (hL : Lay c M) (hx : x ≤ 126) (h1 : ltB x = true → Q 1 M) (h0 : ltB x = false → Q 0 M) : C G Y_X10_isLetter d [.int (nI x)] M (Ri Q) := by
  refine up1 (P := fun d => C G Y_X10_isLetter d _ M (Ri Q)) (fun e => b_X10_isLetter (d := e) hL ?_) hd
  rw [show (97 : Int32) = nI 97 from rfl, show (122 : Int32) = nI 122 from rfl, nI_ltI (by omega) (by omega), nI_ltI (by omega) (by omega)]
  have e := ltB_iff x
  cases hb : ltB x
  · rw [hb] at e
    have hn : ¬ (97 ≤ x ∧ x ≤ 122) := fun h => (by cases e.mpr h)
    exact ⟨fun _ => h0 hb, fun g => ⟨fun _ => h0 hb, fun g2 => absurd ⟨by omega, by omega⟩ hn⟩⟩
  · have := e.mp hb
    exact ⟨fun g => by omega, fun _ => ⟨fun g => by omega, fun _ => h1 hb⟩⟩
theorem s_isDigitX {G : MG} {d : Nat} {Q : Int32 → Mm → Prop} {M : Mm} {c x : Nat} (hd : 1 ≤ d) (hL : Lay c M) (hx : x ≤ 126) (h1 : dgB x = true → Q 1 M) (h0 : dgB x = false → Q 0 M) : C G Y_X10_isDigit d [.int (nI x)] M (Ri Q) := by
  refine up1 (P := fun d => C G Y_X10_isDigit d _ M (Ri Q)) (fun e => b_X10_isDigit (d := e) hL ?_) hd
  rw [show (48 : Int32) = nI 48 from rfl, show (57 : Int32) = nI 57 from rfl, nI_ltI (by omega) (by omega), nI_ltI (by omega) (by omega)]
  have e := dgB_iff x
  cases hb : dgB x
  · rw [hb] at e
    have hn : ¬ (48 ≤ x ∧ x ≤ 57) := fun h => (by cases e.mpr h)
    exact ⟨fun _ => h0 hb, fun g => ⟨fun _ => h0 hb, fun g2 => absurd ⟨by omega, by omega⟩ hn⟩⟩
  · have := e.mp hb
    exact ⟨fun g => by omega, fun _ => ⟨fun g => by omega, fun _ => h1 hb⟩⟩
theorem s_isBlankX {G : MG} {d : Nat} {Q : Int32 → Mm → Prop} {M : Mm} {c x : Nat} (hd : 1 ≤ d) (hL : Lay c M) (hx : x ≤ 126) (h1 : blB x = true → Q 1 M) (h0 : blB x = false → Q 0 M) : C G Y_X10_isBlank d [.int (nI x)] M (Ri Q) := by
  refine up1 (P := fun d => C G Y_X10_isBlank d _ M (Ri Q)) (fun e => b_X10_isBlank (d := e) hL ?_) hd
  rw [show (10 : Int32) = nI 10 from rfl, show (32 : Int32) = nI 32 from rfl, nI_eq (by omega) (by omega), nI_eq (by omega) (by omega)]
  have e := blB_iff x
  cases hb : blB x
  · rw [hb] at e
    have hn : ¬ (x = 10 ∨ x = 32) := fun h => (by cases e.mpr h)
    exact ⟨fun g => absurd (.inl g) hn, fun _ => ⟨fun _ => h0 hb, fun g2 => absurd (.inr g2) hn⟩⟩
  · exact ⟨fun _ => h1 hb, fun g => ⟨fun g2 => by have := e.mp hb; omega, fun _ => h1 hb⟩⟩
theorem ch_w {t : Nat} (h : 97 ≤ t ∧ t ≤ 122) : (nI t - 97 + 1).toInt64 = lN (t - 96) := by
  rw [show (97 : Int32) = nI 97 from rfl, pk_sub h.1, nI_1, nI_l (by omega), show t - 97 + 1 = t - 96 by omega]
theorem ch_d {t : Nat} (h : 48 ≤ t ∧ t ≤ 57) : (nI t - 48).toInt64 = lN (t - 48) := by
  rw [show (48 : Int32) = nI 48 from rfl, pk_sub h.1, nI_l (by omega)]
theorem s_scanWord {G : MG} {d : Nat} {Q : Mm → Prop} {T : Nat → Nat} {n p c : Nat} {N : Mm} (hd : 2 ≤ d) (hL : Lay c N) (hT : TpX T n N) (hp : N.1 1 2 = nI p) (hpn : p ≤ n)
    (h : ∀ N', FT N N' → N'.1 1 6 = N.1 1 6 → N'.1 1 2 = nI p → N'.1 1 3 = nI (fwd ltB T n p) → N'.1 1 4 = nI (if fwd ltB T n p - p ≤ 8 then 1 else 4) → N'.2.1 1 5 = lN (wdP 32 T n p) → Q N') : C G Y_X10_scanWord d [.ref (G.b + 1)] N (Rv Q) := by
  have hn := hT.2.1
  have fe := fwd_le (P := ltB) (T := T) hpn
  refine up1 (P := fun d => C G Y_X10_scanWord d _ N (Rv Q)) (fun e => b_X10_scanWord (d := e + 1) hL (fun M1 e1 M2 e2 => ?_)) hd
  have fin : ∀ (N' : Mm), FT N N' → N'.1 1 6 = N.1 1 6 → N'.1 1 2 = nI p → N'.1 1 3 = nI (fwd ltB T n p) → N'.2.1 1 5 = lN (wdP 32 T n p) → L_X10_scanWord_80 G (e + 1) Q N' := by
    intro N' hF h6 h2 h3 h5
    have mk : ∀ v, v = nI (if fwd ltB T n p - p ≤ 8 then 1 else 4) → Q (sI N' 1 4 v) := fun v hv =>
      h _ (hF.tr (FT.si (by omega))) (by rw [rd_sI, if_neg (by omega)]; exact h6) (by rw [rd_sI, if_neg (by omega)]; exact h2) (by rw [rd_sI, if_neg (by omega)]; exact h3) (by rw [rd_sI, if_pos ⟨rfl, rfl⟩]; exact hv) h5
    refine b_X10_scanWord_80 (lay_of hL hF.1) ?_
    rw [h3, h2, pk_sub fe.1, show (8 : Int32) = nI 8 from rfl, nI_ltI (by omega) (by omega)]
    refine ⟨fun g M2 e2 => ?_, fun g M3 e3 => ?_⟩
    · subst e2; exact mk _ (by rw [if_neg (by omega)]; rfl)
    · subst e3; exact mk _ (by rw [if_pos (by omega)]; rfl)
  have key : ∀ m k (N' : Mm), k + m = n → p ≤ k → FT N N' → N'.1 1 6 = N.1 1 6 → N'.1 1 2 = nI p → N'.1 1 3 = nI k → fwd ltB T n k = fwd ltB T n p → N'.2.1 1 5 = lN (cod 32 (fun i => T (p + i) - 96) (k - p)) → L_X10_scanWord_13 G (e + 1) Q N' := by
    intro m
    induction m with
    | zero =>
      intro k N' hk hpk hF h6 h2 h3 hfw h5
      have ek : fwd ltB T n k = k := fwd_stop (by omega)
      refine b_X10_scanWord_13 (lay_of hL hF.1) ⟨fun _ => fin N' hF h6 h2 ?_ ?_, fun g => absurd ?_ g⟩
      · rw [h3, ← hfw, ek]
      · rw [h5]; unfold wdP; rw [← hfw, ek]
      · rw [h3, (hT.fr hF).1, nI_leI (by omega) (by omega)]; omega
    | succ m ih =>
      intro k N' hk hpk hF h6 h2 h3 hfw h5
      obtain ⟨t0, t1, t2⟩ := hT.fr hF
      obtain ⟨u1, u2, u3⟩ := t2 k (by omega)
      refine b_X10_scanWord_13 (lay_of hL hF.1) ⟨fun g => absurd g ?_, fun _ => ?_⟩
      · rw [h3, t0, nI_leI (by omega) (by omega)]; omega
      · rw [h3, nI_clamp (by omega), u1]
        refine ⟨inM (by omega) (by omega), s_isLetterX (by omega) (lay_of hL hF.1) u3 (fun hb => ⟨rfl, fun h => (by cases h), fun _ => ?_⟩) (fun hb => ⟨rfl, fun _ => ?_, fun h => absurd rfl h⟩)⟩
        · rw [h3, nI_clamp (by omega), u1, ch_w ((ltB_iff _).mp hb), h5, show (32 : Int64) = lN 32 from rfl, lN_mul, lN_add]
          refine ⟨inM (by omega) (by omega), fun M5 e5 M6 e6 => ?_⟩
          subst e5
          rw [show (sJ N' 1 5 (lN (cod 32 (fun i => T (p + i) - 96) (k - p) * 32 + (T k - 96)))).1 1 3 = nI k from h3, nI_1] at e6
          subst e6
          refine ih (k + 1) _ (by omega) (by omega) (hF.tr (FT.sj.tr (FT.si (by omega)))) ?_ ?_ ?_ (by rw [← hfw, fwd_step (by omega) hb]) ?_
          · rw [rd_sI, if_neg (by omega)]; exact h6
          · rw [rd_sI, if_neg (by omega)]; exact h2
          · rw [rd_sI, if_pos ⟨rfl, rfl⟩]
          · show (sJ N' 1 5 _).2.1 1 5 = _
            rw [rd_sJ', if_pos ⟨rfl, rfl⟩, show k + 1 - p = (k - p) + 1 by omega]
            refine congrArg lN ?_
            show _ = 32 * cod 32 (fun i => T (p + i) - 96) (k - p) + (T (p + (k - p)) - 96)
            rw [show p + (k - p) = k by omega, Nat.mul_comm]
        · have ek : fwd ltB T n k = k := fwd_stop (fun h => by rw [hb] at h; cases h.2)
          refine fin N' hF h6 h2 ?_ ?_
          · rw [h3, ← hfw, ek]
          · rw [h5]; unfold wdP; rw [← hfw, ek]
  subst e1
  subst e2
  refine key (n - p) p _ (by omega) (by omega) ((FT.si (by omega)).tr FT.sj) ?_ ?_ ?_ rfl ?_
  · show (sI N 1 3 (N.1 1 2)).1 1 6 = _
    rw [rd_sI, if_neg (by omega)]
  · show (sI N 1 3 (N.1 1 2)).1 1 2 = _
    rw [rd_sI, if_neg (by omega)]; exact hp
  · show (sI N 1 3 (N.1 1 2)).1 1 3 = _
    rw [rd_sI, if_pos ⟨rfl, rfl⟩]; exact hp
  · rw [rd_sJ', if_pos ⟨rfl, rfl⟩, Nat.sub_self]; rfl
theorem s_scanNumber {G : MG} {d : Nat} {Q : Mm → Prop} {T : Nat → Nat} {n p c : Nat} {N : Mm} (hd : 2 ≤ d) (hL : Lay c N) (hT : TpX T n N) (hp : N.1 1 2 = nI p) (hpn : p ≤ n)
    (h : ∀ N', FT N N' → N'.1 1 6 = N.1 1 6 → N'.1 1 2 = nI p → N'.1 1 3 = nI (fwd dgB T n p) → N'.1 1 4 = nI (if fwd dgB T n p - p ≤ 4 then 2 else 4) → N'.2.1 1 5 = lN (nvP T n p) → Q N') : C G Y_X10_scanNumber d [.ref (G.b + 1)] N (Rv Q) := by
  have hn := hT.2.1
  have fe := fwd_le (P := dgB) (T := T) hpn
  refine up1 (P := fun d => C G Y_X10_scanNumber d _ N (Rv Q)) (fun e => b_X10_scanNumber (d := e + 1) hL (fun M1 e1 M2 e2 => ?_)) hd
  have fin : ∀ (N' : Mm), FT N N' → N'.1 1 6 = N.1 1 6 → N'.1 1 2 = nI p → N'.1 1 3 = nI (fwd dgB T n p) → N'.2.1 1 5 = lN (nvP T n p) → L_X10_scanNumber_78 G (e + 1) Q N' := by
    intro N' hF h6 h2 h3 h5
    have mk : ∀ v, v = nI (if fwd dgB T n p - p ≤ 4 then 2 else 4) → Q (sI N' 1 4 v) := fun v hv =>
      h _ (hF.tr (FT.si (by omega))) (by rw [rd_sI, if_neg (by omega)]; exact h6) (by rw [rd_sI, if_neg (by omega)]; exact h2) (by rw [rd_sI, if_neg (by omega)]; exact h3) (by rw [rd_sI, if_pos ⟨rfl, rfl⟩]; exact hv) h5
    refine b_X10_scanNumber_78 (lay_of hL hF.1) ?_
    rw [h3, h2, pk_sub fe.1, show (4 : Int32) = nI 4 from rfl, nI_ltI (by omega) (by omega)]
    refine ⟨fun g M2 e2 => ?_, fun g M3 e3 => ?_⟩
    · subst e2; exact mk _ (by rw [if_neg (by omega)])
    · subst e3; exact mk _ (by rw [if_pos (by omega)]; rfl)
  have key : ∀ m k (N' : Mm), k + m = n → p ≤ k → FT N N' → N'.1 1 6 = N.1 1 6 → N'.1 1 2 = nI p → N'.1 1 3 = nI k → fwd dgB T n k = fwd dgB T n p → N'.2.1 1 5 = lN (cod 10 (fun i => T (p + i) - 48) (k - p)) → L_X10_scanNumber_13 G (e + 1) Q N' := by
    intro m
    induction m with
    | zero =>
      intro k N' hk hpk hF h6 h2 h3 hfw h5
      have ek : fwd dgB T n k = k := fwd_stop (by omega)
      refine b_X10_scanNumber_13 (lay_of hL hF.1) ⟨fun _ => fin N' hF h6 h2 ?_ ?_, fun g => absurd ?_ g⟩
      · rw [h3, ← hfw, ek]
      · rw [h5]; unfold nvP; rw [← hfw, ek]
      · rw [h3, (hT.fr hF).1, nI_leI (by omega) (by omega)]; omega
    | succ m ih =>
      intro k N' hk hpk hF h6 h2 h3 hfw h5
      obtain ⟨t0, t1, t2⟩ := hT.fr hF
      obtain ⟨u1, u2, u3⟩ := t2 k (by omega)
      refine b_X10_scanNumber_13 (lay_of hL hF.1) ⟨fun g => absurd g ?_, fun _ => ?_⟩
      · rw [h3, t0, nI_leI (by omega) (by omega)]; omega
      · rw [h3, nI_clamp (by omega), u1]
        refine ⟨inM (by omega) (by omega), s_isDigitX (by omega) (lay_of hL hF.1) u3 (fun hb => ⟨rfl, fun h => (by cases h), fun _ => ?_⟩) (fun hb => ⟨rfl, fun _ => ?_, fun h => absurd rfl h⟩)⟩
        · rw [h3, nI_clamp (by omega), u1, ch_d ((dgB_iff _).mp hb), h5, show (10 : Int64) = lN 10 from rfl, lN_mul, lN_add]
          refine ⟨inM (by omega) (by omega), fun M5 e5 M6 e6 => ?_⟩
          subst e5
          rw [show (sJ N' 1 5 (lN (cod 10 (fun i => T (p + i) - 48) (k - p) * 10 + (T k - 48)))).1 1 3 = nI k from h3, nI_1] at e6
          subst e6
          refine ih (k + 1) _ (by omega) (by omega) (hF.tr (FT.sj.tr (FT.si (by omega)))) ?_ ?_ ?_ (by rw [← hfw, fwd_step (by omega) hb]) ?_
          · rw [rd_sI, if_neg (by omega)]; exact h6
          · rw [rd_sI, if_neg (by omega)]; exact h2
          · rw [rd_sI, if_pos ⟨rfl, rfl⟩]
          · show (sJ N' 1 5 _).2.1 1 5 = _
            rw [rd_sJ', if_pos ⟨rfl, rfl⟩, show k + 1 - p = (k - p) + 1 by omega]
            refine congrArg lN ?_
            show _ = 10 * cod 10 (fun i => T (p + i) - 48) (k - p) + (T (p + (k - p)) - 48)
            rw [show p + (k - p) = k by omega, Nat.mul_comm]
        · have ek : fwd dgB T n k = k := fwd_stop (fun h => by rw [hb] at h; cases h.2)
          refine fin N' hF h6 h2 ?_ ?_
          · rw [h3, ← hfw, ek]
          · rw [h5]; unfold nvP; rw [← hfw, ek]
  subst e1
  subst e2
  refine key (n - p) p _ (by omega) (by omega) ((FT.si (by omega)).tr FT.sj) ?_ ?_ ?_ rfl ?_
  · show (sI N 1 3 (N.1 1 2)).1 1 6 = _
    rw [rd_sI, if_neg (by omega)]
  · show (sI N 1 3 (N.1 1 2)).1 1 2 = _
    rw [rd_sI, if_neg (by omega)]; exact hp
  · show (sI N 1 3 (N.1 1 2)).1 1 3 = _
    rw [rd_sI, if_pos ⟨rfl, rfl⟩]; exact hp
  · rw [rd_sJ', if_pos ⟨rfl, rfl⟩, Nat.sub_self]; rfl
theorem s_advance {G : MG} {d : Nat} {Q : Mm → Prop} {T : Nat → Nat} {n b c : Nat} {N : Mm} (hd : 3 ≤ d) (hL : Lay c N) (hT : TpX T n N) (hb : N.1 1 3 = nI b) (hbn : b ≤ n)
    (h : ∀ N', FT N N' → N'.1 1 6 = N.1 1 6 → XT T n N' b → Q N') : C G Y_X10_advance d [.ref (G.b + 1)] N (Rv Q) := by
  have hn := hT.2.1
  have pe := plF_le (T := T) hbn
  refine up1 (P := fun d => C G Y_X10_advance d _ N (Rv Q)) (fun e => b_X10_advance (d := e + 2) hL (fun M1 e1 => ?_)) hd
  have fin : ∀ (N' : Mm), FT N N' → N'.1 1 6 = N.1 1 6 → N'.1 1 2 = nI (plF T n b) → L_X10_advance_47 G (e + 2) Q N' := by
    intro N' hF h6 h2
    obtain ⟨t0, t1, t2⟩ := hT.fr hF
    refine b_X10_advance_47 (lay_of hL hF.1) (fun M1 e1 => ?_)
    rw [h2, nI_1] at e1
    have hF1 : FT N M1 := by subst e1; exact hF.tr (FT.si (by omega))
    have g6 : M1.1 1 6 = N.1 1 6 := by subst e1; rw [rd_sI, if_neg (by omega)]; exact h6
    have g2 : M1.1 1 2 = nI (plF T n b) := by subst e1; rw [rd_sI, if_neg (by omega)]; exact h2
    have g3 : M1.1 1 3 = nI (plF T n b + 1) := by subst e1; rw [rd_sI, if_pos ⟨rfl, rfl⟩]
    have g0 : M1.1 1 0 = nI n := (hT.fr hF1).1
    have hL1 := lay_of hL hF1.1
    rw [g2, g0, nI_ltI (by omega) (by omega), nI_clamp (by omega)]
    refine ⟨fun g => ?_, fun g M17 e17 M18 e18 => ?_⟩
    · obtain ⟨u1, u2, u3⟩ := (hT.fr hF1).2.2 (plF T n b) g
      have np : ¬ n ≤ plF T n b := by omega
      rw [u1]
      refine ⟨inM (by omega) (by omega), s_isLetterX (by omega) hL1 u3 (fun hl => ⟨rfl, fun h => (by cases h), fun _ => ?_⟩) (fun hl => ⟨rfl, fun _ => ?_, fun h => absurd rfl h⟩)⟩
      · refine s_scanWord (p := plF T n b) (by omega) hL1 (hT.fr hF1) g2 (by omega) (fun N' k1 k2 k3 k4 k5 k6 => ⟨k1.1, h N' (hF1.tr k1) (k2.trans g6) ⟨k3, ?_, ?_, ?_, ?_, ?_⟩⟩)
        · rw [k4]; unfold enF enP; rw [if_neg np, if_pos hl]
        · rw [k5]; unfold soF soP; rw [if_neg np, if_pos hl]
        · intro _; exact k6
        · intro h2'
          unfold soF soP at h2'
          rw [if_neg np, if_pos hl] at h2'
          split at h2' <;> cases h2'
        · intro h2'
          unfold soF soP at h2'
          rw [if_neg np, if_pos hl] at h2'
          split at h2' <;> cases h2'
      · have hl' : ¬ ltB (T (plF T n b)) = true := by rw [hl]; exact Bool.false_ne_true
        rw [g2, nI_clamp (by omega), u1]
        refine ⟨inM (by omega) (by omega), s_isDigitX (by omega) hL1 u3 (fun hg => ⟨rfl, fun h => (by cases h), fun _ => ?_⟩) (fun hg => ⟨rfl, fun _ => ?_, fun h => absurd rfl h⟩)⟩
        · refine s_scanNumber (p := plF T n b) (by omega) hL1 (hT.fr hF1) g2 (by omega) (fun N' k1 k2 k3 k4 k5 k6 => ⟨k1.1, h N' (hF1.tr k1) (k2.trans g6) ⟨k3, ?_, ?_, ?_, ?_, ?_⟩⟩)
          · rw [k4]; unfold enF enP; rw [if_neg np, if_neg hl', if_pos hg]
          · rw [k5]; unfold soF soP; rw [if_neg np, if_neg hl', if_pos hg]
          · intro h2'
            unfold soF soP at h2'
            rw [if_neg np, if_neg hl', if_pos hg] at h2'
            split at h2' <;> cases h2'
          · intro _; exact k6
          · intro h2'
            unfold soF soP at h2'
            rw [if_neg np, if_neg hl', if_pos hg] at h2'
            split at h2' <;> cases h2'
        · have hg' : ¬ dgB (T (plF T n b)) = true := by rw [hg]; exact Bool.false_ne_true
          rw [g2, nI_clamp (by omega), u1, nI_l (by omega)]
          refine ⟨inM (by omega) (by omega), fun M9 e9 => ?_⟩
          have r5 : M9.2.1 1 5 = lN (T (plF T n b)) := by subst e9; rw [rd_sJ', if_pos ⟨rfl, rfl⟩]
          rw [r5, show (44 : Int64) = lN 44 from rfl, show (59 : Int64) = lN 59 from rfl, pk_lEQ (by omega) (by omega), pk_lEQ (by omega) (by omega)]
          have mk : ∀ v : Nat, v = soF T n b → (v = 3 ∨ v = 4) → Q (sI M9 1 4 (nI v)) := fun v hv hv2 => by
            refine h _ ?_ ?_ ⟨?_, ?_, ?_, ?_, ?_, ?_⟩
            · subst e9; exact hF1.tr (FT.sj.tr (FT.si (by omega)))
            · rw [rd_sI, if_neg (by omega)]; subst e9; exact g6
            · rw [rd_sI, if_neg (by omega)]; subst e9; exact g2
            · rw [rd_sI, if_neg (by omega)]; subst e9
              unfold enF enP; rw [if_neg np, if_neg hl', if_neg hg']; exact g3
            · rw [rd_sI, if_pos ⟨rfl, rfl⟩, hv]
            · intro h'; omega
            · intro h'; omega
            · intro _; exact r5
          have so1 : soF T n b = if T (plF T n b) = 44 ∨ T (plF T n b) = 59 then 3 else 4 := by
            unfold soF soP; rw [if_neg np, if_neg hl', if_neg hg']
          refine ⟨fun q M11 e11 => ?_, fun q => ⟨fun q2 M13 e13 => ?_, fun q2 M14 e14 => ?_⟩⟩
          · subst e11; exact mk 3 (by rw [so1, if_pos (.inl q)]) (.inl rfl)
          · subst e13; exact mk 4 (by rw [so1, if_neg (by omega)]) (.inr rfl)
          · subst e14; exact mk 3 (by rw [so1, if_pos (.inr q2)]) (.inl rfl)
    · have np : n ≤ plF T n b := by omega
      have s0 : soF T n b = 0 := by unfold soF soP; rw [if_pos np]
      subst e17
      rw [show (sI M1 1 4 0).1 1 2 = nI (plF T n b) by rw [rd_sI, if_neg (by omega)]; exact g2] at e18
      subst e18
      refine h _ (hF1.tr ((FT.si (by omega)).tr (FT.si (by omega)))) ?_ ⟨?_, ?_, ?_, ?_, ?_, ?_⟩
      · rw [rd_sI, if_neg (by omega), rd_sI, if_neg (by omega)]; exact g6
      · rw [rd_sI, if_neg (by omega), rd_sI, if_neg (by omega)]; exact g2
      · rw [rd_sI, if_pos ⟨rfl, rfl⟩]; unfold enF enP; rw [if_pos np]
      · rw [rd_sI, if_neg (by omega), rd_sI, if_pos ⟨rfl, rfl⟩, s0]; rfl
      · intro h'; omega
      · intro h'; omega
      · intro h'; omega
  have key : ∀ m k (N' : Mm), k + m = n → FT N N' → N'.1 1 6 = N.1 1 6 → N'.1 1 2 = nI k → fwd blB T n k = plF T n b → L_X10_advance_8 G (e + 2) Q N' := by
    intro m
    induction m with
    | zero =>
      intro k N' hk hF h6 h2 hfw
      have ek : fwd blB T n k = k := fwd_stop (by omega)
      refine b_X10_advance_8 (lay_of hL hF.1) ⟨fun _ => fin N' hF h6 (by rw [h2, ← hfw, ek]), fun g => absurd ?_ g⟩
      rw [h2, (hT.fr hF).1, nI_leI (by omega) (by omega)]; omega
    | succ m ih =>
      intro k N' hk hF h6 h2 hfw
      obtain ⟨t0, t1, t2⟩ := hT.fr hF
      obtain ⟨u1, u2, u3⟩ := t2 k (by omega)
      refine b_X10_advance_8 (lay_of hL hF.1) ⟨fun g => absurd g ?_, fun _ => ?_⟩
      · rw [h2, t0, nI_leI (by omega) (by omega)]; omega
      · rw [h2, nI_clamp (by omega), u1]
        refine ⟨inM (by omega) (by omega), s_isBlankX (by omega) (lay_of hL hF.1) u3 (fun hbl => ⟨rfl, fun h => (by cases h), fun _ M5 e5 => ?_⟩) (fun hbl => ⟨rfl, fun _ => ?_, fun h => absurd rfl h⟩)⟩
        · rw [h2, nI_1] at e5
          subst e5
          exact ih (k + 1) _ (by omega) (hF.tr (FT.si (by omega))) (by rw [rd_sI, if_neg (by omega)]; exact h6) (by rw [rd_sI, if_pos ⟨rfl, rfl⟩]) (by rw [← hfw, fwd_step (by omega) hbl])
        · have ek : fwd blB T n k = k := fwd_stop (fun h => by rw [hbl] at h; cases h.2)
          exact fin N' hF h6 (by rw [h2, ← hfw, ek])
  subst e1
  exact key (n - b) b _ (by omega) (FT.si (by omega)) (by rw [rd_sI, if_neg (by omega)]) (by rw [rd_sI, if_pos ⟨rfl, rfl⟩]; exact hb) rfl
