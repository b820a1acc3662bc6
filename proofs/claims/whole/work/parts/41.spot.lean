/-! ===== the spot ===== -/
theorem rd_sJ {M : Mm} {o k a b : Nat} {v : Int64} : (sJ M o k v).2.1 a b = if a = o ∧ b = k then v else M.2.1 a b := by
  by_cases h : a = o
  · subst h
    rw [sJ_at]
    unfold vp_updL
    by_cases hb : b = k
    · rw [if_pos hb, if_pos ⟨rfl, hb⟩]
    · rw [if_neg hb, if_neg (fun h => hb h.2)]
  · rw [sJ_ne h, if_neg (fun k => h k.1)]
abbrev S3 : Type := Int64 × Int64 × Int64
def rotN : Nat → Int64 × Int64 → Int64 × Int64
  | 0, p => p
  | n + 1, p => rotN n (-p.2, p.1)
def finS (px py P Q t : Int32) (b : Int64) (r : Int64 × Int64) : S3 :=
  (px.toInt64 * (b * 10 * Q.toInt64) + (10 * r.1 + r.2 * t.toInt64) * P.toInt64, py.toInt64 * (b * 10 * Q.toInt64) + 10 * r.2 * P.toInt64, b * 10 * Q.toInt64)
def dS (p : Int32) (x b : Int64) : Int64 := x - p.toInt64 * b
def cpy (px py kd qu P Q t : Int32) (S : S3) : S3 :=
  finS px py P Q t S.2.2 (rotN qu.toNatClampNeg (if kd = 1 then -(dS px S.1 S.2.2) else dS px S.1 S.2.2, dS py S.2.1 S.2.2))
def abS (v : Int64) : Int64 := if 0 < v then v else -v
def outS (px py re : Int32) (S : S3) : Prop := ¬ abS (dS px S.1 S.2.2) + abS (dS py S.2.1 S.2.2) ≤ re.toInt64 * S.2.2
def ar (M : Mm) (a w : Nat) : Int32 := M.1 153 (1 + 14 * a + w)
def cpyR (M : Mm) (a : Nat) (t : Int32) (S : S3) : S3 := cpy (ar M a 9) (ar M a 10) (ar M a 0) (ar M a 8) (ar M a 6) (ar M a 7) t S
def outR (M : Mm) (a : Nat) (S : S3) : Prop := outS (ar M a 9) (ar M a 10) (ar M a 11) S
def SpX (M N : Mm) (S : S3) : Prop := N.1 = M.1 ∧ N.2.2 = M.2.2 ∧ (∀ o, o ≠ 126 → N.2.1 o = M.2.1 o) ∧ N.2.1 126 0 = S.1 ∧ N.2.1 126 1 = S.2.1 ∧ N.2.1 126 2 = S.2.2
def SpM (M N : Mm) (S : S3) : Prop := N.1 = M.1 ∧ N.2.2 = M.2.2 ∧ (∀ o, o ≠ 147 → N.2.1 o = M.2.1 o) ∧ N.2.1 147 15 = S.1 ∧ N.2.1 147 16 = S.2.1 ∧ N.2.1 147 17 = S.2.2
theorem SpX.ess {M N : Mm} {S : S3} (h : SpX M N S) : Ess M N := ⟨h.2.1, fun o _ _ => by rw [h.1], by rw [h.1], by rw [h.1], by rw [h.1], by rw [h.1], h.2.2.1 152 (by omega), by rw [h.1], by rw [h.1], by rw [h.1]⟩
theorem SpM.ess {M N : Mm} {S : S3} (h : SpM M N S) : Ess M N := ⟨h.2.1, fun o _ _ => by rw [h.1], by rw [h.1], by rw [h.1], by rw [h.1], by rw [h.1], h.2.2.1 152 (by omega), by rw [h.1], by rw [h.1], by rw [h.1]⟩
theorem SpX.lay {M N : Mm} {S : S3} {c : Nat} (h : SpX M N S) (hL : Lay c M) : Lay c N := lay_of hL h.2.1
theorem SpM.lay {M N : Mm} {S : S3} {c : Nat} (h : SpM M N S) (hL : Lay c M) : Lay c N := lay_of hL h.2.1
/-- what the invariant tells of an arm that there is -/
def ArmK (M : Mm) (c a : Nat) : Prop := a < 6 ∧ ArmC M (c + 3 + 2 * a) (fun j => M.1 153 (1 + 14 * a + j)) ∧ HandC M 75 a (fun j => M.1 153 (1 + 14 * a + j))
theorem s_begin {G : MG} {d : Nat} {Q : Mm → Prop} {M : Mm} {c : Nat} {x y : Int32} (hd : 1 ≤ d) (hL : Lay c M) (h : ∀ N, SpX M N (x.toInt64, y.toInt64, 1) → Q N) : C G Y_X9_begin d [.ref (G.b + 126), .int x, .int y] M (Rv Q) := by
  refine up1 (P := fun d => C G Y_X9_begin d _ M (Rv Q)) (fun e => b_X9_begin (d := e) hL (fun M1 e1 M2 e2 M3 e3 => h M3 ?_)) hd
  subst e3; subst e2; subst e1
  refine ⟨rfl, rfl, fun o ho => ?_, ?_, ?_, ?_⟩
  · rw [sJ_ne ho, sJ_ne ho, sJ_ne ho]
  · simp [rd_sJ]
  · simp [rd_sJ]
  · simp [rd_sJ]
theorem s_starts {G : MG} {d : Nat} {Q : Mm → Prop} {M : Mm} {c : Nat} {x y : Int32} (hd : 1 ≤ d) (hL : Lay c M) (h : ∀ N, SpM M N (x.toInt64, y.toInt64, 1) → Q N) : C G Y_X12_starts d [.ref (G.b + 147), .int x, .int y] M (Rv Q) := by
  refine up1 (P := fun d => C G Y_X12_starts d _ M (Rv Q)) (fun e => b_X12_starts (d := e) hL (fun M1 e1 M2 e2 M3 e3 => h M3 ?_)) hd
  subst e3; subst e2; subst e1
  refine ⟨rfl, rfl, fun o ho => ?_, ?_, ?_, ?_⟩
  · rw [sJ_ne ho, sJ_ne ho, sJ_ne ho]
  · simp [rd_sJ]
  · simp [rd_sJ]
  · simp [rd_sJ]
theorem sh_off {c : Nat} (hc : c = 3 ∨ c = 39) : sh c = some (.inr 5) := by rcases hc with rfl | rfl <;> decide
theorem s_isOutX {G : MG} {d : Nat} {Q : Int32 → Mm → Prop} {M0 M : Mm} {c a : Nat} {S : S3} (hd : 1 ≤ d) (hL : Lay c M0) (hc : c = 3 ∨ c = 39) (hk : ArmK M0 c a) (hg : SpX M0 M S) (h0 : ¬ outR M0 a S → Q 0 M) (h1 : outR M0 a S → Q 1 M) : C G Y_X9_isOut d [.ref (G.b + 126), .ref (G.b + c), .ref (G.b + 75), .int (nI a)] M (Ri Q) := by
  obtain ⟨k1, ⟨-, -, -, -, k5, -⟩, ⟨-, -, -, ⟨k9, -⟩, ⟨k10, -⟩, -⟩⟩ := hk
  have hin : vp_in (nI a) 6 := (inN (by omega) (by omega)).1
  refine up1 (P := fun d => C G Y_X9_isOut d _ M (Ri Q)) (fun e => b_X9_isOut (d := e) (hg.lay hL) (sh_off hc) (by decide) ⟨hin, fun v1 e1 => ⟨hin, fun v2 e2 => ⟨hin, ?_⟩⟩⟩) hd
  rw [nI_clamp (show a < 2 ^ 31 by omega), hg.1] at e1 e2 ⊢
  rw [show M0.1 (75 + 4) a = ar M0 a 9 from k9, hg.2.2.2.1, hg.2.2.2.2.2] at e1
  rw [show M0.1 (75 + 5) a = ar M0 a 10 from k10, hg.2.2.2.2.1, hg.2.2.2.2.2] at e2
  rw [show c + 1 + 2 + 2 * a = c + 3 + 2 * a by omega, show M0.1 (c + 3 + 2 * a) 7 = ar M0 a 11 from k5, hg.2.2.2.2.2]
  subst e1; subst e2
  exact ⟨fun h => h0 (fun h' => h' h), fun h => h1 h⟩
theorem ab_eq (v : Int64) : (0 ≤ v → v = abS v) ∧ (¬ 0 ≤ v → -v = abS v) := by
  unfold abS
  by_cases h : 0 < v
  · rw [if_pos h]
    refine ⟨fun _ => rfl, fun h0 => absurd ?_ h0⟩
    rw [Int64.le_iff_toInt_le]; rw [Int64.lt_iff_toInt_lt] at h; omega
  · rw [if_neg h]
    refine ⟨fun h0 => ?_, fun _ => rfl⟩
    have : v = 0 := by
      apply Int64.toInt_inj.mp
      rw [Int64.le_iff_toInt_le] at h0
      rw [Int64.lt_iff_toInt_lt] at h
      omega
    rw [this]; rfl
theorem s_lengthOf {G : MG} {d : Nat} {Q : Int64 → Mm → Prop} {M : Mm} {c : Nat} {y : Int64} (hd : 1 ≤ d) (hL : Lay c M) (h : Q (abS y) M) : C G Y_X12_lengthOf d [.long y] M (Rj Q) := by
  refine up1 (P := fun d => C G Y_X12_lengthOf d _ M (Rj Q)) (fun e => b_X12_lengthOf (d := e) hL ⟨fun h0 => ?_, fun h0 => ?_⟩) hd
  · rw [(ab_eq y).1 h0, ← (ab_eq y).1 h0]
    rw [← (ab_eq y).1 h0] at h
    exact h
  · rw [(ab_eq y).2 h0]; exact h
theorem s_isOutM {G : MG} {d : Nat} {Q : Int32 → Mm → Prop} {M0 M : Mm} {c a : Nat} {S : S3} (hd : 2 ≤ d) (hL : Lay c M0) (ha : a < 6) (hg : SpM M0 M S) (h0 : ¬ outR M0 a S → Q 0 M) (h1 : outR M0 a S → Q 1 M) : C G Y_X12_isOut d [.ref (G.b + 147), .int (nI a)] M (Ri Q) := by
  have hL1 := hg.lay hL
  refine up1 (P := fun d => C G Y_X12_isOut d _ M (Ri Q)) (fun e => b_X12_isOut (d := e + 1) hL1 ?_) hd
  refine s_of 9 (by omega) hL1 ha (by omega) rfl ⟨rfl, ?_⟩
  refine s_of 10 (by omega) hL1 ha (by omega) rfl ⟨rfl, ?_⟩
  refine s_lengthOf (by omega) hL1 ⟨rfl, ?_⟩
  refine s_lengthOf (by omega) hL1 ⟨rfl, ?_⟩
  refine s_of 11 (by omega) hL1 ha (by omega) rfl ⟨rfl, ?_⟩
  rw [hg.1, hg.2.2.2.1, hg.2.2.2.2.1, hg.2.2.2.2.2]
  exact ⟨fun h => h0 (fun h' => h' h), fun h => h1 h⟩
theorem s_copyBy {G : MG} {d : Nat} {Q : Mm → Prop} {M0 M : Mm} {c a : Nat} {t : Int32} {S : S3} (hd : 1 ≤ d) (hL : Lay c M0) (hc : c = 3 ∨ c = 39) (hk : ArmK M0 c a) (hg : SpX M0 M S) (h : ∀ N, SpX M0 N (cpyR M0 a t S) → Q N) : C G Y_X9_copyBy d [.ref (G.b + 126), .ref (G.b + c), .ref (G.b + 75), .int (nI a), .int t] M (Rv Q) := by
  obtain ⟨k1, ⟨k0, -⟩, ⟨⟨k6, -⟩, ⟨k7, -⟩, ⟨k8, ⟨qu, -, hqu, equ⟩⟩, ⟨k9, -⟩, ⟨k10, -⟩, -⟩⟩ := hk
  have hin : vp_in (nI a) 6 := (inN (by omega) (by omega)).1
  have hL1 := hg.lay hL
  have hcl := nI_clamp (show a < 2 ^ 31 by omega)
  have equ' : ar M0 a 8 = nI qu := equ
  refine up1 (P := fun d => C G Y_X9_copyBy d _ M (Rv Q)) (fun e => b_X9_copyBy (d := e) hL1 (sh_off hc) (by decide) ⟨hin, fun v1 e1 => ⟨hin, fun v2 e2 => ⟨hin, ?_⟩⟩⟩) hd
  have key : ∀ m i u v, i + m = qu → (∀ N, SpX M0 N (finS (ar M0 a 9) (ar M0 a 10) (ar M0 a 6) (ar M0 a 7) t S.2.2 (rotN m (u, v))) → Q N) → L_X9_copyBy_59 G e Q 75 (nI a) t u v (nI i) M := by
    intro m
    induction m with
    | zero =>
      intro i u v hi hk
      refine b_X9_copyBy_59 hL1 (by decide) ⟨hin, fun _ => ⟨hin, fun w ew => ⟨hin, hin, fun M3 e3 => ⟨hin, fun M4 e4 => ⟨hin, fun M5 e5 => ?_⟩⟩⟩⟩, fun h => absurd ?_ h⟩
      · rw [hcl] at ew e3 e4 e5
        rw [hg.1] at ew e3 e5
        rw [show M0.1 (75 + 1) a = ar M0 a 6 from k6] at ew e5
        rw [show M0.1 (75 + 2) a = ar M0 a 7 from k7, hg.2.2.2.2.2, Int64.mul_comm 10 S.2.2] at e3
        have f3 : M3.1 = M0.1 := by rw [e3]; exact hg.1
        rw [f3, show M0.1 (75 + 4) a = ar M0 a 9 from k9] at e4
        have f4 : M4.1 = M0.1 := by rw [e4]; exact f3
        rw [f4, show M0.1 (75 + 5) a = ar M0 a 10 from k10] at e5
        have b3 : M3.2.1 126 2 = S.2.2 * 10 * (ar M0 a 7).toInt64 := by rw [e3, rd_sJ, if_pos ⟨rfl, rfl⟩]
        have b4 : M4.2.1 126 2 = S.2.2 * 10 * (ar M0 a 7).toInt64 := by rw [e4, rd_sJ, if_neg (by omega), b3]
        rw [b3] at e4
        rw [b4] at e5
        refine hk M5 ⟨by rw [e5]; exact f4, ?_, fun o ho => ?_, ?_, ?_, ?_⟩
        · rw [e5, e4, e3]; exact hg.2.1
        · rw [e5, sJ_ne ho, e4, sJ_ne ho, e3, sJ_ne ho]; exact hg.2.2.1 o ho
        · rw [e5, rd_sJ, if_neg (by omega), e4, rd_sJ, if_pos ⟨rfl, rfl⟩, ew, Int64.mul_comm t.toInt64 v]
          rfl
        · rw [e5, rd_sJ, if_pos ⟨rfl, rfl⟩]
          rfl
        · rw [e5, rd_sJ, if_neg (by omega), b4]
          rfl
      · rw [hcl, hg.1, show M0.1 (75 + 3) a = ar M0 a 8 from k8, equ', nI_leI (by omega) (by omega)]
        omega
    | succ m ih =>
      intro i u v hi hk
      refine b_X9_copyBy_59 hL1 (by decide) ⟨hin, fun h => absurd h ?_, fun _ => ?_⟩
      · rw [hcl, hg.1, show M0.1 (75 + 3) a = ar M0 a 8 from k8, equ', nI_leI (by omega) (by omega)]
        omega
      · rw [nI_1]
        exact ih (i + 1) (-v) u (by omega) hk
  rw [hcl, hg.1] at e1 e2 ⊢
  rw [show M0.1 (75 + 4) a = ar M0 a 9 from k9, hg.2.2.2.1, hg.2.2.2.2.2] at e1
  rw [show M0.1 (75 + 5) a = ar M0 a 10 from k10, hg.2.2.2.2.1, hg.2.2.2.2.2] at e2
  rw [show c + 1 + 2 + 2 * a = c + 3 + 2 * a by omega, show M0.1 (c + 3 + 2 * a) 1 = ar M0 a 0 from k0]
  have hq2 : (ar M0 a 8).toNatClampNeg = qu := by rw [equ']; exact nI_clamp (by omega)
  subst e1; subst e2
  unfold cpyR cpy at h
  rw [hq2] at h
  refine ⟨fun hk => key qu 0 _ _ (by omega) ?_, fun hk => key qu 0 _ _ (by omega) ?_⟩
  · rw [if_neg hk] at h; exact h
  · rw [if_pos hk] at h; exact h
theorem s_traces {G : MG} {d : Nat} {Q : Mm → Prop} {M0 M : Mm} {c a : Nat} {t : Int32} {S : S3} (hd : 2 ≤ d) (hL : Lay c M0) (hk : ArmK M0 c a) (hg : SpM M0 M S) (h : ∀ N, SpM M0 N (cpyR M0 a t S) → Q N) : C G Y_X12_traces d [.ref (G.b + 147), .int (nI a), .int t] M (Rv Q) := by
  obtain ⟨ha, -, ⟨-, -, ⟨-, ⟨qu, -, hqu, equ⟩⟩, -, -, -⟩⟩ := hk
  have hL1 := hg.lay hL
  have equ' : ar M0 a 8 = nI qu := equ
  refine up1 (P := fun d => C G Y_X12_traces d _ M (Rv Q)) (fun e => b_X12_traces (d := e + 1) hL1 ?_) hd
  have key : ∀ m i u v, i + m = qu → (∀ N, SpM M0 N (finS (ar M0 a 9) (ar M0 a 10) (ar M0 a 6) (ar M0 a 7) t S.2.2 (rotN m (u, v))) → Q N) → L_X12_traces_59 G (e + 1) Q (nI a) t u v (nI i) M := by
    intro m
    induction m with
    | zero =>
      intro i u v hi hk
      refine b_X12_traces_59 hL1 (s_of 8 (by omega) hL1 ha (by omega) rfl ⟨rfl, fun _ => ?_, fun h => absurd ?_ h⟩)
      · refine s_of 7 (by omega) hL1 ha (by omega) rfl ⟨rfl, fun M6 e6 => ?_⟩
        have l6 : Lay c M6 := by rw [e6]; exact hL1
        have f6 : M6.1 = M0.1 := by rw [e6]; exact hg.1
        refine s_of 9 (by omega) l6 ha (by omega) rfl ⟨rfl, ?_⟩
        refine s_of 6 (by omega) l6 ha (by omega) rfl ⟨rfl, fun M11 e11 => ?_⟩
        have l11 : Lay c M11 := by rw [e11]; exact l6
        have f11 : M11.1 = M0.1 := by rw [e11]; exact f6
        refine s_of 10 (by omega) l11 ha (by omega) rfl ⟨rfl, ?_⟩
        refine s_of 6 (by omega) l11 ha (by omega) rfl ⟨rfl, fun M16 e16 => ?_⟩
        rw [hg.1, hg.2.2.2.2.2] at e6
        rw [f6] at e11
        rw [f11] at e16
        have b6 : M6.2.1 147 17 = S.2.2 * 10 * (ar M0 a 7).toInt64 := by rw [e6, rd_sJ, if_pos ⟨rfl, rfl⟩]; rfl
        have b11 : M11.2.1 147 17 = S.2.2 * 10 * (ar M0 a 7).toInt64 := by rw [e11, rd_sJ, if_neg (by omega), b6]
        rw [b6] at e11
        rw [b11] at e16
        refine hk M16 ⟨by rw [e16]; exact f11, ?_, fun o ho => ?_, ?_, ?_, ?_⟩
        · rw [e16, e11, e6]; exact hg.2.1
        · rw [e16, sJ_ne ho, e11, sJ_ne ho, e6, sJ_ne ho]; exact hg.2.2.1 o ho
        · rw [e16, rd_sJ, if_neg (by omega), e11, rd_sJ, if_pos ⟨rfl, rfl⟩]
          rfl
        · rw [e16, rd_sJ, if_pos ⟨rfl, rfl⟩]
          rfl
        · rw [e16, rd_sJ, if_neg (by omega), b11]
          rfl
      · rw [hg.1, show M0.1 153 (1 + 14 * a + 8) = ar M0 a 8 from rfl, equ', nI_leI (by omega) (by omega)]
        omega
    | succ m ih =>
      intro i u v hi hk
      refine b_X12_traces_59 hL1 (s_of 8 (by omega) hL1 ha (by omega) rfl ⟨rfl, fun h => absurd h ?_, fun _ => ?_⟩)
      · rw [hg.1, show M0.1 153 (1 + 14 * a + 8) = ar M0 a 8 from rfl, equ', nI_leI (by omega) (by omega)]
        omega
      · rw [nI_1]
        exact ih (i + 1) (-v) u (by omega) hk
  refine s_of 9 (by omega) hL1 ha (by omega) rfl ⟨rfl, ?_⟩
  refine s_of 10 (by omega) hL1 ha (by omega) rfl ⟨rfl, ?_⟩
  refine s_of 0 (by omega) hL1 ha (by omega) rfl ⟨rfl, ?_⟩
  have hq2 : (ar M0 a 8).toNatClampNeg = qu := by rw [equ']; exact nI_clamp (by omega)
  rw [hg.1, hg.2.2.2.1, hg.2.2.2.2.1, hg.2.2.2.2.2]
  unfold cpyR cpy at h
  rw [hq2] at h
  refine ⟨fun hk => key qu 0 _ _ (by omega) ?_, fun hk => key qu 0 _ _ (by omega) ?_⟩
  · rw [if_neg (show ¬ ar M0 a 0 = 1 from hk)] at h; exact h
  · rw [if_pos (show ar M0 a 0 = 1 from hk)] at h; exact h
