/-! ===== part, trace, draw ===== -/
def mg (z : Int64) : Nat := (abS z).toInt.toNat
def zS (w : Nat) (S : S3) : Int64 := if w < 2 then S.1 else S.2.1
def pvS (w : Nat) (S : S3) : Int64 := (if w % 2 = 0 then zS w S else S.2.2) / lN (Nat.gcd (mg (zS w S)) (mg S.2.2))
theorem mg_lI {z : Int} (h : z.natAbs < 2 ^ 62) : mg (Int64.ofInt z) = z.natAbs := by
  unfold mg
  rw [abS_lI h, lI_t (by omega)]
  omega
theorem w4 : ∀ w, w < 4 → ((2 : Int32) ≤ nI w ↔ 2 ≤ w) ∧ (nI w - nI w / 2 * 2 = 0 ↔ w % 2 = 0) := by decide +kernel
/-- all that part() needs of the spot -/
theorem ok_part {w : Nat} {S : S3} (hS : okS 4 S) : mg (zS w S) < 2 ^ 63 ∧ abS (zS w S) = lN (mg (zS w S)) ∧ 0 < mg S.2.2 ∧ mg S.2.2 < 2 ^ 63 ∧ abS S.2.2 = lN (mg S.2.2) ∧ S.2.2 = lN (mg S.2.2) := by
  obtain ⟨X, Y, B, rfl, hB1, hB, hX, hY⟩ := hS
  have h4 : (90 : Nat) ^ 4 = 65610000 := by decide
  have hz : ∃ Z : Int, zS w (Int64.ofInt X, Int64.ofInt Y, lN B) = Int64.ofInt Z ∧ Z.natAbs < 2 ^ 62 := by
    unfold zS
    by_cases h : w < 2
    · rw [if_pos h]; exact ⟨X, rfl, by omega⟩
    · rw [if_neg h]; exact ⟨Y, rfl, by omega⟩
  obtain ⟨Z, e, hZ⟩ := hz
  have hBB : mg (lN B) = B := by rw [lI_lN, mg_lI (by omega)]; omega
  refine ⟨by rw [e, mg_lI hZ]; omega, by rw [e, mg_lI hZ, abS_lI hZ, lI_lN], ?_, ?_, ?_, ?_⟩
  · show 0 < mg (lN B); omega
  · show mg (lN B) < 2 ^ 63; omega
  · show abS (lN B) = lN (mg (lN B)); rw [hBB]; exact abs_lN (by omega)
  · show lN B = lN (mg (lN B)); rw [hBB]
theorem gcd_lt {a b : Nat} (hb0 : 0 < b) (hb : b < 2 ^ 63) : 0 < Nat.gcd a b ∧ Nat.gcd a b < 2 ^ 63 :=
  ⟨Nat.gcd_pos_of_pos_right a hb0, Nat.lt_of_le_of_lt (Nat.gcd_le_right a hb0) hb⟩
theorem s_partX {G : MG} {d w : Nat} {Q : Int64 → Mm → Prop} {M : Mm} {c : Nat} {S : S3} (hd : 3 ≤ d) (hL : Lay c M) (hn : ∀ U, G.X U → va_Nw (.methodLinkNest RX9 62 yX11_inLowestTerms "CopyArms") U) (hw : w < 4) (hS : okS 4 S) (h0 : M.2.1 126 0 = S.1) (h1 : M.2.1 126 1 = S.2.1) (h2 : M.2.1 126 2 = S.2.2) (h : Q (pvS w S) M) : C G Y_X9_part d [.ref (G.b + 126), .int (nI w)] M (Rj Q) := by
  obtain ⟨p1, p2, p3, p4, p5, p6⟩ := ok_part (w := w) hS
  obtain ⟨w1, w2⟩ := w4 w hw
  have hg := gcd_lt (a := mg (zS w S)) p3 p4
  refine up1 (P := fun d => C G Y_X9_part d _ M (Rj Q)) (fun e => b_X9_part (d := e + 2) hL hn ?_) hd
  have mid : L_X9_part_16 G (e + 2) Q (nI w) (zS w S) M := by
    refine b_X9_part_16 hL hn ?_
    rw [h2]
    refine ⟨fun hp => ?_, fun hp => ?_⟩
    · rw [w2] at hp
      refine s_inLowest (by omega) hL p4 p1 p5 p2 (by rw [Nat.gcd_comm]; exact hg.1) ⟨rfl, ?_⟩
      unfold pvS at h
      rw [if_neg hp] at h
      rw [Nat.gcd_comm]; exact h
    · rw [w2] at hp
      refine s_inLowest (by omega) hL p1 p4 p2 p5 hg.1 ⟨rfl, ?_⟩
      unfold pvS at h
      rw [if_pos hp] at h
      exact h
  rw [h0, h1]
  unfold zS at mid
  refine ⟨fun hp => ?_, fun hp => ?_⟩
  · rw [w1] at hp
    rw [if_neg (by omega)] at mid; exact mid
  · rw [w1] at hp
    rw [if_pos (by omega)] at mid; exact mid
theorem s_partM {G : MG} {d w : Nat} {Q : Int64 → Mm → Prop} {M : Mm} {c : Nat} {S : S3} (hd : 2 ≤ d) (hL : Lay c M) (hw : w < 4) (hS : okS 4 S) (h0 : M.2.1 147 15 = S.1) (h1 : M.2.1 147 16 = S.2.1) (h2 : M.2.1 147 17 = S.2.2) (h : Q (pvS w S) M) : C G Y_X12_part d [.ref (G.b + 147), .int (nI w)] M (Rj Q) := by
  obtain ⟨p1, p2, p3, p4, p5, p6⟩ := ok_part (w := w) hS
  obtain ⟨w1, w2⟩ := w4 w hw
  have hg := gcd_lt (a := mg (zS w S)) p3 p4
  have hne : ¬ lN (Nat.gcd (mg (zS w S)) (mg S.2.2)) = 0 := by
    rw [show (0 : Int64) = lN 0 from rfl, pk_lEQ hg.2 (by omega)]; omega
  refine up1 (P := fun d => C G Y_X12_part d _ M (Rj Q)) (fun e => b_X12_part (d := e + 1) hL ?_) hd
  have mid : L_X12_part_16 G (e + 1) Q (nI w) (zS w S) M := by
    refine b_X12_part_16 hL ?_
    rw [h2, p6]
    refine s_common (by omega) hL p1 (fun hp => ((ab_eq _).1 hp).trans p2) (fun hp => ((ab_eq _).2 hp).trans p2) p4 ⟨rfl, fun hp => ⟨hne, ?_⟩, fun hp => ⟨hne, ?_⟩⟩
    · rw [w2] at hp
      unfold pvS at h
      rw [if_neg hp] at h
      rw [h2]; exact h
    · rw [w2] at hp
      unfold pvS at h
      rw [if_pos hp] at h
      exact h
  rw [h0, h1]
  unfold zS at mid
  refine ⟨fun hp => ?_, fun hp => ?_⟩
  · rw [w1] at hp
    rw [if_neg (by omega)] at mid; exact mid
  · rw [w1] at hp
    rw [if_pos (by omega)] at mid; exact mid
abbrev farT (x y : Int32) : Prop := (x < -9999 ∨ 9999 < x) ∨ (y < -9999 ∨ 9999 < y)
theorem s_canBeTraced {G : MG} {d : Nat} {Q : Int32 → Mm → Prop} {M : Mm} {c : Nat} {x y : Int32} (hd : 2 ≤ d) (hL : Lay c M) (h0 : farT x y → Q 0 M) (h1 : ¬ farT x y → Q 1 M) : C G Y_X11_canBeTraced d [.int x, .int y] M (Ri Q) := by
  refine up1 (P := fun d => C G Y_X11_canBeTraced d _ M (Ri Q)) (fun e => b_X11_canBeTraced (d := e + 1) hL ?_) hd
  refine s_isWithin (by omega) hL ⟨rfl, fun h => h0 (.inl (if01 h)), fun h => ?_⟩
  exact s_isWithin (by omega) hL ⟨rfl, fun h' => h0 (.inr (if01 h')), fun h' => h1 (by rintro (h2 | h2); exact if02 h h2; exact if02 h' h2)⟩
theorem s_canTrace {G : MG} {d : Nat} {Q : Int32 → Mm → Prop} {M : Mm} {c : Nat} {x y z : Int32} (hd : 2 ≤ d) (hL : Lay c M) (h0 : farT x y ∨ (z < 0 ∨ 3 < z) → Q 0 M) (h1 : ¬ farT x y → ¬ (z < 0 ∨ 3 < z) → Q 1 M) : C G Y_X12_canTrace d [.int x, .int y, .int z] M (Ri Q) := by
  refine up1 (P := fun d => C G Y_X12_canTrace d _ M (Ri Q)) (fun e => b_X12_canTrace (d := e + 1) hL ?_) hd
  refine s_within (by omega) hL ⟨rfl, fun h => h0 (.inl (.inl (if01 h))), fun h => ?_⟩
  refine s_within (by omega) hL ⟨rfl, fun h' => h0 (.inl (.inr (if01 h'))), fun h' => ?_⟩
  exact s_within (by omega) hL ⟨rfl, fun h2 => h0 (.inr (if01 h2)), fun h2 => h1 (by rintro (h3 | h3); exact if02 h h3; exact if02 h' h3) (if02 h2)⟩
def GoodT (M : Mm) (n : Nat) (x1 x2 x3 x4 : Int32) (a w : Nat) : Prop := a < n ∧ x1 = nI a ∧ ¬ farT x2 x3 ∧ w < 4 ∧ x4 = nI w ∧ ¬ outR M a (x2.toInt64, x3.toInt64, 1)
theorem wb_k (x : Int32) : ∃ n : Nat, n < 2 ^ 32 ∧ x = nI n := by
  refine ⟨x.toBitVec.toNat, x.toBitVec.isLt, ?_⟩
  apply Int32.toBitVec_inj.mp
  apply BitVec.eq_of_toNat_eq
  rw [pk_tn x.toBitVec.isLt]
theorem ok_tr {M : Mm} {c a i : Nat} {S : S3} (hi : i < 4) (hk : ArmK M c a) (hS : okS i S) (ho : ¬ outR M a S) : okS (i + 1) (cpyR M a (ar M a 13) S) := by
  obtain ⟨-, ⟨-, -, -, -, -, ⟨re, -, hre, ere⟩, -, -⟩, ⟨⟨-, P, -, hP, eP⟩, ⟨-, Q, hQ1, hQ, eQ⟩, ⟨-, qu, -, hqu, equ⟩, ⟨-, px, -, hpx, epx⟩, ⟨-, py, -, hpy, epy⟩, ⟨-, t, -, ht, et⟩⟩⟩ := hk
  have hin : inS (ar M a 9) (ar M a 10) (ar M a 11) S := Classical.not_not.mp ho
  unfold cpyR
  rw [show ar M a 9 = nI px from epx, show ar M a 10 = nI py from epy, show ar M a 11 = nI re from ere] at hin
  obtain ⟨kd, -, ek⟩ := wb_k (ar M a 0)
  rw [ek, show ar M a 9 = nI px from epx, show ar M a 10 = nI py from epy, show ar M a 8 = nI qu from equ, show ar M a 6 = nI P from eP, show ar M a 7 = nI Q from eQ, show ar M a 13 = nI t from et]
  exact ok_cpy hi hS hpx hpy hP hQ1 hQ ht hre hin
