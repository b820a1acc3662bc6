/-! ===== how large the spot's numbers grow ===== -/
theorem lI_lN (n : Nat) : lN n = Int64.ofInt n := by
  unfold lN
  rw [Int64.ofInt_eq_ofNat]
theorem lI_t {z : Int} (h : z.natAbs < 2 ^ 62) : (Int64.ofInt z).toInt = z := Int64.toInt_ofInt_of_le (by omega) (by omega)
theorem nI_lI {n : Nat} (h : n < 2 ^ 31) : (nI n).toInt64 = Int64.ofInt n := by rw [nI_l h, lI_lN]
theorem abS_lI {z : Int} (h : z.natAbs < 2 ^ 62) : abS (Int64.ofInt z) = Int64.ofInt (z.natAbs : Int) := by
  unfold abS
  by_cases h0 : 0 < Int64.ofInt z
  · rw [if_pos h0]
    rw [Int64.lt_iff_toInt_lt, lI_t h, Int64.toInt_zero] at h0
    congr 1
    omega
  · rw [if_neg h0]
    rw [Int64.lt_iff_toInt_lt, lI_t h, Int64.toInt_zero] at h0
    rw [← Int64.ofInt_neg]
    congr 1
    omega
theorem dS_lI {p : Nat} {X : Int} {B : Nat} (hp : p < 2 ^ 31) : dS (nI p) (Int64.ofInt X) (lN B) = Int64.ofInt (X - (p * B : Nat)) := by
  unfold dS
  rw [nI_lI hp, lI_lN, ← Int64.ofInt_mul, ← Int64.ofInt_sub]
  congr 1
theorem in_lI {px py re : Nat} {X Y : Int} {B : Nat} (hpx : px ≤ 99) (hpy : py ≤ 99) (hre : re ≤ 200) (hB : B ≤ 729000) (hX : X.natAbs ≤ 9999 * B) (hY : Y.natAbs ≤ 9999 * B)
    (h : inS (nI px) (nI py) (nI re) (Int64.ofInt X, Int64.ofInt Y, lN B)) : (X - (px * B : Nat)).natAbs + (Y - (py * B : Nat)).natAbs ≤ 200 * B := by
  have h1 : px * B ≤ 99 * B := Nat.mul_le_mul_right B hpx
  have h2 : py * B ≤ 99 * B := Nat.mul_le_mul_right B hpy
  have h3 : re * B ≤ 200 * B := Nat.mul_le_mul_right B hre
  have b1 : (X - (px * B : Nat)).natAbs < 2 ^ 61 := by omega
  have b2 : (Y - (py * B : Nat)).natAbs < 2 ^ 61 := by omega
  unfold inS at h
  rw [dS_lI (by omega), dS_lI (by omega), abS_lI (by omega), abS_lI (by omega), ← Int64.ofInt_add, nI_lI (by omega), lI_lN, ← Int64.ofInt_mul, Int64.le_iff_toInt_le] at h
  have e : ((re : Int) * (B : Int)) = ((re * B : Nat) : Int) := by rw [Int.natCast_mul]
  rw [e, lI_t (by omega), lI_t (by omega)] at h
  omega
theorem rot_lI : ∀ (k : Nat) (u v : Int) (D : Nat), u.natAbs ≤ D → v.natAbs ≤ D → ∃ u' v' : Int, rotN k (Int64.ofInt u, Int64.ofInt v) = (Int64.ofInt u', Int64.ofInt v') ∧ u'.natAbs ≤ D ∧ v'.natAbs ≤ D := by
  intro k
  induction k with
  | zero => intro u v D h1 h2; exact ⟨u, v, rfl, h1, h2⟩
  | succ k ih =>
    intro u v D h1 h2
    unfold rotN
    obtain ⟨u', v', e, h3, h4⟩ := ih (-v) u D (by omega) h1
    refine ⟨u', v', ?_, h3, h4⟩
    rw [← e, Int64.ofInt_neg]
def okS (i : Nat) (S : S3) : Prop := ∃ (X Y : Int) (B : Nat), S = (Int64.ofInt X, Int64.ofInt Y, lN B) ∧ 1 ≤ B ∧ B ≤ 90 ^ i ∧ X.natAbs ≤ 9999 * B ∧ Y.natAbs ≤ 9999 * B
theorem ok_cpy {i : Nat} {S : S3} {px py kd qu P Q t re : Nat} (hi : i < 4) (hS : okS i S) (hpx : px ≤ 99) (hpy : py ≤ 99) (hP : P ≤ 9) (hQ1 : 1 ≤ Q) (hQ : Q ≤ 9) (ht : t ≤ 9) (hre : re ≤ 200) (hin : inS (nI px) (nI py) (nI re) S) :
    okS (i + 1) (cpy (nI px) (nI py) (nI kd) (nI qu) (nI P) (nI Q) (nI t) S) := by
  obtain ⟨X, Y, B, rfl, hB1, hB, hX, hY⟩ := hS
  have h3 : (90 : Nat) ^ i ≤ 90 ^ 3 := Nat.pow_le_pow_right (by omega) (by omega)
  have hB3 : B ≤ 729000 := by
    have : (90 : Nat) ^ 3 = 729000 := by decide
    omega
  have hd := in_lI hpx hpy hre hB3 hX hY hin
  unfold cpy
  have e1 : (if nI kd = 1 then -(dS (nI px) (Int64.ofInt X) (lN B)) else dS (nI px) (Int64.ofInt X) (lN B)) = Int64.ofInt (if nI kd = 1 then -(X - (px * B : Nat)) else X - (px * B : Nat)) := by
    rw [dS_lI (by omega)]
    by_cases h : nI kd = 1
    · rw [if_pos h, if_pos h, Int64.ofInt_neg]
    · rw [if_neg h, if_neg h]
  have b1 : (if nI kd = 1 then -(X - (px * B : Nat)) else X - (px * B : Nat)).natAbs ≤ 200 * B := by
    by_cases h : nI kd = 1
    · rw [if_pos h]; omega
    · rw [if_neg h]; omega
  show okS (i + 1) (finS (nI px) (nI py) (nI P) (nI Q) (nI t) (lN B) (rotN (nI qu).toNatClampNeg (if nI kd = 1 then -(dS (nI px) (Int64.ofInt X) (lN B)) else dS (nI px) (Int64.ofInt X) (lN B), dS (nI py) (Int64.ofInt Y) (lN B))))
  rw [e1, dS_lI (p := py) (by omega)]
  obtain ⟨u, v, er, hu, hv⟩ := rot_lI (nI qu).toNatClampNeg _ (Y - (py * B : Nat)) (200 * B) b1 (by omega)
  rw [er]
  unfold finS
  have eB : lN B * 10 * (nI Q).toInt64 = lN (B * 10 * Q) := by
    rw [nI_l (by omega), show (10 : Int64) = lN 10 from rfl, lN_mul, lN_mul]
  have ex : ∀ p : Nat, p ≤ 99 → ∀ w : Int, (nI p).toInt64 * lN (B * 10 * Q) + Int64.ofInt w * (nI P).toInt64 = Int64.ofInt ((p * (B * 10 * Q) : Nat) + w * P) := by
    intro p hp w
    rw [nI_lI (by omega), nI_lI (by omega), lI_lN, ← Int64.ofInt_mul, ← Int64.ofInt_mul, ← Int64.ofInt_add]
    congr 1
  have e10 : (10 : Int64) * Int64.ofInt u + Int64.ofInt v * (nI t).toInt64 = Int64.ofInt (10 * u + v * t) := by
    rw [nI_lI (by omega), show (10 : Int64) = Int64.ofInt 10 from rfl, ← Int64.ofInt_mul, ← Int64.ofInt_mul, ← Int64.ofInt_add]
  have e10' : (10 : Int64) * Int64.ofInt v = Int64.ofInt (10 * v) := by
    rw [show (10 : Int64) = Int64.ofInt 10 from rfl, ← Int64.ofInt_mul]
  show okS (i + 1) ((nI px).toInt64 * (lN B * 10 * (nI Q).toInt64) + (10 * Int64.ofInt u + Int64.ofInt v * (nI t).toInt64) * (nI P).toInt64, (nI py).toInt64 * (lN B * 10 * (nI Q).toInt64) + 10 * Int64.ofInt v * (nI P).toInt64, lN B * 10 * (nI Q).toInt64)
  rw [eB, e10, e10', ex px hpx, ex py hpy]
  have q1 : B * 10 * 1 ≤ B * 10 * Q := Nat.mul_le_mul_left _ hQ1
  have q2 : B * 10 * Q ≤ B * 10 * 9 := Nat.mul_le_mul_left _ hQ
  have hp : (90 : Nat) ^ (i + 1) = 90 ^ i * 90 := Nat.pow_succ ..
  have vt : (v * (t : Int)).natAbs ≤ 200 * B * 9 := by
    rw [Int.natAbs_mul]
    exact Nat.mul_le_mul hv (by omega)
  have w1 : (10 * u + v * (t : Int)).natAbs ≤ 3800 * B := by omega
  have w2 : ((10 * u + v * (t : Int)) * (P : Int)).natAbs ≤ 3800 * B * 9 := by
    rw [Int.natAbs_mul]
    exact Nat.mul_le_mul w1 (by omega)
  have w3 : (10 * v * (P : Int)).natAbs ≤ 3800 * B * 9 := by
    rw [Int.natAbs_mul]
    exact Nat.mul_le_mul (by omega) (by omega)
  have p1 : px * (B * 10 * Q) ≤ 99 * (B * 10 * Q) := Nat.mul_le_mul_right _ hpx
  have p2 : py * (B * 10 * Q) ≤ 99 * (B * 10 * Q) := Nat.mul_le_mul_right _ hpy
  refine ⟨_, _, B * 10 * Q, rfl, by omega, by omega, ?_, ?_⟩
  · generalize (10 * u + v * (t : Int)) * (P : Int) = w at w2
    generalize px * (B * 10 * Q) = z at p1
    generalize B * 10 * Q = BQ at q1 q2 p1
    omega
  · generalize 10 * v * (P : Int) = w at w3
    generalize py * (B * 10 * Q) = z at p2
    generalize B * 10 * Q = BQ at q1 q2 p2
    omega
theorem ok_0 {x y : Int32} (hx : ¬ (x < -9999 ∨ 9999 < x)) (hy : ¬ (y < -9999 ∨ 9999 < y)) : okS 0 (x.toInt64, y.toInt64, 1) := by
  have e : ∀ z : Int32, z.toInt64 = Int64.ofInt z.toInt := fun z => by
    apply Int64.toInt_inj.mp
    have := z.toInt_lt
    have := z.le_toInt
    rw [Int32.toInt_toInt64, Int64.toInt_ofInt_of_le (by omega) (by omega)]
  have b : ∀ z : Int32, ¬ (z < -9999 ∨ 9999 < z) → z.toInt.natAbs ≤ 9999 := fun z h => by
    have h1 : ¬ z < -9999 := fun h' => h (.inl h')
    have h2 : ¬ 9999 < z := fun h' => h (.inr h')
    rw [Int32.lt_iff_toInt_lt] at h1 h2
    have a1 : (-9999 : Int32).toInt = -9999 := by decide
    have a2 : (9999 : Int32).toInt = 9999 := by decide
    omega
  refine ⟨x.toInt, y.toInt, 1, by rw [e, e]; rfl, by omega, by omega, ?_, ?_⟩
  · have := b x hx; omega
  · have := b y hy; omega
