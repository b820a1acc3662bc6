/-! ===== descent: numbers ===== -/
def W7 (k : Nat) : Nat := [117649, 16807, 2401, 343, 49, 7, 1].getD k 0
def dg (N k : Nat) : Nat := N / W7 k % 7
theorem lt7 {k : Nat} (h : k < 7) : k = 0 ∨ k = 1 ∨ k = 2 ∨ k = 3 ∨ k = 4 ∨ k = 5 ∨ k = 6 := by omega
theorem W7_0 : W7 0 = 117649 := rfl
theorem W7_1 : W7 1 = 16807 := rfl
theorem W7_2 : W7 2 = 2401 := rfl
theorem W7_3 : W7 3 = 343 := rfl
theorem W7_4 : W7 4 = 49 := rfl
theorem W7_5 : W7 5 = 7 := rfl
theorem W7_6 : W7 6 = 1 := rfl
theorem W7_pow : ∀ k, k < 7 → W7 k = 7 ^ (6 - k) := by decide +kernel
theorem dg_lt (N k : Nat) : dg N k < 7 := Nat.mod_lt _ (by omega)
theorem sm7 (f : Nat → Nat) : sm f 7 = f 0 + f 1 + f 2 + f 3 + f 4 + f 5 + f 6 := by
  show 0 + f 0 + f 1 + f 2 + f 3 + f 4 + f 5 + f 6 = _
  rw [Nat.zero_add]
theorem dg_sum (N : Nat) : N / 823543 * 823543 + sm (fun m => dg N m * W7 m) 7 = N := by
  rw [sm7]
  show N / 823543 * 823543 + (dg N 0 * 117649 + dg N 1 * 16807 + dg N 2 * 2401 + dg N 3 * 343 + dg N 4 * 49 + dg N 5 * 7 + dg N 6 * 1) = N
  have h0 : dg N 0 = N / 117649 % 7 := rfl
  have h1 : dg N 1 = N / 16807 % 7 := rfl
  have h2 : dg N 2 = N / 2401 % 7 := rfl
  have h3 : dg N 3 = N / 343 % 7 := rfl
  have h4 : dg N 4 = N / 49 % 7 := rfl
  have h5 : dg N 5 = N / 7 % 7 := rfl
  have h6 : dg N 6 = N % 7 := by show N / 1 % 7 = _; rw [Nat.div_one]
  have e5 : N / 7 / 7 = N / 49 := by rw [Nat.div_div_eq_div_mul]
  have e4 : N / 49 / 7 = N / 343 := by rw [Nat.div_div_eq_div_mul]
  have e3 : N / 343 / 7 = N / 2401 := by rw [Nat.div_div_eq_div_mul]
  have e2 : N / 2401 / 7 = N / 16807 := by rw [Nat.div_div_eq_div_mul]
  have e1 : N / 16807 / 7 = N / 117649 := by rw [Nat.div_div_eq_div_mul]
  have e0 : N / 117649 / 7 = N / 823543 := by rw [Nat.div_div_eq_div_mul]
  have f6 := Nat.div_add_mod N 7
  have f5 := Nat.div_add_mod (N / 7) 7
  have f4 := Nat.div_add_mod (N / 49) 7
  have f3 := Nat.div_add_mod (N / 343) 7
  have f2 := Nat.div_add_mod (N / 2401) 7
  have f1 := Nat.div_add_mod (N / 16807) 7
  have f0 := Nat.div_add_mod (N / 117649) 7
  rw [e5] at f5; rw [e4] at f4; rw [e3] at f3; rw [e2] at f2; rw [e1] at f1; rw [e0] at f0
  rw [← h6] at f6; rw [← h5] at f5; rw [← h4] at f4; rw [← h3] at f3; rw [← h2] at f2; rw [← h1] at f1; rw [← h0] at f0
  generalize N / 823543 = q0 at *
  generalize N / 117649 = q1 at *
  generalize N / 16807 = q2 at *
  generalize N / 2401 = q3 at *
  generalize N / 343 = q4 at *
  generalize N / 49 = q5 at *
  generalize N / 7 = q6 at *
  clear h0 h1 h2 h3 h4 h5 h6 e0 e1 e2 e3 e4 e5
  generalize dg N 0 = d0 at *
  generalize dg N 1 = d1 at *
  generalize dg N 2 = d2 at *
  generalize dg N 3 = d3 at *
  generalize dg N 4 = d4 at *
  generalize dg N 5 = d5 at *
  generalize dg N 6 = d6 at *
  omega
/-- a first map and a row, as one number -/
def num (f : Nat) (r : Nat → Nat) : Nat := f * 823543 + sm (fun m => r m * W7 m) 7
theorem num_dec {f : Nat} {r : Nat → Nat} (hf : f < 7) (hr : ∀ k, k < 7 → r k < 7) : num f r < 5764801 ∧ num f r / 823543 = f ∧ ∀ k, k < 7 → dg (num f r) k = r k := by
  have e : num f r = f * 823543 + (r 0 * 117649 + r 1 * 16807 + r 2 * 2401 + r 3 * 343 + r 4 * 49 + r 5 * 7 + r 6) := by
    unfold num
    rw [sm7]
    show f * 823543 + (r 0 * 117649 + r 1 * 16807 + r 2 * 2401 + r 3 * 343 + r 4 * 49 + r 5 * 7 + r 6 * 1) = _
    rw [Nat.mul_one]
  have h0 := hr 0 (by omega)
  have h1 := hr 1 (by omega)
  have h2 := hr 2 (by omega)
  have h3 := hr 3 (by omega)
  have h4 := hr 4 (by omega)
  have h5 := hr 5 (by omega)
  have h6 := hr 6 (by omega)
  generalize num f r = N at *
  refine ⟨by omega, by omega, fun k hk => ?_⟩
  unfold dg
  rcases lt7 hk with rfl | rfl | rfl | rfl | rfl | rfl | rfl
  · show N / 117649 % 7 = r 0; omega
  · show N / 16807 % 7 = r 1; omega
  · show N / 2401 % 7 = r 2; omega
  · show N / 343 % 7 = r 3; omega
  · show N / 49 % 7 = r 4; omega
  · show N / 7 % 7 = r 5; omega
  · show N / 1 % 7 = r 6; omega
def stp (f : Nat) (r : Nat → Nat) (x : Nat) : Nat := if x = f then f else r x
def itr (f : Nat) (r : Nat → Nat) : Nat → Nat → Nat
  | 0, x => x
  | j + 1, x => itr f r j (stp f r x)
theorem stp_f (f : Nat) (r : Nat → Nat) : stp f r f = f := if_pos rfl
theorem itr_f (f : Nat) (r : Nat → Nat) : ∀ j, itr f r j f = f
  | 0 => rfl
  | j + 1 => by show itr f r j (stp f r f) = f; rw [stp_f]; exact itr_f f r j
theorem itr_add (f : Nat) (r : Nat → Nat) : ∀ i j x, itr f r (i + j) x = itr f r j (itr f r i x)
  | 0, j, x => by rw [Nat.zero_add]; rfl
  | i + 1, j, x => by
    rw [show i + 1 + j = (i + j) + 1 by omega]
    show itr f r (i + j) (stp f r x) = itr f r j (itr f r i (stp f r x))
    exact itr_add f r i j _
theorem itr_agree {f : Nat} {r r0 : Nat → Nat} {P : Nat → Prop} (hf : P f) (hP : ∀ m, P m → P (r0 m)) (hr : ∀ m, P m → r m = r0 m) : ∀ j m, P m → itr f r j m = itr f r0 j m
  | 0, _, _ => rfl
  | j + 1, m, hm => by
    have e : stp f r m = stp f r0 m := by unfold stp; rw [hr m hm]
    have p : P (stp f r0 m) := by
      unfold stp
      by_cases h : m = f
      · rw [if_pos h]; exact hf
      · rw [if_neg h]; exact hP m hm
    show itr f r j (stp f r m) = itr f r0 j (stp f r0 m)
    rw [e]
    exact itr_agree hf hP hr j _ p
def cst (un : Nat → Nat → Nat) (f : Nat) (r : Nat → Nat) (n : Nat) : Nat := sm (fun k => if k = f then 0 else un (r k) k) n
/-- a first map and a row that tell a descent -/
def Cd (n : Nat) (can : Nat → Nat → Prop) (N : Nat) : Prop :=
  N < 5764801 ∧ N / 823543 < n ∧ (∀ k, n ≤ k → k < 7 → dg N k = 0) ∧ (∀ k, k < n → dg N k < n) ∧ dg N (N / 823543) = N / 823543 ∧ (∀ k, k < n → k ≠ N / 823543 → dg N k ≠ k ∧ can (dg N k) k) ∧ ∀ m, m < n → itr (N / 823543) (dg N) n m = N / 823543
def keyN (n : Nat) (un : Nat → Nat → Nat) (N : Nat) : Nat := cst un (N / 823543) (dg N) n * 5764801 + N
def pr (un : Nat → Nat → Nat) (a b : Nat) : Nat := un a b * 5764801 + a * W7 b
/-- a set of maps told copy by copy -/
def Tt (n : Nat) (can : Nat → Nat → Prop) (un : Nat → Nat → Nat) : Nat → Nat → Nat → Prop
  | 0, S, x => ∃ f, f < n ∧ S = 2 ^ f ∧ x = f * 823543 + f * W7 f
  | k + 1, S, x => ∃ c a y, c < n ∧ S.testBit c = true ∧ a < n ∧ (dif S (2 ^ c)).testBit a = true ∧ can a c ∧ Tt n can un k (dif S (2 ^ c)) y ∧ x = y + pr un a c
def Tree (n : Nat) (can : Nat → Nat → Prop) (S f : Nat) (r : Nat → Nat) (k : Nat) : Prop :=
  f < n ∧ S.testBit f = true ∧ r f = f ∧ (∀ m, S.testBit m = true → r m < n ∧ S.testBit (r m) = true) ∧ (∀ m, S.testBit m = true → m ≠ f → r m ≠ m ∧ can (r m) m) ∧ (∀ m, S.testBit m = false → r m = 0) ∧ ∀ m, S.testBit m = true → ∃ j, j ≤ k ∧ itr f r j m = f
def cS (un : Nat → Nat → Nat) (S f : Nat) (r : Nat → Nat) (n : Nat) : Nat := sm (fun m => if S.testBit m = true ∧ m ≠ f then un (r m) m else 0) n
theorem bit_dif2 (S c m : Nat) : (dif S (2 ^ c)).testBit m = (S.testBit m && !decide (c = m)) := by rw [dif_bit, Nat.testBit_two_pow]
theorem Tt_tree {n : Nat} {can : Nat → Nat → Prop} {un : Nat → Nat → Nat} (hn : n ≤ 7) : ∀ k S x, Tt n can un k S x → ∃ f r, Tree n can S f r k ∧ x = cS un S f r n * 5764801 + num f r := by
  intro k
  induction k with
  | zero =>
    rintro S x ⟨f, hf, rfl, rfl⟩
    have bit : ∀ m, (2 ^ f).testBit m = true ↔ m = f := fun m => by rw [Nat.testBit_two_pow]; simp [eq_comm]
    refine ⟨f, fun m => if m = f then f else 0, ⟨hf, (bit f).mpr rfl, if_pos rfl, fun m hm => ?_, fun m hm h => absurd ((bit m).mp hm) h, fun m hm => if_neg (fun h => by rw [(bit m).mpr h] at hm; cases hm), fun m hm => ⟨0, Nat.le_refl 0, (bit m).mp hm⟩⟩, ?_⟩
    · have := (bit m).mp hm
      subst this
      show (if m = m then m else 0) < n ∧ (2 ^ m).testBit (if m = m then m else 0) = true
      rw [if_pos rfl]
      exact ⟨hf, hm⟩
    · have h1 : cS un (2 ^ f) f (fun m => if m = f then f else 0) n = 0 := sm_zero (fun m _ => if_neg (fun h => h.2 ((bit m).mp h.1)))
      have h2 : sm (fun m => (if m = f then f else 0) * W7 m) 7 = f * W7 f := by
        rw [sm_cong (g := fun m => if m = f then f * W7 f else 0) (fun m _ => ?_), sm_delta, if_pos (by omega)]
        by_cases e : m = f
        · subst e; rw [if_pos rfl, if_pos rfl]
        · rw [if_neg e, if_neg e, Nat.zero_mul]
      rw [h1]
      unfold num
      rw [h2]; omega
  | succ k ih =>
    rintro S x ⟨c, a, y, hc, hSc, ha, hSa, hcan, hT, rfl⟩
    obtain ⟨f, r0, ⟨t1, t2, t3, t4, t5, t6, t7⟩, rfl⟩ := ih _ _ hT
    have b0 : ∀ m, (dif S (2 ^ c)).testBit m = true ↔ (S.testBit m = true ∧ m ≠ c) := fun m => by
      rw [bit_dif2]
      by_cases e : c = m
      · subst e; simp
      · have e' : m ≠ c := fun h => e h.symm
        simp [e, e']
    have b1 : ∀ m, S.testBit m = true → m ≠ c → (dif S (2 ^ c)).testBit m = true := fun m h1 h2 => (b0 m).mpr ⟨h1, h2⟩
    have hfc : f ≠ c := ((b0 f).mp t2).2
    have hac : a ≠ c := ((b0 a).mp hSa).2
    have rc : ∀ m, m ≠ c → (if m = c then a else r0 m) = r0 m := fun m h => if_neg h
    have hr0c : r0 c = 0 := t6 c (by rw [bit_dif2]; simp)
    have agr : ∀ j m, (dif S (2 ^ c)).testBit m = true → itr f (fun m => if m = c then a else r0 m) j m = itr f r0 j m := itr_agree (P := fun m => (dif S (2 ^ c)).testBit m = true) t2 (fun m hm => (t4 m hm).2) (fun m hm => rc m ((b0 m).mp hm).2)
    refine ⟨f, fun m => if m = c then a else r0 m, ⟨t1, ((b0 f).mp t2).1, (rc f hfc).trans t3, fun m hm => ?_, fun m hm hmf => ?_, fun m hm => ?_, fun m hm => ?_⟩, ?_⟩
    · show (if m = c then a else r0 m) < n ∧ S.testBit (if m = c then a else r0 m) = true
      by_cases e : m = c
      · rw [if_pos e]; exact ⟨ha, ((b0 a).mp hSa).1⟩
      · rw [if_neg e]; exact ⟨(t4 m (b1 m hm e)).1, ((b0 _).mp (t4 m (b1 m hm e)).2).1⟩
    · show (if m = c then a else r0 m) ≠ m ∧ can (if m = c then a else r0 m) m
      by_cases e : m = c
      · rw [if_pos e]; subst e; exact ⟨hac, hcan⟩
      · rw [if_neg e]; exact t5 m (b1 m hm e) hmf
    · have e : m ≠ c := fun h => by rw [h, hSc] at hm; cases hm
      show (if m = c then a else r0 m) = 0
      rw [if_neg e]
      exact t6 m (by rw [bit_dif2, hm]; rfl)
    · by_cases e : m = c
      · obtain ⟨j, hj, hi⟩ := t7 a hSa
        refine ⟨j + 1, by omega, ?_⟩
        have : stp f (fun m => if m = c then a else r0 m) m = a := by
          unfold stp
          rw [if_neg (fun h => hfc (h.symm.trans e))]
          exact if_pos e
        show itr f _ j (stp f _ m) = f
        rw [this, agr j a hSa]; exact hi
      · obtain ⟨j, hj, hi⟩ := t7 m (b1 m hm e)
        exact ⟨j, by omega, by rw [agr j m (b1 m hm e)]; exact hi⟩
    · have h1 : cS un S f (fun m => if m = c then a else r0 m) n = cS un (dif S (2 ^ c)) f r0 n + un a c := by
        unfold cS
        rw [sm_cong (g := fun m => (if (dif S (2 ^ c)).testBit m = true ∧ m ≠ f then un (r0 m) m else 0) + (if m = c then un a c else 0)) (fun m _ => ?_), sm_add, sm_delta, if_pos hc]
        show (if S.testBit m = true ∧ m ≠ f then un (if m = c then a else r0 m) m else 0) = _
        by_cases e : m = c
        · have hmf : m ≠ f := fun h => hfc (h.symm.trans e)
          rw [if_pos e, if_pos e, if_pos ⟨by rw [e]; exact hSc, hmf⟩, if_neg (fun h => ((b0 m).mp h.1).2 e), e, Nat.zero_add]
        · rw [if_neg e, if_neg e, Nat.add_zero]
          by_cases g : S.testBit m = true ∧ m ≠ f
          · rw [if_pos g, if_pos ⟨b1 m g.1 e, g.2⟩]
          · rw [if_neg g, if_neg (fun h => g ⟨((b0 m).mp h.1).1, h.2⟩)]
      have h2 : num f (fun m => if m = c then a else r0 m) = num f r0 + a * W7 c := by
        unfold num
        rw [sm_cong (g := fun m => r0 m * W7 m + (if m = c then a * W7 c else 0)) (fun m _ => ?_), sm_add, sm_delta, if_pos (by omega)]
        · omega
        · show (if m = c then a else r0 m) * W7 m = _
          by_cases e : m = c
          · subst e; rw [if_pos rfl, if_pos rfl, hr0c]; omega
          · rw [if_neg e, if_neg e]; rfl
      rw [h1, h2]
      unfold pr
      rw [Nat.add_mul]; omega
def pop7 (s : Nat) : Nat := (s % 2) + (s / 2 % 2) + (s / 4 % 2) + (s / 8 % 2) + (s / 16 % 2) + (s / 32 % 2) + (s / 64 % 2)
theorem full_bit : ∀ n, n < 8 → ∀ m, m < 8 → ((2 ^ n - 1).testBit m = true ↔ m < n) := by decide +kernel
theorem full_bit' {n m : Nat} (hn : n ≤ 7) : (2 ^ n - 1).testBit m = true ↔ m < n := by
  by_cases h : m < 8
  · exact full_bit n (by omega) m h
  · constructor
    · intro g
      have : (2 ^ n - 1).testBit m = false := Nat.testBit_lt_two_pow (Nat.lt_of_lt_of_le (Nat.sub_lt (Nat.pow_pos (by omega)) (by omega)) (Nat.pow_le_pow_right (by omega) (by omega)))
      rw [this] at g; cases g
    · omega
theorem pop_full : ∀ n, n < 8 → ∀ S, S < 2 ^ n → (pop7 S = n → S = 2 ^ n - 1) ∧ (pop7 S < n → ∃ m, m < n ∧ S.testBit m = false) := by decide +kernel
theorem pop_or : ∀ S, S < 128 → ∀ c, c < 7 → S.testBit c = false → pop7 (S ||| 2 ^ c) = pop7 S + 1 := by decide +kernel
theorem pop_two : ∀ c, c < 7 → pop7 (2 ^ c) = 1 := by decide +kernel
theorem pw128 : ∀ n, n < 8 → 1 ≤ 2 ^ n ∧ 2 ^ n ≤ 128 := by decide +kernel
/-- from copies to a descent -/
theorem T_cd {n : Nat} {can : Nat → Nat → Prop} {un : Nat → Nat → Nat} (hn : n ≤ 7) {k x : Nat} (hk : k ≤ n) (h : Tt n can un k (2 ^ n - 1) x) : ∃ N, Cd n can N ∧ x = keyN n un N := by
  obtain ⟨f, r, ⟨t1, t2, t3, t4, t5, t6, t7⟩, rfl⟩ := Tt_tree hn k _ _ h
  have fb : ∀ m, (2 ^ n - 1).testBit m = true ↔ m < n := fun m => full_bit' hn
  have hr : ∀ k, k < 7 → r k < 7 := fun k hk => by
    by_cases h : k < n
    · have := (t4 k ((fb k).mpr h)).1; omega
    · rw [t6 k (by simpa using fun g => h ((fb k).mp g))]; omega
  obtain ⟨d1, d2, d3⟩ := num_dec (f := f) (by omega) hr
  have dr : ∀ m, m < n → dg (num f r) m = r m := fun m hm => d3 m (by omega)
  have ag : ∀ j m, m < n → itr f (dg (num f r)) j m = itr f r j m := itr_agree (P := fun m => m < n) t1 (fun m hm => (t4 m ((fb m).mpr hm)).1) dr
  refine ⟨num f r, ⟨d1, by rw [d2]; exact t1, fun k h1 h2 => ?_, fun k hk => ?_, by rw [d2, dr f t1]; exact t3, fun k hk hkf => ?_, fun m hm => ?_⟩, ?_⟩
  · rw [d3 k h2]
    refine t6 k ?_
    cases hb : (2 ^ n - 1).testBit k
    · rfl
    · have := (fb k).mp hb; omega
  · rw [dr k hk]; exact (t4 k ((fb k).mpr hk)).1
  · rw [d2] at hkf
    rw [dr k hk]; exact t5 k ((fb k).mpr hk) hkf
  · rw [d2, ag n m hm]
    obtain ⟨j, hj, hi⟩ := t7 m ((fb m).mpr hm)
    rw [show n = j + (n - j) by omega, itr_add, hi]
    exact itr_f f r _
  · unfold keyN
    rw [d2]
    have : cS un (2 ^ n - 1) f r n = cst un f (dg (num f r)) n := by
      unfold cS cst
      refine sm_cong (fun m hm => ?_)
      by_cases e : m = f
      · rw [if_neg (fun h => h.2 e), if_pos e]
      · rw [if_pos ⟨(fb m).mpr hm, e⟩, if_neg e, dr m hm]
    rw [this]
theorem T_lt {n : Nat} {can : Nat → Nat → Prop} {un : Nat → Nat → Nat} (hn : n ≤ 7) (hun : ∀ a b, un a b ≤ 8) {k S x : Nat} (h : Tt n can un k S x) : x < 1000000000 := by
  obtain ⟨f, r, ⟨t1, t2, t3, t4, t5, t6, t7⟩, rfl⟩ := Tt_tree hn k _ _ h
  have hr : ∀ k, k < 7 → r k < 7 := fun k hk => by
    cases h : S.testBit k
    · rw [t6 k h]; omega
    · have := (t4 k h).1; omega
  have d1 := (num_dec (f := f) (by omega) hr).1
  have : cS un S f r n ≤ n * 8 := sm_le (fun m _ => by
    show (if S.testBit m = true ∧ m ≠ f then un (r m) m else 0) ≤ 8
    split
    · exact hun _ _
    · omega)
  omega
theorem enters {n S f : Nat} {r : Nat → Nat} (hf : S.testBit f = true) (hr : ∀ m, m < n → r m < n) (hfn : f < n) : ∀ j x, x < n → S.testBit x = false → S.testBit (itr f r j x) = true → ∃ c, c < n ∧ S.testBit c = false ∧ S.testBit (r c) = true
  | 0, x, hx, h1, h2 => by
    have h2' : S.testBit x = true := h2
    rw [h1] at h2'; cases h2'
  | j + 1, x, hx, h1, h2 => by
    have hxf : x ≠ f := fun h => by rw [h, hf] at h1; cases h1
    have e : stp f r x = r x := if_neg hxf
    have h2' : S.testBit (itr f r j (stp f r x)) = true := h2
    rw [e] at h2'
    cases h : S.testBit (r x)
    · exact enters hf hr hfn j (r x) (hr x hx) h h2'
    · exact ⟨x, hx, h1, h⟩
/-- from a descent to copies -/
theorem cd_T {n : Nat} {can : Nat → Nat → Prop} {un : Nat → Nat → Nat} (hn : n ≤ 7) {N : Nat} (h : Cd n can N) : Tt n can un (n - 1) (2 ^ n - 1) (keyN n un N) := by
  obtain ⟨c1, c2, c3, c4, c5, c6, c7⟩ := h
  have key : ∀ i, i < n → ∃ S, S < 2 ^ n ∧ S.testBit (N / 823543) = true ∧ pop7 S = i + 1 ∧ Tt n can un i S (cS un S (N / 823543) (dg N) n * 5764801 + (N / 823543 * 823543 + sm (fun m => if S.testBit m = true then dg N m * W7 m else 0) 7)) := by
    intro i
    induction i with
    | zero =>
      intro _
      have bit : ∀ m, (2 ^ (N / 823543)).testBit m = true ↔ m = N / 823543 := fun m => by rw [Nat.testBit_two_pow]; simp [eq_comm]
      refine ⟨2 ^ (N / 823543), Nat.pow_lt_pow_right (by omega) c2, (bit _).mpr rfl, pop_two _ (by omega), N / 823543, c2, rfl, ?_⟩
      have h1 : cS un (2 ^ (N / 823543)) (N / 823543) (dg N) n = 0 := sm_zero (fun m _ => if_neg (fun h => h.2 ((bit m).mp h.1)))
      have h2 : sm (fun m => if (2 ^ (N / 823543)).testBit m = true then dg N m * W7 m else 0) 7 = N / 823543 * W7 (N / 823543) := by
        rw [sm_cong (g := fun m => if m = N / 823543 then N / 823543 * W7 (N / 823543) else 0) (fun m _ => ?_), sm_delta, if_pos (by omega)]
        by_cases e : m = N / 823543
        · rw [if_pos ((bit m).mpr e), if_pos e, e, c5]
        · rw [if_neg (fun h => e ((bit m).mp h)), if_neg e]
      rw [h1, h2]; omega
    | succ i ih =>
      intro hi
      obtain ⟨S, s1, s2, s3, s4⟩ := ih (by omega)
      have p128 := (pw128 n (by omega)).2
      obtain ⟨m0, hm0, hb0⟩ := (pop_full n (by omega) S s1).2 (by omega)
      obtain ⟨c, hc, hSc, hSr⟩ := enters s2 c4 c2 n m0 hm0 hb0 (by rw [c7 m0 hm0]; exact s2)
      have hcf : c ≠ N / 823543 := fun h => by rw [h, s2] at hSc; cases hSc
      have bo : ∀ m, (S ||| 2 ^ c).testBit m = true ↔ (S.testBit m = true ∨ m = c) := fun m => by
        rw [Nat.testBit_or, Nat.testBit_two_pow, Bool.or_eq_true, decide_eq_true_iff]
        exact or_congr Iff.rfl ⟨Eq.symm, Eq.symm⟩
      have hdif : dif (S ||| 2 ^ c) (2 ^ c) = S := by
        refine Nat.eq_of_testBit_eq (fun m => ?_)
        rw [bit_dif2, Nat.testBit_or, Nat.testBit_two_pow]
        by_cases e : c = m
        · subst e; simp [hSc]
        · simp [e]
      refine ⟨S ||| 2 ^ c, Nat.or_lt_two_pow s1 (Nat.pow_lt_pow_right (by omega) hc), (bo _).mpr (.inl s2), by rw [pop_or S (by omega) c (by omega) hSc, s3], c, dg N c, _, hc, (bo c).mpr (.inr rfl), c4 c hc, by rw [hdif]; exact hSr, (c6 c hc hcf).2, by rw [hdif]; exact s4, ?_⟩
      have h1 : cS un (S ||| 2 ^ c) (N / 823543) (dg N) n = cS un S (N / 823543) (dg N) n + un (dg N c) c := by
        unfold cS
        rw [sm_cong (g := fun m => (if S.testBit m = true ∧ m ≠ N / 823543 then un (dg N m) m else 0) + (if m = c then un (dg N c) c else 0)) (fun m _ => ?_), sm_add, sm_delta, if_pos hc]
        by_cases e : m = c
        · subst e
          rw [if_pos ⟨(bo m).mpr (.inr rfl), hcf⟩, if_neg (fun h => by rw [hSc] at h; cases h.1), if_pos rfl, Nat.zero_add]
        · rw [if_neg e, Nat.add_zero]
          by_cases g : S.testBit m = true ∧ m ≠ N / 823543
          · rw [if_pos g, if_pos ⟨(bo m).mpr (.inl g.1), g.2⟩]
          · rw [if_neg g, if_neg (fun h => g ⟨((bo m).mp h.1).resolve_right e, h.2⟩)]
      have h2 : sm (fun m => if (S ||| 2 ^ c).testBit m = true then dg N m * W7 m else 0) 7 = sm (fun m => if S.testBit m = true then dg N m * W7 m else 0) 7 + dg N c * W7 c := by
        rw [sm_cong (g := fun m => (if S.testBit m = true then dg N m * W7 m else 0) + (if m = c then dg N c * W7 c else 0)) (fun m _ => ?_), sm_add, sm_delta, if_pos (by omega)]
        by_cases e : m = c
        · subst e
          rw [if_pos ((bo m).mpr (.inr rfl)), if_neg (fun h => by rw [hSc] at h; cases h), if_pos rfl, Nat.zero_add]
        · rw [if_neg e, Nat.add_zero]
          by_cases g : S.testBit m = true
          · rw [if_pos g, if_pos ((bo m).mpr (.inl g))]
          · rw [if_neg g, if_neg (fun h => g (((bo m).mp h).resolve_right e))]
      rw [h1, h2]
      unfold pr
      rw [Nat.add_mul]; omega
  obtain ⟨S, s1, s2, s3, s4⟩ := key (n - 1) (by omega)
  have hS : S = 2 ^ n - 1 := (pop_full n (by omega) S s1).1 (by omega)
  subst hS
  have fb : ∀ m, (2 ^ n - 1).testBit m = true ↔ m < n := fun m => full_bit' hn
  have h1 : cS un (2 ^ n - 1) (N / 823543) (dg N) n = cst un (N / 823543) (dg N) n := by
    unfold cS cst
    refine sm_cong (fun m hm => ?_)
    by_cases e : m = N / 823543
    · rw [if_neg (fun h => h.2 e), if_pos e]
    · rw [if_pos ⟨(fb m).mpr hm, e⟩, if_neg e]
  have h2 : sm (fun m => if (2 ^ n - 1).testBit m = true then dg N m * W7 m else 0) 7 = sm (fun m => dg N m * W7 m) 7 := by
    refine sm_cong (fun m hm => ?_)
    by_cases g : m < n
    · rw [if_pos ((fb m).mpr g)]
    · rw [if_neg (fun h => g ((fb m).mp h)), c3 m (by omega) hm, Nat.zero_mul]
  rw [h1, h2, dg_sum] at s4
  exact s4
