/-! ===== readers: the small methods' specs ===== -/
theorem ix1 {j w : Nat} (hj : j < 6) (hw : w < 14) : vp_in ((1 + (14 * nI j)) + nI w) 660 ∧ ((1 + (14 * nI j)) + nI w).toNatClampNeg = 1 + 14 * j + w := by
  have h : (1 + (14 * nI j)) + nI w = nI (1 + 14 * j + w) := by
    rw [show (14 : Int32) = nI 14 from rfl, show (1 : Int32) = nI 1 from rfl, pk_mul, nI_add, nI_add]
  rw [h]
  exact ⟨vp_in_nI (by omega) (by omega), nI_clamp (by omega)⟩
theorem ix2 {m w : Nat} (hm : m < 7) (hw : w < 16) : vp_in ((1 + (16 * nI m)) + nI w) 240 ∧ ((1 + (16 * nI m)) + nI w).toNatClampNeg = 1 + 16 * m + w := by
  have h : (1 + (16 * nI m)) + nI w = nI (1 + 16 * m + w) := by
    rw [show (16 : Int32) = nI 16 from rfl, show (1 : Int32) = nI 1 from rfl, pk_mul, nI_add, nI_add]
  rw [h]
  exact ⟨vp_in_nI (by omega) (by omega), nI_clamp (by omega)⟩
theorem ix3 {q w : Nat} (hq : q < 4) (hw : w < 3) : vp_in ((90 + (3 * nI q)) + nI w) 660 ∧ ((90 + (3 * nI q)) + nI w).toNatClampNeg = 90 + 3 * q + w := by
  have h : (90 + (3 * nI q)) + nI w = nI (90 + 3 * q + w) := by
    rw [show (3 : Int32) = nI 3 from rfl, show (90 : Int32) = nI 90 from rfl, pk_mul, nI_add, nI_add]
  rw [h]
  exact ⟨vp_in_nI (by omega) (by omega), nI_clamp (by omega)⟩
theorem ix3' {q : Nat} (hq : q < 4) : vp_in (90 + (3 * nI q)) 660 ∧ (90 + (3 * nI q)).toNatClampNeg = 90 + 3 * q := by
  have h : 90 + (3 * nI q) = nI (90 + 3 * q) := by
    rw [show (3 : Int32) = nI 3 from rfl, show (90 : Int32) = nI 90 from rfl, pk_mul, nI_add]
  rw [h]
  exact ⟨vp_in_nI (by omega) (by omega), nI_clamp (by omega)⟩
theorem ix4 {i : Nat} (hi : i < 5) : vp_in (86 + nI i) 660 ∧ (86 + nI i).toNatClampNeg = 86 + i := by
  have h : 86 + nI i = nI (86 + i) := by
    rw [show (86 : Int32) = nI 86 from rfl, nI_add]
  rw [h]
  exact ⟨vp_in_nI (by omega) (by omega), nI_clamp (by omega)⟩
theorem inN {j N : Nat} (h : j < N) (hN : N < 1000) : vp_in (nI j) N ∧ (nI j).toNatClampNeg = j := ⟨vp_in_nI h (by omega), nI_clamp (by omega)⟩
/-- an int against a count -/
theorem sp_ix (x : Int32) {n : Nat} (hn : n < 2 ^ 31) : (x < 0 ∨ ¬ x < 0 ∧ nI n ≤ x) ∨ ∃ j : Nat, j < n ∧ x = nI j ∧ ¬ x < 0 ∧ ¬ nI n ≤ x := by
  rcases pk_ix x hn with h | h | ⟨j, hj, rfl⟩
  · exact .inl (.inl h)
  · by_cases h0 : x < 0
    · exact .inl (.inl h0)
    · exact .inl (.inr ⟨h0, h⟩)
  · exact .inr ⟨j, hj, rfl, nI_pos (by omega), nI_ge hj hn⟩
theorem s_of {G : MG} {d : Nat} {Q : Int32 → Mm → Prop} {M : Mm} {c j : Nat} {x2 : Int32} (w : Nat) (hd : 1 ≤ d) (hL : Lay c M) (hj : j < 6) (hw : w < 14) (hx : x2 = nI w) (h : Q (M.1 153 (1 + 14 * j + w)) M) : C G Y_X12_of d [.ref (G.b + 147), .int (nI j), .int x2] M (Ri Q) := by
  subst hx
  obtain ⟨h1, h2⟩ := ix1 hj hw
  refine up1 (P := fun d => C G Y_X12_of d _ M (Ri Q)) (fun e => b_X12_of hL ⟨h1, ?_⟩) hd
  rw [h2]; exact h
theorem s_lays {G : MG} {d : Nat} {Q : Mm → Prop} {M : Mm} {c j : Nat} {x2 x3 : Int32} (w : Nat) (hd : 1 ≤ d) (hL : Lay c M) (hj : j < 6) (hw : w < 14) (hx : x2 = nI w) (h : Q (sI M 153 (1 + 14 * j + w) x3)) : C G Y_X12_lays d [.ref (G.b + 147), .int (nI j), .int x2, .int x3] M (Rv Q) := by
  subst hx
  obtain ⟨h1, h2⟩ := ix1 hj hw
  refine up1 (P := fun d => C G Y_X12_lays d _ M (Rv Q)) (fun e => b_X12_lays hL ⟨h1, ?_⟩) hd
  intro M1 e1; subst e1
  rw [h2]; exact h
theorem s_mapOf {G : MG} {d : Nat} {Q : Int32 → Mm → Prop} {M : Mm} {c m : Nat} {x2 : Int32} (w : Nat) (hd : 1 ≤ d) (hL : Lay c M) (hm : m < 7) (hw : w < 16) (hx : x2 = nI w) (h : Q (M.1 154 (1 + 16 * m + w)) M) : C G Y_X12_mapOf d [.ref (G.b + 147), .int (nI m), .int x2] M (Ri Q) := by
  subst hx
  obtain ⟨h1, h2⟩ := ix2 hm hw
  refine up1 (P := fun d => C G Y_X12_mapOf d _ M (Ri Q)) (fun e => b_X12_mapOf hL ⟨h1, ?_⟩) hd
  rw [h2]; exact h
theorem s_arms {G : MG} {d : Nat} {Q : Int32 → Mm → Prop} {M : Mm} {c : Nat} (hd : 1 ≤ d) (hL : Lay c M) (h : Q (M.1 153 0) M) : C G Y_X12_arms d [.ref (G.b + 147)] M (Ri Q) :=
  up1 (P := fun d => C G Y_X12_arms d _ M (Ri Q)) (fun _ => b_X12_arms hL h) hd
theorem s_chained {G : MG} {d : Nat} {Q : Int32 → Mm → Prop} {M : Mm} {c : Nat} (hd : 1 ≤ d) (hL : Lay c M) (h : Q (M.1 153 85) M) : C G Y_X12_chained d [.ref (G.b + 147)] M (Ri Q) :=
  up1 (P := fun d => C G Y_X12_chained d _ M (Ri Q)) (fun _ => b_X12_chained hL h) hd
theorem s_chainOf {G : MG} {d : Nat} {Q : Int32 → Mm → Prop} {M : Mm} {c i : Nat} (hd : 1 ≤ d) (hL : Lay c M) (hi : i < 5) (h : Q (M.1 153 (86 + i)) M) : C G Y_X12_chainOf d [.ref (G.b + 147), .int (nI i)] M (Ri Q) := by
  obtain ⟨h1, h2⟩ := ix4 hi
  refine up1 (P := fun d => C G Y_X12_chainOf d _ M (Ri Q)) (fun e => b_X12_chainOf hL ⟨h1, ?_⟩) hd
  rw [h2]; exact h
theorem s_within {G : MG} {d : Nat} {Q : Int32 → Mm → Prop} {M : Mm} {c : Nat} {x l u : Int32} (hd : 1 ≤ d) (hL : Lay c M) (h : Q (if x < l ∨ u < x then 0 else 1) M) : C G Y_X12_within d [.int x, .int l, .int u] M (Ri Q) := by
  refine up1 (P := fun d => C G Y_X12_within d _ M (Ri Q)) (fun e => b_X12_within hL ⟨fun h1 => ?_, fun h1 => ⟨fun h2 => ?_, fun h2 => ?_⟩⟩) hd
  · rwa [if_pos (.inl h1)] at h
  · rwa [if_pos (.inr h2)] at h
  · rwa [if_neg (by rintro (h | h); exact h1 h; exact h2 h)] at h
theorem s_isWithin {G : MG} {d : Nat} {Q : Int32 → Mm → Prop} {M : Mm} {c : Nat} {x l u : Int32} (hd : 1 ≤ d) (hL : Lay c M) (h : Q (if x < l ∨ u < x then 0 else 1) M) : C G Y_X11_isWithin d [.int x, .int l, .int u] M (Ri Q) := by
  refine up1 (P := fun d => C G Y_X11_isWithin d _ M (Ri Q)) (fun e => b_X11_isWithin hL ⟨fun h1 => ?_, fun h1 => ⟨fun h2 => ?_, fun h2 => ?_⟩⟩) hd
  · rwa [if_pos (.inl h1)] at h
  · rwa [if_pos (.inr h2)] at h
  · rwa [if_neg (by rintro (h | h); exact h1 h; exact h2 h)] at h
theorem s_isArm {G : MG} {d : Nat} {Q : Int32 → Mm → Prop} {M : Mm} {c : Nat} {x : Int32} (hd : 2 ≤ d) (hL : Lay c M) (h : Q (if x < 0 ∨ M.1 153 0 ≤ x then 0 else 1) M) : C G Y_X12_isArm d [.ref (G.b + 147), .int x] M (Ri Q) := by
  refine up1 (P := fun d => C G Y_X12_isArm d _ M (Ri Q)) (fun e => b_X12_isArm (d := e + 1) hL ⟨fun h1 => ?_, fun h1 => s_arms (by omega) hL ⟨rfl, fun h2 => ?_, fun h2 => ?_⟩⟩) hd
  · rwa [if_pos (.inl h1)] at h
  · rwa [if_pos (.inr h2)] at h
  · rwa [if_neg (by rintro (h | h); exact h1 h; exact h2 h)] at h
theorem s_hasArm {G : MG} {d : Nat} {Q : Int32 → Mm → Prop} {M : Mm} {c o : Nat} {x : Int32} (hd : 1 ≤ d) (hL : Lay c M) (ho : o = 3 ∨ o = 39) (h : Q (if x < 0 ∨ M.1 o 2 ≤ x then 0 else 1) M) : C G Y_X5_hasArm d [.ref (G.b + o), .int x] M (Ri Q) := by
  refine up1 (P := fun d => C G Y_X5_hasArm d _ M (Ri Q)) (fun e => b_X5_hasArm hL (by rcases ho with rfl | rfl <;> decide) ⟨fun h1 => ?_, fun h1 => ⟨fun h2 => ?_, fun h2 => ?_⟩⟩) hd
  · rwa [if_pos (.inl h1)] at h
  · rwa [if_pos (.inr h2)] at h
  · rwa [if_neg (by rintro (h | h); exact h1 h; exact h2 h)] at h
theorem s_isMap {G : MG} {d : Nat} {Q : Int32 → Mm → Prop} {M : Mm} {c : Nat} {x : Int32} (hd : 1 ≤ d) (hL : Lay c M) (h : Q (if x < 0 ∨ M.1 154 0 ≤ x then 0 else 1) M) : C G Y_X12_isMap d [.ref (G.b + 147), .int x] M (Ri Q) := by
  refine up1 (P := fun d => C G Y_X12_isMap d _ M (Ri Q)) (fun e => b_X12_isMap hL ⟨fun h1 => ?_, fun h1 => ⟨fun h2 => ?_, fun h2 => ?_⟩⟩) hd
  · rwa [if_pos (.inl h1)] at h
  · rwa [if_pos (.inr h2)] at h
  · rwa [if_neg (by rintro (h | h); exact h1 h; exact h2 h)] at h
theorem s_hasChart {G : MG} {d : Nat} {Q : Int32 → Mm → Prop} {M : Mm} {c o : Nat} {x : Int32} (hd : 1 ≤ d) (hL : Lay c M) (ho : o = 3 ∨ o = 39) (h : Q (if x < 0 ∨ M.1 o 3 ≤ x then 0 else 1) M) : C G Y_X5_hasChart d [.ref (G.b + o), .int x] M (Ri Q) := by
  refine up1 (P := fun d => C G Y_X5_hasChart d _ M (Ri Q)) (fun e => b_X5_hasChart hL (by rcases ho with rfl | rfl <;> decide) ⟨fun h1 => ?_, fun h1 => ⟨fun h2 => ?_, fun h2 => ?_⟩⟩) hd
  · rwa [if_pos (.inl h1)] at h
  · rwa [if_pos (.inr h2)] at h
  · rwa [if_neg (by rintro (h | h); exact h1 h; exact h2 h)] at h
/-- the reference's seen() -/
theorem s_seen {G : MG} {d : Nat} {Q : Int32 → Mm → Prop} {M : Mm} {c : Nat} (hd : 1 ≤ d) (hL : Lay c M) (h : Q (M.1 153 90 + M.1 153 93 + M.1 153 96 + M.1 153 99) M) : C G Y_X12_seen d [.ref (G.b + 147)] M (Ri Q) := by
  refine up1 (P := fun d => C G Y_X12_seen d _ M (Ri Q)) (fun e => b_X12_seen hL ?_) hd
  refine b_X12_seen_4 hL ⟨fun h => absurd h (by decide), fun _ => ⟨(ix3' (q := 0) (by omega)).1, ?_⟩⟩
  refine b_X12_seen_4 hL ⟨fun h => absurd h (by decide), fun _ => ⟨(ix3' (q := 1) (by omega)).1, ?_⟩⟩
  refine b_X12_seen_4 hL ⟨fun h => absurd h (by decide), fun _ => ⟨(ix3' (q := 2) (by omega)).1, ?_⟩⟩
  refine b_X12_seen_4 hL ⟨fun h => absurd h (by decide), fun _ => ⟨(ix3' (q := 3) (by omega)).1, ?_⟩⟩
  refine b_X12_seen_4 hL ⟨fun _ => ?_, fun h => absurd (by decide) h⟩
  have e : (0 : Int32) + M.1 153 90 = M.1 153 90 := by simp
  rw [show (90 + 3 * (0 : Int32)).toNatClampNeg = 90 from rfl, show (90 + 3 * ((0 : Int32) + 1)).toNatClampNeg = 93 from rfl, show (90 + 3 * ((0 : Int32) + 1 + 1)).toNatClampNeg = 96 from rfl, show (90 + 3 * ((0 : Int32) + 1 + 1 + 1)).toNatClampNeg = 99 from rfl, e]
  exact h
