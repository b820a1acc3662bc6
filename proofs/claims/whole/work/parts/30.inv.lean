/-! ===== logic: the invariant between component and reference ===== -/
theorem C.imp {G : MG} {Y : MY} {d : Nat} {av : List Value} {M : Mm} {Q Q' : Option Value → Mm → Prop} (h : C G Y d av M Q) (hq : ∀ r N, Q r N → Q' r N) : C G Y d av M Q' := by
  obtain ⟨d0, h1, h2⟩ := h
  refine ⟨d0, h1, ?_⟩
  intro p e ha hc hk s m args below hf happ hP hK
  obtain ⟨n, o, a1, a2, a3, ⟨r, M', b1, b2, b3, b4⟩, a5⟩ := h2 p e ha hc hk s m args below hf happ hP hK
  exact ⟨n, o, a1, a2, a3, ⟨r, M', b1, b2, hq r M' b3, b4⟩, a5⟩
theorem up1 {P : Nat → Prop} {d k : Nat} (h : ∀ e, P (e + k)) (hd : k ≤ d) : P d := by
  have := h (d - k)
  rwa [Nat.sub_add_cancel hd] at this
/-- a number within bounds -/
def bn (x : Int32) (lo hi : Nat) : Prop := ∃ n : Nat, lo ≤ n ∧ n ≤ hi ∧ x = nI n
def bitI (x : Int32) (q : Nat) : Int32 := if x &&& (1 <<< (nI q &&& 31)) = 0 then 0 else 1
/-- an arm as told: its cell o, its row r -/
def ArmC (M : Mm) (o : Nat) (r : Nat → Int32) : Prop :=
  M.1 o 1 = r 0 ∧ bn (r 0) 0 3 ∧ M.1 o 3 = r 1 ∧ (∃ k : Nat, 2 ≤ k ∧ k ≤ 4 ∧ r 1 = nI k ∧ (∀ i, i < k → M.1 (o + 1) i = r (2 + i) ∧ bn (r (2 + i)) 1 9) ∧ (∀ i j, i < k → j < k → r (2 + i) = r (2 + j) → i = j)) ∧
  M.1 o 7 = r 11 ∧ bn (r 11) 1 200 ∧ M.1 o 8 = r 12 ∧ bn (r 12) 0 9
/-- what hands change of arm a: setting s, row r -/
def HandC (M : Mm) (s a : Nat) (r : Nat → Int32) : Prop :=
  (M.1 (s + 1) a = r 6 ∧ bn (r 6) 1 9) ∧ (M.1 (s + 2) a = r 7 ∧ bn (r 7) 1 9) ∧ (M.1 (s + 3) a = r 8 ∧ bn (r 8) 0 3) ∧ (M.1 (s + 4) a = r 9 ∧ bn (r 9) 0 99) ∧ (M.1 (s + 5) a = r 10 ∧ bn (r 10) 0 99) ∧ (M.1 (s + 6) a = r 13 ∧ bn (r 13) 0 9)
def ChainC (M : Mm) (s : Nat) (R : Nat → Int32) (n : Nat) : Prop :=
  M.1 s 7 = R 85 ∧ ∃ k : Nat, k ≤ 4 ∧ R 85 = nI k ∧ (∀ i, i < k → M.1 (s + 7) i = R (86 + i) ∧ ∃ a : Nat, a < n ∧ R (86 + i) = nI a) ∧ (∀ i j, i < k → j < k → R (86 + i) = R (86 + j) → i = j)
def SeenC (M : Mm) (s : Nat) (R : Nat → Int32) : Prop :=
  bn (M.1 s 10) 0 15 ∧ ∀ q, q < 4 → R (90 + 3 * q) = bitI (M.1 s 10) q ∧ (R (90 + 3 * q) = 1 → M.1 (s + 8) q = R (91 + 3 * q) ∧ M.1 (s + 9) q = R (92 + 3 * q))
def SetC (M : Mm) (s : Nat) (R : Nat → Int32) (n : Nat) : Prop :=
  (∀ a, a < n → HandC M s a (fun j => R (1 + 14 * a + j))) ∧ ChainC M s R n ∧ SeenC M s R
/-- a map as told -/
def ChartC (M : Mm) (o : Nat) (r : Nat → Int32) : Prop :=
  (∃ u v : Nat, 1 ≤ u ∧ u ≤ 9 ∧ 1 ≤ v ∧ v ≤ 9 ∧ M.1 o 1 = nI u ∧ M.1 o 2 = nI v ∧ r 0 = nI (u / Nat.gcd u v) ∧ r 1 = nI (v / Nat.gcd u v)) ∧
  M.1 o 3 = r 2 ∧ bn (r 2) 0 255 ∧ M.1 o 6 = r 3 ∧ ∃ k : Nat, 1 ≤ k ∧ k ≤ 6 ∧ r 3 = nI k ∧ ∀ i, i < k → (M.1 (o + 1) i = r (4 + 2 * i) ∧ bn (r (4 + 2 * i)) 0 99) ∧ (M.1 (o + 2) i = r (5 + 2 * i) ∧ bn (r (5 + 2 * i)) 0 99)
/-- the tapes -/
def TapeC (M : Mm) : Prop := M.1 147 2 = M.1 1 0 ∧ ∃ n : Nat, n ≤ 1000 ∧ M.1 1 0 = nI n ∧ ∀ i, i < n → M.1 2 i = M.1 148 i ∧ bn (M.1 148 i) 10 126
/-- which places of a row do not change after office() -/
def statI (k : Nat) : Prop := k = 0 ∨ 1 ≤ k ∧ k < 85 ∧ ((k - 1) % 14 < 6 ∨ (k - 1) % 14 = 11 ∨ (k - 1) % 14 = 12)
def MarkC (M : Mm) (n q : Nat) : Prop :=
  M.1 156 q = bitI (M.1 0 5) q ∧ (M.1 156 q = 1 → SetC M (86 + 10 * q) (fun k => M.1 153 (110 * (2 + q) + k)) n ∧ ∀ k, statI k → M.1 153 (110 * (2 + q) + k) = M.1 153 k)
def wordT : Nat → Int64 := fun k => [2048, 15769715, 1042489, 57, 33989651, 36016064, 108673, 17850, 975695, 755, 36229827, 1138091529, 30596128, 919275859, 36634668, 23270970].getD k 0
def Offs (M : Mm) (c n : Nat) : Prop := M.1 c 2 = nI n ∧ M.1 153 0 = nI n ∧ n ≤ 6 ∧ ∀ a, a < n → ArmC M (c + 3 + 2 * a) (fun j => M.1 153 (1 + 14 * a + j))
def Charts (M : Mm) (c k : Nat) : Prop := M.1 c 3 = nI k ∧ M.1 154 0 = nI k ∧ k ≤ 7 ∧ ∀ m, m < k → ChartC M (c + 15 + 3 * m) (fun j => M.1 154 (1 + 16 * m + j))
def Inv (c : Nat) (M : Mm) : Prop :=
  Lay c M ∧ (c = 3 ∨ c = 39) ∧ TapeC M ∧ (∃ k, Charts M c k) ∧ (∃ n, Offs M c n ∧ SetC M 75 (M.1 153) n ∧ ∀ q, q < 4 → MarkC M n q) ∧ bn (M.1 0 5) 0 15 ∧ (∀ k, k < 16 → M.2.1 152 k = wordT k)
/-- all that the invariant reads is the same -/
def Ess (M N : Mm) : Prop :=
  N.2.2 = M.2.2 ∧ (∀ o, 2 ≤ o → o ≤ 125 → N.1 o = M.1 o) ∧ N.1 0 5 = M.1 0 5 ∧ N.1 1 0 = M.1 1 0 ∧ N.1 147 2 = M.1 147 2 ∧ N.1 148 = M.1 148 ∧ N.2.1 152 = M.2.1 152 ∧ N.1 153 = M.1 153 ∧ N.1 154 = M.1 154 ∧ N.1 156 = M.1 156
theorem Ess.rf (M : Mm) : Ess M M := ⟨rfl, fun _ _ _ => rfl, rfl, rfl, rfl, rfl, rfl, rfl, rfl, rfl⟩
theorem Ess.tr {M N P : Mm} (h : Ess M N) (k : Ess N P) : Ess M P := by
  obtain ⟨a1, a2, a3, a4, a5, a6, a7, a8, a9, a10⟩ := h
  obtain ⟨b1, b2, b3, b4, b5, b6, b7, b8, b9, b10⟩ := k
  exact ⟨b1.trans a1, fun o h1 h2 => (b2 o h1 h2).trans (a2 o h1 h2), b3.trans a3, b4.trans a4, b5.trans a5, b6.trans a6, b7.trans a7, b8.trans a8, b9.trans a9, b10.trans a10⟩
theorem ArmC.ess {M N : Mm} {o : Nat} {r : Nat → Int32} (h : ArmC M o r) (h1 : N.1 o = M.1 o) (h2 : N.1 (o + 1) = M.1 (o + 1)) : ArmC N o r := by
  unfold ArmC
  rw [h1, h2]
  exact h
theorem SetC.ess {M N : Mm} {s n : Nat} {R : Nat → Int32} (h : SetC M s R n) (hs : ∀ j, j ≤ 9 → N.1 (s + j) = M.1 (s + j)) : SetC N s R n := by
  obtain ⟨a1, a2, a3⟩ := h
  have e0 : N.1 s = M.1 s := hs 0 (by omega)
  refine ⟨fun a ha => ?_, ?_, ?_⟩
  · have := a1 a ha
    unfold HandC at this ⊢
    rw [hs 1 (by omega), hs 2 (by omega), hs 3 (by omega), hs 4 (by omega), hs 5 (by omega), hs 6 (by omega)]
    exact this
  · unfold ChainC at a2 ⊢
    rw [e0, hs 7 (by omega)]
    exact a2
  · unfold SeenC at a3 ⊢
    rw [e0, hs 8 (by omega), hs 9 (by omega)]
    exact a3
theorem ChartC.ess {M N : Mm} {o : Nat} {r : Nat → Int32} (h : ChartC M o r) (h0 : N.1 o = M.1 o) (h1 : N.1 (o + 1) = M.1 (o + 1)) (h2 : N.1 (o + 2) = M.1 (o + 2)) : ChartC N o r := by
  unfold ChartC
  rw [h0, h1, h2]
  exact h
theorem Inv.ess {c : Nat} {M N : Mm} (h : Inv c M) (k : Ess M N) : Inv c N := by
  obtain ⟨hL, hc, hT, ⟨kc, g1, g2, g3, g4⟩, ⟨n, ⟨o1, o2, o3, o4⟩, hS, hM⟩, hl, hw⟩ := h
  obtain ⟨e1, e2, e3, e4, e5, e6, e7, e8, e9, e10⟩ := k
  have ec : ∀ j, j ≤ 35 → N.1 (c + j) = M.1 (c + j) := fun j hj => e2 _ (by omega) (by omega)
  have ec0 : N.1 c = M.1 c := ec 0 (by omega)
  refine ⟨by unfold Lay at hL ⊢; rw [e1]; exact hL, hc, ?_, ⟨kc, ?_, ?_, g3, ?_⟩, ⟨n, ⟨?_, ?_, o3, ?_⟩, ?_, ?_⟩, by rw [e3]; exact hl, by rw [e7]; exact hw⟩
  · unfold TapeC at hT ⊢
    rw [e5, e4, e6, e2 2 (by omega) (by omega)]
    exact hT
  · rw [ec0]; exact g1
  · rw [e9]; exact g2
  · intro m hm
    rw [e9]
    exact (g4 m hm).ess (e2 _ (by omega) (by omega)) (e2 _ (by omega) (by omega)) (e2 _ (by omega) (by omega))
  · rw [ec0]; exact o1
  · rw [e8]; exact o2
  · intro a ha
    rw [e8]
    exact (o4 a ha).ess (e2 _ (by omega) (by omega)) (e2 _ (by omega) (by omega))
  · rw [e8]
    exact hS.ess fun j hj => e2 _ (by omega) (by omega)
  · intro q hq
    obtain ⟨m1, m2⟩ := hM q hq
    refine ⟨by rw [e10, e3]; exact m1, fun h => ?_⟩
    rw [e10] at h
    obtain ⟨m3, m4⟩ := m2 h
    rw [e8]
    exact ⟨m3.ess fun j hj => e2 _ (by omega) (by omega), m4⟩
theorem Inv.lay {c : Nat} {M : Mm} (h : Inv c M) : Lay c M := h.1
theorem Inv.cc {c : Nat} {M : Mm} (h : Inv c M) : c = 3 ∨ c = 39 := h.2.1
theorem ess_sI {M : Mm} {o k : Nat} {v : Int32} (h : o = 0 ∧ k ≠ 5 ∨ o = 1 ∧ k ≠ 0 ∨ 126 ≤ o ∧ o ≤ 146 ∨ o = 147 ∧ k ≠ 2 ∨ 149 ≤ o ∧ o ≤ 152 ∨ o = 155 ∨ 157 ≤ o) : Ess M (sI M o k v) := by
  have ne : ∀ a, a ≠ o → (sI M o k v).1 a = M.1 a := fun a ha => sI_ne ha
  have fl : ∀ a j, (a = o → j ≠ k) → (sI M o k v).1 a j = M.1 a j := by
    intro a j hj
    by_cases ha : a = o
    · subst ha
      rw [sI_at, pk_un (hj rfl)]
    · rw [ne a ha]
  refine ⟨rfl, fun a h1 h2 => ne a (by omega), fl _ _ (by omega), fl _ _ (by omega), fl _ _ (by omega), ne _ (by omega), rfl, ne _ (by omega), ne _ (by omega), ne _ (by omega)⟩
theorem ess_sJ {M : Mm} {o k : Nat} {v : Int64} (h : o ≠ 152) : Ess M (sJ M o k v) :=
  ⟨rfl, fun _ _ _ => rfl, rfl, rfl, rfl, rfl, sJ_ne (Ne.symm h), rfl, rfl, rfl⟩
theorem lay_of {c : Nat} {M N : Mm} (h : Lay c M) (k : N.2.2 = M.2.2) : Lay c N := by
  unfold Lay at h ⊢
  rw [k]
  exact h
/-- the places that the invariant reads -/
def ES (o k : Nat) : Prop := 2 ≤ o ∧ o ≤ 125 ∨ o = 0 ∧ k = 5 ∨ o = 1 ∧ k = 0 ∨ o = 147 ∧ k = 2 ∨ o = 148 ∨ o = 153 ∨ o = 154 ∨ o = 156
theorem rd_sI {M : Mm} {o k a b : Nat} {v : Int32} : (sI M o k v).1 a b = if a = o ∧ b = k then v else M.1 a b := by
  by_cases h : a = o
  · subst h
    rw [sI_at]
    by_cases hb : b = k
    · subst hb
      rw [pk_us, if_pos ⟨rfl, rfl⟩]
    · rw [pk_un hb, if_neg (fun h => hb h.2)]
  · rw [sI_ne h, if_neg (fun k => h k.1)]
theorem Inv.now {c : Nat} {M N : Mm} (hI : Inv c M) (e : N.2.2 = M.2.2) (eJ : N.2.1 152 = M.2.1 152)
    (e1 : ∀ o k, ES o k → ¬ (75 ≤ o ∧ o ≤ 84) → (o = 153 → k < 110 → statI k) → N.1 o k = M.1 o k)
    (hS : ∀ n, n ≤ 6 → M.1 153 0 = nI n → SetC M 75 (M.1 153) n → SetC N 75 (N.1 153) n) : Inv c N := by
  obtain ⟨hL, hc, hT, ⟨kc, g1, g2, g3, g4⟩, ⟨n, ⟨o1, o2, o3, o4⟩, hS0, hM⟩, hl, hw⟩ := hI
  have f : ∀ o k, ES o k → ¬ (75 ≤ o ∧ o ≤ 84) → o ≠ 153 → N.1 o k = M.1 o k := fun o k h1 h2 h3 => e1 o k h1 h2 (fun h => absurd h h3)
  have g : ∀ o, 2 ≤ o → o ≤ 125 → ¬ (75 ≤ o ∧ o ≤ 84) → N.1 o = M.1 o := fun o h1 h2 h3 => funext fun k => f o k (.inl ⟨h1, h2⟩) h3 (by omega)
  have st : ∀ k, statI k → N.1 153 k = M.1 153 k := fun k hk => e1 153 k (by unfold ES; omega) (by omega) (fun _ _ => hk)
  have st2 : ∀ k, 110 ≤ k → N.1 153 k = M.1 153 k := fun k hk => e1 153 k (by unfold ES; omega) (by omega) (fun _ h => by omega)
  have e9 : N.1 154 = M.1 154 := funext fun k => f 154 k (by unfold ES; omega) (by omega) (by omega)
  have e6 : N.1 148 = M.1 148 := funext fun k => f 148 k (by unfold ES; omega) (by omega) (by omega)
  have e10 : N.1 156 = M.1 156 := funext fun k => f 156 k (by unfold ES; omega) (by omega) (by omega)
  have e3 : N.1 0 5 = M.1 0 5 := f 0 5 (by unfold ES; omega) (by omega) (by omega)
  refine ⟨by unfold Lay at hL ⊢; rw [e]; exact hL, hc, ?_, ⟨kc, ?_, ?_, g3, ?_⟩, ⟨n, ⟨?_, ?_, o3, ?_⟩, hS n o3 o2 hS0, ?_⟩, by rw [e3]; exact hl, by rw [eJ]; exact hw⟩
  · unfold TapeC at hT ⊢
    rw [f 147 2 (by unfold ES; omega) (by omega) (by omega), f 1 0 (by unfold ES; omega) (by omega) (by omega), e6, g 2 (by omega) (by omega) (by omega)]
    exact hT
  · rw [g c (by omega) (by omega) (by omega)]; exact g1
  · rw [e9]; exact g2
  · intro m hm
    rw [e9]
    exact (g4 m hm).ess (g _ (by omega) (by omega) (by omega)) (g _ (by omega) (by omega) (by omega)) (g _ (by omega) (by omega) (by omega))
  · rw [g c (by omega) (by omega) (by omega)]; exact o1
  · rw [st 0 (by unfold statI; omega)]; exact o2
  · intro a ha
    have h1 := (o4 a ha).ess (g _ (by omega) (by omega) (by omega)) (g _ (by omega) (by omega) (by omega))
    obtain ⟨a1, a2, a3, ⟨k, k1, k2, k3, k4, k5⟩, a5, a6, a7, a8⟩ := h1
    have h0 : ∀ j, j < 6 ∨ j = 11 ∨ j = 12 → N.1 153 (1 + 14 * a + j) = M.1 153 (1 + 14 * a + j) := fun j hj => st _ (by unfold statI; omega)
    unfold ArmC
    simp only [h0 0 (by omega), h0 1 (by omega), h0 11 (by omega), h0 12 (by omega)]
    refine ⟨a1, a2, a3, ⟨k, k1, k2, k3, fun i hi => ?_, fun i j hi hj => ?_⟩, a5, a6, a7, a8⟩
    · rw [h0 (2 + i) (by omega)]; exact k4 i hi
    · rw [h0 (2 + i) (by omega), h0 (2 + j) (by omega)]; exact k5 i j hi hj
  · intro q hq
    obtain ⟨m1, m2⟩ := hM q hq
    refine ⟨by rw [e10, e3]; exact m1, fun h => ?_⟩
    rw [e10] at h
    obtain ⟨m3, m4⟩ := m2 h
    have h2 : (fun k => N.1 153 (110 * (2 + q) + k)) = fun k => M.1 153 (110 * (2 + q) + k) := funext fun k => st2 _ (by omega)
    rw [h2]
    refine ⟨m3.ess fun j hj => g _ (by omega) (by omega) (by omega), fun k hk => ?_⟩
    rw [st2 _ (by omega), st k hk]
    exact m4 k hk
