/-! ===== office: what is read, as a function of the tokens ===== -/
noncomputable def ifc {α : Type} (P : Prop) (a b : α) : α := @ite _ P (Classical.propDecidable _) a b
theorem ifc_pos {α : Type} {P : Prop} {a b : α} (h : P) : ifc P a b = a := @if_pos P (Classical.propDecidable _) h α a b
theorem ifc_neg {α : Type} {P : Prop} {a b : α} (h : ¬ P) : ifc P a b = b := @if_neg P (Classical.propDecidable _) h α a b
def wch : Nat → List Nat := fun w => [[1, 18, 13], [8, 15, 12, 5, 19], [20, 21, 18, 14], [1, 20], [18, 5, 1, 3, 8], [19, 8, 1, 11, 5], [2, 5, 14, 4], [13, 1, 16], [19, 9, 26, 5], [20, 15], [19, 12, 9, 16, 19], [16, 15, 9, 14, 20, 19], [16, 12, 1, 9, 14], [13, 9, 18, 18, 15, 18], [19, 20, 9, 6, 6], [12, 15, 15, 19, 5]].getD w []
def wl (w i : Nat) : Nat := (wch w).getD i 0
def wlen (w : Nat) : Nat := (wch w).length
def w37 (w : Nat) : Nat := cod 37 (wl w) (wlen w)
def w32 (w : Nat) : Nat := cod 32 (wl w) (wlen w)
theorem w37_T : ∀ w, w < 16 → wordT w = lN (w37 w) ∧ w37 w < 2 ^ 62 ∧ w32 w < 2 ^ 62 ∧ wlen w ≤ 8 := by decide +kernel
theorem wl_26 : ∀ w, w < 16 → ∀ i, i < wlen w → 1 ≤ wl w i ∧ wl w i ≤ 26 := by decide +kernel
theorem w37_ne : ∀ w, w < 16 → ∀ v, v < 16 → w37 w = w37 v → w = v := by decide +kernel
def isW (T : Nat → Nat) (n j w : Nat) : Prop := soF T n (tbF T n j) = 1 ∧ wdF 37 T n (tbF T n j) = w37 w
theorem isW_un {T : Nat → Nat} {n j w v : Nat} (hw : w < 16) (hv : v < 16) (h : isW T n j w) (k : isW T n j v) : w = v := w37_ne w hw v hv (h.2.symm.trans k.2)
theorem so1_len {T : Nat → Nat} {n b : Nat} (h : soF T n b = 1) : fwd ltB T n (plF T n b) - plF T n b ≤ 8 := by
  unfold soF soP at h
  split at h
  · cases h
  · split at h
    · split at h
      · assumption
      · cases h
    · split at h
      · split at h <;> cases h
      · split at h <;> cases h
theorem wd_lt {T : Nat → Nat} {n b : Nat} (h : soF T n b = 1) : wdF 32 T n b < 2 ^ 62 ∧ wdF 37 T n b < 2 ^ 62 := by
  have hl := so1_len h
  have f := wl_in (T := T) (n := n) (p := plF T n b)
  have h1 : wdF 32 T n b < 32 ^ (fwd ltB T n (plF T n b) - plF T n b) := cod_lt (by omega) (fun i hi => by have := f i hi; omega)
  have h2 : wdF 37 T n b < 37 ^ (fwd ltB T n (plF T n b) - plF T n b) := cod_lt (by omega) (fun i hi => by have := f i hi; omega)
  have p1 : 32 ^ (fwd ltB T n (plF T n b) - plF T n b) ≤ 32 ^ 8 := Nat.pow_le_pow_right (by omega) hl
  have p2 : 37 ^ (fwd ltB T n (plF T n b) - plF T n b) ≤ 37 ^ 8 := Nat.pow_le_pow_right (by omega) hl
  have q1 : (32 : Nat) ^ 8 < 2 ^ 62 := by decide
  have q2 : (37 : Nat) ^ 8 < 2 ^ 62 := by decide
  exact ⟨Nat.lt_trans (Nat.lt_of_lt_of_le h1 p1) q1, Nat.lt_trans (Nat.lt_of_lt_of_le h2 p2) q2⟩
theorem isW_32 {T : Nat → Nat} {n j w : Nat} (hw : w < 16) (h : soF T n (tbF T n j) = 1) : isW T n j w ↔ wdF 32 T n (tbF T n j) = w32 w := by
  have f := wl_in (T := T) (n := n) (p := plF T n (tbF T n j))
  have e := cod_base (B := 37) (C := 32) (by omega) (by omega) f (wl_26 w hw)
  exact ⟨fun k => e.mp k.2, fun k => ⟨h, e.mpr k⟩⟩
theorem wd_same {T : Nat → Nat} {n i j : Nat} : wdF 37 T n (tbF T n i) = wdF 37 T n (tbF T n j) ↔ wdF 32 T n (tbF T n i) = wdF 32 T n (tbF T n j) :=
  cod_base (by omega) (by omega) (wl_in (T := T) (n := n) (p := plF T n (tbF T n i))) (wl_in (T := T) (n := n) (p := plF T n (tbF T n j)))
/-- a reading: it stands at a token, or has failed -/
def fl (T : Nat → Nat) (n k : Nat) : Except Nat Nat → Except Nat Nat
  | .error e => .error e
  | .ok j => .error (k + 16 * plF T n (tbF T n j))
noncomputable def sW (T : Nat → Nat) (n w : Nat) : Except Nat Nat → Except Nat Nat
  | .error e => .error e
  | .ok j => ifc (isW T n j w) (.ok (j + 1)) (.error (1 + 16 * plF T n (tbF T n j)))
def isG (T : Nat → Nat) (n j ch : Nat) : Prop := soF T n (tbF T n j) = 3 ∧ T (plF T n (tbF T n j)) = ch
noncomputable def sG (T : Nat → Nat) (n ch : Nat) : Except Nat Nat → Except Nat Nat
  | .error e => .error e
  | .ok j => ifc (isG T n j ch) (.ok (j + 1)) (.error (1 + 16 * plF T n (tbF T n j)))
def nv (T : Nat → Nat) (n j : Nat) : Nat := nvF T n (tbF T n j)
noncomputable def sNu (T : Nat → Nat) (n lo hi : Nat) : Except Nat Nat → Except Nat Nat
  | .error e => .error e
  | .ok j => ifc (soF T n (tbF T n j) = 2) (ifc (nv T n j < lo ∨ hi < nv T n j) (.error (4 + 16 * plF T n (tbF T n j))) (.ok (j + 1))) (.error (1 + 16 * plF T n (tbF T n j)))
def vl (T : Nat → Nat) (n : Nat) : Except Nat Nat → Nat
  | .error _ => 0
  | .ok j => nv T n j
def isRes (T : Nat → Nat) (n j : Nat) : Prop := ∃ w, w < 16 ∧ isW T n j w
noncomputable def sNm (T : Nat → Nat) (n : Nat) (nm : List Nat) : Except Nat Nat → Except Nat Nat
  | .error e => .error e
  | .ok j => ifc (soF T n (tbF T n j) = 1 ∧ ¬ isRes T n j) (ifc (∃ i, i ∈ nm ∧ wdF 37 T n (tbF T n i) = wdF 37 T n (tbF T n j)) (.error (3 + 16 * plF T n (tbF T n j))) (.ok (j + 1))) (.error (1 + 16 * plF T n (tbF T n j)))
def isK (T : Nat → Nat) (n j : Nat) : Prop := ∃ k, k < 4 ∧ isW T n j (12 + k)
noncomputable def sKd (T : Nat → Nat) (n : Nat) : Except Nat Nat → Except Nat Nat
  | .error e => .error e
  | .ok j => ifc (isK T n j) (.ok (j + 1)) (.error (1 + 16 * plF T n (tbF T n j)))
noncomputable def kdv (T : Nat → Nat) (n j : Nat) : Nat := ifc (isW T n j 12) 0 (ifc (isW T n j 13) 1 (ifc (isW T n j 14) 2 3))
noncomputable def kdX (T : Nat → Nat) (n : Nat) : Except Nat Nat → Nat
  | .error _ => 0
  | .ok j => kdv T n j
/-- the tape of the component after a reading -/
def Tk (T : Nat → Nat) (n : Nat) (N : Mm) : Except Nat Nat → Prop
  | .error e => N.1 1 6 = nI e ∧ e ≠ 0 ∧ e < 2 ^ 31
  | .ok j => N.1 1 6 = 0 ∧ XT T n N (tbF T n j)
theorem XT.fr {T : Nat → Nat} {n b : Nat} {N N' : Mm} (h : XT T n N b) (e : N'.1 1 = N.1 1) (e' : N'.2.1 1 = N.2.1 1) : XT T n N' b := by
  unfold XT
  rw [e, e']
  exact h
theorem Tk.fr {T : Nat → Nat} {n : Nat} {N N' : Mm} {x : Except Nat Nat} (h : Tk T n N x) (e : N'.1 1 = N.1 1) (e' : N'.2.1 1 = N.2.1 1) : Tk T n N' x := by
  cases x with
  | error z => show N'.1 1 6 = nI z ∧ _; rw [e]; exact h
  | ok j => exact ⟨by rw [e]; exact h.1, h.2.fr e e'⟩
theorem x_fail {G : MG} {d : Nat} {Q : Mm → Prop} {T : Nat → Nat} {n c k : Nat} {N : Mm} {x : Except Nat Nat} (hd : 1 ≤ d) (hL : Lay c N) (hn : n ≤ 1000) (hk : 1 ≤ k ∧ k ≤ 5) (hx : Tk T n N x)
    (h : ∀ N', FT N N' → Tk T n N' (fl T n k x) → Q N') : C G Y_X10_fail d [.ref (G.b + 1), .int (nI k)] N (Rv Q) := by
  refine up1 (P := fun d => C G Y_X10_fail d _ N (Rv Q)) (fun e => b_X10_fail (d := e) hL ?_) hd
  cases x with
  | error z =>
    obtain ⟨h1, h2, h3⟩ := hx
    refine ⟨fun _ => h N (FT.rf N) ⟨h1, h2, h3⟩, fun g => ?_⟩
    rw [h1] at g
    exact absurd g (nI_ne0 (by omega) h3)
  | ok j =>
    obtain ⟨h1, h2⟩ := hx
    have pe := plF_le (T := T) (tbF_le T n j)
    refine ⟨fun g => absurd h1 g, fun _ M2 e2 => ?_⟩
    rw [h2.1, show (16 : Int32) = nI 16 from rfl, pk_mul, nI_add] at e2
    subst e2
    exact h _ (FT.si (by omega)) ⟨by rw [rd_sI, if_pos ⟨rfl, rfl⟩], by omega, by omega⟩
theorem x_adv {G : MG} {d : Nat} {Q : Mm → Prop} {T : Nat → Nat} {n c j : Nat} {N : Mm} (hd : 3 ≤ d) (hL : Lay c N) (hT : TpX T n N) (hx : Tk T n N (.ok j))
    (h : ∀ N', FT N N' → Tk T n N' (.ok (j + 1)) → Q N') : C G Y_X10_advance d [.ref (G.b + 1)] N (Rv Q) :=
  s_advance (b := tbF T n (j + 1)) hd hL hT hx.2.2.1 (tbF_le T n (j + 1)) (fun N' h1 h2 h3 => h N' h1 ⟨h2.trans hx.1, h3⟩)
/-- the strings of the component -/
def StrF (G : MG) : Prop := jFacts G ∧ ∀ w, w < 16 → ∃ av f, sFacts G (G.ad w) av (wlen w) f ∧ ∀ i, i < wlen w → f i = nI (wl w i + 96)
theorem chr_nI : ∀ t, t < 128 → (((nI t &&& 255).toUInt32 % 65536).toInt32) = nI t := by decide +kernel
theorem pk32_w {f : Nat → Int32} {w : Nat} (hw : w < 16) (hf : ∀ i, i < wlen w → f i = nI (wl w i + 96)) : ∀ m, m ≤ wlen w → pk32 f m = lN (cod 32 (wl w) m) := by
  intro m
  induction m with
  | zero => intro _; rfl
  | succ m ih =>
    intro hm
    have w2 := wl_26 w hw m (by omega)
    have e : chrOf f m = nI (wl w m + 96) := by unfold chrOf; rw [hf m (by omega)]; exact chr_nI _ (by omega)
    show pk32 f m * 32 + (chrOf f m - 97 + 1).toInt64 = lN (32 * cod 32 (wl w) m + wl w m)
    rw [ih (by omega), e, ch_w (by omega), show (32 : Int64) = lN 32 from rfl, lN_mul, lN_add, show wl w m + 96 - 96 = wl w m by omega, Nat.mul_comm]
theorem x_reads {G : MG} {d : Nat} {Q : Int32 → Mm → Prop} {T : Nat → Nat} {n c : Nat} {N : Mm} {x : Except Nat Nat} (w : Nat) (hw : w < 16) (hd : 6 ≤ d) (hS : StrF G) (hL : Lay c N) (hx : Tk T n N x)
    (h1 : ∀ j, x = .ok j → isW T n j w → Q 1 N) (h0 : ∀ j, x = .ok j → ¬ isW T n j w → Q 0 N) (hE : ∀ e, x = .error e → Q 0 N ∧ Q 1 N) : C G Y_X10_reads d [.ref (G.b + 1), .ref (G.ad w)] N (Ri Q) := by
  obtain ⟨av, f, s1, s2⟩ := hS.2 w hw
  obtain ⟨w1, w2, w3, w4⟩ := w37_T w hw
  refine up1 (P := fun d => C G Y_X10_reads d _ N (Ri Q)) (fun e => b_X10_reads (d := e + 5) hL ?_) hd
  have pk : pk32 f (wlen w) = lN (w32 w) := pk32_w hw s2 _ (Nat.le_refl _)
  cases x with
  | error z =>
    obtain ⟨a, b⟩ := hE z rfl
    exact ⟨fun _ => a, fun _ => s_packed (d := e) s1 hS.1 (by omega) ⟨rfl, fun _ => a, fun _ => b⟩⟩
  | ok j =>
    obtain ⟨k1, k2, k3, k4, k5, k6, k7⟩ := hx
    have sl := soP_le T n (plF T n (tbF T n j))
    have sl' : soF T n (tbF T n j) ≤ 4 := sl
    rw [k4, show (1 : Int32) = nI 1 from rfl, nI_eq (by omega) (by omega)]
    refine ⟨fun g => h0 j rfl (fun hh => g hh.1), fun g => s_packed (d := e) s1 hS.1 (by omega) ⟨rfl, ?_⟩⟩
    rw [pk, k5 g, pk_lEQ (by have := (wd_lt g).1; omega) (by omega), ← isW_32 hw g]
    exact ⟨fun q => h0 j rfl q, fun q => h1 j rfl q⟩
theorem x_skipWord {G : MG} {d : Nat} {Q : Mm → Prop} {T : Nat → Nat} {n c : Nat} {N : Mm} {x : Except Nat Nat} (w : Nat) (hw : w < 16) (hd : 7 ≤ d) (hS : StrF G) (hL : Lay c N) (hT : TpX T n N) (hx : Tk T n N x)
    (h : ∀ N', FT N N' → Tk T n N' (sW T n w x) → Q N') : C G Y_X10_skipWord d [.ref (G.b + 1), .ref (G.ad w)] N (Rv Q) := by
  refine up1 (P := fun d => C G Y_X10_skipWord d _ N (Rv Q)) (fun e => b_X10_skipWord (d := e + 6) hL ?_) hd
  cases x with
  | error z =>
    refine ⟨fun g => ?_, fun _ => h N (FT.rf N) hx⟩
    rw [hx.1] at g
    exact absurd g (nI_ne0 (by have := hx.2.1; omega) hx.2.2)
  | ok j =>
    refine ⟨fun _ => x_reads w hw (by omega) hS hL hx (fun j' hj hW => ⟨rfl, fun g => (by cases g), fun _ => ?_⟩) (fun j' hj hW => ⟨rfl, fun _ => ?_, fun g => absurd rfl g⟩) (fun e he => (by cases he)), fun g => absurd hx.1 g⟩
    · cases hj
      exact x_adv (by omega) hL hT hx (fun N' hF hk => ⟨hF.1, h N' hF (by rw [show sW T n w (.ok j) = .ok (j + 1) from ifc_pos hW]; exact hk)⟩)
    · cases hj
      exact x_fail (k := 1) (by omega) hL hT.2.1 (by omega) hx (fun N' hF hk => ⟨hF.1, h N' hF (by rw [show sW T n w (.ok j) = fl T n 1 (.ok j) from ifc_neg hW]; exact hk)⟩)
theorem nv_lt {T : Nat → Nat} {n b : Nat} (h : soF T n b = 2) : nvF T n b < 10000 := by
  unfold soF soP at h
  split at h
  · cases h
  · split at h
    · split at h <;> cases h
    · split at h
      · split at h
        · next h4 =>
          have f : ∀ i, i < fwd dgB T n (plF T n b) - plF T n b → T (plF T n b + i) - 48 < 10 := fun i hi => by
            have := (dgB_iff _).mp (fwd_all (P := dgB) (T := T) (n := n) (k := plF T n b) (i := plF T n b + i) (by omega) (by omega))
            omega
          have h1 : nvF T n b < 10 ^ (fwd dgB T n (plF T n b) - plF T n b) := cod_lt (by omega) f
          have p1 : 10 ^ (fwd dgB T n (plF T n b) - plF T n b) ≤ 10 ^ 4 := Nat.pow_le_pow_right (by omega) h4
          have q1 : (10 : Nat) ^ 4 = 10000 := by decide
          omega
        · cases h
      · split at h <;> cases h
theorem x_readNumber {G : MG} {d : Nat} {Q : Int32 → Mm → Prop} {T : Nat → Nat} {n c : Nat} {N : Mm} {x : Except Nat Nat} (lo hi : Nat) (hlo : lo < 1000) (hhi : hi < 1000) (hd : 4 ≤ d) (hL : Lay c N) (hT : TpX T n N) (hx : Tk T n N x)
    (h : ∀ r N', FT N N' → Tk T n N' (sNu T n lo hi x) → (∀ j, sNu T n lo hi x = .ok j → r = nI (vl T n x)) → Q r N') : C G Y_X10_readNumber d [.ref (G.b + 1), .int (nI lo), .int (nI hi)] N (Ri Q) := by
  refine up1 (P := fun d => C G Y_X10_readNumber d _ N (Ri Q)) (fun e => b_X10_readNumber (d := e + 3) hL ?_) hd
  cases x with
  | error z =>
    refine ⟨fun g => ?_, fun _ => h _ N (FT.rf N) hx (fun j hj => (by cases hj))⟩
    rw [hx.1] at g
    exact absurd g (nI_ne0 (by have := hx.2.1; omega) hx.2.2)
  | ok j =>
    refine ⟨fun _ => ?_, fun g => absurd hx.1 g⟩
    obtain ⟨k1, k2, k3, k4, k5, k6, k7⟩ := id hx
    have sl : soF T n (tbF T n j) ≤ 4 := soP_le T n (plF T n (tbF T n j))
    have bad : ∀ k, 1 ≤ k ∧ k ≤ 5 → sNu T n lo hi (.ok j) = fl T n k (.ok j) → C G Y_X10_fail (e + 3) [.ref (G.b + 1), .int (nI k)] N (Rv fun M4 => M4.2.2 = N.2.2 ∧ Q (nI lo) M4) := fun k hk he =>
      x_fail (by omega) hL hT.2.1 hk hx (fun N' hF hk' => ⟨hF.1, h _ N' hF (by rw [he]; exact hk') (fun j' hj' => by rw [he] at hj'; cases hj')⟩)
    rw [k4, show (2 : Int32) = nI 2 from rfl, nI_eq (by omega) (by omega), nI_l (by omega), nI_l (by omega)]
    refine ⟨fun g => ?_, fun g => bad 1 (by omega) (ifc_neg g)⟩
    have hv := nv_lt g
    rw [k6 g, pk_lLT (by omega) (by omega), pk_lLE (by omega) (by omega), lN_i]
    have e2 : sNu T n lo hi (.ok j) = ifc (nv T n j < lo ∨ hi < nv T n j) (.error (4 + 16 * plF T n (tbF T n j))) (.ok (j + 1)) := ifc_pos g
    refine ⟨fun g2 => bad 4 (by omega) (by rw [e2]; exact ifc_pos (.inl g2)), fun g2 => ⟨fun g3 => ?_, fun g3 => bad 4 (by omega) (by rw [e2]; exact ifc_pos (.inr (by show hi < nvF T n (tbF T n j); omega)))⟩⟩
    have e3 : sNu T n lo hi (.ok j) = .ok (j + 1) := by
      rw [e2]; exact ifc_neg (by show ¬ (nvF T n (tbF T n j) < lo ∨ hi < nvF T n (tbF T n j)); omega)
    exact x_adv (by omega) hL hT hx (fun N' hF hk => ⟨hF.1, h _ N' hF (by rw [e3]; exact hk) (fun _ _ => rfl)⟩)
theorem x_readBehind {G : MG} {d : Nat} {Q : Int32 → Mm → Prop} {T : Nat → Nat} {n c : Nat} {N : Mm} {x : Except Nat Nat} (w lo hi : Nat) (hw : w < 16) (hlo : lo < 1000) (hhi : hi < 1000) (hd : 8 ≤ d) (hS : StrF G) (hL : Lay c N) (hT : TpX T n N) (hx : Tk T n N x)
    (h : ∀ r N', FT N N' → Tk T n N' (sNu T n lo hi (sW T n w x)) → (∀ j, sNu T n lo hi (sW T n w x) = .ok j → r = nI (vl T n (sW T n w x))) → Q r N') : C G Y_X10_readNumberBehind d [.ref (G.b + 1), .ref (G.ad w), .int (nI lo), .int (nI hi)] N (Ri Q) := by
  refine up1 (P := fun d => C G Y_X10_readNumberBehind d _ N (Ri Q)) (fun e => b_X10_readNumberBehind (d := e + 7) hL ?_) hd
  refine x_skipWord w hw (by omega) hS hL hT hx (fun N' hF hk => ⟨hF.1, ?_⟩)
  exact x_readNumber lo hi hlo hhi (by omega) (lay_of hL hF.1) (hT.fr hF) hk (fun r N'' hF' hk' hr => ⟨hF'.1, h r N'' (hF.tr hF') hk' hr⟩)
theorem x_isSign {G : MG} {d : Nat} {Q : Int32 → Mm → Prop} {T : Nat → Nat} {n c : Nat} {N : Mm} {x : Except Nat Nat} (ch : Nat) (hch : ch < 128) (hd : 1 ≤ d) (hL : Lay c N) (hT : TpX T n N) (hx : Tk T n N x)
    (h1 : ∀ j, x = .ok j → isG T n j ch → Q 1 N) (h0 : ∀ j, x = .ok j → ¬ isG T n j ch → Q 0 N) (hE : ∀ e, x = .error e → Q 0 N ∧ Q 1 N) : C G Y_X10_isSignHere d [.ref (G.b + 1), .int (nI ch)] N (Ri Q) := by
  refine up1 (P := fun d => C G Y_X10_isSignHere d _ N (Ri Q)) (fun e => b_X10_isSignHere (d := e) hL ?_) hd
  cases x with
  | error z =>
    obtain ⟨a, b⟩ := hE z rfl
    exact ⟨fun _ => a, fun _ => ⟨fun _ => a, fun _ => b⟩⟩
  | ok j =>
    obtain ⟨k1, k2, k3, k4, k5, k6, k7⟩ := id hx
    have sl : soF T n (tbF T n j) ≤ 4 := soP_le T n (plF T n (tbF T n j))
    rw [k4, show (3 : Int32) = nI 3 from rfl, nI_eq (by omega) (by omega)]
    refine ⟨fun g => h0 j rfl (fun hh => g hh.1), fun g => ?_⟩
    have hp : plF T n (tbF T n j) < n := by
      by_cases hh : n ≤ plF T n (tbF T n j)
      · unfold soF soP at g
        rw [if_pos hh] at g; cases g
      · omega
    have ht := (hT.2.2 _ hp).2
    rw [k7 g, nI_l (by omega), pk_lEQ (by omega) (by omega)]
    exact ⟨fun q => h0 j rfl (fun hh => q hh.2), fun q => h1 j rfl ⟨g, q⟩⟩
theorem x_skipSign {G : MG} {d : Nat} {Q : Mm → Prop} {T : Nat → Nat} {n c : Nat} {N : Mm} {x : Except Nat Nat} (ch : Nat) (hch : ch < 128) (hd : 4 ≤ d) (hL : Lay c N) (hT : TpX T n N) (hx : Tk T n N x)
    (h : ∀ N', FT N N' → Tk T n N' (sG T n ch x) → Q N') : C G Y_X10_skipSign d [.ref (G.b + 1), .int (nI ch)] N (Rv Q) := by
  refine up1 (P := fun d => C G Y_X10_skipSign d _ N (Rv Q)) (fun e => b_X10_skipSign (d := e + 3) hL ?_) hd
  cases x with
  | error z =>
    refine ⟨fun g => ?_, fun _ => h N (FT.rf N) hx⟩
    rw [hx.1] at g
    exact absurd g (nI_ne0 (by have := hx.2.1; omega) hx.2.2)
  | ok j =>
    refine ⟨fun _ => x_isSign ch hch (by omega) hL hT hx (fun j' hj hW => ⟨rfl, fun g => (by cases g), fun _ => ?_⟩) (fun j' hj hW => ⟨rfl, fun _ => ?_, fun g => absurd rfl g⟩) (fun e he => (by cases he)), fun g => absurd hx.1 g⟩
    · cases hj
      exact x_adv (by omega) hL hT hx (fun N' hF hk => ⟨hF.1, h N' hF (by rw [show sG T n ch (.ok j) = .ok (j + 1) from ifc_pos hW]; exact hk)⟩)
    · cases hj
      exact x_fail (k := 1) (by omega) hL hT.2.1 (by omega) hx (fun N' hF hk => ⟨hF.1, h N' hF (by rw [show sG T n ch (.ok j) = fl T n 1 (.ok j) from ifc_neg hW]; exact hk)⟩)
