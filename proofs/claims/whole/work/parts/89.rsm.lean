/-! ===== office: the reference's small methods ===== -/
def RTs (T : Nat → Nat) (n m : Nat) (N : Mm) : Prop := m ≤ 1000 ∧ (∀ j, j ≤ m → TkR T n N j (tbF T n j)) ∧ soF T n (tbF T n m) = 0 ∧ (∀ k, k < 16 → N.2.1 152 k = wordT k) ∧ (∀ i, i < n → 10 ≤ T i ∧ T i ≤ 126) ∧ n ≤ 1000
theorem RTs.fr {T : Nat → Nat} {n m : Nat} {N N' : Mm} (h : RTs T n m N) (e1 : N'.1 149 = N.1 149) (e2 : N'.1 150 = N.1 150) (e3 : N'.2.1 151 = N.2.1 151) (e4 : N'.2.1 152 = N.2.1 152) : RTs T n m N' := by
  obtain ⟨h1, h2, h3, h4, h5, h6⟩ := h
  refine ⟨h1, fun j hj => ?_, h3, by rw [e4]; exact h4, h5, h6⟩
  unfold TkR
  rw [e1, e2, e3]
  exact h2 j hj
def Tr (T : Nat → Nat) (n m : Nat) (N : Mm) : Except Nat Nat → Prop
  | .error e => N.1 147 8 = nI e ∧ e ≠ 0 ∧ e < 2 ^ 31
  | .ok j => N.1 147 8 = 0 ∧ N.1 147 7 = nI j ∧ j ≤ m
theorem Tr.fr {T : Nat → Nat} {n m : Nat} {N N' : Mm} {x : Except Nat Nat} (h : Tr T n m N x) (e7 : N'.1 147 7 = N.1 147 7) (e8 : N'.1 147 8 = N.1 147 8) : Tr T n m N' x := by
  cases x with
  | error z => show N'.1 147 8 = nI z ∧ _; rw [e8]; exact h
  | ok j => show N'.1 147 8 = 0 ∧ N'.1 147 7 = nI j ∧ j ≤ m; rw [e7, e8]; exact h
def FR (N N' : Mm) : Prop := N'.2.2 = N.2.2 ∧ (∀ o, o ≠ 147 → N'.1 o = N.1 o) ∧ (∀ k, k ≠ 7 → k ≠ 8 → N'.1 147 k = N.1 147 k) ∧ N'.2.1 = N.2.1
theorem FR.rf (N : Mm) : FR N N := ⟨rfl, fun _ _ => rfl, fun _ _ _ => rfl, rfl⟩
theorem FR.tr {N N' P : Mm} (h : FR N N') (k : FR N' P) : FR N P := ⟨k.1.trans h.1, fun o ho => (k.2.1 o ho).trans (h.2.1 o ho), fun q h1 h2 => (k.2.2.1 q h1 h2).trans (h.2.2.1 q h1 h2), k.2.2.2.trans h.2.2.2⟩
theorem FR.si {N : Mm} {k : Nat} {v : Int32} (h : k = 7 ∨ k = 8) : FR N (sI N 147 k v) := ⟨rfl, fun o ho => sI_ne ho, fun q h1 h2 => by rw [rd_sI, if_neg (by omega)], rfl⟩
theorem RTs.r {T : Nat → Nat} {n m : Nat} {N N' : Mm} (h : RTs T n m N) (k : FR N N') : RTs T n m N' := h.fr (k.2.1 149 (by omega)) (k.2.1 150 (by omega)) (by rw [k.2.2.2]) (by rw [k.2.2.2])
theorem m_wrong {G : MG} {d : Nat} {Q : Mm → Prop} {T : Nat → Nat} {n m c k : Nat} {N : Mm} {x : Except Nat Nat} (hd : 1 ≤ d) (hL : Lay c N) (hR : RTs T n m N) (hk : 1 ≤ k ∧ k ≤ 5) (hx : Tr T n m N x)
    (h : ∀ N', FR N N' → Tr T n m N' (fl T n k x) → Q N') : C G Y_X12_wrong d [.ref (G.b + 147), .int (nI k)] N (Rv Q) := by
  refine up1 (P := fun d => C G Y_X12_wrong d _ N (Rv Q)) (fun e => b_X12_wrong (d := e) hL ?_) hd
  cases x with
  | error z =>
    refine ⟨fun _ => h N (FR.rf N) hx, fun g => ?_⟩
    rw [hx.1] at g
    exact absurd g (nI_ne0 (by have := hx.2.1; omega) hx.2.2)
  | ok j =>
    obtain ⟨h8, h7, hj⟩ := hx
    have hm := hR.1
    have hn := hR.2.2.2.2.2
    have pe := plF_le (T := T) (tbF_le T n j)
    refine ⟨fun g => absurd h8 g, fun _ => ?_⟩
    rw [h7, nI_clamp (by omega)]
    refine ⟨inM (by omega) (by omega), fun M2 e2 => ?_⟩
    rw [(hR.2.1 j hj).2.1, show (16 : Int32) = nI 16 from rfl, pk_mul, nI_add] at e2
    subst e2
    exact h _ (FR.si (.inr rfl)) ⟨by rw [rd_sI, if_pos ⟨rfl, rfl⟩], by omega, by omega⟩
theorem m_isSign {G : MG} {d : Nat} {Q : Int32 → Mm → Prop} {T : Nat → Nat} {n m c : Nat} {N : Mm} {x : Except Nat Nat} (ch : Nat) (hch : ch < 128) (hd : 1 ≤ d) (hL : Lay c N) (hR : RTs T n m N) (hx : Tr T n m N x)
    (h1 : ∀ j, x = .ok j → isG T n j ch → Q 1 N) (h0 : (∀ j, x = .ok j → ¬ isG T n j ch) → Q 0 N) : C G Y_X12_isSign d [.ref (G.b + 147), .int (nI ch)] N (Ri Q) := by
  refine up1 (P := fun d => C G Y_X12_isSign d _ N (Ri Q)) (fun e => b_X12_isSign (d := e) hL ?_) hd
  cases x with
  | error z =>
    refine ⟨fun _ => h0 (fun j hj => by cases hj), fun g => ?_⟩
    rw [hx.1] at g
    exact absurd g (nI_ne0 (by have := hx.2.1; omega) hx.2.2)
  | ok j =>
    obtain ⟨h8, h7, hj⟩ := hx
    have hm := hR.1
    have sl : soF T n (tbF T n j) ≤ 4 := soP_le T n (plF T n (tbF T n j))
    obtain ⟨t1, t2, t3, t4, t5⟩ := hR.2.1 j hj
    refine ⟨fun g => absurd h8 g, fun _ => ?_⟩
    rw [h7, nI_clamp (by omega), t1, show (3 : Int32) = nI 3 from rfl, nI_eq (by omega) (by omega)]
    refine ⟨inM (by omega) (by omega), fun g => h0 (fun j' hj' hg => by cases hj'; exact g hg.1), fun g => ⟨inM (by omega) (by omega), ?_⟩⟩
    have hp : plF T n (tbF T n j) < n := by
      by_cases hh : n ≤ plF T n (tbF T n j)
      · unfold soF soP at g
        rw [if_pos hh] at g; cases g
      · omega
    have ht := hR.2.2.2.2.1 _ hp
    rw [t5 g, nI_l (by omega), pk_lEQ (by omega) (by omega)]
    exact ⟨fun q => h0 (fun j' hj' hg => by cases hj'; exact q hg.2), fun q => h1 j rfl ⟨g, q⟩⟩
theorem m_isWord {G : MG} {d : Nat} {Q : Int32 → Mm → Prop} {T : Nat → Nat} {n m c : Nat} {N : Mm} {x : Except Nat Nat} (w : Nat) (hw : w < 16) (hd : 1 ≤ d) (hL : Lay c N) (hR : RTs T n m N) (hx : Tr T n m N x)
    (h1 : ∀ j, x = .ok j → isW T n j w → Q 1 N) (h0 : (∀ j, x = .ok j → ¬ isW T n j w) → Q 0 N) : C G Y_X12_isWord d [.ref (G.b + 147), .int (nI w)] N (Ri Q) := by
  refine up1 (P := fun d => C G Y_X12_isWord d _ N (Ri Q)) (fun e => b_X12_isWord (d := e) hL ?_) hd
  cases x with
  | error z =>
    refine ⟨fun _ => h0 (fun j hj => by cases hj), fun g => ?_⟩
    rw [hx.1] at g
    exact absurd g (nI_ne0 (by have := hx.2.1; omega) hx.2.2)
  | ok j =>
    obtain ⟨h8, h7, hj⟩ := hx
    have hm := hR.1
    have sl : soF T n (tbF T n j) ≤ 4 := soP_le T n (plF T n (tbF T n j))
    obtain ⟨t1, t2, t3, t4, t5⟩ := hR.2.1 j hj
    obtain ⟨w1, w2, w3, w4⟩ := w37_T w hw
    refine ⟨fun g => absurd h8 g, fun _ => ?_⟩
    rw [h7, nI_clamp (by omega), t1, show (1 : Int32) = nI 1 from rfl, nI_eq (by omega) (by omega), nI_clamp (show w < 2 ^ 31 by omega), hR.2.2.2.1 w hw, w1]
    refine ⟨inM (by omega) (by omega), fun g => h0 (fun j' hj' hg => by cases hj'; exact g hg.1), fun g => ⟨inM (by omega) (by omega), inM (by omega) (by omega), ?_⟩⟩
    rw [t3 g, pk_lEQ (by have := (wd_lt g).2; omega) (by omega)]
    exact ⟨fun q => h0 (fun j' hj' hg => by cases hj'; exact q hg.2), fun q => h1 j rfl ⟨g, q⟩⟩
theorem so_lt {T : Nat → Nat} {n m j : Nat} {N : Mm} (hR : RTs T n m N) (hj : j ≤ m) (h : soF T n (tbF T n j) ≠ 0) : j + 1 ≤ m := by
  by_cases e : j = m
  · subst e; exact absurd hR.2.2.1 h
  · omega
theorem m_takeSign {G : MG} {d : Nat} {Q : Mm → Prop} {T : Nat → Nat} {n m c : Nat} {N : Mm} {x : Except Nat Nat} (ch : Nat) (hch : ch < 128) (hd : 2 ≤ d) (hL : Lay c N) (hR : RTs T n m N) (hx : Tr T n m N x)
    (h : ∀ N', FR N N' → Tr T n m N' (sG T n ch x) → Q N') : C G Y_X12_takeSign d [.ref (G.b + 147), .int (nI ch)] N (Rv Q) := by
  refine up1 (P := fun d => C G Y_X12_takeSign d _ N (Rv Q)) (fun e => b_X12_takeSign (d := e + 1) hL ?_) hd
  refine m_isSign ch hch (by omega) hL hR hx (fun j hj hG => ⟨rfl, fun g => (by cases g), fun _ M5 e5 => ?_⟩) (fun hno => ⟨rfl, fun _ => ?_, fun g => absurd rfl g⟩)
  · subst hj
    obtain ⟨h8, h7, hj⟩ := hx
    rw [h7, nI_1] at e5
    subst e5
    refine h _ (FR.si (.inl rfl)) ?_
    rw [show sG T n ch (.ok j) = .ok (j + 1) from ifc_pos hG]
    exact ⟨by rw [rd_sI, if_neg (by omega)]; exact h8, by rw [rd_sI, if_pos ⟨rfl, rfl⟩], so_lt hR hj (by have := hG.1; omega)⟩
  · refine m_wrong (k := 1) (by omega) hL hR (by omega) hx (fun N' hF hk => ⟨hF.1, h N' hF ?_⟩)
    cases x with
    | error z => exact hk
    | ok j => rw [show sG T n ch (.ok j) = fl T n 1 (.ok j) from ifc_neg (hno j rfl)]; exact hk
theorem m_hasWord {G : MG} {d : Nat} {Q : Int32 → Mm → Prop} {T : Nat → Nat} {n m c : Nat} {N : Mm} {x : Except Nat Nat} (w : Nat) (hw : w < 16) (hd : 2 ≤ d) (hL : Lay c N) (hR : RTs T n m N) (hx : Tr T n m N x)
    (h1 : ∀ j N', x = .ok j → isW T n j w → FR N N' → Tr T n m N' (.ok (j + 1)) → Q 1 N') (h0 : ∀ N', (∀ j, x = .ok j → ¬ isW T n j w) → FR N N' → Tr T n m N' x → Q 0 N') : C G Y_X12_hasWord d [.ref (G.b + 147), .int (nI w)] N (Ri Q) := by
  refine up1 (P := fun d => C G Y_X12_hasWord d _ N (Ri Q)) (fun e => b_X12_hasWord (d := e + 1) hL ?_) hd
  refine m_isWord w hw (by omega) hL hR hx (fun j hj hG => ⟨rfl, fun g => (by cases g), fun _ M5 e5 => ⟨.inr rfl, ?_⟩⟩) (fun hno => ⟨rfl, fun _ M4 e4 => ⟨.inl rfl, ?_⟩, fun g => absurd rfl g⟩)
  · subst hj
    obtain ⟨h8, h7, hj⟩ := hx
    rw [h7, nI_1] at e5
    subst e5
    exact h1 j _ rfl hG (FR.si (.inl rfl)) ⟨by rw [rd_sI, if_neg (by omega)]; exact h8, by rw [rd_sI, if_pos ⟨rfl, rfl⟩], so_lt hR hj (by have := hG.1; omega)⟩
  · have e0 : N.1 147 7 + 0 = N.1 147 7 := Int32.add_zero _
    rw [e0] at e4
    subst e4
    exact h0 _ hno (FR.si (.inl rfl)) (hx.fr (by rw [rd_sI, if_pos ⟨rfl, rfl⟩]) (by rw [rd_sI, if_neg (by omega)]))
theorem m_takeWord {G : MG} {d : Nat} {Q : Mm → Prop} {T : Nat → Nat} {n m c : Nat} {N : Mm} {x : Except Nat Nat} (w : Nat) (hw : w < 16) (hd : 3 ≤ d) (hL : Lay c N) (hR : RTs T n m N) (hx : Tr T n m N x)
    (h : ∀ N', FR N N' → Tr T n m N' (sW T n w x) → Q N') : C G Y_X12_takeWord d [.ref (G.b + 147), .int (nI w)] N (Rv Q) := by
  refine up1 (P := fun d => C G Y_X12_takeWord d _ N (Rv Q)) (fun e => b_X12_takeWord (d := e + 2) hL ?_) hd
  refine m_hasWord w hw (by omega) hL hR hx (fun j N' hj hG hF hk => ⟨hF.1, fun _ => h N' hF ?_, fun g => (by cases g)⟩) (fun N' hno hF hk => ⟨hF.1, fun g => absurd rfl g, fun _ => ?_⟩)
  · rw [hj, show sW T n w (.ok j) = .ok (j + 1) from ifc_pos hG]; exact hk
  · refine m_wrong (k := 1) (by omega) (lay_of hL hF.1) (hR.r hF) (by omega) hk (fun N'' hF' hk' => ⟨hF'.1, h N'' (hF.tr hF') ?_⟩)
    cases x with
    | error z => exact hk'
    | ok j => rw [show sW T n w (.ok j) = fl T n 1 (.ok j) from ifc_neg (hno j rfl)]; exact hk'
theorem m_num70 {G : MG} {e : Nat} {Q : Int32 → Mm → Prop} {T : Nat → Nat} {n m c : Nat} {N : Mm} {x : Except Nat Nat} (hL : Lay c N) (hR : RTs T n m N) (hx : Tr T n m N x) (hok : ∀ j, x = .ok j → soF T n (tbF T n j) = 2)
    (h0 : ∀ z, x = .error z → Q 0 N) (h1 : ∀ j N', x = .ok j → FR N N' → Tr T n m N' (.ok (j + 1)) → Q (nI (nv T n j)) N') : L_X12_takeNumber_70 G e Q N := by
  cases x with
  | error z =>
    refine b_X12_takeNumber_70 hL ⟨fun g => ?_, fun _ => h0 z rfl⟩
    rw [hx.1] at g
    exact absurd g (nI_nle (by have := hx.2.1; omega) hx.2.2)
  | ok j =>
    obtain ⟨h8, h7, hj⟩ := hx
    have hm := hR.1
    have h2 := hok j rfl
    refine b_X12_takeNumber_70 hL ⟨fun _ M2 e2 => ?_, fun g => absurd (by rw [h8]; decide) g⟩
    rw [h7, nI_1] at e2
    have r7 : M2.1 147 7 = nI (j + 1) := by subst e2; rw [rd_sI, if_pos ⟨rfl, rfl⟩]
    have l : M2.2.1 = N.2.1 := by subst e2; rfl
    rw [r7, nI_pred, nI_clamp (by omega), l, (hR.2.1 j hj).2.2.2.1 h2, lN_i]
    refine ⟨inM (by omega) (by omega), ?_⟩
    subst e2
    exact h1 j _ rfl (FR.si (.inl rfl)) ⟨by rw [rd_sI, if_neg (by omega)]; exact h8, by rw [rd_sI, if_pos ⟨rfl, rfl⟩], so_lt hR hj (by omega)⟩
theorem m_takeNumber {G : MG} {d : Nat} {Q : Int32 → Mm → Prop} {T : Nat → Nat} {n m c : Nat} {N : Mm} {x : Except Nat Nat} (lo hi : Nat) (hlo : lo < 1000) (hhi : hi < 1000) (hd : 2 ≤ d) (hL : Lay c N) (hR : RTs T n m N) (hx : Tr T n m N x)
    (h : ∀ r N', FR N N' → Tr T n m N' (sNu T n lo hi x) → (∀ j, sNu T n lo hi x = .ok j → r = nI (vl T n x)) → Q r N') : C G Y_X12_takeNumber d [.ref (G.b + 147), .int (nI lo), .int (nI hi)] N (Ri Q) := by
  refine up1 (P := fun d => C G Y_X12_takeNumber d _ N (Ri Q)) (fun e => b_X12_takeNumber (d := e + 1) hL ?_) hd
  cases x with
  | error z =>
    have h70 : L_X12_takeNumber_70 G (e + 1) Q N := m_num70 hL hR hx (fun j hj => by cases hj) (fun z hz => h 0 N (FR.rf N) hx (fun j hj => by cases hj)) (fun j N' hj => by cases hj)
    refine ⟨fun g => b_X12_takeNumber_28 hL ⟨fun _ => h70, fun g2 => absurd g2 g⟩, fun g => ?_⟩
    rw [hx.1] at g
    exact absurd g (nI_ne0 (by have := hx.2.1; omega) hx.2.2)
  | ok j =>
    obtain ⟨h8, h7, hj⟩ := id hx
    have hm := hR.1
    have sl : soF T n (tbF T n j) ≤ 4 := soP_le T n (plF T n (tbF T n j))
    obtain ⟨t1, t2, t3, t4, t5⟩ := hR.2.1 j hj
    have bad : ∀ k, 1 ≤ k ∧ k ≤ 5 → sNu T n lo hi (.ok j) = fl T n k (.ok j) → C G Y_X12_wrong (e + 1) [.ref (G.b + 147), .int (nI k)] N (Rv fun M3 => M3.2.2 = N.2.2 ∧ L_X12_takeNumber_70 G (e + 1) Q M3) := fun k hk he =>
      m_wrong (by omega) hL hR hk hx (fun N' hF hk' => ⟨hF.1, m_num70 (lay_of hL hF.1) (hR.r hF) hk' (fun j' hj' => absurd hj' fl_err) (fun z hz => h 0 N' hF (by rw [he]; exact hk') (fun j' hj' => by rw [he] at hj'; exact absurd hj' fl_err)) (fun j' N'' hj' => absurd hj' fl_err)⟩)
    refine ⟨fun g => absurd h8 g, fun _ => ?_⟩
    rw [h7, nI_clamp (by omega), t1, show (2 : Int32) = nI 2 from rfl, nI_eq (by omega) (by omega)]
    refine ⟨inM (by omega) (by omega), fun g => ?_, fun g => bad 1 (by omega) (ifc_neg g)⟩
    have hv := nv_lt g
    have e2 : sNu T n lo hi (.ok j) = ifc (nv T n j < lo ∨ hi < nv T n j) (.error (4 + 16 * plF T n (tbF T n j))) (.ok (j + 1)) := ifc_pos g
    refine b_X12_takeNumber_28 hL ⟨fun q => absurd h8 q, fun _ => ?_⟩
    rw [h7, nI_clamp (by omega), t4 g, nI_l (by omega), nI_l (by omega), pk_lLT (by omega) (by omega), pk_lLE (by omega) (by omega)]
    refine ⟨inM (by omega) (by omega), fun g2 => bad 4 (by omega) (by rw [e2]; exact ifc_pos (.inl g2)), fun g2 => ⟨inM (by omega) (by omega), fun g3 => ?_, fun g3 => bad 4 (by omega) (by rw [e2]; exact ifc_pos (.inr (by show hi < nvF T n (tbF T n j); omega)))⟩⟩
    have e3 : sNu T n lo hi (.ok j) = .ok (j + 1) := by
      rw [e2]; exact ifc_neg (by show ¬ (nvF T n (tbF T n j) < lo ∨ hi < nvF T n (tbF T n j)); omega)
    exact m_num70 hL hR hx (fun j' hj' => by cases hj'; exact g) (fun z hz => by cases hz) (fun j' N' hj' hF hk => by cases hj'; exact h _ N' hF (by rw [e3]; exact hk) (fun _ _ => rfl))
theorem m_takeAfter {G : MG} {d : Nat} {Q : Int32 → Mm → Prop} {T : Nat → Nat} {n m c : Nat} {N : Mm} {x : Except Nat Nat} (w lo hi : Nat) (hw : w < 16) (hlo : lo < 1000) (hhi : hi < 1000) (hd : 4 ≤ d) (hL : Lay c N) (hR : RTs T n m N) (hx : Tr T n m N x)
    (h : ∀ r N', FR N N' → Tr T n m N' (sNu T n lo hi (sW T n w x)) → (∀ j, sNu T n lo hi (sW T n w x) = .ok j → r = nI (vl T n (sW T n w x))) → Q r N') : C G Y_X12_takeAfter d [.ref (G.b + 147), .int (nI w), .int (nI lo), .int (nI hi)] N (Ri Q) := by
  refine up1 (P := fun d => C G Y_X12_takeAfter d _ N (Ri Q)) (fun e => b_X12_takeAfter (d := e + 3) hL ?_) hd
  refine m_takeWord w hw (by omega) hL hR hx (fun N' hF hk => ⟨hF.1, ?_⟩)
  exact m_takeNumber lo hi hlo hhi (by omega) (lay_of hL hF.1) (hR.r hF) hk (fun r N'' hF' hk' hr => ⟨hF'.1, h r N'' (hF.tr hF') hk' hr⟩)
theorem m_isName {G : MG} {d : Nat} {Q : Int32 → Mm → Prop} {T : Nat → Nat} {n m c j : Nat} {N : Mm} (hd : 1 ≤ d) (hL : Lay c N) (hR : RTs T n m N) (hx : Tr T n m N (.ok j))
    (h1 : soF T n (tbF T n j) = 1 ∧ ¬ isRes T n j → Q 1 N) (h0 : ¬ (soF T n (tbF T n j) = 1 ∧ ¬ isRes T n j) → Q 0 N) : C G Y_X12_isName d [.ref (G.b + 147)] N (Ri Q) := by
  refine up1 (P := fun d => C G Y_X12_isName d _ N (Ri Q)) (fun e => b_X12_isName (d := e) hL ?_) hd
  obtain ⟨h8, h7, hj⟩ := hx
  have hm := hR.1
  have sl : soF T n (tbF T n j) ≤ 4 := soP_le T n (plF T n (tbF T n j))
  obtain ⟨t1, t2, t3, t4, t5⟩ := hR.2.1 j hj
  have no : ¬ (soF T n (tbF T n j) = 1 ∧ ¬ isRes T n j) → ∀ p k, k + p = 16 → L_X12_isName_28 G e Q 0 (nI k) N := by
    intro hn p
    induction p with
    | zero =>
      intro k hk
      have : k = 16 := by omega
      subst this
      exact b_X12_isName_28 hL ⟨fun _ => ⟨.inl rfl, h0 hn⟩, fun g => absurd (by decide) g⟩
    | succ p ih =>
      intro k hk
      refine b_X12_isName_28 hL ⟨fun g => absurd g ?_, fun _ => ⟨fun _ => by rw [nI_1]; exact ih (k + 1) (by omega), fun g => absurd rfl g⟩⟩
      rw [show (16 : Int32) = nI 16 from rfl, nI_leI (by omega) (by omega)]; omega
  have yes : soF T n (tbF T n j) = 1 → ∀ p k, k + p = 16 → (∀ w, w < k → ¬ isW T n j w) → L_X12_isName_28 G e Q 1 (nI k) N := by
    intro h1' p
    induction p with
    | zero =>
      intro k hk hno
      have : k = 16 := by omega
      subst this
      exact b_X12_isName_28 hL ⟨fun _ => ⟨.inr rfl, h1 ⟨h1', fun ⟨w, hw, hW⟩ => hno w hw hW⟩⟩, fun g => absurd (by decide) g⟩
    | succ p ih =>
      intro k hk hno
      obtain ⟨w1, w2, w3, w4⟩ := w37_T k (by omega)
      refine b_X12_isName_28 hL ⟨fun g => absurd g ?_, fun _ => ⟨fun g => (by cases g), fun _ => ?_⟩⟩
      · rw [show (16 : Int32) = nI 16 from rfl, nI_leI (by omega) (by omega)]; omega
      · rw [h7, nI_clamp (by omega), nI_clamp (show k < 2 ^ 31 by omega), t3 h1', hR.2.2.2.1 k (by omega), w1, pk_lEQ (by have := (wd_lt h1').2; omega) (by omega), nI_1]
        refine ⟨inM (by omega) (by omega), inM (by omega) (by omega), fun g => no (fun hh => hh.2 ⟨k, by omega, h1', g⟩) p (k + 1) (by omega), fun g => ih (k + 1) (by omega) (fun w hw => ?_)⟩
        by_cases e1 : w = k
        · subst e1; exact fun hW => g hW.2
        · exact hno w (by omega)
  refine ⟨fun g => absurd h8 g, fun _ => ?_⟩
  rw [h7, nI_clamp (by omega), t1, show nI (soF T n (tbF T n j)) = 1 ↔ soF T n (tbF T n j) = 1 by rw [show (1 : Int32) = nI 1 from rfl, nI_eq (by omega) (by omega)]]
  exact ⟨inM (by omega) (by omega), fun g => no (fun hh => g hh.1) 16 0 (by omega), fun g => yes g 16 0 (by omega) (fun w hw => by omega)⟩
