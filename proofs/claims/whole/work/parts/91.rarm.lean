/-! ===== office: an arm of the reference ===== -/
def FRA (i0 : Nat) (N N' : Mm) : Prop := N'.2.2 = N.2.2 ∧ (∀ o, o ≠ 147 → o ≠ 153 → N'.1 o = N.1 o) ∧ (∀ k, k ≠ 7 → k ≠ 8 → k ≠ 13 → N'.1 147 k = N.1 147 k) ∧ (∀ k, k ≠ 110 → (k < i0 ∨ i0 + 13 < k) → N'.1 153 k = N.1 153 k) ∧ ∀ o, o ≠ 155 → N'.2.1 o = N.2.1 o
theorem FRA.tr {i0 : Nat} {N N' P : Mm} (h : FRA i0 N N') (k : FRA i0 N' P) : FRA i0 N P := ⟨k.1.trans h.1, fun o h1 h2 => (k.2.1 o h1 h2).trans (h.2.1 o h1 h2), fun q h1 h2 h3 => (k.2.2.1 q h1 h2 h3).trans (h.2.2.1 q h1 h2 h3), fun q h1 h2 => (k.2.2.2.1 q h1 h2).trans (h.2.2.2.1 q h1 h2), fun o ho => (k.2.2.2.2 o ho).trans (h.2.2.2.2 o ho)⟩
theorem FN.fa' {i0 : Nat} {N N' : Mm} (h : FN N N') : FRA i0 N N' := ⟨h.1, fun o h1 _ => h.2.1 o h1, h.2.2.1, fun k _ _ => by rw [h.2.1 153 (by omega)], h.2.2.2⟩
theorem FR.fa' {i0 : Nat} {N N' : Mm} (h : FR N N') : FRA i0 N N' := h.fn.fa'
theorem FH.fa' {i0 : Nat} {N N' : Mm} (h : FH i0 N N') : FRA i0 N N' := ⟨h.1, h.2.1, fun k h1 h2 _ => h.2.2.1 k h1 h2, fun k h1 h2 => h.2.2.2.1 k (by omega) (by omega), fun o _ => by rw [h.2.2.2.2]⟩
theorem FRA.si {i0 k : Nat} {N : Mm} {v : Int32} (h : k = 110 ∨ i0 ≤ k ∧ k ≤ i0 + 13) : FRA i0 N (sI N 153 k v) := ⟨rfl, fun o _ h2 => sI_ne h2, fun q _ _ _ => by rw [rd_sI, if_neg (by omega)], fun q h1 h2 => by rw [rd_sI, if_neg (by omega)], fun _ _ => rfl⟩
theorem RTs.a {T : Nat → Nat} {n m i0 : Nat} {N N' : Mm} (h : RTs T n m N) (k : FRA i0 N N') : RTs T n m N' := h.fr (k.2.1 149 (by omega) (by omega)) (k.2.1 150 (by omega) (by omega)) (k.2.2.2.2 151 (by omega)) (k.2.2.2.2 152 (by omega))
theorem CE.r {P P' : Mm} {l : List (Nat × Int32)} (h : CE P 153 l) (e : FR P P') : CE P' 153 l := fun kv hm => by rw [e.2.1 153 (by omega)]; exact h kv hm
theorem CE.sub {P : Mm} {q : Nat} {l l' : List (Nat × Int32)} (h : CE P q l) (e : ∀ kv, kv ∈ l' → kv ∈ l) : CE P q l' := fun kv hm => h kv (e kv hm)
theorem NmR.fr {T : Nat → Nat} {n : Nat} {N N' : Mm} {nm : List Nat} (h : NmR T n N nm) (e1 : N'.1 147 13 = N.1 147 13) (e2 : N'.2.1 155 = N.2.1 155) : NmR T n N' nm := by
  unfold NmR
  rw [e1, e2]
  exact h
/-- a row of the reference -/
def RX (N : Mm) (i0 : Nat) (r : Nat → Nat) : Prop := CE N 153 [(i0 + 13, nI (r 13)), (i0 + 12, nI (r 12)), (i0 + 11, nI (r 11)), (i0 + 10, nI (r 10)), (i0 + 9, nI (r 9)), (i0 + 8, nI (r 8)), (i0 + 7, nI (r 7)), (i0 + 6, nI (r 6)), (i0 + 0, nI (r 0))] ∧ N.1 153 (i0 + 1) = nI (r 1) ∧ ∀ i, i < r 1 → N.1 153 (i0 + 2 + i) = nI (r (2 + i))
theorem aB_err {T : Nat → Nat} {n j z : Nat} {nm : List Nat} (h : aK T n nm j = .error z) : bnd T n (aS T n nm j) = .error z := by
  unfold aS aR aY aX aT aHr
  rw [h]
  rfl
theorem m_readArm {G : MG} {d : Nat} {Q : Mm → Prop} {T : Nat → Nat} {n m c na j i0 : Nat} {nm : List Nat} {N : Mm} (hd : 5 ≤ d) (hL : Lay c N) (hR : RTs T n m N) (hx : Tr T n m N (.ok j)) (hj1 : j + 1 ≤ m) (hna : na < 6) (hi0 : i0 = 111 + 14 * na) (h110 : N.1 153 110 = nI na) (hz1 : N.1 153 (i0 + 1) = 0) (hz13 : N.1 153 (i0 + 13) = 0) (hN : NmR T n N nm) (hl : nm.length < 13)
    (h : ∀ N', FRA i0 N N' → Tr T n m N' (bnd T n (aS T n nm j)) → (∀ k, bnd T n (aS T n nm j) = .ok k → N'.1 153 110 = nI (na + 1) ∧ NmR T n N' (nm ++ [j + 1]) ∧ ((∃ k', (aHr T n nm j).1 = .ok k') → (∃ k', aE T n nm j = .ok k') → RX N' i0 (aRow T n nm j))) → Q N') : C G Y_X12_readArm d [.ref (G.b + 147)] N (Rv Q) := by
  refine up1 (P := fun d => C G Y_X12_readArm d _ N (Rv Q)) (fun e => b_X12_readArm (d := e + 4) hL ?_) hd
  rw [show Int32.toNatClampNeg 110 = 110 from rfl, h110, show (6 : Int32) = nI 6 from rfl, nI_eq (by omega) (by omega)]
  refine ⟨fun _ => ?_, fun g => by omega⟩
  refine m_readName (by omega) hL hR hx hj1 hN hl (fun N2 f2 k2 n2 => ⟨f2.1, ?_⟩)
  have F2 : FRA i0 N N2 := f2.fa'
  have hL2 := lay_of hL F2.1
  have hR2 := hR.a F2
  have r2 : N2.1 153 = N.1 153 := f2.2.1 153 (by omega)
  have idx : ∀ x : Int32, x = 111 + 14 * nI na → x = nI i0 := fun x hx => by rw [hx, show (14 : Int32) = nI 14 from rfl, show (111 : Int32) = nI 111 from rfl, pk_mul, nI_add, hi0]
  -- the kind fails
  have bad : (∀ i, aN T n nm j = .ok i → ¬ isK T n i) → C G Y_X12_wrong (e + 4) [.ref (G.b + 147), .int 1] N2 (Rv fun M8 => M8.2.2 = N2.2.2 ∧ Q M8) := fun hno => by
    refine m_wrong (k := 1) (by omega) hL2 hR2 (by omega) k2 (fun P hF hk => ⟨hF.1, ?_⟩)
    have ez : ∃ z, fl T n 1 (aN T n nm j) = .error z ∧ aK T n nm j = .error z := by
      unfold aK
      cases hh : aN T n nm j with
      | error z => exact ⟨z, rfl, rfl⟩
      | ok i => exact ⟨_, rfl, ifc_neg (hno i hh)⟩
    obtain ⟨z, z1, z2⟩ := ez
    rw [z1] at hk
    exact h P (F2.tr hF.fa') (by rw [aB_err z2]; exact hk) (fun k hk' => by rw [aB_err z2] at hk'; cases hk')
  -- the kind is read
  have good : ∀ i k0, aN T n nm j = .ok i → k0 < 4 → isW T n i (12 + k0) → L_X12_readArm_28 G (e + 4) Q (nI na) (nI k0) (nI 4) N2 := by
    intro i k0 hi hk0 hW
    have hk : aK T n nm j = .ok (i + 1) := by unfold aK; rw [hi]; exact ifc_pos ⟨k0, hk0, hW⟩
    have hkd : kdX T n (aN T n nm j) = k0 := by rw [hi]; exact kdv_is hk0 hW
    have nm2 := n2 i hi
    rw [hi] at k2
    refine b_X12_readArm_28 hL2 ⟨fun _ => ⟨fun _ M3 e3 => ?_, fun g => absurd (nI_pos' (by omega)) g⟩, fun g => absurd (by decide) g⟩
    rw [idx _ rfl, k2.2.1, nI_1] at *
    have x3 : Tr T n m M3 (aK T n nm j) := by
      rw [hk]; subst e3
      exact ⟨by rw [rd_sI, if_neg (by omega)]; exact k2.1, by rw [rd_sI, if_pos ⟨rfl, rfl⟩], so_lt hR2 k2.2.2 (by have := hW.1; omega)⟩
    rw [show nI i0 + 0 = nI (i0 + 0) by rw [show (0 : Int32) = nI 0 from rfl, nI_add], nI_clamp (by omega)]
    refine ⟨inM (by omega) (by omega), fun M4 e4 => ?_⟩
    have f3 : FR N2 M3 := by subst e3; exact FR.si (.inl rfl)
    -- a field more
    have st : ∀ {P P' P'' : Mm} {k : Nat} {r : Int32} {l : List (Nat × Int32)} {x : Except Nat Nat}, FRA i0 N P → P.1 153 110 = nI na → NmR T n P (nm ++ [j + 1]) → CE P 153 l → FR P P' → Tr T n m P' x → P'' = sI P' 153 (i0 + k) r → k ≤ 13 → (∀ kv, kv ∈ l → kv.1 ≠ i0 + k) →
        FRA i0 N P'' ∧ P''.1 153 110 = nI na ∧ NmR T n P'' (nm ++ [j + 1]) ∧ CE P'' 153 ((i0 + k, r) :: l) ∧ Tr T n m P'' x := by
      intro P P' P'' k r l x h1 h2 h3 h4 h5 h6 h7 h8 h9
      subst h7
      refine ⟨h1.tr (h5.fa'.tr (FRA.si (.inr ⟨by omega, by omega⟩))), ?_, (h3.r h5).fr (by rw [sI_ne (show (147 : Nat) ≠ 153 by omega)]) rfl, (h4.r h5).si h9, h6.fr (by rw [sI_ne (show (147 : Nat) ≠ 153 by omega)]) (by rw [sI_ne (show (147 : Nat) ≠ 153 by omega)])⟩
      rw [rd_sI, if_neg (by omega), h5.2.1 153 (by omega)]; exact h2
    obtain ⟨F4, a4, nm4, c4, x4⟩ := st (l := [(i0 + 13, 0)]) F2 (by rw [r2]; exact h110) nm2 (fun kv hm => by
      rcases List.mem_singleton.mp hm with rfl
      rw [r2]; exact hz13) f3 x3 e4 (by omega) (by simp)
    have hh4 : HR M4 i0 [] := by
      refine ⟨?_, by show 0 ≤ 4; omega, fun k hk' => by have : k < 0 := hk'; omega⟩
      subst e4; rw [rd_sI, if_neg (by omega), f3.2.1 153 (by omega), r2]; exact hz1
    refine m_takeWord 1 (by omega) (by omega) (lay_of hL F4.1) (hR.a F4) x4 (fun N5 f5 x5 => ⟨f5.1, ?_⟩)
    have hr : ∀ {P P' : Mm} {l : List (Nat × Int32)}, FRA i0 N P → P.1 153 110 = nI na → NmR T n P (nm ++ [j + 1]) → CE P 153 l → FH i0 P P' → (∀ kv, kv ∈ l → kv.1 < i0 + 1 ∨ i0 + 5 < kv.1) → FRA i0 N P' ∧ P'.1 153 110 = nI na ∧ NmR T n P' (nm ++ [j + 1]) ∧ CE P' 153 l := by
      intro P P' l h1 h2 h3 h4 h5 h6
      refine ⟨h1.tr h5.fa', ?_, h3.fr (h5.2.2.1 13 (by omega) (by omega)) (by rw [h5.2.2.2.2]), fun kv hkv => ?_⟩
      · rw [h5.2.2.2.1 110 (by omega) (by omega)]; exact h2
      · rw [h5.2.2.2.1 kv.1 (by have := h6 kv hkv; omega) (by have := h6 kv hkv; omega)]; exact h4 kv hkv
    obtain ⟨F5, a5, nm5, c5⟩ := hr F4 a4 nm4 c4 f5.fh (by simp)
    refine m_takeHole (hs := []) (by omega) (lay_of hL F5.1) (hR.a F5) (by omega) x5 (fun _ _ => hh4.r f5) (fun N6 f6 x6 h6 => ⟨f6.1, ?_⟩)
    obtain ⟨F6, a6, nm6, c6⟩ := hr F5 a5 nm5 c5 f6 (by simp)
    have e5 : hlS T n 5 0 (sW T n 1 (aK T n nm j)) [] = hlS T n 4 1 (hS2 T n (sW T n 1 (aK T n nm j)) []).1 (hS2 T n (sW T n 1 (aK T n nm j)) []).2 := hlS_S2 (fun i _ => ⟨rfl, by omega⟩)
    have l6 : ∀ i, (hS2 T n (sW T n 1 (aK T n nm j)) []).1 = .ok i → (hS2 T n (sW T n 1 (aK T n nm j)) []).2.length = 1 := by
      intro i hi'
      cases hs1 : sW T n 1 (aK T n nm j) with
      | error z => rw [hs1] at hi'; cases hi'
      | ok q =>
        rw [hs1] at hi'
        cases hs2 : hst T n ([] : List Nat).length q [] with
        | error z => rw [hS2_bad hs2] at hi'; cases hi'
        | ok q' => rw [hS2_ok hs2]; rfl
    generalize hg1 : (hS2 T n (sW T n 1 (aK T n nm j)) []).1 = y1 at *
    generalize hg2 : (hS2 T n (sW T n 1 (aK T n nm j)) []).2 = hs1 at *
    refine m_takeHole (hs := hs1) (by omega) (lay_of hL F6.1) (hR.a F6) (by omega) x6 (fun i hi' => h6 i hi') (fun N7 f7 x7 h7 => ⟨f7.1, ?_⟩)
    obtain ⟨F7, a7, nm7, c7⟩ := hr F6 a6 nm6 c6 f7 (by simp)
    have e6 : hlS T n 4 1 y1 hs1 = hlS T n 3 2 (hS2 T n y1 hs1).1 (hS2 T n y1 hs1).2 := hlS_S2 (fun i hi' => ⟨(l6 i hi').symm, by omega⟩)
    have l7 : ∀ i, (hS2 T n y1 hs1).1 = .ok i → (hS2 T n y1 hs1).2.length = 2 := by
      intro i hi'
      cases y1 with
      | error z => cases hi'
      | ok q =>
        have l6' := l6 q rfl
        cases hs2 : hst T n hs1.length q hs1 with
        | error z => rw [hS2_bad hs2] at hi'; cases hi'
        | ok q' =>
          rw [hS2_ok hs2]
          show (hs1 ++ [nv T n q]).length = 2
          rw [List.length_append, l6']; rfl
    have eH : aHr T n nm j = hlS T n 3 2 (hS2 T n y1 hs1).1 (hS2 T n y1 hs1).2 := e5.trans e6
    -- behind the holes
    have fin136 : ∀ P : Mm, FRA i0 N P → P.1 153 110 = nI na → NmR T n P (nm ++ [j + 1]) → CE P 153 [(i0 + 0, nI k0), (i0 + 13, 0)] → Tr T n m P (aHr T n nm j).1 → (∀ i, (aHr T n nm j).1 = .ok i → HR P i0 (aHr T n nm j).2 ∧ 2 ≤ (aHr T n nm j).2.length) → L_X12_readArm_136 G (e + 4) Q (nI i0) P := by
      intro P FP aP nmP cP xP hP
      refine b_X12_readArm_136 (lay_of hL FP.1) ?_
      rw [show nI i0 + 2 + 1 = nI (i0 + 3) by rw [show (2 : Int32) = nI 2 from rfl, nI_add, nI_1], show nI i0 + 2 = nI (i0 + 2) by rw [show (2 : Int32) = nI 2 from rfl, nI_add], show nI i0 + 6 = nI (i0 + 6) by rw [show (6 : Int32) = nI 6 from rfl, nI_add], show nI i0 + 7 = nI (i0 + 7) by rw [show (7 : Int32) = nI 7 from rfl, nI_add], show nI i0 + 8 = nI (i0 + 8) by rw [show (8 : Int32) = nI 8 from rfl, nI_add], show nI i0 + 9 = nI (i0 + 9) by rw [show (9 : Int32) = nI 9 from rfl, nI_add], show nI i0 + 10 = nI (i0 + 10) by rw [show (10 : Int32) = nI 10 from rfl, nI_add], show nI i0 + 11 = nI (i0 + 11) by rw [show (11 : Int32) = nI 11 from rfl, nI_add], show nI i0 + 12 = nI (i0 + 12) by rw [show (12 : Int32) = nI 12 from rfl, nI_add], show nI i0 + 13 = nI (i0 + 13) by rw [show (13 : Int32) = nI 13 from rfl, nI_add]]
      rw [nI_clamp (show i0 + 2 < 2 ^ 31 by omega), nI_clamp (show i0 + 3 < 2 ^ 31 by omega), nI_clamp (show i0 + 6 < 2 ^ 31 by omega), nI_clamp (show i0 + 7 < 2 ^ 31 by omega), nI_clamp (show i0 + 8 < 2 ^ 31 by omega), nI_clamp (show i0 + 9 < 2 ^ 31 by omega), nI_clamp (show i0 + 10 < 2 ^ 31 by omega), nI_clamp (show i0 + 11 < 2 ^ 31 by omega), nI_clamp (show i0 + 12 < 2 ^ 31 by omega), nI_clamp (show i0 + 13 < 2 ^ 31 by omega), show Int32.toNatClampNeg 110 = 110 from rfl]
      refine ⟨inM (by omega) (by omega), inM (by omega) (by omega), fun M1 e1 => ⟨inM (by omega) (by omega), inM (by omega) (by omega), fun M2 e2 => ?_⟩⟩
      obtain ⟨F1, a1, nm1, c1, x1⟩ := st FP aP nmP cP (FR.rf P) xP e1 (by omega) (by simp)
      obtain ⟨F2', a2, nm2', c2, x2⟩ := st F1 a1 nm1 c1 (FR.rf M1) x1 e2 (by omega) (by simp)
      have q3 : M1.1 153 (i0 + 3) = P.1 153 (i0 + 3) := by subst e1; rw [rd_sI, if_neg (by omega)]
      rw [q3] at c2
      have hP2 : ∀ i, (aHr T n nm j).1 = .ok i → HR M2 i0 (aHr T n nm j).2 := fun i hi' => by
        obtain ⟨⟨b1, b2, b3⟩, -⟩ := hP i hi'
        refine ⟨?_, b2, fun k hk' => ?_⟩
        · subst e2; rw [rd_sI, if_neg (by omega)]; subst e1; rw [rd_sI, if_neg (by omega)]; exact b1
        · subst e2; rw [rd_sI, if_neg (by omega)]; subst e1; rw [rd_sI, if_neg (by omega)]; exact b3 k hk'
      have hrr : ∀ {P P' P'' : Mm} {k : Nat} {r : Int32}, (∀ i, (aHr T n nm j).1 = .ok i → HR P i0 (aHr T n nm j).2) → FR P P' → P'' = sI P' 153 k r → (k = 110 ∨ i0 + 6 ≤ k) → ∀ i, (aHr T n nm j).1 = .ok i → HR P'' i0 (aHr T n nm j).2 := by
        intro P P' P'' k r h1 h2 h3 h4 i hi'
        obtain ⟨b1, b2, b3⟩ := (h1 i hi').r h2
        subst h3
        refine ⟨by rw [rd_sI, if_neg (by omega)]; exact b1, b2, fun q hq => by rw [rd_sI, if_neg (by omega)]; exact b3 q hq⟩
      refine m_takeAfter 2 0 3 (by omega) (by omega) (by omega) (by omega) (lay_of hL F2'.1) (hR.a F2') x2 (fun r4 P3 g3 y3 v4 => ⟨g3.1, inM (by omega) (by omega), fun M5 e5 => ?_⟩)
      obtain ⟨F5, a5, nm5, c5, x5⟩ := st F2' a2 nm2' c2 g3 y3 e5 (by omega) (by simp)
      have hH5 := hrr hP2 g3 e5 (.inr (by omega))
      have x5' : Tr T n m M5 (aT T n nm j) := x5
      refine m_takeAfter 3 0 99 (by omega) (by omega) (by omega) (by omega) (lay_of hL F5.1) (hR.a F5) x5' (fun r7 P6 g6 y6 v7 => ⟨g6.1, inM (by omega) (by omega), fun M8 e8 => ?_⟩)
      obtain ⟨F8, a8, nm8, c8, x8⟩ := st F5 a5 nm5 c5 g6 y6 e8 (by omega) (by simp)
      have hH8 := hrr hH5 g6 e8 (.inr (by omega))
      have x8' : Tr T n m M8 (aX T n nm j) := x8
      refine m_takeNumber 0 99 (by omega) (by omega) (by omega) (lay_of hL F8.1) (hR.a F8) x8' (fun r10 P9 g9 y9 v10 => ⟨g9.1, inM (by omega) (by omega), fun M11 e11 => ?_⟩)
      obtain ⟨F11, a11, nm11, c11, x11⟩ := st F8 a8 nm8 c8 g9 y9 e11 (by omega) (by simp)
      have hH11 := hrr hH8 g9 e11 (.inr (by omega))
      have x11' : Tr T n m M11 (aY T n nm j) := x11
      refine m_takeAfter 4 1 200 (by omega) (by omega) (by omega) (by omega) (lay_of hL F11.1) (hR.a F11) x11' (fun r13 P12 g12 y12 v13 => ⟨g12.1, inM (by omega) (by omega), fun M14 e14 => ?_⟩)
      obtain ⟨F14, a14, nm14, c14, x14⟩ := st F11 a11 nm11 c11 g12 y12 e14 (by omega) (by simp)
      have hH14 := hrr hH11 g12 e14 (.inr (by omega))
      have x14' : Tr T n m M14 (aR T n nm j) := x14
      refine m_takeAfter 5 0 9 (by omega) (by omega) (by omega) (by omega) (lay_of hL F14.1) (hR.a F14) x14' (fun r16 P15 g15 y15 v16 => ⟨g15.1, inM (by omega) (by omega), fun M17 e17 => ?_⟩)
      obtain ⟨F17, a17, nm17, c17, x17⟩ := st F14 a14 nm14 c14 g15 y15 e17 (by omega) (by simp)
      have hH17 := hrr hH14 g15 e17 (.inr (by omega))
      have x17' : Tr T n m M17 (aS T n nm j) := x17
      -- the count, and all of it
      have fin : ∀ (P' P'' : Mm), FRA i0 N P' → P'.1 153 110 = nI na → NmR T n P' (nm ++ [j + 1]) → (∀ i, bnd T n (aS T n nm j) = .ok i → CE P' 153 [(i0 + 13, nI (bdv T n (aS T n nm j))), (i0 + 12, r16), (i0 + 11, r13), (i0 + 10, r10), (i0 + 9, r7), (i0 + 8, r4), (i0 + 7, P.1 153 (i0 + 3)), (i0 + 6, P.1 153 (i0 + 2)), (i0 + 0, nI k0)]) → (∀ i, (aHr T n nm j).1 = .ok i → HR P' i0 (aHr T n nm j).2) → Tr T n m P' (bnd T n (aS T n nm j)) → P'' = sI P' 153 110 ((P'.1 153 110) + 1) → Q P'' := by
        intro P' P'' F' a' nm' c' hH' x' e'
        rw [a', nI_1] at e'
        subst e'
        refine h _ (F'.tr (FRA.si (.inl rfl))) (x'.fr (by rw [sI_ne (show (147 : Nat) ≠ 153 by omega)]) (by rw [sI_ne (show (147 : Nat) ≠ 153 by omega)])) (fun k hk' => ⟨by rw [rd_sI, if_pos ⟨rfl, rfl⟩], nm'.fr (by rw [sI_ne (show (147 : Nat) ≠ 153 by omega)]) rfl, fun _ hE => ?_⟩)
        obtain ⟨kE, hE⟩ := hE
        obtain ⟨⟨b1, t1⟩, ⟨b2, t2⟩, ⟨b3, t3⟩, ⟨b4, t4⟩, ⟨b5, t5⟩, ⟨b6, t6⟩, ⟨b7, t7⟩, -, -, -, -, -⟩ := aE_ok hE
        have c'' := c' k hk'
        obtain ⟨⟨u1, u2, u3⟩, u4⟩ := hP b7 t7
        obtain ⟨w1, w2, w3⟩ := hH' b7 t7
        have v2 : P.1 153 (i0 + 2) = nI (hf (aHr T n nm j).2 0) := (u3 0 (by omega)).1
        have v3 : P.1 153 (i0 + 3) = nI (hf (aHr T n nm j).2 1) := (u3 1 (by omega)).1
        rw [v4 _ t6, v7 _ t5, v10 _ t4, v13 _ t3, v16 _ t2, v2, v3] at c''
        refine ⟨fun kv hkv => ?_, ?_, fun i hi' => ?_⟩
        · have hne : kv.1 ≠ 110 := by
            simp only [List.mem_cons, List.not_mem_nil, or_false] at hkv
            rcases hkv with rfl | rfl | rfl | rfl | rfl | rfl | rfl | rfl | rfl <;> simp only [] <;> omega
          rw [rd_sI, if_neg (fun hh => hne hh.2)]
          have hrow : aRow T n nm j 0 = k0 := hkd
          rw [hrow] at hkv
          exact c'' kv hkv
        · rw [rd_sI, if_neg (by omega)]; exact w1
        · have hi4 : i < (aHr T n nm j).2.length := hi'
          rw [rd_sI, if_neg (by omega), (w3 i hi4).1]
          have : i = 0 ∨ i = 1 ∨ i = 2 ∨ i = 3 := by omega
          rcases this with rfl | rfl | rfl | rfl <;> rfl
      refine m_hasWord 6 (by omega) (by omega) (lay_of hL F17.1) (hR.a F17) x17' (fun i P18 hi' hW' g18 y18 => ⟨g18.1, fun g => (by cases g), fun _ => ?_⟩) (fun P18 hno g18 y18 => ⟨g18.1, fun _ M21 e21 => ?_, fun g => absurd rfl g⟩)
      · have eb : bnd T n (aS T n nm j) = sNu T n 0 9 (.ok (i + 1)) := by rw [hi']; exact ifc_pos hW'
        have F18 := F17.tr (g18.fa' (i0 := i0))
        refine m_takeNumber 0 9 (by omega) (by omega) (by omega) (lay_of hL F18.1) (hR.a F18) y18 (fun r23 P22 g22 y22 v23 => ⟨g22.1, inM (by omega) (by omega), fun M24 e24 M25 e25 => ?_⟩)
        have c17' := c17.sub (l' := [(i0 + 12, r16), (i0 + 11, r13), (i0 + 10, r10), (i0 + 9, r7), (i0 + 8, r4), (i0 + 7, P.1 153 (i0 + 3)), (i0 + 6, P.1 153 (i0 + 2)), (i0 + 0, nI k0)]) (by simp +contextual)
        obtain ⟨F24, a24, nm24, c24, x24⟩ := st F17 a17 nm17 c17' (g18.tr g22) y22 e24 (by omega) (by simp)
        refine fin M24 M25 F24 a24 nm24 (fun k hk' => ?_) (hrr hH17 (g18.tr g22) e24 (.inr (by omega))) (by rw [eb]; exact x24) e25
        rw [eb] at hk'
        have hb : bdv T n (aS T n nm j) = nv T n (i + 1) := by rw [hi']; exact ifc_pos hW'
        have hv := v23 _ hk'
        rw [hb]
        rw [hv] at c24
        exact c24
      · have eb : bnd T n (aS T n nm j) = aS T n nm j := by
          cases hs0 : aS T n nm j with
          | error z => rfl
          | ok i => exact ifc_neg (hno i hs0)
        have hb : bdv T n (aS T n nm j) = 0 := by
          cases hs0 : aS T n nm j with
          | error z => rfl
          | ok i => exact ifc_neg (hno i hs0)
        have hrr2 : ∀ i, (aHr T n nm j).1 = .ok i → HR P18 i0 (aHr T n nm j).2 := fun i hi' => (hH17 i hi').r g18
        refine fin P18 M21 (F17.tr g18.fa') (by rw [g18.2.1 153 (by omega)]; exact a17) (nm17.r g18) (fun k hk' => ?_) hrr2 (by rw [eb]; exact y18) e21
        rw [hb]
        exact (c17.r g18).sub (by
          intro kv hkv
          simp only [List.mem_cons, List.not_mem_nil, or_false] at hkv ⊢
          rcases hkv with rfl | rfl | rfl | rfl | rfl | rfl | rfl | rfl | rfl
          · exact .inr (.inr (.inr (.inr (.inr (.inr (.inr (.inr rfl)))))))
          · exact .inl rfl
          · exact .inr (.inl rfl)
          · exact .inr (.inr (.inl rfl))
          · exact .inr (.inr (.inr (.inl rfl)))
          · exact .inr (.inr (.inr (.inr (.inl rfl))))
          · exact .inr (.inr (.inr (.inr (.inr (.inl rfl)))))
          · exact .inr (.inr (.inr (.inr (.inr (.inr (.inl rfl))))))
          · exact .inr (.inr (.inr (.inr (.inr (.inr (.inr (.inl rfl))))))))
    -- the holes behind the second
    have key : ∀ p i (P : Mm) (x : Except Nat Nat) (hs : List Nat), i + p = 5 → 2 ≤ i → FRA i0 N P → P.1 153 110 = nI na → NmR T n P (nm ++ [j + 1]) → CE P 153 [(i0 + 0, nI k0), (i0 + 13, 0)] → Tr T n m P x → (∀ q, x = .ok q → hs.length = i ∧ HR P i0 hs) → hlS T n p i x hs = aHr T n nm j → L_X12_readArm_108 G (e + 4) Q (nI i0) P := by
      intro p
      induction p with
      | zero =>
        intro i P x hs hi' h2 FP aP nmP cP xP hP he
        cases x with
        | error z =>
          have he' : aHr T n nm j = (.error z, hs) := he.symm
          refine b_X12_readArm_108 (lay_of hL FP.1) ⟨fun _ => fin136 P FP aP nmP cP (by rw [he']; exact xP) (fun q hq => by rw [he'] at hq; cases hq), fun g => ?_⟩
          rw [xP.1] at g
          exact absurd g (nI_ne0 (by have := xP.2.1; omega) xP.2.2)
        | ok q =>
          obtain ⟨b1, b2, b3, b4⟩ := hP q rfl
          omega
      | succ p ihp =>
        intro i P x hs hi' h2 FP aP nmP cP xP hP he
        cases x with
        | error z =>
          have he' : aHr T n nm j = (.error z, hs) := by rw [← he, hlS_err]
          refine b_X12_readArm_108 (lay_of hL FP.1) ⟨fun _ => fin136 P FP aP nmP cP (by rw [he']; exact xP) (fun q hq => by rw [he'] at hq; cases hq), fun g => ?_⟩
          rw [xP.1] at g
          exact absurd g (nI_ne0 (by have := xP.2.1; omega) xP.2.2)
        | ok q =>
          obtain ⟨b1, b2⟩ := hP q rfl
          have hm := hR.1
          have sl : soF T n (tbF T n q) ≤ 4 := soP_le T n (plF T n (tbF T n q))
          have t1 := ((hR.a FP).2.1 q xP.2.2).1
          refine b_X12_readArm_108 (lay_of hL FP.1) ⟨fun g => absurd xP.1 g, fun _ => ?_⟩
          have := xP.2.2
          rw [xP.2.1, nI_clamp (by omega), t1, show (2 : Int32) = nI 2 from rfl, nI_eq (by omega) (by omega)]
          refine ⟨inM (by omega) (by omega), fun g => ?_, fun g => ?_⟩
          · have he' : aHr T n nm j = (.ok q, hs) := by rw [← he, hlS_stop ⟨h2, g⟩]
            exact fin136 P FP aP nmP cP (by rw [he']; exact xP) (fun q' hq' => by rw [he']; exact ⟨b2, by show 2 ≤ hs.length; omega⟩)
          · have he2 : hlS T n (p + 1) i (.ok q) hs = hlS T n p (i + 1) (hS2 T n (.ok q) hs).1 (hS2 T n (.ok q) hs).2 := hlS_S2 (fun q' hq' => by cases hq'; exact ⟨b1.symm, fun hh => hh.2 g⟩)
            refine m_takeHole (hs := hs) (by omega) (lay_of hL FP.1) (hR.a FP) (by omega) xP (fun _ _ => b2) (fun P' f' x' h' => ⟨f'.1, ?_⟩)
            obtain ⟨F', a', nm', c'⟩ := hr FP aP nmP cP f' (by simp)
            refine ihp (i + 1) P' _ _ (by omega) (by omega) F' a' nm' c' x' (fun q' hq' => ⟨?_, h' q' hq'⟩) (by rw [← he2]; exact he)
            cases hs2 : hst T n hs.length q hs with
            | error z => rw [hS2_bad hs2] at hq'; cases hq'
            | ok q'' =>
              rw [hS2_ok hs2]
              show (hs ++ [nv T n q]).length = i + 1
              rw [List.length_append, b1]; rfl
    exact key 3 2 N7 _ _ (by omega) (by omega) F7 a7 nm7 c7 x7 (fun q hq => ⟨l7 q hq, h7 q hq⟩) eH.symm
  -- the kinds are looked through
  have key28 : ∀ p k (kd : Int32), k + p = 4 → ((kd = -1 ∧ ∀ i, aN T n nm j = .ok i → ∀ k', k' < k → ¬ isW T n i (12 + k')) ∨ (∃ i k', aN T n nm j = .ok i ∧ k' < k ∧ isW T n i (12 + k') ∧ kd = nI k')) → L_X12_readArm_28 G (e + 4) Q (nI na) kd (nI k) N2 := by
    intro p
    induction p with
    | zero =>
      intro k kd hk hc
      have : k = 4 := by omega
      subst this
      rcases hc with ⟨rfl, hc⟩ | ⟨i, k', h1, h2, h3, rfl⟩
      · exact b_X12_readArm_28 hL2 ⟨fun _ => ⟨fun g => absurd g (by decide), fun _ => bad (fun i hi ⟨k', h1, h2⟩ => hc i hi k' h1 h2)⟩, fun g => absurd (by decide) g⟩
      · exact good i k' h1 h2 h3
    | succ p ihp =>
      intro k kd hk hc
      refine b_X12_readArm_28 hL2 ⟨fun g => absurd g ?_, fun _ => ?_⟩
      · rw [show (4 : Int32) = nI 4 from rfl, nI_leI (by omega) (by omega)]; omega
      · rw [show (12 : Int32) + nI k = nI (12 + k) by rw [show (12 : Int32) = nI 12 from rfl, nI_add], nI_1]
        refine m_isWord (12 + k) (by omega) (by omega) hL2 hR2 k2 (fun i hi hW => ⟨rfl, fun g => (by cases g), fun _ => ihp (k + 1) (nI k) (by omega) (.inr ⟨i, k, hi, by omega, hW, rfl⟩)⟩) (fun hno => ⟨rfl, fun _ => ihp (k + 1) kd (by omega) ?_, fun g => absurd rfl g⟩)
        rcases hc with ⟨h1, hc⟩ | ⟨i, k', h1, h2, h3, h4⟩
        · refine .inl ⟨h1, fun i hi k' hk' => ?_⟩
          by_cases e1 : k' = k
          · subst e1; exact hno i hi
          · exact hc i hi k' (by omega)
        · exact .inr ⟨i, k', h1, by omega, h3, h4⟩
  exact key28 4 0 (-1) (by omega) (.inl ⟨rfl, fun i _ k' h => by omega⟩)
