/-! ===== office: holes and points of the component ===== -/
noncomputable def hst (T : Nat → Nat) (n i j : Nat) (hs : List Nat) : Except Nat Nat :=
  ifc (soF T n (tbF T n j) = 2 ∧ nv T n j ∈ hs) (.error (3 + 16 * plF T n (tbF T n j))) (ifc (soF T n (tbF T n j) = 2 ∧ i = 4 ∧ 1 ≤ nv T n j ∧ nv T n j ≤ 9) (.error (5 + 16 * plF T n (tbF T n j))) (sNu T n 1 9 (.ok j)))
noncomputable def hlS (T : Nat → Nat) (n : Nat) : Nat → Nat → Except Nat Nat → List Nat → Except Nat Nat × List Nat
  | 0, _, x, hs => (x, hs)
  | _ + 1, _, .error e, hs => (.error e, hs)
  | m + 1, i, .ok j, hs => ifc (2 ≤ i ∧ soF T n (tbF T n j) ≠ 2) (.ok j, hs) (match hst T n i j hs with
    | .error e => (.error e, hs)
    | .ok j' => hlS T n m (i + 1) (.ok j') (hs ++ [nv T n j]))
theorem hlS_err {T : Nat → Nat} {n : Nat} {hs : List Nat} {e : Nat} : ∀ m i, hlS T n m i (.error e) hs = (.error e, hs)
  | 0, _ => rfl
  | _ + 1, _ => rfl
theorem hlS_stop {T : Nat → Nat} {n m i j : Nat} {hs : List Nat} (h : 2 ≤ i ∧ soF T n (tbF T n j) ≠ 2) : hlS T n (m + 1) i (.ok j) hs = (.ok j, hs) := ifc_pos h
theorem hlS_bad {T : Nat → Nat} {n m i j e : Nat} {hs : List Nat} (h : ¬ (2 ≤ i ∧ soF T n (tbF T n j) ≠ 2)) (h2 : hst T n i j hs = .error e) : hlS T n (m + 1) i (.ok j) hs = (.error e, hs) := by
  rw [show hlS T n (m + 1) i (.ok j) hs = ifc (2 ≤ i ∧ soF T n (tbF T n j) ≠ 2) (.ok j, hs) (match hst T n i j hs with
    | .error e => (.error e, hs)
    | .ok j' => hlS T n m (i + 1) (.ok j') (hs ++ [nv T n j])) from rfl, ifc_neg h, h2]
theorem hlS_more {T : Nat → Nat} {n m i j j' : Nat} {hs : List Nat} (h : ¬ (2 ≤ i ∧ soF T n (tbF T n j) ≠ 2)) (h2 : hst T n i j hs = .ok j') : hlS T n (m + 1) i (.ok j) hs = hlS T n m (i + 1) (.ok j') (hs ++ [nv T n j]) := by
  rw [show hlS T n (m + 1) i (.ok j) hs = ifc (2 ≤ i ∧ soF T n (tbF T n j) ≠ 2) (.ok j, hs) (match hst T n i j hs with
    | .error e => (.error e, hs)
    | .ok j' => hlS T n m (i + 1) (.ok j') (hs ++ [nv T n j])) from rfl, ifc_neg h, h2]
theorem hst_ok {T : Nat → Nat} {n i j j' : Nat} {hs : List Nat} (h : hst T n i j hs = .ok j') : soF T n (tbF T n j) = 2 ∧ nv T n j ∉ hs ∧ i ≠ 4 ∧ 1 ≤ nv T n j ∧ nv T n j ≤ 9 ∧ j' = j + 1 := by
  unfold hst at h
  by_cases g : soF T n (tbF T n j) = 2 ∧ nv T n j ∈ hs
  · rw [ifc_pos g] at h; cases h
  · rw [ifc_neg g] at h
    by_cases g2 : soF T n (tbF T n j) = 2 ∧ i = 4 ∧ 1 ≤ nv T n j ∧ nv T n j ≤ 9
    · rw [ifc_pos g2] at h; cases h
    · rw [ifc_neg g2] at h
      obtain ⟨k, e, h1, h2, h3, h4⟩ := sNu_ok h
      cases e
      exact ⟨h1, fun hm => g ⟨h1, hm⟩, fun hi => g2 ⟨h1, hi, h2, h3⟩, h2, h3, h4⟩
theorem gD_lt {α : Type} {l : List α} {v d : α} {i : Nat} (h : i < l.length) : (l ++ [v]).getD i d = l.getD i d := by
  rw [List.getD_eq_getElem?_getD, List.getD_eq_getElem?_getD, List.getElem?_append_left h]
theorem gD_eq {α : Type} {l : List α} {v d : α} : (l ++ [v]).getD l.length d = v := by
  rw [List.getD_eq_getElem?_getD, List.getElem?_append_right (Nat.le_refl _), Nat.sub_self]; rfl
theorem mem_gD {l : List Nat} {v : Nat} : v ∈ l ↔ ∃ i, i < l.length ∧ l.getD i 0 = v := by
  constructor
  · intro h
    obtain ⟨i, hi, e⟩ := List.mem_iff_getElem.mp h
    exact ⟨i, hi, by rw [List.getD_eq_getElem?_getD, List.getElem?_eq_getElem hi]; exact e⟩
  · rintro ⟨i, hi, e⟩
    rw [List.getD_eq_getElem?_getD, List.getElem?_eq_getElem hi] at e
    exact List.mem_iff_getElem.mpr ⟨i, hi, e⟩
/-- what reading holes leaves as it was -/
def FA (q : Nat) (N N' : Mm) : Prop := N'.2.2 = N.2.2 ∧ (∀ a, a ≠ 1 → a ≠ q → a ≠ q + 1 → N'.1 a = N.1 a) ∧ (∀ k, k ≠ 3 → N'.1 q k = N.1 q k) ∧ N'.1 1 0 = N.1 1 0 ∧ ∀ a, a ≠ 1 → N'.2.1 a = N.2.1 a
theorem FA.tr {q : Nat} {N N' P : Mm} (h : FA q N N') (k : FA q N' P) : FA q N P := ⟨k.1.trans h.1, fun a h1 h2 h3 => (k.2.1 a h1 h2 h3).trans (h.2.1 a h1 h2 h3), fun b hb => (k.2.2.1 b hb).trans (h.2.2.1 b hb), k.2.2.2.1.trans h.2.2.2.1, fun a ha => (k.2.2.2.2 a ha).trans (h.2.2.2.2 a ha)⟩
theorem FT.fa {q : Nat} {N N' : Mm} (h : FT N N') (hq : q ≠ 1) : FA q N N' := ⟨h.1, fun a h1 _ _ => h.2.1 a h1, fun k _ => by rw [h.2.1 q hq], h.2.2.1, h.2.2.2⟩
theorem FA.si {q o k : Nat} {N : Mm} {v : Int32} (h : o = q ∧ k = 3 ∨ o = q + 1) (hq : 2 ≤ q) : FA q N (sI N o k v) :=
  ⟨rfl, fun a h1 h2 h3 => sI_ne (by omega), fun b hb => by rw [rd_sI, if_neg (by omega)], by rw [rd_sI, if_neg (by omega)], fun _ _ => rfl⟩
theorem TpX.fa {T : Nat → Nat} {n q : Nat} {N N' : Mm} (h : TpX T n N) (k : FA q N N') (hq : 3 ≤ q) : TpX T n N' := by
  unfold TpX
  rw [k.2.2.2.1, k.2.1 2 (by omega) (by omega) (by omega)]
  exact h
abbrev hf (hs : List Nat) : Nat → Nat := fun i => hs.getD i 0
theorem AF.ft {N N' : Mm} {q k : Nat} {h : Nat → Nat} (a : AF N q k h) (e : FT N N') (hq : 2 ≤ q) : AF N' q k h := by
  unfold AF
  rw [e.2.1 q (by omega), e.2.1 (q + 1) (by omega)]
  exact a
theorem x_readHoles {G : MG} {d : Nat} {Q : Mm → Prop} {T : Nat → Nat} {n c q : Nat} {N : Mm} {x : Except Nat Nat} (hd : 8 ≤ d) (hS : Str G) (hL : Lay c N) (hT : TpX T n N) (hq : sh q = some (.inr 1)) (hq3 : 3 ≤ q) (hx : Tk T n N x)
    (h : ∀ N', FA q N N' → Tk T n N' (hlS T n 5 0 (sW T n 1 x) []).1 → (∀ j, (hlS T n 5 0 (sW T n 1 x) []).1 = .ok j → AF N' q (hlS T n 5 0 (sW T n 1 x) []).2.length (hf (hlS T n 5 0 (sW T n 1 x) []).2)) → Q N') : C G Y_X10_readHoles d [.ref (G.b + 1), .ref (G.b + q)] N (Rv Q) := by
  have s1 := hS.2.1.2.1
  have hn := hT.2.1
  refine up1 (P := fun d => C G Y_X10_readHoles d _ N (Rv Q)) (fun e => b_X10_readHoles (d := e + 7) hL s1 hq ?_) hd
  have key : ∀ m i (P : Mm) (x : Except Nat Nat) (hs : List Nat), i + m = 5 → FA q N P → Tk T n P x → (∀ j, x = .ok j → hs.length = i ∧ AF P q hs.length (hf hs)) →
      (∀ N', FA q N N' → Tk T n N' (hlS T n m i x hs).1 → (∀ j, (hlS T n m i x hs).1 = .ok j → AF N' q (hlS T n m i x hs).2.length (hf (hlS T n m i x hs).2)) → Q N') → L_X10_readHoles_13 G (e + 7) Q q (nI i) P := by
    intro m
    induction m with
    | zero =>
      intro i P x hs hi hF hx hA hQ
      have : i = 5 := by omega
      subst this
      exact b_X10_readHoles_13 (lay_of hL hF.1) s1 hq ⟨fun _ => hQ P hF hx (fun j hj => (hA j hj).2), fun g => absurd (by decide) g⟩
    | succ m ih =>
      intro i P x hs hi hF hx hA hQ
      have hLP := lay_of hL hF.1
      have hTP := hT.fa hF hq3
      refine b_X10_readHoles_13 hLP s1 hq ⟨fun g => ?_, fun _ => ?_⟩
      · rw [show (4 : Int32) = nI 4 from rfl, nI_ltI (by omega) (by omega)] at g; omega
      · cases x with
        | error z =>
          refine ⟨fun _ => hQ P hF (by rw [hlS_err]; exact hx) (fun j hj => by rw [hlS_err] at hj; cases hj), fun g => ?_⟩
          rw [hx.1] at g
          exact absurd g (nI_ne0 (by have := hx.2.1; omega) hx.2.2)
        | ok j =>
          obtain ⟨hlen, hAF⟩ := hA j rfl
          obtain ⟨k1, k2, k3, k4, k5, k6, k7⟩ := id hx
          have sl : soF T n (tbF T n j) ≤ 4 := soP_le T n (plF T n (tbF T n j))
          refine ⟨fun g => absurd hx.1 g, fun _ => ?_⟩
          -- behind the look at a told hole
          have err96 : ∀ z (P' : Mm), FA q N P' → Tk T n P' (.error z) → hlS T n (m + 1) i (.ok j) hs = (.error z, hs) → L_X10_readHoles_96 G (e + 7) Q q (nI i) P' := by
            intro z P' hF' hx' he
            refine b_X10_readHoles_96 (lay_of hL hF'.1) s1 hq (x_readNumber 1 9 (by omega) (by omega) (by omega) (lay_of hL hF'.1) (hT.fa hF' hq3) hx' (fun r P'' hF'' hx'' _ => ⟨hF''.1, fun _ => ?_, fun g => ?_⟩))
            · rw [nI_1]
              have hx3 : Tk T n P'' (.error z) := hx''
              refine ih (i + 1) P'' (.error z) hs (by omega) (hF'.tr (hF''.fa (by omega))) hx3 (fun j' hj' => by cases hj') (fun N' g1 g2 g3 => hQ N' g1 ?_ (fun j' hj' => ?_))
              · rw [he]; rw [hlS_err] at g2; exact g2
              · rw [he] at hj'; cases hj'
            · have hx3 : Tk T n P'' (.error z) := hx''
              rw [hx3.1] at g
              exact absurd g (nI_ne0 (by have := hx3.2.1; omega) hx3.2.2)
          have go96 : ¬ (2 ≤ i ∧ soF T n (tbF T n j) ≠ 2) → hst T n i j hs = sNu T n 1 9 (.ok j) → L_X10_readHoles_96 G (e + 7) Q q (nI i) P := by
            intro hg hst0
            refine b_X10_readHoles_96 hLP s1 hq (x_readNumber 1 9 (by omega) (by omega) (by omega) hLP hTP hx (fun r P' hF' hx' hr => ⟨hF'.1, ?_⟩))
            have hFP := hF.tr (hF'.fa (q := q) (by omega))
            cases hs0 : hst T n i j hs with
            | error z =>
              rw [hst0] at hs0
              rw [hs0] at hx'
              refine ⟨fun _ => ?_, fun g => ?_⟩
              · rw [nI_1]
                refine ih (i + 1) P' (.error z) hs (by omega) hFP hx' (fun j' hj' => by cases hj') (fun N' g1 g2 g3 => hQ N' g1 ?_ (fun j' hj' => ?_))
                · rw [hlS_bad hg (by rw [hst0]; exact hs0)]; rw [hlS_err] at g2; exact g2
                · rw [hlS_bad hg (by rw [hst0]; exact hs0)] at hj'; cases hj'
              · rw [hx'.1] at g
                exact absurd g (nI_ne0 (by have := hx'.2.1; omega) hx'.2.2)
            | ok j' =>
              obtain ⟨o1, o2, o3, o4, o5, o6⟩ := hst_ok hs0
              have hi4 : hs.length < 4 := by
                have := hAF.2.1
                omega
              have hr' := hr j' (by rw [← hst0]; exact hs0)
              rw [hst0] at hs0
              rw [hs0] at hx'
              have c3 : P'.1 q 3 = nI hs.length := by rw [hF'.2.1 q (by omega)]; exact hAF.1
              refine ⟨fun g => absurd hx'.1 g, fun _ => ?_⟩
              rw [c3, show (4 : Int32) = nI 4 from rfl, nI_leI (by omega) (by omega)]
              refine ⟨fun g => by omega, fun _ => ⟨(inN (by omega) (by omega)).1, fun M5 e5 M6 e6 => ?_⟩⟩
              rw [nI_clamp (by omega), hr'] at e5
              have r3 : M5.1 q 3 = nI hs.length := by subst e5; rw [rd_sI, if_neg (by omega)]; exact c3
              rw [r3, nI_1] at e6
              subst e6
              have hF6 : FA q N (sI M5 q 3 (nI (hs.length + 1))) := by
                subst e5
                exact hFP.tr ((FA.si (.inr rfl) (by omega)).tr (FA.si (.inl ⟨rfl, rfl⟩) (by omega)))
              rw [nI_1]
              refine ih (i + 1) _ (.ok j') (hs ++ [nv T n j]) (by omega) hF6 ?_ (fun j'' hj'' => ⟨by rw [List.length_append, hlen]; rfl, ?_⟩) (fun N' g1 g2 g3 => hQ N' g1 ?_ (fun j'' hj'' => ?_))
              · refine hx'.fr ?_ ?_
                · subst e5
                  rw [sI_ne (show (1 : Nat) ≠ q by omega), sI_ne (show (1 : Nat) ≠ q + 1 by omega)]
                · subst e5; rfl
              · have hA2 := hAF.ft hF' (by omega)
                obtain ⟨b1, b2, b3, b4⟩ := hA2
                have ll : (hs ++ [nv T n j]).length = hs.length + 1 := by rw [List.length_append]; rfl
                have hold : ∀ k, k < hs.length → hf (hs ++ [nv T n j]) k = hf hs k := fun k hk => gD_lt hk
                have hnew : hf (hs ++ [nv T n j]) hs.length = nv T n j := gD_eq
                refine ⟨?_, by omega, fun k hk => ?_, fun k l hk hl he => ?_⟩
                · rw [rd_sI, if_pos ⟨rfl, rfl⟩, ll]
                · rw [rd_sI, if_neg (by omega)]
                  subst e5
                  by_cases e1 : k = hs.length
                  · subst e1
                    rw [rd_sI, if_pos ⟨rfl, rfl⟩, hnew]
                    exact ⟨rfl, o4, o5⟩
                  · rw [rd_sI, if_neg (by omega), hold k (by omega)]
                    exact b3 k (by omega)
                · by_cases e1 : k = hs.length
                  · by_cases e2 : l = hs.length
                    · omega
                    · subst e1
                      rw [hnew, hold l (by omega)] at he
                      exact absurd (mem_gD.mpr ⟨l, by omega, he.symm⟩) o2
                  · by_cases e2 : l = hs.length
                    · subst e2
                      rw [hnew, hold k (by omega)] at he
                      exact absurd (mem_gD.mpr ⟨k, by omega, he⟩) o2
                    · rw [hold k (by omega), hold l (by omega)] at he
                      exact b4 k l (by omega) (by omega) he
              · rw [hlS_more hg (by rw [hst0]; exact hs0)]; exact g2
              · rw [hlS_more hg (by rw [hst0]; exact hs0)] at hj'' ⊢; exact g3 j'' hj''
          have go66 : ¬ (2 ≤ i ∧ soF T n (tbF T n j) ≠ 2) → ¬ (soF T n (tbF T n j) = 2 ∧ nv T n j ∈ hs) → L_X10_readHoles_66 G (e + 7) Q q (nI i) P := by
            intro hg hnd
            refine b_X10_readHoles_66 hLP s1 hq ?_
            rw [show (4 : Int32) = nI 4 from rfl, nI_eq (by omega) (by omega)]
            refine ⟨fun g => go96 hg ((ifc_neg hnd).trans (ifc_neg (fun hh => g hh.2.1))), fun g => ?_⟩
            have s2 : soF T n (tbF T n j) = 2 := by
              by_cases hh : soF T n (tbF T n j) = 2
              · exact hh
              · exact absurd ⟨by omega, hh⟩ hg
            have hv := nv_lt s2
            rw [k6 s2, show (1 : Int64) = lN 1 from rfl, show (9 : Int64) = lN 9 from rfl, pk_lLT (by omega) (by omega), pk_lLT (by omega) (by omega)]
            refine ⟨fun g2 => go96 hg ((ifc_neg hnd).trans (ifc_neg (fun hh => ?_))), fun g2 => ⟨fun g3 => go96 hg ((ifc_neg hnd).trans (ifc_neg (fun hh => ?_))), fun g3 => ?_⟩⟩
            · have h1' : 1 ≤ nvF T n (tbF T n j) := hh.2.2.1
              omega
            · have h1' : nvF T n (tbF T n j) ≤ 9 := hh.2.2.2
              omega
            · have he : hst T n i j hs = fl T n 5 (.ok j) := (ifc_neg hnd).trans (ifc_pos ⟨s2, g, by show 1 ≤ nvF T n (tbF T n j); omega, by show nvF T n (tbF T n j) ≤ 9; omega⟩)
              exact x_fail (k := 5) (by omega) hLP hn (by omega) hx (fun P' hF' hx' => ⟨hF'.1, err96 _ P' (hF.tr (hF'.fa (by omega))) hx' (hlS_bad hg he)⟩)
          have look : ¬ (2 ≤ i ∧ soF T n (tbF T n j) ≠ 2) → soF T n (tbF T n j) = 2 → C G Y_X1_hasHoleOf (e + 7) [.ref (G.b + q), .long (P.2.1 1 5)] P (Ri fun r6 M5 => M5.2.2 = P.2.2 ∧ ((r6 = 0 → L_X10_readHoles_66 G (e + 7) Q q (nI i) M5) ∧ (¬ r6 = 0 → (C G Y_X10_fail (e + 7) [.ref (G.b + 1), .int 3] M5 (Rv fun M8 => M8.2.2 = M5.2.2 ∧ L_X10_readHoles_96 G (e + 7) Q q (nI i) M8))))) := by
            intro hg s2
            have hv := nv_lt s2
            rw [k6 s2]
            refine s_hasHoleOf (by omega) hLP hq hAF (by omega) (fun k hk he => ⟨rfl, fun g => (by cases g), fun _ => ?_⟩) (fun hno => ⟨rfl, fun _ => go66 hg (fun hh => ?_), fun g => absurd rfl g⟩)
            · have hm : nv T n j ∈ hs := mem_gD.mpr ⟨k, hk, he⟩
              have he2 : hst T n i j hs = fl T n 3 (.ok j) := ifc_pos ⟨s2, hm⟩
              exact x_fail (k := 3) (by omega) hLP hn (by omega) hx (fun P' hF' hx' => ⟨hF'.1, err96 _ P' (hF.tr (hF'.fa (by omega))) hx' (hlS_bad hg he2)⟩)
            · obtain ⟨k, hk, he⟩ := mem_gD.mp hh.2
              exact hno k hk he
          rw [k4, show (2 : Int32) = nI 2 from rfl, nI_ltI (by omega) (by omega), nI_eq (by omega) (by omega)]
          refine ⟨fun g => ⟨fun g2 => go66 (by omega) (fun hh => g2 hh.1), fun g2 => look (by omega) g2⟩, fun g => ⟨fun g2 => ⟨fun g3 => absurd g2 g3, fun _ => look (fun hh => hh.2 g2) g2⟩, fun g2 => ?_⟩⟩
          exact hQ P hF (by rw [hlS_stop ⟨by omega, g2⟩]; exact hx) (fun j' hj' => by rw [hlS_stop ⟨by omega, g2⟩]; exact hAF)
  refine x_skipWord 1 (by omega) (by omega) hS.1 hL hT hx (fun N' hF hk => ⟨hF.1, fun M2 e2 => ?_⟩)
  have hF2 : FA q N M2 := by subst e2; exact (hF.fa (by omega)).tr (FA.si (.inl ⟨rfl, rfl⟩) (by omega))
  refine key 5 0 M2 (sW T n 1 x) [] (by omega) hF2 ?_ (fun j hj => ⟨rfl, ?_, by show 0 ≤ 4; omega, fun i hi => ?_, fun i k hi => ?_⟩) h
  · refine hk.fr ?_ ?_
    · subst e2; rw [sI_ne (show (1 : Nat) ≠ q by omega)]
    · subst e2; rfl
  · subst e2; rw [rd_sI, if_pos ⟨rfl, rfl⟩]; rfl
  · have : i < 0 := hi
    omega
  · have : i < 0 := hi
    omega
noncomputable def ptS (T : Nat → Nat) (n : Nat) : Nat → Except Nat Nat → List (Nat × Nat) → Except Nat Nat × List (Nat × Nat)
  | 0, x, ps => (x, ps)
  | _ + 1, .error e, ps => (.error e, ps)
  | m + 1, .ok j, ps => match sNu T n 0 99 (sNu T n 0 99 (.ok j)) with
    | .error e => (.error e, ps)
    | .ok j2 => ifc (isG T n j2 44) (ifc (ps.length = 5) (.error (5 + 16 * plF T n (tbF T n j2)), ps) (ptS T n m (.ok (j2 + 1)) (ps ++ [(nv T n j, nv T n (j + 1))]))) (.ok j2, ps ++ [(nv T n j, nv T n (j + 1))])
theorem ptS_err {T : Nat → Nat} {n : Nat} {ps : List (Nat × Nat)} {e : Nat} : ∀ m, ptS T n m (.error e) ps = (.error e, ps)
  | 0 => rfl
  | _ + 1 => rfl
theorem ptS_bad {T : Nat → Nat} {n m j e : Nat} {ps : List (Nat × Nat)} (h : sNu T n 0 99 (sNu T n 0 99 (.ok j)) = .error e) : ptS T n (m + 1) (.ok j) ps = (.error e, ps) := by
  unfold ptS; rw [h]
theorem ptS_go {T : Nat → Nat} {n m j j2 : Nat} {ps : List (Nat × Nat)} (h : sNu T n 0 99 (sNu T n 0 99 (.ok j)) = .ok j2) : ptS T n (m + 1) (.ok j) ps = ifc (isG T n j2 44) (ifc (ps.length = 5) (.error (5 + 16 * plF T n (tbF T n j2)), ps) (ptS T n m (.ok (j2 + 1)) (ps ++ [(nv T n j, nv T n (j + 1))]))) (.ok j2, ps ++ [(nv T n j, nv T n (j + 1))]) := by
  rw [show ptS T n (m + 1) (.ok j) ps = (match sNu T n 0 99 (sNu T n 0 99 (.ok j)) with
    | .error e => (.error e, ps)
    | .ok j2 => ifc (isG T n j2 44) (ifc (ps.length = 5) (.error (5 + 16 * plF T n (tbF T n j2)), ps) (ptS T n m (.ok (j2 + 1)) (ps ++ [(nv T n j, nv T n (j + 1))]))) (.ok j2, ps ++ [(nv T n j, nv T n (j + 1))])) from rfl, h]
/-- what reading points leaves as it was -/
def FP (q : Nat) (N N' : Mm) : Prop := N'.2.2 = N.2.2 ∧ (∀ a, a ≠ 1 → a ≠ q → a ≠ q + 1 → a ≠ q + 2 → N'.1 a = N.1 a) ∧ (∀ k, k ≠ 6 → N'.1 q k = N.1 q k) ∧ N'.1 1 0 = N.1 1 0 ∧ ∀ a, a ≠ 1 → N'.2.1 a = N.2.1 a
theorem FP.tr {q : Nat} {N N' P : Mm} (h : FP q N N') (k : FP q N' P) : FP q N P := ⟨k.1.trans h.1, fun a h1 h2 h3 h4 => (k.2.1 a h1 h2 h3 h4).trans (h.2.1 a h1 h2 h3 h4), fun b hb => (k.2.2.1 b hb).trans (h.2.2.1 b hb), k.2.2.2.1.trans h.2.2.2.1, fun a ha => (k.2.2.2.2 a ha).trans (h.2.2.2.2 a ha)⟩
theorem FT.fp {q : Nat} {N N' : Mm} (h : FT N N') (hq : q ≠ 1) : FP q N N' := ⟨h.1, fun a h1 _ _ _ => h.2.1 a h1, fun k _ => by rw [h.2.1 q hq], h.2.2.1, h.2.2.2⟩
theorem FP.si {q o k : Nat} {N : Mm} {v : Int32} (h : o = q ∧ k = 6 ∨ o = q + 1 ∨ o = q + 2) (hq : 2 ≤ q) : FP q N (sI N o k v) :=
  ⟨rfl, fun a h1 h2 h3 h4 => sI_ne (by omega), fun b hb => by rw [rd_sI, if_neg (by omega)], by rw [rd_sI, if_neg (by omega)], fun _ _ => rfl⟩
theorem TpX.fp {T : Nat → Nat} {n q : Nat} {N N' : Mm} (h : TpX T n N) (k : FP q N N') (hq : 3 ≤ q) : TpX T n N' := by
  unfold TpX
  rw [k.2.2.2.1, k.2.1 2 (by omega) (by omega) (by omega) (by omega)]
  exact h
def PC (N : Mm) (q : Nat) (ps : List (Nat × Nat)) : Prop := N.1 q 6 = nI ps.length ∧ ∀ i, i < ps.length → N.1 (q + 1) i = nI (ps.getD i (0, 0)).1 ∧ N.1 (q + 2) i = nI (ps.getD i (0, 0)).2
theorem x_readPoints {G : MG} {d : Nat} {Q : Mm → Prop} {T : Nat → Nat} {n c q : Nat} {N : Mm} {x : Except Nat Nat} (hd : 8 ≤ d) (hS : Str G) (hL : Lay c N) (hT : TpX T n N) (hq : sh q = some (.inr 2)) (hq3 : 3 ≤ q) (hx : Tk T n N x)
    (h : ∀ N', FP q N N' → Tk T n N' (ptS T n 6 (sW T n 11 x) []).1 → (∀ j, (ptS T n 6 (sW T n 11 x) []).1 = .ok j → PC N' q (ptS T n 6 (sW T n 11 x) []).2) → Q N') : C G Y_X10_readPoints d [.ref (G.b + 1), .ref (G.b + q)] N (Rv Q) := by
  have s1 := hS.2.2.2.2.2.1
  have hn := hT.2.1
  refine up1 (P := fun d => C G Y_X10_readPoints d _ N (Rv Q)) (fun e => b_X10_readPoints (d := e + 7) hL s1 hq ?_) hd
  have key : ∀ m i (P : Mm) (x : Except Nat Nat) (ps : List (Nat × Nat)), i + m = 6 → FP q N P → Tk T n P x → (∀ j, x = .ok j → ps.length = i ∧ PC P q ps) →
      (∀ N', FP q N N' → Tk T n N' (ptS T n m x ps).1 → (∀ j, (ptS T n m x ps).1 = .ok j → PC N' q (ptS T n m x ps).2) → Q N') → L_X10_readPoints_13 G (e + 7) Q q (nI i) P := by
    intro m
    induction m with
    | zero =>
      intro i P x ps hi hF hx hA hQ
      have : i = 6 := by omega
      subst this
      exact b_X10_readPoints_13 (lay_of hL hF.1) s1 hq ⟨fun _ => hQ P hF hx (fun j hj => (hA j hj).2), fun g => absurd (by decide) g⟩
    | succ m ih =>
      intro i P x ps hi hF hx hA hQ
      have hLP := lay_of hL hF.1
      have hTP := hT.fp hF hq3
      refine b_X10_readPoints_13 hLP s1 hq ⟨fun g => ?_, fun _ => ?_⟩
      · rw [show (6 : Int32) = nI 6 from rfl, nI_leI (by omega) (by omega)] at g; omega
      · cases x with
        | error z =>
          refine ⟨fun _ => hQ P hF (by rw [ptS_err]; exact hx) (fun j hj => by rw [ptS_err] at hj; cases hj), fun g => ?_⟩
          rw [hx.1] at g
          exact absurd g (nI_ne0 (by have := hx.2.1; omega) hx.2.2)
        | ok j =>
          obtain ⟨hlen, hA1, hA2⟩ := hA j rfl
          refine ⟨fun g => absurd hx.1 g, fun _ => ?_⟩
          refine x_readNumber 0 99 (by omega) (by omega) (by omega) hLP hTP hx (fun r4 P3 hF3 hx3 hr4 => ⟨hF3.1, (inN (by omega) (by omega)).1, fun M5 e5 => ?_⟩)
          rw [nI_clamp (by omega)] at e5
          have hF5 : FP q N M5 := by subst e5; exact hF.tr ((hF3.fp (by omega)).tr (FP.si (.inr (.inl rfl)) (by omega)))
          have hx5 : Tk T n M5 (sNu T n 0 99 (.ok j)) := hx3.fr (by subst e5; rw [sI_ne (show (1 : Nat) ≠ q + 1 by omega)]) (by subst e5; rfl)
          refine x_readNumber 0 99 (by omega) (by omega) (by omega) (lay_of hL hF5.1) (hT.fp hF5 hq3) hx5 (fun r7 P6 hF6 hx6 hr7 => ⟨hF6.1, (inN (by omega) (by omega)).1, fun M8 e8 M9 e9 => ?_⟩)
          rw [nI_clamp (by omega)] at e8
          have c6 : M8.1 q 6 = nI ps.length := by
            subst e8
            rw [rd_sI, if_neg (by omega), hF6.2.1 q (by omega)]
            subst e5
            rw [rd_sI, if_neg (by omega), hF3.2.1 q (by omega)]
            exact hA1
          rw [c6, nI_1] at e9
          have hF9 : FP q N M9 := by subst e9; subst e8; exact hF5.tr ((hF6.fp (by omega)).tr ((FP.si (.inr (.inr rfl)) (by omega)).tr (FP.si (.inl ⟨rfl, rfl⟩) (by omega))))
          have hx9 : Tk T n M9 (sNu T n 0 99 (sNu T n 0 99 (.ok j))) := hx6.fr (by subst e9; subst e8; rw [sI_ne (show (1 : Nat) ≠ q by omega), sI_ne (show (1 : Nat) ≠ q + 2 by omega)]) (by subst e9; subst e8; rfl)
          have hL9 := lay_of hL hF9.1
          have hT9 := hT.fp hF9 hq3
          have c69 : M9.1 q 6 = nI (ps.length + 1) := by subst e9; rw [rd_sI, if_pos ⟨rfl, rfl⟩]
          -- behind a fault
          have lost : ∀ z (P' : Mm), FP q N P' → Tk T n P' (.error z) → ptS T n (m + 1) (.ok j) ps = (.error z, ps) → L_X10_readPoints_13 G (e + 7) Q q (nI i + 1) P' := by
            intro z P' hF' hx' he
            rw [nI_1]
            refine ih (i + 1) P' (.error z) ps (by omega) hF' hx' (fun j' hj' => by cases hj') (fun N' g1 g2 g3 => hQ N' g1 ?_ (fun j' hj' => ?_))
            · rw [he]; rw [ptS_err] at g2; exact g2
            · rw [he] at hj'; cases hj'
          cases hx2 : sNu T n 0 99 (sNu T n 0 99 (.ok j)) with
          | error z =>
            rw [hx2] at hx9
            have he := ptS_bad (m := m) (ps := ps) hx2
            refine x_isSign 44 (by omega) (by omega) hL9 hT9 hx9 (fun j' hj' => by cases hj') (fun j' hj' => by cases hj') (fun z' hz' => ⟨⟨rfl, fun g => absurd rfl g, fun _ => hQ M9 hF9 (by rw [he]; exact hx9) (fun j' hj' => by rw [he] at hj'; cases hj')⟩, ⟨rfl, fun _ => ⟨fun _ => ?_, fun _ => ?_⟩, fun g => (by cases g)⟩⟩)
            · exact x_skipSign 44 (by omega) (by omega) hL9 hT9 hx9 (fun P' hF' hx' => ⟨hF'.1, lost z P' (hF9.tr (hF'.fp (by omega))) hx' he⟩)
            · refine x_fail (k := 5) (by omega) hL9 hn (by omega) hx9 (fun P' hF' hx' => ⟨hF'.1, ?_⟩)
              exact x_skipSign 44 (by omega) (by omega) (lay_of hL9 hF'.1) (hT9.fr hF') hx' (fun P'' hF'' hx'' => ⟨hF''.1, lost z P'' (hF9.tr ((hF'.fp (by omega)).tr (hF''.fp (by omega)))) hx'' he⟩)
          | ok j2 =>
            rw [hx2] at hx9
            have he := ptS_go (m := m) (ps := ps) hx2
            obtain ⟨i1, q1, q2, q3, q4, q5⟩ := sNu_ok hx2
            obtain ⟨i0, p1, p2, p3, p4, p5⟩ := sNu_ok q1
            cases p1
            subst p5
            have v4 : r4 = nI (nv T n j) := hr4 _ q1
            have v7 : r7 = nI (nv T n (j + 1)) := by have := hr7 _ hx2; rw [q1] at this; exact this
            have ll : (ps ++ [(nv T n j, nv T n (j + 1))]).length = ps.length + 1 := by rw [List.length_append]; rfl
            have hPC : PC M9 q (ps ++ [(nv T n j, nv T n (j + 1))]) := by
              refine ⟨by rw [ll]; exact c69, fun k hk => ?_⟩
              rw [ll] at hk
              have m1 : ∀ b, M9.1 (q + 1) b = if b = i then r4 else P.1 (q + 1) b := fun b => by
                subst e9
                rw [sI_ne (show q + 1 ≠ q by omega)]
                subst e8
                rw [sI_ne (show q + 1 ≠ q + 2 by omega), hF6.2.1 (q + 1) (by omega)]
                subst e5
                rw [rd_sI, hF3.2.1 (q + 1) (by omega)]
                by_cases hb : b = i
                · rw [if_pos ⟨rfl, hb⟩, if_pos hb]
                · rw [if_neg (fun hh => hb hh.2), if_neg hb]
              have m2 : ∀ b, M9.1 (q + 2) b = if b = i then r7 else P.1 (q + 2) b := fun b => by
                subst e9
                rw [sI_ne (show q + 2 ≠ q by omega)]
                subst e8
                rw [rd_sI, hF6.2.1 (q + 2) (by omega)]
                subst e5
                rw [sI_ne (show q + 2 ≠ q + 1 by omega), hF3.2.1 (q + 2) (by omega)]
                by_cases hb : b = i
                · rw [if_pos ⟨rfl, hb⟩, if_pos hb]
                · rw [if_neg (fun hh => hb hh.2), if_neg hb]
              rw [m1, m2]
              by_cases e1 : k = ps.length
              · have ei : k = i := by omega
                rw [if_pos ei, if_pos ei, e1, gD_eq]
                exact ⟨v4, v7⟩
              · rw [if_neg (by omega), if_neg (by omega), gD_lt (by omega)]
                exact hA2 k (by omega)
            refine x_isSign 44 (by omega) (by omega) hL9 hT9 hx9 (fun j' hj' hG => ⟨rfl, fun _ => ?_, fun g => (by cases g)⟩) (fun j' hj' hG => ⟨rfl, fun g => absurd rfl g, fun _ => ?_⟩) (fun z' hz' => by cases hz')
            · cases hj'
              rw [c69, show (6 : Int32) = nI 6 from rfl, nI_eq (by omega) (by omega)]
              refine ⟨fun g => ?_, fun g => ?_⟩
              · have he2 : ptS T n (m + 1) (.ok j) ps = ptS T n m (.ok (j2 + 1)) (ps ++ [(nv T n j, nv T n (j + 1))]) := by rw [he, ifc_pos hG, ifc_neg (by omega)]
                refine x_skipSign 44 (by omega) (by omega) hL9 hT9 hx9 (fun P' hF' hx' => ⟨hF'.1, ?_⟩)
                rw [show sG T n 44 (.ok j2) = .ok (j2 + 1) from ifc_pos hG] at hx'
                rw [nI_1]
                refine ih (i + 1) P' (.ok (j2 + 1)) _ (by omega) (hF9.tr (hF'.fp (by omega))) hx' (fun j' hj' => ⟨by rw [ll]; omega, ?_⟩) (fun N' g1 g2 g3 => hQ N' g1 (by rw [he2]; exact g2) (fun j' hj' => by rw [he2] at hj' ⊢; exact g3 j' hj'))
                unfold PC
                rw [hF'.2.1 q (by omega), hF'.2.1 (q + 1) (by omega), hF'.2.1 (q + 2) (by omega)]
                exact hPC
              · have he2 : ptS T n (m + 1) (.ok j) ps = (.error (5 + 16 * plF T n (tbF T n j2)), ps) := by rw [he, ifc_pos hG, ifc_pos (by omega)]
                refine x_fail (k := 5) (by omega) hL9 hn (by omega) hx9 (fun P' hF' hx' => ⟨hF'.1, ?_⟩)
                have hx'' : Tk T n P' (.error (5 + 16 * plF T n (tbF T n j2))) := hx'
                exact x_skipSign 44 (by omega) (by omega) (lay_of hL9 hF'.1) (hT9.fr hF') hx'' (fun P'' hF'' hx3' => ⟨hF''.1, lost _ P'' (hF9.tr ((hF'.fp (by omega)).tr (hF''.fp (by omega)))) hx3' he2⟩)
            · cases hj'
              have he2 : ptS T n (m + 1) (.ok j) ps = (.ok j2, ps ++ [(nv T n j, nv T n (j + 1))]) := by rw [he, ifc_neg hG]
              exact hQ M9 hF9 (by rw [he2]; exact hx9) (fun j' hj' => by rw [he2]; exact hPC)
  refine x_skipWord 11 (by omega) (by omega) hS.1 hL hT hx (fun N' hF hk => ⟨hF.1, fun M2 e2 => ?_⟩)
  have hF2 : FP q N M2 := by subst e2; exact (hF.fp (by omega)).tr (FP.si (.inl ⟨rfl, rfl⟩) (by omega))
  refine key 6 0 M2 (sW T n 11 x) [] (by omega) hF2 ?_ (fun j hj => ⟨rfl, ?_, fun i hi => ?_⟩) h
  · refine hk.fr ?_ ?_
    · subst e2; rw [sI_ne (show (1 : Nat) ≠ q by omega)]
    · subst e2; rfl
  · subst e2; rw [rd_sI, if_pos ⟨rfl, rfl⟩]; rfl
  · have : i < 0 := hi
    omega
