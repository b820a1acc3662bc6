/-! ===== steadiest: the component's recursion ===== -/
def chB (M : Mm) (k a : Nat) : Prop := ∃ i, i < k ∧ cha M i = a
noncomputable def tryL (M : Mm) (k : Nat) (rec : List Nat → Option (List Nat) → Option (List Nat)) : Nat → Nat → List Nat → Option (List Nat) → Option (List Nat)
  | 0, _, _, b => b
  | r + 1, a, p, b => tryL M k rec r (a + 1) p (@ite _ (chB M k a ∧ ¬ a ∈ p) (Classical.propDecidable _) (rec (p ++ [a]) b) b)
noncomputable def tryO (M : Mm) (k n : Nat) : Nat → List Nat → Option (List Nat) → Option (List Nat)
  | 0, p, b => cmpO M k p b
  | m + 1, p, b => tryL M k (tryO M k n m) n 0 p b
theorem fo_app {p : List Nat} {a i : Nat} (hi : i < p.length) : fo (p ++ [a]) i = fo p i := by
  unfold fo
  rw [List.getD_eq_getElem?_getD, List.getD_eq_getElem?_getD, List.getElem?_append_left hi]
theorem fo_end {p : List Nat} {a : Nat} : fo (p ++ [a]) p.length = a := by
  unfold fo
  rw [List.getD_eq_getElem?_getD, List.getElem?_append_right (Nat.le_refl _), Nat.sub_self]
  rfl
theorem fo_mem {p : List Nat} {a : Nat} : a ∈ p ↔ ∃ i, i < p.length ∧ fo p i = a := by
  rw [List.mem_iff_getElem]
  refine ⟨fun ⟨i, hi, e⟩ => ⟨i, hi, ?_⟩, fun ⟨i, hi, e⟩ => ⟨i, hi, ?_⟩⟩
  · unfold fo
    rw [List.getD_eq_getElem?_getD, List.getElem?_eq_getElem hi]
    exact e
  · unfold fo at e
    rw [List.getD_eq_getElem?_getD, List.getElem?_eq_getElem hi] at e
    exact e
theorem StX.pre {M N : Mm} {c k a : Nat} {p : List Nat} {b : Option (List Nat)} (h : StX M N c k (p ++ [a]) b) : StX M N c k p b := by
  obtain ⟨s1, s2, s3, s4⟩ := h
  refine ⟨s1, fun i hi => ?_, s3, s4⟩
  rw [s2 i (by rw [List.length_append]; omega), fo_app hi]
theorem s_layO {G : MG} {M : Mm} {c k n : Nat} (hI : Inv c M) (hk4 : k ≤ 4) (hk : M.1 153 85 = nI k) (hk7 : M.1 75 7 = nI k) (hn : M.1 153 0 = nI n) (hn' : M.1 c 2 = nI n) (hn6 : n ≤ 6) :
    ∀ (m : Nat) (p : List Nat) (b : Option (List Nat)) (N : Mm) (Q : Mm → Prop) (d : Nat), 4 + m ≤ d → p.length + m = k → StX M N c k p b → (∀ i, i < p.length → fo p i < n) → (∀ N', StX M N' c k p (tryO M k n m p b) → Q N') → C G Y_X6_lay d [.ref (G.b + 128), .ref (G.b + c), .ref (G.b + 75), .int (nI p.length)] N (Rv Q) := by
  have hcc := hI.cc
  intro m
  induction m with
  | zero =>
    intro p b N Q d hd hp hS hpn h
    have hLN : Lay c N := lay_of hI.lay hS.1.1
    have e75 : N.1 75 7 = nI k := by rw [hS.1.2.1 75 (by omega) (by omega)]; exact hk7
    refine up1 (P := fun d => C G Y_X6_lay d _ N (Rv Q)) (fun e => b_X6_lay (d := e + 3) hLN (sh_off hcc) (by decide) ⟨fun _ => ?_, fun h => absurd ?_ h⟩) (show 4 ≤ d by omega)
    · exact s_compare (by omega) hI hk4 hk7 hS ⟨by omega, fun i hi => hI.armK hn hn6 (hpn i (by omega))⟩ (fun N' hN' => ⟨by rw [hN'.1.1, hS.1.1], h N' hN'⟩)
    · rw [e75, nI_leI (by omega) (by omega)]; omega
  | succ m ih =>
    intro p b N Q d hd hp hS hpn h
    have hLN : Lay c N := lay_of hI.lay hS.1.1
    have e75 : N.1 75 7 = nI k := by rw [hS.1.2.1 75 (by omega) (by omega)]; exact hk7
    refine up1 (P := fun d => C G Y_X6_lay d _ N (Rv Q)) (fun e => b_X6_lay (d := e + (4 + m)) hLN (sh_off hcc) (by decide) ⟨fun h => absurd h ?_, fun _ => ⟨fun _ => ?_, fun h => absurd ?_ h⟩⟩) (show 4 + m + 1 ≤ d by omega)
    · rw [e75, nI_leI (by omega) (by omega)]; omega
    · have key : ∀ r a (A : Mm) (b' : Option (List Nat)), a + r = n → StX M A c k p b' → (∀ N', StX M N' c k p (tryL M k (tryO M k n m) r a p b') → Q N') → L_X6_lay_23 G (e + (4 + m)) Q c 75 (nI p.length) (nI a) A := by
        intro r
        induction r with
        | zero =>
          intro a A b' ha hA hq
          refine b_X6_lay_23 (lay_of hI.lay hA.1.1) (sh_off hcc) (by decide) ⟨fun _ => hq A hA, fun h => absurd ?_ h⟩
          rw [hA.1.2.1 c (by omega) (by omega), hn', nI_leI (by omega) (by omega)]; omega
        | succ r ihr =>
          intro a A b' ha hA hq
          have lA : Lay c A := lay_of hI.lay hA.1.1
          have a75 : A.1 75 7 = nI k := by rw [hA.1.2.1 75 (by omega) (by omega)]; exact hk7
          have a82 : A.1 82 = M.1 82 := hA.1.2.1 82 (by omega) (by omega)
          have hch : ∀ i, i < k → (A.1 82 i = nI a ↔ cha M i = a) := fun i hi => by
            obtain ⟨c1, c2, -⟩ := hI.chP hk4 hk hi
            rw [a82, c2, nI_eq (by omega) (by omega)]
          rw [show tryL M k (tryO M k n m) (r + 1) a p b' = tryL M k (tryO M k n m) r (a + 1) p (@ite _ (chB M k a ∧ ¬ a ∈ p) (Classical.propDecidable _) (tryO M k n m (p ++ [a]) b') b') from rfl] at hq
          refine b_X6_lay_23 lA (sh_off hcc) (by decide) ⟨fun h => absurd h ?_, fun _ => ?_⟩
          · rw [hA.1.2.1 c (by omega) (by omega), hn', nI_leI (by omega) (by omega)]; omega
          · rw [nI_1]
            refine s_hasChained (by omega) lA a75 hk4 (fun hno => ⟨rfl, fun _ => ?_, fun h => absurd rfl h⟩) (fun hyes => ⟨rfl, fun h => (by cases h), fun _ => ?_⟩)
            · rw [if_neg (by rintro ⟨⟨i, hi, e⟩, -⟩; exact hno i hi ((hch i hi).mpr e))] at hq
              exact ihr (a + 1) A b' (by omega) hA hq
            · obtain ⟨i, hi, ei⟩ := hyes
              have hcB : chB M k a := ⟨i, hi, (hch i hi).mp ei⟩
              have h131 : ∀ j, j < p.length → (A.1 131 j = nI a ↔ fo p j = a) := fun j hj => by
                rw [hA.2.1 j hj, nI_eq (by have := hpn j hj; omega) (by omega)]
              refine s_isLaid (by omega) lA (by omega) (fun hno => ⟨rfl, fun h => absurd rfl h, fun _ => ⟨(inN (by omega) (by omega)).1, fun A8 e8 => ?_⟩⟩) (fun hyes => ⟨rfl, fun _ => ?_, fun h => (by cases h)⟩)
              · rw [nI_clamp (show p.length < 2 ^ 31 by omega)] at e8
                have hnp : ¬ a ∈ p := fun hm => by
                  obtain ⟨j, hj, e⟩ := fo_mem.mp hm
                  exact hno j hj ((h131 j hj).mpr e)
                rw [if_pos ⟨hcB, hnp⟩] at hq
                have hA8 : StX M A8 c k (p ++ [a]) b' := by
                  obtain ⟨s1, s2, s3, s4⟩ := hA
                  subst e8
                  refine ⟨s1.tr (ess_sI (by omega)), fun j hj => ?_, fun hb => ?_, fun q hq' => ?_⟩
                  · rw [List.length_append] at hj
                    by_cases he : j = p.length
                    · rw [he, rd_sI, if_pos ⟨rfl, rfl⟩, fo_end]
                    · have hj2 : j < p.length := by simp at hj; omega
                      rw [rd_sI, if_neg (by omega), fo_app hj2]; exact s2 j hj2
                  · rw [rd_sI, if_neg (by omega)]; exact s3 hb
                  · obtain ⟨q1, q2, q3, q4, q5⟩ := s4 q hq'
                    exact ⟨q1, by rw [rd_sI, if_neg (by omega)]; exact q2, fun j hj => by rw [rd_sI, if_neg (by omega)]; exact q3 j hj, q4, q5⟩
                have hlen : (p ++ [a]).length = p.length + 1 := by simp
                rw [nI_1, ← hlen]
                refine ih (p ++ [a]) b' A8 _ _ (by omega) (by rw [hlen]; omega) hA8 (fun j hj => ?_) (fun N' hN' => ⟨by rw [hN'.1.1, hA8.1.1], ?_⟩)
                · rw [hlen] at hj
                  by_cases he : j = p.length
                  · rw [he, fo_end]; omega
                  · rw [fo_app (by omega)]; exact hpn j (by omega)
                · exact ihr (a + 1) N' _ (by omega) hN'.pre hq
              · obtain ⟨j, hj, e⟩ := hyes
                rw [if_neg (by rintro ⟨-, hm⟩; exact hm (fo_mem.mpr ⟨j, hj, (h131 j hj).mp e⟩))] at hq
                exact ihr (a + 1) A b' (by omega) hA hq
      exact key n 0 N b (by omega) hS h
    · rw [show (4 : Int32) = nI 4 from rfl, nI_ltI (by omega) (by omega)]; omega
