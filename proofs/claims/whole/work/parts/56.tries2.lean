/-! ===== steadiest: the reference's recursion, all of it ===== -/
theorem s_tries {G : MG} {M : Mm} {c k n : Nat} (hI : Inv c M) (hk4 : k ≤ 4) (hk : M.1 153 85 = nI k) (hn : M.1 153 0 = nI n) (hn6 : n ≤ 6) :
    ∀ (m : Nat) (p : List Nat) (b : Option (List Nat)) (x2 : Int32) (N : Mm) (Q : Mm → Prop) (d : Nat), 3 + m ≤ d → p.length + m = k → Us x2 p → StM M N c k p b → (∀ i, i < p.length → fo p i < n) → (∀ N', StM M N' c k p (tryO M k n m p b) → Q N') → C G Y_X12_triesOrder d [.ref (G.b + 147), .int (nI p.length), .int x2] N (Rv Q) := by
  intro m
  induction m with
  | zero =>
    intro p b x2 N Q d hd hp hU hS hpn h
    have hpk : p.length = k := by omega
    rw [hpk]
    exact s_tries0 (by omega) hI hk4 hk hS ⟨hpk, fun i hi => hI.armK hn hn6 (hpn i (by omega))⟩ h
  | succ m ih =>
    intro p b x2 N Q d hd hp hU hS hpn h
    have hLN : Lay c N := lay_of hI.lay hS.1.1
    refine up1 (P := fun d => C G Y_X12_triesOrder d _ N (Rv Q)) (fun e => b_X12_triesOrder (d := e + (3 + m)) hLN ?_) (show 3 + m + 1 ≤ d by omega)
    refine s_chained (by omega) hLN ⟨rfl, fun _ => ?_, fun h => absurd h ?_⟩
    · have key : ∀ r a (A : Mm) (b' : Option (List Nat)), a + r = n → StM M A c k p b' → (∀ N', StM M N' c k p (tryL M k (tryO M k n m) r a p b') → Q N') → L_X12_triesOrder_91 G (e + (3 + m)) Q (nI p.length) x2 (nI a) A := by
        intro r
        induction r with
        | zero =>
          intro a A b' ha hA hq
          have lA : Lay c A := lay_of hI.lay hA.1.1
          have a153 : A.1 153 = M.1 153 := hA.1.2.2.2.2.2.2.2.1
          refine b_X12_triesOrder_91 lA (s_arms (by omega) lA ⟨rfl, fun _ => hq A hA, fun h => absurd ?_ h⟩)
          rw [a153, hn, nI_leI (by omega) (by omega)]; omega
        | succ r ihr =>
          intro a A b' ha hA hq
          have lA : Lay c A := lay_of hI.lay hA.1.1
          have a153 : A.1 153 = M.1 153 := hA.1.2.2.2.2.2.2.2.1
          have hch : ∀ i, i < k → (A.1 153 (86 + i) = nI a ↔ cha M i = a) := fun i hi => by
            obtain ⟨c1, -, c3, -⟩ := hI.chP hk4 hk hi
            rw [a153, c3, nI_eq (by omega) (by omega)]
          rw [show tryL M k (tryO M k n m) (r + 1) a p b' = tryL M k (tryO M k n m) r (a + 1) p (@ite _ (chB M k a ∧ ¬ a ∈ p) (Classical.propDecidable _) (tryO M k n m (p ++ [a]) b') b') from rfl] at hq
          refine b_X12_triesOrder_91 lA (s_arms (by omega) lA ⟨rfl, fun h => absurd h ?_, fun _ => ?_⟩)
          · rw [a153, hn, nI_leI (by omega) (by omega)]; omega
          · rw [nI_1]
            refine s_isChained (by omega) lA hk4 (by rw [a153]; exact hk) (fun hno => ⟨rfl, fun _ => ?_, fun h => absurd rfl h⟩) (fun hyes => ⟨rfl, fun h => (by cases h), fun _ => ?_⟩)
            · rw [if_neg (by rintro ⟨⟨i, hi, e⟩, -⟩; exact hno i hi ((hch i hi).mpr e))] at hq
              exact ihr (a + 1) A b' (by omega) hA hq
            · obtain ⟨i, hi, ei⟩ := hyes
              have hcB : chB M k a := ⟨i, hi, (hch i hi).mp ei⟩
              have hUs : (x2 >>> (nI a &&& 31)) &&& 1 = 0 ↔ ¬ a ∈ p := by
                obtain ⟨u, hu, eu, h2⟩ := hU
                rw [eu]; exact h2 a (by omega)
              refine ⟨fun hbit => ?_, fun hbit => ⟨(inN (by omega) (by omega)).1, fun A8 e8 => ?_⟩⟩
              · rw [if_neg (fun hh => hbit (hUs.mpr hh.2))] at hq
                exact ihr (a + 1) A b' (by omega) hA hq
              · rw [nI_clamp (show p.length < 2 ^ 31 by omega)] at e8
                rw [if_pos ⟨hcB, hUs.mp hbit⟩] at hq
                have hA8 : StM M A8 c k (p ++ [a]) b' := by
                  obtain ⟨s1, s2, s3, s4⟩ := hA
                  subst e8
                  refine ⟨s1.tr (ess_sI (by omega)), fun j hj => ?_, fun hb => s3 hb, fun q hq' => ?_⟩
                  · rw [List.length_append] at hj
                    by_cases he : j = p.length
                    · rw [he, rd_sI, if_pos ⟨rfl, rfl⟩, fo_end]
                    · have hj2 : j < p.length := by simp at hj; omega
                      rw [rd_sI, if_neg (by omega), fo_app hj2]; exact s2 j hj2
                  · obtain ⟨q1, q3, q4, q5⟩ := s4 q hq'
                    exact ⟨q1, fun j hj => by rw [rd_sI, if_neg (by omega)]; exact q3 j hj, q4, q5⟩
                have hlen : (p ++ [a]).length = p.length + 1 := by simp
                rw [nI_1, ← hlen]
                refine ih (p ++ [a]) b' _ A8 _ _ (by omega) (by rw [hlen]; omega) (hU.add (by omega)) hA8 (fun j hj => ?_) (fun N' hN' => ⟨by rw [hN'.1.1, hA8.1.1], ?_⟩)
                · rw [hlen] at hj
                  by_cases he : j = p.length
                  · rw [he, fo_end]; omega
                  · rw [fo_app (by omega)]; exact hpn j (by omega)
                · exact ihr (a + 1) N' _ (by omega) hN'.pre hq
      exact key n 0 N b (by omega) hS h
    · rw [hS.1.2.2.2.2.2.2.2.1, hk, nI_eq (by omega) (by omega)] at h
      omega
