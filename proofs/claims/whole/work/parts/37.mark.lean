/-! ===== mark ===== -/
def Cop (M N : Mm) (o0 o1 : Nat) : Prop := N.2 = M.2 ∧ (∀ o k, o < o0 ∨ o0 + 9 < o → N.1 o k = M.1 o k) ∧ (∀ j k, 1 ≤ j → j ≤ 6 → k < 6 → N.1 (o0 + j) k = M.1 (o1 + j) k) ∧ (∀ j k, 7 ≤ j → j ≤ 9 → k < 4 → N.1 (o0 + j) k = M.1 (o1 + j) k) ∧ N.1 o0 7 = M.1 o1 7 ∧ N.1 o0 10 = M.1 o1 10
theorem s_copyFrom {G : MG} {d : Nat} {Q : Mm → Prop} {M : Mm} {c o0 o1 : Nat} (hd : 1 ≤ d) (hL : Lay c M) (ho0 : sh o0 = some (.inr 7)) (ho1 : sh o1 = some (.inr 7)) (hdis : o0 + 9 < o1 ∨ o1 + 9 < o0)
    (h : ∀ N, Cop M N o0 o1 → Q N) : C G Y_X7_copyFrom d [.ref (G.b + o0), .ref (G.b + o1)] M (Rv Q) := by
  refine up1 (P := fun d => C G Y_X7_copyFrom d _ M (Rv Q)) (fun e => b_X7_copyFrom (d := e) hL ho0 ho1 ?_) hd
  have lay : ∀ N : Mm, N.2 = M.2 → Lay c N := fun N hN => by unfold Lay at hL ⊢; rw [hN]; exact hL
  have k3 : ∀ m i (N : Mm), i + m = 4 → N.2 = M.2 → (∀ o k, o < o0 ∨ o0 + 9 < o → N.1 o k = M.1 o k) → (∀ j k, 1 ≤ j → j ≤ 6 → k < 6 → N.1 (o0 + j) k = M.1 (o1 + j) k) → (∀ k, k < 4 → N.1 (o0 + 7) k = M.1 (o1 + 7) k) → N.1 o0 7 = M.1 o1 7 →
      (∀ j k, 8 ≤ j → j ≤ 9 → k < i → N.1 (o0 + j) k = M.1 (o1 + j) k) → L_X7_copyFrom_121 G e Q o0 o1 (nI i) N := by
    intro m
    induction m with
    | zero =>
      intro i N hi h2 hO h16 h7 hf7 h89
      refine b_X7_copyFrom_121 (lay N h2) ho0 ho1 ⟨fun _ M2 e2 => ?_, fun h => absurd ?_ h⟩
      · subst e2
        refine h _ ⟨h2, fun o k ho => ?_, fun j k hj1 hj2 hk => ?_, fun j k hj1 hj2 hk => ?_, ?_, ?_⟩
        · rw [rd_sI, if_neg (by omega)]; exact hO o k ho
        · rw [rd_sI, if_neg (by omega)]; exact h16 j k hj1 hj2 hk
        · rw [rd_sI, if_neg (by omega)]
          by_cases hj : j = 7
          · rw [hj]; exact h7 k hk
          · exact h89 j k (by omega) hj2 (by omega)
        · rw [rd_sI, if_neg (by omega)]; exact hf7
        · rw [rd_sI, if_pos ⟨rfl, rfl⟩]; exact hO o1 10 (by omega)
      · rw [show (4 : Int32) = nI 4 from rfl, nI_leI (by omega) (by omega)]; omega
    | succ m ih =>
      intro i N hi h2 hO h16 h7 hf7 h89
      have hin : vp_in (nI i) 4 := (inN (by omega) (by omega)).1
      refine b_X7_copyFrom_121 (lay N h2) ho0 ho1 ⟨fun h => absurd h ?_, fun _ => ⟨hin, hin, fun M3 e3 => ⟨hin, hin, fun M4 e4 => ?_⟩⟩⟩
      · rw [show (4 : Int32) = nI 4 from rfl, nI_leI (by omega) (by omega)]; omega
      · rw [nI_clamp (show i < 2 ^ 31 by omega)] at e3 e4
        rw [hO (o1 + 8) i (by omega)] at e3
        subst e3
        rw [rd_sI, if_neg (by omega), hO (o1 + 9) i (by omega)] at e4
        subst e4
        rw [nI_1]
        refine ih (i + 1) _ (by omega) h2 (fun o k ho => ?_) (fun j k hj1 hj2 hk => ?_) (fun k hk => ?_) ?_ (fun j k hj1 hj2 hk => ?_)
        · rw [rd_sI, if_neg (by omega), rd_sI, if_neg (by omega)]; exact hO o k ho
        · rw [rd_sI, if_neg (by omega), rd_sI, if_neg (by omega)]; exact h16 j k hj1 hj2 hk
        · rw [rd_sI, if_neg (by omega), rd_sI, if_neg (by omega)]; exact h7 k hk
        · rw [rd_sI, if_neg (by omega), rd_sI, if_neg (by omega)]; exact hf7
        · by_cases hk : k = i
          · rw [hk]
            rcases (show j = 8 ∨ j = 9 by omega) with rfl | rfl
            · rw [rd_sI, if_neg (by omega), rd_sI, if_pos ⟨rfl, rfl⟩]
            · rw [rd_sI, if_pos ⟨rfl, rfl⟩]
          · rw [rd_sI, if_neg (by omega), rd_sI, if_neg (by omega)]; exact h89 j k hj1 hj2 (by omega)
  have k2 : ∀ m i (N : Mm), i + m = 4 → N.2 = M.2 → (∀ o k, o < o0 ∨ o0 + 9 < o → N.1 o k = M.1 o k) → (∀ j k, 1 ≤ j → j ≤ 6 → k < 6 → N.1 (o0 + j) k = M.1 (o1 + j) k) → (∀ k, k < i → N.1 (o0 + 7) k = M.1 (o1 + 7) k) →
      L_X7_copyFrom_88 G e Q o0 o1 (nI i) N := by
    intro m
    induction m with
    | zero =>
      intro i N hi h2 hO h16 h7
      refine b_X7_copyFrom_88 (lay N h2) ho0 ho1 ⟨fun _ M2 e2 => ?_, fun h => absurd ?_ h⟩
      · subst e2
        refine k3 4 0 _ (by omega) h2 (fun o k ho => ?_) (fun j k hj1 hj2 hk => ?_) (fun k hk => ?_) ?_ (fun j k hj1 hj2 hk => by omega)
        · rw [rd_sI, if_neg (by omega)]; exact hO o k ho
        · rw [rd_sI, if_neg (by omega)]; exact h16 j k hj1 hj2 hk
        · rw [rd_sI, if_neg (by omega)]; exact h7 k (by omega)
        · rw [rd_sI, if_pos ⟨rfl, rfl⟩]; exact hO o1 7 (by omega)
      · rw [show (4 : Int32) = nI 4 from rfl, nI_leI (by omega) (by omega)]; omega
    | succ m ih =>
      intro i N hi h2 hO h16 h7
      have hin : vp_in (nI i) 4 := (inN (by omega) (by omega)).1
      refine b_X7_copyFrom_88 (lay N h2) ho0 ho1 ⟨fun h => absurd h ?_, fun _ => ⟨hin, hin, fun M3 e3 => ?_⟩⟩
      · rw [show (4 : Int32) = nI 4 from rfl, nI_leI (by omega) (by omega)]; omega
      · rw [nI_clamp (show i < 2 ^ 31 by omega), hO (o1 + 7) i (by omega)] at e3
        subst e3
        rw [nI_1]
        refine ih (i + 1) _ (by omega) h2 (fun o k ho => ?_) (fun j k hj1 hj2 hk => ?_) (fun k hk => ?_)
        · rw [rd_sI, if_neg (by omega)]; exact hO o k ho
        · rw [rd_sI, if_neg (by omega)]; exact h16 j k hj1 hj2 hk
        · by_cases hk : k = i
          · rw [hk, rd_sI, if_pos ⟨rfl, rfl⟩]
          · rw [rd_sI, if_neg (by omega)]; exact h7 k (by omega)
  have k1 : ∀ m i (N : Mm), i + m = 6 → N.2 = M.2 → (∀ o k, o < o0 ∨ o0 + 9 < o → N.1 o k = M.1 o k) → (∀ j k, 1 ≤ j → j ≤ 6 → k < i → N.1 (o0 + j) k = M.1 (o1 + j) k) → L_X7_copyFrom_2 G e Q o0 o1 (nI i) N := by
    intro m
    induction m with
    | zero =>
      intro i N hi h2 hO h16
      refine b_X7_copyFrom_2 (lay N h2) ho0 ho1 ⟨fun _ => k2 4 0 N (by omega) h2 hO (fun j k hj1 hj2 hk => h16 j k hj1 hj2 (by omega)) (fun k hk => by omega), fun h => absurd ?_ h⟩
      rw [show (6 : Int32) = nI 6 from rfl, nI_leI (by omega) (by omega)]; omega
    | succ m ih =>
      intro i N hi h2 hO h16
      have hin : vp_in (nI i) 6 := (inN (by omega) (by omega)).1
      refine b_X7_copyFrom_2 (lay N h2) ho0 ho1 ⟨fun h => absurd h ?_, fun _ => ⟨hin, hin, fun M2 e2 => ⟨hin, hin, fun M3 e3 => ⟨hin, hin, fun M4 e4 => ⟨hin, hin, fun M5 e5 => ⟨hin, hin, fun M6 e6 => ⟨hin, hin, fun M7 e7 => ?_⟩⟩⟩⟩⟩⟩⟩
      · rw [show (6 : Int32) = nI 6 from rfl, nI_leI (by omega) (by omega)]; omega
      · rw [nI_clamp (show i < 2 ^ 31 by omega)] at e2 e3 e4 e5 e6 e7
        rw [hO (o1 + 1) i (by omega)] at e2
        subst e2
        rw [rd_sI, if_neg (by omega), hO (o1 + 2) i (by omega)] at e3
        subst e3
        rw [rd_sI, if_neg (by omega), rd_sI, if_neg (by omega), hO (o1 + 3) i (by omega)] at e4
        subst e4
        rw [rd_sI, if_neg (by omega), rd_sI, if_neg (by omega), rd_sI, if_neg (by omega), hO (o1 + 4) i (by omega)] at e5
        subst e5
        rw [rd_sI, if_neg (by omega), rd_sI, if_neg (by omega), rd_sI, if_neg (by omega), rd_sI, if_neg (by omega), hO (o1 + 5) i (by omega)] at e6
        subst e6
        rw [rd_sI, if_neg (by omega), rd_sI, if_neg (by omega), rd_sI, if_neg (by omega), rd_sI, if_neg (by omega), rd_sI, if_neg (by omega), hO (o1 + 6) i (by omega)] at e7
        subst e7
        rw [nI_1]
        refine ih (i + 1) _ (by omega) h2 (fun o k ho => ?_) (fun j k hj1 hj2 hk => ?_)
        · rw [rd_sI, if_neg (by omega), rd_sI, if_neg (by omega), rd_sI, if_neg (by omega), rd_sI, if_neg (by omega), rd_sI, if_neg (by omega), rd_sI, if_neg (by omega)]; exact hO o k ho
        · by_cases hk : k = i
          · rw [hk]
            rcases (show j = 1 ∨ j = 2 ∨ j = 3 ∨ j = 4 ∨ j = 5 ∨ j = 6 by omega) with rfl | rfl | rfl | rfl | rfl | rfl <;> simp [rd_sI]
          · rw [rd_sI, if_neg (by omega), rd_sI, if_neg (by omega), rd_sI, if_neg (by omega), rd_sI, if_neg (by omega), rd_sI, if_neg (by omega), rd_sI, if_neg (by omega)]; exact h16 j k hj1 hj2 (by omega)
  exact k1 6 0 M (by omega) rfl (fun _ _ _ => rfl) (fun j k hj1 hj2 hk => by omega)
def Car (M N : Mm) (a b : Nat) : Prop := N.2 = M.2 ∧ (∀ o k, o ≠ 153 ∨ k < 110 * b ∨ 110 * b + 110 ≤ k → N.1 o k = M.1 o k) ∧ ∀ k, k < 110 → N.1 153 (110 * b + k) = M.1 153 (110 * a + k)
theorem s_carry {G : MG} {d : Nat} {Q : Mm → Prop} {M : Mm} {c a b : Nat} (hd : 1 ≤ d) (hL : Lay c M) (ha : a < 6) (hb : b < 6) (hab : a ≠ b) (h : ∀ N, Car M N a b → Q N) : C G Y_X12_carry d [.ref (G.b + 147), .int (nI a), .int (nI b)] M (Rv Q) := by
  refine up1 (P := fun d => C G Y_X12_carry d _ M (Rv Q)) (fun e => b_X12_carry (d := e) hL ?_) hd
  have lay : ∀ N : Mm, N.2 = M.2 → Lay c N := fun N hN => by unfold Lay at hL ⊢; rw [hN]; exact hL
  have ix : ∀ u i, 110 * nI u + nI i = nI (110 * u + i) := fun u i => by rw [show (110 : Int32) = nI 110 from rfl, pk_mul, nI_add]
  have key : ∀ m i (N : Mm), i + m = 110 → N.2 = M.2 → (∀ o k, o ≠ 153 ∨ k < 110 * b ∨ 110 * b + 110 ≤ k → N.1 o k = M.1 o k) → (∀ k, k < i → N.1 153 (110 * b + k) = M.1 153 (110 * a + k)) → L_X12_carry_2 G e Q (nI a) (nI b) (nI i) N := by
    intro m
    induction m with
    | zero =>
      intro i N hi h2 hO hk
      refine b_X12_carry_2 (lay N h2) ⟨fun _ => h N ⟨h2, hO, fun k hk' => hk k (by omega)⟩, fun h => absurd ?_ h⟩
      rw [show (110 : Int32) = nI 110 from rfl, nI_leI (by omega) (by omega)]; omega
    | succ m ih =>
      intro i N hi h2 hO hk
      refine b_X12_carry_2 (lay N h2) ⟨fun h => absurd h ?_, fun _ => ?_⟩
      · rw [show (110 : Int32) = nI 110 from rfl, nI_leI (by omega) (by omega)]; omega
      · rw [ix a i, ix b i, nI_clamp (show 110 * a + i < 2 ^ 31 by omega), nI_clamp (show 110 * b + i < 2 ^ 31 by omega), nI_1]
        refine ⟨(inN (by omega) (by omega)).1, (inN (by omega) (by omega)).1, fun M2 e2 => ?_⟩
        rw [hO 153 (110 * a + i) (by omega)] at e2
        subst e2
        refine ih (i + 1) _ (by omega) h2 (fun o k ho => ?_) (fun k hk' => ?_)
        · rw [rd_sI, if_neg (by omega)]; exact hO o k ho
        · by_cases he : k = i
          · rw [he, rd_sI, if_pos ⟨rfl, rfl⟩]
          · rw [rd_sI, if_neg (by omega)]; exact hk k (by omega)
  exact key 110 0 M (by omega) rfl (fun _ _ _ => rfl) (fun k hk => by omega)
/-- a setting carried over -/
theorem SetC.copy {M N : Mm} {s t n : Nat} {R R' : Nat → Int32} (h : SetC M s R n) (hn : n ≤ 6) (h16 : ∀ j k, 1 ≤ j → j ≤ 6 → k < 6 → N.1 (t + j) k = M.1 (s + j) k) (h79 : ∀ j k, 7 ≤ j → j ≤ 9 → k < 4 → N.1 (t + j) k = M.1 (s + j) k) (h7 : N.1 t 7 = M.1 s 7) (h10 : N.1 t 10 = M.1 s 10) (hR : ∀ k, k < 110 → R' k = R k) : SetC N t R' n := by
  obtain ⟨s1, s2, s3⟩ := h
  refine ⟨fun a ha => ?_, ?_, ?_⟩
  · have h4 := s1 a ha
    unfold HandC at h4 ⊢
    simp only [h16 1 a (by omega) (by omega) (by omega), h16 2 a (by omega) (by omega) (by omega), h16 3 a (by omega) (by omega) (by omega), h16 4 a (by omega) (by omega) (by omega), h16 5 a (by omega) (by omega) (by omega), h16 6 a (by omega) (by omega) (by omega), hR (1 + 14 * a + 6) (by omega), hR (1 + 14 * a + 7) (by omega), hR (1 + 14 * a + 8) (by omega), hR (1 + 14 * a + 9) (by omega), hR (1 + 14 * a + 10) (by omega), hR (1 + 14 * a + 13) (by omega)]
    exact h4
  · obtain ⟨c1, k, k1, k2, k3, k4⟩ := s2
    refine ⟨by rw [h7, hR 85 (by omega)]; exact c1, k, k1, by rw [hR 85 (by omega)]; exact k2, fun i hi => ?_, fun i j hi hj => ?_⟩
    · rw [h79 7 i (by omega) (by omega) (by omega), hR (86 + i) (by omega)]; exact k3 i hi
    · rw [hR (86 + i) (by omega), hR (86 + j) (by omega)]; exact k4 i j hi hj
  · obtain ⟨c1, c2⟩ := s3
    refine ⟨by rw [h10]; exact c1, fun q hq => ?_⟩
    rw [h10, hR (90 + 3 * q) (by omega), hR (91 + 3 * q) (by omega), hR (92 + 3 * q) (by omega), h79 8 q (by omega) (by omega) hq, h79 9 q (by omega) (by omega) hq]
    exact c2 q hq
