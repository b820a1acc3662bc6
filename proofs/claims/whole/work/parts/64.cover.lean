/-! ===== sheets: the component's table ===== -/
theorem msk1 : ∀ t, t < 64 → ∀ s, s < 64 → (nI t &&& (nI s ^^^ (-1)) = 0 ↔ t &&& s = t) := by decide +kernel
theorem msk2 : ∀ s, s < 64 → ∀ t, t < 64 → nI s &&& (nI t ^^^ (-1)) = nI (dif s t) := by decide +kernel
theorem dif_le (a b : Nat) : dif a b ≤ a := sub_le (dif_sub a b)
/-- one row of the component's table -/
def F1R (K : Nat → Prop) (F : Nat → Nat) (s v : Nat) : Prop :=
  (∀ t, t ≠ 0 → t &&& s = t → K t → v ≤ 1 + F (dif s t)) ∧ v ≤ 6 ∧ (v = 6 ∨ ∃ t, t ≠ 0 ∧ t &&& s = t ∧ K t ∧ v = 1 + F (dif s t))
theorem F1R.cong {K : Nat → Prop} {F F' : Nat → Nat} {s v : Nat} (h : F1R K F s v) (e : ∀ t, t < s → F' t = F t) : F1R K F' s v := by
  have lt : ∀ t, t ≠ 0 → t &&& s = t → dif s t < s := fun t h0 ht => dif_lt (by rw [Nat.and_comm, ht]; exact h0)
  obtain ⟨a, b, c⟩ := h
  refine ⟨fun t h0 ht hk => ?_, b, ?_⟩
  · rw [e _ (lt t h0 ht)]; exact a t h0 ht hk
  · rcases c with c | ⟨t, h0, ht, hk, hv⟩
    · exact .inl c
    · refine .inr ⟨t, h0, ht, hk, ?_⟩
      rw [e _ (lt t h0 ht)]; exact hv
theorem s_fewestOf {G : MG} {d : Nat} {Q : Int32 → Mm → Prop} {M : Mm} {c s : Nat} {K : Nat → Prop} {F : Nat → Nat} (hd : 1 ≤ d) (hL : Lay c M) (hs : s < 64) (hs0 : s ≠ 0)
    (hK : ∀ t, t ≠ 0 → t ≤ s → (K t → M.1 135 t = 1) ∧ (¬ K t → M.1 135 t = 0)) (hF : ∀ t, t < s → M.1 136 t = nI (F t) ∧ F t ≤ 6)
    (h : ∀ v, F1R K F s v → Q (nI v) M) : C G Y_X3_fewestOf d [.ref (G.b + 134), .int (nI s)] M (Ri Q) := by
  refine up1 (P := fun d => C G Y_X3_fewestOf d _ M (Ri Q)) (fun e => b_X3_fewestOf (d := e) hL ?_) hd
  have key : ∀ m t v, t + m = s + 1 → 1 ≤ t → v ≤ 6 → (∀ t', t' < t → t' ≠ 0 → t' &&& s = t' → K t' → v ≤ 1 + F (dif s t')) → (v = 6 ∨ ∃ t', t' ≠ 0 ∧ t' &&& s = t' ∧ K t' ∧ v = 1 + F (dif s t')) →
      L_X3_fewestOf_5 G e Q (nI s) (nI v) (nI t) M := by
    intro m
    induction m with
    | zero =>
      intro t v hi h1 h6 ha hb
      refine b_X3_fewestOf_5 hL ⟨fun _ => h v ⟨fun t' h0 ht hk => ha t' ?_ h0 ht hk, h6, hb⟩, fun g => absurd ?_ g⟩
      · have := sub_le ht; omega
      · rw [nI_ltI (by omega) (by omega)]; omega
    | succ m ih =>
      intro t v hi h1 h6 ha hb
      have ht64 : t < 64 := by omega
      refine b_X3_fewestOf_5 hL ⟨fun g => absurd g ?_, fun _ => ?_⟩
      · rw [nI_ltI (by omega) (by omega)]; omega
      · rw [nI_1, msk1 t ht64 s hs, msk2 s hs t ht64, nI_clamp (show t < 2 ^ 31 by omega), nI_clamp (show dif s t < 2 ^ 31 by have := dif_le s t; omega)]
        have skip : ¬ (t &&& s = t ∧ K t) → L_X3_fewestOf_5 G e Q (nI s) (nI v) (nI (t + 1)) M := fun hn =>
          ih (t + 1) v (by omega) (by omega) h6 (fun t' h1' h0 ht hk => by
            by_cases e1 : t' = t
            · subst e1; exact absurd ⟨ht, hk⟩ hn
            · exact ha t' (by omega) h0 ht hk) hb
        refine ⟨fun g => skip (fun g' => g g'.1), fun g => ⟨(inN ht64 (by omega)).1, fun g2 => skip (fun g' => ?_), fun g2 => ?_⟩⟩
        · rw [(hK t (by omega) (by omega)).1 g'.2] at g2; cases g2
        · have hk : K t := Classical.byContradiction fun hn => g2 ((hK t (by omega) (by omega)).2 hn)
          have hlt : dif s t < s := dif_lt (by rw [Nat.and_comm, g]; omega)
          obtain ⟨f1, f2⟩ := hF _ hlt
          refine ⟨(inN (by omega) (by omega)).1, fun v4 e4 => ?_⟩
          rw [f1, show (1 : Int32) = nI 1 from rfl, nI_add] at e4
          have hlti : nI (1 + F (dif s t)) < nI v ↔ 1 + F (dif s t) < v := nI_ltI (by omega) (by omega)
          by_cases hlt2 : 1 + F (dif s t) < v
          · rw [if_pos (hlti.mpr hlt2)] at e4; subst e4
            refine ih (t + 1) _ (by omega) (by omega) (by omega) (fun t' h1' h0 ht hk' => ?_) (.inr ⟨t, by omega, g, hk, rfl⟩)
            by_cases e1 : t' = t
            · subst e1; exact Nat.le_refl _
            · have := ha t' (by omega) h0 ht hk'; omega
          · rw [if_neg (fun h => hlt2 (hlti.mp h))] at e4; subst e4
            refine ih (t + 1) _ (by omega) (by omega) h6 (fun t' h1' h0 ht hk' => ?_) hb
            by_cases e1 : t' = t
            · subst e1; omega
            · exact ha t' (by omega) h0 ht hk'
  exact key s 1 6 (by omega) (by omega) (by omega) (fun t' h1 h0 => by omega) (.inl rfl)
theorem sh1 : ∀ p, p < 7 → (1 : Int32) <<< (nI p &&& 31) = nI (2 ^ p) ∧ 1 ≤ 2 ^ p ∧ 2 ^ p ≤ 64 := by decide +kernel
theorem bit_in : ∀ p, p < 7 → ∀ s, s < 2 ^ p → s ≠ 0 → ∃ i, i < p ∧ s.testBit i = true := by decide +kernel
theorem s_fewestPins {G : MG} {d : Nat} {Q : Int32 → Mm → Prop} {M : Mm} {c o0 p r : Nat} {X Y : Nat → Int} (hd : 2 ≤ d) (hL : Lay c M) (ho0 : sh o0 = some (.inr 2)) (hr0 : 2 ≤ o0 ∧ o0 + 2 ≤ 125) (hp6 : p ≤ 6) (hp : M.1 o0 6 = nI p)
    (hX : ∀ i, i < p → M.1 (o0 + 1) i = iI (X i) ∧ 0 ≤ X i ∧ X i ≤ 99) (hY : ∀ i, i < p → M.1 (o0 + 2) i = iI (Y i) ∧ 0 ≤ Y i ∧ Y i ≤ 99) (hr : r ≤ 200)
    (h : ∀ F N, F 0 = 0 → (∀ s, s < 2 ^ p → s ≠ 0 → F1R (RP X Y p r) F s (F s)) → Ess M N → Q (nI (F (2 ^ p - 1))) N) : C G Y_X3_fewestPins d [.ref (G.b + 134), .ref (G.b + o0), .int (nI r)] M (Ri Q) := by
  refine up1 (P := fun d => C G Y_X3_fewestPins d _ M (Ri Q)) (fun e => b_X3_fewestPins (d := e + 1) hL ho0 ?_) hd
  obtain ⟨s1, s2, s3⟩ := sh1 p (by omega)
  rw [hp, s1]
  have es : ∀ N k v, (k = 135 ∨ k = 136) → Ess M N → ∀ j, Ess M (sI N k j v) := fun N k v hk hE j => hE.tr (ess_sI (by omega))
  have key2 : ∀ m s (N : Mm) F, s + m = 2 ^ p → 1 ≤ s → Ess M N → (∀ t, t ≠ 0 → t < 2 ^ p → (RP X Y p r t → N.1 135 t = 1) ∧ (¬ RP X Y p r t → N.1 135 t = 0)) → F 0 = 0 →
      (∀ t, t < s → N.1 136 t = nI (F t) ∧ F t ≤ 6) → (∀ t, t < s → t ≠ 0 → F1R (RP X Y p r) F t (F t)) → L_X3_fewestPins_46 G (e + 1) Q (nI (2 ^ p)) (nI s) N := by
    intro m
    induction m with
    | zero =>
      intro s N F hi h1 hE hK F0 hF hR
      have hs : s = 2 ^ p := by omega
      subst hs
      refine b_X3_fewestPins_46 (lay_of hL hE.1) ⟨fun _ => ?_, fun g => absurd ?_ g⟩
      · rw [show nI (2 ^ p) - 1 = nI (2 ^ p - 1) by rw [show (1 : Int32) = nI 1 from rfl, pk_sub (by omega)]]
        refine ⟨(inN (by omega) (by omega)).1, ?_⟩
        rw [nI_clamp (by omega), (hF _ (by omega)).1]
        exact h F N F0 hR hE
      · rw [nI_leI (by omega) (by omega)]; omega
    | succ m ih =>
      intro s N F hi h1 hE hK F0 hF hR
      refine b_X3_fewestPins_46 (lay_of hL hE.1) ⟨fun g => absurd g ?_, fun _ => ?_⟩
      · rw [nI_leI (by omega) (by omega)]; omega
      · refine s_fewestOf (K := RP X Y p r) (F := F) (by omega) (lay_of hL hE.1) (by omega) (by omega) (fun t h0 ht => hK t h0 (by omega)) hF (fun v hv => ⟨rfl, (inN (by omega) (by omega)).1, fun M4 e4 => ?_⟩)
        subst e4
        rw [nI_1, nI_clamp (by omega)]
        refine ih (s + 1) _ (fun t => if t = s then v else F t) (by omega) (by omega) (es _ _ _ (.inr rfl) hE _) (fun t h0 ht => ?_) ?_ (fun t ht => ?_) (fun t ht h0 => ?_)
        · rw [rd_sI, if_neg (by omega)]; exact hK t h0 ht
        · show (if 0 = s then v else F 0) = 0
          rw [if_neg (by omega)]; exact F0
        · show (sI N 136 s (nI v)).1 136 t = nI (if t = s then v else F t) ∧ (if t = s then v else F t) ≤ 6
          by_cases e1 : t = s
          · rw [rd_sI, if_pos ⟨rfl, e1⟩, if_pos e1]; exact ⟨rfl, hv.2.1⟩
          · rw [rd_sI, if_neg (fun h => e1 h.2), if_neg e1]; exact hF t (by omega)
        · show F1R _ _ t (if t = s then v else F t)
          by_cases e1 : t = s
          · subst e1
            rw [if_pos rfl]
            exact hv.cong (fun t' ht' => if_neg (by omega))
          · rw [if_neg e1]
            exact (hR t (by omega) h0).cong (fun t' ht' => if_neg (by omega))
  have key1 : ∀ m s (N : Mm), s + m = 2 ^ p → 1 ≤ s → Ess M N → (∀ t, t ≠ 0 → t < s → (RP X Y p r t → N.1 135 t = 1) ∧ (¬ RP X Y p r t → N.1 135 t = 0)) → L_X3_fewestPins_10 G (e + 1) Q o0 (nI r) (nI (2 ^ p)) (nI s) N := by
    intro m
    induction m with
    | zero =>
      intro s N hi h1 hE hK
      have hs : s = 2 ^ p := by omega
      subst hs
      refine b_X3_fewestPins_10 (lay_of hL hE.1) ho0 ⟨fun _ M2 e2 => ?_, fun g => absurd ?_ g⟩
      · subst e2
        refine key2 (2 ^ p - 1) 1 _ (fun _ => 0) (by omega) (by omega) (es _ _ _ (.inr rfl) hE _) (fun t h0 ht => ?_) rfl (fun t ht => ?_) (fun t ht h0 => by omega)
        · rw [rd_sI, if_neg (by omega)]; exact hK t h0 ht
        · have : t = 0 := by omega
          subst this
          exact ⟨by rw [rd_sI, if_pos ⟨rfl, rfl⟩]; rfl, by omega⟩
      · rw [nI_leI (by omega) (by omega)]; omega
    | succ m ih =>
      intro s N hi h1 hE hK
      have eo : ∀ j, j ≤ 2 → N.1 (o0 + j) = M.1 (o0 + j) := fun j hj => hE.2.1 _ (by omega) (by omega)
      refine b_X3_fewestPins_10 (lay_of hL hE.1) ho0 ⟨fun g => absurd g ?_, fun _ => ?_⟩
      · rw [nI_leI (by omega) (by omega)]; omega
      · have fin : ∀ b : Int32, (b = 0 ∨ b = 1) → (RP X Y p r s → b = 1) → (¬ RP X Y p r s → b = 0) → L_X3_fewestPins_10 G (e + 1) Q o0 (nI r) (nI (2 ^ p)) (nI (s + 1)) (sI N 135 s b) := by
          intro b _ b1 b0
          refine ih (s + 1) _ (by omega) (by omega) (es _ _ _ (.inl rfl) hE _) (fun t h0 ht => ?_)
          by_cases e1 : t = s
          · subst e1
            rw [rd_sI, if_pos ⟨rfl, rfl⟩]; exact ⟨b1, b0⟩
          · rw [rd_sI, if_neg (fun h => e1 h.2)]; exact hK t h0 (by omega)
        refine s_reachesAll (p := p) (X := X) (Y := Y) (by omega) (lay_of hL hE.1) ho0 hp6 (by rw [show N.1 o0 = M.1 o0 from eo 0 (by omega)]; exact hp) (fun i hi => by rw [eo 1 (by omega)]; exact hX i hi) (fun i hi => by rw [eo 2 (by omega)]; exact hY i hi) (by omega) (bit_in p (by omega) s (by omega) (by omega)) hr (fun hn => ?_) (fun hy => ?_)
        · refine ⟨rfl, (inN (by omega) (by omega)).1, fun M5 e5 => ?_⟩
          subst e5
          rw [nI_1, nI_clamp (by omega)]
          exact fin 0 (.inl rfl) (fun h => absurd h hn) (fun _ => rfl)
        · refine ⟨rfl, (inN (by omega) (by omega)).1, fun M5 e5 => ?_⟩
          subst e5
          rw [nI_1, nI_clamp (by omega)]
          exact fin 1 (.inr rfl) (fun _ => rfl) (fun h => absurd hy h)
  exact key1 (2 ^ p - 1) 1 M (by omega) (by omega) (Ess.rf M) (fun t h0 ht => by omega)
