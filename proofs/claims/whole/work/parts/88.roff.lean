/-! ===== office: the component reads all ===== -/
abbrev OffR := Except Nat Nat × Nat × Nat × (Nat → Nat → Nat) × (Nat → MapD)
noncomputable def oX (T : Nat → Nat) (n : Nat) : Nat → Except Nat Nat → Nat → Nat → List Nat → (Nat → Nat → Nat) → (Nat → MapD) → OffR
  | 0, x, na, nc, _, R, Mp => (x, na, nc, R, Mp)
  | _ + 1, .error e, na, nc, _, R, Mp => (.error e, na, nc, R, Mp)
  | m + 1, .ok j, na, nc, nm, R, Mp => ifc (soF T n (tbF T n j) = 0) (.ok j, na, nc, R, Mp)
      (ifc (isW T n j 0) (ifc (na = 6) (fl T n 5 (.ok j), na, nc, R, Mp) (oX T n m (aE T n nm j) (na + 1) nc (nm ++ [j + 1]) (fun a => if a = na then aRow T n nm j else R a) Mp))
        (ifc (isW T n j 7) (ifc (nc = 7) (fl T n 5 (.ok j), na, nc, R, Mp) (oX T n m (mE T n nm j) na (nc + 1) (nm ++ [j + 1]) R (fun a => if a = nc then mRow T n nm j else Mp a)))
          (fl T n 1 (.ok j), na, nc, R, Mp)))
theorem oX_err {T : Nat → Nat} {n e na nc : Nat} {nm : List Nat} {R : Nat → Nat → Nat} {Mp : Nat → MapD} : ∀ m, oX T n m (.error e) na nc nm R Mp = (.error e, na, nc, R, Mp)
  | 0 => rfl
  | _ + 1 => rfl
theorem oX_end {T : Nat → Nat} {n m j na nc : Nat} {nm : List Nat} {R : Nat → Nat → Nat} {Mp : Nat → MapD} (h : soF T n (tbF T n j) = 0) : oX T n (m + 1) (.ok j) na nc nm R Mp = (.ok j, na, nc, R, Mp) := ifc_pos h
theorem oX_arm6 {T : Nat → Nat} {n m j na nc : Nat} {nm : List Nat} {R : Nat → Nat → Nat} {Mp : Nat → MapD} (h : isW T n j 0) (h6 : na = 6) : oX T n (m + 1) (.ok j) na nc nm R Mp = (fl T n 5 (.ok j), na, nc, R, Mp) :=
  (ifc_neg (fun g => by have := h.1; omega)).trans ((ifc_pos h).trans (ifc_pos h6))
theorem oX_arm {T : Nat → Nat} {n m j na nc : Nat} {nm : List Nat} {R : Nat → Nat → Nat} {Mp : Nat → MapD} (h : isW T n j 0) (h6 : na ≠ 6) : oX T n (m + 1) (.ok j) na nc nm R Mp = oX T n m (aE T n nm j) (na + 1) nc (nm ++ [j + 1]) (fun a => if a = na then aRow T n nm j else R a) Mp :=
  (ifc_neg (fun g => by have := h.1; omega)).trans ((ifc_pos h).trans (ifc_neg h6))
theorem oX_map7 {T : Nat → Nat} {n m j na nc : Nat} {nm : List Nat} {R : Nat → Nat → Nat} {Mp : Nat → MapD} (h : isW T n j 7) (h7 : nc = 7) : oX T n (m + 1) (.ok j) na nc nm R Mp = (fl T n 5 (.ok j), na, nc, R, Mp) :=
  (ifc_neg (fun g => by have := h.1; omega)).trans ((ifc_neg (fun g => by have := isW_un (by omega) (by omega) g h; omega)).trans ((ifc_pos h).trans (ifc_pos h7)))
theorem oX_map {T : Nat → Nat} {n m j na nc : Nat} {nm : List Nat} {R : Nat → Nat → Nat} {Mp : Nat → MapD} (h : isW T n j 7) (h7 : nc ≠ 7) : oX T n (m + 1) (.ok j) na nc nm R Mp = oX T n m (mE T n nm j) na (nc + 1) (nm ++ [j + 1]) R (fun a => if a = nc then mRow T n nm j else Mp a) :=
  (ifc_neg (fun g => by have := h.1; omega)).trans ((ifc_neg (fun g => by have := isW_un (by omega) (by omega) g h; omega)).trans ((ifc_pos h).trans (ifc_neg h7)))
theorem oX_bad {T : Nat → Nat} {n m j na nc : Nat} {nm : List Nat} {R : Nat → Nat → Nat} {Mp : Nat → MapD} (h : soF T n (tbF T n j) ≠ 0) (h0 : ¬ isW T n j 0) (h7 : ¬ isW T n j 7) : oX T n (m + 1) (.ok j) na nc nm R Mp = (fl T n 1 (.ok j), na, nc, R, Mp) :=
  (ifc_neg h).trans ((ifc_neg h0).trans (ifc_neg h7))
/-- rows that were read without a fault -/
def RWk (T : Nat → Nat) (n na nc : Nat) (R : Nat → Nat → Nat) (Mp : Nat → MapD) : Prop :=
  na ≤ 6 ∧ nc ≤ 7 ∧ (∀ a, a < na → ∃ nm j k, R a = aRow T n nm j ∧ aE T n nm j = .ok k) ∧ ∀ m, m < nc → ∃ nm j k, Mp m = mRow T n nm j ∧ mE T n nm j = .ok k
def OffX (T : Nat → Nat) (n : Nat) (N : Mm) (o na nc : Nat) (nm : List Nat) (R : Nat → Nat → Nat) (Mp : Nat → MapD) : Prop :=
  N.1 o 2 = nI na ∧ N.1 o 3 = nI nc ∧ (∀ a, a < na → AX N (o + 3 + 2 * a) (R a)) ∧ (∀ m, m < nc → MX N (o + 15 + 3 * m) (Mp m)) ∧ NmX T n N o na nc nm
def FX (o : Nat) (N N' : Mm) : Prop := N'.2.2 = N.2.2 ∧ (∀ a, a ≠ 1 → (a < o ∨ o + 35 < a) → N'.1 a = N.1 a) ∧ N'.1 1 0 = N.1 1 0 ∧ ∀ a, a ≠ 1 → (a < o ∨ o + 35 < a) → N'.2.1 a = N.2.1 a
theorem FX.rf (o : Nat) (N : Mm) : FX o N N := ⟨rfl, fun _ _ _ => rfl, rfl, fun _ _ _ => rfl⟩
theorem FX.tr {o : Nat} {N N' P : Mm} (h : FX o N N') (k : FX o N' P) : FX o N P := ⟨k.1.trans h.1, fun a h1 h2 => (k.2.1 a h1 h2).trans (h.2.1 a h1 h2), k.2.2.1.trans h.2.2.1, fun a h1 h2 => (k.2.2.2 a h1 h2).trans (h.2.2.2 a h1 h2)⟩
theorem FT.fx {o : Nat} {N N' : Mm} (h : FT N N') : FX o N N' := ⟨h.1, fun a h1 _ => h.2.1 a h1, h.2.2.1, fun a h1 _ => h.2.2.2 a h1⟩
theorem FO.fx {o q w : Nat} {N N' : Mm} (h : FO o q w N N') (h1 : o ≤ q) (h2 : q + w ≤ o + 35) : FX o N N' := ⟨h.1, fun a g1 g2 => h.2.1 a g1 (by omega) (by omega), h.2.2.1, fun a g1 g2 => h.2.2.2 a g1 (by omega)⟩
theorem FX.si {o k : Nat} {N : Mm} {v : Int32} (ho : 2 ≤ o) : FX o N (sI N o k v) := ⟨rfl, fun a _ h2 => sI_ne (by omega), by rw [rd_sI, if_neg (by omega)], fun _ _ _ => rfl⟩
theorem TpX.fx {T : Nat → Nat} {n o : Nat} {N N' : Mm} (h : TpX T n N) (k : FX o N N') (ho : 3 ≤ o) : TpX T n N' := by
  unfold TpX
  rw [k.2.2.1, k.2.1 2 (by omega) (by omega)]
  exact h
theorem AX.fr {N N' : Mm} {q : Nat} {r : Nat → Nat} (h : AX N q r) (e0 : N'.1 q = N.1 q) (e1 : N'.1 (q + 1) = N.1 (q + 1)) : AX N' q r := by
  obtain ⟨h1, h2⟩ := h
  refine ⟨fun kv hk => by rw [e0]; exact h1 kv hk, ?_⟩
  unfold AF
  rw [e0, e1]
  exact h2
theorem MX.fr {N N' : Mm} {q : Nat} {r : MapD} (h : MX N q r) (e0 : N'.1 q = N.1 q) (e1 : N'.1 (q + 1) = N.1 (q + 1)) (e2 : N'.1 (q + 2) = N.1 (q + 2)) : MX N' q r := by
  obtain ⟨h1, h2⟩ := h
  refine ⟨fun kv hk => by rw [e0]; exact h1 kv hk, ?_⟩
  unfold PC
  rw [e0, e1, e2]
  exact h2
/-- what is known of the told office behind all -/
def OutX (N : Mm) (o : Nat) (r : Int32) (res : OffR) : Prop := (∀ e, res.1 = .error e → r = nI e ∧ e ≠ 0 ∧ e < 2 ^ 31) ∧ ∀ j, res.1 = .ok j → r = 0 ∧ N.1 o 2 = nI res.2.1 ∧ N.1 o 3 = nI res.2.2.1 ∧ (∀ a, a < res.2.1 → AX N (o + 3 + 2 * a) (res.2.2.2.1 a)) ∧ ∀ m, m < res.2.2.1 → MX N (o + 15 + 3 * m) (res.2.2.2.2 m)
theorem x_readOffice {G : MG} {d : Nat} {Q : Int32 → Mm → Prop} {T : Nat → Nat} {n c o : Nat} {N : Mm} {R0 : Nat → Nat → Nat} {M0 : Nat → MapD} (hd : 10 ≤ d) (hS : Str G) (hL : Lay c N) (hT : TpX T n N) (ho : o = 3 ∨ o = 39)
    (h : ∀ r N', FX o N N' → OutX N' o r (oX T n 14 (.ok 0) 0 0 [] R0 M0) → (∀ j, (oX T n 14 (.ok 0) 0 0 [] R0 M0).1 = .ok j → RWk T n (oX T n 14 (.ok 0) 0 0 [] R0 M0).2.1 (oX T n 14 (.ok 0) 0 0 [] R0 M0).2.2.1 (oX T n 14 (.ok 0) 0 0 [] R0 M0).2.2.2.1 (oX T n 14 (.ok 0) 0 0 [] R0 M0).2.2.2.2) → Q r N') : C G Y_X10_readOffice d [.ref (G.b + 1), .ref (G.b + o)] N (Ri Q) := by
  obtain ⟨s0, s1, s2, s3, s4, s5, s6, s7⟩ := hS.2.1
  have F := hS.1
  have hn := hT.2.1
  have ho3 : 3 ≤ o := by omega
  refine up1 (P := fun d => C G Y_X10_readOffice d _ N (Ri Q)) (fun e => b_X10_readOffice (d := e + 9) hL s0 s7 (sh_of ho) (fun M1 e1 M2 e2 M3 e3 M4 e4 => ?_)) hd
  have key : ∀ m t (P : Mm) (x : Except Nat Nat) na nc (nm : List Nat) (R : Nat → Nat → Nat) (Mp : Nat → MapD), t + m = 14 → FX o N P → Tk T n P x → (∀ j, x = .ok j → na + nc = t ∧ OffX T n P o na nc nm R Mp ∧ RWk T n na nc R Mp) →
      (∀ r N', FX o N N' → OutX N' o r (oX T n m x na nc nm R Mp) → (∀ j, (oX T n m x na nc nm R Mp).1 = .ok j → RWk T n (oX T n m x na nc nm R Mp).2.1 (oX T n m x na nc nm R Mp).2.2.1 (oX T n m x na nc nm R Mp).2.2.2.1 (oX T n m x na nc nm R Mp).2.2.2.2) → Q r N') → L_X10_readOffice_26 G (e + 9) Q o (nI t) P := by
    intro m
    induction m with
    | zero =>
      intro t P x na nc nm R Mp ht hF hx hA hQ
      have : t = 14 := by omega
      subst this
      refine b_X10_readOffice_26 (lay_of hL hF.1) s0 s7 (sh_of ho) ⟨fun _ => ?_, fun g => absurd (by decide) g⟩
      cases x with
      | error z =>
        rw [hx.1]
        exact hQ _ P hF ⟨fun e' he' => by cases he'; exact ⟨rfl, hx.2⟩, fun j hj => by cases hj⟩ (fun j hj => by cases hj)
      | ok j =>
        obtain ⟨h1, -, h3, h4, -⟩ := hA j rfl
        omega
    | succ m ih =>
      intro t P x na nc nm R Mp ht hF hx hA hQ
      have hLP := lay_of hL hF.1
      have hTP := hT.fx hF ho3
      refine b_X10_readOffice_26 hLP s0 s7 (sh_of ho) ⟨fun g => ?_, fun _ => ?_⟩
      · rw [show (13 : Int32) = nI 13 from rfl, nI_ltI (by omega) (by omega)] at g; omega
      · cases x with
        | error z =>
          refine ⟨fun _ => ?_, fun g => ?_⟩
          · rw [hx.1]
            exact hQ _ P hF (by rw [oX_err]; exact ⟨fun e' he' => by cases he'; exact ⟨rfl, hx.2⟩, fun j hj => by cases hj⟩) (fun j hj => by rw [oX_err] at hj; cases hj)
          · rw [hx.1] at g
            exact absurd g (nI_ne0 (by have := hx.2.1; omega) hx.2.2)
        | ok j =>
          obtain ⟨hsum, ⟨x1, x2, x3, x4, x5⟩, w1, w2, w3, w4⟩ := hA j rfl
          obtain ⟨k1, k2, k3, k4, k5, k6, k7⟩ := id hx
          have sl : soF T n (tbF T n j) ≤ 4 := soP_le T n (plF T n (tbF T n j))
          refine ⟨fun g => absurd hx.1 g, fun _ => ?_⟩
          rw [k4, hx.1, show nI (soF T n (tbF T n j)) = 0 ↔ soF T n (tbF T n j) = 0 by rw [show (0 : Int32) = nI 0 from rfl, nI_eq (by omega) (by omega)]]
          refine ⟨fun g => ?_, fun g => ?_⟩
          · refine hQ _ P hF ?_ (fun j' hj' => ?_)
            · rw [oX_end g]
              exact ⟨fun e' he' => (by cases he'), fun j' hj' => ⟨rfl, x1, x2, x3, x4⟩⟩
            · rw [oX_end g]; exact ⟨w1, w2, w3, w4⟩
          · -- behind a fault
            have lost : ∀ z (P' : Mm), FX o N P' → Tk T n P' (.error z) → oX T n (m + 1) (.ok j) na nc nm R Mp = (.error z, na, nc, R, Mp) → L_X10_readOffice_26 G (e + 9) Q o (nI t + 1) P' := by
              intro z P' hF' hx' he
              rw [nI_1]
              refine ih (t + 1) P' (.error z) na nc nm R Mp (by omega) hF' hx' (fun j' hj' => by cases hj') (fun r N' g1 g2 g3 => hQ r N' g1 ?_ (fun j' hj' => by rw [he] at hj'; cases hj'))
              rw [he]; rw [oX_err] at g2; exact g2
            refine x_readsO 0 (by omega) (by omega) F hLP hx (fun hW => ⟨rfl, fun q => (by cases q), fun _ => ?_⟩) (fun hW => ⟨rfl, fun _ => ?_, fun q => absurd rfl q⟩)
            · by_cases h6 : na = 6
              · have he := oX_arm6 (m := m) (nc := nc) (nm := nm) (R := R) (Mp := Mp) hW h6
                refine up1 (P := fun d => C G Y_X10_readArm d _ P (Rv _)) (fun e' => b_X10_readArm (d := e' + 8) hLP s2 s3 s4 s5 s6 (sh_of ho) ?_) (show 9 ≤ e + 9 by omega)
                rw [x1, show (6 : Int32) = nI 6 from rfl, nI_ltI (by omega) (by omega)]
                refine ⟨fun q => by omega, fun _ => x_fail (k := 5) (by omega) hLP hn (by omega) hx (fun P' hF' hx' => ⟨hF'.1, hF'.1, lost _ P' (hF.tr hF'.fx) hx' he⟩)⟩
              · have he := oX_arm (m := m) (nc := nc) (nm := nm) (R := R) (Mp := Mp) hW h6
                refine x_readArm (by omega) hS hLP hTP ho x1 (by omega) x2 w2 x5 hx (fun P' hO c2 c3 kx hv => ⟨hO.1, ?_⟩)
                rw [nI_1]
                have hFP : FX o N P' := hF.tr (hO.fx (by omega) (by omega))
                refine ih (t + 1) P' (aE T n nm j) (na + 1) nc (nm ++ [j + 1]) _ Mp (by omega) hFP kx (fun j' hj' => ⟨by omega, ⟨c2, c3, fun a ha => ?_, fun b hb => ?_, ?_⟩, by omega, w2, fun a ha => ?_, w4⟩) (fun r N' g1 g2 g3 => hQ r N' g1 (by rw [he]; exact g2) (fun j' hj' => by rw [he] at hj' ⊢; exact g3 j' hj'))
                · by_cases e1 : a = na
                  · subst e1; rw [if_pos rfl]; exact (hv j' hj').1
                  · rw [if_neg e1]
                    exact (x3 a (by omega)).fr (hO.2.1 _ (by omega) (by omega) (by omega)) (hO.2.1 _ (by omega) (by omega) (by omega))
                · exact (x4 b hb).fr (hO.2.1 _ (by omega) (by omega) (by omega)) (hO.2.1 _ (by omega) (by omega) (by omega)) (hO.2.1 _ (by omega) (by omega) (by omega))
                · obtain ⟨y1, y2, y3⟩ := x5
                  obtain ⟨-, -, -, -, -, -, -, -, -, -, sj, -⟩ := aE_ok hj'
                  refine ⟨fun a ha => ?_, fun b hb => ?_, fun i hi => ?_⟩
                  · by_cases e1 : a = na
                    · subst e1; exact ⟨j + 1, List.mem_append_right _ (List.mem_singleton.mpr rfl), (hv j' hj').2⟩
                    · obtain ⟨i, hi, hc⟩ := y1 a (by omega)
                      exact ⟨i, List.mem_append_left _ hi, by rw [hO.2.2.2 _ (by omega) (by omega)]; exact hc⟩
                  · obtain ⟨i, hi, hc⟩ := y2 b hb
                    exact ⟨i, List.mem_append_left _ hi, by rw [hO.2.2.2 _ (by omega) (by omega)]; exact hc⟩
                  · rcases List.mem_append.mp hi with hi | hi
                    · refine ⟨(y3 i hi).1, ?_⟩
                      rcases (y3 i hi).2 with ⟨a, ha, hc⟩ | ⟨b, hb, hc⟩
                      · exact .inl ⟨a, by omega, by rw [hO.2.2.2 _ (by omega) (by omega)]; exact hc⟩
                      · exact .inr ⟨b, hb, by rw [hO.2.2.2 _ (by omega) (by omega)]; exact hc⟩
                    · have := List.mem_singleton.mp hi
                      subst this
                      exact ⟨sj, .inl ⟨na, by omega, (hv j' hj').2⟩⟩
                · by_cases e1 : a = na
                  · subst e1; rw [if_pos rfl]; exact ⟨nm, j, j', rfl, hj'⟩
                  · rw [if_neg e1]; exact w3 a (by omega)
            · refine x_readsO 7 (by omega) (by omega) F hLP hx (fun hW7 => ⟨rfl, fun q => (by cases q), fun _ => ?_⟩) (fun hW7 => ⟨rfl, fun _ => ?_, fun q => absurd rfl q⟩)
              · by_cases h7 : nc = 7
                · have he := oX_map7 (m := m) (na := na) (nm := nm) (R := R) (Mp := Mp) hW7 h7
                  obtain ⟨s8, s9, s10, s11, -, -, -, -⟩ := hS.2.2
                  refine up1 (P := fun d => C G Y_X10_readChart d _ P (Rv _)) (fun e' => b_X10_readChart (d := e' + 8) hLP s8 s9 s10 (sh_of ho) ?_) (show 9 ≤ e + 9 by omega)
                  rw [x2, show (7 : Int32) = nI 7 from rfl, nI_ltI (by omega) (by omega)]
                  refine ⟨fun q => by omega, fun _ => x_fail (k := 5) (by omega) hLP hn (by omega) hx (fun P' hF' hx' => ⟨hF'.1, hF'.1, lost _ P' (hF.tr hF'.fx) hx' he⟩)⟩
                · have he := oX_map (m := m) (na := na) (nm := nm) (R := R) (Mp := Mp) hW7 h7
                  refine x_readChart (by omega) hS hLP hTP ho x1 w1 x2 (by omega) x5 hx (fun P' hO c2 c3 kx hv => ⟨hO.1, ?_⟩)
                  rw [nI_1]
                  have hFP : FX o N P' := hF.tr (hO.fx (by omega) (by omega))
                  refine ih (t + 1) P' (mE T n nm j) na (nc + 1) (nm ++ [j + 1]) R _ (by omega) hFP kx (fun j' hj' => ⟨by omega, ⟨c2, c3, fun a ha => ?_, fun b hb => ?_, ?_⟩, w1, by omega, w3, fun b hb => ?_⟩) (fun r N' g1 g2 g3 => hQ r N' g1 (by rw [he]; exact g2) (fun j' hj' => by rw [he] at hj' ⊢; exact g3 j' hj'))
                  · exact (x3 a ha).fr (hO.2.1 _ (by omega) (by omega) (by omega)) (hO.2.1 _ (by omega) (by omega) (by omega))
                  · by_cases e1 : b = nc
                    · subst e1; rw [if_pos rfl]; exact (hv j' hj').1
                    · rw [if_neg e1]
                      exact (x4 b (by omega)).fr (hO.2.1 _ (by omega) (by omega) (by omega)) (hO.2.1 _ (by omega) (by omega) (by omega)) (hO.2.1 _ (by omega) (by omega) (by omega))
                  · obtain ⟨y1, y2, y3⟩ := x5
                    obtain ⟨-, -, -, -, -, sj, -⟩ := mE_ok hj'
                    refine ⟨fun a ha => ?_, fun b hb => ?_, fun i hi => ?_⟩
                    · obtain ⟨i, hi, hc⟩ := y1 a ha
                      exact ⟨i, List.mem_append_left _ hi, by rw [hO.2.2.2 _ (by omega) (by omega)]; exact hc⟩
                    · by_cases e1 : b = nc
                      · subst e1; exact ⟨j + 1, List.mem_append_right _ (List.mem_singleton.mpr rfl), (hv j' hj').2⟩
                      · obtain ⟨i, hi, hc⟩ := y2 b (by omega)
                        exact ⟨i, List.mem_append_left _ hi, by rw [hO.2.2.2 _ (by omega) (by omega)]; exact hc⟩
                    · rcases List.mem_append.mp hi with hi | hi
                      · refine ⟨(y3 i hi).1, ?_⟩
                        rcases (y3 i hi).2 with ⟨a, ha, hc⟩ | ⟨b, hb, hc⟩
                        · exact .inl ⟨a, ha, by rw [hO.2.2.2 _ (by omega) (by omega)]; exact hc⟩
                        · exact .inr ⟨b, by omega, by rw [hO.2.2.2 _ (by omega) (by omega)]; exact hc⟩
                      · have := List.mem_singleton.mp hi
                        subst this
                        exact ⟨sj, .inr ⟨nc, by omega, (hv j' hj').2⟩⟩
                  · by_cases e1 : b = nc
                    · subst e1; rw [if_pos rfl]; exact ⟨nm, j, j', rfl, hj'⟩
                    · rw [if_neg e1]; exact w4 b (by omega)
              · have he := oX_bad (m := m) (na := na) (nc := nc) (nm := nm) (R := R) (Mp := Mp) g hW hW7
                exact x_fail (k := 1) (by omega) hLP hn (by omega) hx (fun P' hF' hx' => ⟨hF'.1, lost _ P' (hF.tr hF'.fx) hx' he⟩)
  have hF4 : FX o N M4 := by subst e4; subst e3; subst e2; subst e1; exact (FX.si (by omega)).tr ((FX.si (by omega)).tr ((FT.si (by omega)).fx.tr (FT.si (by omega)).fx))
  have r3 : M4.1 1 3 = nI 0 := by subst e4; rw [rd_sI, if_pos ⟨rfl, rfl⟩]; rfl
  have r6 : M4.1 1 6 = 0 := by subst e4; rw [rd_sI, if_neg (by omega)]; subst e3; rw [rd_sI, if_pos ⟨rfl, rfl⟩]
  have ro : M4.1 o 2 = nI 0 ∧ M4.1 o 3 = nI 0 := by
    subst e4; subst e3
    rw [sI_ne (show o ≠ 1 by omega), sI_ne (show o ≠ 1 by omega)]
    subst e2
    refine ⟨?_, ?_⟩
    · rw [rd_sI, if_neg (by omega)]; subst e1; rw [rd_sI, if_pos ⟨rfl, rfl⟩]; rfl
    · rw [rd_sI, if_pos ⟨rfl, rfl⟩]; rfl
  refine s_advance (b := 0) (by omega) (lay_of hL hF4.1) (hT.fx hF4 ho3) r3 (by omega) (fun N' f1 f2 f3 => ⟨f1.1, key 14 0 N' (.ok 0) 0 0 [] R0 M0 (by omega) (hF4.tr f1.fx) ⟨f2.trans r6, f3⟩ (fun j hj => ⟨rfl, ⟨?_, ?_, fun a ha => by omega, fun b hb => by omega, fun a ha => by omega, fun b hb => by omega, fun i hi => by cases hi⟩, by omega, by omega, fun a ha => by omega, fun b hb => by omega⟩) h⟩)
  · rw [f1.2.1 o (by omega)]; exact ro.1
  · rw [f1.2.1 o (by omega)]; exact ro.2
