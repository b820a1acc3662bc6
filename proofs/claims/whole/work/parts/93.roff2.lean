/-! ===== office: the reference reads all ===== -/
def OffM (T : Nat → Nat) (n : Nat) (N : Mm) (na nc : Nat) (nm : List Nat) (R : Nat → Nat → Nat) (Mp : Nat → MapD) : Prop :=
  N.1 153 110 = nI na ∧ N.1 154 120 = nI nc ∧ (∀ a, a < na → RX N (111 + 14 * a) (R a)) ∧ (∀ b, b < nc → MRX N (121 + 16 * b) (Mp b)) ∧ NmR T n N nm ∧ nm.length = na + nc ∧ (∀ a k, na ≤ a → a < 6 → k < 14 → N.1 153 (111 + 14 * a + k) = 0) ∧ (∀ k, 195 ≤ k → k < 220 → N.1 153 k = 0) ∧ ∀ b k, nc ≤ b → b < 7 → k < 16 → N.1 154 (121 + 16 * b + k) = 0
def FM2 (N N' : Mm) : Prop := N'.2.2 = N.2.2 ∧ (∀ o, o ≠ 147 → o ≠ 153 → o ≠ 154 → N'.1 o = N.1 o) ∧ N'.1 147 2 = N.1 147 2 ∧ (∀ k, (k < 110 ∨ 220 ≤ k) → N'.1 153 k = N.1 153 k) ∧ (∀ k, k < 120 → N'.1 154 k = N.1 154 k) ∧ ∀ o, o ≠ 155 → N'.2.1 o = N.2.1 o
theorem FM2.rf (N : Mm) : FM2 N N := ⟨rfl, fun _ _ _ _ => rfl, rfl, fun _ _ => rfl, fun _ _ => rfl, fun _ _ => rfl⟩
theorem FM2.tr {N N' P : Mm} (h : FM2 N N') (k : FM2 N' P) : FM2 N P := ⟨k.1.trans h.1, fun o h1 h2 h3 => (k.2.1 o h1 h2 h3).trans (h.2.1 o h1 h2 h3), k.2.2.1.trans h.2.2.1, fun q h1 => (k.2.2.2.1 q h1).trans (h.2.2.2.1 q h1), fun q h1 => (k.2.2.2.2.1 q h1).trans (h.2.2.2.2.1 q h1), fun o ho => (k.2.2.2.2.2 o ho).trans (h.2.2.2.2.2 o ho)⟩
theorem FR.f2 {N N' : Mm} (h : FR N N') : FM2 N N' := ⟨h.1, fun o h1 _ _ => h.2.1 o h1, h.2.2.1 2 (by omega) (by omega), fun k _ => by rw [h.2.1 153 (by omega)], fun k _ => by rw [h.2.1 154 (by omega)], fun o _ => by rw [h.2.2.2]⟩
theorem FRA.f2 {i0 : Nat} {N N' : Mm} (h : FRA i0 N N') (hi : 111 ≤ i0 ∧ i0 ≤ 181) : FM2 N N' := ⟨h.1, fun o h1 h2 _ => h.2.1 o h1 h2, h.2.2.1 2 (by omega) (by omega) (by omega), fun k hk => h.2.2.2.1 k (by omega) (by omega), fun k _ => by rw [h.2.1 154 (by omega) (by omega)], h.2.2.2.2⟩
theorem FRM.f2 {i0 : Nat} {N N' : Mm} (h : FRM i0 N N') (hi : 121 ≤ i0) : FM2 N N' := ⟨h.1, fun o h1 _ h3 => h.2.1 o h1 h3, h.2.2.1 2 (by omega) (by omega) (by omega), fun k _ => by rw [h.2.1 153 (by omega) (by omega)], fun k hk => h.2.2.2.1 k (by omega) (by omega), h.2.2.2.2⟩
theorem RTs.f2 {T : Nat → Nat} {n m : Nat} {N N' : Mm} (h : RTs T n m N) (k : FM2 N N') : RTs T n m N' := h.fr (k.2.1 149 (by omega) (by omega) (by omega)) (k.2.1 150 (by omega) (by omega) (by omega)) (k.2.2.2.2.2 151 (by omega)) (k.2.2.2.2.2 152 (by omega))
theorem RX.mv {N N' : Mm} {i i' : Nat} {r : Nat → Nat} (h : RX N i r) (h4 : r 1 ≤ 4) (e : ∀ k, k ≤ 13 → N'.1 153 (i' + k) = N.1 153 (i + k)) : RX N' i' r := by
  obtain ⟨h1, h2, h3⟩ := h
  refine ⟨fun kv hkv => ?_, by rw [e 1 (by omega)]; exact h2, fun q hq => by rw [Nat.add_assoc, e (2 + q) (by omega), ← Nat.add_assoc]; exact h3 q hq⟩
  have c : ∀ k v, (i + k, v) ∈ [(i + 13, nI (r 13)), (i + 12, nI (r 12)), (i + 11, nI (r 11)), (i + 10, nI (r 10)), (i + 9, nI (r 9)), (i + 8, nI (r 8)), (i + 7, nI (r 7)), (i + 6, nI (r 6)), (i + 0, nI (r 0))] → N.1 153 (i + k) = v := fun k v hm => h1 (i + k, v) hm
  simp only [List.mem_cons, List.not_mem_nil, or_false] at hkv
  rcases hkv with rfl | rfl | rfl | rfl | rfl | rfl | rfl | rfl | rfl
  · show N'.1 153 (i' + 13) = _; rw [e 13 (by omega)]; exact c 13 _ (by simp)
  · show N'.1 153 (i' + 12) = _; rw [e 12 (by omega)]; exact c 12 _ (by simp)
  · show N'.1 153 (i' + 11) = _; rw [e 11 (by omega)]; exact c 11 _ (by simp)
  · show N'.1 153 (i' + 10) = _; rw [e 10 (by omega)]; exact c 10 _ (by simp)
  · show N'.1 153 (i' + 9) = _; rw [e 9 (by omega)]; exact c 9 _ (by simp)
  · show N'.1 153 (i' + 8) = _; rw [e 8 (by omega)]; exact c 8 _ (by simp)
  · show N'.1 153 (i' + 7) = _; rw [e 7 (by omega)]; exact c 7 _ (by simp)
  · show N'.1 153 (i' + 6) = _; rw [e 6 (by omega)]; exact c 6 _ (by simp)
  · show N'.1 153 (i' + 0) = _; rw [e 0 (by omega)]; exact c 0 _ (by simp)
theorem MRX.mv {N N' : Mm} {i i' : Nat} {r : MapD} (h : MRX N i r) (h6 : r.2.2.2.length ≤ 6) (e : ∀ k, k ≤ 15 → N'.1 154 (i' + k) = N.1 154 (i + k)) : MRX N' i' r := by
  obtain ⟨h1, h2, h3, h4, h5⟩ := h
  refine ⟨by rw [show N'.1 154 i' = N.1 154 i from e 0 (by omega)]; exact h1, by rw [e 1 (by omega)]; exact h2, by rw [e 2 (by omega)]; exact h3, by rw [e 3 (by omega)]; exact h4, fun q hq => ?_⟩
  have a := h5 q hq
  rw [show i' + 4 + 2 * q = i' + (4 + 2 * q) by omega, show i' + (4 + 2 * q) + 1 = i' + (5 + 2 * q) by omega, e _ (by omega), e _ (by omega), show i + (5 + 2 * q) = i + 4 + 2 * q + 1 by omega, show i + (4 + 2 * q) = i + 4 + 2 * q by omega]
  exact a
/-- a row that was read has at most four holes -/
theorem hlS_len {T : Nat → Nat} {n : Nat} : ∀ m i (x : Except Nat Nat) hs k, (hlS T n m i x hs).1 = .ok k → i + m = 5 → hs.length = i → hs.length ≤ 4 → (hlS T n m i x hs).2.length ≤ 4 ∧ (0 < m → 2 ≤ (hlS T n m i x hs).2.length) := by
  intro m
  induction m with
  | zero => intro i x hs k h h1 h2 h3; exact ⟨h3, fun h => by omega⟩
  | succ m ih =>
    intro i x hs k h h1 h2 h3
    cases x with
    | error e => rw [hlS_err] at h; cases h
    | ok j =>
      by_cases g : 2 ≤ i ∧ soF T n (tbF T n j) ≠ 2
      · rw [hlS_stop g]; exact ⟨h3, fun _ => by show 2 ≤ hs.length; omega⟩
      · cases h4 : hst T n i j hs with
        | error e => rw [hlS_bad g h4] at h; cases h
        | ok j' =>
          rw [hlS_more g h4] at h ⊢
          obtain ⟨-, -, o3, -⟩ := hst_ok h4
          have ll : (hs ++ [nv T n j]).length = hs.length + 1 := by rw [List.length_append]; rfl
          obtain ⟨r1, r2⟩ := ih (i + 1) _ _ k h (by omega) (by rw [ll]; omega) (by rw [ll]; omega)
          refine ⟨r1, fun _ => ?_⟩
          by_cases g2 : 0 < m
          · exact r2 g2
          · omega
theorem row_len {T : Nat → Nat} {n j k : Nat} {nm : List Nat} (h : aE T n nm j = .ok k) : aRow T n nm j 1 ≤ 4 ∧ 2 ≤ aRow T n nm j 1 := by
  obtain ⟨-, -, -, -, -, -, ⟨k', h7⟩, -⟩ := aE_ok h
  obtain ⟨r1, r2⟩ := hlS_len 5 0 _ _ k' h7 (by omega) rfl (by show 0 ≤ 4; omega)
  exact ⟨r1, r2 (by omega)⟩
theorem map_len {T : Nat → Nat} {n j k : Nat} {nm : List Nat} (h : mE T n nm j = .ok k) : (mRow T n nm j).2.2.2.length ≤ 6 := by
  obtain ⟨-, -, -, -, -, -, -, -, -, ⟨-, h2⟩, -⟩ := mE_ok h
  exact h2
theorem m_loop {G : MG} {e : Nat} {Q : Int32 → Mm → Prop} {T : Nat → Nat} {n m c : Nat} {M : Mm} (hL : Lay c M) (hR : RTs T n m M) :
    ∀ p t (P : Mm) (x : Except Nat Nat) na nc (nm : List Nat) (R : Nat → Nat → Nat) (Mp : Nat → MapD), t + p = 14 → FM2 M P → Tr T n m P x → (∀ j, x = .ok j → na + nc = t ∧ OffM T n P na nc nm R Mp ∧ RWk T n na nc R Mp) →
      (∀ z N', (oX T n p x na nc nm R Mp).1 = .error z → FM2 M N' → z < 2 ^ 31 → Q (nI z) N') →
      (∀ j N' nm', (oX T n p x na nc nm R Mp).1 = .ok j → FM2 M N' → OffM T n N' (oX T n p x na nc nm R Mp).2.1 (oX T n p x na nc nm R Mp).2.2.1 nm' (oX T n p x na nc nm R Mp).2.2.2.1 (oX T n p x na nc nm R Mp).2.2.2.2 → RWk T n (oX T n p x na nc nm R Mp).2.1 (oX T n p x na nc nm R Mp).2.2.1 (oX T n p x na nc nm R Mp).2.2.2.1 (oX T n p x na nc nm R Mp).2.2.2.2 → C G Y_X12_carry (e + 5) [.ref (G.b + 147), .int 1, .int 0] N' (Rv fun M3 => M3.2.2 = N'.2.2 ∧ L_X12_office_146 G (e + 5) Q 0 M3)) →
      L_X12_office_62 G (e + 5) Q P := by
  have hm := hR.1
  intro p
  induction p with
  | zero =>
    intro t P x na nc nm R Mp ht hF hx hA hE hO
    cases x with
    | error z =>
      refine b_X12_office_62 (lay_of hL hF.1) ⟨fun _ => ⟨fun g => ?_, fun _ => by rw [hx.1]; exact hE z P rfl hF hx.2.2⟩, fun g => ?_⟩
      · rw [hx.1] at g
        exact absurd g (nI_nle (by have := hx.2.1; omega) hx.2.2)
      · rw [hx.1] at g
        exact absurd g (nI_ne0 (by have := hx.2.1; omega) hx.2.2)
    | ok j =>
      obtain ⟨h1, -, h3, h4, -⟩ := hA j rfl
      omega
  | succ p ih =>
    intro t P x na nc nm R Mp ht hF hx hA hE hO
    have hLP := lay_of hL hF.1
    have hRP := hR.f2 hF
    cases x with
    | error z =>
      refine b_X12_office_62 hLP ⟨fun _ => ⟨fun g => ?_, fun _ => by rw [hx.1]; exact hE z P (by rw [oX_err]) hF hx.2.2⟩, fun g => ?_⟩
      · rw [hx.1] at g
        exact absurd g (nI_nle (by have := hx.2.1; omega) hx.2.2)
      · rw [hx.1] at g
        exact absurd g (nI_ne0 (by have := hx.2.1; omega) hx.2.2)
    | ok j =>
      obtain ⟨hsum, hX, w1, w2, w3, w4⟩ := hA j rfl
      obtain ⟨x1, x2, x3, x4, x5, x6, x7, x8, x9⟩ := id hX
      have sl : soF T n (tbF T n j) ≤ 4 := soP_le T n (plF T n (tbF T n j))
      have hj := hx.2.2
      have t1 := (hRP.2.1 j hj).1
      refine b_X12_office_62 hLP ⟨fun g => absurd hx.1 g, fun _ => ?_⟩
      rw [hx.2.1, nI_clamp (by omega), t1, hx.1, show nI (soF T n (tbF T n j)) = 0 ↔ soF T n (tbF T n j) = 0 by rw [show (0 : Int32) = nI 0 from rfl, nI_eq (by omega) (by omega)]]
      refine ⟨inM (by omega) (by omega), fun g => ⟨fun _ => ?_, fun q => absurd (by decide) q⟩, fun g => ?_⟩
      · have he := oX_end (m := p) (na := na) (nc := nc) (nm := nm) (R := R) (Mp := Mp) g
        exact hO j P nm (by rw [he]) hF (by rw [he]; exact hX) (by rw [he]; exact ⟨w1, w2, w3, w4⟩)
      · have hj1 := so_lt hRP hj g
        -- behind a fault
        have lost : ∀ z (P' : Mm), FM2 M P' → Tr T n m P' (.error z) → oX T n (p + 1) (.ok j) na nc nm R Mp = (.error z, na, nc, R, Mp) → C G Y_X12_takeSign (e + 5) [.ref (G.b + 147), .int 59] P' (Rv fun M14 => M14.2.2 = P'.2.2 ∧ L_X12_office_62 G (e + 5) Q M14) := by
          intro z P' hF' hx' he
          refine m_takeSign 59 (by omega) (by omega) (lay_of hL hF'.1) (hR.f2 hF') hx' (fun P'' f'' x'' => ⟨f''.1, ?_⟩)
          have x3' : Tr T n m P'' (.error z) := x''
          refine ih (t + 1) P'' (.error z) na nc nm R Mp (by omega) (hF'.tr f''.f2) x3' (fun j' hj' => by cases hj') (fun z' N' h1 h2 h3 => hE z' N' (by rw [he]; rw [oX_err] at h1; exact h1) h2 h3) (fun j' N' nm' h1 => ?_)
          rw [oX_err] at h1; cases h1
        refine m_isWord 0 (by omega) (by omega) hLP hRP hx (fun j' hj' hW => ⟨rfl, fun q => (by cases q), fun _ => ?_⟩) (fun hno => ⟨rfl, fun _ => ?_, fun q => absurd rfl q⟩)
        · cases hj'
          by_cases h6 : na = 6
          · have he := oX_arm6 (m := p) (nc := nc) (nm := nm) (R := R) (Mp := Mp) hW h6
            refine up1 (P := fun d => C G Y_X12_readArm d _ P (Rv _)) (fun e' => b_X12_readArm (d := e' + 4) hLP ?_) (show 5 ≤ e + 5 by omega)
            rw [show Int32.toNatClampNeg 110 = 110 from rfl, x1, show (6 : Int32) = nI 6 from rfl, nI_eq (by omega) (by omega)]
            refine ⟨fun q => absurd h6 q, fun _ => m_wrong (k := 5) (by omega) hLP hRP (by omega) hx (fun P' f' x' => ⟨f'.1, f'.1, lost _ P' (hF.tr f'.f2) x' he⟩)⟩
          · have he := oX_arm (m := p) (nc := nc) (nm := nm) (R := R) (Mp := Mp) hW h6
            refine m_readArm (i0 := 111 + 14 * na) (by omega) hLP hRP hx hj1 (by omega) rfl x1 (x7 na 1 (by omega) (by omega) (by omega)) (x7 na 13 (by omega) (by omega) (by omega)) x5 (by omega) (fun P' hO' kx hv => ⟨hO'.1, ?_⟩)
            have hFP : FM2 M P' := hF.tr (hO'.f2 (by omega))
            refine m_takeSign 59 (by omega) (by omega) (lay_of hL hFP.1) (hR.f2 hFP) kx (fun P'' f'' x'' => ⟨f''.1, ?_⟩)
            have e153 : P''.1 153 = P'.1 153 := f''.2.1 153 (by omega)
            have e154 : P''.1 154 = P'.1 154 := f''.2.1 154 (by omega)
            have e154' : P'.1 154 = P.1 154 := hO'.2.1 154 (by omega) (by omega)
            refine ih (t + 1) P'' (aE T n nm j) (na + 1) nc (nm ++ [j + 1]) _ Mp (by omega) (hFP.tr f''.f2) x'' (fun j' hj' => ?_) (fun z' N' h1 h2 h3 => hE z' N' (by rw [he]; exact h1) h2 h3) (fun j' N' nm' h1 h2 h3 h4 => hO j' N' nm' (by rw [he]; exact h1) h2 (by rw [he]; exact h3) (by rw [he]; exact h4))
            obtain ⟨⟨b1, t1'⟩, -, -, -, -, -, ⟨b7, t7⟩, -⟩ := aE_ok hj'
            obtain ⟨u1, u2, u3⟩ := hv b1 t1'
            have hrow := u3 ⟨b7, t7⟩ ⟨j', hj'⟩
            refine ⟨by omega, ⟨by rw [e153]; exact u1, by rw [e154, e154']; exact x2, fun a ha => ?_, fun b hb => ?_, u2.r f'', by rw [List.length_append]; show nm.length + 1 = na + 1 + nc; omega, fun a k h1 h2 h3 => ?_, fun k h1 h2 => ?_, fun b k h1 h2 h3 => ?_⟩, by omega, w2, fun a ha => ?_, w4⟩
            · by_cases e1 : a = na
              · subst e1; dsimp only; rw [if_pos rfl]
                exact hrow.mv (row_len hj').1 (fun k _ => by rw [e153])
              · dsimp only; rw [if_neg e1]
                obtain ⟨nm0, j0, k0, r0, r1⟩ := w3 a (by omega)
                refine (x3 a (by omega)).mv (by rw [r0]; exact (row_len r1).1) (fun k hk => ?_)
                rw [e153, hO'.2.2.2.1 _ (by omega) (by omega)]
            · obtain ⟨nm0, j0, k0, r0, r1⟩ := w4 b hb
              exact (x4 b hb).mv (by rw [r0]; exact map_len r1) (fun k hk => by rw [e154, e154'])
            · rw [e153, hO'.2.2.2.1 _ (by omega) (by omega)]; exact x7 a k (by omega) h2 h3
            · rw [e153, hO'.2.2.2.1 _ (by omega) (by omega)]; exact x8 k h1 h2
            · rw [e154, e154']; exact x9 b k h1 h2 h3
            · by_cases e1 : a = na
              · subst e1; dsimp only; rw [if_pos rfl]; exact ⟨nm, j, j', rfl, hj'⟩
              · dsimp only; rw [if_neg e1]; exact w3 a (by omega)
        · refine m_isWord 7 (by omega) (by omega) hLP hRP hx (fun j' hj' hW => ⟨rfl, fun q => (by cases q), fun _ => ?_⟩) (fun hno7 => ⟨rfl, fun _ => ?_, fun q => absurd rfl q⟩)
          · cases hj'
            by_cases h7 : nc = 7
            · have he := oX_map7 (m := p) (na := na) (nm := nm) (R := R) (Mp := Mp) hW h7
              refine up1 (P := fun d => C G Y_X12_readMap d _ P (Rv _)) (fun e' => b_X12_readMap (d := e' + 4) hLP ?_) (show 5 ≤ e + 5 by omega)
              rw [show Int32.toNatClampNeg 120 = 120 from rfl, x2, show (7 : Int32) = nI 7 from rfl, nI_eq (by omega) (by omega)]
              refine ⟨fun q => absurd h7 q, fun _ => m_wrong (k := 5) (by omega) hLP hRP (by omega) hx (fun P' f' x' => ⟨f'.1, f'.1, lost _ P' (hF.tr f'.f2) x' he⟩)⟩
            · have he := oX_map (m := p) (na := na) (nm := nm) (R := R) (Mp := Mp) hW h7
              refine m_readMap (i0 := 121 + 16 * nc) (by omega) hLP hRP hx hj1 (by omega) rfl x2 (x9 nc 3 (by omega) (by omega) (by omega)) x5 (by omega) (fun P' hO' kx hv => ⟨hO'.1, ?_⟩)
              have hFP : FM2 M P' := hF.tr (hO'.f2 (by omega))
              refine m_takeSign 59 (by omega) (by omega) (lay_of hL hFP.1) (hR.f2 hFP) kx (fun P'' f'' x'' => ⟨f''.1, ?_⟩)
              have e153 : P''.1 153 = P'.1 153 := f''.2.1 153 (by omega)
              have e154 : P''.1 154 = P'.1 154 := f''.2.1 154 (by omega)
              have e153' : P'.1 153 = P.1 153 := hO'.2.1 153 (by omega) (by omega)
              refine ih (t + 1) P'' (mE T n nm j) na (nc + 1) (nm ++ [j + 1]) R _ (by omega) (hFP.tr f''.f2) x'' (fun j' hj' => ?_) (fun z' N' h1 h2 h3 => hE z' N' (by rw [he]; exact h1) h2 h3) (fun j' N' nm' h1 h2 h3 h4 => hO j' N' nm' (by rw [he]; exact h1) h2 (by rw [he]; exact h3) (by rw [he]; exact h4))
              obtain ⟨⟨b1, t1'⟩, -⟩ := mE_ok hj'
              obtain ⟨u1, u2, u3⟩ := hv b1 t1'
              have hrow := u3 ⟨j', hj'⟩
              refine ⟨by omega, ⟨by rw [e153, e153']; exact x1, by rw [e154]; exact u1, fun a ha => ?_, fun b hb => ?_, u2.r f'', by rw [List.length_append]; show nm.length + 1 = na + (nc + 1); omega, fun a k h1 h2 h3 => ?_, fun k h1 h2 => ?_, fun b k h1 h2 h3 => ?_⟩, w1, by omega, w3, fun b hb => ?_⟩
              · obtain ⟨nm0, j0, k0, r0, r1⟩ := w3 a ha
                exact (x3 a ha).mv (by rw [r0]; exact (row_len r1).1) (fun k hk => by rw [e153, e153'])
              · by_cases e1 : b = nc
                · subst e1; dsimp only; rw [if_pos rfl]
                  exact hrow.mv (map_len hj') (fun k _ => by rw [e154])
                · dsimp only; rw [if_neg e1]
                  obtain ⟨nm0, j0, k0, r0, r1⟩ := w4 b (by omega)
                  refine (x4 b (by omega)).mv (by rw [r0]; exact map_len r1) (fun k hk => ?_)
                  rw [e154, hO'.2.2.2.1 _ (by omega) (by omega)]
              · rw [e153, e153']; exact x7 a k h1 h2 h3
              · rw [e153, e153']; exact x8 k h1 h2
              · rw [e154, hO'.2.2.2.1 _ (by omega) (by omega)]; exact x9 b k (by omega) h2 h3
              · by_cases e1 : b = nc
                · subst e1; dsimp only; rw [if_pos rfl]; exact ⟨nm, j, j', rfl, hj'⟩
                · dsimp only; rw [if_neg e1]; exact w4 b (by omega)
          · have he := oX_bad (m := p) (na := na) (nc := nc) (nm := nm) (R := R) (Mp := Mp) g (hno j rfl) (hno7 j rfl)
            exact m_wrong (k := 1) (by omega) hLP hRP (by omega) hx (fun P' f' x' => ⟨f'.1, lost _ P' (hF.tr f'.f2) x' he⟩)
