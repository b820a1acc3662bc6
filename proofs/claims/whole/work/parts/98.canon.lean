/-! ===== the built memory is the canonical one, and the invariant holds of it ===== -/
def isR (t : FieldType) : Bool := match t with
  | .object _ => true
  | .array _ => true
  | _ => false
def agr (f g : Nat → Nat → Option Nat) (o : Nat) : Bool := match sh o with
  | some (.inl (t, n)) => Nat.blt t 4 || (List.range n).all (fun k => f o k == g o k)
  | some (.inr ci) => (List.range (nfc ci)).all (fun j => !(isR (tyc ci j)) || f o j == g o j)
  | none => true
theorem Mb_agr : (List.range 162).all (agr Mb.2.2.1 (RF 3)) = true := by decide +kernel
def Mc : Mm := (Mb.1, Mb.2.1, RF 3, NC)
theorem Mb_q : ∀ q, q < 4 → Mb.1 153 (90 + 3 * q) = 0 ∧ Mb.1 156 q = 0 := by decide +kernel
theorem Mb_w : ∀ k, k < 16 → Mb.2.1 152 k = wordT k := by decide +kernel
theorem bitI0 : ∀ q, q < 4 → bitI 0 q = 0 := by decide +kernel
theorem inv_of {f : Nat → Nat → Int32} {g : Nat → Nat → Int64} (h0 : f 147 2 = 0 ∧ f 1 0 = 0 ∧ f 3 2 = 0 ∧ f 3 3 = 0 ∧ f 153 0 = 0 ∧ f 154 0 = 0 ∧ f 75 7 = 0 ∧ f 75 10 = 0 ∧ f 153 85 = 0 ∧ f 0 5 = 0) (hq0 : ∀ q, q < 4 → f 153 (90 + 3 * q) = 0 ∧ f 156 q = 0) (hw : ∀ k, k < 16 → g 152 k = wordT k) : Inv 3 (f, g, RF 3, NC) := by
  obtain ⟨a1, a2, a3, a4, a5, a6, a7, a8, a9, a10⟩ := h0
  refine ⟨rfl, Or.inl rfl, ⟨a1.trans a2.symm, 0, by omega, a2, fun i h => absurd h (Nat.not_lt_zero i)⟩, ⟨0, a4, a6, by omega, fun i h => absurd h (Nat.not_lt_zero i)⟩, ⟨0, ⟨a3, a5, by omega, fun i h => absurd h (Nat.not_lt_zero i)⟩, ⟨fun i h => absurd h (Nat.not_lt_zero i), ⟨a7.trans a9.symm, 0, by omega, a9, fun i h => absurd h (Nat.not_lt_zero i), fun i j h => absurd h (Nat.not_lt_zero i)⟩, ⟨⟨0, by omega, by omega, a8⟩, fun q hq => ?_⟩⟩, fun q hq => ?_⟩, ⟨0, by omega, by omega, a10⟩, hw⟩
  · have h1 : f 153 (90 + 3 * q) = 0 := (hq0 q hq).1
    dsimp only
    rw [a8, h1, bitI0 q hq]
    exact ⟨rfl, fun h => absurd h (by decide)⟩
  · have h1 : f 156 q = 0 := (hq0 q hq).2
    unfold MarkC
    dsimp only
    rw [a10, h1, bitI0 q hq]
    exact ⟨rfl, fun h => absurd h (by decide)⟩
theorem inv_Mc : Inv 3 Mc := inv_of Mb_0 Mb_q Mb_w
theorem arrV_cg {cI : ClassId} {N : Nat} {f g : Nat → Value} (h : ∀ k, k < N → f k = g k) : arrV cI N f = arrV cI N g := by
  unfold arrV
  congr 1
  congr 1
  funext j
  exact h j.val j.isLt
theorem at_cg {G : MG} {f : Nat → Nat → Int32} {g : Nat → Nat → Int64} {r r' : Nat → Nat → Option Nat} {n n' o : Nat} {H : Heap} (ha : agr r r' o = true) (h : va_at G.D cls (G.b + o, ent G (f, g, r, n) o) H) : va_at G.D cls (G.b + o, ent G (f, g, r', n') o) H := by
  unfold agr at ha
  unfold ent at h ⊢
  cases hs : sh o with
  | none => rw [hs] at h; exact h
  | some x =>
    rw [hs] at ha h
    cases x with
    | inl q =>
      obtain ⟨t, m⟩ := q
      dsimp only at ha h ⊢
      unfold va_at at h ⊢
      dsimp only at h ⊢
      rw [h]
      congr 1
      match t, ha with
      | 0, _ => rfl
      | 1, _ => rfl
      | 2, _ => rfl
      | 3, _ => rfl
      | t + 4, ha =>
        have e4 : ∀ M : Mm, arw G.b M o (t + 4) = .inr (.inr (.inr (.inr (fun i => (M.2.2.1 o i).map (G.b + ·))))) := fun M => by simp [arw]
        rw [e4, e4, vp_cell_q, vp_cell_q]
        refine arrV_cg fun k hk => ?_
        rw [show Nat.blt (t + 4) 4 = false by simp [Nat.blt, Nat.ble], Bool.false_or] at ha
        have := List.all_eq_true.mp ha k (List.mem_range.mpr hk)
        have e : r o k = r' o k := by simpa using this
        show va_rf ((r o k).map (G.b + ·)) = va_rf ((r' o k).map (G.b + ·))
        rw [e]
    | inr ci =>
      dsimp only at ha h ⊢
      have e : (List.range (nfc ci)).map (fun j => fvl G.b (f, g, r, n) o (tyc ci j) j) = (List.range (nfc ci)).map (fun j => fvl G.b (f, g, r', n') o (tyc ci j) j) := by
        apply List.map_congr_left
        intro j hj
        have := List.all_eq_true.mp ha j hj
        unfold isR at this
        unfold fvl
        cases ht : tyc ci j <;> rw [ht] at this
        all_goals first | rfl | skip
        · have e : r o j = r' o j := by simpa using this
          show va_rf ((r o j).map (G.b + ·)) = va_rf ((r' o j).map (G.b + ·))
          rw [e]
        · have e : r o j = r' o j := by simpa using this
          show va_rf ((r o j).map (G.b + ·)) = va_rf ((r' o j).map (G.b + ·))
          rw [e]
      rw [← e]
      exact h
theorem rl_cg {G : MG} {f : Nat → Nat → Int32} {g : Nat → Nat → Int64} {r r' : Nat → Nat → Option Nat} {n : Nat} {H : Heap} (ha : (List.range n).all (agr r r') = true) (h : Rl G (f, g, r, n) H) : Rl G (f, g, r', n) H := by
  obtain ⟨h1, h2⟩ := h
  refine ⟨fun k q hk => ?_, h2⟩
  obtain ⟨hk', rfl⟩ := ws_lt hk
  exact at_cg (List.all_eq_true.mp ha k (List.mem_range.mpr hk')) (h1 k _ (ws_at hk'))
theorem T.canon {G : MG} {Y : MY} {d : Nat} {Q : Option Value → Mm → Prop} {ce sl pc : Nat} {lv : List (Nat × Value)} {st : List Value} (h : T G Y d Q ce sl pc lv st Mc) : T G Y d Q ce sl pc lv st Mb := by
  intro p e s m args below meth c H locs ls X hR
  refine h p e s m args below meth c H locs ls X ?_
  have hb : Mb = (Mb.1, Mb.2.1, Mb.2.2.1, 162) := by rw [← Mb_n]
  rw [hb] at hR
  exact rl_cg Mb_agr hR
