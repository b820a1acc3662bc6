/-! new int[n][k] -/
def sM (M : Mm) (N : Nat) : Mm := (fun a => if M.2.2.2 ≤ a ∧ a ≤ M.2.2.2 + N then fun _ => 0 else M.1 a, fun a => if M.2.2.2 ≤ a ∧ a ≤ M.2.2.2 + N then fun _ => 0 else M.2.1 a, fun a => if a = M.2.2.2 then (fun i => if i < N then some (M.2.2.2 + 1 + i) else none) else if M.2.2.2 ≤ a ∧ a ≤ M.2.2.2 + N then fun _ => none else M.2.2.1 a, M.2.2.2 + 1 + N)
theorem outer_arr (c : ClassId) (N h0 : Nat) : ∀ i : Nat, Jvm.Free.Multi.outerC c N h0 i = arrV c N (fun j => va_rf (if j < i then some (h0 + 1 + j) else none))
  | 0 => by
    show ({ cls := c, slots := Array.replicate N .null, vm := .none } : Cell) = _
    rw [arrV_new]
    refine congrArg (arrV c N) (funext fun j => ?_)
    simp [va_rf]
  | i + 1 => by
    show (Jvm.Free.Multi.outerC c N h0 i).setSlot i (.ref (h0 + 1 + i)) = _
    rw [outer_arr c N h0 i, arrV_store]
    refine congrArg (arrV c N) (funext fun j => ?_)
    by_cases e : j = i
    · subst e
      simp [updV, va_rf]
    · by_cases h : j < i
      · simp [updV, e, h, Nat.lt_succ_of_lt h]
      · simp [updV, e, h, show ¬ j < i + 1 by omega]
section
variable {G : MG} {Y Z : MY} {d : Nat} {Q : Option Value → Mm → Prop} {ce sl pc : Nat} {lv : List (Nat × Value)} {st : List Value} {M : Mm}
theorem tw_mna {idx n N K : Nat} {v k : Int32} (hw : Cond.classLink Y.y.cls idx "[[I" ∈ lw_good) (ha : Cond.arrayClass .int ∈ lw_good) (hX : ∀ U, G.X U → ∀ A : Array Value, (Cond.arrayOver (.array .int)).before A U = true) (hn : M.2.2.2 = n) (hlt : n + N < NC) (hs : sh n = some (.inl (7, N))) (hsi : ∀ i, i < N → sh (n + 1 + i) = some (.inl (0, K))) (hv : ¬ v < 0 ∧ v.toNatClampNeg = N ∧ N * 4 ≤ 536870912) (hk : ¬ k < 0 ∧ k.toNatClampNeg = K ∧ K * 4 ≤ 536870912) (hz : ce + (1 + N) ≤ Y.mc ∧ sl + (N + N * K) ≤ Y.ms) (hd : decode Y.cc pc = .ok (.multianewarray idx 2, 4)) (kk : ∀ N', N' = sM M N → N'.2.2.2 = n + 1 + N → T G Y d Q (ce + 1 + N) (sl + N + N * K) (pc + 4) lv (.ref (G.b + n) :: st) N') : T G Y d Q ce sl pc lv (.int k :: .int v :: st) M := by
  intro p e s m args below meth c H locs ls X hR hS hl
  obtain ⟨hx, hb, -, -, -, hown, hts, hK, -, -, -⟩ := id X
  have hsz : H.size = G.b + n := by rw [← hn]; exact hR.2.2.1 (by omega)
  obtain ⟨hv1, hv2, hv3⟩ := hv
  obtain ⟨hk1, hk2, hk3⟩ := hk
  subst hv2
  subst hk2
  intro S hT Xs
  obtain ⟨vm₁, cA, comp, -, fA, fC, hO, -, X', step⟩ := Xs.multianewarray2F (ty := .int) hx hown (hts _ (List.mem_cons_of_mem _ hw)) (hX s hK.2.1 _) (hts _ (List.mem_cons_of_mem _ ha)) (g := F0 m pc ls (.int k :: .int v :: st)) rfl (by rw [hb]; exact hd) rfl hv1 hk1 hv3 hk3 (by omega) rfl rfl hz.1 hz.2
  have hcA : cA = G.dA 7 := Option.some.inj (fA.symm.trans (hK.1.2 7 _ rfl).2)
  have hcc : comp = G.dA 0 := Option.some.inj (fC.symm.trans (hK.1.2 0 _ rfl).2)
  subst hcA
  subst hcc
  generalize hF : Jvm.Free.Multi.fill (S.setVm vm₁) (G.dA 7) (G.dA 0) v.toNatClampNeg k.toNatClampNeg (defaultValue .int) v.toNatClampNeg = F at X' step
  have hTh : (S.setVm vm₁).heap = H := hT
  obtain ⟨f1, f2, -, -⟩ := Jvm.Free.Multi.fill_facts (S.setVm vm₁) (G.dA 7) (G.dA 0) v.toNatClampNeg k.toNatClampNeg (defaultValue .int) v.toNatClampNeg
  rw [hF, hTh] at f1 f2
  have hold : ∀ x : Nat, x < H.size → F.heap[x]? = H[x]? := fun x hx => by
    have := Jvm.Free.Multi.fill_old (S.setVm vm₁) (G.dA 7) (G.dA 0) v.toNatClampNeg k.toNatClampNeg (defaultValue .int) (a := x) (by rw [hTh]; exact hx) v.toNatClampNeg
    rw [hF, hTh] at this
    exact this
  have hrow : ∀ j : Nat, j < v.toNatClampNeg → F.heap[H.size + 1 + j]? = some (arrV (G.dA 0) k.toNatClampNeg (fun _ => .int 0)) := fun j hj => by
    have := Jvm.Free.Multi.fill_inner (S.setVm vm₁) (G.dA 7) (G.dA 0) v.toNatClampNeg k.toNatClampNeg (defaultValue .int) v.toNatClampNeg j hj
    rw [hF, hTh] at this
    rw [this]
    show some ({ cls := G.dA 0, slots := Array.replicate k.toNatClampNeg (.int 0), vm := .none } : Cell) = _
    rw [arrV_new]
  rw [outer_arr] at f2
  rw [hsz] at f1 f2 hold hrow
  have hR' : Rl G (sM M v.toNatClampNeg) F.heap := by
    refine ⟨fun q w hq => ?_, by show M.2.2.2 + 1 + v.toNatClampNeg ≤ NC; omega, fun _ => by rw [f1]; show _ = G.b + (M.2.2.2 + 1 + v.toNatClampNeg); omega, by rw [f1]; omega⟩
    obtain ⟨hk1, rfl⟩ := ws_lt hq
    have hk2 : q < M.2.2.2 + 1 + v.toNatClampNeg := hk1
    rw [hn] at hk2
    by_cases h1 : q < n
    · have h2 := hR.1 q _ (ws_at (by omega))
      have hne : ¬ (M.2.2.2 ≤ q ∧ q ≤ M.2.2.2 + v.toNatClampNeg) := by omega
      rw [← ent_congr (M' := sM M v.toNatClampNeg) (if_neg hne) (if_neg hne) ((if_neg (by omega)).trans (if_neg hne))] at h2
      exact h2.kept (hold _ (by show G.b + q < G.b + n; omega))
    · have hin : M.2.2.2 ≤ q ∧ q ≤ M.2.2.2 + v.toNatClampNeg := by omega
      by_cases h2 : q = n
      · subst h2
        rw [ent_arr hs]
        show F.heap[G.b + q]? = some (vp_cell (G.dA 7) (_, .inr (.inr (.inr (.inr (fun i => ((sM M v.toNatClampNeg).2.2.1 q i).map (G.b + ·)))))))
        rw [f2, vp_cell_q]
        congr 2
        funext j
        have e9 : (sM M v.toNatClampNeg).2.2.1 q = (fun i => if i < v.toNatClampNeg then some (M.2.2.2 + 1 + i) else none) := if_pos hn.symm
        rw [e9, hn]
        by_cases hj : j < v.toNatClampNeg
        · rw [if_pos hj]
          show Value.ref (G.b + q + 1 + j) = va_rf (Option.map (G.b + ·) (if j < v.toNatClampNeg then some (q + 1 + j) else none))
          rw [if_pos hj]
          show Value.ref (G.b + q + 1 + j) = Value.ref (G.b + (q + 1 + j))
          rw [show G.b + (q + 1 + j) = G.b + q + 1 + j by omega]
        · simp [hj, va_rf]
      · obtain ⟨i, rfl⟩ : ∃ i, q = n + 1 + i := ⟨q - n - 1, by omega⟩
        rw [ent_arr (hsi i (by omega))]
        show F.heap[G.b + (n + 1 + i)]? = some (vp_cell (G.dA 0) (_, .inl ((sM M v.toNatClampNeg).1 (n + 1 + i))))
        rw [show G.b + (n + 1 + i) = G.b + n + 1 + i by omega, hrow i (by omega), vp_cell_i, show (sM M v.toNatClampNeg).1 (n + 1 + i) = (fun _ => 0) from if_pos hin]
  obtain ⟨t, a1, b1⟩ := kk _ rfl (by show M.2.2.2 + 1 + v.toNatClampNeg = _; omega) p e s m args below meth c F.heap locs ls X hR' ⟨by rw [f1, ← hsz]; have := hS.1; omega, fun q q1 q2 => (hold q (by rw [← hsz]; exact Nat.lt_of_lt_of_le q1 hS.1)).trans (hS.2.1 q q1 q2), hS.2.2⟩ hl F rfl X'
  refine ⟨t, step t ?_, b1⟩
  have e9 : S.heap.size = G.b + n := by rw [hT, hsz]
  rw [e9]
  exact a1
end
