/-! ===== crooked ===== -/
def Thr (G : MG) : Prop := (∀ U, G.X U → va_Nw (.castable NSE NSE) U) ∧ xFacts G RX11 188 ∧ (∀ U, G.X U → vk_R RX11 186 "no such arm, point or part" (G.ad 16) U) ∧ (∀ U, G.X U → vk_R RX11 198 "out of reach" (G.ad 17) U) ∧ (∀ U, G.X U → vk_R RX11 228 "no such point or part" (G.ad 18) U) ∧ (∀ U, G.X U → vk_R RX11 260 "no such arm, or no corner seen" (G.ad 19) U) ∧ (∀ U, G.X U → vk_R RX11 262 "no suspect" (G.ad 20) U)
/-- behind a call of the reference: nothing that counts has changed, and this is what it threw -/
def Aft (M N : Mm) (t : Int32) : Prop := Ess M N ∧ N.2.1 161 = M.2.1 161 ∧ N.1 147 0 = t
theorem SpM.aft {M N : Mm} {S : S3} {t : Int32} (h : SpM M N S) : Aft M (sI N 147 0 t) t := ⟨h.ess.tr (ess_sI (by omega)), h.2.2.1 161 (by omega), by rw [rd_sI, if_pos ⟨rfl, rfl⟩]⟩
theorem aft_th {M : Mm} {t : Int32} : Aft M (sI M 147 0 t) t := ⟨ess_sI (by omega), rfl, by rw [rd_sI, if_pos ⟨rfl, rfl⟩]⟩
theorem spM_rf (M : Mm) : SpM M M (M.2.1 147 15, M.2.1 147 16, M.2.1 147 17) := ⟨rfl, rfl, fun _ _ => rfl, rfl, rfl, rfl⟩
theorem spX_rf (M : Mm) : SpX M M (M.2.1 126 0, M.2.1 126 1, M.2.1 126 2) := ⟨rfl, rfl, fun _ _ => rfl, rfl, rfl, rfl⟩
theorem m_crooked {G : MG} {d : Nat} {Q : Int32 → Mm → Prop} {M : Mm} {c n : Nat} {x1 : Int32} (hd : 5 ≤ d) (hI : Inv c M) (hn : M.1 153 0 = nI n) (h6 : n ≤ 6)
    (h0 : (x1 < 0 ∨ nI n ≤ x1) ∨ M.1 75 10 = 0 ∨ (∃ a, a < n ∧ x1 = nI a ∧ fbd M a 19 0 = none) → ∀ N, Aft M N 1 → Q 0 N)
    (h1 : ∀ a j, a < n → x1 = nI a → ¬ M.1 75 10 = 0 → fbd M a 19 0 = some j → ∀ N, Aft M N 0 → Q (tt j) N) : C G Y_X12_crooked d [.ref (G.b + 147), .int x1] M (Ri Q) := by
  have hL := hI.lay
  have one : ∀ {N : Mm} {P : Prop}, (sI N 147 0 1).1 147 0 ≤ 0 → P := fun h => by
    rw [rd_sI, if_pos ⟨rfl, rfl⟩] at h
    exact absurd h (by decide)
  refine up1 (P := fun d => C G Y_X12_crooked d _ M (Ri Q)) (fun e => b_X12_crooked (d := e + 4) hL ?_) hd
  refine s_isArm (by omega) hL ⟨rfl, fun h M4 e4 => ?_, fun h => ?_⟩
  · rw [hn] at h
    subst e4
    exact ⟨fun h' => one h', fun _ => h0 (.inl (if01 h)) _ aft_th⟩
  · rw [hn] at h
    obtain ⟨a, ha, rfl⟩ := an_of (by omega) (if02 h)
    refine s_seen (by omega) hL ⟨rfl, fun h M4 e4 => ?_, fun h => ?_⟩
    · subst e4
      exact ⟨fun h' => one h', fun _ => h0 (.inr (.inl (hI.seen0.2.mp h))) _ aft_th⟩
    · have hs : ¬ M.1 75 10 = 0 := fun h' => h (hI.seen0.2.mpr h')
      have hk := hI.armK hn h6 ha
      refine s_findBend (by omega) hI hk (spM_rf M) (fun N S hN => ⟨hN.2.1, fun h M4 e4 => ?_, fun h M4 e4 => ?_⟩)
      · subst e4
        exact ⟨fun h' => one h', fun _ => h0 (.inr (.inr ⟨a, ha, rfl, rbd_99.mp h⟩)) _ hN.aft⟩
      · rw [rbd_99] at h
        have hA : Aft M M4 0 := by rw [e4]; exact hN.aft
        have e147 : M4.1 147 0 = 0 := hA.2.2
        rw [e147]
        have hI4 := hI.ess hA.1
        have e153 : M4.1 153 = M.1 153 := hA.1.2.2.2.2.2.2.2.1
        refine ⟨fun _ => ?_, fun h' => absurd (by decide) h'⟩
        refine s_findBend (by omega) hI4 (hI4.armK (by rw [e153]; exact hn) h6 ha) (spM_rf M4) (fun N' S' hN' => ⟨hN'.2.1, ?_⟩)
        rw [fbd_eq e153]
        cases hf : fbd M a 19 0 with
        | none => exact absurd hf h
        | some j => exact h1 a j ha rfl hs hf N' ⟨hA.1.tr hN'.ess, (hN'.2.2.1 161 (by omega)).trans hA.2.1, by rw [hN'.1]; exact e147⟩
theorem c_crooked {G : MG} {d : Nat} {M : Mm} {c : Nat} {x1 : Int32} (hd : 8 ≤ d) (hG : Cor G) (hT : Thr G) (hI : Inv c M) :
    CW G Y_L_crooked d [.ref (G.b + 0), .int x1, .ref (G.b + 161)] M (Ri fun r2 M1 => M1.2.2 = M.2.2 ∧ C G Y_X12_crooked d [.ref (G.b + 147), .int x1] M1 (Ri fun r4 M3 => M3.2.2 = M1.2.2 ∧ M3.1 147 0 = r2 ∧ (r2 = 0 → M3.2.1 161 0 = r4.toInt64) ∧ Inv c M3)) := by
  have hL := hI.lay
  obtain ⟨n, ⟨o1, o2, o3, o4⟩, -, -⟩ := hI.2.2.2.2.1
  obtain ⟨t1, t2, t3, t4, t5, t6, t7⟩ := hT
  have bad : ∀ N : Mm, Ess M N → (x1 < 0 ∨ nI n ≤ x1) ∨ M.1 75 10 = 0 ∨ (∃ a, a < n ∧ x1 = nI a ∧ fbd M a 19 0 = none) → C G Y_X12_crooked d [.ref (G.b + 147), .int x1] N (Ri fun r4 M3 => M3.2.2 = N.2.2 ∧ M3.1 147 0 = 1 ∧ ((1 : Int32) = 0 → M3.2.1 161 0 = r4.toInt64) ∧ Inv c M3) := by
    intro N hN hb
    have hIN := hI.ess hN
    have e153 : N.1 153 = M.1 153 := hN.2.2.2.2.2.2.2.1
    have e75 : N.1 75 = M.1 75 := hN.2.1 75 (by omega) (by omega)
    refine m_crooked (by omega) hIN (by rw [e153]; exact o2) o3 (fun _ P hP => ⟨hP.1.1, hP.2.2, fun h => (by cases h), hIN.ess hP.1⟩) (fun a j ha e hs hf P hP => ?_)
    rw [e75] at hs
    rw [fbd_eq e153] at hf
    subst e
    rcases hb with hb | hb | ⟨a', ha', e', hb⟩
    · exact noA ha o3 hb
    · exact absurd hb hs
    · rw [nI_eq (by omega) (by omega)] at e'
      subst e'
      rw [hb] at hf
      cases hf
  have cx : ∀ e, CW G Y_L_crooked (e + 8) [.ref (G.b + 0), .int x1, .ref (G.b + 161)] M (Ri fun r2 M1 => M1.2.2 = M.2.2 ∧ C G Y_X12_crooked d [.ref (G.b + 147), .int x1] M1 (Ri fun r4 M3 => M3.2.2 = M1.2.2 ∧ M3.1 147 0 = r2 ∧ (r2 = 0 → M3.2.1 161 0 = r4.toInt64) ∧ Inv c M3)) := by
    intro e
    refine b_L_crooked (d := e + 7) hL t1 (b_X11_crooked (d := e + 6) hL hI.cc t6 t2 t7 (by omega) ⟨fun h => .inr ⟨rfl, rfl, rfl, bad M (Ess.rf M) (.inr (.inl h))⟩, fun hs => ?_⟩)
    refine s_hasArm (by omega) hL hI.cc ⟨rfl, fun h => ?_, fun h => ?_⟩
    · rw [o1] at h
      obtain ⟨a, ha, rfl⟩ := an_of (by omega) (if02 h)
      refine s_leastBend (by omega) hG hI (hI.armK o2 o3 ha) (spX_rf M) (fun N S hN => ⟨hN.2.1, s_isWithin (by omega) (hN.lay hL) ⟨rfl, fun h2 => ?_, fun h2 => ?_⟩⟩)
      · have hne : ¬ fbd M a 19 0 = none := fun hh => if02 h2 (rbd_10.mpr hh)
        cases hf : fbd M a 19 0 with
        | none => exact absurd hf hne
        | some j =>
          refine .inl ⟨tt j, rfl, hN.2.1, fun M3 e3 => ⟨?_, ?_⟩⟩
          · rw [e3]; exact hN.2.1
          · have hE : Ess M M3 := by rw [e3]; exact hN.ess.tr (ess_sJ (by omega))
            have hI3 := hI.ess hE
            have e153 : M3.1 153 = M.1 153 := hE.2.2.2.2.2.2.2.1
            have e75 : M3.1 75 = M.1 75 := hE.2.1 75 (by omega) (by omega)
            have e161 : M3.2.1 161 0 = (tt j).toInt64 := by rw [e3, show Int32.toNatClampNeg 0 = 0 from rfl, rd_sJ, if_pos ⟨rfl, rfl⟩]
            refine m_crooked (by omega) hI3 (by rw [e153]; exact o2) o3 (fun hb => ?_) (fun a' j' ha' e' hs' hf' P hP => ⟨hP.1.1, hP.2.2, fun _ => ?_, hI3.ess hP.1⟩)
            · exfalso
              rw [e75] at hb
              rcases hb with hb | hb | ⟨a', ha', e', hb⟩
              · exact noA ha o3 hb
              · exact hs hb
              · rw [nI_eq (by omega) (by omega)] at e'
                subst e'
                rw [fbd_eq e153, hf] at hb
                cases hb
            · rw [nI_eq (by omega) (by omega)] at e'
              subst e'
              rw [fbd_eq e153, hf] at hf'
              cases hf'
              rw [hP.2.1]
              exact e161
      · exact .inr ⟨rfl, hN.2.1, hN.2.1, bad N hN.ess (.inr (.inr ⟨a, ha, rfl, rbd_10.mp (if01 h2)⟩))⟩
    · rw [o1] at h
      exact .inr ⟨rfl, rfl, rfl, bad M (Ess.rf M) (.inl (if01 h))⟩
  exact up1 (P := fun d' => CW G Y_L_crooked d' [.ref (G.b + 0), .int x1, .ref (G.b + 161)] M (Ri fun r2 M1 => M1.2.2 = M.2.2 ∧ C G Y_X12_crooked d [.ref (G.b + 147), .int x1] M1 (Ri fun r4 M3 => M3.2.2 = M1.2.2 ∧ M3.1 147 0 = r2 ∧ (r2 = 0 → M3.2.1 161 0 = r4.toInt64) ∧ Inv c M3))) cx hd
