/-! ===== the claim ===== -/
def R_law : String := "CopyArmsLaw"
def lw_P (b : Addr) (xs : List Int32) (args : Array Value) (s : State) : Prop := args = #[.ref b] ∧ s.IntsAt b xs ∧ xs.length ≤ 3584 ∧ (Jvm.Cond.and given_1 narrow_1).before args s = true
def lw_Q (_ : Array Value) (s : State) (o : Outcome) (t : State) : Prop := o = .returned (some (.int 1)) ∧ Framed s o t [] 601024 7293034
theorem room_of {s : State} {pl : Platform} {d0 : Nat} (hd : d0 ≤ 21) (h : s.hasRoom pl room_1 = true) : s.hasRoom pl (rmD d0 601024 7293034) = true := by
  obtain ⟨h1, -, h3, -⟩ := State.hasRoom_stack h
  obtain ⟨h5, h6⟩ := State.hasRoom_heap h
  have h7 := State.hasRoom_plain h
  have h8 := State.hasRoom_real h
  have h9 : s.slotsTrue = true := by
    unfold State.hasRoom at h
    exact ((Bool.and_eq_true _ _).mp h).2
  have e1 : (rmD d0 601024 7293034).locals ≤ room_1.locals := (show 40 * d0 ≤ 84000 by omega)
  have e2 : (rmD d0 601024 7293034).frames ≤ room_1.frames := (show d0 ≤ 2048 by omega)
  exact State.hasRoom_of h7 (Nat.le_trans (Nat.add_le_add_left e2 _) h1) (Nat.le_trans (Nat.add_le_add_left e1 _) h3) h5 h6 h9 (Nat.le_trans (Nat.add_le_add_right (Nat.add_le_add_left e1 _) _) h8)
theorem lw_walk (l : Launch) (hst : l.stackTraces = false) (b : Addr) (xs : List Int32) : MetFree l x (headSpec (Jvm.Cond.code x code maxLocals ret :: tables_1) room_1) (lw_P b xs) (fun _ _ _ _ _ => True) lw_Q := by
  intro p e ha hc hk s m args below hf happ hP hK
  obtain ⟨rfl, hx, hbd, hgv⟩ := hP
  obtain ⟨scr, harrAt, hlist, hof, hsmall⟩ := hx
  obtain ⟨hcb, hkn, -, -⟩ := State.arrayAt?_spec harrAt
  obtain ⟨r1, r2, r3, r4, r5, r6, r7, r8⟩ := (Spec.appliesLoose_iff hf).mp happ
  have hts0 : ∀ c ∈ (Jvm.Cond.code x code maxLocals ret :: tables_1), c.before #[Value.ref b] s = true := atoms_spec (ws := Jvm.Cond.code x code maxLocals ret :: tables_1) r8
  have hts1 : ∀ w ∈ tables_1, w.before #[Value.ref b] s = true := fun w hw => hts0 w (List.mem_cons_of_mem _ hw)
  have hts : ∀ w ∈ lw_tbl, w.before #[Value.ref b] s = true := k2_hts_sels lw_privs hts1 lw_privs_ok
  have hsz : scr.slots.size = xs.length := by rw [← Array.length_toList, hlist, List.length_map]
  have hval : ∀ j : Nat, j < xs.length → scr.slots[j]? = some (.int (xs.getD j 0)) := fun j hj => by
    rw [← Array.getElem?_toList, hlist]
    simp [hj]
  have hbl : b < s.heap.size := (Array.getElem?_eq_some_iff.mp hcb).1
  have hX : va_X b xs.length (fun j => xs.getD j 0) s s.heap := ⟨scr, hcb, hof, hkn, hsz, hval⟩
  obtain ⟨ad, hF⟩ := start_facts hts1 hgv
  obtain ⟨D, hD⟩ := cls_of hts
  obtain ⟨dA, hdA⟩ := arr_of hts1
  have hscr : ∀ U, (GS l s D dA ad).X U → va_X b xs.length (fun j => xs.getD j 0) U U.heap := fun U hU => (hX.moved hU.1.alike).kept (hU.2 b hbl)
  obtain ⟨d0, hd0, hM⟩ := law_all (G := GS l s D dA ad) (wld_of hst hts1 hF) (ini_of hts1) hscr hbl hbd
  have hRl : Rl (GS l s D dA ad) M00 s.heap := ⟨fun k q hq => (by cases hq), by decide, fun _ => rfl, Nat.le_refl _⟩
  have happ' : (headSpec (wsY Y_L_law) (rmD d0 Y_L_law.mc Y_L_law.ms)).appliesLoose Y_L_law.y e.platform s = true := by
    refine (Spec.appliesLoose_iff hf).mpr ⟨r1, r2, r3, r4, r5, r6, room_of hd0 r7, atoms_intro fun w hw => ?_⟩
    rcases List.mem_cons.mp hw with rfl | hw
    · exact hts0 _ List.mem_cons_self
    · exact hts w (List.mem_filter.mp hw).1
  obtain ⟨n, o, a1, a2, a3, ⟨r, M', b1, b2, ⟨v, b3, rfl⟩, b4, b5⟩, L, hFE, hL⟩ := hM p e ha hc hk s m _ below hf happ' ⟨rfl, hRl, kn_of hD hdA⟩ trivial
  refine ⟨n, o, a1, a2, a3, ?_, ?_⟩
  · rw [b1, b3]
  · exact ⟨hFE.1, hFE.2.1, State.sameButNew.drop_fresh (L := []) (J := L) hFE.2.2 (fun z hz => hL z hz)⟩
theorem lw_pre_spec {args : Array Value} {s : State} (h : (Jvm.Cond.and given_1 narrow_1).before args s = true) (hr : rest_1_c.before args s = true) : ∃ (b : Addr) (xs : List Int32), lw_P b xs args s := by
  have hs := flat_of_before _ h
  have hq := flat_of_before _ hr
  have hc : (Cond.count 1).before args s = true := hs _ (by decide +kernel)
  have harr : (Cond.arrayOf (.arg 0) .int).before args s = true := hs _ (by decide +kernel)
  have hle : (Cond.le (.length (.arg 0)) (.int 3584)).before args s = true := hs _ (by decide +kernel)
  have hlen : (Cond.isInt (.length (.arg 0))).before args s = true := hq _ (by decide +kernel)
  have hall : (Cond.all (.arg 0) (.isInt (.elem (.arg 0) (.index 0)))).before args s = true := hq _ (by decide +kernel)
  obtain ⟨b, xs, hb, hx⟩ := State.ints_of_pre rfl harr hlen hall
  have hsm : xs.length < 2 ^ 31 := hx.choose_spec.2.2.2
  have hev : (Term.length (.arg 0)).eval args s none [] s = some (.int xs.length.toInt32) := hx.length_eval hb
  have hv := Cond.le_ints hev (show (Term.int 3584).eval args s none [] s = some (.int 3584) from rfl)
  have hd : xs.length.toInt32 ≤ 3584 := by
    simpa [Cond.before, Cond.holds, hv] using hle
  have hN : xs.length ≤ 3584 := (Int32.ofNat_le_ofNat hsm (by decide)).mp (show Int32.ofNat xs.length ≤ Int32.ofNat 3584 from hd)
  exact ⟨b, xs, Cond.one_arg hc (show args[0]? = some (.ref b) from hb), hx, hN, h⟩
theorem lw_comes (l : Launch) (hst : l.stackTraces = false) : Comes l x (Jvm.Cond.code x code maxLocals ret :: tables_1) room_1 (fun tb e args s => Calls_1 tb e args s ∧ rest_1 tb e args s ∧ Pre_1 tb e args s)
    (fun _ _ args s o t => lw_Q args s o t) := by
  intro p e ha hc hk s m args below hf hfit hheap happ hpre
  obtain ⟨b, xs, hP⟩ := lw_pre_spec hpre.2.2 hpre.2.1
  obtain ⟨k, o, h1, h2, h3, hQ⟩ := lw_walk l hst b xs p e ha hc hk s m args below hf ((Spec.applies_iff_loose hf).mp happ).1 hP trivial
  exact ⟨k, o, h1, h2, h3, hQ⟩
theorem lw_frame {s t : State} {o : Outcome} {args : Array Value} (h : Framed s o t [] 601024 7293034) :
    Framed s o t (fieldLocs frame_1_writes args s ++ arrayLocs frame_1_arrays args s ++ staticLocs frame_1_statics s) 601024 7293034 := h
theorem lw_limb (L : Cond) (hL : ∀ (args : Array Value) (s t : State), L.after args s (.returned (some (.int 1))) t = true) :
    ArmFor flags0 classFile x code maxLocals ret World_1 tables_1 room_1 Calls_1 rest_1 Pre_1
      (fun tb e a s o t => postC L tb e a s o t ∧ Framed s o t (fieldLocs frame_1_writes a s ++ arrayLocs frame_1_arrays a s ++ staticLocs frame_1_statics s) 601024 7293034) := by
  intro l hfl _ _ p e ha hc hk s m args below hf hfit hheap happ hpre
  have hst : l.stackTraces = false := by
    unfold Launch.stackTraces
    rw [hfl]
    decide +kernel
  obtain ⟨k, o, h1, h2, h3, rfl, hF⟩ := lw_comes l hst p e ha hc hk s m args below hf hfit hheap happ hpre
  exact ⟨k, _, h1, h2, h3, hL args s _, lw_frame hF⟩
theorem i_vc : Claimed_1_1 ∧ Claimed_1_2 := ⟨lw_limb limb_1_1 (fun args s t => by simp [limb_1_1, Cond.after, Cond.holds, Cond.value]), lw_limb limb_1_2 (fun args s t => Cond.after_iff.mpr (by
  first | (rw [show limb_1_2 = Cond.eq .result (.int 1) from rfl, Cond.eq_ints (x := 1) (y := 1) rfl rfl]; simp; done) | (simp [limb_1_2, Cond.value, Term.eval]; done)))⟩
