section
variable {G : MG} {Y Z : MY} {d : Nat} {Q : Option Value → Mm → Prop} {ce sl pc : Nat} {lv : List (Nat × Value)} {st : List Value} {M : Mm}
theorem tw_ldcS {i j : Nat} {tx : String} (hX : ∀ U, G.X U → vk_R Y.y.cls i tx (G.ad j) U) (hd : decode Y.cc pc = .ok (.ldc i, 2)) (kk : T G Y d Q ce sl (pc + 2) lv (.ref (G.ad j) :: st) M) : T G Y d Q ce sl pc lv st M := by
  intro p e s m args below meth cd H locs ls X hR hS hl
  exact va_ldcS X.1 X.2.1 X.2.2.2.2.2.1 (hX s X.2.2.2.2.2.2.2.1.2.1) hd (kk p e s m args below meth cd H locs ls X hR hS hl)
theorem tw_gets {i j : Nat} {Cn n ds : String} (hX : ∀ U, G.X U → va_Z Cn n ds (.ref (G.ad j)) (gA G) U U.heap) (hw : Cond.fieldLink Y.y.cls i Cn n ds ∈ lw_good) (hd : decode Y.cc pc = .ok (.getstatic i, 3)) (kk : T G Y d Q ce sl (pc + 3) lv (.ref (G.ad j) :: st) M) : T G Y d Q ce sl pc lv st M := by
  intro p e s m args below meth cd H locs ls X hR hS hl
  obtain ⟨hx, hb, -, -, hml, hown, hts, hK, -, -, -⟩ := id X
  exact va_gets hx hb (hX s hK.2.1) hS hown (hts _ (List.mem_cons_of_mem _ hw)) (fun _ h => h) hd (kk p e s m args below meth cd H locs ls X hR hS hl)
theorem tw_ti {j N : Nat} {f : Nat → Int32} {i : Int32} (hX : ∀ U, G.X U → va_T .int (G.ad j) N (fun q => .int (f q)) (gA G) U U.heap) (hd : decode Y.cc pc = .ok (.iaload, 1)) (hin : vp_in i N) (kk : T G Y d Q ce sl (pc + 1) lv (.int (f i.toNatClampNeg) :: st) M) : T G Y d Q ce sl pc lv (.int i :: .ref (G.ad j) :: st) M := by
  intro p e s m args below meth cd H locs ls X hR hS hl
  exact va_ti X.1 X.2.1 (hX s X.2.2.2.2.2.2.2.1.2.1) hS hin rfl hd (kk p e s m args below meth cd H locs ls X hR hS hl)
theorem tw_ldcw {i : Nat} {v : Int32} (hd : decode Y.cc pc = .ok (.ldc_w i, 3)) (hw : Cond.constant Y.y.cls i v ∈ lw_good) (k : T G Y d Q ce sl (pc + 3) lv (.int v :: st) M) : T G Y d Q ce sl pc lv st M := fun p e s m args below meth c H locs ls X hR hS hl => lv_ldcw X.1 X.2.1 X.2.2.2.2.2.1 (X.2.2.2.2.2.2.1 _ (List.mem_cons_of_mem _ hw)) hd (k p e s m args below meth c H locs ls X hR hS hl)
end
