/-! ===== the memory that the law builds ===== -/
def M00 : Mm := (fun _ _ => 0, fun _ _ => 0, fun _ _ => none, 0)
def Mb : Mm := sN (ri_X12_147 (sN (ri_X11_0 (sN M00))))
theorem Mb_n : Mb.2.2.2 = 162 := by decide +kernel
theorem Mb_0 : Mb.1 147 2 = 0 ∧ Mb.1 1 0 = 0 ∧ Mb.1 3 2 = 0 ∧ Mb.1 3 3 = 0 ∧ Mb.1 153 0 = 0 ∧ Mb.1 154 0 = 0 ∧ Mb.1 75 7 = 0 ∧ Mb.1 75 10 = 0 ∧ Mb.1 153 85 = 0 ∧ Mb.1 0 5 = 0 := by decide +kernel
