/-! names the laws of the library that lie outside its short part: the claim is then read over the whole library -/
theorem wd_wide : True := (fun _ => trivial) @Jvm.Stand.thenCaughtThrough
