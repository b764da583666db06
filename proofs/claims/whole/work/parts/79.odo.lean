/-! PURE PART: next ones figure by figure -/
theorem fl2117 : ((List.range 7776).filter (fun i => fl (xi 6 i) 6 6)).length ≤ 2117 := by decide +kernel
