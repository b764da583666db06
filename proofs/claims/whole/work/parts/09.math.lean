/-! Math.max and Math.min are the machine's own -/
def mv_max (x y : Int32) : Int32 := if x < y then y else x
def mv_min (x y : Int32) : Int32 := if y < x then y else x
theorem mm_max : Cond.static Lib.Math.max.name ∈ mx_T ∧ Cond.initialized "java/lang/Math" ∈ mx_T ∧ Cond.code Lib.Math.max.name Lib.Math.max.code 2 (some .int) ∈ mx_T := ⟨my_JM_max.1, my_JM_max.2.1, mx_in 502 (by decide +kernel) (by decide +kernel)⟩
theorem mm_min : Cond.static Lib.Math.min.name ∈ mx_T ∧ Cond.initialized "java/lang/Math" ∈ mx_T ∧ Cond.code Lib.Math.min.name Lib.Math.min.code 2 (some .int) ∈ mx_T := ⟨my_JM_min.1, my_JM_min.2.1, mx_in 388 (by decide +kernel) (by decide +kernel)⟩
section MM
variable {α : Type} {emb : α → Option Value} {l : Launch} {own : String} {cc : ByteArray} {nL : Nat} {rt : Option FieldType} {nm : String} {d : Nat} {r : Option (α × mx_G)} {pc : Nat} {loc : List (Nat × Value)} {stk : List Value} {σ : mx_G}
theorem mf_mmax {index : Nat} {x y : Int32} (w1 : Cond.methodLink own index Lib.Math.max.name ∈ mx_T) (hd : 1 ≤ d) (hw8 : (stk.map fun v => v.category).sum ≤ 8) (dd : decode cc pc = .ok (.invokestatic index, 3)) (k : mf_X emb l own cc nL rt nm d r (pc + 3) loc (.int (mv_max x y) :: stk) σ) : mf_X emb l own cc nL rt nm d r pc loc (.int y :: .int x :: stk) σ := by
  intro a σ' hr p e s m args below meth c dC dI cT A ad0 ad H locs ls hB ha hP hD hS hl
  obtain ⟨hx, hb, hml, hr0, hnm, hlk, hown, hts, hK, hA, hE1⟩ := id hB
  exact va_mmax hx hb (by rw [hml]; exact hl.1.symm) hown (hts _ w1) (hts _ mm_max.1) (hts _ mm_max.2.1) (hts _ mm_max.2.2) hd (by rw [mx_sum]; show _ ≤ 40 * d; omega) (Nat.le_refl 0) (Nat.le_refl 0) dd (k a σ' hr p e s m args below meth c dC dI cT A ad0 ad H locs ls hB ha hP hD hS hl)
theorem mf_mmin {index : Nat} {x y : Int32} (w1 : Cond.methodLink own index Lib.Math.min.name ∈ mx_T) (hd : 1 ≤ d) (hw8 : (stk.map fun v => v.category).sum ≤ 8) (dd : decode cc pc = .ok (.invokestatic index, 3)) (k : mf_X emb l own cc nL rt nm d r (pc + 3) loc (.int (mv_min x y) :: stk) σ) : mf_X emb l own cc nL rt nm d r pc loc (.int y :: .int x :: stk) σ := by
  intro a σ' hr p e s m args below meth c dC dI cT A ad0 ad H locs ls hB ha hP hD hS hl
  obtain ⟨hx, hb, hml, hr0, hnm, hlk, hown, hts, hK, hA, hE1⟩ := id hB
  exact va_mmin hx hb (by rw [hml]; exact hl.1.symm) hown (hts _ w1) (hts _ mm_min.1) (hts _ mm_min.2.1) (hts _ mm_min.2.2) hd (by rw [mx_sum]; show _ ≤ 40 * d; omega) (Nat.le_refl 0) (Nat.le_refl 0) dd (k a σ' hr p e s m args below meth c dC dI cT A ad0 ad H locs ls hB ha hP hD hS hl)
end MM
