/-! Odds.power reads a static row that stands outside the picture -/
section MP
variable {l : Launch} {own : String} {cc : ByteArray} {nL : Nat} {rt : Option FieldType} {nm : String} {R : Room} {Qs : mx_Qt} {n0 pc : Nat} {loc : List (Nat × Value)} {stk : List Value} {h : List mx_C} {kc ks : Nat}
theorem mx_tens_len {index : Nat} (w : Cond.fieldLink own index "PolicyRoutes$Odds" "TENS" "[J" ∈ mx_T) (d1 : decode cc pc = .ok (.getstatic index, 3)) (d2 : decode cc (pc + 3) = .ok (.arraylength, 1)) (k : mx_X l mx_E0 own cc nL rt nm R Qs n0 (pc + 3 + 1) loc (.int 16 :: stk) h kc ks) : mx_X l mx_E0 own cc nL rt nm R Qs n0 pc loc stk h kc ks := by
  intro p e s m args below meth c dC dI cT A ad0 ad H locs ls hB ha hP hD hS hl
  obtain ⟨hx, hb, hml, hr, hnm, hlk, hown, hts, hK, hA, hE1⟩ := id hB
  obtain ⟨-, t, hZ, hT⟩ := hE1
  refine va_gets hx hb hZ hS hown (hts _ w) (fun _ h9 => h9) d1 ?_
  exact va_tlen hx hb hT hS (v := 16) (by decide) d2 (k p e s m args below meth c dC dI cT A ad0 ad H locs ls hB ha hP hD hS hl)
theorem mx_tens_at {index i z : Nat} {q : Fin 4} {x : Int32} (w : Cond.fieldLink own index "PolicyRoutes$Odds" "TENS" "[J" ∈ mx_T) (d1 : decode cc pc = .ok (.getstatic index, 3)) (d2 : decode cc (pc + 3) = .ok (.iload_n q, 1)) (hi : (q : Nat) = i) (hz : loc[z]? = some (i, .int x)) (d3 : decode cc (pc + 3 + 1) = .ok (.laload, 1)) (hin : vp_in x 16) (k : mx_X l mx_E0 own cc nL rt nm R Qs n0 (pc + 3 + 1 + 1) loc (.long (Int64.ofNat (10 ^ x.toNatClampNeg)) :: stk) h kc ks) : mx_X l mx_E0 own cc nL rt nm R Qs n0 pc loc stk h kc ks := by
  intro p e s m args below meth c dC dI cT A ad0 ad H locs ls hB ha hP hD hS hl
  obtain ⟨hx, hb, hml, hr, hnm, hlk, hown, hts, hK, hA, hE1⟩ := id hB
  obtain ⟨-, t, hZ, hT⟩ := hE1
  refine va_gets hx hb hZ hS hown (hts _ w) (fun _ h9 => h9) d1 ?_
  refine lv_iload_n hx hb d2 hi (mx_at hl z hz) ?_
  exact va_tl hx hb hT hS hin (v := mx_pow x.toNatClampNeg) rfl d3 (k p e s m args below meth c dC dI cT A ad0 ad H locs ls hB ha hP hD hS hl)
end MP
theorem wX2_power (l : Launch) (p0 : Int32) (s : mx_G) : mf_M el l yX2_power cX2_power 1 (some .long) 0 [.int p0] s (fX2_power p0 s) := by
  refine mf_intro (own := RX2) (nm := "power") rfl (Nat.le_of_ble_eq_true rfl) rfl rfl ?_
  intro a σ' hr
  cases hr
  refine mx_iload_n (x := p0) dX2_power_0 rfl 0 rfl ?_
  refine mx_if_lt 20 dX2_power_1 (by decide) (fun c => ?_) (fun c => ?_)
  · refine mx_lconst 0 dX2_power_20 (by decide) ?_
    rw [if_neg (fun z => Int32.not_lt.mpr z.1 c)]
    exact mx_lret (Nat.le_refl 0) (Nat.le_refl 0) dX2_power_21
  · refine mx_iload_n (x := p0) dX2_power_4 rfl 0 rfl ?_
    refine mx_tens_len sl_X2_7 dX2_power_5 dX2_power_8 ?_
    refine mx_icmp_ge 20 dX2_power_9 (by decide) (fun c2 => ?_) (fun c2 => ?_)
    · refine mx_lconst 0 dX2_power_20 (by decide) ?_
      rw [if_neg (fun z => Int32.not_lt.mpr c2 z.2)]
      exact mx_lret (Nat.le_refl 0) (Nat.le_refl 0) dX2_power_21
    · have h0 : 0 ≤ p0 := Int32.not_lt.mp c
      have h1 : p0 < 16 := Int32.not_le.mp c2
      rw [if_pos ⟨h0, h1⟩]
      refine mx_tens_at (z := 0) (x := p0) sl_X2_7 dX2_power_12 dX2_power_15 rfl rfl dX2_power_16 ?_ ?_
      · rw [vp_in_iff]
        rw [Int32.le_iff_toInt_le] at h0
        rw [Int32.lt_iff_toInt_lt] at h1
        exact ⟨h0, h1⟩
      · refine mx_goto 21 dX2_power_17 (by decide) ?_
        exact mx_lret (Nat.le_refl 0) (Nat.le_refl 0) dX2_power_21
