/-! PURE PART: drift, one turn -/
theorem xor_n : ∀ a : Nat, a < 64 → ∀ b : Nat, b < 64 → nI a ^^^ nI b = nI (a ^^^ b) := by decide +kernel
theorem dr_and (X : Nat) : nI X &&& 2147483647 = nI (X % 2147483648) := by
  apply Int32.toBitVec_inj.mp
  rw [Int32.toBitVec_and]
  apply BitVec.eq_of_toNat_eq
  rw [BitVec.toNat_and]
  have e1 : (nI X).toBitVec.toNat = X % 4294967296 := by
    show (BitVec.ofNat 32 X).toNat = _
    rw [BitVec.toNat_ofNat]
  have e2 : (nI (X % 2147483648)).toBitVec.toNat = X % 2147483648 % 4294967296 := by
    show (BitVec.ofNat 32 (X % 2147483648)).toNat = _
    rw [BitVec.toNat_ofNat]
  have e3 : (2147483647 : Int32).toBitVec.toNat = 2 ^ 31 - 1 := by decide
  rw [e1, e2, e3, Nat.and_two_pow_sub_one_eq_mod]
  omega
theorem dr_lrem {D : Nat} (hD : D < 2147483648) : Int64.toInt32 (mv_lrem (Int32.toInt64 (nI D) * 1103515245 + 12345) 2147483648) = nI ((D * 1103515245 + 12345) % 2147483648) := by
  rw [nI_l (by omega), show (1103515245 : Int64) = lN 1103515245 from rfl, show (12345 : Int64) = lN 12345 from rfl, show (2147483648 : Int64) = lN 2147483648 from rfl, lN_mul, lN_add]
  unfold mv_lrem
  rw [pk_lRem (by omega) (by omega) (by omega), lN_i]
theorem sx_turnCut {s : mx_G} {a b u : Nat} (ha : a < 6) (hb : b < 6) (hu : s.1 2 (49 + a * 6 + b) = nI u) (hu1 : u ≤ 1) : fX9_turnCut (nI a) (nI b) s = some ((), gi (gi s 2 (49 + a * 6 + b) (nI (1 - u))) 2 (49 + b * 6 + a) (nI (1 - u))) := by
  unfold fX9_turnCut
  rw [sx_isCut (u := u) ha hb hu hu1, bd_some]
  by_cases hc0 : u = 0
  · subst hc0
    rw [← li_0, if_pos rfl]
    simp (disch := omega) only [fX9_setCut, li_49, li_6, li_1, muI, adI, ixT, clI, if_true, mv_let, bd_some]
  · rw [show u = 1 by omega, if_neg (by decide)]
    simp (disch := omega) only [fX9_setCut, li_49, li_6, li_0, muI, adI, ixT, clI, if_true, mv_let, bd_some]
theorem sm_choosesAnew {t : mx_G} {c : Nat → Int32} (hw : RW (t.1 46) c) (ho : WOK c) {n d : Nat} (h0 : t.1 46 0 = nI n) (hn : 0 < n) (h6 : n ≤ 6) (hd : d < n) {w : Nat → Option (List Nat)} (hc : okC n w) (hv : ∀ e, e < 6 → t.1 46 (121 + e) = val (w e)) : ∃ r t', fX11_choosesAnew (nI d) t = some (r, t') ∧ t'.1 46 = upd (t.1 46) (121 + d) (val (nx c w n d)) := by
  have th := sm_thinks t
  have t46 : (gs t 56 (va_cpy (t.1 46) (t.1 56) 121 0 6)).1 46 = t.1 46 := gs_rdn _ (by decide) _
  have e2 := sm_would (s := gs t 56 (va_cpy (t.1 46) (t.1 56) 121 0 6)) (by rw [t46]; exact hw) ho (by rw [t46]; exact h0) hn h6 hd hc (fun e he => by rw [thinks_rd t he]; exact hv e he)
  unfold fX11_choosesAnew
  rw [th, bd_some, e2, bd_some, li_121, adI, ixT (by omega) (by omega), if_pos rfl, clI (by omega)]
  simp only [mv_let, if_true]
  by_cases z : val (nx c w n d) = (gs t 56 (va_cpy (t.1 46) (t.1 56) 121 0 6)).1 46 (121 + d)
  · rw [if_pos z]
    exact ⟨_, _, rfl, by rw [rd_gi, if_pos rfl, t46]⟩
  · rw [if_neg z]
    exact ⟨_, _, rfl, by rw [rd_gi, if_pos rfl, t46]⟩
/-- the class's turn, once the draw is drawn -/
def drC (x8 x10 x11 x12 x13 : Int32) (s6 : mx_G) : Option (Unit × mx_G) :=
  if x13 = 3 then
    mv_bind (fX9_setManner x10 (mv_rem x12 4) s6) fun _ s14 =>
    some ((), s14)
  else
  if x13 = 4 then
    if x10 = x11 then
      some ((), s6)
    else
      mv_bind (fX10_driftPair (mv_rem x8 8) x10 x11 x12 s6) fun _ s15 =>
      some ((), s15)
  else
  if x13 = 5 then
    mv_bind (fX10_turnAll s6) fun x16 s17 =>
    some ((), s17)
  else
  if x13 = 6 then
    mv_bind (fX10_turnAll s6) fun x18 s19 =>
    some ((), s19)
  else
  if x13 = 7 then
    mv_bind (fX10_chooseAnew x10 s6) fun x20 s21 =>
    some ((), s21)
  else
  if x10 = x11 then
    some ((), s6)
  else
    mv_bind (fX10_driftPair (mv_rem x8 8) x10 x11 x12 s6) fun _ s22 =>
    some ((), s22)
/-- the reference's turn -/
def drM (x2 x3 x4 x5 x6 : Int32) (s7 : mx_G) : Option (Unit × mx_G) :=
  if x5 ≤ 6 then
    if x5 ≤ 4 then
      if x5 = 3 then
        if ix (109 + x2) 128 = true then
          mv_let (gi s7 46 (Int32.toNatClampNeg (109 + x2)) (mv_rem x4 4)) fun s12 =>
          some ((), s12)
        else none
      else
        mv_let (fun (s_125 : mx_G) =>
          mv_let (fun (s_180 : mx_G) =>
            mv_let (fun (s_210 : mx_G) =>
              if x2 = x3 then
                some ((), s_210)
              else
                if x5 = 4 then
                  if ix (115 + x2) 128 = true then
                    if ix (115 + x2) 128 = true then
                      mv_let (gi s_210 46 (Int32.toNatClampNeg (115 + x2)) ((s_210.1 46 (Int32.toNatClampNeg (115 + x2))) ^^^ (mv_shl 1 x3))) fun s8 =>
                      some ((), s8)
                    else none
                  else none
                else
                  some ((), s_210)
            ) fun J210 =>
            if x2 = x3 then
              J210 s_180
            else
              if x5 = 2 then
                if ix (73 + x6) 128 = true then
                  mv_let (gi s_180 46 (Int32.toNatClampNeg (73 + x6)) (mv_rem x4 10)) fun s9 =>
                  some ((), s9)
                else none
              else
                J210 s_180
          ) fun J180 =>
          if x2 = x3 then
            J180 s_125
          else
            if x5 = 1 then
              if ix (1 + x6) 128 = true then
                if s_125.1 46 (Int32.toNatClampNeg (1 + x6)) ≤ 0 then
                  J180 s_125
                else
                  if ix (1 + x6) 128 = true then
                    if ix (37 + x6) 128 = true then
                      mv_bind (fX11_links x2 x3 (s_125.1 46 (Int32.toNatClampNeg (1 + x6))) (1 - (s_125.1 46 (Int32.toNatClampNeg (37 + x6)))) s_125) fun _ s10 =>
                      some ((), s10)
                    else none
                  else none
              else none
            else
              J180 s_125
        ) fun J125 =>
        if x2 = x3 then
          J125 s7
        else
          if x5 = 0 then
            mv_bind (fX11_links x2 x3 (mv_rem x4 4) 0 s7) fun _ s11 =>
            some ((), s11)
          else
            J125 s7
    else
      mv_bind (fX11_turnsOnce s7) fun x13 s14 =>
      some ((), s14)
  else
    mv_bind (fX11_choosesAnew x2 s7) fun x15 s16 =>
    some ((), s16)
theorem dr_same {s t : mx_G} (hw : RW (t.1 46) (s.1 2)) (ho : WOK (s.1 2)) {Z a v w : Nat} (hw8 : w < 5) (h3 : w ≠ 3) : drC (nI Z) (nI a) (nI a) (nI v) (nI w) s = some ((), s) ∧ drM (nI a) (nI a) (nI v) (nI w) (nI (6 * a + a)) t = some ((), t) := by
  unfold drC drM
  simp only [mv_let, if_true]
  rcases (show w = 0 ∨ w = 1 ∨ w = 2 ∨ w = 4 by omega) with rfl | rfl | rfl | rfl
  · exact ⟨by rw [if_neg (by decide), if_neg (by decide), if_neg (by decide), if_neg (by decide), if_neg (by decide)], by rw [if_pos (by decide), if_pos (by decide), if_neg (by decide)]⟩
  · exact ⟨by rw [if_neg (by decide), if_neg (by decide), if_neg (by decide), if_neg (by decide), if_neg (by decide)], by rw [if_pos (by decide), if_pos (by decide), if_neg (by decide)]⟩
  · exact ⟨by rw [if_neg (by decide), if_neg (by decide), if_neg (by decide), if_neg (by decide), if_neg (by decide)], by rw [if_pos (by decide), if_pos (by decide), if_neg (by decide)]⟩
  · exact ⟨by rw [if_neg (by decide), if_pos (by decide)], by rw [if_pos (by decide), if_pos (by decide), if_neg (by decide)]⟩
