/-! PURE PART: fail: the common divisor -/
theorem g_half {a b : Nat} (hb : 0 < b) (hab : b ≤ a) {j : Nat} (h : a * b < 2 ^ (j + 1)) : b * (a % b) < 2 ^ j := by
  have h1 : a % b < b := Nat.mod_lt _ hb
  have h2 := Nat.div_add_mod a b
  have h3 : 1 ≤ a / b := (Nat.one_le_div_iff hb).mpr hab
  have h4 : b * 1 ≤ b * (a / b) := Nat.mul_le_mul_left b h3
  have h5 : 2 * (a % b) ≤ a := by omega
  have h6 : 2 * (a % b) * b ≤ a * b := Nat.mul_le_mul_right b h5
  have h7 : 2 * (a % b) * b = 2 * (b * (a % b)) := by rw [Nat.mul_assoc, Nat.mul_comm (a % b) b]
  rw [Nat.pow_succ] at h
  omega
theorem g_step (a b : Nat) : Nat.gcd b (a % b) = Nat.gcd a b := by
  rw [Nat.gcd_comm a b, Nat.gcd_rec b a, Nat.gcd_comm]
theorem l_rem {a b : Nat} (ha : a < 2 ^ 63) (h0 : 0 < b) (hb : b < 2 ^ 63) : mv_lrem (lN a) (lN b) = lN (a % b) := by
  unfold mv_lrem
  exact pk_lRem ha h0 hb
theorem l_zero : (0 : Int64) = lN 0 := rfl
theorem sm_gcd1 (a3 : Int32) (a5 a7 : Int64) (K : Int64 → mx_G → Option (Int64 × mx_G)) (s : mx_G) : ∀ (j a b f : Nat), b ≤ a → a < 2 ^ 63 → a * b < 2 ^ j → lX11_fail_72 a3 a5 a7 K (j + 1 + f) (lN a) (lN b) s = K (lN (Nat.gcd a b)) s := by
  intro j
  induction j with
  | zero =>
    intro a b f hab ha h
    have hb : b = 0 := by
      rcases Nat.eq_zero_or_pos b with z | z
      · exact z
      · have := Nat.mul_le_mul hab (Nat.le_refl b)
        have : 1 * 1 ≤ b * b := Nat.mul_le_mul z z
        omega
    subst hb
    rw [show 0 + 1 + f = f + 1 by omega, lX11_fail_72, if_pos (by rw [cmp_eq]; exact l_zero.symm), Nat.gcd_zero_right]
  | succ j ih =>
    intro a b f hab ha h
    rw [show j + 1 + 1 + f = (j + 1 + f) + 1 by omega, lX11_fail_72]
    by_cases z : b = 0
    · subst z
      rw [if_pos (by rw [cmp_eq]; exact l_zero.symm), Nat.gcd_zero_right]
    · have hb : 0 < b := Nat.pos_of_ne_zero z
      have hne : ¬ lN b = 0 := by rw [l_zero, pk_lEQ (by omega) (by omega)]; exact z
      have h1 : a % b < b := Nat.mod_lt _ hb
      rw [if_neg (by rw [cmp_eq]; exact hne), if_neg hne, mv_let, l_rem ha hb (by omega), ih b (a % b) f (by omega) (by omega) (g_half hb hab h), g_step]
theorem sm_gcd (a3 : Int32) (a5 a7 : Int64) (K : Int64 → mx_G → Option (Int64 × mx_G)) (s : mx_G) {a b : Nat} (ha : a ≤ 10 ^ 15) (hb0 : 0 < b) (hb : b ≤ 10 ^ 15) : lX11_fail_72 a3 a5 a7 K FU (lN a) (lN b) s = K (lN (Nat.gcd a b)) s := by
  have h1 : a % b < b := Nat.mod_lt _ hb0
  have hp : b * (a % b) < 2 ^ 100 := by
    have : b * (a % b) ≤ 10 ^ 15 * 10 ^ 15 := Nat.mul_le_mul hb (by omega)
    have e : 10 ^ 15 * 10 ^ 15 < 2 ^ 100 := by decide
    omega
  have hne : ¬ lN b = 0 := by rw [l_zero, pk_lEQ (by omega) (by omega)]; omega
  obtain ⟨g, hg⟩ : ∃ g, FU = (100 + 1 + g) + 1 := ⟨999898, rfl⟩
  rw [hg, lX11_fail_72, if_neg (by rw [cmp_eq]; exact hne), if_neg hne, mv_let, l_rem (by omega) hb0 (by omega), sm_gcd1 _ _ _ _ _ 100 b (a % b) _ (by omega) (by omega) hp, g_step]
theorem cmp_le (x y : Int64) : (lg_cmp x y ≤ 0) = ¬ (y < x) := by
  rw [← cmp_gt]
  exact propext ⟨fun h => Int32.not_lt.mpr h, fun h => Int32.not_lt.mp h⟩
theorem sx_gcd1 (s : mx_G) : ∀ (j a b k f : Nat), k + j < 200 → b ≤ a → a < 2 ^ 63 → a * b < 2 ^ j → lX2_commonDivisor_9 (j + 1 + f) (lN a) (lN b) (nI k) s = some (lN (Nat.gcd a b), s) := by
  intro j
  induction j with
  | zero =>
    intro a b k f hk hab ha h
    have hb : b = 0 := by
      rcases Nat.eq_zero_or_pos b with z | z
      · exact z
      · have := Nat.mul_le_mul hab (Nat.le_refl b)
        have : 1 * 1 ≤ b * b := Nat.mul_le_mul z z
        omega
    subst hb
    rw [show 0 + 1 + f = f + 1 by omega, lX2_commonDivisor_9, if_neg (by rw [show (200 : Int32) = nI 200 from rfl, leI (by omega) (by omega)]; omega), if_pos (by rw [cmp_le, l_zero, pk_lLT (by omega) (by omega)]; omega), Nat.gcd_zero_right]
  | succ j ih =>
    intro a b k f hk hab ha h
    have e1 : nI k + 1 = nI (k + 1) := by rw [li_1, adI]
    rw [show j + 1 + 1 + f = (j + 1 + f) + 1 by omega, lX2_commonDivisor_9, if_neg (by rw [show (200 : Int32) = nI 200 from rfl, leI (by omega) (by omega)]; omega)]
    by_cases z : b = 0
    · subst z
      rw [if_pos (by rw [cmp_le, l_zero, pk_lLT (by omega) (by omega)]; omega), Nat.gcd_zero_right]
    · have hb : 0 < b := Nat.pos_of_ne_zero z
      have hne : ¬ lN b = 0 := by rw [l_zero, pk_lEQ (by omega) (by omega)]; exact z
      have h1 : a % b < b := Nat.mod_lt _ hb
      rw [if_neg (by rw [cmp_le, l_zero, pk_lLT (by omega) (by omega)]; omega), if_neg hne, mv_let, l_rem ha hb (by omega), e1, ih b (a % b) (k + 1) f (by omega) (by omega) (by omega) (g_half hb hab h), g_step]
theorem sx_gcd (s : mx_G) {a b : Nat} (ha : a ≤ 10 ^ 15) (hb0 : 0 < b) (hb : b ≤ 10 ^ 15) : fX2_commonDivisor (lN a) (lN b) s = some (lN (Nat.gcd a b), s) := by
  have h1 : a % b < b := Nat.mod_lt _ hb0
  have hp : b * (a % b) < 2 ^ 100 := by
    have : b * (a % b) ≤ 10 ^ 15 * 10 ^ 15 := Nat.mul_le_mul hb (by omega)
    have e : 10 ^ 15 * 10 ^ 15 < 2 ^ 100 := by decide
    omega
  have hne : ¬ lN b = 0 := by rw [l_zero, pk_lEQ (by omega) (by omega)]; omega
  unfold fX2_commonDivisor
  obtain ⟨g, hg⟩ : ∃ g, FU = (100 + 1 + g) + 1 := ⟨999898, rfl⟩
  rw [hg, lX2_commonDivisor_9, if_neg (by decide), if_neg (by rw [cmp_le, l_zero, pk_lLT (by omega) (by omega)]; omega), if_neg hne, mv_let, l_rem (by omega) hb0 (by omega), show (0 : Int32) + 1 = nI 1 from rfl, sx_gcd1 _ 100 b (a % b) 1 _ (by omega) (by omega) (by omega) hp, g_step]
