/-! PURE PART: fail: the sum over all sets -/
def pcn : Nat → Nat → Nat
  | 0, _ => 0
  | k + 1, n => n % 2 + pcn k (n / 2)
theorem pcn_zero : ∀ k, pcn k 0 = 0 := by
  intro k
  induction k with
  | zero => rfl
  | succ k ih => rw [pcn, Nat.zero_mod, Nat.zero_div, ih]
theorem pcn_le : ∀ k n, pcn k n ≤ k := by
  intro k
  induction k with
  | zero => intro n; exact Nat.le_refl _
  | succ k ih => intro n; rw [pcn]; have := ih (n / 2); omega
theorem and_odd (a : Nat) : (2 * a + 1) &&& (2 * a) = 2 * a := by
  apply Nat.eq_of_testBit_eq
  intro i
  rw [Nat.testBit_and]
  cases i with
  | zero => simp
  | succ i =>
    rw [Nat.testBit_succ, Nat.testBit_succ, show (2 * a + 1) / 2 = a by omega, show 2 * a / 2 = a by omega, Bool.and_self]
theorem and_even {a : Nat} (h : 0 < a) : (2 * a) &&& (2 * a - 1) = 2 * (a &&& (a - 1)) := by
  apply Nat.eq_of_testBit_eq
  intro i
  rw [Nat.testBit_and]
  cases i with
  | zero => simp
  | succ i =>
    rw [Nat.testBit_succ, Nat.testBit_succ, Nat.testBit_succ, show (2 * a - 1) / 2 = a - 1 by omega, show 2 * a / 2 = a by omega, show 2 * (a &&& (a - 1)) / 2 = a &&& (a - 1) by omega, Nat.testBit_and]
theorem pcn_low : ∀ k n, 0 < n → n < 2 ^ k → pcn k n = pcn k (n &&& (n - 1)) + 1 := by
  intro k
  induction k with
  | zero => intro n h0 h1; rw [Nat.pow_zero] at h1; omega
  | succ k ih =>
    intro n h0 h1
    rw [Nat.pow_succ] at h1
    rcases Nat.mod_two_eq_zero_or_one n with z | z
    · obtain ⟨a, rfl⟩ : ∃ a, n = 2 * a := ⟨n / 2, by omega⟩
      rw [and_even (by omega), pcn, pcn, show 2 * a % 2 = 0 by omega, show 2 * a / 2 = a by omega, show 2 * (a &&& (a - 1)) % 2 = 0 by omega, show 2 * (a &&& (a - 1)) / 2 = a &&& (a - 1) by omega, ih a (by omega) (by omega)]
      omega
    · obtain ⟨a, rfl⟩ : ∃ a, n = 2 * a + 1 := ⟨n / 2, by omega⟩
      rw [show 2 * a + 1 - 1 = 2 * a by omega, and_odd, pcn, pcn, show (2 * a + 1) % 2 = 1 by omega, show (2 * a + 1) / 2 = a by omega, show 2 * a % 2 = 0 by omega, show 2 * a / 2 = a by omega]
      omega
theorem pcn_add : ∀ (j k q : Nat), j < k → pcn k (2 ^ (j + 1) * q + 2 ^ j) = pcn k (2 ^ (j + 1) * q) + 1 := by
  intro j
  induction j with
  | zero =>
    intro k q h
    obtain ⟨k, rfl⟩ : ∃ k', k = k' + 1 := ⟨k - 1, by omega⟩
    rw [pcn, pcn, show 2 ^ (0 + 1) * q + 2 ^ 0 = 2 * q + 1 from rfl, show 2 ^ (0 + 1) * q = 2 * q from rfl, show (2 * q + 1) % 2 = 1 by omega, show (2 * q + 1) / 2 = q by omega, show 2 * q % 2 = 0 by omega, show 2 * q / 2 = q by omega]
    omega
  | succ j ih =>
    intro k q h
    obtain ⟨k, rfl⟩ : ∃ k', k = k' + 1 := ⟨k - 1, by omega⟩
    have e1 : 2 ^ (j + 1 + 1) * q = 2 * (2 ^ (j + 1) * q) := by rw [Nat.pow_succ 2 (j + 1), Nat.mul_comm _ 2, Nat.mul_assoc]
    have e2 : 2 ^ (j + 1) = 2 * 2 ^ j := by rw [Nat.pow_succ, Nat.mul_comm]
    have e3 : 2 ^ (j + 1 + 1) * q + 2 ^ (j + 1) = 2 * (2 ^ (j + 1) * q + 2 ^ j) := by rw [e1, Nat.mul_add, ← e2]
    rw [e3, e1, pcn, pcn, Nat.mul_mod_right, Nat.mul_mod_right, Nat.mul_div_cancel_left _ (by omega), Nat.mul_div_cancel_left _ (by omega), ih k q (by omega)]
    omega
theorem pcn_top : ∀ (j k q : Nat), j ≤ k → pcn k (2 ^ j * q) ≤ k - j := by
  intro j
  induction j with
  | zero => intro k q _; exact pcn_le k _
  | succ j ih =>
    intro k q h
    obtain ⟨k, rfl⟩ : ∃ k', k = k' + 1 := ⟨k - 1, by omega⟩
    have e1 : 2 ^ (j + 1) * q = 2 * (2 ^ j * q) := by rw [Nat.pow_succ 2 j, Nat.mul_comm _ 2, Nat.mul_assoc]
    rw [e1, pcn, Nat.mul_mod_right, Nat.mul_div_cancel_left _ (by omega)]
    have := ih k q (by omega)
    omega
/-- sum of n values from a on -/
def bsum (F : Nat → Nat) (a : Nat) : Nat → Nat
  | 0 => 0
  | n + 1 => bsum F a n + F (a + n)
theorem bsum_add (F : Nat → Nat) (a n : Nat) : ∀ m, bsum F a (n + m) = bsum F a n + bsum F (a + n) m := by
  intro m
  induction m with
  | zero => rfl
  | succ m ih => rw [← Nat.add_assoc, bsum, bsum, ih, Nat.add_assoc, Nat.add_assoc]
def trm (M : List Nat) (q m X : Nat) : Nat := if okB M X = true then (10 - q) ^ pcn m X * q ^ (m - pcn m X) else 0
def dwn : Nat → List Nat
  | 0 => []
  | j + 1 => j :: dwn j
theorem or_block (j q : Nat) : 2 ^ (j + 1) * q + 2 ^ j = (2 ^ (j + 1) * q) ||| 2 ^ j :=
  Nat.two_pow_add_eq_or_of_lt (Nat.pow_lt_pow_right (by omega) (by omega)) q
theorem bsum_Vp (M : List Nat) (q m : Nat) : ∀ (j h : Nat), j ≤ m → bsum (trm M q m) (2 ^ j * h) (2 ^ j) = (10 - q) ^ pcn m (2 ^ j * h) * q ^ (m - j - pcn m (2 ^ j * h)) * Vp M q (dwn j) (2 ^ j * h) := by
  intro j
  induction j with
  | zero =>
    intro h hj
    show 0 + trm M q m (2 ^ 0 * h + 0) = _
    rw [Nat.zero_add, Nat.add_zero, trm, dwn, Vp]
    by_cases z : okB M (2 ^ 0 * h) = true
    · rw [if_pos z, if_pos z, Nat.mul_one]; rfl
    · rw [if_neg z, if_neg z, Nat.mul_zero]
  | succ j ih =>
    intro h hj
    have e2 : 2 ^ (j + 1) = 2 ^ j + 2 ^ j := by rw [Nat.pow_succ]; omega
    have e3 : 2 ^ (j + 1) * h = 2 ^ j * (2 * h) := by rw [Nat.pow_succ, Nat.mul_assoc]
    have e4 : 2 ^ (j + 1) * h + 2 ^ j = 2 ^ j * (2 * h + 1) := by rw [e3, Nat.mul_add, Nat.mul_one]
    have i1 := ih (2 * h) (by omega)
    have i2 := ih (2 * h + 1) (by omega)
    have a1 := pcn_add j m h (by omega)
    have a2 := pcn_top (j + 1) m h hj
    rw [← e3] at i1
    rw [← e4, a1] at i2
    have hb : bsum (trm M q m) (2 ^ (j + 1) * h) (2 ^ (j + 1)) = bsum (trm M q m) (2 ^ (j + 1) * h) (2 ^ j) + bsum (trm M q m) (2 ^ (j + 1) * h + 2 ^ j) (2 ^ j) := by
      rw [← bsum_add, ← e2]
    rw [hb, i1, i2, dwn, Vp, ← or_block]
    generalize Vp M q (dwn j) (2 ^ (j + 1) * h) = A
    generalize Vp M q (dwn j) (2 ^ (j + 1) * h + 2 ^ j) = B
    generalize pcn m (2 ^ (j + 1) * h) = P at a2
    obtain ⟨R, hR⟩ : ∃ R, m - (j + 1) - P = R := ⟨_, rfl⟩
    rw [hR, show m - j - P = R + 1 by omega, show m - j - (P + 1) = R by omega, Nat.pow_succ, Nat.pow_succ, Nat.mul_add]
    generalize (10 - q) ^ P = U
    generalize q ^ R = V
    generalize 10 - q = w
    have z1 : U * (V * q) * A = U * V * (q * A) := by rw [← Nat.mul_assoc U V q, Nat.mul_assoc (U * V)]
    have z2 : U * w * V * B = U * V * (w * B) := by rw [Nat.mul_assoc U w V, Nat.mul_comm w V, ← Nat.mul_assoc U V w, Nat.mul_assoc (U * V)]
    rw [z1, z2]
    omega
theorem bsum_all (M : List Nat) (q m : Nat) : bsum (trm M q m) 0 (2 ^ m) = Vp M q (dwn m) 0 := by
  have h := bsum_Vp M q m m 0 (Nat.le_refl _)
  rw [Nat.mul_zero, pcn_zero, Nat.sub_self, Nat.pow_zero, Nat.one_mul] at h
  rw [h]
  show q ^ (0 - 0) * _ = _
  rw [Nat.sub_self, Nat.pow_zero, Nat.one_mul]
theorem bsum_le (F : Nat → Nat) (a : Nat) {i n : Nat} (h : i ≤ n) : bsum F a i ≤ bsum F a n := by
  have := bsum_add F a i (n - i)
  rw [show i + (n - i) = n by omega] at this
  omega
/-! the reference's loops -/
theorem sm_bits {m : Nat} (hm : m ≤ 15) (s : mx_G) : ∀ (k a n f : Nat), n < 2 ^ m → pcn m n = k → lX11_bits_4 (k + 1 + f) (nI a) (nI n) s = some (nI (a + k), s) := by
  have h15 : 2 ^ m ≤ 2 ^ 15 := Nat.pow_le_pow_right (by omega) hm
  intro k
  induction k with
  | zero =>
    intro a n f hn hk
    have h0 : n = 0 := by
      rcases Nat.eq_zero_or_pos n with z | z
      · exact z
      · have := pcn_low m n z hn; omega
    subst h0
    rw [show 0 + 1 + f = f + 1 by omega, lX11_bits_4, if_pos (by decide), Nat.add_zero]
  | succ k ih =>
    intro a n f hn hk
    have h0 : 0 < n := by
      rcases Nat.eq_zero_or_pos n with z | z
      · rw [z, pcn_zero] at hk; omega
      · exact z
    have hl := pcn_low m n h0 hn
    have hlt : n &&& (n - 1) < 2 ^ m := Nat.lt_of_le_of_lt Nat.and_le_left hn
    have hi := ih (a + 1) (n &&& (n - 1)) f hlt (by omega)
    rw [show k + 1 + 1 + f = (k + 1 + f) + 1 by omega, lX11_bits_4, if_neg (by rw [li_0, leI (by omega) (by omega)]; omega), mv_let, li_1, suI (by omega), and_g, adI, hi, show a + 1 + k = a + (k + 1) by omega]
theorem sm_power (b : Nat) {n : Nat} (hn : n < 100) (s : mx_G) : fX11_power (lN b) (nI n) s = some (lN (b ^ n), s) := by
  have loop : ∀ (m i f : Nat), i + m = n → lX11_power_5 (lN b) (nI n) (m + 1 + f) (lN (b ^ i)) (nI i) s = some (lN (b ^ n), s) := by
    intro m
    induction m with
    | zero =>
      intro i f h
      rw [show 0 + 1 + f = f + 1 by omega, lX11_power_5, if_pos (nI_le (by omega) (by omega)), show i = n by omega]
    | succ m ih =>
      intro i f h
      have e1 : nI i + 1 = nI (i + 1) := by rw [li_1, adI]
      rw [show m + 1 + 1 + f = (m + 1 + f) + 1 by omega, lX11_power_5, if_neg (nI_ge (by omega) (by omega)), mv_let, lN_mul, ← Nat.pow_succ, e1]
      exact ih (i + 1) f (by omega)
  obtain ⟨f, hf⟩ := FU_lt (n := n) (by omega)
  have e := loop n 0 f (by omega)
  rw [← hf] at e
  unfold fX11_power
  exact e
