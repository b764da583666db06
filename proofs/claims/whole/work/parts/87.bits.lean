/-! PURE PART: longs as sets -/
def tb (x : Int64) (r : Nat) : Bool := x.toBitVec.getLsbD r
theorem tb_or (x y : Int64) (r : Nat) : tb (x ||| y) r = (tb x r || tb y r) := by
  show (x.toBitVec ||| y.toBitVec).getLsbD r = _
  rw [BitVec.getLsbD_or]; rfl
theorem tb_and (x y : Int64) (r : Nat) : tb (x &&& y) r = (tb x r && tb y r) := by
  show (x.toBitVec &&& y.toBitVec).getLsbD r = _
  rw [BitVec.getLsbD_and]; rfl
theorem tb_xor (x y : Int64) (r : Nat) : tb (x ^^^ y) r = (tb x r ^^ tb y r) := by
  show (x.toBitVec ^^^ y.toBitVec).getLsbD r = _
  rw [BitVec.getLsbD_xor]; rfl
theorem tb_m1 : ∀ r : Nat, r < 64 → tb (-1) r = true := by decide +kernel
theorem tb_not (x : Int64) {r : Nat} (hr : r < 64) : tb (x ^^^ (-1)) r = !tb x r := by
  rw [tb_xor, tb_m1 r hr, Bool.xor_true]
theorem tb_0 (r : Nat) : tb 0 r = false := by
  show (0#64).getLsbD r = false
  exact BitVec.getLsbD_zero
theorem tb_1 : ∀ i : Nat, i < 64 → tb 1 i = decide (i = 0) := by decide +kernel
theorem tb_bit : ∀ r : Nat, r < 64 → ∀ i : Nat, i < 64 → tb (mv_lshl 1 (nI r)) i = decide (i = r) := by decide +kernel
theorem tb_ext {x y : Int64} (h : ∀ r, r < 64 → tb x r = tb y r) : x = y := Int64.toBitVec_inj.mp (BitVec.eq_of_getLsbD_eq (fun i hi => h i hi))
theorem and1_0 (v : Int64) : v &&& 1 = 0 ↔ tb v 0 = false := by
  constructor
  · intro h
    have e := tb_and v 1 0
    rw [h, tb_0, tb_1 0 (by omega)] at e
    simpa using e.symm
  · intro h
    apply tb_ext
    intro r hr
    rw [tb_and, tb_1 r hr, tb_0]
    by_cases z : r = 0
    · subst z; rw [h]; rfl
    · simp [z]
theorem and1_1 (v : Int64) : v &&& 1 = 1 ↔ tb v 0 = true := by
  constructor
  · intro h
    have e := tb_and v 1 0
    rw [h, tb_1 0 (by omega)] at e
    simpa using e.symm
  · intro h
    apply tb_ext
    intro r hr
    rw [tb_and, tb_1 r hr]
    by_cases z : r = 0
    · subst z; rw [h]; rfl
    · simp [z]
theorem am_u : ∀ r : Nat, r < 64 → (((nI r).toInt64.toUInt64 &&& Int64.toUInt64 63) % 64).toBitVec.toNat = r := by decide +kernel
theorem am_s : ∀ r : Nat, r < 64 → (((nI r).toInt64 &&& 63).toBitVec.smod 64).toNat = r := by decide +kernel
theorem tb_ushr (x : Int64) {r : Nat} (hr : r < 64) : (mv_lushr x (nI r) &&& 1 = 0) ↔ tb x r = false := by
  rw [and1_0]
  have e : tb (mv_lushr x (nI r)) 0 = tb x r := by
    show (x.toBitVec >>> (((nI r).toInt64.toUInt64 &&& Int64.toUInt64 63) % 64).toBitVec.toNat).getLsbD 0 = _
    rw [am_u r hr, BitVec.getLsbD_ushiftRight]; rfl
  rw [e]
theorem tb_sshr (x : Int64) {r : Nat} (hr : r < 64) : (mv_lshr x (nI r) &&& 1 = 1) ↔ tb x r = true := by
  rw [and1_1]
  have e : tb (mv_lshr x (nI r)) 0 = tb x r := by
    show (x.toBitVec.sshiftRight (((nI r).toInt64 &&& 63).toBitVec.smod 64).toNat).getLsbD 0 = _
    rw [am_s r hr, BitVec.getLsbD_sshiftRight, if_pos (by omega)]
    rfl
  rw [e]
theorem least_ex (P : Nat → Prop) : ∀ m : Nat, (∃ r, r < m ∧ P r) → ∃ r, r < m ∧ P r ∧ ∀ i, i < r → ¬ P i := by
  intro m
  induction m with
  | zero => rintro ⟨r, h, _⟩; omega
  | succ m ih =>
    rintro ⟨r, h, hp⟩
    by_cases z : ∃ r, r < m ∧ P r
    · obtain ⟨q, a, b, c⟩ := ih z
      exact ⟨q, by omega, b, c⟩
    · refine ⟨r, h, hp, fun i hi hpi => z ⟨i, by omega, hpi⟩⟩
theorem tb_low {x : Int64} (hx : x ≠ 0) : ∃ r, r < 64 ∧ tb x r = true ∧ (∀ i, i < r → tb x i = false) ∧ x &&& (-x) = mv_lshl 1 (nI r) := by
  have hex : ∃ r, r < 64 ∧ tb x r = true := by
    apply Classical.byContradiction
    intro h
    apply hx
    apply tb_ext
    intro r hr
    rw [tb_0]
    cases hb : tb x r with
    | false => rfl
    | true => exact absurd ⟨r, hr, hb⟩ h
  obtain ⟨r, hr, h1, h2⟩ := least_ex (fun r => tb x r = true) 64 hex
  have h3 : ∀ i, i < r → tb x i = false := fun i hi => by
    cases hb : tb x i with
    | false => rfl
    | true => exact absurd hb (h2 i hi)
  refine ⟨r, hr, h1, h3, ?_⟩
  apply tb_ext
  intro i hi
  rw [tb_and, tb_bit r hr i hi]
  have hn : tb (-x) i = (tb x i ^^ (decide (i < 64) && decide (∃ j, j < i ∧ tb x j = true))) := by
    show (-x.toBitVec).getLsbD i = _
    rw [BitVec.getLsbD_neg]
    rfl
  rw [hn]
  by_cases z : i = r
  · subst z
    have : ¬ ∃ j, j < i ∧ tb x j = true := fun ⟨j, a, b⟩ => by rw [h3 j a] at b; cases b
    rw [h1]
    simp [this]
  · by_cases y : i < r
    · rw [h3 i y]; simp [z]
    · have : ∃ j, j < i ∧ tb x j = true := ⟨r, by omega, h1⟩
      simp [this, hi, z]
def bCL (p0 : Int64) : Int32 :=
  mv_let (p0 - ((mv_lushr p0 1) &&& 6148914691236517205)) fun x1 =>
  mv_let ((x1 &&& 3689348814741910323) + ((mv_lushr x1 2) &&& 3689348814741910323)) fun x2 =>
  mv_let ((x2 + (mv_lushr x2 4)) &&& 1085102592571150095) fun x3 =>
  mv_let (x3 + (mv_lushr x3 8)) fun x4 =>
  mv_let (x4 + (mv_lushr x4 16)) fun x5 =>
  mv_let (x5 + (mv_lushr x5 32)) fun x6 =>
  (Int64.toInt32 x6) &&& 127
theorem bCL_e (x : Int64) (s : mx_G) : fJL_bitCount x s = some (bCL x, s) := nrfl rfl
theorem bCL_bit : ∀ r : Nat, r < 64 → bCL (mv_lshl 1 (nI r) - 1) = nI r := by decide +kernel
