/-! PURE PART: fail: the odds -/
def okB (Ws : List Nat) (H : Nat) : Bool := Ws.any (fun w => w &&& H == w)
def Vp (Ws : List Nat) (c : Nat) : List Nat → Nat → Nat
  | [], H => if okB Ws H = true then 1 else 0
  | b :: bs, H => (10 - c) * Vp Ws c bs (H ||| 2 ^ b) + c * Vp Ws c bs H
theorem Vp_perm {Ws : List Nat} {c : Nat} {l l' : List Nat} (h : l.Perm l') : ∀ H, Vp Ws c l H = Vp Ws c l' H := by
  induction h with
  | nil => intro H; rfl
  | cons x _ ih => intro H; rw [Vp, Vp, ih, ih]
  | swap x y l =>
    intro H
    rw [Vp, Vp, Vp, Vp, Vp, Vp, Nat.or_assoc, Nat.or_comm (2 ^ y) (2 ^ x), ← Nat.or_assoc]
    generalize Vp Ws c l (H ||| 2 ^ x ||| 2 ^ y) = A
    generalize Vp Ws c l (H ||| 2 ^ x) = B
    generalize Vp Ws c l (H ||| 2 ^ y) = C
    generalize Vp Ws c l H = D
    generalize 10 - c = q
    rw [Nat.mul_add, Nat.mul_add, Nat.mul_add, Nat.mul_add, Nat.mul_left_comm q c B, Nat.mul_left_comm q c C]
    omega
  | trans _ _ ih1 ih2 => intro H; rw [ih1, ih2]
theorem okB_iff {Ws : List Nat} {H : Nat} : okB Ws H = true ↔ ∃ w ∈ Ws, ∀ i, w.testBit i = true → H.testBit i = true := by
  unfold okB
  rw [List.any_eq_true]
  constructor
  · rintro ⟨w, h1, h2⟩
    refine ⟨w, h1, fun i hi => ?_⟩
    have h2 : w &&& H = w := by simpa using h2
    have := congrArg (fun x => x.testBit i) h2
    simp only [Nat.testBit_and, hi, Bool.true_and] at this
    exact this
  · rintro ⟨w, h1, h2⟩
    refine ⟨w, h1, ?_⟩
    have : w &&& H = w := by
      apply Nat.eq_of_testBit_eq
      intro i
      rw [Nat.testBit_and]
      cases hb : w.testBit i with
      | false => rfl
      | true => rw [h2 i hb]; rfl
    simpa using this
theorem Vp_ok {Ws : List Nat} {c : Nat} (hc : c ≤ 10) : ∀ (l : List Nat) (H : Nat), okB Ws H = true → Vp Ws c l H = 10 ^ l.length := by
  intro l
  induction l with
  | nil => intro H h; rw [Vp, if_pos h]; rfl
  | cons b l ih =>
    intro H h
    have h2 : okB Ws (H ||| 2 ^ b) = true := by
      rw [okB_iff] at h ⊢
      obtain ⟨w, a1, a2⟩ := h
      exact ⟨w, a1, fun i hi => by rw [Nat.testBit_or, a2 i hi]; rfl⟩
    rw [Vp, ih _ h2, ih _ h, List.length_cons, Nat.pow_succ, ← Nat.add_mul, show 10 - c + c = 10 by omega, Nat.mul_comm]
theorem Vp_no {Ws : List Nat} {c : Nat} : ∀ (l : List Nat) (H : Nat), (∀ w ∈ Ws, ∃ b, w.testBit b = true ∧ H.testBit b = false ∧ b ∉ l) → Vp Ws c l H = 0 := by
  intro l
  induction l with
  | nil =>
    intro H h
    rw [Vp, if_neg]
    intro hok
    rw [okB_iff] at hok
    obtain ⟨w, a1, a2⟩ := hok
    obtain ⟨b, b1, b2, -⟩ := h w a1
    rw [a2 b b1] at b2
    cases b2
  | cons x l ih =>
    intro H h
    rw [Vp, ih _ (fun w hw => ?_), ih _ (fun w hw => ?_), Nat.mul_zero, Nat.mul_zero]
    · obtain ⟨b, b1, b2, b3⟩ := h w hw
      exact ⟨b, b1, b2, fun q => b3 (List.mem_cons_of_mem _ q)⟩
    · obtain ⟨b, b1, b2, b3⟩ := h w hw
      refine ⟨b, b1, ?_, fun q => b3 (List.mem_cons_of_mem _ q)⟩
      rw [Nat.testBit_or, b2, Nat.testBit_two_pow]
      have : ¬ x = b := fun q => b3 (by rw [q]; exact List.mem_cons_self)
      simp [this]
theorem Vp_irr0 {Ws : List Nat} {c b : Nat} (hb : ∀ w ∈ Ws, w.testBit b = false) : ∀ (l : List Nat) (H : Nat), Vp Ws c l (H ||| 2 ^ b) = Vp Ws c l H := by
  intro l
  induction l with
  | nil =>
    intro H
    have : okB Ws (H ||| 2 ^ b) = okB Ws H := by
      rw [Bool.eq_iff_iff, okB_iff, okB_iff]
      constructor
      · rintro ⟨w, a1, a2⟩
        refine ⟨w, a1, fun i hi => ?_⟩
        have := a2 i hi
        rw [Nat.testBit_or, Nat.testBit_two_pow, Bool.or_eq_true] at this
        rcases this with q | q
        · exact q
        · have q : b = i := by simpa using q
          rw [← q, hb w a1] at hi
          cases hi
      · rintro ⟨w, a1, a2⟩
        exact ⟨w, a1, fun i hi => by rw [Nat.testBit_or, a2 i hi]; rfl⟩
    rw [Vp, Vp, this]
  | cons x l ih =>
    intro H
    rw [Vp, Vp, Nat.or_assoc, Nat.or_comm (2 ^ b), ← Nat.or_assoc, ih, ih]
theorem Vp_irr {Ws : List Nat} {c b : Nat} (hc : c ≤ 10) (hb : ∀ w ∈ Ws, w.testBit b = false) (l : List Nat) (H : Nat) : Vp Ws c (b :: l) H = 10 * Vp Ws c l H := by
  rw [Vp, Vp_irr0 hb, ← Nat.add_mul, show 10 - c + c = 10 by omega]
theorem Vp_le {Ws : List Nat} {c : Nat} (hc : c ≤ 10) : ∀ (l : List Nat) (H : Nat), Vp Ws c l H ≤ 10 ^ l.length := by
  intro l
  induction l with
  | nil => intro H; rw [Vp]; split <;> simp
  | cons b l ih =>
    intro H
    rw [Vp, List.length_cons, Nat.pow_succ]
    have h1 := Nat.mul_le_mul_left (10 - c) (ih (H ||| 2 ^ b))
    have h2 := Nat.mul_le_mul_left c (ih H)
    have h3 : (10 - c) * 10 ^ l.length + c * 10 ^ l.length = 10 ^ l.length * 10 := by rw [← Nat.add_mul, show 10 - c + c = 10 by omega, Nat.mul_comm]
    omega
/-! bits of ints -/
def t32 (x : Int32) (i : Nat) : Bool := x.toBitVec.getLsbD i
theorem t32_nI (a i : Nat) (hi : i < 32) : t32 (nI a) i = a.testBit i := by
  show (BitVec.ofNat 32 a).getLsbD i = _
  rw [BitVec.getLsbD_ofNat]
  simp [hi]
theorem t32_and (x y : Int32) (r : Nat) : t32 (x &&& y) r = (t32 x r && t32 y r) := by
  show (x.toBitVec &&& y.toBitVec).getLsbD r = _
  rw [BitVec.getLsbD_and]; rfl
theorem t32_xor (x y : Int32) (r : Nat) : t32 (x ^^^ y) r = (t32 x r ^^ t32 y r) := by
  show (x.toBitVec ^^^ y.toBitVec).getLsbD r = _
  rw [BitVec.getLsbD_xor]; rfl
theorem t32_m1 : ∀ r : Nat, r < 32 → t32 (-1) r = true := by decide +kernel
theorem t32_ext {x y : Int32} (h : ∀ r, r < 32 → t32 x r = t32 y r) : x = y := Int32.toBitVec_inj.mp (BitVec.eq_of_getLsbD_eq (fun i hi => h i hi))
/-- what is in a and not in b -/
def dn (a b : Nat) : Nat := a ^^^ (a &&& b)
theorem dn_bit (a b i : Nat) : (dn a b).testBit i = (a.testBit i && !b.testBit i) := by
  unfold dn
  rw [Nat.testBit_xor, Nat.testBit_and]
  cases a.testBit i <;> cases b.testBit i <;> rfl
theorem dn_lt {a b m : Nat} (h : a < 2 ^ m) : dn a b < 2 ^ m := Nat.xor_lt_two_pow h (Nat.lt_of_le_of_lt Nat.and_le_left h)
theorem dn_n (a b : Nat) : nI a &&& (nI b ^^^ (-1)) = nI (dn a b) := by
  apply t32_ext
  intro r hr
  rw [t32_and, t32_xor, t32_m1 r hr, t32_nI _ _ hr, t32_nI _ _ hr, t32_nI _ _ hr, dn_bit, Bool.xor_true]
theorem low_n {g : Nat} (h0 : g ≠ 0) (h15 : g < 2 ^ 15) : ∃ b, b < 15 ∧ g.testBit b = true ∧ nI g &&& (-nI g) = nI (2 ^ b) := by
  have hex : ∃ b, b < 15 ∧ g.testBit b = true := by
    apply Classical.byContradiction
    intro h
    apply h0
    apply Nat.eq_of_testBit_eq
    intro i
    rw [Nat.zero_testBit]
    by_cases hi : i < 15
    · cases hb : g.testBit i with
      | false => rfl
      | true => exact absurd ⟨i, hi, hb⟩ h
    · exact Nat.testBit_lt_two_pow (Nat.lt_of_lt_of_le h15 (Nat.pow_le_pow_right (by omega) (by omega)))
  obtain ⟨b, hb, h1, h2⟩ := least_ex (fun r => g.testBit r = true) 15 hex
  have h3 : ∀ i, i < b → g.testBit i = false := fun i hi => by
    cases hq : g.testBit i with
    | false => rfl
    | true => exact absurd hq (h2 i hi)
  refine ⟨b, hb, h1, ?_⟩
  apply t32_ext
  intro i hi
  have hn : t32 (-nI g) i = (t32 (nI g) i ^^ (decide (i < 32) && decide (∃ j, j < i ∧ t32 (nI g) j = true))) := by
    show (-(nI g).toBitVec).getLsbD i = _
    rw [BitVec.getLsbD_neg]
    rfl
  rw [t32_and, hn, t32_nI _ _ hi, t32_nI _ _ hi, Nat.testBit_two_pow]
  by_cases z : b = i
  · subst z
    have : ¬ ∃ j, j < b ∧ t32 (nI g) j = true := fun ⟨j, a, q⟩ => by rw [t32_nI _ _ (by omega), h3 j a] at q; cases q
    rw [h1]
    simp [this]
  · by_cases y : i < b
    · rw [h3 i y]; simp [z]
    · have : ∃ j, j < i ∧ t32 (nI g) j = true := ⟨b, by omega, by rw [t32_nI _ _ (by omega)]; exact h1⟩
      simp [this, hi, z]
