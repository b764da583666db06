/-! PURE PART: ways; who takes which -/
theorem Way.lt {n : Nat} (hn : 0 < n) : ∀ {l : List Nat}, Way n l → ∀ x ∈ l, x < n := by
  intro l
  induction l with
  | nil => intro h; exact h.elim
  | cons d r ih =>
    intro h x hx
    cases r with
    | nil =>
      have h : d = 0 := h
      rw [List.mem_singleton] at hx
      omega
    | cons e r =>
      rcases List.mem_cons.mp hx with rfl | hx
      · exact h.2.1
      · exact ih h.2.2.2 x hx
theorem Way.nd {n : Nat} : ∀ {l : List Nat}, Way n l → l.Nodup := by
  intro l
  induction l with
  | nil => intro h; exact h.elim
  | cons d r ih =>
    intro h
    cases r with
    | nil => simp
    | cons e r => exact List.nodup_cons.mpr ⟨h.2.2.1, ih h.2.2.2⟩
theorem Way.ld {n : Nat} : ∀ {l : List Nat}, Way n l → Ld l := by
  intro l h
  cases l with
  | nil => exact h.elim
  | cons d r =>
    cases r with
    | nil => exact ⟨d, [], rfl, Or.inl rfl⟩
    | cons e r => exact ⟨d, e :: r, rfl, Or.inr h.1⟩
theorem pigeon : ∀ (n : Nat) (l : List Nat), l.Nodup → (∀ x ∈ l, x < n) → l.length ≤ n := by
  intro n
  induction n with
  | zero =>
    intro l _ h
    cases l with
    | nil => exact Nat.le_refl _
    | cons a l => exact absurd (h a List.mem_cons_self) (by omega)
  | succ n ih =>
    intro l hd h
    by_cases hm : n ∈ l
    · have h1 := ih (l.erase n) (hd.erase n) (fun x hx => by
        have := (hd.mem_erase_iff).mp hx
        have h2 := h x this.2
        have h3 := this.1
        omega)
      rw [List.length_erase_of_mem hm] at h1
      omega
    · have := ih l hd (fun x hx => by
        have h2 := h x hx
        have h3 : x ≠ n := fun z => hm (z ▸ hx)
        omega)
      omega
theorem Way.len {n : Nat} (hn : 0 < n) {l : List Nat} (h : Way n l) : l.length ≤ n := pigeon n l h.nd (h.lt hn)
theorem Way.dg {n : Nat} (hn : 0 < n) (h6 : n ≤ 6) {l : List Nat} (h : Way n l) : Dg l := fun d hd => by have := h.lt hn d hd; omega
/-- the set as a number -/
def ms : List Nat → Nat
  | [] => 0
  | d :: r => ms r ||| 2 ^ d
theorem ms_bit (l : List Nat) (x : Nat) : (ms l).testBit x = decide (x ∈ l) := by
  induction l with
  | nil => simp [ms]
  | cons d r ih =>
    rw [ms, Nat.testBit_or, ih, Nat.testBit_two_pow]
    by_cases h : d = x
    · subst h; simp
    · have : ¬ x = d := fun z => h z.symm
      simp [h, this]
theorem ms_lt {l : List Nat} (h : ∀ x ∈ l, x < 6) : ms l < 64 := by
  induction l with
  | nil => decide
  | cons d r ih =>
    have h1 := ih (fun x hx => h x (List.mem_cons_of_mem _ hx))
    have h2 : 2 ^ d < 2 ^ 6 := Nat.pow_lt_pow_right (by omega) (h d List.mem_cons_self)
    exact Nat.or_lt_two_pow (n := 6) h1 h2
theorem bI_ms {l : List Nat} (h : ∀ x ∈ l, x < 6) : bI l 0 = nI (ms l) := by
  induction l with
  | nil => rfl
  | cons d r ih =>
    have hr : ∀ x ∈ r, x < 6 := fun x hx => h x (List.mem_cons_of_mem _ hx)
    have hd := h d List.mem_cons_self
    have h2 : 2 ^ d < 2 ^ 6 := Nat.pow_lt_pow_right (by omega) hd
    show bI r 0 ||| mv_shl 1 (nI d) = _
    rw [ih hr, shl_n d (by omega), or_n _ (ms_lt hr) _ h2, ms]
def hd0 (l : List Nat) : Nat := l.headD 0
def sec : List Nat → Nat
  | _ :: y :: _ => y
  | _ => 9
abbrev tkL (c : Nat → Int32) (e d y : Nat) : Prop := y = 9 ∨ c (1 + e) &&& 2 = 0 ∨ c (13 + e * 6 + d) = 1 ∨ c (13 + e * 6 + y) = 1
abbrev tk (c : Nat → Int32) (d : Nat) (l : List Nat) : Prop := ¬ c (13 + d * 6 + hd0 l) = 0 ∧ c (49 + d * 6 + hd0 l) = 0 ∧ nI (ms l) &&& (mv_shl 1 (nI d) ||| c (7 + d)) = 0 ∧ tkL c (hd0 l) d (sec l)
theorem sx_lets {s : mx_G} {e d y : Nat} (he : e < 6) (hd : d < 6) (hy : y < 6 ∨ y = 9) : fX9_lets (nI e) (nI y) (nI d) s = some (if tkL (s.1 2) e d y then 1 else 0, s) := by
  unfold fX9_lets tkL
  simp (disch := omega) only [mv_let, li_9, li_13, li_6, li_1, li_2, muI, adI, ixT, clI, if_true, eqI]
  by_cases h1 : y = 9
  · simp only [h1, if_true, true_or]
  · have hy6 : y < 6 := by omega
    simp (disch := omega) only [h1, if_false, false_or, ixT, if_true, ← li_1, ← li_2]
    by_cases h2 : s.1 2 (1 + e) &&& 2 = 0
    · simp only [h2, if_true, true_or]
    · simp only [h2, if_false, false_or]
      by_cases h3 : s.1 2 (13 + e * 6 + d) = 1
      · simp only [h3, if_true, true_or]
      · simp only [h3, if_false, false_or]
        split <;> rfl
theorem sec_lt {n : Nat} (hn : 0 < n) (h6 : n ≤ 6) {l : List Nat} (h : Way n l) : sec l < 6 ∨ sec l = 9 := by
  cases l with
  | nil => exact h.elim
  | cons d r =>
    cases r with
    | nil => exact Or.inr rfl
    | cons e r => exact Or.inl (by have := h.lt hn e (by simp); show e < 6; omega)
theorem hd0_lt {n : Nat} (hn : 0 < n) {l : List Nat} (h : Way n l) : hd0 l < n := by
  cases l with
  | nil => exact h.elim
  | cons d r => exact h.lt hn d List.mem_cons_self
theorem sx_takes {s : mx_G} {n d : Nat} (hn : 0 < n) (h6 : n ≤ 6) (hd : d < 6) {l : List Nat} (h : Way n l) : fX9_takes (nI d) (nI (hd0 l)) (nI (ms l)) (nI (sec l)) s = some (if tk (s.1 2) d l then 1 else 0, s) := by
  have he := hd0_lt hn h
  have hy := sec_lt hn h6 h
  unfold fX9_takes tk
  simp (disch := omega) only [mv_let, li_13, li_49, li_7, li_6, muI, adI, ixT, clI, if_true, ← Nat.add_assoc]
  rw [sx_lets (by omega) hd hy, bd_some]
  by_cases h1 : s.1 2 (13 + d * 6 + hd0 l) = 0
  · simp only [h1, if_true, not_true, false_and, if_false]
  · simp only [h1, if_false, not_false_eq_true, true_and]
    by_cases h2 : s.1 2 (49 + d * 6 + hd0 l) = 0
    · simp only [h2, if_true, true_and]
      by_cases h3 : nI (ms l) &&& (mv_shl 1 (nI d) ||| s.1 2 (7 + d)) = 0
      · simp only [h3, if_true, true_and]
        by_cases h4 : tkL (s.1 2) (hd0 l) d (sec l)
        · simp only [h4, if_true]; rw [if_neg one_ne]
        · simp only [h4, if_false, if_true]
      · simp only [h3, if_false, false_and]
    · simp only [h2, if_false, false_and]
theorem tk_bits : ∀ t : Nat, t < 64 → ∀ d : Nat, d < 6 → ∀ b : Nat, b < 64 → ((nI t &&& (mv_shl 1 (nI d) ||| nI b) = 0) ↔ (¬ (mv_shr (nI t) (nI d) &&& 1 = 1) ∧ nI b &&& nI t = 0)) := by decide +kernel
theorem wnum_zero {n : Nat} {l : List Nat} (h : Way n l) : wnum l = 0 ↔ sec l = 9 ∧ l = [0] := by
  cases l with
  | nil => exact h.elim
  | cons d r =>
    cases r with
    | nil =>
      have h : d = 0 := h
      subst h
      exact ⟨fun _ => ⟨rfl, rfl⟩, fun _ => rfl⟩
    | cons e r =>
      have h1 := wnum_ge d (e :: r) h.1
      have h2 : 0 < 10 ^ (e :: r).length := Nat.pow_pos (by omega)
      constructor
      · intro z; omega
      · intro z; exact absurd z.2 (by simp)
theorem hd0_at (l : List Nat) : l.getD 0 0 = hd0 l := by cases l <;> rfl
theorem sm_second {n : Nat} (hn : 0 < n) (h6 : n ≤ 6) {l : List Nat} (h : Way n l) (s : mx_G) : fX11_second (nI (wnum l)) s = some (if sec l = 9 then -1 else nI (sec l), s) := by
  have hl := h.len hn
  have hb := wnum_lt (h.dg hn h6)
  have hp := pow8 (n := l.length) (by omega)
  unfold fX11_second
  by_cases hz : wnum l = 0
  · rw [if_pos (show nI (wnum l) = 0 by rw [hz]; rfl), if_pos ((wnum_zero h).mp hz).1]
  · rw [if_neg (show ¬ nI (wnum l) = 0 by rw [li_0, eqI (by omega) (by omega)]; exact hz)]
    cases l with
    | nil => exact h.elim
    | cons d r =>
      cases r with
      | nil =>
        have h : d = 0 := h
        subst h
        exact absurd rfl hz
      | cons e r =>
        have he := h.lt hn e (by simp)
        rw [li_1, sm_figure (h.dg hn h6) h.ld (by omega) (k := 1) (by simp), bd_some, if_neg (by show ¬ e = 9; omega)]
        rfl
theorem sm_isCustomer {s : mx_G} {c : Nat → Int32} (hw : RW (s.1 46) c) {e y : Nat} (he : e < 6) (hy : y < 6) : fX11_isCustomer (nI e) (nI y) s = some (if c (13 + e * 6 + y) = 1 then 1 else 0, s) := by
  unfold fX11_isCustomer
  have := hw.at (k := 1 + (6 * e + y)) (i := 13 + e * 6 + y) (by omega) (by omega)
  simp (disch := omega) only [fX11_pair, bd_some, li_1, li_6, muI, adI, ixT, clI, if_true, this]
  rw [← li_1]
  split <;> rfl
theorem sm_lets {s : mx_G} {c : Nat → Int32} (hw : RW (s.1 46) c) {e d y : Nat} (he : e < 6) (hd : d < 6) (hy : y < 6 ∨ y = 9) : fX11_lets (nI e) (nI d) (if y = 9 then -1 else nI y) s = some (if tkL c e d y then 1 else 0, s) := by
  unfold fX11_lets tkL
  have h9 := hw.at (k := 109 + e) (i := 1 + e) (by omega) (by omega)
  simp (disch := omega) only [li_109, adI, ixT, clI, if_true, h9]
  rw [sm_isCustomer hw he hd, bd_some]
  by_cases h2 : c (1 + e) &&& 2 = 0
  · simp only [h2, if_true, true_or, or_true]
  · simp only [h2, if_false, false_or]
    by_cases h3 : c (13 + e * 6 + d) = 1
    · simp only [h3, if_true, true_or, or_true]
      rw [if_neg one_ne]
    · simp only [h3, if_false, if_true, false_or]
      by_cases h1 : y = 9
      · simp only [h1, if_true, true_or]
        rw [if_pos (by decide)]
      · have hy6 : y < 6 := by omega
        simp only [h1, if_false, false_or]
        rw [if_neg (by rw [li_0, ltI (by omega) (by omega)]; omega), sm_isCustomer hw he hy6, bd_some]
        by_cases h4 : c (13 + e * 6 + y) = 1
        · simp only [h4, if_true]; rw [if_neg one_ne]
        · simp only [h4, if_false, if_true]
theorem sm_takes {s : mx_G} {c : Nat → Int32} (hw : RW (s.1 46) c) (ho : WOK c) {n d : Nat} (hn : 0 < n) (h6 : n ≤ 6) (hd : d < 6) {l : List Nat} (h : Way n l) : fX11_takes (nI d) (nI (wnum l)) s = some (if tk c d l then 1 else 0, s) := by
  have he := hd0_lt hn h
  have hy := sec_lt hn h6 h
  have hl := h.len hn
  have hlt : ∀ x ∈ l, x < 6 := fun x hx => by have := h.lt hn x hx; omega
  have hms := ms_lt hlt
  have hpos : 0 < l.length := by cases l with
    | nil => exact h.elim
    | cons => simp
  have a1 := hw.at (k := 1 + (6 * d + hd0 l)) (i := 13 + d * 6 + hd0 l) (by omega) (by omega)
  have a2 := hw.at (k := 37 + (6 * d + hd0 l)) (i := 49 + d * 6 + hd0 l) (by omega) (by omega)
  have a3 := hw.at (k := 115 + d) (i := 7 + d) (by omega) (by omega)
  have b1 := ho.2.1 (13 + d * 6 + hd0 l) (by omega)
  have b3 := ho.2.1 (7 + d) (by omega)
  have b4 := (ho.2.2.2.1 d hd).2
  have hb := tk_bits (ms l) hms d hd (N c (7 + d)) b4
  rw [← b3] at hb
  unfold fX11_takes tk
  have hf0 : fX11_figure (nI (wnum l)) 0 s = some (nI (hd0 l), s) := by rw [li_0, sm_figure (h.dg hn h6) h.ld (by omega) hpos, hd0_at]
  rw [hf0, bd_some, sm_setOf (h.dg hn h6) h.ld (by omega), bd_some, bI_ms hlt]
  have hlink : fX11_areLinked (nI d) (nI (hd0 l)) s = some (if c (13 + d * 6 + hd0 l) = 0 then 0 else if c (49 + d * 6 + hd0 l) = 0 then 1 else 0, s) := by
    unfold fX11_areLinked
    simp (disch := omega) only [fX11_pair, bd_some, li_1, li_37, li_6, li_0, muI, adI, ixT, clI, if_true, a1, a2]
    have hN := N_lt c (13 + d * 6 + hd0 l)
    have : (c (13 + d * 6 + hd0 l) ≤ nI 0) = (c (13 + d * 6 + hd0 l) = nI 0) := by
      rw [b1, leI hN (by omega), eqI hN (by omega)]
      exact propext ⟨fun z => by omega, fun z => by omega⟩
    simp only [this]
    by_cases z1 : c (13 + d * 6 + hd0 l) = nI 0
    · simp only [z1, if_true]
    · simp only [z1, if_false]
      split <;> rfl
  rw [hlink, bd_some]
  by_cases z1 : c (13 + d * 6 + hd0 l) = 0
  · simp only [z1, if_true, not_true, false_and, if_false]
  · simp only [z1, if_false, not_false_eq_true, true_and]
    by_cases z2 : c (49 + d * 6 + hd0 l) = 0
    · simp only [z2, if_true, true_and]
      rw [if_neg one_ne]
      unfold fX11_has
      by_cases z3 : mv_shr (nI (ms l)) (nI d) &&& 1 = 1
      · have z4 : ¬ (nI (ms l) &&& (mv_shl 1 (nI d) ||| c (7 + d)) = 0) := fun z => (hb.mp z).1 z3
        simp only [z3, z4, if_true, bd_some, false_and, if_false]
        rw [if_neg one_ne]
      · rw [if_neg z3, bd_some, if_pos rfl]
        simp (disch := omega) only [li_115, adI, ixT, clI, if_true, a3]
        by_cases z5 : c (7 + d) &&& nI (ms l) = 0
        · have z6 := hb.mpr ⟨z3, z5⟩
          simp only [z5, z6, if_true, true_and]
          rw [sm_second hn h6 h, bd_some, sm_lets hw (by omega) hd hy, bd_some]
          by_cases z7 : tkL c (hd0 l) d (sec l)
          · rw [if_pos z7, if_neg one_ne]
          · rw [if_neg z7, if_pos rfl]
        · have z6 : ¬ (nI (ms l) &&& (mv_shl 1 (nI d) ||| c (7 + d)) = 0) := fun z => z5 (hb.mp z).2
          rw [if_neg z5, if_neg (fun z => z6 z.1)]
    · simp only [z2, if_false, false_and, if_true]
