/-! PURE PART: fail: the reference's links -/
def lkb (c : Nat → Int32) (a b : Nat) : Bool := decide (¬ c (13 + a * 6 + b) = 0 ∧ c (49 + a * 6 + b) = 0)
def dA (p : Nat) : Nat := [1, 2, 2, 3, 3, 3, 4, 4, 4, 4, 5, 5, 5, 5, 5].getD p 0
def dB (p : Nat) : Nat := [0, 0, 1, 0, 1, 2, 0, 1, 2, 3, 0, 1, 2, 3, 4].getD p 0
def lkc (c : Nat → Int32) (p : Nat) : Bool := lkb c (dA p) (dB p)
def ixp (c : Nat → Int32) (p : Nat) : Nat := ((List.range p).filter (lkc c)).length
theorem ixp_succ (c : Nat → Int32) (p : Nat) : ixp c (p + 1) = if lkc c p = true then ixp c p + 1 else ixp c p := by
  unfold ixp
  rw [List.range_succ, List.filter_append, List.length_append]
  by_cases z : lkc c p = true
  · rw [if_pos z]; simp [z]
  · rw [if_neg z]; simp [z]
theorem ixp_le (c : Nat → Int32) (p : Nat) : ixp c p ≤ p := by
  have := List.length_filter_le (lkc c) (List.range p)
  rw [List.length_range] at this
  exact this
theorem pr2_dec : ∀ a : Nat, a < 6 → ∀ b : Nat, b < 6 → b < a → pr2 a b = a * (a - 1) / 2 + b ∧ dA (pr2 a b) = a ∧ dB (pr2 a b) = b ∧ pr2 b a = pr2 a b := by decide +kernel
def prq (a b x y : Nat) : Bool := a == b || (x == y || (!(pr2 x y == pr2 a b) || ((x == a && y == b) || (x == b && y == a))))
theorem prq_all : ∀ a : Nat, a < 6 → ∀ b : Nat, b < 6 → ∀ x : Nat, x < 6 → ∀ y : Nat, y < 6 → prq a b x y = true := by decide +kernel
theorem pr2_inj (a : Nat) (ha : a < 6) (b : Nat) (hb : b < 6) (x : Nat) (hx : x < 6) (y : Nat) (hy : y < 6) (h1 : a ≠ b) (h2 : x ≠ y) (h3 : pr2 x y = pr2 a b) : (x = a ∧ y = b) ∨ (x = b ∧ y = a) := by
  have h := prq_all a ha b hb x hx y hy
  unfold prq at h
  rw [h3] at h
  simp only [Bool.or_eq_true, Bool.and_eq_true, beq_iff_eq, beq_self_eq_true, Bool.not_true] at h
  rcases h with h | h | h | h
  · exact absurd h h1
  · exact absurd h h2
  · cases h
  · exact h
theorem tri_n : ∀ a : Nat, a < 6 → a * (a - 1) / 2 + a = (a + 1) * (a + 1 - 1) / 2 ∧ a * (a - 1) / 2 + a ≤ 15 := by decide +kernel
theorem lkb_sym {c : Nat → Int32} (ho : WOK c) {a b : Nat} (ha : a < 6) (hb : b < 6) : lkb c a b = lkb c b a := by
  obtain ⟨h1, h2, -⟩ := lk_sym ho ha hb
  unfold lkb
  rw [h2]
  apply decide_eq_decide.mpr
  rw [h1]
theorem lkc_pr2 {c : Nat → Int32} (ho : WOK c) {a b : Nat} (ha : a < 6) (hb : b < 6) (hne : a ≠ b) : lkc c (pr2 a b) = lkb c a b := by
  unfold lkc
  rcases Nat.lt_or_ge b a with z | z
  · obtain ⟨-, h2, h3, -⟩ := pr2_dec a ha b hb z
    rw [h2, h3]
  · obtain ⟨-, h2, h3, h4⟩ := pr2_dec b hb a ha (by omega)
    rw [h4, h2, h3, lkb_sym ho ha hb]
def G64 (c : Nat → Int32) (p : Nat) (g : Nat → Int32) : Prop := ∀ x y, x < 6 → y < 6 → x ≠ y → pr2 x y < p → lkb c x y = true → g (6 * x + y) = nI (ixp c (pr2 x y))
theorem sm_ll12 {c : Nat → Int32} (ho : WOK c) {t : mx_G} (hw : RW (t.1 46) c) {a : Nat} (ha : a < 6) (K : Int32 → mx_G → Option (Int32 × mx_G)) : ∀ (m b f : Nat) (g : Nat → Int32), b + m = a → G64 c (a * (a - 1) / 2 + b) g → ∃ g', lX11_laysLinks_12 (nI a) K (m + 1 + f) (nI (ixp c (a * (a - 1) / 2 + b))) (nI b) (gs t 64 g) = K (nI (ixp c (a * (a - 1) / 2 + a))) (gs t 64 g') ∧ G64 c (a * (a - 1) / 2 + a) g' := by
  intro m
  induction m with
  | zero =>
    intro b f g h hg
    have hb : b = a := by omega
    subst hb
    refine ⟨g, ?_, hg⟩
    rw [show 0 + 1 + f = f + 1 by omega, lX11_laysLinks_12, if_pos (nI_le (Nat.le_refl _) (by omega))]
  | succ m ih =>
    intro b f g h hg
    have hb : b < 6 := by omega
    have e1 : nI b + 1 = nI (b + 1) := by rw [li_1, adI]
    obtain ⟨q1, q2, q3, q4⟩ := pr2_dec a ha b hb (by omega)
    have hk := lkc_pr2 ho ha hb (by omega)
    have el := sm_areLinked (s := gs t 64 g) (c := c) (by rw [gs_rdn _ (by decide)]; exact hw) ho ha hb
    have hs := ixp_succ c (a * (a - 1) / 2 + b)
    rw [← q1, hk] at hs
    rw [show m + 1 + 1 + f = (m + 1 + f) + 1 by omega, lX11_laysLinks_12, if_neg (nI_ge (by omega) (by omega)), el, bd_some]
    by_cases z : lkb c a b = true
    · have z' : ¬ c (13 + a * 6 + b) = 0 ∧ c (49 + a * 6 + b) = 0 := by unfold lkb at z; exact of_decide_eq_true z
      rw [if_pos z] at hs
      rw [if_neg z'.1, if_pos z'.2, if_neg one_ne]
      unfold fX11_pair
      rw [bd_some, li_6, muI, adI, ixT (by omega) (by omega), if_pos rfl, clI (by omega), mv_let, bd_some, muI, adI, ixT (by omega) (by omega), if_pos rfl, clI (by omega), mv_let, gi_of, gi_of, e1]
      have e2 : nI (ixp c (a * (a - 1) / 2 + b)) + 1 = nI (ixp c (a * (a - 1) / 2 + (b + 1))) := by
        rw [li_1, adI, ← Nat.add_assoc, ← q1, hs]
      rw [e2]
      refine ih (b + 1) f _ (by omega) (fun x y hx hy hne hp hl => ?_)
      rw [upd_rd, upd_rd]
      by_cases w : pr2 x y = pr2 a b
      · rcases pr2_inj a ha b hb x hx y hy (by omega) hne w with ⟨rfl, rfl⟩ | ⟨rfl, rfl⟩
        · rw [if_neg (by omega), if_pos rfl, q1]
        · rw [if_pos rfl, q4, q1]
      · rw [if_neg, if_neg]
        · exact hg x y hx hy hne (by omega) hl
        · intro v
          have : x = a ∧ y = b := by omega
          exact w (by rw [this.1, this.2])
        · intro v
          have : x = b ∧ y = a := by omega
          exact w (by rw [this.1, this.2, q4])
    · rw [if_neg z] at hs
      have e0 : (if c (13 + a * 6 + b) = 0 then (0 : Int32) else if c (49 + a * 6 + b) = 0 then 1 else 0) = 0 := by
        by_cases z1 : c (13 + a * 6 + b) = 0
        · rw [if_pos z1]
        · rw [if_neg z1]
          by_cases z2 : c (49 + a * 6 + b) = 0
          · exact absurd (by unfold lkb; exact decide_eq_true ⟨z1, z2⟩) z
          · rw [if_neg z2]
      rw [e0, if_pos rfl, e1]
      have e2 : ixp c (a * (a - 1) / 2 + b) = ixp c (a * (a - 1) / 2 + (b + 1)) := by rw [← Nat.add_assoc, ← q1, hs]
      rw [e2]
      refine ih (b + 1) f g (by omega) (fun x y hx hy hne hp hl => ?_)
      by_cases w : pr2 x y = pr2 a b
      · rcases pr2_inj a ha b hb x hx y hy (by omega) hne w with ⟨rfl, rfl⟩ | ⟨rfl, rfl⟩
        · exact absurd hl z
        · rw [lkb_sym ho hx hy] at hl; exact absurd hl z
      · exact hg x y hx hy hne (by omega) hl
theorem sm_ll4 {c : Nat → Int32} (ho : WOK c) {t : mx_G} (hw : RW (t.1 46) c) : ∀ (m a f : Nat) (g : Nat → Int32), a + m = 6 → G64 c (a * (a - 1) / 2) g → ∃ g', lX11_laysLinks_4 (m + 1 + f) (nI (ixp c (a * (a - 1) / 2))) (nI a) (gs t 64 g) = some (nI (ixp c 15), gs t 64 g') ∧ G64 c 15 g' := by
  intro m
  induction m with
  | zero =>
    intro a f g h hg
    have ha : a = 6 := by omega
    subst ha
    refine ⟨g, ?_, hg⟩
    rw [show 0 + 1 + f = f + 1 by omega, lX11_laysLinks_4, if_pos (by decide)]
  | succ m ih =>
    intro a f g h hg
    have e1 : nI a + 1 = nI (a + 1) := by rw [li_1, adI]
    obtain ⟨f2, hf2⟩ := FU_lt (n := a) (by omega)
    obtain ⟨g1, h1, h2⟩ := sm_ll12 ho hw (show a < 6 by omega) (fun y10 s9 => lX11_laysLinks_4 (m + 1 + f) y10 (nI a + 1) s9) a 0 f2 g (by omega) hg
    rw [← hf2] at h1
    obtain ⟨t1, t2⟩ := tri_n a (by omega)
    rw [t1] at h1 h2
    obtain ⟨g2, h3, h4⟩ := ih (a + 1) f g1 (by omega) h2
    refine ⟨g2, ?_, h4⟩
    rw [show m + 1 + 1 + f = (m + 1 + f) + 1 by omega, lX11_laysLinks_4, if_neg (by rw [li_6, leI (by omega) (by omega)]; omega)]
    refine Eq.trans h1 ?_
    show lX11_laysLinks_4 (m + 1 + f) _ (nI a + 1) _ = _
    rw [e1]
    exact h3
theorem sm_laysLinks {c : Nat → Int32} (ho : WOK c) {t : mx_G} (hw : RW (t.1 46) c) : ∃ g', fX11_laysLinks t = some (nI (ixp c 15), gs t 64 g') ∧ G64 c 15 g' := by
  obtain ⟨f, hf⟩ := FU_lt (n := 6) (by omega)
  obtain ⟨g', h1, h2⟩ := sm_ll4 ho hw 6 0 f (t.1 64) (by omega) (fun x y _ _ _ hp => absurd hp (by omega))
  rw [gs_self, ← hf] at h1
  exact ⟨g', h1, h2⟩
