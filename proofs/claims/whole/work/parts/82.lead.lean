/-! PURE PART: may they lead to 0 -/
def mw (x : Nat → Nat) (d : Nat) : Nat → Nat → Nat
  | 0, y => y
  | m + 1, y => if y = 0 ∨ d < y then y else mw x d m (x y)
abbrev lostP (x : Nat → Nat) (d a : Nat) : Prop := mw x d 6 (x a) = 9 ∨ (0 < mw x d 6 (x a) ∧ mw x d 6 (x a) ≤ d)
def MLp (x : Nat → Nat) (d : Nat) : Prop := ∀ a, 0 < a → a ≤ d → x a = 9 ∨ ¬ lostP x d a
theorem mw_bd {x : Nat → Nat} {d : Nat} (hx : ∀ a, 0 < a → a ≤ d → x a < 6 ∨ x a = 9) : ∀ (m y : Nat), y < 6 ∨ y = 9 → mw x d m y < 6 ∨ mw x d m y = 9 := by
  intro m
  induction m with
  | zero => intro y h; exact h
  | succ m ih =>
    intro y h
    rw [mw]
    by_cases z : y = 0 ∨ d < y
    · rw [if_pos z]; exact h
    · rw [if_neg z]
      exact ih _ (hx y (by omega) (by omega))
theorem sx_may30 {s : mx_G} {x : Nat → Nat} {d : Nat} (hd : d < 6) (hs : ∀ a, 0 < a → a ≤ d → s.1 33 a = nI (x a)) (hx : ∀ a, 0 < a → a ≤ d → x a < 6 ∨ x a = 9) (a2 a4 : Int32) (K : Int32 → mx_G → Option (Int32 × mx_G)) : ∀ (m k f y : Nat), k + m = 6 → y < 6 ∨ y = 9 → lX4_mayLead_30 (nI d) a2 a4 K (m + 1 + f) (nI y) (nI k) s = K (nI (mw x d m y)) s := by
  intro m
  induction m with
  | zero =>
    intro k f y h hy
    rw [show 0 + 1 + f = f + 1 by omega, lX4_mayLead_30, if_pos (by rw [li_6, leI (by omega) (by omega)]; omega)]
    rfl
  | succ m ih =>
    intro k f y h hy
    have e1 : nI k + 1 = nI (k + 1) := by rw [li_1, adI]
    rw [show m + 1 + 1 + f = (m + 1 + f) + 1 by omega, lX4_mayLead_30, if_neg (by rw [li_6, leI (by omega) (by omega)]; omega), mw]
    by_cases z0 : y = 0
    · rw [if_pos (by rw [z0]; decide), if_pos (Or.inl z0)]
    · rw [if_neg (by rw [li_0, leI (by omega) (by omega)]; omega)]
      by_cases z1 : d < y
      · rw [if_pos (by rw [ltI (by omega) (by omega)]; exact z1), if_pos (Or.inr z1)]
      · rw [if_neg (by rw [ltI (by omega) (by omega)]; exact z1), if_neg (show ¬ (y = 0 ∨ d < y) by omega), ixT (by omega) (by omega), if_pos rfl, clI (by omega), hs y (by omega) (by omega), mv_let, e1]
        exact ih (k + 1) f (x y) (by omega) (hx y (by omega) (by omega))
theorem sx_may2 {s : mx_G} {x : Nat → Nat} {d : Nat} (hd : d < 6) (hs : ∀ a, 0 < a → a ≤ d → s.1 33 a = nI (x a)) (hx : ∀ a, 0 < a → a ≤ d → x a < 6 ∨ x a = 9) : ∀ (m a f : Nat), a + m = d + 1 → 0 < a → (lX4_mayLead_2 (nI d) (m + 1 + f) (nI a) s = some (1, s) ∧ ∀ b, a ≤ b → b ≤ d → x b = 9 ∨ ¬ lostP x d b) ∨ (lX4_mayLead_2 (nI d) (m + 1 + f) (nI a) s = some (0, s) ∧ ∃ b, a ≤ b ∧ b ≤ d ∧ ¬ (x b = 9 ∨ ¬ lostP x d b)) := by
  intro m
  induction m with
  | zero =>
    intro a f h ha
    left
    rw [show 0 + 1 + f = f + 1 by omega, lX4_mayLead_2, if_pos (by rw [ltI (by omega) (by omega)]; omega)]
    exact ⟨rfl, fun b p q => absurd q (by omega)⟩
  | succ m ih =>
    intro a f h ha
    have e1 : nI a + 1 = nI (a + 1) := by rw [li_1, adI]
    obtain ⟨g, hg⟩ := FU_lt (n := 6) (by omega)
    have hxa := hx a ha (by omega)
    have hmw := mw_bd hx 6 (x a) hxa
    have e30 := fun a4 K => sx_may30 hd hs hx (nI a) a4 K 6 0 g (x a) (by omega) hxa
    rw [← hg] at e30
    have hi := ih (a + 1) f (by omega) (by omega)
    have step : (x a = 9 ∨ ¬ lostP x d a) → lX4_mayLead_2 (nI d) (m + 1 + 1 + f) (nI a) s = lX4_mayLead_2 (nI d) (m + 1 + f) (nI (a + 1)) s := by
      intro hok
      rw [show m + 1 + 1 + f = (m + 1 + f) + 1 by omega, lX4_mayLead_2, if_neg (by rw [ltI (by omega) (by omega)]; omega), ixT (by omega) (by omega), if_pos rfl, clI (by omega), hs a ha (by omega)]
      simp only [mv_let]
      rw [e1]
      by_cases z9 : x a = 9
      · rw [if_pos (by rw [z9]; rfl), li_0, e30]
        show (if nI (mw x d 6 (x a)) = 9 then _ else _) = _
        simp only [if_true]
        repeat' split
        all_goals rfl
      · have hl : ¬ lostP x d a := by
          rcases hok with q | q
          · exact absurd q z9
          · exact q
        have hl9 : ¬ mw x d 6 (x a) = 9 := fun q => hl (Or.inl q)
        rw [if_neg (by rw [li_9, eqI (by omega) (by omega)]; exact z9), li_0, e30]
        show (if nI (mw x d 6 (x a)) = 9 then _ else _) = _
        rw [if_neg (by rw [li_9, eqI (by omega) (by omega)]; exact hl9)]
        by_cases y0 : mw x d 6 (x a) = 0
        · rw [if_pos (by rw [y0]; decide), if_neg (by decide), if_pos trivial]
        · have hgt : d < mw x d 6 (x a) := by
            rcases Nat.lt_or_ge d (mw x d 6 (x a)) with q | q
            · exact q
            · exact absurd (Or.inr ⟨by omega, q⟩) hl
          rw [if_neg (by rw [leI (by omega) (by omega)]; omega), if_pos (by rw [ltI (by omega) (by omega)]; exact hgt), if_neg (by decide), if_pos trivial]
    by_cases hok : x a = 9 ∨ ¬ lostP x d a
    · rw [step hok]
      rcases hi with ⟨p, q⟩ | ⟨p, b, q1, q2, q3⟩
      · refine Or.inl ⟨p, fun b h1 h2 => ?_⟩
        by_cases y : b = a
        · rw [y]; exact hok
        · exact q b (by omega) h2
      · exact Or.inr ⟨p, b, by omega, q2, q3⟩
    · refine Or.inr ⟨?_, a, Nat.le_refl _, by omega, hok⟩
      have z9 : ¬ x a = 9 := fun q => hok (Or.inl q)
      have hl : lostP x d a := Classical.byContradiction fun q => hok (Or.inr q)
      rw [show m + 1 + 1 + f = (m + 1 + f) + 1 by omega, lX4_mayLead_2, if_neg (by rw [ltI (by omega) (by omega)]; omega), ixT (by omega) (by omega), if_pos rfl, clI (by omega), hs a ha (by omega)]
      simp only [mv_let]
      rw [if_neg (by rw [li_9, eqI (by omega) (by omega)]; exact z9), li_0, e30]
      show (if nI (mw x d 6 (x a)) = 9 then _ else _) = _
      rcases hl with hl | ⟨h1, h2⟩
      · rw [if_pos (by rw [hl]; rfl), if_neg (by decide), if_neg (by decide)]
      · rw [if_neg (by rw [li_9, eqI (by omega) (by omega)]; omega), if_neg (by rw [leI (by omega) (by omega)]; omega), if_neg (by rw [ltI (by omega) (by omega)]; omega), if_neg (by decide), if_neg (by decide)]
theorem sx_mayLead {s : mx_G} {x : Nat → Nat} {d : Nat} (hd : d < 6) (hs : ∀ a, 0 < a → a ≤ d → s.1 33 a = nI (x a)) (hx : ∀ a, 0 < a → a ≤ d → x a < 6 ∨ x a = 9) : (fX4_mayLead (nI d) s = some (1, s) ∧ MLp x d) ∨ (fX4_mayLead (nI d) s = some (0, s) ∧ ¬ MLp x d) := by
  obtain ⟨f, hf⟩ := FU_lt (n := d) (by omega)
  have h := sx_may2 hd hs hx d 1 f (by omega) (by omega)
  rw [← hf] at h
  unfold fX4_mayLead
  rcases h with ⟨p, q⟩ | ⟨p, b, q1, q2, q3⟩
  · exact Or.inl ⟨p, fun a h1 h2 => q a h1 h2⟩
  · exact Or.inr ⟨p, fun z => q3 (z b (by omega) q2)⟩
theorem wk_mw {x y : Nat → Nat} {n d : Nat} (h6 : n ≤ 6) (hy : ∀ a, 0 < a → a < n → y a < n ∨ y a = 9) (hxy : ∀ a, 0 < a → a ≤ d → x a = y a) (hdn : d < n) : ∀ (m v : Nat) (l : List Nat), v < n → wk y m v = some l → ∀ k, m ≤ k → mw x d k v ≠ 9 ∧ (mw x d k v = 0 ∨ d < mw x d k v) := by
  intro m
  induction m with
  | zero =>
    intro v l hv h k _
    rw [wk] at h
    by_cases z : v = 0
    · subst z
      cases k with
      | zero => exact ⟨by show 0 ≠ 9; omega, Or.inl rfl⟩
      | succ k => rw [mw, if_pos (Or.inl rfl)]; exact ⟨by omega, Or.inl rfl⟩
    · rw [if_neg z] at h; cases h
  | succ m ih =>
    intro v l hv h k hk
    obtain ⟨k, rfl⟩ : ∃ k', k = k' + 1 := ⟨k - 1, by omega⟩
    rw [wk] at h
    rw [mw]
    by_cases z : v = 0
    · rw [if_pos (Or.inl z), z]; exact ⟨by omega, Or.inl rfl⟩
    · rw [if_neg z] at h
      by_cases z2 : d < v
      · rw [if_pos (Or.inr z2)]; exact ⟨by omega, Or.inr z2⟩
      · rw [if_neg (by omega)]
        by_cases z9 : y v = 9
        · rw [if_pos z9] at h; cases h
        · rw [if_neg z9] at h
          cases hr : wk y m (y v) with
          | none => rw [hr] at h; cases h
          | some r =>
            rw [hxy v (by omega) (by omega)]
            have := hy v (by omega) hv
            exact ih (y v) r (by omega) hr k (by omega)
theorem lost_no {x y : Nat → Nat} {n d : Nat} (h6 : n ≤ 6) (hy : ∀ a, 0 < a → a < n → y a < n ∨ y a = 9) (hxy : ∀ a, 0 < a → a ≤ d → x a = y a) (hdn : d < n) (h : ¬ MLp x d) : fl y n 6 = false := by
  have ⟨a, h1, h2, h3⟩ : ∃ a, 0 < a ∧ a ≤ d ∧ ¬ (x a = 9 ∨ ¬ lostP x d a) := by
    apply Classical.byContradiction
    intro q
    exact h fun a p1 p2 => Classical.byContradiction fun p3 => q ⟨a, p1, p2, p3⟩
  have z9 : ¬ x a = 9 := fun q => h3 (Or.inl q)
  have hl : lostP x d a := Classical.byContradiction fun q => h3 (Or.inr q)
  have hnone : (wk y 5 a).isSome = false := by
    cases hw : wk y 5 a with
    | none => rfl
    | some l =>
      exfalso
      rw [wk, if_neg (by omega)] at hw
      rw [hxy a h1 h2] at z9
      rw [if_neg z9] at hw
      cases hr : wk y 4 (y a) with
      | none => rw [hr] at hw; cases hw
      | some r =>
        have := hy a h1 (by omega)
        have hq := wk_mw h6 hy hxy hdn 4 (y a) r (by omega) hr 6 (by omega)
        rw [← hxy a h1 h2] at hq
        rcases hl with q | q
        · exact hq.1 q
        · omega
  have key : ∀ m, a < m → fl y n m = false := by
    intro m
    induction m with
    | zero => intro q; omega
    | succ m ih =>
      intro q
      rw [fl]
      by_cases e : m = a
      · subst e
        rw [hxy m h1 h2] at z9
        rw [hnone]
        simp [z9]
        intro _
        omega
      · rw [ih (by omega)]; rfl
  exact key 6 (by omega)
theorem lead_yes {x : Nat → Nat} {n : Nat} (h2 : 2 ≤ n) (h6 : n ≤ 6) (hx : ∀ a, 0 < a → a < n → x a < n ∨ x a = 9) (h : MLp x (n - 1)) : fl x n 6 = true := by
  have back : ∀ (k v : Nat), v < n ∨ v = 9 → mw x (n - 1) k v = 0 → ∃ l, wk x k v = some l := by
    intro k
    induction k with
    | zero =>
      intro v _ hv
      have hv : v = 0 := hv
      exact ⟨[0], by rw [hv]; rfl⟩
    | succ k ih =>
      intro v hvn hv
      rw [mw] at hv
      rw [wk]
      by_cases z : v = 0
      · rw [if_pos z]; exact ⟨_, rfl⟩
      · rw [if_neg z]
        by_cases z2 : v = 0 ∨ n - 1 < v
        · rw [if_pos z2] at hv; exact absurd hv z
        · rw [if_neg z2] at hv
          by_cases z9 : x v = 9
          · exfalso
            rw [z9] at hv
            cases k with
            | zero => have hv : 9 = 0 := hv; omega
            | succ k => rw [mw, if_pos (Or.inr (by omega))] at hv; omega
          · obtain ⟨l, hl⟩ := ih (x v) (hx v (by omega) (by omega)) hv
            rw [if_neg z9, hl]
            exact ⟨_, rfl⟩
  have one : ∀ a, 0 < a → a < n → x a = 9 ∨ (wk x 5 a).isSome = true := by
    intro a h1 h3
    rcases h a h1 (by omega) with q | q
    · exact Or.inl q
    · by_cases z9 : x a = 9
      · exact Or.inl z9
      · right
        have hxa := hx a h1 h3
        have hb := mw_bd (x := x) (d := n - 1) (fun b p1 p2 => by have := hx b p1 (by omega); omega) 6 (x a) (by omega)
        have hz : mw x (n - 1) 6 (x a) = 0 := by
          rcases Nat.eq_zero_or_pos (mw x (n - 1) 6 (x a)) with e | e
          · exact e
          · exfalso
            have inn : ∀ (k v : Nat), v < n ∨ v = 9 → mw x (n - 1) k v < n ∨ mw x (n - 1) k v = 9 := by
              intro k
              induction k with
              | zero => intro v hv; exact hv
              | succ k ih =>
                intro v hv
                rw [mw]
                by_cases z2 : v = 0 ∨ n - 1 < v
                · rw [if_pos z2]; exact hv
                · rw [if_neg z2]; exact ih _ (hx v (by omega) (by omega))
            rcases inn 6 (x a) hxa with e2 | e2
            · exact q (Or.inr ⟨e, by omega⟩)
            · exact q (Or.inl e2)
        obtain ⟨l, hl⟩ := back 6 (x a) hxa hz
        have h7 : wk x 7 a = some (a :: l) := by rw [wk, if_neg (by omega), if_neg z9, hl]; rfl
        obtain ⟨g1, g2, g3⟩ := wk_pt x 7 a _ h7
        have hlen := (wk_way x hx h3 h7).1.len (by omega)
        have := pt_wk x l 5 a g1 (by simp only [List.length_cons] at hlen; omega)
        rw [this]
        rfl
  have key : ∀ m, fl x n m = true := by
    intro m
    induction m with
    | zero => rfl
    | succ m ih =>
      rw [fl, ih]
      by_cases e0 : m = 0
      · simp [e0]
      · by_cases e1 : n ≤ m
        · simp [e1]
        · rcases one m (by omega) (by omega) with q | q
          · simp [q]
          · simp [q]
  exact key 6
