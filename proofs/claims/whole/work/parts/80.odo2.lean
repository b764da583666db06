/-! PURE PART: the reference goes over all next ones -/
theorem odo_next {n d i : Nat} (h2 : 2 ≤ n) (h6 : n ≤ 6) (hd0 : 0 < d) (hd : d < n) (hz : (i + 1) % n ^ (n - 1 - d) = 0) (ht : i / n ^ (n - 1 - d) % n ≠ n - 1) : ∀ e, 0 < e → e < n → (i + 1) / n ^ (n - 1 - e) % n = if e < d then i / n ^ (n - 1 - e) % n else if e = d then i / n ^ (n - 1 - d) % n + 1 else 0 := by
  intro e he0 he
  rcases (show n = 2 ∨ n = 3 ∨ n = 4 ∨ n = 5 ∨ n = 6 by omega) with rfl | rfl | rfl | rfl | rfl
  · rcases (show d = 1 by omega) with rfl
    rcases (show e = 1 by omega) with rfl
    simp at hz ht ⊢
    omega
  · rcases (show d = 1 ∨ d = 2 by omega) with rfl | rfl <;> rcases (show e = 1 ∨ e = 2 by omega) with rfl | rfl <;> simp at hz ht ⊢ <;> omega
  · rcases (show d = 1 ∨ d = 2 ∨ d = 3 by omega) with rfl | rfl | rfl <;> rcases (show e = 1 ∨ e = 2 ∨ e = 3 by omega) with rfl | rfl | rfl <;> simp at hz ht ⊢ <;> omega
  · rcases (show d = 1 ∨ d = 2 ∨ d = 3 ∨ d = 4 by omega) with rfl | rfl | rfl | rfl <;> rcases (show e = 1 ∨ e = 2 ∨ e = 3 ∨ e = 4 by omega) with rfl | rfl | rfl | rfl <;> simp at hz ht ⊢ <;> omega
  · rcases (show d = 1 ∨ d = 2 ∨ d = 3 ∨ d = 4 ∨ d = 5 by omega) with rfl | rfl | rfl | rfl | rfl <;> rcases (show e = 1 ∨ e = 2 ∨ e = 3 ∨ e = 4 ∨ e = 5 by omega) with rfl | rfl | rfl | rfl | rfl <;> simp at hz ht ⊢ <;> omega
theorem odo_carry {n d i : Nat} (h2 : 2 ≤ n) (h6 : n ≤ 6) (hd0 : 0 < d) (hd : d < n) (hz : (i + 1) % n ^ (n - 1 - d) = 0) (ht : i / n ^ (n - 1 - d) % n = n - 1) : (i + 1) % n ^ (n - 1 - (d - 1)) = 0 := by
  rcases (show n = 2 ∨ n = 3 ∨ n = 4 ∨ n = 5 ∨ n = 6 by omega) with rfl | rfl | rfl | rfl | rfl
  · rcases (show d = 1 by omega) with rfl
    simp at hz ht ⊢
    omega
  · rcases (show d = 1 ∨ d = 2 by omega) with rfl | rfl <;> simp at hz ht ⊢ <;> omega
  · rcases (show d = 1 ∨ d = 2 ∨ d = 3 by omega) with rfl | rfl | rfl <;> simp at hz ht ⊢ <;> omega
  · rcases (show d = 1 ∨ d = 2 ∨ d = 3 ∨ d = 4 by omega) with rfl | rfl | rfl | rfl <;> simp at hz ht ⊢ <;> omega
  · rcases (show d = 1 ∨ d = 2 ∨ d = 3 ∨ d = 4 ∨ d = 5 by omega) with rfl | rfl | rfl | rfl | rfl <;> simp at hz ht ⊢ <;> omega
theorem pow_bd : ∀ n : Nat, n ≤ 6 → 2 ≤ n → n ^ (n - 1) ≤ 7776 := by
  intro n h6 h2
  rcases (show n = 2 ∨ n = 3 ∨ n = 4 ∨ n = 5 ∨ n = 6 by omega) with rfl | rfl | rfl | rfl | rfl <;> decide
theorem cand9 {n d t : Nat} (h6 : n ≤ 6) (hd : d < n) (ht : t < n) : cand n d t = 9 ↔ t = n - 1 := by
  unfold cand
  split
  · omega
  · split <;> omega
theorem sm_nextOne0 {s : mx_G} {n d : Nat} (h2 : 2 ≤ n) (h6 : n ≤ 6) (hd0 : 0 < d) (hd : d < n) (h0 : s.1 46 0 = nI n) : fX11_nextOne (nI d) (-1) s = some (nI (cand n d 0), s) := by
  have hx0 : ix 0 128 = true := by rw [li_0]; exact ixT (by omega) (by omega)
  have hz : Int32.toNatClampNeg 0 = 0 := by decide
  have e : cand n d 0 = 0 := by unfold cand; rw [if_pos hd0]
  unfold fX11_nextOne
  simp only [mv_let]
  rw [if_neg (by rw [show (-1 : Int32) + 1 = nI 0 by decide, eqI (by omega) (by omega)]; omega), if_pos hx0, hz, h0, show (-1 : Int32) + 1 + 0 = nI 0 by decide, if_neg (by rw [leI (by omega) (by omega)]; omega), e]
theorem sm_nextOne {s : mx_G} {n d t : Nat} (h2 : 2 ≤ n) (h6 : n ≤ 6) (hd : d < n) (ht : t + 1 < n) (h0 : s.1 46 0 = nI n) : fX11_nextOne (nI d) (nI (cand n d t)) s = some (nI (cand n d (t + 1)), s) := by
  have hx0 : ix 0 128 = true := by rw [li_0]; exact ixT (by omega) (by omega)
  have hz : Int32.toNatClampNeg 0 = 0 := by decide
  have hc : cand n d t < n := by
    rcases cand_ok h6 hd (t := t) (by omega) with z | z
    · exact z
    · rw [cand9 h6 hd (by omega)] at z; omega
  unfold fX11_nextOne
  simp only [mv_let]
  rw [li_1, adI]
  by_cases z : cand n d t + 1 = d
  · have e : cand n d (t + 1) = if d + 1 < n then d + 1 else 9 := by
      unfold cand at z ⊢
      split at z
      · rw [if_neg (by omega), show t + 1 + 1 = d + 1 by omega]
      · exfalso
        omega
    rw [if_pos (by rw [z]), adI, if_pos hx0, hz, h0, z, e]
    by_cases y : d + 1 < n
    · rw [if_neg (by rw [leI (by omega) (by omega)]; omega), if_pos y]
    · rw [if_pos (by rw [leI (by omega) (by omega)]; omega), if_neg y]; rfl
  · have e : cand n d (t + 1) = if cand n d t + 1 < n then cand n d t + 1 else 9 := by
      by_cases y : t < d
      · have c1 : cand n d t = t := by unfold cand; rw [if_pos y]
        rw [c1] at z ⊢
        unfold cand
        rw [if_pos (by omega), if_pos (by omega)]
      · have c1 : cand n d t = t + 1 := by unfold cand; rw [if_neg y, if_pos ht]
        rw [c1]
        unfold cand
        rw [if_neg (by omega)]
    rw [if_neg (by rw [eqI (by omega) (by omega)]; exact z), li_0, adI, if_pos (by rw [← li_0]; exact hx0), ← li_0, hz, h0, Nat.add_zero, e]
    by_cases y : cand n d t + 1 < n
    · rw [if_neg (by rw [leI (by omega) (by omega)]; omega), if_pos y]
    · rw [if_pos (by rw [leI (by omega) (by omega)]; omega), if_neg y]; rfl
/-- the reference's next ones are the i-th -/
def NX (n i : Nat) (t : mx_G) : Prop := ∀ d, 0 < d → d < n → t.1 59 d = nI (xi n i d)
theorem sm_goesOn_l {n i : Nat} (h2 : 2 ≤ n) (h6 : n ≤ 6) (hi : i < n ^ (n - 1)) {t : mx_G} (h0 : t.1 46 0 = nI n) (K : Int32 → mx_G → Option (Int32 × mx_G)) : ∀ (d f : Nat) (g : Nat → Int32), d < n → (i + 1) % n ^ (n - 1 - d) = 0 → (∀ e, 0 < e → e < n → g e = nI (if e ≤ d then xi n i e else cand n e 0)) → ∃ d' g', d' < n ∧ lX11_goesOn_9 K (d + 1 + f) (nI d) (gs t 59 g) = K (nI d') (gs t 59 g') ∧ (d' = 0 → i + 1 = n ^ (n - 1)) ∧ (0 < d' → (i + 1) % n ^ (n - 1 - d') = 0 ∧ i / n ^ (n - 1 - d') % n ≠ n - 1 ∧ ∀ e, 0 < e → e < n → g' e = nI (if e ≤ d' then xi n i e else cand n e 0)) := by
  intro d
  induction d with
  | zero =>
    intro f g hd hz hg
    refine ⟨0, g, by omega, ?_, fun _ => ?_, fun z => absurd z (by omega)⟩
    · rw [show 0 + 1 + f = f + 1 by omega, lX11_goesOn_9, if_pos (by decide)]
    · rw [show n - 1 - 0 = n - 1 by omega] at hz
      obtain ⟨q, hq⟩ := Nat.dvd_of_mod_eq_zero hz
      have : q = 1 := by
        rcases Nat.lt_trichotomy q 1 with z | z | z
        · have : q = 0 := by omega
          subst this
          omega
        · exact z
        · have : n ^ (n - 1) * 2 ≤ n ^ (n - 1) * q := Nat.mul_le_mul_left _ z
          omega
      rw [hq, this, Nat.mul_one]
  | succ d ih =>
    intro f g hd hz hg
    have hgd := hg (d + 1) (by omega) hd
    rw [if_pos (Nat.le_refl _)] at hgd
    have ht : i / n ^ (n - 1 - (d + 1)) % n < n := Nat.mod_lt _ (by omega)
    have hc9 := cand9 h6 hd ht
    have hxe : xi n i (d + 1) = cand n (d + 1) (i / n ^ (n - 1 - (d + 1)) % n) := rfl
    have hxb := xi_ok h6 i (d + 1) (by omega) hd
    rw [show d + 1 + 1 + f = (d + 1 + f) + 1 by omega, lX11_goesOn_9, if_neg (by rw [li_0, leI (by omega) (by omega)]; omega), ixT (by omega) (by omega), if_pos rfl, clI (by omega), gs_rd, hgd]
    by_cases z : i / n ^ (n - 1 - (d + 1)) % n = n - 1
    · have hx9 : xi n i (d + 1) = 9 := by rw [hxe]; exact hc9.mpr z
      have e1 := sm_nextOne0 (s := gs t 59 g) h2 h6 (show 0 < d + 1 by omega) hd (by rw [gs_rdn _ (by decide)]; exact h0)
      have hcz := odo_carry h2 h6 (by omega) hd hz z
      rw [show d + 1 - 1 = d by omega] at hcz
      rw [if_pos (by rw [hx9]; rfl), e1, bd_some, if_pos rfl, mv_let, gi_of, pk_m1]
      refine ih f _ (by omega) hcz (fun e a b => ?_)
      rw [upd_rd]
      by_cases y : e = d + 1
      · rw [if_pos y, if_neg (by omega), y]
      · rw [if_neg y, hg e a b]
        by_cases y2 : e ≤ d
        · rw [if_pos (by omega), if_pos y2]
        · rw [if_neg (by omega), if_neg y2]
    · have hx9 : ¬ xi n i (d + 1) = 9 := by rw [hxe]; exact fun q => z (hc9.mp q)
      rw [if_neg (by rw [li_9, eqI (by omega) (by omega)]; exact hx9)]
      exact ⟨d + 1, g, hd, rfl, fun q => absurd q (by omega), fun _ => ⟨hz, z, hg⟩⟩
theorem sm_goesOn {n i : Nat} (h2 : 2 ≤ n) (h6 : n ≤ 6) (hi : i < n ^ (n - 1)) {t : mx_G} (h0 : t.1 46 0 = nI n) (hx : NX n i t) : ∃ t', fX11_goesOn t = some (if i + 1 = n ^ (n - 1) then 0 else 1, t') ∧ (i + 1 < n ^ (n - 1) → NX n (i + 1) t') ∧ ∀ p : Nat, p ≠ 59 → t'.1 p = t.1 p ∧ t'.2 p = t.2 p := by
  have hx0 : ix 0 128 = true := by rw [li_0]; exact ixT (by omega) (by omega)
  have hz : Int32.toNatClampNeg 0 = 0 := by decide
  obtain ⟨f, hf⟩ := FU_lt (n := n - 1) (by omega)
  obtain ⟨K, hK⟩ : ∃ K : Int32 → mx_G → Option (Int32 × mx_G), K = (fun y6 s5 =>
        if y6 ≤ 0 then
          if y6 ≤ 0 then
            some (0, s5)
          else
            some (1, s5)
        else
          if ix y6 6 = true then
            mv_bind (fX11_nextOne y6 (s5.1 59 (Int32.toNatClampNeg y6)) s5) fun x7 s8 =>
            if ix y6 6 = true then
              mv_let (gi s8 59 (Int32.toNatClampNeg y6) x7) fun s9 =>
              if y6 ≤ 0 then
                some (0, s9)
              else
                some (1, s9)
            else none
          else none) := ⟨_, rfl⟩
  obtain ⟨d', g', hd', e1, a1, a2⟩ := sm_goesOn_l h2 h6 hi h0 K (n - 1) f (t.1 59) (by omega) (by rw [show n - 1 - (n - 1) = 0 by omega, Nat.pow_zero]; exact Nat.mod_one _) (fun e a b => by rw [if_pos (by omega)]; exact hx e a b)
  rw [gs_self, ← hf] at e1
  have en : nI n - 1 = nI (n - 1) := by rw [li_1, suI (by omega)]
  have eg : fX11_goesOn t = K (nI d') (gs t 59 g') := by
    rw [← e1, hK]
    unfold fX11_goesOn
    rw [if_pos hx0, hz, h0, en, mv_let]
  by_cases z : d' = 0
  · subst z
    refine ⟨gs t 59 g', ?_, fun q => absurd q (by have := a1 rfl; omega), fun p hp => ⟨gs_rdn _ hp _, rfl⟩⟩
    rw [eg, hK]
    show (if nI 0 ≤ 0 then (if nI 0 ≤ 0 then _ else _) else _) = _
    rw [if_pos (by decide), if_pos (by decide), if_pos (a1 rfl)]
  · obtain ⟨b1, b2, b3⟩ := a2 (by omega)
    have ht : i / n ^ (n - 1 - d') % n < n := Nat.mod_lt _ (by omega)
    have hg := b3 d' (by omega) hd'
    rw [if_pos (Nat.le_refl _)] at hg
    have hxe : xi n i d' = cand n d' (i / n ^ (n - 1 - d') % n) := rfl
    have e2 := sm_nextOne (s := gs t 59 g') (n := n) (d := d') (t := i / n ^ (n - 1 - d') % n) h2 h6 hd' (by omega) (by rw [gs_rdn _ (by decide)]; exact h0)
    have c0 : ¬ nI d' ≤ 0 := by rw [li_0, leI (by omega) (by omega)]; omega
    have hnext := odo_next h2 h6 (by omega) hd' b1 b2
    have hne : i + 1 ≠ n ^ (n - 1) := by
      intro q
      have := hnext d' (by omega) hd'
      rw [if_neg (by omega), if_pos rfl, q] at this
      have hp : n ^ (n - 1) = n ^ (n - 1 - d') * n ^ d' := by rw [← Nat.pow_add, show n - 1 - d' + d' = n - 1 by omega]
      have hpos : 0 < n ^ (n - 1 - d') := Nat.pow_pos (by omega)
      rw [hp, Nat.mul_div_cancel_left _ hpos, show d' = (d' - 1) + 1 by omega, Nat.pow_succ, Nat.mul_mod_left] at this
      omega
    refine ⟨gs t 59 (upd g' d' (nI (cand n d' (i / n ^ (n - 1 - d') % n + 1)))), ?_, fun q => ?_, fun p hp => ⟨gs_rdn _ hp _, rfl⟩⟩
    · rw [eg, hK]
      show (if nI d' ≤ 0 then _ else _) = _
      rw [if_neg c0, ixT (by omega) (by omega), if_pos rfl, clI (by omega), gs_rd, hg, hxe, e2, bd_some, if_pos rfl, mv_let, gi_of, if_neg c0, if_neg hne]
    · intro e he0 he
      rw [gs_rd, upd_rd]
      have := hnext e he0 he
      unfold xi
      rw [this]
      by_cases y : e = d'
      · subst y
        rw [if_pos rfl, if_neg (by omega), if_pos rfl]
      · rw [if_neg y, b3 e he0 he]
        by_cases y2 : e < d'
        · rw [if_pos (by omega), if_pos y2]; rfl
        · rw [if_neg (by omega), if_neg y2, if_neg y]
