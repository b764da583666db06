/-! PURE PART: read: the new links -/
def dn2 (a b x y : Nat) : Prop := (x < y ∧ (x < a ∨ (x = a ∧ y < b))) ∨ (y < x ∧ (y < a ∨ (y = a ∧ x < b)))
def Pd (c : Nat → Int32) (v cc : Nat → Nat) (a b : Nat) (g : Nat → Int32) : Prop := (∀ k, k < 13 ∨ 85 ≤ k → g k = c k) ∧ ∀ x y, x < 6 → y < 6 → (dn2 a b x y → g (13 + x * 6 + y) = nI (v (6 * x + y)) ∧ g (49 + x * 6 + y) = nI (cc (6 * x + y))) ∧ (¬ dn2 a b x y → g (13 + x * 6 + y) = nI 0 ∧ g (49 + x * 6 + y) = nI 0)
theorem dn2_step {a b x y : Nat} (hab : a < b) : dn2 a (b + 1) x y ↔ dn2 a b x y ∨ (x = a ∧ y = b) ∨ (x = b ∧ y = a) := by
  unfold dn2
  omega
theorem dn2_self {a b : Nat} (h : a < b) : ¬ dn2 a b a b ∧ ¬ dn2 a b b a := by
  unfold dn2
  omega
theorem dn2_next {a x y : Nat} (hx : x < 6) (hy : y < 6) : dn2 (a + 1) (a + 1 + 1) x y ↔ dn2 a 6 x y := by
  unfold dn2
  omega
theorem tell16 {c : Nat → Int32} {n : Nat} {gx hx gr hr : Nat → Int32} {v cc : Nat → Nat} {w : Nat} (tb : Tb n gx hx gr hr v cc w) {s : mx_G} (h38 : s.1 38 = gx) (h39 : s.1 39 = hx) {a : Nat} (ha : a < 6) (K : mx_G → Option (Unit × mx_G)) : ∀ (m b f : Nat) (g : Nat → Int32), b + m = 6 → a < b → Pd c v cc a b g → ∃ g', lX7_tellTo_16 (nI a) K (m + 1 + f) (nI b) (gs s 2 g) = K (gs s 2 g') ∧ Pd c v cc a 6 g' := by
  intro m
  induction m with
  | zero =>
    intro b f g h hb hg
    have : b = 6 := by omega
    subst this
    refine ⟨g, ?_, hg⟩
    rw [show 0 + 1 + f = f + 1 by omega, lX7_tellTo_16, if_pos (by decide)]
  | succ m ih =>
    intro b f g h hb hg
    have hb6 : b < 6 := by omega
    have e1 : nI b + 1 = nI (b + 1) := by rw [li_1, adI]
    have m1 : nI a * 6 + nI b = nI (6 * a + b) := by rw [li_6, muI, adI, Nat.mul_comm]
    obtain ⟨t1, t2, t3, t4, t5, t6⟩ := tb.nt a b ha hb6
    have eg : gx (6 * a + b) = nI (v (6 * a + b)) := by rw [tb.xg _ (by omega), tb.eg _ (by omega)]
    have z0 := (hg.2 a b ha hb6).2 (dn2_self hb).1
    have z1 := (hg.2 b a hb6 ha).2 (dn2_self hb).2
    rw [show m + 1 + 1 + f = (m + 1 + f) + 1 by omega, lX7_tellTo_16, if_neg (by rw [li_6, leI (by omega) (by omega)]; omega), m1, ixT (by omega) (by omega), if_pos rfl, clI (by omega), gs_rdn _ (by decide), h38, eg, e1]
    /- what a new row must be -/
    have go : ∀ g' : Nat → Int32, (∀ k, k ≠ 13 + a * 6 + b → k ≠ 13 + b * 6 + a → k ≠ 49 + a * 6 + b → k ≠ 49 + b * 6 + a → g' k = g k) → g' (13 + a * 6 + b) = nI (v (6 * a + b)) → g' (13 + b * 6 + a) = nI (v (6 * b + a)) → g' (49 + a * 6 + b) = nI (cc (6 * a + b)) → g' (49 + b * 6 + a) = nI (cc (6 * b + a)) → Pd c v cc a (b + 1) g' := by
      intro g' p0 p1 p2 p3 p4
      refine ⟨fun k hk => by rw [p0 k (by omega) (by omega) (by omega) (by omega)]; exact hg.1 k hk, fun x y hx hy => ?_⟩
      by_cases q1 : x = a ∧ y = b
      · obtain ⟨rfl, rfl⟩ := q1
        exact ⟨fun _ => ⟨p1, p3⟩, fun q => absurd ((dn2_step hb).mpr (Or.inr (Or.inl ⟨rfl, rfl⟩))) q⟩
      · by_cases q2 : x = b ∧ y = a
        · obtain ⟨rfl, rfl⟩ := q2
          exact ⟨fun _ => ⟨p2, p4⟩, fun q => absurd ((dn2_step hb).mpr (Or.inr (Or.inr ⟨rfl, rfl⟩))) q⟩
        · rw [p0 (13 + x * 6 + y) (by omega) (by omega) (by omega) (by omega), p0 (49 + x * 6 + y) (by omega) (by omega) (by omega) (by omega)]
          refine ⟨fun q => (hg.2 x y hx hy).1 ?_, fun q => (hg.2 x y hx hy).2 (fun q3 => q ((dn2_step hb).mpr (Or.inl q3)))⟩
          rcases (dn2_step hb).mp q with q | q | q
          · exact q
          · exact absurd q q1
          · exact absurd q q2
    by_cases zv : v (6 * a + b) = 0
    · have zc := t5 zv
      have zv2 : v (6 * b + a) = 0 := by rw [t3, if_pos zv]
      rw [if_pos (by rw [zv]; rfl)]
      exact ih (b + 1) f g (by omega) (by omega) (go g (fun _ _ _ _ _ => rfl) (by rw [zv]; exact z0.1) (by rw [zv2]; exact z1.1) (by rw [zc]; exact z0.2) (by rw [t4, zc]; exact z1.2))
    · have hv2 : v (6 * b + a) = 4 - v (6 * a + b) := by rw [t3, if_neg zv]
      rw [if_neg (by rw [li_0, eqI (by omega) (by omega)]; exact zv), if_pos rfl, sx_setLink ha hb6 t1, bd_some, if_neg zv, gi_of, gi_of, gi_of, gi_of, if_pos rfl]
      have ehx : hx (6 * a + b) = nI (cc (6 * a + b)) := by rw [tb.xh _ (by omega) zv, tb.eh _ (by omega)]
      rw [gs_rdn _ (by decide), h39, ehx]
      by_cases zc : cc (6 * a + b) = 0
      · rw [if_pos (by rw [zc]; rfl)]
        refine ih (b + 1) f _ (by omega) (by omega) (go _ (fun k k1 k2 k3 k4 => by rw [upd_rd, if_neg k4, upd_rd, if_neg k3, upd_rd, if_neg k2, upd_rd, if_neg k1]) ?_ ?_ ?_ ?_)
        · rw [upd_rd, if_neg (by omega), upd_rd, if_neg (by omega), upd_rd, if_neg (by omega), upd_rd, if_pos rfl]
        · rw [upd_rd, if_neg (by omega), upd_rd, if_neg (by omega), upd_rd, if_pos rfl, hv2]
        · rw [upd_rd, if_neg (by omega), upd_rd, if_pos rfl, zc]
        · rw [upd_rd, if_pos rfl, t4, zc]
      · have zc1 : cc (6 * a + b) = 1 := by omega
        rw [if_neg (by rw [li_0, eqI (by omega) (by omega)]; exact zc), sx_turnCut (u := 0) ha hb6 (by rw [gs_rd, upd_rd, if_neg (by omega), upd_rd, if_pos rfl]) (by omega), bd_some, gi_of, gi_of]
        refine ih (b + 1) f _ (by omega) (by omega) (go _ (fun k k1 k2 k3 k4 => by rw [upd_rd, if_neg k4, upd_rd, if_neg k3, upd_rd, if_neg k4, upd_rd, if_neg k3, upd_rd, if_neg k2, upd_rd, if_neg k1]) ?_ ?_ ?_ ?_)
        · rw [upd_rd, if_neg (by omega), upd_rd, if_neg (by omega), upd_rd, if_neg (by omega), upd_rd, if_neg (by omega), upd_rd, if_neg (by omega), upd_rd, if_pos rfl]
        · rw [upd_rd, if_neg (by omega), upd_rd, if_neg (by omega), upd_rd, if_neg (by omega), upd_rd, if_neg (by omega), upd_rd, if_pos rfl, hv2]
        · rw [upd_rd, if_neg (by omega), upd_rd, if_pos rfl, zc1]
        · rw [upd_rd, if_pos rfl, t4, zc1]
theorem tell6 {c : Nat → Int32} {n : Nat} {gx hx gr hr : Nat → Int32} {v cc : Nat → Nat} {w : Nat} (tb : Tb n gx hx gr hr v cc w) {s : mx_G} (h38 : s.1 38 = gx) (h39 : s.1 39 = hx) : ∀ (m a f : Nat) (g : Nat → Int32), a + m = 6 → Pd c v cc a (a + 1) g → ∃ g', lX7_tellTo_6 (m + 1 + f) (nI a) (gs s 2 g) = some ((), gs s 2 g') ∧ Pd c v cc 6 7 g' := by
  intro m
  induction m with
  | zero =>
    intro a f g h hg
    have : a = 6 := by omega
    subst this
    refine ⟨g, ?_, hg⟩
    rw [show 0 + 1 + f = f + 1 by omega, lX7_tellTo_6, if_pos (by decide)]
  | succ m ih =>
    intro a f g h hg
    have e1 : nI a + 1 = nI (a + 1) := by rw [li_1, adI]
    obtain ⟨f2, hf2⟩ := FU_lt (n := 5 - a) (by omega)
    obtain ⟨g1, h1, h2⟩ := tell16 tb h38 h39 (show a < 6 by omega) (fun s5 => lX7_tellTo_6 (m + 1 + f) (nI (a + 1)) s5) (5 - a) (a + 1) f2 g (by omega) (by omega) hg
    rw [← hf2] at h1
    obtain ⟨g2, h3, h4⟩ := ih (a + 1) f g1 (by omega) ⟨h2.1, fun x y hx hy => by rw [dn2_next hx hy]; exact h2.2 x y hx hy⟩
    refine ⟨g2, ?_, h4⟩
    rw [show m + 1 + 1 + f = (m + 1 + f) + 1 by omega, lX7_tellTo_6, if_neg (by rw [li_6, leI (by omega) (by omega)]; omega), mv_let, e1]
    exact Eq.trans h1 h3
theorem sx_lose {s : mx_G} : ∃ g, fX9_loseLinks s = some ((), gs s 2 g) ∧ ∀ k, g k = if 13 ≤ k ∧ k < 85 then nI 0 else s.1 2 k := by
  have loop : ∀ (m k f : Nat) (g : Nat → Int32), k + m = 85 → 13 ≤ k → (∀ j, g j = if 13 ≤ j ∧ j < k then nI 0 else s.1 2 j) → ∃ g', lJA_fillIR_10 85 0 (m + 1 + f) (nI k) (gs s 2 g) = some ((), gs s 2 g') ∧ ∀ j, g' j = if 13 ≤ j ∧ j < 85 then nI 0 else s.1 2 j := by
    intro m
    induction m with
    | zero =>
      intro k f g h hk hg
      have : k = 85 := by omega
      subst this
      refine ⟨g, ?_, hg⟩
      rw [show 0 + 1 + f = f + 1 by omega, lJA_fillIR_10, if_pos (by decide)]
    | succ m ih =>
      intro k f g h hk hg
      have e1 : nI k + 1 = nI (k + 1) := by rw [li_1, adI]
      rw [show m + 1 + 1 + f = (m + 1 + f) + 1 by omega, lJA_fillIR_10, if_neg (by rw [show (85 : Int32) = nI 85 from rfl, leI (by omega) (by omega)]; omega), ixT (by omega) (by omega), if_pos rfl, clI (by omega), mv_let, gi_of, e1]
      refine ih (k + 1) f _ (by omega) (by omega) (fun j => ?_)
      rw [upd_rd]
      by_cases y : j = k
      · rw [if_pos y, if_pos (by omega)]; rfl
      · rw [if_neg y, hg j]
        by_cases z : 13 ≤ j ∧ j < k
        · rw [if_pos z, if_pos (by omega)]
        · rw [if_neg z, if_neg (by omega)]
  obtain ⟨f, hf⟩ := FU_lt (n := 72) (by omega)
  obtain ⟨g, h1, h2⟩ := loop 72 13 f (s.1 2) (by omega) (by omega) (fun j => by rw [if_neg (by omega)])
  rw [gs_self, ← hf] at h1
  refine ⟨g, ?_, h2⟩
  unfold fX9_loseLinks fJA_fillIR fJA_rangeCheck
  rw [if_pos (by decide), if_pos (by decide), if_pos (by decide), bd_some]
  have h1 : lJA_fillIR_10 85 0 FU 13 s = some ((), gs s 2 g) := h1
  rw [h1, bd_some]
theorem sx_tellTo {n : Nat} {gx hx gr hr : Nat → Int32} {v cc : Nat → Nat} {w : Nat} (tb : Tb n gx hx gr hr v cc w) {s : mx_G} (h38 : s.1 38 = gx) (h39 : s.1 39 = hx) : ∃ g, fX7_tellTo s = some ((), gs s 2 g) ∧ (∀ k, k < 13 ∨ 85 ≤ k → g k = s.1 2 k) ∧ ∀ x y, x < 6 → y < 6 → g (13 + x * 6 + y) = nI (v (6 * x + y)) ∧ g (49 + x * 6 + y) = nI (cc (6 * x + y)) := by
  obtain ⟨g0, e0, h0⟩ := sx_lose (s := s)
  obtain ⟨f, hf⟩ := FU_lt (n := 6) (by omega)
  obtain ⟨g, e1, h1⟩ := tell6 (c := s.1 2) tb h38 h39 6 0 f g0 (by omega) ⟨fun k hk => by rw [h0 k, if_neg (by omega)], fun x y hx hy => ⟨fun q => by unfold dn2 at q; omega, fun _ => ⟨by rw [h0, if_pos (by omega)], by rw [h0, if_pos (by omega)]⟩⟩⟩
  rw [← hf] at e1
  refine ⟨g, ?_, h1.1, fun x y hx hy => ?_⟩
  · unfold fX7_tellTo
    rw [e0, bd_some]
    exact e1
  · by_cases z : x = y
    · subst z
      have t := tb.nt x x hx hx
      have hv := t.2.2.2.2.2 (Or.inl rfl)
      have hc := t.2.2.2.2.1 hv
      rw [hv, hc]
      exact (h1.2 x x hx hx).2 (by unfold dn2; omega)
    · exact (h1.2 x y hx hy).1 (by unfold dn2; omega)
