/-! PURE PART: the world stays as it must be, cell by cell -/
theorem N_upd (c : Nat → Int32) (i : Nat) {v : Nat} (k : Nat) (hv : v < 2147483648) : N (upd c i (nI v)) k = if k = i then v else N c k := by
  unfold N
  rw [upd_rd]
  by_cases h : k = i
  · rw [if_pos h, if_pos h]; exact nI_clamp hv
  · rw [if_neg h, if_neg h]
/-- a small cell (manner, bars, liking) becomes another number -/
theorem WOK.small {c : Nat → Int32} (h : WOK c) {i v : Nat} (hv : v < 64) (hi : (1 ≤ i ∧ i < 7 ∧ v ≤ 3) ∨ (7 ≤ i ∧ i < 13) ∨ (85 ≤ i ∧ i < 121 ∧ v ≤ 9)) : WOK (upd c i (nI v)) := by
  have hN : ∀ k, N (upd c i (nI v)) k = if k = i then v else N c k := fun k => N_upd c i k (by omega)
  obtain ⟨h1, h2, h3, h4, h5, h6, h7⟩ := h
  have h0 : N (upd c i (nI v)) 0 = N c 0 := by rw [hN, if_neg (by omega)]
  refine ⟨by rw [h0]; exact h1, fun k hk => ?_, ?_, fun d hd => ?_, fun a b ha hb => ?_, ?_, fun d hd hd6 => ?_⟩
  · rw [hN, upd_rd]
    by_cases e : k = i
    · rw [if_pos e, if_pos e]
    · rw [if_neg e, if_neg e]; exact h2 k hk
  · rw [hN, upd_rd, if_neg (by omega), if_neg (by omega)]; exact h3
  · have := h4 d hd
    rw [hN, hN]
    constructor
    · split <;> omega
    · split <;> omega
  · have := h5 a b ha hb
    rw [h0, hN, hN, hN, hN, hN, if_neg (show ¬ 13 + a * 6 + b = i by omega), if_neg (show ¬ 49 + a * 6 + b = i by omega), if_neg (show ¬ 13 + b * 6 + a = i by omega), if_neg (show ¬ 49 + b * 6 + a = i by omega)]
    obtain ⟨g1, g2, g3, g4⟩ := this
    refine ⟨g1, g2, ?_, g4⟩
    split <;> omega
  · rw [upd_rd, if_neg (by omega)]; exact h6
  · rw [h0, upd_rd, if_neg (by omega)]; exact h7 d hd hd6
def L4 (c : Nat → Int32) (a b t u : Nat) : Nat → Int32 := upd (upd (upd (upd c (13 + a * 6 + b) (nI t)) (13 + b * 6 + a) (nI (if t = 0 then 0 else 4 - t))) (49 + a * 6 + b) (nI u)) (49 + b * 6 + a) (nI u)
theorem N_L4 (c : Nat → Int32) {a b t u : Nat} (k : Nat) (ht : t ≤ 3) (hu : u ≤ 1) : N (L4 c a b t u) k = if k = 49 + b * 6 + a then u else if k = 49 + a * 6 + b then u else if k = 13 + b * 6 + a then (if t = 0 then 0 else 4 - t) else if k = 13 + a * 6 + b then t else N c k := by
  unfold L4
  rw [N_upd _ _ _ (by omega), N_upd _ _ _ (by omega), N_upd _ _ _ (by split <;> omega), N_upd _ _ _ (by omega)]
theorem L4_rd (c : Nat → Int32) {a b t u : Nat} (k : Nat) (h : (k < 13 ∨ 85 ≤ k)) (ha : a < 6) (hb : b < 6) : L4 c a b t u k = c k := by
  unfold L4
  rw [upd_rd, if_neg (by omega), upd_rd, if_neg (by omega), upd_rd, if_neg (by omega), upd_rd, if_neg (by omega)]
theorem L4_in (c : Nat → Int32) {a b t u : Nat} (k : Nat) (ht : t ≤ 3) (hu : u ≤ 1) (hc : c k = nI (N c k)) : L4 c a b t u k = nI (N (L4 c a b t u) k) := by
  rw [N_L4 c k ht hu]
  unfold L4
  rw [upd_rd, upd_rd, upd_rd, upd_rd]
  split
  · rfl
  · split
    · rfl
    · split
      · rfl
      · split
        · rfl
        · exact hc
theorem WOK.link {c : Nat → Int32} (h : WOK c) {a b t u : Nat} (ha : a < N c 0) (hb : b < N c 0) (hab : a ≠ b) (ht : t ≤ 3) (hu : u ≤ 1) (htu : t = 0 → u = 0) : WOK (L4 c a b t u) := by
  have hN := fun k => N_L4 c (a := a) (b := b) k ht hu
  obtain ⟨h1, h2, h3, h4, h5, h6, h7⟩ := h
  have a6 : a < 6 := by omega
  have b6 : b < 6 := by omega
  have h0 : N (L4 c a b t u) 0 = N c 0 := by rw [hN]; simp (disch := omega) only [if_neg]
  refine ⟨by rw [h0]; exact h1, fun k hk => L4_in c k ht hu (h2 k hk), L4_in c 127 ht hu h3, fun d hd => ?_, fun p q hp hq => ?_, ?_, fun d hd hd6 => ?_⟩
  · have := h4 d hd
    rw [hN, hN]
    simp (disch := omega) only [if_neg]
    exact this
  · rw [h0]
    have := h5 p q hp hq
    by_cases e1 : p = a ∧ q = b
    · obtain ⟨rfl, rfl⟩ := e1
      simp only [hN]
      simp (disch := omega) only [if_pos, if_neg, if_true]
      refine ⟨ht, hu, this.2.2.1, ?_, trivial, htu, fun z => by omega⟩
      by_cases e0 : t = 0 <;> simp [e0]
    · by_cases e2 : p = b ∧ q = a
      · obtain ⟨rfl, rfl⟩ := e2
        simp only [hN]
        simp (disch := omega) only [if_pos, if_neg, if_true]
        refine ⟨by split <;> omega, hu, this.2.2.1, ?_, trivial, ?_, fun z => by omega⟩
        · by_cases e0 : t = 0
          · simp [e0]
          · rw [if_neg e0, if_neg (by omega)]; omega
        · by_cases e0 : t = 0
          · intro _; exact htu e0
          · rw [if_neg e0]; intro z; omega
      · simp only [hN]
        simp (disch := omega) only [if_neg]
        exact this
  · rw [L4_rd c 121 (by omega) a6 b6]; exact h6
  · rw [h0, L4_rd c _ (by omega) a6 b6]; exact h7 d hd hd6
theorem RW_upd {f c : Nat → Int32} (h : RW f c) {k : Nat} (hk : k < 128) (x : Int32) : RW (upd f k x) (upd c (pi k) x) := by
  intro j hj
  rw [upd_rd, upd_rd]
  by_cases e : j = k
  · rw [if_pos e, if_pos (by rw [e])]
  · rw [if_neg e, if_neg (fun z => e (pi_inj hj hk z))]; exact h j hj
theorem pi_at {k i : Nat} (h : (k = 0 ∧ i = 0) ∨ (0 < k ∧ k < 109 ∧ i = k + 12) ∨ (109 ≤ k ∧ k < 121 ∧ i = k - 108) ∨ (121 ≤ k ∧ i = k)) : pi k = i := by
  unfold pi
  split <;> (try split) <;> (try split) <;> omega
theorem RW_updA {f c : Nat → Int32} (h : RW f c) {k i : Nat} (hk : k < 128) (hi : (k = 0 ∧ i = 0) ∨ (0 < k ∧ k < 109 ∧ i = k + 12) ∨ (109 ≤ k ∧ k < 121 ∧ i = k - 108) ∨ (121 ≤ k ∧ i = k)) (x : Int32) : RW (upd f k x) (upd c i x) := by
  have := RW_upd h hk x
  rwa [pi_at hi] at this
theorem RW.at {f c : Nat → Int32} (h : RW f c) {k i : Nat} (hk : k < 128) (hi : (k = 0 ∧ i = 0) ∨ (0 < k ∧ k < 109 ∧ i = k + 12) ∨ (109 ≤ k ∧ k < 121 ∧ i = k - 108) ∨ (121 ≤ k ∧ i = k)) : f k = c i := by
  rw [h k hk, pi_at hi]
theorem dom_cases (n : Nat) (h2 : 2 ≤ n) (h6 : n ≤ 6) (p : Int32) : (∃ a : Nat, a < n ∧ p = nI a ∧ (∀ s : mx_G, s.1 2 0 = nI n → fX9_isDomain p s = some (1, s)) ∧ (∀ s : mx_G, s.1 46 0 = nI n → fX11_isDomain p s = some (1, s))) ∨ ((∀ s : mx_G, s.1 2 0 = nI n → fX9_isDomain p s = some (0, s)) ∧ (∀ s : mx_G, s.1 46 0 = nI n → fX11_isDomain p s = some (0, s))) := by
  by_cases h : 0 ≤ p ∧ p < nI n
  · obtain ⟨a, ha, e⟩ := dom_ex h6 h
    exact Or.inl ⟨a, ha, e, fun s hs => by rw [sx_isDomain hs h6, if_pos h], fun s hs => by rw [sm_isDomain hs h2 h6, if_pos h]⟩
  · exact Or.inr ⟨fun s hs => by rw [sx_isDomain hs h6, if_neg h], fun s hs => by rw [sm_isDomain hs h2 h6, if_neg h]⟩
theorem one_ne : ¬ (1 : Int32) = 0 := by decide
theorem pair_cases (n : Nat) (h2 : 2 ≤ n) (h6 : n ≤ 6) (p q : Int32) : (∃ a b : Nat, a < n ∧ b < n ∧ a ≠ b ∧ p = nI a ∧ q = nI b ∧ (∀ s : mx_G, s.1 2 0 = nI n → fX9_arePair p q s = some (1, s)) ∧ (∀ s : mx_G, s.1 46 0 = nI n → fX11_areTwo p q s = some (1, s))) ∨ ((∀ s : mx_G, s.1 2 0 = nI n → fX9_arePair p q s = some (0, s)) ∧ (∀ s : mx_G, s.1 46 0 = nI n → fX11_areTwo p q s = some (0, s))) := by
  unfold fX9_arePair fX11_areTwo
  rcases dom_cases n h2 h6 p with ⟨a, ha, e1, x1, m1⟩ | ⟨x1, m1⟩
  · rcases dom_cases n h2 h6 q with ⟨b, hb, e2, x2, m2⟩ | ⟨x2, m2⟩
    · by_cases hab : a = b
      · refine Or.inr ⟨fun s hs => ?_, fun s hs => ?_⟩
        · rw [x1 s hs, bd_some, if_neg one_ne, x2 s hs, bd_some, if_neg one_ne, if_pos (by rw [e1, e2, hab])]
        · rw [m1 s hs, bd_some, if_neg one_ne, m2 s hs, bd_some, if_neg one_ne, if_pos (by rw [e1, e2, hab])]
      · have hpq : ¬ p = q := by rw [e1, e2, eqI (by omega) (by omega)]; exact hab
        refine Or.inl ⟨a, b, ha, hb, hab, e1, e2, fun s hs => ?_, fun s hs => ?_⟩
        · rw [x1 s hs, bd_some, if_neg one_ne, x2 s hs, bd_some, if_neg one_ne, if_neg hpq]
        · rw [m1 s hs, bd_some, if_neg one_ne, m2 s hs, bd_some, if_neg one_ne, if_neg hpq]
    · refine Or.inr ⟨fun s hs => ?_, fun s hs => ?_⟩
      · rw [x1 s hs, bd_some, if_neg one_ne, x2 s hs, bd_some, if_pos rfl]
      · rw [m1 s hs, bd_some, if_neg one_ne, m2 s hs, bd_some, if_pos rfl]
  · refine Or.inr ⟨fun s hs => ?_, fun s hs => ?_⟩
    · rw [x1 s hs, bd_some, if_pos rfl]
    · rw [m1 s hs, bd_some, if_pos rfl]
/-- a number from 0 to m, as both test it -/
theorem rng_cases (m : Nat) (hm : m < 2147483648) (y : Int64) (hy : y = Int32.toInt64 (nI m)) (q : Int32) (hq : q = nI m) (p : Int32) : (∃ t : Nat, t ≤ m ∧ p = nI t ∧ ¬ p < 0 ∧ p ≤ q ∧ ∀ s : mx_G, fX11_in (Int32.toInt64 p) 0 y s = some (1, s)) ∨ ((p < 0 ∨ ¬ p ≤ q) ∧ ∀ s : mx_G, fX11_in (Int32.toInt64 p) 0 y s = some (0, s)) := by
  subst hq
  have hin := fun s => sm_inI p (a := 0) (b := m) (by omega) hm 0 y (by decide) hy s
  by_cases h : nI 0 ≤ p ∧ p ≤ nI m
  · rcases nI_ex p with h1 | ⟨j, hj, rfl⟩
    · exact absurd h1 (Int32.not_lt.mpr h.1)
    · exact Or.inl ⟨j, by have := h.2; rwa [leI hj hm] at this, rfl, Int32.not_lt.mpr h.1, h.2, fun s => by rw [hin s, if_pos h]⟩
  · refine Or.inr ⟨?_, fun s => by rw [hin s, if_neg h]⟩
    by_cases h1 : p < 0
    · exact Or.inl h1
    · exact Or.inr fun z => h ⟨Int32.not_lt.mp h1, z⟩
