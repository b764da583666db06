/-! PURE PART: read: the new world -/
theorem WOK.links {c g : Nat → Int32} (h : WOK c) {v cc : Nat → Nat} (hn : NT (N c 0) v cc) (h1 : ∀ k, k < 13 ∨ 85 ≤ k → g k = c k) (h2 : ∀ x y, x < 6 → y < 6 → g (13 + x * 6 + y) = nI (v (6 * x + y)) ∧ g (49 + x * 6 + y) = nI (cc (6 * x + y))) : WOK g := by
  have hN : ∀ k, k < 13 ∨ 85 ≤ k → N g k = N c k := fun k hk => by unfold N; rw [h1 k hk]
  have hv : ∀ x y, x < 6 → y < 6 → N g (13 + x * 6 + y) = v (6 * x + y) := fun x y hx hy => N_nI (h2 x y hx hy).1 (by have := (hn x y hx hy).1; omega)
  have hc : ∀ x y, x < 6 → y < 6 → N g (49 + x * 6 + y) = cc (6 * x + y) := fun x y hx hy => N_nI (h2 x y hx hy).2 (by have := (hn x y hx hy).2.1; omega)
  obtain ⟨g1, g2, g3, g4, g5, g6, g7⟩ := h
  refine ⟨by rw [hN 0 (by omega)]; exact g1, fun k hk => ?_, by rw [h1 127 (by omega), hN 127 (by omega)]; exact g3, fun d hd => by rw [hN _ (by omega), hN _ (by omega)]; exact g4 d hd, fun a b ha hb => ?_, by rw [h1 121 (by omega)]; exact g6, fun d hd hd6 => ?_⟩
  · by_cases z1 : k < 13 ∨ 85 ≤ k
    · rw [h1 k z1, hN k z1]; exact g2 k hk
    · by_cases z2 : k < 49
      · have e : k = 13 + ((k - 13) / 6) * 6 + (k - 13) % 6 := by omega
        have hx : (k - 13) / 6 < 6 := by omega
        have hy : (k - 13) % 6 < 6 := by omega
        rw [e, hv _ _ hx hy]; exact (h2 _ _ hx hy).1
      · have e : k = 49 + ((k - 49) / 6) * 6 + (k - 49) % 6 := by omega
        have hx : (k - 49) / 6 < 6 := by omega
        have hy : (k - 49) % 6 < 6 := by omega
        rw [e, hc _ _ hx hy]; exact (h2 _ _ hx hy).2
  · have t := hn a b ha hb
    rw [hv a b ha hb, hv b a hb ha, hc a b ha hb, hc b a hb ha, hN (85 + a * 6 + b) (by omega), hN 0 (by omega)]
    exact ⟨t.1, t.2.1, (g5 a b ha hb).2.2.1, t.2.2.1, t.2.2.2.1, t.2.2.2.2.1, t.2.2.2.2.2⟩
  · rw [hN 0 (by omega), h1 (121 + d) (by omega)]; exact g7 d hd hd6
theorem RW.links {c g f f' : Nat → Int32} (h : RW f c) {v cc : Nat → Nat} (h1 : ∀ k, k < 13 ∨ 85 ≤ k → g k = c k) (h2 : ∀ x y, x < 6 → y < 6 → g (13 + x * 6 + y) = nI (v (6 * x + y)) ∧ g (49 + x * 6 + y) = nI (cc (6 * x + y))) (k0 : ∀ j, j < 1 ∨ 73 ≤ j → f' j = f j) (k1 : ∀ j, j < 36 → f' (1 + j) = nI (v j)) (k2 : ∀ j, j < 36 → f' (37 + j) = nI (cc j)) : RW f' g := by
  intro j hj
  by_cases z1 : j < 1 ∨ 73 ≤ j
  · have e : pi j < 13 ∨ 85 ≤ pi j := by
      unfold pi
      split <;> (try split) <;> (try split) <;> omega
    rw [k0 j z1, h1 _ e]; exact h j hj
  · have e : pi j = j + 12 := by unfold pi; rw [if_neg (by omega), if_pos (by omega)]
    rw [e]
    by_cases z2 : j < 37
    · have a := k1 (j - 1) (by omega)
      have b := (h2 ((j - 1) / 6) ((j - 1) % 6) (by omega) (by omega)).1
      rw [show 1 + (j - 1) = j by omega] at a
      rw [show 13 + (j - 1) / 6 * 6 + (j - 1) % 6 = j + 12 by omega, show 6 * ((j - 1) / 6) + (j - 1) % 6 = j - 1 by omega] at b
      rw [a, b]
    · have a := k2 (j - 37) (by omega)
      have b := (h2 ((j - 37) / 6) ((j - 37) % 6) (by omega) (by omega)).2
      rw [show 37 + (j - 37) = j by omega] at a
      rw [show 49 + (j - 37) / 6 * 6 + (j - 37) % 6 = j + 12 by omega, show 6 * ((j - 37) / 6) + (j - 37) % 6 = j - 37 by omega] at b
      rw [a, b]
theorem bsum_cong {F G : Nat → Nat} : ∀ n, (∀ p, p < n → F p = G p) → bsum F 0 n = bsum G 0 n := by
  intro n
  induction n with
  | zero => intro _; rfl
  | succ n ih => intro h; rw [bsum, bsum, ih (fun p hp => h p (by omega)), Nat.zero_add, h n (by omega)]
theorem SM_bsum (f : Nat → Nat → Nat) : SM f 0 6 = bsum (fun p => f (dA p) (dB p)) 0 15 := by
  simp only [SM, sx2, bsum, dA, dB, Nat.reduceAdd, Nat.reduceSub]
  show _ = 0 + f 1 0 + f 2 0 + f 2 1 + f 3 0 + f 3 1 + f 3 2 + f 4 0 + f 4 1 + f 4 2 + f 4 3 + f 5 0 + f 5 1 + f 5 2 + f 5 3 + f 5 4
  omega
theorem lks_SM {n : Nat} {v cc : Nat → Nat} (hn : NT n v cc) {f : Nat → Int32} (k1 : ∀ j, j < 36 → f (1 + j) = nI (v j)) : SM (lkM f 1) 0 6 = lks v := by
  rw [SM_bsum]
  refine bsum_cong 15 (fun p hp => ?_)
  obtain ⟨q1, q2, q3⟩ := dAB p hp
  have hv := (hn (dA p) (dB p) q1 (by omega)).1
  unfold lkM
  rw [k1 _ (by omega)]
  by_cases z : v (6 * dA p + dB p) = 0
  · rw [z, if_pos (by decide), if_pos rfl]
  · rw [if_neg (by rw [li_0, leI (by omega) (by omega)]; omega), if_neg z]
theorem bsum_lt {F : Nat → Nat} (h : ∀ p, F p ≤ 1) : ∀ n, bsum F 0 n ≤ n := by
  intro n
  induction n with
  | zero => exact Nat.le_refl _
  | succ n ih => rw [bsum]; have := h (0 + n); omega
theorem lks_le (v : Nat → Nat) : lks v ≤ 15 := bsum_lt (fun p => by show (if _ then 0 else 1) ≤ 1; split <;> omega) 15
theorem flt_neg : ∀ j : Nat, j < 81 → (-20 : Int32) - nI j < 0 := by decide +kernel
