/-! PURE PART: the class's ways: a way is put into its row by rank -/
theorem or_g (a b : Nat) : nI a ||| nI b = nI (a ||| b) := by
  apply Int32.toBitVec_inj.mp
  rw [Int32.toBitVec_or]
  apply BitVec.eq_of_toNat_eq
  rw [BitVec.toNat_or]
  show (BitVec.ofNat 32 a).toNat ||| (BitVec.ofNat 32 b).toNat = (BitVec.ofNat 32 (a ||| b)).toNat
  rw [BitVec.toNat_ofNat, BitVec.toNat_ofNat, BitVec.toNat_ofNat, Nat.or_mod_two_pow]
theorem and_g (a b : Nat) : nI a &&& nI b = nI (a &&& b) := by
  apply Int32.toBitVec_inj.mp
  rw [Int32.toBitVec_and]
  apply BitVec.eq_of_toNat_eq
  rw [BitVec.toNat_and]
  show (BitVec.ofNat 32 a).toNat &&& (BitVec.ofNat 32 b).toNat = (BitVec.ofNat 32 (a &&& b)).toNat
  rw [BitVec.toNat_ofNat, BitVec.toNat_ofNat, BitVec.toNat_ofNat, Nat.and_mod_two_pow]
theorem shl_g : ∀ k : Nat, k < 31 → mv_shl 1 (nI k) = nI (2 ^ k) := by decide +kernel
def pr2 (a b : Nat) : Nat := (max a b) * (max a b - 1) / 2 + min a b
theorem pr2_n : ∀ a : Nat, a < 6 → ∀ b : Nat, b < 6 → mv_max (nI a) (nI b) * (mv_max (nI a) (nI b) - 1) / 2 + mv_min (nI a) (nI b) = nI (pr2 a b) := by decide +kernel
theorem pr2_lt : ∀ a : Nat, a < 6 → ∀ b : Nat, b < 6 → pr2 a b < 16 ∧ (a ≠ b → pr2 a b < 15) := by decide +kernel
theorem sx_pairOf {a b : Nat} (ha : a < 6) (hb : b < 6) (s : mx_G) : fX8_pairOf (nI a) (nI b) s = some (nI (pr2 a b), s) := by
  unfold fX8_pairOf
  rw [mv_let, pr2_n a ha b hb]
theorem sx_insert_l {s : mx_G} {d w q : Nat} (hd : d < 6) (hq : q < 65) (hw : w < 326) (ρ R : Nat → Nat) (a : Nat → Int32) (ha : ∀ k, k < q → a (d * 65 + k) = nI (ρ k) ∧ ρ k < 326) (hR : ∀ k, k < q → s.1 19 (ρ k) = nI (R (ρ k)) ∧ R (ρ k) < 2147483648) (hRw : s.1 19 w = nI (R w) ∧ R w < 2147483648) (K : Int32 → mx_G → Option (Unit × mx_G)) : ∀ (m f : Nat) (g : Nat → Int32), m ≤ q → (∀ t, g t = if d * 65 + m < t ∧ t ≤ d * 65 + q then a (t - 1) else a t) → (∀ k, m ≤ k → k < q → R w < R (ρ k)) → ∃ p, p ≤ q ∧ ∃ g', lX8_insert_12 (nI d) (nI w) K (m + 1 + f) (nI (d * 65 + m)) (gs s 24 g) = K (nI (d * 65 + p)) (gs s 24 g') ∧ (∀ t, g' t = if d * 65 + p < t ∧ t ≤ d * 65 + q then a (t - 1) else a t) ∧ (∀ k, p ≤ k → k < q → R w < R (ρ k)) ∧ (0 < p → R (ρ (p - 1)) ≤ R w) := by
  intro m
  induction m with
  | zero =>
    intro f g hm hg hk
    refine ⟨0, by omega, g, ?_, hg, hk, fun z => absurd z (by omega)⟩
    rw [show 0 + 1 + f = f + 1 by omega, lX8_insert_12, li_65, muI, if_pos (nI_le (by omega) (by omega))]
  | succ m ih =>
    intro f g hm hg hk
    have e1 : nI (d * 65 + (m + 1)) - 1 = nI (d * 65 + m) := by rw [li_1, suI (by omega), show d * 65 + (m + 1) - 1 = d * 65 + m by omega]
    have e2 : nI (d * 65 + (m + 1)) + (-1) = nI (d * 65 + m) := by rw [show d * 65 + (m + 1) = (d * 65 + m) + 1 by omega, pk_m1]
    have g1 : g (d * 65 + m) = nI (ρ m) := by rw [hg, if_neg (by omega)]; exact (ha m (by omega)).1
    have h2 := (ha m (by omega)).2
    have h3 := hR m (by omega)
    rw [show m + 1 + 1 + f = (m + 1 + f) + 1 by omega, lX8_insert_12, li_65, muI, if_neg (nI_ge (by omega) (by omega)), e1, ixT (by omega) (by omega), if_pos rfl, clI (by omega), gs_rd, g1, ixT h2 (by omega), if_pos rfl, clI (by omega), ixT hw (by omega), if_pos rfl, clI (by omega), gs_rdn _ (by decide), h3.1, hRw.1]
    by_cases z : R (ρ m) ≤ R w
    · rw [if_pos (show nI (R (ρ m)) ≤ nI (R w) by rw [leI h3.2 hRw.2]; exact z)]
      exact ⟨m + 1, hm, g, rfl, hg, hk, fun _ => z⟩
    · rw [if_neg (show ¬ nI (R (ρ m)) ≤ nI (R w) by rw [leI h3.2 hRw.2]; exact z), if_pos rfl, ixT (by omega) (by omega), if_pos rfl, clI (by omega), mv_let, gi_of, e2]
      refine ih f _ (by omega) (fun t => ?_) (fun k h4 h5 => ?_)
      · rw [upd_rd, hg]
        by_cases y : t = d * 65 + (m + 1)
        · rw [if_pos y, if_pos (by omega), show t - 1 = d * 65 + m by omega]
          exact (ha m (by omega)).1.symm
        · rw [if_neg y]
          by_cases y2 : d * 65 + (m + 1) < t ∧ t ≤ d * 65 + q
          · rw [if_pos y2, if_pos (by omega)]
          · rw [if_neg y2, if_neg (by omega)]
      · by_cases y : k = m
        · rw [y]; omega
        · exact hk k (by omega) h5
theorem sx_insert {s : mx_G} {d w q : Nat} (hd : d < 6) (hq : q < 65) (hw : w < 326) (h23 : s.1 23 d = nI q) (ρ R : Nat → Nat) (ha : ∀ k, k < q → s.1 24 (d * 65 + k) = nI (ρ k) ∧ ρ k < 326) (hR : ∀ k, k < q → s.1 19 (ρ k) = nI (R (ρ k)) ∧ R (ρ k) < 2147483648) (hRw : s.1 19 w = nI (R w) ∧ R w < 2147483648) : ∃ p s', p ≤ q ∧ fX8_insert (nI d) (nI w) s = some ((), s') ∧ s'.1 23 = upd (s.1 23) d (nI (q + 1)) ∧ (∀ k, k ≤ q → s'.1 24 (d * 65 + k) = nI (if k < p then ρ k else if k = p then w else ρ (k - 1))) ∧ (∀ t, t < d * 65 ∨ d * 65 + 65 ≤ t → s'.1 24 t = s.1 24 t) ∧ (∀ k, p ≤ k → k < q → R w < R (ρ k)) ∧ (0 < p → R (ρ (p - 1)) ≤ R w) ∧ ∀ t : Nat, t ∉ [23, 24] → s'.1 t = s.1 t ∧ s'.2 t = s.2 t := by
  obtain ⟨f, hf⟩ := FU_lt (n := q) (by omega)
  obtain ⟨p, hp, g', e1, hg', h1, h2⟩ := sx_insert_l hd hq hw ρ R (s.1 24) ha hR hRw (fun y4 s3 =>
        if ix y4 390 = true then
          mv_let (gi s3 24 (Int32.toNatClampNeg y4) (nI w)) fun s5 =>
          if ix (nI d) 6 = true then
            if ix (nI d) 6 = true then
              mv_let (gi s5 23 (Int32.toNatClampNeg (nI d)) ((s5.1 23 (Int32.toNatClampNeg (nI d))) + 1)) fun s6 =>
              some ((), s6)
            else none
          else none
        else none) q f (s.1 24) (Nat.le_refl _) (fun t => by rw [if_neg (by omega)]) (fun k a b => absurd b (by omega))
  rw [gs_self, ← hf, ixT hd (by omega), clI (show d < 2147483648 by omega)] at e1
  have e : fX8_insert (nI d) (nI w) s = some ((), gi (gs s 24 (upd g' (d * 65 + p) (nI w))) 23 d (nI (q + 1))) := by
    unfold fX8_insert
    rw [ixT hd (by omega), if_pos rfl, clI (by omega), h23, li_65, muI, adI, mv_let]
    refine Eq.trans e1 ?_
    rw [ixT (by omega) (by omega), if_pos rfl, clI (by omega), mv_let, gi_of, if_pos rfl, mv_let, gs_rdn _ (by decide), h23, li_1, adI, if_pos rfl]
  refine ⟨p, _, hp, e, ?_, fun k hk => ?_, fun t ht => ?_, h1, h2, fun t ht => fr_X8_insert _ _ s _ _ e t ht⟩
  · rw [rd_gi, if_pos rfl, gs_rdn _ (by decide)]
  · rw [rd_gi, if_neg (by decide), gs_rd, upd_rd, hg']
    by_cases z1 : k < p
    · rw [if_neg (by omega), if_neg (by omega), if_pos z1]
      exact (ha k (by omega)).1
    · by_cases z2 : k = p
      · rw [if_pos (by omega), if_neg z1, if_pos z2]
      · rw [if_neg (by omega), if_pos (by omega), if_neg z1, if_neg z2, show d * 65 + k - 1 = d * 65 + (k - 1) by omega]
        exact (ha (k - 1) (by omega)).1
  · rw [rd_gi, if_neg (by decide), gs_rd, upd_rd, if_neg (by omega), hg', if_neg (by omega)]
