/-! PURE PART: fail -/
theorem sm_in0 (x : Int32) (z : Int32) (z2 : Int64) (hz : Int32.toInt64 z = z2) (s : mx_G) : fX11_in (Int32.toInt64 x) 0 z2 s = some (if 0 ≤ x ∧ x ≤ z then 1 else 0, s) := by
  have := sm_in x 0 z s
  rw [hz] at this
  exact this
theorem Sc_gs {t : mx_G} {p : Nat} (hp : p ∈ scr) (h45 : p ≠ 45) (g : Nat → Int32) : Sc t (gs t p g) := by
  refine ⟨fun r hr => ?_, fun j _ _ _ => ?_, fun r hr => rfl⟩
  · rw [gs_rdn _ (fun z => hr (by rw [z]; exact List.mem_cons_of_mem _ hp))]
  · rw [gs_rdn _ (fun z => h45 z.symm)]
theorem ok_fail : pv_fail (Inv IC) := by
  intro k σ p1 p2 p3 hk h
  obtain ⟨n2, n6, nx0, nm⟩ := h.n
  have hn : 0 < N (σ.1 2) 0 := by omega
  have hW := WL_ok h.1.2
  have hG := WL_gd h.1.2 hn n6
  unfold fX10_fail fX11_fail
  rcases dom_cases _ n2 n6 p1 with ⟨d, hd, rfl, x1, m1⟩ | ⟨x1, m1⟩
  · have d6 : d < 6 := by omega
    have bad : ¬ (0 ≤ p2 ∧ p2 ≤ 10) ∨ ¬ (0 ≤ p3 ∧ p3 ≤ 1) → pv_ok (Inv IC (k + 1)) (fX10_fail (nI d) p2 p3 σ) (fun τ => fX11_fail (nI d) p2 p3 τ) := by
      intro hb
      refine pv_same IC_ok h (-1) ?_ ?_
      · unfold fX10_fail
        rw [x1 σ nx0, bd_some, if_neg one_ne]
        by_cases z1 : p2 < 0
        · rw [if_pos z1]
        · rw [if_neg z1]
          by_cases z2 : 10 < p2
          · rw [if_pos z2]
          · rw [if_neg z2]
            by_cases z3 : p3 < 0
            · rw [if_pos z3]
            · rw [if_neg z3, if_neg]
              intro z4
              rcases hb with hb | hb
              · exact hb ⟨Int32.not_lt.mp z1, Int32.not_lt.mp z2⟩
              · exact hb ⟨Int32.not_lt.mp z3, z4⟩
      · show fX11_fail (nI d) p2 p3 σ = _
        unfold fX11_fail
        rw [m1 σ nm, bd_some, if_neg one_ne, sm_in0 p2 10 10 rfl, bd_some]
        by_cases z1 : 0 ≤ p2 ∧ p2 ≤ 10
        · rw [if_pos z1, if_neg one_ne, sm_in0 p3 1 1 rfl, bd_some]
          have z2 : ¬ (0 ≤ p3 ∧ p3 ≤ 1) := by
            rcases hb with hb | hb
            · exact absurd z1 hb
            · exact hb
          rw [if_neg z2, if_pos rfl]
        · rw [if_neg z1, if_pos rfl]
    by_cases hp2 : 0 ≤ p2 ∧ p2 ≤ 10
    · by_cases hp3 : 0 ≤ p3 ∧ p3 ≤ 1
      · obtain ⟨q, hq, rfl⟩ : ∃ q : Nat, q ≤ 10 ∧ p2 = nI q := by
          rcases nI_ex p2 with z | ⟨t, ht, rfl⟩
          · exact absurd z (Int32.not_lt.mpr hp2.1)
          · have := hp2.2
            rw [li_10, leI (by omega) (by omega)] at this
            exact ⟨t, this, rfl⟩
        obtain ⟨s1, b1, b2, b3, -, -, b6⟩ := sx_ways hk h
        have t46 : s1.1 46 = σ.1 46 := (b6 46 (by decide)).1
        obtain ⟨t1, c1, c2, c5, c3, c4⟩ := sm_laysWays (t := s1) h.1.2 hn n6 (by rw [t46]; exact h.1.1) (by rw [t46]; exact nm)
        have u46 : t1.1 46 = σ.1 46 := by rw [(c4 46 (by decide)).1]; exact t46
        obtain ⟨g1, e1, hg1⟩ := sm_laysLinks (t := t1) h.1.2 (by rw [u46]; exact h.1.1)
        have hadj : ∀ l ∈ WL (σ.1 2) (N (σ.1 2) 0), adj (σ.1 2) l := fun l hl => by
          obtain ⟨i, hi, e⟩ := List.getElem_of_mem hl
          exact adj_WL h.1.2 hn n6 i i l (Nat.le_refl _) (by rw [List.getElem?_eq_getElem hi, e])
        have hm2 : MR (WL (σ.1 2) (N (σ.1 2) 0)) (gs t1 64 g1) := ⟨by rw [gs_rdn _ (by decide)]; exact c2.1, fun i l hl => by rw [gs_rdn _ (by decide), gs_rdn _ (by decide)]; exact c2.2 i l hl⟩
        obtain ⟨g2, e2⟩ := sm_above h.1.2 hn n6 hW.1 hW.2.1 hW.2.2.1 hadj hm2 (by rw [gs_rd]; exact hg1) d6 hq
        have eV := Vp_same (c := σ.1 2) (L := WL (σ.1 2) (N (σ.1 2) 0)) (fun l hl => cds_lk h.1.2 hn n6 (hW.2.2.1 l hl) (hadj l hl)) hq d
        have eX := sx_lasting hn n6 hW.1 hW.2.1 hW.2.2.1 b2.1 d6 hq 2 15 (List.range 15) 0 0 (by rw [List.length_range]) (by omega) (fun b hb => List.mem_range.mp hb) ⟨List.nodup_range, fun b hb => by rw [Nat.zero_testBit]; simp [hb]⟩ (fun b hb => by rw [Nat.zero_testBit] at hb; cases hb)
        have hA := Vp_le (Ws := Md (σ.1 2) (WL (σ.1 2) (N (σ.1 2) 0)) d) hq (dwn (ixp (σ.1 2) 15)) 0
        have hdl : (dwn (ixp (σ.1 2) 15)).length = ixp (σ.1 2) 15 := by rw [(dwn_perm _).length_eq, List.length_range]
        rw [hdl] at hA
        have h15 := ixp_le (σ.1 2) 15
        rw [eV] at eX
        generalize Vp (Md (σ.1 2) (WL (σ.1 2) (N (σ.1 2) 0)) d) q (dwn (ixp (σ.1 2) 15)) 0 = A at hA eX e2
        generalize ixp (σ.1 2) 15 = m at hA eX e2 h15 e1
        have hm15 : 10 ^ m ≤ 10 ^ 15 := Nat.pow_le_pow_right (by omega) h15
        have hmp : 0 < 10 ^ m := Nat.pow_pos (by omega)
        have hk10 : 10 ^ (15 - m) * 10 ^ m = 10 ^ 15 := by rw [← Nat.pow_add, show 15 - m + m = 15 by omega]
        have hkp : 0 < 10 ^ (15 - m) := Nat.pow_pos (by omega)
        have hA2 : 10 ^ (15 - m) * A ≤ 10 ^ 15 := by rw [← hk10]; exact Nat.mul_le_mul_left _ hA
        have hgp : 0 < Nat.gcd A (10 ^ m) := Nat.gcd_pos_of_pos_right _ hmp
        have hgl : Nat.gcd A (10 ^ m) ≤ 10 ^ m := Nat.gcd_le_right _ hmp
        have hG1 : Nat.gcd (10 ^ (15 - m) * A) (10 ^ 15) = 10 ^ (15 - m) * Nat.gcd A (10 ^ m) := by rw [← hk10, Nat.gcd_mul_left]
        have hGl : 10 ^ (15 - m) * Nat.gcd A (10 ^ m) ≤ 10 ^ 15 := by rw [← hk10]; exact Nat.mul_le_mul_left _ hgl
        have hGp : 0 < 10 ^ (15 - m) * Nat.gcd A (10 ^ m) := Nat.mul_pos hkp hgp
        have gX := sx_gcd s1 hA2 (show 0 < 10 ^ 15 by decide) (Nat.le_refl _)
        rw [hG1] at gX
        have D1 : 10 ^ (15 - m) * A / (10 ^ (15 - m) * Nat.gcd A (10 ^ m)) = A / Nat.gcd A (10 ^ m) := Nat.mul_div_mul_left _ _ hkp
        have D2 : 10 ^ 15 / (10 ^ (15 - m) * Nat.gcd A (10 ^ m)) = 10 ^ m / Nat.gcd A (10 ^ m) := by rw [← hk10]; exact Nat.mul_div_mul_left _ _ hkp
        have pX : fX2_power 15 s1 = some (lN (10 ^ 15), s1) := by
          unfold fX2_power
          rw [if_pos (by decide)]
          rfl
        have nz1 : ¬ lN (10 ^ (15 - m) * Nat.gcd A (10 ^ m)) = 0 := by rw [l_zero, pk_lEQ (by omega) (by omega)]; omega
        have nz2 : ¬ lN (Nat.gcd A (10 ^ m)) = 0 := by rw [l_zero, pk_lEQ (by omega) (by omega)]; omega
        have cmp1 : 0 ≤ lg_cmp (lN (10 ^ (15 - m) * Nat.gcd A (10 ^ m))) 1 := by
          apply Int32.not_lt.mp
          rw [cmp_lt, show (1 : Int64) = lN 1 from rfl, pk_lLT (by omega) (by omega)]
          omega
        have sc : Sc s1 (gs (gs t1 64 g1) 65 g2) := ((MR_sc c5 c3 c4).trans (Sc_gs (by decide) (by decide) g1)).trans (Sc_gs (by decide) (by decide) g2)
        have eX : fX2_lasting 18 (nI d) (nI q) 0 0 15 s1 = some (lN (10 ^ (15 - m) * A), s1) := eX
        have gM := fun K => sm_gcd p3 (lN A) (lN (10 ^ m)) K (gs (gs t1 64 g1) 65 g2) (a := A) (b := 10 ^ m) (by omega) hmp hm15
        refine ⟨if p3 = 0 then lN (A / Nat.gcd A (10 ^ m)) else lN (10 ^ m / Nat.gcd A (10 ^ m)), s1, gs (gs t1 64 g1) 65 g2, ?_, ?_, b3.sck IC_k sc⟩
        · rw [x1 σ nx0, bd_some, if_neg one_ne, if_neg (Int32.not_lt.mpr hp2.1), if_neg (Int32.not_lt.mpr hp2.2), if_neg (Int32.not_lt.mpr hp3.1), if_pos hp3.2, b1, bd_some, eX, bd_some, pX, bd_some, gX, bd_some, if_pos cmp1]
          by_cases z : p3 = 0
          · rw [if_pos z, if_pos z, if_neg nz1, pk_lDiv (by omega) hGp (by omega), D1]
          · rw [if_neg z, if_neg z, if_neg nz1, pk_lDiv (by omega) hGp (by omega), D2]
        · show mv_bind (fX11_isDomain (nI d) s1) _ = _
          rw [m1 s1 (by rw [t46]; exact nm), bd_some, if_neg one_ne, sm_in0 (nI q) 10 10 rfl, bd_some, if_pos hp2, if_neg one_ne, sm_in0 p3 1 1 rfl, bd_some, if_pos hp3, if_neg one_ne, c1, bd_some, e1, bd_some, e2, bd_some, show (10 : Int64) = lN 10 from rfl, sm_power 10 (by omega), bd_some]
          refine Eq.trans (gM _) ?_
          by_cases z : p3 = 0
          · rw [if_pos z, if_pos z]
            show (if lN (Nat.gcd A (10 ^ m)) = 0 then _ else _) = _
            rw [if_neg nz2, pk_lDiv (by omega) hgp (by omega)]
          · rw [if_neg z, if_neg z]
            show (if lN (Nat.gcd A (10 ^ m)) = 0 then _ else _) = _
            rw [if_neg nz2, pk_lDiv (by omega) hgp (by omega)]
      · exact bad (Or.inr hp3)
    · exact bad (Or.inl hp2)
  · refine pv_same IC_ok h (-1) ?_ ?_
    · rw [x1 σ nx0, bd_some, if_pos rfl]
    · show mv_bind (fX11_isDomain p1 σ) _ = _
      rw [m1 σ nm, bd_some, if_pos rfl]
