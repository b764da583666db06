/-! PURE PART: the class's rings, looked up or worked out -/
theorem sx_rings {k : Nat} {σ : mx_G} (hk : k < 512) (h : Inv IC k σ) : ∃ s1 s2, fX8_freshen σ = some ((), s1) ∧ fX5_freshen s1 = some ((), s2) ∧ RG (σ.1 2) (N (σ.1 2) 0) s2 ∧ Inv IC (k + 1) s2 ∧ s2.1 46 = σ.1 46 := by
  obtain ⟨n2, n6, nx0, nm⟩ := h.n
  have hn : 0 < N (σ.1 2) 0 := by omega
  obtain ⟨s1, b1, b2, b3, ⟨v, v0, vk, hv⟩, b5, b6⟩ := sx_ways hk h
  have w2 : s1.1 2 = σ.1 2 := (b6 2 (by decide)).1
  have w46 : s1.1 46 = σ.1 46 := (b6 46 (by decide)).1
  obtain ⟨v', vr, vs, c1, c2, c3, c4, c5, c6, c7⟩ := b3.2.2.2.2.2
  have hvv : v' = v := by
    rw [hv, eqI (by omega) (by omega)] at c4
    exact c4.symm
  subst hvv
  obtain ⟨c, d1, d2, d3, d4, d5⟩ := c7 v0
  have hag : Ag c (σ.1 2) := fun j hj => by rw [← d2 j hj, b5 j hj]
  have hN : N c 0 = N (σ.1 2) 0 := ag_N hag (by omega)
  have ever : ∀ s : mx_G, fX8_version s = some (s.1 15 1, s) := fun s => rfl
  by_cases z : vr = v'
  · have hRG := d4 z
    rw [hN] at hRG
    have hRG := RG_ag hag d1 hn n6 hRG
    refine ⟨s1, s1, b1, ?_, hRG, b3, w46⟩
    unfold fX5_freshen
    rw [ever, bd_some, c5, hv, z, if_pos rfl]
  · have hL := (WL_ok h.1.2).1
    obtain ⟨s8, hs8⟩ : ∃ s8, s8 = gi (gi (gi (gi s1 25 3 (nI v')) 25 0 0) 25 1 0) 25 2 (-4) := ⟨_, rfl⟩
    have q8 : ∀ p, p ≠ 25 → s8.1 p = s1.1 p := fun p hp => by rw [hs8]; simp only [rd_gi, hp, if_false]
    have e9 := sx_fillL s8
    obtain ⟨s9, hs9⟩ : ∃ s9, s9 = gt s8 26 (fun t => if t < 1956 then 0 else s8.2 26 t) := ⟨_, rfl⟩
    rw [← hs9] at e9
    have e10 := sx_fillL_1 s9
    obtain ⟨s10, hs10⟩ : ∃ s10, s10 = gt s9 27 (fun t => if t < 6 then 0 else s9.2 27 t) := ⟨_, rfl⟩
    rw [← hs10] at e10
    have q10 : s10.1 = s8.1 := by rw [hs10, rd_gt1, hs9, rd_gt1]
    obtain ⟨f, hf⟩ := FU_lt (n := (WL (σ.1 2) (N (σ.1 2) 0)).length) (by omega)
    obtain ⟨f2, hf2⟩ := FU_lt (n := 326) (by omega)
    have hEb : ∀ a b, Eg (σ.1 2) (WL (σ.1 2) (N (σ.1 2) 0)) a b → a < (WL (σ.1 2) (N (σ.1 2) 0)).length ∧ b < (WL (σ.1 2) (N (σ.1 2) 0)).length := by
      rintro a b ⟨lp, lr, y1, y2, -⟩
      exact ⟨get_lt y1, get_lt y2⟩
    have hWC : ∀ t : mx_G, (∀ p, p ≠ 25 → t.1 p = s1.1 p) → WC (σ.1 2) (N (σ.1 2) 0) t := by
      intro t ht
      unfold WC WR PL RD at b2 ⊢
      rw [ht 15 (by decide), ht 17 (by decide), ht 18 (by decide), ht 19 (by decide), ht 20 (by decide), ht 21 (by decide), ht 22 (by decide), ht 23 (by decide), ht 24 (by decide)]
      exact b2
    have f10 : ∀ p, p ≠ 25 → s10.1 p = s1.1 p := fun p hp => by rw [q10]; exact q8 p hp
    obtain ⟨s15, a1, a2, a3, a4, a5⟩ := sx_fr54 h.1.2 (fun s15 => lX5_freshen_102 FU 1 0 s15) (WL (σ.1 2) (N (σ.1 2) 0)).length 0 f s10 (Nat.zero_add _) (by rw [f10 2 (by decide)]; exact w2) (hWC s10 f10) (by
      intro i k r x1 x2 x3
      rw [hs10, rd_gt, if_neg (by decide), hs9, rd_gt, if_pos rfl, if_pos (by omega), tb_0]
      constructor
      · intro q; cases q
      · rintro ⟨q, -⟩; omega) (by
      intro k r x1 x2
      rw [hs10, rd_gt, if_pos rfl, if_pos x1, tb_0]
      constructor
      · intro q; cases q
      · intro q; omega)
    rw [← hf] at a1
    have hC0 : ∀ x, Cy (Eg (σ.1 2) (WL (σ.1 2) (N (σ.1 2) 0))) x → x < (WL (σ.1 2) (N (σ.1 2) 0)).length := by
      intro x hx
      obtain ⟨y, g1, -⟩ := hx.succ
      exact (hEb x y g1).1
    obtain ⟨s16, Λ, g1, g2, g3, g4, g5, g6, g7⟩ := sx_fr102 (fun a b hab => by have := hEb a b hab; omega) 326 0 f2 1 s15 _ (by omega) a2 a3 hC0
    rw [← hf2] at g1
    have f16 : ∀ p, p ≠ 25 → s16.1 p = s1.1 p := fun p hp => by rw [g6, a4]; exact f10 p hp
    have c25 : s16.1 25 = s8.1 25 := by rw [g6, a4, q10]
    obtain ⟨s2, lf, m1, m2, m3, m4, m5, m6, m7, m8⟩ := sx_meas h.1.2 g4 (WL (σ.1 2) (N (σ.1 2) 0)).length 0 f (fun _ => 0) s16 (Nat.zero_add _) (hWC s16 f16).1 g2 g3 (fun p hp => absurd hp (by omega)) (fun _ => by omega) (by rw [c25, hs8]; simp only [rd_gi, if_true, upd_rd, Nat.reduceEqDiff, if_false]; rfl) (by rw [c25, hs8]; simp only [rd_gi, if_true, upd_rd, Nat.reduceEqDiff, if_false]; rfl) (by rw [c25, hs8]; simp only [rd_gi, if_true, upd_rd]; rfl)
    rw [← hf] at m1
    have e2 : fX5_freshen s1 = some ((), s2) := by
      unfold fX5_freshen
      rw [ever, bd_some, c5, hv, if_neg (by rw [eqI (by omega) (by omega)]; exact z), ever, bd_some, hv]
      simp only [mv_let]
      rw [← hs8, e9, bd_some, e10, bd_some]
      refine Eq.trans a1 ?_
      show lX5_freshen_102 FU 1 0 s15 = _
      rw [li_0, g1]
      unfold fX5_measure
      rw [li_0, m1, bd_some]
    have fr := fr_X5_freshen _ _ _ e2
    have hRG : RG (σ.1 2) (N (σ.1 2) 0) s2 := ⟨lf, m2, m3, m4, m5, m6⟩
    have e253 : s2.1 25 3 = nI v' := by
      rw [m7, c25, hs8]
      simp only [rd_gi, if_true, upd_rd, Nat.reduceEqDiff, if_false]
    refine ⟨s1, s2, b1, e2, hRG, ⟨?_, ?_, ?_, ?_, ?_, ?_⟩, ?_⟩
    · exact b3.1.of (fr 2 (by decide)).1 (fr 46 (by decide)).1
    · exact b3.2.1.of (fr 3 (by decide)).1 (fr 4 (by decide)).1 (fr 47 (by decide)).1 (by rw [(fr 45 (by decide)).1])
    · exact b3.2.2.1.of (fr 0 (by decide)).1 (fr 6 (by decide)).1 (fr 7 (by decide)).1 (fr 8 (by decide)).1 (fr 48 (by decide)).1 (fr 49 (by decide)).1 (by rw [(fr 45 (by decide)).1])
    · exact b3.2.2.2.1.of (by rw [(fr 36 (by decide)).1]) (fr 37 (by decide)).1 (fr 50 (by decide)).1 (by rw [(fr 45 (by decide)).1])
    · exact b3.2.2.2.2.1.of (fr 41 (by decide)).1 (fr 42 (by decide)).1 (fr 51 (by decide)).1 (fr 52 (by decide)).1 (fr 43 (by decide)).2 (fr 53 (by decide)).2
    · refine ⟨v', v', vs, c1, Nat.le_refl _, c3, by rw [(fr 15 (by decide)).1]; exact c4, e253, by rw [(fr 31 (by decide)).1]; exact c6, fun _ => ⟨σ.1 2, h.1.2, by rw [(fr 16 (by decide)).1]; exact b5, ?_, fun _ => hRG, fun zz => ?_⟩⟩
      · exact hWC s2 (fun p hp => (m8 p hp).trans (f16 p hp))
      · have hs := d5 zz
        rw [hN] at hs
        have hs := RS_ag hag d1 hn n6 hs
        unfold RS at hs ⊢
        rw [(fr 31 (by decide)).1, (fr 32 (by decide)).1]
        exact hs
    · rw [(fr 46 (by decide)).1]; exact w46
