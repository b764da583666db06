/-! PURE PART: stable -/
theorem xi_lt {n : Nat} (h6 : n ≤ 6) (i : Nat) : ∀ d, 0 < d → d < n → xi n i d < 10 := fun d a b => by have := xi_ok h6 i d a b; omega
theorem fgn_lt {x : Nat → Nat} {n : Nat} (hx : ∀ d, 0 < d → d < n → x d < 10) : ∀ d, d ≤ n → 0 < d → fgn x d < 10 ^ (d - 1) := by
  intro d
  induction d with
  | zero => intro _ q; omega
  | succ d ih =>
    intro hd _
    rw [fgn]
    by_cases z : d = 0
    · subst z; rw [if_pos rfl]; decide
    · rw [if_neg z]
      have h1 := ih (by omega) (by omega)
      have h2 := hx d (by omega) (by omega)
      rw [show d + 1 - 1 = (d - 1) + 1 by omega, Nat.pow_succ]
      omega
/-- the class looks its stable choices up, or works them out -/
theorem sx_stableOnes {k : Nat} {σ : mx_G} (hk : k < 512) (h : Inv IC k σ) : ∃ s', fX10_stableOnes σ = some (nI (SI (σ.1 2) (N (σ.1 2) 0)).length, s') ∧ RS (σ.1 2) (N (σ.1 2) 0) s' ∧ Inv IC (k + 1) s' ∧ s'.1 2 = σ.1 2 ∧ s'.1 46 = σ.1 46 := by
  obtain ⟨n2, n6, nx0, nm⟩ := h.n
  have hn : 0 < N (σ.1 2) 0 := by omega
  obtain ⟨s1, b1, b2, b3, ⟨v, v0, vk, hv⟩, b5, b6⟩ := sx_ways hk h
  have w2 : s1.1 2 = σ.1 2 := (b6 2 (by decide)).1
  have w46 : s1.1 46 = σ.1 46 := (b6 46 (by decide)).1
  obtain ⟨v', vr, vs, c1, c2, c3, c4, c5, c6, c7⟩ := b3.2.2.2.2.2
  have hvv : v' = v := by
    rw [hv, eqI (by omega) (by omega)] at c4
    exact c4.symm
  subst hvv
  obtain ⟨c, d1, d2, d3, d4, d5⟩ := c7 v0
  have hag : Ag c (σ.1 2) := fun j hj => by rw [← d2 j hj, b5 j hj]
  have hN : N c 0 = N (σ.1 2) 0 := ag_N hag (by omega)
  have efound : ∀ s : mx_G, fX4_found s = some (s.1 31 1, s) := fun s => rfl
  have ever : fX8_version s1 = some (nI v', s1) := by unfold fX8_version; rw [hv]
  unfold fX10_stableOnes
  rw [b1, bd_some, ever, bd_some]
  by_cases z : vs = v'
  · have hRS := d5 z
    rw [hN] at hRS
    have hRS := RS_ag hag d1 hn n6 hRS
    refine ⟨s1, ?_, hRS, b3, w2, w46⟩
    unfold fX4_freshen
    rw [c6, z, if_pos rfl, bd_some, efound, bd_some, hRS.1]
  · have hlen := SIp_2117 (σ.1 2) n2 n6 (Nat.le_refl (N (σ.1 2) 0 ^ (N (σ.1 2) 0 - 1)))
    have q2 : (gi (gi s1 31 0 (nI v')) 31 1 0).1 2 = σ.1 2 := by simp only [rd_gi, Nat.reduceEqDiff, if_false]; exact w2
    obtain ⟨s', a1, a2, a3, a4, a5⟩ := sx_search h.1.2 n2 n6 nx0 (N (σ.1 2) 0 - 1) 1 0 (8 - N (σ.1 2) 0) (by omega) (by omega) (Nat.pow_pos (by omega)) (gi (gi s1 31 0 (nI v')) 31 1 0) q2 (fun a p q => absurd q (by omega)) (fun a p q => absurd q (by omega)) (by
      rw [Nat.zero_mul]
      refine ⟨?_, fun k i hi => ?_⟩
      · rw [rd_gi, if_pos rfl, upd_rd, if_pos rfl]
        rfl
      · have := (List.getElem?_eq_some_iff.mp hi).1
        have hz : (SIp (σ.1 2) (N (σ.1 2) 0) 0).length = 0 := rfl
        omega)
    rw [show N (σ.1 2) 0 - 1 + 1 + (8 - N (σ.1 2) 0) = 8 by omega] at a1
    rw [Nat.zero_add, Nat.one_mul] at a2
    have a2 : RS (σ.1 2) (N (σ.1 2) 0) s' := a2
    have ef : fX4_freshen (nI v') s1 = some ((), s') := by
      unfold fX4_freshen
      rw [c6, if_neg (by rw [eqI (by omega) (by omega)]; exact z)]
      simp only [mv_let]
      have a1 : fX4_search 8 1 (gi (gi s1 31 0 (nI v')) 31 1 0) = some ((), s') := a1
      rw [a1, bd_some]
    have fr := fr_X4_freshen _ _ _ _ ef
    have e31 : s'.1 31 0 = nI v' := by
      rw [a3, rd_gi, if_pos rfl, upd_rd, if_neg (by omega), rd_gi, if_pos rfl, upd_rd, if_pos rfl]
    refine ⟨s', ?_, a2, ⟨?_, ?_, ?_, ?_, ?_, ?_⟩, a4, ?_⟩
    · rw [ef, bd_some, efound, bd_some, a2.1]
    · exact b3.1.of (fr 2 (by decide)).1 (fr 46 (by decide)).1
    · exact b3.2.1.of (fr 3 (by decide)).1 (fr 4 (by decide)).1 (fr 47 (by decide)).1 (by rw [(fr 45 (by decide)).1])
    · exact b3.2.2.1.of (fr 0 (by decide)).1 (fr 6 (by decide)).1 (fr 7 (by decide)).1 (fr 8 (by decide)).1 (fr 48 (by decide)).1 (fr 49 (by decide)).1 (by rw [(fr 45 (by decide)).1])
    · exact b3.2.2.2.1.of (by rw [(fr 36 (by decide)).1]) (fr 37 (by decide)).1 (fr 50 (by decide)).1 (by rw [(fr 45 (by decide)).1])
    · exact b3.2.2.2.2.1.of (fr 41 (by decide)).1 (fr 42 (by decide)).1 (fr 51 (by decide)).1 (fr 52 (by decide)).1 (fr 43 (by decide)).2 (fr 53 (by decide)).2
    · refine ⟨v', vr, v', c1, c2, Nat.le_refl _, by rw [(fr 15 (by decide)).1]; exact c4, by rw [(fr 25 (by decide)).1]; exact c5, e31, fun _ => ⟨σ.1 2, h.1.2, ?_, ?_, fun zz => ?_, fun _ => a2⟩⟩
      · rw [(fr 16 (by decide)).1]; exact b5
      · unfold WC WR PL RD at b2 ⊢
        rw [(fr 15 (by decide)).1, (fr 17 (by decide)).1, (fr 18 (by decide)).1, (fr 19 (by decide)).1, (fr 20 (by decide)).1, (fr 21 (by decide)).1, (fr 22 (by decide)).1, (fr 23 (by decide)).1, (fr 24 (by decide)).1]
        exact b2
      · have hg := d4 zz
        rw [hN] at hg
        have hg := RG_ag hag d1 hn n6 hg
        unfold RG at hg ⊢
        rw [(fr 25 (by decide)).1]
        exact hg
    · rw [(fr 46 (by decide)).1]; exact w46
theorem sx_nexts {x : Nat → Nat} {n : Nat} (h2 : 2 ≤ n) (h6 : n ≤ 6) (hx : ∀ d, 0 < d → d < n → x d < 10) {s : mx_G} : ∀ (d f : Nat) (g : Nat → Int32), d < n → (∀ e, d < e → e < n → g e = nI (x e)) → ∃ g', lX4_nextsOf_26 (d + 1 + f) (nI (fgn x (d + 1))) (nI d) (gs s 44 g) = some ((), gs s 44 g') ∧ ∀ e, 0 < e → e < n → g' e = nI (x e) := by
  intro d
  induction d with
  | zero =>
    intro f g hd hg
    refine ⟨g, ?_, fun e a b => hg e a b⟩
    rw [show 0 + 1 + f = f + 1 by omega, lX4_nextsOf_26, if_pos (by decide)]
  | succ d ih =>
    intro f g hd hg
    have hf : fgn x (d + 1 + 1) = fgn x (d + 1) * 10 + x (d + 1) := by rw [fgn, if_neg (by omega)]
    have hxd := hx (d + 1) (by omega) hd
    have hb := fgn_lt hx (d + 1) (by omega) (by omega)
    have hp : 10 ^ (d + 1 - 1) ≤ 10 ^ 5 := Nat.pow_le_pow_right (by omega) (by omega)
    have e1 : mv_rem (nI (fgn x (d + 1 + 1))) 10 = nI (x (d + 1)) := by rw [hf, li_10, rmI (by omega) (by omega) (by omega), show (fgn x (d + 1) * 10 + x (d + 1)) % 10 = x (d + 1) by omega]
    have e2 : nI (fgn x (d + 1 + 1)) / 10 = nI (fgn x (d + 1)) := by rw [hf, li_10, dvI (by omega) (by omega) (by omega), show (fgn x (d + 1) * 10 + x (d + 1)) / 10 = fgn x (d + 1) by omega]
    rw [show d + 1 + 1 + f = (d + 1 + f) + 1 by omega, lX4_nextsOf_26, if_neg (by rw [li_1, ltI (by omega) (by omega)]; omega), ixT (by omega) (by omega), if_pos rfl, clI (by omega)]
    simp only [mv_let]
    rw [e1, e2, gi_of, pk_m1]
    refine ih f _ (by omega) (fun e a b => ?_)
    rw [upd_rd]
    by_cases z : e = d + 1
    · rw [if_pos z, z]
    · rw [if_neg z]; exact hg e (by omega) b
theorem ok_stable : pv_stable (Inv IC) := by
  intro k σ p1 p2 hk h
  obtain ⟨n2, n6, nx0, nm⟩ := h.n
  have hn : 0 < N (σ.1 2) 0 := by omega
  by_cases hp : p1 < 0
  · refine pv_same IC_ok h (-1) ?_ ?_
    · unfold fX10_stable; rw [if_pos hp]
    · show fX11_stable p1 p2 σ = _
      unfold fX11_stable; rw [if_pos hp]
  · obtain ⟨t, ht, rfl⟩ : ∃ t : Nat, t < 2147483648 ∧ p1 = nI t := by
      rcases nI_ex p1 with z | z
      · exact absurd z hp
      · exact z
    rcases dom_cases _ n2 n6 p2 with ⟨d, hd, rfl, x1, m1⟩ | ⟨x1, m1⟩
    · obtain ⟨s1, a1, a2, a3, a4, a5⟩ := sx_stableOnes hk h
      have hlen := SIp_2117 (σ.1 2) n2 n6 (Nat.le_refl (N (σ.1 2) 0 ^ (N (σ.1 2) 0 - 1)))
      have hlen : (SI (σ.1 2) (N (σ.1 2) 0)).length ≤ 2117 := hlen
      have hsz : ∀ s : mx_G, s.1 2 = σ.1 2 → fX9_size s = some (nI (N (σ.1 2) 0), s) := fun s hs => by
        unfold fX9_size
        rw [li_0, ixT (by omega) (by omega), if_pos rfl, clI (by omega), hs, nx0]
      by_cases z : t < (SI (σ.1 2) (N (σ.1 2) 0)).length
      · have hi : (SI (σ.1 2) (N (σ.1 2) 0))[t]? = some ((SI (σ.1 2) (N (σ.1 2) 0))[t]'z) := List.getElem?_eq_getElem z
        generalize (SI (σ.1 2) (N (σ.1 2) 0))[t]'z = i at hi
        obtain ⟨f, hf⟩ := FU_lt (n := N (σ.1 2) 0 - 1) (by omega)
        obtain ⟨g, e1, hg⟩ := sx_nexts (x := xi (N (σ.1 2) 0) i) (s := s1) n2 n6 (xi_lt n6 i) (N (σ.1 2) 0 - 1) f (s1.1 44) (by omega) (fun e p q => absurd q (by omega))
        rw [gs_self, ← hf, show N (σ.1 2) 0 - 1 + 1 = N (σ.1 2) 0 by omega] at e1
        have eN : fX4_nextsOf (nI t) (nI (N (σ.1 2) 0)) s1 = some ((), gs s1 44 g) := by
          unfold fX4_nextsOf
          rw [if_neg hp, a2.1, if_pos (nI_lt z (by omega)), ixT (by omega) (by omega), if_pos rfl, clI (by omega), a2.2 t i hi, mv_let, li_1, suI (by omega), mv_let]
          exact e1
        have q2 : (gs s1 44 g).1 2 = σ.1 2 := by rw [gs_rdn _ (by decide)]; exact a4
        obtain ⟨s2, e2, hl, fr⟩ := sx_follow_1 (xi (N (σ.1 2) 0) i) hn n6 (xi_ok n6 i) (s := gs s1 44 g) (fun e p q => by rw [gs_rd]; exact hg e p q)
        have e3 : fX0_wayOf (nI d) s2 = some (val (fw (xi (N (σ.1 2) 0) i) (N (σ.1 2) 0) d), s2) := by
          unfold fX0_wayOf
          rw [ixT (by omega) (by omega), if_pos rfl, clI (by omega), (hl d (by omega)).1]
        have eX : fX10_stable (nI t) (nI d) σ = some (val (fw (xi (N (σ.1 2) 0) i) (N (σ.1 2) 0) d), s2) := by
          unfold fX10_stable
          rw [if_neg hp, x1 σ nx0, bd_some, if_neg one_ne, a1, bd_some, if_pos (nI_lt z (by omega)), hsz s1 a4, bd_some, eN, bd_some, hsz _ q2, bd_some, e2, bd_some, e3, bd_some]
        have sc1 : Sc s1 s2 := by
          refine ⟨fun p hp => ?_, fun j _ _ _ => ?_, fun p hp => ?_⟩
          · rw [(fr p (fun z => hp (by revert z; simp [scr]; omega))).1, gs_rdn _ (fun z => hp (by rw [z]; decide))]
          · rw [(fr 45 (by decide)).1, gs_rdn _ (by decide)]
          · rw [(fr p (fun z => hp (by revert z; simp [scr]; omega))).2]; rfl
        have t46 : s2.1 46 = σ.1 46 := by rw [sc1.1 46 (by decide)]; exact a5
        obtain ⟨t', hM⟩ := sm_stableK h.1.2 n2 n6 (t := s2) (by rw [t46]; exact h.1.1) (by rw [t46]; exact nm) ht
        rcases hM with ⟨i0, q1, q3, q4⟩ | ⟨q1, -⟩
        · have : i0 = i := by
            rw [hi] at q1
            injection q1 with q1
            exact q1.symm
          subst this
          have eM : fX11_stable (nI t) (nI d) s2 = some (val (fw (xi (N (σ.1 2) 0) i0) (N (σ.1 2) 0) d), t') := by
            unfold fX11_stable
            rw [if_neg hp, m1 s2 (by rw [t46]; exact nm), bd_some, if_neg one_ne, q3, bd_some, if_neg (nI_ne4 ht), ixT (by omega) (by omega), if_pos rfl, clI (by omega), q4 d (by omega)]
          exact ⟨_, s2, t', eX, eM, (a3.sck IC_k sc1).sck IC_k ((fr_X11_stable _ _ s2).sc eM (by decide))⟩
        · rw [hi] at q1; cases q1
      · have eX : fX10_stable (nI t) (nI d) σ = some (-2, s1) := by
          unfold fX10_stable
          rw [if_neg hp, x1 σ nx0, bd_some, if_neg one_ne, a1, bd_some, if_neg (nI_nlt (by omega) ht)]
        obtain ⟨t', hM⟩ := sm_stableK h.1.2 n2 n6 (t := s1) (by rw [a5]; exact h.1.1) (by rw [a5]; exact nm) ht
        rcases hM with ⟨i0, q1, -, -⟩ | ⟨-, q2⟩
        · have := (List.getElem?_eq_some_iff.mp q1).1
          omega
        · have eM : fX11_stable (nI t) (nI d) s1 = some (-2, t') := by
            unfold fX11_stable
            rw [if_neg hp, m1 s1 (by rw [a5]; exact nm), bd_some, if_neg one_ne, q2, bd_some, if_pos rfl]
          exact ⟨_, s1, t', eX, eM, a3.sck IC_k ((fr_X11_stable _ _ s1).sc eM (by decide))⟩
    · refine pv_same IC_ok h (-1) ?_ ?_
      · unfold fX10_stable
        rw [if_neg hp, x1 σ nx0, bd_some, if_pos rfl]
      · show fX11_stable _ p2 σ = _
        unfold fX11_stable
        rw [if_neg hp, m1 σ nm, bd_some, if_pos rfl]
