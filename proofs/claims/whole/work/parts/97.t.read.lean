/-! PURE PART: read -/
theorem XS3_inj {σ : mx_G} {u g h u' g' h' : Nat → Int32} (e : XS3 σ u g h = XS3 σ u' g' h') : u = u' ∧ g = g' ∧ h = h' := by
  refine ⟨?_, ?_, ?_⟩
  · rw [← XS3_36 σ u g h, e, XS3_36]
  · rw [← XS3_38 σ u g h, e, XS3_38]
  · rw [← XS3_39 σ u g h, e, XS3_39]
theorem XS3_2 (t : mx_G) (u g h : Nat → Int32) : (XS3 t u g h).2 = t.2 := rfl
theorem RS3_2 (t : mx_G) (u g h : Nat → Int32) : (RS3 t u g h).2 = t.2 := rfl
theorem ok_read : pv_read (Inv IC) := by
  intro k σ hk h
  obtain ⟨n2, n6, nx0, nm⟩ := h.n
  obtain ⟨M, m80, x1, r7, hl⟩ := h.2.2.2.1
  obtain ⟨T, hT⟩ : ∃ T : Nat → Nat, T = fun j => (σ.1 37 j).toNatClampNeg := ⟨_, rfl⟩
  have hTl : ∀ j, j < M → 32 ≤ T j ∧ T j ≤ 126 ∧ σ.1 37 j = nI (T j) := fun j hj => by
    obtain ⟨-, t, t1, t2, t3⟩ := hl j hj
    have : T j = t := by rw [hT]; show (σ.1 37 j).toNatClampNeg = t; rw [t3, clI (by omega)]
    rw [this]
    exact ⟨t1, t2, t3⟩
  have hX : TX T M σ := ⟨m80, fun j hj => ⟨(hTl j hj).1, (hTl j hj).2.1⟩, fun j hj => (hTl j hj).2.2⟩
  have hP : ∀ t : mx_G, t.1 50 = σ.1 50 → TP T M t := fun t ht => ⟨m80, hX.2.1, fun j hj => by rw [ht, (hl j hj).1]; exact (hTl j hj).2.2⟩
  obtain ⟨r, ux, gx, hx, ur0, gr0, hr0, c1, c2, c3, c4, c5⟩ := rd_all hX (hP σ rfl) n2 n6 nm x1 r7
  have hsz : fX9_size σ = some (nI (N (σ.1 2) 0), σ) := by
    unfold fX9_size
    rw [if_pos (by decide)]
    exact congrArg (fun x => some (x, σ)) nx0
  by_cases hr : r < 0
  · have eX : fX10_read σ = some (r, XS3 σ (upd ux 1 0) gx hx) := by
      unfold fX10_read fX7_empty
      rw [hsz, bd_some, c1, bd_some, if_pos hr, mv_let, XS3_g36, bd_some]
    obtain ⟨τ, hτ⟩ : ∃ τ, τ = XS3 σ (upd ux 1 0) gx hx := ⟨_, rfl⟩
    have rd : ∀ p, p ≠ 36 → p ≠ 38 → p ≠ 39 → τ.1 p = σ.1 p := fun p a b c => by rw [hτ]; exact XS3_rd _ _ _ _ a b c
    obtain ⟨r', ux', gx', hx', ur, gr, hr', d1, d2, d3, d4, d5⟩ := rd_all (t := τ) hX (hP τ (rd 50 (by decide) (by decide) (by decide))) n2 n6 (by rw [rd 46 (by decide) (by decide) (by decide)]; exact nm) x1 (by rw [rd 45 (by decide) (by decide) (by decide)]; exact r7)
    rw [c1] at d1
    have er : r = r' := congrArg Prod.fst (Option.some.inj d1)
    subst er
    rcases d5 with ⟨j, j1, j2, j3, j4, j5⟩ | ⟨v, c, w, w1, -, -, w4⟩
    · have hT' := hP τ (rd 50 (by decide) (by decide) (by decide))
      have u7 : ur 7 = nI M := by rw [d4 7 (by decide) (by decide), rd 45 (by decide) (by decide) (by decide)]; exact r7
      have el := sm_looks (g := gr) (h := hr') hT' j1 u7 j4
      rw [j2, upd_self ur j4] at el
      have e25 : upd ur 7 0 25 = 1 := by rw [upd_rd, if_neg (by decide)]; exact j5
      have eM : fX11_read τ = some (r, RS3 τ (upd ur 7 0) gr hr') := by
        unfold fX11_read
        rw [d3, bd_some, el, bd_some, mv_let, RS3_45, j4, mv_let, RS3_g45, RS3_45, e25, if_neg one_ne, j3]
      have e36 : τ.1 36 = upd ux 1 0 := by rw [hτ]; exact XS3_36 _ _ _ _
      have rr : ∀ p, p ≠ 36 → p ≠ 38 → p ≠ 39 → p ≠ 45 → p ≠ 66 → p ≠ 67 → (RS3 τ (upd ur 7 0) gr hr').1 p = σ.1 p := fun p a b c d e f => by rw [RS3_rd _ _ _ _ d e f]; exact rd p a b c
      have r2 : (RS3 τ (upd ur 7 0) gr hr').2 = σ.2 := by rw [RS3_2, hτ, XS3_2]
      have r45 : ∀ q, q ≠ 24 → q ≠ 25 → q ≠ 7 → (RS3 τ (upd ur 7 0) gr hr').1 45 q = σ.1 45 q := fun q a b c => by rw [RS3_45, upd_rd, if_neg c, d4 q a b, rd 45 (by decide) (by decide) (by decide)]
      rw [hτ] at eM rr r2 r45 e36
      refine ⟨r, _, _, eX, eM, ?_, ?_, ?_, ?_, ?_, ?_⟩
      · exact h.1.of (rr 2 (by decide) (by decide) (by decide) (by decide) (by decide) (by decide)) (rr 46 (by decide) (by decide) (by decide) (by decide) (by decide) (by decide))
      · exact h.2.1.of (rr 3 (by decide) (by decide) (by decide) (by decide) (by decide) (by decide)) (rr 4 (by decide) (by decide) (by decide) (by decide) (by decide) (by decide)) (rr 47 (by decide) (by decide) (by decide) (by decide) (by decide) (by decide)) (r45 2 (by decide) (by decide) (by decide))
      · exact h.2.2.1.of (rr 0 (by decide) (by decide) (by decide) (by decide) (by decide) (by decide)) (rr 6 (by decide) (by decide) (by decide) (by decide) (by decide) (by decide)) (rr 7 (by decide) (by decide) (by decide) (by decide) (by decide) (by decide)) (rr 8 (by decide) (by decide) (by decide) (by decide) (by decide) (by decide)) (rr 48 (by decide) (by decide) (by decide) (by decide) (by decide) (by decide)) (rr 49 (by decide) (by decide) (by decide) (by decide) (by decide) (by decide)) (r45 5 (by decide) (by decide) (by decide))
      · refine ⟨0, by omega, ?_, ?_, fun j hj => absurd hj (by omega)⟩
        · rw [RS3_rd _ _ _ _ (by decide) (by decide) (by decide), e36, upd_rd, if_pos rfl]; rfl
        · rw [RS3_45, upd_rd, if_pos rfl]; rfl
      · exact h.2.2.2.2.1.of (rr 41 (by decide) (by decide) (by decide) (by decide) (by decide) (by decide)) (rr 42 (by decide) (by decide) (by decide) (by decide) (by decide) (by decide)) (rr 51 (by decide) (by decide) (by decide) (by decide) (by decide) (by decide)) (rr 52 (by decide) (by decide) (by decide) (by decide) (by decide) (by decide)) (by rw [r2]) (by rw [r2])
      · exact IC_ok k σ _ (fun p a b => ⟨rr p (by omega) (by omega) (by omega) (by omega) (by omega) (by omega), by rw [r2]⟩) h.2.2.2.2.2
    · exfalso
      have hw := lks_le v
      rw [w1, w4.lk, li_0, ltI (by omega) (by omega)] at hr
      omega
  · rcases c5 with ⟨j, j1, -, j3, -, -⟩ | ⟨v0, cc0, w0, -, -, -, tb0⟩
    · exact absurd (by rw [j3]; exact flt_neg j (by omega)) hr
    obtain ⟨s4, hs4⟩ : ∃ s4, s4 = XS3 σ ux gx hx := ⟨_, rfl⟩
    rw [← hs4] at c1
    have q4 : ∀ p, p ≠ 36 → p ≠ 38 → p ≠ 39 → s4.1 p = σ.1 p := fun p a b c => by rw [hs4]; exact XS3_rd _ _ _ _ a b c
    have q42 := q4 2 (by decide) (by decide) (by decide)
    have hR4 : R2 s4 s4 := ⟨by rw [q4 46 (by decide) (by decide) (by decide), q42]; exact h.1.1, by rw [q42]; exact h.1.2, by rw [q4 4 (by decide) (by decide) (by decide), q4 3 (by decide) (by decide) (by decide), q4 47 (by decide) (by decide) (by decide), q4 45 (by decide) (by decide) (by decide)]; exact h.2.1⟩
    obtain ⟨s6, -, k1, -, -, -⟩ := hR4.keep
    have f6 := fr_X3_keep _ _ _ k1
    have s638 : s6.1 38 = gx := by rw [(f6 38 (by decide)).1, hs4]; exact XS3_38 _ _ _ _
    have s639 : s6.1 39 = hx := by rw [(f6 39 (by decide)).1, hs4]; exact XS3_39 _ _ _ _
    have s62 : s6.1 2 = σ.1 2 := by rw [(f6 2 (by decide)).1]; exact q42
    obtain ⟨g, t1, t2, t3⟩ := sx_tellTo tb0 (s := s6) s638 s639
    obtain ⟨τ, hτ⟩ : ∃ τ, τ = gi (gs s6 2 g) 36 1 0 := ⟨_, rfl⟩
    have eX : fX10_read σ = some (r, τ) := by
      unfold fX10_read fX7_empty
      rw [hsz, bd_some, c1, bd_some, if_neg hr, k1, bd_some, t1, bd_some, mv_let, bd_some, hτ]
    have fX := fr_X10_read _ _ _ eX
    have hT' := hP τ (fX 50 (by decide)).1
    obtain ⟨r', ux', gx', hx', ur, gr, hr', d1, d2, d3, d4, d5⟩ := rd_all (t := τ) hX hT' n2 n6 (by rw [(fX 46 (by decide)).1]; exact nm) x1 (by rw [(fX 45 (by decide)).1]; exact r7)
    rw [c1] at d1
    have er : r = r' := congrArg Prod.fst (Option.some.inj d1)
    have es : s4 = XS3 σ ux' gx' hx' := congrArg Prod.snd (Option.some.inj d1)
    subst er
    rw [hs4] at es
    obtain ⟨-, eg, eh⟩ := XS3_inj es
    subst eg eh
    rcases d5 with ⟨j, j1, -, j3, -, -⟩ | ⟨v, c, w, w1, w25, w24, tb⟩
    · exact absurd (by rw [j3]; exact flt_neg j (by omega)) hr
    obtain ⟨g', t1', t2', t3'⟩ := sx_tellTo tb (s := s6) s638 s639
    rw [t1] at t1'
    have eg' : g = g' := by
      have := congrArg Prod.snd (Option.some.inj t1')
      have this : gs s6 2 g = gs s6 2 g' := this
      rw [← gs_rd s6 2 g, this, gs_rd]
    subst eg'
    rw [s62] at t2'
    have u7 : ur 7 = nI M := by rw [d4 7 (by decide) (by decide), (fX 45 (by decide)).1]; exact r7
    have el := sm_looks (g := gr) (h := hr') hT' (Nat.le_refl M) u7 w24
    rw [nb_end, upd_self ur w24] at el
    obtain ⟨t5, ht5⟩ : ∃ t5, t5 = RS3 τ (upd ur 7 0) gr hr' := ⟨_, rfl⟩
    have t545 : t5.1 45 = upd ur 7 0 := by rw [ht5]; exact RS3_45 _ _ _ _
    have t566 : t5.1 66 = gr := by rw [ht5]; exact RS3_66 _ _ _ _
    have t567 : t5.1 67 = hr' := by rw [ht5]; exact RS3_67 _ _ _ _
    have t5r : ∀ p, p ≠ 45 → p ≠ 66 → p ≠ 67 → t5.1 p = τ.1 p := fun p a b c => by rw [ht5]; exact RS3_rd _ _ _ _ a b c
    have t546 : t5.1 46 = σ.1 46 := by rw [t5r 46 (by decide) (by decide) (by decide)]; exact (fX 46 (by decide)).1
    have hR5 : R2 s4 t5 := by
      refine ⟨by rw [t546, q42]; exact h.1.1, by rw [q42]; exact h.1.2, ?_⟩
      rw [q4 4 (by decide) (by decide) (by decide), q4 3 (by decide) (by decide) (by decide), t5r 47 (by decide) (by decide) (by decide), (fX 47 (by decide)).1, t545, upd_rd, if_neg (by decide), d4 2 (by decide) (by decide), (fX 45 (by decide)).1]
      exact h.2.1
    obtain ⟨s6', t6, k1', k2, k3, k4⟩ := hR5.keep
    rw [k1] at k1'
    have e6 : s6 = s6' := congrArg Prod.snd (Option.some.inj k1')
    subst e6
    have f7 := fr_X11_notes _ _ _ k2
    obtain ⟨t7, ht7⟩ : ∃ t7, t7 = gs t6 46 (va_cpy (t6.1 66) (t6.1 46) 0 1 36) := ⟨_, rfl⟩
    obtain ⟨t8, ht8⟩ : ∃ t8, t8 = gs t7 46 (va_cpy (t7.1 67) (t7.1 46) 0 37 36) := ⟨_, rfl⟩
    have b5 : fX11_bring_5 0 1 36 t6 = some ((), t7) := by rw [ht7]; exact sm_bring_5 0 1 36 (by omega) (by omega) t6
    have b6 : fX11_bring_6 0 37 36 t7 = some ((), t8) := by rw [ht8]; exact sm_bring_6 0 37 36 (by omega) (by omega) t7
    have e846 : ∀ j, t8.1 46 j = if 37 ≤ j ∧ j < 37 + 36 then hr' (0 + (j - 37)) else if 1 ≤ j ∧ j < 1 + 36 then gr (0 + (j - 1)) else σ.1 46 j := fun j => by
      rw [ht8, gs_rd, cpy_rd, ht7, gs_rd, cpy_rd, gs_rdn _ (by decide), (f7 67 (by decide)).1, t567, (f7 66 (by decide)).1, t566, (f7 46 (by decide)).1, t546]
    have k1v : ∀ j, j < 36 → t8.1 46 (1 + j) = nI (v j) := fun j hj => by
      rw [e846, if_neg (by omega), if_pos (by omega), show 0 + (1 + j - 1) = j by omega]; exact tb.eg j hj
    have k2v : ∀ j, j < 36 → t8.1 46 (37 + j) = nI (c j) := fun j hj => by
      rw [e846, if_pos (by omega), show 0 + (37 + j - 37) = j by omega]; exact tb.eh j hj
    have elm := sm_linkMany (s := t8) (p := 1) (by omega)
    rw [lks_SM tb.nt k1v, ← tb.lk, ← w1] at elm
    have e25 : upd ur 7 0 25 = 0 := by rw [upd_rd, if_neg (by decide)]; exact w25
    have eM : fX11_read τ = some (r, t8) := by
      unfold fX11_read
      rw [d3, bd_some, el, bd_some, mv_let, mv_let, RS3_g45, ← ht5, t545, e25, if_pos rfl, k2, bd_some, b5, bd_some, b6, bd_some, li_1, elm, bd_some]
    have fM := fr_X11_read _ _ _ eM
    have e82 : t8.1 2 = g := by rw [(fM 2 (by decide)).1, hτ, rd_gi, if_neg (by decide), gs_rd]
    have e845 : t8.1 45 = t6.1 45 := by rw [ht8, gs_rdn _ (by decide), ht7, gs_rdn _ (by decide)]
    have e847 : t8.1 47 = t6.1 47 := by rw [ht8, gs_rdn _ (by decide), ht7, gs_rdn _ (by decide)]
    have e83 : t8.1 3 = s6.1 3 := by rw [(fM 3 (by decide)).1, hτ, rd_gi, if_neg (by decide), gs_rdn _ (by decide)]
    have e84 : t8.1 4 = s6.1 4 := by rw [(fM 4 (by decide)).1, hτ, rd_gi, if_neg (by decide), gs_rdn _ (by decide)]
    have rr : ∀ p, p ∉ [45, 46, 47, 66, 67] → p ∉ [2, 3, 4, 36, 38, 39] → t8.1 p = σ.1 p ∧ t8.2 p = σ.2 p := fun p a b => ⟨(fM p a).1.trans (fX p b).1, (fM p a).2.trans (fX p b).2⟩
    refine ⟨r, τ, t8, eX, eM, ?_, ?_, ?_, ?_, ?_, ?_⟩
    · refine ⟨?_, ?_⟩
      · rw [e82]
        exact h.1.1.links t2' t3' (fun j hj => by rw [e846, if_neg (by omega), if_neg (by omega)]) k1v k2v
      · rw [e82]
        exact h.1.2.links tb.nt t2' t3'
    · unfold IP
      rw [e83, e84, e845, e847]
      exact k3.2.2
    · exact h.2.2.1.of (rr 0 (by decide) (by decide)).1 (rr 6 (by decide) (by decide)).1 (rr 7 (by decide) (by decide)).1 (rr 8 (by decide) (by decide)).1 (rr 48 (by decide) (by decide)).1 (rr 49 (by decide) (by decide)).1 (by rw [e845, k4 5 (by decide), t545, upd_rd, if_neg (by decide), d4 5 (by decide) (by decide), (fX 45 (by decide)).1])
    · refine ⟨0, by omega, ?_, ?_, fun j hj => absurd hj (by omega)⟩
      · rw [(fM 36 (by decide)).1, hτ, rd_gi, if_pos rfl, upd_rd, if_pos rfl]; rfl
      · rw [e845, k4 7 (by decide), t545, upd_rd, if_pos rfl]; rfl
    · exact h.2.2.2.2.1.of (rr 41 (by decide) (by decide)).1 (rr 42 (by decide) (by decide)).1 (rr 51 (by decide) (by decide)).1 (rr 52 (by decide) (by decide)).1 (rr 43 (by decide) (by decide)).2 (rr 53 (by decide) (by decide)).2
    · exact IC_ok k σ _ (fun p a b => rr p (by simp; omega) (by simp; omega)) h.2.2.2.2.2
