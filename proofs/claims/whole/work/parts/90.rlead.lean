/-! PURE PART: the class's rings: all that lead -/
theorem LE.congr {s : mx_G} {p : Nat} {E E' : Nat → Nat → Prop} (h : LE s p E) (he : ∀ a b, a < 326 → (E a b ↔ E' a b)) : LE s p E' := fun i k r hi hk hr => (h i k r hi hk hr).trans (he i _ hi)
theorem sx_noteLeading {c : Nat → Int32} (ho : WOK c) {s : mx_G} (hs : s.1 2 = c) (hc : WC c (N c 0) s) {r : Nat} (hr0 : 0 < r) (hrL : r < (WL c (N c 0)).length) {E : Nat → Nat → Prop} (hE : LE s 26 E) : ∃ s', fX5_noteLeading (nI r) s = some ((), s') ∧ LE s' 26 (fun a b => E a b ∨ (b = r ∧ Eg c (WL c (N c 0)) a r)) ∧ s'.1 = s.1 ∧ ∀ p, p ≠ 26 → s'.2 p = s.2 p := by
  have hn2 := ho.1
  have hn : 0 < N c 0 := by omega
  have h6 := ho.1.2
  obtain ⟨hL, hcn, hway, -⟩ := WL_ok ho
  have hG := WL_gd ho hn h6
  obtain ⟨hw, hp⟩ := hc
  generalize WL c (N c 0) = L at *
  have hl : L[r]? = some (L[r]'hrL) := List.getElem?_eq_getElem hrL
  generalize L[r]'hrL = lr at hl
  obtain ⟨u, j, q, rfl, hu0, hun, hj1, hj2, hj3, htk⟩ := hG.2.2.2 r lr hl hr0
  obtain ⟨t, ht1, ht2, ht3⟩ := hw.2.2.1 r u q hl hr0
  have hqw : Way (N c 0) q := hway q (List.mem_of_getElem? ht2)
  have hne : q ≠ [] := by
    intro z
    rw [z] at hqw
    exact hqw.elim
  have he6 : hd0 q < 6 := by have := hd0_lt hn hqw; omega
  have htl := get_lt ht2
  obtain ⟨ρ, hρ⟩ := hw.2.2.2 (hd0 q) he6
  obtain ⟨kp, hk1, hk2, hk3⟩ := hp t q ht2
  have hρt : ρ kp = t := by
    obtain ⟨a1, l, a2, a3⟩ := hρ.2.1 kp hk1
    have := get_lt a2
    rw [hk2, eqI (by omega) (by omega)] at a1
    exact a1.symm
  obtain ⟨s1, m1, m2, m3, m4⟩ := sx_mark hE (i := t) (w := r) (by omega) (by omega)
  have h65 := hcn _ he6
  obtain ⟨f, hf⟩ := FU_lt (n := kp) (by omega)
  obtain ⟨s2, b1, b2, b3, b4⟩ := sx_note32 ho hn h6 hL hcn hway hG.2.1 hl hu0 ht2 hk1 hρt E kp 0 f s1 (by omega) (by rw [m3]; exact hs) (by unfold WR RD at hw ⊢; rw [m3]; exact hw) (by unfold RD at hρ ⊢; rw [m3]; exact hρ) (by rw [m3]; exact hk3) (m2.congr (fun a b _ => by
    constructor
    · rintro (z | ⟨z1, z2⟩)
      · exact Or.inl z
      · exact Or.inr ⟨z2, Or.inl z1⟩
    · rintro (z | ⟨z1, z2⟩)
      · exact Or.inl z
      · rcases z2 with z2 | ⟨v, l, y1, -⟩
        · exact Or.inr ⟨z2, z1⟩
        · omega))
  rw [← hf] at b1
  refine ⟨s2, ?_, b2.congr (fun a b ha => ?_), b3.trans m3, fun p hp => (b4 p hp).trans (m4 p hp)⟩
  · unfold fX5_noteLeading
    have e1 : fX8_tailOf (nI r) s = some (nI t, s) := by
      unfold fX8_tailOf
      rw [ixT (by omega) (by omega), if_pos rfl, clI (by omega), ht3]
    have e2 : fX8_ownerOf (nI r) s = some (nI u, s) := by
      unfold fX8_ownerOf
      rw [ixT (by omega) (by omega), if_pos rfl, clI (by omega), (hw.2.1 r _ hl).1]
      rfl
    have e3 : fX8_ownerOf (nI t) s = some (nI (hd0 q), s) := by
      unfold fX8_ownerOf
      rw [ixT (by omega) (by omega), if_pos rfl, clI (by omega), (hw.2.1 t _ ht2).1]
    rw [e1, bd_some, e2, bd_some, e3, bd_some, m1, bd_some, li_0]
    exact b1
  · constructor
    · rintro (z | ⟨z1, z2⟩)
      · exact Or.inl z
      · refine Or.inr ⟨z1, ?_⟩
        rcases z2 with z2 | ⟨v, l, y1, y2, y3, y4⟩
        · rw [z2]
          exact ⟨q, u :: q, ht2, hl, u, q, rfl, hne, Or.inl rfl⟩
        · have hlq := hρ.2.2.1 v kp l q y1 hk1 (by rw [← y2]; exact y3) (by rw [hρt]; exact ht2)
          obtain ⟨-, l', x2, x3⟩ := hρ.2.1 v (by omega)
          rw [← y2, y3] at x2
          injection x2 with x2
          rw [← x2] at x3
          refine ⟨l, u :: q, y3, hl, u, q, rfl, hne, Or.inr ⟨x3, fun zz => ?_, hlq, y4⟩⟩
          rw [x3] at zz
          rw [zz] at hρ hk1
          have := rd_zero hway hG.1 hρ
          omega
    · rintro (z | ⟨z1, lp, lr, y1, y2, u', q', y3, y4, y5⟩)
      · exact Or.inl z
      · refine Or.inr ⟨z1, ?_⟩
        rw [hl] at y2
        injection y2 with y2
        rw [← y2] at y3
        injection y3 with y6 y7
        subst y6 y7
        rcases y5 with y5 | ⟨x1, x2, x3, x4⟩
        · left
          rw [y5] at y1
          exact (List.getElem?_inj (get_lt y1) hG.1).mp (y1.trans ht2.symm)
        · right
          obtain ⟨v, w1, w2⟩ := hρ.2.2.2 a lp y1 x1
          refine ⟨v, lp, ?_, w2.symm, y1, x4⟩
          rcases Nat.lt_trichotomy v kp with g | g | g
          · exact g
          · exfalso
            rw [g, hρt] at w2
            rw [← w2, ht2] at y1
            injection y1 with y1
            rw [y1] at x3
            omega
          · exfalso
            have := hρ.2.2.1 kp v q lp g w1 (by rw [hρt]; exact ht2) (by rw [w2]; exact y1)
            omega
theorem sx_fr54 {c : Nat → Int32} (ho : WOK c) (K : mx_G → Option (Unit × mx_G)) : ∀ (m r f : Nat) (s : mx_G), r + m = (WL c (N c 0)).length → s.1 2 = c → WC c (N c 0) s → LE s 26 (fun a b => b < r ∧ Eg c (WL c (N c 0)) a b) → Hs s 27 (fun w => w < r) → ∃ s', lX5_freshen_54 K (m + 1 + f) (nI r) s = K s' ∧ LE s' 26 (Eg c (WL c (N c 0))) ∧ Hs s' 27 (fun w => w < (WL c (N c 0)).length) ∧ s'.1 = s.1 ∧ ∀ p, p ∉ [26, 27] → s'.2 p = s.2 p := by
  obtain ⟨hL, -, hway, -⟩ := WL_ok ho
  intro m
  induction m with
  | zero =>
    intro r f s h hs hc hE hH
    refine ⟨s, ?_, hE.congr (fun a b _ => ?_), ?_, rfl, fun _ _ => rfl⟩
    · rw [show 0 + 1 + f = f + 1 by omega, lX5_freshen_54]
      unfold fX8_countAll
      rw [hc.1.1, bd_some, if_pos (nI_le (by omega) (by omega))]
    · constructor
      · intro z; exact z.2
      · intro z
        refine ⟨?_, z⟩
        obtain ⟨lp, lr, y1, y2, -⟩ := z
        have := get_lt y2
        omega
    · intro k r' x1 x2
      have := hH k r' x1 x2
      rw [show r = (WL c (N c 0)).length by omega] at this
      exact this
  | succ m ih =>
    intro r f s h hs hc hE hH
    have e1 : nI r / 64 = nI (r / 64) := by rw [li_64, dvI (by omega) (by omega) (by omega)]
    have e2 : mv_rem (nI r) 64 = nI (r % 64) := by rw [li_64, rmI (by omega) (by omega) (by omega)]
    have e3 : nI r + 1 = nI (r + 1) := by rw [li_1, adI]
    have eCA : fX8_countAll s = some (nI (WL c (N c 0)).length, s) := by unfold fX8_countAll; rw [hc.1.1]
    generalize hs1 : gl s 27 (r / 64) (s.2 27 (r / 64) ||| mv_lshl 1 (nI (r % 64))) = s1
    have q1 : s1.1 = s.1 := by rw [← hs1]; exact rd_gl1 _ _ _ _
    have q2 : ∀ p, p ≠ 27 → s1.2 p = s.2 p := fun p hp => by rw [← hs1, rd_gl, if_neg hp]
    have hH1 : Hs s1 27 (fun w => w < r + 1) := by
      intro k r' x1 x2
      rw [← hs1, rd_gl, if_pos rfl, updL_rd]
      by_cases z : k = r / 64
      · rw [if_pos z, tb_or, Bool.or_eq_true, ← z, hH k r' x1 x2, tb_bit (r % 64) (by omega) r' x2, decide_eq_true_iff]
        omega
      · rw [if_neg z, hH k r' x1 x2]
        omega
    have hc1 : WC c (N c 0) s1 := by unfold WC WR PL RD at hc ⊢; rw [q1]; exact hc
    have hE1 : LE s1 26 (fun a b => b < r ∧ Eg c (WL c (N c 0)) a b) := by
      intro i k r' x1 x2 x3
      rw [q2 26 (by decide)]
      exact hE i k r' x1 x2 x3
    rw [show m + 1 + 1 + f = (m + 1 + f) + 1 by omega, lX5_freshen_54, eCA, bd_some, if_neg (nI_ge (by omega) (by omega)), e1, ixT (by omega) (by omega), if_pos rfl, if_pos rfl, clI (by omega), e2, mv_let, hs1, e3]
    by_cases z : r = 0
    · rw [if_pos (by rw [z]; decide)]
      obtain ⟨s', a1, a2, a3, a4, a5⟩ := ih (r + 1) f s1 (by omega) (by rw [q1]; exact hs) hc1 (hE1.congr (fun a b _ => by
        constructor
        · rintro ⟨g, -⟩; omega
        · rintro ⟨g1, g2⟩
          exfalso
          obtain ⟨lp, lr, y1, y2, u, q, y3, y4, -⟩ := g2
          have : b = 0 := by omega
          rw [this, (WL_gd ho (show 0 < N c 0 by have := ho.1; omega) ho.1.2).2.1] at y2
          injection y2 with y2
          rw [← y2] at y3
          injection y3 with y5 y6
          exact y4 y6.symm)) hH1
      exact ⟨s', a1, a2, a3, a4.trans q1, fun p hp => (a5 p hp).trans (q2 p (fun zz => hp (by rw [zz]; decide)))⟩
    · rw [if_neg (by rw [li_0, leI (by omega) (by omega)]; omega)]
      obtain ⟨s2, b1, b2, b3, b4⟩ := sx_noteLeading ho (s := s1) (by rw [q1]; exact hs) hc1 (r := r) (by omega) (by omega) hE1
      rw [b1, bd_some]
      have q3 : s2.1 = s.1 := b3.trans q1
      obtain ⟨s', a1, a2, a3, a4, a5⟩ := ih (r + 1) f s2 (by omega) (by rw [q3]; exact hs) (by unfold WC WR PL RD at hc ⊢; rw [q3]; exact hc) (b2.congr (fun a b _ => by
        constructor
        · rintro (g | ⟨g1, g2⟩)
          · exact ⟨by omega, g.2⟩
          · exact ⟨by omega, by rw [g1]; exact g2⟩
        · rintro ⟨g1, g2⟩
          by_cases y : b = r
          · exact Or.inr ⟨y, by rw [← y]; exact g2⟩
          · exact Or.inl ⟨by omega, g2⟩)) (by
        intro k r' x1 x2
        rw [b4 27 (by decide)]
        exact hH1 k r' x1 x2)
      refine ⟨s', a1, a2, a3, a4.trans q3, fun p hp => ?_⟩
      have h1 : p ≠ 26 := fun zz => hp (by rw [zz]; decide)
      have h2 : p ≠ 27 := fun zz => hp (by rw [zz]; decide)
      rw [a5 p hp, b4 p h1, q2 p h2]
