/-! PURE PART: the reference's rings: rounds -/
theorem sm_isInC {x : Int64} {r : Nat} (hr : r < 64) (b : Bool) (h : tb x r = b) : (lg_cmp (mv_lshr x (nI r) &&& 1) 1 = 0) = (b = true) := by
  rw [cmp_eq, ← h]
  exact propext (tb_sshr x hr)
theorem sm_isIn {s : mx_G} {S : Nat → Prop} (hS : Hs s 61 S) {w : Nat} (hw : w < 384) : (S w → fX11_isIn (nI w) s = some (1, s)) ∧ (¬ S w → fX11_isIn (nI w) s = some (0, s)) := by
  have e1 : nI w / 64 = nI (w / 64) := by rw [li_64, dvI (by omega) (by omega) (by omega)]
  have e2 : mv_rem (nI w) 64 = nI (w % 64) := by rw [li_64, rmI (by omega) (by omega) (by omega)]
  have hb := hS (w / 64) (w % 64) (by omega) (by omega)
  rw [show 64 * (w / 64) + w % 64 = w by omega] at hb
  unfold fX11_isIn
  rw [e1, e2, ixT (by omega) (by omega), if_pos rfl, clI (by omega)]
  constructor
  · intro z
    rw [if_pos]
    rw [sm_isInC (by omega) true (hb.mpr z)]
  · intro z
    have : tb (s.2 61 (w / 64)) (w % 64) = false := by
      cases h : tb (s.2 61 (w / 64)) (w % 64) with
      | false => rfl
      | true => exact absurd (hb.mp h) z
    rw [if_neg]
    rw [sm_isInC (by omega) false this]
    decide
theorem sm_isIn_1 {s : mx_G} {S : Nat → Prop} (hS : Hs s 62 S) {w : Nat} (hw : w < 384) : (S w → fX11_isIn_1 (nI w) s = some (1, s)) ∧ (¬ S w → fX11_isIn_1 (nI w) s = some (0, s)) := by
  have e1 : nI w / 64 = nI (w / 64) := by rw [li_64, dvI (by omega) (by omega) (by omega)]
  have e2 : mv_rem (nI w) 64 = nI (w % 64) := by rw [li_64, rmI (by omega) (by omega) (by omega)]
  have hb := hS (w / 64) (w % 64) (by omega) (by omega)
  rw [show 64 * (w / 64) + w % 64 = w by omega] at hb
  unfold fX11_isIn_1
  rw [e1, e2, ixT (by omega) (by omega), if_pos rfl, clI (by omega)]
  constructor
  · intro z
    rw [if_pos]
    rw [sm_isInC (by omega) true (hb.mpr z)]
  · intro z
    have : tb (s.2 62 (w / 64)) (w % 64) = false := by
      cases h : tb (s.2 62 (w / 64)) (w % 64) with
      | false => rfl
      | true => exact absurd (hb.mp h) z
    rw [if_neg]
    rw [sm_isInC (by omega) false this]
    decide
theorem sm_mo35 {E : Nat → Nat → Prop} {S G : Nat → Prop} {p : Nat} (hp : p < 326) (hSp : S p) (a1 : Int32) (K : mx_G → Option (Int32 × mx_G)) : ∀ (m k f : Nat) (s : mx_G), k + m = 6 → LE s 60 E → Hs s 61 S → Hs s 63 (fun x => G x ∨ (x < 64 * k ∧ E p x)) → ∃ s', lX11_movesOn_35 a1 (nI p) K (m + 1 + f) (nI k) s = K s' ∧ Hs s' 63 (fun x => G x ∨ E p x) ∧ s'.1 = s.1 ∧ ∀ q, q ≠ 63 → s'.2 q = s.2 q := by
  intro m
  induction m with
  | zero =>
    intro k f s h hE hS hG
    refine ⟨s, ?_, hG.congr (fun x hx => ?_), rfl, fun _ _ => rfl⟩
    · rw [show 0 + 1 + f = f + 1 by omega, lX11_movesOn_35, if_pos (by rw [li_6, leI (by omega) (by omega)]; omega)]
    · constructor
      · rintro (g | g)
        · exact Or.inl g
        · exact Or.inr g.2
      · rintro (g | g)
        · exact Or.inl g
        · exact Or.inr ⟨by omega, g⟩
  | succ m ih =>
    intro k f s h hE hS hG
    have e1 : nI k + 1 = nI (k + 1) := by rw [li_1, adI]
    have hh := (sm_isIn hS (w := p) (by omega)).1 hSp
    rw [show m + 1 + 1 + f = (m + 1 + f) + 1 by omega, lX11_movesOn_35, if_neg (by rw [li_6, leI (by omega) (by omega)]; omega), hh, bd_some, if_neg one_ne, li_6, muI, adI, ixT (by omega) (by omega), if_pos rfl, ixT (by omega) (by omega), if_pos rfl, if_pos rfl, clI (by omega), clI (by omega), mv_let, e1]
    generalize hs1 : gl s 63 k (s.2 63 k ||| s.2 60 (6 * p + k)) = s1
    have q1 : s1.1 = s.1 := by rw [← hs1]; exact rd_gl1 _ _ _ _
    have q2 : ∀ q, q ≠ 63 → s1.2 q = s.2 q := fun q hq => by rw [← hs1, rd_gl, if_neg hq]
    obtain ⟨s', c1, c2, c3, c4⟩ := ih (k + 1) f s1 (by omega) (hE.of (q2 60 (by decide))) (hS.of (q2 61 (by decide))) (by
      intro k' r x1 x2
      rw [← hs1, rd_gl, if_pos rfl, updL_rd]
      by_cases z : k' = k
      · rw [if_pos z, tb_or, Bool.or_eq_true, ← z, hG k' r x1 x2, show 6 * p + k' = p * 6 + k' by omega, hE p k' r hp x1 x2]
        constructor
        · rintro ((g | g) | g)
          · exact Or.inl g
          · omega
          · exact Or.inr ⟨by omega, g⟩
        · rintro (g | g)
          · exact Or.inl (Or.inl g)
          · exact Or.inr g.2
      · rw [if_neg z, hG k' r x1 x2]
        constructor
        · rintro (g | g)
          · exact Or.inl g
          · exact Or.inr ⟨by omega, g.2⟩
        · rintro (g | g)
          · exact Or.inl g
          · exact Or.inr ⟨by omega, g.2⟩)
    exact ⟨s', c1, c2, c3.trans q1, fun q hq => (c4 q hq).trans (q2 q hq)⟩
theorem sm_mo25 {E : Nat → Nat → Prop} {S : Nat → Prop} {M : Nat} (hM : M ≤ 326) (a1 : Int32) (K : mx_G → Option (Int32 × mx_G)) : ∀ (m p f : Nat) (s : mx_G), p + m = M → s.1 45 13 = nI M → LE s 60 E → Hs s 61 S → Hs s 63 (fun x => ∃ z, z < p ∧ S z ∧ E z x) → ∃ s', lX11_movesOn_25 a1 K (m + 1 + f) (nI p) s = K s' ∧ Hs s' 63 (fun x => ∃ z, z < M ∧ S z ∧ E z x) ∧ s'.1 = s.1 ∧ ∀ q, q ≠ 63 → s'.2 q = s.2 q := by
  intro m
  induction m with
  | zero =>
    intro p f s h h13 hE hS hG
    have : p = M := by omega
    subst this
    refine ⟨s, ?_, hG, rfl, fun _ _ => rfl⟩
    rw [show 0 + 1 + f = f + 1 by omega, lX11_movesOn_25, h13, if_pos (nI_le (by omega) (by omega))]
  | succ m ih =>
    intro p f s h h13 hE hS hG
    have e1 : nI p + 1 = nI (p + 1) := by rw [li_1, adI]
    obtain ⟨g, hg⟩ := FU_lt (n := 6) (by omega)
    rw [show m + 1 + 1 + f = (m + 1 + f) + 1 by omega, lX11_movesOn_25, h13, if_neg (nI_ge (by omega) (by omega)), e1]
    by_cases z : S p
    · obtain ⟨s1, a1', a2, a3, a4⟩ := sm_mo35 (G := fun x => ∃ z, z < p ∧ S z ∧ E z x) (show p < 326 by omega) z a1 (fun s6 => lX11_movesOn_25 a1 K (m + 1 + f) (nI (p + 1)) s6) 6 0 g s (by omega) hE hS (hG.congr (fun x _ => by
        constructor
        · intro q; exact Or.inl q
        · rintro (q | q)
          · exact q
          · omega))
      rw [← hg] at a1'
      obtain ⟨s', c1, c2, c3, c4⟩ := ih (p + 1) f s1 (by omega) (by rw [a3]; exact h13) (hE.of (a4 60 (by decide))) (hS.of (a4 61 (by decide))) (a2.congr (fun x _ => by
        constructor
        · rintro (⟨w, w1, w2⟩ | q)
          · exact ⟨w, by omega, w2⟩
          · exact ⟨p, by omega, z, q⟩
        · rintro ⟨w, w1, w2, w3⟩
          by_cases y : w = p
          · exact Or.inr (by rw [← y]; exact w3)
          · exact Or.inl ⟨w, by omega, w2, w3⟩))
      exact ⟨s', Eq.trans a1' c1, c2, c3.trans a3, fun q hq => (c4 q hq).trans (a4 q hq)⟩
    · have hh := (sm_isIn hS (w := p) (by omega)).2 z
      have e35 : lX11_movesOn_35 a1 (nI p) (fun s6 => lX11_movesOn_25 a1 K (m + 1 + f) (nI (p + 1)) s6) FU 0 s = lX11_movesOn_25 a1 K (m + 1 + f) (nI (p + 1)) s := by
        rw [hg, show 6 + 1 + g = (6 + g) + 1 by omega, lX11_movesOn_35, if_neg (by decide), hh, bd_some, if_pos rfl]
      rw [e35]
      refine ih (p + 1) f s (by omega) h13 hE hS (hG.congr (fun x _ => ?_))
      constructor
      · rintro ⟨w, w1, w2⟩; exact ⟨w, by omega, w2⟩
      · rintro ⟨w, w1, w2, w3⟩
        by_cases y : w = p
        · exact absurd (y ▸ w2) z
        · exact ⟨w, by omega, w2, w3⟩
theorem sm_mo86 {G Rr : Nat → Prop} : ∀ (m k f : Nat) (a : Int32) (s : mx_G), k + m = 6 → Hs s 63 G → (∀ k' r, k' < k → r < 64 → (tb (s.2 61 k') r = true ↔ G (64 * k' + r) ∧ ¬ Rr (64 * k' + r))) → Hs s 62 (fun x => Rr x ∨ (x < 64 * k ∧ G x)) → ((a = 1 ∧ ∃ x, x < 64 * k ∧ G x ∧ ¬ Rr x) ∨ (a = 0 ∧ ∀ x, x < 64 * k → ¬ (G x ∧ ¬ Rr x))) → ∃ s' a', lX11_movesOn_86 (m + 1 + f) a (nI k) s = some (a', s') ∧ Hs s' 61 (fun x => G x ∧ ¬ Rr x) ∧ Hs s' 62 (fun x => Rr x ∨ G x) ∧ ((a' = 1 ∧ ∃ x, x < 384 ∧ G x ∧ ¬ Rr x) ∨ (a' = 0 ∧ ∀ x, x < 384 → ¬ (G x ∧ ¬ Rr x))) ∧ s'.1 = s.1 ∧ ∀ p, p ∉ [61, 62] → s'.2 p = s.2 p := by
  intro m
  induction m with
  | zero =>
    intro k f a s h hG h61 h62 ha
    have : k = 6 := by omega
    subst this
    refine ⟨s, a, ?_, fun k r hk hr => h61 k r hk hr, h62.congr (fun x hx => ?_), ha, rfl, fun _ _ => rfl⟩
    · rw [show 0 + 1 + f = f + 1 by omega, lX11_movesOn_86, if_pos (by decide)]
      rcases ha with ⟨rfl, -⟩ | ⟨rfl, -⟩
      · rw [if_pos (by decide)]
      · rw [if_pos (by decide)]
    · constructor
      · rintro (g | g)
        · exact Or.inl g
        · exact Or.inr g.2
      · rintro (g | g)
        · exact Or.inl g
        · exact Or.inr ⟨by omega, g⟩
  | succ m ih =>
    intro k f a s h hG h61 h62 ha
    have e1 : nI k + 1 = nI (k + 1) := by rw [li_1, adI]
    generalize hv : s.2 63 k &&& (s.2 62 k ^^^ (-1)) = v
    have hvb : ∀ r, r < 64 → (tb v r = true ↔ G (64 * k + r) ∧ ¬ Rr (64 * k + r)) := fun r hr => by
      rw [← hv, tb_and, Bool.and_eq_true, hG k r (by omega) hr, tb_not _ hr]
      have := h62 k r (by omega) hr
      cases hb : tb (s.2 62 k) r with
      | false =>
        rw [hb] at this
        simp
        intro _ q
        have := this.mpr (Or.inl q)
        cases this
      | true =>
        rw [hb] at this
        simp
        intro _
        rcases this.mp rfl with q | q
        · exact q
        · omega
    generalize hs1 : gl s 61 k v = s1
    have r1 : s1.2 62 = s.2 62 := by rw [← hs1, rd_gl, if_neg (by decide)]
    have r3 : s1.2 63 = s.2 63 := by rw [← hs1, rd_gl, if_neg (by decide)]
    generalize hs2 : gl s1 62 k (s1.2 62 k ||| s1.2 63 k) = s2
    have t1 : s2.1 = s.1 := by rw [← hs2, rd_gl1, ← hs1, rd_gl1]
    have t61 : s2.2 61 k = v := by rw [← hs2, rd_gl, if_neg (by decide), ← hs1, rd_gl, if_pos rfl, updL_rd, if_pos rfl]
    have t2 : ∀ p, p ∉ [61, 62] → s2.2 p = s.2 p := fun p hp => by
      rw [← hs2, rd_gl, if_neg (fun zz => hp (by rw [zz]; decide)), ← hs1, rd_gl, if_neg (fun zz => hp (by rw [zz]; decide))]
    have go : ∀ b : Int32, ((b = 1 ∧ ∃ x, x < 64 * (k + 1) ∧ G x ∧ ¬ Rr x) ∨ (b = 0 ∧ ∀ x, x < 64 * (k + 1) → ¬ (G x ∧ ¬ Rr x))) → ∃ s' a', lX11_movesOn_86 (m + 1 + f) b (nI (k + 1)) s2 = some (a', s') ∧ Hs s' 61 (fun x => G x ∧ ¬ Rr x) ∧ Hs s' 62 (fun x => Rr x ∨ G x) ∧ ((a' = 1 ∧ ∃ x, x < 384 ∧ G x ∧ ¬ Rr x) ∨ (a' = 0 ∧ ∀ x, x < 384 → ¬ (G x ∧ ¬ Rr x))) ∧ s'.1 = s.1 ∧ ∀ p, p ∉ [61, 62] → s'.2 p = s.2 p := by
      intro b hb
      obtain ⟨s', a', c1, c2, c3, c4, c5, c6⟩ := ih (k + 1) f b s2 (by omega) (hG.of (t2 63 (by decide))) (fun k' r x1 x2 => by
        by_cases y : k' = k
        · rw [y, t61]; exact hvb r x2
        · rw [← hs2, rd_gl, if_neg (by decide), ← hs1, rd_gl, if_pos rfl, updL_rd, if_neg y]
          exact h61 k' r (by omega) x2) (by
        intro k' r x1 x2
        rw [← hs2, rd_gl, if_pos rfl, updL_rd, r1, r3]
        by_cases y : k' = k
        · rw [if_pos y, tb_or, Bool.or_eq_true, ← y, h62 k' r x1 x2, hG k' r x1 x2]
          constructor
          · rintro ((g | g) | g)
            · exact Or.inl g
            · omega
            · exact Or.inr ⟨by omega, g⟩
          · rintro (g | g)
            · exact Or.inl (Or.inl g)
            · exact Or.inr g.2
        · rw [if_neg y, h62 k' r x1 x2]
          constructor
          · rintro (g | g)
            · exact Or.inl g
            · exact Or.inr ⟨by omega, g.2⟩
          · rintro (g | g)
            · exact Or.inl g
            · exact Or.inr ⟨by omega, g.2⟩) hb
      exact ⟨s', a', c1, c2, c3, c4, c5.trans t1, fun p hp => (c6 p hp).trans (t2 p hp)⟩
    rw [show m + 1 + 1 + f = (m + 1 + f) + 1 by omega, lX11_movesOn_86, if_neg (by rw [li_6, leI (by omega) (by omega)]; omega), ixT (by omega) (by omega)]
    simp only [mv_let, if_true]
    rw [clI (by omega), hv, hs1, hs2, t61, e1]
    rcases ha with ⟨rfl, x, hx, hx2⟩ | ⟨rfl, hx⟩
    · rw [if_neg one_ne]
      exact go 1 (Or.inl ⟨rfl, x, by omega, hx2⟩)
    · rw [if_pos rfl]
      by_cases z : v = 0
      · rw [if_pos (by rw [cmp_eq]; exact z)]
        refine go 0 (Or.inr ⟨rfl, fun x h1 h2 => ?_⟩)
        by_cases y : x < 64 * k
        · exact hx x y h2
        · have := (hvb (x - 64 * k) (by omega)).mpr (by rw [show 64 * k + (x - 64 * k) = x by omega]; exact h2)
          rw [z, tb_0] at this
          cases this
      · rw [if_neg (by rw [cmp_eq]; exact z)]
        obtain ⟨r, hr, h1, -, -⟩ := tb_low z
        exact go 1 (Or.inl ⟨rfl, 64 * k + r, by omega, (hvb r hr).mp h1⟩)
theorem sm_movesOn {s : mx_G} {E : Nat → Nat → Prop} {S Rr : Nat → Prop} {M : Nat} (hM : M ≤ 326) (hSM : ∀ z, S z → z < M) (h13 : s.1 45 13 = nI M) (hE : LE s 60 E) (hS : Hs s 61 S) (hR : Hs s 62 Rr) : ∃ s' a', fX11_movesOn s = some (a', s') ∧ Hs s' 61 (fun x => (∃ z, S z ∧ E z x) ∧ ¬ Rr x) ∧ Hs s' 62 (fun x => Rr x ∨ ∃ z, S z ∧ E z x) ∧ ((a' = 1 ∧ ∃ x, x < 384 ∧ (∃ z, S z ∧ E z x) ∧ ¬ Rr x) ∨ (a' = 0 ∧ ∀ x, x < 384 → ¬ ((∃ z, S z ∧ E z x) ∧ ¬ Rr x))) ∧ s'.1 = s.1 ∧ ∀ p, p ∉ [61, 62, 63] → s'.2 p = s.2 p := by
  have fill : ∀ (K : mx_G → Option (Int32 × mx_G)) (m k f : Nat) (g : Nat → Int64), k + m = 6 → (∀ j, j < k → g j = 0) → ∃ g', lX11_movesOn_4 0 K (m + 1 + f) (nI k) (gt s 63 g) = K (gt s 63 g') ∧ ∀ j, j < 6 → g' j = 0 := by
    intro K m
    induction m with
    | zero =>
      intro k f g h hg
      refine ⟨g, ?_, fun j hj => hg j (by omega)⟩
      rw [show 0 + 1 + f = f + 1 by omega, lX11_movesOn_4, if_pos (by rw [li_6, leI (by omega) (by omega)]; omega)]
    | succ m ih =>
      intro k f g h hg
      have e1 : nI k + 1 = nI (k + 1) := by rw [li_1, adI]
      rw [show m + 1 + 1 + f = (m + 1 + f) + 1 by omega, lX11_movesOn_4, if_neg (by rw [li_6, leI (by omega) (by omega)]; omega), ixT (by omega) (by omega), if_pos rfl, clI (by omega), mv_let, gl_of, e1]
      refine ih (k + 1) f _ (by omega) (fun j hj => ?_)
      rw [updL_rd]
      by_cases z : j = k
      · rw [if_pos z]
      · rw [if_neg z]; exact hg j (by omega)
  obtain ⟨f, hf⟩ := FU_lt (n := 6) (by omega)
  obtain ⟨f2, hf2⟩ := FU_lt (n := M) (by omega)
  obtain ⟨g', b1, b2⟩ := fill (fun s2 => lX11_movesOn_25 0 (fun s7 => lX11_movesOn_86 FU 0 0 s7) FU 0 s2) 6 0 f (s.2 63) (by omega) (fun j hj => absurd hj (by omega))
  rw [gt_self, ← hf] at b1
  have q2 : ∀ p, p ≠ 63 → (gt s 63 g').2 p = s.2 p := fun p hp => by rw [rd_gt, if_neg hp]
  obtain ⟨s1, c1, c2, c3, c4⟩ := sm_mo25 (E := E) (S := S) hM 0 (fun s7 => lX11_movesOn_86 FU 0 0 s7) M 0 f2 (gt s 63 g') (Nat.zero_add _) (by rw [rd_gt1]; exact h13) (hE.of (q2 60 (by decide))) (hS.of (q2 61 (by decide))) (by
    intro k r hk hr
    rw [rd_gt, if_pos rfl, b2 k hk, tb_0]
    constructor
    · intro z; cases z
    · rintro ⟨z, z1, -⟩; omega)
  rw [← hf2] at c1
  have c2 : Hs s1 63 (fun x => ∃ z, S z ∧ E z x) := c2.congr (fun x _ => by
    constructor
    · rintro ⟨z, z1, z2⟩; exact ⟨z, z2⟩
    · rintro ⟨z, z2⟩; exact ⟨z, hSM z z2.1, z2⟩)
  obtain ⟨s2, a', d1, d2, d3, d4, d5, d6⟩ := sm_mo86 (Rr := Rr) 6 0 f 0 s1 (by omega) c2 (fun k' r x => absurd x (by omega)) (((hR.of (q2 62 (by decide))).of (c4 62 (by decide))).congr (fun x _ => by
    constructor
    · intro z; exact Or.inl z
    · rintro (z | z)
      · exact z
      · omega)) (Or.inr ⟨rfl, fun x hx => absurd hx (by omega)⟩)
  rw [← hf] at d1
  refine ⟨s2, a', ?_, d2, d3, d4, d5.trans (c3.trans (rd_gt1 _ _ _)), fun p hp => ?_⟩
  · unfold fX11_movesOn
    exact Eq.trans b1 (Eq.trans c1 d1)
  · rw [d6 p (fun z => hp (by revert z; simp; omega)), c4 p (fun z => hp (by rw [z]; decide)), q2 p (fun z => hp (by rw [z]; decide))]
theorem sm_round47 {E : Nat → Nat → Prop} {M w : Nat} (hM : M ≤ 326) (hEb : ∀ a b, E a b → a < M ∧ b < M) (hw : w < M) : ∀ (m k f : Nat) (s : mx_G), k + m = 326 → s.1 45 13 = nI M → LE s 60 E → Hs s 61 (ed E w k) → Hs s 62 (Rk E w k) → ¬ Rk E w k w → (∀ j, j < k → ∃ x, ed E w (j + 1) x) → ∃ s' v, lX11_roundOf_47 (nI w) (m + 1 + 1 + f) (nI k) 1 s = some (if v = 0 then -4 else nI v, s') ∧ v ≤ 1000 ∧ (v = 0 → ∀ j, 1 ≤ j → ¬ wlk E j w w) ∧ (0 < v → wlk E v w w ∧ ∀ j, 1 ≤ j → j < v → ¬ wlk E j w w) ∧ s'.1 = s.1 ∧ ∀ p, p ∉ [61, 62, 63] → s'.2 p = s.2 p := by
  have hRb : ∀ a b, E a b → b < M := fun a b h => (hEb a b h).2
  intro m
  induction m with
  | zero =>
    intro k f s h h13 hE h61 h62 hno hne
    exfalso
    have := ed_few hRb hw hne hno
    omega
  | succ m ih =>
    intro k f s h h13 hE h61 h62 hno hne
    have e1 : nI k + 1 = nI (k + 1) := by rw [li_1, adI]
    obtain ⟨s1, a', b1, b2, b3, b4, b5, b6⟩ := sm_movesOn hM (fun z hz => ed_lt hRb hw hz) h13 hE h61 h62
    have h61' : Hs s1 61 (ed E w (k + 1)) := b2.congr (fun x _ => by rw [ed_next])
    have h62' : Hs s1 62 (Rk E w (k + 1)) := b3.congr (fun x _ => by rw [Rk_step])
    have hh := sm_isIn_1 h62' (w := w) (by omega)
    rw [show m + 1 + 1 + 1 + f = (m + 1 + 1 + f) + 1 by omega, lX11_roundOf_47, if_neg one_ne, b1, bd_some, e1]
    by_cases z : Rk E w (k + 1) w
    · rw [hh.1 z, bd_some, if_neg one_ne]
      refine ⟨s1, k + 1, by rw [if_neg (by omega)], by omega, fun q => absurd q (by omega), fun _ => ⟨?_, fun j j1 j2 hj => hno ⟨j, j1, by omega, hj⟩⟩, b5, b6⟩
      obtain ⟨j, j1, j2, j3⟩ := z
      have : j = k + 1 := by
        rcases Nat.lt_or_ge k j with q | q
        · omega
        · exact absurd ⟨j, j1, q, j3⟩ hno
      rw [← this]
      exact j3
    · rw [hh.2 z, bd_some, if_pos rfl]
      rcases b4 with ⟨rfl, x, hx, hx2⟩ | ⟨rfl, hx⟩
      · obtain ⟨s', v, c1, c2, c3, c4, c5, c6⟩ := ih (k + 1) f s1 (by omega) (by rw [b5]; exact h13) (hE.of (b6 60 (by decide))) h61' h62' z (fun j hj => by
          by_cases y : j = k
          · exact ⟨x, by rw [y, ed_next]; exact hx2⟩
          · exact hne j (by omega))
        exact ⟨s', v, c1, c2, c3, c4, c5.trans b5, fun p hp => (c6 p hp).trans (b6 p hp)⟩
      · rw [show m + 1 + 1 + f = (m + 1 + f) + 1 by omega, lX11_roundOf_47, if_pos rfl]
        refine ⟨s1, 0, by rw [if_pos rfl], by omega, fun _ j j1 hj => ?_, fun q => absurd q (by omega), b5, b6⟩
        have hend := Rk_end (R := E) (w := w) (k := k) (fun x hxx => hx x (by have := ed_lt hRb hw hxx; omega) (by rw [ed_next] at hxx; exact hxx))
        exact hno (hend j w ⟨j, j1, by omega, hj⟩)
theorem sm_roundOf {s : mx_G} {E : Nat → Nat → Prop} {M w : Nat} (hM : M ≤ 326) (hEb : ∀ a b, E a b → a < M ∧ b < M) (hw : w < M) (h13 : s.1 45 13 = nI M) (hE : LE s 60 E) : ∃ s' v, fX11_roundOf (nI w) s = some (if v = 0 then -4 else nI v, s') ∧ v ≤ 1000 ∧ (v = 0 → ∀ j, 1 ≤ j → ¬ wlk E j w w) ∧ (0 < v → wlk E v w w ∧ ∀ j, 1 ≤ j → j < v → ¬ wlk E j w w) ∧ s'.1 = s.1 ∧ ∀ p, p ∉ [61, 62, 63] → s'.2 p = s.2 p := by
  have fill : ∀ (K : mx_G → Option (Int32 × mx_G)) (m k f : Nat) (t : mx_G), k + m = 6 → t.1 = s.1 → (∀ p, p ∉ [61, 62, 63] → t.2 p = s.2 p) → (∀ j, j < k → t.2 61 j = 0 ∧ t.2 62 j = 0) → ∃ t', lX11_roundOf_2 (nI w) K (m + 1 + f) (nI k) t = K t' ∧ t'.1 = s.1 ∧ (∀ p, p ∉ [61, 62, 63] → t'.2 p = s.2 p) ∧ ∀ j, j < 6 → t'.2 61 j = 0 ∧ t'.2 62 j = 0 := by
    intro K m
    induction m with
    | zero =>
      intro k f t h h1 h2 h3
      refine ⟨t, ?_, h1, h2, fun j hj => h3 j (by omega)⟩
      rw [show 0 + 1 + f = f + 1 by omega, lX11_roundOf_2, if_pos (by rw [li_6, leI (by omega) (by omega)]; omega)]
    | succ m ih =>
      intro k f t h h1 h2 h3
      have e1 : nI k + 1 = nI (k + 1) := by rw [li_1, adI]
      rw [show m + 1 + 1 + f = (m + 1 + f) + 1 by omega, lX11_roundOf_2, if_neg (by rw [li_6, leI (by omega) (by omega)]; omega), ixT (by omega) (by omega), if_pos rfl, clI (by omega), mv_let, if_pos rfl, mv_let, e1]
      refine ih (k + 1) f _ (by omega) (by rw [rd_gl1, rd_gl1]; exact h1) (fun p hp => ?_) (fun j hj => ?_)
      · rw [rd_gl, if_neg (fun z => hp (by rw [z]; decide)), rd_gl, if_neg (fun z => hp (by rw [z]; decide))]
        exact h2 p hp
      · rw [rd_gl, if_neg (by decide), rd_gl, if_pos rfl, rd_gl, if_pos rfl, updL_rd, updL_rd]
        by_cases z : j = k
        · rw [if_pos z, if_pos z]; exact ⟨rfl, rfl⟩
        · rw [if_neg z, if_neg z, rd_gl, if_neg (by decide)]
          exact h3 j (by omega)
  have d1 : nI w / 64 = nI (w / 64) := by rw [li_64, dvI (by omega) (by omega) (by omega)]
  have d2 : mv_rem (nI w) 64 = nI (w % 64) := by rw [li_64, rmI (by omega) (by omega) (by omega)]
  obtain ⟨f, hf⟩ := FU_lt (n := 6) (by omega)
  obtain ⟨f2, hf2⟩ := FU_lt (n := 327) (by omega)
  obtain ⟨t, a1, a2, a3, a4⟩ := fill (fun s3 => if ix (nI w / 64) 6 = true then mv_let (gl s3 61 (Int32.toNatClampNeg (nI w / 64)) (mv_lshl 1 (mv_rem (nI w) 64))) fun s4 => lX11_roundOf_47 (nI w) FU 0 1 s4 else none) 6 0 f s (by omega) rfl (fun _ _ => rfl) (fun j hj => absurd hj (by omega))
  rw [← hf] at a1
  obtain ⟨s', v, c1, c2, c3, c4, c5, c6⟩ := sm_round47 hM hEb hw 326 0 f2 (gl t 61 (w / 64) (mv_lshl 1 (nI (w % 64)))) (by omega) (by rw [rd_gl1, a2]; exact h13) (hE.of (by rw [rd_gl, if_neg (by decide)]; exact a3 60 (by decide))) (by
    intro k r x1 x2
    rw [rd_gl, if_pos rfl, updL_rd]
    by_cases y : k = w / 64
    · rw [if_pos y, tb_bit (w % 64) (by omega) r x2, decide_eq_true_iff]
      show r = w % 64 ↔ 64 * k + r = w
      omega
    · rw [if_neg y, (a4 k x1).1, tb_0]
      constructor
      · intro z; cases z
      · intro z
        have z : 64 * k + r = w := z
        omega) (by
    intro k r x1 x2
    rw [rd_gl, if_neg (by decide), (a4 k x1).2, tb_0]
    constructor
    · intro z; cases z
    · rintro ⟨m, h1, h2, -⟩; omega) (by rintro ⟨m, h1, h2, -⟩; omega) (fun j hj => absurd hj (by omega))
  rw [show 326 + 1 + 1 + f2 = 327 + 1 + f2 by omega, ← hf2] at c1
  refine ⟨s', v, ?_, c2, c3, c4, c5.trans (by rw [rd_gl1]; exact a2), fun p hp => (c6 p hp).trans (by rw [rd_gl, if_neg (fun z => hp (by rw [z]; decide))]; exact a3 p hp)⟩
  unfold fX11_roundOf
  refine Eq.trans a1 ?_
  rw [d1, ixT (by omega) (by omega), if_pos rfl, clI (by omega), d2, mv_let]
  exact c1
