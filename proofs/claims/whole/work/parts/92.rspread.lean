/-! PURE PART: the class's rings: the layers -/
def CM (E : Nat → Nat → Prop) (Λ T : Nat → Prop) (y : Nat) : Prop := ∃ z, T z ∧ E z y ∧ Λ y
theorem sx_spread26 {E : Nat → Nat → Prop} {Λ : Nat → Prop} {k : Nat} (hk : k < 6) (K : mx_G → Option (Int32 × mx_G)) : ∀ (m b f : Nat) (left : Int64) (s : mx_G) (T : Nat → Prop), b + m = 64 → (∀ r, r < b → tb left r = false) → (∀ r, r < 64 → tb left r = true → 64 * k + r < 326) → LE s 26 E → Hs s 27 Λ → Hs s 30 (CM E Λ T) → ∃ s', lX5_spread_26 (nI k) K (m + 1 + f) left (nI b) s = K s' ∧ Hs s' 30 (CM E Λ (fun z => T z ∨ ∃ r, r < 64 ∧ tb left r = true ∧ z = 64 * k + r)) ∧ s'.1 = s.1 ∧ ∀ p, p ≠ 30 → s'.2 p = s.2 p := by
  intro m
  induction m with
  | zero =>
    intro b f left s T h hb hw hE hΛ hT
    refine ⟨s, ?_, hT.congr (fun x _ => ?_), rfl, fun _ _ => rfl⟩
    · rw [show 0 + 1 + f = f + 1 by omega, lX5_spread_26, if_pos (by rw [li_64, leI (by omega) (by omega)]; omega)]
    · constructor
      · rintro ⟨z, g1, g2⟩; exact ⟨z, Or.inl g1, g2⟩
      · rintro ⟨z, g1 | ⟨r, g3, g4, g5⟩, g2⟩
        · exact ⟨z, g1, g2⟩
        · rw [hb r (by omega)] at g4; cases g4
  | succ m ih =>
    intro b f left s T h hb hw hE hΛ hT
    have e1 : nI b + 1 = nI (b + 1) := by rw [li_1, adI]
    rw [show m + 1 + 1 + f = (m + 1 + f) + 1 by omega, lX5_spread_26, if_neg (by rw [li_64, leI (by omega) (by omega)]; omega)]
    by_cases z : left = 0
    · refine ⟨s, ?_, hT.congr (fun x _ => ?_), rfl, fun _ _ => rfl⟩
      · rw [if_pos (by rw [cmp_eq]; exact z)]
      · constructor
        · rintro ⟨z, g1, g2⟩; exact ⟨z, Or.inl g1, g2⟩
        · rintro ⟨y, g1 | ⟨r, g3, g4, g5⟩, g2⟩
          · exact ⟨y, g1, g2⟩
          · rw [z, tb_0] at g4; cases g4
    · obtain ⟨r, hr, h1, h2, h3⟩ := tb_low z
      have hrb : b ≤ r := by
        rcases Nat.lt_or_ge r b with y | y
        · rw [hb r y] at h1; cases h1
        · exact y
      rw [if_neg (by rw [cmp_eq]; exact z)]
      simp only [mv_let]
      obtain ⟨s1, v, b1, b2, b3, b4, -⟩ := sx_join hE hΛ hT (w := 64 * k + r) (hw r hr h1)
      have e2 : nI k * 64 + nI r = nI (64 * k + r) := by rw [li_64, muI, adI, Nat.mul_comm]
      rw [h3, bCL_e, bd_some, bCL_bit r hr, e2, b1, bd_some, e1]
      have hx : ∀ i, i < 64 → tb (left ^^^ mv_lshl 1 (nI r)) i = if i = r then false else tb left i := fun i hi => by
        rw [tb_xor, tb_bit r hr i hi]
        by_cases y : i = r
        · rw [y, h1]; simp
        · simp [y]
      obtain ⟨s', c1, c2, c3, c4⟩ := ih (b + 1) f (left ^^^ mv_lshl 1 (nI r)) s1 (fun z => T z ∨ z = 64 * k + r) (by omega) (fun i hi => by
        rw [hx i (by omega)]
        by_cases y : i = r
        · rw [if_pos y]
        · rw [if_neg y]; exact h2 i (by omega)) (fun i hi ht => by
        rw [hx i hi] at ht
        by_cases y : i = r
        · rw [if_pos y] at ht; cases ht
        · rw [if_neg y] at ht; exact hw i hi ht) (hE.of (b4 26 (by decide))) (hΛ.of (b4 27 (by decide))) (b2.congr (fun x _ => by
        constructor
        · rintro (⟨z, g1, g2⟩ | g)
          · exact ⟨z, Or.inl g1, g2⟩
          · exact ⟨_, Or.inr rfl, g⟩
        · rintro ⟨z, g1 | g1, g2⟩
          · exact Or.inl ⟨z, g1, g2⟩
          · rw [g1] at g2; exact Or.inr g2))
      refine ⟨s', c1, c2.congr (fun x _ => ?_), c3.trans b3, fun p hp => (c4 p hp).trans (b4 p hp)⟩
      constructor
      · rintro ⟨y, (g1 | g1) | ⟨i, g3, g4, g5⟩, g2⟩
        · exact ⟨y, Or.inl g1, g2⟩
        · exact ⟨y, Or.inr ⟨r, hr, h1, g1⟩, g2⟩
        · rw [hx i g3] at g4
          by_cases q : i = r
          · rw [if_pos q] at g4; cases g4
          · rw [if_neg q] at g4; exact ⟨y, Or.inr ⟨i, g3, g4, g5⟩, g2⟩
      · rintro ⟨y, g1 | ⟨i, g3, g4, g5⟩, g2⟩
        · exact ⟨y, Or.inl (Or.inl g1), g2⟩
        · by_cases q : i = r
          · exact ⟨y, Or.inl (Or.inr (by rw [g5, q])), g2⟩
          · exact ⟨y, Or.inr ⟨i, g3, by rw [hx i g3, if_neg q]; exact g4, g5⟩, g2⟩
theorem sx_spread10 {E : Nat → Nat → Prop} {Λ S : Nat → Prop} (hS326 : ∀ z, z < 384 → S z → z < 326) (K : mx_G → Option (Int32 × mx_G)) : ∀ (m k f : Nat) (s : mx_G), k + m = 6 → LE s 26 E → Hs s 27 Λ → Hs s 29 S → Hs s 30 (CM E Λ (fun z => z < 64 * k ∧ S z)) → ∃ s', lX5_spread_10 K (m + 1 + f) (nI k) s = K s' ∧ Hs s' 30 (CM E Λ (fun z => z < 384 ∧ S z)) ∧ s'.1 = s.1 ∧ ∀ p, p ≠ 30 → s'.2 p = s.2 p := by
  intro m
  induction m with
  | zero =>
    intro k f s h hE hΛ hS hT
    have : k = 6 := by omega
    subst this
    refine ⟨s, ?_, hT, rfl, fun _ _ => rfl⟩
    rw [show 0 + 1 + f = f + 1 by omega, lX5_spread_10, if_pos (by decide)]
  | succ m ih =>
    intro k f s h hE hΛ hS hT
    have e1 : nI k + 1 = nI (k + 1) := by rw [li_1, adI]
    obtain ⟨g, hg⟩ := FU_lt (n := 64) (by omega)
    obtain ⟨s1, a1, a2, a3, a4⟩ := sx_spread26 (k := k) (by omega) (fun s9 => lX5_spread_10 K (m + 1 + f) (nI (k + 1)) s9) 64 0 g (s.2 29 k) s (fun z => z < 64 * k ∧ S z) (by omega) (fun r hr => absurd hr (by omega)) (fun r hr ht => hS326 _ (by omega) ((hS k r (by omega) hr).mp ht)) hE hΛ hT
    rw [← hg] at a1
    rw [show m + 1 + 1 + f = (m + 1 + f) + 1 by omega, lX5_spread_10, if_neg (by rw [li_6, leI (by omega) (by omega)]; omega), ixT (by omega) (by omega), if_pos rfl, clI (by omega), mv_let, e1, li_0, a1]
    obtain ⟨s', c1, c2, c3, c4⟩ := ih (k + 1) f s1 (by omega) (hE.of (a4 26 (by decide))) (hΛ.of (a4 27 (by decide))) (hS.of (a4 29 (by decide))) (a2.congr (fun x _ => by
      constructor
      · rintro ⟨z, g1 | ⟨r, g3, g4, g5⟩, g2⟩
        · exact ⟨z, ⟨by omega, g1.2⟩, g2⟩
        · exact ⟨z, ⟨by omega, by rw [g5]; exact (hS k r (by omega) g3).mp g4⟩, g2⟩
      · rintro ⟨z, ⟨g1, g3⟩, g2⟩
        by_cases y : z < 64 * k
        · exact ⟨z, Or.inl ⟨y, g3⟩, g2⟩
        · refine ⟨z, Or.inr ⟨z - 64 * k, by omega, ?_, by omega⟩, g2⟩
          rw [hS k (z - 64 * k) (by omega) (by omega), show 64 * k + (z - 64 * k) = z by omega]
          exact g3))
    exact ⟨s', c1, c2, c3.trans a3, fun p hp => (c4 p hp).trans (a4 p hp)⟩
theorem sx_spread83 {G Rr : Nat → Prop} (K : Int64 → mx_G → Option (Int32 × mx_G)) : ∀ (m k f : Nat) (acc : Int64) (s : mx_G), k + m = 6 → Hs s 30 G → (∀ k' r, k' < k → r < 64 → (tb (s.2 29 k') r = true ↔ G (64 * k' + r) ∧ ¬ Rr (64 * k' + r))) → Hs s 28 (fun x => Rr x ∨ (x < 64 * k ∧ G x)) → (∀ r, r < 64 → (tb acc r = true ↔ ∃ k', k' < k ∧ G (64 * k' + r) ∧ ¬ Rr (64 * k' + r))) → ∃ s' acc', lX5_spread_83 K (m + 1 + f) acc (nI k) s = K acc' s' ∧ Hs s' 29 (fun x => G x ∧ ¬ Rr x) ∧ Hs s' 28 (fun x => Rr x ∨ G x) ∧ (∀ r, r < 64 → (tb acc' r = true ↔ ∃ k', k' < 6 ∧ G (64 * k' + r) ∧ ¬ Rr (64 * k' + r))) ∧ s'.1 = s.1 ∧ ∀ p, p ∉ [28, 29] → s'.2 p = s.2 p := by
  intro m
  induction m with
  | zero =>
    intro k f acc s h hG h29 h28 ha
    have : k = 6 := by omega
    subst this
    refine ⟨s, acc, ?_, fun k r hk hr => h29 k r hk hr, h28.congr (fun x hx => ?_), ha, rfl, fun _ _ => rfl⟩
    · rw [show 0 + 1 + f = f + 1 by omega, lX5_spread_83, if_pos (by decide)]
    · constructor
      · rintro (g | g)
        · exact Or.inl g
        · exact Or.inr g.2
      · rintro (g | g)
        · exact Or.inl g
        · exact Or.inr ⟨by omega, g⟩
  | succ m ih =>
    intro k f acc s h hG h29 h28 ha
    have e1 : nI k + 1 = nI (k + 1) := by rw [li_1, adI]
    generalize hv : s.2 30 k &&& (s.2 28 k ^^^ (-1)) = v
    have hvb : ∀ r, r < 64 → (tb v r = true ↔ G (64 * k + r) ∧ ¬ Rr (64 * k + r)) := fun r hr => by
      rw [← hv, tb_and, Bool.and_eq_true, hG k r (by omega) hr, tb_not _ hr]
      have := h28 k r (by omega) hr
      cases hb : tb (s.2 28 k) r with
      | false =>
        rw [hb] at this
        simp
        intro _ q
        have := this.mpr (Or.inl q)
        cases this
      | true =>
        rw [hb] at this
        simp
        intro _
        rcases this.mp rfl with q | q
        · exact q
        · omega
    generalize hs1 : gl s 29 k v = s1
    have r1 : s1.2 28 = s.2 28 := by rw [← hs1, rd_gl, if_neg (by decide)]
    have r2 : s1.2 29 k = v := by rw [← hs1, rd_gl, if_pos rfl, updL_rd, if_pos rfl]
    generalize hs2 : gl s1 28 k (s1.2 28 k ||| s1.2 29 k) = s2
    have t1 : s2.1 = s.1 := by rw [← hs2, rd_gl1, ← hs1, rd_gl1]
    have t29 : s2.2 29 k = v := by rw [← hs2, rd_gl, if_neg (by decide)]; exact r2
    have t2 : ∀ p, p ∉ [28, 29] → s2.2 p = s.2 p := fun p hp => by
      rw [← hs2, rd_gl, if_neg (fun zz => hp (by rw [zz]; decide)), ← hs1, rd_gl, if_neg (fun zz => hp (by rw [zz]; decide))]
    rw [show m + 1 + 1 + f = (m + 1 + f) + 1 by omega, lX5_spread_83, if_neg (by rw [li_6, leI (by omega) (by omega)]; omega), ixT (by omega) (by omega)]
    simp only [mv_let, if_true]
    rw [clI (by omega), hv, hs1, hs2, t29, e1]
    obtain ⟨s', acc', c1, c2, c3, c4, c5, c6⟩ := ih (k + 1) f (acc ||| v) s2 (by omega) (hG.of (t2 30 (by decide))) (fun k' r x1 x2 => by
      by_cases y : k' = k
      · rw [y, t29]; exact hvb r x2
      · rw [← hs2, rd_gl, if_neg (by decide), ← hs1, rd_gl, if_pos rfl, updL_rd, if_neg y]
        exact h29 k' r (by omega) x2) (by
      intro k' r x1 x2
      rw [← hs2, rd_gl, if_pos rfl, updL_rd, r1, r2]
      by_cases y : k' = k
      · rw [if_pos y, tb_or, Bool.or_eq_true, ← y, h28 k' r x1 x2, y, hvb r x2]
        constructor
        · rintro ((g | g) | g)
          · exact Or.inl g
          · omega
          · exact Or.inr ⟨by omega, g.1⟩
        · rintro (g | g)
          · exact Or.inl (Or.inl g)
          · by_cases q : Rr (64 * k + r)
            · exact Or.inl (Or.inl q)
            · exact Or.inr ⟨g.2, q⟩
      · rw [if_neg y, h28 k' r x1 x2]
        constructor
        · rintro (g | g)
          · exact Or.inl g
          · exact Or.inr ⟨by omega, g.2⟩
        · rintro (g | g)
          · exact Or.inl g
          · exact Or.inr ⟨by omega, g.2⟩) (fun r hr => by
      rw [tb_or, Bool.or_eq_true, ha r hr, hvb r hr]
      constructor
      · rintro (⟨k', g1, g2⟩ | g)
        · exact ⟨k', by omega, g2⟩
        · exact ⟨k, by omega, g⟩
      · rintro ⟨k', g1, g2⟩
        by_cases y : k' = k
        · exact Or.inr (by rw [← y]; exact g2)
        · exact Or.inl ⟨k', by omega, g2⟩)
    exact ⟨s', acc', c1, c2, c3, c4, c5.trans t1, fun p hp => (c6 p hp).trans (t2 p hp)⟩
theorem sx_spread {s : mx_G} {E : Nat → Nat → Prop} {Λ S Rr : Nat → Prop} (hS326 : ∀ z, S z → z < 326) (hE : LE s 26 E) (hΛ : Hs s 27 Λ) (hS : Hs s 29 S) (hR : Hs s 28 Rr) : ∃ s' r, fX5_spread s = some (r, s') ∧ Hs s' 29 (fun x => CM E Λ S x ∧ ¬ Rr x) ∧ Hs s' 28 (fun x => Rr x ∨ CM E Λ S x) ∧ s'.1 = s.1 ∧ (∀ p, p ∉ [28, 29, 30] → s'.2 p = s.2 p) ∧ ((r = 1 ∧ ∃ x, x < 384 ∧ CM E Λ S x ∧ ¬ Rr x) ∨ (r = 0 ∧ ∀ x, x < 384 → ¬ (CM E Λ S x ∧ ¬ Rr x))) := by
  have e0 := sx_fillL_4 s
  generalize hs0 : gt s 30 (fun t => if t < 6 then 0 else s.2 30 t) = s0 at e0
  have q1 : s0.1 = s.1 := by rw [← hs0]; exact rd_gt1 _ _ _
  have q2 : ∀ p, p ≠ 30 → s0.2 p = s.2 p := fun p hp => by rw [← hs0, rd_gt, if_neg hp]
  have hG : Hs s0 30 (CM E Λ (fun z => z < 64 * 0 ∧ S z)) := by
    intro k r x1 x2
    rw [← hs0, rd_gt, if_pos rfl, if_pos x1, tb_0]
    constructor
    · intro z; cases z
    · rintro ⟨z, g, -⟩; omega
  obtain ⟨f, hf⟩ := FU_lt (n := 6) (by omega)
  obtain ⟨K, hK⟩ : ∃ K : Int64 → mx_G → Option (Int32 × mx_G), K = (fun y15 s14 => if lg_cmp y15 0 = 0 then some (0, s14) else some (1, s14)) := ⟨_, rfl⟩
  obtain ⟨s1, a1, a2, a3, a4⟩ := sx_spread10 (S := S) (fun z _ h => hS326 z h) (fun s10 => lX5_spread_83 K FU 0 0 s10) 6 0 f s0 (by omega) (hE.of (q2 26 (by decide))) (hΛ.of (q2 27 (by decide))) (hS.of (q2 29 (by decide))) hG
  rw [← hf] at a1
  have a2 : Hs s1 30 (CM E Λ S) := a2.congr (fun x _ => by
    constructor
    · rintro ⟨z, g1, g2⟩; exact ⟨z, g1.2, g2⟩
    · rintro ⟨z, g1, g2⟩; exact ⟨z, ⟨by have := hS326 z g1; omega, g1⟩, g2⟩)
  obtain ⟨s2, acc, b1, b2, b3, b4, b5, b6⟩ := sx_spread83 (Rr := Rr) K 6 0 f 0 s1 (by omega) a2 (fun k' r x => absurd x (by omega)) (((hR.of (q2 28 (by decide))).of (a4 28 (by decide))).congr (fun x _ => by
    constructor
    · intro z; exact Or.inl z
    · rintro (z | z)
      · exact z
      · omega)) (fun r hr => by
    rw [tb_0]
    constructor
    · intro z; cases z
    · rintro ⟨k', g, -⟩; omega)
  rw [← hf] at b1
  have ee : fX5_spread s = K acc s2 := by
    unfold fX5_spread
    rw [e0, bd_some, ← hK]
    exact Eq.trans a1 b1
  have fr : ∀ p, p ∉ [28, 29, 30] → s2.2 p = s.2 p := fun p hp => by
    rw [b6 p (fun z => hp (by revert z; simp; omega)), a4 p (fun z => hp (by rw [z]; decide)), q2 p (fun z => hp (by rw [z]; decide))]
  by_cases z : acc = 0
  · refine ⟨s2, 0, ?_, b2, b3, b5.trans (a3.trans q1), fr, Or.inr ⟨rfl, fun x hx hq => ?_⟩⟩
    · rw [ee, hK]
      show (if lg_cmp acc 0 = 0 then _ else _) = _
      rw [if_pos (by rw [cmp_eq]; exact z)]
    · have := (b4 (x % 64) (by omega)).mpr ⟨x / 64, by omega, by rw [show 64 * (x / 64) + x % 64 = x by omega]; exact hq⟩
      rw [z, tb_0] at this
      cases this
  · refine ⟨s2, 1, ?_, b2, b3, b5.trans (a3.trans q1), fr, Or.inl ⟨rfl, ?_⟩⟩
    · rw [ee, hK]
      show (if lg_cmp acc 0 = 0 then _ else _) = _
      rw [if_neg (by rw [cmp_eq]; exact z)]
    · obtain ⟨r, hr, h1, -, -⟩ := tb_low z
      obtain ⟨k', g1, g2⟩ := (b4 r hr).mp h1
      exact ⟨64 * k' + r, by omega, g2⟩
