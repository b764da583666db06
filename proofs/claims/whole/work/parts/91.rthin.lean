/-! PURE PART: the class's rings: what is in no ring is taken out -/
theorem sx_hasC {x : Int64} {r : Nat} (hr : r < 64) (b : Bool) (h : tb x r = b) : (lg_cmp (mv_lushr x (nI r) &&& 1) 0 = 0) = (b = false) := by
  rw [cmp_eq, ← h]
  exact propext (tb_ushr x hr)
theorem sx_has {s : mx_G} {S : Nat → Prop} (hS : Hs s 27 S) {w : Nat} (hw : w < 384) : (S w → fX5_has (nI w) s = some (1, s)) ∧ (¬ S w → fX5_has (nI w) s = some (0, s)) := by
  have e1 : nI w / 64 = nI (w / 64) := by rw [li_64, dvI (by omega) (by omega) (by omega)]
  have e2 : mv_rem (nI w) 64 = nI (w % 64) := by rw [li_64, rmI (by omega) (by omega) (by omega)]
  have hb := hS (w / 64) (w % 64) (by omega) (by omega)
  rw [show 64 * (w / 64) + w % 64 = w by omega] at hb
  unfold fX5_has
  rw [e1, e2, ixT (by omega) (by omega), if_pos rfl, clI (by omega)]
  constructor
  · intro z
    rw [if_neg]
    rw [sx_hasC (by omega) true (hb.mpr z)]
    decide
  · intro z
    have : tb (s.2 27 (w / 64)) (w % 64) = false := by
      cases h : tb (s.2 27 (w / 64)) (w % 64) with
      | false => rfl
      | true => exact absurd (hb.mp h) z
    rw [if_pos]
    rw [sx_hasC (by omega) false this]
theorem sx_has_1 {s : mx_G} {S : Nat → Prop} (hS : Hs s 29 S) {w : Nat} (hw : w < 384) : (S w → fX5_has_1 (nI w) s = some (1, s)) ∧ (¬ S w → fX5_has_1 (nI w) s = some (0, s)) := by
  have e1 : nI w / 64 = nI (w / 64) := by rw [li_64, dvI (by omega) (by omega) (by omega)]
  have e2 : mv_rem (nI w) 64 = nI (w % 64) := by rw [li_64, rmI (by omega) (by omega) (by omega)]
  have hb := hS (w / 64) (w % 64) (by omega) (by omega)
  rw [show 64 * (w / 64) + w % 64 = w by omega] at hb
  unfold fX5_has_1
  rw [e1, e2, ixT (by omega) (by omega), if_pos rfl, clI (by omega)]
  constructor
  · intro z
    rw [if_neg]
    rw [sx_hasC (by omega) true (hb.mpr z)]
    decide
  · intro z
    have : tb (s.2 29 (w / 64)) (w % 64) = false := by
      cases h : tb (s.2 29 (w / 64)) (w % 64) with
      | false => rfl
      | true => exact absurd (hb.mp h) z
    rw [if_pos]
    rw [sx_hasC (by omega) false this]
theorem Hs.congr {s : mx_G} {p : Nat} {S S' : Nat → Prop} (h : Hs s p S) (he : ∀ x, x < 384 → (S x ↔ S' x)) : Hs s p S' := fun k r hk hr => (h k r hk hr).trans (he _ (by omega))
theorem Hs.of {s s' : mx_G} {p : Nat} {S : Nat → Prop} (h : Hs s p S) (he : s'.2 p = s.2 p) : Hs s' p S := fun k r hk hr => by rw [he]; exact h k r hk hr
theorem LE.of {s s' : mx_G} {p : Nat} {E : Nat → Nat → Prop} (h : LE s p E) (he : s'.2 p = s.2 p) : LE s' p E := fun i k r hi hk hr => by rw [he]; exact h i k r hi hk hr
theorem sx_join_l {E : Nat → Nat → Prop} {Λ G : Nat → Prop} {w : Nat} (hw : w < 326) (K : Int64 → mx_G → Option (Int32 × mx_G)) : ∀ (m k f : Nat) (acc : Int64) (s : mx_G), k + m = 6 → LE s 26 E → Hs s 27 Λ → Hs s 30 (fun x => G x ∨ (x < 64 * k ∧ E w x ∧ Λ x)) → (∀ r, r < 64 → (tb acc r = true ↔ ∃ k', k' < k ∧ E w (64 * k' + r) ∧ Λ (64 * k' + r))) → ∃ s' acc', lX5_join_18 (nI w) K (m + 1 + f) acc (nI k) s = K acc' s' ∧ Hs s' 30 (fun x => G x ∨ (E w x ∧ Λ x)) ∧ s'.1 = s.1 ∧ (∀ p, p ≠ 30 → s'.2 p = s.2 p) ∧ ∀ r, r < 64 → (tb acc' r = true ↔ ∃ k', k' < 6 ∧ E w (64 * k' + r) ∧ Λ (64 * k' + r)) := by
  intro m
  induction m with
  | zero =>
    intro k f acc s h hE hΛ hG ha
    have : k = 6 := by omega
    subst this
    refine ⟨s, acc, ?_, hG.congr (fun x hx => ?_), rfl, fun _ _ => rfl, ha⟩
    · rw [show 0 + 1 + f = f + 1 by omega, lX5_join_18, if_pos (by decide)]
    · constructor
      · rintro (z | z)
        · exact Or.inl z
        · exact Or.inr z.2
      · rintro (z | z)
        · exact Or.inl z
        · exact Or.inr ⟨by omega, z⟩
  | succ m ih =>
    intro k f acc s h hE hΛ hG ha
    have e1 : nI k + 1 = nI (k + 1) := by rw [li_1, adI]
    have hto : ∀ r, r < 64 → (tb (s.2 26 (w * 6 + k) &&& s.2 27 k) r = true ↔ E w (64 * k + r) ∧ Λ (64 * k + r)) := fun r hr => by
      rw [tb_and, Bool.and_eq_true, hE w k r hw (by omega) hr, hΛ k r (by omega) hr]
    generalize hx : s.2 26 (w * 6 + k) &&& s.2 27 k = to at hto
    generalize hs1 : gl s 30 k (s.2 30 k ||| to) = s1
    have q1 : s1.1 = s.1 := by rw [← hs1]; exact rd_gl1 _ _ _ _
    have q2 : ∀ p, p ≠ 30 → s1.2 p = s.2 p := fun p hp => by rw [← hs1, rd_gl, if_neg hp]
    rw [show m + 1 + 1 + f = (m + 1 + f) + 1 by omega, lX5_join_18, if_neg (by rw [li_6, leI (by omega) (by omega)]; omega), li_6, muI, adI, ixT (by omega) (by omega), if_pos rfl, ixT (by omega) (by omega), if_pos rfl, clI (by omega), clI (by omega)]
    simp only [mv_let, if_true]
    rw [hx, hs1, e1]
    obtain ⟨s', acc', a1, a2, a3, a4, a5⟩ := ih (k + 1) f (acc ||| to) s1 (by omega) (hE.of (q2 26 (by decide))) (hΛ.of (q2 27 (by decide))) (by
      intro k' r x1 x2
      rw [← hs1, rd_gl, if_pos rfl, updL_rd]
      by_cases z : k' = k
      · rw [if_pos z, tb_or, Bool.or_eq_true, ← z, hG k' r x1 x2, z, hto r x2]
        constructor
        · rintro ((g | g) | g)
          · exact Or.inl g
          · omega
          · exact Or.inr ⟨by omega, g⟩
        · rintro (g | g)
          · exact Or.inl (Or.inl g)
          · exact Or.inr g.2
      · rw [if_neg z, hG k' r x1 x2]
        constructor
        · rintro (g | g)
          · exact Or.inl g
          · exact Or.inr ⟨by omega, g.2⟩
        · rintro (g | g)
          · exact Or.inl g
          · exact Or.inr ⟨by omega, g.2⟩) (fun r hr => by
      rw [tb_or, Bool.or_eq_true, ha r hr, hto r hr]
      constructor
      · rintro (⟨k', g1, g2⟩ | g)
        · exact ⟨k', by omega, g2⟩
        · exact ⟨k, by omega, g⟩
      · rintro ⟨k', g1, g2⟩
        by_cases z : k' = k
        · exact Or.inr (by rw [← z]; exact g2)
        · exact Or.inl ⟨k', by omega, g2⟩)
    exact ⟨s', acc', a1, a2, a3.trans q1, fun p hp => (a4 p hp).trans (q2 p hp), a5⟩
theorem sx_join {s : mx_G} {E : Nat → Nat → Prop} {Λ G : Nat → Prop} (hE : LE s 26 E) (hΛ : Hs s 27 Λ) (hG : Hs s 30 G) {w : Nat} (hw : w < 326) : ∃ s' r, fX5_join (nI w) s = some (r, s') ∧ Hs s' 30 (fun x => G x ∨ (E w x ∧ Λ x)) ∧ s'.1 = s.1 ∧ (∀ p, p ≠ 30 → s'.2 p = s.2 p) ∧ ((r = 1 ∧ ∃ x, x < 384 ∧ E w x ∧ Λ x) ∨ (r = 0 ∧ ∀ x, x < 384 → ¬ (E w x ∧ Λ x))) := by
  obtain ⟨f, hf⟩ := FU_lt (n := 6) (by omega)
  obtain ⟨s', acc, a1, a2, a3, a4, a5⟩ := sx_join_l (G := G) hw (fun y5 s4 => if lg_cmp y5 0 = 0 then some (0, s4) else some (1, s4)) 6 0 f 0 s (by omega) hE hΛ (hG.congr (fun x _ => by
    constructor
    · intro z; exact Or.inl z
    · rintro (z | z)
      · exact z
      · omega)) (fun r hr => by
    rw [tb_0]
    constructor
    · intro z; cases z
    · rintro ⟨k', g, -⟩; omega)
  rw [← hf] at a1
  have hz0 : ¬ (nI w < 0) := by rw [li_0, ltI (by omega) (by omega)]; omega
  have hz1 : nI w < 326 := by rw [show (326 : Int32) = nI 326 from rfl, ltI (by omega) (by omega)]; exact hw
  by_cases z : acc = 0
  · refine ⟨s', 0, ?_, a2, a3, a4, Or.inr ⟨rfl, fun x hx hq => ?_⟩⟩
    · unfold fX5_join
      rw [if_neg hz0, if_pos hz1]
      refine Eq.trans a1 ?_
      rw [if_pos (by rw [cmp_eq]; exact z)]
    · have := (a5 (x % 64) (by omega)).mpr ⟨x / 64, by omega, by rw [show 64 * (x / 64) + x % 64 = x by omega]; exact hq⟩
      rw [z, tb_0] at this
      cases this
  · refine ⟨s', 1, ?_, a2, a3, a4, Or.inl ⟨rfl, ?_⟩⟩
    · unfold fX5_join
      rw [if_neg hz0, if_pos hz1]
      refine Eq.trans a1 ?_
      rw [if_neg (by rw [cmp_eq]; exact z)]
    · obtain ⟨r, hr, h1, -, -⟩ := tb_low z
      obtain ⟨k', g1, g2⟩ := (a5 r hr).mp h1
      exact ⟨64 * k' + r, by omega, g2⟩
theorem sx_thin12 {E : Nat → Nat → Prop} (hEb : ∀ a b, E a b → a < 326 ∧ b < 326) (K : Int32 → mx_G → Option (Int32 × mx_G)) : ∀ (m w f : Nat) (a : Int32) (s : mx_G) (Λ G : Nat → Prop), w + m = 326 → (a = 0 ∨ a = 1) → LE s 26 E → Hs s 27 Λ → Hs s 30 G → (∀ x, Cy E x → Λ x) → (∀ u, u < w → Cy E u → ∀ x, Cy E x → E u x → G x) → ∃ s' a' Λ' G', lX5_thinOut_12 K (m + 1 + f) a (nI w) s = K a' s' ∧ (a' = 0 ∨ a' = 1) ∧ Hs s' 27 Λ' ∧ Hs s' 30 G' ∧ (∀ x, Cy E x → Λ' x ∧ G' x) ∧ (∀ x, Λ' x → Λ x) ∧ s'.1 = s.1 ∧ ∀ p, p ∉ [27, 30] → s'.2 p = s.2 p := by
  intro m
  induction m with
  | zero =>
    intro w f a s Λ G h ha hE hΛ hG hC hP
    refine ⟨s, a, Λ, G, ?_, ha, hΛ, hG, fun x hx => ⟨hC x hx, ?_⟩, fun _ z => z, rfl, fun _ _ => rfl⟩
    · rw [show 0 + 1 + f = f + 1 by omega, lX5_thinOut_12, if_pos (by rw [show (326 : Int32) = nI 326 from rfl, leI (by omega) (by omega)]; omega)]
    · obtain ⟨y, h1, h2⟩ := hx.pred
      exact hP y (by have := (hEb y x h1).1; omega) h2 x hx h1
  | succ m ih =>
    intro w f a s Λ G h ha hE hΛ hG hC hP
    have e1 : nI w + 1 = nI (w + 1) := by rw [li_1, adI]
    have hh := sx_has hΛ (w := w) (by omega)
    rw [show m + 1 + 1 + f = (m + 1 + f) + 1 by omega, lX5_thinOut_12, if_neg (by rw [show (326 : Int32) = nI 326 from rfl, leI (by omega) (by omega)]; omega), e1]
    by_cases z : Λ w
    · rw [hh.1 z, bd_some, if_neg one_ne]
      obtain ⟨s1, r, b1, b2, b3, b4, b5⟩ := sx_join hE hΛ hG (w := w) (by omega)
      rw [b1, bd_some]
      rcases b5 with ⟨rfl, hx⟩ | ⟨rfl, hx⟩
      · rw [if_neg one_ne]
        obtain ⟨s', a', Λ', G', c1, c2, c3, c4, c5, c6, c7, c8⟩ := ih (w + 1) f a s1 Λ (fun x => G x ∨ (E w x ∧ Λ x)) (by omega) ha (hE.of (b4 26 (by decide))) (hΛ.of (b4 27 (by decide))) b2 hC (fun u hu hCu x hCx hEx => by
          by_cases y : u = w
          · rw [y] at hEx
            exact Or.inr ⟨hEx, hC x hCx⟩
          · exact Or.inl (hP u (by omega) hCu x hCx hEx))
        exact ⟨s', a', Λ', G', c1, c2, c3, c4, c5, c6, c7.trans b3, fun p hp => (c8 p hp).trans (b4 p (fun zz => hp (by rw [zz]; decide)))⟩
      · have hnC : ¬ Cy E w := by
          intro hCw
          obtain ⟨y, h1, h2⟩ := hCw.succ
          exact hx y (by have := (hEb w y h1).2; omega) ⟨h1, hC y h2⟩
        have e3 : nI w / 64 = nI (w / 64) := by rw [li_64, dvI (by omega) (by omega) (by omega)]
        have e4 : mv_rem (nI w) 64 = nI (w % 64) := by rw [li_64, rmI (by omega) (by omega) (by omega)]
        rw [if_pos rfl, e3, ixT (by omega) (by omega), if_pos rfl, if_pos rfl, clI (by omega), e4, mv_let]
        generalize hs2 : gl s1 27 (w / 64) (s1.2 27 (w / 64) &&& (mv_lshl 1 (nI (w % 64)) ^^^ (-1))) = s2
        have q1 : s2.1 = s1.1 := by rw [← hs2]; exact rd_gl1 _ _ _ _
        have q2 : ∀ p, p ≠ 27 → s2.2 p = s1.2 p := fun p hp => by rw [← hs2, rd_gl, if_neg hp]
        obtain ⟨s', a', Λ', G', c1, c2, c3, c4, c5, c6, c7, c8⟩ := ih (w + 1) f 1 s2 (fun x => Λ x ∧ x ≠ w) (fun x => G x ∨ (E w x ∧ Λ x)) (by omega) (Or.inr rfl) ((hE.of (b4 26 (by decide))).of (q2 26 (by decide))) (by
          intro k r x1 x2
          rw [← hs2, rd_gl, if_pos rfl, updL_rd]
          have hk := (hΛ.of (b4 27 (by decide))) k r x1 x2
          by_cases y : k = w / 64
          · rw [if_pos y, ← y, tb_and, Bool.and_eq_true, hk, tb_not _ x2, tb_bit (w % 64) (by omega) r x2]
            simp
            intro _
            omega
          · rw [if_neg y, hk]
            constructor
            · intro g; exact ⟨g, by omega⟩
            · intro g; exact g.1) (b2.of (q2 30 (by decide))) (fun x hx => ⟨hC x hx, fun y => hnC (y ▸ hx)⟩) (fun u hu hCu x hCx hEx => by
          by_cases y : u = w
          · exact absurd (y ▸ hCu) hnC
          · exact Or.inl (hP u (by omega) hCu x hCx hEx))
        refine ⟨s', a', Λ', G', c1, c2, c3, c4, c5, fun x hx => (c6 x hx).1, c7.trans (q1.trans b3), fun p hp => ?_⟩
        have h1 : p ≠ 27 := fun zz => hp (by rw [zz]; decide)
        have h2 : p ≠ 30 := fun zz => hp (by rw [zz]; decide)
        rw [c8 p hp, q2 p h1, b4 p h2]
    · rw [hh.2 z, bd_some, if_pos rfl]
      refine ih (w + 1) f a s Λ G (by omega) ha hE hΛ hG hC (fun u hu hCu x hCx hEx => ?_)
      by_cases y : u = w
      · exact absurd (hC u hCu) (by rw [y]; exact z)
      · exact hP u (by omega) hCu x hCx hEx
theorem sx_thin70 {Λ G : Nat → Prop} : ∀ (m k f : Nat) (a : Int32) (s : mx_G), k + m = 6 → (a = 0 ∨ a = 1) → Hs s 30 G → Hs s 27 (fun x => Λ x ∧ (x < 64 * k → G x)) → ∃ s' a', lX5_thinOut_70 (m + 1 + f) a (nI k) s = some (a', s') ∧ (a' = 0 ∨ a' = 1) ∧ Hs s' 27 (fun x => Λ x ∧ G x) ∧ s'.1 = s.1 ∧ ∀ p, p ≠ 27 → s'.2 p = s.2 p := by
  intro m
  induction m with
  | zero =>
    intro k f a s h ha hG hΛ
    refine ⟨s, a, ?_, ha, hΛ.congr (fun x hx => ?_), rfl, fun _ _ => rfl⟩
    · rw [show 0 + 1 + f = f + 1 by omega, lX5_thinOut_70, if_pos (by rw [li_6, leI (by omega) (by omega)]; omega)]
      rcases ha with rfl | rfl
      · rw [if_pos (by decide)]
      · rw [if_pos (by decide)]
    · constructor
      · intro z; exact ⟨z.1, z.2 (by omega)⟩
      · intro z; exact ⟨z.1, fun _ => z.2⟩
  | succ m ih =>
    intro k f a s h ha hG hΛ
    have e1 : nI k + 1 = nI (k + 1) := by rw [li_1, adI]
    generalize hs1 : gl s 27 k (s.2 27 k &&& s.2 30 k) = s1
    have q1 : s1.1 = s.1 := by rw [← hs1]; exact rd_gl1 _ _ _ _
    have q2 : ∀ p, p ≠ 27 → s1.2 p = s.2 p := fun p hp => by rw [← hs1, rd_gl, if_neg hp]
    have hΛ1 : Hs s1 27 (fun x => Λ x ∧ (x < 64 * (k + 1) → G x)) := by
      intro k' r x1 x2
      rw [← hs1, rd_gl, if_pos rfl, updL_rd]
      by_cases y : k' = k
      · rw [if_pos y, ← y, tb_and, Bool.and_eq_true, hΛ k' r x1 x2, hG k' r x1 x2]
        constructor
        · rintro ⟨⟨g1, g2⟩, g3⟩; exact ⟨g1, fun _ => g3⟩
        · rintro ⟨g1, g2⟩; exact ⟨⟨g1, fun _ => g2 (by omega)⟩, g2 (by omega)⟩
      · rw [if_neg y, hΛ k' r x1 x2]
        constructor
        · rintro ⟨g1, g2⟩; exact ⟨g1, fun q => g2 (by omega)⟩
        · rintro ⟨g1, g2⟩; exact ⟨g1, fun q => g2 (by omega)⟩
    have go : ∀ b : Int32, (b = 0 ∨ b = 1) → ∃ s' a', lX5_thinOut_70 (m + 1 + f) b (nI (k + 1)) s1 = some (a', s') ∧ (a' = 0 ∨ a' = 1) ∧ Hs s' 27 (fun x => Λ x ∧ G x) ∧ s'.1 = s.1 ∧ ∀ p, p ≠ 27 → s'.2 p = s.2 p := by
      intro b hb
      obtain ⟨s', a', c1, c2, c3, c4, c5⟩ := ih (k + 1) f b s1 (by omega) hb (hG.of (q2 30 (by decide))) hΛ1
      exact ⟨s', a', c1, c2, c3, c4.trans q1, fun p hp => (c5 p hp).trans (q2 p hp)⟩
    rw [show m + 1 + 1 + f = (m + 1 + f) + 1 by omega, lX5_thinOut_70, if_neg (by rw [li_6, leI (by omega) (by omega)]; omega)]
    simp only [mv_let]
    rw [ixT (by omega) (by omega), if_pos rfl, if_pos rfl, if_pos rfl, if_pos rfl, if_pos rfl, clI (by omega), hs1, e1]
    by_cases z : a = 0
    · rw [if_pos z]
      split
      · exact go 0 (Or.inl rfl)
      · exact go 1 (Or.inr rfl)
    · rw [if_neg z]
      exact go 1 (Or.inr rfl)
theorem sx_thinOut {s : mx_G} {E : Nat → Nat → Prop} {Λ : Nat → Prop} (hEb : ∀ a b, E a b → a < 326 ∧ b < 326) (hE : LE s 26 E) (hΛ : Hs s 27 Λ) (hC : ∀ x, Cy E x → Λ x) : ∃ s' a' Λ', fX5_thinOut s = some (a', s') ∧ (a' = 0 ∨ a' = 1) ∧ Hs s' 27 Λ' ∧ (∀ x, Cy E x → Λ' x) ∧ (∀ x, Λ' x → Λ x) ∧ s'.1 = s.1 ∧ ∀ p, p ∉ [27, 30] → s'.2 p = s.2 p := by
  have e0 := sx_fillL_4 s
  generalize hs0 : gt s 30 (fun t => if t < 6 then 0 else s.2 30 t) = s0 at e0
  have q1 : s0.1 = s.1 := by rw [← hs0]; exact rd_gt1 _ _ _
  have q2 : ∀ p, p ≠ 30 → s0.2 p = s.2 p := fun p hp => by rw [← hs0, rd_gt, if_neg hp]
  have hG : Hs s0 30 (fun _ => False) := by
    intro k r x1 x2
    rw [← hs0, rd_gt, if_pos rfl, if_pos x1, tb_0]
    constructor
    · intro z; cases z
    · intro z; exact z.elim
  obtain ⟨f, hf⟩ := FU_lt (n := 326) (by omega)
  obtain ⟨f2, hf2⟩ := FU_lt (n := 6) (by omega)
  obtain ⟨s1, a1, Λ1, G1, c1, c2, c3, c4, c5, c6, c7, c8⟩ := sx_thin12 hEb (fun y8 s7 => lX5_thinOut_70 FU y8 0 s7) 326 0 f 0 s0 Λ (fun _ => False) (by omega) (Or.inl rfl) (hE.of (q2 26 (by decide))) (hΛ.of (q2 27 (by decide))) hG hC (fun u hu => absurd hu (by omega))
  rw [← hf] at c1
  obtain ⟨s2, a2, d1, d2, d3, d4, d5⟩ := sx_thin70 (Λ := Λ1) (G := G1) 6 0 f2 a1 s1 (by omega) c2 c4 (c3.congr (fun x _ => by
    constructor
    · intro z; exact ⟨z, fun q => by omega⟩
    · intro z; exact z.1))
  rw [← hf2] at d1
  refine ⟨s2, a2, fun x => Λ1 x ∧ G1 x, ?_, d2, d3, c5, fun x hx => c6 x hx.1, d4.trans (c7.trans q1), fun p hp => ?_⟩
  · unfold fX5_thinOut
    rw [e0, bd_some]
    exact Eq.trans c1 d1
  · have h1 : p ≠ 27 := fun zz => hp (by rw [zz]; decide)
    have h2 : p ≠ 30 := fun zz => hp (by rw [zz]; decide)
    rw [d5 p h1, c8 p hp, q2 p h2]
theorem sx_fr102 {E : Nat → Nat → Prop} (hEb : ∀ a b, E a b → a < 326 ∧ b < 326) : ∀ (m k f : Nat) (a : Int32) (s : mx_G) (Λ : Nat → Prop), k + m = 326 → LE s 26 E → Hs s 27 Λ → (∀ x, Cy E x → Λ x) → ∃ s' Λ', lX5_freshen_102 (m + 1 + f) a (nI k) s = (mv_bind (fX5_measure s') fun _ s16 => some ((), s16)) ∧ LE s' 26 E ∧ Hs s' 27 Λ' ∧ (∀ x, Cy E x → Λ' x) ∧ (∀ x, Λ' x → Λ x) ∧ s'.1 = s.1 ∧ ∀ p, p ∉ [27, 30] → s'.2 p = s.2 p := by
  intro m
  induction m with
  | zero =>
    intro k f a s Λ h hE hΛ hC
    refine ⟨s, Λ, ?_, hE, hΛ, hC, fun _ z => z, rfl, fun _ _ => rfl⟩
    rw [show 0 + 1 + f = f + 1 by omega, lX5_freshen_102, if_pos (by rw [show (326 : Int32) = nI 326 from rfl, leI (by omega) (by omega)]; omega)]
  | succ m ih =>
    intro k f a s Λ h hE hΛ hC
    have e1 : nI k + 1 = nI (k + 1) := by rw [li_1, adI]
    rw [show m + 1 + 1 + f = (m + 1 + f) + 1 by omega, lX5_freshen_102, if_neg (by rw [show (326 : Int32) = nI 326 from rfl, leI (by omega) (by omega)]; omega)]
    by_cases z : a = 0
    · rw [if_pos z]
      exact ⟨s, Λ, rfl, hE, hΛ, hC, fun _ z => z, rfl, fun _ _ => rfl⟩
    · rw [if_neg z]
      obtain ⟨s1, a1, Λ1, b1, b2, b3, b4, b5, b6, b7⟩ := sx_thinOut hEb hE hΛ hC
      rw [b1, bd_some, e1]
      obtain ⟨s', Λ', c1, c2, c3, c4, c5, c6, c7⟩ := ih (k + 1) f a1 s1 Λ1 (by omega) (hE.of (b7 26 (by decide))) b3 b4
      exact ⟨s', Λ', c1, c2, c3, c4, fun x hx => b5 x (c5 x hx), c6.trans b6, fun p hp => (c7 p hp).trans (b7 p hp)⟩
