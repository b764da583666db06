/-! PURE PART: fail: the same odds -/
def cds : List Nat → List Nat
  | d :: e :: r => pr2 d e :: cds (e :: r)
  | _ => []
theorem lkm_bit : ∀ (l : List Nat) (i : Nat), (lkm l).testBit i = true ↔ i ∈ cds l := by
  intro l
  induction l with
  | nil => intro i; show (0 : Nat).testBit i = true ↔ i ∈ ([] : List Nat); simp
  | cons d r ih =>
    intro i
    cases r with
    | nil => show (0 : Nat).testBit i = true ↔ i ∈ ([] : List Nat); simp
    | cons e r =>
      show (lkm (e :: r) ||| 2 ^ pr2 d e).testBit i = true ↔ i ∈ pr2 d e :: cds (e :: r)
      rw [Nat.testBit_or, Bool.or_eq_true, Nat.testBit_two_pow, List.mem_cons, ih i, decide_eq_true_iff]
      constructor
      · rintro (h | h)
        · exact Or.inr h
        · exact Or.inl h.symm
      · rintro (h | h)
        · exact Or.inr h.symm
        · exact Or.inl h
theorem mkr_bit (c : Nat → Int32) : ∀ (l : List Nat) (i : Nat), (mkr c l).testBit i = true ↔ ∃ p ∈ cds l, ixp c p = i := by
  intro l
  induction l with
  | nil => intro i; show (0 : Nat).testBit i = true ↔ ∃ p ∈ ([] : List Nat), ixp c p = i; simp
  | cons d r ih =>
    intro i
    cases r with
    | nil => show (0 : Nat).testBit i = true ↔ ∃ p ∈ ([] : List Nat), ixp c p = i; simp
    | cons e r =>
      show (mkr c (e :: r) ||| 2 ^ ixp c (pr2 d e)).testBit i = true ↔ ∃ p ∈ pr2 d e :: cds (e :: r), ixp c p = i
      rw [Nat.testBit_or, Bool.or_eq_true, Nat.testBit_two_pow, ih i, decide_eq_true_iff]
      constructor
      · rintro (⟨p, h1, h2⟩ | h)
        · exact ⟨p, List.mem_cons_of_mem _ h1, h2⟩
        · exact ⟨_, List.mem_cons_self, h⟩
      · rintro ⟨p, h1, h2⟩
        rcases List.mem_cons.mp h1 with h | h
        · rw [h] at h2; exact Or.inr h2
        · exact Or.inl ⟨p, h, h2⟩
theorem cds_lk {c : Nat → Int32} (ho : WOK c) {n : Nat} (hn : 0 < n) (h6 : n ≤ 6) : ∀ {l : List Nat}, Way n l → adj c l → ∀ p ∈ cds l, p < 15 ∧ lkc c p = true := by
  intro l
  induction l with
  | nil => intro h; exact h.elim
  | cons d r ih =>
    intro h ha p hp
    cases r with
    | nil => exact absurd hp (by show ¬ p ∈ ([] : List Nat); simp)
    | cons e r =>
      have he : e < n := h.2.2.2.lt hn e List.mem_cons_self
      have hne : d ≠ e := fun z => h.2.2.1 (by rw [z]; exact List.mem_cons_self)
      have hd6 : d < 6 := by have := h.2.1; omega
      have he6 : e < 6 := by omega
      rcases List.mem_cons.mp (show p ∈ pr2 d e :: cds (e :: r) from hp) with q | q
      · rw [q]
        exact ⟨(pr2_lt d hd6 e he6).2 hne, by rw [lkc_pr2 ho hd6 he6 hne]; exact ha.1⟩
      · exact ih h.2.2.2 ha.2 p q
theorem ixp_mono (c : Nat → Int32) (p : Nat) : ∀ m, ixp c p ≤ ixp c (p + m) := by
  intro m
  induction m with
  | zero => exact Nat.le_refl _
  | succ m ih =>
    have := ixp_succ c (p + m)
    rw [← Nat.add_assoc]
    split at this <;> omega
theorem ixp_inj {c : Nat → Int32} {p r : Nat} (hp : lkc c p = true) (hr : lkc c r = true) (h : ixp c p = ixp c r) : p = r := by
  have aux : ∀ {p r : Nat}, lkc c p = true → p < r → ixp c p < ixp c r := by
    intro p r hp hlt
    have h1 := ixp_succ c p
    rw [if_pos hp] at h1
    have h2 := ixp_mono c (p + 1) (r - (p + 1))
    rw [show p + 1 + (r - (p + 1)) = r by omega] at h2
    omega
  rcases Nat.lt_trichotomy p r with z | z | z
  · have := aux hp z; omega
  · exact z
  · have := aux hr z; omega
theorem Vp_ren {c : Nat → Int32} {F : List (List Nat)} (hF : ∀ l ∈ F, ∀ p ∈ cds l, p < 15 ∧ lkc c p = true) (q : Nat) : ∀ (R : List Nat) (H H' : Nat), (∀ p ∈ R, lkc c p = true) → (∀ p, lkc c p = true → H.testBit p = H'.testBit (ixp c p)) → Vp (F.map lkm) q R H = Vp (F.map (mkr c)) q (R.map (ixp c)) H' := by
  intro R
  induction R with
  | nil =>
    intro H H' _ hH
    have : okB (F.map lkm) H = okB (F.map (mkr c)) H' := by
      rw [Bool.eq_iff_iff, okB_iff, okB_iff]
      constructor
      · rintro ⟨w, a1, a2⟩
        obtain ⟨l, b1, rfl⟩ := List.mem_map.mp a1
        refine ⟨mkr c l, List.mem_map.mpr ⟨l, b1, rfl⟩, fun i hi => ?_⟩
        obtain ⟨p, p1, p2⟩ := (mkr_bit c l i).mp hi
        rw [← p2, ← hH p (hF l b1 p p1).2]
        exact a2 p ((lkm_bit l p).mpr p1)
      · rintro ⟨w, a1, a2⟩
        obtain ⟨l, b1, rfl⟩ := List.mem_map.mp a1
        refine ⟨lkm l, List.mem_map.mpr ⟨l, b1, rfl⟩, fun i hi => ?_⟩
        have p1 := (lkm_bit l i).mp hi
        rw [hH i (hF l b1 i p1).2]
        exact a2 _ ((mkr_bit c l _).mpr ⟨i, p1, rfl⟩)
    rw [Vp, List.map_nil, Vp, this]
  | cons b R ih =>
    intro H H' hR hH
    have hb := hR b List.mem_cons_self
    have hR' : ∀ p ∈ R, lkc c p = true := fun p hp => hR p (List.mem_cons_of_mem _ hp)
    rw [List.map_cons, Vp, Vp, ih H H' hR' hH, ih (H ||| 2 ^ b) (H' ||| 2 ^ ixp c b) hR' (fun p hp => ?_)]
    rw [Nat.testBit_or, Nat.testBit_or, hH p hp, Nat.testBit_two_pow, Nat.testBit_two_pow]
    congr 1
    apply decide_eq_decide.mpr
    exact ⟨fun z => by rw [z], fun z => ixp_inj hb hp z⟩
theorem ixp_map (c : Nat → Int32) : ∀ P : Nat, ((List.range P).filter (lkc c)).map (ixp c) = List.range (ixp c P) := by
  intro P
  induction P with
  | zero => rfl
  | succ P ih =>
    rw [ixp_succ, List.range_succ, List.filter_append, List.map_append, ih]
    by_cases z : lkc c P = true
    · rw [if_pos z, List.range_succ]; simp [z]
    · rw [if_neg z]; simp [z]
theorem dwn_perm : ∀ j : Nat, (dwn j).Perm (List.range j) := by
  intro j
  induction j with
  | zero => exact List.Perm.refl _
  | succ j ih =>
    rw [dwn, List.range_succ]
    exact (ih.cons j).trans (List.perm_append_singleton j _).symm
theorem Vp_irrs {Ws : List Nat} {q : Nat} (hq : q ≤ 10) (R : List Nat) (H : Nat) : ∀ I : List Nat, (∀ b ∈ I, ∀ w ∈ Ws, w.testBit b = false) → Vp Ws q (I ++ R) H = 10 ^ I.length * Vp Ws q R H := by
  intro I
  induction I with
  | nil => intro _; rw [List.nil_append, List.length_nil, Nat.pow_zero, Nat.one_mul]
  | cons b I ih =>
    intro h
    rw [List.cons_append, Vp_irr hq (h b List.mem_cons_self), ih (fun x hx => h x (List.mem_cons_of_mem _ hx)), List.length_cons, Nat.pow_succ, Nat.mul_comm (10 ^ I.length) 10, Nat.mul_assoc]
theorem Vp_same {c : Nat → Int32} {L : List (List Nat)} (hL : ∀ l ∈ L, ∀ p ∈ cds l, p < 15 ∧ lkc c p = true) {q : Nat} (hq : q ≤ 10) (d : Nat) : Vp (Wd L d) q (List.range 15) 0 = 10 ^ (15 - ixp c 15) * Vp (Md c L d) q (dwn (ixp c 15)) 0 := by
  have hF : ∀ l ∈ L.filter (fun l => hd0 l == d), ∀ p ∈ cds l, p < 15 ∧ lkc c p = true := fun l hl => hL l (List.mem_filter.mp hl).1
  have pm := List.filter_append_perm (lkc c) (List.range 15)
  have pm2 := (List.perm_append_comm.trans pm).symm
  have hlen := pm.length_eq
  rw [List.length_append, List.length_range] at hlen
  have hl2 : ((List.range 15).filter (fun x => !lkc c x)).length = 15 - ixp c 15 := by
    have : ((List.range 15).filter (lkc c)).length = ixp c 15 := rfl
    omega
  rw [Vp_perm pm2, Vp_irrs hq _ _ _ (fun b hb w hw => ?_), hl2, Vp_perm (dwn_perm _), ← ixp_map]
  · congr 1
    exact Vp_ren hF q _ 0 0 (fun p hp => (List.mem_filter.mp hp).2) (fun p _ => by rw [Nat.zero_testBit, Nat.zero_testBit])
  · unfold Wd at hw
    obtain ⟨l, a1, rfl⟩ := List.mem_map.mp hw
    cases hq2 : (lkm l).testBit b with
    | false => rfl
    | true =>
      have := (hF l a1 b ((lkm_bit l b).mp hq2)).2
      have h2 := (List.mem_filter.mp hb).2
      rw [this] at h2
      cases h2
