/-! PURE PART: fail: the class -/
theorem lkm_lt {n : Nat} (hn : 0 < n) (h6 : n ≤ 6) : ∀ {l : List Nat}, Way n l → lkm l < 2 ^ 15 := by
  intro l
  induction l with
  | nil => intro h; exact h.elim
  | cons d r ih =>
    intro h
    cases r with
    | nil => show 0 < 2 ^ 15; decide
    | cons e r =>
      have he : e < n := h.2.2.2.lt hn e List.mem_cons_self
      have hne : d ≠ e := fun z => h.2.2.1 (by rw [z]; exact List.mem_cons_self)
      have hp := (pr2_lt d (by have := h.2.1; omega) e (by omega)).2 hne
      show lkm (e :: r) ||| 2 ^ pr2 d e < 2 ^ 15
      exact Nat.or_lt_two_pow (ih h.2.2.2) (Nat.pow_lt_pow_right (by omega) hp)
/-- links of the ways of d -/
def Wd (L : List (List Nat)) (d : Nat) : List Nat := (L.filter (fun l => hd0 l == d)).map lkm
theorem Wd_mem {c : Nat → Int32} {L : List (List Nat)} {d : Nat} {ρ : Nat → Nat} {s : mx_G} (hr : RD c L d ρ s) {w : Nat} : w ∈ Wd L d ↔ ∃ k l, k < cn d L ∧ L[ρ k]? = some l ∧ w = lkm l := by
  unfold Wd
  rw [List.mem_map]
  constructor
  · rintro ⟨l, h1, rfl⟩
    rw [List.mem_filter] at h1
    obtain ⟨i, hi, e⟩ := List.getElem_of_mem h1.1
    have hl : L[i]? = some l := by rw [List.getElem?_eq_getElem hi, e]
    obtain ⟨k, a, b⟩ := hr.2.2.2 i l hl (by simpa using h1.2)
    exact ⟨k, l, a, by rw [b]; exact hl, rfl⟩
  · rintro ⟨k, l, h1, h2, rfl⟩
    obtain ⟨-, l', a1, a2⟩ := hr.2.1 k h1
    rw [h2] at a1
    injection a1 with a1
    refine ⟨l, ?_, rfl⟩
    rw [List.mem_filter]
    exact ⟨List.mem_of_getElem? h2, by rw [a1]; simpa using a2⟩
theorem sx_doubt {c : Nat → Int32} {n : Nat} (hn : 0 < n) (h6 : n ≤ 6) {L : List (List Nat)} (hL : L.length ≤ 326) (hcn : ∀ d, d < 6 → cn d L ≤ 65) (hway : ∀ l ∈ L, Way n l) {s : mx_G} (hw : WR c L s) {d : Nat} (hd : d < 6) (h fm : Nat) : ∃ x : Int32, fX8_linkInDoubt (nI d) (nI h) (nI fm) s = some (x, s) ∧ ((x = 0 ∧ ∃ w ∈ Wd L d, ∀ i, w.testBit i = true → h.testBit i = true) ∨ (x = -1 ∧ ∀ w ∈ Wd L d, ∃ b, b < 15 ∧ w.testBit b = true ∧ fm.testBit b = true) ∨ ∃ b, b < 15 ∧ x = nI (2 ^ b) ∧ h.testBit b = false ∧ fm.testBit b = false) := by
  obtain ⟨ρ, hρ⟩ := hw.2.2.2 d hd
  have h65 := hcn d hd
  obtain ⟨K, hK⟩ : ∃ K : Int32 → mx_G → Option (Int32 × mx_G), K = (fun y10 s9 => if 0 ≤ y10 then some (y10 &&& (-y10), s9) else some ((-1), s9)) := ⟨_, rfl⟩
  /- what the fewest is: none yet, or what is open of some way -/
  let Fw : Nat → Int32 → Prop := fun k a => (a = -1 ∧ ∀ v l, v < k → L[ρ v]? = some l → ∃ b, b < 15 ∧ (lkm l).testBit b = true ∧ fm.testBit b = true) ∨ ∃ g, g ≠ 0 ∧ g < 2 ^ 15 ∧ a = nI g ∧ ∀ b, g.testBit b = true → h.testBit b = false ∧ fm.testBit b = false
  have loop : ∀ (m k f : Nat) (a : Int32), k + m = cn d L → Fw k a → ∃ x : Int32, lX8_linkInDoubt_6 (nI d) (nI h) (nI fm) K (m + 1 + f) a (nI k) s = some (x, s) ∧ ((x = 0 ∧ ∃ w ∈ Wd L d, ∀ i, w.testBit i = true → h.testBit i = true) ∨ (x = -1 ∧ ∀ w ∈ Wd L d, ∃ b, b < 15 ∧ w.testBit b = true ∧ fm.testBit b = true) ∨ ∃ b, b < 15 ∧ x = nI (2 ^ b) ∧ h.testBit b = false ∧ fm.testBit b = false) := by
    intro m
    induction m with
    | zero =>
      intro k f a hk ha
      rw [show 0 + 1 + f = f + 1 by omega, lX8_linkInDoubt_6, ixT hd (by omega), if_pos rfl, clI (by omega), hρ.1, if_pos (nI_le (by omega) (by omega)), hK]
      rcases ha with ⟨rfl, ha⟩ | ⟨g, g0, g1, rfl, g2⟩
      · refine ⟨-1, ?_, Or.inr (Or.inl ⟨rfl, fun w hw => ?_⟩)⟩
        · show (if (0 : Int32) ≤ -1 then _ else _) = _
          rw [if_neg (by decide)]
        · obtain ⟨v, l, v1, v2, rfl⟩ := (Wd_mem hρ).mp hw
          exact ha v l (by omega) v2
      · obtain ⟨b, b1, b2, b3⟩ := low_n g0 g1
        refine ⟨nI (2 ^ b), ?_, Or.inr (Or.inr ⟨b, b1, rfl, g2 b b2⟩)⟩
        show (if (0 : Int32) ≤ nI g then _ else _) = _
        rw [if_pos (nI_pos' (by omega)), b3]
    | succ m ih =>
      intro k f a hk ha
      obtain ⟨a1, l, a2, a3⟩ := hρ.2.1 k (by omega)
      have hlt := get_lt a2
      have hlw := hway l (List.mem_of_getElem? a2)
      have hlb := lkm_lt hn h6 hlw
      have e1 : nI k + 1 = nI (k + 1) := by rw [li_1, adI]
      have eRk : fX8_rankedAt (nI d) (nI k) s = some (nI (ρ k), s) := by
        unfold fX8_rankedAt
        rw [li_65, muI, adI, ixT (by omega) (by omega), if_pos rfl, clI (by omega), a1]
      have hfm : (nI (lkm l) &&& nI fm = 0) ↔ ∀ b, (lkm l).testBit b = true → fm.testBit b = false := by
        rw [and_g]
        have hb : lkm l &&& fm < 2 ^ 15 := Nat.lt_of_le_of_lt Nat.and_le_left hlb
        rw [li_0, eqI (by omega) (by omega)]
        constructor
        · intro z b hb1
          have := congrArg (fun x => x.testBit b) z
          simp only [Nat.testBit_and, hb1, Bool.true_and, Nat.zero_testBit] at this
          exact this
        · intro z
          apply Nat.eq_of_testBit_eq
          intro i
          rw [Nat.testBit_and, Nat.zero_testBit]
          cases hq : (lkm l).testBit i with
          | false => rfl
          | true => rw [z i hq]; rfl
      have hdn := dn_lt (b := h) hlb
      have hmem : lkm l ∈ Wd L d := (Wd_mem hρ).mpr ⟨k, l, by omega, a2, rfl⟩
      rw [show m + 1 + 1 + f = (m + 1 + f) + 1 by omega, lX8_linkInDoubt_6, ixT hd (by omega), if_pos rfl, clI (by omega), hρ.1, if_neg (nI_ge (by omega) (by omega)), eRk, bd_some, ixT (by omega) (by omega), if_pos rfl, clI (by omega), (hw.2.1 _ l a2).2.2.2]
      simp only [mv_let]
      rw [dn_n, e1]
      /- this way is the fewest now -/
      have take : nI (lkm l) &&& nI fm = 0 → ∃ x : Int32, (if nI (dn (lkm l) h) = 0 then some (0, s) else lX8_linkInDoubt_6 (nI d) (nI h) (nI fm) K (m + 1 + f) (nI (dn (lkm l) h)) (nI (k + 1)) s) = some (x, s) ∧ ((x = 0 ∧ ∃ w ∈ Wd L d, ∀ i, w.testBit i = true → h.testBit i = true) ∨ (x = -1 ∧ ∀ w ∈ Wd L d, ∃ b, b < 15 ∧ w.testBit b = true ∧ fm.testBit b = true) ∨ ∃ b, b < 15 ∧ x = nI (2 ^ b) ∧ h.testBit b = false ∧ fm.testBit b = false) := by
        intro hz
        by_cases z : dn (lkm l) h = 0
        · refine ⟨0, by rw [if_pos (by rw [z]; rfl)], Or.inl ⟨rfl, lkm l, hmem, fun i hi => ?_⟩⟩
          have := dn_bit (lkm l) h i
          rw [z, Nat.zero_testBit, hi] at this
          cases hq : h.testBit i with
          | true => rfl
          | false => rw [hq] at this; cases this
        · rw [if_neg (by rw [li_0, eqI (by omega) (by omega)]; exact z)]
          refine ih (k + 1) f _ (by omega) (Or.inr ⟨_, z, hdn, rfl, fun b hb => ?_⟩)
          rw [dn_bit, Bool.and_eq_true] at hb
          refine ⟨by simpa using hb.2, hfm.mp hz b hb.1⟩
      /- it isn't -/
      have leave : (∃ g, g ≠ 0 ∧ g < 2 ^ 15 ∧ a = nI g ∧ ∀ b, g.testBit b = true → h.testBit b = false ∧ fm.testBit b = false) → ∃ x : Int32, (if a = 0 then some (0, s) else lX8_linkInDoubt_6 (nI d) (nI h) (nI fm) K (m + 1 + f) a (nI (k + 1)) s) = some (x, s) ∧ ((x = 0 ∧ ∃ w ∈ Wd L d, ∀ i, w.testBit i = true → h.testBit i = true) ∨ (x = -1 ∧ ∀ w ∈ Wd L d, ∃ b, b < 15 ∧ w.testBit b = true ∧ fm.testBit b = true) ∨ ∃ b, b < 15 ∧ x = nI (2 ^ b) ∧ h.testBit b = false ∧ fm.testBit b = false) := by
        rintro ⟨g, g0, g1, g2, g3⟩
        rw [if_neg (by rw [g2, li_0, eqI (by omega) (by omega)]; exact g0)]
        exact ih (k + 1) f a (by omega) (Or.inr ⟨g, g0, g1, g2, g3⟩)
      by_cases hz : nI (lkm l) &&& nI fm = 0
      · rw [if_pos hz]
        rcases ha with ⟨rfl, ha⟩ | ha
        · rw [if_pos (by decide)]
          exact take hz
        · obtain ⟨g, g0, g1, g2, g3⟩ := id ha
          rw [if_neg (by rw [g2, li_0, ltI (by omega) (by omega)]; omega), sx_bitCount, bd_some, sx_bitCount, bd_some]
          split
          · exact leave ha
          · exact take hz
      · rw [if_neg hz]
        rcases ha with ⟨rfl, ha⟩ | ha
        · rw [if_neg (by decide)]
          refine ih (k + 1) f (-1) (by omega) (Or.inl ⟨rfl, fun v l' v1 v2 => ?_⟩)
          by_cases y : v = k
          · rw [y, a2] at v2
            injection v2 with v2
            subst v2
            apply Classical.byContradiction
            intro q
            apply hz
            rw [hfm]
            intro b hb
            cases hq : fm.testBit b with
            | false => rfl
            | true =>
              exfalso
              apply q
              refine ⟨b, ?_, hb, hq⟩
              rcases Nat.lt_or_ge b 15 with y2 | y2
              · exact y2
              · rw [Nat.testBit_lt_two_pow (Nat.lt_of_lt_of_le hlb (Nat.pow_le_pow_right (by omega) y2))] at hb
                cases hb
          · exact ha v l' (by omega) v2
        · exact leave ha
  obtain ⟨f, hf⟩ := FU_lt (n := cn d L) (by omega)
  obtain ⟨x, e, hx⟩ := loop (cn d L) 0 f (-1) (by omega) (Or.inl ⟨rfl, fun v l v1 => absurd v1 (by omega)⟩)
  rw [← hf] at e
  refine ⟨x, ?_, hx⟩
  unfold fX8_linkInDoubt
  rw [← hK]
  exact e
/-- bits that are not known yet -/
def Op (R : List Nat) (h fm : Nat) : Prop := R.Nodup ∧ ∀ b, b < 15 → (b ∈ R ↔ h.testBit b = false ∧ fm.testBit b = false)
theorem sx_lasting {c : Nat → Int32} {n : Nat} (hn : 0 < n) (h6 : n ≤ 6) {L : List (List Nat)} (hL : L.length ≤ 326) (hcn : ∀ d, d < 6 → cn d L ≤ 65) (hway : ∀ l ∈ L, Way n l) {s : mx_G} (hw : WR c L s) {d : Nat} (hd : d < 6) {q : Nat} (hq : q ≤ 10) (gf : Nat) : ∀ (m : Nat) (R : List Nat) (h fm : Nat), R.length = m → m ≤ 15 → (∀ b ∈ R, b < 15) → Op R h fm → (∀ b, fm.testBit b = true → h.testBit b = false) → fX2_lasting (m + 1 + gf) (nI d) (nI q) (nI h) (nI fm) (nI m) s = some (lN (Vp (Wd L d) q R h), s) := by
  intro m
  induction m with
  | zero =>
    intro R h fm hR _ hb hop hdis
    have hR0 : R = [] := List.eq_nil_of_length_eq_zero hR
    subst hR0
    obtain ⟨x, e, hx⟩ := sx_doubt hn h6 hL hcn hway hw hd h fm
    rw [show 0 + 1 + gf = gf + 1 by omega, fX2_lasting, e, bd_some]
    rcases hx with ⟨rfl, hx⟩ | ⟨rfl, hx⟩ | ⟨b, b1, -, b3⟩
    · rw [if_pos rfl]
      unfold fX2_power
      rw [bd_some, if_pos (by decide), Vp, if_pos (okB_iff.mpr hx)]
      rfl
    · rw [if_neg (by decide), if_pos (by decide), Vp_no _ _ (fun w hw => ?_)]
      · rfl
      · obtain ⟨b, b1, b2, b3⟩ := hx w hw
        exact ⟨b, b2, hdis b b3, by simp⟩
    · exact absurd ((hop.2 b b1).mpr b3) (by simp)
  | succ m ih =>
    intro R h fm hR hm hb hop hdis
    obtain ⟨x, e, hx⟩ := sx_doubt hn h6 hL hcn hway hw hd h fm
    rw [show m + 1 + 1 + gf = (m + 1 + gf) + 1 by omega, fX2_lasting, e, bd_some]
    rcases hx with ⟨rfl, hx⟩ | ⟨rfl, hx⟩ | ⟨b, b1, rfl, b3⟩
    · rw [if_pos rfl]
      unfold fX2_power
      rw [bd_some, if_pos ⟨nI_pos' (by omega), by rw [li_16, ltI (by omega) (by omega)]; omega⟩, clI (by omega), Vp_ok hq _ _ (okB_iff.mpr hx), hR]
      rfl
    · rw [if_neg (by decide), if_pos (by decide), Vp_no _ _ (fun w hw => ?_)]
      · rfl
      · obtain ⟨b, b1, b2, b3⟩ := hx w hw
        exact ⟨b, b2, hdis b b3, fun z => by have := (hop.2 b b1).mp z; rw [b3] at this; cases this.2⟩
    · have hbR := (hop.2 b b1).mpr b3
      have hp15 : 2 ^ b < 2 ^ 15 := Nat.pow_lt_pow_right (by omega) b1
      have hpos : 0 < 2 ^ b := Nat.pow_pos (by omega)
      have hV : Vp (Wd L d) q R h = (10 - q) * Vp (Wd L d) q (R.erase b) (h ||| 2 ^ b) + q * Vp (Wd L d) q (R.erase b) h := by
        rw [Vp_perm (List.perm_cons_erase hbR)]
        rfl
      have hlen : (R.erase b).length = m := by rw [List.length_erase_of_mem hbR, hR]; rfl
      have hnd := hop.1.erase b
      have hbe : ∀ x ∈ R.erase b, x < 15 := fun x hx => hb x (List.mem_of_mem_erase hx)
      have o1 : Op (R.erase b) (h ||| 2 ^ b) fm := ⟨hnd, fun x hx => by
        rw [hop.1.mem_erase_iff, hop.2 x hx, Nat.testBit_or, Nat.testBit_two_pow]
        by_cases y : b = x
        · subst y; simp
        · have y2 : x ≠ b := fun z => y z.symm
          simp [y, y2]⟩
      have o2 : Op (R.erase b) h (fm ||| 2 ^ b) := ⟨hnd, fun x hx => by
        rw [hop.1.mem_erase_iff, hop.2 x hx, Nat.testBit_or, Nat.testBit_two_pow]
        by_cases y : b = x
        · subst y; simp
        · have y2 : x ≠ b := fun z => y z.symm
          simp [y, y2]⟩
      have i1 := ih (R.erase b) (h ||| 2 ^ b) fm hlen (by omega) hbe o1 (fun x hx => by
        rw [Nat.testBit_or, hdis x hx, Nat.testBit_two_pow]
        have : ¬ b = x := fun z => by rw [z, hx] at b3; cases b3.2
        simp [this])
      have i2 := ih (R.erase b) h (fm ||| 2 ^ b) hlen (by omega) hbe o2 (fun x hx => by
        rw [Nat.testBit_or, Bool.or_eq_true, Nat.testBit_two_pow] at hx
        rcases hx with z | z
        · exact hdis x z
        · have z : b = x := by simpa using z
          rw [← z]; exact b3.1)
      have em : nI (m + 1) - 1 = nI m := by rw [li_1, suI (by omega), show m + 1 - 1 = m by omega]
      rw [if_neg (by rw [li_0, eqI (by omega) (by omega)]; omega), if_neg (by rw [li_0, ltI (by omega) (by omega)]; omega), if_pos (by rw [li_0, ltI (by omega) (by omega)]; omega)]
      simp only [mv_let]
      have e10 : (10 : Int32) - nI q = nI (10 - q) := by rw [li_10, suI hq]
      have l0 : (0 : Int64) = lN 0 := rfl
      by_cases z10 : q = 10
      · subst z10
        rw [if_pos (show nI 10 = 10 from rfl), if_neg (show ¬ nI 10 = 0 by decide), or_g, em, i2, bd_some, hV, nI_l (show 10 < 2 ^ 31 by omega), lN_mul, l0, lN_add]
        simp
      · rw [if_neg (by rw [li_10, eqI (by omega) (by omega)]; exact z10), or_g, em, i1, bd_some]
        by_cases z0 : q = 0
        · subst z0
          rw [if_pos (show nI 0 = 0 from rfl), hV, e10, nI_l (show 10 - 0 < 2 ^ 31 by omega), lN_mul, l0, lN_add]
          simp
        · rw [if_neg (by rw [li_0, eqI (by omega) (by omega)]; exact z0), or_g, i2, bd_some, hV, e10, nI_l (show 10 - q < 2 ^ 31 by omega), nI_l (show q < 2 ^ 31 by omega), lN_mul, lN_mul, lN_add]
