/-! PURE PART: what the caches hold depends on the policy alone -/
def Ag (c c' : Nat → Int32) : Prop := ∀ j, j < 121 → c j = c' j
theorem ag_N {c c' : Nat → Int32} (h : Ag c c') {k : Nat} (hk : k < 121) : N c k = N c' k := by unfold N; rw [h k hk]
theorem tk_ag {c c' : Nat → Int32} (h : Ag c c') {d : Nat} {l : List Nat} (hd : d < 6) (he : hd0 l < 6) (hs : sec l < 6 ∨ sec l = 9) : tk c d l ↔ tk c' d l := by
  unfold tk tkL
  rw [h (13 + d * 6 + hd0 l) (by omega), h (49 + d * 6 + hd0 l) (by omega), h (7 + d) (by omega), h (1 + hd0 l) (by omega), h (13 + hd0 l * 6 + d) (by omega), h (13 + hd0 l * 6 + sec l) (by omega)]
theorem tk_agW {c c' : Nat → Int32} (h : Ag c c') {n d : Nat} (hn : 0 < n) (h6 : n ≤ 6) (hd : d < 6) {l : List Nat} (hw : Way n l) : tk c d l ↔ tk c' d l :=
  tk_ag h hd (by have := hd0_lt hn hw; omega) (sec_lt hn h6 hw)
theorem rkL_ag {c c' : Nat → Int32} (h : Ag c c') {d : Nat} {l : List Nat} (hd : d < 6) (he : hd0 l < 6) : rkL c (d :: l) = rkL c' (d :: l) := by
  rw [rkL, rkL, ag_N h (k := 13 + d * 6 + hd0 l) (by omega), ag_N h (k := 85 + d * 6 + hd0 l) (by omega)]
  have e := h (1 + d) (by omega)
  simp only [e]
theorem rk1_ag {c c' : Nat → Int32} (h : Ag c c') {n : Nat} (hn : 0 < n) (h6 : n ≤ 6) {l : List Nat} (hw : Way n l) : rk1 c l = rk1 c' l := by
  unfold rk1
  by_cases z : l.length = 1
  · rw [if_pos z, if_pos z]
  · rw [if_neg z, if_neg z]
    cases l with
    | nil => exact hw.elim
    | cons d r =>
      cases r with
      | nil => exact absurd rfl z
      | cons e r =>
        have := hw.2.1
        exact rkL_ag h (by omega) (by have := hd0_lt hn hw.2.2.2; omega)
theorem ex_ag {c c' : Nat → Int32} (h : Ag c c') {n : Nat} (hn : 0 < n) (h6 : n ≤ 6) {l : List Nat} (hw : Way n l) : ∀ d, d ≤ n → ex c l d = ex c' l d := by
  intro d
  induction d with
  | zero => intro _; rfl
  | succ d ih =>
    intro hd
    rw [ex, ex, ih (by omega)]
    have := tk_agW h hn h6 (d := d) (by omega) hw
    by_cases z : 0 < d ∧ tk c d l
    · rw [if_pos z, if_pos ⟨z.1, this.mp z.2⟩]
    · rw [if_neg z, if_neg (fun q => z ⟨q.1, this.mpr q.2⟩)]
theorem qs_ag {c c' : Nat → Int32} (h : Ag c c') (ho : WOK c) {n : Nat} (hn : 0 < n) (h6 : n ≤ 6) : ∀ k, qs c n k = qs c' n k := by
  intro k
  induction k with
  | zero => rfl
  | succ k ih =>
    rw [qs, qs, ← ih]
    cases hl : (qs c n k)[k]? with
    | none => rfl
    | some l =>
      have hw := (qs_gd ho hn h6 k).2.2.1 l (List.mem_of_getElem? hl)
      show qs c n k ++ ex c l n = qs c n k ++ ex c' l n
      rw [ex_ag h hn h6 hw n (Nat.le_refl _)]
theorem WL_ag {c c' : Nat → Int32} (h : Ag c c') (ho : WOK c) {n : Nat} (hn : 0 < n) (h6 : n ≤ 6) : WL c n = WL c' n := qs_ag h ho hn h6 326
theorem WC_ag {c c' : Nat → Int32} (h : Ag c c') (ho : WOK c) {n : Nat} (hn : 0 < n) (h6 : n ≤ 6) {s : mx_G} (hc : WC c n s) : WC c' n s := by
  unfold WC at hc ⊢
  rw [← WL_ag h ho hn h6]
  have hw := (WL_gd ho hn h6).2.2.1
  obtain ⟨⟨h1, h2, h3, h4⟩, h5⟩ := hc
  refine ⟨⟨h1, fun i l hl => ?_, h3, fun d hd => ?_⟩, h5⟩
  · rw [← rk1_ag h hn h6 (hw l (List.mem_of_getElem? hl))]; exact h2 i l hl
  · obtain ⟨ρ, a1, a2, a3, a4⟩ := h4 d hd
    refine ⟨ρ, a1, a2, fun k k' l l' p q r t => ?_, a4⟩
    rw [← rk1_ag h hn h6 (hw l (List.mem_of_getElem? r)), ← rk1_ag h hn h6 (hw l' (List.mem_of_getElem? t))]
    exact a3 k k' l l' p q r t
