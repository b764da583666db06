/-! PURE PART: all permitted ways, in the order in which both find them -/
theorem nodup_len {α : Type} [DecidableEq α] : ∀ (l m : List α), l.Nodup → (∀ x ∈ l, x ∈ m) → l.length ≤ m.length := by
  intro l
  induction l with
  | nil => intro m _ _; exact Nat.zero_le _
  | cons x l ih =>
    intro m hd h
    have hx := h x List.mem_cons_self
    have hn := List.nodup_cons.mp hd
    have h1 := ih (m.erase x) hn.2 (fun y hy => by
      have hne : y ≠ x := fun z => hn.1 (z ▸ hy)
      exact (List.mem_erase_of_ne hne).mpr (h y (List.mem_cons_of_mem _ hy)))
    rw [List.length_erase_of_mem hx] at h1
    have : 0 < m.length := List.length_pos_of_mem hx
    rw [List.length_cons]
    omega
def aw : Nat → List (List Nat)
  | 0 => [[0]]
  | k + 1 => (aw k).flatMap (fun l => ((List.range 6).filter (fun d => decide (0 < d) && !(l.contains d))).map (fun d => d :: l))
def AW : List (List Nat) := aw 0 ++ (aw 1 ++ (aw 2 ++ (aw 3 ++ (aw 4 ++ aw 5))))
theorem AW_len : AW.length = 326 ∧ ∀ d : Nat, d < 6 → (AW.filter (fun l => hd0 l == d)).length ≤ 65 := by decide +kernel
theorem Way.mono {n m : Nat} (h : n ≤ m) : ∀ {l : List Nat}, Way n l → Way m l := by
  intro l
  induction l with
  | nil => intro h; exact h
  | cons d r ih =>
    intro hw
    cases r with
    | nil => exact hw
    | cons e r => exact ⟨hw.1, by have := hw.2.1; omega, hw.2.2.1, ih hw.2.2.2⟩
theorem aw_mem : ∀ (k : Nat) (l : List Nat), Way 6 l → l.length = k + 1 → l ∈ aw k := by
  intro k
  induction k with
  | zero =>
    intro l h hl
    cases l with
    | nil => simp at hl
    | cons d r =>
      cases r with
      | nil =>
        have h : d = 0 := h
        subst h
        simp [aw]
      | cons e r => simp at hl
  | succ k ih =>
    intro l h hl
    cases l with
    | nil => simp at hl
    | cons d r =>
      cases r with
      | nil => simp at hl
      | cons e r =>
        rw [aw, List.mem_flatMap]
        refine ⟨e :: r, ih _ h.2.2.2 (by simpa using hl), ?_⟩
        rw [List.mem_map]
        refine ⟨d, ?_, rfl⟩
        rw [List.mem_filter]
        have h1 := h.1
        have h2 := h.2.1
        have h3 := h.2.2.1
        refine ⟨List.mem_range.mpr h2, ?_⟩
        have hc : (e :: r).contains d = false := by
          rw [← Bool.not_eq_true, List.contains_iff_mem]
          exact h3
        rw [hc]
        simp [h1]
theorem AW_mem {n : Nat} (hn : 0 < n) (h6 : n ≤ 6) {l : List Nat} (h : Way n l) : l ∈ AW := by
  have h' := h.mono h6
  have hlen := h.len hn
  have hpos : 0 < l.length := by cases l with
    | nil => exact h.elim
    | cons => simp
  unfold AW
  simp only [List.mem_append]
  rcases (show l.length = 0 + 1 ∨ l.length = 1 + 1 ∨ l.length = 2 + 1 ∨ l.length = 3 + 1 ∨ l.length = 4 + 1 ∨ l.length = 5 + 1 by omega) with e | e | e | e | e | e
  · exact Or.inl (aw_mem _ l h' e)
  · exact Or.inr (Or.inl (aw_mem _ l h' e))
  · exact Or.inr (Or.inr (Or.inl (aw_mem _ l h' e)))
  · exact Or.inr (Or.inr (Or.inr (Or.inl (aw_mem _ l h' e))))
  · exact Or.inr (Or.inr (Or.inr (Or.inr (Or.inl (aw_mem _ l h' e)))))
  · exact Or.inr (Or.inr (Or.inr (Or.inr (Or.inr (aw_mem _ l h' e)))))
/-- how many of a list are of d -/
def cn (d : Nat) (L : List (List Nat)) : Nat := (L.filter (fun l => hd0 l == d)).length
theorem L_len {n : Nat} (hn : 0 < n) (h6 : n ≤ 6) {L : List (List Nat)} (hd : L.Nodup) (hw : ∀ l ∈ L, Way n l) : L.length ≤ 326 ∧ ∀ d, d < 6 → cn d L ≤ 65 := by
  refine ⟨?_, fun d hd6 => ?_⟩
  · have := nodup_len L AW hd (fun l hl => AW_mem hn h6 (hw l hl))
    rw [AW_len.1] at this
    exact this
  · have := nodup_len (L.filter (fun l => hd0 l == d)) (AW.filter (fun l => hd0 l == d)) (hd.filter _) (fun l hl => by
      rw [List.mem_filter] at hl ⊢
      exact ⟨AW_mem hn h6 (hw l hl.1), hl.2⟩)
    exact Nat.le_trans this (AW_len.2 d hd6)
/-- what those below d make of a way -/
def ex (c : Nat → Int32) (l : List Nat) : Nat → List (List Nat)
  | 0 => []
  | d + 1 => if 0 < d ∧ tk c d l then ex c l d ++ [d :: l] else ex c l d
def qs (c : Nat → Int32) (n : Nat) : Nat → List (List Nat)
  | 0 => [[0]]
  | k + 1 => match (qs c n k)[k]? with
    | none => qs c n k
    | some l => qs c n k ++ ex c l n
theorem ex_mem {c : Nat → Int32} {l : List Nat} : ∀ (d : Nat) (x : List Nat), x ∈ ex c l d → ∃ e, e < d ∧ 0 < e ∧ tk c e l ∧ x = e :: l := by
  intro d
  induction d with
  | zero => intro x h; simp [ex] at h
  | succ d ih =>
    intro x h
    rw [ex] at h
    by_cases z : 0 < d ∧ tk c d l
    · rw [if_pos z] at h
      rcases List.mem_append.mp h with h | h
      · obtain ⟨e, a, b⟩ := ih x h
        exact ⟨e, by omega, b⟩
      · rw [List.mem_singleton] at h
        exact ⟨d, by omega, z.1, z.2, h⟩
    · rw [if_neg z] at h
      obtain ⟨e, a, b⟩ := ih x h
      exact ⟨e, by omega, b⟩
theorem ex_nodup {c : Nat → Int32} {l : List Nat} : ∀ d : Nat, (ex c l d).Nodup := by
  intro d
  induction d with
  | zero => simp [ex]
  | succ d ih =>
    rw [ex]
    by_cases z : 0 < d ∧ tk c d l
    · rw [if_pos z]
      rw [List.nodup_append]
      refine ⟨ih, by simp, fun a ha b hb => ?_⟩
      rw [List.mem_singleton] at hb
      obtain ⟨e, h1, h2, h3, h4⟩ := ex_mem d a ha
      rw [h4, hb]
      intro q
      injection q with q1 q2
      omega
    · rw [if_neg z]; exact ih
/-- the list so far, those below k gone on from: L with part of what k gives -/
def Gd (c : Nat → Int32) (n k : Nat) (L : List (List Nat)) : Prop :=
  L.Nodup ∧ L[0]? = some [0] ∧ (∀ l ∈ L, Way n l) ∧ ∀ i l, L[i]? = some l → 0 < i → ∃ d j q, l = d :: q ∧ 0 < d ∧ d < n ∧ j < k ∧ j < i ∧ L[j]? = some q ∧ tk c d q
theorem Gd.add {c : Nat → Int32} (ho : WOK c) {n k : Nat} (hn : 0 < n) (h6 : n ≤ 6) {L : List (List Nat)} (h : Gd c n k L) {l : List Nat} (hl : L[k]? = some l) : ∀ d, d ≤ n → Gd c n (k + 1) (L ++ ex c l d) := by
  obtain ⟨h1, h2, h3, h4⟩ := h
  have hkl : k < L.length := (List.getElem?_eq_some_iff.mp hl).1
  have hlL : l ∈ L := List.mem_of_getElem? hl
  intro d hd
  refine ⟨?_, ?_, ?_, ?_⟩
  · rw [List.nodup_append]
    refine ⟨h1, ex_nodup d, fun a ha b hb => ?_⟩
    obtain ⟨e, g1, g2, g3, g4⟩ := ex_mem d b hb
    intro hab
    subst hab
    obtain ⟨i, hi, hia⟩ := List.getElem_of_mem ha
    have hia' : L[i]? = some a := by rw [List.getElem?_eq_getElem hi, hia]
    rcases Nat.eq_zero_or_pos i with z | z
    · subst z
      rw [h2] at hia'
      injection hia' with q
      rw [g4] at q
      injection q with q1 q2
      omega
    · obtain ⟨d', j, q, e1, e2, e3, e4, e5, e6, e7⟩ := h4 i a hia' z
      rw [g4] at e1
      injection e1 with q1 q2
      subst q2
      have hj : j < L.length := (List.getElem?_eq_some_iff.mp e6).1
      have := (List.getElem?_inj hj h1).mp (e6.trans hl.symm)
      omega
  · rw [List.getElem?_append_left (by omega)]; exact h2
  · intro x hx
    rcases List.mem_append.mp hx with hx | hx
    · exact h3 x hx
    · obtain ⟨e, g1, g2, g3, g4⟩ := ex_mem d x hx
      rw [g4]
      exact tk_way ho hn h6 g2 (by omega) (h3 l hlL) g3
  · intro i x hx hi
    by_cases z : i < L.length
    · rw [List.getElem?_append_left z] at hx
      obtain ⟨d', j, q, e1, e2, e3, e4, e5, e6, e7⟩ := h4 i x hx hi
      exact ⟨d', j, q, e1, e2, e3, by omega, e5, by rw [List.getElem?_append_left (by omega)]; exact e6, e7⟩
    · have hm : x ∈ ex c l d := by
        rw [List.getElem?_append_right (by omega)] at hx
        exact List.mem_of_getElem? hx
      obtain ⟨e, g1, g2, g3, g4⟩ := ex_mem d x hm
      exact ⟨e, k, l, g4, g2, by omega, by omega, by omega, by rw [List.getElem?_append_left hkl]; exact hl, g3⟩
theorem Gd.mono {c : Nat → Int32} {n k : Nat} {L : List (List Nat)} (h : Gd c n k L) : Gd c n (k + 1) L :=
  ⟨h.1, h.2.1, h.2.2.1, fun i l a b => by obtain ⟨d, j, q, e1, e2, e3, e4, e5⟩ := h.2.2.2 i l a b; exact ⟨d, j, q, e1, e2, e3, by omega, e5⟩⟩
theorem qs_gd {c : Nat → Int32} (ho : WOK c) {n : Nat} (hn : 0 < n) (h6 : n ≤ 6) : ∀ k, Gd c n k (qs c n k) := by
  intro k
  induction k with
  | zero =>
    refine ⟨by simp [qs], rfl, fun l hl => ?_, fun i l h hi => ?_⟩
    · rw [qs, List.mem_singleton] at hl
      subst hl
      exact rfl
    · rw [qs, List.getElem?_eq_none (by simp; omega)] at h
      cases h
  | succ k ih =>
    rw [qs]
    cases h : (qs c n k)[k]? with
    | none => exact ih.mono
    | some l => exact ih.add ho hn h6 h n (Nat.le_refl _)
theorem qs_len {c : Nat → Int32} (ho : WOK c) {n : Nat} (hn : 0 < n) (h6 : n ≤ 6) (k : Nat) : (qs c n k).length ≤ 326 ∧ ∀ d, d < 6 → cn d (qs c n k) ≤ 65 := L_len hn h6 (qs_gd ho hn h6 k).1 (qs_gd ho hn h6 k).2.2.1
theorem qs_end {c : Nat → Int32} {n k : Nat} (h : (qs c n k).length ≤ k) : ∀ m, qs c n (k + m) = qs c n k := by
  intro m
  induction m with
  | zero => rfl
  | succ m ih =>
    rw [← Nat.add_assoc, qs, ih, List.getElem?_eq_none (by omega)]
/-- all of them -/
def WL (c : Nat → Int32) (n : Nat) : List (List Nat) := qs c n 326
theorem WL_end {c : Nat → Int32} (ho : WOK c) {n : Nat} (hn : 0 < n) (h6 : n ≤ 6) {k : Nat} (h : (qs c n k).length ≤ k) : qs c n k = WL c n := by
  unfold WL
  by_cases z : k ≤ 326
  · have := qs_end h (326 - k)
    rw [show k + (326 - k) = 326 by omega] at this
    exact this.symm
  · have := qs_end (qs_len ho hn h6 326).1 (k - 326)
    rw [show 326 + (k - 326) = k by omega] at this
    exact this
theorem WL_gd {c : Nat → Int32} (ho : WOK c) {n : Nat} (hn : 0 < n) (h6 : n ≤ 6) : Gd c n 326 (WL c n) := qs_gd ho hn h6 326
