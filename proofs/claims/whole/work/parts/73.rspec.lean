/-! rings -/
def LDS (c : Nat → Int32) (lp lr : List Nat) : Prop := ∃ u q, lr = u :: q ∧ q ≠ [] ∧ (lp = q ∨ (hd0 lp = hd0 q ∧ hd0 lp ≠ 0 ∧ rk1 c lp < rk1 c q ∧ (¬ tk c u lp ∨ rkL c (u :: q) < rkL c (u :: lp))))
def Eg (c : Nat → Int32) (L : List (List Nat)) (p r : Nat) : Prop := ∃ lp lr, L[p]? = some lp ∧ L[r]? = some lr ∧ LDS c lp lr
def wlk (R : Nat → Nat → Prop) : Nat → Nat → Nat → Prop
  | 0, x, y => x = y
  | m + 1, x, y => ∃ z, wlk R m x z ∧ R z y
/-- lf tells the least length of a closed walk, 0 if there is none -/
def LSp (R : Nat → Nat → Prop) (lf : Nat → Nat) (M : Nat) : Prop := ∀ p, p < M → (lf p = 0 → ∀ m, 1 ≤ m → ¬ wlk R m p p) ∧ (0 < lf p → wlk R (lf p) p p ∧ ∀ m, 1 ≤ m → m < lf p → ¬ wlk R m p p)
theorem LSp.eq {R : Nat → Nat → Prop} {f g : Nat → Nat} {M : Nat} (hf : LSp R f M) (hg : LSp R g M) {p : Nat} (hp : p < M) : f p = g p := by
  obtain ⟨f1, f2⟩ := hf p hp
  obtain ⟨g1, g2⟩ := hg p hp
  rcases Nat.eq_zero_or_pos (f p) with zf | zf
  · rcases Nat.eq_zero_or_pos (g p) with zg | zg
    · omega
    · exact absurd (g2 zg).1 (f1 zf _ zg)
  · rcases Nat.eq_zero_or_pos (g p) with zg | zg
    · exact absurd (f2 zf).1 (g1 zg _ zf)
    · rcases Nat.lt_trichotomy (f p) (g p) with z | z | z
      · exact absurd (f2 zf).1 ((g2 zg).2 _ zf z)
      · exact z
      · exact absurd (g2 zg).1 ((f2 zf).2 _ zg z)
def rfM (lf : Nat → Nat) : Nat → Nat
  | 0 => 0
  | p + 1 => if lf p = 0 then rfM lf p else rfM lf p + 1
def rfS (lf : Nat → Nat) : Nat → Nat
  | 0 => 0
  | p + 1 => if lf p = 0 then rfS lf p else if rfS lf p = 0 then lf p else if lf p < rfS lf p then lf p else rfS lf p
def rfL (lf wf : Nat → Nat) : Nat → Option Nat
  | 0 => none
  | p + 1 => if lf p = 0 then rfL lf wf p else match rfL lf wf p with
    | none => some (wf p)
    | some x => some (if wf p < x then wf p else x)
def vN : Option Nat → Int32
  | none => -4
  | some x => nI x
def wf (L : List (List Nat)) (p : Nat) : Nat := match L[p]? with
  | some l => wnum l
  | none => 0
def RG (c : Nat → Int32) (n : Nat) (s : mx_G) : Prop := ∃ lf : Nat → Nat, LSp (Eg c (WL c n)) lf (WL c n).length ∧ (∀ p, lf p ≤ 1000) ∧ s.1 25 0 = nI (rfS lf (WL c n).length) ∧ s.1 25 1 = nI (rfM lf (WL c n).length) ∧ s.1 25 2 = vN (rfL lf (wf (WL c n)) (WL c n).length)
theorem LDS_ag {c c' : Nat → Int32} (h : Ag c c') {n : Nat} (hn : 0 < n) (h6 : n ≤ 6) {lp lr : List Nat} (hp : Way n lp) (hr : Way n lr) (hl : LDS c lp lr) : LDS c' lp lr := by
  obtain ⟨u, q, e, hq, hl⟩ := hl
  refine ⟨u, q, e, hq, ?_⟩
  rcases hl with hl | ⟨a1, a2, a3, a4⟩
  · exact Or.inl hl
  · subst e
    cases q with
    | nil => exact absurd rfl hq
    | cons x q =>
      have hu := hr.2.1
      have hqw := hr.2.2.2
      have hx := hd0_lt hn hqw
      refine Or.inr ⟨a1, a2, ?_, ?_⟩
      · rw [← rk1_ag h hn h6 hp, ← rk1_ag h hn h6 hqw]; exact a3
      · rw [← rkL_ag h (by omega) (by omega), ← rkL_ag h (by omega) (by omega), ← tk_agW h hn h6 (by omega) hp]
        exact a4
theorem Ag.sym {c c' : Nat → Int32} (h : Ag c c') : Ag c' c := fun j hj => (h j hj).symm
theorem Eg_ag {c c' : Nat → Int32} (h : Ag c c') {n : Nat} (hn : 0 < n) (h6 : n ≤ 6) {L : List (List Nat)} (hw : ∀ l ∈ L, Way n l) : Eg c L = Eg c' L := by
  funext p r
  apply propext
  constructor
  · rintro ⟨lp, lr, a, b, e⟩
    exact ⟨lp, lr, a, b, LDS_ag h hn h6 (hw lp (List.mem_of_getElem? a)) (hw lr (List.mem_of_getElem? b)) e⟩
  · rintro ⟨lp, lr, a, b, e⟩
    exact ⟨lp, lr, a, b, LDS_ag h.sym hn h6 (hw lp (List.mem_of_getElem? a)) (hw lr (List.mem_of_getElem? b)) e⟩
theorem RG_ag {c c' : Nat → Int32} (h : Ag c c') (ho : WOK c) {n : Nat} (hn : 0 < n) (h6 : n ≤ 6) {s : mx_G} (hc : RG c n s) : RG c' n s := by
  unfold RG at hc ⊢
  rw [← WL_ag h ho hn h6, ← Eg_ag h hn h6 (WL_gd ho hn h6).2.2.1]
  exact hc
