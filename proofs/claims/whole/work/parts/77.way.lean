/-! PURE PART: way -/
theorem fig1 {n : Nat} (hn : 0 < n) (h6 : n ≤ 6) {l : List Nat} (h : Way n l) (τ : mx_G) : ∃ b, b < 6 ∧ fX11_figure (nI (wnum l)) 1 τ = some (nI b, τ) := by
  have hlen := h.len hn
  by_cases z : l.length = 1
  · have h0 : l = [0] := by
      cases l with
      | nil => exact h.elim
      | cons d r =>
        cases r with
        | nil =>
          have h : d = 0 := h
          rw [h]
        | cons e r => simp at z
    subst h0
    refine ⟨0, by omega, ?_⟩
    obtain ⟨f, hf⟩ := FU_lt (n := 0) (by omega)
    unfold fX11_figure
    rw [sm_figures (h.dg hn h6) h.ld (by simp), bd_some, mv_let, hf, show 0 + 1 + f = f + 1 by omega, lX11_figure_9, if_pos (by decide)]
    rfl
  · have hpos : 0 < l.length := by cases l with
      | nil => exact h.elim
      | cons => simp
    refine ⟨l.getD 1 0, ?_, by rw [li_1]; exact sm_figure (h.dg hn h6) h.ld (by omega) (by omega) τ⟩
    rw [List.getD_eq_getElem?_getD, List.getElem?_eq_getElem (by omega)]
    have := h.lt hn (l[1]'(by omega)) (List.getElem_mem _)
    show l[1]'(by omega) < 6
    omega
theorem sm_isBetter_any {s : mx_G} {n d : Nat} (hn : 0 < n) (h6 : n ≤ 6) (hd : d < 6) {l1 l2 : List Nat} (h1 : Way n l1) (h2 : Way n l2) : ∃ r, fX11_isBetter (nI d) (nI (wnum l1)) (nI (wnum l2)) s = some (r, s) := by
  obtain ⟨a, ha, e1⟩ := fig1 hn h6 h1 s
  obtain ⟨b, hb, e2⟩ := fig1 hn h6 h2 s
  have n1 := h1.len hn
  have n2 := h2.len hn
  have f1 : ∀ τ, fX11_figures (nI (wnum l1)) τ = some (nI l1.length, τ) := fun τ => sm_figures (h1.dg hn h6) h1.ld (by omega) τ
  have f2 : ∀ τ, fX11_figures (nI (wnum l2)) τ = some (nI l2.length, τ) := fun τ => sm_figures (h2.dg hn h6) h2.ld (by omega) τ
  unfold fX11_isBetter
  rw [e1, bd_some, e2, bd_some]
  simp (maxSteps := 2000000) (disch := omega) only [fX11_pair, bd_some, li_6, li_73, li_109, muI, adI, f1, f2]
  have i1 : ∀ x : Nat, (1 : Int32) + nI x = nI (1 + x) := fun x => by rw [li_1, adI]
  simp (maxSteps := 2000000) (disch := omega) only [i1, ixT, clI, if_true, mv_let]
  repeat' split
  all_goals exact ⟨_, rfl⟩
def pb (c : Nat → Int32) (L : List (List Nat)) (d i j : Nat) : Bool := match L[i]?, L[j]? with
  | some li, some lj => decide (0 < d) && (hd0 lj == d) && decide (rk1 c lj < rk1 c li)
  | _, _ => false
def pc (c : Nat → Int32) (L : List (List Nat)) (d i j : Nat) : Nat := ((List.range j).filter (pb c L d i)).length
theorem pc_succ (c : Nat → Int32) (L : List (List Nat)) (d i j : Nat) : pc c L d i (j + 1) = if pb c L d i j = true then pc c L d i j + 1 else pc c L d i j := by
  unfold pc
  rw [List.range_succ, List.filter_append, List.length_append]
  by_cases z : pb c L d i j = true
  · rw [if_pos z, List.filter_cons_of_pos z]; rfl
  · rw [if_neg z, List.filter_cons_of_neg z]; rfl
theorem pc_le (c : Nat → Int32) (L : List (List Nat)) (d i j : Nat) : pc c L d i j ≤ j := by
  have := List.length_filter_le (pb c L d i) (List.range j)
  rw [List.length_range] at this
  exact this
theorem rk1_d {c : Nat → Int32} {d : Nat} {q : List Nat} (hq : q ≠ []) : rk1 c (d :: q) = rkL c (d :: q) := by
  unfold rk1
  rw [if_neg]
  cases q with
  | nil => exact absurd rfl hq
  | cons x r => simp
theorem Way.tail {n d : Nat} (hd : 0 < d) {q : List Nat} (h : Way n (d :: q)) : Way n q ∧ q ≠ [] := by
  cases q with
  | nil =>
    have h : d = 0 := h
    omega
  | cons e r => exact ⟨h.2.2.2, by simp⟩
theorem sm_way34 {c : Nat → Int32} (ho : WOK c) {n : Nat} (hn : 0 < n) (h6 : n ≤ 6) {L : List (List Nat)} (hL : L.length ≤ 326) (hway : ∀ l ∈ L, Way n l) {t : mx_G} (hw : RW (t.1 46) c) (hm : MR L t) {d i : Nat} (hd : d < n) {li : List Nat} (hi : L[i]? = some li) (a2 : Int32) (K : Int32 → mx_G → Option (Int32 × mx_G)) : ∀ (m j f : Nat) (x : Int32), j + m = L.length → (hd0 li = d → x = nI (pc c L d i j)) → ∃ y, lX11_way_34 (nI d) a2 (nI i) K (m + 1 + f) x (nI j) t = K y t ∧ (hd0 li = d → y = nI (pc c L d i L.length)) := by
  have hiL := get_lt hi
  have hwi : Way n li := hway li (List.mem_of_getElem? hi)
  intro m
  induction m with
  | zero =>
    intro j f x h hx
    refine ⟨x, ?_, ?_⟩
    · rw [show 0 + 1 + f = f + 1 by omega, lX11_way_34, hm.1, if_pos (nI_le (by omega) (by omega))]
    · intro z
      rw [show L.length = j by omega]
      exact hx z
  | succ m ih =>
    intro j f x h hx
    have e1 : nI j + 1 = nI (j + 1) := by rw [li_1, adI]
    have hl : L[j]? = some (L[j]'(by omega)) := List.getElem?_eq_getElem (by omega)
    generalize L[j]'(by omega) = lj at hl
    have hwj : Way n lj := hway lj (List.mem_of_getElem? hl)
    have hhj := hd0_lt hn hwj
    have x0 : x + 0 = x := by rw [Int32.add_zero]
    rw [show m + 1 + 1 + f = (m + 1 + f) + 1 by omega, lX11_way_34, hm.1, if_neg (nI_ge (by omega) (by omega)), e1]
    simp only [mv_let]
    rw [x0]
    have pbv : pb c L d i j = (decide (0 < d) && (hd0 lj == d) && decide (rk1 c lj < rk1 c li)) := by unfold pb; rw [hi, hl]
    have same : pb c L d i j = false → hd0 li = d → x = nI (pc c L d i (j + 1)) := fun hf z => by
      rw [pc_succ, if_neg (by rw [hf]; decide)]; exact hx z
    by_cases z0 : d = 0
    · rw [if_pos (by rw [z0]; decide)]
      exact ih (j + 1) f x (by omega) (same (by rw [pbv]; simp [z0]))
    · rw [if_neg (by rw [li_0, leI (by omega) (by omega)]; omega), ixT (by omega) (by omega), if_pos rfl, clI (by omega), (hm.2 j lj hl).2]
      by_cases zj : hd0 lj = d
      · rw [if_pos (by rw [zj])]
        by_cases zi : j = i
        · rw [if_pos (by rw [zi])]
          refine ih (j + 1) f x (by omega) (same ?_)
          have : lj = li := by
            rw [zi, hi] at hl
            injection hl with hl
            exact hl.symm
          rw [pbv, this]
          simp
        · rw [if_neg (by rw [eqI (by omega) (by omega)]; exact zi), if_pos rfl, ixT (by omega) (by omega), if_pos rfl, clI (by omega), (hm.2 j lj hl).1, (hm.2 i li hi).1]
          by_cases zd : hd0 li = d
          · obtain ⟨qj, rfl⟩ : ∃ q, lj = d :: q := by
              cases lj with
              | nil => exact hwj.elim
              | cons a q => exact ⟨q, by have zj : a = d := zj; rw [zj]⟩
            obtain ⟨qi, rfl⟩ : ∃ q, li = d :: q := by
              cases li with
              | nil => exact hwi.elim
              | cons a q => exact ⟨q, by have zd : a = d := zd; rw [zd]⟩
            obtain ⟨wj, nj⟩ := hwj.tail (by omega)
            obtain ⟨wi, ni⟩ := hwi.tail (by omega)
            have eb := sm_isBetter (s := t) hw ho hn h6 (show d < 6 by omega) hwj wj hwi wi
            rw [eb, bd_some]
            by_cases zr : rkL c (d :: qj) < rkL c (d :: qi)
            · rw [if_pos zr, if_neg one_ne]
              have hx' := hx rfl
              refine ih (j + 1) f (x + 1) (by omega) (fun _ => ?_)
              rw [pc_succ, if_pos, hx', li_1, adI]
              rw [pbv, rk1_d nj, rk1_d ni]
              simp [zr, hd0]
              omega
            · rw [if_neg zr, if_pos rfl]
              refine ih (j + 1) f x (by omega) (same ?_)
              rw [pbv, rk1_d nj, rk1_d ni]
              simp [zr]
          · obtain ⟨r, er⟩ := sm_isBetter_any (s := t) hn h6 (show d < 6 by omega) hwj hwi
            rw [er, bd_some]
            by_cases zr : r = 0
            · rw [if_pos zr]
              exact ih (j + 1) f x (by omega) (fun q => absurd q zd)
            · rw [if_neg zr]
              exact ih (j + 1) f (x + 1) (by omega) (fun q => absurd q zd)
      · rw [if_neg (by rw [eqI (by omega) (by omega)]; exact zj)]
        exact ih (j + 1) f x (by omega) (same (by rw [pbv]; simp [zj]))
theorem map_nodup {ρ : Nat → Nat} : ∀ u : Nat, (∀ v w, v < w → w < u → ρ v ≠ ρ w) → ((List.range u).map ρ).Nodup := by
  intro u
  induction u with
  | zero => intro _; simp
  | succ u ih =>
    intro h
    rw [List.range_succ, List.map_append, List.nodup_append]
    refine ⟨ih (fun v w a b => h v w a (by omega)), by simp, fun x hx y hy => ?_⟩
    rw [List.mem_map] at hx
    obtain ⟨v, hv, rfl⟩ := hx
    rw [List.mem_range] at hv
    simp at hy
    subst hy
    exact h v u hv (by omega)
theorem pc_rank {c : Nat → Int32} {L : List (List Nat)} {d : Nat} {ρ : Nat → Nat} {s : mx_G} (hr : RD c L d ρ s) (hd : 0 < d) {u : Nat} (hu : u < cn d L) : pc c L d (ρ u) L.length = u := by
  obtain ⟨-, lu, hlu, hdu⟩ := hr.2.1 u hu
  have inj : ∀ v w, v < w → w < cn d L → ρ v ≠ ρ w := fun v w a b e => by
    obtain ⟨-, lv, hlv, -⟩ := hr.2.1 v (by omega)
    obtain ⟨-, lw, hlw, -⟩ := hr.2.1 w b
    have := hr.2.2.1 v w lv lw a b hlv hlw
    rw [e, hlw] at hlv
    injection hlv with hlv
    rw [hlv] at this
    omega
  have hB := map_nodup (ρ := ρ) u (fun v w a b => inj v w a (by omega))
  have hA : ((List.range L.length).filter (pb c L d (ρ u))).Nodup := (List.nodup_range).filter _
  have mem : ∀ j, j ∈ (List.range L.length).filter (pb c L d (ρ u)) ↔ j ∈ (List.range u).map ρ := by
    intro j
    rw [List.mem_filter, List.mem_range, List.mem_map]
    constructor
    · rintro ⟨h1, h2⟩
      have hl : L[j]? = some (L[j]'h1) := List.getElem?_eq_getElem h1
      generalize L[j]'h1 = lj at hl
      unfold pb at h2
      rw [hlu, hl] at h2
      simp at h2
      obtain ⟨v, hv, e⟩ := hr.2.2.2 j lj hl h2.1.2
      refine ⟨v, List.mem_range.mpr ?_, e⟩
      rcases Nat.lt_trichotomy v u with z | z | z
      · exact z
      · exfalso
        subst z
        rw [e, hl] at hlu
        injection hlu with hlu
        rw [hlu] at h2
        omega
      · exfalso
        have := hr.2.2.1 u v lu lj z hv hlu (by rw [e]; exact hl)
        omega
    · rintro ⟨v, hv, rfl⟩
      rw [List.mem_range] at hv
      obtain ⟨-, lv, hlv, hdv⟩ := hr.2.1 v (by omega)
      refine ⟨get_lt hlv, ?_⟩
      unfold pb
      rw [hlu, hlv]
      have := hr.2.2.1 v u lv lu hv hu hlv hlu
      simp [hd, hdv, this]
  have l1 := nodup_len _ _ hA (fun x hx => (mem x).mp hx)
  have l2 := nodup_len _ _ hB (fun x hx => (mem x).mpr hx)
  rw [List.length_map, List.length_range] at l1 l2
  unfold pc
  omega
