/-! PURE PART: why: is it a row of domains; both -/
theorem sx_why29 {s : mx_G} {n : Nat} (h6 : n ≤ 6) (h0 : s.1 2 0 = nI n) (a1 : Int32) (L : Nat) (hL : L ≤ 6) : ∀ (m : Nat) (p : List Nat) (k f : Nat), p.length = m → k + m = L → Dg p → lX10_why_29 a1 (nI L) (m + 1 + f) (nI (wnum p)) (nI k) s = if ∀ x ∈ p, x < n then (mv_bind (fX10_reasonAgainst a1 (nI L) s) fun x3 s4 => some (x3, s4)) else some (-1, s) := by
  have hsz : fX9_size s = some (nI n, s) := by
    unfold fX9_size
    simp (disch := omega) only [li_0, ixT, clI, if_true, h0]
  intro m
  induction m with
  | zero =>
    intro p k f hp hk h
    have : p = [] := List.eq_nil_of_length_eq_zero hp
    subst this
    rw [show 0 + 1 + f = f + 1 by omega, lX10_why_29, if_pos (nI_le (by omega) (by omega)), if_pos (fun x hx => by simp at hx)]
  | succ m ih =>
    intro p k f hp hk h
    obtain ⟨q, x, rfl, hq⟩ := snoc_of p m hp
    have hb := wnum_lt h
    have hp8 := pow8 (n := m + 1) (by omega)
    have hx := h.snoc.2
    rw [hp] at hb
    have e1 : mv_rem (nI (wnum (q ++ [x]))) 10 = nI x := by rw [li_10, rmI (by omega) (by omega) (by omega), wnum_snoc, show (wnum q * 10 + x) % 10 = x by omega]
    have e2 : nI (wnum (q ++ [x])) / 10 = nI (wnum q) := by rw [li_10, dvI (by omega) (by omega) (by omega), wnum_snoc, show (wnum q * 10 + x) / 10 = wnum q by omega]
    have e3 : nI k + 1 = nI (k + 1) := by rw [li_1, adI]
    rw [show m + 1 + 1 + f = (m + 1 + f) + 1 by omega, lX10_why_29, if_neg (nI_ge (by omega) (by omega)), hsz, bd_some, e1]
    by_cases z : x < n
    · rw [if_pos (show nI x < nI n by rw [ltI (by omega) (by omega)]; exact z), mv_let, e2, e3, ih q (k + 1) f hq (by omega) h.snoc.1]
      have : (∀ y ∈ q ++ [x], y < n) ↔ (∀ y ∈ q, y < n) := by
        constructor
        · intro g y hy; exact g y (by simp [hy])
        · intro g y hy
          rcases List.mem_append.mp hy with hy | hy
          · exact g y hy
          · rw [List.mem_singleton] at hy; omega
      simp only [this]
    · rw [if_neg (show ¬ nI x < nI n by rw [ltI (by omega) (by omega)]; exact z), if_neg (fun g => z (g x (by simp)))]
theorem sm_isRow0 (s : mx_G) : ∀ (L v f : Nat), v < 10 ^ L → L ≤ 8 → lX11_isRow_35 (L + 1 + f) 0 (nI v) s = some (0, s) := by
  intro L
  induction L with
  | zero =>
    intro v f h _
    have : v = 0 := by simpa using h
    subst this
    rw [show 0 + 1 + f = f + 1 by omega, lX11_isRow_35, if_pos (by decide), if_pos (by decide)]
  | succ L ih =>
    intro v f h h8
    have hp := pow8 h8
    rw [show L + 1 + 1 + f = (L + 1 + f) + 1 by omega, lX11_isRow_35]
    by_cases z : v = 0
    · subst z
      rw [if_pos (by decide), if_pos (by decide)]
    · rw [if_neg (by rw [li_0, leI (by omega) (by omega)]; omega)]
      simp only [mv_let]
      rw [if_pos trivial, li_10, dvI (by omega) (by omega) (by omega)]
      rw [Nat.pow_succ] at h
      exact ih (v / 10) f (by omega) (by omega)
theorem sm_isRow1 {s : mx_G} {n : Nat} (h6 : n ≤ 6) (h0 : s.1 46 0 = nI n) : ∀ (m : Nat) (p : List Nat) (f : Nat), p.length = m → m ≤ 8 → Dg p → (p = [] ∨ ∃ d r, p = d :: r ∧ 0 < d) → lX11_isRow_35 (m + 1 + f) 1 (nI (wnum p)) s = some (if ∀ x ∈ p, x < n then 1 else 0, s) := by
  have hx0 : ix 0 128 = true := by rw [li_0]; exact ixT (by omega) (by omega)
  have hz : Int32.toNatClampNeg 0 = 0 := by decide
  intro m
  induction m with
  | zero =>
    intro p f hp _ h _
    have : p = [] := List.eq_nil_of_length_eq_zero hp
    subst this
    rw [show 0 + 1 + f = f + 1 by omega, lX11_isRow_35, if_pos (by decide), if_pos (by decide), if_pos (fun x hx => by simp at hx)]
  | succ m ih =>
    intro p f hp h8 h hl
    have hl : ∃ d r, p = d :: r ∧ 0 < d := by
      rcases hl with rfl | hl
      · simp at hp
      · exact hl
    obtain ⟨q, x, rfl, hq⟩ := snoc_of p m hp
    have hb := wnum_lt h
    have hp8 := pow8 (n := m + 1) (by omega)
    have hx := h.snoc.2
    rw [hp] at hb
    have hpos : 0 < wnum (q ++ [x]) := by
      obtain ⟨d, r, e, hd⟩ := hl
      rw [e]
      have := wnum_ge d r hd
      have h2 : 0 < 10 ^ r.length := Nat.pow_pos (by omega)
      omega
    have e1 : mv_rem (nI (wnum (q ++ [x]))) 10 = nI x := by rw [li_10, rmI (by omega) (by omega) (by omega), wnum_snoc, show (wnum q * 10 + x) % 10 = x by omega]
    have e2 : nI (wnum (q ++ [x])) / 10 = nI (wnum q) := by rw [li_10, dvI (by omega) (by omega) (by omega), wnum_snoc, show (wnum q * 10 + x) / 10 = wnum q by omega]
    rw [show m + 1 + 1 + f = (m + 1 + f) + 1 by omega, lX11_isRow_35, if_neg (by rw [li_0, leI (by omega) (by omega)]; omega)]
    simp only [mv_let]
    rw [if_neg one_ne, if_pos hx0, hz, h0, e1, e2]
    by_cases z : x < n
    · have hl2 : q = [] ∨ ∃ d r, q = d :: r ∧ 0 < d := by
        obtain ⟨d, r, e, hd⟩ := hl
        cases q with
        | nil => exact Or.inl rfl
        | cons y q =>
          rw [List.cons_append] at e
          injection e with e1 e2
          exact Or.inr ⟨y, q, rfl, by omega⟩
      rw [if_neg (by rw [leI (by omega) (by omega)]; omega), ih q f hq (by omega) h.snoc.1 hl2]
      have : (∀ y ∈ q ++ [x], y < n) ↔ (∀ y ∈ q, y < n) := by
        constructor
        · intro g y hy; exact g y (by simp [hy])
        · intro g y hy
          rcases List.mem_append.mp hy with hy | hy
          · exact g y hy
          · rw [List.mem_singleton] at hy; omega
      simp only [this]
    · have hbq := wnum_lt h.snoc.1
      rw [hq] at hbq
      rw [if_pos (by rw [leI (by omega) (by omega)]; omega), sm_isRow0 s m (wnum q) f hbq (by omega), if_neg (fun g => z (g x (by simp)))]
section ACT
variable {IC : Nat → mx_G → Prop}
theorem ok_why (hC : ICok IC) : pv_why (Inv IC) := by
  intro k σ p1 hk h
  obtain ⟨n2, n6, nx0, nm⟩ := h.n
  have hn : 0 < N (σ.1 2) 0 := by omega
  rcases rng_cases 999999 (by omega) 999999 (by decide) 999999 rfl p1 with ⟨v, hv, rfl, g1, g2, m2⟩ | ⟨g, m2⟩
  · by_cases h10 : v % 10 = 0
    · obtain ⟨ds, hdg, hld, rfl, hlen⟩ := digs 5 v (by omega)
      have hlen : ds.length ≤ 6 := hlen
      have hpos : 0 < ds.length := by obtain ⟨d, r, rfl, -⟩ := hld; simp
      obtain ⟨f, hf⟩ := FU_lt (n := ds.length) (by omega)
      have r10 : mv_rem (nI (wnum ds)) 10 = 0 := by rw [li_10, rmI (by omega) (by omega) (by omega), h10]; rfl
      have eX : fX10_why (nI (wnum ds)) σ = lX10_why_29 (nI (wnum ds)) (nI ds.length) FU (nI (wnum ds)) 0 σ := by
        unfold fX10_why
        rw [if_neg g1, if_neg (by rw [li_1000000, leI (by omega) (by omega)]; omega), if_pos r10, sx_figuresOf hdg hld hlen, bd_some]
      have eX2 := sx_why29 n6 nx0 (nI (wnum ds)) ds.length hlen ds.length ds 0 f rfl (by omega) hdg
      rw [← hf] at eX2
      have eM : fX11_isRow (nI (wnum ds)) σ = some (if ∀ x ∈ ds, x < N (σ.1 2) 0 then 1 else 0, σ) := by
        unfold fX11_isRow
        rw [m2 σ, bd_some]
        simp only [mv_let]
        rw [if_neg one_ne, if_pos r10, if_neg one_ne, hf]
        obtain ⟨d, r, rfl, hl⟩ := hld
        rcases hl with rfl | hd
        · by_cases hd0 : d = 0
          · subst hd0
            have : wnum [0] = wnum [] := rfl
            rw [this, show ([0] : List Nat).length + 1 + f = 0 + 1 + (1 + f) by simp; omega, sm_isRow1 n6 nm 0 [] (1 + f) rfl (by omega) (fun x hx => by simp at hx) (Or.inl rfl), if_pos (fun x hx => by simp at hx), if_pos (fun x hx => by rw [List.mem_singleton] at hx; omega)]
          · exact sm_isRow1 n6 nm _ [d] f rfl (by simp) hdg (Or.inr ⟨d, [], rfl, by omega⟩)
        · exact sm_isRow1 n6 nm _ (d :: r) f rfl (by omega) hdg (Or.inr ⟨d, r, rfl, hd⟩)
      by_cases hgd : ∀ x ∈ ds, x < N (σ.1 2) 0
      · have h6 : ∀ x ∈ ds, x < 6 := fun x hx => by have := hgd x hx; omega
        obtain ⟨p, x, rfl, hp⟩ := snoc_of ds (ds.length - 1) (by omega)
        have hx0 : x = 0 := by
          rw [wnum_snoc] at h10
          have := hdg.snoc.2
          omega
        subst hx0
        have hpl : (p ++ [0]).length = p.length + 1 := by simp
        obtain ⟨f2, hf2⟩ := FU_lt (n := p.length) (by omega)
        have hb := wnum_lt hdg
        have hp8 := pow8 (n := (p ++ [0]).length) (by omega)
        have e2 : nI (wnum (p ++ [0])) / 10 = nI (wnum p) := by rw [li_10, dvI (by omega) (by omega) (by omega), wnum_snoc, show (wnum p * 10 + 0) / 10 = wnum p by omega]
        have e3 : nI (p.length + 1) - 2 = nI p.length + (-1) := by
          cases hpp : p.length with
          | zero => decide
          | succ t => rw [pk_m1, li_2, suI (by omega), show t + 1 + 1 - 2 = t by omega]
        have eR := sx_reasons (s := σ) p.reverse [0] f2 (fun x hx => h6 x (by rw [List.mem_reverse] at hx; simp [hx])) (fun x hx => by rw [List.mem_singleton] at hx; omega) (by simp) (by rw [List.length_reverse]; omega)
        rw [List.reverse_reverse, List.length_reverse, ← hf2] at eR
        have eS := sm_whys h.1.1 h.1.2 hdg hld (by omega) h6 p.reverse [0] f2 (by rw [List.reverse_reverse]) (by simp)
        rw [List.length_reverse, ← hf2] at eS
        refine ⟨nI (rg (σ.1 2) p.reverse [0]), σ, σ, ?_, ?_, h.sc hC (Sc.rf σ)⟩
        · rw [eX, li_0, eX2, if_pos hgd]
          unfold fX10_reasonAgainst
          simp only [mv_let]
          rw [e2, hpl, e3]
          have eR : lX10_reasonAgainst_20 _ FU (nI (wnum p)) 1 0 9 (nI p.length + (-1)) σ = _ := eR
          rw [eR, bd_some]
        · show fX11_why _ σ = _
          unfold fX11_why
          rw [eM, if_pos hgd, bd_some, if_neg one_ne, sm_figures hdg hld (by omega), bd_some]
          simp only [mv_let]
          rw [hpl, e3]
          exact eS
      · refine pv_same hC h (-1) ?_ ?_
        · rw [eX, li_0, eX2, if_neg hgd]
        · show fX11_why _ σ = _
          unfold fX11_why
          rw [eM, if_neg hgd, bd_some, if_pos rfl]
    · have r10 : ¬ mv_rem (nI v) 10 = 0 := by rw [li_10, rmI (by omega) (by omega) (by omega), li_0, eqI (by omega) (by omega)]; exact h10
      obtain ⟨f, hf⟩ := FU_lt (n := 0) (by omega)
      have e0 : lX11_isRow_35 FU 0 0 σ = some (0, σ) := by rw [hf]; exact sm_isRow0 σ 0 0 f (by decide) (by omega)
      refine pv_same hC h (-1) ?_ ?_
      · unfold fX10_why
        rw [if_neg g1, if_neg (by rw [li_1000000, leI (by omega) (by omega)]; omega), if_neg r10]
      · show fX11_why _ σ = _
        unfold fX11_why fX11_isRow
        rw [m2 σ, bd_some]
        simp only [mv_let]
        rw [if_neg one_ne, if_neg r10, if_pos trivial, e0, bd_some, if_pos rfl]
  · obtain ⟨f, hf⟩ := FU_lt (n := 0) (by omega)
    have e0 : lX11_isRow_35 FU 0 0 σ = some (0, σ) := by rw [hf]; exact sm_isRow0 σ 0 0 f (by decide) (by omega)
    refine pv_same hC h (-1) ?_ ?_
    · unfold fX10_why
      by_cases g0 : p1 < 0
      · rw [if_pos g0]
      · rw [if_neg g0, if_pos ?_]
        rcases g with g | g
        · exact absurd g g0
        · rw [Int32.le_iff_toInt_le] at g ⊢
          have e1 : (999999 : Int32).toInt = 999999 := by decide
          have e2 : (1000000 : Int32).toInt = 1000000 := by decide
          omega
    · show fX11_why _ σ = _
      unfold fX11_why fX11_isRow
      rw [m2 σ, bd_some]
      simp only [mv_let]
      rw [if_pos trivial, if_pos trivial, e0, bd_some, if_pos rfl]
end ACT
