/-! PURE PART: ways as rows of figures -/
def Dg (ds : List Nat) : Prop := ∀ d ∈ ds, d < 10
theorem wnum_snoc (p : List Nat) (x : Nat) : wnum (p ++ [x]) = wnum p * 10 + x := by
  induction p with
  | nil => simp [wnum]
  | cons d p ih =>
    rw [List.cons_append, wnum, wnum, ih, List.length_append, List.length_singleton, Nat.pow_succ, Nat.add_mul, ← Nat.mul_assoc]
    omega
theorem snoc_of (p : List Nat) (n : Nat) (h : p.length = n + 1) : ∃ q x, p = q ++ [x] ∧ q.length = n := by
  have hne : p ≠ [] := by intro z; rw [z] at h; simp at h
  exact ⟨p.dropLast, p.getLast hne, (List.dropLast_concat_getLast hne).symm, by rw [List.length_dropLast, h]; rfl⟩
theorem Dg.snoc {q : List Nat} {x : Nat} (h : Dg (q ++ [x])) : Dg q ∧ x < 10 := ⟨fun d hd => h d (List.mem_append_left _ hd), h x (by simp)⟩
theorem wnum_lt {ds : List Nat} (h : Dg ds) : wnum ds < 10 ^ ds.length := by
  induction ds with
  | nil => simp [wnum]
  | cons d r ih =>
    have h1 := ih (fun x hx => h x (List.mem_cons_of_mem _ hx))
    have h2 : d < 10 := h d List.mem_cons_self
    rw [wnum, List.length_cons, Nat.pow_succ]
    have : d * 10 ^ r.length ≤ 9 * 10 ^ r.length := Nat.mul_le_mul_right _ (by omega)
    omega
theorem wnum_ge (d : Nat) (r : List Nat) (hd : 0 < d) : 10 ^ r.length ≤ wnum (d :: r) := by
  rw [wnum]
  have : 1 * 10 ^ r.length ≤ d * 10 ^ r.length := Nat.mul_le_mul_right _ hd
  omega
/-- as many figures as it has: the first one isn't 0, or it is alone -/
def Ld (ds : List Nat) : Prop := ∃ d r, ds = d :: r ∧ (r = [] ∨ 0 < d)
theorem wnum_div {ds : List Nat} {n : Nat} (h : Dg ds) (hn : ds.length = n + 1) (hl : Ld ds) : wnum ds / 10 < 10 ^ n ∧ (n = 0 ∨ 10 ^ (n - 1) ≤ wnum ds / 10) := by
  have h1 := wnum_lt h
  rw [hn, Nat.pow_succ] at h1
  refine ⟨by omega, ?_⟩
  obtain ⟨d, r, rfl, hr⟩ := hl
  rcases hr with rfl | hd
  · left; simpa using hn.symm
  · cases n with
    | zero => exact Or.inl rfl
    | succ n =>
      right
      have h2 := wnum_ge d r hd
      have hr : r.length = n + 1 := by simpa using hn
      rw [hr, Nat.pow_succ] at h2
      show 10 ^ n ≤ _
      omega
theorem pow8 {n : Nat} (h : n ≤ 8) : 10 ^ n ≤ 100000000 := by
  have : 10 ^ n ≤ 10 ^ 8 := Nat.pow_le_pow_right (by omega) h
  simpa using this
theorem sm_figures_l : ∀ (L r a f : Nat) (s : mx_G), L ≤ 8 → a + L ≤ 100 → r < 10 ^ L → (L = 0 ∨ 10 ^ (L - 1) ≤ r) → lX11_figures_7 (L + 1 + f) (nI a) (nI r) s = some (nI (a + L), s) := by
  intro L
  induction L with
  | zero =>
    intro r a f s _ ha hr _
    rw [show 0 + 1 + f = f + 1 by omega, lX11_figures_7, if_pos (by rw [li_0, leI (by simp at hr; omega) (by omega)]; simp at hr; omega)]
    rfl
  | succ L ih =>
    intro r a f s hL ha hr hg
    have hp := pow8 hL
    have hg : 10 ^ L ≤ r := by rcases hg with z | z; · omega
                               · exact z
    have h1 : 0 < 10 ^ L := Nat.pow_pos (by omega)
    rw [show L + 1 + 1 + f = (L + 1 + f) + 1 by omega, lX11_figures_7, if_neg (by rw [li_0, leI (by omega) (by omega)]; omega), li_10, dvI (by omega) (by omega) (by omega), li_1, adI]
    simp only [mv_let]
    rw [Nat.pow_succ] at hr
    rw [ih (r / 10) (a + 1) f s (by omega) (by omega) (by omega) ?_]
    · rw [show a + 1 + L = a + (L + 1) by omega]
    · cases L with
      | zero => exact Or.inl rfl
      | succ L =>
        right
        rw [Nat.pow_succ] at hg
        show 10 ^ L ≤ _
        omega
theorem sm_figures {ds : List Nat} (h : Dg ds) (hl : Ld ds) (h8 : ds.length ≤ 8) (s : mx_G) : fX11_figures (nI (wnum ds)) s = some (nI ds.length, s) := by
  obtain ⟨n, hn⟩ : ∃ n, ds.length = n + 1 := by obtain ⟨d, r, rfl, -⟩ := hl; exact ⟨r.length, rfl⟩
  have hb := wnum_lt h
  have hp := pow8 h8
  obtain ⟨g1, g2⟩ := wnum_div h hn hl
  obtain ⟨f, hf⟩ := FU_lt (n := n) (by omega)
  unfold fX11_figures
  simp only [mv_let]
  rw [li_10, dvI (by omega) (by omega) (by omega), hf, li_1, sm_figures_l n _ 1 f s (by omega) (by omega) g1 g2, hn, Nat.add_comm]
theorem sx_figuresOf_l : ∀ (L r a k f : Nat) (s : mx_G), L + k ≤ 6 → a + L ≤ 100 → r < 10 ^ L → (L = 0 ∨ 10 ^ (L - 1) ≤ r) → lX10_figuresOf_9 (L + 1 + f) (nI a) (nI r) (nI k) s = some (nI (a + L), s) := by
  intro L
  induction L with
  | zero =>
    intro r a k f s hk ha hr _
    rw [show 0 + 1 + f = f + 1 by omega, lX10_figuresOf_9]
    by_cases h6 : 6 ≤ k
    · rw [if_pos (by rw [li_6, leI (by omega) (by omega)]; exact h6)]; rfl
    · rw [if_neg (by rw [li_6, leI (by omega) (by omega)]; exact h6), if_pos (by rw [li_0, leI (by simp at hr; omega) (by omega)]; simp at hr; omega)]; rfl
  | succ L ih =>
    intro r a k f s hk ha hr hg
    have hp := pow8 (n := L + 1) (by omega)
    have hg : 10 ^ L ≤ r := by rcases hg with z | z; · omega
                               · exact z
    have h1 : 0 < 10 ^ L := Nat.pow_pos (by omega)
    rw [show L + 1 + 1 + f = (L + 1 + f) + 1 by omega, lX10_figuresOf_9, if_neg (by rw [li_6, leI (by omega) (by omega)]; omega), if_neg (by rw [li_0, leI (by omega) (by omega)]; omega), li_10, dvI (by omega) (by omega) (by omega), li_1, adI, adI]
    simp only [mv_let]
    rw [Nat.pow_succ] at hr
    rw [ih (r / 10) (a + 1) (k + 1) f s (by omega) (by omega) (by omega) ?_]
    · rw [show a + 1 + L = a + (L + 1) by omega]
    · cases L with
      | zero => exact Or.inl rfl
      | succ L =>
        right
        rw [Nat.pow_succ] at hg
        show 10 ^ L ≤ _
        omega
theorem sx_figuresOf {ds : List Nat} (h : Dg ds) (hl : Ld ds) (h6 : ds.length ≤ 6) (s : mx_G) : fX10_figuresOf (nI (wnum ds)) s = some (nI ds.length, s) := by
  obtain ⟨n, hn⟩ : ∃ n, ds.length = n + 1 := by obtain ⟨d, r, rfl, -⟩ := hl; exact ⟨r.length, rfl⟩
  have hb := wnum_lt h
  have hp := pow8 (n := ds.length) (by omega)
  obtain ⟨g1, g2⟩ := wnum_div h hn hl
  obtain ⟨f, hf⟩ := FU_lt (n := n) (by omega)
  unfold fX10_figuresOf
  simp only [mv_let]
  rw [li_10, dvI (by omega) (by omega) (by omega), hf, li_1, sx_figuresOf_l n _ 1 1 f s (by omega) (by omega) g1 g2, hn, Nat.add_comm]
theorem sm_figure_l (k : Nat) : ∀ (j w f : Nat) (s : mx_G), k + j ≤ 100 → w < 2147483648 → lX11_figure_9 (nI k) (j + 1 + f) (nI w) (nI (k + j)) s = some (nI (w / 10 ^ j % 10), s) := by
  intro j
  induction j with
  | zero =>
    intro w f s hk hw
    rw [show 0 + 1 + f = f + 1 by omega, lX11_figure_9, if_pos (nI_le (by omega) (by omega)), li_10, rmI hw (by omega) (by omega)]
    simp
  | succ j ih =>
    intro w f s hk hw
    rw [show j + 1 + 1 + f = (j + 1 + f) + 1 by omega, lX11_figure_9, if_neg (nI_ge (by omega) (by omega)), li_10, dvI hw (by omega) (by omega), show k + (j + 1) = (k + j) + 1 by omega, pk_m1]
    simp only [mv_let]
    rw [ih (w / 10) f s (by omega) (by omega), Nat.div_div_eq_div_mul, Nat.pow_succ, Nat.mul_comm]
theorem wnum_at : ∀ (j : Nat) (ds : List Nat), Dg ds → j < ds.length → wnum ds / 10 ^ j % 10 = ds.getD (ds.length - 1 - j) 0 := by
  intro j
  induction j with
  | zero =>
    intro ds h hj
    obtain ⟨q, x, rfl, hq⟩ := snoc_of ds (ds.length - 1) (by omega)
    have := h.snoc.2
    rw [wnum_snoc, Nat.pow_zero, Nat.div_one, List.length_append, List.length_singleton]
    simp
    omega
  | succ j ih =>
    intro ds h hj
    obtain ⟨q, x, rfl, hq⟩ := snoc_of ds (ds.length - 1) (by omega)
    have hx := h.snoc.2
    rw [List.length_append, List.length_singleton] at hj ⊢
    rw [wnum_snoc, Nat.pow_succ, Nat.mul_comm (10 ^ j) 10, ← Nat.div_div_eq_div_mul, show (wnum q * 10 + x) / 10 = wnum q by omega, ih q h.snoc.1 (by omega)]
    rw [List.getD_eq_getElem?_getD, List.getD_eq_getElem?_getD, List.getElem?_append_left (by omega), show q.length + 1 - 1 - (j + 1) = q.length - 1 - j by omega]
theorem sm_figure {ds : List Nat} (h : Dg ds) (hl : Ld ds) (h8 : ds.length ≤ 8) {k : Nat} (hk : k < ds.length) (s : mx_G) : fX11_figure (nI (wnum ds)) (nI k) s = some (nI (ds.getD k 0), s) := by
  have hb := wnum_lt h
  have hp := pow8 h8
  obtain ⟨f, hf⟩ := FU_lt (n := ds.length - 1 - k) (by omega)
  unfold fX11_figure
  rw [sm_figures h hl h8, bd_some]
  simp only [mv_let]
  rw [li_1, suI (by omega), hf]
  have e := sm_figure_l k (ds.length - 1 - k) (wnum ds) f s (by omega) (by omega)
  rw [show k + (ds.length - 1 - k) = ds.length - 1 by omega] at e
  rw [e, wnum_at _ ds h (by omega), show ds.length - 1 - (ds.length - 1 - k) = k by omega]
/-- the set of the figures, as both build it: the last one first -/
def bI (ds : List Nat) (acc : Int32) : Int32 := ds.foldr (fun d a => a ||| mv_shl 1 (nI d)) acc
theorem bI_snoc (q : List Nat) (x : Nat) (acc : Int32) : bI (q ++ [x]) acc = bI q (acc ||| mv_shl 1 (nI x)) := by simp [bI, List.foldr_append]
theorem sm_setOf_l : ∀ (n : Nat) (ds : List Nat) (acc : Int32) (f : Nat) (s : mx_G), Dg ds → ds.length = n → n ≤ 8 → lX11_setOf_9 (n + 1 + f) acc (nI (wnum ds)) (nI n) s = some (bI ds acc, s) := by
  intro n
  induction n with
  | zero =>
    intro ds acc f s h hn _
    have : ds = [] := List.eq_nil_of_length_eq_zero hn
    subst this
    rw [show 0 + 1 + f = f + 1 by omega, lX11_setOf_9, if_pos (by rw [li_0, leI (by omega) (by omega)]; omega)]
    rfl
  | succ n ih =>
    intro ds acc f s h hn h8
    obtain ⟨q, x, rfl, hq⟩ := snoc_of ds n hn
    have hb := wnum_lt h
    have hp := pow8 h8
    rw [hn] at hb
    have hx := h.snoc.2
    rw [show n + 1 + 1 + f = (n + 1 + f) + 1 by omega, lX11_setOf_9, if_neg (by rw [li_0, leI (by omega) (by omega)]; omega), pk_m1, li_10, rmI (by omega) (by omega) (by omega), dvI (by omega) (by omega) (by omega)]
    simp only [mv_let]
    rw [wnum_snoc, show (wnum q * 10 + x) % 10 = x by omega, show (wnum q * 10 + x) / 10 = wnum q by omega, ih q _ f s h.snoc.1 hq (by omega), bI_snoc]
theorem sm_setOf {ds : List Nat} (h : Dg ds) (hl : Ld ds) (h8 : ds.length ≤ 8) (s : mx_G) : fX11_setOf (nI (wnum ds)) s = some (bI ds 0, s) := by
  obtain ⟨f, hf⟩ := FU_lt (n := ds.length) (by omega)
  unfold fX11_setOf
  rw [sm_figures h hl h8, bd_some, hf, sm_setOf_l ds.length ds 0 f s h rfl h8]
theorem sm_ten_l (n : Nat) (h8 : n ≤ 8) : ∀ (m k f : Nat) (s : mx_G), k + m = n → lX11_ten_4 (nI n) (m + 1 + f) (nI (10 ^ k)) (nI k) s = some (nI (10 ^ n), s) := by
  intro m
  induction m with
  | zero =>
    intro k f s h
    rw [show 0 + 1 + f = f + 1 by omega, lX11_ten_4, if_pos (nI_le (by omega) (by omega)), show k = n by omega]
  | succ m ih =>
    intro k f s h
    rw [show m + 1 + 1 + f = (m + 1 + f) + 1 by omega, lX11_ten_4, if_neg (nI_ge (by omega) (by omega)), li_10, li_1, muI, adI]
    simp only [mv_let]
    rw [← Nat.pow_succ, ih (k + 1) f s (by omega)]
theorem sm_ten {n : Nat} (h8 : n ≤ 8) (s : mx_G) : fX11_ten (nI n) s = some (nI (10 ^ n), s) := by
  obtain ⟨f, hf⟩ := FU_lt (n := n) (by omega)
  unfold fX11_ten
  have := sm_ten_l n h8 n 0 f s (by omega)
  rw [hf, li_0, li_1]
  exact this
theorem sm_together {ds : List Nat} (h : Dg ds) (hl : Ld ds) (h8 : ds.length ≤ 8) (d : Nat) (s : mx_G) : fX11_together (nI d) (nI (wnum ds)) s = some (nI (wnum (d :: ds)), s) := by
  unfold fX11_together
  rw [sm_figures h hl h8, bd_some, sm_ten h8, bd_some, muI, adI]
  rfl
