/-! PURE PART: the best of what is on offer -/
theorem shr_bit : ∀ t : Nat, t < 64 → ∀ d : Nat, d < 6 → ((mv_shr (nI t) (nI d) &&& 1 = 1) ↔ t.testBit d = true) := by decide +kernel
theorem tk_way {c : Nat → Int32} (ho : WOK c) {n d : Nat} (hn : 0 < n) (h6 : n ≤ 6) (hd0 : 0 < d) (hd : d < n) {l : List Nat} (h : Way n l) (ht : tk c d l) : Way n (d :: l) := by
  have hlt : ∀ x ∈ l, x < 6 := fun x hx => by have := h.lt hn x hx; omega
  have hms := ms_lt hlt
  have b3 := ho.2.1 (7 + d) (by omega)
  have b4 := (ho.2.2.2.1 d (by omega)).2
  have hb := tk_bits (ms l) hms d (by omega) (N c (7 + d)) b4
  rw [← b3] at hb
  have h1 := (hb.mp ht.2.2.1).1
  rw [shr_bit _ hms d (by omega), ms_bit] at h1
  have h2 : d ∉ l := fun z => h1 (by simp [z])
  cases l with
  | nil => exact h.elim
  | cons e r => exact ⟨hd0, hd, h2, h⟩
/-- the rank of a way: the less the better -/
def rkL (c : Nat → Int32) : List Nat → Nat
  | [] => 0
  | d :: l => ((((if c (1 + d) &&& 1 = 0 then 0 else N c (13 + d * 6 + hd0 l)) * 10 + 9 - N c (85 + d * 6 + hd0 l)) * 8) + (l.length + 1)) * 1000000 + wnum (d :: l)
theorem sx_rankOf {s : mx_G} (ho : WOK (s.1 2)) {d : Nat} {l : List Nat} (hd : d < 6) (he : hd0 l < 6) : fX9_rankOf (nI d) (nI (hd0 l)) (nI (l.length + 1)) (nI (wnum (d :: l))) s = some (nI (rkL (s.1 2) (d :: l)), s) := by
  have b := ho.2.2.2.2.1 d (hd0 l) hd he
  have g1 := ho.2.1 (13 + d * 6 + hd0 l) (by omega)
  have g2 := ho.2.1 (85 + d * 6 + hd0 l) (by omega)
  unfold fX9_rankOf rkL
  rw [show (13 : Int32) = nI 13 from rfl, show (85 : Int32) = nI 85 from rfl, show (6 : Int32) = nI 6 from rfl, show (10 : Int32) = nI 10 from rfl, show (9 : Int32) = nI 9 from rfl, show (8 : Int32) = nI 8 from rfl, show (1000000 : Int32) = nI 1000000 from rfl]
  simp (disch := omega) only [mv_let, muI, adI, ixT, clI, if_true, ← Nat.add_assoc, g2]
  have e1 : (1 : Int32) + nI d = nI (1 + d) := by rw [li_1, adI]
  rw [e1]
  simp (disch := omega) only [ixT, clI, if_true]
  by_cases h : s.1 2 (1 + d) &&& 1 = 0
  · rw [if_pos h, if_pos h, show (0 : Int32) = nI 0 from rfl, muI, adI, suI (by omega), muI, adI, muI, adI, Nat.add_assoc _ l.length 1]
  · rw [if_neg h, if_neg h, g1, muI, adI, suI (by omega), muI, adI, muI, adI, Nat.add_assoc _ l.length 1]
theorem sx_together_l (e : Nat) (he : e < 6) (K : Int32 → mx_G → Option (Int32 × mx_G)) (s : mx_G) (L : Nat) (hL : L ≤ 6) (hs : s.1 13 e = nI L) : ∀ (m a k f : Nat), k + m = L → lX0_together_5 (nI e) K (m + 1 + f) (nI a) (nI k) s = K (nI (a * 10 ^ m)) s := by
  intro m
  induction m with
  | zero =>
    intro a k f h
    rw [show 0 + 1 + f = f + 1 by omega, lX0_together_5]
    simp (disch := omega) only [ixT, clI, if_true, hs]
    rw [if_pos (nI_le (by omega) (by omega)), Nat.pow_zero, Nat.mul_one]
  | succ m ih =>
    intro a k f h
    rw [show m + 1 + 1 + f = (m + 1 + f) + 1 by omega, lX0_together_5]
    simp (disch := omega) only [ixT, clI, if_true, hs]
    rw [if_neg (nI_ge (by omega) (by omega))]
    simp only [mv_let]
    rw [li_10, li_1, muI, adI, ih (a * 10) (k + 1) f (by omega), Nat.pow_succ, Nat.mul_assoc, Nat.mul_comm 10]
theorem sx_together {s : mx_G} {w : Nat → Option (List Nat)} (hl : LD s w) {n d e : Nat} (hn : 0 < n) (h6 : n ≤ 6) (he : e < 6) {l : List Nat} (hw : w e = some l) (h : Way n l) : fX0_together (nI d) (nI e) s = some (nI (wnum (d :: l)), s) := by
  have hlen := h.len hn
  obtain ⟨r1, -, -, r4⟩ := hl e he
  rw [hw] at r1 r4
  have r1 : s.1 10 e = nI (wnum l) := r1
  have r4 : s.1 13 e = nI l.length := r4
  obtain ⟨f, hf⟩ := FU_lt (n := l.length) (by omega)
  unfold fX0_together
  rw [hf, li_0, sx_together_l e he _ s l.length (by omega) r4 l.length d 0 f (by omega)]
  simp (disch := omega) only [ixT, clI, if_true, r1, adI]
  rfl
def better (c : Nat → Int32) (o : Option (List Nat)) (x : List Nat) : Option (List Nat) :=
  match o with
  | none => some x
  | some b => if rkL c x < rkL c b then some x else some b
def bs (c : Nat → Int32) (w : Nat → Option (List Nat)) (d : Nat) : Nat → Option (List Nat)
  | 0 => none
  | e + 1 => match w e with
    | none => bs c w d e
    | some l => if tk c d l then better c (bs c w d e) (d :: l) else bs c w d e
def okC (n : Nat) (w : Nat → Option (List Nat)) : Prop := w 0 = some [0] ∧ ∀ d : Nat, d < 6 → ∀ l, w d = some l → Way n l ∧ hd0 l = d
theorem bs_ok {c : Nat → Int32} (ho : WOK c) {n d : Nat} (hn : 0 < n) (h6 : n ≤ 6) (hd0 : 0 < d) (hd : d < n) {w : Nat → Option (List Nat)} (hw : okC n w) : ∀ e : Nat, e ≤ 6 → ∀ b, bs c w d e = some b → ∃ l, b = d :: l ∧ Way n l ∧ tk c d l := by
  intro e
  induction e with
  | zero => intro _ b h; cases h
  | succ e ih =>
    intro he b h
    rw [bs] at h
    cases hwe : w e with
    | none => rw [hwe] at h; exact ih (by omega) b h
    | some l =>
      rw [hwe] at h
      obtain ⟨g1, g2⟩ := hw.2 e (by omega) l hwe
      by_cases ht : tk c d l
      · simp only [if_pos ht] at h
        cases hbe : bs c w d e with
        | none =>
          rw [hbe] at h
          have h : some (d :: l) = some b := h
          injection h with h
          exact ⟨l, h.symm, g1, ht⟩
        | some q =>
          rw [hbe] at h
          have h : (if rkL c (d :: l) < rkL c q then some (d :: l) else some q) = some b := h
          by_cases z : rkL c (d :: l) < rkL c q
          · rw [if_pos z] at h
            injection h with h
            exact ⟨l, h.symm, g1, ht⟩
          · rw [if_neg z] at h
            injection h with h
            rw [← h]
            exact ih (by omega) q hbe
      · simp only [if_neg ht] at h
        exact ih (by omega) b h
theorem rk_bd {c : Nat → Int32} (ho : WOK c) {n d : Nat} (hn : 0 < n) (h6 : n ≤ 6) {l : List Nat} (hd : d < 6) (h : Way n (d :: l)) (h' : Way n l) : rkL c (d :: l) < 400000000 ∧ rkL c (d :: l) % 1000000 = wnum (d :: l) := by
  have b := ho.2.2.2.2.1 d (hd0 l) hd (by have := hd0_lt hn h'; omega)
  have hlen := h.len hn
  have hb := wnum_lt (h.dg hn h6)
  have hp : 10 ^ (d :: l).length ≤ 10 ^ 6 := Nat.pow_le_pow_right (by omega) (by omega)
  have hlen2 : l.length + 1 ≤ n := hlen
  have hq : (if c (1 + d) &&& 1 = 0 then 0 else N c (13 + d * 6 + hd0 l)) ≤ 3 := by split <;> omega
  have b9 := b.2.2.1
  rw [rkL]
  generalize (if c (1 + d) &&& 1 = 0 then 0 else N c (13 + d * 6 + hd0 l)) = x at hq ⊢
  generalize N c (85 + d * 6 + hd0 l) = y at b9 ⊢
  generalize wnum (d :: l) = v at hb ⊢
  have hv : v < 1000000 := by omega
  constructor <;> omega
theorem min_lt {a b : Nat} (ha : a < 2147483648) (hb : b < 2147483648) : mv_min (nI a) (nI b) = nI (if b < a then b else a) := by
  unfold mv_min
  by_cases h : b < a
  · rw [if_pos (show nI b < nI a by rw [ltI hb ha]; exact h), if_pos h]
  · rw [if_neg (show ¬ nI b < nI a by rw [ltI hb ha]; exact h), if_neg h]
theorem nI_ne4 {m : Nat} (h : m < 2147483648) : ¬ nI m = -4 := by
  intro z
  have e := congrArg Int32.toInt z
  rw [nI_toInt h] at e
  have : (-4 : Int32).toInt = -4 := by decide
  omega
def mn (c : Nat → Int32) : Option (List Nat) → Nat
  | none => 2147483647
  | some b => rkL c b
theorem mn_better {c : Nat → Int32} (o : Option (List Nat)) (x : List Nat) (hx : rkL c x < 2147483647) : mn c (better c o x) = if rkL c x < mn c o then rkL c x else mn c o := by
  cases o with
  | none =>
    show rkL c x = if rkL c x < 2147483647 then _ else _
    rw [if_pos hx]
  | some b =>
    show mn c (if rkL c x < rkL c b then some x else some b) = if rkL c x < rkL c b then _ else _
    by_cases h : rkL c x < rkL c b
    · rw [if_pos h, if_pos h]; rfl
    · rw [if_neg h, if_neg h]
theorem mn_bd {c : Nat → Int32} (ho : WOK c) {n d : Nat} (hn : 0 < n) (h6 : n ≤ 6) (hd0 : 0 < d) (hd : d < n) {w : Nat → Option (List Nat)} (hw : okC n w) (e : Nat) (he : e ≤ 6) : mn c (bs c w d e) < 2147483648 := by
  cases h : bs c w d e with
  | none => show 2147483647 < 2147483648; omega
  | some b =>
    obtain ⟨l, rfl, g1, g2⟩ := bs_ok ho hn h6 hd0 hd hw e he b h
    have := (rk_bd ho hn h6 (show d < 6 by omega) (tk_way ho hn h6 hd0 hd g1 g2) g1).1
    show rkL c (d :: l) < _
    omega
theorem sx_best_l {s : mx_G} {c : Nat → Int32} (hc : s.1 2 = c) (ho : WOK c) {n d : Nat} (h0 : c 0 = nI n) (hn : 0 < n) (h6 : n ≤ 6) (hd0 : 0 < d) (hd : d < n) {w : Nat → Option (List Nat)} (hw : okC n w) (hl : LD s w) (K : Int32 → mx_G → Option (Int32 × mx_G)) : ∀ (m e f : Nat), e + m = n → lX0_best_12 (nI d) K (m + 1 + f) (nI (mn c (bs c w d e))) (nI e) s = K (nI (mn c (bs c w d n))) s := by
  subst hc
  have hsz : fX9_size s = some (nI n, s) := by
    unfold fX9_size
    simp (disch := omega) only [li_0, ixT, clI, if_true, h0]
  intro m
  induction m with
  | zero =>
    intro e f h
    rw [show 0 + 1 + f = f + 1 by omega, lX0_best_12, hsz, bd_some, if_pos (nI_le (by omega) (by omega)), show e = n by omega]
  | succ m ih =>
    intro e f h
    have hi := ih (e + 1) f (by omega)
    have hb := mn_bd ho hn h6 hd0 hd hw e (by omega)
    rw [show m + 1 + 1 + f = (m + 1 + f) + 1 by omega, lX0_best_12, hsz, bd_some, if_neg (nI_ge (by omega) (by omega))]
    obtain ⟨r1, r2, r3, r4⟩ := hl e (by omega)
    have e1 : nI e + 1 = nI (e + 1) := by rw [li_1, adI]
    simp (disch := omega) only [ixT, clI, if_true, r1, r2, r3, r4, e1]
    cases hwe : w e with
    | none =>
      rw [bs, hwe] at hi
      rw [if_pos (show val none = -4 from rfl)]
      exact hi
    | some l =>
      obtain ⟨g1, g2⟩ := hw.2 e (by omega) l hwe
      rw [bs, hwe] at hi
      have hlen := g1.len hn
      have hwb := wnum_lt (g1.dg hn h6)
      have hp8 := pow8 (n := l.length) (by omega)
      have ht : fX9_takes (nI d) (nI e) (nI (ms l)) (nI (sec l)) s = some (if tk (s.1 2) d l then 1 else 0, s) := by
        have q := sx_takes (s := s) hn h6 (show d < 6 by omega) g1
        rw [← q, g2]
      rw [if_neg (show ¬ val (some l) = -4 from nI_ne4 (by omega))]
      show mv_bind (fX9_takes (nI d) (nI e) (nI (ms l)) (nI (sec l)) s) _ = _
      rw [ht, bd_some]
      by_cases hk : tk (s.1 2) d l
      · rw [if_pos hk, if_neg one_ne]
        have hway := tk_way ho hn h6 hd0 hd g1 hk
        have hbd := (rk_bd ho hn h6 (show d < 6 by omega) hway g1).1
        have hr := sx_rankOf (s := s) (by exact ho) (show d < 6 by omega) (l := l) (by omega)
        rw [g2] at hr
        rw [sx_together hl hn h6 (by omega) hwe g1, bd_some]
        have e2 : nI (len (some l)) + 1 = nI (l.length + 1) := by rw [li_1]; exact adI _ _
        rw [r4, hwe, e2, hr, bd_some]
        simp only [mv_let]
        rw [min_lt hb (by omega), ← mn_better _ _ (by omega)]
        simp only [if_pos hk] at hi
        exact hi
      · rw [if_neg hk, if_pos rfl]
        simp only [if_neg hk] at hi
        exact hi
theorem sx_best {s : mx_G} (ho : WOK (s.1 2)) {n d : Nat} (h0 : s.1 2 0 = nI n) (hn : 0 < n) (h6 : n ≤ 6) (hd0 : 0 < d) (hd : d < n) {w : Nat → Option (List Nat)} (hw : okC n w) (hl : LD s w) : fX0_best (nI d) s = some (val (bs (s.1 2) w d n), s) := by
  obtain ⟨f, hf⟩ := FU_lt (n := n) (by omega)
  unfold fX0_best
  have e := sx_best_l rfl ho h0 hn h6 hd0 hd hw hl (fun y11 s10 => if y11 = 2147483647 then some ((-4), s10) else some (mv_rem y11 1000000, s10)) n 0 f (by omega)
  rw [← hf] at e
  rw [if_neg (show ¬ nI d = 0 by rw [li_0, eqI (by omega) (by omega)]; omega)]
  refine Eq.trans e ?_
  cases h : bs (s.1 2) w d n with
  | none => rfl
  | some b =>
    obtain ⟨l, rfl, g1, g2⟩ := bs_ok ho hn h6 hd0 hd hw n h6 b h
    obtain ⟨q1, q2⟩ := rk_bd ho hn h6 (show d < 6 by omega) (tk_way ho hn h6 hd0 hd g1 g2) g1
    show (if nI (rkL (s.1 2) (d :: l)) = 2147483647 then _ else _) = _
    rw [if_neg (show ¬ nI (rkL (s.1 2) (d :: l)) = 2147483647 by rw [show (2147483647 : Int32) = nI 2147483647 from rfl, eqI (by omega) (by omega)]; omega), show (1000000 : Int32) = nI 1000000 from rfl, show mn (s.1 2) (some (d :: l)) = rkL (s.1 2) (d :: l) from rfl, rmI (by omega) (by omega) (by omega), q2]
    rfl
