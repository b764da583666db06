/-! PURE PART: count -/
def sx2 (f : Nat → Nat → Nat) (a : Nat) : Nat → Nat → Nat
  | _, 0 => 0
  | b, m + 1 => f a b + sx2 f a (b + 1) m
def SX (f : Nat → Nat → Nat) : Nat → Nat → Nat
  | _, 0 => 0
  | a, m + 1 => sx2 f a (a + 1) (5 - a) + SX f (a + 1) m
def SM (f : Nat → Nat → Nat) : Nat → Nat → Nat
  | _, 0 => 0
  | a, m + 1 => sx2 f a 0 a + SM f (a + 1) m
theorem SX_SM {f g : Nat → Nat → Nat} (h : ∀ a b, a < b → b < 6 → f a b = g b a) : SX f 0 6 = SM g 0 6 := by
  simp only [SX, SM, sx2, Nat.reduceAdd, Nat.reduceSub]
  rw [h 0 1 (by omega) (by omega), h 0 2 (by omega) (by omega), h 0 3 (by omega) (by omega), h 0 4 (by omega) (by omega), h 0 5 (by omega) (by omega), h 1 2 (by omega) (by omega), h 1 3 (by omega) (by omega), h 1 4 (by omega) (by omega), h 1 5 (by omega) (by omega), h 2 3 (by omega) (by omega), h 2 4 (by omega) (by omega), h 2 5 (by omega) (by omega), h 3 4 (by omega) (by omega), h 3 5 (by omega) (by omega), h 4 5 (by omega) (by omega)]
  omega
def lkX (c : Nat → Int32) (q : Nat) (a b : Nat) : Nat := if c (13 + a * 6 + b) = 0 then 0 else if q = 0 then 1 else if c (49 + a * 6 + b) = 0 then 0 else 1
theorem sx_cl15 {s : mx_G} {q a : Nat} (hq : q ≤ 1) (ha : a < 6) (K : Int32 → mx_G → Option (Int32 × mx_G)) : ∀ (m b f x : Nat), b + m = 6 → lX9_countLinks_15 (nI q) (nI a) K (m + 1 + f) (nI x) (nI b) s = K (nI (x + sx2 (lkX (s.1 2) q) a b m)) s := by
  intro m
  induction m with
  | zero =>
    intro b f x h
    rw [show 0 + 1 + f = f + 1 by omega, lX9_countLinks_15, if_pos (by rw [li_6, leI (by omega) (by omega)]; omega), sx2, Nat.add_zero]
  | succ m ih =>
    intro b f x h
    have e1 : nI b + 1 = nI (b + 1) := by rw [li_1, adI]
    have e2 : nI x + 1 = nI (x + 1) := by rw [li_1, adI]
    have e : fX9_isCut (nI a) (nI b) s = some (if s.1 2 (49 + a * 6 + b) = 0 then 0 else 1, s) := by
      simp (disch := omega) only [fX9_isCut, li_49, li_6, muI, adI, ixT, clI, if_true]
      split <;> rfl
    rw [show m + 1 + 1 + f = (m + 1 + f) + 1 by omega, lX9_countLinks_15, if_neg (by rw [li_6, leI (by omega) (by omega)]; omega), sx_sortOf ha (by omega), bd_some, e1, e2, sx2]
    unfold lkX
    by_cases z : s.1 2 (13 + a * 6 + b) = 0
    · rw [if_pos z, if_pos z, Nat.zero_add]
      exact ih (b + 1) f x (by omega)
    · rw [if_neg z, if_neg z]
      by_cases zq : q = 0
      · rw [if_pos (by rw [zq]; rfl), if_pos zq, ← Nat.add_assoc]
        exact ih (b + 1) f (x + 1) (by omega)
      · rw [if_neg (by rw [li_0, eqI (by omega) (by omega)]; exact zq), if_neg zq, e, bd_some]
        by_cases zc : s.1 2 (49 + a * 6 + b) = 0
        · rw [if_pos zc, if_pos rfl, if_pos zc, Nat.zero_add]
          exact ih (b + 1) f x (by omega)
        · rw [if_neg zc, if_neg one_ne, if_neg zc, ← Nat.add_assoc]
          exact ih (b + 1) f (x + 1) (by omega)
theorem sx_countLinks {s : mx_G} {q : Nat} (hq : q ≤ 1) : fX9_countLinks (nI q) s = some (nI (SX (lkX (s.1 2) q) 0 6), s) := by
  have loop : ∀ (m a f x : Nat), a + m = 6 → lX9_countLinks_4 (nI q) (m + 1 + f) (nI x) (nI a) s = some (nI (x + SX (lkX (s.1 2) q) a m), s) := by
    intro m
    induction m with
    | zero =>
      intro a f x h
      rw [show 0 + 1 + f = f + 1 by omega, lX9_countLinks_4, if_pos (by rw [li_6, leI (by omega) (by omega)]; omega), SX, Nat.add_zero]
    | succ m ih =>
      intro a f x h
      have e1 : nI a + 1 = nI (a + 1) := by rw [li_1, adI]
      obtain ⟨g, hg⟩ := FU_lt (n := 5 - a) (by omega)
      have e := sx_cl15 (s := s) hq (show a < 6 by omega) (fun y7 s6 => lX9_countLinks_4 (nI q) (m + 1 + f) y7 (nI (a + 1)) s6) (5 - a) (a + 1) g x (by omega)
      rw [← hg] at e
      rw [show m + 1 + 1 + f = (m + 1 + f) + 1 by omega, lX9_countLinks_4, if_neg (by rw [li_6, leI (by omega) (by omega)]; omega), mv_let, e1]
      refine Eq.trans e ?_
      rw [SX, ← Nat.add_assoc]
      exact ih (a + 1) f _ (by omega)
  obtain ⟨f, hf⟩ := FU_lt (n := 6) (by omega)
  have e := loop 6 0 f 0 (by omega)
  rw [← hf, Nat.zero_add] at e
  unfold fX9_countLinks
  exact e
def lkM (g : Nat → Int32) (p a b : Nat) : Nat := if g (p + (6 * a + b)) ≤ 0 then 0 else 1
theorem sm_lm13 {s : mx_G} {p a : Nat} (hp : p ≤ 37) (ha : a < 6) (K : Int32 → mx_G → Option (Int32 × mx_G)) : ∀ (m b f x : Nat), b + m = a → lX11_linkMany_13 (nI p) (nI a) K (m + 1 + f) (nI x) (nI b) s = K (nI (x + sx2 (lkM (s.1 46) p) a b m)) s := by
  intro m
  induction m with
  | zero =>
    intro b f x h
    rw [show 0 + 1 + f = f + 1 by omega, lX11_linkMany_13, if_pos (nI_le (by omega) (by omega)), sx2, Nat.add_zero]
  | succ m ih =>
    intro b f x h
    have e1 : nI b + 1 = nI (b + 1) := by rw [li_1, adI]
    have ep : fX11_pair (nI a) (nI b) s = some (nI (6 * a + b), s) := by unfold fX11_pair; rw [li_6, muI, adI]
    rw [show m + 1 + 1 + f = (m + 1 + f) + 1 by omega, lX11_linkMany_13, if_neg (nI_ge (by omega) (by omega)), ep, bd_some, adI, ixT (by omega) (by omega), if_pos rfl, clI (by omega), e1, sx2]
    simp only [mv_let]
    have hf : lkM (s.1 46) p a b = if s.1 46 (p + (6 * a + b)) ≤ 0 then 0 else 1 := rfl
    rw [hf]
    by_cases z : s.1 46 (p + (6 * a + b)) ≤ 0
    · rw [if_pos z, if_pos z, Nat.zero_add, li_0, adI, Nat.add_zero]
      exact ih (b + 1) f x (by omega)
    · rw [if_neg z, if_neg z, ← Nat.add_assoc, li_1, adI]
      exact ih (b + 1) f (x + 1) (by omega)
theorem sm_linkMany {s : mx_G} {p : Nat} (hp : p ≤ 37) : fX11_linkMany (nI p) s = some (nI (SM (lkM (s.1 46) p) 0 6), s) := by
  have loop : ∀ (m a f x : Nat), a + m = 6 → lX11_linkMany_4 (nI p) (m + 1 + f) (nI x) (nI a) s = some (nI (x + SM (lkM (s.1 46) p) a m), s) := by
    intro m
    induction m with
    | zero =>
      intro a f x h
      rw [show 0 + 1 + f = f + 1 by omega, lX11_linkMany_4, if_pos (by rw [li_6, leI (by omega) (by omega)]; omega), SM, Nat.add_zero]
    | succ m ih =>
      intro a f x h
      have e1 : nI a + 1 = nI (a + 1) := by rw [li_1, adI]
      obtain ⟨g, hg⟩ := FU_lt (n := a) (by omega)
      have e := sm_lm13 (s := s) hp (show a < 6 by omega) (fun y6 s5 => lX11_linkMany_4 (nI p) (m + 1 + f) y6 (nI (a + 1)) s5) a 0 g x (by omega)
      rw [← hg] at e
      rw [show m + 1 + 1 + f = (m + 1 + f) + 1 by omega, lX11_linkMany_4, if_neg (by rw [li_6, leI (by omega) (by omega)]; omega), e1]
      refine Eq.trans e ?_
      rw [SM, ← Nat.add_assoc]
      exact ih (a + 1) f _ (by omega)
  obtain ⟨f, hf⟩ := FU_lt (n := 6) (by omega)
  have e := loop 6 0 f 0 (by omega)
  rw [← hf, Nat.zero_add] at e
  unfold fX11_linkMany
  exact e
theorem lk_le {c : Nat → Int32} (ho : WOK c) {j : Nat} (hj : j < 121) : c j ≤ 0 ↔ c j = 0 := by
  rw [ho.2.1 j hj, li_0, leI (N_lt c j) (by omega), eqI (N_lt c j) (by omega)]
  constructor <;> omega
theorem lk_sym {c : Nat → Int32} (ho : WOK c) {a b : Nat} (ha : a < 6) (hb : b < 6) : (c (13 + a * 6 + b) = 0 ↔ c (13 + b * 6 + a) = 0) ∧ (c (49 + a * 6 + b) = c (49 + b * 6 + a)) ∧ (c (13 + a * 6 + b) = 0 → c (49 + a * 6 + b) = 0) := by
  have h := ho.2.2.2.2.1 a b ha hb
  have z : ∀ j, j < 121 → (c j = 0 ↔ N c j = 0) := fun j hj => by
    have e := ho.2.1 j hj
    constructor
    · intro q
      rw [q] at e
      rw [li_0, eqI (by omega) (N_lt c j)] at e
      exact e.symm
    · intro q; rw [e, q]; rfl
  refine ⟨?_, ?_, ?_⟩
  · rw [z _ (by omega), z _ (by omega), h.2.2.2.1]
    constructor
    · intro q; rw [if_pos q]
    · intro q
      split at q
      · assumption
      · omega
  · rw [ho.2.1 (49 + a * 6 + b) (by omega), ho.2.1 (49 + b * 6 + a) (by omega), h.2.2.2.2.1]
  · rw [z _ (by omega), z _ (by omega)]; exact h.2.2.2.2.2.1
theorem ok_count : pv_count (Inv IC) := by
  intro k σ p1 hk h
  obtain ⟨n2, n6, nx0, nm⟩ := h.n
  obtain ⟨w, hc, hv⟩ := chosen_ways h.1.2
  have hn : 0 < N (σ.1 2) 0 := by omega
  have hx0 : ix 0 128 = true := by rw [li_0]; exact ixT (by omega) (by omega)
  have hz : Int32.toNatClampNeg 0 = 0 := by decide
  have hW := WL_ok h.1.2
  unfold fX10_count fX11_count
  by_cases z0 : p1 = 0
  · refine pv_same IC_ok h (nI (N (σ.1 2) 0)) ?_ ?_
    · unfold fX9_size
      rw [if_pos z0, if_pos hx0, hz, nx0, bd_some]
    · show (if p1 = 0 then _ else _) = _
      rw [if_pos z0, if_pos hx0, hz, nm]
  by_cases z1 : p1 = 1
  · refine pv_same IC_ok h (nI (SX (lkX (σ.1 2) 0) 0 6)) ?_ ?_
    · have := sx_countLinks (s := σ) (q := 0) (by omega)
      rw [if_neg z0, if_pos z1, li_0, this, bd_some]
    · show (if p1 = 0 then _ else if p1 = 1 then _ else _) = _
      have := sm_linkMany (s := σ) (p := 1) (by omega)
      have e : SX (lkX (σ.1 2) 0) 0 6 = SM (lkM (σ.1 46) 1) 0 6 := SX_SM (fun a b hab hb => by
        unfold lkX lkM
        have hs := lk_sym h.1.2 (show a < 6 by omega) hb
        have hat := h.1.1.at (k := 1 + (6 * b + a)) (i := 13 + b * 6 + a) (by omega) (by omega)
        have hle := lk_le h.1.2 (show 13 + b * 6 + a < 121 by omega)
        rw [hat]
        by_cases q : σ.1 2 (13 + a * 6 + b) = 0
        · rw [if_pos q, if_pos (hle.mpr (hs.1.mp q))]
        · rw [if_neg q, if_pos rfl, if_neg (fun r => q (hs.1.mpr (hle.mp r)))])
      rw [if_neg z0, if_pos z1, li_1, this, bd_some, e]
  by_cases z2 : p1 = 2
  · refine pv_same IC_ok h (nI (SX (lkX (σ.1 2) 1) 0 6)) ?_ ?_
    · have := sx_countLinks (s := σ) (q := 1) (by omega)
      rw [if_neg z0, if_neg z1, if_pos z2, li_1, this, bd_some]
    · show (if p1 = 0 then _ else if p1 = 1 then _ else if p1 = 2 then _ else _) = _
      have := sm_linkMany (s := σ) (p := 37) (by omega)
      have e : SX (lkX (σ.1 2) 1) 0 6 = SM (lkM (σ.1 46) 37) 0 6 := SX_SM (fun a b hab hb => by
        unfold lkX lkM
        have hs := lk_sym h.1.2 (show a < 6 by omega) hb
        have hat := h.1.1.at (k := 37 + (6 * b + a)) (i := 49 + b * 6 + a) (by omega) (by omega)
        have hle := lk_le h.1.2 (show 49 + b * 6 + a < 121 by omega)
        rw [hat]
        by_cases q : σ.1 2 (13 + a * 6 + b) = 0
        · have q2 := hs.2.2 q
          rw [hs.2.1] at q2
          rw [if_pos q, if_pos (hle.mpr q2)]
        · rw [if_neg q, if_neg (by omega)]
          by_cases r : σ.1 2 (49 + a * 6 + b) = 0
          · rw [if_pos r, if_pos (hle.mpr (by rw [← hs.2.1]; exact r))]
          · rw [if_neg r, if_neg (fun t => r (by rw [hs.2.1]; exact hle.mp t))])
      rw [if_neg z0, if_neg z1, if_pos z2, li_37, this, bd_some, e]
  by_cases z3 : p1 = 3
  · refine pv_same IC_ok h (nI (chN (σ.1 2) (N (σ.1 2) 0))) ?_ ?_
    · rw [if_neg z0, if_neg z1, if_neg z2, if_pos z3, sx_choosers n6 nx0, bd_some]
    · show (if p1 = 0 then _ else if p1 = 1 then _ else if p1 = 2 then _ else if p1 = 3 then _ else _) = _
      rw [if_neg z0, if_neg z1, if_neg z2, if_pos z3, sm_chosenSet n6 nm, bd_some, chN_congr (f := σ.1 46) (c := σ.1 2) _ n6 (fun e he => h.1.1.at (by omega) (by omega))]
  by_cases z4 : p1 = 4
  · obtain ⟨s1, e1, hl, fr⟩ := sx_discontent h.1.2 nx0 hn n6 hc hv
    have q46 : s1.1 46 = σ.1 46 := (fr 46 (by decide)).1
    have sc1 : Sc σ s1 := ⟨fun p hp => (fr p (fun z => hp (by revert z; simp [scr]; omega))).1, fun j _ _ _ => by rw [(fr 45 (by decide)).1], fun p hp => (fr p (fun z => hp (by revert z; simp [scr]; omega))).2⟩
    have th := sm_thinks s1
    generalize hτ : gs s1 56 (va_cpy (s1.1 46) (s1.1 56) 121 0 6) = τ at th
    have u46 : τ.1 46 = σ.1 46 := by rw [← hτ, gs_rdn _ (by decide)]; exact q46
    have e3 := sm_notContent (s := τ) (c := σ.1 2) (by rw [u46]; exact h.1.1) h.1.2 (by rw [u46]; exact nm) hn n6 hc (fun e he => by
      rw [← hτ, thinks_rd s1 he, q46, h.1.1.at (k := 121 + e) (i := 121 + e) (by omega) (by omega)]; exact hv e he)
    have sc2 : Sc s1 τ := by
      refine ⟨fun p hp => ?_, fun j _ _ _ => ?_, fun p hp => ?_⟩
      · rw [← hτ, gs_rdn _ (fun z => hp (by rw [z]; decide))]
      · rw [← hτ, gs_rdn _ (by decide)]
      · rw [← hτ]; rfl
    refine ⟨nI (dc (σ.1 2) w (N (σ.1 2) 0) (N (σ.1 2) 0)), s1, τ, ?_, ?_, h.sc IC_ok (sc1.trans sc2)⟩
    · rw [if_neg z0, if_neg z1, if_neg z2, if_neg z3, if_pos z4, e1, bd_some]
    · show (if p1 = 0 then _ else if p1 = 1 then _ else if p1 = 2 then _ else if p1 = 3 then _ else if p1 = 4 then _ else _) = _
      rw [if_neg z0, if_neg z1, if_neg z2, if_neg z3, if_pos z4, th, bd_some, e3, bd_some]
  by_cases z5 : p1 = 5
  · obtain ⟨s1, b1, b2, b3, -, -, b6⟩ := sx_ways hk h
    have t46 : s1.1 46 = σ.1 46 := (b6 46 (by decide)).1
    obtain ⟨t1, c1, c2, c5, c3, c4⟩ := sm_laysWays (t := s1) h.1.2 hn n6 (by rw [t46]; exact h.1.1) (by rw [t46]; exact nm)
    refine ⟨nI (WL (σ.1 2) (N (σ.1 2) 0)).length, s1, t1, ?_, ?_, b3.sck IC_k (MR_sc c5 c3 c4)⟩
    · unfold fX8_countAll
      rw [if_neg z0, if_neg z1, if_neg z2, if_neg z3, if_neg z4, if_pos z5, b1, bd_some, bd_some, b2.1.1]
    · show (if p1 = 0 then _ else if p1 = 1 then _ else if p1 = 2 then _ else if p1 = 3 then _ else if p1 = 4 then _ else if p1 = 5 then _ else _) = _
      rw [if_neg z0, if_neg z1, if_neg z2, if_neg z3, if_neg z4, if_pos z5, c1, bd_some, c2.1]
  by_cases z6 : p1 = 6
  · obtain ⟨s1, a1, a2, a3, a4, a5⟩ := sx_stableOnes hk h
    obtain ⟨t1, b1⟩ := sm_stable0 h.1.2 n2 n6 (t := s1) (by rw [a5]; exact h.1.1) (by rw [a5]; exact nm)
    refine ⟨nI (SI (σ.1 2) (N (σ.1 2) 0)).length, s1, t1, ?_, ?_, a3.sck IC_k ((fr_X11_stableTo _ s1).sc b1 (by decide))⟩
    · rw [if_neg z0, if_neg z1, if_neg z2, if_neg z3, if_neg z4, if_neg z5, if_pos z6, a1, bd_some]
    · show (if p1 = 0 then _ else if p1 = 1 then _ else if p1 = 2 then _ else if p1 = 3 then _ else if p1 = 4 then _ else if p1 = 5 then _ else if p1 = 6 then _ else _) = _
      rw [if_neg z0, if_neg z1, if_neg z2, if_neg z3, if_neg z4, if_neg z5, if_pos z6, b1, bd_some]
  by_cases z7 : p1 = 7
  · obtain ⟨a, x, ha, hx, p1', p2', p3', p4'⟩ := h.2.1
    refine pv_same IC_ok h (nI a) ?_ ?_
    · unfold fX3_known
      rw [if_neg z0, if_neg z1, if_neg z2, if_neg z3, if_neg z4, if_neg z5, if_neg z6, if_pos z7, p1', bd_some]
    · show (if p1 = 0 then _ else if p1 = 1 then _ else if p1 = 2 then _ else if p1 = 3 then _ else if p1 = 4 then _ else if p1 = 5 then _ else if p1 = 6 then _ else if p1 = 7 then _ else _) = _
      rw [if_neg z0, if_neg z1, if_neg z2, if_neg z3, if_neg z4, if_neg z5, if_neg z6, if_pos z7, p3']
  · refine pv_same IC_ok h (-1) ?_ ?_
    · rw [if_neg z0, if_neg z1, if_neg z2, if_neg z3, if_neg z4, if_neg z5, if_neg z6, if_neg z7]
    · show (if p1 = 0 then _ else if p1 = 1 then _ else if p1 = 2 then _ else if p1 = 3 then _ else if p1 = 4 then _ else if p1 = 5 then _ else if p1 = 6 then _ else if p1 = 7 then _ else _) = _
      rw [if_neg z0, if_neg z1, if_neg z2, if_neg z3, if_neg z4, if_neg z5, if_neg z6, if_neg z7]
