/-! PURE PART: foreseen: the choices to come, and where they come again -/
theorem sm_turnsInMind {s : mx_G} {c : Nat → Int32} (hw : RW (s.1 46) c) (ho : WOK c) {n : Nat} (h0 : s.1 46 0 = nI n) (hn : 0 < n) (h6 : n ≤ 6) {w : Nat → Option (List Nat)} (hc : okC n w) (hm : ∀ e, e < 6 → s.1 56 e = val (w e)) : ∃ s', fX11_turnsInMind s = some (nI (cc c w n n), s') ∧ (∀ e, e < 6 → s'.1 56 e = val (mix c w n n e)) ∧ ∀ p : Nat, p ∉ [56, 57] → s'.1 p = s.1 p ∧ s'.2 p = s.2 p := by
  obtain ⟨f, hf⟩ := FU_lt (n := n) (by omega)
  obtain ⟨g1, e1, hg1⟩ := sm_turns4 hw ho h0 hn h6 hc hm 0 (fun s4 => lX11_turnsInMind_33 FU 0 0 s4) n 0 f (s.1 57) (by omega) (fun j hj => absurd hj (by omega))
  rw [gs_self, ← hf] at e1
  obtain ⟨g2, e2, hg2⟩ := sm_turns33 (s := gs s 57 g1) (c := c) (by rw [gs_rdn _ (by decide)]; exact h0) hn h6 (w := w) (fun j hj => by rw [gs_rd]; exact hg1 j hj) n 0 f ((gs s 57 g1).1 56) (by omega) (fun j hj => by rw [gs_rdn _ (by decide), mix_0]; exact hm j hj)
  rw [gs_self, ← hf] at e2
  refine ⟨gs (gs s 57 g1) 56 g2, ?_, fun e he => by rw [gs_rd]; exact hg2 e he, fun p hp => ⟨by rw [gs_rdn _ (fun z => hp (by rw [z]; decide)), gs_rdn _ (fun z => hp (by rw [z]; decide))], rfl⟩⟩
  unfold fX11_turnsInMind
  exact e1.trans e2
/-- the choices after i turns -/
def Wt (c : Nat → Int32) (w : Nat → Option (List Nat)) (n : Nat) : Nat → Nat → Option (List Nat)
  | 0 => w
  | i + 1 => mix c (Wt c w n i) n n
theorem Wt_ok {c : Nat → Int32} (ho : WOK c) {n : Nat} (hn : 0 < n) (h6 : n ≤ 6) {w : Nat → Option (List Nat)} (hc : okC n w) : ∀ i, okC n (Wt c w n i) := by
  intro i
  induction i with
  | zero => exact hc
  | succ i ih => exact mix_ok ho hn h6 ih
/-- the same row: from e on -/
def alk (W : Nat → Nat → Option (List Nat)) (i k : Nat) : Nat → Nat → Bool
  | _, 0 => true
  | e, m + 1 => if val (W i e) = val (W k e) then alk W i k (e + 1) m else false
/-- the first one alike, from i on -/
def fe (W : Nat → Nat → Option (List Nat)) (k : Nat) : Nat → Nat → Option Nat
  | _, 0 => none
  | i, m + 1 => if alk W i k 0 6 = true then some i else fe W k (i + 1) m
theorem fe_bd (W : Nat → Nat → Option (List Nat)) (k : Nat) : ∀ (m i j : Nat), fe W k i m = some j → i ≤ j ∧ j < i + m := by
  intro m
  induction m with
  | zero => intro i j h; cases h
  | succ m ih =>
    intro i j h
    rw [fe] at h
    by_cases z : alk W i k 0 6 = true
    · rw [if_pos z] at h; injection h with h; omega
    · rw [if_neg z] at h
      have := ih (i + 1) j h
      omega
theorem sx_note_l (W : Nat → Option (List Nat)) (s : mx_G) (hl : LD s W) (a : Nat) (ha : a ≤ 60) : ∀ (m e f : Nat) (g : Nat → Int32), e + m = 6 → lX1_note_2 (nI a) (m + 1 + f) (nI e) (gs s 35 g) = some ((), gs s 35 (fun t => if a * 6 + e ≤ t ∧ t < a * 6 + 6 then val (W (t - a * 6)) else g t)) := by
  intro m
  induction m with
  | zero =>
    intro e f g h
    have : (fun t => if a * 6 + e ≤ t ∧ t < a * 6 + 6 then val (W (t - a * 6)) else g t) = g := by
      funext t; rw [if_neg (by omega)]
    rw [show 0 + 1 + f = f + 1 by omega, lX1_note_2, if_pos (by rw [li_6, leI (by omega) (by omega)]; omega), this]
  | succ m ih =>
    intro e f g h
    have e1 : nI e + 1 = nI (e + 1) := by rw [li_1, adI]
    have e2 : fX0_wayOf (nI e) (gs s 35 g) = some (val (W e), gs s 35 g) := by
      unfold fX0_wayOf
      rw [ixT (by omega) (by omega), if_pos rfl, clI (by omega), gs_rdn _ (by decide), (hl e (by omega)).1]
    rw [show m + 1 + 1 + f = (m + 1 + f) + 1 by omega, lX1_note_2, if_neg (by rw [li_6, leI (by omega) (by omega)]; omega), e2, bd_some, li_6, muI, adI, ixT (by omega) (by omega), if_pos rfl, clI (by omega), mv_let, gi_of, e1, ih (e + 1) f _ (by omega)]
    have : (fun t => if a * 6 + (e + 1) ≤ t ∧ t < a * 6 + 6 then val (W (t - a * 6)) else upd g (a * 6 + e) (val (W e)) t) = fun t => if a * 6 + e ≤ t ∧ t < a * 6 + 6 then val (W (t - a * 6)) else g t := by
      funext t
      rw [upd_rd]
      by_cases z : t = a * 6 + e
      · rw [if_neg (by omega), if_pos z, if_pos (by omega), show t - a * 6 = e by omega]
      · rw [if_neg z]
        by_cases z2 : a * 6 + e ≤ t ∧ t < a * 6 + 6
        · rw [if_pos z2, if_pos (by omega)]
        · rw [if_neg z2, if_neg (by omega)]
    rw [this]
theorem sx_note {W : Nat → Option (List Nat)} {s : mx_G} (hl : LD s W) {a : Nat} (ha : a ≤ 60) : fX1_note (nI a) s = some ((), gs s 35 (fun t => if a * 6 ≤ t ∧ t < a * 6 + 6 then val (W (t - a * 6)) else s.1 35 t)) := by
  obtain ⟨f, hf⟩ := FU_lt (n := 6) (by omega)
  have e := sx_note_l W s hl a ha 6 0 f (s.1 35) (by omega)
  rw [gs_self, ← hf] at e
  unfold fX1_note
  exact e
theorem sx_alike_l (W : Nat → Nat → Option (List Nat)) (s : mx_G) (i k : Nat) (hi : i ≤ 60) (hk : k ≤ 60) (h1 : ∀ e, e < 6 → s.1 35 (i * 6 + e) = val (W i e)) (h2 : ∀ e, e < 6 → s.1 35 (k * 6 + e) = val (W k e)) : ∀ (m e f : Nat), e + m = 6 → lX1_areAlike_2 (nI i) (nI k) (m + 1 + f) (nI e) s = some (if alk W i k e m = true then 1 else 0, s) := by
  intro m
  induction m with
  | zero =>
    intro e f h
    rw [show 0 + 1 + f = f + 1 by omega, lX1_areAlike_2, if_pos (by rw [li_6, leI (by omega) (by omega)]; omega), alk, if_pos rfl]
  | succ m ih =>
    intro e f h
    have e1 : nI e + 1 = nI (e + 1) := by rw [li_1, adI]
    rw [show m + 1 + 1 + f = (m + 1 + f) + 1 by omega, lX1_areAlike_2, if_neg (by rw [li_6, leI (by omega) (by omega)]; omega), li_6, muI, muI, adI, adI, ixT (by omega) (by omega), if_pos rfl, ixT (by omega) (by omega), if_pos rfl, clI (by omega), clI (by omega), h1 e (by omega), h2 e (by omega), e1, ih (e + 1) f (by omega), alk]
    by_cases z : val (W i e) = val (W k e)
    · rw [if_pos z, if_pos z]
    · rw [if_neg z, if_neg z, if_neg (by decide)]
theorem sx_earlier_l (W : Nat → Nat → Option (List Nat)) (s : mx_G) (k : Nat) (hk : k ≤ 60) (h1 : ∀ i e, i ≤ k → e < 6 → s.1 35 (i * 6 + e) = val (W i e)) : ∀ (m i f : Nat), i + m = k → lX1_earlier_2 (nI k) (m + 1 + f) (nI i) s = some (match fe W k i m with | none => -1 | some j => nI j, s) := by
  intro m
  induction m with
  | zero =>
    intro i f h
    rw [show 0 + 1 + f = f + 1 by omega, lX1_earlier_2, if_pos (nI_le (by omega) (by omega))]
    rfl
  | succ m ih =>
    intro i f h
    obtain ⟨g, hg⟩ := FU_lt (n := 6) (by omega)
    have e1 : nI i + 1 = nI (i + 1) := by rw [li_1, adI]
    have e2 : fX1_areAlike (nI i) (nI k) s = some (if alk W i k 0 6 = true then 1 else 0, s) := by
      unfold fX1_areAlike
      rw [hg]
      exact sx_alike_l W s i k (by omega) hk (fun e he => h1 i e (by omega) he) (fun e he => h1 k e (by omega) he) 6 0 g (by omega)
    rw [show m + 1 + 1 + f = (m + 1 + f) + 1 by omega, lX1_earlier_2, if_neg (nI_ge (by omega) (by omega)), e2, bd_some, e1, ih (i + 1) f (by omega), fe]
    by_cases z : alk W i k 0 6 = true
    · rw [if_pos z, if_neg one_ne, if_pos z]
    · rw [if_neg z, if_pos rfl, if_neg z]
