/-! PURE PART: why -/
theorem digs : ∀ (L v : Nat), v < 10 ^ (L + 1) → ∃ ds : List Nat, Dg ds ∧ Ld ds ∧ wnum ds = v ∧ ds.length ≤ L + 1 := by
  intro L
  induction L with
  | zero =>
    intro v h
    refine ⟨[v], fun d hd => ?_, ⟨v, [], rfl, Or.inl rfl⟩, by simp [wnum], by simp⟩
    rw [List.mem_singleton] at hd
    simp at h
    omega
  | succ L ih =>
    intro v h
    by_cases h10 : v < 10
    · refine ⟨[v], fun d hd => ?_, ⟨v, [], rfl, Or.inl rfl⟩, by simp [wnum], by simp⟩
      rw [List.mem_singleton] at hd
      omega
    · rw [Nat.pow_succ] at h
      obtain ⟨ds, h1, ⟨d, r, rfl, h2⟩, h3, h4⟩ := ih (v / 10) (by omega)
      refine ⟨d :: r ++ [v % 10], fun x hx => ?_, ⟨d, r ++ [v % 10], rfl, Or.inr ?_⟩, ?_, ?_⟩
      · rcases List.mem_append.mp hx with hx | hx
        · exact h1 x hx
        · rw [List.mem_singleton] at hx; omega
      · rcases h2 with rfl | h2
        · have : wnum [d] = d := by simp [wnum]
          omega
        · exact h2
      · rw [wnum_snoc, h3]; omega
      · rw [List.length_append, List.length_singleton]; omega
theorem wnum_app (p r : List Nat) : wnum (p ++ r) = wnum p * 10 ^ r.length + wnum r := by
  induction p with
  | nil => simp [wnum]
  | cons d p ih =>
    rw [List.cons_append, wnum, wnum, ih, List.length_append, Nat.pow_add, Nat.add_mul, Nat.mul_assoc]
    omega
theorem sx_areJoined {s : mx_G} {a b : Nat} (ha : a < 6) (hb : b < 6) : fX9_areJoined (nI a) (nI b) s = some (if s.1 2 (13 + a * 6 + b) = 0 then 0 else if s.1 2 (49 + a * 6 + b) = 0 then 1 else 0, s) := by
  have e : fX9_isCut (nI a) (nI b) s = some (if s.1 2 (49 + a * 6 + b) = 0 then 0 else 1, s) := by
    simp (disch := omega) only [fX9_isCut, li_49, li_6, muI, adI, ixT, clI, if_true]
    split <;> rfl
  unfold fX9_areJoined
  rw [sx_sortOf ha hb, bd_some]
  by_cases z : s.1 2 (13 + a * 6 + b) = 0
  · rw [if_pos z, if_pos z]
  · rw [if_neg z, if_neg z, e, bd_some]
    by_cases z2 : s.1 2 (49 + a * 6 + b) = 0
    · rw [if_pos z2, if_pos z2, if_pos rfl]
    · rw [if_neg z2, if_neg z2, if_neg one_ne]
theorem sm_areLinked {s : mx_G} {c : Nat → Int32} (hw : RW (s.1 46) c) (ho : WOK c) {d e : Nat} (hd : d < 6) (he : e < 6) : fX11_areLinked (nI d) (nI e) s = some (if c (13 + d * 6 + e) = 0 then 0 else if c (49 + d * 6 + e) = 0 then 1 else 0, s) := by
  have a1 := hw.at (k := 1 + (6 * d + e)) (i := 13 + d * 6 + e) (by omega) (by omega)
  have a2 := hw.at (k := 37 + (6 * d + e)) (i := 49 + d * 6 + e) (by omega) (by omega)
  have b1 := ho.2.1 (13 + d * 6 + e) (by omega)
  unfold fX11_areLinked
  simp (disch := omega) only [fX11_pair, bd_some, li_1, li_37, li_6, li_0, muI, adI, ixT, clI, if_true, a1, a2]
  have hN := N_lt c (13 + d * 6 + e)
  have : (c (13 + d * 6 + e) ≤ nI 0) = (c (13 + d * 6 + e) = nI 0) := by
    rw [b1, leI hN (by omega), eqI hN (by omega)]
    exact propext ⟨fun z => by omega, fun z => by omega⟩
  simp only [this]
  by_cases z1 : c (13 + d * 6 + e) = nI 0
  · simp only [z1, if_true]
  · simp only [z1, if_false]
    split <;> rfl
/-- what d has against the row r behind it -/
def rsn (c : Nat → Int32) (d : Nat) (r : List Nat) : Nat :=
  if c (13 + d * 6 + hd0 r) = 0 ∨ ¬ c (49 + d * 6 + hd0 r) = 0 then 1 else if mv_shr (nI (ms r)) (nI d) &&& 1 = 1 then 2 else if ¬ (c (7 + d) &&& nI (ms r) = 0) then 3 else if tkL c (hd0 r) d (sec r) then 0 else 4
theorem rsn_le (c : Nat → Int32) (d : Nat) (r : List Nat) : rsn c d r ≤ 4 := by
  unfold rsn
  split
  · omega
  · split
    · omega
    · split
      · omega
      · split <;> omega
def rg (c : Nat → Int32) : List Nat → List Nat → Nat
  | [], _ => 0
  | d :: q, r => if rsn c d r = 0 then rg c q (d :: r) else 100 * rsn c d r + 10 * d + q.length
theorem sx_reasonOf {s : mx_G} {d : Nat} {r : List Nat} (hd : d < 6) (hr : ∀ x ∈ r, x < 6) (hne : r ≠ []) : fX10_reasonOf (nI d) (nI (hd0 r)) (nI (ms r)) (nI (sec r)) s = some (nI (rsn (s.1 2) d r), s) := by
  have hms := ms_lt hr
  have he : hd0 r < 6 := by
    cases r with
    | nil => exact absurd rfl hne
    | cons x r => exact hr x List.mem_cons_self
  have hy : sec r < 6 ∨ sec r = 9 := by
    cases r with
    | nil => exact absurd rfl hne
    | cons x r =>
      cases r with
      | nil => exact Or.inr rfl
      | cons y r => exact Or.inl (hr y (by simp))
  have hb := bit_has (ms r) hms d hd
  unfold fX10_reasonOf rsn
  rw [sx_areJoined hd he, bd_some]
  by_cases z1 : s.1 2 (13 + d * 6 + hd0 r) = 0
  · rw [if_pos z1, if_pos rfl, if_pos (Or.inl z1)]; rfl
  · rw [if_neg z1]
    by_cases z2 : s.1 2 (49 + d * 6 + hd0 r) = 0
    · rw [if_pos z2, if_neg one_ne, if_neg (show ¬ (s.1 2 (13 + d * 6 + hd0 r) = 0 ∨ ¬ s.1 2 (49 + d * 6 + hd0 r) = 0) from fun q => q.elim z1 (fun q => q z2))]
      by_cases z3 : mv_shr (nI (ms r)) (nI d) &&& 1 = 1
      · rw [if_neg (fun q => (hb.mp q) z3), if_pos z3]; rfl
      · rw [if_pos (hb.mpr z3), if_neg z3]
        have e1 : fX9_barsOf (nI d) s = some (s.1 2 (7 + d), s) := by
          unfold fX9_barsOf
          rw [li_7, adI, ixT (by omega) (by omega), if_pos rfl, clI (by omega)]
        rw [e1, bd_some, Int32.and_comm]
        by_cases z4 : s.1 2 (7 + d) &&& nI (ms r) = 0
        · rw [if_pos z4, if_neg (fun q => q z4), sx_lets he hd hy, bd_some]
          by_cases z5 : tkL (s.1 2) (hd0 r) d (sec r)
          · rw [if_pos z5, if_neg one_ne, if_pos z5]; rfl
          · rw [if_neg z5, if_pos rfl, if_neg z5]; rfl
        · rw [if_neg z4, if_pos z4]; rfl
    · rw [if_neg z2, if_pos rfl, if_pos (Or.inr z2)]; rfl
theorem sx_reasons {s : mx_G} : ∀ (q r : List Nat) (f : Nat), (∀ x ∈ q, x < 6) → (∀ x ∈ r, x < 6) → r ≠ [] → q.length ≤ 6 → lX10_reasonAgainst_20 (fun y9 y10 y11 s8 => some (((100 * y11) + (10 * y10)) + y9, s8)) (q.length + 1 + f) (nI (wnum q.reverse)) (nI (ms r)) (nI (hd0 r)) (nI (sec r)) (nI q.length + (-1)) s = some (nI (rg (s.1 2) q r), s) := by
  intro q
  induction q with
  | nil =>
    intro r f _ hr hne _
    rw [List.length_nil, show 0 + 1 + f = f + 1 by omega, lX10_reasonAgainst_20, if_pos (by decide)]
    rfl
  | cons d q ih =>
    intro r f hq hr hne hl
    have hd := hq d List.mem_cons_self
    have hq' : ∀ x ∈ q, x < 6 := fun x hx => hq x (List.mem_cons_of_mem _ hx)
    have hl' : q.length + 1 ≤ 6 := hl
    have hdg : Dg (q.reverse ++ [d]) := fun x hx => by
      have : x ∈ d :: q := by
        rw [← List.reverse_cons, List.mem_reverse] at hx
        exact hx
      have := hq x this
      omega
    have hb := wnum_lt hdg
    have hp := pow8 (n := (q.reverse ++ [d]).length) (by rw [List.length_append, List.length_reverse, List.length_singleton]; omega)
    have hms := ms_lt hr
    have h2 : 2 ^ d < 2 ^ 6 := Nat.pow_lt_pow_right (by omega) hd
    have e1 : mv_rem (nI (wnum (q.reverse ++ [d]))) 10 = nI d := by rw [li_10, rmI (by omega) (by omega) (by omega), wnum_snoc, show (wnum q.reverse * 10 + d) % 10 = d by omega]
    have e2 : nI (wnum (q.reverse ++ [d])) / 10 = nI (wnum q.reverse) := by rw [li_10, dvI (by omega) (by omega) (by omega), wnum_snoc, show (wnum q.reverse * 10 + d) / 10 = wnum q.reverse by omega]
    have e3 : nI (ms r) ||| mv_shl 1 (nI d) = nI (ms (d :: r)) := by rw [shl_n d (by omega), or_n _ hms _ h2, ms]
    have hrs := rsn_le (s.1 2) d r
    rw [List.reverse_cons, List.length_cons, show q.length + 1 + 1 + f = (q.length + 1 + f) + 1 by omega, pk_m1, lX10_reasonAgainst_20, if_neg (by rw [li_0, ltI (by omega) (by omega)]; omega)]
    simp only [mv_let]
    rw [e1, sx_reasonOf hd hr hne, bd_some, rg]
    by_cases z : rsn (s.1 2) d r = 0
    · rw [if_pos (by rw [z]; rfl), if_pos z, e2, e3]
      have hi := ih (d :: r) f hq' (fun x hx => by
        rcases List.mem_cons.mp hx with rfl | hx
        · exact hd
        · exact hr x hx) (by simp) (by omega)
      have e4 : sec (d :: r) = hd0 r := by
        cases r with
        | nil => exact absurd rfl hne
        | cons x r => rfl
      rw [e4] at hi
      exact hi
    · rw [if_neg (by rw [li_0, eqI (by omega) (by omega)]; exact z), if_neg z, li_100, li_10, muI, muI, adI, adI]
