/-! PURE PART: the reference's stable choices -/
def SIp (c : Nat → Int32) (n T : Nat) : List Nat := (List.range T).filter (fun i => stb c n (xi n i))
theorem SIp_succ (c : Nat → Int32) (n i : Nat) : SIp c n (i + 1) = if stb c n (xi n i) = true then SIp c n i ++ [i] else SIp c n i := by
  unfold SIp
  rw [List.range_succ, List.filter_append]
  by_cases z : stb c n (xi n i) = true
  · rw [if_pos z, List.filter_cons_of_pos (p := fun i => stb c n (xi n i)) (a := i) z]; rfl
  · rw [if_neg z, List.filter_cons_of_neg (p := fun i => stb c n (xi n i)) (a := i) z]
    exact List.append_nil _
theorem SIp_len (c : Nat → Int32) (n T : Nat) : (SIp c n T).length ≤ T := by
  have := List.length_filter_le (fun i => stb c n (xi n i)) (List.range T)
  rw [List.length_range] at this
  exact this
theorem SIp_pre (c : Nat → Int32) (n : Nat) {i : Nat} (hs : stb c n (xi n i) = true) : ∀ m, (SIp c n (i + 1 + m))[(SIp c n i).length]? = some i := by
  intro m
  induction m with
  | zero =>
    rw [Nat.add_zero, SIp_succ, if_pos hs, List.getElem?_append_right (Nat.le_refl _), Nat.sub_self]
    rfl
  | succ m ih =>
    have hlt : (SIp c n i).length < (SIp c n (i + 1 + m)).length := (List.getElem?_eq_some_iff.mp ih).1
    rw [← Nat.add_assoc, SIp_succ]
    by_cases z : stb c n (xi n (i + 1 + m)) = true
    · rw [if_pos z, List.getElem?_append_left hlt]; exact ih
    · rw [if_neg z]; exact ih
theorem SI_at (c : Nat → Int32) (n : Nat) {i : Nat} (hi : i < n ^ (n - 1)) (hs : stb c n (xi n i) = true) : (SI c n)[(SIp c n i).length]? = some i := by
  have := SIp_pre c n hs (n ^ (n - 1) - (i + 1))
  rw [show i + 1 + (n ^ (n - 1) - (i + 1)) = n ^ (n - 1) by omega] at this
  exact this
theorem sm_st_step {c : Nat → Int32} (ho : WOK c) {n i : Nat} (h2 : 2 ≤ n) (h6 : n ≤ 6) (hi : i < n ^ (n - 1)) {t : mx_G} (hw : RW (t.1 46) c) (h0 : t.1 46 0 = nI n) (hx : NX n i t) (a1 : Int32) (F q : Nat) : ∃ t' s6, t'.1 46 = t.1 46 ∧ (i + 1 < n ^ (n - 1) → NX n (i + 1) t') ∧ (∀ e, e < 6 → s6.1 56 e = val (fw (xi n i) n e)) ∧ lX11_stableTo_38 a1 (F + 1) (nI q) 1 t = if stb c n (xi n i) = true then (if nI q = a1 then some (a1, s6) else lX11_stableTo_38 a1 F (nI (q + 1)) (if i + 1 = n ^ (n - 1) then 0 else 1) t') else lX11_stableTo_38 a1 F (nI q) (if i + 1 = n ^ (n - 1) then 0 else 1) t' := by
  have hn : 0 < n := by omega
  have hok := fw_ok (xi n i) hn (xi_ok h6 i)
  obtain ⟨s6, b1, b2, b3⟩ := sm_thinksN (xi n i) hn h6 (xi_ok h6 i) h0 hx
  have w46 : s6.1 46 = t.1 46 := (b3 46 (by decide)).1
  have b5 := sm_notContent (s := s6) (c := c) (by rw [w46]; exact hw) ho (by rw [w46]; exact h0) hn h6 hok b2
  obtain ⟨t', d1, d2, d3⟩ := sm_goesOn (t := s6) h2 h6 hi (by rw [w46]; exact h0) (fun d a b => by rw [(b3 59 (by decide)).1]; exact hx d a b)
  have hb := dc_lt c (fw (xi n i) n) n n
  have hp := pow_le64 n (by omega)
  refine ⟨t', s6, by rw [(d3 46 (by decide)).1]; exact w46, d2, b2, ?_⟩
  rw [lX11_stableTo_38, if_neg one_ne, b1, bd_some]
  have sb : stb c n (xi n i) = (fl (xi n i) n 6 && decide (dc c (fw (xi n i) n) n n = 0)) := rfl
  by_cases z1 : fl (xi n i) n 6 = true
  · rw [if_pos z1, if_neg one_ne, b5, bd_some]
    by_cases z2 : dc c (fw (xi n i) n) n n = 0
    · have e1 : nI q + 1 = nI (q + 1) := by rw [li_1, adI]
      rw [if_pos (show nI (dc c (fw (xi n i) n) n n) = 0 by rw [z2]; rfl), if_pos (show stb c n (xi n i) = true by rw [sb]; simp [z1, z2])]
      by_cases z3 : nI q = a1
      · rw [if_pos z3, if_pos z3]
      · rw [if_neg z3, if_neg z3, d1, bd_some, e1]
    · rw [if_neg (by rw [li_0, eqI (by omega) (by omega)]; exact z2), if_neg (show ¬ stb c n (xi n i) = true by rw [sb]; simp [z2]), d1, bd_some]
  · rw [if_neg z1, if_pos rfl, if_neg (show ¬ stb c n (xi n i) = true by rw [sb]; simp [z1]), d1, bd_some]
theorem sm_st_count {c : Nat → Int32} (ho : WOK c) {n : Nat} (h2 : 2 ≤ n) (h6 : n ≤ 6) : ∀ (m i f : Nat) (t : mx_G), i + m = n ^ (n - 1) → 0 < m → RW (t.1 46) c → t.1 46 0 = nI n → NX n i t → ∃ t', lX11_stableTo_38 (-4) (m + 1 + f) (nI (SIp c n i).length) 1 t = some (nI (SI c n).length, t') := by
  have hT := pow_bd n h6 h2
  intro m
  induction m with
  | zero => intro i f t h h0; omega
  | succ m ih =>
    intro i f t h _ hw h0 hx
    obtain ⟨t', s6, a1, a2, a3, a4⟩ := sm_st_step ho h2 h6 (show i < n ^ (n - 1) by omega) hw h0 hx (-4) (m + 1 + f) (SIp c n i).length
    have hlen := SIp_len c n i
    rw [show m + 1 + 1 + f = (m + 1 + f) + 1 by omega, a4]
    have nx : lX11_stableTo_38 (-4) (m + 1 + f) (nI (SIp c n (i + 1)).length) (if i + 1 = n ^ (n - 1) then 0 else 1) t' = some (nI (SI c n).length, t') ∨ ∃ t'', lX11_stableTo_38 (-4) (m + 1 + f) (nI (SIp c n (i + 1)).length) (if i + 1 = n ^ (n - 1) then 0 else 1) t' = some (nI (SI c n).length, t'') := by
      by_cases z : i + 1 = n ^ (n - 1)
      · left
        rw [if_pos z, show m + 1 + f = (m + f) + 1 by omega, lX11_stableTo_38, if_pos rfl, if_neg (by decide), z]
        rfl
      · right
        rw [if_neg z]
        exact ih (i + 1) f t' (by omega) (by omega) (by rw [a1]; exact hw) (by rw [a1]; exact h0) (a2 (by omega))
    have nx : ∃ t'', lX11_stableTo_38 (-4) (m + 1 + f) (nI (SIp c n (i + 1)).length) (if i + 1 = n ^ (n - 1) then 0 else 1) t' = some (nI (SI c n).length, t'') := by
      rcases nx with h | h
      · exact ⟨_, h⟩
      · exact h
    have hs := SIp_succ c n i
    by_cases z : stb c n (xi n i) = true
    · rw [if_pos z] at hs
      rw [hs, List.length_append, List.length_singleton] at nx
      rw [if_pos z, if_neg (nI_ne4 (by omega))]
      exact nx
    · rw [if_neg z] at hs
      rw [hs] at nx
      rw [if_neg z]
      exact nx
theorem sm_st_k {c : Nat → Int32} (ho : WOK c) {n : Nat} (h2 : 2 ≤ n) (h6 : n ≤ 6) (k : Nat) (hk : k < 2147483648) : ∀ (m i f : Nat) (t : mx_G), i + m = n ^ (n - 1) → 0 < m → RW (t.1 46) c → t.1 46 0 = nI n → NX n i t → (SIp c n i).length ≤ k → ∃ t', (∃ i0, (SI c n)[k]? = some i0 ∧ lX11_stableTo_38 (nI k) (m + 1 + f) (nI (SIp c n i).length) 1 t = some (nI k, t') ∧ ∀ e, e < 6 → t'.1 56 e = val (fw (xi n i0) n e)) ∨ ((SI c n)[k]? = none ∧ lX11_stableTo_38 (nI k) (m + 1 + f) (nI (SIp c n i).length) 1 t = some (-4, t')) := by
  have hT := pow_bd n h6 h2
  intro m
  induction m with
  | zero => intro i f t h h0; omega
  | succ m ih =>
    intro i f t h _ hw h0 hx hle
    obtain ⟨t', s6, a1, a2, a3, a4⟩ := sm_st_step ho h2 h6 (show i < n ^ (n - 1) by omega) hw h0 hx (nI k) (m + 1 + f) (SIp c n i).length
    have hlen := SIp_len c n i
    have nx : (SIp c n (i + 1)).length ≤ k → ∃ t'', (∃ i0, (SI c n)[k]? = some i0 ∧ lX11_stableTo_38 (nI k) (m + 1 + f) (nI (SIp c n (i + 1)).length) (if i + 1 = n ^ (n - 1) then 0 else 1) t' = some (nI k, t'') ∧ ∀ e, e < 6 → t''.1 56 e = val (fw (xi n i0) n e)) ∨ ((SI c n)[k]? = none ∧ lX11_stableTo_38 (nI k) (m + 1 + f) (nI (SIp c n (i + 1)).length) (if i + 1 = n ^ (n - 1) then 0 else 1) t' = some (-4, t'')) := by
      intro hle2
      by_cases z : i + 1 = n ^ (n - 1)
      · refine ⟨t', Or.inr ⟨?_, ?_⟩⟩
        · rw [z] at hle2
          exact List.getElem?_eq_none hle2
        · rw [if_pos z, show m + 1 + f = (m + f) + 1 by omega, lX11_stableTo_38, if_pos rfl, if_pos (nI_pos' hk)]
      · rw [if_neg z]
        exact ih (i + 1) f t' (by omega) (by omega) (by rw [a1]; exact hw) (by rw [a1]; exact h0) (a2 (by omega)) hle2
    rw [show m + 1 + 1 + f = (m + 1 + f) + 1 by omega, a4]
    have hs := SIp_succ c n i
    by_cases z : stb c n (xi n i) = true
    · rw [if_pos z] at hs
      rw [hs, List.length_append, List.length_singleton] at nx
      rw [if_pos z]
      by_cases y : (SIp c n i).length = k
      · refine ⟨s6, Or.inl ⟨i, ?_, ?_, a3⟩⟩
        · rw [← y]; exact SI_at c n (by omega) z
        · rw [if_pos (by rw [y])]
      · rw [if_neg (by rw [eqI (by omega) hk]; exact y)]
        exact nx (by omega)
    · rw [if_neg z] at hs
      rw [hs] at nx
      rw [if_neg z]
      exact nx hle
theorem sm_st7 {n : Nat} (h2 : 2 ≤ n) (h6 : n ≤ 6) {t : mx_G} (h0 : t.1 46 0 = nI n) (b1 b2 b3 : Int32) (K : mx_G → Option (Int32 × mx_G)) : ∀ (m d f : Nat) (g : Nat → Int32), d + m = n → 0 < d → (∀ e, 0 < e → e < d → g e = nI (xi n 0 e)) → ∃ g', lX11_stableTo_7 b1 b2 b3 K (m + 1 + f) (nI d) (gs t 59 g) = K (gs t 59 g') ∧ ∀ e, 0 < e → e < n → g' e = nI (xi n 0 e) := by
  have hx0 : ix 0 128 = true := by rw [li_0]; exact ixT (by omega) (by omega)
  have hz : Int32.toNatClampNeg 0 = 0 := by decide
  intro m
  induction m with
  | zero =>
    intro d f g h hd hg
    refine ⟨g, ?_, fun e a b => hg e a (by omega)⟩
    rw [show 0 + 1 + f = f + 1 by omega, lX11_stableTo_7, if_pos hx0, hz, gs_rdn _ (by decide), h0, if_pos (nI_le (by omega) (by omega))]
  | succ m ih =>
    intro d f g h hd hg
    have e1 : nI d + 1 = nI (d + 1) := by rw [li_1, adI]
    have e2 := sm_nextOne0 (s := gs t 59 g) h2 h6 hd (show d < n by omega) (by rw [gs_rdn _ (by decide)]; exact h0)
    have ex : xi n 0 d = cand n d 0 := by unfold xi; rw [Nat.zero_div, Nat.zero_mod]
    rw [show m + 1 + 1 + f = (m + 1 + f) + 1 by omega, lX11_stableTo_7, if_pos hx0, hz, gs_rdn _ (by decide), h0, if_neg (nI_ge (by omega) (by omega)), e2, bd_some, ixT (by omega) (by omega), if_pos rfl, clI (by omega), mv_let, gi_of, e1]
    refine ih (d + 1) f _ (by omega) (by omega) (fun e a b => ?_)
    rw [upd_rd]
    by_cases y : e = d
    · rw [if_pos y, y, ex]
    · rw [if_neg y]; exact hg e a (by omega)
theorem sm_stable0 {c : Nat → Int32} (ho : WOK c) {n : Nat} (h2 : 2 ≤ n) (h6 : n ≤ 6) {t : mx_G} (hw : RW (t.1 46) c) (h0 : t.1 46 0 = nI n) : ∃ t', fX11_stableTo (-4) t = some (nI (SI c n).length, t') := by
  have hT := pow_bd n h6 h2
  have hpos : 0 < n ^ (n - 1) := Nat.pow_pos (by omega)
  obtain ⟨f, hf⟩ := FU_lt (n := n - 1) (by omega)
  obtain ⟨f2, hf2⟩ := FU_lt (n := n ^ (n - 1)) (by omega)
  obtain ⟨g, e1, hg⟩ := sm_st7 h2 h6 h0 (-4) 0 1 (fun s4 => lX11_stableTo_38 (-4) FU 0 1 s4) (n - 1) 1 f (t.1 59) (by omega) (by omega) (fun e a b => absurd b (by omega))
  rw [gs_self, ← hf] at e1
  obtain ⟨t', e2⟩ := sm_st_count ho h2 h6 (n ^ (n - 1)) 0 f2 (gs t 59 g) (by omega) hpos (by rw [gs_rdn _ (by decide)]; exact hw) (by rw [gs_rdn _ (by decide)]; exact h0) (fun d a b => by rw [gs_rd]; exact hg d a b)
  rw [← hf2] at e2
  refine ⟨t', ?_⟩
  unfold fX11_stableTo
  exact Eq.trans e1 e2
theorem sm_stableK {c : Nat → Int32} (ho : WOK c) {n : Nat} (h2 : 2 ≤ n) (h6 : n ≤ 6) {t : mx_G} (hw : RW (t.1 46) c) (h0 : t.1 46 0 = nI n) {k : Nat} (hk : k < 2147483648) : ∃ t', (∃ i0, (SI c n)[k]? = some i0 ∧ fX11_stableTo (nI k) t = some (nI k, t') ∧ ∀ e, e < 6 → t'.1 56 e = val (fw (xi n i0) n e)) ∨ ((SI c n)[k]? = none ∧ fX11_stableTo (nI k) t = some (-4, t')) := by
  have hT := pow_bd n h6 h2
  have hpos : 0 < n ^ (n - 1) := Nat.pow_pos (by omega)
  obtain ⟨f, hf⟩ := FU_lt (n := n - 1) (by omega)
  obtain ⟨f2, hf2⟩ := FU_lt (n := n ^ (n - 1)) (by omega)
  obtain ⟨g, e1, hg⟩ := sm_st7 h2 h6 h0 (nI k) 0 1 (fun s4 => lX11_stableTo_38 (nI k) FU 0 1 s4) (n - 1) 1 f (t.1 59) (by omega) (by omega) (fun e a b => absurd b (by omega))
  rw [gs_self, ← hf] at e1
  obtain ⟨t', e2⟩ := sm_st_k ho h2 h6 k hk (n ^ (n - 1)) 0 f2 (gs t 59 g) (by omega) hpos (by rw [gs_rdn _ (by decide)]; exact hw) (by rw [gs_rdn _ (by decide)]; exact h0) (fun d a b => by rw [gs_rd]; exact hg d a b) (by show (SIp c n 0).length ≤ k; unfold SIp; simp)
  rw [← hf2] at e2
  refine ⟨t', ?_⟩
  rcases e2 with ⟨i0, q1, q2, q3⟩ | ⟨q1, q2⟩
  · refine Or.inl ⟨i0, q1, ?_, q3⟩
    unfold fX11_stableTo
    exact Eq.trans e1 q2
  · refine Or.inr ⟨q1, ?_⟩
    unfold fX11_stableTo
    exact Eq.trans e1 q2
