/-! PURE PART: why, the reference -/
theorem app_at (p : List Nat) (x : Nat) (r : List Nat) : (p ++ x :: r).getD p.length 0 = x := by
  rw [List.getD_eq_getElem?_getD, List.getElem?_append_right (Nat.le_refl _), Nat.sub_self]; rfl
theorem app_at1 (p : List Nat) (x : Nat) (r : List Nat) : (p ++ x :: r).getD (p.length + 1) 0 = hd0 r := by
  rw [List.getD_eq_getElem?_getD, List.getElem?_append_right (by omega), show p.length + 1 - p.length = 1 by omega]
  cases r <;> rfl
theorem sm_set42 {ds : List Nat} (h : Dg ds) (hl : Ld ds) (h8 : ds.length ≤ 8) (h6 : ∀ x ∈ ds, x < 6) (a1 a3 a4 a5 a6 : Int32) (s : mx_G) (K : Int32 → mx_G → Option (Int32 × mx_G)) : ∀ (b p a : List Nat) (f : Nat), ds = p ++ (a ++ b) → lX11_whyAt_42 (nI (wnum ds)) a3 a4 a5 a6 K (b.length + 1 + f) (nI (ms a)) (nI (p.length + a.length)) s = K (nI (ms (a ++ b))) s := by
  intro b
  induction b with
  | nil =>
    intro p a f hd
    have hlen : ds.length = p.length + a.length := by rw [hd]; simp
    rw [List.length_nil, show 0 + 1 + f = f + 1 by omega, lX11_whyAt_42, sm_figures h hl h8, bd_some, if_pos (nI_le (by omega) (by omega)), List.append_nil]
  | cons x b ih =>
    intro p a f hd
    have hlen : ds.length = p.length + a.length + (b.length + 1) := by rw [hd]; simp; omega
    have hx : x < 6 := h6 x (by rw [hd]; simp)
    have ha : ∀ y ∈ a, y < 6 := fun y hy => h6 y (by rw [hd]; simp [hy])
    have h2 : 2 ^ x < 2 ^ 6 := Nat.pow_lt_pow_right (by omega) hx
    have e1 : nI (p.length + a.length) + 1 = nI (p.length + (a ++ [x]).length) := by rw [li_1, adI, List.length_append, List.length_singleton, Nat.add_assoc]
    have hg : ds.getD (p.length + a.length) 0 = x := by
      rw [hd, ← List.append_assoc, ← List.length_append]
      exact app_at (p ++ a) x b
    rw [List.length_cons, show b.length + 1 + 1 + f = (b.length + 1 + f) + 1 by omega, lX11_whyAt_42, sm_figures h hl h8, bd_some, if_neg (nI_ge (by omega) (by omega)), sm_figure h hl h8 (by omega), bd_some, hg, mv_let, shl_n x (by omega), or_n _ (ms_lt ha) _ h2, ← ms_snoc, e1, ih p (a ++ [x]) f (by rw [hd]; simp)]
    simp
theorem sm_whyAt {s : mx_G} {c : Nat → Int32} (hw : RW (s.1 46) c) (ho : WOK c) {ds p r : List Nat} {d : Nat} (hds : ds = p ++ d :: r) (hne : r ≠ []) (h : Dg ds) (hl : Ld ds) (h8 : ds.length ≤ 8) (h6 : ∀ x ∈ ds, x < 6) : fX11_whyAt (nI (wnum ds)) (nI p.length) s = some (nI (rsn c d r), s) := by
  have hlen : ds.length = p.length + (r.length + 1) := by rw [hds]; simp
  have hrpos : 0 < r.length := by
    cases r with
    | nil => exact absurd rfl hne
    | cons => simp
  have hd : d < 6 := h6 d (by rw [hds]; simp)
  have hr : ∀ x ∈ r, x < 6 := fun x hx => h6 x (by rw [hds]; simp [hx])
  have hrd : Dg r := fun x hx => by have := hr x hx; omega
  have hms := ms_lt hr
  have he : hd0 r < 6 := by
    cases r with
    | nil => exact absurd rfl hne
    | cons x r => exact hr x List.mem_cons_self
  have hy : sec r < 6 ∨ sec r = 9 := by
    cases r with
    | nil => exact absurd rfl hne
    | cons x r =>
      cases r with
      | nil => exact Or.inr rfl
      | cons y r => exact Or.inl (hr y (by simp))
  have hb := wnum_lt h
  have hp8 := pow8 h8
  have hbr := wnum_lt hrd
  have hpr := pow8 (n := r.length) (by omega)
  have hpos : 0 < 10 ^ r.length := Nat.pow_pos (by omega)
  have e1 : ∀ τ, fX11_figure (nI (wnum ds)) (nI p.length) τ = some (nI d, τ) := fun τ => by rw [sm_figure h hl h8 (by omega), hds, app_at]
  have e2 : ∀ τ, fX11_figure (nI (wnum ds)) (nI p.length + 1) τ = some (nI (hd0 r), τ) := fun τ => by rw [li_1, adI, sm_figure h hl h8 (by omega), hds, app_at1]
  have e3 : nI ds.length - nI p.length - 1 = nI r.length := by rw [li_1, suI (by omega), suI (by omega), show ds.length - p.length - 1 = r.length by omega]
  have e4 : mv_rem (nI (wnum ds)) (nI (10 ^ r.length)) = nI (wnum r) := by
    rw [rmI (by omega) hpos (by omega), hds, show p ++ d :: r = (p ++ [d]) ++ r by simp, wnum_app, Nat.mul_comm, Nat.mul_add_mod, Nat.mod_eq_of_lt hbr]
  have hnz : ¬ nI (10 ^ r.length) = 0 := by rw [li_0, eqI (by omega) (by omega)]; omega
  obtain ⟨f, hf⟩ := FU_lt (n := r.length) (by omega)
  have e5 : nI p.length + 1 = nI ((p ++ [d]).length + ([] : List Nat).length) := by rw [li_1, adI, List.length_append, List.length_singleton, List.length_nil]
  unfold fX11_whyAt
  rw [e1, bd_some, e2, bd_some, sm_figures h hl h8, bd_some]
  simp only [mv_let]
  rw [e3, sm_ten (by omega), bd_some, if_neg hnz, e4, e5, hf, show (0 : Int32) = nI (ms []) from rfl, sm_set42 h hl h8 h6 (0 : Int32) _ _ _ _ s _ r (p ++ [d]) [] f (by rw [hds]; simp), List.nil_append]
  unfold rsn
  rw [sm_areLinked hw ho hd he]
  have hz : nI d = nI (hd0 r) → c (13 + d * 6 + hd0 r) = 0 := by
    intro z
    rw [eqI (by omega) (by omega)] at z
    rw [← z, ho.2.1 _ (by omega), (ho.2.2.2.2.1 d d hd hd).2.2.2.2.2.2 (Or.inl rfl)]
    rfl
  by_cases z1 : c (13 + d * 6 + hd0 r) = 0
  · rw [if_pos z1, if_pos (show c (13 + d * 6 + hd0 r) = 0 ∨ ¬ c (49 + d * 6 + hd0 r) = 0 from Or.inl z1), bd_some]
    split
    · rfl
    · rw [if_pos (by rfl)]; rfl
  · rw [if_neg (fun q => z1 (hz q)), if_neg z1, bd_some]
    by_cases z2 : c (49 + d * 6 + hd0 r) = 0
    · rw [if_pos z2, if_neg (by decide), if_neg (show ¬ (c (13 + d * 6 + hd0 r) = 0 ∨ ¬ c (49 + d * 6 + hd0 r) = 0) from fun q => q.elim z1 (fun q => q z2))]
      unfold fX11_has
      by_cases z3 : mv_shr (nI (ms r)) (nI d) &&& 1 = 1
      · rw [if_pos z3, if_pos z3, bd_some, if_neg (by decide)]; rfl
      · rw [if_neg z3, if_neg z3, bd_some, if_pos (by rfl)]
        have a3 := hw.at (k := 115 + d) (i := 7 + d) (by omega) (by omega)
        rw [li_115, adI, ixT (by omega) (by omega), if_pos rfl, clI (by omega), a3]
        by_cases z4 : c (7 + d) &&& nI (ms r) = 0
        · rw [if_pos (show c (7 + d) &&& nI (ms r) = nI (ms []) from z4), if_neg (show ¬ ¬ (c (7 + d) &&& nI (ms r) = 0) from fun q => q z4)]
          have hlets := sm_lets hw he hd hy (s := s)
          by_cases zl : r.length = 1
          · have hs9 : sec r = 9 := by
              cases r with
              | nil => rfl
              | cons x r =>
                cases r with
                | nil => rfl
                | cons y r => simp at zl
            rw [if_pos hs9] at hlets
            rw [if_pos (show nI r.length = 1 by rw [zl]; rfl), hlets, bd_some]
            by_cases z5 : tkL c (hd0 r) d (sec r)
            · rw [if_pos z5, if_neg (by decide), if_pos z5]; rfl
            · rw [if_neg z5, if_pos (by rfl), if_neg z5]; rfl
          · have hs9 : ¬ sec r = 9 := by
              cases r with
              | nil => exact absurd rfl hne
              | cons x r =>
                cases r with
                | nil => exact absurd rfl zl
                | cons y r =>
                  have := hr y (by simp)
                  show ¬ y = 9
                  omega
            rw [if_neg hs9] at hlets
            have hp2 := pow8 (n := r.length - 2) (by omega)
            have hpos2 : 0 < 10 ^ (r.length - 2) := Nat.pow_pos (by omega)
            have e6 : nI r.length - 2 = nI (r.length - 2) := by rw [li_2, suI (by omega)]
            have e7 : mv_rem (nI (wnum r) / nI (10 ^ (r.length - 2))) 10 = nI (sec r) := by
              have hdv : wnum r / 10 ^ (r.length - 2) < 2147483648 := by
                have := Nat.div_le_self (wnum r) (10 ^ (r.length - 2))
                omega
              rw [dvI (by omega) hpos2 (by omega), li_10, rmI hdv (by omega) (by omega), wnum_at _ r hrd (by omega), show r.length - 1 - (r.length - 2) = 1 by omega]
              cases r with
              | nil => exact absurd rfl hne
              | cons x r =>
                cases r with
                | nil => exact absurd rfl zl
                | cons y r => rfl
            rw [if_neg (show ¬ nI r.length = 1 by rw [li_1, eqI (by omega) (by omega)]; exact zl), e6, sm_ten (by omega), bd_some, if_neg (show ¬ nI (10 ^ (r.length - 2)) = nI (ms []) by rw [show ms [] = 0 from rfl, eqI (by omega) (by omega)]; omega), e7, hlets, bd_some]
            by_cases z5 : tkL c (hd0 r) d (sec r)
            · rw [if_pos z5, if_neg (by decide), if_pos z5]; rfl
            · rw [if_neg z5, if_pos (by rfl), if_neg z5]; rfl
        · rw [if_neg (show ¬ c (7 + d) &&& nI (ms r) = nI (ms []) from z4), if_pos z4]; rfl
    · rw [if_neg z2, if_pos (show c (13 + d * 6 + hd0 r) = 0 ∨ ¬ c (49 + d * 6 + hd0 r) = 0 from Or.inr z2), if_pos (by rfl)]; rfl
theorem sm_whys {s : mx_G} {c : Nat → Int32} (hw : RW (s.1 46) c) (ho : WOK c) {ds : List Nat} (h : Dg ds) (hl : Ld ds) (h8 : ds.length ≤ 8) (h6 : ∀ x ∈ ds, x < 6) : ∀ (q r : List Nat) (f : Nat), ds = q.reverse ++ r → r ≠ [] → lX11_why_17 (nI (wnum ds)) (fun y9 y10 s8 => mv_bind (fX11_figure (nI (wnum ds)) y9 s8) fun x11 s12 => some (((100 * y10) + (10 * x11)) + y9, s12)) (q.length + 1 + f) (nI q.length + (-1)) s = some (nI (rg c q r), s) := by
  intro q
  induction q with
  | nil =>
    intro r f _ _
    rw [List.length_nil, show 0 + 1 + f = f + 1 by omega, lX11_why_17, if_pos (by decide)]
    rfl
  | cons d q ih =>
    intro r f hd hne
    have hd' : ds = q.reverse ++ d :: r := by rw [hd, List.reverse_cons]; simp
    have hlen : ds.length = q.length + (r.length + 1) := by rw [hd']; simp
    have hi := ih (d :: r) f hd' (by simp)
    have e1 := sm_whyAt hw ho hd' hne h hl h8 h6
    rw [List.length_reverse] at e1
    have hrs := rsn_le c d r
    rw [List.length_cons, show q.length + 1 + 1 + f = (q.length + 1 + f) + 1 by omega, pk_m1, lX11_why_17, if_neg (by rw [li_0, ltI (by omega) (by omega)]; omega), e1, bd_some, rg]
    by_cases z : rsn c d r = 0
    · rw [if_pos (by rw [z]; decide), if_pos z]
      exact hi
    · have hg : ds.getD q.length 0 = d := by rw [hd', ← List.length_reverse (as := q)]; exact app_at _ _ _
      rw [if_neg (by rw [li_0, leI (by omega) (by omega)]; omega), if_neg z, sm_figure h hl h8 (by omega), bd_some, hg, li_100, li_10, muI, muI, adI, adI]
