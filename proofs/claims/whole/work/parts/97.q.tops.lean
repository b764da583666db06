/-! PURE PART: read: from the first letter on -/
theorem XS3_self (s : mx_G) : XS3 s (s.1 36) (s.1 38) (s.1 39) = s := by
  unfold XS3
  rw [gs_self, gs_self, gs_self]
theorem RS3_self (s : mx_G) : RS3 s (s.1 45) (s.1 66) (s.1 67) = s := by
  unfold RS3
  rw [gs_self, gs_self, gs_self]
theorem sx_fill38 {σ : mx_G} {u h : Nat → Int32} : ∀ (m k f : Nat) (g : Nat → Int32), k + m = 36 → (∀ j, j < k → g j = 0) → ∃ g', lJA_fillI_1_5 0 36 (m + 1 + f) (nI k) (XS3 σ u g h) = some ((), XS3 σ u g' h) ∧ ∀ j, j < 36 → g' j = 0 := by
  intro m
  induction m with
  | zero =>
    intro k f g hk hg
    refine ⟨g, ?_, fun j hj => hg j (by omega)⟩
    rw [show 0 + 1 + f = f + 1 by omega, lJA_fillI_1_5, show k = 36 by omega, if_pos (by decide)]
  | succ m ih =>
    intro k f g hk hg
    have e1 : nI k + 1 = nI (k + 1) := by rw [li_1, adI]
    rw [show m + 1 + 1 + f = (m + 1 + f) + 1 by omega, lJA_fillI_1_5, if_neg (by rw [show (36 : Int32) = nI 36 from rfl, leI (by omega) (by omega)]; omega), ixT (by omega) (by omega), if_pos rfl, clI (by omega), mv_let, XS3_g38, e1]
    refine ih (k + 1) f _ (by omega) (fun j hj => ?_)
    rw [upd_rd]
    by_cases y : j = k
    · rw [if_pos y]
    · rw [if_neg y]; exact hg j (by omega)
theorem sm_zero12 {t : mx_G} {u : Nat → Int32} (K : mx_G → Option (Unit × mx_G)) : ∀ (m k f : Nat) (g h : Nat → Int32), k + m = 36 → (∀ j, j < k → g j = 0 ∧ h j = 0) → ∃ g' h', lX11_readsAll_12 K (m + 1 + f) (nI k) (RS3 t u g h) = K (RS3 t u g' h') ∧ ∀ j, j < 36 → g' j = 0 ∧ h' j = 0 := by
  intro m
  induction m with
  | zero =>
    intro k f g h hk hg
    refine ⟨g, h, ?_, fun j hj => hg j (by omega)⟩
    rw [show 0 + 1 + f = f + 1 by omega, lX11_readsAll_12, show k = 36 by omega, if_pos (by decide)]
  | succ m ih =>
    intro k f g h hk hg
    have e1 : nI k + 1 = nI (k + 1) := by rw [li_1, adI]
    rw [show m + 1 + 1 + f = (m + 1 + f) + 1 by omega, lX11_readsAll_12, if_neg (by rw [show (36 : Int32) = nI 36 from rfl, leI (by omega) (by omega)]; omega), ixT (by omega) (by omega), if_pos rfl, clI (by omega), mv_let, RS3_g66, if_pos rfl, mv_let, RS3_g67, e1]
    refine ih (k + 1) f _ _ (by omega) (fun j hj => ?_)
    rw [upd_rd, upd_rd]
    by_cases y : j = k
    · rw [if_pos y, if_pos y]; exact ⟨rfl, rfl⟩
    · rw [if_neg y, if_neg y]; exact hg j (by omega)
theorem NT_zero (n : Nat) : NT n (fun _ => 0) (fun _ => 0) := by
  intro a b _ _
  exact ⟨Nat.zero_le _, Nat.zero_le _, by rw [if_pos rfl], rfl, fun _ => rfl, fun _ => rfl⟩
theorem lks_zero : lks (fun _ => 0) = 0 := rfl
theorem rd_all {T : Nat → Nat} {M n : Nat} {σ t : mx_G} (hX : TX T M σ) (hR : TP T M t) (h2 : 2 ≤ n) (h6 : n ≤ 6) (h0 : t.1 46 0 = nI n) (x1 : σ.1 36 1 = nI M) (r7 : t.1 45 7 = nI M) : OutR T M n σ t (t.1 45) (fX7_parse (nI n) σ) (fX11_readsAll t) := by
  have h80 := hX.1
  obtain ⟨KX, hKX⟩ : ∃ K : mx_G → Option (Int32 × mx_G), K = (fun s6 => mv_let (fun (q0_92 : Int32) (s_92 : mx_G) => if q0_92 = 0 then some ((-20) - (s_92.1 36 1), s_92) else some (s_92.1 36 6, s_92)) fun J92 => mv_let (fun (s_87 : mx_G) => J92 1 s_87) fun J87 => if s6.1 36 2 = 0 then J87 s6 else if s6.1 36 2 = 4 then J87 s6 else if s6.1 36 2 = 5 then J87 s6 else J92 0 s6) := ⟨_, rfl⟩
  have pKX : ∀ u g h, KX (XS3 σ u g h) = some (if u 2 = 0 ∨ u 2 = 4 ∨ u 2 = 5 then u 6 else (-20) - u 1, XS3 σ u g h) := by
    intro u g h
    rw [hKX]
    simp only [mv_let]
    rw [XS3_36, if_neg one_ne, if_pos trivial]
    by_cases z0 : u 2 = 0
    · rw [if_pos z0, if_pos (Or.inl z0)]
    · rw [if_neg z0]
      by_cases z4 : u 2 = 4
      · rw [if_pos z4, if_pos (Or.inr (Or.inl z4))]
      · rw [if_neg z4]
        by_cases z5 : u 2 = 5
        · rw [if_pos z5, if_pos (Or.inr (Or.inr z5))]
        · rw [if_neg z5, if_neg (by rintro (q | q | q) <;> contradiction)]
  obtain ⟨KR, hKR⟩ : ∃ K : mx_G → Option (Unit × mx_G), K = (fun s13 => if s13.1 45 25 = 0 then mv_bind (fX11_looks s13) fun x15 s16 => if x15 = 0 then if 0 = 0 ∨ 0 = 1 then mv_let (gi s16 45 25 0) fun s17 => some ((), s17) else none else if 1 = 0 ∨ 1 = 1 then mv_let (gi s16 45 25 1) fun s18 => some ((), s18) else none else if 1 = 0 ∨ 1 = 1 then mv_let (gi s13 45 25 1) fun s14 => some ((), s14) else none) := ⟨_, rfl⟩
  generalize hur : upd (upd (t.1 45) 24 0) 25 0 = ur
  have ur25 : ur 25 = 0 := by rw [← hur, upd_rd, if_pos rfl]
  have ur24 : ur 24 = nI 0 := by rw [← hur, upd_rd, if_neg (by decide), upd_rd, if_pos rfl]; rfl
  have urne : ∀ k, k ≠ 24 → k ≠ 25 → ur k = t.1 45 k := fun k a b => by rw [← hur, upd_rd, if_neg b, upd_rd, if_neg a]
  have ur7 : ur 7 = nI M := by rw [urne 7 (by decide) (by decide)]; exact r7
  have pK1 : ∀ j g h, KR (RS3 t (Uf ur j) g h) = some ((), RS3 t (Uf ur j) g h) := by
    intro j g h
    rw [hKR]
    show (if (RS3 t (Uf ur j) g h).1 45 25 = 0 then _ else _) = _
    rw [F25, if_neg one_ne, if_pos (Or.inr rfl), mv_let, RS3_g45, upd_self _ (Uf_25 ur j)]
  have pK0 : ∀ j g h, j ≤ M → nb T M j = j → KR (RS3 t (Ux ur j) g h) = some ((), RS3 t (if j < M then Uf ur j else Ux ur j) g h) := by
    intro j g h hj hn
    rw [hKR]
    show (if (RS3 t (Ux ur j) g h).1 45 25 = 0 then _ else _) = _
    rw [U25 ur25, if_pos rfl, lookU hR hj ur7, hn, bd_some]
    rcases Nat.lt_or_ge j M with y | y
    · have l1 := Lt_in (T := T) y
      have l2 := hX.2.1 j y
      rw [if_pos y, l1, if_neg (by rw [li_0, eqI (by omega) (by omega)]; omega), if_pos (Or.inr rfl), mv_let, RS3_g45]
      rfl
    · rw [show j = M by omega, Lt_end, if_pos (show nI 0 = 0 from rfl), if_pos (Or.inl rfl), mv_let, RS3_g45, upd_self (Ux ur M) (by rw [Ux_ne _ _ (by decide)]; exact ur25), if_neg (Nat.lt_irrefl M)]
  obtain ⟨fF, hF⟩ := FU_lt (n := M) (by omega)
  obtain ⟨f36, hf36⟩ := FU_lt (n := 36) (by omega)
  have hF80 : FU = 80 + 2 + 999918 := rfl
  /- the class -/
  generalize hux : upd (upd (σ.1 36) 2 0) 6 0 = ux
  have ux1 : ux 1 = nI M := by rw [← hux, upd_rd, if_neg (by decide), upd_rd, if_neg (by decide)]; exact x1
  have ux2 : ux 2 = 0 := by rw [← hux, upd_rd, if_neg (by decide), upd_rd, if_pos rfl]
  have ux6 : ux 6 = nI 0 := by rw [← hux, upd_rd, if_pos rfl]; rfl
  obtain ⟨gx, fx1, fx2⟩ := sx_fill38 (σ := σ) (u := ux) (h := σ.1 39) 36 0 f36 (σ.1 38) (by omega) (fun j hj => absurd hj (by omega))
  rw [← hf36] at fx1
  have eX : fX7_parse (nI n) σ = lX7_parse_20 (nI n) KX (M - nb T M 0 + 1 + fF) (nI (nb T M 0)) (XS3 σ ux gx (σ.1 39)) := by
    have e := cl_skip hX (g := gx) (h := σ.1 39) ux1 n KX fF M 0 (by omega)
    have e : lX7_parse_20 (nI n) KX (M - 0 + 1 + fF) 0 (XS3 σ ux gx (σ.1 39)) = lX7_parse_20 (nI n) KX (M - nb T M 0 + 1 + fF) (nI (nb T M 0)) (XS3 σ ux gx (σ.1 39)) := e
    have fx1 : lJA_fillI_1_5 0 36 FU 0 (XS3 σ ux (σ.1 38) (σ.1 39)) = some ((), XS3 σ ux gx (σ.1 39)) := fx1
    rw [← e, show M - 0 + 1 + fF = FU by omega]
    unfold fX7_parse
    have es : gi (gi σ 36 2 0) 36 6 0 = XS3 σ ux (σ.1 38) (σ.1 39) := by
      have := XS3_self σ
      rw [← hux, ← XS3_g36, ← XS3_g36, this]
    rw [mv_let, mv_let, es]
    unfold fJA_fillI_1
    rw [fx1, bd_some, hKX]
  /- the reference -/
  obtain ⟨gr, hr, fr1, fr2⟩ := sm_zero12 (t := t) (u := ur) (fun s5 => mv_bind (fX11_looks s5) fun x6 s7 => if x6 = 0 then lX11_readsAll_51 KR FU 0 s7 else lX11_readsAll_51 KR FU 1 s7) 36 0 f36 (t.1 66) (t.1 67) (by omega) (fun j hj => absurd hj (by omega))
  rw [← hf36] at fr1
  have eself : Ux ur 0 = ur := upd_self ur ur24
  have eR : fX11_readsAll t = if nI (Lt T M (nb T M 0)) = 0 then lX11_readsAll_51 KR FU 0 (RS3 t (Ux ur (nb T M 0)) gr hr) else lX11_readsAll_51 KR FU 1 (RS3 t (Ux ur (nb T M 0)) gr hr) := by
    have es : gi (gi t 45 24 0) 45 25 0 = RS3 t ur (t.1 66) (t.1 67) := by
      have := RS3_self t
      rw [← hur, ← RS3_g45, ← RS3_g45, this]
    unfold fX11_readsAll
    rw [mv_let, if_pos (Or.inl rfl), mv_let, es]
    refine Eq.trans (b := lX11_readsAll_12 (fun s5 => mv_bind (fX11_looks s5) fun x6 s7 => if x6 = 0 then lX11_readsAll_51 KR FU 0 s7 else lX11_readsAll_51 KR FU 1 s7) FU 0 (RS3 t ur (t.1 66) (t.1 67))) ?_ (Eq.trans fr1 ?_)
    · rw [hKR]
      simp only [mv_let]
    have el := lookU hR (g := gr) (h := hr) (u := ur) (i := 0) (by omega) ur7
    rw [eself] at el
    show mv_bind (fX11_looks (RS3 t ur gr hr)) _ = _
    rw [el, bd_some]
  obtain ⟨b1, b2, b3⟩ := nb_le T (show 0 ≤ M by omega)
  have n0 := nb_nb T (show 0 ≤ M by omega)
  have tb0 : Tb n gx (σ.1 39) gr hr (fun _ => 0) (fun _ => 0) 0 := ⟨NT_zero n, fun k hk => (fr2 k hk).1, fun k hk => (fr2 k hk).2, fun k hk => by rw [fx2 k hk, (fr2 k hk).1], fun k _ q => absurd rfl q, rfl⟩
  have conv : ∀ {cx : Option (Int32 × mx_G)} {cr : Option (Unit × mx_G)}, OutR T M n σ t ur cx cr → OutR T M n σ t (t.1 45) cx cr := by
    rintro cx cr ⟨r, a1, a2, a3, a4, a5, a6, g1, g2, g3, g4, g5⟩
    exact ⟨r, a1, a2, a3, a4, a5, a6, g1, g2, g3, fun k q1 q2 => by rw [g4 k q1 q2]; exact urne k q1 q2, g5⟩
  rw [eX, eR]
  generalize nb T M 0 = j0 at b1 b2 b3 n0
  apply conv
  rcases Nat.lt_or_ge j0 M with y | y
  · have l1 := Lt_in (T := T) y
    have l2 := hX.2.1 j0 y
    rw [if_neg (by rw [l1, li_0, eqI (by omega) (by omega)]; omega), hF80]
    exact sim_read hX hR h2 h6 h0 ur7 ur25 pKX pK1 pK0 fF 80 j0 999918 ux gx (σ.1 39) gr hr _ _ 0 (by omega) b2 ux1 (Or.inl ux2) (fun _ => by rw [n0]; exact y) ux6 tb0
  · have hj : j0 = M := by omega
    subst hj
    rw [Lt_end, if_pos (show nI 0 = 0 from rfl), cl_end hX ux1 n KX fF, pKX, if_pos (Or.inl ux2), ux6, hf36, show 36 + 1 + f36 = (36 + f36) + 1 by omega, lX11_readsAll_51, if_pos rfl, pK0 j0 _ _ (Nat.le_refl _) n0, if_neg (by omega)]
    exact ⟨_, _, _, _, _, _, _, rfl, ux1, rfl, fun k k1 _ => Ux_ne ur j0 k1, Or.inr ⟨_, _, 0, rfl, by rw [Ux_ne _ _ (by decide)]; exact ur25, Ux_24 ur j0, tb0⟩⟩
