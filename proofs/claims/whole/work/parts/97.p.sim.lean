/-! PURE PART: read: both read the same -/
def OutR (T : Nat → Nat) (M n : Nat) (σ t : mx_G) (ur : Nat → Int32) (cx : Option (Int32 × mx_G)) (cr : Option (Unit × mx_G)) : Prop := ∃ (r : Int32) (ux gx hx ur' gr hr : Nat → Int32), cx = some (r, XS3 σ ux gx hx) ∧ ux 1 = nI M ∧ cr = some ((), RS3 t ur' gr hr) ∧ (∀ k, k ≠ 24 → k ≠ 25 → ur' k = ur k) ∧ ((∃ j, j ≤ M ∧ nb T M j = j ∧ r = (-20) - nI j ∧ ur' 24 = nI j ∧ ur' 25 = 1) ∨ (∃ v c w, r = nI w ∧ ur' 25 = 0 ∧ ur' 24 = nI M ∧ Tb n gx hx gr hr v c w))
theorem OutR.bad {T : Nat → Nat} {M n : Nat} {σ t : mx_G} {ur : Nat → Int32} {cx : Option (Int32 × mx_G)} {cr : Option (Unit × mx_G)} {j : Nat} {ux gx hx gr hr : Nat → Int32} (h1 : cx = some ((-20) - nI j, XS3 σ ux gx hx)) (h2 : ux 1 = nI M) (h3 : cr = some ((), RS3 t (Uf ur j) gr hr)) (h4 : j ≤ M) (h5 : nb T M j = j) : OutR T M n σ t ur cx cr :=
  ⟨_, ux, gx, hx, Uf ur j, gr, hr, h1, h2, h3, fun k a b => Uf_ne ur j a b, Or.inl ⟨j, h4, h5, rfl, Uf_24 ur j, Uf_25 ur j⟩⟩
theorem rf_bad {t : mx_G} {ur gr hr g h : Nat → Int32} {i j : Nat} (h25 : ur 25 = 0) {KR : mx_G → Option (Unit × mx_G)} (hK : ∀ j g h, KR (RS3 t (Uf ur j) g h) = some ((), RS3 t (Uf ur j) g h)) (hl : fX11_readsLink (RS3 t (Ux ur i) gr hr) = some ((), RS3 t (Uf ur j) g h)) (f : Nat) : lX11_readsAll_51 KR (f + 2) 1 (RS3 t (Ux ur i) gr hr) = some ((), RS3 t (Uf ur j) g h) := by
  rw [show f + 2 = (f + 1) + 1 from rfl, lX11_readsAll_51, if_neg one_ne, U25 h25, if_pos rfl, hl, bd_some]
  simp only [mv_let]
  rw [F25, if_neg one_ne, if_pos trivial, RS3_45, Uf_24, show nI j + 0 = nI j by rw [li_0, adI]; rfl, RS3_g45, upd_self _ (Uf_24 ur j), lX11_readsAll_51, if_pos rfl]
  exact hK j g h
theorem rf_more {T : Nat → Nat} {M : Nat} {t : mx_G} (hT : TP T M t) {ur gr hr g h : Nat → Int32} {i p4 j5 : Nat} (h7 : ur 7 = nI M) (h25 : ur 25 = 0) {KR : mx_G → Option (Unit × mx_G)} (hl : fX11_readsLink (RS3 t (Ux ur i) gr hr) = some ((), RS3 t (Ux ur p4) g h)) (hp : p4 ≤ M) (e5 : nb T M p4 = j5) (hc : Lt T M j5 = 44) (f : Nat) : lX11_readsAll_51 KR (f + 1) 1 (RS3 t (Ux ur i) gr hr) = lX11_readsAll_51 KR f 1 (RS3 t (Ux ur (j5 + 1)) g h) := by
  rw [lX11_readsAll_51, if_neg one_ne, U25 h25, if_pos rfl, hl, bd_some]
  simp only [mv_let]
  rw [U25 h25, if_pos rfl, lookU hT hp h7, e5, bd_some, hc, if_pos (show nI 44 = 44 from rfl), if_neg one_ne, RS3_45, Ux_24, show nI j5 + 1 = nI (j5 + 1) by rw [li_1, adI], RS3_g45, Ux_Ux]
theorem rf_last {T : Nat → Nat} {M : Nat} {t : mx_G} (hT : TP T M t) {ur gr hr g h : Nat → Int32} {i p4 j5 : Nat} (h7 : ur 7 = nI M) (h25 : ur 25 = 0) {KR : mx_G → Option (Unit × mx_G)} (hl : fX11_readsLink (RS3 t (Ux ur i) gr hr) = some ((), RS3 t (Ux ur p4) g h)) (hp : p4 ≤ M) (e5 : nb T M p4 = j5) (hc : ¬ Lt T M j5 = 44) (f : Nat) : lX11_readsAll_51 KR (f + 2) 1 (RS3 t (Ux ur i) gr hr) = KR (RS3 t (Ux ur j5) g h) := by
  have hl5 := Lt_lt hT j5
  rw [show f + 2 = (f + 1) + 1 from rfl, lX11_readsAll_51, if_neg one_ne, U25 h25, if_pos rfl, hl, bd_some]
  simp only [mv_let]
  rw [U25 h25, if_pos rfl, lookU hT hp h7, e5, bd_some, if_neg (by rw [show (44 : Int32) = nI 44 from rfl, eqI (by omega) (by omega)]; exact hc), if_pos trivial, RS3_45, Ux_24, show nI j5 + 0 = nI j5 by rw [li_0, adI]; rfl, RS3_g45, Ux_Ux, lX11_readsAll_51, if_pos rfl]
theorem Lt_end (T : Nat → Nat) (M : Nat) : Lt T M M = 0 := by unfold Lt; rw [if_neg (by omega)]
theorem Lt_in {T : Nat → Nat} {M j : Nat} (h : j < M) : Lt T M j = T j := by unfold Lt; rw [if_pos h]
theorem sim_read {T : Nat → Nat} {M n : Nat} {σ t : mx_G} (hX : TX T M σ) (hR : TP T M t) (h2 : 2 ≤ n) (h6 : n ≤ 6) (h0 : t.1 46 0 = nI n) {ur : Nat → Int32} (h7 : ur 7 = nI M) (h25 : ur 25 = 0) {KX : mx_G → Option (Int32 × mx_G)} (hKX : ∀ u g h, KX (XS3 σ u g h) = some (if u 2 = 0 ∨ u 2 = 4 ∨ u 2 = 5 then u 6 else (-20) - u 1, XS3 σ u g h)) {KR : mx_G → Option (Unit × mx_G)} (hK1 : ∀ j g h, KR (RS3 t (Uf ur j) g h) = some ((), RS3 t (Uf ur j) g h)) (hK0 : ∀ j g h, j ≤ M → nb T M j = j → KR (RS3 t (Ux ur j) g h) = some ((), RS3 t (if j < M then Uf ur j else Ux ur j) g h)) (F : Nat) : ∀ (m i f : Nat) (ux gx hx gr hr : Nat → Int32) (v c : Nat → Nat) (w : Nat), M - i ≤ m → i ≤ M → ux 1 = nI M → (ux 2 = 0 ∨ ux 2 = 1) → (ux 2 = 0 → nb T M i < M) → ux 6 = nI w → Tb n gx hx gr hr v c w → OutR T M n σ t ur (lX7_parse_20 (nI n) KX (M - i + 1 + F) (nI i) (XS3 σ ux gx hx)) (lX11_readsAll_51 KR (m + 2 + f) 1 (RS3 t (Ux ur i) gr hr)) := by
  intro m
  induction m with
  | zero =>
    intro i f ux gx hx gr hr v c w hm hi u1 u2 u20 u6 tb
    have : i = M := by omega
    subst this
    have hs1 : ux 2 = 1 := by
      rcases u2 with q | q
      · exact absurd (u20 q) (by rw [nb_end]; omega)
      · exact q
    have cx := cl_end (g := gx) (h := hx) hX u1 n KX F
    rw [hKX, hs1, if_neg (by decide), u1] at cx
    have rl := rl_A (g := gr) (h := hr) hR h2 h6 h0 hi h7 h25 (by rw [nb_end, Lt_end]; unfold isD; omega)
    rw [nb_end] at rl
    exact OutR.bad cx u1 (by rw [show 0 + 2 + f = f + 2 by omega]; exact rf_bad h25 hK1 rl f) (Nat.le_refl _) (nb_end T i)
  | succ m ih =>
    intro i f ux gx hx gr hr v c w hm hi u1 u2 u20 u6 tb
    rw [show m + 1 + 2 + f = (m + 1 + f) + 2 by omega]
    obtain ⟨j1, e1⟩ : ∃ j1, nb T M i = j1 := ⟨_, rfl⟩
    obtain ⟨a1, a2, a3⟩ := nb_le T hi
    have n1 := nb_nb T hi
    rw [e1] at a1 a2 a3 n1
    rw [cl_skip hX u1 n KX F (M - i) i (by omega), e1]
    by_cases z1 : isD n (Lt T M j1)
    · have hj1 := isD_lt z1
      have t1 := Lt_in (T := T) hj1
      have l1 := Lt_lt hR j1
      obtain ⟨j2, e2⟩ : ∃ j2, nb T M (j1 + 1) = j2 := ⟨_, rfl⟩
      obtain ⟨b1, b2, b3⟩ := nb_le T (show j1 + 1 ≤ M by omega)
      have n2 := nb_nb T (show j1 + 1 ≤ M by omega)
      rw [e2] at b1 b2 b3 n2
      rw [cl_step hX u1 n KX F hj1 (a3 hj1), ← t1, (ac_first h6 l1 u2).1 z1, bd_some, if_neg one_ne]
      generalize hq1 : upd (upd ux 3 (nI (Lt T M j1 - 48))) 2 2 = v1
      have v11 : v1 1 = nI M := by rw [← hq1, upd_rd, if_neg (by decide), upd_rd, if_neg (by decide)]; exact u1
      have v12 : v1 2 = 2 := by rw [← hq1, upd_rd, if_pos rfl]
      have v13 : v1 3 = nI (Lt T M j1 - 48) := by rw [← hq1, upd_rd, if_neg (by decide), upd_rd, if_pos rfl]
      have v16 : v1 6 = nI w := by rw [← hq1, upd_rd, if_neg (by decide), upd_rd, if_neg (by decide)]; exact u6
      rw [cl_skip hX v11 n KX F (M - (j1 + 1)) (j1 + 1) (by omega), e2]
      by_cases z2 : sgn (Lt T M j2) = 0
      · have rl := rl_B (g := gr) (h := hr) hR h2 h6 h0 hi h7 h25 e1 e2 z1 z2
        have cr := rf_bad h25 hK1 rl (m + 1 + f)
        rcases Nat.lt_or_ge j2 M with y | y
        · obtain ⟨u', q1, q2⟩ := (ac_sign (t := σ) (u := v1) (g := gx) (h := hx) (n := n) (Lt_lt hR j2) v12).2 z2
          have t2 := Lt_in (T := T) y
          rw [cl_step hX v11 n KX F y (b3 y), ← t2, q1, bd_some, if_pos rfl]
          exact OutR.bad rfl (by rw [q2 1 (by decide) (by decide)]; exact v11) cr b2 n2
        · have : j2 = M := by omega
          subst this
          rw [cl_end hX v11 n KX F, hKX, v12, if_neg (by decide), v11]
          exact OutR.bad rfl v11 cr b2 n2
      · have hj2 := sgn_lt z2
        have t2 := Lt_in (T := T) hj2
        have l2 := Lt_lt hR j2
        obtain ⟨j3, e3⟩ : ∃ j3, nb T M (j2 + 1) = j3 := ⟨_, rfl⟩
        obtain ⟨c1, c2, c3⟩ := nb_le T (show j2 + 1 ≤ M by omega)
        have n3 := nb_nb T (show j2 + 1 ≤ M by omega)
        rw [e3] at c1 c2 c3 n3
        rw [cl_step hX v11 n KX F hj2 (b3 hj2), ← t2, (ac_sign l2 v12).1 z2, bd_some, if_neg one_ne]
        generalize hq2 : upd (upd v1 5 (nI (sgn (Lt T M j2)))) 2 3 = v2
        have v21 : v2 1 = nI M := by rw [← hq2, upd_rd, if_neg (by decide), upd_rd, if_neg (by decide)]; exact v11
        have v22 : v2 2 = 3 := by rw [← hq2, upd_rd, if_pos rfl]
        have v23 : v2 3 = nI (Lt T M j1 - 48) := by rw [← hq2, upd_rd, if_neg (by decide), upd_rd, if_neg (by decide)]; exact v13
        have v25 : v2 5 = nI (sgn (Lt T M j2)) := by rw [← hq2, upd_rd, if_neg (by decide), upd_rd, if_pos rfl]
        have v26 : v2 6 = nI w := by rw [← hq2, upd_rd, if_neg (by decide), upd_rd, if_neg (by decide)]; exact v16
        rw [cl_skip hX v21 n KX F (M - (j2 + 1)) (j2 + 1) (by omega), e3]
        have z1' := z1
        unfold isD at z1'
        have l3 := Lt_lt hR j3
        have gxr : isD n (Lt T M j3) → gx (6 * (Lt T M j1 - 48) + (Lt T M j3 - 48)) = gr (6 * (Lt T M j1 - 48) + (Lt T M j3 - 48)) := fun z => by
          unfold isD at z
          exact tb.xg _ (by omega)
        by_cases z3 : isD n (Lt T M j3) ∧ ¬ Lt T M j3 = Lt T M j1 ∧ gr (6 * (Lt T M j1 - 48) + (Lt T M j3 - 48)) = 0
        · have hj3 := isD_lt z3.1
          have t3 := Lt_in (T := T) hj3
          have z3' := z3.1
          unfold isD at z3'
          obtain ⟨j4, e4⟩ : ∃ j4, nb T M (j3 + 1) = j4 := ⟨_, rfl⟩
          obtain ⟨d1, d2, d3⟩ := nb_le T (show j3 + 1 ≤ M by omega)
          have n4 := nb_nb T (show j3 + 1 ≤ M by omega)
          rw [e4] at d1 d2 d3 n4
          have l4 := Lt_lt hR j4
          have hne : ¬ Lt T M j3 - 48 = Lt T M j1 - 48 := by have := z3.2.1; omega
          obtain ⟨v3, q1, q2, q3, q4, q6, q5⟩ := (ac_second (t := σ) (u := v2) (g := gx) (h := hx) h6 l3 (show Lt T M j1 - 48 < n by omega) v22 v23 v25 v26).1 ⟨z3.1, hne, by rw [gxr z3.1]; exact z3.2.2⟩
          have rl := rl_D (g := gr) (h := hr) hR h2 h6 h0 hi h7 h25 e1 e2 e3 e4 z1 z2 z3
          rw [cl_step hX v21 n KX F hj3 (c3 hj3), ← t3, q1, bd_some, if_neg one_ne, cl_skip hX (by rw [q5]; exact v21) n KX F (M - (j3 + 1)) (j3 + 1) (by omega), e4]
          have hs : 0 < sgn (Lt T M j2) ∧ sgn (Lt T M j2) ≤ 3 := by
            rcases sgn_p z2 with ⟨-, q⟩ | ⟨-, q⟩ | ⟨-, q⟩ <;> omega
          have ha : Lt T M j1 - 48 < n := by omega
          have hb : Lt T M j3 - 48 < n := by omega
          have hab : Lt T M j1 - 48 ≠ Lt T M j3 - 48 := fun q => hne q.symm
          have h00 := z3.2.2
          generalize hA : Lt T M j1 - 48 = A at ha hb hab h00 q1 q3 rl hne
          generalize hB : Lt T M j3 - 48 = B at ha hb hab h00 q1 q4 rl hne
          generalize sgn (Lt T M j2) = s at hs q1 rl
          clear gxr z3 z3' z1' v25 v23 v13
          have fin : ∀ (p4 j5 : Nat) (v4 hx4 gr4 hr4 : Nat → Int32) (v' c' : Nat → Nat), nb T M p4 = j5 → p4 ≤ M → i ≤ p4 → v4 1 = nI M → (v4 2 = 4 ∨ v4 2 = 5) → (v4 2 = 5 ∨ Lt T M j5 ≠ 33) → v4 3 = nI A → v4 4 = nI B → v4 6 = nI (w + 1) → fX11_readsLink (RS3 t (Ux ur i) gr hr) = some ((), RS3 t (Ux ur p4) gr4 hr4) → Tb n (upd (upd gx (6 * A + B) (nI s)) (6 * B + A) (4 - nI s)) hx4 gr4 hr4 v' c' (w + 1) → OutR T M n σ t ur (lX7_parse_20 (nI n) KX (M - j5 + 1 + F) (nI j5) (XS3 σ v4 (upd (upd gx (6 * A + B) (nI s)) (6 * B + A) (4 - nI s)) hx4)) (lX11_readsAll_51 KR ((m + 1 + f) + 2) 1 (RS3 t (Ux ur i) gr hr)) := by
            intro p4 j5 v4 hx4 gr4 hr4 v' c' e5 hp hip w1 w2 w33 w3 w4 w6 rl' tb'
            obtain ⟨f1, f2, f3⟩ := nb_le T hp
            have n5 := nb_nb T hp
            rw [e5] at f1 f2 f3 n5
            have l5 := Lt_lt hR j5
            have ab := ac_behind (t := σ) (u := v4) (g := upd (upd gx (6 * A + B) (nI s)) (6 * B + A) (4 - nI s)) (h := hx4) h6 l5 ha hb w2 w3 w4
            by_cases y44 : Lt T M j5 = 44
            · have hj5 : j5 < M := by
                rcases Nat.lt_or_ge j5 M with y | y
                · exact y
                · rw [show j5 = M by omega, Lt_end] at y44; omega
              have t5 := Lt_in (T := T) hj5
              have cr := rf_more hR h7 h25 (KR := KR) rl' hp e5 y44 (m + 2 + f)
              rw [show m + 1 + f + 2 = m + 2 + f + 1 by omega, cr, cl_step hX w1 n KX F hj5 (f3 hj5), ← t5, ab.1 y44, bd_some, if_neg one_ne]
              exact ih (j5 + 1) f (upd v4 2 1) _ hx4 gr4 hr4 v' c' (w + 1) (by omega) (by omega) (by rw [upd_rd, if_neg (by decide)]; exact w1) (Or.inr (by rw [upd_rd, if_pos rfl])) (fun q => absurd q (by rw [upd_rd, if_pos rfl]; exact one_ne)) (by rw [upd_rd, if_neg (by decide)]; exact w6) tb'
            · have cr := rf_last hR h7 h25 (KR := KR) rl' hp e5 y44 (m + 1 + f)
              rw [hK0 j5 _ _ f2 n5] at cr
              rcases Nat.lt_or_ge j5 M with y | y
              · have t5 := Lt_in (T := T) y
                rw [if_pos y] at cr
                rw [cl_step hX w1 n KX F y (f3 y), ← t5, ab.2.2 y44 w33, bd_some, if_pos rfl]
                exact OutR.bad rfl w1 cr f2 n5
              · rw [if_neg (by omega)] at cr
                have hjM : j5 = M := by omega
                subst hjM
                rw [cl_end hX w1 n KX F, hKX, if_pos (Or.inr w2), w6]
                exact ⟨_, _, _, _, _, _, _, rfl, w1, cr, fun k k1 _ => Ux_ne ur j5 k1, Or.inr ⟨v', c', w + 1, rfl, by rw [Ux_ne _ _ (by decide)]; exact h25, Ux_24 ur j5, tb'⟩⟩
          have hAB : ¬ 6 * A + B = 6 * B + A := by omega
          by_cases y33 : Lt T M j4 = 33
          · have hj4 : j4 < M := by
              rcases Nat.lt_or_ge j4 M with y | y
              · exact y
              · rw [show j4 = M by omega, Lt_end] at y33; omega
            have t4 := Lt_in (T := T) hj4
            rw [if_pos y33, if_pos y33] at rl
            have w31 : upd v3 2 5 1 = nI M := by rw [upd_rd, if_neg (by decide), q5]; exact v21
            rw [cl_step hX (by rw [q5]; exact v21) n KX F hj4 (d3 hj4), ← t4, (ac_behind h6 l4 ha hb (Or.inl q2) q3 q4).2.1 q2 y33, bd_some, if_neg one_ne, cl_skip hX w31 n KX F (M - (j4 + 1)) (j4 + 1) (by omega)]
            refine fin (j4 + 1) _ (upd v3 2 5) _ _ _ (addv v A B s) (addc c A B 1) rfl (by omega) (by omega) w31 (Or.inr (by rw [upd_rd, if_pos rfl])) (Or.inl (by rw [upd_rd, if_pos rfl])) (by rw [upd_rd, if_neg (by decide)]; exact q3) (by rw [upd_rd, if_neg (by decide)]; exact q4) (by rw [upd_rd, if_neg (by decide)]; exact q6) rl ?_
            exact tb.add (q := 1) ha hb h6 hab h00 hs (by omega) (by rw [upd_rd, if_neg hAB, upd_rd, if_pos rfl]; rfl) (by rw [upd_rd, if_pos rfl]; rfl) (fun k k1 k2 => by rw [upd_rd, if_neg k2, upd_rd, if_neg k1, upd_rd, if_neg k2, upd_rd, if_neg k1])
          · rw [if_neg y33, if_neg y33] at rl
            refine fin j4 j4 v3 _ _ _ (addv v A B s) (addc c A B 0) n4 d2 (by omega) (by rw [q5]; exact v21) (Or.inl q2) (Or.inr y33) q3 q4 q6 rl ?_
            exact tb.add (q := 0) ha hb h6 hab h00 hs (by omega) (by rw [upd_rd, if_neg hAB, upd_rd, if_pos rfl]; rfl) (by rw [upd_rd, if_pos rfl]; rfl) (fun k k1 k2 => by rw [upd_rd, if_neg k2, upd_rd, if_neg k1])
        · have rl := rl_C (g := gr) (h := hr) hR h2 h6 h0 hi h7 h25 e1 e2 e3 z1 z2 z3
          have cr := rf_bad h25 hK1 rl (m + 1 + f)
          rcases Nat.lt_or_ge j3 M with y | y
          · have t3 := Lt_in (T := T) y
            rw [cl_step hX v21 n KX F y (c3 y), ← t3, (ac_second h6 l3 (by omega) v22 v23 v25 v26).2 (fun q => z3 ⟨q.1, fun q2 => q.2.1 (by rw [q2]), by rw [← gxr q.1]; exact q.2.2⟩), bd_some, if_pos rfl]
            exact OutR.bad rfl v21 cr c2 n3
          · have : j3 = M := by omega
            subst this
            rw [cl_end hX v21 n KX F, hKX, v22, if_neg (by decide), v21]
            exact OutR.bad rfl v21 cr c2 n3
    · have rl := rl_A (g := gr) (h := hr) hR h2 h6 h0 hi h7 h25 (by rw [e1]; exact z1)
      rw [e1] at rl
      have cr := rf_bad h25 hK1 rl (m + 1 + f)
      rcases Nat.lt_or_ge j1 M with y | y
      · have t1 := Lt_in (T := T) y
        rw [cl_step hX u1 n KX F y (a3 y), ← t1, (ac_first h6 (Lt_lt hR j1) u2).2 z1, bd_some, if_pos rfl]
        exact OutR.bad rfl u1 cr a2 n1
      · have : j1 = M := by omega
        subst this
        have hs1 : ux 2 = 1 := by
          rcases u2 with q | q
          · exact absurd (u20 q) (by rw [e1]; omega)
          · exact q
        rw [cl_end hX u1 n KX F, hKX, hs1, if_neg (by decide), u1]
        exact OutR.bad rfl u1 cr a2 n1
