/-! PURE PART: read: the reference reads one link -/
def Ux (u : Nat → Int32) (j : Nat) : Nat → Int32 := upd u 24 (nI j)
def Uf (u : Nat → Int32) (j : Nat) : Nat → Int32 := upd (upd u 24 (nI j)) 25 1
theorem Ux_24 (u : Nat → Int32) (j : Nat) : Ux u j 24 = nI j := by unfold Ux; rw [upd_rd, if_pos rfl]
theorem Ux_ne (u : Nat → Int32) (j : Nat) {k : Nat} (h : k ≠ 24) : Ux u j k = u k := by unfold Ux; rw [upd_rd, if_neg h]
theorem Uf_24 (u : Nat → Int32) (j : Nat) : Uf u j 24 = nI j := by unfold Uf; rw [upd_rd, if_neg (by decide), upd_rd, if_pos rfl]
theorem Uf_25 (u : Nat → Int32) (j : Nat) : Uf u j 25 = 1 := by unfold Uf; rw [upd_rd, if_pos rfl]
theorem Uf_ne (u : Nat → Int32) (j : Nat) {k : Nat} (h : k ≠ 24) (h' : k ≠ 25) : Uf u j k = u k := by unfold Uf; rw [upd_rd, if_neg h', upd_rd, if_neg h]
theorem Ux_Ux (u : Nat → Int32) (i j : Nat) : upd (Ux u i) 24 (nI j) = Ux u j := by unfold Ux; rw [upd_upd]
theorem lookU {T : Nat → Nat} {M : Nat} {t : mx_G} (hT : TP T M t) {u g h : Nat → Int32} {i : Nat} (hi : i ≤ M) (h7 : u 7 = nI M) : fX11_looks (RS3 t (Ux u i) g h) = some (nI (Lt T M (nb T M i)), RS3 t (Ux u (nb T M i)) g h) := by
  have e := sm_looks (g := g) (h := h) hT hi (u := Ux u i) (by rw [Ux_ne _ _ (by decide)]; exact h7) (Ux_24 u i)
  rw [Ux_Ux] at e
  exact e
theorem readT {t : mx_G} {u g h : Nat → Int32} {i : Nat} (h25 : u 25 = 0) : fX11_reads 1 (RS3 t (Ux u i) g h) = some ((), RS3 t (Ux u (i + 1)) g h) := by
  have e := sm_readsT (t := t) (g := g) (h := h) (u := Ux u i) (Ux_24 u i) (by rw [Ux_ne _ _ (by decide)]; exact h25)
  rw [Ux_Ux] at e
  exact e
theorem readF {t : mx_G} {u g h : Nat → Int32} {i : Nat} (h25 : u 25 = 0) : fX11_reads 0 (RS3 t (Ux u i) g h) = some ((), RS3 t (Uf u i) g h) :=
  sm_readsF (t := t) (g := g) (h := h) (u := Ux u i) (Ux_24 u i) (by rw [Ux_ne _ _ (by decide)]; exact h25)
theorem read1 {t : mx_G} {u g h : Nat → Int32} {i : Nat} : fX11_reads 0 (RS3 t (Uf u i) g h) = some ((), RS3 t (Uf u i) g h) :=
  sm_reads1 (t := t) (g := g) (h := h) (u := Uf u i) (Uf_24 u i) (Uf_25 u i)
theorem U25 {t : mx_G} {u g h : Nat → Int32} {i : Nat} (h25 : u 25 = 0) : (RS3 t (Ux u i) g h).1 45 25 = 0 := by rw [RS3_45, Ux_ne _ _ (by decide)]; exact h25
theorem F25 {t : mx_G} {u g h : Nat → Int32} {i : Nat} : (RS3 t (Uf u i) g h).1 45 25 = 1 := by rw [RS3_45, Uf_25]
def sgn (l : Nat) : Nat := if l = 62 then 1 else if l = 45 then 2 else if l = 60 then 3 else 0
def isD (n l : Nat) : Prop := 48 ≤ l ∧ l < 48 + n
theorem domL {T : Nat → Nat} {M : Nat} {t : mx_G} (hT : TP T M t) {n : Nat} (h2 : 2 ≤ n) (h6 : n ≤ 6) (h0 : t.1 46 0 = nI n) {u g h : Nat → Int32} (j : Nat) : (isD n (Lt T M j) → fX11_isDomain (nI (Lt T M j) - 48) (RS3 t u g h) = some (1, RS3 t u g h)) ∧ (¬ isD n (Lt T M j) → fX11_isDomain (nI (Lt T M j) - 48) (RS3 t u g h) = some (0, RS3 t u g h)) := by
  have e := sm_isDomain (s := RS3 t u g h) (n := n) (by rw [RS3_rd _ _ _ _ (by decide) (by decide) (by decide)]; exact h0) h2 h6 (nI (Lt T M j) - 48)
  have d := dom48 n (by omega) (Lt T M j) (Lt_lt hT j)
  rw [e]
  constructor
  · intro z
    rw [if_pos (d.mpr z)]
  · intro z
    rw [if_neg (fun y => z (d.mp y))]
theorem rl_A {T : Nat → Nat} {M : Nat} {t : mx_G} {n : Nat} {u g h : Nat → Int32} {i : Nat} (hT : TP T M t) (h2 : 2 ≤ n) (h6 : n ≤ 6) (h0 : t.1 46 0 = nI n) (hi : i ≤ M) (h7 : u 7 = nI M) (h25 : u 25 = 0) (hA : ¬ isD n (Lt T M (nb T M i))) : fX11_readsLink (RS3 t (Ux u i) g h) = some ((), RS3 t (Uf u (nb T M i)) g h) := by
  unfold fX11_readsLink
  simp only [mv_let]
  rw [lookU hT hi h7, bd_some, (domL hT h2 h6 h0 _).2 hA, bd_some, readF h25, bd_some, F25, if_neg one_ne, if_neg (by decide), if_neg (by decide), if_neg (by decide), if_pos (by decide), read1, bd_some, F25, if_neg one_ne, if_neg one_ne, read1, bd_some, F25, if_neg one_ne]
theorem isD_lt {T : Nat → Nat} {M n j : Nat} (h : isD n (Lt T M j)) : j < M := by
  unfold Lt isD at h
  rcases Nat.lt_or_ge j M with z | z
  · exact z
  · rw [if_neg (by omega)] at h; omega
theorem sgn_lt {T : Nat → Nat} {M j : Nat} (h : sgn (Lt T M j) ≠ 0) : j < M := by
  unfold Lt at h
  rcases Nat.lt_or_ge j M with z | z
  · exact z
  · rw [if_neg (by omega)] at h; exact absurd rfl h
theorem sgn_0 {l : Nat} (hl : l < 127) (h : sgn l = 0) : ¬ nI l = 62 ∧ ¬ nI l = 45 ∧ ¬ nI l = 60 := by
  unfold sgn at h
  rw [show (62 : Int32) = nI 62 from rfl, show (45 : Int32) = nI 45 from rfl, show (60 : Int32) = nI 60 from rfl, eqI (by omega) (by omega), eqI (by omega) (by omega), eqI (by omega) (by omega)]
  by_cases a : l = 62
  · rw [if_pos a] at h; omega
  · rw [if_neg a] at h
    by_cases b : l = 45
    · rw [if_pos b] at h; omega
    · rw [if_neg b] at h
      by_cases c : l = 60
      · rw [if_pos c] at h; omega
      · exact ⟨a, b, c⟩
theorem sgn_p {l : Nat} (h : sgn l ≠ 0) : (l = 62 ∧ sgn l = 1) ∨ (l = 45 ∧ sgn l = 2) ∨ (l = 60 ∧ sgn l = 3) := by
  unfold sgn at h ⊢
  by_cases a : l = 62
  · rw [if_pos a]; exact Or.inl ⟨a, rfl⟩
  · rw [if_neg a] at h ⊢
    by_cases b : l = 45
    · rw [if_pos b]; exact Or.inr (Or.inl ⟨b, rfl⟩)
    · rw [if_neg b] at h ⊢
      by_cases c : l = 60
      · rw [if_pos c]; exact Or.inr (Or.inr ⟨c, rfl⟩)
      · rw [if_neg c] at h; exact absurd rfl h
theorem rl_B {T : Nat → Nat} {M : Nat} {t : mx_G} {n : Nat} {u g h : Nat → Int32} {i : Nat} (hT : TP T M t) (h2 : 2 ≤ n) (h6 : n ≤ 6) (h0 : t.1 46 0 = nI n) (hi : i ≤ M) (h7 : u 7 = nI M) (h25 : u 25 = 0) {j1 j2 : Nat} (e1 : nb T M i = j1) (e2 : nb T M (j1 + 1) = j2) (hA : isD n (Lt T M j1)) (hB : sgn (Lt T M j2) = 0) : fX11_readsLink (RS3 t (Ux u i) g h) = some ((), RS3 t (Uf u j2) g h) := by
  have hj := isD_lt hA
  obtain ⟨s1, s2, s3⟩ := sgn_0 (Lt_lt hT j2) hB
  unfold fX11_readsLink
  simp only [mv_let]
  rw [lookU hT hi h7, e1, bd_some, (domL hT h2 h6 h0 _).1 hA, bd_some, readT h25, bd_some, U25 h25, if_pos rfl, lookU hT (by omega) h7, e2, bd_some, if_neg s1, if_neg s2, if_neg s3, if_pos (by decide), readF h25, bd_some, F25, if_neg one_ne, if_neg one_ne, read1, bd_some, F25, if_neg one_ne]
theorem pairL (a b : Nat) (s : mx_G) : fX11_pair (nI a) (nI b) s = some (nI (6 * a + b), s) := by
  unfold fX11_pair
  rw [li_6, muI, adI]
theorem rl_C {T : Nat → Nat} {M : Nat} {t : mx_G} {n : Nat} {u g h : Nat → Int32} {i : Nat} (hT : TP T M t) (h2 : 2 ≤ n) (h6 : n ≤ 6) (h0 : t.1 46 0 = nI n) (hi : i ≤ M) (h7 : u 7 = nI M) (h25 : u 25 = 0) {j1 j2 j3 : Nat} (e1 : nb T M i = j1) (e2 : nb T M (j1 + 1) = j2) (e3 : nb T M (j2 + 1) = j3) (hA : isD n (Lt T M j1)) (hB : sgn (Lt T M j2) ≠ 0) (hC : ¬ (isD n (Lt T M j3) ∧ ¬ Lt T M j3 = Lt T M j1 ∧ g (6 * (Lt T M j1 - 48) + (Lt T M j3 - 48)) = 0)) : fX11_readsLink (RS3 t (Ux u i) g h) = some ((), RS3 t (Uf u j3) g h) := by
  have hj := isD_lt hA
  have hj2 := sgn_lt hB
  have hl1 := Lt_lt hT j1
  have hl3 := Lt_lt hT j3
  have hA' := hA
  unfold isD at hA'
  have x1 : nI (Lt T M j1) - 48 = nI (Lt T M j1 - 48) := by rw [show (48 : Int32) = nI 48 from rfl, suI (by omega)]
  unfold fX11_readsLink
  simp only [mv_let]
  rw [lookU hT hi h7, e1, bd_some, (domL hT h2 h6 h0 _).1 hA, bd_some, readT h25, bd_some, U25 h25, if_pos rfl, lookU hT (by omega) h7, e2, bd_some]
  rcases sgn_p hB with ⟨q, -⟩ | ⟨q, -⟩ | ⟨q, -⟩
  · rw [if_pos (show nI (Lt T M j2) = 62 by rw [q]; rfl), if_neg (show ¬ (1 : Int32) ≤ 0 by decide)]
    rw [readT h25, bd_some, U25 h25, if_pos rfl, lookU hT (by omega) h7, e3, bd_some, U25 h25, if_pos rfl]
    by_cases d3 : isD n (Lt T M j3)
    · rw [(domL hT h2 h6 h0 _).1 d3, bd_some, if_neg one_ne]
      have d3' := d3
      unfold isD at d3'
      have x3 : nI (Lt T M j3) - 48 = nI (Lt T M j3 - 48) := by rw [show (48 : Int32) = nI 48 from rfl, suI (by omega)]
      by_cases d4 : Lt T M j3 = Lt T M j1
      · rw [if_pos (by rw [d4]), readF h25, bd_some, F25, if_neg one_ne]
      · rw [if_neg (by rw [x1, x3, eqI (by omega) (by omega)]; omega), x1, x3, pairL, bd_some, ixT (by omega) (by omega), if_pos rfl, clI (by omega), RS3_66, if_neg (fun z => hC ⟨d3, d4, z⟩), readF h25, bd_some, F25, if_neg one_ne]
    · rw [(domL hT h2 h6 h0 _).2 d3, bd_some, if_pos rfl, readF h25, bd_some, F25, if_neg one_ne]
  · rw [if_neg (show ¬ nI (Lt T M j2) = 62 by rw [q]; decide), if_pos (show nI (Lt T M j2) = 45 by rw [q]; rfl), if_neg (show ¬ (2 : Int32) ≤ 0 by decide)]
    rw [readT h25, bd_some, U25 h25, if_pos rfl, lookU hT (by omega) h7, e3, bd_some, U25 h25, if_pos rfl]
    by_cases d3 : isD n (Lt T M j3)
    · rw [(domL hT h2 h6 h0 _).1 d3, bd_some, if_neg one_ne]
      have d3' := d3
      unfold isD at d3'
      have x3 : nI (Lt T M j3) - 48 = nI (Lt T M j3 - 48) := by rw [show (48 : Int32) = nI 48 from rfl, suI (by omega)]
      by_cases d4 : Lt T M j3 = Lt T M j1
      · rw [if_pos (by rw [d4]), readF h25, bd_some, F25, if_neg one_ne]
      · rw [if_neg (by rw [x1, x3, eqI (by omega) (by omega)]; omega), x1, x3, pairL, bd_some, ixT (by omega) (by omega), if_pos rfl, clI (by omega), RS3_66, if_neg (fun z => hC ⟨d3, d4, z⟩), readF h25, bd_some, F25, if_neg one_ne]
    · rw [(domL hT h2 h6 h0 _).2 d3, bd_some, if_pos rfl, readF h25, bd_some, F25, if_neg one_ne]
  · rw [if_neg (show ¬ nI (Lt T M j2) = 62 by rw [q]; decide), if_neg (show ¬ nI (Lt T M j2) = 45 by rw [q]; decide), if_pos (show nI (Lt T M j2) = 60 by rw [q]; rfl), if_neg (show ¬ (3 : Int32) ≤ 0 by decide)]
    rw [readT h25, bd_some, U25 h25, if_pos rfl, lookU hT (by omega) h7, e3, bd_some, U25 h25, if_pos rfl]
    by_cases d3 : isD n (Lt T M j3)
    · rw [(domL hT h2 h6 h0 _).1 d3, bd_some, if_neg one_ne]
      have d3' := d3
      unfold isD at d3'
      have x3 : nI (Lt T M j3) - 48 = nI (Lt T M j3 - 48) := by rw [show (48 : Int32) = nI 48 from rfl, suI (by omega)]
      by_cases d4 : Lt T M j3 = Lt T M j1
      · rw [if_pos (by rw [d4]), readF h25, bd_some, F25, if_neg one_ne]
      · rw [if_neg (by rw [x1, x3, eqI (by omega) (by omega)]; omega), x1, x3, pairL, bd_some, ixT (by omega) (by omega), if_pos rfl, clI (by omega), RS3_66, if_neg (fun z => hC ⟨d3, d4, z⟩), readF h25, bd_some, F25, if_neg one_ne]
    · rw [(domL hT h2 h6 h0 _).2 d3, bd_some, if_pos rfl, readF h25, bd_some, F25, if_neg one_ne]
theorem rl_D {T : Nat → Nat} {M : Nat} {t : mx_G} {n : Nat} {u g h : Nat → Int32} {i : Nat} (hT : TP T M t) (h2 : 2 ≤ n) (h6 : n ≤ 6) (h0 : t.1 46 0 = nI n) (hi : i ≤ M) (h7 : u 7 = nI M) (h25 : u 25 = 0) {j1 j2 j3 j4 : Nat} (e1 : nb T M i = j1) (e2 : nb T M (j1 + 1) = j2) (e3 : nb T M (j2 + 1) = j3) (e4 : nb T M (j3 + 1) = j4) (hA : isD n (Lt T M j1)) (hB : sgn (Lt T M j2) ≠ 0) (hC : isD n (Lt T M j3) ∧ ¬ Lt T M j3 = Lt T M j1 ∧ g (6 * (Lt T M j1 - 48) + (Lt T M j3 - 48)) = 0) : fX11_readsLink (RS3 t (Ux u i) g h) = some ((), RS3 t (Ux u (if Lt T M j4 = 33 then j4 + 1 else j4)) (upd (upd g (6 * (Lt T M j1 - 48) + (Lt T M j3 - 48)) (nI (sgn (Lt T M j2)))) (6 * (Lt T M j3 - 48) + (Lt T M j1 - 48)) (4 - nI (sgn (Lt T M j2)))) (upd (upd h (6 * (Lt T M j1 - 48) + (Lt T M j3 - 48)) (if Lt T M j4 = 33 then 1 else 0)) (6 * (Lt T M j3 - 48) + (Lt T M j1 - 48)) (if Lt T M j4 = 33 then 1 else 0))) := by
  have hl4 := Lt_lt hT j4
  have hj3 := isD_lt hC.1
  have hC' := hC.1
  unfold isD at hC'
  have x3 : nI (Lt T M j3) - 48 = nI (Lt T M j3 - 48) := by rw [show (48 : Int32) = nI 48 from rfl, suI (by omega)]
  have hj := isD_lt hA
  have hj2 := sgn_lt hB
  have hl1 := Lt_lt hT j1
  have hl3 := Lt_lt hT j3
  have hA' := hA
  unfold isD at hA'
  have x1 : nI (Lt T M j1) - 48 = nI (Lt T M j1 - 48) := by rw [show (48 : Int32) = nI 48 from rfl, suI (by omega)]
  unfold fX11_readsLink
  simp only [mv_let]
  rw [lookU hT hi h7, e1, bd_some, (domL hT h2 h6 h0 _).1 hA, bd_some, readT h25, bd_some, U25 h25, if_pos rfl, lookU hT (by omega) h7, e2, bd_some]
  rcases sgn_p hB with ⟨q, q2⟩ | ⟨q, q2⟩ | ⟨q, q2⟩
  · rw [if_pos (show nI (Lt T M j2) = 62 by rw [q]; rfl), if_neg (show ¬ (1 : Int32) ≤ 0 by decide)]
    rw [readT h25, bd_some, U25 h25, if_pos rfl, lookU hT (by omega) h7, e3, bd_some, U25 h25, if_pos rfl, (domL hT h2 h6 h0 _).1 hC.1, bd_some, if_neg one_ne, if_neg (by rw [x1, x3, eqI (by omega) (by omega)]; have := hC.2.1; omega), x1, x3, pairL, bd_some, ixT (by omega) (by omega), if_pos rfl, clI (by omega), RS3_66, if_pos hC.2.2, readT h25, bd_some, U25 h25, if_pos rfl, lookU hT (by omega) h7, e4, bd_some, q2, show nI 1 = 1 from rfl]
    by_cases z : Lt T M j4 = 33
    · rw [if_pos (show nI (Lt T M j4) = 33 by rw [z]; rfl), if_pos z, if_pos z, RS3_45, Ux_24, show nI j4 + 1 = nI (j4 + 1) by rw [li_1, adI], RS3_g45, Ux_Ux, pairL, bd_some, ixT (by omega) (by omega), if_pos rfl, clI (by omega), RS3_g66, pairL, bd_some, ixT (by omega) (by omega), if_pos rfl, clI (by omega), RS3_g66, pairL, bd_some, ixT (by omega) (by omega), if_pos rfl, clI (by omega), RS3_g67, pairL, bd_some, ixT (by omega) (by omega), if_pos rfl, clI (by omega), RS3_g67]
    · rw [if_neg (show ¬ nI (Lt T M j4) = 33 by rw [show (33 : Int32) = nI 33 from rfl, eqI (by omega) (by omega)]; exact z), if_neg z, if_neg z, RS3_45, Ux_24, show nI j4 + 0 = nI j4 by rw [li_0, adI]; rfl, RS3_g45, Ux_Ux, pairL, bd_some, ixT (by omega) (by omega), if_pos rfl, clI (by omega), RS3_g66, pairL, bd_some, ixT (by omega) (by omega), if_pos rfl, clI (by omega), RS3_g66, pairL, bd_some, ixT (by omega) (by omega), if_pos rfl, clI (by omega), RS3_g67, pairL, bd_some, ixT (by omega) (by omega), if_pos rfl, clI (by omega), RS3_g67]
  · rw [if_neg (show ¬ nI (Lt T M j2) = 62 by rw [q]; decide), if_pos (show nI (Lt T M j2) = 45 by rw [q]; rfl), if_neg (show ¬ (2 : Int32) ≤ 0 by decide)]
    rw [readT h25, bd_some, U25 h25, if_pos rfl, lookU hT (by omega) h7, e3, bd_some, U25 h25, if_pos rfl, (domL hT h2 h6 h0 _).1 hC.1, bd_some, if_neg one_ne, if_neg (by rw [x1, x3, eqI (by omega) (by omega)]; have := hC.2.1; omega), x1, x3, pairL, bd_some, ixT (by omega) (by omega), if_pos rfl, clI (by omega), RS3_66, if_pos hC.2.2, readT h25, bd_some, U25 h25, if_pos rfl, lookU hT (by omega) h7, e4, bd_some, q2, show nI 2 = 2 from rfl]
    by_cases z : Lt T M j4 = 33
    · rw [if_pos (show nI (Lt T M j4) = 33 by rw [z]; rfl), if_pos z, if_pos z, RS3_45, Ux_24, show nI j4 + 1 = nI (j4 + 1) by rw [li_1, adI], RS3_g45, Ux_Ux, pairL, bd_some, ixT (by omega) (by omega), if_pos rfl, clI (by omega), RS3_g66, pairL, bd_some, ixT (by omega) (by omega), if_pos rfl, clI (by omega), RS3_g66, pairL, bd_some, ixT (by omega) (by omega), if_pos rfl, clI (by omega), RS3_g67, pairL, bd_some, ixT (by omega) (by omega), if_pos rfl, clI (by omega), RS3_g67]
    · rw [if_neg (show ¬ nI (Lt T M j4) = 33 by rw [show (33 : Int32) = nI 33 from rfl, eqI (by omega) (by omega)]; exact z), if_neg z, if_neg z, RS3_45, Ux_24, show nI j4 + 0 = nI j4 by rw [li_0, adI]; rfl, RS3_g45, Ux_Ux, pairL, bd_some, ixT (by omega) (by omega), if_pos rfl, clI (by omega), RS3_g66, pairL, bd_some, ixT (by omega) (by omega), if_pos rfl, clI (by omega), RS3_g66, pairL, bd_some, ixT (by omega) (by omega), if_pos rfl, clI (by omega), RS3_g67, pairL, bd_some, ixT (by omega) (by omega), if_pos rfl, clI (by omega), RS3_g67]
  · rw [if_neg (show ¬ nI (Lt T M j2) = 62 by rw [q]; decide), if_neg (show ¬ nI (Lt T M j2) = 45 by rw [q]; decide), if_pos (show nI (Lt T M j2) = 60 by rw [q]; rfl), if_neg (show ¬ (3 : Int32) ≤ 0 by decide)]
    rw [readT h25, bd_some, U25 h25, if_pos rfl, lookU hT (by omega) h7, e3, bd_some, U25 h25, if_pos rfl, (domL hT h2 h6 h0 _).1 hC.1, bd_some, if_neg one_ne, if_neg (by rw [x1, x3, eqI (by omega) (by omega)]; have := hC.2.1; omega), x1, x3, pairL, bd_some, ixT (by omega) (by omega), if_pos rfl, clI (by omega), RS3_66, if_pos hC.2.2, readT h25, bd_some, U25 h25, if_pos rfl, lookU hT (by omega) h7, e4, bd_some, q2, show nI 3 = 3 from rfl]
    by_cases z : Lt T M j4 = 33
    · rw [if_pos (show nI (Lt T M j4) = 33 by rw [z]; rfl), if_pos z, if_pos z, RS3_45, Ux_24, show nI j4 + 1 = nI (j4 + 1) by rw [li_1, adI], RS3_g45, Ux_Ux, pairL, bd_some, ixT (by omega) (by omega), if_pos rfl, clI (by omega), RS3_g66, pairL, bd_some, ixT (by omega) (by omega), if_pos rfl, clI (by omega), RS3_g66, pairL, bd_some, ixT (by omega) (by omega), if_pos rfl, clI (by omega), RS3_g67, pairL, bd_some, ixT (by omega) (by omega), if_pos rfl, clI (by omega), RS3_g67]
    · rw [if_neg (show ¬ nI (Lt T M j4) = 33 by rw [show (33 : Int32) = nI 33 from rfl, eqI (by omega) (by omega)]; exact z), if_neg z, if_neg z, RS3_45, Ux_24, show nI j4 + 0 = nI j4 by rw [li_0, adI]; rfl, RS3_g45, Ux_Ux, pairL, bd_some, ixT (by omega) (by omega), if_pos rfl, clI (by omega), RS3_g66, pairL, bd_some, ixT (by omega) (by omega), if_pos rfl, clI (by omega), RS3_g66, pairL, bd_some, ixT (by omega) (by omega), if_pos rfl, clI (by omega), RS3_g67, pairL, bd_some, ixT (by omega) (by omega), if_pos rfl, clI (by omega), RS3_g67]
