/-! PURE PART: copy -/
theorem sx_holdsY {σ : mx_G} {s i m n : Nat} (hs : s < 4) (hn : n ≤ 24) (h : σ.1 42 s = nI n) (him : i + m ≤ n) : fX6_holds (nI s) (nI i) (nI m) σ = some (1, σ) := by
  unfold fX6_holds
  simp (disch := omega) only [li_0, ltI, Nat.not_lt_zero, if_false, ixT, if_true, clI, h]
  rw [if_neg (by omega), suI (by omega), if_neg (by rw [ltI (by omega) (by omega)]; omega)]
theorem sx_holdsN {σ : mx_G} {s n : Nat} {p q : Int32} (hs : s < 4) (hn : n ≤ 24) (h : σ.1 42 s = nI n) (hno : ∀ i m : Nat, p = nI i → q = nI m → ¬ i + m ≤ n) : fX6_holds (nI s) p q σ = some (0, σ) := by
  unfold fX6_holds
  by_cases hp : p < 0
  · rw [if_pos hp]
  by_cases hq : q < 0
  · rw [if_neg hp, if_pos hq]
  rcases nI_ex p with z | ⟨i, hi, rfl⟩
  · exact absurd z hp
  rcases nI_ex q with z | ⟨m, hm, rfl⟩
  · exact absurd z hq
  have := hno i m rfl rfl
  rw [if_neg hp, if_neg hq]
  simp (disch := omega) only [ixT, if_true, clI, h, ltI]
  by_cases hni : n < i
  · rw [if_pos hni]
  · rw [if_neg hni, suI (by omega), if_pos (by rw [ltI (by omega) (by omega)]; omega)]
theorem sm_copyA (s i t j n : Nat) (hi : 24 * s + i + n ≤ 96) (hj : 24 * t + j + n ≤ 96) (hd : 24 * t + j ≤ 24 * s + i ∨ 24 * s + i + n ≤ 24 * t + j) : ∀ (m k f : Nat) (σ : mx_G), k + m = n → lX11_copy_132 (nI s) (nI i) (nI t) (nI j) (nI n) 0 (m + 1 + f) (nI k) σ = some (nI n, gt σ 53 (fun x => if 24 * t + j + k ≤ x ∧ x < 24 * t + j + n then σ.2 53 (24 * s + i + (x - (24 * t + j))) else σ.2 53 x)) := by
  intro m
  induction m with
  | zero =>
    intro k f σ h
    rw [show 0 + 1 + f = f + 1 by omega, lX11_copy_132, if_pos (nI_le (by omega) (by omega))]
    rw [show (fun x => if 24 * t + j + k ≤ x ∧ x < 24 * t + j + n then σ.2 53 (24 * s + i + (x - (24 * t + j))) else σ.2 53 x) = σ.2 53 from funext fun x => if_neg (by omega), gt_self]
  | succ m ih =>
    intro k f σ h
    rw [show m + 1 + 1 + f = (m + 1 + f) + 1 by omega, lX11_copy_132, if_neg (nI_ge (by omega) (by omega))]
    simp (disch := omega) only [mv_let, if_true, adI, muI, ixT, clI, li_1, li_24]
    rw [ih (k + 1) f _ (by omega), gt_gl]
    congr 3
    funext x
    by_cases h1 : x = 24 * t + j + k
    · subst h1
      rw [if_neg (by omega), if_pos (by omega), rd_gl, if_pos rfl, updL_rd, if_pos rfl]
      exact congrArg _ (by omega)
    · by_cases h2 : 24 * t + j + k ≤ x ∧ x < 24 * t + j + n
      · rw [if_pos (by omega), if_pos h2, rd_gl, if_pos rfl, updL_rd, if_neg (by omega)]
      · rw [if_neg (by omega), if_neg h2, rd_gl, if_pos rfl, updL_rd, if_neg h1]
theorem sm_copyD (s i t j n : Nat) (hi : 24 * s + i + n ≤ 96) (hj : 24 * t + j + n ≤ 96) (hd : 24 * s + i ≤ 24 * t + j ∨ 24 * t + j + n ≤ 24 * s + i) : ∀ (m k f : Nat) (σ : mx_G), k + m = n → lX11_copy_132 (nI s) (nI i) (nI t) (nI j) (nI n) (nI 1) (m + 1 + f) (nI k) σ = some (nI n, gt σ 53 (fun x => if 24 * t + j ≤ x ∧ x < 24 * t + j + m then σ.2 53 (24 * s + i + (x - (24 * t + j))) else σ.2 53 x)) := by
  intro m
  induction m with
  | zero =>
    intro k f σ h
    rw [show 0 + 1 + f = f + 1 by omega, lX11_copy_132, if_pos (nI_le (by omega) (by omega))]
    rw [show (fun x => if 24 * t + j ≤ x ∧ x < 24 * t + j + 0 then σ.2 53 (24 * s + i + (x - (24 * t + j))) else σ.2 53 x) = σ.2 53 from funext fun x => if_neg (by omega), gt_self]
  | succ m ih =>
    intro k f σ h
    rw [show m + 1 + 1 + f = (m + 1 + f) + 1 by omega, lX11_copy_132, if_neg (nI_ge (by omega) (by omega))]
    simp only [mv_let]
    rw [if_neg (by decide), li_1, suI (by omega), suI (by omega), show n - 1 - k = m by omega]
    simp (disch := omega) only [if_true, adI, muI, ixT, clI, li_24]
    rw [ih (k + 1) f _ (by omega), gt_gl]
    congr 3
    funext x
    by_cases h1 : x = 24 * t + j + m
    · subst h1
      rw [if_neg (by omega), if_pos (by omega), rd_gl, if_pos rfl, updL_rd, if_pos rfl]
      exact congrArg _ (by omega)
    · by_cases h2 : 24 * t + j ≤ x ∧ x < 24 * t + j + (m + 1)
      · rw [if_pos (by omega), if_pos h2, rd_gl, if_pos rfl, updL_rd, if_neg (by omega)]
      · rw [if_neg (by omega), if_neg h2, rd_gl, if_pos rfl, updL_rd, if_neg h1]
section ACT
variable {IC : Nat → mx_G → Prop}
theorem ok_copy (hC : ICok IC) : pv_copy (Inv IC) := by
  intro k σ p1 p2 p3 p4 p5 hk h
  unfold fX10_copy fX11_copy
  rcases sh_cases p1 with ⟨s, hs, rfl, x1, m1⟩ | ⟨x1, m1⟩
  rotate_left
  · refine pv_same hC h (-1) ?_ ?_
    · rw [x1 σ, bd_some, if_pos rfl]
    · show mv_bind (fX11_in _ 0 3 σ) _ = _
      rw [m1 σ, bd_some, if_pos rfl]
  rcases sh_cases p3 with ⟨t, ht, rfl, x2, m2⟩ | ⟨x2, m2⟩
  rotate_left
  · refine pv_same hC h (-1) ?_ ?_
    · rw [x1 σ, bd_some, if_neg one_ne, x2 σ, bd_some, if_pos rfl]
    · show mv_bind (fX11_in _ 0 3 σ) _ = _
      rw [m1 σ, bd_some, if_neg one_ne, m2 σ, bd_some, if_pos rfl]
  have miss : ∀ r : Nat, r < 4 → σ.1 41 r = -1 → fX6_isMissing (nI r) σ = some (1, σ) := by
    intro r hr e
    unfold fX6_isMissing
    simp (disch := omega) only [ixT, if_true, clI, e]
  have here : ∀ r l : Nat, r < 4 → l ≤ 3 → σ.1 41 r = nI l → fX6_isMissing (nI r) σ = some (0, σ) := by
    intro r l hr hl e
    unfold fX6_isMissing
    simp (disch := omega) only [ixT, if_true, clI, e]
    rw [if_neg (n1 l (by omega))]
  rcases h.2.2.2.2.1 s hs with ⟨a1, a2⟩ | ⟨l, n, l3, n24, a1, a2, a3, a4, a5⟩
  · refine pv_same hC h (-11) ?_ ?_
    · rw [x1 σ, bd_some, if_neg one_ne, x2 σ, bd_some, if_neg one_ne, miss s hs a1, bd_some, if_neg one_ne]
    · show mv_bind (fX11_in _ 0 3 σ) _ = _
      rw [m1 σ, bd_some, if_neg one_ne, m2 σ, bd_some, if_neg one_ne]
      rw [ixT hs (by omega), if_pos rfl, clI (k := s) (by omega), a2, if_pos (by decide)]
  rcases h.2.2.2.2.1 t ht with ⟨b1, b2⟩ | ⟨l', n', l3', n24', b1, b2, b3, b4, b5⟩
  · refine pv_same hC h (-11) ?_ ?_
    · rw [x1 σ, bd_some, if_neg one_ne, x2 σ, bd_some, if_neg one_ne, here s l hs l3 a1, bd_some, if_pos rfl, miss t ht b1, bd_some, if_neg one_ne]
    · show mv_bind (fX11_in _ 0 3 σ) _ = _
      rw [m1 σ, bd_some, if_neg one_ne, m2 σ, bd_some, if_neg one_ne]
      rw [ixT hs (by omega), if_pos rfl, clI (k := s) (by omega), a2, if_neg (by rw [li_0, ltI (by omega) (by omega)]; omega), ixT ht (by omega), if_pos rfl, clI (k := t) (by omega), b2, if_neg (by decide)]
  have lane : ∀ r l : Nat, r < 4 → σ.1 41 r = nI l → fX6_laneOf (nI r) σ = some (nI l, σ) := by
    intro r l hr e
    unfold fX6_laneOf
    simp (disch := omega) only [ixT, if_true, clI, e]
  have X : ∀ z, z = (if nI l = nI l' then mv_bind (fX6_holds (nI s) p2 p5 σ) fun x13 s14 => if x13 = 0 then some (-13, s14) else mv_bind (fX6_holds (nI t) p4 p5 s14) fun x15 s16 => if x15 = 0 then some (-13, s16) else mv_bind (fX6_move (nI s) p2 (nI t) p4 p5 s16) fun _ s17 => some (p5, s17) else some ((-12 : Int32), σ)) → (mv_bind (fX6_isSheet (nI s) σ) fun x1 s2 => if x1 = 0 then some ((-1 : Int32), s2) else mv_bind (fX6_isSheet (nI t) s2) fun x3 s4 => if x3 = 0 then some (-1, s4) else mv_bind (fX6_isMissing (nI s) s4) fun x5 s6 => if x5 = 0 then mv_bind (fX6_isMissing (nI t) s6) fun x7 s8 => if x7 = 0 then mv_bind (fX6_laneOf (nI s) s8) fun x9 s10 => mv_bind (fX6_laneOf (nI t) s10) fun x11 s12 => if x9 = x11 then mv_bind (fX6_holds (nI s) p2 p5 s12) fun x13 s14 => if x13 = 0 then some (-13, s14) else mv_bind (fX6_holds (nI t) p4 p5 s14) fun x15 s16 => if x15 = 0 then some (-13, s16) else mv_bind (fX6_move (nI s) p2 (nI t) p4 p5 s16) fun _ s17 => some (p5, s17) else some (-12, s12) else some (-11, s8) else some (-11, s6)) = z := by
    intro z hz
    rw [x1 σ, bd_some, if_neg one_ne, x2 σ, bd_some, if_neg one_ne, here s l hs l3 a1, bd_some, if_pos rfl, here t l' ht l3' b1, bd_some, if_pos rfl, lane s l hs a1, bd_some, lane t l' ht b1, bd_some, hz]
  by_cases hll : l = l'
  rotate_left
  · have hne : ¬ nI l = nI l' := by rw [eqI (by omega) (by omega)]; exact hll
    refine pv_same hC h (-12) (X _ (by rw [if_neg hne])) ?_
    show mv_bind (fX11_in _ 0 3 σ) _ = _
    rw [m1 σ, bd_some, if_neg one_ne, m2 σ, bd_some, if_neg one_ne]
    rw [ixT hs (by omega), if_pos rfl, clI (k := s) (by omega), a2, if_neg (by rw [li_0, ltI (by omega) (by omega)]; omega), ixT ht (by omega), if_pos rfl, clI (k := t) (by omega), b2, if_pos (nI_pos' (by omega)), if_pos rfl, if_pos rfl, if_neg hne]
  subst hll
  by_cases hok : ∃ i j m : Nat, p2 = nI i ∧ p4 = nI j ∧ p5 = nI m ∧ i + m ≤ n ∧ j + m ≤ n'
  · obtain ⟨i, j, m, rfl, rfl, rfl, him, hjm⟩ := hok
    have hmv : fX6_move (nI s) (nI i) (nI t) (nI j) (nI m) σ = some ((), gt σ 43 (va_cpy (σ.2 43) (σ.2 43) (s * 24 + i) (t * 24 + j) m)) := by
      unfold fX6_move
      simp (disch := omega) only [li_24, muI, adI, cpT, if_true, clI, mv_let]
    refine ⟨nI m, gt σ 43 (va_cpy (σ.2 43) (σ.2 43) (s * 24 + i) (t * 24 + j) m), gt (gt σ 43 (va_cpy (σ.2 43) (σ.2 43) (s * 24 + i) (t * 24 + j) m)) 53 (fun x => if 24 * t + j ≤ x ∧ x < 24 * t + j + m then σ.2 53 (24 * s + i + (x - (24 * t + j))) else σ.2 53 x), X _ ?_, ?_, ?_⟩
    · rw [if_pos rfl, sx_holdsY hs n24 a3 him, bd_some, if_neg one_ne, sx_holdsY ht n24' b3 hjm, bd_some, if_neg one_ne, hmv, bd_some]
    · show mv_bind (fX11_in _ 0 3 _) _ = _
      rw [m1 _, bd_some, if_neg one_ne, m2 _, bd_some, if_neg one_ne]
      rw [ixT hs (by omega), if_pos rfl, clI (k := s) (by omega), rd_gt1, a2, if_neg (by rw [li_0, ltI (by omega) (by omega)]; omega), ixT ht (by omega), if_pos rfl, clI (k := t) (by omega), b2, if_pos (nI_pos' (by omega)), if_pos rfl, if_pos rfl, if_pos rfl, a4, b4, if_neg (by rw [li_0, ltI (by omega) (by omega)]; omega), if_neg (by rw [li_24, ltI (by omega) (by omega)]; omega), if_neg (by rw [li_0, ltI (by omega) (by omega)]; omega), if_neg (by rw [li_0, ltI (by omega) (by omega)]; omega), if_pos rfl, suI (by omega), if_neg (by rw [ltI (by omega) (by omega)]; omega), if_pos rfl, suI (by omega), if_pos (by rw [leI (by omega) (by omega)]; omega)]
      simp only [mv_let]
      obtain ⟨f, hf⟩ := FU_lt (n := m) (by omega)
      rw [hf, li_0]
      by_cases hji : j ≤ i
      · rw [if_pos (by rw [leI (by omega) (by omega)]; exact hji)]
        have := sm_copyA s i t j m (by omega) (by omega) (by omega) m 0 f (gt σ 43 (va_cpy (σ.2 43) (σ.2 43) (s * 24 + i) (t * 24 + j) m)) (by omega)
        rw [li_0] at this
        rw [this]
        simp only [rd_gt, Nat.reduceEqDiff, if_false, Nat.add_zero]
      · rw [if_neg (by rw [leI (by omega) (by omega)]; exact hji)]
        rw [li_1, sm_copyD s i t j m (by omega) (by omega) (by omega) m 0 f (gt σ 43 (va_cpy (σ.2 43) (σ.2 43) (s * 24 + i) (t * 24 + j) m)) (by omega)]
        simp only [rd_gt, Nat.reduceEqDiff, if_false]
    · refine h.sheets hC (fun p hp => rfl) (fun p hp => ?_) (IS.set h.2.2.2.2.1 ht (fun r hr hrs => ?_) (Or.inr ⟨l, n', l3, n24', b1, b2, b3, b4, fun x hx => ?_⟩))
      · have q : ∀ n : Nat, n ∈ [43, 53] → ¬ p = n := fun n hn z => hp (z ▸ hn)
        simp only [rd_gt, q 43 (by decide), q 53 (by decide), if_false]
      · refine ⟨rfl, rfl, rfl, rfl, fun x hx => ?_⟩
        simp only [rd_gt, Nat.reduceEqDiff, if_true, if_false, cpy_rd]
        rw [if_neg (by omega), if_neg (by omega)]
        exact ⟨rfl, rfl⟩
      · simp only [rd_gt, Nat.reduceEqDiff, if_true, if_false, cpy_rd]
        by_cases hin : j ≤ x ∧ x < j + m
        · rw [if_pos (by omega), if_pos (by omega)]
          have := a5 (i + (x - j)) (by omega)
          rw [show 24 * s + i + (24 * t + x - (24 * t + j)) = 24 * s + (i + (x - j)) by omega, this]
          exact congrArg _ (by omega)
        · rw [if_neg (by omega), if_neg (by omega)]
          exact b5 x hx
  · refine pv_same hC h (-13) (X _ ?_) ?_
    · rw [if_pos rfl]
      by_cases h1 : ∃ i m : Nat, p2 = nI i ∧ p5 = nI m ∧ i + m ≤ n
      · obtain ⟨i, m, rfl, rfl, him⟩ := h1
        rw [sx_holdsY hs n24 a3 him, bd_some, if_neg one_ne, sx_holdsN ht n24' b3 ?_, bd_some, if_pos rfl]
        intro j m' e1 e2 hjm
        subst e1
        by_cases hm' : m' < 2147483648
        · rw [eqI (by omega) hm'] at e2
          exact hok ⟨i, j, m, rfl, rfl, rfl, him, by omega⟩
        · omega
      · rw [sx_holdsN hs n24 a3 (fun i m e1 e2 him => h1 ⟨i, m, e1, e2, him⟩), bd_some, if_pos rfl]
    · show mv_bind (fX11_in _ 0 3 σ) _ = _
      rw [m1 σ, bd_some, if_neg one_ne, m2 σ, bd_some, if_neg one_ne]
      simp (disch := omega) only [ixT, if_true, clI, a2, b2, a4, b4, mv_let]
      rw [if_neg (by rw [li_0, ltI (by omega) (by omega)]; omega), if_pos (nI_pos' (by omega))]
      by_cases q5 : p5 < 0
      · rw [if_pos q5]
      rw [if_neg q5]
      by_cases q24 : 24 < p5
      · rw [if_pos q24]
      rw [if_neg q24]
      by_cases q2 : p2 < 0
      · rw [if_pos q2]
      rw [if_neg q2]
      by_cases q4 : p4 < 0
      · rw [if_pos q4]
      rw [if_neg q4]
      rcases nI_ex p5 with z | ⟨m, hm, rfl⟩
      · exact absurd z q5
      rcases nI_ex p2 with z | ⟨i, hi, rfl⟩
      · exact absurd z q2
      rcases nI_ex p4 with z | ⟨j, hj, rfl⟩
      · exact absurd z q4
      have hm24 : m ≤ 24 := by rw [li_24, ltI (by omega) hm] at q24; omega
      have c1 : (nI n - nI m < nI i) = (n < i + m) := by
        apply propext
        rw [Int32.lt_iff_toInt_lt, nI_toInt hi, pk_sub_toInt (by omega) (by omega)]
        omega
      have c2 : (nI j ≤ nI n' - nI m) = (j + m ≤ n') := by
        apply propext
        rw [Int32.le_iff_toInt_le, nI_toInt hj, pk_sub_toInt (by omega) (by omega)]
        omega
      simp only [c1, c2]
      by_cases d1 : n < i + m
      · rw [if_pos d1]
      · rw [if_neg d1, if_neg (fun d2 => hok ⟨i, j, m, rfl, rfl, rfl, by omega, d2⟩)]
end ACT
