/-! PURE PART: read: the class's letters -/
def XS3 (t : mx_G) (u g h : Nat → Int32) : mx_G := gs (gs (gs t 38 g) 39 h) 36 u
theorem XS3_36 (t : mx_G) (u g h : Nat → Int32) : (XS3 t u g h).1 36 = u := gs_rd _ _ _
theorem XS3_38 (t : mx_G) (u g h : Nat → Int32) : (XS3 t u g h).1 38 = g := by unfold XS3; rw [gs_rdn _ (by decide), gs_rdn _ (by decide), gs_rd]
theorem XS3_39 (t : mx_G) (u g h : Nat → Int32) : (XS3 t u g h).1 39 = h := by unfold XS3; rw [gs_rdn _ (by decide), gs_rd]
theorem XS3_rd (t : mx_G) (u g h : Nat → Int32) {p : Nat} (h1 : p ≠ 36) (h2 : p ≠ 38) (h3 : p ≠ 39) : (XS3 t u g h).1 p = t.1 p := by unfold XS3; rw [gs_rdn _ h1, gs_rdn _ h3, gs_rdn _ h2]
theorem XS3_g36 (t : mx_G) (u g h : Nat → Int32) (k : Nat) (x : Int32) : gi (XS3 t u g h) 36 k x = XS3 t (upd u k x) g h := by unfold XS3; rw [gi_of]
theorem XS3_g38 (t : mx_G) (u g h : Nat → Int32) (k : Nat) (x : Int32) : gi (XS3 t u g h) 38 k x = XS3 t u (upd g k x) h := by
  rw [gi_gs, XS3_38]
  unfold XS3
  rw [gs_com _ (by decide), gs_com (gs t 38 g) (by decide), gs_gs]
theorem XS3_g39 (t : mx_G) (u g h : Nat → Int32) (k : Nat) (x : Int32) : gi (XS3 t u g h) 39 k x = XS3 t u g (upd h k x) := by
  rw [gi_gs, XS3_39]
  unfold XS3
  rw [gs_com _ (by decide), gs_gs]
def TX (T : Nat → Nat) (M : Nat) (t : mx_G) : Prop := M ≤ 80 ∧ (∀ j, j < M → 32 ≤ T j ∧ T j ≤ 126) ∧ ∀ j, j < M → t.1 37 j = nI (T j)
theorem cl_end {T : Nat → Nat} {M : Nat} {t : mx_G} (hT : TX T M t) {u g h : Nat → Int32} (h1 : u 1 = nI M) (n : Nat) (K : mx_G → Option (Int32 × mx_G)) (F : Nat) : lX7_parse_20 (nI n) K (M - M + 1 + F) (nI M) (XS3 t u g h) = K (XS3 t u g h) := by
  have h80 := hT.1
  rw [show M - M + 1 + F = F + 1 by omega, lX7_parse_20, XS3_36, h1, if_pos (nI_le (Nat.le_refl _) (by omega))]
theorem cl_step {T : Nat → Nat} {M : Nat} {t : mx_G} (hT : TX T M t) {u g h : Nat → Int32} (h1 : u 1 = nI M) (n : Nat) (K : mx_G → Option (Int32 × mx_G)) (F : Nat) {i : Nat} (hi : i < M) (hb : T i ≠ 32) : lX7_parse_20 (nI n) K (M - i + 1 + F) (nI i) (XS3 t u g h) = mv_bind (fX7_accepts (nI (T i)) (nI n) (XS3 t u g h)) fun x4 s5 => if x4 = 0 then some ((-20) - nI i, s5) else lX7_parse_20 (nI n) K (M - (i + 1) + 1 + F) (nI (i + 1)) s5 := by
  obtain ⟨h80, hlet, hcell⟩ := hT
  have hl := hlet i hi
  have e1 : nI i + 1 = nI (i + 1) := by rw [li_1, adI]
  rw [show M - i + 1 + F = (M - (i + 1) + 1 + F) + 1 by omega, lX7_parse_20, XS3_36, h1, if_neg (nI_ge hi (by omega)), ixT (by omega) (by omega), if_pos rfl, clI (by omega), XS3_rd _ _ _ _ (by decide) (by decide) (by decide), hcell i hi, if_neg (by rw [show (32 : Int32) = nI 32 from rfl, eqI (by omega) (by omega)]; exact hb), if_pos rfl, e1]
theorem cl_skip {T : Nat → Nat} {M : Nat} {t : mx_G} (hT : TX T M t) {u g h : Nat → Int32} (h1 : u 1 = nI M) (n : Nat) (K : mx_G → Option (Int32 × mx_G)) (F : Nat) : ∀ (m i : Nat), i + m = M → lX7_parse_20 (nI n) K (M - i + 1 + F) (nI i) (XS3 t u g h) = lX7_parse_20 (nI n) K (M - nb T M i + 1 + F) (nI (nb T M i)) (XS3 t u g h) := by
  obtain ⟨h80, hlet, hcell⟩ := hT
  intro m
  induction m with
  | zero => intro i hi; rw [show i = M by omega, nb_end]
  | succ m ih =>
    intro i hi
    have hl := hlet i (by omega)
    have e1 : nI i + 1 = nI (i + 1) := by rw [li_1, adI]
    rw [nb_step T (show i < M by omega)]
    by_cases z : T i = 32
    · rw [if_pos z, ← ih (i + 1) (by omega), show M - i + 1 + F = (M - (i + 1) + 1 + F) + 1 by omega, lX7_parse_20, XS3_36, h1, if_neg (nI_ge (by omega) (by omega)), ixT (by omega) (by omega), if_pos rfl, clI (by omega), XS3_rd _ _ _ _ (by decide) (by decide) (by decide), hcell i (by omega), if_pos (by rw [z]; rfl), e1]
    · rw [if_neg z]
/-! what a letter does -/
theorem ac_first {t : mx_G} {u g h : Nat → Int32} {n l : Nat} (h6 : n ≤ 6) (hl : l < 127) (h2 : u 2 = 0 ∨ u 2 = 1) : (isD n l → fX7_accepts (nI l) (nI n) (XS3 t u g h) = some (1, XS3 t (upd (upd u 3 (nI (l - 48))) 2 2) g h)) ∧ (¬ isD n l → fX7_accepts (nI l) (nI n) (XS3 t u g h) = some (0, XS3 t u g h)) := by
  have d := dom48 n (by omega) l hl
  have ef : (isD n l → fX7_acceptsFirst (nI l - 48) (nI n) (XS3 t u g h) = some (1, XS3 t (upd (upd u 3 (nI (l - 48))) 2 2) g h)) ∧ (¬ isD n l → fX7_acceptsFirst (nI l - 48) (nI n) (XS3 t u g h) = some (0, XS3 t u g h)) := by
    unfold fX7_acceptsFirst
    constructor
    · intro z
      have y := d.mpr z
      have x1 : nI l - 48 = nI (l - 48) := by rw [show (48 : Int32) = nI 48 from rfl, suI z.1]
      rw [if_neg (Int32.not_lt.mpr y.1), if_pos y.2, mv_let, XS3_g36, mv_let, XS3_g36, x1]
    · intro z
      by_cases y : nI l - 48 < 0
      · rw [if_pos y]
      · rw [if_neg y, if_neg (fun y2 => z (d.mp ⟨Int32.not_lt.mp y, y2⟩))]
  unfold fX7_accepts
  rw [mv_let, XS3_36]
  constructor
  · intro z
    rcases h2 with q | q
    · rw [q, if_pos rfl, ef.1 z, bd_some, if_pos (by decide)]
    · rw [q, if_neg one_ne, if_pos rfl, ef.1 z, bd_some, if_pos (by decide)]
  · intro z
    rcases h2 with q | q
    · rw [q, if_pos rfl, ef.2 z, bd_some, if_pos (by decide)]
    · rw [q, if_neg one_ne, if_pos rfl, ef.2 z, bd_some, if_pos (by decide)]
theorem ac_sign {t : mx_G} {u g h : Nat → Int32} {n l : Nat} (hl : l < 127) (h2 : u 2 = 2) : (sgn l ≠ 0 → fX7_accepts (nI l) (nI n) (XS3 t u g h) = some (1, XS3 t (upd (upd u 5 (nI (sgn l))) 2 3) g h)) ∧ (sgn l = 0 → ∃ u', fX7_accepts (nI l) (nI n) (XS3 t u g h) = some (0, XS3 t u' g h) ∧ ∀ k, k ≠ 5 → k ≠ 2 → u' k = u k) := by
  unfold fX7_accepts
  rw [mv_let, XS3_36, h2, if_neg (by decide), if_neg (by decide), if_pos rfl]
  unfold fX7_acceptsSign
  simp only [mv_let]
  have u52 : ∀ x : Int32, upd (upd u 5 x) 2 3 5 = x := fun x => by rw [upd_rd, if_neg (by decide), upd_rd, if_pos rfl]
  constructor
  · intro z
    rcases sgn_p z with ⟨q, q2⟩ | ⟨q, q2⟩ | ⟨q, q2⟩
    · rw [q2, q, if_pos (show nI 62 = 62 from rfl), XS3_g36, XS3_g36, XS3_36, u52, if_neg one_ne, bd_some, if_pos (by decide)]
      rfl
    · rw [q2, q, if_neg (show ¬ nI 45 = 62 by decide), if_pos (show nI 45 = 45 from rfl), XS3_g36, XS3_g36, XS3_36, u52, if_neg (by decide), bd_some, if_pos (by decide)]
      rfl
    · rw [q2, q, if_neg (show ¬ nI 60 = 62 by decide), if_neg (show ¬ nI 60 = 45 by decide), if_pos (show nI 60 = 60 from rfl), XS3_g36, XS3_g36, XS3_36, u52, if_neg (by decide), bd_some, if_pos (by decide)]
      rfl
  · intro z
    obtain ⟨s1, s2, s3⟩ := sgn_0 hl z
    refine ⟨upd (upd u 5 0) 2 3, ?_, fun k a b => by rw [upd_rd, if_neg b, upd_rd, if_neg a]⟩
    rw [if_neg s1, if_neg s2, if_neg s3, XS3_g36, XS3_g36, XS3_36, u52, if_pos rfl, bd_some, if_pos (by decide)]
theorem ac_second {t : mx_G} {u g h : Nat → Int32} {n l a : Nat} (h6 : n ≤ 6) (hl : l < 127) (ha : a < n) (h2 : u 2 = 3) (h3 : u 3 = nI a) {v : Nat} (h5 : u 5 = nI v) {w : Nat} (h66 : u 6 = nI w) : (isD n l ∧ ¬ l - 48 = a ∧ g (6 * a + (l - 48)) = 0 → ∃ u', fX7_accepts (nI l) (nI n) (XS3 t u g h) = some (1, XS3 t u' (upd (upd g (6 * a + (l - 48)) (nI v)) (6 * (l - 48) + a) (4 - nI v)) (upd (upd h (6 * a + (l - 48)) 0) (6 * (l - 48) + a) 0)) ∧ u' 2 = 4 ∧ u' 3 = nI a ∧ u' 4 = nI (l - 48) ∧ u' 6 = nI (w + 1) ∧ u' 1 = u 1) ∧ (¬ (isD n l ∧ ¬ l - 48 = a ∧ g (6 * a + (l - 48)) = 0) → fX7_accepts (nI l) (nI n) (XS3 t u g h) = some (0, XS3 t u g h)) := by
  have d := dom48 n (by omega) l hl
  unfold fX7_accepts
  rw [mv_let, XS3_36, h2, if_neg (by decide), if_neg (by decide), if_neg (by decide), if_pos rfl]
  unfold fX7_acceptsSecond
  constructor
  · rintro ⟨z, z2, z3⟩
    have y := d.mpr z
    have z' := z
    unfold isD at z'
    have x1 : nI l - 48 = nI (l - 48) := by rw [show (48 : Int32) = nI 48 from rfl, suI z.1]
    have m1 : nI a * 6 + nI (l - 48) = nI (6 * a + (l - 48)) := by rw [li_6, muI, adI, Nat.mul_comm]
    have m2 : nI (l - 48) * 6 + nI a = nI (6 * (l - 48) + a) := by rw [li_6, muI, adI, Nat.mul_comm]
    refine ⟨upd (upd (upd u 4 (nI (l - 48))) 6 (nI (w + 1))) 2 4, ?_, ?_, ?_, ?_, ?_, ?_⟩
    · rw [if_neg (Int32.not_lt.mpr y.1), if_neg (Int32.not_le.mpr y.2), XS3_36, h3, x1, if_neg (by rw [eqI (by omega) (by omega)]; exact z2), m1, ixT (by omega) (by omega), if_pos rfl, clI (by omega), XS3_38, if_pos z3]
      have r3 : (upd u 4 (nI (l - 48))) 3 = nI a := by rw [upd_rd, if_neg (by decide)]; exact h3
      have r4 : (upd u 4 (nI (l - 48))) 4 = nI (l - 48) := by rw [upd_rd, if_pos rfl]
      have r5 : (upd u 4 (nI (l - 48))) 5 = nI v := by rw [upd_rd, if_neg (by decide)]; exact h5
      have r6 : (upd u 4 (nI (l - 48))) 6 = nI w := by rw [upd_rd, if_neg (by decide)]; exact h66
      simp only [mv_let, XS3_g36, XS3_g38, XS3_g39, XS3_36, r3, r4, r5, r6, m1, m2]
      rw [ixT (by omega) (by omega), if_pos rfl, ixT (by omega) (by omega), if_pos rfl, if_pos rfl, if_pos rfl, clI (by omega), clI (by omega), bd_some, if_pos (by decide), show nI w + 1 = nI (w + 1) by rw [li_1, adI], show (0 : Int32) &&& 1 = 0 by decide]
    · rw [upd_rd, if_pos rfl]
    · rw [upd_rd, if_neg (by decide), upd_rd, if_neg (by decide), upd_rd, if_neg (by decide)]; exact h3
    · rw [upd_rd, if_neg (by decide), upd_rd, if_neg (by decide), upd_rd, if_pos rfl]
    · rw [upd_rd, if_neg (by decide), upd_rd, if_pos rfl]
    · rw [upd_rd, if_neg (by decide), upd_rd, if_neg (by decide), upd_rd, if_neg (by decide)]
  · intro z
    by_cases y1 : nI l - 48 < 0
    · rw [if_pos y1, bd_some, if_pos (by decide)]
    · rw [if_neg y1]
      by_cases y2 : nI n ≤ nI l - 48
      · rw [if_pos y2, bd_some, if_pos (by decide)]
      · have zd : isD n l := d.mp ⟨Int32.not_lt.mp y1, Int32.not_le.mp y2⟩
        have z' := zd
        unfold isD at z'
        have x1 : nI l - 48 = nI (l - 48) := by rw [show (48 : Int32) = nI 48 from rfl, suI zd.1]
        have m1 : nI a * 6 + nI (l - 48) = nI (6 * a + (l - 48)) := by rw [li_6, muI, adI, Nat.mul_comm]
        rw [if_neg y2, XS3_36, h3, x1]
        by_cases y3 : l - 48 = a
        · rw [if_pos (by rw [y3]), bd_some, if_pos (by decide)]
        · rw [if_neg (by rw [eqI (by omega) (by omega)]; exact y3), m1, ixT (by omega) (by omega), if_pos rfl, clI (by omega), XS3_38, if_neg (fun y4 => z ⟨zd, y3, y4⟩), bd_some, if_pos (by decide)]
theorem ac_behind {t : mx_G} {u g h : Nat → Int32} {n l a b : Nat} (h6 : n ≤ 6) (hl : l < 127) (ha : a < n) (hb : b < n) (h2 : u 2 = 4 ∨ u 2 = 5) (h3 : u 3 = nI a) (h4 : u 4 = nI b) : (l = 44 → fX7_accepts (nI l) (nI n) (XS3 t u g h) = some (1, XS3 t (upd u 2 1) g h)) ∧ (u 2 = 4 → l = 33 → fX7_accepts (nI l) (nI n) (XS3 t u g h) = some (1, XS3 t (upd u 2 5) g (upd (upd h (6 * a + b) 1) (6 * b + a) 1))) ∧ (l ≠ 44 → (u 2 = 5 ∨ l ≠ 33) → fX7_accepts (nI l) (nI n) (XS3 t u g h) = some (0, XS3 t u g h)) := by
  have pre : fX7_accepts (nI l) (nI n) (XS3 t u g h) = mv_bind (fX7_acceptsBehind (nI l) (XS3 t u g h)) fun x10 s11 => if x10 &&& 1 = x10 then some (x10, s11) else none := by
    unfold fX7_accepts
    rw [mv_let, XS3_36]
    rcases h2 with q | q
    · rw [q, if_neg (by decide), if_neg (by decide), if_neg (by decide), if_neg (by decide)]
    · rw [q, if_neg (by decide), if_neg (by decide), if_neg (by decide), if_neg (by decide)]
  rw [pre]
  unfold fX7_acceptsBehind
  have m1 : nI a * 6 + nI b = nI (6 * a + b) := by rw [li_6, muI, adI, Nat.mul_comm]
  have m2 : nI b * 6 + nI a = nI (6 * b + a) := by rw [li_6, muI, adI, Nat.mul_comm]
  refine ⟨fun z => ?_, fun z z2 => ?_, fun z z2 => ?_⟩
  · rw [z, if_pos (show nI 44 = 44 from rfl), mv_let, XS3_g36, bd_some, if_pos (by decide)]
  · rw [z2, if_neg (show ¬ nI 33 = 44 by decide), if_pos (show nI 33 = 33 from rfl), XS3_36, z, if_neg (by decide)]
    simp only [mv_let, XS3_g36, XS3_g39, XS3_36, h3, h4, m1, m2]
    rw [ixT (by omega) (by omega), if_pos rfl, ixT (by omega) (by omega), if_pos rfl, clI (by omega), clI (by omega), bd_some, if_pos (by decide), show (1 : Int32) &&& 1 = 1 by decide]
  · rw [if_neg (by rw [show (44 : Int32) = nI 44 from rfl, eqI (by omega) (by omega)]; exact z)]
    by_cases y : l = 33
    · have q : u 2 = 5 := by
        rcases z2 with q | q
        · exact q
        · exact absurd y q
      rw [if_pos (by rw [y]; rfl), XS3_36, q, if_pos rfl, bd_some, if_pos (by decide)]
    · rw [if_neg (by rw [show (33 : Int32) = nI 33 from rfl, eqI (by omega) (by omega)]; exact y), bd_some, if_pos (by decide)]
