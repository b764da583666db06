/-! PURE PART: the class's rings: lengths, measured -/
theorem ed_lt {R : Nat → Nat → Prop} {M w : Nat} (hR : ∀ a b, R a b → b < M) (hw : w < M) {k x : Nat} (h : ed R w k x) : x < M := by
  cases k with
  | zero => have h : x = w := h; omega
  | succ k =>
    obtain ⟨m, a1, a2, a3⟩ := h.1
    obtain ⟨m', rfl⟩ : ∃ m', m = m' + 1 := ⟨m - 1, by omega⟩
    obtain ⟨z, b1, b2⟩ := a3
    exact hR z x b2
theorem sx_len36 {E : Nat → Nat → Prop} {Λ : Nat → Prop} {w : Nat} (hEb : ∀ a b, E a b → a < 326 ∧ b < 326) (hw : w < 326) : ∀ (m k f : Nat) (s : mx_G), k + m = 326 → LE s 26 E → Hs s 27 Λ → Hs s 29 (ed (fun a b => E a b ∧ Λ b) w k) → Hs s 28 (Rk (fun a b => E a b ∧ Λ b) w k) → ¬ Rk (fun a b => E a b ∧ Λ b) w k w → (∀ j, j < k → ∃ x, ed (fun a b => E a b ∧ Λ b) w (j + 1) x) → ∃ s' v, lX5_lengthThrough_36 (nI w) (m + 1 + f) (nI (k + 1)) s = some (nI v, s') ∧ v ≤ 326 ∧ (v = 0 → ∀ j, 1 ≤ j → ¬ wlk (fun a b => E a b ∧ Λ b) j w w) ∧ (0 < v → wlk (fun a b => E a b ∧ Λ b) v w w ∧ ∀ j, 1 ≤ j → j < v → ¬ wlk (fun a b => E a b ∧ Λ b) j w w) ∧ s'.1 = s.1 ∧ ∀ p, p ∉ [28, 29, 30] → s'.2 p = s.2 p := by
  have hRb : ∀ a b, (fun a b => E a b ∧ Λ b) a b → b < 326 := fun a b h => (hEb a b h.1).2
  intro m
  induction m with
  | zero =>
    intro k f s h hE hΛ h29 h28 hno hne
    exfalso
    have := ed_few hRb hw hne hno
    omega
  | succ m ih =>
    intro k f s h hE hΛ h29 h28 hno hne
    have e1 : nI (k + 1) + 1 = nI (k + 1 + 1) := by rw [li_1, adI]
    obtain ⟨s1, r, b1, b2, b3, b4, b5, b6⟩ := sx_spread (fun z hz => ed_lt hRb hw hz) hE hΛ h29 h28
    have hCM : ∀ x, CM E Λ (ed (fun a b => E a b ∧ Λ b) w k) x ↔ ∃ z, ed (fun a b => E a b ∧ Λ b) w k z ∧ (fun a b => E a b ∧ Λ b) z x := fun x => Iff.rfl
    have h29' : Hs s1 29 (ed (fun a b => E a b ∧ Λ b) w (k + 1)) := b2.congr (fun x _ => by rw [hCM, ed_next])
    have h28' : Hs s1 28 (Rk (fun a b => E a b ∧ Λ b) w (k + 1)) := b3.congr (fun x _ => by rw [hCM, Rk_step])
    rw [show m + 1 + 1 + f = (m + 1 + f) + 1 by omega, lX5_lengthThrough_36, if_neg (by rw [show (326 : Int32) = nI 326 from rfl, ltI (by omega) (by omega)]; omega), b1, bd_some]
    rcases b6 with ⟨rfl, x, hx, hx2⟩ | ⟨rfl, hx⟩
    · rw [if_neg one_ne]
      have hh := sx_has_1 h29' (w := w) (by omega)
      by_cases z : ed (fun a b => E a b ∧ Λ b) w (k + 1) w
      · rw [hh.1 z, bd_some, if_neg one_ne]
        refine ⟨s1, k + 1, rfl, by omega, fun q => absurd q (by omega), fun _ => ⟨?_, fun j j1 j2 hj => z.2 ⟨j, j1, by omega, hj⟩⟩, b4, b5⟩
        obtain ⟨j, j1, j2, j3⟩ := z.1
        have : j = k + 1 := by
          rcases Nat.lt_or_ge k j with q | q
          · omega
          · exact absurd ⟨j, j1, q, j3⟩ z.2
        rw [← this]
        exact j3
      · rw [hh.2 z, bd_some, if_pos rfl, e1]
        have hno' : ¬ Rk (fun a b => E a b ∧ Λ b) w (k + 1) w := fun q => z ⟨q, hno⟩
        obtain ⟨s', v, c1, c2, c3, c4, c5, c6⟩ := ih (k + 1) f s1 (by omega) (hE.of (b5 26 (by decide))) (hΛ.of (b5 27 (by decide))) h29' h28' hno' (fun j hj => by
          by_cases y : j = k
          · exact ⟨x, by rw [y, ed_next]; exact hx2⟩
          · exact hne j (by omega))
        exact ⟨s', v, c1, c2, c3, c4, c5.trans b4, fun p hp => (c6 p hp).trans (b5 p hp)⟩
    · rw [if_pos rfl]
      refine ⟨s1, 0, rfl, by omega, fun _ j j1 hj => ?_, fun q => absurd q (by omega), b4, b5⟩
      have hend := Rk_end (R := fun a b => E a b ∧ Λ b) (w := w) (k := k) (fun x hxx => hx x (by have := ed_lt hRb hw hxx; omega) (by rw [ed_next] at hxx; exact hxx))
      exact hno (hend j w ⟨j, j1, by omega, hj⟩)
theorem sx_lengthThrough {s : mx_G} {E : Nat → Nat → Prop} {Λ : Nat → Prop} {w : Nat} (hEb : ∀ a b, E a b → a < 326 ∧ b < 326) (hw : w < 326) (hE : LE s 26 E) (hΛ : Hs s 27 Λ) : ∃ s' v, fX5_lengthThrough (nI w) s = some (nI v, s') ∧ v ≤ 326 ∧ (v = 0 → ∀ j, 1 ≤ j → ¬ wlk (fun a b => E a b ∧ Λ b) j w w) ∧ (0 < v → wlk (fun a b => E a b ∧ Λ b) v w w ∧ ∀ j, 1 ≤ j → j < v → ¬ wlk (fun a b => E a b ∧ Λ b) j w w) ∧ s'.1 = s.1 ∧ ∀ p, p ∉ [28, 29, 30] → s'.2 p = s.2 p := by
  have e0 := sx_fillL_2 s
  generalize hs0 : gt s 28 (fun t => if t < 6 then 0 else s.2 28 t) = s0 at e0
  have e1 := sx_fillL_3 s0
  generalize hs1 : gt s0 29 (fun t => if t < 6 then 0 else s0.2 29 t) = s1 at e1
  have d1 : nI w / 64 = nI (w / 64) := by rw [li_64, dvI (by omega) (by omega) (by omega)]
  have d2 : mv_rem (nI w) 64 = nI (w % 64) := by rw [li_64, rmI (by omega) (by omega) (by omega)]
  generalize hs2 : gl s1 29 (w / 64) (s1.2 29 (w / 64) ||| mv_lshl 1 (nI (w % 64))) = s2
  have q1 : s2.1 = s.1 := by rw [← hs2, rd_gl1, ← hs1, rd_gt1, ← hs0, rd_gt1]
  have q2 : ∀ p, p ∉ [28, 29, 30] → s2.2 p = s.2 p := fun p hp => by
    rw [← hs2, rd_gl, if_neg (fun z => hp (by rw [z]; decide)), ← hs1, rd_gt, if_neg (fun z => hp (by rw [z]; decide)), ← hs0, rd_gt, if_neg (fun z => hp (by rw [z]; decide))]
  obtain ⟨f, hf⟩ := FU_lt (n := 326) (by omega)
  obtain ⟨s', v, c1, c2, c3, c4, c5, c6⟩ := sx_len36 (Λ := Λ) hEb hw 326 0 f s2 (by omega) (hE.of (q2 26 (by decide))) (hΛ.of (q2 27 (by decide))) (by
    intro k r x1 x2
    rw [← hs2, rd_gl, if_pos rfl, updL_rd]
    have hz : ∀ k', k' < 6 → s1.2 29 k' = 0 := fun k' h => by rw [← hs1, rd_gt, if_pos rfl, if_pos h]
    by_cases y : k = w / 64
    · rw [if_pos y, hz _ (by omega), tb_or, tb_0, tb_bit (w % 64) (by omega) r x2]
      simp
      show r = w % 64 ↔ 64 * k + r = w
      omega
    · rw [if_neg y, hz k x1, tb_0]
      constructor
      · intro z; cases z
      · intro z
        have z : 64 * k + r = w := z
        omega) (by
    intro k r x1 x2
    rw [← hs2, rd_gl, if_neg (by decide), ← hs1, rd_gt, if_neg (by decide), ← hs0, rd_gt, if_pos rfl, if_pos x1, tb_0]
    constructor
    · intro z; cases z
    · rintro ⟨m, h1, h2, -⟩; omega) (by rintro ⟨m, h1, h2, -⟩; omega) (fun j hj => absurd hj (by omega))
  rw [← hf] at c1
  refine ⟨s', v, ?_, c2, c3, c4, c5.trans q1, fun p hp => (c6 p hp).trans (q2 p hp)⟩
  unfold fX5_lengthThrough
  rw [e0, bd_some, e1, bd_some, d1, ixT (by omega) (by omega), if_pos rfl, if_pos rfl, clI (by omega), d2, mv_let, hs2]
  exact c1
theorem rf_congr {f g w : Nat → Nat} : ∀ k, (∀ p, p < k → f p = g p) → rfM f k = rfM g k ∧ rfS f k = rfS g k ∧ rfL f w k = rfL g w k := by
  intro k
  induction k with
  | zero => intro _; exact ⟨rfl, rfl, rfl⟩
  | succ k ih =>
    intro h
    obtain ⟨a1, a2, a3⟩ := ih (fun p hp => h p (by omega))
    rw [rfM, rfM, rfS, rfS, rfL, rfL, h k (by omega), a1, a2, a3]
    exact ⟨rfl, rfl, rfl⟩
theorem rf_bd {f : Nat → Nat} (hf : ∀ p, f p ≤ 1000) : ∀ k, rfM f k ≤ k ∧ rfS f k ≤ 1000 := by
  intro k
  induction k with
  | zero => exact ⟨Nat.le_refl _, Nat.zero_le _⟩
  | succ k ih =>
    have := hf k
    rw [rfM, rfS]
    constructor
    · split <;> omega
    · split
      · omega
      · split
        · omega
        · split <;> omega
theorem rfL_bd {f w : Nat → Nat} (hw : ∀ p, w p < 1000000) : ∀ k x, rfL f w k = some x → x < 1000000 := by
  intro k
  induction k with
  | zero => intro x h; cases h
  | succ k ih =>
    intro x h
    have := hw k
    rw [rfL] at h
    by_cases z : f k = 0
    · rw [if_pos z] at h; exact ih x h
    · rw [if_neg z] at h
      cases hb : rfL f w k with
      | none =>
        rw [hb] at h
        have h : some (w k) = some x := h
        injection h with h
        omega
      | some y =>
        rw [hb] at h
        have hy := ih y hb
        have h : some (if w k < y then w k else y) = some x := h
        injection h with h
        split at h <;> omega
theorem wf_bd {n : Nat} (hn : 0 < n) (h6 : n ≤ 6) {L : List (List Nat)} (hway : ∀ l ∈ L, Way n l) (p : Nat) : wf L p < 1000000 := by
  unfold wf
  cases h : L[p]? with
  | none => show 0 < 1000000; omega
  | some l => exact (bf_lt hn h6 (hway l (List.mem_of_getElem? h))).2
/-- one more length -/
def put1 (lf : Nat → Nat) (k v p : Nat) : Nat := if p = k then v else lf p
theorem sx_meas {c : Nat → Int32} (ho : WOK c) {Λ : Nat → Prop} (hC : ∀ x, Cy (Eg c (WL c (N c 0))) x → Λ x) : ∀ (m k f : Nat) (lf : Nat → Nat) (s : mx_G), k + m = (WL c (N c 0)).length → WR c (WL c (N c 0)) s → LE s 26 (Eg c (WL c (N c 0))) → Hs s 27 Λ → LSp (Eg c (WL c (N c 0))) lf k → (∀ p, lf p ≤ 1000) → s.1 25 0 = nI (rfS lf k) → s.1 25 1 = nI (rfM lf k) → s.1 25 2 = vN (rfL lf (wf (WL c (N c 0))) k) → ∃ s' lf', lX5_measure_2 (m + 1 + f) (nI k) s = some ((), s') ∧ LSp (Eg c (WL c (N c 0))) lf' (WL c (N c 0)).length ∧ (∀ p, lf' p ≤ 1000) ∧ s'.1 25 0 = nI (rfS lf' (WL c (N c 0)).length) ∧ s'.1 25 1 = nI (rfM lf' (WL c (N c 0)).length) ∧ s'.1 25 2 = vN (rfL lf' (wf (WL c (N c 0))) (WL c (N c 0)).length) ∧ s'.1 25 3 = s.1 25 3 ∧ ∀ p, p ≠ 25 → s'.1 p = s.1 p := by
  have hn2 := ho.1
  have hn : 0 < N c 0 := by omega
  have h6 := ho.1.2
  obtain ⟨hL, -, hway, -⟩ := WL_ok ho
  have hwf := wf_bd hn h6 hway
  have hEb : ∀ a b, Eg c (WL c (N c 0)) a b → a < 326 ∧ b < 326 := by
    rintro a b ⟨lp, lr, y1, y2, -⟩
    have := get_lt y1
    have := get_lt y2
    omega
  generalize hLL : WL c (N c 0) = L at *
  generalize hEE : Eg c L = E at *
  intro m
  induction m with
  | zero =>
    intro k f lf s h hw hE hΛ hls hlb s0 s1 s2
    have : k = L.length := by omega
    subst this
    refine ⟨s, lf, ?_, hls, hlb, s0, s1, s2, rfl, fun _ _ => rfl⟩
    rw [show 0 + 1 + f = f + 1 by omega, lX5_measure_2]
    unfold fX8_countAll
    rw [hw.1, bd_some, if_pos (nI_le (by omega) (by omega))]
  | succ m ih =>
    intro k f lf s h hw hE hΛ hls hlb s0 s1 s2
    have e1 : nI k + 1 = nI (k + 1) := by rw [li_1, adI]
    have eCA : fX8_countAll s = some (nI L.length, s) := by unfold fX8_countAll; rw [hw.1]
    have hl : L[k]? = some (L[k]'(by omega)) := List.getElem?_eq_getElem (by omega)
    generalize L[k]'(by omega) = lk at hl
    have hwk : wf L k = wnum lk := by unfold wf; rw [hl]
    have hbd := rf_bd hlb k
    have hh := sx_has hΛ (w := k) (by omega)
    /- what is known of k, and the state in which it is noted -/
    have fin : ∀ (v : Nat) (t : mx_G), v ≤ 1000 → (v = 0 → ∀ j, 1 ≤ j → ¬ wlk E j k k) → (0 < v → wlk E v k k ∧ ∀ j, 1 ≤ j → j < v → ¬ wlk E j k k) → t.1 = s.1 → t.2 26 = s.2 26 → t.2 27 = s.2 27 → ∃ s' lf', (if nI v ≤ 0 then
          lX5_measure_2 (m + 1 + f) (nI (k + 1)) t
        else
          if (gi t 25 1 ((t.1 25 1) + 1)).1 25 0 = 0 then
            if (gi (gi t 25 1 ((t.1 25 1) + 1)) 25 0 (nI v)).1 25 2 = (-4) then
              mv_bind (fX8_numberOf (nI k) (gi (gi t 25 1 ((t.1 25 1) + 1)) 25 0 (nI v))) fun x10 s11 =>
              lX5_measure_2 (m + 1 + f) (nI (k + 1)) (gi s11 25 2 x10)
            else
              mv_bind (fX8_numberOf (nI k) (gi (gi t 25 1 ((t.1 25 1) + 1)) 25 0 (nI v))) fun x7 s8 =>
              lX5_measure_2 (m + 1 + f) (nI (k + 1)) (gi s8 25 2 (mv_min ((gi (gi t 25 1 ((t.1 25 1) + 1)) 25 0 (nI v)).1 25 2) x7))
          else
            if (gi (gi t 25 1 ((t.1 25 1) + 1)) 25 0 (mv_min ((gi t 25 1 ((t.1 25 1) + 1)).1 25 0) (nI v))).1 25 2 = (-4) then
              mv_bind (fX8_numberOf (nI k) (gi (gi t 25 1 ((t.1 25 1) + 1)) 25 0 (mv_min ((gi t 25 1 ((t.1 25 1) + 1)).1 25 0) (nI v)))) fun x10 s11 =>
              lX5_measure_2 (m + 1 + f) (nI (k + 1)) (gi s11 25 2 x10)
            else
              mv_bind (fX8_numberOf (nI k) (gi (gi t 25 1 ((t.1 25 1) + 1)) 25 0 (mv_min ((gi t 25 1 ((t.1 25 1) + 1)).1 25 0) (nI v)))) fun x7 s8 =>
              lX5_measure_2 (m + 1 + f) (nI (k + 1)) (gi s8 25 2 (mv_min ((gi (gi t 25 1 ((t.1 25 1) + 1)) 25 0 (mv_min ((gi t 25 1 ((t.1 25 1) + 1)).1 25 0) (nI v))).1 25 2) x7))) = some ((), s') ∧ LSp E lf' L.length ∧ (∀ p, lf' p ≤ 1000) ∧ s'.1 25 0 = nI (rfS lf' L.length) ∧ s'.1 25 1 = nI (rfM lf' L.length) ∧ s'.1 25 2 = vN (rfL lf' (wf L) L.length) ∧ s'.1 25 3 = s.1 25 3 ∧ ∀ p, p ≠ 25 → s'.1 p = s.1 p := by
      intro v t hv v0 v1 t1 t26 t27
      have hpf : ∀ p, p < k → lf p = put1 lf k v p := fun p hp => by unfold put1; rw [if_neg (by omega)]
      have hpk : put1 lf k v k = v := by unfold put1; rw [if_pos rfl]
      obtain ⟨c1, c2, c3⟩ := rf_congr (w := wf L) k hpf
      have hls' : LSp E (put1 lf k v) (k + 1) := by
        intro p hp
        by_cases y : p = k
        · subst y
          rw [hpk]
          exact ⟨v0, v1⟩
        · rw [← hpf p (by omega)]
          exact hls p (by omega)
      have hlb' : ∀ p, put1 lf k v p ≤ 1000 := fun p => by
        unfold put1
        split
        · exact hv
        · exact hlb p
      have next : ∀ t' : mx_G, (∀ p, p ≠ 25 → t'.1 p = s.1 p) → t'.1 25 3 = s.1 25 3 → t'.2 26 = s.2 26 → t'.2 27 = s.2 27 → t'.1 25 0 = nI (rfS (put1 lf k v) (k + 1)) → t'.1 25 1 = nI (rfM (put1 lf k v) (k + 1)) → t'.1 25 2 = vN (rfL (put1 lf k v) (wf L) (k + 1)) → ∃ s' lf', lX5_measure_2 (m + 1 + f) (nI (k + 1)) t' = some ((), s') ∧ LSp E lf' L.length ∧ (∀ p, lf' p ≤ 1000) ∧ s'.1 25 0 = nI (rfS lf' L.length) ∧ s'.1 25 1 = nI (rfM lf' L.length) ∧ s'.1 25 2 = vN (rfL lf' (wf L) L.length) ∧ s'.1 25 3 = s.1 25 3 ∧ ∀ p, p ≠ 25 → s'.1 p = s.1 p := by
        intro t' u1 u2 u3 u4 u5 u6 u7
        obtain ⟨s', lf', d1, d2, d3, d4, d5, d6, d7, d8⟩ := ih (k + 1) f (put1 lf k v) t' (by omega) (by
          unfold WR RD at hw ⊢
          rw [u1 15 (by decide), u1 17 (by decide), u1 18 (by decide), u1 19 (by decide), u1 20 (by decide), u1 21 (by decide), u1 23 (by decide), u1 24 (by decide)]
          exact hw) (hE.of u3) (hΛ.of u4) hls' hlb' u5 u6 u7
        exact ⟨s', lf', d1, d2, d3, d4, d5, d6, d7.trans u2, fun p hp => (d8 p hp).trans (u1 p hp)⟩
      by_cases zv : v = 0
      · rw [if_pos (by rw [zv]; decide)]
        refine next t (fun p _ => by rw [t1]) (by rw [t1]) t26 t27 ?_ ?_ ?_
        · rw [t1, s0, rfS, hpk, if_pos zv, c2]
        · rw [t1, s1, rfM, hpk, if_pos zv, c1]
        · rw [t1, s2, rfL, hpk, if_pos zv, c3]
      · rw [if_neg (by rw [li_0, leI (by omega) (by omega)]; omega)]
        have eS : rfS (put1 lf k v) (k + 1) = if rfS lf k = 0 then v else if v < rfS lf k then v else rfS lf k := by rw [rfS, hpk, if_neg zv, ← c2]
        have eM : rfM (put1 lf k v) (k + 1) = rfM lf k + 1 := by rw [rfM, hpk, if_neg zv, ← c1]
        have eN : ∀ (x y : Int32), fX8_numberOf (nI k) (gi (gi t 25 1 x) 25 0 y) = some (nI (wf L k), gi (gi t 25 1 x) 25 0 y) := by
          intro x y
          rw [hwk]
          refine sx_numberOf ho hn h6 (L := L) ?_ hL hway hl
          unfold WR RD at hw ⊢
          simp only [rd_gi, Nat.reduceEqDiff, if_false, t1]
          exact hw
        have r1 : t.1 25 1 + 1 = nI (rfM lf k + 1) := by rw [t1, s1, li_1, adI]
        have r0 : (gi t 25 1 (nI (rfM lf k + 1))).1 25 0 = nI (rfS lf k) := by rw [rd_gi, if_pos rfl, upd_rd, if_neg (by omega), t1, s0]
        rw [r1, r0]
        /- the shortest one -/
        have short : ∀ X : Int32, X = nI (rfS (put1 lf k v) (k + 1)) → ∃ s' lf', (if (gi (gi t 25 1 (nI (rfM lf k + 1))) 25 0 X).1 25 2 = (-4) then
              mv_bind (fX8_numberOf (nI k) (gi (gi t 25 1 (nI (rfM lf k + 1))) 25 0 X)) fun x10 s11 =>
              lX5_measure_2 (m + 1 + f) (nI (k + 1)) (gi s11 25 2 x10)
            else
              mv_bind (fX8_numberOf (nI k) (gi (gi t 25 1 (nI (rfM lf k + 1))) 25 0 X)) fun x7 s8 =>
              lX5_measure_2 (m + 1 + f) (nI (k + 1)) (gi s8 25 2 (mv_min ((gi (gi t 25 1 (nI (rfM lf k + 1))) 25 0 X).1 25 2) x7))) = some ((), s') ∧ LSp E lf' L.length ∧ (∀ p, lf' p ≤ 1000) ∧ s'.1 25 0 = nI (rfS lf' L.length) ∧ s'.1 25 1 = nI (rfM lf' L.length) ∧ s'.1 25 2 = vN (rfL lf' (wf L) L.length) ∧ s'.1 25 3 = s.1 25 3 ∧ ∀ p, p ≠ 25 → s'.1 p = s.1 p := by
          intro X hX
          have r2 : (gi (gi t 25 1 (nI (rfM lf k + 1))) 25 0 X).1 25 2 = vN (rfL lf (wf L) k) := by
            rw [rd_gi, if_pos rfl, upd_rd, if_neg (by omega), rd_gi, if_pos rfl, upd_rd, if_neg (by omega), t1, s2]
          have lay : ∀ Y : Int32, Y = vN (rfL (put1 lf k v) (wf L) (k + 1)) → ∃ s' lf', lX5_measure_2 (m + 1 + f) (nI (k + 1)) (gi (gi (gi t 25 1 (nI (rfM lf k + 1))) 25 0 X) 25 2 Y) = some ((), s') ∧ LSp E lf' L.length ∧ (∀ p, lf' p ≤ 1000) ∧ s'.1 25 0 = nI (rfS lf' L.length) ∧ s'.1 25 1 = nI (rfM lf' L.length) ∧ s'.1 25 2 = vN (rfL lf' (wf L) L.length) ∧ s'.1 25 3 = s.1 25 3 ∧ ∀ p, p ≠ 25 → s'.1 p = s.1 p := by
            intro Y hY
            refine next _ (fun p hp => ?_) ?_ t26 t27 ?_ ?_ ?_
            · simp only [rd_gi, hp, if_false, t1]
            · simp only [rd_gi, if_true, upd_rd, t1, Nat.reduceEqDiff, if_false]
            · simp only [rd_gi, if_true, upd_rd, Nat.reduceEqDiff, if_false]; exact hX
            · simp only [rd_gi, if_true, upd_rd, Nat.reduceEqDiff, if_false]; rw [eM]
            · simp only [rd_gi, if_true, upd_rd]; exact hY
          rw [r2, eN, bd_some, bd_some]
          cases hb : rfL lf (wf L) k with
          | none =>
            rw [if_pos (show vN none = -4 from rfl)]
            refine lay _ ?_
            rw [rfL, hpk, if_neg zv, ← c3, hb]
            rfl
          | some y =>
            have hy := rfL_bd hwf k y hb
            have hwk2 := hwf k
            rw [if_neg (show ¬ vN (some y) = -4 from nI_ne4 (by omega)), show vN (some y) = nI y from rfl, min_lt (by omega) (by omega)]
            refine lay _ ?_
            rw [rfL, hpk, if_neg zv, ← c3, hb]
            rfl
        by_cases zs : rfS lf k = 0
        · rw [if_pos (by rw [zs]; rfl)]
          exact short (nI v) (by rw [eS, if_pos zs])
        · rw [if_neg (by rw [li_0, eqI (by omega) (by omega)]; exact zs)]
          exact short _ (by rw [min_lt (by omega) (by omega), eS, if_neg zs])
    rw [show m + 1 + 1 + f = (m + 1 + f) + 1 by omega, lX5_measure_2, eCA, bd_some, if_neg (nI_ge (by omega) (by omega))]
    simp only [mv_let]
    rw [e1]
    by_cases z : Λ k
    · rw [hh.1 z, bd_some, if_neg one_ne]
      obtain ⟨t, v, b1, b2, b3, b4, b5, b6⟩ := sx_lengthThrough hEb (show k < 326 by omega) hE hΛ
      rw [b1, bd_some]
      refine fin v t (by omega) (fun q j j1 hj => b3 q j j1 (wlk_live hC j k hj ⟨0, rfl⟩)) (fun q => ⟨wlk_mono (fun a b h => h.1) _ _ _ (b4 q).1, fun j j1 j2 hj => (b4 q).2 j j1 j2 (wlk_live hC j k hj ⟨0, rfl⟩)⟩) b5 (b6 26 (by decide)) (b6 27 (by decide))
    · rw [hh.2 z, bd_some, if_pos rfl]
      exact fin 0 s (by omega) (fun _ j j1 hj => z (hC k ⟨j, j1, hj⟩)) (fun q => absurd q (by omega)) rfl rfl rfl
