/-! PURE PART: ring -/
def vS (x : Nat) : Int32 := if x = 0 then -4 else nI x
theorem rf_pos {f : Nat → Nat} : ∀ k, (rfM f k = 0 ↔ rfS f k = 0) := by
  intro k
  induction k with
  | zero => exact Iff.rfl
  | succ k ih =>
    rw [rfM, rfS]
    by_cases z : f k = 0
    · rw [if_pos z, if_pos z]; exact ih
    · rw [if_neg z, if_neg z]
      constructor
      · intro q; omega
      · intro q
        split at q
        · exact absurd q z
        · split at q
          · exact absurd q z
          · omega
theorem sm_ring30 {E : Nat → Nat → Prop} {L : List (List Nat)} {n : Nat} (hn : 0 < n) (h6 : n ≤ 6) (hL : L.length ≤ 326) (hway : ∀ l ∈ L, Way n l) (hEb : ∀ a b, E a b → a < L.length ∧ b < L.length) (p1 : Int32) (K : Int32 → Int32 → Int32 → mx_G → Option (Int32 × mx_G)) : ∀ (m k f : Nat) (lf : Nat → Nat) (t : mx_G), k + m = L.length → MR L t → LE t 60 E → LSp E lf k → (∀ p, lf p ≤ 1000) → ∃ t' lf', lX11_ring_30 p1 K (m + 1 + f) (vS (rfS lf k)) (nI (rfM lf k)) (vN (rfL lf (wf L) k)) (nI k) t = K (vS (rfS lf' L.length)) (nI (rfM lf' L.length)) (vN (rfL lf' (wf L) L.length)) t' ∧ LSp E lf' L.length ∧ t'.1 = t.1 ∧ ∀ p, p ∉ [61, 62, 63] → t'.2 p = t.2 p := by
  have hwf := wf_bd hn h6 hway
  intro m
  induction m with
  | zero =>
    intro k f lf t h hm hE hls hlb
    have : k = L.length := by omega
    subst this
    refine ⟨t, lf, ?_, hls, rfl, fun _ _ => rfl⟩
    rw [show 0 + 1 + f = f + 1 by omega, lX11_ring_30, hm.1, if_pos (nI_le (by omega) (by omega))]
  | succ m ih =>
    intro k f lf t h hm hE hls hlb
    have e1 : nI k + 1 = nI (k + 1) := by rw [li_1, adI]
    have eM1 : nI (rfM lf k) + 1 = nI (rfM lf k + 1) := by rw [li_1, adI]
    have hl : L[k]? = some (L[k]'(by omega)) := List.getElem?_eq_getElem (by omega)
    generalize L[k]'(by omega) = lk at hl
    have hwk : wf L k = wnum lk := by unfold wf; rw [hl]
    have hbd := rf_bd hlb k
    obtain ⟨t1, v, b1, b2, b3, b4, b5, b6⟩ := sm_roundOf hL hEb (w := k) (by omega) hm.1 hE
    have h54 : t1.1 54 k = nI (wf L k) := by rw [b5, (hm.2 k lk hl).1, hwk]
    have hpf : ∀ p, p < k → lf p = put1 lf k v p := fun p hp => by unfold put1; rw [if_neg (by omega)]
    have hpk : put1 lf k v k = v := by unfold put1; rw [if_pos rfl]
    obtain ⟨c1, c2, c3⟩ := rf_congr (w := wf L) k hpf
    have hls' : LSp E (put1 lf k v) (k + 1) := by
      intro p hp
      by_cases y : p = k
      · subst y
        rw [hpk]
        exact ⟨b3, b4⟩
      · rw [← hpf p (by omega)]
        exact hls p (by omega)
    have hlb' : ∀ p, put1 lf k v p ≤ 1000 := fun p => by
      unfold put1
      split
      · exact b2
      · exact hlb p
    obtain ⟨t', lf', d1, d2, d3, d4⟩ := ih (k + 1) f (put1 lf k v) t1 (by omega) (by unfold MR at hm ⊢; rw [b5]; exact hm) (hE.of (b6 60 (by decide))) hls' hlb'
    refine ⟨t', lf', ?_, d2, d3.trans b5, fun p hp => (d4 p hp).trans (b6 p hp)⟩
    rw [show m + 1 + 1 + f = (m + 1 + f) + 1 by omega, lX11_ring_30, hm.1, if_neg (nI_ge (by omega) (by omega)), b1, bd_some, e1, eM1]
    rw [rfS, rfM, rfL, hpk, ← c1, ← c2, ← c3] at d1
    by_cases zv : v = 0
    · rw [if_pos zv, if_pos (by decide)]
      rw [if_pos zv, if_pos zv, if_pos zv] at d1
      exact d1
    · rw [if_neg zv, if_neg (by rw [li_0, leI (by omega) (by omega)]; omega)]
      rw [if_neg zv, if_neg zv, if_neg zv] at d1
      simp only [mv_let]
      rw [ixT (by omega) (by omega), if_pos rfl, if_pos rfl, clI (by omega), h54]
      have least : ∀ X : Int32, X = vS (if rfS lf k = 0 then v else if v < rfS lf k then v else rfS lf k) → (if vN (rfL lf (wf L) k) < 0 then lX11_ring_30 p1 K (m + 1 + f) X (nI (rfM lf k + 1)) (nI (wf L k)) (nI (k + 1)) t1 else if vN (rfL lf (wf L) k) ≤ nI (wf L k) then lX11_ring_30 p1 K (m + 1 + f) X (nI (rfM lf k + 1)) (vN (rfL lf (wf L) k)) (nI (k + 1)) t1 else lX11_ring_30 p1 K (m + 1 + f) X (nI (rfM lf k + 1)) (nI (wf L k)) (nI (k + 1)) t1) = K (vS (rfS lf' L.length)) (nI (rfM lf' L.length)) (vN (rfL lf' (wf L) L.length)) t' := by
        intro X hX
        rw [hX]
        cases hb : rfL lf (wf L) k with
        | none =>
          rw [hb] at d1
          rw [if_pos (show vN none < 0 by decide)]
          exact d1
        | some y =>
          rw [hb] at d1
          have hy := rfL_bd hwf k y hb
          have hw2 := hwf k
          have d1 : lX11_ring_30 p1 K (m + 1 + f) (vS (if rfS lf k = 0 then v else if v < rfS lf k then v else rfS lf k)) (nI (rfM lf k + 1)) (vN (some (if wf L k < y then wf L k else y))) (nI (k + 1)) t1 = _ := d1
          rw [if_neg (show ¬ vN (some y) < 0 by show ¬ nI y < 0; rw [li_0, ltI (by omega) (by omega)]; omega), show vN (some y) = nI y from rfl]
          by_cases q : y ≤ wf L k
          · rw [if_pos (nI_le q (by omega))]
            rw [if_neg (show ¬ wf L k < y by omega)] at d1
            exact d1
          · rw [if_neg (nI_ge (by omega) (by omega))]
            rw [if_pos (show wf L k < y by omega)] at d1
            exact d1
      by_cases zs : rfS lf k = 0
      · rw [if_pos (show vS (rfS lf k) < 0 by rw [zs]; decide)]
        exact least (nI v) (by rw [if_pos zs]; unfold vS; rw [if_neg zv])
      · have evs : vS (rfS lf k) = nI (rfS lf k) := by unfold vS; rw [if_neg zs]
        rw [evs, if_neg (by rw [li_0, ltI (by omega) (by omega)]; omega)]
        by_cases q : rfS lf k ≤ v
        · rw [if_pos (nI_le q (by omega))]
          exact least _ (by rw [if_neg zs, if_neg (by omega), evs])
        · rw [if_neg (nI_ge (by omega) (by omega))]
          exact least (nI v) (by rw [if_neg zs, if_pos (by omega)]; unfold vS; rw [if_neg zv])
theorem ok_ring : pv_ring (Inv IC) := by
  intro k σ p1 hk h
  obtain ⟨n2, n6, nx0, nm⟩ := h.n
  have hn : 0 < N (σ.1 2) 0 := by omega
  obtain ⟨hL, -, hway, -⟩ := WL_ok h.1.2
  rcases rng_cases 3 (by omega) 3 (by decide) 3 rfl p1 with ⟨t, ht, rfl, g1, g2, m2⟩ | ⟨g, m2⟩
  · obtain ⟨s1, s2, a1, a2, ⟨lf, r1, r2, r3, r4, r5⟩, a4, a5⟩ := sx_rings hk h
    have hEb : ∀ a b, Eg (σ.1 2) (WL (σ.1 2) (N (σ.1 2) 0)) a b → a < (WL (σ.1 2) (N (σ.1 2) 0)).length ∧ b < (WL (σ.1 2) (N (σ.1 2) 0)).length := by
      rintro a b ⟨lp, lr, y1, y2, -⟩
      exact ⟨get_lt y1, get_lt y2⟩
    obtain ⟨t1, b1, b2, b3, b4, b5, b6⟩ := sm_laysLeads h.1.2 hn n6 rfl (t := s2) (by rw [a5]; exact h.1.1) (by rw [a5]; exact nm)
    obtain ⟨f, hf⟩ := FU_lt (n := (WL (σ.1 2) (N (σ.1 2) 0)).length) (by omega)
    obtain ⟨K, hK⟩ : ∃ K : Int32 → Int32 → Int32 → mx_G → Option (Int32 × mx_G), K = (fun y8 y9 y10 s7 => if nI t = 0 then if y9 ≤ 0 then some (0, s7) else some (1, s7) else if nI t = 1 then some (y8, s7) else if nI t = 2 then some (y9, s7) else some (y10, s7)) := ⟨_, rfl⟩
    obtain ⟨t2, lf', c1, c2, c3, c4⟩ := sm_ring30 hn n6 hL hway hEb (nI t) K (WL (σ.1 2) (N (σ.1 2) 0)).length 0 f (fun _ => 0) t1 (Nat.zero_add _) b2 b3 (fun p hp => absurd hp (by omega)) (fun _ => by omega)
    rw [← hf] at c1
    obtain ⟨e1, e2, e3⟩ := rf_congr (w := wf (WL (σ.1 2) (N (σ.1 2) 0))) (WL (σ.1 2) (N (σ.1 2) 0)).length (fun p hp => r1.eq c2 hp)
    rw [← e1, ← e2, ← e3] at c1
    have hbd := rf_bd r2 (WL (σ.1 2) (N (σ.1 2) 0)).length
    have hpos := rf_pos (f := lf) (WL (σ.1 2) (N (σ.1 2) 0)).length
    generalize rfS lf (WL (σ.1 2) (N (σ.1 2) 0)).length = S at *
    generalize rfM lf (WL (σ.1 2) (N (σ.1 2) 0)).length = M at *
    generalize rfL lf (wf (WL (σ.1 2) (N (σ.1 2) 0))) (WL (σ.1 2) (N (σ.1 2) 0)).length = Le at *
    have eM : fX11_ring (nI t) s2 = K (vS S) (nI M) (vN Le) t2 := by
      unfold fX11_ring
      rw [m2 s2, bd_some, if_neg one_ne, b1, bd_some, ← hK]
      exact c1
    have sc : Sc s2 t2 := by
      refine ⟨fun p hp => ?_, fun j j1 _ _ => ?_, fun p hp => ?_⟩
      · rw [c3]
        exact b5 p (fun z => hp (by revert z; simp [scr]; omega))
      · rw [c3]; exact b4 j j1
      · rw [c4 p (fun z => hp (by revert z; simp [scr]; omega))]
        exact b6 p (fun z => hp (by rw [z]; decide))
    have hI := a4.sck IC_k sc
    have eX : fX10_ring (nI t) σ = if nI t = 0 then (if s2.1 25 0 ≤ 0 then some (0, s2) else some (1, s2)) else if nI t = 1 then (if s2.1 25 0 ≤ 0 then some (-4, s2) else some (s2.1 25 0, s2)) else if nI t = 2 then some (s2.1 25 1, s2) else some (s2.1 25 2, s2) := by
      unfold fX10_ring
      rw [if_neg g1, if_pos g2, a1, bd_some, a2, bd_some]
    rw [r3, r4, r5] at eX
    rw [hK] at eM
    have eM : fX11_ring (nI t) s2 = if nI t = 0 then if nI M ≤ 0 then some (0, t2) else some (1, t2) else if nI t = 1 then some (vS S, t2) else if nI t = 2 then some (nI M, t2) else some (vN Le, t2) := eM
    have cS : (nI S ≤ 0) = (S = 0) := by rw [li_0, leI (by omega) (by omega)]; exact propext ⟨fun z => by omega, fun z => by omega⟩
    have cM : (nI M ≤ 0) = (M = 0) := by rw [li_0, leI (by omega) (by omega)]; exact propext ⟨fun z => by omega, fun z => by omega⟩
    by_cases z0 : nI t = 0
    · rw [if_pos z0] at eX eM
      by_cases q : S = 0
      · rw [if_pos (by rw [cS]; exact q)] at eX
        rw [if_pos (by rw [cM]; exact hpos.mpr q)] at eM
        exact ⟨_, s2, t2, eX, eM, hI⟩
      · rw [if_neg (by rw [cS]; exact q)] at eX
        rw [if_neg (by rw [cM]; exact fun w => q (hpos.mp w))] at eM
        exact ⟨_, s2, t2, eX, eM, hI⟩
    · rw [if_neg z0] at eX eM
      by_cases z1 : nI t = 1
      · rw [if_pos z1] at eX eM
        unfold vS at eM
        by_cases q : S = 0
        · rw [if_pos (by rw [cS]; exact q)] at eX
          rw [if_pos q] at eM
          exact ⟨_, s2, t2, eX, eM, hI⟩
        · rw [if_neg (by rw [cS]; exact q)] at eX
          rw [if_neg q] at eM
          exact ⟨_, s2, t2, eX, eM, hI⟩
      · rw [if_neg z1] at eX eM
        by_cases z2 : nI t = 2
        · rw [if_pos z2] at eX eM
          exact ⟨_, s2, t2, eX, eM, hI⟩
        · rw [if_neg z2] at eX eM
          exact ⟨_, s2, t2, eX, eM, hI⟩
  · refine pv_same IC_ok h (-1) ?_ ?_
    · unfold fX10_ring
      rcases g with g | g
      · rw [if_pos g]
      · by_cases g0 : p1 < 0
        · rw [if_pos g0]
        · rw [if_neg g0, if_neg g]
    · show fX11_ring p1 σ = _
      unfold fX11_ring
      rw [m2 σ, bd_some, if_pos rfl]
