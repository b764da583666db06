/-! PURE PART: way, both -/
theorem rd_zero {c : Nat → Int32} {n : Nat} {L : List (List Nat)} (hway : ∀ l ∈ L, Way n l) (hnd : L.Nodup) {ρ : Nat → Nat} {s : mx_G} (hr : RD c L 0 ρ s) : cn 0 L ≤ 1 := by
  rcases Nat.lt_or_ge 1 (cn 0 L) with z | z
  · exfalso
    obtain ⟨-, l0, a1, a2⟩ := hr.2.1 0 (by omega)
    obtain ⟨-, l1, b1, b2⟩ := hr.2.1 1 z
    have hz : ∀ l ∈ L, hd0 l = 0 → l = [0] := fun l hl e => by
      have hw := hway l hl
      cases l with
      | nil => exact hw.elim
      | cons d r =>
        cases r with
        | nil =>
          have e : d = 0 := e
          rw [e]
        | cons x r =>
          have e : d = 0 := e
          exact absurd hw.1 (by omega)
    have e0 := hz l0 (List.mem_of_getElem? a1) a2
    have e1 := hz l1 (List.mem_of_getElem? b1) b2
    have := hr.2.2.1 0 1 l0 l1 (by omega) z a1 b1
    rw [e0, e1] at this
    omega
  · exact z
theorem pc_zero (c : Nat → Int32) (L : List (List Nat)) (i j : Nat) : pc c L 0 i j = 0 := by
  induction j with
  | zero => rfl
  | succ j ih =>
    rw [pc_succ, ih, if_neg]
    unfold pb
    split <;> simp
theorem sm_way20 {c : Nat → Int32} (ho : WOK c) {n : Nat} (hn : 0 < n) (h6 : n ≤ 6) {L : List (List Nat)} (hL : L.length ≤ 326) (hway : ∀ l ∈ L, Way n l) (hnd : L.Nodup) {t : mx_G} (hw : RW (t.1 46) c) (hm : MR L t) {d : Nat} (hd : d < n) {ρ : Nat → Nat} {s : mx_G} (hr : RD c L d ρ s) (k : Nat) (hk : k < 2147483648) : ∀ (m i f : Nat), i + m = L.length → (k < cn d L → i ≤ ρ k) → lX11_way_20 (nI d) (nI k) (m + 1 + f) (nI i) t = some (if k < cn d L then nI (wf L (ρ k)) else -4, t) := by
  intro m
  induction m with
  | zero =>
    intro i f h hle
    rw [show 0 + 1 + f = f + 1 by omega, lX11_way_20, hm.1, if_pos (nI_le (by omega) (by omega)), if_neg]
    intro z
    obtain ⟨-, l, a1, -⟩ := hr.2.1 k z
    have := get_lt a1
    have := hle z
    omega
  | succ m ih =>
    intro i f h hle
    have e1 : nI i + 1 = nI (i + 1) := by rw [li_1, adI]
    have hl : L[i]? = some (L[i]'(by omega)) := List.getElem?_eq_getElem (by omega)
    generalize L[i]'(by omega) = li at hl
    have hhi := hd0_lt hn (hway li (List.mem_of_getElem? hl))
    obtain ⟨g, hg⟩ := FU_lt (n := L.length) (by omega)
    obtain ⟨y, ey, hy⟩ := sm_way34 ho hn h6 hL hway hw hm hd hl (nI k) (fun y12 s11 =>
          if ix (nI i) 326 = true then
            if s11.1 55 (Int32.toNatClampNeg (nI i)) = nI d then
              if y12 = nI k then
                if ix (nI i) 326 = true then
                  some (s11.1 54 (Int32.toNatClampNeg (nI i)), s11)
                else none
              else
                lX11_way_20 (nI d) (nI k) (m + 1 + f) (nI i + 1) s11
            else
              lX11_way_20 (nI d) (nI k) (m + 1 + f) (nI i + 1) s11
          else none) L.length 0 g 0 (by omega) (fun _ => rfl)
    rw [← hg] at ey
    rw [show m + 1 + 1 + f = (m + 1 + f) + 1 by omega, lX11_way_20, hm.1, if_neg (nI_ge (by omega) (by omega))]
    refine Eq.trans ey ?_
    rw [ixT (by omega) (by omega), if_pos rfl, clI (by omega), (hm.2 i li hl).2, (hm.2 i li hl).1, e1]
    have next : (k < cn d L → ρ k ≠ i) → lX11_way_20 (nI d) (nI k) (m + 1 + f) (nI (i + 1)) t = some (if k < cn d L then nI (wf L (ρ k)) else -4, t) := fun hne => ih (i + 1) f (by omega) (fun z => by have := hle z; have := hne z; omega)
    by_cases zd : hd0 li = d
    · have hy := hy zd
      obtain ⟨u, hu, eu⟩ := hr.2.2.2 i li hl zd
      have hcount : pc c L d i L.length = u := by
        by_cases z0 : d = 0
        · subst z0
          have := rd_zero hway hnd hr
          rw [pc_zero]
          omega
        · rw [← eu]; exact pc_rank hr (by omega) hu
      have hu2 := pc_le c L d i L.length
      rw [if_pos (by rw [zd]), hy, hcount]
      by_cases zk : u = k
      · rw [if_pos (by rw [zk]), if_pos rfl]
        subst zk
        rw [if_pos hu, eu]
        unfold wf
        rw [hl]
      · rw [if_neg (by rw [eqI (by omega) hk]; exact zk)]
        refine next (fun z e => zk ?_)
        rw [← eu] at e
        exact ((hr.inj hr (fun _ => rfl) z hu e).2).symm
    · rw [if_neg (by rw [eqI (by omega) (by omega)]; exact zd)]
      refine next (fun z e => zd ?_)
      obtain ⟨-, l, a1, a2⟩ := hr.2.1 k z
      rw [e, hl] at a1
      injection a1 with a1
      rw [a1]; exact a2
theorem ok_way : pv_way (Inv IC) := by
  intro k σ p1 p2 hk h
  obtain ⟨n2, n6, nx0, nm⟩ := h.n
  have hn : 0 < N (σ.1 2) 0 := by omega
  have hW := WL_ok h.1.2
  have hG := WL_gd h.1.2 hn n6
  unfold fX10_way fX11_way
  rcases dom_cases _ n2 n6 p1 with ⟨d, hd, rfl, x1, m1⟩ | ⟨x1, m1⟩
  · by_cases hp : 0 ≤ p2
    · obtain ⟨t, ht, rfl⟩ : ∃ t : Nat, t < 2147483648 ∧ p2 = nI t := by
        rcases nI_ex p2 with z | z
        · exact absurd z (Int32.not_lt.mpr hp)
        · exact z
      have d6 : d < 6 := by omega
      obtain ⟨s1, b1, b2, b3, -, -, b6⟩ := sx_ways hk h
      have t46 : s1.1 46 = σ.1 46 := (b6 46 (by decide)).1
      obtain ⟨t1, c1, c2, c5, c3, c4⟩ := sm_laysWays (t := s1) h.1.2 hn n6 (by rw [t46]; exact h.1.1) (by rw [t46]; exact nm)
      have u46 : t1.1 46 = σ.1 46 := by rw [(c4 46 (by decide)).1]; exact t46
      obtain ⟨ρ, hρ⟩ := b2.1.2.2.2 d d6
      obtain ⟨f, hf⟩ := FU_lt (n := (WL (σ.1 2) (N (σ.1 2) 0)).length) (by have := hW.1; omega)
      have er := sm_way20 h.1.2 hn n6 hW.1 hG.2.2.1 hG.1 (t := t1) (by rw [u46]; exact h.1.1) c2 hd hρ t ht _ 0 f (Nat.zero_add _) (fun _ => by omega)
      rw [← hf] at er
      refine ⟨if t < cn d (WL (σ.1 2) (N (σ.1 2) 0)) then nI (wf (WL (σ.1 2) (N (σ.1 2) 0)) (ρ t)) else -4, s1, t1, ?_, ?_, b3.sck IC_k (MR_sc c5 c3 c4)⟩
      · have h65 := hW.2.1 d d6
        rw [x1 σ nx0, bd_some, if_neg one_ne, if_pos hp, b1, bd_some]
        unfold fX8_numberAt
        rw [ixT d6 (by omega), if_pos rfl, clI (by omega), hρ.1]
        by_cases z : t < cn d (WL (σ.1 2) (N (σ.1 2) 0))
        · obtain ⟨a1, l, a2, a3⟩ := hρ.2.1 t z
          have ew : wf (WL (σ.1 2) (N (σ.1 2) 0)) (ρ t) = wnum l := by unfold wf; rw [a2]
          rw [if_neg (nI_ge z (by omega)), if_pos z, ew]
          unfold fX8_rankedAt
          rw [li_65, muI, adI, ixT (by omega) (by omega), if_pos rfl, clI (by omega), a1, bd_some, sx_numberOf h.1.2 hn n6 b2.1 hW.1 hG.2.2.1 a2, bd_some, bd_some]
        · rw [if_pos (nI_le (by omega) ht), if_neg z, bd_some]
      · show mv_bind (fX11_isDomain (nI d) s1) _ = _
        rw [m1 s1 (by rw [t46]; exact nm), bd_some, if_neg one_ne, if_pos hp, c1, bd_some]
        exact er
    · refine pv_same IC_ok h (-1) ?_ ?_
      · rw [x1 σ nx0, bd_some, if_neg one_ne, if_neg hp]
      · show mv_bind (fX11_isDomain (nI d) σ) _ = _
        rw [m1 σ nm, bd_some, if_neg one_ne, if_neg hp]
  · refine pv_same IC_ok h (-1) ?_ ?_
    · rw [x1 σ nx0, bd_some, if_pos rfl]
    · show mv_bind (fX11_isDomain p1 σ) _ = _
      rw [m1 σ nm, bd_some, if_pos rfl]
