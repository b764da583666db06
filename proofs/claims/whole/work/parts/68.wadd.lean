/-! PURE PART: the class's ways: what its rows hold; one way more -/
def rk1 (c : Nat → Int32) (l : List Nat) : Nat := if l.length = 1 then 1000000 else rkL c l
def lkm : List Nat → Nat
  | d :: e :: r => lkm (e :: r) ||| 2 ^ pr2 d e
  | _ => 0
def RD (c : Nat → Int32) (L : List (List Nat)) (d : Nat) (ρ : Nat → Nat) (s : mx_G) : Prop :=
  s.1 23 d = nI (cn d L) ∧ (∀ k, k < cn d L → s.1 24 (d * 65 + k) = nI (ρ k) ∧ ∃ l, L[ρ k]? = some l ∧ hd0 l = d) ∧ (∀ k k' l l', k < k' → k' < cn d L → L[ρ k]? = some l → L[ρ k']? = some l' → rk1 c l < rk1 c l') ∧ ∀ i l, L[i]? = some l → hd0 l = d → ∃ k, k < cn d L ∧ ρ k = i
def WR (c : Nat → Int32) (L : List (List Nat)) (s : mx_G) : Prop :=
  s.1 15 2 = nI L.length ∧ (∀ i l, L[i]? = some l → s.1 17 i = nI (hd0 l) ∧ s.1 19 i = nI (rk1 c l) ∧ s.1 20 i = nI (ms l) ∧ s.1 21 i = nI (lkm l)) ∧ (∀ i d q, L[i]? = some (d :: q) → 0 < i → ∃ j, j < i ∧ L[j]? = some q ∧ s.1 18 i = nI j) ∧ ∀ d, d < 6 → ∃ ρ : Nat → Nat, RD c L d ρ s
theorem rk1_bd {c : Nat → Int32} (ho : WOK c) {n : Nat} (hn : 0 < n) (h6 : n ≤ 6) {l : List Nat} (h : Way n l) : rk1 c l < 400000000 ∧ rk1 c l % 1000000 = wnum l ∧ rk1 c l % 8000000 = l.length * 1000000 + wnum l := by
  unfold rk1
  cases l with
  | nil => exact h.elim
  | cons d r =>
    cases r with
    | nil =>
      have h : d = 0 := h
      subst h
      rw [if_pos (by simp)]
      have : wnum [0] = 0 := rfl
      rw [this]
      simp
    | cons e r =>
      rw [if_neg (by simp)]
      have hd : d < 6 := by have := h.2.1; omega
      have h' : Way n (e :: r) := h.2.2.2
      have b := ho.2.2.2.2.1 d (hd0 (e :: r)) hd (by have := hd0_lt hn h'; omega)
      have hlen := h.len hn
      have hb := wnum_lt (h.dg hn h6)
      have hp : 10 ^ (d :: e :: r).length ≤ 10 ^ 6 := Nat.pow_le_pow_right (by omega) (by omega)
      obtain ⟨q1, q2⟩ := rk_bd ho hn h6 hd h h'
      refine ⟨q1, q2, ?_⟩
      have hq : (if c (1 + d) &&& 1 = 0 then 0 else N c (13 + d * 6 + hd0 (e :: r))) ≤ 3 := by split <;> omega
      have b9 := b.2.2.1
      rw [rkL]
      generalize (if c (1 + d) &&& 1 = 0 then 0 else N c (13 + d * 6 + hd0 (e :: r))) = x at hq ⊢
      generalize N c (85 + d * 6 + hd0 (e :: r)) = y at b9 ⊢
      generalize wnum (d :: e :: r) = v at hb ⊢
      have hv : v < 1000000 := by omega
      rw [List.length_cons (a := d)]
      have hlen2 : (e :: r).length + 1 ≤ n := hlen
      generalize (e :: r).length = u at hlen2 ⊢
      omega
theorem cn_snoc (d : Nat) (L : List (List Nat)) (y : List Nat) : cn d (L ++ [y]) = if hd0 y = d then cn d L + 1 else cn d L := by
  unfold cn
  rw [List.filter_append, List.length_append]
  by_cases z : hd0 y = d
  · rw [if_pos z, List.filter_cons_of_pos (by simp [z])]; rfl
  · rw [if_neg z, List.filter_cons_of_neg (by simp [z])]; rfl
theorem rd_other {c : Nat → Int32} {L : List (List Nat)} {d d' : Nat} {ρ : Nat → Nat} {s s' : mx_G} {y : List Nat} (h : RD c L d' ρ s) (hy : hd0 y = d) (hne : d ≠ d') (h65 : cn d' L ≤ 65) (h23 : s'.1 23 d' = s.1 23 d') (h24 : ∀ t, t < d * 65 ∨ d * 65 + 65 ≤ t → s'.1 24 t = s.1 24 t) : RD c (L ++ [y]) d' ρ s' := by
  obtain ⟨h1, h2, h3, h4⟩ := h
  have hc : cn d' (L ++ [y]) = cn d' L := by rw [cn_snoc, if_neg (by omega)]
  unfold RD
  rw [hc]
  refine ⟨by rw [h23]; exact h1, fun k hk => ?_, fun k k' l l' a b e1 e2 => ?_, fun i l e1 e2 => ?_⟩
  · obtain ⟨a1, l, a2, a3⟩ := h2 k hk
    refine ⟨?_, l, by rw [List.getElem?_append_left (get_lt a2)]; exact a2, a3⟩
    rw [h24 _ (by omega)]; exact a1
  · obtain ⟨-, x, a2, -⟩ := h2 k (by omega)
    obtain ⟨-, x', b2, -⟩ := h2 k' b
    rw [List.getElem?_append_left (get_lt a2)] at e1
    rw [List.getElem?_append_left (get_lt b2)] at e2
    exact h3 k k' l l' a b e1 e2
  · rcases get_snoc e1 with e1 | ⟨-, rfl⟩
    · exact h4 i l e1 e2
    · omega
theorem rd_own {c : Nat → Int32} (ho : WOK c) {n : Nat} (hn : 0 < n) (h6 : n ≤ 6) {L : List (List Nat)} {d : Nat} {ρ : Nat → Nat} {s s' : mx_G} {y : List Nat} (h : RD c L d ρ s) (hy : hd0 y = d) (hnd : (L ++ [y]).Nodup) (hw : ∀ l ∈ L ++ [y], Way n l) {p : Nat} (hp : p ≤ cn d L) (h23 : s'.1 23 d = nI (cn d L + 1)) (h24 : ∀ k, k ≤ cn d L → s'.1 24 (d * 65 + k) = nI (if k < p then ρ k else if k = p then L.length else ρ (k - 1))) (hgt : ∀ k l, p ≤ k → k < cn d L → L[ρ k]? = some l → rk1 c y < rk1 c l) (hle : 0 < p → ∀ l, L[ρ (p - 1)]? = some l → rk1 c l ≤ rk1 c y) : RD c (L ++ [y]) d (fun k => if k < p then ρ k else if k = p then L.length else ρ (k - 1)) s' := by
  obtain ⟨h1, h2, h3, h4⟩ := h
  have hc : cn d (L ++ [y]) = cn d L + 1 := by rw [cn_snoc, if_pos hy]
  have hlast : (L ++ [y])[L.length]? = some y := by rw [List.getElem?_append_right (Nat.le_refl _), Nat.sub_self]; rfl
  have hold : ∀ k, k < cn d L → ∃ l, L[ρ k]? = some l ∧ (L ++ [y])[ρ k]? = some l ∧ hd0 l = d := fun k hk => by
    obtain ⟨-, l, a2, a3⟩ := h2 k hk
    exact ⟨l, a2, by rw [List.getElem?_append_left (get_lt a2)]; exact a2, a3⟩
  have hlt : ∀ k l, k < p → L[ρ k]? = some l → rk1 c l < rk1 c y := by
    intro k l hk hl
    have hpl := hle (by omega)
    obtain ⟨x, a1, a2, a3⟩ := hold (p - 1) (by omega)
    have q1 := hpl x a1
    by_cases z : k = p - 1
    · subst z
      rw [a1] at hl
      injection hl with hl
      subst hl
      have hne : rk1 c x ≠ rk1 c y := by
        intro he
        have w1 : Way n x := hw x (List.mem_append_left _ (List.mem_of_getElem? a1))
        have w2 : Way n y := hw y (by simp)
        have b1 := (rk1_bd ho hn h6 w1).2.1
        have b2 := (rk1_bd ho hn h6 w2).2.1
        rw [he, b2] at b1
        have := wnum_inj hn h6 w2 w1 b1
        rw [← this] at a1
        have := (List.nodup_append.mp hnd).2.2 y (List.mem_of_getElem? a1) y (by simp)
        exact this rfl
      omega
    · have := h3 k (p - 1) l x (by omega) (by omega) hl a1
      omega
  unfold RD
  rw [hc]
  refine ⟨h23, fun k hk => ⟨h24 k (by omega), ?_⟩, fun k k' l l' a b e1 e2 => ?_, fun i l e1 e2 => ?_⟩
  · show ∃ l, (L ++ [y])[if k < p then ρ k else if k = p then L.length else ρ (k - 1)]? = some l ∧ hd0 l = d
    by_cases z1 : k < p
    · rw [if_pos z1]
      obtain ⟨x, a1, a2, a3⟩ := hold k (by omega)
      exact ⟨x, a2, a3⟩
    · rw [if_neg z1]
      by_cases z2 : k = p
      · rw [if_pos z2]; exact ⟨y, hlast, hy⟩
      · rw [if_neg z2]
        obtain ⟨x, a1, a2, a3⟩ := hold (k - 1) (by omega)
        exact ⟨x, a2, a3⟩
  · have e1 : (L ++ [y])[if k < p then ρ k else if k = p then L.length else ρ (k - 1)]? = some l := e1
    have e2 : (L ++ [y])[if k' < p then ρ k' else if k' = p then L.length else ρ (k' - 1)]? = some l' := e2
    by_cases z1 : k < p
    · rw [if_pos z1] at e1
      obtain ⟨x, a1, a2, a3⟩ := hold k (by omega)
      rw [a2] at e1
      injection e1 with e1
      subst e1
      by_cases y1 : k' < p
      · rw [if_pos y1] at e2
        obtain ⟨x', b1, b2, b3⟩ := hold k' (by omega)
        rw [b2] at e2
        injection e2 with e2
        subst e2
        exact h3 k k' x x' a (by omega) a1 b1
      · rw [if_neg y1] at e2
        by_cases y2 : k' = p
        · rw [if_pos y2, hlast] at e2
          injection e2 with e2
          subst e2
          exact hlt k x z1 a1
        · rw [if_neg y2] at e2
          obtain ⟨x', b1, b2, b3⟩ := hold (k' - 1) (by omega)
          rw [b2] at e2
          injection e2 with e2
          subst e2
          exact h3 k (k' - 1) x x' (by omega) (by omega) a1 b1
    · rw [if_neg z1] at e1
      rw [if_neg (by omega), if_neg (by omega)] at e2
      obtain ⟨x', b1, b2, b3⟩ := hold (k' - 1) (by omega)
      rw [b2] at e2
      injection e2 with e2
      subst e2
      by_cases z2 : k = p
      · rw [if_pos z2, hlast] at e1
        injection e1 with e1
        subst e1
        exact hgt (k' - 1) x' (by omega) (by omega) b1
      · rw [if_neg z2] at e1
        obtain ⟨x, a1, a2, a3⟩ := hold (k - 1) (by omega)
        rw [a2] at e1
        injection e1 with e1
        subst e1
        exact h3 (k - 1) (k' - 1) x x' (by omega) (by omega) a1 b1
  · rcases get_snoc e1 with e1 | ⟨rfl, -⟩
    · obtain ⟨k, a1, a2⟩ := h4 i l e1 e2
      by_cases z : k < p
      · exact ⟨k, by omega, by show (if k < p then _ else _) = _; rw [if_pos z]; exact a2⟩
      · refine ⟨k + 1, by omega, ?_⟩
        show (if k + 1 < p then _ else if k + 1 = p then _ else _) = _
        rw [if_neg (by omega), if_neg (by omega)]
        exact a2
    · refine ⟨p, by omega, ?_⟩
      show (if p < p then _ else if p = p then _ else _) = _
      rw [if_neg (by omega), if_pos rfl]
