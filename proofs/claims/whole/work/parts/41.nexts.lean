/-! PURE PART: what each would choose now, in both -/
theorem own_not {c : Nat → Int32} (ho : WOK c) {d : Nat} (hd : d < 6) {l : List Nat} (h : hd0 l = d) : ¬ tk c d l := by
  intro ht
  apply ht.1
  rw [h, ho.2.1 _ (by omega), (ho.2.2.2.2.1 d d hd hd).2.2.2.2.2.2 (Or.inl rfl)]
  rfl
theorem sm_would_l {s : mx_G} {c : Nat → Int32} (hw : RW (s.1 46) c) (ho : WOK c) {n d : Nat} (h0 : s.1 46 0 = nI n) (hn : 0 < n) (h6 : n ≤ 6) (hd0 : 0 < d) (hd : d < n) {w : Nat → Option (List Nat)} (hc : okC n w) (hm : ∀ e, e < 6 → s.1 56 e = val (w e)) : ∀ (m e f : Nat), e + m = n → lX11_wouldChoose_13 (nI d) (m + 1 + f) (val (bs c w d e)) (nI e) s = some (val (bs c w d n), s) := by
  intro m
  induction m with
  | zero =>
    intro e f h
    have hx : ix 0 128 = true := by rw [li_0]; exact ixT (by omega) (by omega)
    have hz : Int32.toNatClampNeg 0 = 0 := by decide
    rw [show 0 + 1 + f = f + 1 by omega, lX11_wouldChoose_13, if_pos hx, hz, h0, if_pos (nI_le (by omega) (by omega)), show e = n by omega]
  | succ m ih =>
    intro e f h
    have hi := ih (e + 1) f (by omega)
    have e1 : nI e + 1 = nI (e + 1) := by rw [li_1, adI]
    have c1 : ¬ nI n ≤ nI e := nI_ge (by omega) (by omega)
    have c2 : ¬ nI d ≤ 0 := by rw [li_0, leI (by omega) (by omega)]; omega
    have hx : ix 0 128 = true := by rw [li_0]; exact ixT (by omega) (by omega)
    have hz : Int32.toNatClampNeg 0 = 0 := by decide
    rw [show m + 1 + 1 + f = (m + 1 + f) + 1 by omega, lX11_wouldChoose_13, if_pos hx, hz, h0, if_neg c1, if_neg c2, e1]
    by_cases hde : e = d
    · rw [if_pos (by rw [hde])]
      have hsame : bs c w d (e + 1) = bs c w d e := by
        rw [bs]
        cases hwe : w e with
        | none => rfl
        | some l =>
          have := (hc.2 e (by omega) l hwe).2
          show (if tk c d l then _ else _) = _
          rw [if_neg (own_not ho (by omega) (by rw [this, hde]))]
      rw [hsame] at hi
      exact hi
    · rw [if_neg (by rw [eqI (by omega) (by omega)]; exact hde)]
      simp (disch := omega) only [ixT, clI, if_true, hm]
      cases hwe : w e with
      | none =>
        rw [bs, hwe] at hi
        rw [if_pos (show val none = -4 from rfl)]
        exact hi
      | some l =>
        obtain ⟨g1, g2⟩ := hc.2 e (by omega) l hwe
        rw [bs, hwe] at hi
        have hlen := g1.len hn
        have hwb := wnum_lt (g1.dg hn h6)
        have hp8 := pow8 (n := l.length) (by omega)
        rw [if_neg (show ¬ val (some l) = -4 from nI_ne4 (by omega)), show val (some l) = nI (wnum l) from rfl, sm_takes hw ho hn h6 (show d < 6 by omega) g1, bd_some]
        by_cases hk : tk c d l
        · have hway := tk_way ho hn h6 hd0 hd g1 hk
          simp only [if_pos hk] at hi ⊢
          rw [if_neg one_ne, hm e (by omega), hwe, show val (some l) = nI (wnum l) from rfl, sm_together (g1.dg hn h6) g1.ld (by omega), bd_some]
          cases hb : bs c w d e with
          | none =>
            rw [hb] at hi
            rw [if_pos (show val none = -4 from rfl)]
            exact hi
          | some b =>
            obtain ⟨lb, rfl, q1, q2⟩ := bs_ok ho hn h6 hd0 hd hc e (by omega) b hb
            have hwb' := tk_way ho hn h6 hd0 hd q1 q2
            have hlb := hwb'.len hn
            have hwlb := wnum_lt (hwb'.dg hn h6)
            have hp8b := pow8 (n := (d :: lb).length) (by omega)
            rw [hb] at hi
            rw [if_neg (show ¬ val (some (d :: lb)) = -4 from nI_ne4 (by omega)), show val (some (d :: lb)) = nI (wnum (d :: lb)) from rfl, sm_isBetter hw ho hn h6 (show d < 6 by omega) hway g1 hwb' q1, bd_some]
            have hi : lX11_wouldChoose_13 (nI d) (m + 1 + f) (val (if rkL c (d :: l) < rkL c (d :: lb) then some (d :: l) else some (d :: lb))) (nI (e + 1)) s = some (val (bs c w d n), s) := hi
            by_cases hr : rkL c (d :: l) < rkL c (d :: lb)
            · rw [if_pos hr] at hi ⊢
              rw [if_neg one_ne]
              exact hi
            · rw [if_neg hr] at hi ⊢
              rw [if_pos rfl]
              exact hi
        · simp only [if_neg hk] at hi ⊢
          rw [if_pos trivial]
          exact hi
/-- what d would choose -/
def nx (c : Nat → Int32) (w : Nat → Option (List Nat)) (n d : Nat) : Option (List Nat) := if d = 0 then some [0] else bs c w d n
theorem sx_bestN {s : mx_G} (ho : WOK (s.1 2)) {n d : Nat} (h0 : s.1 2 0 = nI n) (hn : 0 < n) (h6 : n ≤ 6) (hd : d < n) {w : Nat → Option (List Nat)} (hw : okC n w) (hl : LD s w) : fX0_best (nI d) s = some (val (nx (s.1 2) w n d), s) := by
  by_cases h : d = 0
  · subst h
    unfold fX0_best nx
    rw [if_pos (show nI 0 = 0 from rfl), if_pos rfl]
    rfl
  · rw [sx_best ho h0 hn h6 (by omega) hd hw hl, nx, if_neg h]
theorem sm_would {s : mx_G} {c : Nat → Int32} (hw : RW (s.1 46) c) (ho : WOK c) {n d : Nat} (h0 : s.1 46 0 = nI n) (hn : 0 < n) (h6 : n ≤ 6) (hd : d < n) {w : Nat → Option (List Nat)} (hc : okC n w) (hm : ∀ e, e < 6 → s.1 56 e = val (w e)) : fX11_wouldChoose (nI d) s = some (val (nx c w n d), s) := by
  obtain ⟨f, hf⟩ := FU_lt (n := n) (by omega)
  unfold fX11_wouldChoose nx
  simp only [mv_let]
  by_cases h : d = 0
  · subst h
    rw [if_pos (show nI 0 = 0 from rfl), if_pos rfl, hf, show n + 1 + f = (n + f) + 1 by omega, lX11_wouldChoose_13, if_pos (by rw [li_0]; exact ixT (by omega) (by omega)), show Int32.toNatClampNeg 0 = 0 by decide, h0, if_neg (by rw [li_0, leI (by omega) (by omega)]; omega), if_pos (by decide)]
    rfl
  · rw [if_neg (show ¬ nI d = 0 by rw [li_0, eqI (by omega) (by omega)]; exact h), if_neg h, hf]
    exact sm_would_l hw ho h0 hn h6 (by omega) hd hc hm n 0 f (by omega)
/-- what is chosen, as ways -/
theorem chosen_ways {c : Nat → Int32} (ho : WOK c) : ∃ w : Nat → Option (List Nat), okC (N c 0) w ∧ ∀ d, d < 6 → c (121 + d) = val (w d) := by
  have hn := ho.1
  have h : ∀ d : Nat, ∃ o : Option (List Nat), d < 6 → (c (121 + d) = val o ∧ (d = 0 → o = some [0]) ∧ ∀ l, o = some l → Way (N c 0) l ∧ hd0 l = d) := by
    intro d
    by_cases hd : d < 6
    · by_cases h0 : d = 0
      · subst h0
        refine ⟨some [0], fun _ => ⟨ho.2.2.2.2.2.1, fun _ => rfl, fun l z => ?_⟩⟩
        injection z with z
        subst z
        exact ⟨rfl, rfl⟩
      · have q := ho.2.2.2.2.2.2 d (by omega) hd
        by_cases hdn : N c 0 ≤ d
        · exact ⟨none, fun _ => ⟨q.1 hdn, fun z => absurd z h0, fun l z => by cases z⟩⟩
        · rcases q.2 (by omega) with z | ⟨r, g1, g2⟩
          · exact ⟨none, fun _ => ⟨z, fun z => absurd z h0, fun l z => by cases z⟩⟩
          · refine ⟨some (d :: r), fun _ => ⟨g2, fun z => absurd z h0, fun l z => ?_⟩⟩
            injection z with z
            subst z
            exact ⟨g1, rfl⟩
    · exact ⟨none, fun z => absurd z hd⟩
  obtain ⟨w, hw⟩ := Classical.axiomOfChoice h
  exact ⟨w, ⟨(hw 0 (by omega)).2.1 rfl, fun d hd => (hw d hd).2.2⟩, fun d hd => (hw d hd).1⟩
theorem nx_ok {c : Nat → Int32} (ho : WOK c) {n : Nat} (hn : 0 < n) (h6 : n ≤ 6) {w : Nat → Option (List Nat)} (hc : okC n w) : okC n (fun d => if d < n then nx c w n d else none) := by
  refine ⟨?_, fun d hd l hl => ?_⟩
  · show (if 0 < n then nx c w n 0 else none) = _
    rw [if_pos hn]; rfl
  · have hl : (if d < n then nx c w n d else none) = some l := hl
    by_cases h : d < n
    · rw [if_pos h] at hl
      unfold nx at hl
      by_cases h0 : d = 0
      · rw [if_pos h0] at hl
        injection hl with hl
        subst hl
        exact ⟨rfl, h0.symm⟩
      · rw [if_neg h0] at hl
        obtain ⟨r, rfl, q1, q2⟩ := bs_ok ho hn h6 (by omega) h hc n h6 l hl
        exact ⟨tk_way ho hn h6 (by omega) h q1 q2, rfl⟩
    · rw [if_neg h] at hl
      cases hl
