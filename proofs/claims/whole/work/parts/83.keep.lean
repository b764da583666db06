/-! PURE PART: the class keeps a stable choice -/
def RSp (n : Nat) (F : List Nat) (s : mx_G) : Prop := s.1 31 1 = nI F.length ∧ ∀ k i, F[k]? = some i → s.1 32 k = nI (fgn (xi n i) n)
theorem SIp_2117 (c : Nat → Int32) {n T : Nat} (h2 : 2 ≤ n) (h6 : n ≤ 6) (hT : T ≤ n ^ (n - 1)) : (SIp c n T).length ≤ 2117 := by
  have hl := SIp_len c n T
  rcases (show n = 2 ∨ n = 3 ∨ n = 4 ∨ n = 5 ∨ n = 6 by omega) with rfl | rfl | rfl | rfl | rfl
  · have : 2 ^ (2 - 1) = 2 := by decide
    omega
  · have : 3 ^ (3 - 1) = 9 := by decide
    omega
  · have : 4 ^ (4 - 1) = 64 := by decide
    omega
  · have : 5 ^ (5 - 1) = 625 := by decide
    omega
  · have h7 : 6 ^ (6 - 1) = 7776 := by decide
    have := nodup_len (SIp c 6 T) ((List.range 7776).filter (fun i => fl (xi 6 i) 6 6)) ((List.nodup_range).filter _) (fun i hi => by
      unfold SIp at hi
      rw [List.mem_filter, List.mem_range] at hi
      rw [List.mem_filter, List.mem_range]
      have hs := hi.2
      unfold stb at hs
      rw [Bool.and_eq_true] at hs
      exact ⟨by omega, hs.1⟩)
    exact Nat.le_trans this fl2117
theorem dc_all {c : Nat → Int32} {w : Nat → Option (List Nat)} {n : Nat} : ∀ d : Nat, (∀ e, e < d → val (nx c w n e) = val (w e)) → dc c w n d = 0 := by
  intro d
  induction d with
  | zero => intro _; rfl
  | succ d ih =>
    intro h
    rw [dc, if_pos (h d (by omega))]
    exact ih (fun e he => h e (by omega))
theorem sx_keep17 {c : Nat → Int32} (ho : WOK c) {n : Nat} (h2 : 2 ≤ n) (h6 : n ≤ 6) (hc0 : c 0 = nI n) {x : Nat → Nat} (hok : okC n (fw x n)) {s : mx_G} (hs : s.1 2 = c) (hl : LD s (fw x n)) (hx : ∀ a, 0 < a → a < n → s.1 33 a = nI (x a)) (K : Int32 → mx_G → Option (Unit × mx_G)) : ∀ (m d f : Nat), d + m = n → 0 < d → (lX4_keepIfStable_17 K (m + 1 + f) (nI (fgn x d)) (nI d) s = K (nI (fgn x n)) s ∧ ∀ e, d ≤ e → e < n → val (nx c (fw x n) n e) = val (fw x n e)) ∨ (lX4_keepIfStable_17 K (m + 1 + f) (nI (fgn x d)) (nI d) s = some ((), s) ∧ ∃ e, d ≤ e ∧ e < n ∧ ¬ val (nx c (fw x n) n e) = val (fw x n e)) := by
  have hn : 0 < n := by omega
  have hsz : fX9_size s = some (nI n, s) := by
    unfold fX9_size
    rw [li_0, ixT (by omega) (by omega), if_pos rfl, clI (by omega), hs, hc0]
  intro m
  induction m with
  | zero =>
    intro d f h hd
    left
    refine ⟨?_, fun e a b => absurd b (by omega)⟩
    rw [show 0 + 1 + f = f + 1 by omega, lX4_keepIfStable_17, hsz, bd_some, if_pos (nI_le (by omega) (by omega)), show d = n by omega]
  | succ m ih =>
    intro d f h hd
    have e1 : nI d + 1 = nI (d + 1) := by rw [li_1, adI]
    have e2 : fX0_wayOf (nI d) s = some (val (fw x n d), s) := by
      unfold fX0_wayOf
      rw [ixT (by omega) (by omega), if_pos rfl, clI (by omega), (hl d (by omega)).1]
    have e3 := sx_bestN (s := s) (d := d) (by rw [hs]; exact ho) (by rw [hs]; exact hc0) hn h6 (by omega) hok hl
    rw [hs] at e3
    rw [show m + 1 + 1 + f = (m + 1 + f) + 1 by omega, lX4_keepIfStable_17, hsz, bd_some, if_neg (nI_ge (by omega) (by omega)), e2, bd_some, e3, bd_some]
    by_cases z : val (nx c (fw x n) n d) = val (fw x n d)
    · have hf : fgn x (d + 1) = fgn x d * 10 + x d := by rw [fgn, if_neg (by omega)]
      rw [if_pos z.symm, ixT (by omega) (by omega), if_pos rfl, clI (by omega), hx d hd (by omega), mv_let, li_10, muI, adI, ← hf, e1]
      rcases ih (d + 1) f (by omega) (by omega) with ⟨p, q⟩ | ⟨p, e, q1, q2, q3⟩
      · refine Or.inl ⟨p, fun e a b => ?_⟩
        by_cases y : e = d
        · rw [y]; exact z
        · exact q e (by omega) b
      · exact Or.inr ⟨p, e, by omega, q2, q3⟩
    · rw [if_neg (fun q => z q.symm)]
      exact Or.inr ⟨rfl, d, Nat.le_refl _, by omega, z⟩
theorem sx_keepIf {c : Nat → Int32} (ho : WOK c) {n i : Nat} (h2 : 2 ≤ n) (h6 : n ≤ 6) (hc0 : c 0 = nI n) (hi : i < n ^ (n - 1)) {s : mx_G} (hs : s.1 2 = c) (hx : ∀ a, 0 < a → a < n → s.1 33 a = nI (xi n i a)) (hfl : fl (xi n i) n 6 = true) (hr : RSp n (SIp c n i) s) : ∃ s', fX4_keepIfStable s = some ((), s') ∧ RSp n (SIp c n (i + 1)) s' ∧ s'.1 31 0 = s.1 31 0 ∧ s'.1 2 = c ∧ s'.1 33 = s.1 33 := by
  have hn : 0 < n := by omega
  have hok := fw_ok (xi n i) hn (xi_ok h6 i)
  have hsz : fX9_size s = some (nI n, s) := by
    unfold fX9_size
    rw [li_0, ixT (by omega) (by omega), if_pos rfl, clI (by omega), hs, hc0]
  obtain ⟨s1, e1, hl, fr⟩ := sx_follow (xi n i) hn h6 (xi_ok h6 i) hx
  have w2 : s1.1 2 = c := by rw [(fr 2 (by decide)).1]; exact hs
  have w31 : s1.1 31 = s.1 31 := (fr 31 (by decide)).1
  have w32 : s1.1 32 = s.1 32 := (fr 32 (by decide)).1
  have w33 : s1.1 33 = s.1 33 := (fr 33 (by decide)).1
  obtain ⟨f, hf⟩ := FU_lt (n := n - 1) (by omega)
  obtain ⟨K, hK⟩ : ∃ K : Int32 → mx_G → Option (Unit × mx_G), K = (fun y12 s11 =>
      if 2117 ≤ s11.1 31 1 then
        some ((), s11)
      else
        if ix (s11.1 31 1) 2117 = true then
          mv_let (gi s11 32 (Int32.toNatClampNeg (s11.1 31 1)) y12) fun s13 =>
          mv_let (gi s13 31 1 ((s13.1 31 1) + 1)) fun s14 =>
          some ((), s14)
        else none) := ⟨_, rfl⟩
  have ek : fX4_keepIfStable s = lX4_keepIfStable_17 K FU (nI (fgn (xi n i) 1)) (nI 1) s1 := by
    rw [hK]
    unfold fX4_keepIfStable
    rw [hsz, bd_some, e1, bd_some]
    rfl
  have loop := sx_keep17 ho h2 h6 hc0 hok w2 hl (fun a p q => by rw [w33]; exact hx a p q) K (n - 1) 1 f (by omega) (by omega)
  rw [← hf] at loop
  have hsucc := SIp_succ c n i
  have sb : stb c n (xi n i) = (fl (xi n i) n 6 && decide (dc c (fw (xi n i) n) n n = 0)) := rfl
  rcases loop with ⟨p, q⟩ | ⟨p, e, q1, q2, q3⟩
  · have hst : stb c n (xi n i) = true := by
      rw [sb, hfl, dc_all n (fun e he => ?_)]
      · rfl
      · by_cases z : e = 0
        · rw [z, hok.1]; rfl
        · exact q e (by omega) he
    rw [if_pos hst] at hsucc
    have hlen := SIp_2117 c h2 h6 (T := i + 1) (by omega)
    rw [hsucc, List.length_append, List.length_singleton] at hlen
    have h31 : s1.1 31 1 = nI (SIp c n i).length := by rw [w31]; exact hr.1
    refine ⟨gi (gi s1 32 (SIp c n i).length (nI (fgn (xi n i) n))) 31 1 (nI ((SIp c n i).length + 1)), ?_, ⟨?_, fun k i' hk => ?_⟩, ?_, ?_, ?_⟩
    · rw [ek, p, hK]
      show (if 2117 ≤ s1.1 31 1 then _ else _) = _
      rw [h31, if_neg (by rw [li_2117, leI (by omega) (by omega)]; omega), ixT (by omega) (by omega), if_pos rfl, clI (by omega)]
      simp only [mv_let]
      have r : (gi s1 32 (SIp c n i).length (nI (fgn (xi n i) n))).1 31 1 = nI (SIp c n i).length := by rw [rd_gi, if_neg (by decide)]; exact h31
      rw [r, li_1, adI]
    · rw [rd_gi, if_pos rfl, upd_rd, if_pos rfl, hsucc, List.length_append, List.length_singleton]
    · rw [rd_gi, if_neg (by decide), rd_gi, if_pos rfl, upd_rd]
      rw [hsucc] at hk
      by_cases z : k < (SIp c n i).length
      · rw [List.getElem?_append_left z] at hk
        rw [if_neg (by omega), w32]
        exact hr.2 k i' hk
      · rw [List.getElem?_append_right (by omega)] at hk
        by_cases z2 : k = (SIp c n i).length
        · rw [if_pos z2]
          rw [z2, Nat.sub_self] at hk
          have hk : some i = some i' := hk
          injection hk with hk
          rw [hk]
        · rw [List.getElem?_eq_none (by simp; omega)] at hk; cases hk
    · rw [rd_gi, if_pos rfl, upd_rd, if_neg (by omega), rd_gi, if_neg (by decide), w31]
    · rw [rd_gi, if_neg (by decide), rd_gi, if_neg (by decide)]; exact w2
    · rw [rd_gi, if_neg (by decide), rd_gi, if_neg (by decide)]; exact w33
  · have hst : ¬ stb c n (xi n i) = true := by
      intro h
      rw [sb, Bool.and_eq_true] at h
      have hd := of_decide_eq_true h.2
      exact q3 ((dc_zero n h6 hd).1 e q2)
    rw [if_neg hst] at hsucc
    refine ⟨s1, by rw [ek, p], ?_, by rw [w31], w2, w33⟩
    rw [hsucc]
    unfold RSp at hr ⊢
    rw [w31, w32]
    exact hr
theorem fl_at {x : Nat → Nat} {n : Nat} (h6 : n ≤ 6) (h : fl x n 6 = true) : ∀ a, 0 < a → a < n → x a = 9 ∨ (wk x 5 a).isSome = true := by
  intro a h1 h3
  have key : ∀ m, fl x n m = true → a < m → x a = 9 ∨ (wk x 5 a).isSome = true := by
    intro m
    induction m with
    | zero => intro _ q; omega
    | succ m ih =>
      intro hm q
      rw [fl, Bool.and_eq_true] at hm
      by_cases e : m = a
      · subst e
        have hd := hm.2
        have e0 : decide (m = 0) = false := by simp; omega
        have e1 : decide (n ≤ m) = false := by simp; omega
        rw [e0, e1] at hd
        simp at hd
        rcases hd with hd | hd
        · exact Or.inl hd
        · exact Or.inr hd
      · exact ih hm.1 (by omega)
  exact key 6 h (by omega)
theorem stb_join {c : Nat → Int32} (ho : WOK c) {n : Nat} (hn : 0 < n) (h6 : n ≤ 6) {x : Nat → Nat} (hx : ∀ d, 0 < d → d < n → x d < n ∨ x d = 9) (h : stb c n x = true) {d : Nat} (hdp : 0 < d) (hd : d < n) (h9 : x d ≠ 9) : ¬ c (13 + d * 6 + x d) = 0 ∧ c (49 + d * 6 + x d) = 0 := by
  unfold stb at h
  rw [Bool.and_eq_true] at h
  have hok := fw_ok x hn hx
  have hdc := (dc_zero n h6 (of_decide_eq_true h.2)).1 d hd
  have hsome : (wk x 5 d).isSome = true := by
    rcases fl_at h6 h.1 d hdp hd with q | q
    · exact absurd q h9
    · exact q
  obtain ⟨l, hl⟩ := Option.isSome_iff_exists.mp hsome
  have hfw : fw x n d = some l := by unfold fw; rw [if_pos hd]; exact hl
  have hnx := nx_ok ho hn h6 hok
  have heq : nx c (fw x n) n d = fw x n d := val_eq hn h6 (fun q hq => (hnx.2 d (by omega) q (by show (if d < n then nx c (fw x n) n d else none) = _; rw [if_pos hd]; exact hq)).1) (fun q hq => (hok.2 d (by omega) q hq).1) hdc
  have hb : bs c (fw x n) d n = some l := by
    rw [hfw] at heq
    unfold nx at heq
    rw [if_neg (by omega)] at heq
    exact heq
  obtain ⟨q, e, g1, g2⟩ := bs_ok ho hn h6 hdp hd hok n h6 l hb
  have hq : hd0 q = x d := by
    obtain ⟨p1, p2, -⟩ := wk_pt x 5 d l hl
    subst e
    cases q with
    | nil => exact g1.elim
    | cons y r => exact p1.2.1.symm
  rw [← hq]
  exact ⟨g2.1, g2.2.1⟩
