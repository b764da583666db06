/-! PURE PART: the class's search -/
def px (n d j a : Nat) : Nat := cand n a (j / n ^ (d - 1 - a) % n)
theorem xi_px {n d i J a : Nat} (hd : d < n) (ha : a ≤ d) (h : i / n ^ (n - 1 - d) = J) : xi n i a = px n (d + 1) J a := by
  unfold xi px
  rw [← h, Nat.div_div_eq_div_mul, ← Nat.pow_add, show n - 1 - d + (d + 1 - 1 - a) = n - 1 - a by omega]
theorem px_last {n d j t : Nat} (ht : t < n) : px n (d + 1) (j * n + t) d = cand n d t := by
  unfold px
  rw [show d + 1 - 1 - d = 0 by omega, Nat.pow_zero, Nat.div_one, Nat.mul_add_mod_self_right, Nat.mod_eq_of_lt ht]
theorem px_pre {n d j t a : Nat} (hn : 0 < n) (ht : t < n) (ha : a < d) : px n (d + 1) (j * n + t) a = px n d j a := by
  unfold px
  rw [show d + 1 - 1 - a = 1 + (d - 1 - a) by omega, Nat.pow_add, Nat.pow_one, ← Nat.div_div_eq_div_mul, Nat.mul_comm j n, Nat.mul_add_div hn, Nat.div_eq_of_lt ht, Nat.add_zero]
theorem SIp_skip (c : Nat → Int32) (n a : Nat) : ∀ b, (∀ i, a ≤ i → i < a + b → stb c n (xi n i) = false) → SIp c n (a + b) = SIp c n a := by
  intro b
  induction b with
  | zero => intro _; rfl
  | succ b ih =>
    intro h
    rw [← Nat.add_assoc, SIp_succ, if_neg (by rw [h (a + b) (by omega) (by omega)]; decide)]
    exact ih (fun i p q => h i p (by omega))
theorem px_ok {n d j : Nat} (h6 : n ≤ 6) (hd : d ≤ n) : ∀ a, 0 < a → a < d → px n d j a < n ∨ px n d j a = 9 := fun a _ h => cand_ok h6 (by omega) (Nat.mod_lt _ (by omega))
def tau (n d e : Nat) : Nat := if e ≤ d then e else if e ≤ n then e - 1 else if e ≤ 9 then n - 1 else n
/-- what the search of a part gives -/
def Sd (c : Nat → Int32) (n d j : Nat) (rc : Int32 → mx_G → Option (Unit × mx_G)) : Prop := ∀ s : mx_G, s.1 2 = c → (∀ a, 0 < a → a < d → s.1 33 a = nI (px n d j a)) → MLp (px n d j) (d - 1) → RSp n (SIp c n (j * n ^ (n - d))) s → ∃ s', rc (nI d) s = some ((), s') ∧ RSp n (SIp c n ((j + 1) * n ^ (n - d))) s' ∧ s'.1 31 0 = s.1 31 0 ∧ s'.1 2 = c ∧ ∀ a, 0 < a → a < d → s'.1 33 a = s.1 33 a
theorem blk_div {n m J i : Nat} (hp : 0 < n ^ m) (h1 : J * n ^ m ≤ i) (h2 : i < J * n ^ m + n ^ m) : i / n ^ m = J := by
  have h2 : i < (J + 1) * n ^ m := by rw [Nat.add_mul, Nat.one_mul]; exact h2
  exact Nat.le_antisymm (Nat.lt_succ_iff.mp (Nat.div_lt_of_lt_mul (by rw [Nat.mul_comm]; exact h2))) ((Nat.le_div_iff_mul_le hp).mpr h1)
theorem sx_try {c : Nat → Int32} (ho : WOK c) {n d j t e : Nat} (h2 : 2 ≤ n) (h6 : n ≤ 6) (hd0 : 0 < d) (hd : d < n) (ht : t < n) (hte : cand n d t = e) {rc : Int32 → mx_G → Option (Unit × mx_G)} (hrc : Sd c n (d + 1) (j * n + t) rc) (F : Nat) {s : mx_G} (hs : s.1 2 = c) (hx : ∀ a, 0 < a → a < d → s.1 33 a = nI (px n d j a)) (hr : RSp n (SIp c n ((j * n + t) * n ^ (n - 1 - d))) s) : ∃ s', (if ix (nI d) 6 = true then
          mv_let (gi s 33 (Int32.toNatClampNeg (nI d)) (nI e)) fun s4 =>
          mv_bind (fX4_mayLead (nI d) s4) fun x5 s6 =>
          if x5 = 0 then
            lX4_search_24 rc (nI d) F (nI e + 1) s6
          else
            mv_bind (rc (nI d + 1) s6) fun _ s7 =>
            lX4_search_24 rc (nI d) F (nI e + 1) s7
        else none) = lX4_search_24 rc (nI d) F (nI (e + 1)) s' ∧ RSp n (SIp c n ((j * n + t + 1) * n ^ (n - 1 - d))) s' ∧ s'.1 31 0 = s.1 31 0 ∧ s'.1 2 = c ∧ ∀ a, 0 < a → a < d → s'.1 33 a = s.1 33 a := by
  have hn : 0 < n := by omega
  have e1 : nI e + 1 = nI (e + 1) := by rw [li_1, adI]
  have e2 : nI d + 1 = nI (d + 1) := by rw [li_1, adI]
  rw [ixT (by omega) (by omega), if_pos rfl, clI (by omega), mv_let, e1, e2]
  have x4 : ∀ a, 0 < a → a ≤ d → (gi s 33 d (nI e)).1 33 a = nI (px n (d + 1) (j * n + t) a) := by
    intro a p q
    rw [rd_gi, if_pos rfl, upd_rd]
    by_cases z : a = d
    · rw [if_pos z, z, px_last ht, hte]
    · rw [if_neg z, px_pre hn ht (by omega)]; exact hx a p (by omega)
  have c2 : (gi s 33 d (nI e)).1 2 = c := by rw [rd_gi, if_neg (by decide)]; exact hs
  have pre : ∀ a, 0 < a → a < d → (gi s 33 d (nI e)).1 33 a = s.1 33 a := fun a p q => by rw [rd_gi, if_pos rfl, upd_rd, if_neg (by omega)]
  have r4 : RSp n (SIp c n ((j * n + t) * n ^ (n - 1 - d))) (gi s 33 d (nI e)) := by
    unfold RSp at hr ⊢
    rw [rd_gi, if_neg (by decide), rd_gi, if_neg (by decide)]
    exact hr
  have hb : (j * n + t + 1) * n ^ (n - 1 - d) = (j * n + t) * n ^ (n - 1 - d) + n ^ (n - 1 - d) := by rw [Nat.add_mul, Nat.one_mul]
  rcases sx_mayLead (s := gi s 33 d (nI e)) (x := px n (d + 1) (j * n + t)) (d := d) (by omega) x4 (fun a p q => by have := px_ok (j := j * n + t) h6 (show d + 1 ≤ n by omega) a p (by omega); omega) with ⟨m1, m2⟩ | ⟨m1, m2⟩
  · obtain ⟨s', a1, a2, a3, a4, a5⟩ := hrc (gi s 33 d (nI e)) c2 (fun a p q => x4 a p (by omega)) (by rw [show d + 1 - 1 = d by omega]; exact m2) (by rw [show n - (d + 1) = n - 1 - d by omega]; exact r4)
    rw [show n - (d + 1) = n - 1 - d by omega] at a2
    refine ⟨s', ?_, a2, ?_, a4, fun a p q => ?_⟩
    · rw [m1, bd_some, if_neg one_ne, a1, bd_some]
    · rw [a3, rd_gi, if_neg (by decide)]
    · rw [a5 a p (by omega)]; exact pre a p q
  · refine ⟨gi s 33 d (nI e), ?_, ?_, by rw [rd_gi, if_neg (by decide)], c2, pre⟩
    · rw [m1, bd_some, if_pos rfl]
    · rw [hb, SIp_skip c n _ _ (fun i p q => ?_)]
      · exact r4
      · have hdiv := blk_div (J := j * n + t) (Nat.pow_pos hn) p q
        have := lost_no (x := px n (d + 1) (j * n + t)) (y := xi n i) h6 (xi_ok h6 i) (fun a p1 p2 => (xi_px hd p2 hdiv).symm) hd m2
        unfold stb
        rw [this]
        rfl
theorem sx_search24 {c : Nat → Int32} (ho : WOK c) {n d j : Nat} (h2 : 2 ≤ n) (h6 : n ≤ 6) (hc0 : c 0 = nI n) (hd0 : 0 < d) (hd : d < n) {rc : Int32 → mx_G → Option (Unit × mx_G)} (hrc : ∀ t, t < n → Sd c n (d + 1) (j * n + t) rc) : ∀ (m e f : Nat) (s : mx_G), e + m = 10 → s.1 2 = c → (∀ a, 0 < a → a < d → s.1 33 a = nI (px n d j a)) → RSp n (SIp c n ((j * n + tau n d e) * n ^ (n - 1 - d))) s → ∃ s', lX4_search_24 rc (nI d) (m + 1 + f) (nI e) s = some ((), s') ∧ RSp n (SIp c n ((j * n + n) * n ^ (n - 1 - d))) s' ∧ s'.1 31 0 = s.1 31 0 ∧ s'.1 2 = c ∧ ∀ a, 0 < a → a < d → s'.1 33 a = s.1 33 a := by
  have hn : 0 < n := by omega
  intro m
  induction m with
  | zero =>
    intro e f s h hs hx hr
    have : e = 10 := by omega
    subst this
    refine ⟨s, ?_, ?_, rfl, hs, fun _ _ _ => rfl⟩
    · rw [show 0 + 1 + f = f + 1 by omega, lX4_search_24, if_pos (by decide)]
    · have : tau n d 10 = n := by unfold tau; rw [if_neg (by omega), if_neg (by omega), if_neg (by omega)]
      rw [this] at hr
      exact hr
  | succ m ih =>
    intro e f s h hs hx hr
    have e1 : nI e + 1 = nI (e + 1) := by rw [li_1, adI]
    have hc9 : ¬ (9 : Int32) < nI e := by rw [li_9, ltI (by omega) (by omega)]; omega
    rw [show m + 1 + 1 + f = (m + 1 + f) + 1 by omega, lX4_search_24, if_neg hc9]
    simp only [mv_let]
    have go : ∀ t, t < n → cand n d t = e → tau n d e = t → tau n d (e + 1) = t + 1 → ∃ s', (if ix (nI d) 6 = true then
          mv_bind (fX4_mayLead (nI d) (gi s 33 (Int32.toNatClampNeg (nI d)) (nI e))) fun x5 s6 =>
          if x5 = 0 then
            lX4_search_24 rc (nI d) (m + 1 + f) (nI e + 1) s6
          else
            mv_bind (rc (nI d + 1) s6) fun _ s7 =>
            lX4_search_24 rc (nI d) (m + 1 + f) (nI e + 1) s7
        else none) = some ((), s') ∧ RSp n (SIp c n ((j * n + n) * n ^ (n - 1 - d))) s' ∧ s'.1 31 0 = s.1 31 0 ∧ s'.1 2 = c ∧ ∀ a, 0 < a → a < d → s'.1 33 a = s.1 33 a := by
      intro t ht hte t1 t2
      rw [t1] at hr
      obtain ⟨s1, a1, a2, a3, a4, a5⟩ := sx_try ho h2 h6 hd0 hd ht hte (hrc t ht) (m + 1 + f) hs hx hr
      obtain ⟨s', b1, b2, b3, b4, b5⟩ := ih (e + 1) f s1 (by omega) a4 (fun a p q => by rw [a5 a p q]; exact hx a p q) (by rw [t2]; exact a2)
      refine ⟨s', Eq.trans a1 b1, b2, b3.trans a3, b4, fun a p q => (b5 a p q).trans (a5 a p q)⟩
    have skip : tau n d (e + 1) = tau n d e → ∃ s', lX4_search_24 rc (nI d) (m + 1 + f) (nI (e + 1)) s = some ((), s') ∧ RSp n (SIp c n ((j * n + n) * n ^ (n - 1 - d))) s' ∧ s'.1 31 0 = s.1 31 0 ∧ s'.1 2 = c ∧ ∀ a, 0 < a → a < d → s'.1 33 a = s.1 33 a := by
      intro t1
      exact ih (e + 1) f s (by omega) hs hx (by rw [t1]; exact hr)
    by_cases z9 : e = 9
    · rw [if_pos (by rw [z9]; rfl)]
      subst z9
      exact go (n - 1) (by omega) (by unfold cand; rw [if_neg (by omega), if_neg (by omega)]) (by unfold tau; rw [if_neg (by omega), if_neg (by omega), if_pos (by omega)]) (by unfold tau; rw [if_neg (by omega), if_neg (by omega), if_neg (by omega)]; omega)
    · rw [if_neg (by rw [li_9, eqI (by omega) (by omega)]; exact z9)]
      have eD := sx_isDomain (s := s) (n := n) (by rw [hs]; exact hc0) h6 (nI e)
      by_cases zn : e < n
      · rw [if_pos ⟨nI_pos' (by omega), nI_lt zn (by omega)⟩] at eD
        rw [eD, bd_some, if_neg one_ne, sx_areJoined (by omega) (by omega), bd_some, e1, hs]
        by_cases zd : e = d
        · have hz : c (13 + d * 6 + e) = 0 := by
            rw [zd, ho.2.1 _ (by omega), (ho.2.2.2.2.1 d d (by omega) (by omega)).2.2.2.2.2.2 (Or.inl rfl)]
            rfl
          rw [if_pos hz, if_pos rfl]
          exact skip (by unfold tau; rw [if_neg (by omega), if_pos (by omega), if_pos (by omega)]; omega)
        · have htau : tau n d e = if e < d then e else e - 1 := by
            unfold tau
            by_cases y : e < d
            · rw [if_pos (by omega), if_pos y]
            · rw [if_neg (by omega), if_pos (by omega), if_neg y]
          have hcand : cand n d (tau n d e) = e := by
            rw [htau]
            unfold cand
            by_cases y : e < d
            · rw [if_pos y, if_pos y]
            · rw [if_neg y, if_neg (by omega), if_pos (by omega)]; omega
          have htau2 : tau n d (e + 1) = tau n d e + 1 := by
            rw [htau]
            unfold tau
            by_cases y : e < d
            · rw [if_pos (by omega), if_pos y]
            · rw [if_neg (by omega), if_pos (by omega), if_neg y]; omega
          have htn : tau n d e < n := by rw [htau]; split <;> omega
          have nost : (c (13 + d * 6 + e) = 0 ∨ ¬ c (49 + d * 6 + e) = 0) → ∃ s', lX4_search_24 rc (nI d) (m + 1 + f) (nI (e + 1)) s = some ((), s') ∧ RSp n (SIp c n ((j * n + n) * n ^ (n - 1 - d))) s' ∧ s'.1 31 0 = s.1 31 0 ∧ s'.1 2 = c ∧ ∀ a, 0 < a → a < d → s'.1 33 a = s.1 33 a := by
            intro hno
            refine ih (e + 1) f s (by omega) hs hx ?_
            have hb : (j * n + tau n d (e + 1)) * n ^ (n - 1 - d) = (j * n + tau n d e) * n ^ (n - 1 - d) + n ^ (n - 1 - d) := by rw [htau2, ← Nat.add_assoc, Nat.add_mul (j * n + tau n d e), Nat.one_mul]
            rw [hb, SIp_skip c n _ _ (fun i p q => ?_)]
            · exact hr
            · have hdiv := blk_div (J := j * n + tau n d e) (Nat.pow_pos hn) p q
              have hxi : xi n i d = e := by rw [xi_px hd (Nat.le_refl _) hdiv, px_last htn, hcand]
              cases hst : stb c n (xi n i) with
              | false => rfl
              | true =>
                exfalso
                have := stb_join ho hn h6 (xi_ok h6 i) hst hd0 hd (by rw [hxi]; omega)
                rw [hxi] at this
                rcases hno with q1 | q1
                · exact this.1 q1
                · exact q1 this.2
          by_cases j1 : c (13 + d * 6 + e) = 0
          · rw [if_pos j1, if_pos rfl]
            exact nost (Or.inl j1)
          · rw [if_neg j1]
            by_cases j2 : c (49 + d * 6 + e) = 0
            · rw [if_pos j2, if_neg one_ne]
              have := go (tau n d e) htn hcand rfl htau2
              rw [e1] at this
              exact this
            · rw [if_neg j2, if_pos rfl]
              exact nost (Or.inr j2)
      · rw [if_neg (fun q => zn (by have := q.2; rwa [ltI (by omega) (by omega)] at this))] at eD
        rw [eD, bd_some, if_pos rfl, e1]
        refine skip ?_
        unfold tau
        by_cases y : e = n
        · rw [if_neg (by omega), if_neg (by omega), if_pos (by omega), if_neg (by omega), if_pos (by omega)]; omega
        · rw [if_neg (by omega), if_neg (by omega), if_pos (by omega), if_neg (by omega), if_neg (by omega), if_pos (by omega)]
theorem sx_search {c : Nat → Int32} (ho : WOK c) {n : Nat} (h2 : 2 ≤ n) (h6 : n ≤ 6) (hc0 : c 0 = nI n) : ∀ (m d j g : Nat), d + m = n → 0 < d → j < n ^ (d - 1) → Sd c n d j (fX4_search (m + 1 + g)) := by
  have hn : 0 < n := by omega
  have hsz : ∀ s : mx_G, s.1 2 = c → fX9_size s = some (nI n, s) := fun s hs => by
    unfold fX9_size
    rw [li_0, ixT (by omega) (by omega), if_pos rfl, clI (by omega), hs, hc0]
  intro m
  induction m with
  | zero =>
    intro d j g h hd hj s hs hx hm hr
    have : d = n := by omega
    subst this
    have hxe : px d d j = xi d j := rfl
    rw [hxe] at hx hm
    rw [Nat.sub_self, Nat.pow_zero, Nat.mul_one] at hr ⊢
    have hfl := lead_yes h2 h6 (xi_ok h6 j) hm
    obtain ⟨s', a1, a2, a3, a4, a5⟩ := sx_keepIf ho h2 h6 hc0 hj hs hx hfl hr
    refine ⟨s', ?_, a2, a3, a4, fun a _ _ => by rw [a5]⟩
    rw [show 0 + 1 + g = g + 1 by omega, fX4_search, hsz s hs, bd_some, if_pos (nI_le (by omega) (by omega)), a1, bd_some]
  | succ m ih =>
    intro d j g h hd hj s hs hx hm hr
    have hrc : ∀ t, t < n → Sd c n (d + 1) (j * n + t) (fX4_search (m + 1 + g)) := by
      intro t ht
      refine ih (d + 1) (j * n + t) g (by omega) (by omega) ?_
      have e : n ^ (d + 1 - 1) = n ^ (d - 1) * n := by rw [← Nat.pow_succ, show (d - 1).succ = d by omega, show d + 1 - 1 = d by omega]
      have : (j + 1) * n ≤ n ^ (d - 1) * n := Nat.mul_le_mul_right _ hj
      rw [Nat.add_mul, Nat.one_mul] at this
      omega
    have hpow : n ^ (n - d) = n * n ^ (n - 1 - d) := by rw [Nat.mul_comm, ← Nat.pow_succ, show (n - 1 - d).succ = n - d by omega]
    obtain ⟨f, hf⟩ := FU_lt (n := 10) (by omega)
    obtain ⟨s', a1, a2, a3, a4, a5⟩ := sx_search24 ho h2 h6 hc0 hd (show d < n by omega) hrc 10 0 f s (by omega) hs hx (by
      have : tau n d 0 = 0 := by unfold tau; rw [if_pos (by omega)]
      rw [this, Nat.add_zero, Nat.mul_assoc, ← hpow]
      exact hr)
    rw [← hf] at a1
    refine ⟨s', ?_, ?_, a3, a4, a5⟩
    · rw [show m + 1 + 1 + g = (m + 1 + g) + 1 by omega, fX4_search, hsz s hs, bd_some, if_neg (nI_ge (by omega) (by omega)), if_pos (by rw [li_6, ltI (by omega) (by omega)]; omega)]
      exact a1
    · have e : (j * n + n) * n ^ (n - 1 - d) = (j + 1) * n ^ (n - d) := by rw [hpow, ← Nat.mul_assoc, Nat.add_mul j 1 n, Nat.one_mul]
      rw [← e]
      exact a2
