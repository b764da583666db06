/-! PURE PART: tried -/
abbrev gd (n : Nat) (v : Int64) : Prop := (0 ≤ v ∧ v < Int32.toInt64 (nI n)) ∨ v = 9
theorem cmp_eq (x y : Int64) : (lg_cmp x y = 0) = (x = y) := by
  unfold lg_cmp
  apply propext
  by_cases h : x > y
  · rw [if_pos h]
    refine ⟨fun z => absurd z (by decide), fun z => ?_⟩
    subst z
    rw [gt_iff_lt, Int64.lt_iff_toInt_lt] at h
    omega
  · rw [if_neg h]
    by_cases h2 : x = y
    · rw [if_pos h2]; exact ⟨fun _ => h2, fun _ => rfl⟩
    · rw [if_neg h2]; exact ⟨fun z => absurd z (by decide), fun z => absurd z h2⟩
theorem sm_in64 (x y z : Int64) (s : mx_G) : fX11_in x y z s = some (if y ≤ x ∧ x ≤ z then 1 else 0, s) := by
  unfold fX11_in
  simp only [cmp_lt, cmp_gt]
  by_cases h : x < y
  · rw [if_pos h, if_neg (fun q => Int64.not_lt.mpr q.1 h)]
  · rw [if_neg h]
    by_cases h2 : z < x
    · rw [if_pos h2, if_neg (fun q => Int64.not_lt.mpr q.2 h2)]
    · rw [if_neg h2, if_pos ⟨Int64.not_lt.mp h, Int64.not_lt.mp h2⟩]
theorem ofI10 : ∀ t : Nat, t < 10 → Int64.toInt32 (Int64.ofInt (Int.ofNat t)) = nI t := by decide +kernel
theorem gd_ex {n : Nat} (h6 : n ≤ 6) {v : Int64} (h : gd n v) : ∃ t : Nat, (t < n ∨ t = 9) ∧ Int64.toInt32 v = nI t := by
  rcases h with ⟨h1, h2⟩ | h
  · rw [Int64.le_iff_toInt_le] at h1
    rw [Int64.lt_iff_toInt_lt, Int32.toInt_toInt64, nI_toInt (by omega)] at h2
    have h0 : (0 : Int64).toInt = 0 := by decide
    rw [h0] at h1
    obtain ⟨t, ht⟩ : ∃ t : Nat, v.toInt = Int.ofNat t := ⟨v.toInt.toNat, by
      show v.toInt = ((v.toInt.toNat : Nat) : Int)
      omega⟩
    have ht' : v.toInt = (t : Int) := ht
    refine ⟨t, Or.inl (by omega), ?_⟩
    have e : v = Int64.ofInt (Int.ofNat t) := by rw [← ht, Int64.ofInt_toInt]
    rw [e]
    exact ofI10 t (by omega)
  · refine ⟨9, Or.inr rfl, ?_⟩
    rw [h]
    decide
theorem in_n {n : Nat} (h2 : 2 ≤ n) (h6 : n ≤ 6) (v : Int64) : (0 ≤ v ∧ v ≤ Int32.toInt64 (nI (n - 1))) ↔ (0 ≤ v ∧ v < Int32.toInt64 (nI n)) := by
  rw [Int64.le_iff_toInt_le (y := Int32.toInt64 (nI (n - 1))), Int64.lt_iff_toInt_lt, Int32.toInt_toInt64, Int32.toInt_toInt64, nI_toInt (by omega), nI_toInt (by omega)]
  constructor <;> rintro ⟨a, b⟩ <;> exact ⟨a, by omega⟩
theorem sx_tried_st {S : mx_G} {n s j : Nat} (h6 : n ≤ 6) (hs : s < 4) (hj : j + n ≤ 25) (K : mx_G → Option (Int32 × mx_G)) (F d : Nat) (h1 : 1 ≤ d) (hd : d < n) (g : Nat → Int32) : lX10_tried_36 (nI s) (nI j) (nI n) K (F + 1) (nI d) (gs S 44 g) = if gd n (S.2 43 (24 * s + j + d - 1)) then lX10_tried_36 (nI s) (nI j) (nI n) K F (nI (d + 1)) (gs S 44 (upd g d (Int64.toInt32 (S.2 43 (24 * s + j + d - 1))))) else some (-2, gs S 44 g) := by
  have e1 : nI d + 1 = nI (d + 1) := by rw [li_1, adI]
  have e3 : nI j + nI d - 1 = nI (j + d - 1) := by rw [li_1, adI, suI (by omega)]
  have e4 : fX6_itemAt (nI s) (nI (j + d - 1)) (gs S 44 g) = some (S.2 43 (24 * s + j + d - 1), gs S 44 g) := by
    unfold fX6_itemAt
    rw [li_24, muI, adI, ixT (by omega) (by omega), if_pos rfl, clI (by omega), rd_gs2, show s * 24 + (j + d - 1) = 24 * s + j + d - 1 by omega]
  rw [lX10_tried_36, if_neg (nI_ge (by omega) (by omega)), e3, e4, bd_some]
  generalize S.2 43 (24 * s + j + d - 1) = v
  simp only [mv_let, cmp_lt, cmp_eq]
  rw [ixT (by omega) (by omega), if_pos rfl, clI (by omega), gi_of, e1]
  by_cases z1 : v < 0
  · rw [if_pos z1]
    by_cases z9 : v = 9
    · rw [if_pos z9, if_pos (Or.inr z9)]
    · rw [if_neg z9, if_neg (fun q => q.elim (fun q => Int64.not_lt.mpr q.1 z1) z9)]
  · rw [if_neg z1]
    by_cases z2 : v < Int32.toInt64 (nI n)
    · rw [if_pos z2, if_pos (Or.inl ⟨Int64.not_lt.mp z1, z2⟩)]
    · rw [if_neg z2]
      by_cases z9 : v = 9
      · rw [if_pos z9, if_pos (Or.inr z9)]
      · rw [if_neg z9, if_neg (fun q => q.elim (fun q => z2 q.2) z9)]
theorem sm_tried_st {S : mx_G} {n s j : Nat} (h2 : 2 ≤ n) (h6 : n ≤ 6) (hs : s < 4) (hj : j + n ≤ 25) (h0 : S.1 46 0 = nI n) (F d : Nat) (h1 : 1 ≤ d) (hd : d < n) (g : Nat → Int32) : lX11_tried_38 (nI s) (nI j) (F + 1) (nI d) (gs S 59 g) = if gd n (S.2 53 (24 * s + j + d - 1)) then lX11_tried_38 (nI s) (nI j) F (nI (d + 1)) (gs S 59 (upd g d (Int64.toInt32 (S.2 53 (24 * s + j + d - 1))))) else some (-2, gs S 59 g) := by
  have hx0 : ix 0 128 = true := by rw [li_0]; exact ixT (by omega) (by omega)
  have hz : Int32.toNatClampNeg 0 = 0 := by decide
  have e1 : nI d + 1 = nI (d + 1) := by rw [li_1, adI]
  have en : nI n - 1 = nI (n - 1) := by rw [li_1, suI (by omega)]
  have e3 : nI 24 * nI s + nI j + nI d - 1 = nI (24 * s + j + d - 1) := by rw [li_1, muI, adI, adI, suI (by omega)]
  rw [lX11_tried_38, if_pos hx0, hz, gs_rdn _ (by decide), h0, if_neg (nI_ge (by omega) (by omega)), li_24, e3, ixT (by omega) (by omega), if_pos rfl, clI (by omega), rd_gs2]
  generalize S.2 53 (24 * s + j + d - 1) = v
  simp only [mv_let]
  rw [if_pos hx0, en, sm_in64, bd_some, ixT (by omega) (by omega), if_pos rfl, clI (by omega), gi_of, e1]
  simp only [in_n h2 h6, cmp_eq]
  by_cases z1 : 0 ≤ v ∧ v < Int32.toInt64 (nI n)
  · rw [if_pos z1, if_neg one_ne, if_pos (Or.inl z1)]
  · rw [if_neg z1, if_pos rfl]
    by_cases z9 : v = 9
    · rw [if_pos z9, if_pos (Or.inr z9)]
    · rw [if_neg z9, if_neg (fun q => q.elim z1 z9)]
theorem sx_tried_g {S : mx_G} {n s j : Nat} (h6 : n ≤ 6) (hs : s < 4) (hj : j + n ≤ 25) (K : mx_G → Option (Int32 × mx_G)) (x : Nat → Nat) (hx : ∀ e, 1 ≤ e → e < n → gd n (S.2 43 (24 * s + j + e - 1)) ∧ Int64.toInt32 (S.2 43 (24 * s + j + e - 1)) = nI (x e)) : ∀ (m d f : Nat) (g : Nat → Int32), d + m = n → 1 ≤ d → (∀ e, 1 ≤ e → e < d → g e = nI (x e)) → ∃ g', lX10_tried_36 (nI s) (nI j) (nI n) K (m + 1 + f) (nI d) (gs S 44 g) = K (gs S 44 g') ∧ ∀ e, 1 ≤ e → e < n → g' e = nI (x e) := by
  intro m
  induction m with
  | zero =>
    intro d f g h h1 hg
    refine ⟨g, ?_, fun e a b => hg e a (by omega)⟩
    rw [show 0 + 1 + f = f + 1 by omega, lX10_tried_36, if_pos (nI_le (by omega) (by omega))]
  | succ m ih =>
    intro d f g h h1 hg
    obtain ⟨q1, q2⟩ := hx d h1 (by omega)
    obtain ⟨g', e, hg'⟩ := ih (d + 1) f (upd g d (nI (x d))) (by omega) (by omega) (fun e a b => by
      rw [upd_rd]
      by_cases z : e = d
      · rw [if_pos z, z]
      · rw [if_neg z]; exact hg e a (by omega))
    refine ⟨g', ?_, hg'⟩
    rw [show m + 1 + 1 + f = (m + 1 + f) + 1 by omega, sx_tried_st h6 hs hj K _ d h1 (by omega) g, if_pos q1, q2]
    exact e
theorem sx_tried_b {S : mx_G} {n s j : Nat} (h6 : n ≤ 6) (hs : s < 4) (hj : j + n ≤ 25) (K : mx_G → Option (Int32 × mx_G)) : ∀ (m d f : Nat) (g : Nat → Int32), d + m = n → 1 ≤ d → (∃ e, d ≤ e ∧ e < n ∧ ¬ gd n (S.2 43 (24 * s + j + e - 1))) → ∃ s', lX10_tried_36 (nI s) (nI j) (nI n) K (m + 1 + f) (nI d) (gs S 44 g) = some (-2, s') := by
  intro m
  induction m with
  | zero => rintro d f g h h1 ⟨e, a, b, c⟩; omega
  | succ m ih =>
    rintro d f g h h1 ⟨e, a, b, c⟩
    rw [show m + 1 + 1 + f = (m + 1 + f) + 1 by omega, sx_tried_st h6 hs hj K _ d h1 (by omega) g]
    by_cases z : gd n (S.2 43 (24 * s + j + d - 1))
    · rw [if_pos z]
      refine ih (d + 1) f _ (by omega) (by omega) ⟨e, ?_, b, c⟩
      by_cases zz : e = d
      · exact absurd (zz ▸ z) c
      · omega
    · rw [if_neg z]; exact ⟨_, rfl⟩
theorem sm_tried_g {S : mx_G} {n s j : Nat} (h2 : 2 ≤ n) (h6 : n ≤ 6) (hs : s < 4) (hj : j + n ≤ 25) (h0 : S.1 46 0 = nI n) (x : Nat → Nat) (hx : ∀ e, 1 ≤ e → e < n → gd n (S.2 53 (24 * s + j + e - 1)) ∧ Int64.toInt32 (S.2 53 (24 * s + j + e - 1)) = nI (x e)) : ∀ (m d f : Nat) (g : Nat → Int32), d + m = n → 1 ≤ d → (∀ e, 1 ≤ e → e < d → g e = nI (x e)) → ∃ g', lX11_tried_38 (nI s) (nI j) (m + 1 + f) (nI d) (gs S 59 g) = (mv_bind (fX11_thinksOfNexts (gs S 59 g')) fun _ s6 => mv_bind (fX11_notContent s6) fun x7 s8 => some (x7, s8)) ∧ ∀ e, 1 ≤ e → e < n → g' e = nI (x e) := by
  have hx0 : ix 0 128 = true := by rw [li_0]; exact ixT (by omega) (by omega)
  have hz : Int32.toNatClampNeg 0 = 0 := by decide
  intro m
  induction m with
  | zero =>
    intro d f g h h1 hg
    refine ⟨g, ?_, fun e a b => hg e a (by omega)⟩
    rw [show 0 + 1 + f = f + 1 by omega, lX11_tried_38, if_pos hx0, hz, gs_rdn _ (by decide), h0, if_pos (nI_le (by omega) (by omega))]
  | succ m ih =>
    intro d f g h h1 hg
    obtain ⟨q1, q2⟩ := hx d h1 (by omega)
    obtain ⟨g', e, hg'⟩ := ih (d + 1) f (upd g d (nI (x d))) (by omega) (by omega) (fun e a b => by
      rw [upd_rd]
      by_cases z : e = d
      · rw [if_pos z, z]
      · rw [if_neg z]; exact hg e a (by omega))
    refine ⟨g', ?_, hg'⟩
    rw [show m + 1 + 1 + f = (m + 1 + f) + 1 by omega, sm_tried_st h2 h6 hs hj h0 _ d h1 (by omega) g, if_pos q1, q2]
    exact e
theorem sm_tried_b {S : mx_G} {n s j : Nat} (h2 : 2 ≤ n) (h6 : n ≤ 6) (hs : s < 4) (hj : j + n ≤ 25) (h0 : S.1 46 0 = nI n) : ∀ (m d f : Nat) (g : Nat → Int32), d + m = n → 1 ≤ d → (∃ e, d ≤ e ∧ e < n ∧ ¬ gd n (S.2 53 (24 * s + j + e - 1))) → ∃ s', lX11_tried_38 (nI s) (nI j) (m + 1 + f) (nI d) (gs S 59 g) = some (-2, s') := by
  intro m
  induction m with
  | zero => rintro d f g h h1 ⟨e, a, b, c⟩; omega
  | succ m ih =>
    rintro d f g h h1 ⟨e, a, b, c⟩
    rw [show m + 1 + 1 + f = (m + 1 + f) + 1 by omega, sm_tried_st h2 h6 hs hj h0 _ d h1 (by omega) g]
    by_cases z : gd n (S.2 53 (24 * s + j + d - 1))
    · rw [if_pos z]
      refine ih (d + 1) f _ (by omega) (by omega) ⟨e, ?_, b, c⟩
      by_cases zz : e = d
      · exact absurd (zz ▸ z) c
      · omega
    · rw [if_neg z]; exact ⟨_, rfl⟩
section ACT
variable {IC : Nat → mx_G → Prop}
theorem ok_tried (hC : ICok IC) : pv_tried (Inv IC) := by
  intro k σ p1 p2 p3 hk h
  obtain ⟨n2, n6, nx0, nm⟩ := h.n
  have hn : 0 < N (σ.1 2) 0 := by omega
  have hsz : fX9_size σ = some (nI (N (σ.1 2) 0), σ) := by
    unfold fX9_size
    simp (disch := omega) only [li_0, ixT, clI, if_true, nx0]
  have hx0 : ix 0 128 = true := by rw [li_0]; exact ixT (by omega) (by omega)
  have hz : Int32.toNatClampNeg 0 = 0 := by decide
  have en : nI (N (σ.1 2) 0) - 1 = nI (N (σ.1 2) 0 - 1) := by rw [li_1, suI (by omega)]
  rcases sh_cases p1 with ⟨s, hs, rfl, x1, m1⟩ | ⟨x1, m1⟩
  · rcases ln_cases p2 with ⟨l, hl, rfl, x2, m2⟩ | ⟨x2, m2⟩
    · have ms := fun τ => sm_isSheet (nI s) (nI l) true true m1 m2 τ
      obtain ⟨r, g1, g2, g3⟩ := ref_found (τ := σ) h.2.2.2.2.1 (m := N (σ.1 2) 0 - 1) p3 hs hl (by omega) rfl rfl
      by_cases hr : r = 0
      · obtain ⟨j, ln, rfl, hj, hln, a1, a2, a3, a4, a5⟩ := g3 hr
        subst hr
        obtain ⟨f, hf⟩ := FU_lt (n := N (σ.1 2) 0 - 1) (by omega)
        /- the reference's start, from any state that is as σ but for scratch -/
        have ref : ∀ τ : mx_G, Sc σ τ → fX11_tried (nI s) (nI l) (nI j) τ = lX11_tried_38 (nI s) (nI j) FU 1 τ := by
          intro τ sc
          obtain ⟨r', q1, q2, -⟩ := ref_found (τ := τ) h.2.2.2.2.1 (m := N (σ.1 2) 0 - 1) (nI j) hs hl (by omega) (by rw [sc.1 51 (by decide)]) (by rw [sc.1 52 (by decide)])
          rw [g1] at q1
          have hr' : (0 : Int32) = r' := congrArg Prod.fst (Option.some.inj q1)
          unfold fX11_tried
          rw [ms, bd_some, if_neg (by decide), if_pos hx0, hz, sc.1 46 (by decide), nm, en, q2, bd_some, ← hr', if_pos rfl]
        have hit : ∀ τ : mx_G, Sc σ τ → ∀ e, 1 ≤ e → e < N (σ.1 2) 0 → τ.2 53 (24 * s + j + e - 1) = σ.2 43 (24 * s + j + e - 1) := by
          intro τ sc e he1 he
          have := a5 (j + e - 1) (by omega)
          rw [sc.2.2 53 (by decide), show 24 * s + j + e - 1 = 24 * s + (j + e - 1) by omega]
          exact this
        have eX : fX10_tried (nI s) (nI l) (nI j) σ = lX10_tried_36 (nI s) (nI j) (nI (N (σ.1 2) 0)) (fun s8 => mv_bind (fX0_follow_1 (nI (N (σ.1 2) 0)) s8) fun _ s9 => mv_bind (fX0_discontents s9) fun x10 s11 => some (x10, s11)) FU 1 σ := by
          unfold fX10_tried
          rw [hsz, bd_some, en, g1, bd_some, if_pos rfl]
        by_cases hgd : ∀ e, 1 ≤ e → e < N (σ.1 2) 0 → gd (N (σ.1 2) 0) (σ.2 43 (24 * s + j + e - 1))
        · obtain ⟨x, hx⟩ : ∃ x : Nat → Nat, ∀ e, 1 ≤ e → e < N (σ.1 2) 0 → (x e < N (σ.1 2) 0 ∨ x e = 9) ∧ Int64.toInt32 (σ.2 43 (24 * s + j + e - 1)) = nI (x e) := by
            refine ⟨fun e => Int32.toNatClampNeg (Int64.toInt32 (σ.2 43 (24 * s + j + e - 1))), fun e h1 h2 => ?_⟩
            obtain ⟨t, ht, e1⟩ := gd_ex n6 (hgd e h1 h2)
            have : Int32.toNatClampNeg (Int64.toInt32 (σ.2 43 (24 * s + j + e - 1))) = t := by rw [e1, clI (by omega)]
            simp only [this]
            exact ⟨ht, e1⟩
          have hxn : ∀ d, 0 < d → d < N (σ.1 2) 0 → x d < N (σ.1 2) 0 ∨ x d = 9 := fun d a b => (hx d a b).1
          have hok := fw_ok x hn hxn
          obtain ⟨g', e1, hg'⟩ := sx_tried_g (S := σ) n6 hs (j := j) (by omega) (fun s8 => mv_bind (fX0_follow_1 (nI (N (σ.1 2) 0)) s8) fun _ s9 => mv_bind (fX0_discontents s9) fun x10 s11 => some (x10, s11)) x (fun e a b => ⟨hgd e a b, (hx e a b).2⟩) (N (σ.1 2) 0 - 1) 1 f (σ.1 44) (by omega) (by omega) (fun e a b => absurd b (by omega))
          rw [gs_self, ← hf] at e1
          obtain ⟨s2, e2, hld, fr2⟩ := sx_follow_1 x hn n6 hxn (s := gs σ 44 g') (fun e a b => by rw [gs_rd]; exact hg' e a b)
          have q2 : s2.1 2 = σ.1 2 := by rw [(fr2 2 (by decide)).1, gs_rdn _ (by decide)]
          have e3 := sx_discontents (s := s2) (by rw [q2]; exact h.1.2) (by rw [q2]; exact nx0) hn n6 hok hld
          rw [q2] at e3
          have eX2 : fX10_tried (nI s) (nI l) (nI j) σ = some (nI (dc (σ.1 2) (fw x (N (σ.1 2) 0)) (N (σ.1 2) 0) (N (σ.1 2) 0)), s2) := by
            rw [eX, li_1, e1, e2, bd_some, e3, bd_some]
          have sc1 : Sc σ s2 := (fr_X10_tried _ _ _ σ).sc eX2 (by decide)
          obtain ⟨g2', b1, hg2⟩ := sm_tried_g (S := s2) n2 n6 hs (j := j) (by omega) (by rw [sc1.1 46 (by decide)]; exact nm) x (fun e a b => by rw [hit s2 sc1 e a b]; exact ⟨hgd e a b, (hx e a b).2⟩) (N (σ.1 2) 0 - 1) 1 f (s2.1 59) (by omega) (by omega) (fun e a b => absurd b (by omega))
          rw [gs_self, ← hf] at b1
          obtain ⟨s3, b2, b3, b4⟩ := sm_thinksN x hn n6 hxn (s := gs s2 59 g2') (by rw [gs_rdn _ (by decide), sc1.1 46 (by decide)]; exact nm) (fun e a b => by rw [gs_rd]; exact hg2 e a b)
          have w46 : s3.1 46 = σ.1 46 := by rw [(b4 46 (by decide)).1, gs_rdn _ (by decide), sc1.1 46 (by decide)]
          have b5 := sm_notContent (s := s3) (c := σ.1 2) (by rw [w46]; exact h.1.1) h.1.2 (by rw [w46]; exact nm) hn n6 hok b3
          have eM : fX11_tried (nI s) (nI l) (nI j) s2 = some (nI (dc (σ.1 2) (fw x (N (σ.1 2) 0)) (N (σ.1 2) 0) (N (σ.1 2) 0)), s3) := by
            rw [ref s2 sc1, li_1, b1, b2, bd_some, b5, bd_some]
          exact ⟨_, s2, s3, eX2, eM, h.sc hC (sc1.trans ((fr_X11_tried _ _ _ s2).sc eM (by decide)))⟩
        · have hbad : ∃ e, 1 ≤ e ∧ e < N (σ.1 2) 0 ∧ ¬ gd (N (σ.1 2) 0) (σ.2 43 (24 * s + j + e - 1)) := by
            apply Classical.byContradiction
            intro hno
            exact hgd fun e a b => Classical.byContradiction fun hc => hno ⟨e, a, b, hc⟩
          obtain ⟨s2, e1⟩ := sx_tried_b (S := σ) n6 hs (j := j) (by omega) (fun s8 => mv_bind (fX0_follow_1 (nI (N (σ.1 2) 0)) s8) fun _ s9 => mv_bind (fX0_discontents s9) fun x10 s11 => some (x10, s11)) (N (σ.1 2) 0 - 1) 1 f (σ.1 44) (by omega) (by omega) hbad
          rw [gs_self, ← hf] at e1
          have eX2 : fX10_tried (nI s) (nI l) (nI j) σ = some (-2, s2) := by rw [eX, li_1, e1]
          have sc1 : Sc σ s2 := (fr_X10_tried _ _ _ σ).sc eX2 (by decide)
          obtain ⟨e, c1, c2, c3⟩ := hbad
          obtain ⟨s3, b1⟩ := sm_tried_b (S := s2) n2 n6 hs (j := j) (by omega) (by rw [sc1.1 46 (by decide)]; exact nm) (N (σ.1 2) 0 - 1) 1 f (s2.1 59) (by omega) (by omega) ⟨e, c1, c2, by rw [hit s2 sc1 e c1 c2]; exact c3⟩
          rw [gs_self, ← hf] at b1
          have eM : fX11_tried (nI s) (nI l) (nI j) s2 = some (-2, s3) := by rw [ref s2 sc1, li_1, b1]
          exact ⟨_, s2, s3, eX2, eM, h.sc hC (sc1.trans ((fr_X11_tried _ _ _ s2).sc eM (by decide)))⟩
      · unfold fX10_tried fX11_tried
        refine pv_same hC h r ?_ ?_
        · rw [hsz, bd_some, en, g1, bd_some, if_neg hr]
        · show mv_bind (fX11_isSheet (nI s) (nI l) σ) _ = _
          rw [ms, bd_some, if_neg (by decide), if_pos hx0, hz, nm, en, g2, bd_some, if_neg hr]
    · unfold fX10_tried fX11_tried
      refine pv_same hC h (-1) ?_ ?_
      · unfold fX6_refusal
        rw [hsz, bd_some, x1 σ, bd_some, if_neg one_ne, x2 σ, bd_some, if_pos rfl, bd_some, if_neg (by decide)]
      · show mv_bind (fX11_isSheet _ _ σ) _ = _
        rw [sm_isSheet (nI s) p2 true false m1 m2 σ, bd_some, if_pos (by decide)]
  · unfold fX10_tried fX11_tried
    refine pv_same hC h (-1) ?_ ?_
    · unfold fX6_refusal
      rw [hsz, bd_some, x1 σ, bd_some, if_pos rfl, bd_some, if_neg (by decide)]
    · show mv_bind (fX11_isSheet _ _ σ) _ = _
      unfold fX11_isSheet
      rw [m1 σ, bd_some, if_pos rfl, bd_some, if_pos rfl]
end ACT
