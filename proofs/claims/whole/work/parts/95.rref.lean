/-! PURE PART: the reference's rings: who leads to whom -/
theorem behind_n {n : Nat} (hn : 0 < n) (h6 : n ≤ 6) {u : Nat} {q : List Nat} (h : Way n (u :: q)) (hq : Way n q) (s : mx_G) : fX11_behind (nI (wnum (u :: q))) s = some (nI (wnum q), s) := by
  have hlen : q.length + 1 ≤ n := h.len hn
  have hb := wnum_lt (hq.dg hn h6)
  have hb2 := (bf_lt hn h6 h).2
  have hp8 := pow8 (n := q.length) (by omega)
  have hpos : 0 < 10 ^ q.length := Nat.pow_pos (by omega)
  unfold fX11_behind
  rw [sm_figures (h.dg hn h6) h.ld (by show q.length + 1 ≤ 8; omega), bd_some]
  have e1 : nI (u :: q).length - 1 = nI q.length := by rw [li_1, List.length_cons, suI (by omega), show q.length + 1 - 1 = q.length by omega]
  rw [e1, sm_ten (by omega), bd_some, if_neg (by rw [li_0, eqI (by omega) (by omega)]; omega), rmI (by omega) hpos (by omega)]
  have : wnum (u :: q) % 10 ^ q.length = wnum q := by
    show (u * 10 ^ q.length + wnum q) % 10 ^ q.length = wnum q
    rw [Nat.mul_comm, Nat.mul_add_mod, Nat.mod_eq_of_lt hb]
  rw [this]
theorem sm_leadsTo {c : Nat → Int32} (ho : WOK c) {n : Nat} (hn : 0 < n) (h6 : n ≤ 6) {L : List (List Nat)} (hL : L.length ≤ 326) (hway : ∀ l ∈ L, Way n l) {t : mx_G} (hw : RW (t.1 46) c) (hm : MR L t) {p r : Nat} {lp lr : List Nat} (hp : L[p]? = some lp) (hr : L[r]? = some lr) : (LDS c lp lr → fX11_leadsTo (nI p) (nI r) t = some (1, t)) ∧ (¬ LDS c lp lr → fX11_leadsTo (nI p) (nI r) t = some (0, t)) := by
  have hpl := get_lt hp
  have hrl := get_lt hr
  have wp : Way n lp := hway lp (List.mem_of_getElem? hp)
  have wr : Way n lr := hway lr (List.mem_of_getElem? hr)
  have bp := (bf_lt hn h6 wp).2
  have hhp := hd0_lt hn wp
  have key : fX11_leadsTo (nI p) (nI r) t = some (1, t) ∧ LDS c lp lr ∨ fX11_leadsTo (nI p) (nI r) t = some (0, t) ∧ ¬ LDS c lp lr := by
    unfold fX11_leadsTo
    rw [ixT (by omega) (by omega), if_pos rfl, clI (by omega), (hm.2 r lr hr).2, (hm.2 r lr hr).1]
    simp only [mv_let]
    cases lr with
    | nil => exact wr.elim
    | cons u q =>
      by_cases z0 : u = 0
      · right
        subst z0
        have hq : q = [] := by
          cases q with
          | nil => rfl
          | cons e r => exact absurd wr.1 (by omega)
        refine ⟨by rw [if_pos (show nI (hd0 (0 :: q)) = 0 from rfl)], ?_⟩
        rintro ⟨u', q', e, hne, -⟩
        injection e with e1 e2
        exact hne (by rw [← e2]; exact hq)
      · obtain ⟨wq, hne⟩ := wr.tail (show 0 < u by omega)
        have hu6 : u < n := wr.lt hn u List.mem_cons_self
        have bq := (bf_lt hn h6 wq).2
        have hhq := hd0_lt hn wq
        have hqlen := wq.len hn
        have hqpos : 0 < q.length := by cases q with
          | nil => exact absurd rfl hne
          | cons => simp
        have hinv : LDS c lp (u :: q) ↔ (lp = q ∨ (hd0 lp = hd0 q ∧ hd0 lp ≠ 0 ∧ rk1 c lp < rk1 c q ∧ (¬ tk c u lp ∨ rkL c (u :: q) < rkL c (u :: lp)))) := by
          constructor
          · rintro ⟨u', q', e, -, h⟩
            injection e with e1 e2
            subst e1 e2
            exact h
          · intro h; exact ⟨u, q, rfl, hne, h⟩
        rw [if_neg (show ¬ nI (hd0 (u :: q)) = 0 by show ¬ nI u = 0; rw [li_0, eqI (by omega) (by omega)]; exact z0), if_pos trivial, behind_n hn h6 wr wq, bd_some, ixT (by omega) (by omega), if_pos rfl, clI (by omega), (hm.2 p lp hp).1, (hm.2 p lp hp).2, hinv]
        by_cases z1 : lp = q
        · left
          exact ⟨by rw [if_pos (by rw [z1])], Or.inl z1⟩
        · rw [if_neg (by rw [eqI (by omega) (by omega)]; exact fun e => z1 (wnum_inj hn h6 wp wq e)), if_pos rfl]
          by_cases z2 : hd0 lp = 0
          · right
            refine ⟨by rw [if_pos (by rw [z2]; rfl)], ?_⟩
            rintro (g | g)
            · exact z1 g
            · exact g.2.1 z2
          · have ef : ∀ τ, fX11_figure (nI (wnum q)) 0 τ = some (nI (hd0 q), τ) := fun τ => by rw [li_0, sm_figure (wq.dg hn h6) wq.ld (by omega) hqpos, hd0_at]
            rw [if_neg (by rw [li_0, eqI (by omega) (by omega)]; exact z2), if_pos rfl, ef, bd_some]
            by_cases z3 : hd0 lp = hd0 q
            · rw [if_pos (by rw [z3]), if_pos rfl, if_pos rfl, (hm.2 p lp hp).1, (hm.2 p lp hp).2]
              cases lp with
              | nil => exact wp.elim
              | cons e x =>
                cases q with
                | nil => exact absurd rfl hne
                | cons e' y =>
                  have z3 : e = e' := z3
                  subst z3
                  have z2 : e ≠ 0 := z2
                  obtain ⟨wx, nx⟩ := wp.tail (show 0 < e by omega)
                  obtain ⟨wy, ny⟩ := wq.tail (show 0 < e by omega)
                  have he6 : e < 6 := by have : e < n := hhp; omega
                  have eb := sm_isBetter (s := t) hw ho hn h6 he6 wp wx wq wy
                  have eb : fX11_isBetter (nI (hd0 (e :: x))) (nI (wnum (e :: x))) (nI (wnum (e :: y))) t = some (if rkL c (e :: x) < rkL c (e :: y) then 1 else 0, t) := eb
                  rw [eb, bd_some, rk1_d nx, rk1_d ny]
                  by_cases z4 : rkL c (e :: x) < rkL c (e :: y)
                  · rw [if_pos z4, if_neg one_ne, if_pos rfl, (hm.2 p _ hp).1]
                    have et := sm_takes (s := t) hw ho hn h6 (show u < 6 by omega) wp
                    have et : fX11_takes (nI (hd0 (u :: e :: y))) (nI (wnum (e :: x))) t = some (if tk c u (e :: x) then 1 else 0, t) := et
                    rw [et, bd_some]
                    by_cases z5 : tk c u (e :: x)
                    · have wux := tk_way ho hn h6 (show 0 < u by omega) hu6 wp z5
                      have hlen2 := wp.len hn
                      have eb2 := sm_isBetter (s := t) hw ho hn h6 (show u < 6 by omega) wr wq wux wp
                      have eb2 : fX11_isBetter (nI (hd0 (u :: e :: y))) (nI (wnum (u :: e :: y))) (nI (wnum (u :: e :: x))) t = some (if rkL c (u :: e :: y) < rkL c (u :: e :: x) then 1 else 0, t) := eb2
                      have etog := sm_together (wp.dg hn h6) wp.ld (by omega) u t
                      have etog : fX11_together (nI (hd0 (u :: e :: y))) (nI (wnum (e :: x))) t = some (nI (wnum (u :: e :: x)), t) := etog
                      rw [if_pos z5, if_neg one_ne, if_pos trivial, if_pos rfl, (hm.2 p _ hp).1, (hm.2 r _ hr).1, etog, bd_some, eb2, bd_some]
                      by_cases z6 : rkL c (u :: e :: y) < rkL c (u :: e :: x)
                      · left
                        exact ⟨by rw [if_pos z6, if_neg one_ne], Or.inr ⟨rfl, z2, z4, Or.inr z6⟩⟩
                      · right
                        refine ⟨by rw [if_neg z6, if_pos rfl], ?_⟩
                        rintro (g | ⟨-, -, -, g | g⟩)
                        · exact z1 g
                        · exact g z5
                        · exact z6 g
                    · left
                      exact ⟨by rw [if_neg z5, if_pos rfl], Or.inr ⟨rfl, z2, z4, Or.inl z5⟩⟩
                  · right
                    refine ⟨by rw [if_neg z4, if_pos rfl], ?_⟩
                    rintro (g | ⟨-, -, g, -⟩)
                    · exact z1 g
                    · exact z4 g
            · right
              refine ⟨by rw [if_neg (by rw [eqI (by omega) (by omega)]; exact z3)], ?_⟩
              rintro (g | g)
              · exact z1 g
              · exact z3 g.1
  rcases key with ⟨a, b⟩ | ⟨a, b⟩
  · exact ⟨fun _ => a, fun q => absurd b q⟩
  · exact ⟨fun q => absurd q b, fun _ => a⟩
theorem sm_leads38 {c : Nat → Int32} (ho : WOK c) {n : Nat} (hn : 0 < n) (h6 : n ≤ 6) {L : List (List Nat)} (hL : L.length ≤ 326) (hway : ∀ l ∈ L, Way n l) {p : Nat} {lp : List Nat} (hp : L[p]? = some lp) (E : Nat → Nat → Prop) (K : mx_G → Option (Unit × mx_G)) : ∀ (m r f : Nat) (t : mx_G), r + m = L.length → RW (t.1 46) c → MR L t → LE t 60 (fun a b => E a b ∨ (a = p ∧ b < r ∧ Eg c L p b)) → ∃ t', lX11_laysLeads_38 (nI p) K (m + 1 + f) (nI r) t = K t' ∧ LE t' 60 (fun a b => E a b ∨ (a = p ∧ Eg c L p b)) ∧ t'.1 = t.1 ∧ ∀ q, q ≠ 60 → t'.2 q = t.2 q := by
  have hpl := get_lt hp
  intro m
  induction m with
  | zero =>
    intro r f t h hw hm hE
    refine ⟨t, ?_, hE.congr (fun a b _ => ?_), rfl, fun _ _ => rfl⟩
    · rw [show 0 + 1 + f = f + 1 by omega, lX11_laysLeads_38, hm.1, if_pos (nI_le (by omega) (by omega))]
    · constructor
      · rintro (g | ⟨g1, g2, g3⟩)
        · exact Or.inl g
        · exact Or.inr ⟨g1, g3⟩
      · rintro (g | ⟨g1, g3⟩)
        · exact Or.inl g
        · refine Or.inr ⟨g1, ?_, g3⟩
          obtain ⟨x, y, y1, y2, -⟩ := g3
          have := get_lt y2
          omega
  | succ m ih =>
    intro r f t h hw hm hE
    have e1 : nI r + 1 = nI (r + 1) := by rw [li_1, adI]
    have hl : L[r]? = some (L[r]'(by omega)) := List.getElem?_eq_getElem (by omega)
    generalize L[r]'(by omega) = lr at hl
    have hlt := sm_leadsTo ho hn h6 hL hway hw hm hp hl
    rw [show m + 1 + 1 + f = (m + 1 + f) + 1 by omega, lX11_laysLeads_38, hm.1, if_neg (nI_ge (by omega) (by omega))]
    by_cases z : LDS c lp lr
    · have d1 : nI r / 64 = nI (r / 64) := by rw [li_64, dvI (by omega) (by omega) (by omega)]
      have d2 : mv_rem (nI r) 64 = nI (r % 64) := by rw [li_64, rmI (by omega) (by omega) (by omega)]
      rw [hlt.1 z, bd_some, if_neg one_ne, d1, d2, li_6, muI, adI, ixT (by omega) (by omega), if_pos rfl, if_pos rfl, clI (by omega), mv_let, e1]
      generalize ht1 : gl t 60 (6 * p + r / 64) (t.2 60 (6 * p + r / 64) ||| mv_lshl 1 (nI (r % 64))) = t1
      have q1 : t1.1 = t.1 := by rw [← ht1]; exact rd_gl1 _ _ _ _
      have q2 : ∀ q, q ≠ 60 → t1.2 q = t.2 q := fun q hq => by rw [← ht1, rd_gl, if_neg hq]
      obtain ⟨t', c1, c2, c3, c4⟩ := ih (r + 1) f t1 (by omega) (by rw [q1]; exact hw) (by unfold MR at hm ⊢; rw [q1]; exact hm) (by
        intro a k s ha hk hs
        rw [← ht1, rd_gl, if_pos rfl, updL_rd]
        by_cases y : a * 6 + k = 6 * p + r / 64
        · have y1 : a = p := by omega
          have y2 : k = r / 64 := by omega
          subst y1 y2
          rw [if_pos y, tb_or, Bool.or_eq_true, show 6 * a + r / 64 = a * 6 + r / 64 by omega, hE a (r / 64) s ha hk hs, tb_bit (r % 64) (by omega) s hs, decide_eq_true_iff]
          constructor
          · rintro ((g | ⟨g1, g2, g3⟩) | g)
            · exact Or.inl g
            · exact Or.inr ⟨rfl, by omega, g3⟩
            · exact Or.inr ⟨rfl, by omega, by rw [show 64 * (r / 64) + s = r by omega]; exact ⟨lp, lr, hp, hl, z⟩⟩
          · rintro (g | ⟨g1, g2, g3⟩)
            · exact Or.inl (Or.inl g)
            · by_cases w : 64 * (r / 64) + s = r
              · exact Or.inr (by omega)
              · exact Or.inl (Or.inr ⟨rfl, by omega, g3⟩)
        · rw [if_neg y, hE a k s ha hk hs]
          constructor
          · rintro (g | ⟨g1, g2, g3⟩)
            · exact Or.inl g
            · exact Or.inr ⟨g1, by omega, g3⟩
          · rintro (g | ⟨g1, g2, g3⟩)
            · exact Or.inl g
            · refine Or.inr ⟨g1, ?_, g3⟩
              subst g1
              omega)
      exact ⟨t', c1, c2, c3.trans q1, fun q hq => (c4 q hq).trans (q2 q hq)⟩
    · rw [hlt.2 z, bd_some, if_pos rfl, e1]
      refine ih (r + 1) f t (by omega) hw hm (hE.congr (fun a b _ => ?_))
      constructor
      · rintro (g | ⟨g1, g2, g3⟩)
        · exact Or.inl g
        · exact Or.inr ⟨g1, by omega, g3⟩
      · rintro (g | ⟨g1, g2, g3⟩)
        · exact Or.inl g
        · refine Or.inr ⟨g1, ?_, g3⟩
          by_cases y : b = r
          · exfalso
            obtain ⟨x1, x2, y1, y2, y3⟩ := g3
            rw [hp] at y1
            rw [y, hl] at y2
            injection y1 with y1
            injection y2 with y2
            subst y1 y2
            exact z y3
          · omega
theorem sm_laysLeads {c : Nat → Int32} (ho : WOK c) {n : Nat} (hn : 0 < n) (h6 : n ≤ 6) (hN : n = N c 0) {t : mx_G} (hw : RW (t.1 46) c) (h0 : t.1 46 0 = nI n) : ∃ t', fX11_laysLeads t = some ((), t') ∧ MR (WL c n) t' ∧ LE t' 60 (Eg c (WL c n)) ∧ (∀ j, j ≠ 13 → t'.1 45 j = t.1 45 j) ∧ (∀ p, p ∉ [45, 54, 55] → t'.1 p = t.1 p) ∧ ∀ p, p ≠ 60 → t'.2 p = t.2 p := by
  subst hN
  obtain ⟨hL, -, hway, -⟩ := WL_ok ho
  obtain ⟨t1, a1, a2, a3, a4, a5⟩ := sm_laysWays ho hn h6 hw h0
  have fill : ∀ (K : mx_G → Option (Unit × mx_G)) (m k f : Nat) (g : Nat → Int64), k + m = 1956 → (∀ j, j < k → g j = 0) → ∃ g', lX11_laysLeads_6 K (m + 1 + f) (nI k) (gt t1 60 g) = K (gt t1 60 g') ∧ ∀ j, j < 1956 → g' j = 0 := by
    intro K m
    induction m with
    | zero =>
      intro k f g h hg
      refine ⟨g, ?_, fun j hj => hg j (by omega)⟩
      rw [show 0 + 1 + f = f + 1 by omega, lX11_laysLeads_6, if_pos (by rw [li_1956, leI (by omega) (by omega)]; omega)]
    | succ m ih =>
      intro k f g h hg
      have e1 : nI k + 1 = nI (k + 1) := by rw [li_1, adI]
      rw [show m + 1 + 1 + f = (m + 1 + f) + 1 by omega, lX11_laysLeads_6, if_neg (by rw [li_1956, leI (by omega) (by omega)]; omega), ixT (by omega) (by omega), if_pos rfl, clI (by omega), mv_let, gl_of, e1]
      refine ih (k + 1) f _ (by omega) (fun j hj => ?_)
      rw [updL_rd]
      by_cases z : j = k
      · rw [if_pos z]
      · rw [if_neg z]; exact hg j (by omega)
  have outer : ∀ (m p f : Nat) (t : mx_G), p + m = (WL c (N c 0)).length → t.1 = t1.1 → LE t 60 (fun a b => a < p ∧ Eg c (WL c (N c 0)) a b) → ∃ t', lX11_laysLeads_28 (m + 1 + f) (nI p) t = some ((), t') ∧ LE t' 60 (Eg c (WL c (N c 0))) ∧ t'.1 = t1.1 ∧ ∀ q, q ≠ 60 → t'.2 q = t.2 q := by
    intro m
    induction m with
    | zero =>
      intro p f t h ht hE
      refine ⟨t, ?_, hE.congr (fun a b _ => ?_), ht, fun _ _ => rfl⟩
      · rw [show 0 + 1 + f = f + 1 by omega, lX11_laysLeads_28, ht, a2.1, if_pos (nI_le (by omega) (by omega))]
      · constructor
        · intro g; exact g.2
        · intro g
          refine ⟨?_, g⟩
          obtain ⟨x, y, y1, -⟩ := g
          have := get_lt y1
          omega
    | succ m ih =>
      intro p f t h ht hE
      have e1 : nI p + 1 = nI (p + 1) := by rw [li_1, adI]
      have hl : (WL c (N c 0))[p]? = some ((WL c (N c 0))[p]'(by omega)) := List.getElem?_eq_getElem (by omega)
      generalize (WL c (N c 0))[p]'(by omega) = lp at hl
      obtain ⟨g, hg⟩ := FU_lt (n := (WL c (N c 0)).length) (by omega)
      obtain ⟨t2, b1, b2, b3, b4⟩ := sm_leads38 ho hn h6 hL hway hl (fun a b => a < p ∧ Eg c (WL c (N c 0)) a b) (fun s7 => lX11_laysLeads_28 (m + 1 + f) (nI (p + 1)) s7) (WL c (N c 0)).length 0 g t (Nat.zero_add _) (by rw [ht, (a5 46 (by decide)).1]; exact hw) (by unfold MR at a2 ⊢; rw [ht]; exact a2) (hE.congr (fun a b _ => by
        constructor
        · intro z; exact Or.inl z
        · rintro (z | ⟨-, z, -⟩)
          · exact z
          · omega))
      rw [← hg] at b1
      rw [show m + 1 + 1 + f = (m + 1 + f) + 1 by omega, lX11_laysLeads_28, ht, a2.1, if_neg (nI_ge (by omega) (by omega)), e1]
      obtain ⟨t', c1, c2, c3, c4⟩ := ih (p + 1) f t2 (by omega) (b3.trans ht) (b2.congr (fun a b _ => by
        constructor
        · rintro (z | ⟨z1, z2⟩)
          · exact ⟨by omega, z.2⟩
          · exact ⟨by omega, by rw [z1]; exact z2⟩
        · rintro ⟨z1, z2⟩
          by_cases y : a = p
          · exact Or.inr ⟨y, by rw [← y]; exact z2⟩
          · exact Or.inl ⟨by omega, z2⟩))
      exact ⟨t', Eq.trans b1 c1, c2, c3, fun q hq => (c4 q hq).trans (b4 q hq)⟩
  obtain ⟨f, hf⟩ := FU_lt (n := 1956) (by omega)
  obtain ⟨f2, hf2⟩ := FU_lt (n := (WL c (N c 0)).length) (by omega)
  obtain ⟨g', b1, b2⟩ := fill (fun s3 => lX11_laysLeads_28 FU 0 s3) 1956 0 f (t1.2 60) (by omega) (fun j hj => absurd hj (by omega))
  rw [gt_self, ← hf] at b1
  obtain ⟨t', c1, c2, c3, c4⟩ := outer (WL c (N c 0)).length 0 f2 (gt t1 60 g') (Nat.zero_add _) (rd_gt1 _ _ _) (by
    intro a k s ha hk hs
    rw [rd_gt, if_pos rfl, b2 _ (by omega), tb_0]
    constructor
    · intro z; cases z
    · rintro ⟨z, -⟩; omega)
  rw [← hf2] at c1
  refine ⟨t', ?_, ?_, c2, fun j hj => by rw [c3]; exact a4 j hj, fun p hp => by rw [c3]; exact (a5 p hp).1, fun p hp => by rw [c4 p hp, rd_gt, if_neg hp, a3]⟩
  · unfold fX11_laysLeads
    rw [a1, bd_some]
    exact Eq.trans b1 c1
  · unfold MR at a2 ⊢
    rw [c3]
    exact a2
