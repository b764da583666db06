/-! PURE PART: ways by next domains -/
/-- the way by next ones, m steps at most -/
def wk (x : Nat → Nat) : Nat → Nat → Option (List Nat)
  | 0, d => if d = 0 then some [0] else none
  | m + 1, d => if d = 0 then some [0] else if x d = 9 then none else (wk x m (x d)).map (d :: ·)
def Pt (x : Nat → Nat) : List Nat → Prop
  | [] => False
  | [d] => d = 0
  | d :: e :: r => 0 < d ∧ x d = e ∧ x d ≠ 9 ∧ Pt x (e :: r)
theorem wk_pt (x : Nat → Nat) : ∀ (m d : Nat) (l : List Nat), wk x m d = some l → Pt x l ∧ hd0 l = d ∧ l.length ≤ m + 1 := by
  intro m
  induction m with
  | zero =>
    intro d l h
    rw [wk] at h
    by_cases z : d = 0
    · rw [if_pos z] at h
      injection h with h
      subst h
      exact ⟨rfl, z.symm, by simp⟩
    · rw [if_neg z] at h; cases h
  | succ m ih =>
    intro d l h
    rw [wk] at h
    by_cases z : d = 0
    · rw [if_pos z] at h
      injection h with h
      subst h
      exact ⟨rfl, z.symm, by simp⟩
    · rw [if_neg z] at h
      by_cases z9 : x d = 9
      · rw [if_pos z9] at h; cases h
      · rw [if_neg z9] at h
        cases hr : wk x m (x d) with
        | none => rw [hr] at h; cases h
        | some r =>
          rw [hr] at h
          have h : some (d :: r) = some l := h
          injection h with h
          subst h
          obtain ⟨g1, g2, g3⟩ := ih _ r hr
          cases r with
          | nil => exact g1.elim
          | cons e r =>
            have g2 : e = x d := g2
            refine ⟨⟨by omega, g2.symm, z9, g1⟩, rfl, ?_⟩
            simp only [List.length_cons] at g3 ⊢
            omega
theorem pt_wk (x : Nat → Nat) : ∀ (r : List Nat) (m d : Nat), Pt x (d :: r) → r.length ≤ m → wk x m d = some (d :: r) := by
  intro r
  induction r with
  | nil =>
    intro m d h _
    have h : d = 0 := h
    subst h
    cases m <;> rfl
  | cons e r ih =>
    intro m d h hm
    obtain ⟨h1, h2, h3, h4⟩ := h
    cases m with
    | zero => simp at hm
    | succ m =>
      rw [wk, if_neg (by omega), if_neg h3, h2, ih m e h4 (by simpa using hm)]
      rfl
theorem pt_uniq (x : Nat → Nat) : ∀ (r r' : List Nat) (d : Nat), Pt x (d :: r) → Pt x (d :: r') → r = r' := by
  intro r
  induction r with
  | nil =>
    intro r' d h h'
    have h : d = 0 := h
    cases r' with
    | nil => rfl
    | cons e r' => exact absurd h'.1 (by omega)
  | cons e r ih =>
    intro r' d h h'
    cases r' with
    | nil =>
      have h' : d = 0 := h'
      exact absurd h.1 (by omega)
    | cons e' r' =>
      have e1 : e = e' := h.2.1.symm.trans h'.2.1
      subst e1
      rw [ih r' e h.2.2.2 h'.2.2.2]
theorem pt_mem (x : Nat → Nat) : ∀ (l : List Nat) (d : Nat), Pt x l → d ∈ l → ∃ r, Pt x (d :: r) ∧ r.length < l.length := by
  intro l
  induction l with
  | nil => intro d h; exact h.elim
  | cons a l ih =>
    intro d h hd
    rcases List.mem_cons.mp hd with rfl | hd
    · exact ⟨l, h, by simp⟩
    · cases l with
      | nil => simp at hd
      | cons e l =>
        obtain ⟨r, g1, g2⟩ := ih d h.2.2.2 hd
        exact ⟨r, g1, by simp only [List.length_cons] at g2 ⊢; omega⟩
theorem pt_way (x : Nat → Nat) {n : Nat} (hx : ∀ d, 0 < d → d < n → x d < n ∨ x d = 9) : ∀ (l : List Nat), Pt x l → hd0 l < n → Way n l := by
  intro l
  induction l with
  | nil => intro h _; exact h.elim
  | cons d l ih =>
    intro h hd
    cases l with
    | nil => exact h
    | cons e r =>
      have hd : d < n := hd
      have he : e < n := by
        have := hx d h.1 hd
        have h2 := h.2.1
        have h3 := h.2.2.1
        omega
      refine ⟨h.1, hd, fun z => ?_, ih h.2.2.2 he⟩
      obtain ⟨r', g1, g2⟩ := pt_mem x (e :: r) d h.2.2.2 z
      have := pt_uniq x _ _ d h g1
      rw [this] at g2
      exact absurd g2 (by omega)
theorem wk_way (x : Nat → Nat) {n : Nat} (hx : ∀ d, 0 < d → d < n → x d < n ∨ x d = 9) {m d : Nat} (hd : d < n) {l : List Nat} (h : wk x m d = some l) : Way n l ∧ hd0 l = d := by
  obtain ⟨g1, g2, -⟩ := wk_pt x m d l h
  exact ⟨pt_way x hx l g1 (by rw [g2]; exact hd), g2⟩
theorem wk_56 (x : Nat → Nat) {n : Nat} (h6 : n ≤ 6) (hx : ∀ d, 0 < d → d < n → x d < n ∨ x d = 9) {d : Nat} (hd : d < n) : wk x 6 d = wk x 5 d := by
  cases h : wk x 6 d with
  | none =>
    cases h5 : wk x 5 d with
    | none => rfl
    | some l =>
      obtain ⟨g1, g2, g3⟩ := wk_pt x 5 d l h5
      cases l with
      | nil => exact g1.elim
      | cons a r =>
        have g2 : a = d := g2
        subst g2
        have := pt_wk x r 6 a g1 (by simp only [List.length_cons] at g3; omega)
        rw [this] at h; cases h
  | some l =>
    obtain ⟨g1, g2, g3⟩ := wk_pt x 6 d l h
    have hw := (wk_way x hx hd h).1.len (by omega)
    cases l with
    | nil => exact g1.elim
    | cons a r =>
      have g2 : a = d := g2
      subst g2
      exact (pt_wk x r 5 a g1 (by simp only [List.length_cons] at hw; omega)).symm
theorem ms_snoc (p : List Nat) (x : Nat) : ms (p ++ [x]) = ms p ||| 2 ^ x := by
  apply Nat.eq_of_testBit_eq
  intro i
  rw [ms_bit, Nat.testBit_or, ms_bit, Nat.testBit_two_pow]
  by_cases h : x = i
  · subst h; simp
  · have : ¬ i = x := fun z => h z.symm
    simp [h, this]
/-- the choices by next ones -/
def fw (x : Nat → Nat) (n d : Nat) : Option (List Nat) := if d < n then wk x 5 d else none
theorem fw_ok (x : Nat → Nat) {n : Nat} (hn : 0 < n) (hx : ∀ d, 0 < d → d < n → x d < n ∨ x d = 9) : okC n (fw x n) := by
  refine ⟨?_, fun d hd l hl => ?_⟩
  · unfold fw; rw [if_pos hn]; rfl
  · unfold fw at hl
    by_cases h : d < n
    · rw [if_pos h] at hl
      exact wk_way x hx h hl
    · rw [if_neg h] at hl; cases hl
theorem sx_walk_l (x : Nat → Nat) {n : Nat} (h6 : n ≤ 6) (hx : ∀ d, 0 < d → d < n → x d < n ∨ x d = 9) (s : mx_G) (hs : ∀ d, 0 < d → d < n → s.1 33 d = nI (x d)) (a : Int32) (K : Int32 → Int32 → Int32 → Int32 → mx_G → Option (Unit × mx_G)) (hK : ∀ (y1 y2 y4 : Int32) (t : Nat), t < 6 → t ≠ 0 → K y1 y2 (nI t) y4 s = some ((), s)) : ∀ (m k f : Nat) (q : List Nat) (t : Nat), q.length + 1 = k → k + m = 6 → t < n → (∀ y ∈ q, y < 6) → lX0_walk_13 a K (m + 1 + f) (nI (wnum (q ++ [t]))) (nI (ms (q ++ [t]))) (nI t) (nI k) s = match wk x m t with | none => some ((), s) | some r => K (nI (wnum (q ++ r))) (nI (ms (q ++ r))) 0 (nI (q.length + r.length)) s := by
  intro m
  induction m with
  | zero =>
    intro k f q t hq hk ht hl
    rw [show 0 + 1 + f = f + 1 by omega, lX0_walk_13, if_pos (by rw [li_6, leI (by omega) (by omega)]; omega), wk]
    by_cases z : t = 0
    · subst z
      rw [if_pos rfl, ← hq]
      rfl
    · rw [if_neg z]
      exact hK _ _ _ t (by omega) z
  | succ m ih =>
    intro k f q t hq hk ht hl
    rw [show m + 1 + 1 + f = (m + 1 + f) + 1 by omega, lX0_walk_13, if_neg (by rw [li_6, leI (by omega) (by omega)]; omega), wk]
    by_cases z : t = 0
    · subst z
      rw [if_pos (by decide), if_pos rfl, ← hq]
      rfl
    · have hx1 := hx t (by omega) ht
      rw [if_neg (by rw [li_0, leI (by omega) (by omega)]; omega), ixT (by omega) (by omega), if_pos rfl, clI (by omega), hs t (by omega) ht, mv_let, if_neg z]
      rw [if_neg (by rw [li_0, ltI (by omega) (by omega)]; omega)]
      by_cases z9 : x t = 9
      · rw [if_neg (by rw [li_6, ltI (by omega) (by omega)]; omega), if_pos z9]
      · have hm := ms_lt (l := q ++ [t]) (fun y hy => by
          rcases List.mem_append.mp hy with hy | hy
          · exact hl y hy
          · rw [List.mem_singleton] at hy; omega)
        have h2 : 2 ^ (x t) < 2 ^ 6 := Nat.pow_lt_pow_right (by omega) (by omega)
        have e1 : nI k + 1 = nI (k + 1) := by rw [li_1, adI]
        rw [if_pos (by rw [li_6, ltI (by omega) (by omega)]; omega), if_neg z9, mv_let, mv_let, li_10, muI, adI, ← wnum_snoc, shl_n (x t) (by omega), or_n _ hm _ h2, ← ms_snoc, e1, ih (k + 1) f (q ++ [t]) (x t) (by simp; omega) (by omega) (by omega) (fun y hy => by
          rcases List.mem_append.mp hy with hy | hy
          · exact hl y hy
          · rw [List.mem_singleton] at hy; omega)]
        cases wk x m (x t) with
        | none => rfl
        | some r =>
          show K (nI (wnum (q ++ [t] ++ r))) (nI (ms (q ++ [t] ++ r))) 0 (nI ((q ++ [t]).length + r.length)) s = K (nI (wnum (q ++ t :: r))) (nI (ms (q ++ t :: r))) 0 (nI (q.length + (t :: r).length)) s
          rw [List.append_assoc, List.singleton_append, List.length_append, List.length_singleton, List.length_cons, Nat.add_assoc, Nat.add_comm 1]
theorem sx_walk (x : Nat → Nat) {n : Nat} (h6 : n ≤ 6) (hx : ∀ d, 0 < d → d < n → x d < n ∨ x d = 9) (s : mx_G) (hs : ∀ d, 0 < d → d < n → s.1 33 d = nI (x d)) {d : Nat} (hd0 : 0 < d) (hd : d < n) (h10 : s.1 10 d = -4) (h11 : s.1 11 d = nI 0) (h12 : s.1 12 d = nI 9) (h13 : s.1 13 d = nI 0) : ∃ s', fX0_walk (nI d) s = some ((), s') ∧ s'.1 10 = upd (s.1 10) d (val (wk x 5 d)) ∧ s'.1 11 = upd (s.1 11) d (nI (mem (wk x 5 d))) ∧ s'.1 12 = upd (s.1 12) d (nI (scd (wk x 5 d))) ∧ s'.1 13 = upd (s.1 13) d (nI (len (wk x 5 d))) := by
  obtain ⟨f, hf⟩ := FU_lt (n := 5) (by omega)
  have hw0 : wnum [d] = d := by simp [wnum]
  have hm0 : ms [d] = 2 ^ d := by simp [ms]
  have e := sx_walk_l x h6 hx s hs (nI d) (fun y6 y7 y8 y9 s5 =>
      if y8 = 0 then
        if ix (nI d) 6 = true then
          mv_let (gi s5 10 (Int32.toNatClampNeg (nI d)) y6) fun s10 =>
          if ix (nI d) 6 = true then
            mv_let (gi s10 11 (Int32.toNatClampNeg (nI d)) y7) fun s11 =>
            if ix (nI d) 6 = true then
              if ix (nI d) 6 = true then
                mv_let (gi s11 12 (Int32.toNatClampNeg (nI d)) (s11.1 33 (Int32.toNatClampNeg (nI d)))) fun s12 =>
                if ix (nI d) 6 = true then
                  mv_let (gi s12 13 (Int32.toNatClampNeg (nI d)) y9) fun s13 =>
                  some ((), s13)
                else none
              else none
            else none
          else none
        else none
      else
        some ((), s5)) (fun y1 y2 y4 t ht h0 => if_neg (by rw [li_0, eqI (by omega) (by omega)]; exact h0)) 5 1 f [] d rfl (by omega) hd (fun y hy => by simp at hy)
  rw [← hf] at e
  simp only [List.nil_append, hw0, hm0, List.length_nil] at e
  unfold fX0_walk
  rw [shl_n d (by omega), mv_let, li_1, e]
  cases hwk : wk x 5 d with
  | none => exact ⟨s, rfl, (upd_self _ h10).symm, (upd_self _ h11).symm, (upd_self _ h12).symm, (upd_self _ h13).symm⟩
  | some l =>
    obtain ⟨g1, g2, -⟩ := wk_pt x 5 d l hwk
    have hsec : sec l = x d := by
      cases l with
      | nil => exact g1.elim
      | cons a r =>
        have g2 : a = d := g2
        subst g2
        cases r with
        | nil =>
          have g1 : a = 0 := g1
          omega
        | cons b r => exact g1.2.1.symm
    have hs9 := hs d hd0 hd
    simp (disch := omega) only [if_true, ixT, clI, mv_let, Nat.zero_add]
    refine ⟨_, rfl, ?_, ?_, ?_, ?_⟩
    · simp only [rd_gi, Nat.reduceEqDiff, if_false, if_true]; rfl
    · simp only [rd_gi, Nat.reduceEqDiff, if_false, if_true]; rfl
    · simp only [rd_gi, Nat.reduceEqDiff, if_false, if_true]
      rw [hs9, ← hsec]; rfl
    · simp only [rd_gi, Nat.reduceEqDiff, if_false, if_true]; rfl
theorem sx_follow_l (x : Nat → Nat) {n : Nat} (hn : 0 < n) (h6 : n ≤ 6) (hx : ∀ d, 0 < d → d < n → x d < n ∨ x d = 9) : ∀ (m d f : Nat) (s : mx_G), d + m = 6 → 0 < d → (∀ e, 0 < e → e < n → s.1 33 e = nI (x e)) → (∀ e, e < d → s.1 10 e = val (fw x n e) ∧ s.1 11 e = nI (mem (fw x n e)) ∧ s.1 12 e = nI (scd (fw x n e)) ∧ s.1 13 e = nI (len (fw x n e))) → ∃ s', lX0_follow_8 (nI n) (m + 1 + f) (nI d) s = some ((), s') ∧ LD s' (fw x n) := by
  intro m
  induction m with
  | zero =>
    intro d f s h h1 hs hd
    refine ⟨s, ?_, fun e he => hd e (by omega)⟩
    rw [show 0 + 1 + f = f + 1 by omega, lX0_follow_8, if_pos (by rw [li_6, leI (by omega) (by omega)]; omega)]
  | succ m ih =>
    intro d f s h h1 hs hd
    have e1 : nI d + 1 = nI (d + 1) := by rw [li_1, adI]
    have p1 := sx_putNone d (by omega) s
    generalize hs1 : gs (gs (gs (gs s 10 (upd (s.1 10) d (-4))) 13 (upd (s.1 13) d 0)) 11 (upd (s.1 11) d 0)) 12 (upd (s.1 12) d 9) = s1 at p1
    have r10 : s1.1 10 = upd (s.1 10) d (-4) := by rw [← hs1]; simp only [rd_gs, Nat.reduceEqDiff, if_false, if_true]
    have r11 : s1.1 11 = upd (s.1 11) d 0 := by rw [← hs1]; simp only [rd_gs, Nat.reduceEqDiff, if_false, if_true]
    have r12 : s1.1 12 = upd (s.1 12) d 9 := by rw [← hs1]; simp only [rd_gs, Nat.reduceEqDiff, if_false, if_true]
    have r13 : s1.1 13 = upd (s.1 13) d 0 := by rw [← hs1]; simp only [rd_gs, Nat.reduceEqDiff, if_false, if_true]
    have r33 : s1.1 33 = s.1 33 := by rw [← hs1]; simp only [rd_gs, Nat.reduceEqDiff, if_false]
    rw [show m + 1 + 1 + f = (m + 1 + f) + 1 by omega, lX0_follow_8, if_neg (by rw [li_6, leI (by omega) (by omega)]; omega), p1, bd_some, e1]
    by_cases hdn : n ≤ d
    · rw [if_pos (by rw [leI (by omega) (by omega)]; exact hdn)]
      refine ih (d + 1) f s1 (by omega) (by omega) (fun e a b => by rw [r33]; exact hs e a b) (fun e he => ?_)
      rw [r10, r11, r12, r13, upd_rd, upd_rd, upd_rd, upd_rd]
      by_cases z : e = d
      · subst z
        have : fw x n e = none := by unfold fw; rw [if_neg (by omega)]
        rw [this]
        simp only [if_true]
        exact ⟨rfl, rfl, rfl, rfl⟩
      · simp only [z, if_false]; exact hd e (by omega)
    · rw [if_neg (by rw [leI (by omega) (by omega)]; exact hdn)]
      obtain ⟨s2, w1, w10, w11, w12, w13⟩ := sx_walk x h6 hx s1 (fun e a b => by rw [r33]; exact hs e a b) h1 (by omega) (by rw [r10, upd_rd, if_pos rfl]) (by rw [r11, upd_rd, if_pos rfl]; rfl) (by rw [r12, upd_rd, if_pos rfl]; rfl) (by rw [r13, upd_rd, if_pos rfl]; rfl)
      have fr := fr_X0_walk _ s1 _ _ w1 33 (by decide)
      rw [w1, bd_some]
      refine ih (d + 1) f s2 (by omega) (by omega) (fun e a b => by rw [fr.1, r33]; exact hs e a b) (fun e he => ?_)
      rw [w10, w11, w12, w13, r10, r11, r12, r13, upd_rd, upd_rd, upd_rd, upd_rd, upd_rd, upd_rd, upd_rd, upd_rd]
      by_cases z : e = d
      · subst z
        have : fw x n e = wk x 5 e := by unfold fw; rw [if_pos (by omega)]
        rw [this]
        simp only [if_true]
        exact ⟨trivial, trivial, trivial, trivial⟩
      · simp only [z, if_false]; exact hd e (by omega)
theorem sx_follow (x : Nat → Nat) {n : Nat} (hn : 0 < n) (h6 : n ≤ 6) (hx : ∀ d, 0 < d → d < n → x d < n ∨ x d = 9) {s : mx_G} (hs : ∀ e, 0 < e → e < n → s.1 33 e = nI (x e)) : ∃ s', fX0_follow (nI n) s = some ((), s') ∧ LD s' (fw x n) ∧ ∀ p : Nat, p ∉ [10, 11, 12, 13] → s'.1 p = s.1 p ∧ s'.2 p = s.2 p := by
  obtain ⟨f, hf⟩ := FU_lt (n := 5) (by omega)
  obtain ⟨s1, e1, r1, r2, r3, r4⟩ := sx_put (n := n) hn h6 (d := 0) (by omega) (some [0]) (fun l hl => by injection hl with hl; subst hl; exact rfl) s
  have fr := fr_X0_put _ _ s _ _ e1
  have hf0 : fw x n 0 = some [0] := (fw_ok x hn hx).1
  obtain ⟨s', e2, hl⟩ := sx_follow_l x hn h6 hx 5 1 f s1 (by omega) (by omega) (fun e a b => by rw [(fr 33 (by decide)).1]; exact hs e a b) (fun e he => by
    have : e = 0 := by omega
    subst this
    rw [r1, r2, r3, r4, upd_rd, upd_rd, upd_rd, upd_rd, hf0]
    simp only [if_true]
    exact ⟨trivial, trivial, trivial, trivial⟩)
  rw [← hf] at e2
  have e : fX0_follow (nI n) s = some ((), s') := by
    unfold fX0_follow
    have e1 : fX0_put 0 0 s = some ((), s1) := e1
    rw [e1, bd_some, li_1]
    exact e2
  exact ⟨s', e, hl, fun p hp => fr_X0_follow _ s _ _ e p hp⟩
theorem sx_walk_1_l (x : Nat → Nat) {n : Nat} (h6 : n ≤ 6) (hx : ∀ d, 0 < d → d < n → x d < n ∨ x d = 9) (s : mx_G) (hs : ∀ d, 0 < d → d < n → s.1 44 d = nI (x d)) (a : Int32) (K : Int32 → Int32 → Int32 → Int32 → mx_G → Option (Unit × mx_G)) (hK : ∀ (y1 y2 y4 : Int32) (t : Nat), t < 6 → t ≠ 0 → K y1 y2 (nI t) y4 s = some ((), s)) : ∀ (m k f : Nat) (q : List Nat) (t : Nat), q.length + 1 = k → k + m = 6 → t < n → (∀ y ∈ q, y < 6) → lX0_walk_1_13 a K (m + 1 + f) (nI (wnum (q ++ [t]))) (nI (ms (q ++ [t]))) (nI t) (nI k) s = match wk x m t with | none => some ((), s) | some r => K (nI (wnum (q ++ r))) (nI (ms (q ++ r))) 0 (nI (q.length + r.length)) s := by
  intro m
  induction m with
  | zero =>
    intro k f q t hq hk ht hl
    rw [show 0 + 1 + f = f + 1 by omega, lX0_walk_1_13, if_pos (by rw [li_6, leI (by omega) (by omega)]; omega), wk]
    by_cases z : t = 0
    · subst z
      rw [if_pos rfl, ← hq]
      rfl
    · rw [if_neg z]
      exact hK _ _ _ t (by omega) z
  | succ m ih =>
    intro k f q t hq hk ht hl
    rw [show m + 1 + 1 + f = (m + 1 + f) + 1 by omega, lX0_walk_1_13, if_neg (by rw [li_6, leI (by omega) (by omega)]; omega), wk]
    by_cases z : t = 0
    · subst z
      rw [if_pos (by decide), if_pos rfl, ← hq]
      rfl
    · have hx1 := hx t (by omega) ht
      rw [if_neg (by rw [li_0, leI (by omega) (by omega)]; omega), ixT (by omega) (by omega), if_pos rfl, clI (by omega), hs t (by omega) ht, mv_let, if_neg z]
      rw [if_neg (by rw [li_0, ltI (by omega) (by omega)]; omega)]
      by_cases z9 : x t = 9
      · rw [if_neg (by rw [li_6, ltI (by omega) (by omega)]; omega), if_pos z9]
      · have hm := ms_lt (l := q ++ [t]) (fun y hy => by
          rcases List.mem_append.mp hy with hy | hy
          · exact hl y hy
          · rw [List.mem_singleton] at hy; omega)
        have h2 : 2 ^ (x t) < 2 ^ 6 := Nat.pow_lt_pow_right (by omega) (by omega)
        have e1 : nI k + 1 = nI (k + 1) := by rw [li_1, adI]
        rw [if_pos (by rw [li_6, ltI (by omega) (by omega)]; omega), if_neg z9, mv_let, mv_let, li_10, muI, adI, ← wnum_snoc, shl_n (x t) (by omega), or_n _ hm _ h2, ← ms_snoc, e1, ih (k + 1) f (q ++ [t]) (x t) (by simp; omega) (by omega) (by omega) (fun y hy => by
          rcases List.mem_append.mp hy with hy | hy
          · exact hl y hy
          · rw [List.mem_singleton] at hy; omega)]
        cases wk x m (x t) with
        | none => rfl
        | some r =>
          show K (nI (wnum (q ++ [t] ++ r))) (nI (ms (q ++ [t] ++ r))) 0 (nI ((q ++ [t]).length + r.length)) s = K (nI (wnum (q ++ t :: r))) (nI (ms (q ++ t :: r))) 0 (nI (q.length + (t :: r).length)) s
          rw [List.append_assoc, List.singleton_append, List.length_append, List.length_singleton, List.length_cons, Nat.add_assoc, Nat.add_comm 1]
theorem sx_walk_1 (x : Nat → Nat) {n : Nat} (h6 : n ≤ 6) (hx : ∀ d, 0 < d → d < n → x d < n ∨ x d = 9) (s : mx_G) (hs : ∀ d, 0 < d → d < n → s.1 44 d = nI (x d)) {d : Nat} (hd0 : 0 < d) (hd : d < n) (h10 : s.1 10 d = -4) (h11 : s.1 11 d = nI 0) (h12 : s.1 12 d = nI 9) (h13 : s.1 13 d = nI 0) : ∃ s', fX0_walk_1 (nI d) s = some ((), s') ∧ s'.1 10 = upd (s.1 10) d (val (wk x 5 d)) ∧ s'.1 11 = upd (s.1 11) d (nI (mem (wk x 5 d))) ∧ s'.1 12 = upd (s.1 12) d (nI (scd (wk x 5 d))) ∧ s'.1 13 = upd (s.1 13) d (nI (len (wk x 5 d))) := by
  obtain ⟨f, hf⟩ := FU_lt (n := 5) (by omega)
  have hw0 : wnum [d] = d := by simp [wnum]
  have hm0 : ms [d] = 2 ^ d := by simp [ms]
  have e := sx_walk_1_l x h6 hx s hs (nI d) (fun y6 y7 y8 y9 s5 =>
      if y8 = 0 then
        if ix (nI d) 6 = true then
          mv_let (gi s5 10 (Int32.toNatClampNeg (nI d)) y6) fun s10 =>
          if ix (nI d) 6 = true then
            mv_let (gi s10 11 (Int32.toNatClampNeg (nI d)) y7) fun s11 =>
            if ix (nI d) 6 = true then
              if ix (nI d) 6 = true then
                mv_let (gi s11 12 (Int32.toNatClampNeg (nI d)) (s11.1 44 (Int32.toNatClampNeg (nI d)))) fun s12 =>
                if ix (nI d) 6 = true then
                  mv_let (gi s12 13 (Int32.toNatClampNeg (nI d)) y9) fun s13 =>
                  some ((), s13)
                else none
              else none
            else none
          else none
        else none
      else
        some ((), s5)) (fun y1 y2 y4 t ht h0 => if_neg (by rw [li_0, eqI (by omega) (by omega)]; exact h0)) 5 1 f [] d rfl (by omega) hd (fun y hy => by simp at hy)
  rw [← hf] at e
  simp only [List.nil_append, hw0, hm0, List.length_nil] at e
  unfold fX0_walk_1
  rw [shl_n d (by omega), mv_let, li_1, e]
  cases hwk : wk x 5 d with
  | none => exact ⟨s, rfl, (upd_self _ h10).symm, (upd_self _ h11).symm, (upd_self _ h12).symm, (upd_self _ h13).symm⟩
  | some l =>
    obtain ⟨g1, g2, -⟩ := wk_pt x 5 d l hwk
    have hsec : sec l = x d := by
      cases l with
      | nil => exact g1.elim
      | cons a r =>
        have g2 : a = d := g2
        subst g2
        cases r with
        | nil =>
          have g1 : a = 0 := g1
          omega
        | cons b r => exact g1.2.1.symm
    have hs9 := hs d hd0 hd
    simp (disch := omega) only [if_true, ixT, clI, mv_let, Nat.zero_add]
    refine ⟨_, rfl, ?_, ?_, ?_, ?_⟩
    · simp only [rd_gi, Nat.reduceEqDiff, if_false, if_true]; rfl
    · simp only [rd_gi, Nat.reduceEqDiff, if_false, if_true]; rfl
    · simp only [rd_gi, Nat.reduceEqDiff, if_false, if_true]
      rw [hs9, ← hsec]; rfl
    · simp only [rd_gi, Nat.reduceEqDiff, if_false, if_true]; rfl
theorem sx_follow_1_l (x : Nat → Nat) {n : Nat} (hn : 0 < n) (h6 : n ≤ 6) (hx : ∀ d, 0 < d → d < n → x d < n ∨ x d = 9) : ∀ (m d f : Nat) (s : mx_G), d + m = 6 → 0 < d → (∀ e, 0 < e → e < n → s.1 44 e = nI (x e)) → (∀ e, e < d → s.1 10 e = val (fw x n e) ∧ s.1 11 e = nI (mem (fw x n e)) ∧ s.1 12 e = nI (scd (fw x n e)) ∧ s.1 13 e = nI (len (fw x n e))) → ∃ s', lX0_follow_1_8 (nI n) (m + 1 + f) (nI d) s = some ((), s') ∧ LD s' (fw x n) := by
  intro m
  induction m with
  | zero =>
    intro d f s h h1 hs hd
    refine ⟨s, ?_, fun e he => hd e (by omega)⟩
    rw [show 0 + 1 + f = f + 1 by omega, lX0_follow_1_8, if_pos (by rw [li_6, leI (by omega) (by omega)]; omega)]
  | succ m ih =>
    intro d f s h h1 hs hd
    have e1 : nI d + 1 = nI (d + 1) := by rw [li_1, adI]
    have p1 := sx_putNone d (by omega) s
    generalize hs1 : gs (gs (gs (gs s 10 (upd (s.1 10) d (-4))) 13 (upd (s.1 13) d 0)) 11 (upd (s.1 11) d 0)) 12 (upd (s.1 12) d 9) = s1 at p1
    have r10 : s1.1 10 = upd (s.1 10) d (-4) := by rw [← hs1]; simp only [rd_gs, Nat.reduceEqDiff, if_false, if_true]
    have r11 : s1.1 11 = upd (s.1 11) d 0 := by rw [← hs1]; simp only [rd_gs, Nat.reduceEqDiff, if_false, if_true]
    have r12 : s1.1 12 = upd (s.1 12) d 9 := by rw [← hs1]; simp only [rd_gs, Nat.reduceEqDiff, if_false, if_true]
    have r13 : s1.1 13 = upd (s.1 13) d 0 := by rw [← hs1]; simp only [rd_gs, Nat.reduceEqDiff, if_false, if_true]
    have r44 : s1.1 44 = s.1 44 := by rw [← hs1]; simp only [rd_gs, Nat.reduceEqDiff, if_false]
    rw [show m + 1 + 1 + f = (m + 1 + f) + 1 by omega, lX0_follow_1_8, if_neg (by rw [li_6, leI (by omega) (by omega)]; omega), p1, bd_some, e1]
    by_cases hdn : n ≤ d
    · rw [if_pos (by rw [leI (by omega) (by omega)]; exact hdn)]
      refine ih (d + 1) f s1 (by omega) (by omega) (fun e a b => by rw [r44]; exact hs e a b) (fun e he => ?_)
      rw [r10, r11, r12, r13, upd_rd, upd_rd, upd_rd, upd_rd]
      by_cases z : e = d
      · subst z
        have : fw x n e = none := by unfold fw; rw [if_neg (by omega)]
        rw [this]
        simp only [if_true]
        exact ⟨rfl, rfl, rfl, rfl⟩
      · simp only [z, if_false]; exact hd e (by omega)
    · rw [if_neg (by rw [leI (by omega) (by omega)]; exact hdn)]
      obtain ⟨s2, w1, w10, w11, w12, w13⟩ := sx_walk_1 x h6 hx s1 (fun e a b => by rw [r44]; exact hs e a b) h1 (by omega) (by rw [r10, upd_rd, if_pos rfl]) (by rw [r11, upd_rd, if_pos rfl]; rfl) (by rw [r12, upd_rd, if_pos rfl]; rfl) (by rw [r13, upd_rd, if_pos rfl]; rfl)
      have fr := fr_X0_walk_1 _ s1 _ _ w1 44 (by decide)
      rw [w1, bd_some]
      refine ih (d + 1) f s2 (by omega) (by omega) (fun e a b => by rw [fr.1, r44]; exact hs e a b) (fun e he => ?_)
      rw [w10, w11, w12, w13, r10, r11, r12, r13, upd_rd, upd_rd, upd_rd, upd_rd, upd_rd, upd_rd, upd_rd, upd_rd]
      by_cases z : e = d
      · subst z
        have : fw x n e = wk x 5 e := by unfold fw; rw [if_pos (by omega)]
        rw [this]
        simp only [if_true]
        exact ⟨trivial, trivial, trivial, trivial⟩
      · simp only [z, if_false]; exact hd e (by omega)
theorem sx_follow_1 (x : Nat → Nat) {n : Nat} (hn : 0 < n) (h6 : n ≤ 6) (hx : ∀ d, 0 < d → d < n → x d < n ∨ x d = 9) {s : mx_G} (hs : ∀ e, 0 < e → e < n → s.1 44 e = nI (x e)) : ∃ s', fX0_follow_1 (nI n) s = some ((), s') ∧ LD s' (fw x n) ∧ ∀ p : Nat, p ∉ [10, 11, 12, 13] → s'.1 p = s.1 p ∧ s'.2 p = s.2 p := by
  obtain ⟨f, hf⟩ := FU_lt (n := 5) (by omega)
  obtain ⟨s1, e1, r1, r2, r3, r4⟩ := sx_put (n := n) hn h6 (d := 0) (by omega) (some [0]) (fun l hl => by injection hl with hl; subst hl; exact rfl) s
  have fr := fr_X0_put _ _ s _ _ e1
  have hf0 : fw x n 0 = some [0] := (fw_ok x hn hx).1
  obtain ⟨s', e2, hl⟩ := sx_follow_1_l x hn h6 hx 5 1 f s1 (by omega) (by omega) (fun e a b => by rw [(fr 44 (by decide)).1]; exact hs e a b) (fun e he => by
    have : e = 0 := by omega
    subst this
    rw [r1, r2, r3, r4, upd_rd, upd_rd, upd_rd, upd_rd, hf0]
    simp only [if_true]
    exact ⟨trivial, trivial, trivial, trivial⟩)
  rw [← hf] at e2
  have e : fX0_follow_1 (nI n) s = some ((), s') := by
    unfold fX0_follow_1
    have e1 : fX0_put 0 0 s = some ((), s1) := e1
    rw [e1, bd_some, li_1]
    exact e2
  exact ⟨s', e, hl, fun p hp => fr_X0_follow_1 _ s _ _ e p hp⟩
theorem sm_wayBy_l (x : Nat → Nat) {n : Nat} (h6 : n ≤ 6) (hx : ∀ d, 0 < d → d < n → x d < n ∨ x d = 9) (s : mx_G) (hs : ∀ d, 0 < d → d < n → s.1 59 d = nI (x d)) : ∀ (m k f : Nat) (q : List Nat) (t : Nat), k + m = 6 → t < n → lX11_wayBy_7 (m + 1 + f) (nI (wnum (q ++ [t]))) (nI t) (nI k) s = some (val ((wk x m t).map (q ++ ·)), s) := by
  intro m
  induction m with
  | zero =>
    intro k f q t hk ht
    rw [show 0 + 1 + f = f + 1 by omega, lX11_wayBy_7, if_pos (by rw [li_6, leI (by omega) (by omega)]; omega), wk]
    by_cases z : t = 0
    · subst z
      rw [if_pos (show nI 0 = 0 from rfl), if_pos rfl]
      rfl
    · rw [if_neg (by rw [li_0, eqI (by omega) (by omega)]; exact z), if_neg z]
      rfl
  | succ m ih =>
    intro k f q t hk ht
    rw [show m + 1 + 1 + f = (m + 1 + f) + 1 by omega, lX11_wayBy_7, if_neg (by rw [li_6, leI (by omega) (by omega)]; omega), wk]
    by_cases z : t = 0
    · subst z
      rw [if_pos (show nI 0 = 0 from rfl), if_pos rfl]
      rw [if_pos (show nI 0 = 0 from rfl)]
      rfl
    · have hx1 := hx t (by omega) ht
      have e1 : nI k + 1 = nI (k + 1) := by rw [li_1, adI]
      rw [if_neg (by rw [li_0, eqI (by omega) (by omega)]; exact z), if_neg (by rw [li_9, eqI (by omega) (by omega)]; omega), ixT (by omega) (by omega), if_pos rfl, clI (by omega), hs t (by omega) ht, mv_let, if_neg z, e1]
      by_cases z9 : x t = 9
      · rw [if_pos (by rw [z9]; rfl), if_pos z9, z9, show m + 1 + f = (m + f) + 1 by omega, lX11_wayBy_7]
        by_cases z6 : (6 : Int32) ≤ nI (k + 1)
        · rw [if_pos z6, if_neg (by decide)]; rfl
        · rw [if_neg z6, if_neg (by decide), if_pos (show nI 9 = 9 from rfl), if_neg (by decide)]; rfl
      · rw [if_neg (by rw [li_9, eqI (by omega) (by omega)]; exact z9), if_neg z9, mv_let, li_10, muI, adI, Nat.mul_comm 10, ← wnum_snoc, ih (k + 1) f (q ++ [t]) (x t) (by omega) (by omega)]
        cases wk x m (x t) with
        | none => rfl
        | some r =>
          show some (val (some (q ++ [t] ++ r)), s) = some (val (some (q ++ t :: r)), s)
          rw [List.append_assoc, List.singleton_append]
theorem sm_wayBy (x : Nat → Nat) {n : Nat} (h6 : n ≤ 6) (hx : ∀ d, 0 < d → d < n → x d < n ∨ x d = 9) {s : mx_G} (hs : ∀ d, 0 < d → d < n → s.1 59 d = nI (x d)) {d : Nat} (hd : d < n) : fX11_wayBy (nI d) s = some (val (wk x 5 d), s) := by
  obtain ⟨f, hf⟩ := FU_lt (n := 6) (by omega)
  have e := sm_wayBy_l x h6 hx s hs 6 0 f [] d (by omega) hd
  have hw0 : wnum [d] = d := by simp [wnum]
  rw [← hf, List.nil_append, hw0] at e
  unfold fX11_wayBy
  rw [li_0, e, ← wk_56 x h6 hx hd]
  cases wk x 6 d <;> rfl
/-- whether each that has a next one has a way -/
def fl (x : Nat → Nat) (n : Nat) : Nat → Bool
  | 0 => true
  | d + 1 => fl x n d && (decide (d = 0) || decide (n ≤ d) || decide (x d = 9) || (wk x 5 d).isSome)
theorem fw_val_ne (x : Nat → Nat) {n : Nat} (hn : 0 < n) (h6 : n ≤ 6) (hx : ∀ d, 0 < d → d < n → x d < n ∨ x d = 9) {d : Nat} (hd : d < n) : val (wk x 5 d) = -4 ↔ (wk x 5 d).isSome = false := by
  cases h : wk x 5 d with
  | none => exact ⟨fun _ => rfl, fun _ => rfl⟩
  | some l => exact ⟨fun z => absurd z (val_inj hn h6 (wk_way x hx hd h).1), fun z => by cases z⟩
theorem sm_thinksN_l (x : Nat → Nat) {n : Nat} (hn : 0 < n) (h6 : n ≤ 6) (hx : ∀ d, 0 < d → d < n → x d < n ∨ x d = 9) (s : mx_G) (h0 : s.1 46 0 = nI n) (hs : ∀ d, 0 < d → d < n → s.1 59 d = nI (x d)) : ∀ (m d f : Nat) (g : Nat → Int32), d + m = 6 → (∀ e, e < d → g e = val (fw x n e)) → ∃ g', lX11_thinksOfNexts_4 (m + 1 + f) (if fl x n d = true then 1 else 0) (nI d) (gs s 56 g) = some (if fl x n 6 = true then 1 else 0, gs s 56 g') ∧ ∀ e, e < 6 → g' e = val (fw x n e) := by
  have hx0 : ix 0 128 = true := by rw [li_0]; exact ixT (by omega) (by omega)
  have hz : Int32.toNatClampNeg 0 = 0 := by decide
  intro m
  induction m with
  | zero =>
    intro d f g h hg
    have : d = 6 := by omega
    subst this
    refine ⟨g, ?_, hg⟩
    rw [show 0 + 1 + f = f + 1 by omega, lX11_thinksOfNexts_4, if_pos (by decide)]
    by_cases z : fl x n 6 = true
    · rw [if_pos z, if_pos (by decide)]
    · rw [if_neg z, if_pos (by decide)]
  | succ m ih =>
    intro d f g h hg
    have e1 : nI d + 1 = nI (d + 1) := by rw [li_1, adI]
    have step : ∀ v : Int32, v = val (fw x n d) → ∀ e, e < d + 1 → upd g d v e = val (fw x n e) := by
      intro v hv e he
      rw [upd_rd]
      by_cases z : e = d
      · rw [if_pos z, z]; exact hv
      · rw [if_neg z]; exact hg e (by omega)
    have c6 : ¬ (6 : Int32) ≤ nI d := by rw [li_6, leI (by omega) (by omega)]; omega
    rw [show m + 1 + 1 + f = (m + 1 + f) + 1 by omega, lX11_thinksOfNexts_4, if_neg c6]
    simp only [mv_let]
    by_cases z0 : d = 0
    · subst z0
      obtain ⟨g', e, hg'⟩ := ih 1 f (upd g 0 0) (by omega) (step 0 (by rw [(fw_ok x hn hx).1]; rfl))
      refine ⟨g', ?_, hg'⟩
      have f1 : fl x n 1 = true := rfl
      have f0 : fl x n 0 = true := rfl
      rw [f1] at e
      rw [f0, if_pos (show nI 0 = 0 from rfl), if_pos rfl]
      rw [ixT (by omega) (by omega), if_pos rfl, clI (by omega), gi_of, if_neg one_ne, if_pos (show nI 0 = 0 from rfl), e1]
      exact e
    · have c0 : ¬ nI d = 0 := by rw [li_0, eqI (by omega) (by omega)]; exact z0
      rw [if_neg c0, if_pos hx0, hz, gs_rdn _ (by decide), h0]
      by_cases hdn : n ≤ d
      · obtain ⟨g', e, hg'⟩ := ih (d + 1) f (upd g d (-4)) (by omega) (step (-4) (by unfold fw; rw [if_neg (by omega)]; rfl))
        refine ⟨g', ?_, hg'⟩
        have f1 : fl x n (d + 1) = fl x n d := by rw [fl]; simp [hdn]
        rw [f1] at e
        rw [if_pos (by rw [leI (by omega) (by omega)]; exact hdn)]
        rw [ixT (by omega) (by omega), if_pos rfl, clI (by omega), gi_of, gs_rdn _ (by decide), h0, if_neg c0, if_pos hx0, if_pos (show nI n ≤ nI d by rw [leI (by omega) (by omega)]; exact hdn), e1]
        by_cases zf : fl x n d = true
        · rw [if_pos zf] at e
          rw [if_pos zf, if_neg one_ne]
          exact e
        · rw [if_neg zf] at e
          rw [if_neg zf, if_pos rfl]
          exact e
      · have ew := sm_wayBy x h6 hx (s := gs s 56 g) (fun e a b => by rw [gs_rdn _ (by decide)]; exact hs e a b) (d := d) (by omega)
        obtain ⟨g', e, hg'⟩ := ih (d + 1) f (upd g d (val (wk x 5 d))) (by omega) (step _ (by unfold fw; rw [if_pos (by omega)]))
        refine ⟨g', ?_, hg'⟩
        have hx1 := hx d (by omega) (by omega)
        have hv := fw_val_ne x hn h6 hx (show d < n by omega)
        rw [if_neg (by rw [leI (by omega) (by omega)]; exact hdn), ew, bd_some]
        have c9 : (nI (x d) = 9) = (x d = 9) := by rw [li_9, eqI (by omega) (by omega)]
        rw [ixT (by omega) (by omega), if_pos rfl, clI (by omega), gi_of, gs_rdn _ (by decide), h0, if_neg c0, if_pos hx0, if_neg (show ¬ nI n ≤ nI d by rw [leI (by omega) (by omega)]; exact hdn), if_pos rfl, gs_rdn _ (by decide), hs d (by omega) (by omega), gs_rd, upd_rd, if_pos rfl, e1]
        rw [fl] at e
        by_cases zf : fl x n d = true
        · rw [if_pos zf, if_neg one_ne]
          by_cases z9 : x d = 9
          · rw [if_pos (by rw [z9]; rfl)]
            rw [if_pos (by simp [zf, z9])] at e
            exact e
          · rw [if_neg (by rw [c9]; exact z9), if_pos rfl]
            by_cases zv : (wk x 5 d).isSome = true
            · rw [if_neg (fun q => by rw [hv.mp q] at zv; cases zv)]
              rw [if_pos (by simp [zf, zv])] at e
              exact e
            · have zv : (wk x 5 d).isSome = false := by simpa using zv
              rw [if_pos (hv.mpr zv)]
              rw [if_neg (by simp [z0, z9, zv, hdn])] at e
              exact e
        · rw [if_neg zf, if_pos rfl]
          rw [if_neg (by simp [zf])] at e
          exact e
theorem sm_thinksN (x : Nat → Nat) {n : Nat} (hn : 0 < n) (h6 : n ≤ 6) (hx : ∀ d, 0 < d → d < n → x d < n ∨ x d = 9) {s : mx_G} (h0 : s.1 46 0 = nI n) (hs : ∀ d, 0 < d → d < n → s.1 59 d = nI (x d)) : ∃ s', fX11_thinksOfNexts s = some (if fl x n 6 = true then 1 else 0, s') ∧ (∀ e, e < 6 → s'.1 56 e = val (fw x n e)) ∧ ∀ p : Nat, p ≠ 56 → s'.1 p = s.1 p ∧ s'.2 p = s.2 p := by
  obtain ⟨f, hf⟩ := FU_lt (n := 6) (by omega)
  obtain ⟨g', e, hg⟩ := sm_thinksN_l x hn h6 hx s h0 hs 6 0 f (s.1 56) (by omega) (fun e he => absurd he (by omega))
  rw [gs_self, ← hf] at e
  refine ⟨gs s 56 g', ?_, fun e he => by rw [gs_rd]; exact hg e he, fun p hp => ⟨gs_rdn _ hp _, rfl⟩⟩
  unfold fX11_thinksOfNexts
  exact e
