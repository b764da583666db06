/-! PURE PART: what is always so of the two (the invariant), and keeping the past -/
def PR (sh : Nat → Int32) (kn nx : Int32) (sm : Nat → Int32) (ac : Int32) : Prop := ∃ a x : Nat, a ≤ 6 ∧ x < 6 ∧ kn = nI a ∧ nx = nI x ∧ ac = nI a ∧ ∀ i : Nat, i < a → (∀ j : Nat, j < 128 → sm (128 * i + j) = sh (128 * ((x + 6 - a + i) % 6) + pi j)) ∧ WOK (fun j => sh (128 * ((x + 6 - a + i) % 6) + j))
def IA (σ : mx_G) : Prop := RW (σ.1 46) (σ.1 2) ∧ WOK (σ.1 2)
def IP (σ : mx_G) : Prop := PR (σ.1 4) (σ.1 3 1) (σ.1 3 2) (σ.1 47) (σ.1 45 2)
def II (σ : mx_G) : Prop := (σ.1 0 4 = nI 0 ∧ σ.1 45 5 = -1) ∨ (σ.1 0 4 = nI 1 ∧ RW (σ.1 48) (σ.1 6) ∧ WOK (σ.1 6) ∧ PR (σ.1 8) (σ.1 7 1) (σ.1 7 2) (σ.1 49) (σ.1 45 5))
def IT (σ : mx_G) : Prop := ∃ m : Nat, m ≤ 80 ∧ σ.1 36 1 = nI m ∧ σ.1 45 7 = nI m ∧ ∀ j : Nat, j < m → σ.1 50 j = σ.1 37 j ∧ ∃ t : Nat, 32 ≤ t ∧ t ≤ 126 ∧ σ.1 37 j = nI t
def IS (σ : mx_G) : Prop := ∀ s : Nat, s < 4 → (σ.1 41 s = -1 ∧ σ.1 51 s = -4) ∨ ∃ l n : Nat, l ≤ 3 ∧ n ≤ 24 ∧ σ.1 41 s = nI l ∧ σ.1 51 s = nI l ∧ σ.1 42 s = nI n ∧ σ.1 52 s = nI n ∧ ∀ j : Nat, j < n → σ.2 53 (24 * s + j) = σ.2 43 (24 * s + j)
/-- what is kept of the caches (cells 15 to 33): any predicate that looks at them alone -/
def ICok (IC : Nat → mx_G → Prop) : Prop := ∀ (k : Nat) (σ τ : mx_G), (∀ p : Nat, 15 ≤ p → p ≤ 33 → τ.1 p = σ.1 p ∧ τ.2 p = σ.2 p) → IC k σ → IC (k + 1) τ
def Inv (IC : Nat → mx_G → Prop) (k : Nat) (σ : mx_G) : Prop := IA σ ∧ IP σ ∧ II σ ∧ IT σ ∧ IS σ ∧ IC k σ
/-- cells that hold nothing from call to call -/
def scr : List Nat := [9, 10, 11, 12, 13, 14, 34, 35, 44, 54, 55, 56, 57, 58, 59, 60, 61, 62, 63, 64, 65, 66, 67]
def Sc (σ τ : mx_G) : Prop := (∀ p : Nat, p ∉ 45 :: scr → τ.1 p = σ.1 p) ∧ (∀ k : Nat, k ≠ 13 → k ≠ 24 → k ≠ 25 → τ.1 45 k = σ.1 45 k) ∧ ∀ p : Nat, p ∉ scr → τ.2 p = σ.2 p
theorem Sc.rf (σ : mx_G) : Sc σ σ := ⟨fun _ _ => rfl, fun _ _ _ _ => rfl, fun _ _ => rfl⟩
theorem Sc.trans {σ τ ρ : mx_G} (h1 : Sc σ τ) (h2 : Sc τ ρ) : Sc σ ρ := ⟨fun p hp => (h2.1 p hp).trans (h1.1 p hp), fun k a b c => (h2.2.1 k a b c).trans (h1.2.1 k a b c), fun p hp => (h2.2.2 p hp).trans (h1.2.2 p hp)⟩
theorem Inv.sc {IC : Nat → mx_G → Prop} (hC : ICok IC) {k : Nat} {σ τ : mx_G} (h : Inv IC k σ) (hs : Sc σ τ) : Inv IC (k + 1) τ := by
  obtain ⟨h1, h2, h3, h4, h5, h6⟩ := h
  obtain ⟨s1, s2, s3⟩ := hs
  refine ⟨?_, ?_, ?_, ?_, ?_, hC k σ τ (fun p h1 h2 => ⟨s1 p ?_, s3 p ?_⟩) h6⟩
  · unfold IA; rw [s1 46 (by decide), s1 2 (by decide)]; exact h1
  · unfold IP; rw [s1 4 (by decide), s1 3 (by decide), s1 47 (by decide), s2 2 (by decide) (by decide) (by decide)]; exact h2
  · unfold II; rw [s1 0 (by decide), s1 48 (by decide), s1 6 (by decide), s1 8 (by decide), s1 7 (by decide), s1 49 (by decide), s2 5 (by decide) (by decide) (by decide)]; exact h3
  · unfold IT; rw [s1 36 (by decide), s1 37 (by decide), s1 50 (by decide), s2 7 (by decide) (by decide) (by decide)]; exact h4
  · unfold IS; rw [s1 41 (by decide), s1 51 (by decide), s1 42 (by decide), s1 52 (by decide), s3 53 (by decide), s3 43 (by decide)]; exact h5
  · simp [scr]; omega
  · simp [scr]; omega
/-- frames: a function that may change scratch cells alone -/
theorem FR.sc {α : Type} {S : List Nat} {σ τ : mx_G} {r : Option (α × mx_G)} {a : α} (h : FR S σ r) (e : r = some (a, τ)) (hS : ∀ p ∈ S, p ∈ scr) : Sc σ τ :=
  ⟨fun p hp => (h a τ e p (fun z => hp (List.mem_cons_of_mem _ (hS p z)))).1, fun k _ _ _ => by rw [(h a τ e 45 (fun z => absurd (hS 45 z) (by decide))).1], fun p hp => (h a τ e p (fun z => hp (hS p z))).2⟩
theorem cpT {a b n m1 m2 : Nat} (h1 : a + n ≤ m1) (h2 : b + n ≤ m2) (h3 : m1 < 2147483648) (h4 : m2 < 2147483648) : cp (nI a) (nI b) (nI n) m1 m2 = true := by
  unfold cp
  simp (disch := omega) only [li_0, ltI, clI, Nat.not_lt_zero, decide_false, Bool.not_false, Bool.true_and, h1, h2, decide_true]
theorem cpy_rd {α : Type} (f g : Nat → α) (a b n j : Nat) : va_cpy f g a b n j = if b ≤ j ∧ j < b + n then f (a + (j - b)) else g j := nrfl rfl
theorem sx_keep {σ : mx_G} {a x : Nat} (ha : a ≤ 6) (hx : x < 6) (h1 : σ.1 3 1 = nI a) (h2 : σ.1 3 2 = nI x) : fX3_keep σ = some ((), gi (gi (gs σ 4 (va_cpy (σ.1 2) (σ.1 4) 0 (x * 128) 128)) 3 2 (nI ((x + 1) % 6))) 3 1 (nI (if a = 6 then 6 else a + 1))) := by
  unfold fX3_keep
  simp (disch := omega) only [h2, li_128, li_0, muI, cpT, if_true, clI, mv_let, rd_gs, rd_gi, Nat.reduceEqDiff, if_false, li_1, li_6, adI, rmI, upd_rd, h1]
  unfold mv_min
  by_cases h : a = 6
  · subst h; rfl
  · rw [if_neg (by rw [ltI (by omega) (by omega)]; omega), if_neg h]
theorem sm_notes {σ : mx_G} {a : Nat} (ha : a ≤ 6) (h1 : σ.1 45 2 = nI a) : ∃ τ, fX11_notes σ = some ((), τ) ∧ τ.1 45 = upd (σ.1 45) 2 (nI (if a = 6 then 6 else a + 1)) ∧ ∀ i j : Nat, i < (if a = 6 then 6 else a + 1) → j < 128 → τ.1 47 (128 * i + j) = if i + 1 = (if a = 6 then 6 else a + 1) then σ.1 46 j else σ.1 47 (128 * (if a = 6 then i + 1 else i) + j) := by
  by_cases h : a = 6
  · subst h
    have e : fX11_notes σ = some ((), gi (gs (gi (gs σ 47 (va_cpy (σ.1 47) (σ.1 47) 128 0 640)) 45 2 (nI 5)) 47 (va_cpy (σ.1 46) (va_cpy (σ.1 47) (σ.1 47) 128 0 640) 0 640 128)) 45 2 (nI 6)) := by
      unfold fX11_notes
      simp (disch := omega) only [h1, li_6, li_128, li_0, li_640, if_true, sm_bring_1, bd_some, mv_let, rd_gs, rd_gi, Nat.reduceEqDiff, if_false, li_1, upd_rd, suI, muI, adI, sm_bring]
    refine ⟨_, e, ?_, ?_⟩
    · funext k
      simp only [rd_gi, rd_gs, Nat.reduceEqDiff, if_true, if_false, upd_rd]
      by_cases hk : k = 2
      · rw [if_pos hk, if_pos hk]
      · rw [if_neg hk, if_neg hk, if_neg hk]
    · intro i j hi hj
      simp only [if_true] at hi ⊢
      simp only [rd_gi, rd_gs, Nat.reduceEqDiff, if_true, if_false, cpy_rd]
      by_cases h5 : i + 1 = 6
      · rw [if_pos (show 640 ≤ 128 * i + j ∧ 128 * i + j < 640 + 128 by omega), if_pos (show i = 5 by omega)]; exact congrArg _ (by omega)
      · rw [if_neg (show ¬ (640 ≤ 128 * i + j ∧ 128 * i + j < 640 + 128) by omega), if_neg (show ¬ i = 5 by omega), if_pos (show 0 ≤ 128 * i + j ∧ 128 * i + j < 0 + 640 by omega)]; exact congrArg _ (by omega)
  · have e : fX11_notes σ = some ((), gi (gs σ 47 (va_cpy (σ.1 46) (σ.1 47) 0 (128 * a) 128)) 45 2 (nI (a + 1))) := by
      unfold fX11_notes
      simp (disch := omega) only [h1, li_6, eqI, h, li_128, li_0, if_false, sm_bring, bd_some, mv_let, rd_gs, rd_gi, Nat.reduceEqDiff, li_1, upd_rd, muI, adI]
    refine ⟨_, e, ?_, ?_⟩
    · funext k
      simp only [rd_gi, rd_gs, Nat.reduceEqDiff, if_true, if_false, upd_rd, h]
    · intro i j hi hj
      simp only [h, if_false] at hi ⊢
      simp only [rd_gi, rd_gs, Nat.reduceEqDiff, if_true, if_false, cpy_rd]
      by_cases h5 : i + 1 = a + 1
      · rw [if_pos (show 128 * a ≤ 128 * i + j ∧ 128 * i + j < 128 * a + 128 by omega), if_pos (show i = a by omega)]; exact congrArg _ (by omega)
      · rw [if_neg (show ¬ (128 * a ≤ 128 * i + j ∧ 128 * i + j < 128 * a + 128) by omega), if_neg (show ¬ i = a by omega)]
theorem pi_lt {j : Nat} (h : j < 128) : pi j < 128 := by
  unfold pi
  split <;> (try split) <;> (try split) <;> omega
theorem pi_inj {i j : Nat} (hi : i < 128) (hj : j < 128) (h : pi i = pi j) : i = j := by
  unfold pi at h
  split at h <;> split at h <;> (try split at h) <;> (try split at h) <;> (try split at h) <;> (try split at h) <;> omega
theorem WOK.congr {f g : Nat → Int32} (h : ∀ j : Nat, j < 128 → g j = f j) (hf : WOK f) : WOK g := by
  have hN : ∀ k, k < 128 → N g k = N f k := fun k hk => by unfold N; rw [h k hk]
  obtain ⟨h1, h2, h3, h4, h5, h6, h7⟩ := hf
  refine ⟨by rw [hN 0 (by omega)]; exact h1, fun k hk => by rw [h k (by omega), hN k (by omega)]; exact h2 k hk, by rw [h 127 (by omega), hN 127 (by omega)]; exact h3, fun d hd => by rw [hN _ (by omega), hN _ (by omega)]; exact h4 d hd, fun a b ha hb => ?_, by rw [h 121 (by omega)]; exact h6, fun d hd hd6 => ?_⟩
  · rw [hN _ (by omega), hN _ (by omega), hN _ (by omega), hN _ (by omega), hN _ (by omega), hN 0 (by omega)]
    exact h5 a b ha hb
  · rw [hN 0 (by omega), h _ (by omega)]
    exact h7 d hd hd6
theorem pr_keep {sh sh' sm sm' c st : Nat → Int32} {kn nx ac : Int32} {a x : Nat} (ha : a ≤ 6) (hx : x < 6)
    (hp : ∀ i : Nat, i < a → (∀ j : Nat, j < 128 → sm (128 * i + j) = sh (128 * ((x + 6 - a + i) % 6) + pi j)) ∧ WOK (fun j => sh (128 * ((x + 6 - a + i) % 6) + j)))
    (h1 : ∀ y j : Nat, y < 6 → j < 128 → sh' (128 * y + j) = if y = x then c j else sh (128 * y + j))
    (h2 : ∀ i j : Nat, i < (if a = 6 then 6 else a + 1) → j < 128 → sm' (128 * i + j) = if i + 1 = (if a = 6 then 6 else a + 1) then st j else sm (128 * (if a = 6 then i + 1 else i) + j))
    (hw : RW st c) (hok : WOK c) (hk : kn = nI (if a = 6 then 6 else a + 1)) (hn : nx = nI ((x + 1) % 6)) (hac : ac = nI (if a = 6 then 6 else a + 1)) : PR sh' kn nx sm' ac := by
  refine ⟨if a = 6 then 6 else a + 1, (x + 1) % 6, by split <;> omega, by omega, hk, hn, hac, fun i hi => ?_⟩
  by_cases hl : i + 1 = (if a = 6 then 6 else a + 1)
  · have hy : ((x + 1) % 6 + 6 - (if a = 6 then 6 else a + 1) + i) % 6 = x := by
      have h7 : (if a = 6 then 6 else a + 1) ≤ 6 := by split <;> omega
      rw [← hl] at h7 ⊢; omega
    rw [hy]
    refine ⟨fun j hj => ?_, WOK.congr (fun j hj => ?_) hok⟩
    · rw [h2 i j hi hj, if_pos hl, h1 x (pi j) hx (pi_lt hj), if_pos rfl]; exact hw j hj
    · show sh' (128 * x + j) = c j
      rw [h1 x j hx hj, if_pos rfl]
  · have hi' : (if a = 6 then i + 1 else i) < a := by by_cases h6 : a = 6 <;> simp only [h6, if_true, if_false] at hi hl ⊢ <;> omega
    have hy : ((x + 1) % 6 + 6 - (if a = 6 then 6 else a + 1) + i) % 6 = (x + 6 - a + (if a = 6 then i + 1 else i)) % 6 ∧ (x + 6 - a + (if a = 6 then i + 1 else i)) % 6 ≠ x := by by_cases h6 : a = 6 <;> simp only [h6, if_true, if_false] at hi hl ⊢ <;> omega
    rw [hy.1]
    obtain ⟨g1, g2⟩ := hp _ hi'
    refine ⟨fun j hj => ?_, WOK.congr (fun j hj => ?_) g2⟩
    · rw [h2 i j hi hj, if_neg hl, g1 j hj, h1 _ (pi j) (by omega) (pi_lt hj), if_neg hy.2]
    · show sh' _ = sh _
      rw [h1 _ j (by omega) hj, if_neg hy.2]
/-- cells of the class that an act may change behind the keeping, and those of the reference -/
def scX : List Nat := [2, 9, 10, 11, 12, 13, 14, 44]
def scM : List Nat := [46, 56, 57, 59, 64, 65, 66, 67]
/-- an act: both keep the past, then the world becomes another one in both -/
theorem Inv.act {IC : Nat → mx_G → Prop} (hC : ICok IC) {k : Nat} {σ : mx_G} (h : Inv IC k σ) : ∃ σ1, fX3_keep σ = some ((), σ1) ∧ σ1.1 2 = σ.1 2 ∧ (∀ p : Nat, p ∉ [3, 4] → σ1.1 p = σ.1 p) ∧ ∀ σ2 : mx_G, (∀ p : Nat, p ∉ scX → σ2.1 p = σ1.1 p ∧ σ2.2 p = σ1.2 p) → WOK (σ2.1 2) → ∀ σ3 : mx_G, Sc σ2 σ3 → ∃ τ1, fX11_notes σ3 = some ((), τ1) ∧ τ1.1 46 = σ.1 46 ∧ ∀ τ2 : mx_G, (∀ p : Nat, p ∉ scM → p ≠ 45 → τ2.1 p = τ1.1 p ∧ τ2.2 p = τ1.2 p) → (∀ k : Nat, k ≠ 13 → k ≠ 24 → k ≠ 25 → τ2.1 45 k = τ1.1 45 k) → τ2.2 45 = τ1.2 45 → RW (τ2.1 46) (σ2.1 2) → Inv IC (k + 1) τ2 := by
  obtain ⟨⟨a1, a2⟩, ⟨a, x, ha, hx, p1, p2, p3, p4⟩, h3, h4, h5, h6⟩ := h
  have e1 := sx_keep ha hx p1 p2
  refine ⟨_, e1, ?_, ?_, ?_⟩
  · simp only [rd_gi, rd_gs, Nat.reduceEqDiff, if_false]
  · intro p hp
    exact (fr_X3_keep σ _ _ e1 p hp).1
  intro σ2 f2 hw2 σ3 hs
  generalize hσ1 : gi (gi (gs σ 4 (va_cpy (σ.1 2) (σ.1 4) 0 (x * 128) 128)) 3 2 (nI ((x + 1) % 6))) 3 1 (nI (if a = 6 then 6 else a + 1)) = σ1 at e1 f2
  have k1 : ∀ p : Nat, p ∉ [3, 4] → σ1.1 p = σ.1 p ∧ σ1.2 p = σ.2 p := fun p hp => fr_X3_keep σ _ _ e1 p hp
  obtain ⟨s1, s2, s3⟩ := hs
  have o1 : ∀ p : Nat, p ∉ [3, 4] → p ∉ scX → p ∉ 45 :: scr → σ3.1 p = σ.1 p := fun p q1 q2 q3 => (s1 p q3).trans ((f2 p q2).1.trans (k1 p q1).1)
  have o45 : ∀ k : Nat, k ≠ 13 → k ≠ 24 → k ≠ 25 → σ3.1 45 k = σ.1 45 k := fun k q1 q2 q3 => by rw [s2 k q1 q2 q3, (f2 45 (by decide)).1, (k1 45 (by decide)).1]
  have o2 : ∀ p : Nat, p ∉ [3, 4] → p ∉ scX → p ∉ scr → σ3.2 p = σ.2 p := fun p q1 q2 q3 => (s3 p q3).trans ((f2 p q2).2.trans (k1 p q1).2)
  obtain ⟨τ1, e2, n1, n2⟩ := sm_notes (σ := σ3) ha (by rw [o45 2 (by decide) (by decide) (by decide)]; exact p3)
  have k2 : ∀ p : Nat, p ∉ [45, 47] → τ1.1 p = σ3.1 p ∧ τ1.2 p = σ3.2 p := fun p hp => fr_X11_notes σ3 _ _ e2 p hp
  refine ⟨τ1, e2, ?_, ?_⟩
  · rw [(k2 46 (by decide)).1]; exact o1 46 (by decide) (by decide) (by decide)
  intro τ2 f3 f45 f452 hw
  have q1 : ∀ p : Nat, p ∉ [3, 4] → p ∉ scX → p ∉ 45 :: scr → p ∉ [45, 47] → p ∉ scM → τ2.1 p = σ.1 p := fun p a1 a2 a3 a4 a5 => (f3 p a5 (fun z => a4 (by rw [z]; decide))).1.trans ((k2 p a4).1.trans (o1 p a1 a2 a3))
  have q2 : ∀ p : Nat, p ∉ [3, 4] → p ∉ scX → p ∉ 45 :: scr → p ∉ [45, 47] → p ∉ scM → τ2.2 p = σ.2 p := fun p a1 a2 a3 a4 a5 => (f3 p a5 (fun z => a4 (by rw [z]; decide))).2.trans ((k2 p a4).2.trans (o2 p a1 a2 (fun z => a3 (List.mem_cons_of_mem _ z))))
  have q45 : ∀ k : Nat, k ≠ 2 → k ≠ 13 → k ≠ 24 → k ≠ 25 → τ2.1 45 k = σ.1 45 k := fun k a0 a1 a2 a3 => by rw [f45 k a1 a2 a3, n1, upd_rd, if_neg a0]; exact o45 k a1 a2 a3
  have w2 : τ2.1 2 = σ2.1 2 := (f3 2 (by decide) (by decide)).1.trans ((k2 2 (by decide)).1.trans (s1 2 (by decide)))
  refine ⟨⟨by rw [w2]; exact hw, by rw [w2]; exact hw2⟩, ?_, ?_, ?_, ?_, ?_⟩
  · have t4 : τ2.1 4 = σ1.1 4 := (f3 4 (by decide) (by decide)).1.trans ((k2 4 (by decide)).1.trans ((s1 4 (by decide)).trans (f2 4 (by decide)).1))
    have t3 : τ2.1 3 = σ1.1 3 := (f3 3 (by decide) (by decide)).1.trans ((k2 3 (by decide)).1.trans ((s1 3 (by decide)).trans (f2 3 (by decide)).1))
    have t47 : τ2.1 47 = τ1.1 47 := (f3 47 (by decide) (by decide)).1
    unfold IP
    rw [t4, t3, t47]
    have m47 : σ3.1 47 = σ.1 47 := o1 47 (by decide) (by decide) (by decide)
    have m46 : σ3.1 46 = σ.1 46 := o1 46 (by decide) (by decide) (by decide)
    rw [m47, m46] at n2
    refine pr_keep ha hx p4 (c := σ.1 2) (st := σ.1 46) ?_ n2 a1 a2 ?_ ?_ ?_
    · intro y j hy hj
      rw [← hσ1]
      simp only [rd_gi, rd_gs, Nat.reduceEqDiff, if_true, if_false, cpy_rd]
      by_cases hyx : y = x
      · rw [if_pos (show x * 128 ≤ 128 * y + j ∧ 128 * y + j < x * 128 + 128 by omega), if_pos hyx]; exact congrArg _ (by omega)
      · rw [if_neg (show ¬ (x * 128 ≤ 128 * y + j ∧ 128 * y + j < x * 128 + 128) by omega), if_neg hyx]
    · rw [← hσ1]; simp only [rd_gi, if_true, upd_rd]
    · rw [← hσ1]; simp only [rd_gi, if_true, upd_rd, Nat.reduceEqDiff, if_false]
    · rw [f45 2 (by decide) (by decide) (by decide), n1, upd_rd, if_pos rfl]
  · unfold II
    rw [q1 0 (by decide) (by decide) (by decide) (by decide) (by decide), q1 48 (by decide) (by decide) (by decide) (by decide) (by decide), q1 6 (by decide) (by decide) (by decide) (by decide) (by decide), q1 8 (by decide) (by decide) (by decide) (by decide) (by decide), q1 7 (by decide) (by decide) (by decide) (by decide) (by decide), q1 49 (by decide) (by decide) (by decide) (by decide) (by decide), q45 5 (by decide) (by decide) (by decide) (by decide)]
    exact h3
  · unfold IT
    rw [q1 36 (by decide) (by decide) (by decide) (by decide) (by decide), q1 37 (by decide) (by decide) (by decide) (by decide) (by decide), q1 50 (by decide) (by decide) (by decide) (by decide) (by decide), q45 7 (by decide) (by decide) (by decide) (by decide)]
    exact h4
  · unfold IS
    rw [q1 41 (by decide) (by decide) (by decide) (by decide) (by decide), q1 51 (by decide) (by decide) (by decide) (by decide) (by decide), q1 42 (by decide) (by decide) (by decide) (by decide) (by decide), q1 52 (by decide) (by decide) (by decide) (by decide) (by decide), q2 53 (by decide) (by decide) (by decide) (by decide) (by decide), q2 43 (by decide) (by decide) (by decide) (by decide) (by decide)]
    exact h5
  · refine hC k σ τ2 (fun p g1 g2 => ⟨q1 p ?_ ?_ ?_ ?_ ?_, q2 p ?_ ?_ ?_ ?_ ?_⟩) h6 <;> simp [scX, scM, scr] <;> omega
