/-! rests -/
/-- the t-th next one that d may have -/
def cand (n d t : Nat) : Nat := if t < d then t else if t + 1 < n then t + 1 else 9
def xi (n i d : Nat) : Nat := cand n d (i / n ^ (n - 1 - d) % n)
def stb (c : Nat → Int32) (n : Nat) (x : Nat → Nat) : Bool := fl x n 6 && decide (dc c (fw x n) n n = 0)
def SI (c : Nat → Int32) (n : Nat) : List Nat := (List.range (n ^ (n - 1))).filter (fun i => stb c n (xi n i))
def fgn (x : Nat → Nat) : Nat → Nat
  | 0 => 0
  | d + 1 => if d = 0 then 0 else fgn x d * 10 + x d
def RS (c : Nat → Int32) (n : Nat) (s : mx_G) : Prop := s.1 31 1 = nI (SI c n).length ∧ ∀ k i, (SI c n)[k]? = some i → s.1 32 k = nI (fgn (xi n i) n)
theorem cand_ok {n d t : Nat} (h6 : n ≤ 6) (hd : d < n) (ht : t < n) : cand n d t < n ∨ cand n d t = 9 := by
  unfold cand
  split
  · omega
  · split <;> omega
theorem xi_ok {n : Nat} (h6 : n ≤ 6) (i : Nat) : ∀ d, 0 < d → d < n → xi n i d < n ∨ xi n i d = 9 := fun d _ hd => cand_ok h6 hd (Nat.mod_lt _ (by omega))
theorem bs_ag {c c' : Nat → Int32} (h : Ag c c') (ho : WOK c) {n d : Nat} (hn : 0 < n) (h6 : n ≤ 6) (hd0' : 0 < d) (hd : d < n) {w : Nat → Option (List Nat)} (hw : okC n w) : ∀ e, e ≤ 6 → bs c w d e = bs c' w d e := by
  intro e
  induction e with
  | zero => intro _; rfl
  | succ e ih =>
    intro he
    rw [bs, bs, ← ih (by omega)]
    cases hwe : w e with
    | none => rfl
    | some l =>
      have hl := (hw.2 e (by omega) l hwe).1
      have ht := tk_agW h hn h6 (d := d) (by omega) hl
      show (if tk c d l then better c (bs c w d e) (d :: l) else bs c w d e) = (if tk c' d l then better c' (bs c w d e) (d :: l) else bs c w d e)
      by_cases z : tk c d l
      · rw [if_pos z, if_pos (ht.mp z)]
        unfold better
        cases hb : bs c w d e with
        | none => rfl
        | some b =>
          obtain ⟨q, rfl, g1, g2⟩ := bs_ok ho hn h6 hd0' hd hw e (by omega) b hb
          have e1 := hd0_lt hn hl
          have e2 := hd0_lt hn g1
          show (if rkL c (d :: l) < rkL c (d :: q) then _ else _) = (if rkL c' (d :: l) < rkL c' (d :: q) then _ else _)
          rw [rkL_ag h (by omega) (by omega), rkL_ag h (by omega) (show hd0 q < 6 by omega)]
      · rw [if_neg z, if_neg (fun q => z (ht.mpr q))]
theorem nx_ag {c c' : Nat → Int32} (h : Ag c c') (ho : WOK c) {n d : Nat} (hn : 0 < n) (h6 : n ≤ 6) (hd : d < n) {w : Nat → Option (List Nat)} (hw : okC n w) : nx c w n d = nx c' w n d := by
  unfold nx
  by_cases z : d = 0
  · rw [if_pos z, if_pos z]
  · rw [if_neg z, if_neg z]
    exact bs_ag h ho hn h6 (by omega) hd hw n h6
theorem dc_ag {c c' : Nat → Int32} (h : Ag c c') (ho : WOK c) {n : Nat} (hn : 0 < n) (h6 : n ≤ 6) {w : Nat → Option (List Nat)} (hw : okC n w) : ∀ d, d ≤ n → dc c w n d = dc c' w n d := by
  intro d
  induction d with
  | zero => intro _; rfl
  | succ d ih =>
    intro hd
    rw [dc, dc, ih (by omega), nx_ag h ho hn h6 (by omega) hw]
theorem SI_ag {c c' : Nat → Int32} (h : Ag c c') (ho : WOK c) {n : Nat} (hn : 0 < n) (h6 : n ≤ 6) : SI c n = SI c' n := by
  unfold SI
  congr 1
  funext i
  unfold stb
  rw [dc_ag h ho hn h6 (fw_ok _ hn (xi_ok h6 i)) n (Nat.le_refl _)]
theorem RS_ag {c c' : Nat → Int32} (h : Ag c c') (ho : WOK c) {n : Nat} (hn : 0 < n) (h6 : n ≤ 6) {s : mx_G} (hc : RS c n s) : RS c' n s := by
  unfold RS at hc ⊢
  rw [← SI_ag h ho hn h6]
  exact hc
