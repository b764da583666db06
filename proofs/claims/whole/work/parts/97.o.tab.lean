/-! PURE PART: read: the tables of links -/
def NT (n : Nat) (v c : Nat → Nat) : Prop := ∀ a b, a < 6 → b < 6 → v (6 * a + b) ≤ 3 ∧ c (6 * a + b) ≤ 1 ∧ v (6 * b + a) = (if v (6 * a + b) = 0 then 0 else 4 - v (6 * a + b)) ∧ c (6 * b + a) = c (6 * a + b) ∧ (v (6 * a + b) = 0 → c (6 * a + b) = 0) ∧ (a = b ∨ n ≤ a → v (6 * a + b) = 0)
def lks (v : Nat → Nat) : Nat := bsum (fun p => if v (6 * dA p + dB p) = 0 then 0 else 1) 0 15
def Tb (n : Nat) (gx hx gr hr : Nat → Int32) (v c : Nat → Nat) (w : Nat) : Prop := NT n v c ∧ (∀ k, k < 36 → gr k = nI (v k)) ∧ (∀ k, k < 36 → hr k = nI (c k)) ∧ (∀ k, k < 36 → gx k = gr k) ∧ (∀ k, k < 36 → v k ≠ 0 → hx k = hr k) ∧ w = lks v
theorem Tb.nt {n : Nat} {gx hx gr hr : Nat → Int32} {v c : Nat → Nat} {w : Nat} (h : Tb n gx hx gr hr v c w) : NT n v c := h.1
theorem Tb.eg {n : Nat} {gx hx gr hr : Nat → Int32} {v c : Nat → Nat} {w : Nat} (h : Tb n gx hx gr hr v c w) : ∀ k, k < 36 → gr k = nI (v k) := h.2.1
theorem Tb.eh {n : Nat} {gx hx gr hr : Nat → Int32} {v c : Nat → Nat} {w : Nat} (h : Tb n gx hx gr hr v c w) : ∀ k, k < 36 → hr k = nI (c k) := h.2.2.1
theorem Tb.xg {n : Nat} {gx hx gr hr : Nat → Int32} {v c : Nat → Nat} {w : Nat} (h : Tb n gx hx gr hr v c w) : ∀ k, k < 36 → gx k = gr k := h.2.2.2.1
theorem Tb.xh {n : Nat} {gx hx gr hr : Nat → Int32} {v c : Nat → Nat} {w : Nat} (h : Tb n gx hx gr hr v c w) : ∀ k, k < 36 → v k ≠ 0 → hx k = hr k := h.2.2.2.2.1
theorem Tb.lk {n : Nat} {gx hx gr hr : Nat → Int32} {v c : Nat → Nat} {w : Nat} (h : Tb n gx hx gr hr v c w) : w = lks v := h.2.2.2.2.2
theorem bsum_one {F G : Nat → Nat} {p : Nat} (h1 : ∀ q, q ≠ p → G q = F q) (h2 : G p = F p + 1) : ∀ n, bsum G 0 n = bsum F 0 n + if p < n then 1 else 0 := by
  intro n
  induction n with
  | zero => rfl
  | succ n ih =>
    rw [bsum, bsum, ih, Nat.zero_add]
    by_cases z : n = p
    · subst z
      rw [h2, if_neg (by omega), if_pos (by omega)]
      omega
    · rw [h1 n z]
      by_cases y : p < n
      · rw [if_pos y, if_pos (by omega)]; omega
      · rw [if_neg y, if_neg (by omega)]; omega
theorem dAB : ∀ p : Nat, p < 15 → dA p < 6 ∧ dB p < dA p ∧ pr2 (dA p) (dB p) = p := by decide +kernel
theorem dAB_out {p : Nat} (h : 15 ≤ p) : dA p = 0 ∧ dB p = 0 := by
  unfold dA dB
  constructor
  · rw [List.getD_eq_getElem?_getD, List.getElem?_eq_none (by simp; omega)]; rfl
  · rw [List.getD_eq_getElem?_getD, List.getElem?_eq_none (by simp; omega)]; rfl
def addv (v : Nat → Nat) (a b s : Nat) : Nat → Nat := fun k => if k = 6 * b + a then 4 - s else if k = 6 * a + b then s else v k
def addc (c : Nat → Nat) (a b q : Nat) : Nat → Nat := fun k => if k = 6 * b + a then q else if k = 6 * a + b then q else c k
theorem lks_add {n : Nat} {v c : Nat → Nat} (hn : NT n v c) {a b s : Nat} (ha : a < 6) (hb : b < 6) (hab : a ≠ b) (h0 : v (6 * a + b) = 0) (hs : 0 < s ∧ s ≤ 3) : lks (addv v a b s) = lks v + 1 := by
  have h0' : v (6 * b + a) = 0 := by rw [(hn a b ha hb).2.2.1, if_pos h0]
  have hp := (pr2_lt a ha b hb).2 hab
  have h := bsum_one (F := fun p => if v (6 * dA p + dB p) = 0 then 0 else 1) (G := fun p => if addv v a b s (6 * dA p + dB p) = 0 then 0 else 1) (p := pr2 a b) (fun q hq => by
    have e : addv v a b s (6 * dA q + dB q) = v (6 * dA q + dB q) := by
      unfold addv
      rcases Nat.lt_or_ge q 15 with z | z
      · obtain ⟨q1, q2, q3⟩ := dAB q z
        rw [if_neg, if_neg]
        · intro y
          have y1 : dA q = a := by omega
          have y2 : dB q = b := by omega
          exact hq (by rw [← q3, y1, y2])
        · intro y
          have y1 : dA q = b := by omega
          have y2 : dB q = a := by omega
          have := pr2_dec (dA q) q1 (dB q) (by omega) q2
          exact hq (by rw [← q3, ← this.2.2.2, y1, y2])
      · obtain ⟨z1, z2⟩ := dAB_out z
        rw [z1, z2, if_neg (by omega), if_neg (by omega)]
    show (if addv v a b s (6 * dA q + dB q) = 0 then 0 else 1) = _
    rw [e]) (by
    show (if addv v a b s (6 * dA (pr2 a b) + dB (pr2 a b)) = 0 then 0 else 1) = (if v (6 * dA (pr2 a b) + dB (pr2 a b)) = 0 then 0 else 1) + 1
    unfold addv
    rcases Nat.lt_or_ge b a with z | z
    · obtain ⟨-, q2, q3, -⟩ := pr2_dec a ha b hb z
      rw [q2, q3, h0, if_neg (show ¬ 6 * a + b = 6 * b + a by omega), if_pos rfl, if_neg (by omega), if_pos rfl]
    · obtain ⟨-, q2, q3, q4⟩ := pr2_dec b hb a ha (by omega)
      rw [q4, q2, q3, h0', if_pos rfl, if_neg (by omega), if_pos rfl]) 15
  unfold lks
  rw [h, if_pos hp]
theorem NT.add {n : Nat} {v c : Nat → Nat} (hn : NT n v c) {a b s q : Nat} (ha : a < n) (hb : b < n) (h6 : n ≤ 6) (hab : a ≠ b) (hs : 0 < s ∧ s ≤ 3) (hq : q ≤ 1) : NT n (addv v a b s) (addc c a b q) := by
  intro x y hx hy
  obtain ⟨k1, k2, k3, k4, k5, k6⟩ := hn x y hx hy
  unfold addv addc
  by_cases z1 : x = a ∧ y = b
  · obtain ⟨rfl, rfl⟩ := z1
    rw [if_neg (show ¬ 6 * x + y = 6 * y + x by omega), if_pos rfl, if_pos rfl, if_neg (show ¬ 6 * x + y = 6 * y + x by omega), if_pos rfl, if_pos rfl]
    refine ⟨by omega, hq, by rw [if_neg (by omega)], rfl, fun z => by omega, fun z => by omega⟩
  · by_cases z2 : x = b ∧ y = a
    · obtain ⟨rfl, rfl⟩ := z2
      rw [if_pos rfl, if_pos rfl, if_neg (show ¬ 6 * y + x = 6 * x + y by omega), if_pos rfl, if_neg (show ¬ 6 * y + x = 6 * x + y by omega), if_pos rfl]
      refine ⟨by omega, hq, by rw [if_neg (by omega)]; omega, rfl, fun z => by omega, fun z => by omega⟩
    · rw [if_neg (show ¬ 6 * x + y = 6 * b + a by omega), if_neg (show ¬ 6 * x + y = 6 * a + b by omega), if_neg (show ¬ 6 * x + y = 6 * b + a by omega), if_neg (show ¬ 6 * x + y = 6 * a + b by omega), if_neg (show ¬ 6 * y + x = 6 * b + a by omega), if_neg (show ¬ 6 * y + x = 6 * a + b by omega), if_neg (show ¬ 6 * y + x = 6 * b + a by omega), if_neg (show ¬ 6 * y + x = 6 * a + b by omega)]
      exact ⟨k1, k2, k3, k4, k5, k6⟩
theorem Tb.add {n : Nat} {gx hx gr hr : Nat → Int32} {v c : Nat → Nat} {w : Nat} (h : Tb n gx hx gr hr v c w) {a b s q : Nat} (ha : a < n) (hb : b < n) (h6 : n ≤ 6) (hab : a ≠ b) (h0 : gr (6 * a + b) = 0) (hs : 0 < s ∧ s ≤ 3) (hq : q ≤ 1) {hx' : Nat → Int32} (x1 : hx' (6 * a + b) = nI q) (x2 : hx' (6 * b + a) = nI q) (x3 : ∀ k, k ≠ 6 * a + b → k ≠ 6 * b + a → hx' k = hx k) : Tb n (upd (upd gx (6 * a + b) (nI s)) (6 * b + a) (4 - nI s)) hx' (upd (upd gr (6 * a + b) (nI s)) (6 * b + a) (4 - nI s)) (upd (upd hr (6 * a + b) (nI q)) (6 * b + a) (nI q)) (addv v a b s) (addc c a b q) (w + 1) := by
  have e4 : (4 : Int32) - nI s = nI (4 - s) := by rw [show (4 : Int32) = nI 4 from rfl, suI (by omega)]
  have hv0 : v (6 * a + b) = 0 := by
    have := h.eg (6 * a + b) (by omega)
    have hle := (h.nt a b (by omega) (by omega)).1
    rw [h0, li_0, eqI (by omega) (by omega)] at this
    exact this.symm
  refine ⟨h.nt.add ha hb h6 hab hs hq, fun k hk => ?_, fun k hk => ?_, fun k hk => ?_, fun k hk hv => ?_, ?_⟩
  · rw [upd_rd, upd_rd, e4]
    unfold addv
    by_cases z : k = 6 * b + a
    · rw [if_pos z, if_pos z]
    · rw [if_neg z, if_neg z]
      by_cases y : k = 6 * a + b
      · rw [if_pos y, if_pos y]
      · rw [if_neg y, if_neg y]; exact h.eg k hk
  · rw [upd_rd, upd_rd]
    unfold addc
    by_cases z : k = 6 * b + a
    · rw [if_pos z, if_pos z]
    · rw [if_neg z, if_neg z]
      by_cases y : k = 6 * a + b
      · rw [if_pos y, if_pos y]
      · rw [if_neg y, if_neg y]; exact h.eh k hk
  · rw [upd_rd, upd_rd, upd_rd, upd_rd, h.xg k hk]
  · rw [upd_rd, upd_rd]
    by_cases z : k = 6 * b + a
    · rw [if_pos z, z]; exact x2
    · rw [if_neg z]
      by_cases y : k = 6 * a + b
      · rw [if_pos y, y]; exact x1
      · rw [if_neg y, x3 k y z]
        refine h.xh k hk (fun q2 => hv ?_)
        unfold addv
        rw [if_neg z, if_neg y]; exact q2
  · rw [lks_add h.nt (by omega) (by omega) hab hv0 hs, h.lk]
