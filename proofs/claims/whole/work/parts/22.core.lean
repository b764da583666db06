/-! PURE PART: the world's cells, what is always so of them, the past; class (X) and reference (M) -/
def N (c : Nat → Int32) (k : Nat) : Nat := (c k).toNatClampNeg
def wnum : List Nat → Nat
  | [] => 0
  | d :: r => d * 10 ^ r.length + wnum r
def Way (n : Nat) : List Nat → Prop
  | [] => False
  | [d] => d = 0
  | d :: e :: r => 0 < d ∧ d < n ∧ d ∉ (e :: r) ∧ Way n (e :: r)
/-- the class's cell of the reference's cell -/
def pi (k : Nat) : Nat := if k = 0 then 0 else if k < 109 then k + 12 else if k < 121 then k - 108 else k
def RW (f c : Nat → Int32) : Prop := ∀ j : Nat, j < 128 → f j = c (pi j)
def chOK (n d : Nat) (x : Int32) : Prop := x = -4 ∨ ∃ r : List Nat, Way n (d :: r) ∧ x = nI (wnum (d :: r))
def WOK (c : Nat → Int32) : Prop :=
  (2 ≤ N c 0 ∧ N c 0 ≤ 6) ∧ (∀ k : Nat, k < 121 → c k = nI (N c k)) ∧ c 127 = nI (N c 127) ∧ (∀ d : Nat, d < 6 → N c (1 + d) ≤ 3 ∧ N c (7 + d) < 64) ∧
  (∀ a b : Nat, a < 6 → b < 6 → N c (13 + a * 6 + b) ≤ 3 ∧ N c (49 + a * 6 + b) ≤ 1 ∧ N c (85 + a * 6 + b) ≤ 9 ∧ N c (13 + b * 6 + a) = (if N c (13 + a * 6 + b) = 0 then 0 else 4 - N c (13 + a * 6 + b)) ∧ N c (49 + b * 6 + a) = N c (49 + a * 6 + b) ∧ (N c (13 + a * 6 + b) = 0 → N c (49 + a * 6 + b) = 0) ∧ (a = b ∨ N c 0 ≤ a → N c (13 + a * 6 + b) = 0)) ∧
  c 121 = nI 0 ∧ (∀ d : Nat, 0 < d → d < 6 → (N c 0 ≤ d → c (121 + d) = -4) ∧ (d < N c 0 → chOK (N c 0) d (c (121 + d))))
theorem N_nI {c : Nat → Int32} {k m : Nat} (h : c k = nI m) (hm : m < 2147483648) : N c k = m := by unfold N; rw [h]; exact nI_clamp hm
theorem N_lt (c : Nat → Int32) (k : Nat) : N c k < 2147483648 := by
  unfold N Int32.toNatClampNeg
  have := (c k).toInt_lt
  omega
def dom (n : Nat) (p : Int32) : Prop := 0 ≤ p ∧ p < nI n
theorem dom_nI {n a : Nat} (hn : n ≤ 6) (h : a < n) : dom n (nI a) := by
  constructor
  · exact nI_pos' (by omega)
  · exact nI_lt h (by omega)
theorem dom_ex {n : Nat} {p : Int32} (hn : n ≤ 6) (h : dom n p) : ∃ a : Nat, a < n ∧ p = nI a := by
  rcases nI_ex p with h1 | ⟨j, hj, rfl⟩
  · exact absurd h1 (Int32.not_lt.mpr h.1)
  · exact ⟨j, by have := h.2; rwa [ltI hj (by omega)] at this, rfl⟩
theorem i64_0 : (0 : Int64) = Int32.toInt64 0 := by decide
theorem cmp_lt (x y : Int64) : (lg_cmp x y < 0) = (x < y) := by
  unfold lg_cmp
  apply propext
  by_cases h : x > y
  · rw [if_pos h]
    constructor
    · intro z; exact absurd z (by decide)
    · intro z
      rw [gt_iff_lt, Int64.lt_iff_toInt_lt] at h
      rw [Int64.lt_iff_toInt_lt] at z
      omega
  · rw [if_neg h]
    by_cases h2 : x = y
    · rw [if_pos h2, h2]
      constructor
      · intro z; exact absurd z (by decide)
      · intro z; rw [Int64.lt_iff_toInt_lt] at z; omega
    · rw [if_neg h2]
      constructor
      · intro _
        rw [gt_iff_lt, Int64.lt_iff_toInt_lt] at h
        rw [← Int64.toInt_inj] at h2
        rw [Int64.lt_iff_toInt_lt]
        omega
      · intro _; decide
theorem cmp_gt (x y : Int64) : (0 < lg_cmp x y) = (y < x) := by
  unfold lg_cmp
  apply propext
  by_cases h : x > y
  · rw [if_pos h]
    exact ⟨fun _ => h, fun _ => by decide⟩
  · rw [if_neg h]
    by_cases h2 : x = y
    · rw [if_pos h2]
      exact ⟨fun z => absurd z (by decide), fun z => absurd z h⟩
    · rw [if_neg h2]
      exact ⟨fun z => absurd z (by decide), fun z => absurd z h⟩
theorem l64_lt (x y : Int32) : (Int32.toInt64 x < Int32.toInt64 y) = (x < y) := by
  apply propext
  rw [Int64.lt_iff_toInt_lt, Int32.lt_iff_toInt_lt, Int32.toInt_toInt64, Int32.toInt_toInt64]
theorem sm_in (x y z : Int32) (s : mx_G) : fX11_in (Int32.toInt64 x) (Int32.toInt64 y) (Int32.toInt64 z) s = some (if y ≤ x ∧ x ≤ z then 1 else 0, s) := by
  unfold fX11_in
  simp only [cmp_lt, cmp_gt, l64_lt]
  by_cases h : x < y
  · rw [if_pos h, if_neg (fun q => Int32.not_lt.mpr q.1 h)]
  · rw [if_neg h]
    by_cases h2 : z < x
    · rw [if_pos h2, if_neg (fun q => Int32.not_lt.mpr q.2 h2)]
    · rw [if_neg h2, if_pos ⟨Int32.not_lt.mp h, Int32.not_lt.mp h2⟩]
theorem sm_inI (x : Int32) {a b : Nat} (ha : a < 2147483648) (hb : b < 2147483648) (y z : Int64) (hy : y = Int32.toInt64 (nI a)) (hz : z = Int32.toInt64 (nI b)) (s : mx_G) : fX11_in (Int32.toInt64 x) y z s = some (if nI a ≤ x ∧ x ≤ nI b then 1 else 0, s) := by
  subst hy; subst hz
  exact sm_in x (nI a) (nI b) s
theorem sm_isDomain {s : mx_G} {n : Nat} (hn : s.1 46 0 = nI n) (h2 : 2 ≤ n) (hn6 : n ≤ 6) (p : Int32) : fX11_isDomain p s = some (if 0 ≤ p ∧ p < nI n then 1 else 0, s) := by
  unfold fX11_isDomain
  simp (disch := omega) only [li_0, ixT, clI, if_true, hn, li_1, suI]
  rw [sm_inI p (a := 0) (b := n - 1) (by omega) (by omega) 0 _ (by decide) rfl, bd_some]
  have e : (nI 0 ≤ p ∧ p ≤ nI (n - 1)) ↔ (nI 0 ≤ p ∧ p < nI n) := by
    constructor
    · rintro ⟨h1, h3⟩
      refine ⟨h1, ?_⟩
      rw [Int32.lt_iff_toInt_lt, nI_toInt (by omega)]
      rw [Int32.le_iff_toInt_le, nI_toInt (by omega)] at h3
      omega
    · rintro ⟨h1, h3⟩
      refine ⟨h1, ?_⟩
      rw [Int32.le_iff_toInt_le, nI_toInt (by omega)]
      rw [Int32.lt_iff_toInt_lt, nI_toInt (by omega)] at h3
      omega
  simp only [e]
  by_cases h : nI 0 ≤ p ∧ p < nI n
  · simp only [if_pos h]; rfl
  · simp only [if_neg h]; rfl
