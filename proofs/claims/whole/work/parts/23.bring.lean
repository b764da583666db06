/-! PURE PART: rows copied place by place (the reference), the past kept and brought back -/
theorem gs_self (s : mx_G) (p : Nat) : gs s p (s.1 p) = s := by
  unfold gs
  apply Prod.ext
  · funext q; show (if q = p then s.1 p else s.1 q) = s.1 q
    by_cases h : q = p
    · rw [if_pos h, h]
    · rw [if_neg h]
  · rfl
theorem gs_gs (s : mx_G) (p : Nat) (f g : Nat → Int32) : gs (gs s p f) p g = gs s p g := by
  unfold gs
  apply Prod.ext
  · funext q; show (if q = p then g else if q = p then f else s.1 q) = if q = p then g else s.1 q
    by_cases h : q = p
    · rw [if_pos h, if_pos h]
    · rw [if_neg h, if_neg h, if_neg h]
  · rfl
theorem gs_gi (s : mx_G) (p k : Nat) (x : Int32) (g : Nat → Int32) : gs (gi s p k x) p g = gs s p g := gs_gs s p _ g
theorem FU_lt {n : Nat} (h : n ≤ 100000) : ∃ f, FU = n + 1 + f := ⟨FU - (n + 1), by have : FU = 1000000 := rfl; omega⟩
theorem sm_bring_l (i j n : Nat) (hi : i + n ≤ 128) (hj : j + n ≤ 768) : ∀ (m k f : Nat) (s : mx_G), k + m = n → lX11_bring_3 (nI i) (nI j) (nI n) (m + 1 + f) (nI k) s = some ((), gs s 47 (fun t => if j + k ≤ t ∧ t < j + n then s.1 46 (i + (t - j)) else s.1 47 t)) := by
  intro m
  induction m with
  | zero =>
    intro k f s hk
    rw [show 0 + 1 + f = f + 1 by omega, lX11_bring_3, if_pos (nI_le (by omega) (by omega))]
    congr 2
    rw [show (fun t => if j + k ≤ t ∧ t < j + n then s.1 46 (i + (t - j)) else s.1 47 t) = s.1 47 from funext fun t => if_neg (by omega)]
    exact (gs_self s 47).symm
  | succ m ih =>
    intro k f s hk
    rw [show m + 1 + 1 + f = (m + 1 + f) + 1 by omega, lX11_bring_3, if_neg (nI_ge (by omega) (by omega))]
    simp (disch := omega) only [adI, ixT, clI, if_true, li_1, mv_let]
    rw [ih (k + 1) f _ (by omega), gs_gi]
    congr 3
    funext t
    by_cases h1 : t = j + k
    · subst h1
      rw [if_neg (by omega), if_pos (by omega), rd_gi, if_pos rfl, upd_rd, if_pos rfl, Nat.add_sub_cancel_left]
    · by_cases h2 : j + k ≤ t ∧ t < j + n
      · rw [if_pos (by omega), if_pos h2, rd_gi]
        rw [if_neg (by decide)]
      · rw [if_neg (by omega), if_neg h2, rd_gi, if_pos rfl, upd_rd, if_neg h1]
theorem sm_bring (i j n : Nat) (hi : i + n ≤ 128) (hj : j + n ≤ 768) (s : mx_G) : fX11_bring (nI i) (nI j) (nI n) s = some ((), gs s 47 (va_cpy (s.1 46) (s.1 47) i j n)) := by
  obtain ⟨f, hf⟩ := FU_lt (n := n) (by omega)
  unfold fX11_bring
  rw [hf, li_0, sm_bring_l i j n hi hj n 0 f s (by omega)]
  rfl
theorem sm_bring_1_l (i j n : Nat) (hi : i + n ≤ 768) (hj : j + n ≤ 768) (hij : j ≤ i) : ∀ (m k f : Nat) (s : mx_G), k + m = n → lX11_bring_1_3 (nI i) (nI j) (nI n) (m + 1 + f) (nI k) s = some ((), gs s 47 (fun t => if j + k ≤ t ∧ t < j + n then s.1 47 (i + (t - j)) else s.1 47 t)) := by
  intro m
  induction m with
  | zero =>
    intro k f s hk
    rw [show 0 + 1 + f = f + 1 by omega, lX11_bring_1_3, if_pos (nI_le (by omega) (by omega))]
    congr 2
    rw [show (fun t => if j + k ≤ t ∧ t < j + n then s.1 47 (i + (t - j)) else s.1 47 t) = s.1 47 from funext fun t => if_neg (by omega)]
    exact (gs_self s 47).symm
  | succ m ih =>
    intro k f s hk
    rw [show m + 1 + 1 + f = (m + 1 + f) + 1 by omega, lX11_bring_1_3, if_neg (nI_ge (by omega) (by omega))]
    simp (disch := omega) only [adI, ixT, clI, if_true, li_1, mv_let]
    rw [ih (k + 1) f _ (by omega), gs_gi]
    congr 3
    funext t
    by_cases h1 : t = j + k
    · subst h1
      rw [if_neg (by omega), if_pos (by omega), rd_gi, if_pos rfl, upd_rd, if_pos rfl, Nat.add_sub_cancel_left]
    · by_cases h2 : j + k ≤ t ∧ t < j + n
      · rw [if_pos (by omega), if_pos h2, rd_gi]
        rw [if_pos rfl, upd_rd, if_neg (by omega)]
      · rw [if_neg (by omega), if_neg h2, rd_gi, if_pos rfl, upd_rd, if_neg h1]
theorem sm_bring_1 (i j n : Nat) (hi : i + n ≤ 768) (hj : j + n ≤ 768) (hij : j ≤ i) (s : mx_G) : fX11_bring_1 (nI i) (nI j) (nI n) s = some ((), gs s 47 (va_cpy (s.1 47) (s.1 47) i j n)) := by
  obtain ⟨f, hf⟩ := FU_lt (n := n) (by omega)
  unfold fX11_bring_1
  rw [hf, li_0, sm_bring_1_l i j n hi hj hij n 0 f s (by omega)]
  rfl
theorem sm_bring_2_l (i j n : Nat) (hi : i + n ≤ 128) (hj : j + n ≤ 6) : ∀ (m k f : Nat) (s : mx_G), k + m = n → lX11_bring_2_3 (nI i) (nI j) (nI n) (m + 1 + f) (nI k) s = some ((), gs s 56 (fun t => if j + k ≤ t ∧ t < j + n then s.1 46 (i + (t - j)) else s.1 56 t)) := by
  intro m
  induction m with
  | zero =>
    intro k f s hk
    rw [show 0 + 1 + f = f + 1 by omega, lX11_bring_2_3, if_pos (nI_le (by omega) (by omega))]
    congr 2
    rw [show (fun t => if j + k ≤ t ∧ t < j + n then s.1 46 (i + (t - j)) else s.1 56 t) = s.1 56 from funext fun t => if_neg (by omega)]
    exact (gs_self s 56).symm
  | succ m ih =>
    intro k f s hk
    rw [show m + 1 + 1 + f = (m + 1 + f) + 1 by omega, lX11_bring_2_3, if_neg (nI_ge (by omega) (by omega))]
    simp (disch := omega) only [adI, ixT, clI, if_true, li_1, mv_let]
    rw [ih (k + 1) f _ (by omega), gs_gi]
    congr 3
    funext t
    by_cases h1 : t = j + k
    · subst h1
      rw [if_neg (by omega), if_pos (by omega), rd_gi, if_pos rfl, upd_rd, if_pos rfl, Nat.add_sub_cancel_left]
    · by_cases h2 : j + k ≤ t ∧ t < j + n
      · rw [if_pos (by omega), if_pos h2, rd_gi]
        rw [if_neg (by decide)]
      · rw [if_neg (by omega), if_neg h2, rd_gi, if_pos rfl, upd_rd, if_neg h1]
theorem sm_bring_2 (i j n : Nat) (hi : i + n ≤ 128) (hj : j + n ≤ 6) (s : mx_G) : fX11_bring_2 (nI i) (nI j) (nI n) s = some ((), gs s 56 (va_cpy (s.1 46) (s.1 56) i j n)) := by
  obtain ⟨f, hf⟩ := FU_lt (n := n) (by omega)
  unfold fX11_bring_2
  rw [hf, li_0, sm_bring_2_l i j n hi hj n 0 f s (by omega)]
  rfl
theorem sm_bring_3_l (i j n : Nat) (hi : i + n ≤ 6) (hj : j + n ≤ 128) : ∀ (m k f : Nat) (s : mx_G), k + m = n → lX11_bring_3_3 (nI i) (nI j) (nI n) (m + 1 + f) (nI k) s = some ((), gs s 46 (fun t => if j + k ≤ t ∧ t < j + n then s.1 56 (i + (t - j)) else s.1 46 t)) := by
  intro m
  induction m with
  | zero =>
    intro k f s hk
    rw [show 0 + 1 + f = f + 1 by omega, lX11_bring_3_3, if_pos (nI_le (by omega) (by omega))]
    congr 2
    rw [show (fun t => if j + k ≤ t ∧ t < j + n then s.1 56 (i + (t - j)) else s.1 46 t) = s.1 46 from funext fun t => if_neg (by omega)]
    exact (gs_self s 46).symm
  | succ m ih =>
    intro k f s hk
    rw [show m + 1 + 1 + f = (m + 1 + f) + 1 by omega, lX11_bring_3_3, if_neg (nI_ge (by omega) (by omega))]
    simp (disch := omega) only [adI, ixT, clI, if_true, li_1, mv_let]
    rw [ih (k + 1) f _ (by omega), gs_gi]
    congr 3
    funext t
    by_cases h1 : t = j + k
    · subst h1
      rw [if_neg (by omega), if_pos (by omega), rd_gi, if_pos rfl, upd_rd, if_pos rfl, Nat.add_sub_cancel_left]
    · by_cases h2 : j + k ≤ t ∧ t < j + n
      · rw [if_pos (by omega), if_pos h2, rd_gi]
        rw [if_neg (by decide)]
      · rw [if_neg (by omega), if_neg h2, rd_gi, if_pos rfl, upd_rd, if_neg h1]
theorem sm_bring_3 (i j n : Nat) (hi : i + n ≤ 6) (hj : j + n ≤ 128) (s : mx_G) : fX11_bring_3 (nI i) (nI j) (nI n) s = some ((), gs s 46 (va_cpy (s.1 56) (s.1 46) i j n)) := by
  obtain ⟨f, hf⟩ := FU_lt (n := n) (by omega)
  unfold fX11_bring_3
  rw [hf, li_0, sm_bring_3_l i j n hi hj n 0 f s (by omega)]
  rfl
theorem sm_bring_4_l (i j n : Nat) (hi : i + n ≤ 6) (hj : j + n ≤ 366) : ∀ (m k f : Nat) (s : mx_G), k + m = n → lX11_bring_4_3 (nI i) (nI j) (nI n) (m + 1 + f) (nI k) s = some ((), gs s 58 (fun t => if j + k ≤ t ∧ t < j + n then s.1 56 (i + (t - j)) else s.1 58 t)) := by
  intro m
  induction m with
  | zero =>
    intro k f s hk
    rw [show 0 + 1 + f = f + 1 by omega, lX11_bring_4_3, if_pos (nI_le (by omega) (by omega))]
    congr 2
    rw [show (fun t => if j + k ≤ t ∧ t < j + n then s.1 56 (i + (t - j)) else s.1 58 t) = s.1 58 from funext fun t => if_neg (by omega)]
    exact (gs_self s 58).symm
  | succ m ih =>
    intro k f s hk
    rw [show m + 1 + 1 + f = (m + 1 + f) + 1 by omega, lX11_bring_4_3, if_neg (nI_ge (by omega) (by omega))]
    simp (disch := omega) only [adI, ixT, clI, if_true, li_1, mv_let]
    rw [ih (k + 1) f _ (by omega), gs_gi]
    congr 3
    funext t
    by_cases h1 : t = j + k
    · subst h1
      rw [if_neg (by omega), if_pos (by omega), rd_gi, if_pos rfl, upd_rd, if_pos rfl, Nat.add_sub_cancel_left]
    · by_cases h2 : j + k ≤ t ∧ t < j + n
      · rw [if_pos (by omega), if_pos h2, rd_gi]
        rw [if_neg (by decide)]
      · rw [if_neg (by omega), if_neg h2, rd_gi, if_pos rfl, upd_rd, if_neg h1]
theorem sm_bring_4 (i j n : Nat) (hi : i + n ≤ 6) (hj : j + n ≤ 366) (s : mx_G) : fX11_bring_4 (nI i) (nI j) (nI n) s = some ((), gs s 58 (va_cpy (s.1 56) (s.1 58) i j n)) := by
  obtain ⟨f, hf⟩ := FU_lt (n := n) (by omega)
  unfold fX11_bring_4
  rw [hf, li_0, sm_bring_4_l i j n hi hj n 0 f s (by omega)]
  rfl
theorem sm_bring_5_l (i j n : Nat) (hi : i + n ≤ 36) (hj : j + n ≤ 128) : ∀ (m k f : Nat) (s : mx_G), k + m = n → lX11_bring_5_3 (nI i) (nI j) (nI n) (m + 1 + f) (nI k) s = some ((), gs s 46 (fun t => if j + k ≤ t ∧ t < j + n then s.1 66 (i + (t - j)) else s.1 46 t)) := by
  intro m
  induction m with
  | zero =>
    intro k f s hk
    rw [show 0 + 1 + f = f + 1 by omega, lX11_bring_5_3, if_pos (nI_le (by omega) (by omega))]
    congr 2
    rw [show (fun t => if j + k ≤ t ∧ t < j + n then s.1 66 (i + (t - j)) else s.1 46 t) = s.1 46 from funext fun t => if_neg (by omega)]
    exact (gs_self s 46).symm
  | succ m ih =>
    intro k f s hk
    rw [show m + 1 + 1 + f = (m + 1 + f) + 1 by omega, lX11_bring_5_3, if_neg (nI_ge (by omega) (by omega))]
    simp (disch := omega) only [adI, ixT, clI, if_true, li_1, mv_let]
    rw [ih (k + 1) f _ (by omega), gs_gi]
    congr 3
    funext t
    by_cases h1 : t = j + k
    · subst h1
      rw [if_neg (by omega), if_pos (by omega), rd_gi, if_pos rfl, upd_rd, if_pos rfl, Nat.add_sub_cancel_left]
    · by_cases h2 : j + k ≤ t ∧ t < j + n
      · rw [if_pos (by omega), if_pos h2, rd_gi]
        rw [if_neg (by decide)]
      · rw [if_neg (by omega), if_neg h2, rd_gi, if_pos rfl, upd_rd, if_neg h1]
theorem sm_bring_5 (i j n : Nat) (hi : i + n ≤ 36) (hj : j + n ≤ 128) (s : mx_G) : fX11_bring_5 (nI i) (nI j) (nI n) s = some ((), gs s 46 (va_cpy (s.1 66) (s.1 46) i j n)) := by
  obtain ⟨f, hf⟩ := FU_lt (n := n) (by omega)
  unfold fX11_bring_5
  rw [hf, li_0, sm_bring_5_l i j n hi hj n 0 f s (by omega)]
  rfl
theorem sm_bring_6_l (i j n : Nat) (hi : i + n ≤ 36) (hj : j + n ≤ 128) : ∀ (m k f : Nat) (s : mx_G), k + m = n → lX11_bring_6_3 (nI i) (nI j) (nI n) (m + 1 + f) (nI k) s = some ((), gs s 46 (fun t => if j + k ≤ t ∧ t < j + n then s.1 67 (i + (t - j)) else s.1 46 t)) := by
  intro m
  induction m with
  | zero =>
    intro k f s hk
    rw [show 0 + 1 + f = f + 1 by omega, lX11_bring_6_3, if_pos (nI_le (by omega) (by omega))]
    congr 2
    rw [show (fun t => if j + k ≤ t ∧ t < j + n then s.1 67 (i + (t - j)) else s.1 46 t) = s.1 46 from funext fun t => if_neg (by omega)]
    exact (gs_self s 46).symm
  | succ m ih =>
    intro k f s hk
    rw [show m + 1 + 1 + f = (m + 1 + f) + 1 by omega, lX11_bring_6_3, if_neg (nI_ge (by omega) (by omega))]
    simp (disch := omega) only [adI, ixT, clI, if_true, li_1, mv_let]
    rw [ih (k + 1) f _ (by omega), gs_gi]
    congr 3
    funext t
    by_cases h1 : t = j + k
    · subst h1
      rw [if_neg (by omega), if_pos (by omega), rd_gi, if_pos rfl, upd_rd, if_pos rfl, Nat.add_sub_cancel_left]
    · by_cases h2 : j + k ≤ t ∧ t < j + n
      · rw [if_pos (by omega), if_pos h2, rd_gi]
        rw [if_neg (by decide)]
      · rw [if_neg (by omega), if_neg h2, rd_gi, if_pos rfl, upd_rd, if_neg h1]
theorem sm_bring_6 (i j n : Nat) (hi : i + n ≤ 36) (hj : j + n ≤ 128) (s : mx_G) : fX11_bring_6 (nI i) (nI j) (nI n) s = some ((), gs s 46 (va_cpy (s.1 67) (s.1 46) i j n)) := by
  obtain ⟨f, hf⟩ := FU_lt (n := n) (by omega)
  unfold fX11_bring_6
  rw [hf, li_0, sm_bring_6_l i j n hi hj n 0 f s (by omega)]
  rfl
theorem sm_bring_7_l (i j n : Nat) (hi : i + n ≤ 768) (hj : j + n ≤ 128) : ∀ (m k f : Nat) (s : mx_G), k + m = n → lX11_bring_7_3 (nI i) (nI j) (nI n) (m + 1 + f) (nI k) s = some ((), gs s 46 (fun t => if j + k ≤ t ∧ t < j + n then s.1 47 (i + (t - j)) else s.1 46 t)) := by
  intro m
  induction m with
  | zero =>
    intro k f s hk
    rw [show 0 + 1 + f = f + 1 by omega, lX11_bring_7_3, if_pos (nI_le (by omega) (by omega))]
    congr 2
    rw [show (fun t => if j + k ≤ t ∧ t < j + n then s.1 47 (i + (t - j)) else s.1 46 t) = s.1 46 from funext fun t => if_neg (by omega)]
    exact (gs_self s 46).symm
  | succ m ih =>
    intro k f s hk
    rw [show m + 1 + 1 + f = (m + 1 + f) + 1 by omega, lX11_bring_7_3, if_neg (nI_ge (by omega) (by omega))]
    simp (disch := omega) only [adI, ixT, clI, if_true, li_1, mv_let]
    rw [ih (k + 1) f _ (by omega), gs_gi]
    congr 3
    funext t
    by_cases h1 : t = j + k
    · subst h1
      rw [if_neg (by omega), if_pos (by omega), rd_gi, if_pos rfl, upd_rd, if_pos rfl, Nat.add_sub_cancel_left]
    · by_cases h2 : j + k ≤ t ∧ t < j + n
      · rw [if_pos (by omega), if_pos h2, rd_gi]
        rw [if_neg (by decide)]
      · rw [if_neg (by omega), if_neg h2, rd_gi, if_pos rfl, upd_rd, if_neg h1]
theorem sm_bring_7 (i j n : Nat) (hi : i + n ≤ 768) (hj : j + n ≤ 128) (s : mx_G) : fX11_bring_7 (nI i) (nI j) (nI n) s = some ((), gs s 46 (va_cpy (s.1 47) (s.1 46) i j n)) := by
  obtain ⟨f, hf⟩ := FU_lt (n := n) (by omega)
  unfold fX11_bring_7
  rw [hf, li_0, sm_bring_7_l i j n hi hj n 0 f s (by omega)]
  rfl
theorem sm_bring_8_l (i j n : Nat) (hi : i + n ≤ 128) (hj : j + n ≤ 128) : ∀ (m k f : Nat) (s : mx_G), k + m = n → lX11_bring_8_3 (nI i) (nI j) (nI n) (m + 1 + f) (nI k) s = some ((), gs s 48 (fun t => if j + k ≤ t ∧ t < j + n then s.1 46 (i + (t - j)) else s.1 48 t)) := by
  intro m
  induction m with
  | zero =>
    intro k f s hk
    rw [show 0 + 1 + f = f + 1 by omega, lX11_bring_8_3, if_pos (nI_le (by omega) (by omega))]
    congr 2
    rw [show (fun t => if j + k ≤ t ∧ t < j + n then s.1 46 (i + (t - j)) else s.1 48 t) = s.1 48 from funext fun t => if_neg (by omega)]
    exact (gs_self s 48).symm
  | succ m ih =>
    intro k f s hk
    rw [show m + 1 + 1 + f = (m + 1 + f) + 1 by omega, lX11_bring_8_3, if_neg (nI_ge (by omega) (by omega))]
    simp (disch := omega) only [adI, ixT, clI, if_true, li_1, mv_let]
    rw [ih (k + 1) f _ (by omega), gs_gi]
    congr 3
    funext t
    by_cases h1 : t = j + k
    · subst h1
      rw [if_neg (by omega), if_pos (by omega), rd_gi, if_pos rfl, upd_rd, if_pos rfl, Nat.add_sub_cancel_left]
    · by_cases h2 : j + k ≤ t ∧ t < j + n
      · rw [if_pos (by omega), if_pos h2, rd_gi]
        rw [if_neg (by decide)]
      · rw [if_neg (by omega), if_neg h2, rd_gi, if_pos rfl, upd_rd, if_neg h1]
theorem sm_bring_8 (i j n : Nat) (hi : i + n ≤ 128) (hj : j + n ≤ 128) (s : mx_G) : fX11_bring_8 (nI i) (nI j) (nI n) s = some ((), gs s 48 (va_cpy (s.1 46) (s.1 48) i j n)) := by
  obtain ⟨f, hf⟩ := FU_lt (n := n) (by omega)
  unfold fX11_bring_8
  rw [hf, li_0, sm_bring_8_l i j n hi hj n 0 f s (by omega)]
  rfl
theorem sm_bring_9_l (i j n : Nat) (hi : i + n ≤ 768) (hj : j + n ≤ 768) : ∀ (m k f : Nat) (s : mx_G), k + m = n → lX11_bring_9_3 (nI i) (nI j) (nI n) (m + 1 + f) (nI k) s = some ((), gs s 49 (fun t => if j + k ≤ t ∧ t < j + n then s.1 47 (i + (t - j)) else s.1 49 t)) := by
  intro m
  induction m with
  | zero =>
    intro k f s hk
    rw [show 0 + 1 + f = f + 1 by omega, lX11_bring_9_3, if_pos (nI_le (by omega) (by omega))]
    congr 2
    rw [show (fun t => if j + k ≤ t ∧ t < j + n then s.1 47 (i + (t - j)) else s.1 49 t) = s.1 49 from funext fun t => if_neg (by omega)]
    exact (gs_self s 49).symm
  | succ m ih =>
    intro k f s hk
    rw [show m + 1 + 1 + f = (m + 1 + f) + 1 by omega, lX11_bring_9_3, if_neg (nI_ge (by omega) (by omega))]
    simp (disch := omega) only [adI, ixT, clI, if_true, li_1, mv_let]
    rw [ih (k + 1) f _ (by omega), gs_gi]
    congr 3
    funext t
    by_cases h1 : t = j + k
    · subst h1
      rw [if_neg (by omega), if_pos (by omega), rd_gi, if_pos rfl, upd_rd, if_pos rfl, Nat.add_sub_cancel_left]
    · by_cases h2 : j + k ≤ t ∧ t < j + n
      · rw [if_pos (by omega), if_pos h2, rd_gi]
        rw [if_neg (by decide)]
      · rw [if_neg (by omega), if_neg h2, rd_gi, if_pos rfl, upd_rd, if_neg h1]
theorem sm_bring_9 (i j n : Nat) (hi : i + n ≤ 768) (hj : j + n ≤ 768) (s : mx_G) : fX11_bring_9 (nI i) (nI j) (nI n) s = some ((), gs s 49 (va_cpy (s.1 47) (s.1 49) i j n)) := by
  obtain ⟨f, hf⟩ := FU_lt (n := n) (by omega)
  unfold fX11_bring_9
  rw [hf, li_0, sm_bring_9_l i j n hi hj n 0 f s (by omega)]
  rfl
theorem sm_bring_10_l (i j n : Nat) (hi : i + n ≤ 128) (hj : j + n ≤ 128) : ∀ (m k f : Nat) (s : mx_G), k + m = n → lX11_bring_10_3 (nI i) (nI j) (nI n) (m + 1 + f) (nI k) s = some ((), gs s 46 (fun t => if j + k ≤ t ∧ t < j + n then s.1 48 (i + (t - j)) else s.1 46 t)) := by
  intro m
  induction m with
  | zero =>
    intro k f s hk
    rw [show 0 + 1 + f = f + 1 by omega, lX11_bring_10_3, if_pos (nI_le (by omega) (by omega))]
    congr 2
    rw [show (fun t => if j + k ≤ t ∧ t < j + n then s.1 48 (i + (t - j)) else s.1 46 t) = s.1 46 from funext fun t => if_neg (by omega)]
    exact (gs_self s 46).symm
  | succ m ih =>
    intro k f s hk
    rw [show m + 1 + 1 + f = (m + 1 + f) + 1 by omega, lX11_bring_10_3, if_neg (nI_ge (by omega) (by omega))]
    simp (disch := omega) only [adI, ixT, clI, if_true, li_1, mv_let]
    rw [ih (k + 1) f _ (by omega), gs_gi]
    congr 3
    funext t
    by_cases h1 : t = j + k
    · subst h1
      rw [if_neg (by omega), if_pos (by omega), rd_gi, if_pos rfl, upd_rd, if_pos rfl, Nat.add_sub_cancel_left]
    · by_cases h2 : j + k ≤ t ∧ t < j + n
      · rw [if_pos (by omega), if_pos h2, rd_gi]
        rw [if_neg (by decide)]
      · rw [if_neg (by omega), if_neg h2, rd_gi, if_pos rfl, upd_rd, if_neg h1]
theorem sm_bring_10 (i j n : Nat) (hi : i + n ≤ 128) (hj : j + n ≤ 128) (s : mx_G) : fX11_bring_10 (nI i) (nI j) (nI n) s = some ((), gs s 46 (va_cpy (s.1 48) (s.1 46) i j n)) := by
  obtain ⟨f, hf⟩ := FU_lt (n := n) (by omega)
  unfold fX11_bring_10
  rw [hf, li_0, sm_bring_10_l i j n hi hj n 0 f s (by omega)]
  rfl
theorem sm_bring_11_l (i j n : Nat) (hi : i + n ≤ 768) (hj : j + n ≤ 768) : ∀ (m k f : Nat) (s : mx_G), k + m = n → lX11_bring_11_3 (nI i) (nI j) (nI n) (m + 1 + f) (nI k) s = some ((), gs s 47 (fun t => if j + k ≤ t ∧ t < j + n then s.1 49 (i + (t - j)) else s.1 47 t)) := by
  intro m
  induction m with
  | zero =>
    intro k f s hk
    rw [show 0 + 1 + f = f + 1 by omega, lX11_bring_11_3, if_pos (nI_le (by omega) (by omega))]
    congr 2
    rw [show (fun t => if j + k ≤ t ∧ t < j + n then s.1 49 (i + (t - j)) else s.1 47 t) = s.1 47 from funext fun t => if_neg (by omega)]
    exact (gs_self s 47).symm
  | succ m ih =>
    intro k f s hk
    rw [show m + 1 + 1 + f = (m + 1 + f) + 1 by omega, lX11_bring_11_3, if_neg (nI_ge (by omega) (by omega))]
    simp (disch := omega) only [adI, ixT, clI, if_true, li_1, mv_let]
    rw [ih (k + 1) f _ (by omega), gs_gi]
    congr 3
    funext t
    by_cases h1 : t = j + k
    · subst h1
      rw [if_neg (by omega), if_pos (by omega), rd_gi, if_pos rfl, upd_rd, if_pos rfl, Nat.add_sub_cancel_left]
    · by_cases h2 : j + k ≤ t ∧ t < j + n
      · rw [if_pos (by omega), if_pos h2, rd_gi]
        rw [if_neg (by decide)]
      · rw [if_neg (by omega), if_neg h2, rd_gi, if_pos rfl, upd_rd, if_neg h1]
theorem sm_bring_11 (i j n : Nat) (hi : i + n ≤ 768) (hj : j + n ≤ 768) (s : mx_G) : fX11_bring_11 (nI i) (nI j) (nI n) s = some ((), gs s 47 (va_cpy (s.1 49) (s.1 47) i j n)) := by
  obtain ⟨f, hf⟩ := FU_lt (n := n) (by omega)
  unfold fX11_bring_11
  rw [hf, li_0, sm_bring_11_l i j n hi hj n 0 f s (by omega)]
  rfl
