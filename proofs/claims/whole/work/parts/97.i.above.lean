/-! PURE PART: fail: the reference's odds -/
theorem okB_cons (w : Nat) (M : List Nat) (X : Nat) : okB (w :: M) X = ((w &&& X == w) || okB M X) := by
  unfold okB
  rw [List.any_cons]
theorem dn_zero (w X : Nat) : dn w X = 0 ↔ w &&& X = w := by
  constructor
  · intro h
    apply Nat.eq_of_testBit_eq
    intro i
    have := dn_bit w X i
    rw [h, Nat.zero_testBit] at this
    rw [Nat.testBit_and]
    cases h1 : w.testBit i <;> cases h2 : X.testBit i <;> simp_all
  · intro h
    unfold dn
    rw [h, Nat.xor_self]
theorem sm_a73 {M : List Nat} (hM : M.length ≤ 65) (hw : ∀ w ∈ M, w < 2 ^ 15) {s : mx_G} (hs : ∀ k w, M[k]? = some w → s.1 65 k = nI w) (a2 a3 : Int32) (a5 : Int64) (X : Nat) (K : Int32 → mx_G → Option (Int64 × mx_G)) : ∀ (m j f : Nat), j + m = M.length → lX11_above_73 a2 a3 (nI M.length) a5 (nI X) K (m + 1 + f) 0 (nI j) s = K (if okB (M.drop j) X = true then 1 else 0) s := by
  intro m
  induction m with
  | zero =>
    intro j f h
    rw [show 0 + 1 + f = f + 1 by omega, lX11_above_73, if_pos (nI_le (by omega) (by omega)), List.drop_eq_nil_of_le (by omega)]
    rfl
  | succ m ih =>
    intro j f h
    have hj : j < M.length := by omega
    have e1 : nI j + 1 = nI (j + 1) := by rw [li_1, adI]
    have hg : M[j]? = some M[j] := List.getElem?_eq_getElem hj
    have hb := hw M[j] (List.getElem_mem hj)
    have hd := dn_lt (b := X) hb
    rw [show m + 1 + 1 + f = (m + 1 + f) + 1 by omega, lX11_above_73, if_neg (nI_ge (by omega) (by omega)), if_pos rfl, ixT (by omega) (by omega), if_pos rfl, clI (by omega), hs j _ hg, dn_n, e1, List.drop_eq_getElem_cons hj, okB_cons]
    by_cases z : dn M[j] X = 0
    · have z2 := (dn_zero _ _).mp z
      rw [if_pos (by rw [z]; rfl), z2, beq_self_eq_true, Bool.true_or, if_pos rfl, show m + 1 + f = (m + f) + 1 by omega, lX11_above_73]
      split
      · rfl
      · rw [if_neg one_ne]
    · have z2 : (M[j] &&& X == M[j]) = false := by
        cases q : (M[j] &&& X == M[j]) with
        | false => rfl
        | true => exact absurd ((dn_zero _ _).mpr (by simpa using q)) z
      rw [if_neg (by rw [li_0, eqI (by omega) (by omega)]; exact z), z2, Bool.false_or]
      exact ih (j + 1) f (by omega)
theorem sm_a59 {M : List Nat} (hM : M.length ≤ 65) (hw : ∀ w ∈ M, w < 2 ^ 15) {s : mx_G} (hs : ∀ k w, M[k]? = some w → s.1 65 k = nI w) {q m : Nat} (hq : q ≤ 10) (hm : m ≤ 15) : ∀ (r X f : Nat), X + r = 2 ^ m → lX11_above_59 (nI q) (nI m) (nI M.length) (r + 1 + f) (lN (bsum (trm M q m) 0 X)) (nI X) s = some (lN (bsum (trm M q m) 0 (2 ^ m)), s) := by
  have h15 : 2 ^ m ≤ 2 ^ 15 := Nat.pow_le_pow_right (by omega) hm
  intro r
  induction r with
  | zero =>
    intro X f h
    rw [show 0 + 1 + f = f + 1 by omega, lX11_above_59, shl_g m (by omega), if_pos (nI_le (by omega) (by omega)), show X = 2 ^ m by omega]
  | succ r ih =>
    intro X f h
    have hi := ih (X + 1) f (by omega)
    have e1 : nI X + 1 = nI (X + 1) := by rw [li_1, adI]
    have hp := pcn_le m X
    obtain ⟨f1, hf1⟩ := FU_lt (n := M.length) (by omega)
    obtain ⟨f2, hf2⟩ := FU_lt (n := pcn m X) (by omega)
    have eb : fX11_bits (nI X) s = some (nI (pcn m X), s) := by
      have e := sm_bits hm s (pcn m X) 0 X f2 (by omega) rfl
      rw [← hf2, Nat.zero_add] at e
      unfold fX11_bits
      exact e
    rw [bsum, Nat.zero_add] at hi
    have e73 := fun K => sm_a73 hM hw hs (nI q) (nI m) (lN (bsum (trm M q m) 0 X)) X K M.length 0 f1 (by omega)
    rw [← hf1] at e73
    rw [show r + 1 + 1 + f = (r + 1 + f) + 1 by omega, lX11_above_59, shl_g m (by omega), if_neg (nI_ge (by omega) (by omega)), li_0, ← li_0]
    refine Eq.trans (e73 _) ?_
    rw [List.drop_zero]
    unfold trm at hi
    by_cases z : okB M X = true
    · rw [if_pos z] at hi
      rw [if_pos z]
      show (if (1 : Int32) = 0 then _ else _) = _
      rw [if_neg one_ne, eb, bd_some, nI_l (show q < 2 ^ 31 by omega), show (10 : Int64) = lN 10 from rfl, lN_sub hq, sm_power _ (by omega), bd_some, eb, bd_some, suI hp, sm_power _ (by omega), bd_some, mv_let, lN_mul, lN_add, e1]
      exact hi
    · rw [if_neg z] at hi
      rw [if_neg z]
      show (if (0 : Int32) = 0 then _ else _) = _
      rw [if_pos rfl, mv_let, show (0 : Int64) = lN 0 from rfl, lN_add, e1]
      exact hi
theorem sm_above {c : Nat → Int32} (ho : WOK c) {n : Nat} (hn : 0 < n) (h6 : n ≤ 6) {L : List (List Nat)} (hL : L.length ≤ 326) (hcn : ∀ d, d < 6 → cn d L ≤ 65) (hway : ∀ l ∈ L, Way n l) (hadj : ∀ l ∈ L, adj c l) {t : mx_G} (hm : MR L t) (hg : G64 c 15 (t.1 64)) {d : Nat} (hd : d < 6) {q : Nat} (hq : q ≤ 10) : ∃ g', fX11_above (nI d) (nI q) (nI (ixp c 15)) t = some (lN (Vp (Md c L d) q (dwn (ixp c 15)) 0), gs t 65 g') := by
  have h15 := ixp_le c 15
  have hp : 2 ^ ixp c 15 ≤ 2 ^ 15 := Nat.pow_le_pow_right (by omega) h15
  obtain ⟨f, hf⟩ := FU_lt (n := L.length) (by omega)
  obtain ⟨f2, hf2⟩ := FU_lt (n := 2 ^ ixp c 15) (by omega)
  obtain ⟨g', h1, h2⟩ := sm_above6 hn h6 hL hcn hway hadj hm hg hd (nI q) (nI (ixp c 15)) (fun y5 s4 => lX11_above_59 (nI q) (nI (ixp c 15)) y5 FU 0 0 s4) L.length 0 f (t.1 65) (by omega) (fun k w h => by rw [List.take_zero] at h; cases h)
  rw [gs_self, ← hf] at h1
  have hlen : (Md c L d).length ≤ 65 := by rw [Md_len]; exact hcn d hd
  have e := sm_a59 (M := Md c L d) (s := gs t 65 g') hlen (fun w hw => by
    unfold Md at hw
    rw [List.mem_map] at hw
    obtain ⟨l, a1, rfl⟩ := hw
    have a2 := (List.mem_filter.mp a1).1
    have := mkr_lt ho hn h6 (hway l a2) (hadj l a2)
    omega) (fun k w h => by rw [gs_rd]; exact h2 k w h) hq h15 (2 ^ ixp c 15) 0 f2 (by omega)
  rw [← hf2, bsum_all] at e
  refine ⟨g', ?_⟩
  unfold fX11_above
  exact Eq.trans h1 e
