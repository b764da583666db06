/-! PURE PART: the class's rings: who leads to whom -/
def Hs (s : mx_G) (p : Nat) (S : Nat → Prop) : Prop := ∀ k r, k < 6 → r < 64 → (tb (s.2 p k) r = true ↔ S (64 * k + r))
def LE (s : mx_G) (p : Nat) (E : Nat → Nat → Prop) : Prop := ∀ i k r, i < 326 → k < 6 → r < 64 → (tb (s.2 p (i * 6 + k)) r = true ↔ E i (64 * k + r))
theorem sx_fillL : ∀ s : mx_G, fJA_fillL 0 s = some ((), gt s 26 (fun t => if t < 1956 then 0 else s.2 26 t)) := by
  intro s
  have loop : ∀ (m k f : Nat) (g : Nat → Int64), k + m = 1956 → lJA_fillL_6 0 (nI 1956) (m + 1 + f) (nI k) (gt s 26 g) = some ((), gt s 26 (fun t => if k ≤ t ∧ t < 1956 then 0 else g t)) := by
    intro m
    induction m with
    | zero =>
      intro k f g h
      have : (fun t => if k ≤ t ∧ t < 1956 then (0 : Int64) else g t) = g := by funext t; rw [if_neg (by omega)]
      rw [show 0 + 1 + f = f + 1 by omega, lJA_fillL_6, if_pos (nI_le (by omega) (by omega)), this]
    | succ m ih =>
      intro k f g h
      have e1 : nI k + 1 = nI (k + 1) := by rw [li_1, adI]
      rw [show m + 1 + 1 + f = (m + 1 + f) + 1 by omega, lJA_fillL_6, if_neg (nI_ge (by omega) (by omega)), ixT (by omega) (by omega), if_pos rfl, clI (by omega), mv_let, gl_of, e1, ih (k + 1) f _ (by omega)]
      have : (fun t => if k + 1 ≤ t ∧ t < 1956 then (0 : Int64) else vp_updL g k 0 t) = fun t => if k ≤ t ∧ t < 1956 then 0 else g t := by
        funext t
        rw [updL_rd]
        by_cases z : t = k
        · rw [if_neg (by omega), if_pos z, if_pos (by omega)]
        · rw [if_neg z]
          by_cases z2 : k ≤ t ∧ t < 1956
          · rw [if_pos z2, if_pos (by omega)]
          · rw [if_neg z2, if_neg (by omega)]
      rw [this]
  obtain ⟨f, hf⟩ := FU_lt (n := 1956) (by omega)
  have e := loop 1956 0 f (s.2 26) (by omega)
  rw [gt_self, ← hf] at e
  have : (fun t => if 0 ≤ t ∧ t < 1956 then (0 : Int64) else s.2 26 t) = fun t => if t < 1956 then 0 else s.2 26 t := by
    funext t
    by_cases z : t < 1956
    · rw [if_pos ⟨by omega, z⟩, if_pos z]
    · rw [if_neg (by omega), if_neg z]
  rw [this] at e
  unfold fJA_fillL
  exact e
theorem sx_fillL_1 : ∀ s : mx_G, fJA_fillL_1 0 s = some ((), gt s 27 (fun t => if t < 6 then 0 else s.2 27 t)) := by
  intro s
  have loop : ∀ (m k f : Nat) (g : Nat → Int64), k + m = 6 → lJA_fillL_1_6 0 (nI 6) (m + 1 + f) (nI k) (gt s 27 g) = some ((), gt s 27 (fun t => if k ≤ t ∧ t < 6 then 0 else g t)) := by
    intro m
    induction m with
    | zero =>
      intro k f g h
      have : (fun t => if k ≤ t ∧ t < 6 then (0 : Int64) else g t) = g := by funext t; rw [if_neg (by omega)]
      rw [show 0 + 1 + f = f + 1 by omega, lJA_fillL_1_6, if_pos (nI_le (by omega) (by omega)), this]
    | succ m ih =>
      intro k f g h
      have e1 : nI k + 1 = nI (k + 1) := by rw [li_1, adI]
      rw [show m + 1 + 1 + f = (m + 1 + f) + 1 by omega, lJA_fillL_1_6, if_neg (nI_ge (by omega) (by omega)), ixT (by omega) (by omega), if_pos rfl, clI (by omega), mv_let, gl_of, e1, ih (k + 1) f _ (by omega)]
      have : (fun t => if k + 1 ≤ t ∧ t < 6 then (0 : Int64) else vp_updL g k 0 t) = fun t => if k ≤ t ∧ t < 6 then 0 else g t := by
        funext t
        rw [updL_rd]
        by_cases z : t = k
        · rw [if_neg (by omega), if_pos z, if_pos (by omega)]
        · rw [if_neg z]
          by_cases z2 : k ≤ t ∧ t < 6
          · rw [if_pos z2, if_pos (by omega)]
          · rw [if_neg z2, if_neg (by omega)]
      rw [this]
  obtain ⟨f, hf⟩ := FU_lt (n := 6) (by omega)
  have e := loop 6 0 f (s.2 27) (by omega)
  rw [gt_self, ← hf] at e
  have : (fun t => if 0 ≤ t ∧ t < 6 then (0 : Int64) else s.2 27 t) = fun t => if t < 6 then 0 else s.2 27 t := by
    funext t
    by_cases z : t < 6
    · rw [if_pos ⟨by omega, z⟩, if_pos z]
    · rw [if_neg (by omega), if_neg z]
  rw [this] at e
  unfold fJA_fillL_1
  exact e
theorem sx_fillL_2 : ∀ s : mx_G, fJA_fillL_2 0 s = some ((), gt s 28 (fun t => if t < 6 then 0 else s.2 28 t)) := by
  intro s
  have loop : ∀ (m k f : Nat) (g : Nat → Int64), k + m = 6 → lJA_fillL_2_6 0 (nI 6) (m + 1 + f) (nI k) (gt s 28 g) = some ((), gt s 28 (fun t => if k ≤ t ∧ t < 6 then 0 else g t)) := by
    intro m
    induction m with
    | zero =>
      intro k f g h
      have : (fun t => if k ≤ t ∧ t < 6 then (0 : Int64) else g t) = g := by funext t; rw [if_neg (by omega)]
      rw [show 0 + 1 + f = f + 1 by omega, lJA_fillL_2_6, if_pos (nI_le (by omega) (by omega)), this]
    | succ m ih =>
      intro k f g h
      have e1 : nI k + 1 = nI (k + 1) := by rw [li_1, adI]
      rw [show m + 1 + 1 + f = (m + 1 + f) + 1 by omega, lJA_fillL_2_6, if_neg (nI_ge (by omega) (by omega)), ixT (by omega) (by omega), if_pos rfl, clI (by omega), mv_let, gl_of, e1, ih (k + 1) f _ (by omega)]
      have : (fun t => if k + 1 ≤ t ∧ t < 6 then (0 : Int64) else vp_updL g k 0 t) = fun t => if k ≤ t ∧ t < 6 then 0 else g t := by
        funext t
        rw [updL_rd]
        by_cases z : t = k
        · rw [if_neg (by omega), if_pos z, if_pos (by omega)]
        · rw [if_neg z]
          by_cases z2 : k ≤ t ∧ t < 6
          · rw [if_pos z2, if_pos (by omega)]
          · rw [if_neg z2, if_neg (by omega)]
      rw [this]
  obtain ⟨f, hf⟩ := FU_lt (n := 6) (by omega)
  have e := loop 6 0 f (s.2 28) (by omega)
  rw [gt_self, ← hf] at e
  have : (fun t => if 0 ≤ t ∧ t < 6 then (0 : Int64) else s.2 28 t) = fun t => if t < 6 then 0 else s.2 28 t := by
    funext t
    by_cases z : t < 6
    · rw [if_pos ⟨by omega, z⟩, if_pos z]
    · rw [if_neg (by omega), if_neg z]
  rw [this] at e
  unfold fJA_fillL_2
  exact e
theorem sx_fillL_3 : ∀ s : mx_G, fJA_fillL_3 0 s = some ((), gt s 29 (fun t => if t < 6 then 0 else s.2 29 t)) := by
  intro s
  have loop : ∀ (m k f : Nat) (g : Nat → Int64), k + m = 6 → lJA_fillL_3_6 0 (nI 6) (m + 1 + f) (nI k) (gt s 29 g) = some ((), gt s 29 (fun t => if k ≤ t ∧ t < 6 then 0 else g t)) := by
    intro m
    induction m with
    | zero =>
      intro k f g h
      have : (fun t => if k ≤ t ∧ t < 6 then (0 : Int64) else g t) = g := by funext t; rw [if_neg (by omega)]
      rw [show 0 + 1 + f = f + 1 by omega, lJA_fillL_3_6, if_pos (nI_le (by omega) (by omega)), this]
    | succ m ih =>
      intro k f g h
      have e1 : nI k + 1 = nI (k + 1) := by rw [li_1, adI]
      rw [show m + 1 + 1 + f = (m + 1 + f) + 1 by omega, lJA_fillL_3_6, if_neg (nI_ge (by omega) (by omega)), ixT (by omega) (by omega), if_pos rfl, clI (by omega), mv_let, gl_of, e1, ih (k + 1) f _ (by omega)]
      have : (fun t => if k + 1 ≤ t ∧ t < 6 then (0 : Int64) else vp_updL g k 0 t) = fun t => if k ≤ t ∧ t < 6 then 0 else g t := by
        funext t
        rw [updL_rd]
        by_cases z : t = k
        · rw [if_neg (by omega), if_pos z, if_pos (by omega)]
        · rw [if_neg z]
          by_cases z2 : k ≤ t ∧ t < 6
          · rw [if_pos z2, if_pos (by omega)]
          · rw [if_neg z2, if_neg (by omega)]
      rw [this]
  obtain ⟨f, hf⟩ := FU_lt (n := 6) (by omega)
  have e := loop 6 0 f (s.2 29) (by omega)
  rw [gt_self, ← hf] at e
  have : (fun t => if 0 ≤ t ∧ t < 6 then (0 : Int64) else s.2 29 t) = fun t => if t < 6 then 0 else s.2 29 t := by
    funext t
    by_cases z : t < 6
    · rw [if_pos ⟨by omega, z⟩, if_pos z]
    · rw [if_neg (by omega), if_neg z]
  rw [this] at e
  unfold fJA_fillL_3
  exact e
theorem sx_fillL_4 : ∀ s : mx_G, fJA_fillL_4 0 s = some ((), gt s 30 (fun t => if t < 6 then 0 else s.2 30 t)) := by
  intro s
  have loop : ∀ (m k f : Nat) (g : Nat → Int64), k + m = 6 → lJA_fillL_4_6 0 (nI 6) (m + 1 + f) (nI k) (gt s 30 g) = some ((), gt s 30 (fun t => if k ≤ t ∧ t < 6 then 0 else g t)) := by
    intro m
    induction m with
    | zero =>
      intro k f g h
      have : (fun t => if k ≤ t ∧ t < 6 then (0 : Int64) else g t) = g := by funext t; rw [if_neg (by omega)]
      rw [show 0 + 1 + f = f + 1 by omega, lJA_fillL_4_6, if_pos (nI_le (by omega) (by omega)), this]
    | succ m ih =>
      intro k f g h
      have e1 : nI k + 1 = nI (k + 1) := by rw [li_1, adI]
      rw [show m + 1 + 1 + f = (m + 1 + f) + 1 by omega, lJA_fillL_4_6, if_neg (nI_ge (by omega) (by omega)), ixT (by omega) (by omega), if_pos rfl, clI (by omega), mv_let, gl_of, e1, ih (k + 1) f _ (by omega)]
      have : (fun t => if k + 1 ≤ t ∧ t < 6 then (0 : Int64) else vp_updL g k 0 t) = fun t => if k ≤ t ∧ t < 6 then 0 else g t := by
        funext t
        rw [updL_rd]
        by_cases z : t = k
        · rw [if_neg (by omega), if_pos z, if_pos (by omega)]
        · rw [if_neg z]
          by_cases z2 : k ≤ t ∧ t < 6
          · rw [if_pos z2, if_pos (by omega)]
          · rw [if_neg z2, if_neg (by omega)]
      rw [this]
  obtain ⟨f, hf⟩ := FU_lt (n := 6) (by omega)
  have e := loop 6 0 f (s.2 30) (by omega)
  rw [gt_self, ← hf] at e
  have : (fun t => if 0 ≤ t ∧ t < 6 then (0 : Int64) else s.2 30 t) = fun t => if t < 6 then 0 else s.2 30 t := by
    funext t
    by_cases z : t < 6
    · rw [if_pos ⟨by omega, z⟩, if_pos z]
    · rw [if_neg (by omega), if_neg z]
  rw [this] at e
  unfold fJA_fillL_4
  exact e
theorem sx_mark {s : mx_G} {E : Nat → Nat → Prop} (hE : LE s 26 E) {i w : Nat} (hi : i < 326) (hw : w < 326) : ∃ s', fX5_mark (nI i) (nI w) s = some ((), s') ∧ LE s' 26 (fun a b => E a b ∨ (a = i ∧ b = w)) ∧ s'.1 = s.1 ∧ ∀ p, p ≠ 26 → s'.2 p = s.2 p := by
  have e1 : nI w / 64 = nI (w / 64) := by rw [li_64, dvI (by omega) (by omega) (by omega)]
  have e2 : mv_rem (nI w) 64 = nI (w % 64) := by rw [li_64, rmI (by omega) (by omega) (by omega)]
  refine ⟨gl s 26 (i * 6 + w / 64) (s.2 26 (i * 6 + w / 64) ||| mv_lshl 1 (nI (w % 64))), ?_, ?_, rd_gl1 _ _ _ _, fun p hp => by rw [rd_gl, if_neg hp]⟩
  · unfold fX5_mark
    rw [e1, e2, li_6, muI, adI, ixT (by omega) (by omega), if_pos rfl, if_pos rfl, clI (by omega), mv_let]
  · intro a k r ha hk hr
    rw [rd_gl, if_pos rfl, updL_rd]
    by_cases z : a * 6 + k = i * 6 + w / 64
    · have h1 : a = i := by omega
      have h2 : k = w / 64 := by omega
      subst h1 h2
      rw [if_pos rfl, tb_or, Bool.or_eq_true, hE a (w / 64) r ha hk hr, tb_bit (w % 64) (by omega) r hr, decide_eq_true_iff]
      constructor
      · rintro (q | q)
        · exact Or.inl q
        · exact Or.inr ⟨rfl, by omega⟩
      · rintro (q | q)
        · exact Or.inl q
        · exact Or.inr (by omega)
    · rw [if_neg z, hE a k r ha hk hr]
      constructor
      · intro q; exact Or.inl q
      · rintro (q | q)
        · exact q
        · exfalso
          apply z
          rw [q.1]
          omega
def bf (l : List Nat) : Nat := l.length * 1000000 + wnum l
theorem bf_lt {n : Nat} (hn : 0 < n) (h6 : n ≤ 6) {l : List Nat} (h : Way n l) : bf l < 8000000 ∧ wnum l < 1000000 := by
  have hlen := h.len hn
  have hb := wnum_lt (h.dg hn h6)
  have hp : 10 ^ l.length ≤ 10 ^ 6 := Nat.pow_le_pow_right (by omega) (by omega)
  unfold bf
  omega
theorem bf_inj {n : Nat} (hn : 0 < n) (h6 : n ≤ 6) {l l' : List Nat} (h : Way n l) (h' : Way n l') (e : bf l = bf l') : l = l' := by
  have a := (bf_lt hn h6 h).2
  have b := (bf_lt hn h6 h').2
  unfold bf at e
  exact wnum_inj hn h6 h h' (by omega)
theorem bf_rk {c : Nat → Int32} (ho : WOK c) {n u : Nat} (hn : 0 < n) (h6 : n ≤ 6) (hu : u < 6) {p q : List Nat} (hp : Way n p) (hq : Way n q) (hup : wnum (u :: p) < 1000000) (huq : wnum (u :: q) < 1000000) (he : hd0 p = hd0 q) (hlp : p.length < 6) (hlq : q.length < 6) : rkL c (u :: q) < rkL c (u :: p) ↔ bf q < bf p := by
  have b := ho.2.2.2.2.1 u (hd0 q) hu (by have := hd0_lt hn hq; omega)
  have hx : (if c (1 + u) &&& 1 = 0 then 0 else N c (13 + u * 6 + hd0 q)) ≤ 3 := by split <;> omega
  have b9 := b.2.2.1
  have wp : wnum (u :: p) = u * 10 ^ p.length + wnum p := rfl
  have wq : wnum (u :: q) = u * 10 ^ q.length + wnum q := rfl
  have lp := (bf_lt hn h6 hp).2
  have lq := (bf_lt hn h6 hq).2
  rw [rkL, rkL, he, rk_lex hx hx b9 b9 (by omega) (by omega) huq hup]
  unfold bf
  constructor
  · rintro (z | ⟨-, z | ⟨-, z | ⟨z1, z2⟩⟩⟩)
    · omega
    · omega
    · omega
    · have z3 : q.length = p.length := by omega
      rw [wp, wq, z3] at z2
      omega
  · intro z
    refine Or.inr ⟨rfl, Or.inr ⟨rfl, ?_⟩⟩
    by_cases y : q.length = p.length
    · refine Or.inr ⟨by omega, ?_⟩
      rw [wp, wq, y]
      omega
    · exact Or.inl (by omega)
theorem sx_isBriefer {c : Nat → Int32} (ho : WOK c) {n : Nat} (hn : 0 < n) (h6 : n ≤ 6) {L : List (List Nat)} {s : mx_G} (hr : WR c L s) (hL : L.length ≤ 326) (hway : ∀ l ∈ L, Way n l) {i j : Nat} {li lj : List Nat} (hi : L[i]? = some li) (hj : L[j]? = some lj) : fX8_isBriefer (nI i) (nI j) s = some (if bf lj ≤ bf li then 0 else 1, s) := by
  have a := get_lt hi
  have b := get_lt hj
  have ri := rk1_bd ho hn h6 (hway li (List.mem_of_getElem? hi))
  have rj := rk1_bd ho hn h6 (hway lj (List.mem_of_getElem? hj))
  have bi := bf_lt hn h6 (hway li (List.mem_of_getElem? hi))
  have bj := bf_lt hn h6 (hway lj (List.mem_of_getElem? hj))
  unfold fX8_isBriefer
  rw [ixT (by omega) (by omega), if_pos rfl, ixT (by omega) (by omega), if_pos rfl, clI (by omega), clI (by omega), (hr.2.1 i li hi).2.1, (hr.2.1 j lj hj).2.1, li_8000000, rmI (by omega) (by omega) (by omega), rmI (by omega) (by omega) (by omega), ri.2.2, rj.2.2]
  have e1 : li.length * 1000000 + wnum li = bf li := rfl
  have e2 : lj.length * 1000000 + wnum lj = bf lj := rfl
  rw [e1, e2]
  by_cases z : bf lj ≤ bf li
  · rw [if_pos (nI_le z (by omega)), if_pos z]
  · rw [if_neg (nI_ge (by omega) (by omega)), if_neg z]
/-- what has been marked for r: its tail, and the better ones up to place k -/
def mk (c : Nat → Int32) (L : List (List Nat)) (r t : Nat) (ρ : Nat → Nat) (u : Nat) (q : List Nat) (k a b : Nat) : Prop := b = r ∧ (a = t ∨ ∃ v l, v < k ∧ a = ρ v ∧ L[a]? = some l ∧ (¬ tk c u l ∨ rkL c (u :: q) < rkL c (u :: l)))
theorem sx_note32 {c : Nat → Int32} (ho : WOK c) {n : Nat} (hn : 0 < n) (h6 : n ≤ 6) {L : List (List Nat)} (hL : L.length ≤ 326) (hcn : ∀ d, d < 6 → cn d L ≤ 65) (hway : ∀ l ∈ L, Way n l) (h0 : L[0]? = some [0]) {r t u : Nat} {q : List Nat} (hr : L[r]? = some (u :: q)) (hu : 0 < u) (ht : L[t]? = some q) {ρ : Nat → Nat} {kp : Nat} (hkp : kp < cn (hd0 q) L) (hρt : ρ kp = t) (E : Nat → Nat → Prop) : ∀ (m k f : Nat) (s : mx_G), k + m = kp → s.1 2 = c → WR c L s → RD c L (hd0 q) ρ s → s.1 22 t = nI kp → LE s 26 (fun a b => E a b ∨ mk c L r t ρ u q k a b) → ∃ s', lX5_noteLeading_32 (nI r) (nI t) (nI u) (nI (hd0 q)) (m + 1 + f) (nI k) s = some ((), s') ∧ LE s' 26 (fun a b => E a b ∨ mk c L r t ρ u q kp a b) ∧ s'.1 = s.1 ∧ ∀ p, p ≠ 26 → s'.2 p = s.2 p := by
  have hrw : Way n (u :: q) := hway _ (List.mem_of_getElem? hr)
  have hqw : Way n q := hway _ (List.mem_of_getElem? ht)
  have hrl := get_lt hr
  have htl := get_lt ht
  have hu6 : u < 6 := by
    have := hrw.lt hn u List.mem_cons_self
    omega
  have he6 : hd0 q < 6 := by have := hd0_lt hn hqw; omega
  have h65 := hcn _ he6
  intro m
  induction m with
  | zero =>
    intro k f s h hs hw hrd hpl hE
    have : k = kp := by omega
    subst this
    refine ⟨s, ?_, hE, rfl, fun _ _ => rfl⟩
    rw [show 0 + 1 + f = f + 1 by omega, lX5_noteLeading_32]
    unfold fX8_placeOf
    rw [ixT (by omega) (by omega), if_pos rfl, clI (by omega), hpl, bd_some, if_pos (nI_le (by omega) (by omega))]
  | succ m ih =>
    intro k f s h hs hw hrd hpl hE
    have e1 : nI k + 1 = nI (k + 1) := by rw [li_1, adI]
    obtain ⟨a1, l, a2, a3⟩ := hrd.2.1 k (by omega)
    have hpl' := get_lt a2
    have hlw : Way n l := hway l (List.mem_of_getElem? a2)
    have ePl : fX8_placeOf (nI t) s = some (nI kp, s) := by
      unfold fX8_placeOf
      rw [ixT (by omega) (by omega), if_pos rfl, clI (by omega), hpl]
    have eRk : fX8_rankedAt (nI (hd0 q)) (nI k) s = some (nI (ρ k), s) := by
      unfold fX8_rankedAt
      rw [li_65, muI, adI, ixT (by omega) (by omega), if_pos rfl, clI (by omega), a1]
    have eMe : fX8_membersOf (nI (ρ k)) s = some (nI (ms l), s) := by
      unfold fX8_membersOf
      rw [ixT (by omega) (by omega), if_pos rfl, clI (by omega), (hw.2.1 _ l a2).2.2.1]
    have eSe := sx_secondOf hn h6 hw hL h0 hway a2
    have eTk : fX9_takes (nI u) (nI (hd0 q)) (nI (ms l)) (nI (sec l)) s = some (if tk c u l then 1 else 0, s) := by
      have e := sx_takes (s := s) hn h6 hu6 hlw
      rw [hs] at e
      rw [← e, a3]
    have eBr := sx_isBriefer ho hn h6 hw hL hway a2 ht
    obtain ⟨s1, m1, m2, m3, m4⟩ := sx_mark hE (i := ρ k) (w := r) (by omega) (by omega)
    have hlne : l ≠ q := by
      intro e
      have := hrd.2.2.1 k kp l q (by omega) hkp a2 (by rw [hρt]; exact ht)
      rw [e] at this
      omega
    have hul : q.length < 6 := by have : q.length + 1 ≤ n := hrw.len hn; omega
    have wuq := bf_lt hn h6 hrw
    have hcond : tk c u l → (bf q ≤ bf l ↔ rkL c (u :: q) < rkL c (u :: l)) := by
      intro htk
      have hulw : Way n (u :: l) := tk_way ho hn h6 hu (by have := hrw.lt hn u List.mem_cons_self; omega) hlw htk
      have hll : l.length < 6 := by have : l.length + 1 ≤ n := hulw.len hn; omega
      have wul := bf_lt hn h6 hulw
      rw [bf_rk ho hn h6 hu6 hlw hqw (by omega) (by omega) a3 hll hul]
      constructor
      · intro z
        rcases Nat.lt_or_ge (bf q) (bf l) with y | y
        · exact y
        · exact absurd (bf_inj hn h6 hlw hqw (by omega)) hlne
      · intro z; omega
    have grow : ∀ s' : mx_G, s'.1 = s.1 → (∀ p, p ≠ 26 → s'.2 p = s.2 p) → LE s' 26 (fun a b => E a b ∨ mk c L r t ρ u q (k + 1) a b) → ∃ s'', lX5_noteLeading_32 (nI r) (nI t) (nI u) (nI (hd0 q)) (m + 1 + f) (nI (k + 1)) s' = some ((), s'') ∧ LE s'' 26 (fun a b => E a b ∨ mk c L r t ρ u q kp a b) ∧ s''.1 = s.1 ∧ ∀ p, p ≠ 26 → s''.2 p = s.2 p := by
      intro s' g1 g2 g3
      obtain ⟨s'', b1, b2, b3, b4⟩ := ih (k + 1) f s' (by omega) (by rw [g1]; exact hs) (by unfold WR RD at hw ⊢; rw [g1]; exact hw) (by unfold RD at hrd ⊢; rw [g1]; exact hrd) (by rw [g1]; exact hpl) g3
      exact ⟨s'', b1, b2, b3.trans g1, fun p hp => (b4 p hp).trans (g2 p hp)⟩
    have yes : (¬ tk c u l ∨ rkL c (u :: q) < rkL c (u :: l)) → LE s1 26 (fun a b => E a b ∨ mk c L r t ρ u q (k + 1) a b) := by
      intro hc a k' r' x1 x2 x3
      rw [m2 a k' r' x1 x2 x3]
      constructor
      · rintro ((z | ⟨z1, z2⟩) | ⟨z1, z2⟩)
        · exact Or.inl z
        · refine Or.inr ⟨z1, ?_⟩
          rcases z2 with z2 | ⟨v, l', y1, y2, y3, y4⟩
          · exact Or.inl z2
          · exact Or.inr ⟨v, l', by omega, y2, y3, y4⟩
        · exact Or.inr ⟨z2, Or.inr ⟨k, l, by omega, z1, by rw [z1]; exact a2, hc⟩⟩
      · rintro (z | ⟨z1, z2⟩)
        · exact Or.inl (Or.inl z)
        · rcases z2 with z2 | ⟨v, l', y1, y2, y3, y4⟩
          · exact Or.inl (Or.inr ⟨z1, Or.inl z2⟩)
          · by_cases y : v = k
            · exact Or.inr ⟨by rw [y2, y], z1⟩
            · exact Or.inl (Or.inr ⟨z1, Or.inr ⟨v, l', by omega, y2, y3, y4⟩⟩)
    have no : ¬ (¬ tk c u l ∨ rkL c (u :: q) < rkL c (u :: l)) → LE s 26 (fun a b => E a b ∨ mk c L r t ρ u q (k + 1) a b) := by
      intro hc a k' r' x1 x2 x3
      rw [hE a k' r' x1 x2 x3]
      constructor
      · rintro (z | ⟨z1, z2⟩)
        · exact Or.inl z
        · refine Or.inr ⟨z1, ?_⟩
          rcases z2 with z2 | ⟨v, l', y1, y2, y3, y4⟩
          · exact Or.inl z2
          · exact Or.inr ⟨v, l', by omega, y2, y3, y4⟩
      · rintro (z | ⟨z1, z2⟩)
        · exact Or.inl z
        · refine Or.inr ⟨z1, ?_⟩
          rcases z2 with z2 | ⟨v, l', y1, y2, y3, y4⟩
          · exact Or.inl z2
          · by_cases y : v = k
            · exfalso
              apply hc
              rw [y2, y, a2] at y3
              injection y3 with y3
              rw [y3]
              exact y4
            · exact Or.inr ⟨v, l', by omega, y2, y3, y4⟩
    rw [show m + 1 + 1 + f = (m + 1 + f) + 1 by omega, lX5_noteLeading_32, ePl, bd_some, if_neg (nI_ge (by omega) (by omega)), eRk, bd_some, eMe, bd_some, eSe, bd_some, eTk, bd_some, e1]
    by_cases htk : tk c u l
    · rw [if_pos htk, if_neg one_ne, eBr, bd_some]
      by_cases hbf : bf q ≤ bf l
      · rw [if_pos hbf, if_pos rfl, m1, bd_some]
        exact grow s1 m3 m4 (yes (Or.inr ((hcond htk).mp hbf)))
      · rw [if_neg hbf, if_neg one_ne]
        refine grow s rfl (fun _ _ => rfl) (no (fun z => ?_))
        rcases z with z | z
        · exact z htk
        · exact hbf ((hcond htk).mpr z)
    · rw [if_neg htk, if_pos rfl, m1, bd_some]
      exact grow s1 m3 m4 (yes (Or.inl htk))
