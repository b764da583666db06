/-! PURE PART: read: letters, blanks -/
/-- the next place from i on with a letter, or the end (m = places left) -/
def nbm (T : Nat → Nat) : Nat → Nat → Nat
  | 0, i => i
  | m + 1, i => if T i = 32 then nbm T m (i + 1) else i
def nb (T : Nat → Nat) (M i : Nat) : Nat := nbm T (M - i) i
theorem nbm_le (T : Nat → Nat) : ∀ m i, i ≤ nbm T m i ∧ nbm T m i ≤ i + m ∧ (nbm T m i < i + m → T (nbm T m i) ≠ 32) := by
  intro m
  induction m with
  | zero => intro i; exact ⟨Nat.le_refl _, Nat.le_refl _, fun h => absurd h (by show ¬ i < i + 0; omega)⟩
  | succ m ih =>
    intro i
    rw [nbm]
    by_cases z : T i = 32
    · rw [if_pos z]
      obtain ⟨a, b, c⟩ := ih (i + 1)
      exact ⟨by omega, by omega, fun h => c (by omega)⟩
    · rw [if_neg z]
      exact ⟨Nat.le_refl _, by omega, fun _ => z⟩
theorem nb_le (T : Nat → Nat) {M i : Nat} (h : i ≤ M) : i ≤ nb T M i ∧ nb T M i ≤ M ∧ (nb T M i < M → T (nb T M i) ≠ 32) := by
  obtain ⟨a, b, c⟩ := nbm_le T (M - i) i
  unfold nb
  exact ⟨a, by omega, fun h => c (by omega)⟩
theorem nb_step (T : Nat → Nat) {M i : Nat} (h : i < M) : nb T M i = if T i = 32 then nb T M (i + 1) else i := by
  unfold nb
  obtain ⟨m, hm⟩ : ∃ m, M - i = m + 1 := ⟨M - i - 1, by omega⟩
  rw [hm, nbm, show M - (i + 1) = m by omega]
theorem nb_end (T : Nat → Nat) (M : Nat) : nb T M M = M := by
  unfold nb
  rw [Nat.sub_self]
  rfl
theorem nb_nb (T : Nat → Nat) {M i : Nat} (h : i ≤ M) : nb T M (nb T M i) = nb T M i := by
  obtain ⟨-, b, c⟩ := nb_le T h
  rcases Nat.lt_or_ge (nb T M i) M with z | z
  · rw [nb_step T z, if_neg (c z)]
  · rw [show nb T M i = M by omega, nb_end]
/-- what is seen at a place: 0 at the end -/
def Lt (T : Nat → Nat) (M i : Nat) : Nat := if i < M then T i else 0
/-! the reference's state while it reads: u = its own row, g sorts, h cuts -/
def RS3 (t : mx_G) (u g h : Nat → Int32) : mx_G := gs (gs (gs t 66 g) 67 h) 45 u
theorem RS3_45 (t : mx_G) (u g h : Nat → Int32) : (RS3 t u g h).1 45 = u := gs_rd _ _ _
theorem RS3_66 (t : mx_G) (u g h : Nat → Int32) : (RS3 t u g h).1 66 = g := by unfold RS3; rw [gs_rdn _ (by decide), gs_rdn _ (by decide), gs_rd]
theorem RS3_67 (t : mx_G) (u g h : Nat → Int32) : (RS3 t u g h).1 67 = h := by unfold RS3; rw [gs_rdn _ (by decide), gs_rd]
theorem RS3_rd (t : mx_G) (u g h : Nat → Int32) {p : Nat} (h1 : p ≠ 45) (h2 : p ≠ 66) (h3 : p ≠ 67) : (RS3 t u g h).1 p = t.1 p := by unfold RS3; rw [gs_rdn _ h1, gs_rdn _ h3, gs_rdn _ h2]
theorem RS3_g45 (t : mx_G) (u g h : Nat → Int32) (k : Nat) (x : Int32) : gi (RS3 t u g h) 45 k x = RS3 t (upd u k x) g h := by unfold RS3; rw [gi_of]
theorem RS3_g66 (t : mx_G) (u g h : Nat → Int32) (k : Nat) (x : Int32) : gi (RS3 t u g h) 66 k x = RS3 t u (upd g k x) h := by
  rw [gi_gs, RS3_66]
  unfold RS3
  rw [gs_com _ (by decide), gs_com (gs t 66 g) (by decide), gs_gs]
theorem RS3_g67 (t : mx_G) (u g h : Nat → Int32) (k : Nat) (x : Int32) : gi (RS3 t u g h) 67 k x = RS3 t u g (upd h k x) := by
  rw [gi_gs, RS3_67]
  unfold RS3
  rw [gs_com _ (by decide), gs_gs]
/-- the tape as both hold it -/
def TP (T : Nat → Nat) (M : Nat) (t : mx_G) : Prop := M ≤ 80 ∧ (∀ j, j < M → 32 ≤ T j ∧ T j ≤ 126) ∧ ∀ j, j < M → t.1 50 j = nI (T j)
theorem sm_looks {T : Nat → Nat} {M : Nat} {t : mx_G} (hT : TP T M t) {u g h : Nat → Int32} {i : Nat} (hi : i ≤ M) (h7 : u 7 = nI M) (h24 : u 24 = nI i) : fX11_looks (RS3 t u g h) = some (nI (Lt T M (nb T M i)), RS3 t (upd u 24 (nI (nb T M i))) g h) := by
  obtain ⟨h80, hlet, hcell⟩ := hT
  obtain ⟨K, hK⟩ : ∃ K : mx_G → Option (Int32 × mx_G), K = (fun s2 => if s2.1 45 7 ≤ s2.1 45 24 then some (0, s2) else if ix (s2.1 45 24) 80 = true then some (s2.1 50 (Int32.toNatClampNeg (s2.1 45 24)), s2) else none) := ⟨_, rfl⟩
  have Kat : ∀ (u : Nat → Int32) (j : Nat), j ≤ M → u 7 = nI M → u 24 = nI j → K (RS3 t u g h) = some (nI (Lt T M j), RS3 t u g h) := by
    intro u j hj h7 h24
    rw [hK]
    show (if (RS3 t u g h).1 45 7 ≤ (RS3 t u g h).1 45 24 then _ else _) = _
    rw [RS3_45, h7, h24]
    unfold Lt
    rcases Nat.lt_or_ge j M with z | z
    · rw [if_neg (nI_ge z (by omega)), if_pos z, ixT (by omega) (by omega), if_pos rfl, clI (by omega), RS3_rd _ _ _ _ (by decide) (by decide) (by decide), hcell j z]
    · rw [if_pos (nI_le z (by omega)), if_neg (by omega)]
      rfl
  have loop : ∀ (m i f : Nat) (u : Nat → Int32), i + m = M → u 7 = nI M → u 24 = nI i → lX11_looks_0 K (m + 1 + f) (RS3 t u g h) = some (nI (Lt T M (nb T M i)), RS3 t (upd u 24 (nI (nb T M i))) g h) := by
    intro m
    induction m with
    | zero =>
      intro i f u hi h7 h24
      have : i = M := by omega
      subst this
      rw [show 0 + 1 + f = f + 1 by omega, lX11_looks_0, RS3_45, h7, h24, if_pos (nI_le (Nat.le_refl _) (by omega)), Kat u i (Nat.le_refl _) h7 h24, nb_end, upd_self u h24]
    | succ m ih =>
      intro i f u hi h7 h24
      have e1 : nI i + 1 = nI (i + 1) := by rw [li_1, adI]
      have hl := hlet i (by omega)
      rw [show m + 1 + 1 + f = (m + 1 + f) + 1 by omega, lX11_looks_0, RS3_45, h7, h24, if_neg (nI_ge (by omega) (by omega)), ixT (by omega) (by omega), if_pos rfl, clI (by omega), RS3_rd _ _ _ _ (by decide) (by decide) (by decide), hcell i (by omega), nb_step T (show i < M by omega)]
      by_cases z : T i = 32
      · rw [if_pos (by rw [z]; rfl), if_pos z, mv_let, RS3_g45, e1, ih (i + 1) f (upd u 24 (nI (i + 1))) (by omega) (by rw [upd_rd, if_neg (by decide)]; exact h7) (by rw [upd_rd, if_pos rfl]), upd_upd]
      · rw [if_neg (by rw [show (32 : Int32) = nI 32 from rfl, eqI (by omega) (by omega)]; exact z), if_neg z, Kat u i (by omega) h7 h24, upd_self u h24]
  obtain ⟨f, hf⟩ := FU_lt (n := M - i) (by omega)
  have e := loop (M - i) i f u (by omega) h7 h24
  rw [← hf] at e
  unfold fX11_looks
  rw [← hK]
  exact e
theorem dom48 : ∀ n : Nat, n < 7 → ∀ l : Nat, l < 127 → ((0 ≤ nI l - 48 ∧ nI l - 48 < nI n) ↔ (48 ≤ l ∧ l < 48 + n)) := by decide +kernel
theorem Lt_lt {T : Nat → Nat} {M : Nat} {t : mx_G} (hT : TP T M t) (i : Nat) : Lt T M i < 127 := by
  unfold Lt
  split
  · rename_i z; have := (hT.2.1 i z).2; omega
  · omega
theorem sm_readsT {t : mx_G} {u g h : Nat → Int32} {i : Nat} (h24 : u 24 = nI i) (h25 : u 25 = 0) : fX11_reads 1 (RS3 t u g h) = some ((), RS3 t (upd u 24 (nI (i + 1))) g h) := by
  unfold fX11_reads
  simp only [mv_let]
  have e1 : nI i + 1 = nI (i + 1) := by rw [li_1, adI]
  rw [RS3_45, h25, if_pos rfl, if_neg one_ne, if_pos (Or.inl trivial), RS3_g45, upd_self u h25, RS3_45, h25, if_pos rfl, h24, e1, RS3_g45]
theorem sm_readsF {t : mx_G} {u g h : Nat → Int32} {i : Nat} (h24 : u 24 = nI i) (h25 : u 25 = 0) : fX11_reads 0 (RS3 t u g h) = some ((), RS3 t (upd u 25 1) g h) := by
  have e24 : upd u 25 1 24 = nI i := by rw [upd_rd, if_neg (by decide)]; exact h24
  have e25 : upd u 25 1 25 = 1 := by rw [upd_rd, if_pos rfl]
  unfold fX11_reads
  simp only [mv_let]
  rw [RS3_45, h25, if_pos rfl, if_pos trivial, if_pos (Or.inr trivial), RS3_g45, RS3_45, e25, if_neg one_ne, e24, li_0, adI, Nat.add_zero, RS3_g45, upd_self _ e24]
theorem sm_reads1 {t : mx_G} {u g h : Nat → Int32} {i : Nat} (h24 : u 24 = nI i) (h25 : u 25 = 1) : fX11_reads 0 (RS3 t u g h) = some ((), RS3 t u g h) := by
  unfold fX11_reads
  simp only [mv_let]
  rw [RS3_45, h25, if_neg one_ne, if_pos (Or.inr trivial), RS3_g45, upd_self u h25, RS3_45, h25, if_neg one_ne, h24, li_0, adI, Nat.add_zero, RS3_g45, upd_self u h24]
