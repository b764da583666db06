/-! PURE PART: walks, and layers of what is reached -/
theorem wlk_add {R : Nat → Nat → Prop} : ∀ (b a x y z : Nat), wlk R a x y → wlk R b y z → wlk R (a + b) x z := by
  intro b
  induction b with
  | zero => intro a x y z h1 h2; have h2 : y = z := h2; rw [← h2]; exact h1
  | succ b ih =>
    intro a x y z h1 h2
    obtain ⟨w, h3, h4⟩ := h2
    exact ⟨w, ih a x y w h1 h3, h4⟩
theorem wlk_one {R : Nat → Nat → Prop} {x y : Nat} (h : R x y) : wlk R 1 x y := ⟨x, rfl, h⟩
theorem wlk_front {R : Nat → Nat → Prop} : ∀ (m x y : Nat), wlk R (m + 1) x y → ∃ z, R x z ∧ wlk R m z y := by
  intro m
  induction m with
  | zero =>
    intro x y h
    obtain ⟨z, h1, h2⟩ := h
    have h1 : x = z := h1
    rw [← h1] at h2
    exact ⟨y, h2, rfl⟩
  | succ m ih =>
    intro x y h
    obtain ⟨z, h1, h2⟩ := h
    obtain ⟨w, h3, h4⟩ := ih x z h1
    exact ⟨w, h3, z, h4, h2⟩
/-- on a closed walk -/
def Cy (R : Nat → Nat → Prop) (x : Nat) : Prop := ∃ m, 1 ≤ m ∧ wlk R m x x
theorem Cy.succ {R : Nat → Nat → Prop} {x : Nat} (h : Cy R x) : ∃ y, R x y ∧ Cy R y := by
  obtain ⟨m, h1, h2⟩ := h
  obtain ⟨k, rfl⟩ : ∃ k, m = k + 1 := ⟨m - 1, by omega⟩
  obtain ⟨y, h3, h4⟩ := wlk_front k x x h2
  exact ⟨y, h3, k + 1, by omega, x, h4, h3⟩
theorem Cy.pred {R : Nat → Nat → Prop} {x : Nat} (h : Cy R x) : ∃ y, R y x ∧ Cy R y := by
  obtain ⟨m, h1, h2⟩ := h
  obtain ⟨k, rfl⟩ : ∃ k, m = k + 1 := ⟨m - 1, by omega⟩
  obtain ⟨y, h3, h4⟩ := h2
  exact ⟨y, h4, 1 + k, by omega, wlk_add k 1 y x y (wlk_one h4) h3⟩
theorem wlk_live {R : Nat → Nat → Prop} {Λ : Nat → Prop} (hΛ : ∀ x, Cy R x → Λ x) {x : Nat} : ∀ (m y : Nat), wlk R m x y → (∃ j, wlk R j y x) → wlk (fun a b => R a b ∧ Λ b) m x y := by
  intro m
  induction m with
  | zero => intro y h _; exact h
  | succ m ih =>
    intro y h hj
    obtain ⟨z, h1, h2⟩ := h
    obtain ⟨j, hj⟩ := hj
    refine ⟨z, ih z h1 ⟨1 + j, wlk_add j 1 z y x (wlk_one h2) hj⟩, h2, hΛ y ⟨j + (m + 1), by omega, wlk_add (m + 1) j y x y hj ⟨z, h1, h2⟩⟩⟩
theorem wlk_mono {R R' : Nat → Nat → Prop} (h : ∀ a b, R a b → R' a b) : ∀ (m x y : Nat), wlk R m x y → wlk R' m x y := by
  intro m
  induction m with
  | zero => intro x y q; exact q
  | succ m ih =>
    intro x y q
    obtain ⟨z, h1, h2⟩ := q
    exact ⟨z, ih x z h1, h z y h2⟩
/-- reached by k steps at most; the k-th layer -/
def Rk (R : Nat → Nat → Prop) (w k x : Nat) : Prop := ∃ m, 1 ≤ m ∧ m ≤ k ∧ wlk R m w x
def ed (R : Nat → Nat → Prop) (w : Nat) : Nat → Nat → Prop
  | 0, x => x = w
  | k + 1, x => Rk R w (k + 1) x ∧ ¬ Rk R w k x
theorem Rk_step {R : Nat → Nat → Prop} {w k x : Nat} : Rk R w (k + 1) x ↔ Rk R w k x ∨ ∃ z, ed R w k z ∧ R z x := by
  constructor
  · rintro ⟨m, h1, h2, h3⟩
    by_cases zz : m ≤ k
    · exact Or.inl ⟨m, h1, zz, h3⟩
    · have : m = k + 1 := by omega
      subst this
      obtain ⟨z, h4, h5⟩ := h3
      cases k with
      | zero =>
        have h4 : w = z := h4
        exact Or.inr ⟨z, h4.symm, h5⟩
      | succ k =>
        by_cases y : Rk R w k z
        · obtain ⟨m, a1, a2, a3⟩ := y
          exact Or.inl ⟨m + 1, by omega, by omega, z, a3, h5⟩
        · exact Or.inr ⟨z, ⟨⟨k + 1, by omega, by omega, h4⟩, y⟩, h5⟩
  · rintro (⟨m, h1, h2, h3⟩ | ⟨z, h1, h2⟩)
    · exact ⟨m, h1, by omega, h3⟩
    · cases k with
      | zero =>
        have h1 : z = w := h1
        exact ⟨1, by omega, by omega, w, rfl, by rw [← h1]; exact h2⟩
      | succ k =>
        obtain ⟨⟨m, a1, a2, a3⟩, -⟩ := h1
        exact ⟨m + 1, by omega, by omega, z, a3, h2⟩
theorem ed_next {R : Nat → Nat → Prop} {w k x : Nat} : ed R w (k + 1) x ↔ (∃ z, ed R w k z ∧ R z x) ∧ ¬ Rk R w k x := by
  show (Rk R w (k + 1) x ∧ ¬ Rk R w k x) ↔ _
  rw [Rk_step]
  constructor
  · rintro ⟨a | a, b⟩
    · exact absurd a b
    · exact ⟨a, b⟩
  · rintro ⟨a, b⟩
    exact ⟨Or.inr a, b⟩
theorem Rk_end {R : Nat → Nat → Prop} {w k : Nat} (h : ∀ x, ¬ ed R w (k + 1) x) : ∀ j x, Rk R w (k + j) x → Rk R w k x := by
  have hk : ∀ x, Rk R w (k + 1) x → Rk R w k x := fun x hx => Classical.byContradiction fun q => h x ⟨hx, q⟩
  have hall : ∀ m x, 1 ≤ m → wlk R m w x → Rk R w k x := by
    intro m
    induction m with
    | zero => intro x q; omega
    | succ m ih =>
      intro x _ hx
      by_cases z : m + 1 ≤ k + 1
      · exact hk x ⟨m + 1, by omega, z, hx⟩
      · obtain ⟨y, h1, h2⟩ := hx
        obtain ⟨m', a1, a2, a3⟩ := ih y (by omega) h1
        exact hk x ⟨m' + 1, by omega, by omega, y, a3, h2⟩
  intro j x hx
  obtain ⟨m, a1, a2, a3⟩ := hx
  exact hall m x a1 a3
theorem ed_rk {R : Nat → Nat → Prop} {w k x : Nat} (h : ed R w (k + 1) x) : Rk R w (k + 1) x := h.1
theorem Rk_mono {R : Nat → Nat → Prop} {w k k' x : Nat} (h : k ≤ k') (hx : Rk R w k x) : Rk R w k' x := by
  obtain ⟨m, a1, a2, a3⟩ := hx
  exact ⟨m, a1, by omega, a3⟩
/-- so many layers can't be -/
theorem ed_few {R : Nat → Nat → Prop} {w M : Nat} (hR : ∀ a b, R a b → b < M) (hw : w < M) {k : Nat} (hne : ∀ j, j < k → ∃ x, ed R w (j + 1) x) (hno : ¬ Rk R w k w) : k + 1 ≤ M := by
  obtain ⟨e, he⟩ : ∃ e : Nat → Nat, ∀ j, j < k → ed R w (j + 1) (e j) := by
    have h : ∀ j : Nat, ∃ x : Nat, j < k → ed R w (j + 1) x := by
      intro j
      by_cases hj : j < k
      · obtain ⟨x, hx⟩ := hne j hj
        exact ⟨x, fun _ => hx⟩
      · exact ⟨0, fun q => absurd q hj⟩
    exact Classical.axiomOfChoice h
  have hnd := map_nodup (ρ := e) k (fun v u a b q => by
    have h1 := he v (by omega)
    have h2 := he u b
    rw [← q] at h2
    exact h2.2 (Rk_mono (by omega) h1.1))
  have hlt : ∀ j, j < k → e j < M := fun j hj => by
    obtain ⟨m, a1, a2, a3⟩ := (he j hj).1
    obtain ⟨m', rfl⟩ : ∃ m', m = m' + 1 := ⟨m - 1, by omega⟩
    obtain ⟨z, b1, b2⟩ := a3
    exact hR z _ b2
  have hnw : ∀ j, j < k → e j ≠ w := fun j hj q => hno (by
    have := (he j hj).1
    rw [q] at this
    exact Rk_mono (by omega) this)
  have hall : (((List.range k).map e) ++ [w]).Nodup := by
    rw [List.nodup_append]
    refine ⟨hnd, by simp, fun a ha b hb => ?_⟩
    rw [List.mem_map] at ha
    obtain ⟨j, hj, rfl⟩ := ha
    rw [List.mem_range] at hj
    rw [List.mem_singleton] at hb
    rw [hb]
    exact hnw j hj
  have := pigeon M _ hall (fun x hx => by
    rcases List.mem_append.mp hx with hx | hx
    · rw [List.mem_map] at hx
      obtain ⟨j, hj, rfl⟩ := hx
      rw [List.mem_range] at hj
      exact hlt j hj
    · rw [List.mem_singleton] at hx
      omega)
  rw [List.length_append, List.length_map, List.length_range, List.length_singleton] at this
  exact this
