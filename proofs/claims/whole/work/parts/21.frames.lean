/-! FRAMES: which cells a function may change; printed by program -/
def FR {α : Type} (S : List Nat) (σ : mx_G) (r : Option (α × mx_G)) : Prop := ∀ (a : α) (τ : mx_G), r = some (a, τ) → ∀ p : Nat, p ∉ S → τ.1 p = σ.1 p ∧ τ.2 p = σ.2 p
section FRR
variable {α β : Type} {S : List Nat} {σ : mx_G}
theorem fr_none : FR (α := α) S σ none := fun _ _ h => by cases h
theorem fr_some {a : α} : FR S σ (some (a, σ)) := fun _ _ h _ _ => by cases h; exact ⟨rfl, rfl⟩
theorem fr_if {c : Prop} [inst : Decidable c] {r1 r2 : Option (α × mx_G)} (h1 : FR S σ r1) (h2 : FR S σ r2) : FR S σ (if c then r1 else r2) := by
  by_cases h : c
  · rw [if_pos h]; exact h1
  · rw [if_neg h]; exact h2
theorem fr_leti {e : Int32} {f : Int32 → Option (α × mx_G)} (h : ∀ x, FR S σ (f x)) : FR S σ (mv_let e f) := h e
theorem fr_letl {e : Int64} {f : Int64 → Option (α × mx_G)} (h : ∀ x, FR S σ (f x)) : FR S σ (mv_let e f) := h e
theorem fr_set {τ : mx_G} {f : mx_G → Option (α × mx_G)} (hτ : ∀ p : Nat, p ∉ S → τ.1 p = σ.1 p ∧ τ.2 p = σ.2 p) (h : ∀ τ, FR S τ (f τ)) : FR S σ (mv_let τ f) := fun a τ' e p hp => ⟨(h τ a τ' e p hp).1.trans (hτ p hp).1, (h τ a τ' e p hp).2.trans (hτ p hp).2⟩
theorem fr_gi {q k : Nat} {x : Int32} {f : mx_G → Option (α × mx_G)} (hq : q ∈ S) (h : ∀ τ, FR S τ (f τ)) : FR S σ (mv_let (gi σ q k x) f) := fr_set (fun p hp => ⟨by rw [rd_gi, if_neg (fun z : p = q => hp (z ▸ hq))], rfl⟩) h
theorem fr_gs {q : Nat} {g : Nat → Int32} {f : mx_G → Option (α × mx_G)} (hq : q ∈ S) (h : ∀ τ, FR S τ (f τ)) : FR S σ (mv_let (gs σ q g) f) := fr_set (fun p hp => ⟨by rw [rd_gs, if_neg (fun z : p = q => hp (z ▸ hq))], rfl⟩) h
theorem fr_gl {q k : Nat} {x : Int64} {f : mx_G → Option (α × mx_G)} (hq : q ∈ S) (h : ∀ τ, FR S τ (f τ)) : FR S σ (mv_let (gl σ q k x) f) := fr_set (fun p hp => ⟨rfl, by rw [rd_gl, if_neg (fun z : p = q => hp (z ▸ hq))]⟩) h
theorem fr_gt {q : Nat} {g : Nat → Int64} {f : mx_G → Option (α × mx_G)} (hq : q ∈ S) (h : ∀ τ, FR S τ (f τ)) : FR S σ (mv_let (gt σ q g) f) := fr_set (fun p hp => ⟨rfl, by rw [rd_gt, if_neg (fun z : p = q => hp (z ▸ hq))]⟩) h
theorem fr_bind {S1 : List Nat} {r : Option (β × mx_G)} {f : β → mx_G → Option (α × mx_G)} (h1 : FR S1 σ r) (hs : ∀ p ∈ S1, p ∈ S) (h : ∀ x τ, FR S τ (f x τ)) : FR S σ (mv_bind r f) := by
  intro a τ' e p hp
  cases hr : r with
  | none => rw [hr] at e; cases e
  | some q =>
    obtain ⟨x, τ⟩ := q
    rw [hr] at e
    have g1 := h1 x τ hr p (fun z => hp (hs p z))
    have g2 := h x τ a τ' e p hp
    exact ⟨g2.1.trans g1.1, g2.2.trans g1.2⟩
theorem fr_j0 {B : mx_G → Option (α × mx_G)} {f : (mx_G → Option (α × mx_G)) → Option (α × mx_G)} (hB : ∀ s, FR S s (B s)) (h : ∀ J : mx_G → Option (α × mx_G), (∀ s, FR S s (J s)) → FR S σ (f J)) : FR S σ (mv_let B f) := h B hB
theorem fr_j1 {γ : Type} {B : γ → mx_G → Option (α × mx_G)} {f : (γ → mx_G → Option (α × mx_G)) → Option (α × mx_G)} (hB : ∀ a s, FR S s (B a s)) (h : ∀ J : γ → mx_G → Option (α × mx_G), (∀ a s, FR S s (J a s)) → FR S σ (f J)) : FR S σ (mv_let B f) := h B hB
theorem fr_j2 {γ δ : Type} {B : γ → δ → mx_G → Option (α × mx_G)} {f : (γ → δ → mx_G → Option (α × mx_G)) → Option (α × mx_G)} (hB : ∀ a b s, FR S s (B a b s)) (h : ∀ J : γ → δ → mx_G → Option (α × mx_G), (∀ a b s, FR S s (J a b s)) → FR S σ (f J)) : FR S σ (mv_let B f) := h B hB
theorem fr_j3 {γ δ ε : Type} {B : γ → δ → ε → mx_G → Option (α × mx_G)} {f : (γ → δ → ε → mx_G → Option (α × mx_G)) → Option (α × mx_G)} (hB : ∀ a b c s, FR S s (B a b c s)) (h : ∀ J : γ → δ → ε → mx_G → Option (α × mx_G), (∀ a b c s, FR S s (J a b c s)) → FR S σ (f J)) : FR S σ (mv_let B f) := h B hB
theorem fr_j4 {γ δ ε ζ : Type} {B : γ → δ → ε → ζ → mx_G → Option (α × mx_G)} {f : (γ → δ → ε → ζ → mx_G → Option (α × mx_G)) → Option (α × mx_G)} (hB : ∀ a b c d s, FR S s (B a b c d s)) (h : ∀ J : γ → δ → ε → ζ → mx_G → Option (α × mx_G), (∀ a b c d s, FR S s (J a b c d s)) → FR S σ (f J)) : FR S σ (mv_let B f) := h B hB
theorem fr_mono {S1 : List Nat} {r : Option (α × mx_G)} (h1 : FR S1 σ r) (hs : ∀ p ∈ S1, p ∈ S) : FR S σ r := fun a τ e p hp => h1 a τ e p (fun z => hp (hs p z))
end FRR
theorem fr_X2_power (p0 : Int32) (s : mx_G) : FR [] s (fX2_power p0 s) := fr_some
set_option maxRecDepth 100000 in
set_option maxHeartbeats 4000000 in
theorem fr_X9_isDomain (p1 : Int32) (s : mx_G) : FR [] s (fX9_isDomain p1 s) := by
  unfold fX9_isDomain
  refine fr_if ?_ ?_
  · exact fr_some
  · refine fr_if ?_ fr_none
    refine fr_if ?_ ?_
    · exact fr_some
    · exact fr_some
set_option maxRecDepth 100000 in
set_option maxHeartbeats 4000000 in
theorem fr_X9_arePair (p1 : Int32) (p2 : Int32) (s : mx_G) : FR [] s (fX9_arePair p1 p2 s) := by
  unfold fX9_arePair
  refine fr_bind (fr_X9_isDomain _ _) (fun _ h => absurd h List.not_mem_nil) (fun x1 s2 => ?_)
  refine fr_if ?_ ?_
  · exact fr_some
  · refine fr_bind (fr_X9_isDomain _ _) (fun _ h => absurd h List.not_mem_nil) (fun x3 s4 => ?_)
    refine fr_if ?_ ?_
    · exact fr_some
    · refine fr_if ?_ ?_
      · exact fr_some
      · exact fr_some
set_option maxRecDepth 100000 in
set_option maxHeartbeats 4000000 in
theorem fr_X9_sortOf (p1 : Int32) (p2 : Int32) (s : mx_G) : FR [] s (fX9_sortOf p1 p2 s) := by
  unfold fX9_sortOf
  refine fr_if ?_ fr_none
  exact fr_some
theorem me_0 : 4 ∈ [3, 4] := by decide
theorem me_1 : 3 ∈ [3, 4] := by decide
set_option maxRecDepth 100000 in
set_option maxHeartbeats 4000000 in
theorem fr_X3_keep (s : mx_G) : FR [3, 4] s (fX3_keep  s) := by
  unfold fX3_keep
  refine fr_if (fr_gs me_0 (fun s1 => ?_)) fr_none
  refine fr_gi me_1 (fun s2 => ?_)
  refine fr_gi me_1 (fun s3 => ?_)
  exact fr_some
theorem me_2 : 2 ∈ [2] := by decide
set_option maxRecDepth 100000 in
set_option maxHeartbeats 4000000 in
theorem fr_X9_setCut (p1 : Int32) (p2 : Int32) (p3 : Int32) (s : mx_G) : FR [2] s (fX9_setCut p1 p2 p3 s) := by
  unfold fX9_setCut
  refine fr_if (fr_gi me_2 (fun s1 => ?_)) fr_none
  refine fr_if (fr_gi me_2 (fun s2 => ?_)) fr_none
  exact fr_some
set_option maxRecDepth 100000 in
set_option maxHeartbeats 4000000 in
theorem fr_X9_setLink (p1 : Int32) (p2 : Int32) (p3 : Int32) (s : mx_G) : FR [2] s (fX9_setLink p1 p2 p3 s) := by
  unfold fX9_setLink
  refine fr_if (fr_gi me_2 (fun s1 => ?_)) fr_none
  refine fr_j2 ?_ (fun J39 hJ39 => ?_)
  · intro q0_39 q1_39 s_39
    refine fr_if (fr_gi me_2 (fun s2 => ?_)) fr_none
    refine fr_bind (fr_X9_setCut _ _ _ _) (fun _ h => h) (fun _ s3 => ?_)
    exact fr_some
  refine fr_if ?_ ?_
  · exact hJ39 _ _ _
  · exact hJ39 _ _ _
set_option maxRecDepth 100000 in
set_option maxHeartbeats 4000000 in
theorem fr_X9_isCut (p1 : Int32) (p2 : Int32) (s : mx_G) : FR [] s (fX9_isCut p1 p2 s) := by
  unfold fX9_isCut
  refine fr_if ?_ fr_none
  refine fr_if ?_ ?_
  · exact fr_some
  · exact fr_some
theorem hs_0 : ∀ p ∈ [3, 4], p ∈ [2, 3, 4] := by decide
theorem hs_1 : ∀ p ∈ [2], p ∈ [2, 3, 4] := by decide
set_option maxRecDepth 100000 in
set_option maxHeartbeats 4000000 in
theorem fr_X10_link (p1 : Int32) (p2 : Int32) (p3 : Int32) (s : mx_G) : FR [2, 3, 4] s (fX10_link p1 p2 p3 s) := by
  unfold fX10_link
  refine fr_bind (fr_X9_arePair _ _ _) (fun _ h => absurd h List.not_mem_nil) (fun x1 s2 => ?_)
  refine fr_if ?_ ?_
  · exact fr_some
  · refine fr_if ?_ ?_
    · exact fr_some
    · refine fr_if ?_ ?_
      · refine fr_bind (fr_X9_sortOf _ _ _) (fun _ h => absurd h List.not_mem_nil) (fun x3 s4 => ?_)
        refine fr_j0 ?_ (fun J55 hJ55 => ?_)
        · intro s_55
          refine fr_bind (fr_X3_keep  _) hs_0 (fun _ s5 => ?_)
          refine fr_bind (fr_X9_setLink _ _ _ _) hs_1 (fun _ s6 => ?_)
          exact fr_some
        refine fr_if ?_ ?_
        · refine fr_bind (fr_X9_isCut _ _ _) (fun _ h => absurd h List.not_mem_nil) (fun x7 s8 => ?_)
          refine fr_if ?_ ?_
          · exact fr_some
          · exact hJ55 _
        · exact hJ55 _
      · exact fr_some
set_option maxRecDepth 100000 in
set_option maxHeartbeats 4000000 in
theorem fr_X9_turnCut (p1 : Int32) (p2 : Int32) (s : mx_G) : FR [2] s (fX9_turnCut p1 p2 s) := by
  unfold fX9_turnCut
  refine fr_bind (fr_X9_isCut _ _ _) (fun _ h => absurd h List.not_mem_nil) (fun x1 s2 => ?_)
  refine fr_if ?_ ?_
  · refine fr_bind (fr_X9_setCut _ _ _ _) (fun _ h => h) (fun _ s3 => ?_)
    exact fr_some
  · refine fr_bind (fr_X9_setCut _ _ _ _) (fun _ h => h) (fun _ s4 => ?_)
    exact fr_some
set_option maxRecDepth 100000 in
set_option maxHeartbeats 4000000 in
theorem fr_X10_cut (p1 : Int32) (p2 : Int32) (s : mx_G) : FR [2, 3, 4] s (fX10_cut p1 p2 s) := by
  unfold fX10_cut
  refine fr_bind (fr_X9_arePair _ _ _) (fun _ h => absurd h List.not_mem_nil) (fun x1 s2 => ?_)
  refine fr_if ?_ ?_
  · exact fr_some
  · refine fr_bind (fr_X9_sortOf _ _ _) (fun _ h => absurd h List.not_mem_nil) (fun x3 s4 => ?_)
    refine fr_if ?_ ?_
    · exact fr_some
    · refine fr_bind (fr_X3_keep  _) hs_0 (fun _ s5 => ?_)
      refine fr_bind (fr_X9_turnCut _ _ _) hs_1 (fun _ s6 => ?_)
      refine fr_bind (fr_X9_isCut _ _ _) (fun _ h => absurd h List.not_mem_nil) (fun x7 s8 => ?_)
      refine fr_if ?_ ?_
      · exact fr_some
      · exact fr_some
set_option maxRecDepth 100000 in
set_option maxHeartbeats 4000000 in
theorem fr_X9_likingOf (p1 : Int32) (p2 : Int32) (s : mx_G) : FR [] s (fX9_likingOf p1 p2 s) := by
  unfold fX9_likingOf
  refine fr_if ?_ fr_none
  exact fr_some
set_option maxRecDepth 100000 in
set_option maxHeartbeats 4000000 in
theorem fr_X9_setLiking (p1 : Int32) (p2 : Int32) (p3 : Int32) (s : mx_G) : FR [2] s (fX9_setLiking p1 p2 p3 s) := by
  unfold fX9_setLiking
  refine fr_if (fr_gi me_2 (fun s1 => ?_)) fr_none
  exact fr_some
set_option maxRecDepth 100000 in
set_option maxHeartbeats 4000000 in
theorem fr_X10_like (p1 : Int32) (p2 : Int32) (p3 : Int32) (s : mx_G) : FR [2, 3, 4] s (fX10_like p1 p2 p3 s) := by
  unfold fX10_like
  refine fr_bind (fr_X9_arePair _ _ _) (fun _ h => absurd h List.not_mem_nil) (fun x1 s2 => ?_)
  refine fr_if ?_ ?_
  · exact fr_some
  · refine fr_if ?_ ?_
    · exact fr_some
    · refine fr_if ?_ ?_
      · refine fr_bind (fr_X9_likingOf _ _ _) (fun _ h => absurd h List.not_mem_nil) (fun x3 s4 => ?_)
        refine fr_if ?_ ?_
        · exact fr_some
        · refine fr_bind (fr_X3_keep  _) hs_0 (fun _ s5 => ?_)
          refine fr_bind (fr_X9_setLiking _ _ _ _) hs_1 (fun _ s6 => ?_)
          exact fr_some
      · exact fr_some
set_option maxRecDepth 100000 in
set_option maxHeartbeats 4000000 in
theorem fr_X9_mannerOf (p1 : Int32) (s : mx_G) : FR [] s (fX9_mannerOf p1 s) := by
  unfold fX9_mannerOf
  refine fr_if ?_ fr_none
  exact fr_some
set_option maxRecDepth 100000 in
set_option maxHeartbeats 4000000 in
theorem fr_X9_setManner (p1 : Int32) (p2 : Int32) (s : mx_G) : FR [2] s (fX9_setManner p1 p2 s) := by
  unfold fX9_setManner
  refine fr_if (fr_gi me_2 (fun s1 => ?_)) fr_none
  exact fr_some
set_option maxRecDepth 100000 in
set_option maxHeartbeats 4000000 in
theorem fr_X10_manner (p1 : Int32) (p2 : Int32) (s : mx_G) : FR [2, 3, 4] s (fX10_manner p1 p2 s) := by
  unfold fX10_manner
  refine fr_bind (fr_X9_isDomain _ _) (fun _ h => absurd h List.not_mem_nil) (fun x1 s2 => ?_)
  refine fr_if ?_ ?_
  · exact fr_some
  · refine fr_if ?_ ?_
    · exact fr_some
    · refine fr_if ?_ ?_
      · refine fr_bind (fr_X9_mannerOf _ _) (fun _ h => absurd h List.not_mem_nil) (fun x3 s4 => ?_)
        refine fr_if ?_ ?_
        · exact fr_some
        · refine fr_bind (fr_X3_keep  _) hs_0 (fun _ s5 => ?_)
          refine fr_bind (fr_X9_setManner _ _ _) hs_1 (fun _ s6 => ?_)
          exact fr_some
      · exact fr_some
set_option maxRecDepth 100000 in
set_option maxHeartbeats 4000000 in
theorem fr_X9_areOthers (p1 : Int32) (p2 : Int32) (s : mx_G) : FR [] s (fX9_areOthers p1 p2 s) := by
  unfold fX9_areOthers
  refine fr_if ?_ ?_
  · exact fr_some
  · refine fr_if ?_ fr_none
    refine fr_if ?_ ?_
    · exact fr_some
    · refine fr_if ?_ ?_
      · exact fr_some
      · exact fr_some
set_option maxRecDepth 100000 in
set_option maxHeartbeats 4000000 in
theorem fr_X9_barsOf (p1 : Int32) (s : mx_G) : FR [] s (fX9_barsOf p1 s) := by
  unfold fX9_barsOf
  refine fr_if ?_ fr_none
  exact fr_some
set_option maxRecDepth 100000 in
set_option maxHeartbeats 4000000 in
theorem fr_X9_setBars (p1 : Int32) (p2 : Int32) (s : mx_G) : FR [2] s (fX9_setBars p1 p2 s) := by
  unfold fX9_setBars
  refine fr_if (fr_gi me_2 (fun s1 => ?_)) fr_none
  exact fr_some
set_option maxRecDepth 100000 in
set_option maxHeartbeats 4000000 in
theorem fr_X10_bar (p1 : Int32) (p2 : Int32) (s : mx_G) : FR [2, 3, 4] s (fX10_bar p1 p2 s) := by
  unfold fX10_bar
  refine fr_bind (fr_X9_isDomain _ _) (fun _ h => absurd h List.not_mem_nil) (fun x1 s2 => ?_)
  refine fr_if ?_ ?_
  · exact fr_some
  · refine fr_bind (fr_X9_areOthers _ _ _) (fun _ h => absurd h List.not_mem_nil) (fun x3 s4 => ?_)
    refine fr_if ?_ ?_
    · exact fr_some
    · refine fr_bind (fr_X9_barsOf _ _) (fun _ h => absurd h List.not_mem_nil) (fun x5 s6 => ?_)
      refine fr_if ?_ ?_
      · exact fr_some
      · refine fr_bind (fr_X3_keep  _) hs_0 (fun _ s7 => ?_)
        refine fr_bind (fr_X9_setBars _ _ _) hs_1 (fun _ s8 => ?_)
        exact fr_some
set_option maxRecDepth 100000 in
set_option maxHeartbeats 4000000 in
theorem fr_X9_size (s : mx_G) : FR [] s (fX9_size  s) := by
  unfold fX9_size
  refine fr_if ?_ fr_none
  exact fr_some
set_option maxRecDepth 100000 in
set_option maxHeartbeats 4000000 in
theorem fr_X9_setChosen (p1 : Int32) (p2 : Int32) (s : mx_G) : FR [2] s (fX9_setChosen p1 p2 s) := by
  unfold fX9_setChosen
  refine fr_if (fr_gi me_2 (fun s1 => ?_)) fr_none
  exact fr_some
set_option maxRecDepth 100000 in
set_option maxHeartbeats 4000000 in
theorem fr_lX9_forgetChosen_2   : ∀ (n : Nat) (a1 : Int32) (s0 : mx_G), FR [2] s0 (lX9_forgetChosen_2   n a1 s0) := by
  intro n
  induction n with
  | zero => intro a1 s0; exact fr_none
  | succ n ih2 =>
    intro a1 s0
    rw [lX9_forgetChosen_2]
    refine fr_if ?_ ?_
    · exact fr_some
    · refine fr_bind (fr_X9_setChosen _ _ _) (fun _ h => h) (fun _ s1 => ?_)
      exact ih2 _ _
set_option maxRecDepth 100000 in
set_option maxHeartbeats 4000000 in
theorem fr_X9_forgetChosen (s : mx_G) : FR [2] s (fX9_forgetChosen  s) := by
  unfold fX9_forgetChosen
  exact fr_lX9_forgetChosen_2 FU _ _
set_option maxRecDepth 100000 in
set_option maxHeartbeats 4000000 in
theorem fr_lX9_resize_29 (a1 : Int32) (a2 : Int32) (k62 : mx_G → Option (Unit × mx_G)) (hk62 : ∀ (sz : mx_G), FR [2] sz (k62 sz)) : ∀ (n : Nat) (a3 : Int32) (s0 : mx_G), FR [2] s0 (lX9_resize_29 a1 a2 k62 n a3 s0) := by
  intro n
  induction n with
  | zero => intro a3 s0; exact fr_none
  | succ n ih29 =>
    intro a3 s0
    rw [lX9_resize_29]
    refine fr_if ?_ ?_
    · exact hk62 _
    · refine fr_bind (fr_X9_setLink _ _ _ _) (fun _ h => h) (fun _ s4 => ?_)
      refine fr_bind (fr_X9_setLiking _ _ _ _) (fun _ h => h) (fun _ s5 => ?_)
      refine fr_bind (fr_X9_setLiking _ _ _ _) (fun _ h => h) (fun _ s6 => ?_)
      exact ih29 _ _
set_option maxRecDepth 100000 in
set_option maxHeartbeats 4000000 in
theorem fr_lX9_resize_9 (a1 : Int32) (k68 : mx_G → Option (Unit × mx_G)) (hk68 : ∀ (sz : mx_G), FR [2] sz (k68 sz)) : ∀ (n : Nat) (a2 : Int32) (s0 : mx_G), FR [2] s0 (lX9_resize_9 a1 k68 n a2 s0) := by
  intro n
  induction n with
  | zero => intro a2 s0; exact fr_none
  | succ n ih9 =>
    intro a2 s0
    rw [lX9_resize_9]
    refine fr_if ?_ ?_
    · exact hk68 _
    · refine fr_bind (fr_X9_setManner _ _ _) (fun _ h => h) (fun _ s2 => ?_)
      refine fr_bind (fr_X9_setBars _ _ _) (fun _ h => h) (fun _ s3 => ?_)
      refine fr_lX9_resize_29 _ _ _ (fun s7 => ?_) FU _ _
      exact ih9 _ _
set_option maxRecDepth 100000 in
set_option maxHeartbeats 4000000 in
theorem fr_lX9_resize_70 (a1 : Int32)  : ∀ (n : Nat) (a2 : Int32) (s0 : mx_G), FR [2] s0 (lX9_resize_70 a1  n a2 s0) := by
  intro n
  induction n with
  | zero => intro a2 s0; exact fr_none
  | succ n ih70 =>
    intro a2 s0
    rw [lX9_resize_70]
    refine fr_if ?_ ?_
    · refine fr_bind (fr_X9_forgetChosen  _) (fun _ h => h) (fun _ s9 => ?_)
      exact fr_some
    · refine fr_bind (fr_X9_barsOf _ _) (fun _ h => absurd h List.not_mem_nil) (fun x10 s11 => ?_)
      refine fr_bind (fr_X9_setBars _ _ _) (fun _ h => h) (fun _ s12 => ?_)
      exact ih70 _ _
set_option maxRecDepth 100000 in
set_option maxHeartbeats 4000000 in
theorem fr_X9_resize (p1 : Int32) (s : mx_G) : FR [2] s (fX9_resize p1 s) := by
  unfold fX9_resize
  refine fr_if (fr_gi me_2 (fun s1 => ?_)) fr_none
  refine fr_lX9_resize_9 _ _ (fun s8 => ?_) FU _ _
  exact fr_lX9_resize_70 _ FU _ _
set_option maxRecDepth 100000 in
set_option maxHeartbeats 4000000 in
theorem fr_X10_domains (p1 : Int32) (s : mx_G) : FR [2, 3, 4] s (fX10_domains p1 s) := by
  unfold fX10_domains
  refine fr_if ?_ ?_
  · exact fr_some
  · refine fr_if ?_ ?_
    · refine fr_bind (fr_X9_size  _) (fun _ h => absurd h List.not_mem_nil) (fun x1 s2 => ?_)
      refine fr_if ?_ ?_
      · exact fr_some
      · refine fr_bind (fr_X3_keep  _) hs_0 (fun _ s3 => ?_)
        refine fr_bind (fr_X9_resize _ _) hs_1 (fun _ s4 => ?_)
        exact fr_some
    · exact fr_some
set_option maxRecDepth 100000 in
set_option maxHeartbeats 4000000 in
theorem fr_X10_told (p1 : Int32) (p2 : Int32) (p3 : Int32) (s : mx_G) : FR [] s (fX10_told p1 p2 p3 s) := by
  unfold fX10_told
  refine fr_bind (fr_X9_arePair _ _ _) (fun _ h => absurd h List.not_mem_nil) (fun x1 s2 => ?_)
  refine fr_if ?_ ?_
  · exact fr_some
  · refine fr_if ?_ ?_
    · exact fr_some
    · refine fr_if ?_ ?_
      · refine fr_if ?_ ?_
        · refine fr_bind (fr_X9_sortOf _ _ _) (fun _ h => absurd h List.not_mem_nil) (fun x7 s8 => ?_)
          exact fr_some
        · refine fr_if ?_ ?_
          · refine fr_bind (fr_X9_isCut _ _ _) (fun _ h => absurd h List.not_mem_nil) (fun x5 s6 => ?_)
            refine fr_if ?_ ?_
            · exact fr_some
            · exact fr_some
          · refine fr_bind (fr_X9_likingOf _ _ _) (fun _ h => absurd h List.not_mem_nil) (fun x3 s4 => ?_)
            exact fr_some
      · exact fr_some
theorem me_3 : 23 ∈ [23] := by decide
set_option maxRecDepth 100000 in
set_option maxHeartbeats 4000000 in
theorem fr_lJA_fillI_5 (a1 : Int32) (a3 : Int32)  : ∀ (n : Nat) (a2 : Int32) (s0 : mx_G), FR [23] s0 (lJA_fillI_5 a1 a3  n a2 s0) := by
  intro n
  induction n with
  | zero => intro a2 s0; exact fr_none
  | succ n ih5 =>
    intro a2 s0
    rw [lJA_fillI_5]
    refine fr_if ?_ ?_
    · exact fr_some
    · refine fr_if (fr_gi me_3 (fun s1 => ?_)) fr_none
      exact ih5 _ _
set_option maxRecDepth 100000 in
set_option maxHeartbeats 4000000 in
theorem fr_JA_fillI (p1 : Int32) (s : mx_G) : FR [23] s (fJA_fillI p1 s) := by
  unfold fJA_fillI
  exact fr_lJA_fillI_5 _ _ FU _ _
theorem me_4 : 24 ∈ [23, 24] := by decide
set_option maxRecDepth 100000 in
set_option maxHeartbeats 4000000 in
theorem fr_lX8_insert_12 (a1 : Int32) (a2 : Int32) (k62 : Int32 → mx_G → Option (Unit × mx_G)) (hk62 : ∀ (b3 : Int32) (sz : mx_G), FR [23, 24] sz (k62 b3 sz)) : ∀ (n : Nat) (a3 : Int32) (s0 : mx_G), FR [23, 24] s0 (lX8_insert_12 a1 a2 k62 n a3 s0) := by
  intro n
  induction n with
  | zero => intro a3 s0; exact fr_none
  | succ n ih12 =>
    intro a3 s0
    rw [lX8_insert_12]
    refine fr_if ?_ ?_
    · exact hk62 _ _
    · refine fr_if ?_ fr_none
      refine fr_if ?_ fr_none
      refine fr_if ?_ fr_none
      refine fr_if ?_ ?_
      · exact hk62 _ _
      · refine fr_if ?_ fr_none
        refine fr_if (fr_gi me_4 (fun s2 => ?_)) fr_none
        exact ih12 _ _
theorem me_5 : 23 ∈ [23, 24] := by decide
set_option maxRecDepth 100000 in
set_option maxHeartbeats 4000000 in
theorem fr_X8_insert (p1 : Int32) (p2 : Int32) (s : mx_G) : FR [23, 24] s (fX8_insert p1 p2 s) := by
  unfold fX8_insert
  refine fr_if ?_ fr_none
  refine fr_leti (fun x1 => ?_)
  refine fr_lX8_insert_12 _ _ _ (fun y4 s3 => ?_) FU _ _
  refine fr_if (fr_gi me_4 (fun s5 => ?_)) fr_none
  refine fr_if ?_ fr_none
  refine fr_if (fr_gi me_5 (fun s6 => ?_)) fr_none
  exact fr_some
set_option maxRecDepth 100000 in
set_option maxHeartbeats 4000000 in
theorem fr_X8_pairOf (p0 : Int32) (p1 : Int32) (s : mx_G) : FR [] s (fX8_pairOf p0 p1 s) := by
  unfold fX8_pairOf
  refine fr_leti (fun x1 => ?_)
  exact fr_some
theorem me_6 : 17 ∈ [15, 17, 18, 19, 20, 21, 23, 24] := by decide
theorem me_7 : 18 ∈ [15, 17, 18, 19, 20, 21, 23, 24] := by decide
theorem me_8 : 19 ∈ [15, 17, 18, 19, 20, 21, 23, 24] := by decide
theorem me_9 : 20 ∈ [15, 17, 18, 19, 20, 21, 23, 24] := by decide
theorem me_10 : 21 ∈ [15, 17, 18, 19, 20, 21, 23, 24] := by decide
theorem hs_2 : ∀ p ∈ [23, 24], p ∈ [15, 17, 18, 19, 20, 21, 23, 24] := by decide
theorem me_11 : 15 ∈ [15, 17, 18, 19, 20, 21, 23, 24] := by decide
set_option maxRecDepth 100000 in
set_option maxHeartbeats 4000000 in
theorem fr_X8_add (p1 : Int32) (p2 : Int32) (p3 : Int32) (s : mx_G) : FR [15, 17, 18, 19, 20, 21, 23, 24] s (fX8_add p1 p2 p3 s) := by
  unfold fX8_add
  refine fr_if ?_ ?_
  · exact fr_some
  · refine fr_if ?_ fr_none
    refine fr_if ?_ ?_
    · refine fr_if (fr_gi me_6 (fun s1 => ?_)) fr_none
      refine fr_if (fr_gi me_7 (fun s2 => ?_)) fr_none
      refine fr_j2 ?_ (fun J60 hJ60 => ?_)
      · intro q0_60 q1_60 s_60
        refine fr_if (fr_gi me_8 (fun s3 => ?_)) fr_none
        refine fr_j3 ?_ (fun J86 hJ86 => ?_)
        · intro q0_86 q1_86 q2_86 s_86
          refine fr_if (fr_gi me_9 (fun s4 => ?_)) fr_none
          refine fr_j2 ?_ (fun J123 hJ123 => ?_)
          · intro q0_123 q1_123 s_123
            refine fr_if (fr_gi me_10 (fun s5 => ?_)) fr_none
            refine fr_bind (fr_X8_insert _ _ _) hs_2 (fun _ s6 => ?_)
            refine fr_gi me_11 (fun s7 => ?_)
            exact fr_some
          refine fr_if ?_ ?_
          · refine fr_if ?_ fr_none
            refine fr_if ?_ fr_none
            refine fr_bind (fr_X8_pairOf _ _ _) (fun _ h => absurd h List.not_mem_nil) (fun x8 s9 => ?_)
            exact hJ123 _ _ _
          · exact hJ123 _ _ _
        refine fr_if ?_ ?_
        · refine fr_if ?_ fr_none
          exact hJ86 _ _ _ _
        · exact hJ86 _ _ _ _
      refine fr_if ?_ ?_
      · exact hJ60 _ _ _
      · exact hJ60 _ _ _
    · exact fr_some
set_option maxRecDepth 100000 in
set_option maxHeartbeats 4000000 in
theorem fr_X8_rankedAt (p1 : Int32) (p2 : Int32) (s : mx_G) : FR [] s (fX8_rankedAt p1 p2 s) := by
  unfold fX8_rankedAt
  refine fr_if ?_ fr_none
  exact fr_some
theorem me_12 : 22 ∈ [22] := by decide
set_option maxRecDepth 100000 in
set_option maxHeartbeats 4000000 in
theorem fr_lX8_notePlaces_10 (a1 : Int32) (k38 : mx_G → Option (Unit × mx_G)) (hk38 : ∀ (sz : mx_G), FR [22] sz (k38 sz)) : ∀ (n : Nat) (a2 : Int32) (s0 : mx_G), FR [22] s0 (lX8_notePlaces_10 a1 k38 n a2 s0) := by
  intro n
  induction n with
  | zero => intro a2 s0; exact fr_none
  | succ n ih10 =>
    intro a2 s0
    rw [lX8_notePlaces_10]
    refine fr_if ?_ fr_none
    refine fr_if ?_ ?_
    · exact hk38 _
    · refine fr_bind (fr_X8_rankedAt _ _ _) (fun _ h => absurd h List.not_mem_nil) (fun x1 s2 => ?_)
      refine fr_if (fr_gi me_12 (fun s3 => ?_)) fr_none
      exact ih10 _ _
set_option maxRecDepth 100000 in
set_option maxHeartbeats 4000000 in
theorem fr_lX8_notePlaces_2   : ∀ (n : Nat) (a1 : Int32) (s0 : mx_G), FR [22] s0 (lX8_notePlaces_2   n a1 s0) := by
  intro n
  induction n with
  | zero => intro a1 s0; exact fr_none
  | succ n ih2 =>
    intro a1 s0
    rw [lX8_notePlaces_2]
    refine fr_if ?_ ?_
    · exact fr_some
    · refine fr_lX8_notePlaces_10 _ _ (fun s4 => ?_) FU _ _
      exact ih2 _ _
set_option maxRecDepth 100000 in
set_option maxHeartbeats 4000000 in
theorem fr_X8_notePlaces (s : mx_G) : FR [22] s (fX8_notePlaces  s) := by
  unfold fX8_notePlaces
  exact fr_lX8_notePlaces_2 FU _ _
set_option maxRecDepth 100000 in
set_option maxHeartbeats 4000000 in
theorem fr_X8_secondOf (p1 : Int32) (s : mx_G) : FR [] s (fX8_secondOf p1 s) := by
  unfold fX8_secondOf
  refine fr_if ?_ ?_
  · exact fr_some
  · refine fr_if ?_ fr_none
    refine fr_if ?_ fr_none
    exact fr_some
set_option maxRecDepth 100000 in
set_option maxHeartbeats 4000000 in
theorem fr_X9_lets (p1 : Int32) (p2 : Int32) (p3 : Int32) (s : mx_G) : FR [] s (fX9_lets p1 p2 p3 s) := by
  unfold fX9_lets
  refine fr_leti (fun x1 => ?_)
  refine fr_if ?_ ?_
  · exact fr_some
  · refine fr_if ?_ fr_none
    refine fr_if ?_ ?_
    · exact fr_some
    · refine fr_if ?_ fr_none
      refine fr_if ?_ ?_
      · exact fr_some
      · refine fr_if ?_ fr_none
        refine fr_if ?_ ?_
        · exact fr_some
        · exact fr_some
set_option maxRecDepth 100000 in
set_option maxHeartbeats 4000000 in
theorem fr_X9_takes (p1 : Int32) (p2 : Int32) (p3 : Int32) (p4 : Int32) (s : mx_G) : FR [] s (fX9_takes p1 p2 p3 p4 s) := by
  unfold fX9_takes
  refine fr_leti (fun x1 => ?_)
  refine fr_if ?_ fr_none
  refine fr_if ?_ ?_
  · exact fr_some
  · refine fr_if ?_ fr_none
    refine fr_if ?_ ?_
    · refine fr_if ?_ fr_none
      refine fr_if ?_ ?_
      · refine fr_bind (fr_X9_lets _ _ _ _) (fun _ h => absurd h List.not_mem_nil) (fun x2 s3 => ?_)
        refine fr_if ?_ ?_
        · exact fr_some
        · exact fr_some
      · exact fr_some
    · exact fr_some
set_option maxRecDepth 100000 in
set_option maxHeartbeats 4000000 in
theorem fr_lX8_unitAbove_4 (a0 : Int32)  : ∀ (n : Nat) (a1 : Int32) (a2 : Int32) (s0 : mx_G), FR [] s0 (lX8_unitAbove_4 a0  n a1 a2 s0) := by
  intro n
  induction n with
  | zero => intro a1 a2 s0; exact fr_none
  | succ n ih4 =>
    intro a1 a2 s0
    rw [lX8_unitAbove_4]
    refine fr_if ?_ ?_
    · exact fr_some
    · refine fr_leti (fun x1 => ?_)
      exact ih4 _ _ _
set_option maxRecDepth 100000 in
set_option maxHeartbeats 4000000 in
theorem fr_X8_unitAbove (p0 : Int32) (s : mx_G) : FR [] s (fX8_unitAbove p0 s) := by
  unfold fX8_unitAbove
  exact fr_lX8_unitAbove_4 _ FU _ _ _
set_option maxRecDepth 100000 in
set_option maxHeartbeats 4000000 in
theorem fr_X8_numberOf (p1 : Int32) (s : mx_G) : FR [] s (fX8_numberOf p1 s) := by
  unfold fX8_numberOf
  refine fr_if ?_ fr_none
  exact fr_some
set_option maxRecDepth 100000 in
set_option maxHeartbeats 4000000 in
theorem fr_X9_rankOf (p1 : Int32) (p2 : Int32) (p3 : Int32) (p4 : Int32) (s : mx_G) : FR [] s (fX9_rankOf p1 p2 p3 p4 s) := by
  unfold fX9_rankOf
  refine fr_leti (fun x1 => ?_)
  refine fr_if ?_ fr_none
  refine fr_j1 ?_ (fun J35 hJ35 => ?_)
  · intro q0_35 s_35
    refine fr_if ?_ fr_none
    exact fr_some
  refine fr_if ?_ ?_
  · exact hJ35 _ _
  · refine fr_if ?_ fr_none
    exact hJ35 _ _
set_option maxRecDepth 100000 in
set_option maxHeartbeats 4000000 in
theorem fr_lX8_extend_33 (a2 : Int32) (a3 : Int32) (a4 : Int32) (a5 : Int32)  : ∀ (n : Nat) (a6 : Int32) (s0 : mx_G), FR [15, 17, 18, 19, 20, 21, 23, 24] s0 (lX8_extend_33 a2 a3 a4 a5  n a6 s0) := by
  intro n
  induction n with
  | zero => intro a6 s0; exact fr_none
  | succ n ih33 =>
    intro a6 s0
    rw [lX8_extend_33]
    refine fr_bind (fr_X9_size  _) (fun _ h => absurd h List.not_mem_nil) (fun x5 s6 => ?_)
    refine fr_if ?_ ?_
    · exact fr_some
    · refine fr_if ?_ fr_none
      refine fr_bind (fr_X9_takes _ _ _ _ _) (fun _ h => absurd h List.not_mem_nil) (fun x7 s8 => ?_)
      refine fr_if ?_ ?_
      · exact ih33 _ _
      · refine fr_bind (fr_X8_unitAbove _ _) (fun _ h => absurd h List.not_mem_nil) (fun x9 s10 => ?_)
        refine fr_bind (fr_X8_numberOf _ _) (fun _ h => absurd h List.not_mem_nil) (fun x11 s12 => ?_)
        refine fr_leti (fun x13 => ?_)
        refine fr_bind (fr_X9_rankOf _ _ _ _ _) (fun _ h => absurd h List.not_mem_nil) (fun x14 s15 => ?_)
        refine fr_bind (fr_X8_add _ _ _ _) (fun _ h => h) (fun _ s16 => ?_)
        exact ih33 _ _
set_option maxRecDepth 100000 in
set_option maxHeartbeats 4000000 in
theorem fr_X8_extend (p2 : Int32) (s : mx_G) : FR [15, 17, 18, 19, 20, 21, 23, 24] s (fX8_extend p2 s) := by
  unfold fX8_extend
  refine fr_if ?_ fr_none
  refine fr_leti (fun x1 => ?_)
  refine fr_bind (fr_X8_secondOf _ _) (fun _ h => absurd h List.not_mem_nil) (fun x2 s3 => ?_)
  refine fr_if ?_ fr_none
  refine fr_leti (fun x4 => ?_)
  exact fr_lX8_extend_33 _ _ _ _ FU _ _
set_option maxRecDepth 100000 in
set_option maxHeartbeats 4000000 in
theorem fr_lX8_isBasis_2   : ∀ (n : Nat) (a2 : Int32) (s0 : mx_G), FR [] s0 (lX8_isBasis_2   n a2 s0) := by
  intro n
  induction n with
  | zero => intro a2 s0; exact fr_none
  | succ n ih2 =>
    intro a2 s0
    rw [lX8_isBasis_2]
    refine fr_if ?_ ?_
    · exact fr_some
    · refine fr_if ?_ fr_none
      refine fr_if ?_ fr_none
      refine fr_if ?_ ?_
      · exact ih2 _ _
      · exact fr_some
set_option maxRecDepth 100000 in
set_option maxHeartbeats 4000000 in
theorem fr_X8_isBasis (s : mx_G) : FR [] s (fX8_isBasis  s) := by
  unfold fX8_isBasis
  exact fr_lX8_isBasis_2 FU _ _
theorem hs_3 : ∀ p ∈ [22], p ∈ [15, 16, 17, 18, 19, 20, 21, 22, 23, 24] := by decide
theorem hs_4 : ∀ p ∈ [15, 17, 18, 19, 20, 21, 23, 24], p ∈ [15, 16, 17, 18, 19, 20, 21, 22, 23, 24] := by decide
set_option maxRecDepth 100000 in
set_option maxHeartbeats 4000000 in
theorem fr_lX8_freshen_63   : ∀ (n : Nat) (a2 : Int32) (s0 : mx_G), FR [15, 16, 17, 18, 19, 20, 21, 22, 23, 24] s0 (lX8_freshen_63   n a2 s0) := by
  intro n
  induction n with
  | zero => intro a2 s0; exact fr_none
  | succ n ih63 =>
    intro a2 s0
    rw [lX8_freshen_63]
    refine fr_if ?_ ?_
    · refine fr_bind (fr_X8_notePlaces  _) hs_3 (fun _ s6 => ?_)
      exact fr_some
    · refine fr_if ?_ ?_
      · refine fr_bind (fr_X8_notePlaces  _) hs_3 (fun _ s7 => ?_)
        exact fr_some
      · refine fr_bind (fr_X8_extend _ _) hs_4 (fun _ s8 => ?_)
        exact ih63 _ _
theorem me_13 : 16 ∈ [15, 16, 17, 18, 19, 20, 21, 22, 23, 24] := by decide
theorem me_14 : 15 ∈ [15, 16, 17, 18, 19, 20, 21, 22, 23, 24] := by decide
theorem hs_5 : ∀ p ∈ [23], p ∈ [15, 16, 17, 18, 19, 20, 21, 22, 23, 24] := by decide
set_option maxRecDepth 100000 in
set_option maxHeartbeats 4000000 in
theorem fr_X8_freshen (s : mx_G) : FR [15, 16, 17, 18, 19, 20, 21, 22, 23, 24] s (fX8_freshen  s) := by
  unfold fX8_freshen
  refine fr_j0 ?_ (fun J16 hJ16 => ?_)
  · intro s_16
    refine fr_if (fr_gs me_13 (fun s1 => ?_)) fr_none
    refine fr_gi me_14 (fun s2 => ?_)
    refine fr_gi me_14 (fun s3 => ?_)
    refine fr_bind (fr_JA_fillI _ _) hs_5 (fun _ s4 => ?_)
    refine fr_bind (fr_X8_add _ _ _ _) hs_4 (fun _ s5 => ?_)
    exact fr_lX8_freshen_63 FU _ _
  refine fr_if ?_ ?_
  · exact hJ16 _
  · refine fr_bind (fr_X8_isBasis  _) (fun _ h => absurd h List.not_mem_nil) (fun x9 s10 => ?_)
    refine fr_if ?_ ?_
    · exact hJ16 _
    · exact fr_some
set_option maxRecDepth 100000 in
set_option maxHeartbeats 4000000 in
theorem fr_X8_countOf (p1 : Int32) (s : mx_G) : FR [] s (fX8_countOf p1 s) := by
  unfold fX8_countOf
  refine fr_if ?_ fr_none
  exact fr_some
set_option maxRecDepth 100000 in
set_option maxHeartbeats 4000000 in
theorem fr_X9_chosenBy (p1 : Int32) (s : mx_G) : FR [] s (fX9_chosenBy p1 s) := by
  unfold fX9_chosenBy
  refine fr_if ?_ fr_none
  exact fr_some
theorem me_15 : 10 ∈ [10, 11, 12, 13] := by decide
theorem me_16 : 11 ∈ [10, 11, 12, 13] := by decide
theorem me_17 : 12 ∈ [10, 11, 12, 13] := by decide
theorem me_18 : 13 ∈ [10, 11, 12, 13] := by decide
set_option maxRecDepth 100000 in
set_option maxHeartbeats 4000000 in
theorem fr_X0_putNone (p1 : Int32) (s : mx_G) : FR [10, 11, 12, 13] s (fX0_putNone p1 s) := by
  unfold fX0_putNone
  refine fr_if (fr_gi me_15 (fun s1 => ?_)) fr_none
  refine fr_if (fr_gi me_16 (fun s2 => ?_)) fr_none
  refine fr_if (fr_gi me_17 (fun s3 => ?_)) fr_none
  refine fr_if (fr_gi me_18 (fun s4 => ?_)) fr_none
  exact fr_some
set_option maxRecDepth 100000 in
set_option maxHeartbeats 4000000 in
theorem fr_lX10_figuresOf_9   : ∀ (n : Nat) (a1 : Int32) (a2 : Int32) (a3 : Int32) (s0 : mx_G), FR [] s0 (lX10_figuresOf_9   n a1 a2 a3 s0) := by
  intro n
  induction n with
  | zero => intro a1 a2 a3 s0; exact fr_none
  | succ n ih9 =>
    intro a1 a2 a3 s0
    rw [lX10_figuresOf_9]
    refine fr_if ?_ ?_
    · exact fr_some
    · refine fr_if ?_ ?_
      · exact fr_some
      · refine fr_leti (fun x2 => ?_)
        exact ih9 _ _ _ _
set_option maxRecDepth 100000 in
set_option maxHeartbeats 4000000 in
theorem fr_X10_figuresOf (p0 : Int32) (s : mx_G) : FR [] s (fX10_figuresOf p0 s) := by
  unfold fX10_figuresOf
  refine fr_leti (fun x1 => ?_)
  exact fr_lX10_figuresOf_9 FU _ _ _ _
set_option maxRecDepth 100000 in
set_option maxHeartbeats 4000000 in
theorem fr_lX0_put_21 (a1 : Int32) (a2 : Int32) (a3 : Int32) (k75 : mx_G → Option (Unit × mx_G)) (hk75 : ∀ (sz : mx_G), FR [10, 11, 12, 13] sz (k75 sz)) : ∀ (n : Nat) (a4 : Int32) (a5 : Int32) (s0 : mx_G), FR [10, 11, 12, 13] s0 (lX0_put_21 a1 a2 a3 k75 n a4 a5 s0) := by
  intro n
  induction n with
  | zero => intro a4 a5 s0; exact fr_none
  | succ n ih21 =>
    intro a4 a5 s0
    rw [lX0_put_21]
    refine fr_if ?_ ?_
    · exact hk75 _
    · refine fr_if ?_ fr_none
      refine fr_if (fr_gi me_16 (fun s4 => ?_)) fr_none
      refine fr_if ?_ ?_
      · refine fr_if (fr_gi me_17 (fun s6 => ?_)) fr_none
        refine fr_leti (fun x7 => ?_)
        exact ih21 _ _ _
      · refine fr_leti (fun x5 => ?_)
        exact ih21 _ _ _
set_option maxRecDepth 100000 in
set_option maxHeartbeats 4000000 in
theorem fr_X0_put (p1 : Int32) (p2 : Int32) (s : mx_G) : FR [10, 11, 12, 13] s (fX0_put p1 p2 s) := by
  unfold fX0_put
  refine fr_bind (fr_X0_putNone _ _) (fun _ h => h) (fun _ s1 => ?_)
  refine fr_if ?_ ?_
  · refine fr_bind (fr_X10_figuresOf _ _) (fun _ h => absurd h List.not_mem_nil) (fun x2 s3 => ?_)
    refine fr_lX0_put_21 _ _ _ _ (fun s8 => ?_) FU _ _ _
    refine fr_if (fr_gi me_15 (fun s9 => ?_)) fr_none
    refine fr_if (fr_gi me_18 (fun s10 => ?_)) fr_none
    exact fr_some
  · exact fr_some
set_option maxRecDepth 100000 in
set_option maxHeartbeats 4000000 in
theorem fr_lX0_load_2   : ∀ (n : Nat) (a2 : Int32) (s0 : mx_G), FR [10, 11, 12, 13] s0 (lX0_load_2   n a2 s0) := by
  intro n
  induction n with
  | zero => intro a2 s0; exact fr_none
  | succ n ih2 =>
    intro a2 s0
    rw [lX0_load_2]
    refine fr_if ?_ ?_
    · exact fr_some
    · refine fr_bind (fr_X9_chosenBy _ _) (fun _ h => absurd h List.not_mem_nil) (fun x1 s2 => ?_)
      refine fr_bind (fr_X0_put _ _ _) (fun _ h => h) (fun _ s3 => ?_)
      exact ih2 _ _
set_option maxRecDepth 100000 in
set_option maxHeartbeats 4000000 in
theorem fr_X0_load (s : mx_G) : FR [10, 11, 12, 13] s (fX0_load  s) := by
  unfold fX0_load
  exact fr_lX0_load_2 FU _ _
set_option maxRecDepth 100000 in
set_option maxHeartbeats 4000000 in
theorem fr_lX0_together_5 (a2 : Int32) (k27 : Int32 → mx_G → Option (Int32 × mx_G)) (hk27 : ∀ (b3 : Int32) (sz : mx_G), FR [] sz (k27 b3 sz)) : ∀ (n : Nat) (a3 : Int32) (a4 : Int32) (s0 : mx_G), FR [] s0 (lX0_together_5 a2 k27 n a3 a4 s0) := by
  intro n
  induction n with
  | zero => intro a3 a4 s0; exact fr_none
  | succ n ih5 =>
    intro a3 a4 s0
    rw [lX0_together_5]
    refine fr_if ?_ fr_none
    refine fr_if ?_ ?_
    · exact hk27 _ _
    · refine fr_leti (fun x1 => ?_)
      exact ih5 _ _ _
set_option maxRecDepth 100000 in
set_option maxHeartbeats 4000000 in
theorem fr_X0_together (p1 : Int32) (p2 : Int32) (s : mx_G) : FR [] s (fX0_together p1 p2 s) := by
  unfold fX0_together
  refine fr_lX0_together_5 _ _ (fun y3 s2 => ?_) FU _ _ _
  refine fr_if ?_ fr_none
  exact fr_some
set_option maxRecDepth 100000 in
set_option maxHeartbeats 4000000 in
theorem fr_lX0_best_12 (a2 : Int32) (k91 : Int32 → mx_G → Option (Int32 × mx_G)) (hk91 : ∀ (b3 : Int32) (sz : mx_G), FR [] sz (k91 b3 sz)) : ∀ (n : Nat) (a3 : Int32) (a4 : Int32) (s0 : mx_G), FR [] s0 (lX0_best_12 a2 k91 n a3 a4 s0) := by
  intro n
  induction n with
  | zero => intro a3 a4 s0; exact fr_none
  | succ n ih12 =>
    intro a3 a4 s0
    rw [lX0_best_12]
    refine fr_bind (fr_X9_size  _) (fun _ h => absurd h List.not_mem_nil) (fun x1 s2 => ?_)
    refine fr_if ?_ ?_
    · exact hk91 _ _
    · refine fr_if ?_ fr_none
      refine fr_if ?_ ?_
      · exact ih12 _ _ _
      · refine fr_if ?_ fr_none
        refine fr_if ?_ fr_none
        refine fr_bind (fr_X9_takes _ _ _ _ _) (fun _ h => absurd h List.not_mem_nil) (fun x3 s4 => ?_)
        refine fr_if ?_ ?_
        · exact ih12 _ _ _
        · refine fr_if ?_ fr_none
          refine fr_bind (fr_X0_together _ _ _) (fun _ h => absurd h List.not_mem_nil) (fun x5 s6 => ?_)
          refine fr_bind (fr_X9_rankOf _ _ _ _ _) (fun _ h => absurd h List.not_mem_nil) (fun x7 s8 => ?_)
          refine fr_leti (fun x9 => ?_)
          exact ih12 _ _ _
set_option maxRecDepth 100000 in
set_option maxHeartbeats 4000000 in
theorem fr_X0_best (p2 : Int32) (s : mx_G) : FR [] s (fX0_best p2 s) := by
  unfold fX0_best
  refine fr_if ?_ ?_
  · exact fr_some
  · refine fr_lX0_best_12 _ _ (fun y11 s10 => ?_) FU _ _ _
    refine fr_if ?_ ?_
    · exact fr_some
    · exact fr_some
theorem hs_6 : ∀ p ∈ [15, 16, 17, 18, 19, 20, 21, 22, 23, 24], p ∈ [10, 11, 12, 13, 15, 16, 17, 18, 19, 20, 21, 22, 23, 24] := by decide
theorem hs_7 : ∀ p ∈ [10, 11, 12, 13], p ∈ [10, 11, 12, 13, 15, 16, 17, 18, 19, 20, 21, 22, 23, 24] := by decide
set_option maxRecDepth 100000 in
set_option maxHeartbeats 4000000 in
theorem fr_X10_own (p1 : Int32) (p2 : Int32) (s : mx_G) : FR [10, 11, 12, 13, 15, 16, 17, 18, 19, 20, 21, 22, 23, 24] s (fX10_own p1 p2 s) := by
  unfold fX10_own
  refine fr_bind (fr_X9_isDomain _ _) (fun _ h => absurd h List.not_mem_nil) (fun x1 s2 => ?_)
  refine fr_if ?_ ?_
  · exact fr_some
  · refine fr_if ?_ ?_
    · refine fr_bind (fr_X9_mannerOf _ _) (fun _ h => absurd h List.not_mem_nil) (fun x3 s4 => ?_)
      exact fr_some
    refine fr_if ?_ ?_
    · refine fr_bind (fr_X9_barsOf _ _) (fun _ h => absurd h List.not_mem_nil) (fun x5 s6 => ?_)
      exact fr_some
    refine fr_if ?_ ?_
    · refine fr_bind (fr_X8_freshen  _) hs_6 (fun _ s7 => ?_)
      refine fr_bind (fr_X8_countOf _ _) (fun _ h => absurd h List.not_mem_nil) (fun x8 s9 => ?_)
      exact fr_some
    refine fr_if ?_ ?_
    · refine fr_bind (fr_X9_chosenBy _ _) (fun _ h => absurd h List.not_mem_nil) (fun x10 s11 => ?_)
      exact fr_some
    refine fr_if ?_ ?_
    · refine fr_bind (fr_X0_load  _) hs_7 (fun _ s12 => ?_)
      refine fr_bind (fr_X0_best _ _) (fun _ h => absurd h List.not_mem_nil) (fun x13 s14 => ?_)
      exact fr_some
    exact fr_some
set_option maxRecDepth 100000 in
set_option maxHeartbeats 4000000 in
theorem fr_X8_numberAt (p1 : Int32) (p2 : Int32) (s : mx_G) : FR [] s (fX8_numberAt p1 p2 s) := by
  unfold fX8_numberAt
  refine fr_if ?_ fr_none
  refine fr_if ?_ ?_
  · exact fr_some
  · refine fr_bind (fr_X8_rankedAt _ _ _) (fun _ h => absurd h List.not_mem_nil) (fun x1 s2 => ?_)
    refine fr_bind (fr_X8_numberOf _ _) (fun _ h => absurd h List.not_mem_nil) (fun x3 s4 => ?_)
    exact fr_some
set_option maxRecDepth 100000 in
set_option maxHeartbeats 4000000 in
theorem fr_X10_way (p1 : Int32) (p2 : Int32) (s : mx_G) : FR [15, 16, 17, 18, 19, 20, 21, 22, 23, 24] s (fX10_way p1 p2 s) := by
  unfold fX10_way
  refine fr_bind (fr_X9_isDomain _ _) (fun _ h => absurd h List.not_mem_nil) (fun x1 s2 => ?_)
  refine fr_if ?_ ?_
  · exact fr_some
  · refine fr_if ?_ ?_
    · refine fr_bind (fr_X8_freshen  _) (fun _ h => h) (fun _ s3 => ?_)
      refine fr_bind (fr_X8_numberAt _ _ _) (fun _ h => absurd h List.not_mem_nil) (fun x4 s5 => ?_)
      exact fr_some
    · exact fr_some
set_option maxRecDepth 100000 in
set_option maxHeartbeats 4000000 in
theorem fr_X9_areJoined (p1 : Int32) (p2 : Int32) (s : mx_G) : FR [] s (fX9_areJoined p1 p2 s) := by
  unfold fX9_areJoined
  refine fr_bind (fr_X9_sortOf _ _ _) (fun _ h => absurd h List.not_mem_nil) (fun x1 s2 => ?_)
  refine fr_if ?_ ?_
  · exact fr_some
  · refine fr_bind (fr_X9_isCut _ _ _) (fun _ h => absurd h List.not_mem_nil) (fun x3 s4 => ?_)
    refine fr_if ?_ ?_
    · exact fr_some
    · exact fr_some
set_option maxRecDepth 100000 in
set_option maxHeartbeats 4000000 in
theorem fr_X10_reasonOf (p1 : Int32) (p2 : Int32) (p3 : Int32) (p4 : Int32) (s : mx_G) : FR [] s (fX10_reasonOf p1 p2 p3 p4 s) := by
  unfold fX10_reasonOf
  refine fr_bind (fr_X9_areJoined _ _ _) (fun _ h => absurd h List.not_mem_nil) (fun x1 s2 => ?_)
  refine fr_if ?_ ?_
  · exact fr_some
  · refine fr_if ?_ ?_
    · refine fr_bind (fr_X9_barsOf _ _) (fun _ h => absurd h List.not_mem_nil) (fun x3 s4 => ?_)
      refine fr_if ?_ ?_
      · refine fr_bind (fr_X9_lets _ _ _ _) (fun _ h => absurd h List.not_mem_nil) (fun x5 s6 => ?_)
        refine fr_if ?_ ?_
        · exact fr_some
        · exact fr_some
      · exact fr_some
    · exact fr_some
set_option maxRecDepth 100000 in
set_option maxHeartbeats 4000000 in
theorem fr_lX10_reasonAgainst_20 (k50 : Int32 → Int32 → Int32 → mx_G → Option (Int32 × mx_G)) (hk50 : ∀ (b7 : Int32) (b8 : Int32) (b9 : Int32) (sz : mx_G), FR [] sz (k50 b7 b8 b9 sz)) : ∀ (n : Nat) (a3 : Int32) (a4 : Int32) (a5 : Int32) (a6 : Int32) (a7 : Int32) (s0 : mx_G), FR [] s0 (lX10_reasonAgainst_20  k50 n a3 a4 a5 a6 a7 s0) := by
  intro n
  induction n with
  | zero => intro a3 a4 a5 a6 a7 s0; exact fr_none
  | succ n ih20 =>
    intro a3 a4 a5 a6 a7 s0
    rw [lX10_reasonAgainst_20]
    refine fr_if ?_ ?_
    · exact fr_some
    · refine fr_leti (fun x3 => ?_)
      refine fr_bind (fr_X10_reasonOf _ _ _ _ _) (fun _ h => absurd h List.not_mem_nil) (fun x4 s5 => ?_)
      refine fr_if ?_ ?_
      · refine fr_leti (fun x6 => ?_)
        refine fr_leti (fun x7 => ?_)
        exact ih20 _ _ _ _ _ _
      · exact hk50 _ _ _ _
set_option maxRecDepth 100000 in
set_option maxHeartbeats 4000000 in
theorem fr_X10_reasonAgainst (p1 : Int32) (p2 : Int32) (s : mx_G) : FR [] s (fX10_reasonAgainst p1 p2 s) := by
  unfold fX10_reasonAgainst
  refine fr_leti (fun x1 => ?_)
  refine fr_leti (fun x2 => ?_)
  refine fr_lX10_reasonAgainst_20 _ (fun y9 y10 y11 s8 => ?_) FU _ _ _ _ _ _
  exact fr_some
set_option maxRecDepth 100000 in
set_option maxHeartbeats 4000000 in
theorem fr_lX10_why_29 (a1 : Int32) (a2 : Int32)  : ∀ (n : Nat) (a3 : Int32) (a4 : Int32) (s0 : mx_G), FR [] s0 (lX10_why_29 a1 a2  n a3 a4 s0) := by
  intro n
  induction n with
  | zero => intro a3 a4 s0; exact fr_none
  | succ n ih29 =>
    intro a3 a4 s0
    rw [lX10_why_29]
    refine fr_if ?_ ?_
    · refine fr_bind (fr_X10_reasonAgainst _ _ _) (fun _ h => absurd h List.not_mem_nil) (fun x3 s4 => ?_)
      exact fr_some
    · refine fr_bind (fr_X9_size  _) (fun _ h => absurd h List.not_mem_nil) (fun x5 s6 => ?_)
      refine fr_if ?_ ?_
      · refine fr_leti (fun x7 => ?_)
        exact ih29 _ _ _
      · exact fr_some
set_option maxRecDepth 100000 in
set_option maxHeartbeats 4000000 in
theorem fr_X10_why (p1 : Int32) (s : mx_G) : FR [] s (fX10_why p1 s) := by
  unfold fX10_why
  refine fr_if ?_ ?_
  · exact fr_some
  · refine fr_if ?_ ?_
    · exact fr_some
    · refine fr_if ?_ ?_
      · refine fr_bind (fr_X10_figuresOf _ _) (fun _ h => absurd h List.not_mem_nil) (fun x1 s2 => ?_)
        exact fr_lX10_why_29 _ _ FU _ _ _
      · exact fr_some
set_option maxRecDepth 100000 in
set_option maxHeartbeats 4000000 in
theorem fr_lX9_countLinks_15 (a1 : Int32) (a3 : Int32) (k55 : Int32 → mx_G → Option (Int32 × mx_G)) (hk55 : ∀ (b2 : Int32) (sz : mx_G), FR [] sz (k55 b2 sz)) : ∀ (n : Nat) (a2 : Int32) (a4 : Int32) (s0 : mx_G), FR [] s0 (lX9_countLinks_15 a1 a3 k55 n a2 a4 s0) := by
  intro n
  induction n with
  | zero => intro a2 a4 s0; exact fr_none
  | succ n ih15 =>
    intro a2 a4 s0
    rw [lX9_countLinks_15]
    refine fr_if ?_ ?_
    · exact hk55 _ _
    · refine fr_bind (fr_X9_sortOf _ _ _) (fun _ h => absurd h List.not_mem_nil) (fun x2 s3 => ?_)
      refine fr_if ?_ ?_
      · exact ih15 _ _ _
      · refine fr_if ?_ ?_
        · exact ih15 _ _ _
        · refine fr_bind (fr_X9_isCut _ _ _) (fun _ h => absurd h List.not_mem_nil) (fun x4 s5 => ?_)
          refine fr_if ?_ ?_
          · exact ih15 _ _ _
          · exact ih15 _ _ _
set_option maxRecDepth 100000 in
set_option maxHeartbeats 4000000 in
theorem fr_lX9_countLinks_4 (a1 : Int32)  : ∀ (n : Nat) (a2 : Int32) (a3 : Int32) (s0 : mx_G), FR [] s0 (lX9_countLinks_4 a1  n a2 a3 s0) := by
  intro n
  induction n with
  | zero => intro a2 a3 s0; exact fr_none
  | succ n ih4 =>
    intro a2 a3 s0
    rw [lX9_countLinks_4]
    refine fr_if ?_ ?_
    · exact fr_some
    · refine fr_leti (fun x1 => ?_)
      refine fr_lX9_countLinks_15 _ _ _ (fun y7 s6 => ?_) FU _ _ _
      exact ih4 _ _ _
set_option maxRecDepth 100000 in
set_option maxHeartbeats 4000000 in
theorem fr_X9_countLinks (p1 : Int32) (s : mx_G) : FR [] s (fX9_countLinks p1 s) := by
  unfold fX9_countLinks
  exact fr_lX9_countLinks_4 _ FU _ _ _
set_option maxRecDepth 100000 in
set_option maxHeartbeats 4000000 in
theorem fr_lX9_choosers_4   : ∀ (n : Nat) (a1 : Int32) (a2 : Int32) (s0 : mx_G), FR [] s0 (lX9_choosers_4   n a1 a2 s0) := by
  intro n
  induction n with
  | zero => intro a1 a2 s0; exact fr_none
  | succ n ih4 =>
    intro a1 a2 s0
    rw [lX9_choosers_4]
    refine fr_if ?_ fr_none
    refine fr_if ?_ ?_
    · exact fr_some
    · refine fr_bind (fr_X9_chosenBy _ _) (fun _ h => absurd h List.not_mem_nil) (fun x1 s2 => ?_)
      refine fr_if ?_ ?_
      · exact ih4 _ _ _
      · refine fr_leti (fun x3 => ?_)
        exact ih4 _ _ _
set_option maxRecDepth 100000 in
set_option maxHeartbeats 4000000 in
theorem fr_X9_choosers (s : mx_G) : FR [] s (fX9_choosers  s) := by
  unfold fX9_choosers
  exact fr_lX9_choosers_4 FU _ _ _
set_option maxRecDepth 100000 in
set_option maxHeartbeats 4000000 in
theorem fr_lX0_discontents_4   : ∀ (n : Nat) (a2 : Int32) (a3 : Int32) (s0 : mx_G), FR [] s0 (lX0_discontents_4   n a2 a3 s0) := by
  intro n
  induction n with
  | zero => intro a2 a3 s0; exact fr_none
  | succ n ih4 =>
    intro a2 a3 s0
    rw [lX0_discontents_4]
    refine fr_bind (fr_X9_size  _) (fun _ h => absurd h List.not_mem_nil) (fun x1 s2 => ?_)
    refine fr_if ?_ ?_
    · exact fr_some
    · refine fr_if ?_ fr_none
      refine fr_bind (fr_X0_best _ _) (fun _ h => absurd h List.not_mem_nil) (fun x3 s4 => ?_)
      refine fr_if ?_ ?_
      · exact ih4 _ _ _
      · refine fr_leti (fun x5 => ?_)
        exact ih4 _ _ _
set_option maxRecDepth 100000 in
set_option maxHeartbeats 4000000 in
theorem fr_X0_discontents (s : mx_G) : FR [] s (fX0_discontents  s) := by
  unfold fX0_discontents
  exact fr_lX0_discontents_4 FU _ _ _
set_option maxRecDepth 100000 in
set_option maxHeartbeats 4000000 in
theorem fr_X10_discontent (s : mx_G) : FR [10, 11, 12, 13] s (fX10_discontent  s) := by
  unfold fX10_discontent
  refine fr_bind (fr_X0_load  _) (fun _ h => h) (fun _ s1 => ?_)
  refine fr_bind (fr_X0_discontents  _) (fun _ h => absurd h List.not_mem_nil) (fun x2 s3 => ?_)
  exact fr_some
set_option maxRecDepth 100000 in
set_option maxHeartbeats 4000000 in
theorem fr_X8_countAll (s : mx_G) : FR [] s (fX8_countAll  s) := by
  unfold fX8_countAll
  exact fr_some
set_option maxRecDepth 100000 in
set_option maxHeartbeats 4000000 in
theorem fr_X8_version (s : mx_G) : FR [] s (fX8_version  s) := by
  unfold fX8_version
  exact fr_some
set_option maxRecDepth 100000 in
set_option maxHeartbeats 4000000 in
theorem fr_lX0_walk_13 (a1 : Int32) (k67 : Int32 → Int32 → Int32 → Int32 → mx_G → Option (Unit × mx_G)) (hk67 : ∀ (b3 : Int32) (b4 : Int32) (b5 : Int32) (b6 : Int32) (sz : mx_G), FR [10, 11, 12, 13] sz (k67 b3 b4 b5 b6 sz)) : ∀ (n : Nat) (a3 : Int32) (a4 : Int32) (a5 : Int32) (a6 : Int32) (s0 : mx_G), FR [10, 11, 12, 13] s0 (lX0_walk_13 a1 k67 n a3 a4 a5 a6 s0) := by
  intro n
  induction n with
  | zero => intro a3 a4 a5 a6 s0; exact fr_none
  | succ n ih13 =>
    intro a3 a4 a5 a6 s0
    rw [lX0_walk_13]
    refine fr_if ?_ ?_
    · exact hk67 _ _ _ _ _
    · refine fr_if ?_ ?_
      · exact hk67 _ _ _ _ _
      · refine fr_if ?_ fr_none
        refine fr_leti (fun x2 => ?_)
        refine fr_if ?_ ?_
        · exact fr_some
        · refine fr_if ?_ ?_
          · refine fr_leti (fun x3 => ?_)
            refine fr_leti (fun x4 => ?_)
            exact ih13 _ _ _ _ _
          · exact fr_some
set_option maxRecDepth 100000 in
set_option maxHeartbeats 4000000 in
theorem fr_X0_walk (p1 : Int32) (s : mx_G) : FR [10, 11, 12, 13] s (fX0_walk p1 s) := by
  unfold fX0_walk
  refine fr_leti (fun x1 => ?_)
  refine fr_lX0_walk_13 _ _ (fun y6 y7 y8 y9 s5 => ?_) FU _ _ _ _ _
  refine fr_if ?_ ?_
  · refine fr_if (fr_gi me_15 (fun s10 => ?_)) fr_none
    refine fr_if (fr_gi me_16 (fun s11 => ?_)) fr_none
    refine fr_if ?_ fr_none
    refine fr_if (fr_gi me_17 (fun s12 => ?_)) fr_none
    refine fr_if (fr_gi me_18 (fun s13 => ?_)) fr_none
    exact fr_some
  · exact fr_some
set_option maxRecDepth 100000 in
set_option maxHeartbeats 4000000 in
theorem fr_lX0_follow_8 (a2 : Int32)  : ∀ (n : Nat) (a3 : Int32) (s0 : mx_G), FR [10, 11, 12, 13] s0 (lX0_follow_8 a2  n a3 s0) := by
  intro n
  induction n with
  | zero => intro a3 s0; exact fr_none
  | succ n ih8 =>
    intro a3 s0
    rw [lX0_follow_8]
    refine fr_if ?_ ?_
    · exact fr_some
    · refine fr_bind (fr_X0_putNone _ _) (fun _ h => h) (fun _ s2 => ?_)
      refine fr_if ?_ ?_
      · exact ih8 _ _
      · refine fr_bind (fr_X0_walk _ _) (fun _ h => h) (fun _ s3 => ?_)
        exact ih8 _ _
set_option maxRecDepth 100000 in
set_option maxHeartbeats 4000000 in
theorem fr_X0_follow (p2 : Int32) (s : mx_G) : FR [10, 11, 12, 13] s (fX0_follow p2 s) := by
  unfold fX0_follow
  refine fr_bind (fr_X0_put _ _ _) (fun _ h => h) (fun _ s1 => ?_)
  exact fr_lX0_follow_8 _ FU _ _
set_option maxRecDepth 100000 in
set_option maxHeartbeats 4000000 in
theorem fr_X0_wayOf (p1 : Int32) (s : mx_G) : FR [] s (fX0_wayOf p1 s) := by
  unfold fX0_wayOf
  refine fr_if ?_ fr_none
  exact fr_some
set_option maxRecDepth 100000 in
set_option maxHeartbeats 4000000 in
theorem fr_lX4_keepIfStable_17 (k62 : Int32 → mx_G → Option (Unit × mx_G)) (hk62 : ∀ (b3 : Int32) (sz : mx_G), FR [10, 11, 12, 13, 31, 32] sz (k62 b3 sz)) : ∀ (n : Nat) (a3 : Int32) (a4 : Int32) (s0 : mx_G), FR [10, 11, 12, 13, 31, 32] s0 (lX4_keepIfStable_17  k62 n a3 a4 s0) := by
  intro n
  induction n with
  | zero => intro a3 a4 s0; exact fr_none
  | succ n ih17 =>
    intro a3 a4 s0
    rw [lX4_keepIfStable_17]
    refine fr_bind (fr_X9_size  _) (fun _ h => absurd h List.not_mem_nil) (fun x4 s5 => ?_)
    refine fr_if ?_ ?_
    · exact hk62 _ _
    · refine fr_bind (fr_X0_wayOf _ _) (fun _ h => absurd h List.not_mem_nil) (fun x6 s7 => ?_)
      refine fr_bind (fr_X0_best _ _) (fun _ h => absurd h List.not_mem_nil) (fun x8 s9 => ?_)
      refine fr_if ?_ ?_
      · refine fr_if ?_ fr_none
        refine fr_leti (fun x10 => ?_)
        exact ih17 _ _ _
      · exact fr_some
theorem hs_8 : ∀ p ∈ [10, 11, 12, 13], p ∈ [10, 11, 12, 13, 31, 32] := by decide
theorem me_19 : 32 ∈ [10, 11, 12, 13, 31, 32] := by decide
theorem me_20 : 31 ∈ [10, 11, 12, 13, 31, 32] := by decide
set_option maxRecDepth 100000 in
set_option maxHeartbeats 4000000 in
theorem fr_X4_keepIfStable (s : mx_G) : FR [10, 11, 12, 13, 31, 32] s (fX4_keepIfStable  s) := by
  unfold fX4_keepIfStable
  refine fr_bind (fr_X9_size  _) (fun _ h => absurd h List.not_mem_nil) (fun x1 s2 => ?_)
  refine fr_bind (fr_X0_follow _ _) hs_8 (fun _ s3 => ?_)
  refine fr_lX4_keepIfStable_17 _ (fun y12 s11 => ?_) FU _ _ _
  refine fr_if ?_ ?_
  · exact fr_some
  · refine fr_if (fr_gi me_19 (fun s13 => ?_)) fr_none
    refine fr_gi me_20 (fun s14 => ?_)
    exact fr_some
set_option maxRecDepth 100000 in
set_option maxHeartbeats 4000000 in
theorem fr_lX4_mayLead_30 (a1 : Int32) (a2 : Int32) (a4 : Int32) (k59 : Int32 → mx_G → Option (Int32 × mx_G)) (hk59 : ∀ (b3 : Int32) (sz : mx_G), FR [] sz (k59 b3 sz)) : ∀ (n : Nat) (a3 : Int32) (a5 : Int32) (s0 : mx_G), FR [] s0 (lX4_mayLead_30 a1 a2 a4 k59 n a3 a5 s0) := by
  intro n
  induction n with
  | zero => intro a3 a5 s0; exact fr_none
  | succ n ih30 =>
    intro a3 a5 s0
    rw [lX4_mayLead_30]
    refine fr_if ?_ ?_
    · exact hk59 _ _
    · refine fr_if ?_ ?_
      · exact hk59 _ _
      · refine fr_if ?_ ?_
        · exact hk59 _ _
        · refine fr_if ?_ fr_none
          refine fr_leti (fun x2 => ?_)
          exact ih30 _ _ _
set_option maxRecDepth 100000 in
set_option maxHeartbeats 4000000 in
theorem fr_lX4_mayLead_2 (a1 : Int32)  : ∀ (n : Nat) (a2 : Int32) (s0 : mx_G), FR [] s0 (lX4_mayLead_2 a1  n a2 s0) := by
  intro n
  induction n with
  | zero => intro a2 s0; exact fr_none
  | succ n ih2 =>
    intro a2 s0
    rw [lX4_mayLead_2]
    refine fr_if ?_ ?_
    · exact fr_some
    · refine fr_if ?_ fr_none
      refine fr_leti (fun x1 => ?_)
      refine fr_j1 ?_ (fun J25 hJ25 => ?_)
      · intro q0_25 s_25
        refine fr_lX4_mayLead_30 _ _ _ _ (fun y4 s3 => ?_) FU _ _ _
        refine fr_j1 ?_ (fun J79 hJ79 => ?_)
        · intro q0_79 s_79
          refine fr_if ?_ ?_
          · exact ih2 _ _
          · refine fr_if ?_ ?_
            · exact ih2 _ _
            · exact fr_some
        refine fr_j0 ?_ (fun J74 hJ74 => ?_)
        · intro s_74
          exact hJ79 _ _
        refine fr_if ?_ ?_
        · exact hJ74 _
        · refine fr_if ?_ ?_
          · exact hJ79 _ _
          · refine fr_if ?_ ?_
            · exact hJ79 _ _
            · exact hJ74 _
      refine fr_if ?_ ?_
      · exact hJ25 _ _
      · exact hJ25 _ _
set_option maxRecDepth 100000 in
set_option maxHeartbeats 4000000 in
theorem fr_X4_mayLead (p1 : Int32) (s : mx_G) : FR [] s (fX4_mayLead p1 s) := by
  unfold fX4_mayLead
  exact fr_lX4_mayLead_2 _ FU _ _
theorem me_21 : 33 ∈ [10, 11, 12, 13, 31, 32, 33] := by decide
set_option maxRecDepth 100000 in
set_option maxHeartbeats 4000000 in
theorem fr_lX4_search_24 (rc : Int32 → mx_G → Option (Unit × mx_G)) (hrc : ∀ (p3 : Int32) (s : mx_G), FR [10, 11, 12, 13, 31, 32, 33] s (rc p3 s)) (a3 : Int32)  : ∀ (n : Nat) (a4 : Int32) (s0 : mx_G), FR [10, 11, 12, 13, 31, 32, 33] s0 (lX4_search_24 rc a3  n a4 s0) := by
  intro n
  induction n with
  | zero => intro a4 s0; exact fr_none
  | succ n ih24 =>
    intro a4 s0
    rw [lX4_search_24]
    refine fr_if ?_ ?_
    · exact fr_some
    · refine fr_j0 ?_ (fun J57 hJ57 => ?_)
      · intro s_57
        refine fr_if (fr_gi me_21 (fun s4 => ?_)) fr_none
        refine fr_bind (fr_X4_mayLead _ _) (fun _ h => absurd h List.not_mem_nil) (fun x5 s6 => ?_)
        refine fr_if ?_ ?_
        · exact ih24 _ _
        · refine fr_bind (hrc _ _) (fun _ h => h) (fun _ s7 => ?_)
          exact ih24 _ _
      refine fr_if ?_ ?_
      · exact hJ57 _
      · refine fr_bind (fr_X9_isDomain _ _) (fun _ h => absurd h List.not_mem_nil) (fun x8 s9 => ?_)
        refine fr_if ?_ ?_
        · exact ih24 _ _
        · refine fr_bind (fr_X9_areJoined _ _ _) (fun _ h => absurd h List.not_mem_nil) (fun x10 s11 => ?_)
          refine fr_if ?_ ?_
          · exact ih24 _ _
          · exact hJ57 _
theorem hs_9 : ∀ p ∈ [10, 11, 12, 13, 31, 32], p ∈ [10, 11, 12, 13, 31, 32, 33] := by decide
set_option maxRecDepth 100000 in
set_option maxHeartbeats 4000000 in
theorem fr_X4_search : ∀ (m : Nat) (p3 : Int32) (s : mx_G), FR [10, 11, 12, 13, 31, 32, 33] s (fX4_search m p3 s) := by
  intro m
  induction m with
  | zero => intro p3 s; exact fr_none
  | succ m hm =>
    intro p3 s
    rw [fX4_search]
    refine fr_bind (fr_X9_size  _) (fun _ h => absurd h List.not_mem_nil) (fun x1 s2 => ?_)
    refine fr_if ?_ ?_
    · refine fr_bind (fr_X4_keepIfStable  _) hs_9 (fun _ s3 => ?_)
      exact fr_some
    · refine fr_if ?_ ?_
      · exact fr_lX4_search_24 (fX4_search m) hm _ FU _ _
      · refine fr_bind (fr_X4_keepIfStable  _) hs_9 (fun _ s12 => ?_)
        exact fr_some
theorem me_22 : 31 ∈ [10, 11, 12, 13, 31, 32, 33] := by decide
set_option maxRecDepth 100000 in
set_option maxHeartbeats 4000000 in
theorem fr_X4_freshen (p3 : Int32) (s : mx_G) : FR [10, 11, 12, 13, 31, 32, 33] s (fX4_freshen p3 s) := by
  unfold fX4_freshen
  refine fr_if ?_ ?_
  · exact fr_some
  · refine fr_gi me_22 (fun s1 => ?_)
    refine fr_gi me_22 (fun s2 => ?_)
    refine fr_bind (fr_X4_search _ _ _) (fun _ h => h) (fun _ s3 => ?_)
    exact fr_some
set_option maxRecDepth 100000 in
set_option maxHeartbeats 4000000 in
theorem fr_X4_found (s : mx_G) : FR [] s (fX4_found  s) := by
  unfold fX4_found
  exact fr_some
theorem hs_10 : ∀ p ∈ [15, 16, 17, 18, 19, 20, 21, 22, 23, 24], p ∈ [10, 11, 12, 13, 15, 16, 17, 18, 19, 20, 21, 22, 23, 24, 31, 32, 33] := by decide
theorem hs_11 : ∀ p ∈ [10, 11, 12, 13, 31, 32, 33], p ∈ [10, 11, 12, 13, 15, 16, 17, 18, 19, 20, 21, 22, 23, 24, 31, 32, 33] := by decide
set_option maxRecDepth 100000 in
set_option maxHeartbeats 4000000 in
theorem fr_X10_stableOnes (s : mx_G) : FR [10, 11, 12, 13, 15, 16, 17, 18, 19, 20, 21, 22, 23, 24, 31, 32, 33] s (fX10_stableOnes  s) := by
  unfold fX10_stableOnes
  refine fr_bind (fr_X8_freshen  _) hs_10 (fun _ s1 => ?_)
  refine fr_bind (fr_X8_version  _) (fun _ h => absurd h List.not_mem_nil) (fun x2 s3 => ?_)
  refine fr_bind (fr_X4_freshen _ _) hs_11 (fun _ s4 => ?_)
  refine fr_bind (fr_X4_found  _) (fun _ h => absurd h List.not_mem_nil) (fun x5 s6 => ?_)
  exact fr_some
set_option maxRecDepth 100000 in
set_option maxHeartbeats 4000000 in
theorem fr_X3_known (s : mx_G) : FR [] s (fX3_known  s) := by
  unfold fX3_known
  exact fr_some
theorem hs_12 : ∀ p ∈ [10, 11, 12, 13], p ∈ [10, 11, 12, 13, 15, 16, 17, 18, 19, 20, 21, 22, 23, 24, 31, 32, 33] := by decide
set_option maxRecDepth 100000 in
set_option maxHeartbeats 4000000 in
theorem fr_X10_count (p1 : Int32) (s : mx_G) : FR [10, 11, 12, 13, 15, 16, 17, 18, 19, 20, 21, 22, 23, 24, 31, 32, 33] s (fX10_count p1 s) := by
  unfold fX10_count
  refine fr_if ?_ ?_
  · refine fr_bind (fr_X9_size  _) (fun _ h => absurd h List.not_mem_nil) (fun x1 s2 => ?_)
    exact fr_some
  refine fr_if ?_ ?_
  · refine fr_bind (fr_X9_countLinks _ _) (fun _ h => absurd h List.not_mem_nil) (fun x3 s4 => ?_)
    exact fr_some
  refine fr_if ?_ ?_
  · refine fr_bind (fr_X9_countLinks _ _) (fun _ h => absurd h List.not_mem_nil) (fun x5 s6 => ?_)
    exact fr_some
  refine fr_if ?_ ?_
  · refine fr_bind (fr_X9_choosers  _) (fun _ h => absurd h List.not_mem_nil) (fun x7 s8 => ?_)
    exact fr_some
  refine fr_if ?_ ?_
  · refine fr_bind (fr_X10_discontent  _) hs_12 (fun x9 s10 => ?_)
    exact fr_some
  refine fr_if ?_ ?_
  · refine fr_bind (fr_X8_freshen  _) hs_10 (fun _ s11 => ?_)
    refine fr_bind (fr_X8_countAll  _) (fun _ h => absurd h List.not_mem_nil) (fun x12 s13 => ?_)
    exact fr_some
  refine fr_if ?_ ?_
  · refine fr_bind (fr_X10_stableOnes  _) (fun _ h => h) (fun x14 s15 => ?_)
    exact fr_some
  refine fr_if ?_ ?_
  · refine fr_bind (fr_X3_known  _) (fun _ h => absurd h List.not_mem_nil) (fun x16 s17 => ?_)
    exact fr_some
  exact fr_some
theorem me_23 : 37 ∈ [36, 37] := by decide
theorem me_24 : 36 ∈ [36, 37] := by decide
set_option maxRecDepth 100000 in
set_option maxHeartbeats 4000000 in
theorem fr_X7_append (p1 : Int32) (s : mx_G) : FR [36, 37] s (fX7_append p1 s) := by
  unfold fX7_append
  refine fr_if ?_ ?_
  · refine fr_if (fr_gi me_23 (fun s1 => ?_)) fr_none
    refine fr_gi me_24 (fun s2 => ?_)
    exact fr_some
  · exact fr_some
set_option maxRecDepth 100000 in
set_option maxHeartbeats 4000000 in
theorem fr_X10_type (p1 : Int32) (s : mx_G) : FR [36, 37] s (fX10_type p1 s) := by
  unfold fX10_type
  refine fr_if ?_ ?_
  · exact fr_some
  · refine fr_if ?_ ?_
    · refine fr_bind (fr_X7_append _ _) (fun _ h => h) (fun x1 s2 => ?_)
      exact fr_some
    · exact fr_some
theorem me_25 : 38 ∈ [38] := by decide
set_option maxRecDepth 100000 in
set_option maxHeartbeats 4000000 in
theorem fr_lJA_fillI_1_5 (a1 : Int32) (a3 : Int32)  : ∀ (n : Nat) (a2 : Int32) (s0 : mx_G), FR [38] s0 (lJA_fillI_1_5 a1 a3  n a2 s0) := by
  intro n
  induction n with
  | zero => intro a2 s0; exact fr_none
  | succ n ih5 =>
    intro a2 s0
    rw [lJA_fillI_1_5]
    refine fr_if ?_ ?_
    · exact fr_some
    · refine fr_if (fr_gi me_25 (fun s1 => ?_)) fr_none
      exact ih5 _ _
set_option maxRecDepth 100000 in
set_option maxHeartbeats 4000000 in
theorem fr_JA_fillI_1 (p1 : Int32) (s : mx_G) : FR [38] s (fJA_fillI_1 p1 s) := by
  unfold fJA_fillI_1
  exact fr_lJA_fillI_1_5 _ _ FU _ _
theorem me_26 : 36 ∈ [36] := by decide
set_option maxRecDepth 100000 in
set_option maxHeartbeats 4000000 in
theorem fr_X7_acceptsFirst (p1 : Int32) (p2 : Int32) (s : mx_G) : FR [36] s (fX7_acceptsFirst p1 p2 s) := by
  unfold fX7_acceptsFirst
  refine fr_if ?_ ?_
  · exact fr_some
  · refine fr_if ?_ ?_
    · refine fr_gi me_26 (fun s1 => ?_)
      refine fr_gi me_26 (fun s2 => ?_)
      exact fr_some
    · exact fr_some
set_option maxRecDepth 100000 in
set_option maxHeartbeats 4000000 in
theorem fr_X7_acceptsSign (p1 : Int32) (s : mx_G) : FR [36] s (fX7_acceptsSign p1 s) := by
  unfold fX7_acceptsSign
  refine fr_j1 ?_ (fun J32 hJ32 => ?_)
  · intro q0_32 s_32
    refine fr_gi me_26 (fun s1 => ?_)
    refine fr_gi me_26 (fun s2 => ?_)
    refine fr_if ?_ ?_
    · exact fr_some
    · exact fr_some
  refine fr_if ?_ ?_
  · exact hJ32 _ _
  · refine fr_if ?_ ?_
    · exact hJ32 _ _
    · refine fr_if ?_ ?_
      · exact hJ32 _ _
      · exact hJ32 _ _
theorem me_27 : 36 ∈ [36, 38, 39] := by decide
theorem me_28 : 38 ∈ [36, 38, 39] := by decide
theorem me_29 : 39 ∈ [36, 38, 39] := by decide
set_option maxRecDepth 100000 in
set_option maxHeartbeats 4000000 in
theorem fr_X7_acceptsSecond (p1 : Int32) (p2 : Int32) (s : mx_G) : FR [36, 38, 39] s (fX7_acceptsSecond p1 p2 s) := by
  unfold fX7_acceptsSecond
  refine fr_if ?_ ?_
  · exact fr_some
  · refine fr_if ?_ ?_
    · exact fr_some
    · refine fr_if ?_ ?_
      · exact fr_some
      · refine fr_if ?_ fr_none
        refine fr_if ?_ ?_
        · refine fr_gi me_27 (fun s1 => ?_)
          refine fr_if (fr_gi me_28 (fun s2 => ?_)) fr_none
          refine fr_if (fr_gi me_28 (fun s3 => ?_)) fr_none
          refine fr_if (fr_gi me_29 (fun s4 => ?_)) fr_none
          refine fr_if (fr_gi me_29 (fun s5 => ?_)) fr_none
          refine fr_gi me_27 (fun s6 => ?_)
          refine fr_gi me_27 (fun s7 => ?_)
          exact fr_some
        · exact fr_some
theorem me_30 : 36 ∈ [36, 39] := by decide
theorem me_31 : 39 ∈ [36, 39] := by decide
set_option maxRecDepth 100000 in
set_option maxHeartbeats 4000000 in
theorem fr_X7_acceptsBehind (p1 : Int32) (s : mx_G) : FR [36, 39] s (fX7_acceptsBehind p1 s) := by
  unfold fX7_acceptsBehind
  refine fr_if ?_ ?_
  · refine fr_gi me_30 (fun s4 => ?_)
    exact fr_some
  · refine fr_if ?_ ?_
    · refine fr_if ?_ ?_
      · exact fr_some
      · refine fr_if (fr_gi me_31 (fun s1 => ?_)) fr_none
        refine fr_if (fr_gi me_31 (fun s2 => ?_)) fr_none
        refine fr_gi me_30 (fun s3 => ?_)
        exact fr_some
    · exact fr_some
theorem hs_13 : ∀ p ∈ [36], p ∈ [36, 38, 39] := by decide
theorem hs_14 : ∀ p ∈ [36, 39], p ∈ [36, 38, 39] := by decide
set_option maxRecDepth 100000 in
set_option maxHeartbeats 4000000 in
theorem fr_X7_accepts (p1 : Int32) (p2 : Int32) (s : mx_G) : FR [36, 38, 39] s (fX7_accepts p1 p2 s) := by
  unfold fX7_accepts
  refine fr_leti (fun x1 => ?_)
  refine fr_if ?_ ?_
  · refine fr_bind (fr_X7_acceptsFirst _ _ _) hs_13 (fun x2 s3 => ?_)
    exact fr_if fr_some fr_none
  refine fr_if ?_ ?_
  · refine fr_bind (fr_X7_acceptsFirst _ _ _) hs_13 (fun x4 s5 => ?_)
    exact fr_if fr_some fr_none
  refine fr_if ?_ ?_
  · refine fr_bind (fr_X7_acceptsSign _ _) hs_13 (fun x6 s7 => ?_)
    exact fr_if fr_some fr_none
  refine fr_if ?_ ?_
  · refine fr_bind (fr_X7_acceptsSecond _ _ _) (fun _ h => h) (fun x8 s9 => ?_)
    exact fr_if fr_some fr_none
  refine fr_bind (fr_X7_acceptsBehind _ _) hs_14 (fun x10 s11 => ?_)
  exact fr_if fr_some fr_none
set_option maxRecDepth 100000 in
set_option maxHeartbeats 4000000 in
theorem fr_lX7_parse_20 (a1 : Int32) (k64 : mx_G → Option (Int32 × mx_G)) (hk64 : ∀ (sz : mx_G), FR [36, 38, 39] sz (k64 sz)) : ∀ (n : Nat) (a2 : Int32) (s0 : mx_G), FR [36, 38, 39] s0 (lX7_parse_20 a1 k64 n a2 s0) := by
  intro n
  induction n with
  | zero => intro a2 s0; exact fr_none
  | succ n ih20 =>
    intro a2 s0
    rw [lX7_parse_20]
    refine fr_if ?_ ?_
    · exact hk64 _
    · refine fr_if ?_ fr_none
      refine fr_if ?_ ?_
      · exact ih20 _ _
      · refine fr_if ?_ fr_none
        refine fr_bind (fr_X7_accepts _ _ _) (fun _ h => h) (fun x4 s5 => ?_)
        refine fr_if ?_ ?_
        · exact fr_some
        · exact ih20 _ _
theorem hs_15 : ∀ p ∈ [38], p ∈ [36, 38, 39] := by decide
set_option maxRecDepth 100000 in
set_option maxHeartbeats 4000000 in
theorem fr_X7_parse (p1 : Int32) (s : mx_G) : FR [36, 38, 39] s (fX7_parse p1 s) := by
  unfold fX7_parse
  refine fr_gi me_27 (fun s1 => ?_)
  refine fr_gi me_27 (fun s2 => ?_)
  refine fr_bind (fr_JA_fillI_1 _ _) hs_15 (fun _ s3 => ?_)
  refine fr_lX7_parse_20 _ _ (fun s6 => ?_) FU _ _
  refine fr_j1 ?_ (fun J92 hJ92 => ?_)
  · intro q0_92 s_92
    refine fr_if ?_ ?_
    · exact fr_some
    · exact fr_some
  refine fr_j0 ?_ (fun J87 hJ87 => ?_)
  · intro s_87
    exact hJ92 _ _
  refine fr_if ?_ ?_
  · exact hJ87 _
  · refine fr_if ?_ ?_
    · exact hJ87 _
    · refine fr_if ?_ ?_
      · exact hJ87 _
      · exact hJ92 _ _
set_option maxRecDepth 100000 in
set_option maxHeartbeats 4000000 in
theorem fr_X7_empty (s : mx_G) : FR [36] s (fX7_empty  s) := by
  unfold fX7_empty
  refine fr_gi me_26 (fun s1 => ?_)
  exact fr_some
set_option maxRecDepth 100000 in
set_option maxHeartbeats 4000000 in
theorem fr_JA_rangeCheck (p0 : Int32) (p1 : Int32) (p2 : Int32) (s : mx_G) : FR [] s (fJA_rangeCheck p0 p1 p2 s) := by
  unfold fJA_rangeCheck
  refine fr_if ?_ ?_
  · refine fr_if ?_ ?_
    · refine fr_if ?_ ?_
      · exact fr_some
      · exact fr_none
    · exact fr_none
  · exact fr_none
set_option maxRecDepth 100000 in
set_option maxHeartbeats 4000000 in
theorem fr_lJA_fillIR_10 (a2 : Int32) (a3 : Int32)  : ∀ (n : Nat) (a4 : Int32) (s0 : mx_G), FR [2] s0 (lJA_fillIR_10 a2 a3  n a4 s0) := by
  intro n
  induction n with
  | zero => intro a4 s0; exact fr_none
  | succ n ih10 =>
    intro a4 s0
    rw [lJA_fillIR_10]
    refine fr_if ?_ ?_
    · exact fr_some
    · refine fr_if (fr_gi me_2 (fun s2 => ?_)) fr_none
      exact ih10 _ _
set_option maxRecDepth 100000 in
set_option maxHeartbeats 4000000 in
theorem fr_JA_fillIR (p1 : Int32) (p2 : Int32) (p3 : Int32) (s : mx_G) : FR [2] s (fJA_fillIR p1 p2 p3 s) := by
  unfold fJA_fillIR
  refine fr_bind (fr_JA_rangeCheck _ _ _ _) (fun _ h => absurd h List.not_mem_nil) (fun _ s1 => ?_)
  exact fr_lJA_fillIR_10 _ _ FU _ _
set_option maxRecDepth 100000 in
set_option maxHeartbeats 4000000 in
theorem fr_X9_loseLinks (s : mx_G) : FR [2] s (fX9_loseLinks  s) := by
  unfold fX9_loseLinks
  refine fr_bind (fr_JA_fillIR _ _ _ _) (fun _ h => h) (fun _ s1 => ?_)
  exact fr_some
set_option maxRecDepth 100000 in
set_option maxHeartbeats 4000000 in
theorem fr_lX7_tellTo_16 (a2 : Int32) (k79 : mx_G → Option (Unit × mx_G)) (hk79 : ∀ (sz : mx_G), FR [2] sz (k79 sz)) : ∀ (n : Nat) (a3 : Int32) (s0 : mx_G), FR [2] s0 (lX7_tellTo_16 a2 k79 n a3 s0) := by
  intro n
  induction n with
  | zero => intro a3 s0; exact fr_none
  | succ n ih16 =>
    intro a3 s0
    rw [lX7_tellTo_16]
    refine fr_if ?_ ?_
    · exact hk79 _
    · refine fr_if ?_ fr_none
      refine fr_if ?_ ?_
      · exact ih16 _ _
      · refine fr_if ?_ fr_none
        refine fr_bind (fr_X9_setLink _ _ _ _) (fun _ h => h) (fun _ s3 => ?_)
        refine fr_if ?_ fr_none
        refine fr_if ?_ ?_
        · exact ih16 _ _
        · refine fr_bind (fr_X9_turnCut _ _ _) (fun _ h => h) (fun _ s4 => ?_)
          exact ih16 _ _
set_option maxRecDepth 100000 in
set_option maxHeartbeats 4000000 in
theorem fr_lX7_tellTo_6   : ∀ (n : Nat) (a2 : Int32) (s0 : mx_G), FR [2] s0 (lX7_tellTo_6   n a2 s0) := by
  intro n
  induction n with
  | zero => intro a2 s0; exact fr_none
  | succ n ih6 =>
    intro a2 s0
    rw [lX7_tellTo_6]
    refine fr_if ?_ ?_
    · exact fr_some
    · refine fr_leti (fun x2 => ?_)
      refine fr_lX7_tellTo_16 _ _ (fun s5 => ?_) FU _ _
      exact ih6 _ _
set_option maxRecDepth 100000 in
set_option maxHeartbeats 4000000 in
theorem fr_X7_tellTo (s : mx_G) : FR [2] s (fX7_tellTo  s) := by
  unfold fX7_tellTo
  refine fr_bind (fr_X9_loseLinks  _) (fun _ h => h) (fun _ s1 => ?_)
  exact fr_lX7_tellTo_6 FU _ _
theorem hs_16 : ∀ p ∈ [36, 38, 39], p ∈ [2, 3, 4, 36, 38, 39] := by decide
theorem hs_17 : ∀ p ∈ [36], p ∈ [2, 3, 4, 36, 38, 39] := by decide
theorem hs_18 : ∀ p ∈ [3, 4], p ∈ [2, 3, 4, 36, 38, 39] := by decide
theorem hs_19 : ∀ p ∈ [2], p ∈ [2, 3, 4, 36, 38, 39] := by decide
set_option maxRecDepth 100000 in
set_option maxHeartbeats 4000000 in
theorem fr_X10_read (s : mx_G) : FR [2, 3, 4, 36, 38, 39] s (fX10_read  s) := by
  unfold fX10_read
  refine fr_bind (fr_X9_size  _) (fun _ h => absurd h List.not_mem_nil) (fun x1 s2 => ?_)
  refine fr_bind (fr_X7_parse _ _) hs_16 (fun x3 s4 => ?_)
  refine fr_if ?_ ?_
  · refine fr_bind (fr_X7_empty  _) hs_17 (fun _ s5 => ?_)
    exact fr_some
  · refine fr_bind (fr_X3_keep  _) hs_18 (fun _ s6 => ?_)
    refine fr_bind (fr_X7_tellTo  _) hs_19 (fun _ s7 => ?_)
    refine fr_bind (fr_X7_empty  _) hs_17 (fun _ s8 => ?_)
    exact fr_some
theorem me_32 : 14 ∈ [10, 11, 12, 13, 14] := by decide
set_option maxRecDepth 100000 in
set_option maxHeartbeats 4000000 in
theorem fr_lX0_advance_10 (a2 : Int32) (a3 : Int32) (k36 : mx_G → Option (Int32 × mx_G)) (hk36 : ∀ (sz : mx_G), FR [10, 11, 12, 13, 14] sz (k36 sz)) : ∀ (n : Nat) (a4 : Int32) (s0 : mx_G), FR [10, 11, 12, 13, 14] s0 (lX0_advance_10 a2 a3 k36 n a4 s0) := by
  intro n
  induction n with
  | zero => intro a4 s0; exact fr_none
  | succ n ih10 =>
    intro a4 s0
    rw [lX0_advance_10]
    refine fr_if ?_ ?_
    · exact hk36 _
    · refine fr_bind (fr_X0_best _ _) (fun _ h => absurd h List.not_mem_nil) (fun x3 s4 => ?_)
      refine fr_if (fr_gi me_32 (fun s5 => ?_)) fr_none
      exact ih10 _ _
theorem hs_20 : ∀ p ∈ [10, 11, 12, 13], p ∈ [10, 11, 12, 13, 14] := by decide
set_option maxRecDepth 100000 in
set_option maxHeartbeats 4000000 in
theorem fr_lX0_advance_39 (a3 : Int32)  : ∀ (n : Nat) (a2 : Int32) (a4 : Int32) (s0 : mx_G), FR [10, 11, 12, 13, 14] s0 (lX0_advance_39 a3  n a2 a4 s0) := by
  intro n
  induction n with
  | zero => intro a2 a4 s0; exact fr_none
  | succ n ih39 =>
    intro a2 a4 s0
    rw [lX0_advance_39]
    refine fr_if ?_ ?_
    · exact fr_some
    · refine fr_if ?_ fr_none
      refine fr_if ?_ fr_none
      refine fr_if ?_ ?_
      · exact ih39 _ _ _
      · refine fr_if ?_ fr_none
        refine fr_bind (fr_X0_put _ _ _) hs_20 (fun _ s7 => ?_)
        exact ih39 _ _ _
set_option maxRecDepth 100000 in
set_option maxHeartbeats 4000000 in
theorem fr_X0_advance (s : mx_G) : FR [10, 11, 12, 13, 14] s (fX0_advance  s) := by
  unfold fX0_advance
  refine fr_bind (fr_X9_size  _) (fun _ h => absurd h List.not_mem_nil) (fun x1 s2 => ?_)
  refine fr_lX0_advance_10 _ _ _ (fun s6 => ?_) FU _ _
  exact fr_lX0_advance_39 _ FU _ _ _
set_option maxRecDepth 100000 in
set_option maxHeartbeats 4000000 in
theorem fr_lX0_store_2   : ∀ (n : Nat) (a2 : Int32) (s0 : mx_G), FR [2] s0 (lX0_store_2   n a2 s0) := by
  intro n
  induction n with
  | zero => intro a2 s0; exact fr_none
  | succ n ih2 =>
    intro a2 s0
    rw [lX0_store_2]
    refine fr_if ?_ ?_
    · exact fr_some
    · refine fr_if ?_ fr_none
      refine fr_bind (fr_X9_setChosen _ _ _) (fun _ h => h) (fun _ s1 => ?_)
      exact ih2 _ _
set_option maxRecDepth 100000 in
set_option maxHeartbeats 4000000 in
theorem fr_X0_store (s : mx_G) : FR [2] s (fX0_store  s) := by
  unfold fX0_store
  exact fr_lX0_store_2 FU _ _
theorem hs_21 : ∀ p ∈ [10, 11, 12, 13], p ∈ [2, 10, 11, 12, 13, 14] := by decide
theorem hs_22 : ∀ p ∈ [10, 11, 12, 13, 14], p ∈ [2, 10, 11, 12, 13, 14] := by decide
theorem hs_23 : ∀ p ∈ [2], p ∈ [2, 10, 11, 12, 13, 14] := by decide
set_option maxRecDepth 100000 in
set_option maxHeartbeats 4000000 in
theorem fr_X10_turnAll (s : mx_G) : FR [2, 10, 11, 12, 13, 14] s (fX10_turnAll  s) := by
  unfold fX10_turnAll
  refine fr_bind (fr_X0_load  _) hs_21 (fun _ s1 => ?_)
  refine fr_bind (fr_X0_advance  _) hs_22 (fun x2 s3 => ?_)
  refine fr_bind (fr_X0_store  _) hs_23 (fun _ s4 => ?_)
  exact fr_some
theorem hs_24 : ∀ p ∈ [10, 11, 12, 13], p ∈ [2, 3, 4, 10, 11, 12, 13, 14] := by decide
theorem hs_25 : ∀ p ∈ [2, 10, 11, 12, 13, 14], p ∈ [2, 3, 4, 10, 11, 12, 13, 14] := by decide
theorem hs_26 : ∀ p ∈ [3, 4], p ∈ [2, 3, 4, 10, 11, 12, 13, 14] := by decide
set_option maxRecDepth 100000 in
set_option maxHeartbeats 4000000 in
theorem fr_X10_turn (s : mx_G) : FR [2, 3, 4, 10, 11, 12, 13, 14] s (fX10_turn  s) := by
  unfold fX10_turn
  refine fr_bind (fr_X10_discontent  _) hs_24 (fun x1 s2 => ?_)
  refine fr_if ?_ ?_
  · refine fr_bind (fr_X10_turnAll  _) hs_25 (fun x3 s4 => ?_)
    exact fr_some
  · refine fr_bind (fr_X3_keep  _) hs_26 (fun _ s5 => ?_)
    refine fr_bind (fr_X10_turnAll  _) hs_25 (fun x6 s7 => ?_)
    exact fr_some
theorem hs_27 : ∀ p ∈ [10, 11, 12, 13], p ∈ [2, 10, 11, 12, 13] := by decide
theorem hs_28 : ∀ p ∈ [2], p ∈ [2, 10, 11, 12, 13] := by decide
set_option maxRecDepth 100000 in
set_option maxHeartbeats 4000000 in
theorem fr_X10_chooseAnew (p1 : Int32) (s : mx_G) : FR [2, 10, 11, 12, 13] s (fX10_chooseAnew p1 s) := by
  unfold fX10_chooseAnew
  refine fr_bind (fr_X0_load  _) hs_27 (fun _ s1 => ?_)
  refine fr_bind (fr_X0_best _ _) (fun _ h => absurd h List.not_mem_nil) (fun x2 s3 => ?_)
  refine fr_bind (fr_X9_chosenBy _ _) (fun _ h => absurd h List.not_mem_nil) (fun x4 s5 => ?_)
  refine fr_if ?_ ?_
  · exact fr_some
  · refine fr_bind (fr_X9_setChosen _ _ _) hs_28 (fun _ s6 => ?_)
    exact fr_some
theorem hs_29 : ∀ p ∈ [10, 11, 12, 13], p ∈ [2, 3, 4, 10, 11, 12, 13] := by decide
theorem hs_30 : ∀ p ∈ [2, 10, 11, 12, 13], p ∈ [2, 3, 4, 10, 11, 12, 13] := by decide
theorem hs_31 : ∀ p ∈ [3, 4], p ∈ [2, 3, 4, 10, 11, 12, 13] := by decide
set_option maxRecDepth 100000 in
set_option maxHeartbeats 4000000 in
theorem fr_X10_choose (p1 : Int32) (s : mx_G) : FR [2, 3, 4, 10, 11, 12, 13] s (fX10_choose p1 s) := by
  unfold fX10_choose
  refine fr_bind (fr_X9_isDomain _ _) (fun _ h => absurd h List.not_mem_nil) (fun x1 s2 => ?_)
  refine fr_if ?_ ?_
  · exact fr_some
  · refine fr_bind (fr_X0_load  _) hs_29 (fun _ s3 => ?_)
    refine fr_bind (fr_X0_best _ _) (fun _ h => absurd h List.not_mem_nil) (fun x4 s5 => ?_)
    refine fr_bind (fr_X9_chosenBy _ _) (fun _ h => absurd h List.not_mem_nil) (fun x6 s7 => ?_)
    refine fr_if ?_ ?_
    · refine fr_bind (fr_X10_chooseAnew _ _) hs_30 (fun x8 s9 => ?_)
      exact fr_some
    · refine fr_bind (fr_X3_keep  _) hs_31 (fun _ s10 => ?_)
      refine fr_bind (fr_X10_chooseAnew _ _) hs_30 (fun x11 s12 => ?_)
      exact fr_some
set_option maxRecDepth 100000 in
set_option maxHeartbeats 4000000 in
theorem fr_lX10_rest_22   : ∀ (n : Nat) (a1 : Int32) (s0 : mx_G), FR [2, 3, 4, 10, 11, 12, 13, 14] s0 (lX10_rest_22   n a1 s0) := by
  intro n
  induction n with
  | zero => intro a1 s0; exact fr_none
  | succ n ih22 =>
    intro a1 s0
    rw [lX10_rest_22]
    refine fr_if ?_ ?_
    · exact fr_some
    · refine fr_bind (fr_X10_turnAll  _) hs_25 (fun x4 s5 => ?_)
      refine fr_bind (fr_X10_discontent  _) hs_24 (fun x6 s7 => ?_)
      refine fr_if ?_ ?_
      · exact fr_some
      · exact ih22 _ _
set_option maxRecDepth 100000 in
set_option maxHeartbeats 4000000 in
theorem fr_X10_rest (s : mx_G) : FR [2, 3, 4, 10, 11, 12, 13, 14] s (fX10_rest  s) := by
  unfold fX10_rest
  refine fr_bind (fr_X10_discontent  _) hs_24 (fun x1 s2 => ?_)
  refine fr_if ?_ ?_
  · exact fr_some
  · refine fr_bind (fr_X3_keep  _) hs_26 (fun _ s3 => ?_)
    exact fr_lX10_rest_22 FU _ _
set_option maxRecDepth 100000 in
set_option maxHeartbeats 4000000 in
theorem fr_JI_bitCount (p0 : Int32) (s : mx_G) : FR [] s (fJI_bitCount p0 s) := by
  unfold fJI_bitCount
  refine fr_leti (fun x1 => ?_)
  refine fr_leti (fun x2 => ?_)
  refine fr_leti (fun x3 => ?_)
  refine fr_leti (fun x4 => ?_)
  refine fr_leti (fun x5 => ?_)
  exact fr_some
set_option maxRecDepth 100000 in
set_option maxHeartbeats 4000000 in
theorem fr_X10_clear (s : mx_G) : FR [2, 3, 4] s (fX10_clear  s) := by
  unfold fX10_clear
  refine fr_bind (fr_X9_choosers  _) (fun _ h => absurd h List.not_mem_nil) (fun x1 s2 => ?_)
  refine fr_bind (fr_JI_bitCount _ _) (fun _ h => absurd h List.not_mem_nil) (fun x3 s4 => ?_)
  refine fr_leti (fun x5 => ?_)
  refine fr_if ?_ ?_
  · exact fr_some
  · refine fr_bind (fr_X3_keep  _) hs_0 (fun _ s6 => ?_)
    refine fr_bind (fr_X9_forgetChosen  _) hs_1 (fun _ s7 => ?_)
    exact fr_some
theorem me_33 : 35 ∈ [35] := by decide
set_option maxRecDepth 100000 in
set_option maxHeartbeats 4000000 in
theorem fr_lX1_note_2 (a2 : Int32)  : ∀ (n : Nat) (a3 : Int32) (s0 : mx_G), FR [35] s0 (lX1_note_2 a2  n a3 s0) := by
  intro n
  induction n with
  | zero => intro a3 s0; exact fr_none
  | succ n ih2 =>
    intro a3 s0
    rw [lX1_note_2]
    refine fr_if ?_ ?_
    · exact fr_some
    · refine fr_bind (fr_X0_wayOf _ _) (fun _ h => absurd h List.not_mem_nil) (fun x1 s2 => ?_)
      refine fr_if (fr_gi me_33 (fun s3 => ?_)) fr_none
      exact ih2 _ _
set_option maxRecDepth 100000 in
set_option maxHeartbeats 4000000 in
theorem fr_X1_note (p2 : Int32) (s : mx_G) : FR [35] s (fX1_note p2 s) := by
  unfold fX1_note
  exact fr_lX1_note_2 _ FU _ _
set_option maxRecDepth 100000 in
set_option maxHeartbeats 4000000 in
theorem fr_lX1_areAlike_2 (a1 : Int32) (a2 : Int32)  : ∀ (n : Nat) (a3 : Int32) (s0 : mx_G), FR [] s0 (lX1_areAlike_2 a1 a2  n a3 s0) := by
  intro n
  induction n with
  | zero => intro a3 s0; exact fr_none
  | succ n ih2 =>
    intro a3 s0
    rw [lX1_areAlike_2]
    refine fr_if ?_ ?_
    · exact fr_some
    · refine fr_if ?_ fr_none
      refine fr_if ?_ fr_none
      refine fr_if ?_ ?_
      · exact ih2 _ _
      · exact fr_some
set_option maxRecDepth 100000 in
set_option maxHeartbeats 4000000 in
theorem fr_X1_areAlike (p1 : Int32) (p2 : Int32) (s : mx_G) : FR [] s (fX1_areAlike p1 p2 s) := by
  unfold fX1_areAlike
  exact fr_lX1_areAlike_2 _ _ FU _ _
set_option maxRecDepth 100000 in
set_option maxHeartbeats 4000000 in
theorem fr_lX1_earlier_2 (a1 : Int32)  : ∀ (n : Nat) (a2 : Int32) (s0 : mx_G), FR [] s0 (lX1_earlier_2 a1  n a2 s0) := by
  intro n
  induction n with
  | zero => intro a2 s0; exact fr_none
  | succ n ih2 =>
    intro a2 s0
    rw [lX1_earlier_2]
    refine fr_if ?_ ?_
    · exact fr_some
    · refine fr_bind (fr_X1_areAlike _ _ _) (fun _ h => absurd h List.not_mem_nil) (fun x1 s2 => ?_)
      refine fr_if ?_ ?_
      · exact ih2 _ _
      · exact fr_some
set_option maxRecDepth 100000 in
set_option maxHeartbeats 4000000 in
theorem fr_X1_earlier (p1 : Int32) (s : mx_G) : FR [] s (fX1_earlier p1 s) := by
  unfold fX1_earlier
  exact fr_lX1_earlier_2 _ FU _ _
theorem hs_32 : ∀ p ∈ [10, 11, 12, 13, 14], p ∈ [10, 11, 12, 13, 14, 34, 35] := by decide
theorem hs_33 : ∀ p ∈ [35], p ∈ [10, 11, 12, 13, 14, 34, 35] := by decide
set_option maxRecDepth 100000 in
set_option maxHeartbeats 4000000 in
theorem fr_lX1_look_20 (k50 : Int32 → Int32 → mx_G → Option (Unit × mx_G)) (hk50 : ∀ (b3 : Int32) (b4 : Int32) (sz : mx_G), FR [10, 11, 12, 13, 14, 34, 35] sz (k50 b3 b4 sz)) : ∀ (n : Nat) (a3 : Int32) (s0 : mx_G), FR [10, 11, 12, 13, 14, 34, 35] s0 (lX1_look_20  k50 n a3 s0) := by
  intro n
  induction n with
  | zero => intro a3 s0; exact fr_none
  | succ n ih20 =>
    intro a3 s0
    rw [lX1_look_20]
    refine fr_if ?_ ?_
    · exact fr_some
    · refine fr_bind (fr_X0_advance  _) hs_32 (fun x4 s5 => ?_)
      refine fr_bind (fr_X1_note _ _) hs_33 (fun _ s6 => ?_)
      refine fr_bind (fr_X1_earlier _ _) (fun _ h => absurd h List.not_mem_nil) (fun x7 s8 => ?_)
      refine fr_if ?_ ?_
      · exact ih20 _ _
      · exact hk50 _ _ _
theorem me_34 : 34 ∈ [10, 11, 12, 13, 14, 34, 35] := by decide
set_option maxRecDepth 100000 in
set_option maxHeartbeats 4000000 in
theorem fr_X1_look (s : mx_G) : FR [10, 11, 12, 13, 14, 34, 35] s (fX1_look  s) := by
  unfold fX1_look
  refine fr_gi me_34 (fun s1 => ?_)
  refine fr_gi me_34 (fun s2 => ?_)
  refine fr_bind (fr_X1_note _ _) hs_33 (fun _ s3 => ?_)
  refine fr_lX1_look_20 _ (fun y10 y11 s9 => ?_) FU _ _
  refine fr_gi me_34 (fun s12 => ?_)
  refine fr_gi me_34 (fun s13 => ?_)
  exact fr_some
theorem hs_34 : ∀ p ∈ [10, 11, 12, 13], p ∈ [10, 11, 12, 13, 14, 34, 35] := by decide
set_option maxRecDepth 100000 in
set_option maxHeartbeats 4000000 in
theorem fr_X10_foreseen (p1 : Int32) (s : mx_G) : FR [10, 11, 12, 13, 14, 34, 35] s (fX10_foreseen p1 s) := by
  unfold fX10_foreseen
  refine fr_if ?_ ?_
  · exact fr_some
  · refine fr_if ?_ ?_
    · refine fr_bind (fr_X0_load  _) hs_34 (fun _ s1 => ?_)
      refine fr_bind (fr_X1_look  _) (fun _ h => h) (fun _ s2 => ?_)
      refine fr_if ?_ ?_
      · exact fr_some
      · refine fr_if ?_ ?_
        · refine fr_if ?_ ?_
          · exact fr_some
          · exact fr_some
        · exact fr_some
    · exact fr_some
theorem me_35 : 44 ∈ [44] := by decide
set_option maxRecDepth 100000 in
set_option maxHeartbeats 4000000 in
theorem fr_lX4_nextsOf_26   : ∀ (n : Nat) (a4 : Int32) (a5 : Int32) (s0 : mx_G), FR [44] s0 (lX4_nextsOf_26   n a4 a5 s0) := by
  intro n
  induction n with
  | zero => intro a4 a5 s0; exact fr_none
  | succ n ih26 =>
    intro a4 a5 s0
    rw [lX4_nextsOf_26]
    refine fr_if ?_ ?_
    · exact fr_some
    · refine fr_if (fr_gi me_35 (fun s3 => ?_)) fr_none
      refine fr_leti (fun x4 => ?_)
      exact ih26 _ _ _
set_option maxRecDepth 100000 in
set_option maxHeartbeats 4000000 in
theorem fr_X4_nextsOf (p1 : Int32) (p2 : Int32) (s : mx_G) : FR [44] s (fX4_nextsOf p1 p2 s) := by
  unfold fX4_nextsOf
  refine fr_if ?_ ?_
  · exact fr_some
  · refine fr_if ?_ ?_
    · refine fr_if ?_ fr_none
      refine fr_leti (fun x1 => ?_)
      refine fr_leti (fun x2 => ?_)
      exact fr_lX4_nextsOf_26 FU _ _ _
    · exact fr_some
set_option maxRecDepth 100000 in
set_option maxHeartbeats 4000000 in
theorem fr_lX0_walk_1_13 (a1 : Int32) (k67 : Int32 → Int32 → Int32 → Int32 → mx_G → Option (Unit × mx_G)) (hk67 : ∀ (b3 : Int32) (b4 : Int32) (b5 : Int32) (b6 : Int32) (sz : mx_G), FR [10, 11, 12, 13] sz (k67 b3 b4 b5 b6 sz)) : ∀ (n : Nat) (a3 : Int32) (a4 : Int32) (a5 : Int32) (a6 : Int32) (s0 : mx_G), FR [10, 11, 12, 13] s0 (lX0_walk_1_13 a1 k67 n a3 a4 a5 a6 s0) := by
  intro n
  induction n with
  | zero => intro a3 a4 a5 a6 s0; exact fr_none
  | succ n ih13 =>
    intro a3 a4 a5 a6 s0
    rw [lX0_walk_1_13]
    refine fr_if ?_ ?_
    · exact hk67 _ _ _ _ _
    · refine fr_if ?_ ?_
      · exact hk67 _ _ _ _ _
      · refine fr_if ?_ fr_none
        refine fr_leti (fun x2 => ?_)
        refine fr_if ?_ ?_
        · exact fr_some
        · refine fr_if ?_ ?_
          · refine fr_leti (fun x3 => ?_)
            refine fr_leti (fun x4 => ?_)
            exact ih13 _ _ _ _ _
          · exact fr_some
set_option maxRecDepth 100000 in
set_option maxHeartbeats 4000000 in
theorem fr_X0_walk_1 (p1 : Int32) (s : mx_G) : FR [10, 11, 12, 13] s (fX0_walk_1 p1 s) := by
  unfold fX0_walk_1
  refine fr_leti (fun x1 => ?_)
  refine fr_lX0_walk_1_13 _ _ (fun y6 y7 y8 y9 s5 => ?_) FU _ _ _ _ _
  refine fr_if ?_ ?_
  · refine fr_if (fr_gi me_15 (fun s10 => ?_)) fr_none
    refine fr_if (fr_gi me_16 (fun s11 => ?_)) fr_none
    refine fr_if ?_ fr_none
    refine fr_if (fr_gi me_17 (fun s12 => ?_)) fr_none
    refine fr_if (fr_gi me_18 (fun s13 => ?_)) fr_none
    exact fr_some
  · exact fr_some
set_option maxRecDepth 100000 in
set_option maxHeartbeats 4000000 in
theorem fr_lX0_follow_1_8 (a2 : Int32)  : ∀ (n : Nat) (a3 : Int32) (s0 : mx_G), FR [10, 11, 12, 13] s0 (lX0_follow_1_8 a2  n a3 s0) := by
  intro n
  induction n with
  | zero => intro a3 s0; exact fr_none
  | succ n ih8 =>
    intro a3 s0
    rw [lX0_follow_1_8]
    refine fr_if ?_ ?_
    · exact fr_some
    · refine fr_bind (fr_X0_putNone _ _) (fun _ h => h) (fun _ s2 => ?_)
      refine fr_if ?_ ?_
      · exact ih8 _ _
      · refine fr_bind (fr_X0_walk_1 _ _) (fun _ h => h) (fun _ s3 => ?_)
        exact ih8 _ _
set_option maxRecDepth 100000 in
set_option maxHeartbeats 4000000 in
theorem fr_X0_follow_1 (p2 : Int32) (s : mx_G) : FR [10, 11, 12, 13] s (fX0_follow_1 p2 s) := by
  unfold fX0_follow_1
  refine fr_bind (fr_X0_put _ _ _) (fun _ h => h) (fun _ s1 => ?_)
  exact fr_lX0_follow_1_8 _ FU _ _
theorem hs_35 : ∀ p ∈ [10, 11, 12, 13, 15, 16, 17, 18, 19, 20, 21, 22, 23, 24, 31, 32, 33], p ∈ [10, 11, 12, 13, 15, 16, 17, 18, 19, 20, 21, 22, 23, 24, 31, 32, 33, 44] := by decide
theorem hs_36 : ∀ p ∈ [44], p ∈ [10, 11, 12, 13, 15, 16, 17, 18, 19, 20, 21, 22, 23, 24, 31, 32, 33, 44] := by decide
theorem hs_37 : ∀ p ∈ [10, 11, 12, 13], p ∈ [10, 11, 12, 13, 15, 16, 17, 18, 19, 20, 21, 22, 23, 24, 31, 32, 33, 44] := by decide
set_option maxRecDepth 100000 in
set_option maxHeartbeats 4000000 in
theorem fr_X10_stable (p1 : Int32) (p2 : Int32) (s : mx_G) : FR [10, 11, 12, 13, 15, 16, 17, 18, 19, 20, 21, 22, 23, 24, 31, 32, 33, 44] s (fX10_stable p1 p2 s) := by
  unfold fX10_stable
  refine fr_if ?_ ?_
  · exact fr_some
  · refine fr_bind (fr_X9_isDomain _ _) (fun _ h => absurd h List.not_mem_nil) (fun x1 s2 => ?_)
    refine fr_if ?_ ?_
    · exact fr_some
    · refine fr_bind (fr_X10_stableOnes  _) hs_35 (fun x3 s4 => ?_)
      refine fr_if ?_ ?_
      · refine fr_bind (fr_X9_size  _) (fun _ h => absurd h List.not_mem_nil) (fun x5 s6 => ?_)
        refine fr_bind (fr_X4_nextsOf _ _ _) hs_36 (fun _ s7 => ?_)
        refine fr_bind (fr_X9_size  _) (fun _ h => absurd h List.not_mem_nil) (fun x8 s9 => ?_)
        refine fr_bind (fr_X0_follow_1 _ _) hs_37 (fun _ s10 => ?_)
        refine fr_bind (fr_X0_wayOf _ _) (fun _ h => absurd h List.not_mem_nil) (fun x11 s12 => ?_)
        exact fr_some
      · exact fr_some
theorem me_36 : 26 ∈ [26] := by decide
set_option maxRecDepth 100000 in
set_option maxHeartbeats 4000000 in
theorem fr_lJA_fillL_6 (a1 : Int64) (a4 : Int32)  : ∀ (n : Nat) (a3 : Int32) (s0 : mx_G), FR [26] s0 (lJA_fillL_6 a1 a4  n a3 s0) := by
  intro n
  induction n with
  | zero => intro a3 s0; exact fr_none
  | succ n ih6 =>
    intro a3 s0
    rw [lJA_fillL_6]
    refine fr_if ?_ ?_
    · exact fr_some
    · refine fr_if (fr_gl me_36 (fun s1 => ?_)) fr_none
      exact ih6 _ _
set_option maxRecDepth 100000 in
set_option maxHeartbeats 4000000 in
theorem fr_JA_fillL (p1 : Int64) (s : mx_G) : FR [26] s (fJA_fillL p1 s) := by
  unfold fJA_fillL
  exact fr_lJA_fillL_6 _ _ FU _ _
theorem me_37 : 27 ∈ [27] := by decide
set_option maxRecDepth 100000 in
set_option maxHeartbeats 4000000 in
theorem fr_lJA_fillL_1_6 (a1 : Int64) (a4 : Int32)  : ∀ (n : Nat) (a3 : Int32) (s0 : mx_G), FR [27] s0 (lJA_fillL_1_6 a1 a4  n a3 s0) := by
  intro n
  induction n with
  | zero => intro a3 s0; exact fr_none
  | succ n ih6 =>
    intro a3 s0
    rw [lJA_fillL_1_6]
    refine fr_if ?_ ?_
    · exact fr_some
    · refine fr_if (fr_gl me_37 (fun s1 => ?_)) fr_none
      exact ih6 _ _
set_option maxRecDepth 100000 in
set_option maxHeartbeats 4000000 in
theorem fr_JA_fillL_1 (p1 : Int64) (s : mx_G) : FR [27] s (fJA_fillL_1 p1 s) := by
  unfold fJA_fillL_1
  exact fr_lJA_fillL_1_6 _ _ FU _ _
set_option maxRecDepth 100000 in
set_option maxHeartbeats 4000000 in
theorem fr_X8_tailOf (p1 : Int32) (s : mx_G) : FR [] s (fX8_tailOf p1 s) := by
  unfold fX8_tailOf
  refine fr_if ?_ fr_none
  exact fr_some
set_option maxRecDepth 100000 in
set_option maxHeartbeats 4000000 in
theorem fr_X8_ownerOf (p1 : Int32) (s : mx_G) : FR [] s (fX8_ownerOf p1 s) := by
  unfold fX8_ownerOf
  refine fr_if ?_ fr_none
  exact fr_some
set_option maxRecDepth 100000 in
set_option maxHeartbeats 4000000 in
theorem fr_X5_mark (p1 : Int32) (p2 : Int32) (s : mx_G) : FR [26] s (fX5_mark p1 p2 s) := by
  unfold fX5_mark
  refine fr_if ?_ fr_none
  refine fr_if (fr_gl me_36 (fun s1 => ?_)) fr_none
  exact fr_some
set_option maxRecDepth 100000 in
set_option maxHeartbeats 4000000 in
theorem fr_X8_placeOf (p1 : Int32) (s : mx_G) : FR [] s (fX8_placeOf p1 s) := by
  unfold fX8_placeOf
  refine fr_if ?_ fr_none
  exact fr_some
set_option maxRecDepth 100000 in
set_option maxHeartbeats 4000000 in
theorem fr_X8_membersOf (p1 : Int32) (s : mx_G) : FR [] s (fX8_membersOf p1 s) := by
  unfold fX8_membersOf
  refine fr_if ?_ fr_none
  exact fr_some
set_option maxRecDepth 100000 in
set_option maxHeartbeats 4000000 in
theorem fr_X8_isBriefer (p1 : Int32) (p2 : Int32) (s : mx_G) : FR [] s (fX8_isBriefer p1 p2 s) := by
  unfold fX8_isBriefer
  refine fr_if ?_ fr_none
  refine fr_if ?_ fr_none
  refine fr_if ?_ ?_
  · exact fr_some
  · exact fr_some
set_option maxRecDepth 100000 in
set_option maxHeartbeats 4000000 in
theorem fr_lX5_noteLeading_32 (a3 : Int32) (a4 : Int32) (a5 : Int32) (a6 : Int32)  : ∀ (n : Nat) (a7 : Int32) (s0 : mx_G), FR [26] s0 (lX5_noteLeading_32 a3 a4 a5 a6  n a7 s0) := by
  intro n
  induction n with
  | zero => intro a7 s0; exact fr_none
  | succ n ih32 =>
    intro a7 s0
    rw [lX5_noteLeading_32]
    refine fr_bind (fr_X8_placeOf _ _) (fun _ h => absurd h List.not_mem_nil) (fun x8 s9 => ?_)
    refine fr_if ?_ ?_
    · exact fr_some
    · refine fr_bind (fr_X8_rankedAt _ _ _) (fun _ h => absurd h List.not_mem_nil) (fun x10 s11 => ?_)
      refine fr_bind (fr_X8_membersOf _ _) (fun _ h => absurd h List.not_mem_nil) (fun x12 s13 => ?_)
      refine fr_bind (fr_X8_secondOf _ _) (fun _ h => absurd h List.not_mem_nil) (fun x14 s15 => ?_)
      refine fr_bind (fr_X9_takes _ _ _ _ _) (fun _ h => absurd h List.not_mem_nil) (fun x16 s17 => ?_)
      refine fr_if ?_ ?_
      · refine fr_bind (fr_X5_mark _ _ _) (fun _ h => h) (fun _ s18 => ?_)
        exact ih32 _ _
      · refine fr_bind (fr_X8_isBriefer _ _ _) (fun _ h => absurd h List.not_mem_nil) (fun x19 s20 => ?_)
        refine fr_if ?_ ?_
        · refine fr_bind (fr_X5_mark _ _ _) (fun _ h => h) (fun _ s21 => ?_)
          exact ih32 _ _
        · exact ih32 _ _
set_option maxRecDepth 100000 in
set_option maxHeartbeats 4000000 in
theorem fr_X5_noteLeading (p3 : Int32) (s : mx_G) : FR [26] s (fX5_noteLeading p3 s) := by
  unfold fX5_noteLeading
  refine fr_bind (fr_X8_tailOf _ _) (fun _ h => absurd h List.not_mem_nil) (fun x1 s2 => ?_)
  refine fr_bind (fr_X8_ownerOf _ _) (fun _ h => absurd h List.not_mem_nil) (fun x3 s4 => ?_)
  refine fr_bind (fr_X8_ownerOf _ _) (fun _ h => absurd h List.not_mem_nil) (fun x5 s6 => ?_)
  refine fr_bind (fr_X5_mark _ _ _) (fun _ h => h) (fun _ s7 => ?_)
  exact fr_lX5_noteLeading_32 _ _ _ _ FU _ _
set_option maxRecDepth 100000 in
set_option maxHeartbeats 4000000 in
theorem fr_X5_has (p1 : Int32) (s : mx_G) : FR [] s (fX5_has p1 s) := by
  unfold fX5_has
  refine fr_if ?_ fr_none
  refine fr_if ?_ ?_
  · exact fr_some
  · exact fr_some
theorem me_38 : 28 ∈ [28] := by decide
set_option maxRecDepth 100000 in
set_option maxHeartbeats 4000000 in
theorem fr_lJA_fillL_2_6 (a1 : Int64) (a4 : Int32)  : ∀ (n : Nat) (a3 : Int32) (s0 : mx_G), FR [28] s0 (lJA_fillL_2_6 a1 a4  n a3 s0) := by
  intro n
  induction n with
  | zero => intro a3 s0; exact fr_none
  | succ n ih6 =>
    intro a3 s0
    rw [lJA_fillL_2_6]
    refine fr_if ?_ ?_
    · exact fr_some
    · refine fr_if (fr_gl me_38 (fun s1 => ?_)) fr_none
      exact ih6 _ _
set_option maxRecDepth 100000 in
set_option maxHeartbeats 4000000 in
theorem fr_JA_fillL_2 (p1 : Int64) (s : mx_G) : FR [28] s (fJA_fillL_2 p1 s) := by
  unfold fJA_fillL_2
  exact fr_lJA_fillL_2_6 _ _ FU _ _
theorem me_39 : 29 ∈ [29] := by decide
set_option maxRecDepth 100000 in
set_option maxHeartbeats 4000000 in
theorem fr_lJA_fillL_3_6 (a1 : Int64) (a4 : Int32)  : ∀ (n : Nat) (a3 : Int32) (s0 : mx_G), FR [29] s0 (lJA_fillL_3_6 a1 a4  n a3 s0) := by
  intro n
  induction n with
  | zero => intro a3 s0; exact fr_none
  | succ n ih6 =>
    intro a3 s0
    rw [lJA_fillL_3_6]
    refine fr_if ?_ ?_
    · exact fr_some
    · refine fr_if (fr_gl me_39 (fun s1 => ?_)) fr_none
      exact ih6 _ _
set_option maxRecDepth 100000 in
set_option maxHeartbeats 4000000 in
theorem fr_JA_fillL_3 (p1 : Int64) (s : mx_G) : FR [29] s (fJA_fillL_3 p1 s) := by
  unfold fJA_fillL_3
  exact fr_lJA_fillL_3_6 _ _ FU _ _
theorem me_40 : 30 ∈ [30] := by decide
set_option maxRecDepth 100000 in
set_option maxHeartbeats 4000000 in
theorem fr_lJA_fillL_4_6 (a1 : Int64) (a4 : Int32)  : ∀ (n : Nat) (a3 : Int32) (s0 : mx_G), FR [30] s0 (lJA_fillL_4_6 a1 a4  n a3 s0) := by
  intro n
  induction n with
  | zero => intro a3 s0; exact fr_none
  | succ n ih6 =>
    intro a3 s0
    rw [lJA_fillL_4_6]
    refine fr_if ?_ ?_
    · exact fr_some
    · refine fr_if (fr_gl me_40 (fun s1 => ?_)) fr_none
      exact ih6 _ _
set_option maxRecDepth 100000 in
set_option maxHeartbeats 4000000 in
theorem fr_JA_fillL_4 (p1 : Int64) (s : mx_G) : FR [30] s (fJA_fillL_4 p1 s) := by
  unfold fJA_fillL_4
  exact fr_lJA_fillL_4_6 _ _ FU _ _
set_option maxRecDepth 100000 in
set_option maxHeartbeats 4000000 in
theorem fr_JL_bitCount (p0 : Int64) (s : mx_G) : FR [] s (fJL_bitCount p0 s) := by
  unfold fJL_bitCount
  refine fr_letl (fun x1 => ?_)
  refine fr_letl (fun x2 => ?_)
  refine fr_letl (fun x3 => ?_)
  refine fr_letl (fun x4 => ?_)
  refine fr_letl (fun x5 => ?_)
  refine fr_letl (fun x6 => ?_)
  exact fr_some
set_option maxRecDepth 100000 in
set_option maxHeartbeats 4000000 in
theorem fr_lX5_join_18 (a1 : Int32) (k70 : Int64 → mx_G → Option (Int32 × mx_G)) (hk70 : ∀ (b2 : Int64) (sz : mx_G), FR [30] sz (k70 b2 sz)) : ∀ (n : Nat) (a2 : Int64) (a4 : Int32) (s0 : mx_G), FR [30] s0 (lX5_join_18 a1 k70 n a2 a4 s0) := by
  intro n
  induction n with
  | zero => intro a2 a4 s0; exact fr_none
  | succ n ih18 =>
    intro a2 a4 s0
    rw [lX5_join_18]
    refine fr_if ?_ ?_
    · exact hk70 _ _
    · refine fr_if ?_ fr_none
      refine fr_if ?_ fr_none
      refine fr_letl (fun x1 => ?_)
      refine fr_if ?_ fr_none
      refine fr_if (fr_gl me_40 (fun s2 => ?_)) fr_none
      refine fr_letl (fun x3 => ?_)
      exact ih18 _ _ _
set_option maxRecDepth 100000 in
set_option maxHeartbeats 4000000 in
theorem fr_X5_join (p1 : Int32) (s : mx_G) : FR [30] s (fX5_join p1 s) := by
  unfold fX5_join
  refine fr_if ?_ ?_
  · exact fr_some
  · refine fr_if ?_ ?_
    · refine fr_lX5_join_18 _ _ (fun y5 s4 => ?_) FU _ _ _
      refine fr_if ?_ ?_
      · exact fr_some
      · exact fr_some
    · exact fr_some
theorem hs_38 : ∀ p ∈ [30], p ∈ [28, 29, 30] := by decide
set_option maxRecDepth 100000 in
set_option maxHeartbeats 4000000 in
theorem fr_lX5_spread_26 (a1 : Int32) (k73 : mx_G → Option (Int32 × mx_G)) (hk73 : ∀ (sz : mx_G), FR [28, 29, 30] sz (k73 sz)) : ∀ (n : Nat) (a2 : Int64) (a4 : Int32) (s0 : mx_G), FR [28, 29, 30] s0 (lX5_spread_26 a1 k73 n a2 a4 s0) := by
  intro n
  induction n with
  | zero => intro a2 a4 s0; exact fr_none
  | succ n ih26 =>
    intro a2 a4 s0
    rw [lX5_spread_26]
    refine fr_if ?_ ?_
    · exact hk73 _
    · refine fr_if ?_ ?_
      · exact hk73 _
      · refine fr_letl (fun x3 => ?_)
        refine fr_bind (fr_JL_bitCount _ _) (fun _ h => absurd h List.not_mem_nil) (fun x4 s5 => ?_)
        refine fr_bind (fr_X5_join _ _) hs_38 (fun x6 s7 => ?_)
        refine fr_letl (fun x8 => ?_)
        exact ih26 _ _ _
set_option maxRecDepth 100000 in
set_option maxHeartbeats 4000000 in
theorem fr_lX5_spread_10 (k79 : mx_G → Option (Int32 × mx_G)) (hk79 : ∀ (sz : mx_G), FR [28, 29, 30] sz (k79 sz)) : ∀ (n : Nat) (a1 : Int32) (s0 : mx_G), FR [28, 29, 30] s0 (lX5_spread_10  k79 n a1 s0) := by
  intro n
  induction n with
  | zero => intro a1 s0; exact fr_none
  | succ n ih10 =>
    intro a1 s0
    rw [lX5_spread_10]
    refine fr_if ?_ ?_
    · exact hk79 _
    · refine fr_if ?_ fr_none
      refine fr_letl (fun x2 => ?_)
      refine fr_lX5_spread_26 _ _ (fun s9 => ?_) FU _ _ _
      exact ih10 _ _
theorem me_41 : 29 ∈ [28, 29, 30] := by decide
theorem me_42 : 28 ∈ [28, 29, 30] := by decide
set_option maxRecDepth 100000 in
set_option maxHeartbeats 4000000 in
theorem fr_lX5_spread_83 (k142 : Int64 → mx_G → Option (Int32 × mx_G)) (hk142 : ∀ (b1 : Int64) (sz : mx_G), FR [28, 29, 30] sz (k142 b1 sz)) : ∀ (n : Nat) (a1 : Int64) (a3 : Int32) (s0 : mx_G), FR [28, 29, 30] s0 (lX5_spread_83  k142 n a1 a3 s0) := by
  intro n
  induction n with
  | zero => intro a1 a3 s0; exact fr_none
  | succ n ih83 =>
    intro a1 a3 s0
    rw [lX5_spread_83]
    refine fr_if ?_ ?_
    · exact hk142 _ _
    · refine fr_if ?_ fr_none
      refine fr_if ?_ fr_none
      refine fr_if (fr_gl me_41 (fun s11 => ?_)) fr_none
      refine fr_if ?_ fr_none
      refine fr_if ?_ fr_none
      refine fr_if (fr_gl me_42 (fun s12 => ?_)) fr_none
      refine fr_if ?_ fr_none
      refine fr_letl (fun x13 => ?_)
      exact ih83 _ _ _
set_option maxRecDepth 100000 in
set_option maxHeartbeats 4000000 in
theorem fr_X5_spread (s : mx_G) : FR [28, 29, 30] s (fX5_spread  s) := by
  unfold fX5_spread
  refine fr_bind (fr_JA_fillL_4 _ _) hs_38 (fun _ s1 => ?_)
  refine fr_lX5_spread_10 _ (fun s10 => ?_) FU _ _
  refine fr_lX5_spread_83 _ (fun y15 s14 => ?_) FU _ _ _
  refine fr_if ?_ ?_
  · exact fr_some
  · exact fr_some
set_option maxRecDepth 100000 in
set_option maxHeartbeats 4000000 in
theorem fr_X5_has_1 (p1 : Int32) (s : mx_G) : FR [] s (fX5_has_1 p1 s) := by
  unfold fX5_has_1
  refine fr_if ?_ fr_none
  refine fr_if ?_ ?_
  · exact fr_some
  · exact fr_some
set_option maxRecDepth 100000 in
set_option maxHeartbeats 4000000 in
theorem fr_lX5_lengthThrough_36 (a1 : Int32)  : ∀ (n : Nat) (a2 : Int32) (s0 : mx_G), FR [28, 29, 30] s0 (lX5_lengthThrough_36 a1  n a2 s0) := by
  intro n
  induction n with
  | zero => intro a2 s0; exact fr_none
  | succ n ih36 =>
    intro a2 s0
    rw [lX5_lengthThrough_36]
    refine fr_if ?_ ?_
    · exact fr_some
    · refine fr_bind (fr_X5_spread  _) (fun _ h => h) (fun x4 s5 => ?_)
      refine fr_if ?_ ?_
      · exact fr_some
      · refine fr_bind (fr_X5_has_1 _ _) (fun _ h => absurd h List.not_mem_nil) (fun x6 s7 => ?_)
        refine fr_if ?_ ?_
        · exact ih36 _ _
        · exact fr_some
theorem hs_39 : ∀ p ∈ [28], p ∈ [28, 29, 30] := by decide
theorem hs_40 : ∀ p ∈ [29], p ∈ [28, 29, 30] := by decide
set_option maxRecDepth 100000 in
set_option maxHeartbeats 4000000 in
theorem fr_X5_lengthThrough (p1 : Int32) (s : mx_G) : FR [28, 29, 30] s (fX5_lengthThrough p1 s) := by
  unfold fX5_lengthThrough
  refine fr_bind (fr_JA_fillL_2 _ _) hs_39 (fun _ s1 => ?_)
  refine fr_bind (fr_JA_fillL_3 _ _) hs_40 (fun _ s2 => ?_)
  refine fr_if ?_ fr_none
  refine fr_if (fr_gl me_41 (fun s3 => ?_)) fr_none
  exact fr_lX5_lengthThrough_36 _ FU _ _
theorem me_43 : 25 ∈ [25, 28, 29, 30] := by decide
theorem hs_41 : ∀ p ∈ [28, 29, 30], p ∈ [25, 28, 29, 30] := by decide
set_option maxRecDepth 100000 in
set_option maxHeartbeats 4000000 in
theorem fr_lX5_measure_2   : ∀ (n : Nat) (a2 : Int32) (s0 : mx_G), FR [25, 28, 29, 30] s0 (lX5_measure_2   n a2 s0) := by
  intro n
  induction n with
  | zero => intro a2 s0; exact fr_none
  | succ n ih2 =>
    intro a2 s0
    rw [lX5_measure_2]
    refine fr_bind (fr_X8_countAll  _) (fun _ h => absurd h List.not_mem_nil) (fun x1 s2 => ?_)
    refine fr_if ?_ ?_
    · exact fr_some
    · refine fr_bind (fr_X5_has _ _) (fun _ h => absurd h List.not_mem_nil) (fun x3 s4 => ?_)
      refine fr_j1 ?_ (fun J30 hJ30 => ?_)
      · intro q0_30 s_30
        refine fr_if ?_ ?_
        · exact ih2 _ _
        · refine fr_gi me_43 (fun s5 => ?_)
          refine fr_j1 ?_ (fun J65 hJ65 => ?_)
          · intro q0_65 s_65
            refine fr_gi me_43 (fun s6 => ?_)
            refine fr_if ?_ ?_
            · refine fr_bind (fr_X8_numberOf _ _) (fun _ h => absurd h List.not_mem_nil) (fun x10 s11 => ?_)
              refine fr_gi me_43 (fun s12 => ?_)
              exact ih2 _ _
            · refine fr_bind (fr_X8_numberOf _ _) (fun _ h => absurd h List.not_mem_nil) (fun x7 s8 => ?_)
              refine fr_gi me_43 (fun s9 => ?_)
              exact ih2 _ _
          refine fr_if ?_ ?_
          · exact hJ65 _ _
          · exact hJ65 _ _
      refine fr_if ?_ ?_
      · exact hJ30 _ _
      · refine fr_bind (fr_X5_lengthThrough _ _) hs_41 (fun x13 s14 => ?_)
        exact hJ30 _ _
set_option maxRecDepth 100000 in
set_option maxHeartbeats 4000000 in
theorem fr_X5_measure (s : mx_G) : FR [25, 28, 29, 30] s (fX5_measure  s) := by
  unfold fX5_measure
  exact fr_lX5_measure_2 FU _ _
theorem hs_42 : ∀ p ∈ [30], p ∈ [27, 30] := by decide
theorem me_44 : 27 ∈ [27, 30] := by decide
set_option maxRecDepth 100000 in
set_option maxHeartbeats 4000000 in
theorem fr_lX5_thinOut_12 (k68 : Int32 → mx_G → Option (Int32 × mx_G)) (hk68 : ∀ (b1 : Int32) (sz : mx_G), FR [27, 30] sz (k68 b1 sz)) : ∀ (n : Nat) (a1 : Int32) (a2 : Int32) (s0 : mx_G), FR [27, 30] s0 (lX5_thinOut_12  k68 n a1 a2 s0) := by
  intro n
  induction n with
  | zero => intro a1 a2 s0; exact fr_none
  | succ n ih12 =>
    intro a1 a2 s0
    rw [lX5_thinOut_12]
    refine fr_if ?_ ?_
    · exact hk68 _ _
    · refine fr_bind (fr_X5_has _ _) (fun _ h => absurd h List.not_mem_nil) (fun x2 s3 => ?_)
      refine fr_if ?_ ?_
      · exact ih12 _ _ _
      · refine fr_bind (fr_X5_join _ _) hs_42 (fun x4 s5 => ?_)
        refine fr_if ?_ ?_
        · refine fr_if ?_ fr_none
          refine fr_if (fr_gl me_44 (fun s6 => ?_)) fr_none
          exact ih12 _ _ _
        · exact ih12 _ _ _
set_option maxRecDepth 100000 in
set_option maxHeartbeats 4000000 in
theorem fr_lX5_thinOut_70   : ∀ (n : Nat) (a1 : Int32) (a2 : Int32) (s0 : mx_G), FR [27, 30] s0 (lX5_thinOut_70   n a1 a2 s0) := by
  intro n
  induction n with
  | zero => intro a1 a2 s0; exact fr_none
  | succ n ih70 =>
    intro a1 a2 s0
    rw [lX5_thinOut_70]
    refine fr_if ?_ ?_
    · exact fr_if fr_some fr_none
    · refine fr_j1 ?_ (fun J107 hJ107 => ?_)
      · intro q0_107 s_107
        refine fr_if ?_ fr_none
        refine fr_if ?_ fr_none
        refine fr_if (fr_gl me_44 (fun s9 => ?_)) fr_none
        exact ih70 _ _ _
      refine fr_j0 ?_ (fun J102 hJ102 => ?_)
      · intro s_102
        exact hJ107 _ _
      refine fr_if ?_ ?_
      · refine fr_if ?_ fr_none
        refine fr_if ?_ fr_none
        refine fr_if ?_ ?_
        · exact hJ107 _ _
        · exact hJ102 _
      · exact hJ102 _
set_option maxRecDepth 100000 in
set_option maxHeartbeats 4000000 in
theorem fr_X5_thinOut (s : mx_G) : FR [27, 30] s (fX5_thinOut  s) := by
  unfold fX5_thinOut
  refine fr_bind (fr_JA_fillL_4 _ _) hs_42 (fun _ s1 => ?_)
  refine fr_lX5_thinOut_12 _ (fun y8 s7 => ?_) FU _ _ _
  exact fr_lX5_thinOut_70 FU _ _ _
theorem me_45 : 27 ∈ [25, 26, 27, 28, 29, 30] := by decide
theorem hs_43 : ∀ p ∈ [26], p ∈ [25, 26, 27, 28, 29, 30] := by decide
set_option maxRecDepth 100000 in
set_option maxHeartbeats 4000000 in
theorem fr_lX5_freshen_54 (k97 : mx_G → Option (Unit × mx_G)) (hk97 : ∀ (sz : mx_G), FR [25, 26, 27, 28, 29, 30] sz (k97 sz)) : ∀ (n : Nat) (a3 : Int32) (s0 : mx_G), FR [25, 26, 27, 28, 29, 30] s0 (lX5_freshen_54  k97 n a3 s0) := by
  intro n
  induction n with
  | zero => intro a3 s0; exact fr_none
  | succ n ih54 =>
    intro a3 s0
    rw [lX5_freshen_54]
    refine fr_bind (fr_X8_countAll  _) (fun _ h => absurd h List.not_mem_nil) (fun x11 s12 => ?_)
    refine fr_if ?_ ?_
    · exact hk97 _
    · refine fr_if ?_ fr_none
      refine fr_if (fr_gl me_45 (fun s13 => ?_)) fr_none
      refine fr_if ?_ ?_
      · exact ih54 _ _
      · refine fr_bind (fr_X5_noteLeading _ _) hs_43 (fun _ s14 => ?_)
        exact ih54 _ _
theorem hs_44 : ∀ p ∈ [25, 28, 29, 30], p ∈ [25, 26, 27, 28, 29, 30] := by decide
theorem hs_45 : ∀ p ∈ [27, 30], p ∈ [25, 26, 27, 28, 29, 30] := by decide
set_option maxRecDepth 100000 in
set_option maxHeartbeats 4000000 in
theorem fr_lX5_freshen_102   : ∀ (n : Nat) (a3 : Int32) (a4 : Int32) (s0 : mx_G), FR [25, 26, 27, 28, 29, 30] s0 (lX5_freshen_102   n a3 a4 s0) := by
  intro n
  induction n with
  | zero => intro a3 a4 s0; exact fr_none
  | succ n ih102 =>
    intro a3 a4 s0
    rw [lX5_freshen_102]
    refine fr_if ?_ ?_
    · refine fr_bind (fr_X5_measure  _) hs_44 (fun _ s16 => ?_)
      exact fr_some
    · refine fr_if ?_ ?_
      · refine fr_bind (fr_X5_measure  _) hs_44 (fun _ s17 => ?_)
        exact fr_some
      · refine fr_bind (fr_X5_thinOut  _) hs_45 (fun x18 s19 => ?_)
        exact ih102 _ _ _
theorem me_46 : 25 ∈ [25, 26, 27, 28, 29, 30] := by decide
theorem hs_46 : ∀ p ∈ [27], p ∈ [25, 26, 27, 28, 29, 30] := by decide
set_option maxRecDepth 100000 in
set_option maxHeartbeats 4000000 in
theorem fr_X5_freshen (s : mx_G) : FR [25, 26, 27, 28, 29, 30] s (fX5_freshen  s) := by
  unfold fX5_freshen
  refine fr_bind (fr_X8_version  _) (fun _ h => absurd h List.not_mem_nil) (fun x1 s2 => ?_)
  refine fr_if ?_ ?_
  · exact fr_some
  · refine fr_bind (fr_X8_version  _) (fun _ h => absurd h List.not_mem_nil) (fun x3 s4 => ?_)
    refine fr_gi me_46 (fun s5 => ?_)
    refine fr_gi me_46 (fun s6 => ?_)
    refine fr_gi me_46 (fun s7 => ?_)
    refine fr_gi me_46 (fun s8 => ?_)
    refine fr_bind (fr_JA_fillL _ _) hs_43 (fun _ s9 => ?_)
    refine fr_bind (fr_JA_fillL_1 _ _) hs_46 (fun _ s10 => ?_)
    refine fr_lX5_freshen_54 _ (fun s15 => ?_) FU _ _
    exact fr_lX5_freshen_102 FU _ _ _
theorem hs_47 : ∀ p ∈ [15, 16, 17, 18, 19, 20, 21, 22, 23, 24], p ∈ [15, 16, 17, 18, 19, 20, 21, 22, 23, 24, 25, 26, 27, 28, 29, 30] := by decide
theorem hs_48 : ∀ p ∈ [25, 26, 27, 28, 29, 30], p ∈ [15, 16, 17, 18, 19, 20, 21, 22, 23, 24, 25, 26, 27, 28, 29, 30] := by decide
set_option maxRecDepth 100000 in
set_option maxHeartbeats 4000000 in
theorem fr_X10_ring (p1 : Int32) (s : mx_G) : FR [15, 16, 17, 18, 19, 20, 21, 22, 23, 24, 25, 26, 27, 28, 29, 30] s (fX10_ring p1 s) := by
  unfold fX10_ring
  refine fr_if ?_ ?_
  · exact fr_some
  · refine fr_if ?_ ?_
    · refine fr_bind (fr_X8_freshen  _) hs_47 (fun _ s1 => ?_)
      refine fr_bind (fr_X5_freshen  _) hs_48 (fun _ s2 => ?_)
      refine fr_if ?_ ?_
      · refine fr_if ?_ ?_
        · exact fr_some
        · exact fr_some
      refine fr_if ?_ ?_
      · refine fr_if ?_ ?_
        · exact fr_some
        · exact fr_some
      refine fr_if ?_ ?_
      · exact fr_some
      exact fr_some
    · exact fr_some
set_option maxRecDepth 100000 in
set_option maxHeartbeats 4000000 in
theorem fr_lX8_linkInDoubt_6 (a1 : Int32) (a2 : Int32) (a3 : Int32) (k81 : Int32 → mx_G → Option (Int32 × mx_G)) (hk81 : ∀ (b4 : Int32) (sz : mx_G), FR [] sz (k81 b4 sz)) : ∀ (n : Nat) (a4 : Int32) (a5 : Int32) (s0 : mx_G), FR [] s0 (lX8_linkInDoubt_6 a1 a2 a3 k81 n a4 a5 s0) := by
  intro n
  induction n with
  | zero => intro a4 a5 s0; exact fr_none
  | succ n ih6 =>
    intro a4 a5 s0
    rw [lX8_linkInDoubt_6]
    refine fr_if ?_ fr_none
    refine fr_if ?_ ?_
    · exact hk81 _ _
    · refine fr_bind (fr_X8_rankedAt _ _ _) (fun _ h => absurd h List.not_mem_nil) (fun x1 s2 => ?_)
      refine fr_if ?_ fr_none
      refine fr_leti (fun x3 => ?_)
      refine fr_leti (fun x4 => ?_)
      refine fr_if ?_ ?_
      · refine fr_j0 ?_ (fun J64 hJ64 => ?_)
        · intro s_64
          refine fr_if ?_ ?_
          · exact fr_some
          · exact ih6 _ _ _
        refine fr_if ?_ ?_
        · exact hJ64 _
        · refine fr_bind (fr_JI_bitCount _ _) (fun _ h => absurd h List.not_mem_nil) (fun x5 s6 => ?_)
          refine fr_bind (fr_JI_bitCount _ _) (fun _ h => absurd h List.not_mem_nil) (fun x7 s8 => ?_)
          refine fr_if ?_ ?_
          · refine fr_if ?_ ?_
            · exact fr_some
            · exact ih6 _ _ _
          · exact hJ64 _
      · refine fr_if ?_ ?_
        · exact fr_some
        · exact ih6 _ _ _
set_option maxRecDepth 100000 in
set_option maxHeartbeats 4000000 in
theorem fr_X8_linkInDoubt (p1 : Int32) (p2 : Int32) (p3 : Int32) (s : mx_G) : FR [] s (fX8_linkInDoubt p1 p2 p3 s) := by
  unfold fX8_linkInDoubt
  refine fr_lX8_linkInDoubt_6 _ _ _ _ (fun y10 s9 => ?_) FU _ _ _
  refine fr_if ?_ ?_
  · exact fr_some
  · exact fr_some
set_option maxRecDepth 100000 in
set_option maxHeartbeats 4000000 in
theorem fr_X2_lasting : ∀ (m : Nat) (p1 : Int32) (p2 : Int32) (p3 : Int32) (p4 : Int32) (p5 : Int32) (s : mx_G), FR [] s (fX2_lasting m p1 p2 p3 p4 p5 s) := by
  intro m
  induction m with
  | zero => intro p1 p2 p3 p4 p5 s; exact fr_none
  | succ m hm =>
    intro p1 p2 p3 p4 p5 s
    rw [fX2_lasting]
    refine fr_bind (fr_X8_linkInDoubt _ _ _ _) (fun _ h => absurd h List.not_mem_nil) (fun x1 s2 => ?_)
    refine fr_if ?_ ?_
    · refine fr_bind (fr_X2_power _ _) (fun _ h => absurd h List.not_mem_nil) (fun x8 s9 => ?_)
      exact fr_some
    · refine fr_if ?_ ?_
      · exact fr_some
      · refine fr_if ?_ ?_
        · refine fr_j1 ?_ (fun J65 hJ65 => ?_)
          · intro q0_65 s_65
            refine fr_if ?_ ?_
            · exact fr_some
            · refine fr_bind (hm _ _ _ _ _ _) (fun _ h => h) (fun x3 s4 => ?_)
              refine fr_letl (fun x5 => ?_)
              exact fr_some
          refine fr_if ?_ ?_
          · exact hJ65 _ _
          · refine fr_bind (hm _ _ _ _ _ _) (fun _ h => h) (fun x6 s7 => ?_)
            exact hJ65 _ _
        · exact fr_some
set_option maxRecDepth 100000 in
set_option maxHeartbeats 4000000 in
theorem fr_lX2_commonDivisor_9   : ∀ (n : Nat) (a4 : Int64) (a6 : Int64) (a8 : Int32) (s0 : mx_G), FR [] s0 (lX2_commonDivisor_9   n a4 a6 a8 s0) := by
  intro n
  induction n with
  | zero => intro a4 a6 a8 s0; exact fr_none
  | succ n ih9 =>
    intro a4 a6 a8 s0
    rw [lX2_commonDivisor_9]
    refine fr_if ?_ ?_
    · exact fr_some
    · refine fr_if ?_ ?_
      · exact fr_some
      · refine fr_if fr_none ?_
        refine fr_letl (fun x1 => ?_)
        exact ih9 _ _ _ _
set_option maxRecDepth 100000 in
set_option maxHeartbeats 4000000 in
theorem fr_X2_commonDivisor (p0 : Int64) (p2 : Int64) (s : mx_G) : FR [] s (fX2_commonDivisor p0 p2 s) := by
  unfold fX2_commonDivisor
  exact fr_lX2_commonDivisor_9 FU _ _ _ _
set_option maxRecDepth 100000 in
set_option maxHeartbeats 4000000 in
theorem fr_X10_fail (p1 : Int32) (p2 : Int32) (p3 : Int32) (s : mx_G) : FR [15, 16, 17, 18, 19, 20, 21, 22, 23, 24] s (fX10_fail p1 p2 p3 s) := by
  unfold fX10_fail
  refine fr_bind (fr_X9_isDomain _ _) (fun _ h => absurd h List.not_mem_nil) (fun x1 s2 => ?_)
  refine fr_if ?_ ?_
  · exact fr_some
  · refine fr_if ?_ ?_
    · exact fr_some
    · refine fr_if ?_ ?_
      · exact fr_some
      · refine fr_if ?_ ?_
        · exact fr_some
        · refine fr_if ?_ ?_
          · refine fr_bind (fr_X8_freshen  _) (fun _ h => h) (fun _ s3 => ?_)
            refine fr_bind (fr_X2_lasting _ _ _ _ _ _ _) (fun _ h => absurd h List.not_mem_nil) (fun x4 s5 => ?_)
            refine fr_bind (fr_X2_power _ _) (fun _ h => absurd h List.not_mem_nil) (fun x6 s7 => ?_)
            refine fr_bind (fr_X2_commonDivisor _ _ _) (fun _ h => absurd h List.not_mem_nil) (fun x8 s9 => ?_)
            refine fr_if ?_ ?_
            · refine fr_if ?_ ?_
              · refine fr_if fr_none ?_
                exact fr_some
              · refine fr_if fr_none ?_
                exact fr_some
            · exact fr_some
          · exact fr_some
set_option maxRecDepth 100000 in
set_option maxHeartbeats 4000000 in
theorem fr_lX10_seen_27 (a1 : Int32) (a2 : Int32) (k63 : Int32 → mx_G → Option (Int32 × mx_G)) (hk63 : ∀ (b3 : Int32) (sz : mx_G), FR [2, 10, 11, 12, 13] sz (k63 b3 sz)) : ∀ (n : Nat) (a3 : Int32) (a4 : Int32) (s0 : mx_G), FR [2, 10, 11, 12, 13] s0 (lX10_seen_27 a1 a2 k63 n a3 a4 s0) := by
  intro n
  induction n with
  | zero => intro a3 a4 s0; exact fr_none
  | succ n ih27 =>
    intro a3 a4 s0
    rw [lX10_seen_27]
    refine fr_if ?_ ?_
    · exact hk63 _ _
    · refine fr_bind (fr_X9_setManner _ _ _) hs_28 (fun _ s5 => ?_)
      refine fr_bind (fr_X10_discontent  _) hs_27 (fun x6 s7 => ?_)
      refine fr_if ?_ ?_
      · refine fr_leti (fun x8 => ?_)
        exact ih27 _ _ _
      · exact ih27 _ _ _
set_option maxRecDepth 100000 in
set_option maxHeartbeats 4000000 in
theorem fr_X10_seen (p1 : Int32) (s : mx_G) : FR [2, 10, 11, 12, 13] s (fX10_seen p1 s) := by
  unfold fX10_seen
  refine fr_bind (fr_X9_isDomain _ _) (fun _ h => absurd h List.not_mem_nil) (fun x1 s2 => ?_)
  refine fr_if ?_ ?_
  · exact fr_some
  · refine fr_bind (fr_X9_mannerOf _ _) (fun _ h => absurd h List.not_mem_nil) (fun x3 s4 => ?_)
    refine fr_lX10_seen_27 _ _ _ (fun y10 s9 => ?_) FU _ _ _
    refine fr_bind (fr_X9_setManner _ _ _) hs_28 (fun _ s11 => ?_)
    exact fr_some
set_option maxRecDepth 100000 in
set_option maxHeartbeats 4000000 in
theorem fr_X9_draw (s : mx_G) : FR [] s (fX9_draw  s) := by
  unfold fX9_draw
  refine fr_if ?_ fr_none
  exact fr_some
set_option maxRecDepth 100000 in
set_option maxHeartbeats 4000000 in
theorem fr_X9_setDraw (p1 : Int32) (s : mx_G) : FR [2] s (fX9_setDraw p1 s) := by
  unfold fX9_setDraw
  refine fr_if (fr_gi me_2 (fun s1 => ?_)) fr_none
  exact fr_some
set_option maxRecDepth 100000 in
set_option maxHeartbeats 4000000 in
theorem fr_X10_driftPair (p1 : Int32) (p2 : Int32) (p3 : Int32) (p4 : Int32) (s : mx_G) : FR [2] s (fX10_driftPair p1 p2 p3 p4 s) := by
  unfold fX10_driftPair
  refine fr_if ?_ ?_
  · refine fr_bind (fr_X9_setLink _ _ _ _) (fun _ h => h) (fun _ s1 => ?_)
    exact fr_some
  refine fr_if ?_ ?_
  · refine fr_bind (fr_X9_sortOf _ _ _) (fun _ h => absurd h List.not_mem_nil) (fun x2 s3 => ?_)
    refine fr_if ?_ ?_
    · exact fr_some
    · refine fr_bind (fr_X9_turnCut _ _ _) (fun _ h => h) (fun _ s4 => ?_)
      exact fr_some
  refine fr_if ?_ ?_
  · refine fr_bind (fr_X9_setLiking _ _ _ _) (fun _ h => h) (fun _ s5 => ?_)
    exact fr_some
  refine fr_bind (fr_X9_barsOf _ _) (fun _ h => absurd h List.not_mem_nil) (fun x6 s7 => ?_)
  refine fr_bind (fr_X9_setBars _ _ _) (fun _ h => h) (fun _ s8 => ?_)
  exact fr_some
theorem hs_49 : ∀ p ∈ [2, 10, 11, 12, 13], p ∈ [2, 10, 11, 12, 13, 14] := by decide
set_option maxRecDepth 100000 in
set_option maxHeartbeats 4000000 in
theorem fr_X10_driftOnce (s : mx_G) : FR [2, 10, 11, 12, 13, 14] s (fX10_driftOnce  s) := by
  unfold fX10_driftOnce
  refine fr_bind (fr_X9_draw  _) (fun _ h => absurd h List.not_mem_nil) (fun x1 s2 => ?_)
  refine fr_leti (fun x3 => ?_)
  refine fr_bind (fr_X9_setDraw _ _) hs_23 (fun _ s4 => ?_)
  refine fr_bind (fr_X9_size  _) (fun _ h => absurd h List.not_mem_nil) (fun x5 s6 => ?_)
  refine fr_leti (fun x7 => ?_)
  refine fr_leti (fun x8 => ?_)
  refine fr_leti (fun x9 => ?_)
  refine fr_if fr_none ?_
  refine fr_leti (fun x10 => ?_)
  refine fr_if fr_none ?_
  refine fr_leti (fun x11 => ?_)
  refine fr_leti (fun x12 => ?_)
  refine fr_leti (fun x13 => ?_)
  refine fr_if ?_ ?_
  · refine fr_bind (fr_X9_setManner _ _ _) hs_23 (fun _ s14 => ?_)
    exact fr_some
  refine fr_if ?_ ?_
  · refine fr_if ?_ ?_
    · exact fr_some
    · refine fr_bind (fr_X10_driftPair _ _ _ _ _) hs_23 (fun _ s15 => ?_)
      exact fr_some
  refine fr_if ?_ ?_
  · refine fr_bind (fr_X10_turnAll  _) (fun _ h => h) (fun x16 s17 => ?_)
    exact fr_some
  refine fr_if ?_ ?_
  · refine fr_bind (fr_X10_turnAll  _) (fun _ h => h) (fun x18 s19 => ?_)
    exact fr_some
  refine fr_if ?_ ?_
  · refine fr_bind (fr_X10_chooseAnew _ _) hs_49 (fun x20 s21 => ?_)
    exact fr_some
  refine fr_if ?_ ?_
  · exact fr_some
  · refine fr_bind (fr_X10_driftPair _ _ _ _ _) hs_23 (fun _ s22 => ?_)
    exact fr_some
set_option maxRecDepth 100000 in
set_option maxHeartbeats 4000000 in
theorem fr_lX10_drift_15 (a1 : Int32)  : ∀ (n : Nat) (a2 : Int32) (s0 : mx_G), FR [2, 3, 4, 10, 11, 12, 13, 14] s0 (lX10_drift_15 a1  n a2 s0) := by
  intro n
  induction n with
  | zero => intro a2 s0; exact fr_none
  | succ n ih15 =>
    intro a2 s0
    rw [lX10_drift_15]
    refine fr_if ?_ ?_
    · refine fr_bind (fr_X9_choosers  _) (fun _ h => absurd h List.not_mem_nil) (fun x1 s2 => ?_)
      exact fr_some
    · refine fr_bind (fr_X3_keep  _) hs_26 (fun _ s3 => ?_)
      refine fr_bind (fr_X10_driftOnce  _) hs_25 (fun _ s4 => ?_)
      exact ih15 _ _
set_option maxRecDepth 100000 in
set_option maxHeartbeats 4000000 in
theorem fr_X10_drift (p1 : Int32) (s : mx_G) : FR [2, 3, 4, 10, 11, 12, 13, 14] s (fX10_drift p1 s) := by
  unfold fX10_drift
  refine fr_if ?_ ?_
  · exact fr_some
  · refine fr_if ?_ ?_
    · exact fr_lX10_drift_15 _ FU _ _
    · exact fr_some
theorem me_47 : 3 ∈ [2, 3] := by decide
theorem me_48 : 2 ∈ [2, 3] := by decide
set_option maxRecDepth 100000 in
set_option maxHeartbeats 4000000 in
theorem fr_X3_bringBack (s : mx_G) : FR [2, 3] s (fX3_bringBack  s) := by
  unfold fX3_bringBack
  refine fr_if ?_ ?_
  · exact fr_some
  · refine fr_gi me_47 (fun s1 => ?_)
    refine fr_gi me_47 (fun s2 => ?_)
    refine fr_if (fr_gs me_48 (fun s3 => ?_)) fr_none
    exact fr_some
set_option maxRecDepth 100000 in
set_option maxHeartbeats 4000000 in
theorem fr_X10_undo (s : mx_G) : FR [2, 3] s (fX10_undo  s) := by
  unfold fX10_undo
  refine fr_bind (fr_X3_known  _) (fun _ h => absurd h List.not_mem_nil) (fun x1 s2 => ?_)
  refine fr_if ?_ ?_
  · exact fr_some
  · refine fr_bind (fr_X3_bringBack  _) (fun _ h => h) (fun _ s3 => ?_)
    refine fr_bind (fr_X3_known  _) (fun _ h => absurd h List.not_mem_nil) (fun x4 s5 => ?_)
    exact fr_some
set_option maxRecDepth 100000 in
set_option maxHeartbeats 4000000 in
theorem fr_X10_seed (p1 : Int32) (s : mx_G) : FR [2] s (fX10_seed p1 s) := by
  unfold fX10_seed
  refine fr_if ?_ ?_
  · refine fr_bind (fr_X9_draw  _) (fun _ h => absurd h List.not_mem_nil) (fun x1 s2 => ?_)
    refine fr_bind (fr_X9_setDraw _ _) (fun _ h => h) (fun _ s3 => ?_)
    exact fr_some
  · exact fr_some
theorem me_49 : 6 ∈ [6] := by decide
set_option maxRecDepth 100000 in
set_option maxHeartbeats 4000000 in
theorem fr_X9_become (s : mx_G) : FR [6] s (fX9_become  s) := by
  unfold fX9_become
  refine fr_if (fr_gs me_49 (fun s1 => ?_)) fr_none
  exact fr_some
theorem me_50 : 8 ∈ [7, 8] := by decide
theorem me_51 : 7 ∈ [7, 8] := by decide
set_option maxRecDepth 100000 in
set_option maxHeartbeats 4000000 in
theorem fr_X3_become (s : mx_G) : FR [7, 8] s (fX3_become  s) := by
  unfold fX3_become
  refine fr_if (fr_gs me_50 (fun s1 => ?_)) fr_none
  refine fr_gi me_51 (fun s2 => ?_)
  refine fr_gi me_51 (fun s3 => ?_)
  exact fr_some
theorem hs_50 : ∀ p ∈ [6], p ∈ [0, 6, 7, 8] := by decide
theorem hs_51 : ∀ p ∈ [7, 8], p ∈ [0, 6, 7, 8] := by decide
theorem me_52 : 0 ∈ [0, 6, 7, 8] := by decide
set_option maxRecDepth 100000 in
set_option maxHeartbeats 4000000 in
theorem fr_X10_image (s : mx_G) : FR [0, 6, 7, 8] s (fX10_image  s) := by
  unfold fX10_image
  refine fr_bind (fr_X9_become  _) hs_50 (fun _ s1 => ?_)
  refine fr_bind (fr_X3_become  _) hs_51 (fun _ s2 => ?_)
  refine fr_if (fr_gi me_52 (fun s3 => ?_)) fr_none
  exact fr_some
set_option maxRecDepth 100000 in
set_option maxHeartbeats 4000000 in
theorem fr_X9_become_1 (s : mx_G) : FR [2] s (fX9_become_1  s) := by
  unfold fX9_become_1
  refine fr_if (fr_gs me_2 (fun s1 => ?_)) fr_none
  exact fr_some
set_option maxRecDepth 100000 in
set_option maxHeartbeats 4000000 in
theorem fr_X3_become_1 (s : mx_G) : FR [3, 4] s (fX3_become_1  s) := by
  unfold fX3_become_1
  refine fr_if (fr_gs me_0 (fun s1 => ?_)) fr_none
  refine fr_gi me_1 (fun s2 => ?_)
  refine fr_gi me_1 (fun s3 => ?_)
  exact fr_some
set_option maxRecDepth 100000 in
set_option maxHeartbeats 4000000 in
theorem fr_X10_restore (s : mx_G) : FR [2, 3, 4] s (fX10_restore  s) := by
  unfold fX10_restore
  refine fr_if ?_ ?_
  · exact fr_some
  · refine fr_bind (fr_X9_become_1  _) hs_1 (fun _ s1 => ?_)
    refine fr_bind (fr_X3_become_1  _) hs_0 (fun _ s2 => ?_)
    exact fr_some
set_option maxRecDepth 100000 in
set_option maxHeartbeats 4000000 in
theorem fr_X6_isSheet (p0 : Int32) (s : mx_G) : FR [] s (fX6_isSheet p0 s) := by
  unfold fX6_isSheet
  refine fr_if ?_ ?_
  · exact fr_some
  · refine fr_if ?_ ?_
    · exact fr_some
    · exact fr_some
set_option maxRecDepth 100000 in
set_option maxHeartbeats 4000000 in
theorem fr_X6_isLane (p0 : Int32) (s : mx_G) : FR [] s (fX6_isLane p0 s) := by
  unfold fX6_isLane
  refine fr_if ?_ ?_
  · exact fr_some
  · refine fr_if ?_ ?_
    · exact fr_some
    · exact fr_some
set_option maxRecDepth 100000 in
set_option maxHeartbeats 4000000 in
theorem fr_X6_isMissing (p1 : Int32) (s : mx_G) : FR [] s (fX6_isMissing p1 s) := by
  unfold fX6_isMissing
  refine fr_if ?_ fr_none
  refine fr_if ?_ ?_
  · exact fr_some
  · exact fr_some
set_option maxRecDepth 100000 in
set_option maxHeartbeats 4000000 in
theorem fr_X6_holds (p1 : Int32) (p2 : Int32) (p3 : Int32) (s : mx_G) : FR [] s (fX6_holds p1 p2 p3 s) := by
  unfold fX6_holds
  refine fr_if ?_ ?_
  · exact fr_some
  · refine fr_if ?_ ?_
    · exact fr_some
    · refine fr_if ?_ fr_none
      refine fr_if ?_ ?_
      · exact fr_some
      · refine fr_if ?_ fr_none
        refine fr_if ?_ ?_
        · exact fr_some
        · exact fr_some
set_option maxRecDepth 100000 in
set_option maxHeartbeats 4000000 in
theorem fr_X6_refusal (p1 : Int32) (p2 : Int32) (p3 : Int32) (p4 : Int32) (s : mx_G) : FR [] s (fX6_refusal p1 p2 p3 p4 s) := by
  unfold fX6_refusal
  refine fr_bind (fr_X6_isSheet _ _) (fun _ h => absurd h List.not_mem_nil) (fun x1 s2 => ?_)
  refine fr_if ?_ ?_
  · exact fr_some
  · refine fr_bind (fr_X6_isLane _ _) (fun _ h => absurd h List.not_mem_nil) (fun x3 s4 => ?_)
    refine fr_if ?_ ?_
    · exact fr_some
    · refine fr_bind (fr_X6_isMissing _ _) (fun _ h => absurd h List.not_mem_nil) (fun x5 s6 => ?_)
      refine fr_if ?_ ?_
      · refine fr_if ?_ fr_none
        refine fr_if ?_ ?_
        · refine fr_bind (fr_X6_holds _ _ _ _) (fun _ h => absurd h List.not_mem_nil) (fun x7 s8 => ?_)
          refine fr_if ?_ ?_
          · exact fr_some
          · exact fr_some
        · exact fr_some
      · exact fr_some
set_option maxRecDepth 100000 in
set_option maxHeartbeats 4000000 in
theorem fr_X6_itemAt (p1 : Int32) (p2 : Int32) (s : mx_G) : FR [] s (fX6_itemAt p1 p2 s) := by
  unfold fX6_itemAt
  refine fr_if ?_ fr_none
  exact fr_some
theorem me_53 : 44 ∈ [10, 11, 12, 13, 44] := by decide
set_option maxRecDepth 100000 in
set_option maxHeartbeats 4000000 in
theorem fr_lX10_tried_36 (a1 : Int32) (a3 : Int32) (a4 : Int32) (k103 : mx_G → Option (Int32 × mx_G)) (hk103 : ∀ (sz : mx_G), FR [10, 11, 12, 13, 44] sz (k103 sz)) : ∀ (n : Nat) (a6 : Int32) (s0 : mx_G), FR [10, 11, 12, 13, 44] s0 (lX10_tried_36 a1 a3 a4 k103 n a6 s0) := by
  intro n
  induction n with
  | zero => intro a6 s0; exact fr_none
  | succ n ih36 =>
    intro a6 s0
    rw [lX10_tried_36]
    refine fr_if ?_ ?_
    · exact hk103 _
    · refine fr_bind (fr_X6_itemAt _ _ _) (fun _ h => absurd h List.not_mem_nil) (fun x5 s6 => ?_)
      refine fr_j0 ?_ (fun J87 hJ87 => ?_)
      · intro s_87
        refine fr_if (fr_gi me_53 (fun s7 => ?_)) fr_none
        exact ih36 _ _
      refine fr_j0 ?_ (fun J75 hJ75 => ?_)
      · intro s_75
        refine fr_if ?_ ?_
        · exact hJ87 _
        · exact fr_some
      refine fr_if ?_ ?_
      · exact hJ75 _
      · refine fr_if ?_ ?_
        · exact hJ87 _
        · exact hJ75 _
theorem hs_52 : ∀ p ∈ [10, 11, 12, 13], p ∈ [10, 11, 12, 13, 44] := by decide
set_option maxRecDepth 100000 in
set_option maxHeartbeats 4000000 in
theorem fr_X10_tried (p1 : Int32) (p2 : Int32) (p3 : Int32) (s : mx_G) : FR [10, 11, 12, 13, 44] s (fX10_tried p1 p2 p3 s) := by
  unfold fX10_tried
  refine fr_bind (fr_X9_size  _) (fun _ h => absurd h List.not_mem_nil) (fun x1 s2 => ?_)
  refine fr_bind (fr_X6_refusal _ _ _ _ _) (fun _ h => absurd h List.not_mem_nil) (fun x3 s4 => ?_)
  refine fr_if ?_ ?_
  · refine fr_lX10_tried_36 _ _ _ _ (fun s8 => ?_) FU _ _
    refine fr_bind (fr_X0_follow_1 _ _) hs_52 (fun _ s9 => ?_)
    refine fr_bind (fr_X0_discontents  _) (fun _ h => absurd h List.not_mem_nil) (fun x10 s11 => ?_)
    exact fr_some
  · exact fr_some
set_option maxRecDepth 100000 in
set_option maxHeartbeats 4000000 in
theorem fr_X0_secondOf (p1 : Int32) (s : mx_G) : FR [] s (fX0_secondOf p1 s) := by
  unfold fX0_secondOf
  refine fr_if ?_ fr_none
  exact fr_some
set_option maxRecDepth 100000 in
set_option maxHeartbeats 4000000 in
theorem fr_X6_narrowed (p0 : Int32) (p1 : Int64) (s : mx_G) : FR [] s (fX6_narrowed p0 p1 s) := by
  unfold fX6_narrowed
  refine fr_if ?_ ?_
  · exact fr_some
  refine fr_if ?_ ?_
  · exact fr_some
  refine fr_if ?_ ?_
  · exact fr_some
  exact fr_some
theorem me_54 : 43 ∈ [43] := by decide
set_option maxRecDepth 100000 in
set_option maxHeartbeats 4000000 in
theorem fr_X6_setItem (p1 : Int32) (p2 : Int32) (p3 : Int64) (s : mx_G) : FR [43] s (fX6_setItem p1 p2 p3 s) := by
  unfold fX6_setItem
  refine fr_if ?_ fr_none
  refine fr_bind (fr_X6_narrowed _ _ _) (fun _ h => absurd h List.not_mem_nil) (fun x1 s2 => ?_)
  refine fr_if (fr_gl me_54 (fun s3 => ?_)) fr_none
  exact fr_some
theorem hs_53 : ∀ p ∈ [43], p ∈ [10, 11, 12, 13, 43] := by decide
set_option maxRecDepth 100000 in
set_option maxHeartbeats 4000000 in
theorem fr_lX10_film_47 (a1 : Int32) (a3 : Int32) (a4 : Int32)  : ∀ (n : Nat) (a6 : Int32) (s0 : mx_G), FR [10, 11, 12, 13, 43] s0 (lX10_film_47 a1 a3 a4  n a6 s0) := by
  intro n
  induction n with
  | zero => intro a6 s0; exact fr_none
  | succ n ih47 =>
    intro a6 s0
    rw [lX10_film_47]
    refine fr_if ?_ ?_
    · exact fr_some
    · refine fr_bind (fr_X0_secondOf _ _) (fun _ h => absurd h List.not_mem_nil) (fun x6 s7 => ?_)
      refine fr_bind (fr_X6_setItem _ _ _ _) hs_53 (fun _ s8 => ?_)
      exact ih47 _ _
theorem hs_54 : ∀ p ∈ [10, 11, 12, 13], p ∈ [10, 11, 12, 13, 43] := by decide
set_option maxRecDepth 100000 in
set_option maxHeartbeats 4000000 in
theorem fr_X10_film (p1 : Int32) (p2 : Int32) (p3 : Int32) (s : mx_G) : FR [10, 11, 12, 13, 43] s (fX10_film p1 p2 p3 s) := by
  unfold fX10_film
  refine fr_bind (fr_X9_size  _) (fun _ h => absurd h List.not_mem_nil) (fun x1 s2 => ?_)
  refine fr_bind (fr_X6_refusal _ _ _ _ _) (fun _ h => absurd h List.not_mem_nil) (fun x3 s4 => ?_)
  refine fr_if ?_ ?_
  · refine fr_bind (fr_X0_load  _) hs_54 (fun _ s5 => ?_)
    exact fr_lX10_film_47 _ _ _ FU _ _
  · exact fr_some
set_option maxRecDepth 100000 in
set_option maxHeartbeats 4000000 in
theorem fr_lJA_fillLR_10 (a2 : Int32) (a3 : Int64)  : ∀ (n : Nat) (a5 : Int32) (s0 : mx_G), FR [43] s0 (lJA_fillLR_10 a2 a3  n a5 s0) := by
  intro n
  induction n with
  | zero => intro a5 s0; exact fr_none
  | succ n ih10 =>
    intro a5 s0
    rw [lJA_fillLR_10]
    refine fr_if ?_ ?_
    · exact fr_some
    · refine fr_if (fr_gl me_54 (fun s2 => ?_)) fr_none
      exact ih10 _ _
set_option maxRecDepth 100000 in
set_option maxHeartbeats 4000000 in
theorem fr_JA_fillLR (p1 : Int32) (p2 : Int32) (p3 : Int64) (s : mx_G) : FR [43] s (fJA_fillLR p1 p2 p3 s) := by
  unfold fJA_fillLR
  refine fr_bind (fr_JA_rangeCheck _ _ _ _) (fun _ h => absurd h List.not_mem_nil) (fun _ s1 => ?_)
  exact fr_lJA_fillLR_10 _ _ FU _ _
theorem me_55 : 41 ∈ [41, 42, 43] := by decide
theorem me_56 : 42 ∈ [41, 42, 43] := by decide
theorem hs_55 : ∀ p ∈ [43], p ∈ [41, 42, 43] := by decide
set_option maxRecDepth 100000 in
set_option maxHeartbeats 4000000 in
theorem fr_X6_renew (p1 : Int32) (p2 : Int32) (p3 : Int32) (s : mx_G) : FR [41, 42, 43] s (fX6_renew p1 p2 p3 s) := by
  unfold fX6_renew
  refine fr_if (fr_gi me_55 (fun s1 => ?_)) fr_none
  refine fr_if (fr_gi me_56 (fun s2 => ?_)) fr_none
  refine fr_bind (fr_JA_fillLR _ _ _ _) hs_55 (fun _ s3 => ?_)
  exact fr_some
set_option maxRecDepth 100000 in
set_option maxHeartbeats 4000000 in
theorem fr_X10_sheet (p1 : Int32) (p2 : Int32) (p3 : Int32) (s : mx_G) : FR [41, 42, 43] s (fX10_sheet p1 p2 p3 s) := by
  unfold fX10_sheet
  refine fr_bind (fr_X6_isSheet _ _) (fun _ h => absurd h List.not_mem_nil) (fun x1 s2 => ?_)
  refine fr_if ?_ ?_
  · exact fr_some
  · refine fr_bind (fr_X6_isLane _ _) (fun _ h => absurd h List.not_mem_nil) (fun x3 s4 => ?_)
    refine fr_if ?_ ?_
    · exact fr_some
    · refine fr_if ?_ ?_
      · refine fr_if ?_ ?_
        · refine fr_bind (fr_X6_renew _ _ _ _) (fun _ h => h) (fun _ s5 => ?_)
          exact fr_some
        · exact fr_some
      · exact fr_some
set_option maxRecDepth 100000 in
set_option maxHeartbeats 4000000 in
theorem fr_X6_lengthOf (p1 : Int32) (s : mx_G) : FR [] s (fX6_lengthOf p1 s) := by
  unfold fX6_lengthOf
  refine fr_if ?_ fr_none
  exact fr_some
theorem me_57 : 41 ∈ [41, 42] := by decide
theorem me_58 : 42 ∈ [41, 42] := by decide
set_option maxRecDepth 100000 in
set_option maxHeartbeats 4000000 in
theorem fr_X6_lose (p1 : Int32) (s : mx_G) : FR [41, 42] s (fX6_lose p1 s) := by
  unfold fX6_lose
  refine fr_if (fr_gi me_57 (fun s1 => ?_)) fr_none
  refine fr_if (fr_gi me_58 (fun s2 => ?_)) fr_none
  exact fr_some
set_option maxRecDepth 100000 in
set_option maxHeartbeats 4000000 in
theorem fr_X10_drop (p1 : Int32) (s : mx_G) : FR [41, 42] s (fX10_drop p1 s) := by
  unfold fX10_drop
  refine fr_bind (fr_X6_isSheet _ _) (fun _ h => absurd h List.not_mem_nil) (fun x1 s2 => ?_)
  refine fr_if ?_ ?_
  · exact fr_some
  · refine fr_bind (fr_X6_isMissing _ _) (fun _ h => absurd h List.not_mem_nil) (fun x3 s4 => ?_)
    refine fr_if ?_ ?_
    · refine fr_bind (fr_X6_lengthOf _ _) (fun _ h => absurd h List.not_mem_nil) (fun x5 s6 => ?_)
      refine fr_bind (fr_X6_lose _ _) (fun _ h => h) (fun _ s7 => ?_)
      exact fr_some
    · exact fr_some
set_option maxRecDepth 100000 in
set_option maxHeartbeats 4000000 in
theorem fr_X10_item (p1 : Int32) (p2 : Int32) (p3 : Int32) (p4 : Int64) (s : mx_G) : FR [43] s (fX10_item p1 p2 p3 p4 s) := by
  unfold fX10_item
  refine fr_bind (fr_X6_refusal _ _ _ _ _) (fun _ h => absurd h List.not_mem_nil) (fun x1 s2 => ?_)
  refine fr_if ?_ ?_
  · refine fr_bind (fr_X6_setItem _ _ _ _) (fun _ h => h) (fun _ s3 => ?_)
    exact fr_some
  · exact fr_some
set_option maxRecDepth 100000 in
set_option maxHeartbeats 4000000 in
theorem fr_X6_laneOf (p1 : Int32) (s : mx_G) : FR [] s (fX6_laneOf p1 s) := by
  unfold fX6_laneOf
  refine fr_if ?_ fr_none
  exact fr_some
set_option maxRecDepth 100000 in
set_option maxHeartbeats 4000000 in
theorem fr_X6_move (p1 : Int32) (p2 : Int32) (p3 : Int32) (p4 : Int32) (p5 : Int32) (s : mx_G) : FR [43] s (fX6_move p1 p2 p3 p4 p5 s) := by
  unfold fX6_move
  refine fr_if (fr_gt me_54 (fun s1 => ?_)) fr_none
  exact fr_some
set_option maxRecDepth 100000 in
set_option maxHeartbeats 4000000 in
theorem fr_X10_copy (p1 : Int32) (p2 : Int32) (p3 : Int32) (p4 : Int32) (p5 : Int32) (s : mx_G) : FR [43] s (fX10_copy p1 p2 p3 p4 p5 s) := by
  unfold fX10_copy
  refine fr_bind (fr_X6_isSheet _ _) (fun _ h => absurd h List.not_mem_nil) (fun x1 s2 => ?_)
  refine fr_if ?_ ?_
  · exact fr_some
  · refine fr_bind (fr_X6_isSheet _ _) (fun _ h => absurd h List.not_mem_nil) (fun x3 s4 => ?_)
    refine fr_if ?_ ?_
    · exact fr_some
    · refine fr_bind (fr_X6_isMissing _ _) (fun _ h => absurd h List.not_mem_nil) (fun x5 s6 => ?_)
      refine fr_if ?_ ?_
      · refine fr_bind (fr_X6_isMissing _ _) (fun _ h => absurd h List.not_mem_nil) (fun x7 s8 => ?_)
        refine fr_if ?_ ?_
        · refine fr_bind (fr_X6_laneOf _ _) (fun _ h => absurd h List.not_mem_nil) (fun x9 s10 => ?_)
          refine fr_bind (fr_X6_laneOf _ _) (fun _ h => absurd h List.not_mem_nil) (fun x11 s12 => ?_)
          refine fr_if ?_ ?_
          · refine fr_bind (fr_X6_holds _ _ _ _) (fun _ h => absurd h List.not_mem_nil) (fun x13 s14 => ?_)
            refine fr_if ?_ ?_
            · exact fr_some
            · refine fr_bind (fr_X6_holds _ _ _ _) (fun _ h => absurd h List.not_mem_nil) (fun x15 s16 => ?_)
              refine fr_if ?_ ?_
              · exact fr_some
              · refine fr_bind (fr_X6_move _ _ _ _ _ _) (fun _ h => h) (fun _ s17 => ?_)
                exact fr_some
          · exact fr_some
        · exact fr_some
      · exact fr_some
set_option maxRecDepth 100000 in
set_option maxHeartbeats 4000000 in
theorem fr_X11_in (p0 : Int64) (p2 : Int64) (p4 : Int64) (s : mx_G) : FR [] s (fX11_in p0 p2 p4 s) := by
  unfold fX11_in
  refine fr_if ?_ ?_
  · exact fr_some
  · refine fr_if ?_ ?_
    · exact fr_some
    · exact fr_some
set_option maxRecDepth 100000 in
set_option maxHeartbeats 4000000 in
theorem fr_X11_isDomain (p1 : Int32) (s : mx_G) : FR [] s (fX11_isDomain p1 s) := by
  unfold fX11_isDomain
  refine fr_if ?_ fr_none
  refine fr_bind (fr_X11_in _ _ _ _) (fun _ h => absurd h List.not_mem_nil) (fun x1 s2 => ?_)
  exact fr_if fr_some fr_none
set_option maxRecDepth 100000 in
set_option maxHeartbeats 4000000 in
theorem fr_X11_areTwo (p1 : Int32) (p2 : Int32) (s : mx_G) : FR [] s (fX11_areTwo p1 p2 s) := by
  unfold fX11_areTwo
  refine fr_bind (fr_X11_isDomain _ _) (fun _ h => absurd h List.not_mem_nil) (fun x1 s2 => ?_)
  refine fr_if ?_ ?_
  · exact fr_some
  · refine fr_bind (fr_X11_isDomain _ _) (fun _ h => absurd h List.not_mem_nil) (fun x3 s4 => ?_)
    refine fr_if ?_ ?_
    · exact fr_some
    · refine fr_if ?_ ?_
      · exact fr_some
      · exact fr_some
set_option maxRecDepth 100000 in
set_option maxHeartbeats 4000000 in
theorem fr_X11_pair (p0 : Int32) (p1 : Int32) (s : mx_G) : FR [] s (fX11_pair p0 p1 s) := by
  unfold fX11_pair
  exact fr_some
theorem me_59 : 47 ∈ [47] := by decide
set_option maxRecDepth 100000 in
set_option maxHeartbeats 4000000 in
theorem fr_lX11_bring_3 (a1 : Int32) (a3 : Int32) (a4 : Int32)  : ∀ (n : Nat) (a5 : Int32) (s0 : mx_G), FR [47] s0 (lX11_bring_3 a1 a3 a4  n a5 s0) := by
  intro n
  induction n with
  | zero => intro a5 s0; exact fr_none
  | succ n ih3 =>
    intro a5 s0
    rw [lX11_bring_3]
    refine fr_if ?_ ?_
    · exact fr_some
    · refine fr_if ?_ fr_none
      refine fr_if (fr_gi me_59 (fun s1 => ?_)) fr_none
      exact ih3 _ _
set_option maxRecDepth 100000 in
set_option maxHeartbeats 4000000 in
theorem fr_X11_bring (p1 : Int32) (p3 : Int32) (p4 : Int32) (s : mx_G) : FR [47] s (fX11_bring p1 p3 p4 s) := by
  unfold fX11_bring
  exact fr_lX11_bring_3 _ _ _ FU _ _
set_option maxRecDepth 100000 in
set_option maxHeartbeats 4000000 in
theorem fr_lX11_bring_1_3 (a1 : Int32) (a3 : Int32) (a4 : Int32)  : ∀ (n : Nat) (a5 : Int32) (s0 : mx_G), FR [47] s0 (lX11_bring_1_3 a1 a3 a4  n a5 s0) := by
  intro n
  induction n with
  | zero => intro a5 s0; exact fr_none
  | succ n ih3 =>
    intro a5 s0
    rw [lX11_bring_1_3]
    refine fr_if ?_ ?_
    · exact fr_some
    · refine fr_if ?_ fr_none
      refine fr_if (fr_gi me_59 (fun s1 => ?_)) fr_none
      exact ih3 _ _
set_option maxRecDepth 100000 in
set_option maxHeartbeats 4000000 in
theorem fr_X11_bring_1 (p1 : Int32) (p3 : Int32) (p4 : Int32) (s : mx_G) : FR [47] s (fX11_bring_1 p1 p3 p4 s) := by
  unfold fX11_bring_1
  exact fr_lX11_bring_1_3 _ _ _ FU _ _
theorem hs_56 : ∀ p ∈ [47], p ∈ [45, 47] := by decide
theorem me_60 : 45 ∈ [45, 47] := by decide
set_option maxRecDepth 100000 in
set_option maxHeartbeats 4000000 in
theorem fr_X11_notes (s : mx_G) : FR [45, 47] s (fX11_notes  s) := by
  unfold fX11_notes
  refine fr_j0 ?_ (fun J37 hJ37 => ?_)
  · intro s_37
    refine fr_bind (fr_X11_bring _ _ _ _) hs_56 (fun _ s1 => ?_)
    refine fr_gi me_60 (fun s2 => ?_)
    exact fr_some
  refine fr_if ?_ ?_
  · refine fr_bind (fr_X11_bring_1 _ _ _ _) hs_56 (fun _ s3 => ?_)
    refine fr_gi me_60 (fun s4 => ?_)
    exact hJ37 _
  · exact hJ37 _
theorem me_61 : 46 ∈ [46] := by decide
set_option maxRecDepth 100000 in
set_option maxHeartbeats 4000000 in
theorem fr_X11_links (p1 : Int32) (p2 : Int32) (p3 : Int32) (p4 : Int32) (s : mx_G) : FR [46] s (fX11_links p1 p2 p3 p4 s) := by
  unfold fX11_links
  refine fr_bind (fr_X11_pair _ _ _) (fun _ h => absurd h List.not_mem_nil) (fun x1 s2 => ?_)
  refine fr_if (fr_gi me_61 (fun s3 => ?_)) fr_none
  refine fr_bind (fr_X11_pair _ _ _) (fun _ h => absurd h List.not_mem_nil) (fun x4 s5 => ?_)
  refine fr_j2 ?_ (fun J35 hJ35 => ?_)
  · intro q0_35 q1_35 s_35
    refine fr_if (fr_gi me_61 (fun s6 => ?_)) fr_none
    refine fr_bind (fr_X11_pair _ _ _) (fun _ h => absurd h List.not_mem_nil) (fun x7 s8 => ?_)
    refine fr_if (fr_gi me_61 (fun s9 => ?_)) fr_none
    refine fr_bind (fr_X11_pair _ _ _) (fun _ h => absurd h List.not_mem_nil) (fun x10 s11 => ?_)
    refine fr_if (fr_gi me_61 (fun s12 => ?_)) fr_none
    exact fr_some
  refine fr_if ?_ ?_
  · exact hJ35 _ _ _
  · exact hJ35 _ _ _
theorem hs_57 : ∀ p ∈ [45, 47], p ∈ [45, 46, 47] := by decide
theorem hs_58 : ∀ p ∈ [46], p ∈ [45, 46, 47] := by decide
set_option maxRecDepth 100000 in
set_option maxHeartbeats 4000000 in
theorem fr_X11_link (p1 : Int32) (p2 : Int32) (p3 : Int32) (s : mx_G) : FR [45, 46, 47] s (fX11_link p1 p2 p3 s) := by
  unfold fX11_link
  refine fr_bind (fr_X11_areTwo _ _ _) (fun _ h => absurd h List.not_mem_nil) (fun x1 s2 => ?_)
  refine fr_if ?_ ?_
  · exact fr_some
  · refine fr_bind (fr_X11_in _ _ _ _) (fun _ h => absurd h List.not_mem_nil) (fun x3 s4 => ?_)
    refine fr_if ?_ ?_
    · exact fr_some
    · refine fr_bind (fr_X11_pair _ _ _) (fun _ h => absurd h List.not_mem_nil) (fun x5 s6 => ?_)
      refine fr_if ?_ fr_none
      refine fr_leti (fun x7 => ?_)
      refine fr_j0 ?_ (fun J62 hJ62 => ?_)
      · intro s_62
        refine fr_bind (fr_X11_notes  _) hs_57 (fun _ s8 => ?_)
        refine fr_bind (fr_X11_links _ _ _ _ _) hs_58 (fun _ s9 => ?_)
        exact fr_some
      refine fr_if ?_ ?_
      · refine fr_bind (fr_X11_pair _ _ _) (fun _ h => absurd h List.not_mem_nil) (fun x10 s11 => ?_)
        refine fr_if ?_ fr_none
        refine fr_if ?_ ?_
        · exact fr_some
        · exact hJ62 _
      · exact hJ62 _
set_option maxRecDepth 100000 in
set_option maxHeartbeats 4000000 in
theorem fr_X11_cut (p1 : Int32) (p2 : Int32) (s : mx_G) : FR [45, 46, 47] s (fX11_cut p1 p2 s) := by
  unfold fX11_cut
  refine fr_bind (fr_X11_areTwo _ _ _) (fun _ h => absurd h List.not_mem_nil) (fun x1 s2 => ?_)
  refine fr_if ?_ ?_
  · exact fr_some
  · refine fr_bind (fr_X11_pair _ _ _) (fun _ h => absurd h List.not_mem_nil) (fun x3 s4 => ?_)
    refine fr_if ?_ fr_none
    refine fr_leti (fun x5 => ?_)
    refine fr_if ?_ ?_
    · exact fr_some
    · refine fr_bind (fr_X11_notes  _) hs_57 (fun _ s6 => ?_)
      refine fr_bind (fr_X11_pair _ _ _) (fun _ h => absurd h List.not_mem_nil) (fun x7 s8 => ?_)
      refine fr_if ?_ fr_none
      refine fr_bind (fr_X11_links _ _ _ _ _) hs_58 (fun _ s9 => ?_)
      refine fr_bind (fr_X11_pair _ _ _) (fun _ h => absurd h List.not_mem_nil) (fun x10 s11 => ?_)
      refine fr_if ?_ fr_none
      exact fr_some
theorem me_62 : 46 ∈ [45, 46, 47] := by decide
set_option maxRecDepth 100000 in
set_option maxHeartbeats 4000000 in
theorem fr_X11_becomes (p1 : Int32) (p2 : Int32) (s : mx_G) : FR [45, 46, 47] s (fX11_becomes p1 p2 s) := by
  unfold fX11_becomes
  refine fr_if ?_ fr_none
  refine fr_leti (fun x1 => ?_)
  refine fr_if ?_ ?_
  · exact fr_some
  · refine fr_bind (fr_X11_notes  _) hs_57 (fun _ s2 => ?_)
    refine fr_if (fr_gi me_62 (fun s3 => ?_)) fr_none
    exact fr_some
set_option maxRecDepth 100000 in
set_option maxHeartbeats 4000000 in
theorem fr_X11_like (p1 : Int32) (p2 : Int32) (p3 : Int32) (s : mx_G) : FR [45, 46, 47] s (fX11_like p1 p2 p3 s) := by
  unfold fX11_like
  refine fr_bind (fr_X11_areTwo _ _ _) (fun _ h => absurd h List.not_mem_nil) (fun x1 s2 => ?_)
  refine fr_if ?_ ?_
  · exact fr_some
  · refine fr_bind (fr_X11_in _ _ _ _) (fun _ h => absurd h List.not_mem_nil) (fun x3 s4 => ?_)
    refine fr_if ?_ ?_
    · exact fr_some
    · refine fr_bind (fr_X11_pair _ _ _) (fun _ h => absurd h List.not_mem_nil) (fun x5 s6 => ?_)
      refine fr_bind (fr_X11_becomes _ _ _) (fun _ h => h) (fun x7 s8 => ?_)
      exact fr_some
set_option maxRecDepth 100000 in
set_option maxHeartbeats 4000000 in
theorem fr_X11_manner (p1 : Int32) (p2 : Int32) (s : mx_G) : FR [45, 46, 47] s (fX11_manner p1 p2 s) := by
  unfold fX11_manner
  refine fr_bind (fr_X11_isDomain _ _) (fun _ h => absurd h List.not_mem_nil) (fun x1 s2 => ?_)
  refine fr_if ?_ ?_
  · exact fr_some
  · refine fr_bind (fr_X11_in _ _ _ _) (fun _ h => absurd h List.not_mem_nil) (fun x3 s4 => ?_)
    refine fr_if ?_ ?_
    · exact fr_some
    · refine fr_bind (fr_X11_becomes _ _ _) (fun _ h => h) (fun x5 s6 => ?_)
      exact fr_some
set_option maxRecDepth 100000 in
set_option maxHeartbeats 4000000 in
theorem fr_X11_has (p0 : Int32) (p1 : Int32) (s : mx_G) : FR [] s (fX11_has p0 p1 s) := by
  unfold fX11_has
  refine fr_if ?_ ?_
  · exact fr_some
  · exact fr_some
set_option maxRecDepth 100000 in
set_option maxHeartbeats 4000000 in
theorem fr_X11_bar (p1 : Int32) (p2 : Int32) (s : mx_G) : FR [45, 46, 47] s (fX11_bar p1 p2 s) := by
  unfold fX11_bar
  refine fr_bind (fr_X11_isDomain _ _) (fun _ h => absurd h List.not_mem_nil) (fun x1 s2 => ?_)
  refine fr_j1 ?_ (fun J41 hJ41 => ?_)
  · intro q0_41 s_41
    refine fr_if ?_ ?_
    · exact fr_some
    · refine fr_bind (fr_X11_becomes _ _ _) (fun _ h => h) (fun x3 s4 => ?_)
      exact fr_some
  refine fr_j0 ?_ (fun J40 hJ40 => ?_)
  · intro s_40
    exact hJ41 _ _
  refine fr_if ?_ ?_
  · exact hJ40 _
  · refine fr_if ?_ fr_none
    refine fr_bind (fr_X11_in _ _ _ _) (fun _ h => absurd h List.not_mem_nil) (fun x5 s6 => ?_)
    refine fr_if ?_ ?_
    · exact hJ40 _
    · refine fr_bind (fr_X11_has _ _ _) (fun _ h => absurd h List.not_mem_nil) (fun x7 s8 => ?_)
      refine fr_if ?_ ?_
      · exact hJ41 _ _
      · exact hJ40 _
set_option maxRecDepth 100000 in
set_option maxHeartbeats 4000000 in
theorem fr_lX11_domains_53 (a1 : Int32) (a2 : Int32) (a3 : Int32) (k121 : mx_G → Option (Int32 × mx_G)) (hk121 : ∀ (sz : mx_G), FR [45, 46, 47] sz (k121 sz)) : ∀ (n : Nat) (a4 : Int32) (s0 : mx_G), FR [45, 46, 47] s0 (lX11_domains_53 a1 a2 a3 k121 n a4 s0) := by
  intro n
  induction n with
  | zero => intro a4 s0; exact fr_none
  | succ n ih53 =>
    intro a4 s0
    rw [lX11_domains_53]
    refine fr_if ?_ ?_
    · exact hk121 _
    · refine fr_j0 ?_ (fun J71 hJ71 => ?_)
      · intro s_71
        refine fr_bind (fr_X11_pair _ _ _) (fun _ h => absurd h List.not_mem_nil) (fun x6 s7 => ?_)
        refine fr_if (fr_gi me_62 (fun s8 => ?_)) fr_none
        refine fr_bind (fr_X11_pair _ _ _) (fun _ h => absurd h List.not_mem_nil) (fun x9 s10 => ?_)
        refine fr_if (fr_gi me_62 (fun s11 => ?_)) fr_none
        refine fr_bind (fr_X11_pair _ _ _) (fun _ h => absurd h List.not_mem_nil) (fun x12 s13 => ?_)
        refine fr_if (fr_gi me_62 (fun s14 => ?_)) fr_none
        exact ih53 _ _
      refine fr_if ?_ ?_
      · exact hJ71 _
      · refine fr_if ?_ ?_
        · exact ih53 _ _
        · exact hJ71 _
set_option maxRecDepth 100000 in
set_option maxHeartbeats 4000000 in
theorem fr_lX11_domains_44 (a1 : Int32) (a2 : Int32)  : ∀ (n : Nat) (a3 : Int32) (s0 : mx_G), FR [45, 46, 47] s0 (lX11_domains_44 a1 a2  n a3 s0) := by
  intro n
  induction n with
  | zero => intro a3 s0; exact fr_none
  | succ n ih44 =>
    intro a3 s0
    rw [lX11_domains_44]
    refine fr_if ?_ ?_
    · exact fr_some
    · refine fr_lX11_domains_53 _ _ _ _ (fun s15 => ?_) FU _ _
      refine fr_j2 ?_ (fun J147 hJ147 => ?_)
      · intro q0_147 q1_147 s_147
        refine fr_if (fr_gi me_62 (fun s16 => ?_)) fr_none
        refine fr_j2 ?_ (fun J180 hJ180 => ?_)
        · intro q0_180 q1_180 s_180
          refine fr_if (fr_gi me_62 (fun s17 => ?_)) fr_none
          refine fr_if ?_ ?_
          · refine fr_if (fr_gi me_62 (fun s19 => ?_)) fr_none
            exact ih44 _ _
          · refine fr_if (fr_gi me_62 (fun s18 => ?_)) fr_none
            exact ih44 _ _
        refine fr_if ?_ ?_
        · refine fr_if ?_ fr_none
          exact hJ180 _ _ _
        · exact hJ180 _ _ _
      refine fr_if ?_ ?_
      · refine fr_if ?_ fr_none
        exact hJ147 _ _ _
      · exact hJ147 _ _ _
set_option maxRecDepth 100000 in
set_option maxHeartbeats 4000000 in
theorem fr_X11_domains (p1 : Int32) (s : mx_G) : FR [45, 46, 47] s (fX11_domains p1 s) := by
  unfold fX11_domains
  refine fr_bind (fr_X11_in _ _ _ _) (fun _ h => absurd h List.not_mem_nil) (fun x1 s2 => ?_)
  refine fr_if ?_ ?_
  · exact fr_some
  · refine fr_if ?_ fr_none
    refine fr_leti (fun x3 => ?_)
    refine fr_if ?_ ?_
    · exact fr_some
    · refine fr_bind (fr_X11_notes  _) hs_57 (fun _ s4 => ?_)
      refine fr_if (fr_gi me_62 (fun s5 => ?_)) fr_none
      exact fr_lX11_domains_44 _ _ FU _ _
set_option maxRecDepth 100000 in
set_option maxHeartbeats 4000000 in
theorem fr_X11_told (p1 : Int32) (p2 : Int32) (p3 : Int32) (s : mx_G) : FR [] s (fX11_told p1 p2 p3 s) := by
  unfold fX11_told
  refine fr_bind (fr_X11_areTwo _ _ _) (fun _ h => absurd h List.not_mem_nil) (fun x1 s2 => ?_)
  refine fr_if ?_ ?_
  · exact fr_some
  · refine fr_if ?_ ?_
    · refine fr_bind (fr_X11_pair _ _ _) (fun _ h => absurd h List.not_mem_nil) (fun x3 s4 => ?_)
      refine fr_if ?_ fr_none
      exact fr_some
    refine fr_if ?_ ?_
    · refine fr_bind (fr_X11_pair _ _ _) (fun _ h => absurd h List.not_mem_nil) (fun x5 s6 => ?_)
      refine fr_if ?_ fr_none
      exact fr_some
    refine fr_if ?_ ?_
    · refine fr_bind (fr_X11_pair _ _ _) (fun _ h => absurd h List.not_mem_nil) (fun x7 s8 => ?_)
      refine fr_if ?_ fr_none
      exact fr_some
    exact fr_some
set_option maxRecDepth 100000 in
set_option maxHeartbeats 4000000 in
theorem fr_lX11_figures_7   : ∀ (n : Nat) (a1 : Int32) (a2 : Int32) (s0 : mx_G), FR [] s0 (lX11_figures_7   n a1 a2 s0) := by
  intro n
  induction n with
  | zero => intro a1 a2 s0; exact fr_none
  | succ n ih7 =>
    intro a1 a2 s0
    rw [lX11_figures_7]
    refine fr_if ?_ ?_
    · exact fr_some
    · refine fr_leti (fun x2 => ?_)
      exact ih7 _ _ _
set_option maxRecDepth 100000 in
set_option maxHeartbeats 4000000 in
theorem fr_X11_figures (p0 : Int32) (s : mx_G) : FR [] s (fX11_figures p0 s) := by
  unfold fX11_figures
  refine fr_leti (fun x1 => ?_)
  exact fr_lX11_figures_7 FU _ _ _
set_option maxRecDepth 100000 in
set_option maxHeartbeats 4000000 in
theorem fr_lX11_figure_9 (a1 : Int32)  : ∀ (n : Nat) (a2 : Int32) (a3 : Int32) (s0 : mx_G), FR [] s0 (lX11_figure_9 a1  n a2 a3 s0) := by
  intro n
  induction n with
  | zero => intro a2 a3 s0; exact fr_none
  | succ n ih9 =>
    intro a2 a3 s0
    rw [lX11_figure_9]
    refine fr_if ?_ ?_
    · exact fr_some
    · refine fr_leti (fun x4 => ?_)
      exact ih9 _ _ _
set_option maxRecDepth 100000 in
set_option maxHeartbeats 4000000 in
theorem fr_X11_figure (p0 : Int32) (p1 : Int32) (s : mx_G) : FR [] s (fX11_figure p0 p1 s) := by
  unfold fX11_figure
  refine fr_bind (fr_X11_figures _ _) (fun _ h => absurd h List.not_mem_nil) (fun x1 s2 => ?_)
  refine fr_leti (fun x3 => ?_)
  exact fr_lX11_figure_9 _ FU _ _ _
set_option maxRecDepth 100000 in
set_option maxHeartbeats 4000000 in
theorem fr_lX11_setOf_9   : ∀ (n : Nat) (a1 : Int32) (a2 : Int32) (a3 : Int32) (s0 : mx_G), FR [] s0 (lX11_setOf_9   n a1 a2 a3 s0) := by
  intro n
  induction n with
  | zero => intro a1 a2 a3 s0; exact fr_none
  | succ n ih9 =>
    intro a1 a2 a3 s0
    rw [lX11_setOf_9]
    refine fr_if ?_ ?_
    · exact fr_some
    · refine fr_leti (fun x3 => ?_)
      refine fr_leti (fun x4 => ?_)
      exact ih9 _ _ _ _
set_option maxRecDepth 100000 in
set_option maxHeartbeats 4000000 in
theorem fr_X11_setOf (p0 : Int32) (s : mx_G) : FR [] s (fX11_setOf p0 s) := by
  unfold fX11_setOf
  refine fr_bind (fr_X11_figures _ _) (fun _ h => absurd h List.not_mem_nil) (fun x1 s2 => ?_)
  exact fr_lX11_setOf_9 FU _ _ _ _
set_option maxRecDepth 100000 in
set_option maxHeartbeats 4000000 in
theorem fr_X11_areLinked (p1 : Int32) (p2 : Int32) (s : mx_G) : FR [] s (fX11_areLinked p1 p2 s) := by
  unfold fX11_areLinked
  refine fr_bind (fr_X11_pair _ _ _) (fun _ h => absurd h List.not_mem_nil) (fun x1 s2 => ?_)
  refine fr_if ?_ fr_none
  refine fr_if ?_ ?_
  · exact fr_some
  · refine fr_bind (fr_X11_pair _ _ _) (fun _ h => absurd h List.not_mem_nil) (fun x3 s4 => ?_)
    refine fr_if ?_ fr_none
    refine fr_if ?_ ?_
    · exact fr_some
    · exact fr_some
set_option maxRecDepth 100000 in
set_option maxHeartbeats 4000000 in
theorem fr_X11_second (p0 : Int32) (s : mx_G) : FR [] s (fX11_second p0 s) := by
  unfold fX11_second
  refine fr_if ?_ ?_
  · exact fr_some
  · refine fr_bind (fr_X11_figure _ _ _) (fun _ h => absurd h List.not_mem_nil) (fun x1 s2 => ?_)
    exact fr_some
set_option maxRecDepth 100000 in
set_option maxHeartbeats 4000000 in
theorem fr_X11_isCustomer (p1 : Int32) (p2 : Int32) (s : mx_G) : FR [] s (fX11_isCustomer p1 p2 s) := by
  unfold fX11_isCustomer
  refine fr_bind (fr_X11_pair _ _ _) (fun _ h => absurd h List.not_mem_nil) (fun x1 s2 => ?_)
  refine fr_if ?_ fr_none
  refine fr_if ?_ ?_
  · exact fr_some
  · exact fr_some
set_option maxRecDepth 100000 in
set_option maxHeartbeats 4000000 in
theorem fr_X11_lets (p1 : Int32) (p2 : Int32) (p3 : Int32) (s : mx_G) : FR [] s (fX11_lets p1 p2 p3 s) := by
  unfold fX11_lets
  refine fr_if ?_ fr_none
  refine fr_if ?_ ?_
  · exact fr_some
  · refine fr_bind (fr_X11_isCustomer _ _ _) (fun _ h => absurd h List.not_mem_nil) (fun x1 s2 => ?_)
    refine fr_if ?_ ?_
    · refine fr_if ?_ ?_
      · exact fr_some
      · refine fr_bind (fr_X11_isCustomer _ _ _) (fun _ h => absurd h List.not_mem_nil) (fun x3 s4 => ?_)
        refine fr_if ?_ ?_
        · exact fr_some
        · exact fr_some
    · exact fr_some
set_option maxRecDepth 100000 in
set_option maxHeartbeats 4000000 in
theorem fr_X11_takes (p1 : Int32) (p2 : Int32) (s : mx_G) : FR [] s (fX11_takes p1 p2 s) := by
  unfold fX11_takes
  refine fr_bind (fr_X11_figure _ _ _) (fun _ h => absurd h List.not_mem_nil) (fun x1 s2 => ?_)
  refine fr_bind (fr_X11_setOf _ _) (fun _ h => absurd h List.not_mem_nil) (fun x3 s4 => ?_)
  refine fr_bind (fr_X11_areLinked _ _ _) (fun _ h => absurd h List.not_mem_nil) (fun x5 s6 => ?_)
  refine fr_if ?_ ?_
  · exact fr_some
  · refine fr_bind (fr_X11_has _ _ _) (fun _ h => absurd h List.not_mem_nil) (fun x7 s8 => ?_)
    refine fr_if ?_ ?_
    · refine fr_if ?_ fr_none
      refine fr_if ?_ ?_
      · refine fr_bind (fr_X11_second _ _) (fun _ h => absurd h List.not_mem_nil) (fun x9 s10 => ?_)
        refine fr_bind (fr_X11_lets _ _ _ _) (fun _ h => absurd h List.not_mem_nil) (fun x11 s12 => ?_)
        refine fr_if ?_ ?_
        · exact fr_some
        · exact fr_some
      · exact fr_some
    · exact fr_some
set_option maxRecDepth 100000 in
set_option maxHeartbeats 4000000 in
theorem fr_lX11_ten_4 (a0 : Int32)  : ∀ (n : Nat) (a1 : Int32) (a2 : Int32) (s0 : mx_G), FR [] s0 (lX11_ten_4 a0  n a1 a2 s0) := by
  intro n
  induction n with
  | zero => intro a1 a2 s0; exact fr_none
  | succ n ih4 =>
    intro a1 a2 s0
    rw [lX11_ten_4]
    refine fr_if ?_ ?_
    · exact fr_some
    · refine fr_leti (fun x1 => ?_)
      exact ih4 _ _ _
set_option maxRecDepth 100000 in
set_option maxHeartbeats 4000000 in
theorem fr_X11_ten (p0 : Int32) (s : mx_G) : FR [] s (fX11_ten p0 s) := by
  unfold fX11_ten
  exact fr_lX11_ten_4 _ FU _ _ _
set_option maxRecDepth 100000 in
set_option maxHeartbeats 4000000 in
theorem fr_X11_together (p0 : Int32) (p1 : Int32) (s : mx_G) : FR [] s (fX11_together p0 p1 s) := by
  unfold fX11_together
  refine fr_bind (fr_X11_figures _ _) (fun _ h => absurd h List.not_mem_nil) (fun x1 s2 => ?_)
  refine fr_bind (fr_X11_ten _ _) (fun _ h => absurd h List.not_mem_nil) (fun x3 s4 => ?_)
  exact fr_some
theorem me_63 : 54 ∈ [45, 54, 55] := by decide
theorem me_64 : 55 ∈ [45, 54, 55] := by decide
theorem me_65 : 45 ∈ [45, 54, 55] := by decide
set_option maxRecDepth 100000 in
set_option maxHeartbeats 4000000 in
theorem fr_lX11_laysWays_31 (a1 : Int32) (k100 : mx_G → Option (Unit × mx_G)) (hk100 : ∀ (sz : mx_G), FR [45, 54, 55] sz (k100 sz)) : ∀ (n : Nat) (a2 : Int32) (s0 : mx_G), FR [45, 54, 55] s0 (lX11_laysWays_31 a1 k100 n a2 s0) := by
  intro n
  induction n with
  | zero => intro a2 s0; exact fr_none
  | succ n ih31 =>
    intro a2 s0
    rw [lX11_laysWays_31]
    refine fr_if ?_ fr_none
    refine fr_if ?_ ?_
    · exact hk100 _
    · refine fr_if ?_ fr_none
      refine fr_bind (fr_X11_takes _ _ _) (fun _ h => absurd h List.not_mem_nil) (fun x4 s5 => ?_)
      refine fr_if ?_ ?_
      · exact ih31 _ _
      · refine fr_if ?_ fr_none
        refine fr_bind (fr_X11_together _ _ _) (fun _ h => absurd h List.not_mem_nil) (fun x6 s7 => ?_)
        refine fr_if (fr_gi me_63 (fun s8 => ?_)) fr_none
        refine fr_if (fr_gi me_64 (fun s9 => ?_)) fr_none
        refine fr_gi me_65 (fun s10 => ?_)
        exact ih31 _ _
set_option maxRecDepth 100000 in
set_option maxHeartbeats 4000000 in
theorem fr_lX11_laysWays_21   : ∀ (n : Nat) (a1 : Int32) (s0 : mx_G), FR [45, 54, 55] s0 (lX11_laysWays_21   n a1 s0) := by
  intro n
  induction n with
  | zero => intro a1 s0; exact fr_none
  | succ n ih21 =>
    intro a1 s0
    rw [lX11_laysWays_21]
    refine fr_if ?_ ?_
    · exact fr_some
    · refine fr_lX11_laysWays_31 _ _ (fun s11 => ?_) FU _ _
      exact ih21 _ _
set_option maxRecDepth 100000 in
set_option maxHeartbeats 4000000 in
theorem fr_X11_laysWays (s : mx_G) : FR [45, 54, 55] s (fX11_laysWays  s) := by
  unfold fX11_laysWays
  refine fr_gi me_65 (fun s1 => ?_)
  refine fr_if (fr_gi me_63 (fun s2 => ?_)) fr_none
  refine fr_if (fr_gi me_64 (fun s3 => ?_)) fr_none
  exact fr_lX11_laysWays_21 FU _ _
set_option maxRecDepth 100000 in
set_option maxHeartbeats 4000000 in
theorem fr_X11_isBetter (p1 : Int32) (p2 : Int32) (p3 : Int32) (s : mx_G) : FR [] s (fX11_isBetter p1 p2 p3 s) := by
  unfold fX11_isBetter
  refine fr_bind (fr_X11_figure _ _ _) (fun _ h => absurd h List.not_mem_nil) (fun x1 s2 => ?_)
  refine fr_bind (fr_X11_figure _ _ _) (fun _ h => absurd h List.not_mem_nil) (fun x3 s4 => ?_)
  refine fr_bind (fr_X11_pair _ _ _) (fun _ h => absurd h List.not_mem_nil) (fun x5 s6 => ?_)
  refine fr_if ?_ fr_none
  refine fr_bind (fr_X11_pair _ _ _) (fun _ h => absurd h List.not_mem_nil) (fun x7 s8 => ?_)
  refine fr_if ?_ fr_none
  refine fr_leti (fun x9 => ?_)
  refine fr_if ?_ fr_none
  refine fr_j0 ?_ (fun J74 hJ74 => ?_)
  · intro s_74
    refine fr_bind (fr_X11_pair _ _ _) (fun _ h => absurd h List.not_mem_nil) (fun x10 s11 => ?_)
    refine fr_if ?_ fr_none
    refine fr_bind (fr_X11_pair _ _ _) (fun _ h => absurd h List.not_mem_nil) (fun x12 s13 => ?_)
    refine fr_if ?_ fr_none
    refine fr_leti (fun x14 => ?_)
    refine fr_if ?_ ?_
    · refine fr_bind (fr_X11_figures _ _) (fun _ h => absurd h List.not_mem_nil) (fun x15 s16 => ?_)
      refine fr_bind (fr_X11_figures _ _) (fun _ h => absurd h List.not_mem_nil) (fun x17 s18 => ?_)
      refine fr_if ?_ ?_
      · refine fr_if ?_ ?_
        · exact fr_some
        · exact fr_some
      · refine fr_bind (fr_X11_figures _ _) (fun _ h => absurd h List.not_mem_nil) (fun x19 s20 => ?_)
        refine fr_bind (fr_X11_figures _ _) (fun _ h => absurd h List.not_mem_nil) (fun x21 s22 => ?_)
        refine fr_if ?_ ?_
        · exact fr_some
        · exact fr_some
    · refine fr_if ?_ ?_
      · exact fr_some
      · exact fr_some
  refine fr_if ?_ ?_
  · refine fr_if ?_ ?_
    · exact hJ74 _
    · refine fr_if ?_ ?_
      · exact fr_some
      · exact fr_some
  · exact hJ74 _
set_option maxRecDepth 100000 in
set_option maxHeartbeats 4000000 in
theorem fr_lX11_way_34 (a1 : Int32) (a2 : Int32) (a3 : Int32) (k101 : Int32 → mx_G → Option (Int32 × mx_G)) (hk101 : ∀ (b4 : Int32) (sz : mx_G), FR [45, 54, 55] sz (k101 b4 sz)) : ∀ (n : Nat) (a4 : Int32) (a5 : Int32) (s0 : mx_G), FR [45, 54, 55] s0 (lX11_way_34 a1 a2 a3 k101 n a4 a5 s0) := by
  intro n
  induction n with
  | zero => intro a4 a5 s0; exact fr_none
  | succ n ih34 =>
    intro a4 a5 s0
    rw [lX11_way_34]
    refine fr_if ?_ ?_
    · exact hk101 _ _
    · refine fr_if ?_ ?_
      · refine fr_leti (fun x4 => ?_)
        exact ih34 _ _ _
      · refine fr_if ?_ fr_none
        refine fr_if ?_ ?_
        · refine fr_if ?_ ?_
          · refine fr_leti (fun x6 => ?_)
            exact ih34 _ _ _
          · refine fr_if ?_ fr_none
            refine fr_if ?_ fr_none
            refine fr_bind (fr_X11_isBetter _ _ _ _) (fun _ h => absurd h List.not_mem_nil) (fun x7 s8 => ?_)
            refine fr_if ?_ ?_
            · refine fr_leti (fun x9 => ?_)
              exact ih34 _ _ _
            · refine fr_leti (fun x10 => ?_)
              exact ih34 _ _ _
        · refine fr_leti (fun x5 => ?_)
          exact ih34 _ _ _
set_option maxRecDepth 100000 in
set_option maxHeartbeats 4000000 in
theorem fr_lX11_way_20 (a1 : Int32) (a2 : Int32)  : ∀ (n : Nat) (a3 : Int32) (s0 : mx_G), FR [45, 54, 55] s0 (lX11_way_20 a1 a2  n a3 s0) := by
  intro n
  induction n with
  | zero => intro a3 s0; exact fr_none
  | succ n ih20 =>
    intro a3 s0
    rw [lX11_way_20]
    refine fr_if ?_ ?_
    · exact fr_some
    · refine fr_lX11_way_34 _ _ _ _ (fun y12 s11 => ?_) FU _ _ _
      refine fr_if ?_ fr_none
      refine fr_if ?_ ?_
      · refine fr_if ?_ ?_
        · refine fr_if ?_ fr_none
          exact fr_some
        · exact ih20 _ _
      · exact ih20 _ _
set_option maxRecDepth 100000 in
set_option maxHeartbeats 4000000 in
theorem fr_X11_way (p1 : Int32) (p2 : Int32) (s : mx_G) : FR [45, 54, 55] s (fX11_way p1 p2 s) := by
  unfold fX11_way
  refine fr_bind (fr_X11_isDomain _ _) (fun _ h => absurd h List.not_mem_nil) (fun x1 s2 => ?_)
  refine fr_if ?_ ?_
  · exact fr_some
  · refine fr_if ?_ ?_
    · refine fr_bind (fr_X11_laysWays  _) (fun _ h => h) (fun _ s3 => ?_)
      exact fr_lX11_way_20 _ _ FU _ _
    · exact fr_some
set_option maxRecDepth 100000 in
set_option maxHeartbeats 4000000 in
theorem fr_lX11_isRow_35   : ∀ (n : Nat) (a2 : Int32) (a3 : Int32) (s0 : mx_G), FR [] s0 (lX11_isRow_35   n a2 a3 s0) := by
  intro n
  induction n with
  | zero => intro a2 a3 s0; exact fr_none
  | succ n ih35 =>
    intro a2 a3 s0
    rw [lX11_isRow_35]
    refine fr_if ?_ ?_
    · exact fr_if fr_some fr_none
    · refine fr_j0 ?_ (fun J60 hJ60 => ?_)
      · intro s_60
        refine fr_leti (fun x3 => ?_)
        exact ih35 _ _ _
      refine fr_if ?_ ?_
      · exact hJ60 _
      · refine fr_if ?_ fr_none
        refine fr_if ?_ ?_
        · exact hJ60 _
        · refine fr_leti (fun x4 => ?_)
          exact ih35 _ _ _
set_option maxRecDepth 100000 in
set_option maxHeartbeats 4000000 in
theorem fr_X11_isRow (p1 : Int32) (s : mx_G) : FR [] s (fX11_isRow p1 s) := by
  unfold fX11_isRow
  refine fr_bind (fr_X11_in _ _ _ _) (fun _ h => absurd h List.not_mem_nil) (fun x1 s2 => ?_)
  refine fr_j1 ?_ (fun J24 hJ24 => ?_)
  · intro q0_24 s_24
    refine fr_j1 ?_ (fun J34 hJ34 => ?_)
    · intro q0_34 s_34
      exact fr_lX11_isRow_35 FU _ _ _
    refine fr_if ?_ ?_
    · exact hJ34 _ _
    · exact hJ34 _ _
  refine fr_j0 ?_ (fun J23 hJ23 => ?_)
  · intro s_23
    exact hJ24 _ _
  refine fr_if ?_ ?_
  · exact hJ23 _
  · refine fr_if ?_ ?_
    · exact hJ24 _ _
    · exact hJ23 _
set_option maxRecDepth 100000 in
set_option maxHeartbeats 4000000 in
theorem fr_lX11_whyAt_42 (a1 : Int32) (a3 : Int32) (a4 : Int32) (a5 : Int32) (a6 : Int32) (k70 : Int32 → mx_G → Option (Int32 × mx_G)) (hk70 : ∀ (b7 : Int32) (sz : mx_G), FR [] sz (k70 b7 sz)) : ∀ (n : Nat) (a7 : Int32) (a8 : Int32) (s0 : mx_G), FR [] s0 (lX11_whyAt_42 a1 a3 a4 a5 a6 k70 n a7 a8 s0) := by
  intro n
  induction n with
  | zero => intro a7 a8 s0; exact fr_none
  | succ n ih42 =>
    intro a7 a8 s0
    rw [lX11_whyAt_42]
    refine fr_bind (fr_X11_figures _ _) (fun _ h => absurd h List.not_mem_nil) (fun x12 s13 => ?_)
    refine fr_if ?_ ?_
    · exact hk70 _ _
    · refine fr_bind (fr_X11_figure _ _ _) (fun _ h => absurd h List.not_mem_nil) (fun x14 s15 => ?_)
      refine fr_leti (fun x16 => ?_)
      exact ih42 _ _ _
set_option maxRecDepth 100000 in
set_option maxHeartbeats 4000000 in
theorem fr_X11_whyAt (p1 : Int32) (p2 : Int32) (s : mx_G) : FR [] s (fX11_whyAt p1 p2 s) := by
  unfold fX11_whyAt
  refine fr_bind (fr_X11_figure _ _ _) (fun _ h => absurd h List.not_mem_nil) (fun x1 s2 => ?_)
  refine fr_bind (fr_X11_figure _ _ _) (fun _ h => absurd h List.not_mem_nil) (fun x3 s4 => ?_)
  refine fr_bind (fr_X11_figures _ _) (fun _ h => absurd h List.not_mem_nil) (fun x5 s6 => ?_)
  refine fr_leti (fun x7 => ?_)
  refine fr_bind (fr_X11_ten _ _) (fun _ h => absurd h List.not_mem_nil) (fun x8 s9 => ?_)
  refine fr_if fr_none ?_
  refine fr_leti (fun x10 => ?_)
  refine fr_leti (fun x11 => ?_)
  refine fr_lX11_whyAt_42 _ _ _ _ _ _ (fun y18 s17 => ?_) FU _ _ _
  refine fr_if ?_ ?_
  · exact fr_some
  · refine fr_bind (fr_X11_areLinked _ _ _) (fun _ h => absurd h List.not_mem_nil) (fun x19 s20 => ?_)
    refine fr_if ?_ ?_
    · exact fr_some
    · refine fr_bind (fr_X11_has _ _ _) (fun _ h => absurd h List.not_mem_nil) (fun x21 s22 => ?_)
      refine fr_if ?_ ?_
      · refine fr_if ?_ fr_none
        refine fr_if ?_ ?_
        · refine fr_if ?_ ?_
          · refine fr_bind (fr_X11_lets _ _ _ _) (fun _ h => absurd h List.not_mem_nil) (fun x27 s28 => ?_)
            refine fr_if ?_ ?_
            · exact fr_some
            · exact fr_some
          · refine fr_bind (fr_X11_ten _ _) (fun _ h => absurd h List.not_mem_nil) (fun x23 s24 => ?_)
            refine fr_if fr_none ?_
            refine fr_bind (fr_X11_lets _ _ _ _) (fun _ h => absurd h List.not_mem_nil) (fun x25 s26 => ?_)
            refine fr_if ?_ ?_
            · exact fr_some
            · exact fr_some
        · exact fr_some
      · exact fr_some
set_option maxRecDepth 100000 in
set_option maxHeartbeats 4000000 in
theorem fr_lX11_why_17 (a1 : Int32) (k32 : Int32 → Int32 → mx_G → Option (Int32 × mx_G)) (hk32 : ∀ (b2 : Int32) (b3 : Int32) (sz : mx_G), FR [] sz (k32 b2 b3 sz)) : ∀ (n : Nat) (a2 : Int32) (s0 : mx_G), FR [] s0 (lX11_why_17 a1 k32 n a2 s0) := by
  intro n
  induction n with
  | zero => intro a2 s0; exact fr_none
  | succ n ih17 =>
    intro a2 s0
    rw [lX11_why_17]
    refine fr_if ?_ ?_
    · exact fr_some
    · refine fr_bind (fr_X11_whyAt _ _ _) (fun _ h => absurd h List.not_mem_nil) (fun x6 s7 => ?_)
      refine fr_if ?_ ?_
      · exact ih17 _ _
      · exact hk32 _ _ _
set_option maxRecDepth 100000 in
set_option maxHeartbeats 4000000 in
theorem fr_X11_why (p1 : Int32) (s : mx_G) : FR [] s (fX11_why p1 s) := by
  unfold fX11_why
  refine fr_bind (fr_X11_isRow _ _) (fun _ h => absurd h List.not_mem_nil) (fun x1 s2 => ?_)
  refine fr_if ?_ ?_
  · exact fr_some
  · refine fr_bind (fr_X11_figures _ _) (fun _ h => absurd h List.not_mem_nil) (fun x3 s4 => ?_)
    refine fr_leti (fun x5 => ?_)
    refine fr_lX11_why_17 _ _ (fun y9 y10 s8 => ?_) FU _ _
    refine fr_bind (fr_X11_figure _ _ _) (fun _ h => absurd h List.not_mem_nil) (fun x11 s12 => ?_)
    exact fr_some
set_option maxRecDepth 100000 in
set_option maxHeartbeats 4000000 in
theorem fr_lX11_permittedTo_4 (a1 : Int32)  : ∀ (n : Nat) (a2 : Int32) (a3 : Int32) (s0 : mx_G), FR [] s0 (lX11_permittedTo_4 a1  n a2 a3 s0) := by
  intro n
  induction n with
  | zero => intro a2 a3 s0; exact fr_none
  | succ n ih4 =>
    intro a2 a3 s0
    rw [lX11_permittedTo_4]
    refine fr_if ?_ ?_
    · exact fr_some
    · refine fr_if ?_ fr_none
      refine fr_if ?_ ?_
      · refine fr_leti (fun x2 => ?_)
        exact ih4 _ _ _
      · refine fr_leti (fun x1 => ?_)
        exact ih4 _ _ _
set_option maxRecDepth 100000 in
set_option maxHeartbeats 4000000 in
theorem fr_X11_permittedTo (p1 : Int32) (s : mx_G) : FR [] s (fX11_permittedTo p1 s) := by
  unfold fX11_permittedTo
  exact fr_lX11_permittedTo_4 _ FU _ _ _
theorem me_66 : 56 ∈ [56] := by decide
set_option maxRecDepth 100000 in
set_option maxHeartbeats 4000000 in
theorem fr_lX11_bring_2_3 (a1 : Int32) (a3 : Int32) (a4 : Int32)  : ∀ (n : Nat) (a5 : Int32) (s0 : mx_G), FR [56] s0 (lX11_bring_2_3 a1 a3 a4  n a5 s0) := by
  intro n
  induction n with
  | zero => intro a5 s0; exact fr_none
  | succ n ih3 =>
    intro a5 s0
    rw [lX11_bring_2_3]
    refine fr_if ?_ ?_
    · exact fr_some
    · refine fr_if ?_ fr_none
      refine fr_if (fr_gi me_66 (fun s1 => ?_)) fr_none
      exact ih3 _ _
set_option maxRecDepth 100000 in
set_option maxHeartbeats 4000000 in
theorem fr_X11_bring_2 (p1 : Int32) (p3 : Int32) (p4 : Int32) (s : mx_G) : FR [56] s (fX11_bring_2 p1 p3 p4 s) := by
  unfold fX11_bring_2
  exact fr_lX11_bring_2_3 _ _ _ FU _ _
set_option maxRecDepth 100000 in
set_option maxHeartbeats 4000000 in
theorem fr_X11_thinks (s : mx_G) : FR [56] s (fX11_thinks  s) := by
  unfold fX11_thinks
  refine fr_bind (fr_X11_bring_2 _ _ _ _) (fun _ h => h) (fun _ s1 => ?_)
  exact fr_some
set_option maxRecDepth 100000 in
set_option maxHeartbeats 4000000 in
theorem fr_lX11_wouldChoose_13 (a1 : Int32)  : ∀ (n : Nat) (a2 : Int32) (a3 : Int32) (s0 : mx_G), FR [] s0 (lX11_wouldChoose_13 a1  n a2 a3 s0) := by
  intro n
  induction n with
  | zero => intro a2 a3 s0; exact fr_none
  | succ n ih13 =>
    intro a2 a3 s0
    rw [lX11_wouldChoose_13]
    refine fr_if ?_ fr_none
    refine fr_if ?_ ?_
    · exact fr_some
    · refine fr_if ?_ ?_
      · exact fr_some
      · refine fr_if ?_ ?_
        · exact ih13 _ _ _
        · refine fr_if ?_ fr_none
          refine fr_if ?_ ?_
          · exact ih13 _ _ _
          · refine fr_if ?_ fr_none
            refine fr_bind (fr_X11_takes _ _ _) (fun _ h => absurd h List.not_mem_nil) (fun x1 s2 => ?_)
            refine fr_if ?_ ?_
            · exact ih13 _ _ _
            · refine fr_if ?_ fr_none
              refine fr_bind (fr_X11_together _ _ _) (fun _ h => absurd h List.not_mem_nil) (fun x3 s4 => ?_)
              refine fr_if ?_ ?_
              · exact ih13 _ _ _
              · refine fr_bind (fr_X11_isBetter _ _ _ _) (fun _ h => absurd h List.not_mem_nil) (fun x5 s6 => ?_)
                refine fr_if ?_ ?_
                · exact ih13 _ _ _
                · exact ih13 _ _ _
set_option maxRecDepth 100000 in
set_option maxHeartbeats 4000000 in
theorem fr_X11_wouldChoose (p1 : Int32) (s : mx_G) : FR [] s (fX11_wouldChoose p1 s) := by
  unfold fX11_wouldChoose
  refine fr_j1 ?_ (fun J10 hJ10 => ?_)
  · intro q0_10 s_10
    exact fr_lX11_wouldChoose_13 _ FU _ _ _
  refine fr_if ?_ ?_
  · exact hJ10 _ _
  · exact hJ10 _ _
theorem hs_59 : ∀ p ∈ [45, 54, 55], p ∈ [45, 54, 55, 56] := by decide
theorem hs_60 : ∀ p ∈ [56], p ∈ [45, 54, 55, 56] := by decide
set_option maxRecDepth 100000 in
set_option maxHeartbeats 4000000 in
theorem fr_X11_own (p1 : Int32) (p2 : Int32) (s : mx_G) : FR [45, 54, 55, 56] s (fX11_own p1 p2 s) := by
  unfold fX11_own
  refine fr_bind (fr_X11_isDomain _ _) (fun _ h => absurd h List.not_mem_nil) (fun x1 s2 => ?_)
  refine fr_if ?_ ?_
  · exact fr_some
  · refine fr_if ?_ ?_
    · refine fr_if ?_ fr_none
      exact fr_some
    refine fr_if ?_ ?_
    · refine fr_if ?_ fr_none
      exact fr_some
    refine fr_if ?_ ?_
    · refine fr_bind (fr_X11_laysWays  _) hs_59 (fun _ s3 => ?_)
      refine fr_bind (fr_X11_permittedTo _ _) (fun _ h => absurd h List.not_mem_nil) (fun x4 s5 => ?_)
      exact fr_some
    refine fr_if ?_ ?_
    · refine fr_if ?_ fr_none
      exact fr_some
    refine fr_if ?_ ?_
    · refine fr_bind (fr_X11_thinks  _) hs_60 (fun _ s6 => ?_)
      refine fr_bind (fr_X11_wouldChoose _ _) (fun _ h => absurd h List.not_mem_nil) (fun x7 s8 => ?_)
      exact fr_some
    exact fr_some
set_option maxRecDepth 100000 in
set_option maxHeartbeats 4000000 in
theorem fr_lX11_linkMany_13 (a1 : Int32) (a3 : Int32) (k49 : Int32 → mx_G → Option (Int32 × mx_G)) (hk49 : ∀ (b2 : Int32) (sz : mx_G), FR [] sz (k49 b2 sz)) : ∀ (n : Nat) (a2 : Int32) (a4 : Int32) (s0 : mx_G), FR [] s0 (lX11_linkMany_13 a1 a3 k49 n a2 a4 s0) := by
  intro n
  induction n with
  | zero => intro a2 a4 s0; exact fr_none
  | succ n ih13 =>
    intro a2 a4 s0
    rw [lX11_linkMany_13]
    refine fr_if ?_ ?_
    · exact hk49 _ _
    · refine fr_bind (fr_X11_pair _ _ _) (fun _ h => absurd h List.not_mem_nil) (fun x1 s2 => ?_)
      refine fr_if ?_ fr_none
      refine fr_if ?_ ?_
      · refine fr_leti (fun x3 => ?_)
        exact ih13 _ _ _
      · refine fr_leti (fun x4 => ?_)
        exact ih13 _ _ _
set_option maxRecDepth 100000 in
set_option maxHeartbeats 4000000 in
theorem fr_lX11_linkMany_4 (a1 : Int32)  : ∀ (n : Nat) (a2 : Int32) (a3 : Int32) (s0 : mx_G), FR [] s0 (lX11_linkMany_4 a1  n a2 a3 s0) := by
  intro n
  induction n with
  | zero => intro a2 a3 s0; exact fr_none
  | succ n ih4 =>
    intro a2 a3 s0
    rw [lX11_linkMany_4]
    refine fr_if ?_ ?_
    · exact fr_some
    · refine fr_lX11_linkMany_13 _ _ _ (fun y6 s5 => ?_) FU _ _ _
      exact ih4 _ _ _
set_option maxRecDepth 100000 in
set_option maxHeartbeats 4000000 in
theorem fr_X11_linkMany (p1 : Int32) (s : mx_G) : FR [] s (fX11_linkMany p1 s) := by
  unfold fX11_linkMany
  exact fr_lX11_linkMany_4 _ FU _ _ _
set_option maxRecDepth 100000 in
set_option maxHeartbeats 4000000 in
theorem fr_lX11_chosenSet_4   : ∀ (n : Nat) (a1 : Int32) (a2 : Int32) (s0 : mx_G), FR [] s0 (lX11_chosenSet_4   n a1 a2 s0) := by
  intro n
  induction n with
  | zero => intro a1 a2 s0; exact fr_none
  | succ n ih4 =>
    intro a1 a2 s0
    rw [lX11_chosenSet_4]
    refine fr_if ?_ fr_none
    refine fr_if ?_ ?_
    · exact fr_some
    · refine fr_if ?_ fr_none
      refine fr_if ?_ ?_
      · refine fr_leti (fun x1 => ?_)
        exact ih4 _ _ _
      · refine fr_leti (fun x2 => ?_)
        exact ih4 _ _ _
set_option maxRecDepth 100000 in
set_option maxHeartbeats 4000000 in
theorem fr_X11_chosenSet (s : mx_G) : FR [] s (fX11_chosenSet  s) := by
  unfold fX11_chosenSet
  exact fr_lX11_chosenSet_4 FU _ _ _
set_option maxRecDepth 100000 in
set_option maxHeartbeats 4000000 in
theorem fr_lX11_notContent_4   : ∀ (n : Nat) (a1 : Int32) (a2 : Int32) (s0 : mx_G), FR [] s0 (lX11_notContent_4   n a1 a2 s0) := by
  intro n
  induction n with
  | zero => intro a1 a2 s0; exact fr_none
  | succ n ih4 =>
    intro a1 a2 s0
    rw [lX11_notContent_4]
    refine fr_if ?_ fr_none
    refine fr_if ?_ ?_
    · exact fr_some
    · refine fr_bind (fr_X11_wouldChoose _ _) (fun _ h => absurd h List.not_mem_nil) (fun x1 s2 => ?_)
      refine fr_if ?_ fr_none
      refine fr_if ?_ ?_
      · refine fr_leti (fun x3 => ?_)
        exact ih4 _ _ _
      · refine fr_leti (fun x4 => ?_)
        exact ih4 _ _ _
set_option maxRecDepth 100000 in
set_option maxHeartbeats 4000000 in
theorem fr_X11_notContent (s : mx_G) : FR [] s (fX11_notContent  s) := by
  unfold fX11_notContent
  exact fr_lX11_notContent_4 FU _ _ _
set_option maxRecDepth 100000 in
set_option maxHeartbeats 4000000 in
theorem fr_X11_nextOne (p1 : Int32) (p2 : Int32) (s : mx_G) : FR [] s (fX11_nextOne p1 p2 s) := by
  unfold fX11_nextOne
  refine fr_leti (fun x1 => ?_)
  refine fr_j2 ?_ (fun J15 hJ15 => ?_)
  · intro q0_15 q1_15 s_15
    refine fr_leti (fun x2 => ?_)
    refine fr_if ?_ fr_none
    refine fr_if ?_ ?_
    · exact fr_some
    · exact fr_some
  refine fr_if ?_ ?_
  · exact hJ15 _ _ _
  · exact hJ15 _ _ _
set_option maxRecDepth 100000 in
set_option maxHeartbeats 4000000 in
theorem fr_lX11_wayBy_7   : ∀ (n : Nat) (a2 : Int32) (a3 : Int32) (a4 : Int32) (s0 : mx_G), FR [] s0 (lX11_wayBy_7   n a2 a3 a4 s0) := by
  intro n
  induction n with
  | zero => intro a2 a3 a4 s0; exact fr_none
  | succ n ih7 =>
    intro a2 a3 a4 s0
    rw [lX11_wayBy_7]
    refine fr_if ?_ ?_
    · refine fr_if ?_ ?_
      · exact fr_some
      · exact fr_some
    · refine fr_if ?_ ?_
      · refine fr_if ?_ ?_
        · exact fr_some
        · exact fr_some
      · refine fr_if ?_ ?_
        · refine fr_if ?_ ?_
          · exact fr_some
          · exact fr_some
        · refine fr_if ?_ fr_none
          refine fr_leti (fun x1 => ?_)
          refine fr_if ?_ ?_
          · exact ih7 _ _ _ _
          · refine fr_leti (fun x2 => ?_)
            exact ih7 _ _ _ _
set_option maxRecDepth 100000 in
set_option maxHeartbeats 4000000 in
theorem fr_X11_wayBy (p1 : Int32) (s : mx_G) : FR [] s (fX11_wayBy p1 s) := by
  unfold fX11_wayBy
  exact fr_lX11_wayBy_7 FU _ _ _ _
set_option maxRecDepth 100000 in
set_option maxHeartbeats 4000000 in
theorem fr_lX11_thinksOfNexts_4   : ∀ (n : Nat) (a1 : Int32) (a2 : Int32) (s0 : mx_G), FR [56] s0 (lX11_thinksOfNexts_4   n a1 a2 s0) := by
  intro n
  induction n with
  | zero => intro a1 a2 s0; exact fr_none
  | succ n ih4 =>
    intro a1 a2 s0
    rw [lX11_thinksOfNexts_4]
    refine fr_if ?_ ?_
    · exact fr_if fr_some fr_none
    · refine fr_j2 ?_ (fun J43 hJ43 => ?_)
      · intro q0_43 q1_43 s_43
        refine fr_if (fr_gi me_66 (fun s1 => ?_)) fr_none
        refine fr_if ?_ ?_
        · exact ih4 _ _ _
        · refine fr_if ?_ ?_
          · exact ih4 _ _ _
          · refine fr_if ?_ fr_none
            refine fr_if ?_ ?_
            · exact ih4 _ _ _
            · refine fr_if ?_ fr_none
              refine fr_if ?_ ?_
              · exact ih4 _ _ _
              · refine fr_if ?_ fr_none
                refine fr_if ?_ ?_
                · exact ih4 _ _ _
                · exact ih4 _ _ _
      refine fr_if ?_ ?_
      · exact hJ43 _ _ _
      · refine fr_if ?_ fr_none
        refine fr_if ?_ ?_
        · exact hJ43 _ _ _
        · refine fr_bind (fr_X11_wayBy _ _) (fun _ h => absurd h List.not_mem_nil) (fun x2 s3 => ?_)
          exact hJ43 _ _ _
set_option maxRecDepth 100000 in
set_option maxHeartbeats 4000000 in
theorem fr_X11_thinksOfNexts (s : mx_G) : FR [56] s (fX11_thinksOfNexts  s) := by
  unfold fX11_thinksOfNexts
  exact fr_lX11_thinksOfNexts_4 FU _ _ _
theorem me_67 : 59 ∈ [59] := by decide
set_option maxRecDepth 100000 in
set_option maxHeartbeats 4000000 in
theorem fr_lX11_goesOn_9 (k42 : Int32 → mx_G → Option (Int32 × mx_G)) (hk42 : ∀ (b1 : Int32) (sz : mx_G), FR [59] sz (k42 b1 sz)) : ∀ (n : Nat) (a1 : Int32) (s0 : mx_G), FR [59] s0 (lX11_goesOn_9  k42 n a1 s0) := by
  intro n
  induction n with
  | zero => intro a1 s0; exact fr_none
  | succ n ih9 =>
    intro a1 s0
    rw [lX11_goesOn_9]
    refine fr_if ?_ ?_
    · exact hk42 _ _
    · refine fr_if ?_ fr_none
      refine fr_if ?_ ?_
      · refine fr_bind (fr_X11_nextOne _ _ _) (fun _ h => absurd h List.not_mem_nil) (fun x2 s3 => ?_)
        refine fr_if (fr_gi me_67 (fun s4 => ?_)) fr_none
        exact ih9 _ _
      · exact hk42 _ _
set_option maxRecDepth 100000 in
set_option maxHeartbeats 4000000 in
theorem fr_X11_goesOn (s : mx_G) : FR [59] s (fX11_goesOn  s) := by
  unfold fX11_goesOn
  refine fr_if ?_ fr_none
  refine fr_leti (fun x1 => ?_)
  refine fr_lX11_goesOn_9 _ (fun y6 s5 => ?_) FU _ _
  refine fr_if ?_ ?_
  · refine fr_if ?_ ?_
    · exact fr_some
    · exact fr_some
  · refine fr_if ?_ fr_none
    refine fr_bind (fr_X11_nextOne _ _ _) (fun _ h => absurd h List.not_mem_nil) (fun x7 s8 => ?_)
    refine fr_if (fr_gi me_67 (fun s9 => ?_)) fr_none
    refine fr_if ?_ ?_
    · exact fr_some
    · exact fr_some
theorem me_68 : 59 ∈ [56, 59] := by decide
set_option maxRecDepth 100000 in
set_option maxHeartbeats 4000000 in
theorem fr_lX11_stableTo_7 (a1 : Int32) (a2 : Int32) (a3 : Int32) (k38 : mx_G → Option (Int32 × mx_G)) (hk38 : ∀ (sz : mx_G), FR [56, 59] sz (k38 sz)) : ∀ (n : Nat) (a4 : Int32) (s0 : mx_G), FR [56, 59] s0 (lX11_stableTo_7 a1 a2 a3 k38 n a4 s0) := by
  intro n
  induction n with
  | zero => intro a4 s0; exact fr_none
  | succ n ih7 =>
    intro a4 s0
    rw [lX11_stableTo_7]
    refine fr_if ?_ fr_none
    refine fr_if ?_ ?_
    · exact hk38 _
    · refine fr_bind (fr_X11_nextOne _ _ _) (fun _ h => absurd h List.not_mem_nil) (fun x1 s2 => ?_)
      refine fr_if (fr_gi me_68 (fun s3 => ?_)) fr_none
      exact ih7 _ _
theorem hs_61 : ∀ p ∈ [56], p ∈ [56, 59] := by decide
theorem hs_62 : ∀ p ∈ [59], p ∈ [56, 59] := by decide
set_option maxRecDepth 100000 in
set_option maxHeartbeats 4000000 in
theorem fr_lX11_stableTo_38 (a1 : Int32)  : ∀ (n : Nat) (a2 : Int32) (a3 : Int32) (s0 : mx_G), FR [56, 59] s0 (lX11_stableTo_38 a1  n a2 a3 s0) := by
  intro n
  induction n with
  | zero => intro a2 a3 s0; exact fr_none
  | succ n ih38 =>
    intro a2 a3 s0
    rw [lX11_stableTo_38]
    refine fr_if ?_ ?_
    · refine fr_if ?_ ?_
      · exact fr_some
      · exact fr_some
    · refine fr_bind (fr_X11_thinksOfNexts  _) hs_61 (fun x5 s6 => ?_)
      refine fr_if ?_ ?_
      · refine fr_bind (fr_X11_goesOn  _) hs_62 (fun x7 s8 => ?_)
        exact ih38 _ _ _
      · refine fr_bind (fr_X11_notContent  _) (fun _ h => absurd h List.not_mem_nil) (fun x9 s10 => ?_)
        refine fr_if ?_ ?_
        · refine fr_if ?_ ?_
          · exact fr_some
          · refine fr_bind (fr_X11_goesOn  _) hs_62 (fun x13 s14 => ?_)
            exact ih38 _ _ _
        · refine fr_bind (fr_X11_goesOn  _) hs_62 (fun x11 s12 => ?_)
          exact ih38 _ _ _
set_option maxRecDepth 100000 in
set_option maxHeartbeats 4000000 in
theorem fr_X11_stableTo (p1 : Int32) (s : mx_G) : FR [56, 59] s (fX11_stableTo p1 s) := by
  unfold fX11_stableTo
  refine fr_lX11_stableTo_7 _ _ _ _ (fun s4 => ?_) FU _ _
  exact fr_lX11_stableTo_38 _ FU _ _ _
theorem hs_63 : ∀ p ∈ [56], p ∈ [45, 54, 55, 56, 59] := by decide
theorem hs_64 : ∀ p ∈ [45, 54, 55], p ∈ [45, 54, 55, 56, 59] := by decide
theorem hs_65 : ∀ p ∈ [56, 59], p ∈ [45, 54, 55, 56, 59] := by decide
set_option maxRecDepth 100000 in
set_option maxHeartbeats 4000000 in
theorem fr_X11_count (p1 : Int32) (s : mx_G) : FR [45, 54, 55, 56, 59] s (fX11_count p1 s) := by
  unfold fX11_count
  refine fr_if ?_ ?_
  · refine fr_if ?_ fr_none
    exact fr_some
  refine fr_if ?_ ?_
  · refine fr_bind (fr_X11_linkMany _ _) (fun _ h => absurd h List.not_mem_nil) (fun x1 s2 => ?_)
    exact fr_some
  refine fr_if ?_ ?_
  · refine fr_bind (fr_X11_linkMany _ _) (fun _ h => absurd h List.not_mem_nil) (fun x3 s4 => ?_)
    exact fr_some
  refine fr_if ?_ ?_
  · refine fr_bind (fr_X11_chosenSet  _) (fun _ h => absurd h List.not_mem_nil) (fun x5 s6 => ?_)
    exact fr_some
  refine fr_if ?_ ?_
  · refine fr_bind (fr_X11_thinks  _) hs_63 (fun _ s7 => ?_)
    refine fr_bind (fr_X11_notContent  _) (fun _ h => absurd h List.not_mem_nil) (fun x8 s9 => ?_)
    exact fr_some
  refine fr_if ?_ ?_
  · refine fr_bind (fr_X11_laysWays  _) hs_64 (fun _ s10 => ?_)
    exact fr_some
  refine fr_if ?_ ?_
  · refine fr_bind (fr_X11_stableTo _ _) hs_65 (fun x11 s12 => ?_)
    exact fr_some
  refine fr_if ?_ ?_
  · exact fr_some
  exact fr_some
theorem me_69 : 57 ∈ [56, 57] := by decide
set_option maxRecDepth 100000 in
set_option maxHeartbeats 4000000 in
theorem fr_lX11_turnsInMind_4 (a1 : Int32) (k31 : mx_G → Option (Int32 × mx_G)) (hk31 : ∀ (sz : mx_G), FR [56, 57] sz (k31 sz)) : ∀ (n : Nat) (a2 : Int32) (s0 : mx_G), FR [56, 57] s0 (lX11_turnsInMind_4 a1 k31 n a2 s0) := by
  intro n
  induction n with
  | zero => intro a2 s0; exact fr_none
  | succ n ih4 =>
    intro a2 s0
    rw [lX11_turnsInMind_4]
    refine fr_if ?_ fr_none
    refine fr_if ?_ ?_
    · exact hk31 _
    · refine fr_bind (fr_X11_wouldChoose _ _) (fun _ h => absurd h List.not_mem_nil) (fun x1 s2 => ?_)
      refine fr_if (fr_gi me_69 (fun s3 => ?_)) fr_none
      exact ih4 _ _
theorem me_70 : 56 ∈ [56, 57] := by decide
set_option maxRecDepth 100000 in
set_option maxHeartbeats 4000000 in
theorem fr_lX11_turnsInMind_33   : ∀ (n : Nat) (a1 : Int32) (a2 : Int32) (s0 : mx_G), FR [56, 57] s0 (lX11_turnsInMind_33   n a1 a2 s0) := by
  intro n
  induction n with
  | zero => intro a1 a2 s0; exact fr_none
  | succ n ih33 =>
    intro a1 a2 s0
    rw [lX11_turnsInMind_33]
    refine fr_if ?_ fr_none
    refine fr_if ?_ ?_
    · exact fr_some
    · refine fr_if ?_ fr_none
      refine fr_if ?_ fr_none
      refine fr_j2 ?_ (fun J64 hJ64 => ?_)
      · intro q0_64 q1_64 s_64
        refine fr_leti (fun x5 => ?_)
        refine fr_if ?_ fr_none
        refine fr_if (fr_gi me_70 (fun s6 => ?_)) fr_none
        exact ih33 _ _ _
      refine fr_if ?_ ?_
      · exact hJ64 _ _ _
      · exact hJ64 _ _ _
set_option maxRecDepth 100000 in
set_option maxHeartbeats 4000000 in
theorem fr_X11_turnsInMind (s : mx_G) : FR [56, 57] s (fX11_turnsInMind  s) := by
  unfold fX11_turnsInMind
  refine fr_lX11_turnsInMind_4 _ _ (fun s4 => ?_) FU _ _
  exact fr_lX11_turnsInMind_33 FU _ _ _
set_option maxRecDepth 100000 in
set_option maxHeartbeats 4000000 in
theorem fr_lX11_bring_3_3 (a1 : Int32) (a3 : Int32) (a4 : Int32)  : ∀ (n : Nat) (a5 : Int32) (s0 : mx_G), FR [46] s0 (lX11_bring_3_3 a1 a3 a4  n a5 s0) := by
  intro n
  induction n with
  | zero => intro a5 s0; exact fr_none
  | succ n ih3 =>
    intro a5 s0
    rw [lX11_bring_3_3]
    refine fr_if ?_ ?_
    · exact fr_some
    · refine fr_if ?_ fr_none
      refine fr_if (fr_gi me_61 (fun s1 => ?_)) fr_none
      exact ih3 _ _
set_option maxRecDepth 100000 in
set_option maxHeartbeats 4000000 in
theorem fr_X11_bring_3 (p1 : Int32) (p3 : Int32) (p4 : Int32) (s : mx_G) : FR [46] s (fX11_bring_3 p1 p3 p4 s) := by
  unfold fX11_bring_3
  exact fr_lX11_bring_3_3 _ _ _ FU _ _
theorem hs_66 : ∀ p ∈ [56], p ∈ [46, 56, 57] := by decide
theorem hs_67 : ∀ p ∈ [56, 57], p ∈ [46, 56, 57] := by decide
theorem hs_68 : ∀ p ∈ [46], p ∈ [46, 56, 57] := by decide
set_option maxRecDepth 100000 in
set_option maxHeartbeats 4000000 in
theorem fr_X11_turnsOnce (s : mx_G) : FR [46, 56, 57] s (fX11_turnsOnce  s) := by
  unfold fX11_turnsOnce
  refine fr_bind (fr_X11_thinks  _) hs_66 (fun _ s1 => ?_)
  refine fr_bind (fr_X11_turnsInMind  _) hs_67 (fun x2 s3 => ?_)
  refine fr_bind (fr_X11_bring_3 _ _ _ _) hs_68 (fun _ s4 => ?_)
  exact fr_some
theorem hs_69 : ∀ p ∈ [56], p ∈ [45, 46, 47, 56, 57] := by decide
theorem hs_70 : ∀ p ∈ [45, 47], p ∈ [45, 46, 47, 56, 57] := by decide
theorem hs_71 : ∀ p ∈ [46, 56, 57], p ∈ [45, 46, 47, 56, 57] := by decide
set_option maxRecDepth 100000 in
set_option maxHeartbeats 4000000 in
theorem fr_X11_turn (s : mx_G) : FR [45, 46, 47, 56, 57] s (fX11_turn  s) := by
  unfold fX11_turn
  refine fr_bind (fr_X11_thinks  _) hs_69 (fun _ s1 => ?_)
  refine fr_bind (fr_X11_notContent  _) (fun _ h => absurd h List.not_mem_nil) (fun x2 s3 => ?_)
  refine fr_if ?_ ?_
  · exact fr_some
  · refine fr_bind (fr_X11_notes  _) hs_70 (fun _ s4 => ?_)
    refine fr_bind (fr_X11_turnsOnce  _) hs_71 (fun x5 s6 => ?_)
    exact fr_some
theorem hs_72 : ∀ p ∈ [56], p ∈ [46, 56] := by decide
theorem me_71 : 46 ∈ [46, 56] := by decide
set_option maxRecDepth 100000 in
set_option maxHeartbeats 4000000 in
theorem fr_X11_choosesAnew (p1 : Int32) (s : mx_G) : FR [46, 56] s (fX11_choosesAnew p1 s) := by
  unfold fX11_choosesAnew
  refine fr_bind (fr_X11_thinks  _) hs_72 (fun _ s1 => ?_)
  refine fr_bind (fr_X11_wouldChoose _ _) (fun _ h => absurd h List.not_mem_nil) (fun x2 s3 => ?_)
  refine fr_if ?_ fr_none
  refine fr_j1 ?_ (fun J28 hJ28 => ?_)
  · intro q0_28 s_28
    refine fr_if (fr_gi me_71 (fun s4 => ?_)) fr_none
    exact fr_some
  refine fr_if ?_ ?_
  · exact hJ28 _ _
  · exact hJ28 _ _
theorem hs_73 : ∀ p ∈ [56], p ∈ [45, 46, 47, 56] := by decide
theorem hs_74 : ∀ p ∈ [45, 47], p ∈ [45, 46, 47, 56] := by decide
theorem hs_75 : ∀ p ∈ [46, 56], p ∈ [45, 46, 47, 56] := by decide
set_option maxRecDepth 100000 in
set_option maxHeartbeats 4000000 in
theorem fr_X11_choose (p1 : Int32) (s : mx_G) : FR [45, 46, 47, 56] s (fX11_choose p1 s) := by
  unfold fX11_choose
  refine fr_bind (fr_X11_isDomain _ _) (fun _ h => absurd h List.not_mem_nil) (fun x1 s2 => ?_)
  refine fr_if ?_ ?_
  · exact fr_some
  · refine fr_bind (fr_X11_thinks  _) hs_73 (fun _ s3 => ?_)
    refine fr_bind (fr_X11_wouldChoose _ _) (fun _ h => absurd h List.not_mem_nil) (fun x4 s5 => ?_)
    refine fr_if ?_ fr_none
    refine fr_if ?_ ?_
    · exact fr_some
    · refine fr_bind (fr_X11_notes  _) hs_74 (fun _ s6 => ?_)
      refine fr_bind (fr_X11_choosesAnew _ _) hs_75 (fun x7 s8 => ?_)
      exact fr_some
set_option maxRecDepth 100000 in
set_option maxHeartbeats 4000000 in
theorem fr_lX11_rest_19   : ∀ (n : Nat) (a1 : Int32) (s0 : mx_G), FR [45, 46, 47, 56, 57] s0 (lX11_rest_19   n a1 s0) := by
  intro n
  induction n with
  | zero => intro a1 s0; exact fr_none
  | succ n ih19 =>
    intro a1 s0
    rw [lX11_rest_19]
    refine fr_if ?_ ?_
    · exact fr_some
    · refine fr_bind (fr_X11_turnsOnce  _) hs_71 (fun x5 s6 => ?_)
      refine fr_bind (fr_X11_notContent  _) (fun _ h => absurd h List.not_mem_nil) (fun x7 s8 => ?_)
      refine fr_if ?_ ?_
      · exact fr_some
      · exact ih19 _ _
set_option maxRecDepth 100000 in
set_option maxHeartbeats 4000000 in
theorem fr_X11_rest (s : mx_G) : FR [45, 46, 47, 56, 57] s (fX11_rest  s) := by
  unfold fX11_rest
  refine fr_bind (fr_X11_thinks  _) hs_69 (fun _ s1 => ?_)
  refine fr_bind (fr_X11_notContent  _) (fun _ h => absurd h List.not_mem_nil) (fun x2 s3 => ?_)
  refine fr_if ?_ ?_
  · exact fr_some
  · refine fr_bind (fr_X11_notes  _) hs_70 (fun _ s4 => ?_)
    exact fr_lX11_rest_19 FU _ _
set_option maxRecDepth 100000 in
set_option maxHeartbeats 4000000 in
theorem fr_lX11_clear_4 (k42 : Int32 → mx_G → Option (Int32 × mx_G)) (hk42 : ∀ (b1 : Int32) (sz : mx_G), FR [45, 46, 47] sz (k42 b1 sz)) : ∀ (n : Nat) (a1 : Int32) (a2 : Int32) (s0 : mx_G), FR [45, 46, 47] s0 (lX11_clear_4  k42 n a1 a2 s0) := by
  intro n
  induction n with
  | zero => intro a1 a2 s0; exact fr_none
  | succ n ih4 =>
    intro a1 a2 s0
    rw [lX11_clear_4]
    refine fr_if ?_ fr_none
    refine fr_if ?_ ?_
    · exact hk42 _ _
    · refine fr_if ?_ fr_none
      refine fr_if ?_ ?_
      · refine fr_leti (fun x1 => ?_)
        exact ih4 _ _ _
      · refine fr_leti (fun x2 => ?_)
        exact ih4 _ _ _
set_option maxRecDepth 100000 in
set_option maxHeartbeats 4000000 in
theorem fr_lX11_clear_55 (a1 : Int32)  : ∀ (n : Nat) (a2 : Int32) (s0 : mx_G), FR [45, 46, 47] s0 (lX11_clear_55 a1  n a2 s0) := by
  intro n
  induction n with
  | zero => intro a2 s0; exact fr_none
  | succ n ih55 =>
    intro a2 s0
    rw [lX11_clear_55]
    refine fr_if ?_ ?_
    · exact fr_some
    · refine fr_if (fr_gi me_62 (fun s6 => ?_)) fr_none
      exact ih55 _ _
set_option maxRecDepth 100000 in
set_option maxHeartbeats 4000000 in
theorem fr_X11_clear (s : mx_G) : FR [45, 46, 47] s (fX11_clear  s) := by
  unfold fX11_clear
  refine fr_lX11_clear_4 _ (fun y4 s3 => ?_) FU _ _ _
  refine fr_if ?_ ?_
  · exact fr_some
  · refine fr_bind (fr_X11_notes  _) hs_57 (fun _ s5 => ?_)
    exact fr_lX11_clear_55 _ FU _ _
theorem me_72 : 58 ∈ [58] := by decide
set_option maxRecDepth 100000 in
set_option maxHeartbeats 4000000 in
theorem fr_lX11_bring_4_3 (a1 : Int32) (a3 : Int32) (a4 : Int32)  : ∀ (n : Nat) (a5 : Int32) (s0 : mx_G), FR [58] s0 (lX11_bring_4_3 a1 a3 a4  n a5 s0) := by
  intro n
  induction n with
  | zero => intro a5 s0; exact fr_none
  | succ n ih3 =>
    intro a5 s0
    rw [lX11_bring_4_3]
    refine fr_if ?_ ?_
    · exact fr_some
    · refine fr_if ?_ fr_none
      refine fr_if (fr_gi me_72 (fun s1 => ?_)) fr_none
      exact ih3 _ _
set_option maxRecDepth 100000 in
set_option maxHeartbeats 4000000 in
theorem fr_X11_bring_4 (p1 : Int32) (p3 : Int32) (p4 : Int32) (s : mx_G) : FR [58] s (fX11_bring_4 p1 p3 p4 s) := by
  unfold fX11_bring_4
  exact fr_lX11_bring_4_3 _ _ _ FU _ _
set_option maxRecDepth 100000 in
set_option maxHeartbeats 4000000 in
theorem fr_lX11_isAsBehind_4 (a1 : Int32)  : ∀ (n : Nat) (a2 : Int32) (a3 : Int32) (s0 : mx_G), FR [] s0 (lX11_isAsBehind_4 a1  n a2 a3 s0) := by
  intro n
  induction n with
  | zero => intro a2 a3 s0; exact fr_none
  | succ n ih4 =>
    intro a2 a3 s0
    rw [lX11_isAsBehind_4]
    refine fr_if ?_ ?_
    · exact fr_if fr_some fr_none
    · refine fr_if ?_ ?_
      · exact ih4 _ _ _
      · refine fr_if ?_ fr_none
        refine fr_if ?_ fr_none
        refine fr_if ?_ ?_
        · exact ih4 _ _ _
        · exact ih4 _ _ _
set_option maxRecDepth 100000 in
set_option maxHeartbeats 4000000 in
theorem fr_X11_isAsBehind (p1 : Int32) (s : mx_G) : FR [] s (fX11_isAsBehind p1 s) := by
  unfold fX11_isAsBehind
  exact fr_lX11_isAsBehind_4 _ FU _ _ _
set_option maxRecDepth 100000 in
set_option maxHeartbeats 4000000 in
theorem fr_lX11_foreseen_48 (a1 : Int32) (a2 : Int32) (k61 : Int32 → mx_G → Option (Int32 × mx_G)) (k97 : mx_G → Option (Int32 × mx_G)) (hk61 : ∀ (b3 : Int32) (sz : mx_G), FR [56, 57, 58] sz (k61 b3 sz)) (hk97 : ∀ (sz : mx_G), FR [56, 57, 58] sz (k97 sz)) : ∀ (n : Nat) (a3 : Int32) (s0 : mx_G), FR [56, 57, 58] s0 (lX11_foreseen_48 a1 a2 k61 k97 n a3 s0) := by
  intro n
  induction n with
  | zero => intro a3 s0; exact fr_none
  | succ n ih48 =>
    intro a3 s0
    rw [lX11_foreseen_48]
    refine fr_if ?_ ?_
    · exact hk97 _
    · refine fr_bind (fr_X11_isAsBehind _ _) (fun _ h => absurd h List.not_mem_nil) (fun x7 s8 => ?_)
      refine fr_if ?_ ?_
      · exact ih48 _ _
      · exact hk61 _ _
theorem hs_76 : ∀ p ∈ [56, 57], p ∈ [56, 57, 58] := by decide
theorem hs_77 : ∀ p ∈ [58], p ∈ [56, 57, 58] := by decide
set_option maxRecDepth 100000 in
set_option maxHeartbeats 4000000 in
theorem fr_lX11_foreseen_35 (a1 : Int32) (k61 : Int32 → Int32 → mx_G → Option (Int32 × mx_G)) (hk61 : ∀ (b2 : Int32) (b3 : Int32) (sz : mx_G), FR [56, 57, 58] sz (k61 b2 b3 sz)) : ∀ (n : Nat) (a2 : Int32) (s0 : mx_G), FR [56, 57, 58] s0 (lX11_foreseen_35 a1 k61 n a2 s0) := by
  intro n
  induction n with
  | zero => intro a2 s0; exact fr_none
  | succ n ih35 =>
    intro a2 s0
    rw [lX11_foreseen_35]
    refine fr_if ?_ ?_
    · exact fr_some
    · refine fr_bind (fr_X11_turnsInMind  _) hs_76 (fun x5 s6 => ?_)
      refine fr_lX11_foreseen_48 _ _ _ _ (fun y10 s9 => ?_) (fun s11 => ?_) FU _ _
      · exact hk61 _ _ _
      · refine fr_bind (fr_X11_bring_4 _ _ _ _) hs_77 (fun _ s12 => ?_)
        exact ih35 _ _
theorem hs_78 : ∀ p ∈ [56], p ∈ [56, 57, 58] := by decide
set_option maxRecDepth 100000 in
set_option maxHeartbeats 4000000 in
theorem fr_X11_foreseen (p1 : Int32) (s : mx_G) : FR [56, 57, 58] s (fX11_foreseen p1 s) := by
  unfold fX11_foreseen
  refine fr_bind (fr_X11_in _ _ _ _) (fun _ h => absurd h List.not_mem_nil) (fun x1 s2 => ?_)
  refine fr_if ?_ ?_
  · exact fr_some
  · refine fr_bind (fr_X11_thinks  _) hs_78 (fun _ s3 => ?_)
    refine fr_bind (fr_X11_bring_4 _ _ _ _) hs_77 (fun _ s4 => ?_)
    refine fr_lX11_foreseen_35 _ _ (fun y14 y15 s13 => ?_) FU _ _
    refine fr_if ?_ ?_
    · exact fr_some
    · refine fr_if ?_ ?_
      · exact fr_some
      · refine fr_if ?_ ?_
        · exact fr_some
        · exact fr_some
set_option maxRecDepth 100000 in
set_option maxHeartbeats 4000000 in
theorem fr_X11_stable (p1 : Int32) (p2 : Int32) (s : mx_G) : FR [56, 59] s (fX11_stable p1 p2 s) := by
  unfold fX11_stable
  refine fr_if ?_ ?_
  · exact fr_some
  · refine fr_bind (fr_X11_isDomain _ _) (fun _ h => absurd h List.not_mem_nil) (fun x1 s2 => ?_)
    refine fr_if ?_ ?_
    · exact fr_some
    · refine fr_bind (fr_X11_stableTo _ _) (fun _ h => h) (fun x3 s4 => ?_)
      refine fr_if ?_ ?_
      · exact fr_some
      · refine fr_if ?_ fr_none
        exact fr_some
set_option maxRecDepth 100000 in
set_option maxHeartbeats 4000000 in
theorem fr_X11_behind (p0 : Int32) (s : mx_G) : FR [] s (fX11_behind p0 s) := by
  unfold fX11_behind
  refine fr_bind (fr_X11_figures _ _) (fun _ h => absurd h List.not_mem_nil) (fun x1 s2 => ?_)
  refine fr_bind (fr_X11_ten _ _) (fun _ h => absurd h List.not_mem_nil) (fun x3 s4 => ?_)
  refine fr_if fr_none ?_
  exact fr_some
set_option maxRecDepth 100000 in
set_option maxHeartbeats 4000000 in
theorem fr_X11_leadsTo (p1 : Int32) (p2 : Int32) (s : mx_G) : FR [] s (fX11_leadsTo p1 p2 s) := by
  unfold fX11_leadsTo
  refine fr_if ?_ fr_none
  refine fr_leti (fun x1 => ?_)
  refine fr_if ?_ ?_
  · exact fr_some
  · refine fr_if ?_ fr_none
    refine fr_bind (fr_X11_behind _ _) (fun _ h => absurd h List.not_mem_nil) (fun x2 s3 => ?_)
    refine fr_if ?_ fr_none
    refine fr_if ?_ ?_
    · exact fr_some
    · refine fr_if ?_ fr_none
      refine fr_if ?_ ?_
      · exact fr_some
      · refine fr_if ?_ fr_none
        refine fr_bind (fr_X11_figure _ _ _) (fun _ h => absurd h List.not_mem_nil) (fun x4 s5 => ?_)
        refine fr_if ?_ ?_
        · refine fr_if ?_ fr_none
          refine fr_if ?_ fr_none
          refine fr_bind (fr_X11_isBetter _ _ _ _) (fun _ h => absurd h List.not_mem_nil) (fun x6 s7 => ?_)
          refine fr_if ?_ ?_
          · exact fr_some
          · refine fr_if ?_ fr_none
            refine fr_bind (fr_X11_takes _ _ _) (fun _ h => absurd h List.not_mem_nil) (fun x8 s9 => ?_)
            refine fr_if ?_ ?_
            · exact fr_some
            · refine fr_if ?_ fr_none
              refine fr_if ?_ fr_none
              refine fr_bind (fr_X11_together _ _ _) (fun _ h => absurd h List.not_mem_nil) (fun x10 s11 => ?_)
              refine fr_bind (fr_X11_isBetter _ _ _ _) (fun _ h => absurd h List.not_mem_nil) (fun x12 s13 => ?_)
              refine fr_if ?_ ?_
              · exact fr_some
              · exact fr_some
        · exact fr_some
theorem me_73 : 60 ∈ [45, 54, 55, 60] := by decide
set_option maxRecDepth 100000 in
set_option maxHeartbeats 4000000 in
theorem fr_lX11_laysLeads_6 (k26 : mx_G → Option (Unit × mx_G)) (hk26 : ∀ (sz : mx_G), FR [45, 54, 55, 60] sz (k26 sz)) : ∀ (n : Nat) (a1 : Int32) (s0 : mx_G), FR [45, 54, 55, 60] s0 (lX11_laysLeads_6  k26 n a1 s0) := by
  intro n
  induction n with
  | zero => intro a1 s0; exact fr_none
  | succ n ih6 =>
    intro a1 s0
    rw [lX11_laysLeads_6]
    refine fr_if ?_ ?_
    · exact hk26 _
    · refine fr_if (fr_gl me_73 (fun s2 => ?_)) fr_none
      exact ih6 _ _
set_option maxRecDepth 100000 in
set_option maxHeartbeats 4000000 in
theorem fr_lX11_laysLeads_38 (a1 : Int32) (k84 : mx_G → Option (Unit × mx_G)) (hk84 : ∀ (sz : mx_G), FR [45, 54, 55, 60] sz (k84 sz)) : ∀ (n : Nat) (a2 : Int32) (s0 : mx_G), FR [45, 54, 55, 60] s0 (lX11_laysLeads_38 a1 k84 n a2 s0) := by
  intro n
  induction n with
  | zero => intro a2 s0; exact fr_none
  | succ n ih38 =>
    intro a2 s0
    rw [lX11_laysLeads_38]
    refine fr_if ?_ ?_
    · exact hk84 _
    · refine fr_bind (fr_X11_leadsTo _ _ _) (fun _ h => absurd h List.not_mem_nil) (fun x4 s5 => ?_)
      refine fr_if ?_ ?_
      · exact ih38 _ _
      · refine fr_if ?_ fr_none
        refine fr_if (fr_gl me_73 (fun s6 => ?_)) fr_none
        exact ih38 _ _
set_option maxRecDepth 100000 in
set_option maxHeartbeats 4000000 in
theorem fr_lX11_laysLeads_28   : ∀ (n : Nat) (a1 : Int32) (s0 : mx_G), FR [45, 54, 55, 60] s0 (lX11_laysLeads_28   n a1 s0) := by
  intro n
  induction n with
  | zero => intro a1 s0; exact fr_none
  | succ n ih28 =>
    intro a1 s0
    rw [lX11_laysLeads_28]
    refine fr_if ?_ ?_
    · exact fr_some
    · refine fr_lX11_laysLeads_38 _ _ (fun s7 => ?_) FU _ _
      exact ih28 _ _
theorem hs_79 : ∀ p ∈ [45, 54, 55], p ∈ [45, 54, 55, 60] := by decide
set_option maxRecDepth 100000 in
set_option maxHeartbeats 4000000 in
theorem fr_X11_laysLeads (s : mx_G) : FR [45, 54, 55, 60] s (fX11_laysLeads  s) := by
  unfold fX11_laysLeads
  refine fr_bind (fr_X11_laysWays  _) hs_79 (fun _ s1 => ?_)
  refine fr_lX11_laysLeads_6 _ (fun s3 => ?_) FU _ _
  exact fr_lX11_laysLeads_28 FU _ _
set_option maxRecDepth 100000 in
set_option maxHeartbeats 4000000 in
theorem fr_X11_isIn (p1 : Int32) (s : mx_G) : FR [] s (fX11_isIn p1 s) := by
  unfold fX11_isIn
  refine fr_if ?_ fr_none
  refine fr_if ?_ ?_
  · exact fr_some
  · exact fr_some
theorem me_74 : 63 ∈ [61, 62, 63] := by decide
set_option maxRecDepth 100000 in
set_option maxHeartbeats 4000000 in
theorem fr_lX11_movesOn_4 (a1 : Int32) (k23 : mx_G → Option (Int32 × mx_G)) (hk23 : ∀ (sz : mx_G), FR [61, 62, 63] sz (k23 sz)) : ∀ (n : Nat) (a2 : Int32) (s0 : mx_G), FR [61, 62, 63] s0 (lX11_movesOn_4 a1 k23 n a2 s0) := by
  intro n
  induction n with
  | zero => intro a2 s0; exact fr_none
  | succ n ih4 =>
    intro a2 s0
    rw [lX11_movesOn_4]
    refine fr_if ?_ ?_
    · exact hk23 _
    · refine fr_if (fr_gl me_74 (fun s1 => ?_)) fr_none
      exact ih4 _ _
set_option maxRecDepth 100000 in
set_option maxHeartbeats 4000000 in
theorem fr_lX11_movesOn_35 (a1 : Int32) (a2 : Int32) (k78 : mx_G → Option (Int32 × mx_G)) (hk78 : ∀ (sz : mx_G), FR [61, 62, 63] sz (k78 sz)) : ∀ (n : Nat) (a3 : Int32) (s0 : mx_G), FR [61, 62, 63] s0 (lX11_movesOn_35 a1 a2 k78 n a3 s0) := by
  intro n
  induction n with
  | zero => intro a3 s0; exact fr_none
  | succ n ih35 =>
    intro a3 s0
    rw [lX11_movesOn_35]
    refine fr_if ?_ ?_
    · exact hk78 _
    · refine fr_bind (fr_X11_isIn _ _) (fun _ h => absurd h List.not_mem_nil) (fun x3 s4 => ?_)
      refine fr_if ?_ ?_
      · exact hk78 _
      · refine fr_if ?_ fr_none
        refine fr_if ?_ fr_none
        refine fr_if (fr_gl me_74 (fun s5 => ?_)) fr_none
        exact ih35 _ _
set_option maxRecDepth 100000 in
set_option maxHeartbeats 4000000 in
theorem fr_lX11_movesOn_25 (a1 : Int32) (k84 : mx_G → Option (Int32 × mx_G)) (hk84 : ∀ (sz : mx_G), FR [61, 62, 63] sz (k84 sz)) : ∀ (n : Nat) (a2 : Int32) (s0 : mx_G), FR [61, 62, 63] s0 (lX11_movesOn_25 a1 k84 n a2 s0) := by
  intro n
  induction n with
  | zero => intro a2 s0; exact fr_none
  | succ n ih25 =>
    intro a2 s0
    rw [lX11_movesOn_25]
    refine fr_if ?_ ?_
    · exact hk84 _
    · refine fr_lX11_movesOn_35 _ _ _ (fun s6 => ?_) FU _ _
      exact ih25 _ _
theorem me_75 : 61 ∈ [61, 62, 63] := by decide
theorem me_76 : 62 ∈ [61, 62, 63] := by decide
set_option maxRecDepth 100000 in
set_option maxHeartbeats 4000000 in
theorem fr_lX11_movesOn_86   : ∀ (n : Nat) (a1 : Int32) (a2 : Int32) (s0 : mx_G), FR [61, 62, 63] s0 (lX11_movesOn_86   n a1 a2 s0) := by
  intro n
  induction n with
  | zero => intro a1 a2 s0; exact fr_none
  | succ n ih86 =>
    intro a1 a2 s0
    rw [lX11_movesOn_86]
    refine fr_if ?_ ?_
    · exact fr_if fr_some fr_none
    · refine fr_if ?_ fr_none
      refine fr_if ?_ fr_none
      refine fr_if (fr_gl me_75 (fun s8 => ?_)) fr_none
      refine fr_if ?_ fr_none
      refine fr_if ?_ fr_none
      refine fr_if (fr_gl me_76 (fun s9 => ?_)) fr_none
      refine fr_if ?_ ?_
      · refine fr_if ?_ fr_none
        refine fr_if ?_ ?_
        · exact ih86 _ _ _
        · exact ih86 _ _ _
      · exact ih86 _ _ _
set_option maxRecDepth 100000 in
set_option maxHeartbeats 4000000 in
theorem fr_X11_movesOn (s : mx_G) : FR [61, 62, 63] s (fX11_movesOn  s) := by
  unfold fX11_movesOn
  refine fr_lX11_movesOn_4 _ _ (fun s2 => ?_) FU _ _
  refine fr_lX11_movesOn_25 _ _ (fun s7 => ?_) FU _ _
  exact fr_lX11_movesOn_86 FU _ _ _
set_option maxRecDepth 100000 in
set_option maxHeartbeats 4000000 in
theorem fr_X11_isIn_1 (p1 : Int32) (s : mx_G) : FR [] s (fX11_isIn_1 p1 s) := by
  unfold fX11_isIn_1
  refine fr_if ?_ fr_none
  refine fr_if ?_ ?_
  · exact fr_some
  · exact fr_some
set_option maxRecDepth 100000 in
set_option maxHeartbeats 4000000 in
theorem fr_lX11_roundOf_2 (a1 : Int32) (k28 : mx_G → Option (Int32 × mx_G)) (hk28 : ∀ (sz : mx_G), FR [61, 62, 63] sz (k28 sz)) : ∀ (n : Nat) (a2 : Int32) (s0 : mx_G), FR [61, 62, 63] s0 (lX11_roundOf_2 a1 k28 n a2 s0) := by
  intro n
  induction n with
  | zero => intro a2 s0; exact fr_none
  | succ n ih2 =>
    intro a2 s0
    rw [lX11_roundOf_2]
    refine fr_if ?_ ?_
    · exact hk28 _
    · refine fr_if (fr_gl me_75 (fun s1 => ?_)) fr_none
      refine fr_if (fr_gl me_76 (fun s2 => ?_)) fr_none
      exact ih2 _ _
set_option maxRecDepth 100000 in
set_option maxHeartbeats 4000000 in
theorem fr_lX11_roundOf_47 (a1 : Int32)  : ∀ (n : Nat) (a2 : Int32) (a3 : Int32) (s0 : mx_G), FR [61, 62, 63] s0 (lX11_roundOf_47 a1  n a2 a3 s0) := by
  intro n
  induction n with
  | zero => intro a2 a3 s0; exact fr_none
  | succ n ih47 =>
    intro a2 a3 s0
    rw [lX11_roundOf_47]
    refine fr_if ?_ ?_
    · exact fr_some
    · refine fr_bind (fr_X11_movesOn  _) (fun _ h => h) (fun x5 s6 => ?_)
      refine fr_bind (fr_X11_isIn_1 _ _) (fun _ h => absurd h List.not_mem_nil) (fun x7 s8 => ?_)
      refine fr_if ?_ ?_
      · exact ih47 _ _ _
      · exact fr_some
set_option maxRecDepth 100000 in
set_option maxHeartbeats 4000000 in
theorem fr_X11_roundOf (p1 : Int32) (s : mx_G) : FR [61, 62, 63] s (fX11_roundOf p1 s) := by
  unfold fX11_roundOf
  refine fr_lX11_roundOf_2 _ _ (fun s3 => ?_) FU _ _
  refine fr_if (fr_gl me_75 (fun s4 => ?_)) fr_none
  exact fr_lX11_roundOf_47 _ FU _ _ _
theorem hs_80 : ∀ p ∈ [61, 62, 63], p ∈ [45, 54, 55, 60, 61, 62, 63] := by decide
set_option maxRecDepth 100000 in
set_option maxHeartbeats 4000000 in
theorem fr_lX11_ring_30 (a1 : Int32) (k109 : Int32 → Int32 → Int32 → mx_G → Option (Int32 × mx_G)) (hk109 : ∀ (b2 : Int32) (b3 : Int32) (b4 : Int32) (sz : mx_G), FR [45, 54, 55, 60, 61, 62, 63] sz (k109 b2 b3 b4 sz)) : ∀ (n : Nat) (a2 : Int32) (a3 : Int32) (a4 : Int32) (a5 : Int32) (s0 : mx_G), FR [45, 54, 55, 60, 61, 62, 63] s0 (lX11_ring_30 a1 k109 n a2 a3 a4 a5 s0) := by
  intro n
  induction n with
  | zero => intro a2 a3 a4 a5 s0; exact fr_none
  | succ n ih30 =>
    intro a2 a3 a4 a5 s0
    rw [lX11_ring_30]
    refine fr_if ?_ ?_
    · exact hk109 _ _ _ _
    · refine fr_bind (fr_X11_roundOf _ _) hs_80 (fun x4 s5 => ?_)
      refine fr_if ?_ ?_
      · exact ih30 _ _ _ _ _
      · refine fr_j1 ?_ (fun J71 hJ71 => ?_)
        · intro q0_71 s_71
          refine fr_j0 ?_ (fun J89 hJ89 => ?_)
          · intro s_89
            refine fr_if ?_ fr_none
            refine fr_leti (fun x6 => ?_)
            exact ih30 _ _ _ _ _
          refine fr_if ?_ ?_
          · exact hJ89 _
          · refine fr_if ?_ fr_none
            refine fr_if ?_ ?_
            · exact ih30 _ _ _ _ _
            · exact hJ89 _
        refine fr_j0 ?_ (fun J65 hJ65 => ?_)
        · intro s_65
          exact hJ71 _ _
        refine fr_if ?_ ?_
        · exact hJ65 _
        · refine fr_if ?_ ?_
          · exact hJ71 _ _
          · exact hJ65 _
theorem hs_81 : ∀ p ∈ [45, 54, 55, 60], p ∈ [45, 54, 55, 60, 61, 62, 63] := by decide
set_option maxRecDepth 100000 in
set_option maxHeartbeats 4000000 in
theorem fr_X11_ring (p1 : Int32) (s : mx_G) : FR [45, 54, 55, 60, 61, 62, 63] s (fX11_ring p1 s) := by
  unfold fX11_ring
  refine fr_bind (fr_X11_in _ _ _ _) (fun _ h => absurd h List.not_mem_nil) (fun x1 s2 => ?_)
  refine fr_if ?_ ?_
  · exact fr_some
  · refine fr_bind (fr_X11_laysLeads  _) hs_81 (fun _ s3 => ?_)
    refine fr_lX11_ring_30 _ _ (fun y8 y9 y10 s7 => ?_) FU _ _ _ _ _
    refine fr_if ?_ ?_
    · refine fr_if ?_ ?_
      · exact fr_some
      · exact fr_some
    · refine fr_if ?_ ?_
      · exact fr_some
      · refine fr_if ?_ ?_
        · exact fr_some
        · exact fr_some
theorem me_77 : 64 ∈ [64] := by decide
set_option maxRecDepth 100000 in
set_option maxHeartbeats 4000000 in
theorem fr_lX11_laysLinks_12 (a2 : Int32) (k57 : Int32 → mx_G → Option (Int32 × mx_G)) (hk57 : ∀ (b1 : Int32) (sz : mx_G), FR [64] sz (k57 b1 sz)) : ∀ (n : Nat) (a1 : Int32) (a3 : Int32) (s0 : mx_G), FR [64] s0 (lX11_laysLinks_12 a2 k57 n a1 a3 s0) := by
  intro n
  induction n with
  | zero => intro a1 a3 s0; exact fr_none
  | succ n ih12 =>
    intro a1 a3 s0
    rw [lX11_laysLinks_12]
    refine fr_if ?_ ?_
    · exact hk57 _ _
    · refine fr_bind (fr_X11_areLinked _ _ _) (fun _ h => absurd h List.not_mem_nil) (fun x1 s2 => ?_)
      refine fr_if ?_ ?_
      · exact ih12 _ _ _
      · refine fr_bind (fr_X11_pair _ _ _) (fun _ h => absurd h List.not_mem_nil) (fun x3 s4 => ?_)
        refine fr_if (fr_gi me_77 (fun s5 => ?_)) fr_none
        refine fr_bind (fr_X11_pair _ _ _) (fun _ h => absurd h List.not_mem_nil) (fun x6 s7 => ?_)
        refine fr_if (fr_gi me_77 (fun s8 => ?_)) fr_none
        exact ih12 _ _ _
set_option maxRecDepth 100000 in
set_option maxHeartbeats 4000000 in
theorem fr_lX11_laysLinks_4   : ∀ (n : Nat) (a1 : Int32) (a2 : Int32) (s0 : mx_G), FR [64] s0 (lX11_laysLinks_4   n a1 a2 s0) := by
  intro n
  induction n with
  | zero => intro a1 a2 s0; exact fr_none
  | succ n ih4 =>
    intro a1 a2 s0
    rw [lX11_laysLinks_4]
    refine fr_if ?_ ?_
    · exact fr_some
    · refine fr_lX11_laysLinks_12 _ _ (fun y10 s9 => ?_) FU _ _ _
      exact ih4 _ _ _
set_option maxRecDepth 100000 in
set_option maxHeartbeats 4000000 in
theorem fr_X11_laysLinks (s : mx_G) : FR [64] s (fX11_laysLinks  s) := by
  unfold fX11_laysLinks
  exact fr_lX11_laysLinks_4 FU _ _ _
set_option maxRecDepth 100000 in
set_option maxHeartbeats 4000000 in
theorem fr_lX11_maskOf_4 (a1 : Int32)  : ∀ (n : Nat) (a2 : Int32) (a3 : Int32) (s0 : mx_G), FR [] s0 (lX11_maskOf_4 a1  n a2 a3 s0) := by
  intro n
  induction n with
  | zero => intro a2 a3 s0; exact fr_none
  | succ n ih4 =>
    intro a2 a3 s0
    rw [lX11_maskOf_4]
    refine fr_bind (fr_X11_figures _ _) (fun _ h => absurd h List.not_mem_nil) (fun x1 s2 => ?_)
    refine fr_if ?_ ?_
    · exact fr_some
    · refine fr_bind (fr_X11_figure _ _ _) (fun _ h => absurd h List.not_mem_nil) (fun x3 s4 => ?_)
      refine fr_bind (fr_X11_figure _ _ _) (fun _ h => absurd h List.not_mem_nil) (fun x5 s6 => ?_)
      refine fr_bind (fr_X11_pair _ _ _) (fun _ h => absurd h List.not_mem_nil) (fun x7 s8 => ?_)
      refine fr_if ?_ fr_none
      refine fr_leti (fun x9 => ?_)
      exact ih4 _ _ _
set_option maxRecDepth 100000 in
set_option maxHeartbeats 4000000 in
theorem fr_X11_maskOf (p1 : Int32) (s : mx_G) : FR [] s (fX11_maskOf p1 s) := by
  unfold fX11_maskOf
  exact fr_lX11_maskOf_4 _ FU _ _ _
set_option maxRecDepth 100000 in
set_option maxHeartbeats 4000000 in
theorem fr_lX11_bits_4   : ∀ (n : Nat) (a1 : Int32) (a2 : Int32) (s0 : mx_G), FR [] s0 (lX11_bits_4   n a1 a2 s0) := by
  intro n
  induction n with
  | zero => intro a1 a2 s0; exact fr_none
  | succ n ih4 =>
    intro a1 a2 s0
    rw [lX11_bits_4]
    refine fr_if ?_ ?_
    · exact fr_some
    · refine fr_leti (fun x1 => ?_)
      exact ih4 _ _ _
set_option maxRecDepth 100000 in
set_option maxHeartbeats 4000000 in
theorem fr_X11_bits (p0 : Int32) (s : mx_G) : FR [] s (fX11_bits p0 s) := by
  unfold fX11_bits
  exact fr_lX11_bits_4 FU _ _ _
set_option maxRecDepth 100000 in
set_option maxHeartbeats 4000000 in
theorem fr_lX11_power_5 (a0 : Int64) (a2 : Int32)  : ∀ (n : Nat) (a3 : Int64) (a5 : Int32) (s0 : mx_G), FR [] s0 (lX11_power_5 a0 a2  n a3 a5 s0) := by
  intro n
  induction n with
  | zero => intro a3 a5 s0; exact fr_none
  | succ n ih5 =>
    intro a3 a5 s0
    rw [lX11_power_5]
    refine fr_if ?_ ?_
    · exact fr_some
    · refine fr_letl (fun x1 => ?_)
      exact ih5 _ _ _
set_option maxRecDepth 100000 in
set_option maxHeartbeats 4000000 in
theorem fr_X11_power (p0 : Int64) (p2 : Int32) (s : mx_G) : FR [] s (fX11_power p0 p2 s) := by
  unfold fX11_power
  exact fr_lX11_power_5 _ _ FU _ _ _
theorem me_78 : 65 ∈ [65] := by decide
set_option maxRecDepth 100000 in
set_option maxHeartbeats 4000000 in
theorem fr_lX11_above_6 (a1 : Int32) (a2 : Int32) (a3 : Int32) (k53 : Int32 → mx_G → Option (Int64 × mx_G)) (hk53 : ∀ (b4 : Int32) (sz : mx_G), FR [65] sz (k53 b4 sz)) : ∀ (n : Nat) (a4 : Int32) (a5 : Int32) (s0 : mx_G), FR [65] s0 (lX11_above_6 a1 a2 a3 k53 n a4 a5 s0) := by
  intro n
  induction n with
  | zero => intro a4 a5 s0; exact fr_none
  | succ n ih6 =>
    intro a4 a5 s0
    rw [lX11_above_6]
    refine fr_if ?_ ?_
    · exact hk53 _ _
    · refine fr_if ?_ fr_none
      refine fr_if ?_ ?_
      · refine fr_if ?_ fr_none
        refine fr_bind (fr_X11_maskOf _ _) (fun _ h => absurd h List.not_mem_nil) (fun x1 s2 => ?_)
        refine fr_if (fr_gi me_78 (fun s3 => ?_)) fr_none
        exact ih6 _ _ _
      · exact ih6 _ _ _
set_option maxRecDepth 100000 in
set_option maxHeartbeats 4000000 in
theorem fr_lX11_above_73 (a2 : Int32) (a3 : Int32) (a4 : Int32) (a5 : Int64) (a7 : Int32) (k113 : Int32 → mx_G → Option (Int64 × mx_G)) (hk113 : ∀ (b8 : Int32) (sz : mx_G), FR [65] sz (k113 b8 sz)) : ∀ (n : Nat) (a8 : Int32) (a9 : Int32) (s0 : mx_G), FR [65] s0 (lX11_above_73 a2 a3 a4 a5 a7 k113 n a8 a9 s0) := by
  intro n
  induction n with
  | zero => intro a8 a9 s0; exact fr_none
  | succ n ih73 =>
    intro a8 a9 s0
    rw [lX11_above_73]
    refine fr_if ?_ ?_
    · exact hk113 _ _
    · refine fr_if ?_ ?_
      · refine fr_if ?_ fr_none
        refine fr_if ?_ ?_
        · exact ih73 _ _ _
        · exact ih73 _ _ _
      · exact hk113 _ _
set_option maxRecDepth 100000 in
set_option maxHeartbeats 4000000 in
theorem fr_lX11_above_59 (a2 : Int32) (a3 : Int32) (a4 : Int32)  : ∀ (n : Nat) (a5 : Int64) (a7 : Int32) (s0 : mx_G), FR [65] s0 (lX11_above_59 a2 a3 a4  n a5 a7 s0) := by
  intro n
  induction n with
  | zero => intro a5 a7 s0; exact fr_none
  | succ n ih59 =>
    intro a5 a7 s0
    rw [lX11_above_59]
    refine fr_if ?_ ?_
    · exact fr_some
    · refine fr_lX11_above_73 _ _ _ _ _ _ (fun y7 s6 => ?_) FU _ _ _
      refine fr_if ?_ ?_
      · refine fr_letl (fun x8 => ?_)
        exact ih59 _ _ _
      · refine fr_bind (fr_X11_bits _ _) (fun _ h => absurd h List.not_mem_nil) (fun x9 s10 => ?_)
        refine fr_bind (fr_X11_power _ _ _) (fun _ h => absurd h List.not_mem_nil) (fun x11 s12 => ?_)
        refine fr_bind (fr_X11_bits _ _) (fun _ h => absurd h List.not_mem_nil) (fun x13 s14 => ?_)
        refine fr_bind (fr_X11_power _ _ _) (fun _ h => absurd h List.not_mem_nil) (fun x15 s16 => ?_)
        refine fr_letl (fun x17 => ?_)
        exact ih59 _ _ _
set_option maxRecDepth 100000 in
set_option maxHeartbeats 4000000 in
theorem fr_X11_above (p1 : Int32) (p2 : Int32) (p3 : Int32) (s : mx_G) : FR [65] s (fX11_above p1 p2 p3 s) := by
  unfold fX11_above
  refine fr_lX11_above_6 _ _ _ _ (fun y5 s4 => ?_) FU _ _ _
  exact fr_lX11_above_59 _ _ _ FU _ _ _
set_option maxRecDepth 100000 in
set_option maxHeartbeats 4000000 in
theorem fr_lX11_fail_72 (a3 : Int32) (a5 : Int64) (a7 : Int64) (k97 : Int64 → mx_G → Option (Int64 × mx_G)) (hk97 : ∀ (b9 : Int64) (sz : mx_G), FR [45, 54, 55, 64, 65] sz (k97 b9 sz)) : ∀ (n : Nat) (a9 : Int64) (a11 : Int64) (s0 : mx_G), FR [45, 54, 55, 64, 65] s0 (lX11_fail_72 a3 a5 a7 k97 n a9 a11 s0) := by
  intro n
  induction n with
  | zero => intro a9 a11 s0; exact fr_none
  | succ n ih72 =>
    intro a9 a11 s0
    rw [lX11_fail_72]
    refine fr_if ?_ ?_
    · exact hk97 _ _
    · refine fr_if fr_none ?_
      refine fr_letl (fun x14 => ?_)
      exact ih72 _ _ _
theorem hs_82 : ∀ p ∈ [45, 54, 55], p ∈ [45, 54, 55, 64, 65] := by decide
theorem hs_83 : ∀ p ∈ [64], p ∈ [45, 54, 55, 64, 65] := by decide
theorem hs_84 : ∀ p ∈ [65], p ∈ [45, 54, 55, 64, 65] := by decide
set_option maxRecDepth 100000 in
set_option maxHeartbeats 4000000 in
theorem fr_X11_fail (p1 : Int32) (p2 : Int32) (p3 : Int32) (s : mx_G) : FR [45, 54, 55, 64, 65] s (fX11_fail p1 p2 p3 s) := by
  unfold fX11_fail
  refine fr_bind (fr_X11_isDomain _ _) (fun _ h => absurd h List.not_mem_nil) (fun x1 s2 => ?_)
  refine fr_if ?_ ?_
  · exact fr_some
  · refine fr_bind (fr_X11_in _ _ _ _) (fun _ h => absurd h List.not_mem_nil) (fun x3 s4 => ?_)
    refine fr_if ?_ ?_
    · exact fr_some
    · refine fr_bind (fr_X11_in _ _ _ _) (fun _ h => absurd h List.not_mem_nil) (fun x5 s6 => ?_)
      refine fr_if ?_ ?_
      · exact fr_some
      · refine fr_bind (fr_X11_laysWays  _) hs_82 (fun _ s7 => ?_)
        refine fr_bind (fr_X11_laysLinks  _) hs_83 (fun x8 s9 => ?_)
        refine fr_bind (fr_X11_above _ _ _ _) hs_84 (fun x10 s11 => ?_)
        refine fr_bind (fr_X11_power _ _ _) (fun _ h => absurd h List.not_mem_nil) (fun x12 s13 => ?_)
        refine fr_lX11_fail_72 _ _ _ _ (fun y16 s15 => ?_) FU _ _ _
        refine fr_if ?_ ?_
        · refine fr_if fr_none ?_
          exact fr_some
        · refine fr_if fr_none ?_
          exact fr_some
set_option maxRecDepth 100000 in
set_option maxHeartbeats 4000000 in
theorem fr_lX11_seen_29 (a1 : Int32) (a2 : Int32) (k70 : Int32 → mx_G → Option (Int32 × mx_G)) (hk70 : ∀ (b3 : Int32) (sz : mx_G), FR [46, 56] sz (k70 b3 sz)) : ∀ (n : Nat) (a3 : Int32) (a4 : Int32) (s0 : mx_G), FR [46, 56] s0 (lX11_seen_29 a1 a2 k70 n a3 a4 s0) := by
  intro n
  induction n with
  | zero => intro a3 a4 s0; exact fr_none
  | succ n ih29 =>
    intro a3 a4 s0
    rw [lX11_seen_29]
    refine fr_if ?_ ?_
    · exact hk70 _ _
    · refine fr_if (fr_gi me_71 (fun s5 => ?_)) fr_none
      refine fr_bind (fr_X11_notContent  _) (fun _ h => absurd h List.not_mem_nil) (fun x6 s7 => ?_)
      refine fr_if ?_ ?_
      · refine fr_leti (fun x9 => ?_)
        exact ih29 _ _ _
      · refine fr_leti (fun x8 => ?_)
        exact ih29 _ _ _
set_option maxRecDepth 100000 in
set_option maxHeartbeats 4000000 in
theorem fr_X11_seen (p1 : Int32) (s : mx_G) : FR [46, 56] s (fX11_seen p1 s) := by
  unfold fX11_seen
  refine fr_bind (fr_X11_isDomain _ _) (fun _ h => absurd h List.not_mem_nil) (fun x1 s2 => ?_)
  refine fr_if ?_ ?_
  · exact fr_some
  · refine fr_if ?_ fr_none
    refine fr_leti (fun x3 => ?_)
    refine fr_bind (fr_X11_thinks  _) hs_72 (fun _ s4 => ?_)
    refine fr_lX11_seen_29 _ _ _ (fun y11 s10 => ?_) FU _ _ _
    refine fr_if (fr_gi me_71 (fun s12 => ?_)) fr_none
    exact fr_some
theorem me_79 : 50 ∈ [45, 50] := by decide
theorem me_80 : 45 ∈ [45, 50] := by decide
set_option maxRecDepth 100000 in
set_option maxHeartbeats 4000000 in
theorem fr_X11_type (p1 : Int32) (s : mx_G) : FR [45, 50] s (fX11_type p1 s) := by
  unfold fX11_type
  refine fr_bind (fr_X11_in _ _ _ _) (fun _ h => absurd h List.not_mem_nil) (fun x1 s2 => ?_)
  refine fr_if ?_ ?_
  · exact fr_some
  · refine fr_if ?_ ?_
    · exact fr_some
    · refine fr_if (fr_gi me_79 (fun s3 => ?_)) fr_none
      refine fr_gi me_80 (fun s4 => ?_)
      exact fr_some
theorem me_81 : 45 ∈ [45] := by decide
set_option maxRecDepth 100000 in
set_option maxHeartbeats 4000000 in
theorem fr_lX11_looks_0 (k38 : mx_G → Option (Int32 × mx_G)) (hk38 : ∀ (sz : mx_G), FR [45] sz (k38 sz)) : ∀ (n : Nat) (s0 : mx_G), FR [45] s0 (lX11_looks_0  k38 n  s0) := by
  intro n
  induction n with
  | zero => intro  s0; exact fr_none
  | succ n ih0 =>
    intro  s0
    rw [lX11_looks_0]
    refine fr_if ?_ ?_
    · exact hk38 _
    · refine fr_if ?_ fr_none
      refine fr_if ?_ ?_
      · refine fr_gi me_81 (fun s1 => ?_)
        exact ih0 _
      · exact hk38 _
set_option maxRecDepth 100000 in
set_option maxHeartbeats 4000000 in
theorem fr_X11_looks (s : mx_G) : FR [45] s (fX11_looks  s) := by
  unfold fX11_looks
  refine fr_lX11_looks_0 _ (fun s2 => ?_) FU _
  refine fr_if ?_ ?_
  · exact fr_some
  · refine fr_if ?_ fr_none
    exact fr_some
set_option maxRecDepth 100000 in
set_option maxHeartbeats 4000000 in
theorem fr_X11_reads (p1 : Int32) (s : mx_G) : FR [45] s (fX11_reads p1 s) := by
  unfold fX11_reads
  refine fr_j1 ?_ (fun J17 hJ17 => ?_)
  · intro q0_17 s_17
    refine fr_if (fr_gi me_81 (fun s1 => ?_)) fr_none
    refine fr_if ?_ ?_
    · refine fr_gi me_81 (fun s2 => ?_)
      exact fr_some
    · refine fr_gi me_81 (fun s3 => ?_)
      exact fr_some
  refine fr_j0 ?_ (fun J12 hJ12 => ?_)
  · intro s_12
    exact hJ17 _ _
  refine fr_if ?_ ?_
  · refine fr_if ?_ ?_
    · exact hJ12 _
    · exact hJ17 _ _
  · exact hJ12 _
theorem hs_85 : ∀ p ∈ [45], p ∈ [45, 66, 67] := by decide
theorem me_82 : 45 ∈ [45, 66, 67] := by decide
theorem me_83 : 66 ∈ [45, 66, 67] := by decide
theorem me_84 : 67 ∈ [45, 66, 67] := by decide
set_option maxRecDepth 100000 in
set_option maxHeartbeats 4000000 in
theorem fr_X11_readsLink (s : mx_G) : FR [45, 66, 67] s (fX11_readsLink  s) := by
  unfold fX11_readsLink
  refine fr_bind (fr_X11_looks  _) hs_85 (fun x1 s2 => ?_)
  refine fr_leti (fun x3 => ?_)
  refine fr_bind (fr_X11_isDomain _ _) (fun _ h => absurd h List.not_mem_nil) (fun x4 s5 => ?_)
  refine fr_bind (fr_X11_reads _ _) hs_85 (fun _ s6 => ?_)
  refine fr_j1 ?_ (fun J32 hJ32 => ?_)
  · intro q0_32 s_32
    refine fr_j1 ?_ (fun J64 hJ64 => ?_)
    · intro q0_64 s_64
      refine fr_j1 ?_ (fun J75 hJ75 => ?_)
      · intro q0_75 s_75
        refine fr_bind (fr_X11_reads _ _) hs_85 (fun _ s7 => ?_)
        refine fr_j1 ?_ (fun J96 hJ96 => ?_)
        · intro q0_96 s_96
          refine fr_j1 ?_ (fun J140 hJ140 => ?_)
          · intro q0_140 s_140
            refine fr_bind (fr_X11_reads _ _) hs_85 (fun _ s8 => ?_)
            refine fr_if ?_ ?_
            · refine fr_bind (fr_X11_looks  _) hs_85 (fun x9 s10 => ?_)
              refine fr_j1 ?_ (fun J165 hJ165 => ?_)
              · intro q0_165 s_165
                refine fr_gi me_82 (fun s11 => ?_)
                refine fr_bind (fr_X11_pair _ _ _) (fun _ h => absurd h List.not_mem_nil) (fun x12 s13 => ?_)
                refine fr_if (fr_gi me_83 (fun s14 => ?_)) fr_none
                refine fr_bind (fr_X11_pair _ _ _) (fun _ h => absurd h List.not_mem_nil) (fun x15 s16 => ?_)
                refine fr_if (fr_gi me_83 (fun s17 => ?_)) fr_none
                refine fr_bind (fr_X11_pair _ _ _) (fun _ h => absurd h List.not_mem_nil) (fun x18 s19 => ?_)
                refine fr_if (fr_gi me_84 (fun s20 => ?_)) fr_none
                refine fr_bind (fr_X11_pair _ _ _) (fun _ h => absurd h List.not_mem_nil) (fun x21 s22 => ?_)
                refine fr_if (fr_gi me_84 (fun s23 => ?_)) fr_none
                exact fr_some
              refine fr_if ?_ ?_
              · exact hJ165 _ _
              · exact hJ165 _ _
            · exact fr_some
          refine fr_j0 ?_ (fun J139 hJ139 => ?_)
          · intro s_139
            exact hJ140 _ _
          refine fr_if ?_ ?_
          · refine fr_bind (fr_X11_isDomain _ _) (fun _ h => absurd h List.not_mem_nil) (fun x24 s25 => ?_)
            refine fr_if ?_ ?_
            · exact hJ139 _
            · refine fr_if ?_ ?_
              · exact hJ139 _
              · refine fr_bind (fr_X11_pair _ _ _) (fun _ h => absurd h List.not_mem_nil) (fun x26 s27 => ?_)
                refine fr_if ?_ fr_none
                refine fr_if ?_ ?_
                · exact hJ140 _ _
                · exact hJ139 _
          · exact hJ139 _
        refine fr_if ?_ ?_
        · refine fr_bind (fr_X11_looks  _) hs_85 (fun x28 s29 => ?_)
          exact hJ96 _ _
        · exact hJ96 _ _
      refine fr_if ?_ ?_
      · exact hJ75 _ _
      · exact hJ75 _ _
    refine fr_if ?_ ?_
    · exact hJ64 _ _
    · refine fr_if ?_ ?_
      · exact hJ64 _ _
      · refine fr_if ?_ ?_
        · exact hJ64 _ _
        · exact hJ64 _ _
  refine fr_if ?_ ?_
  · refine fr_bind (fr_X11_looks  _) hs_85 (fun x30 s31 => ?_)
    exact hJ32 _ _
  · exact hJ32 _ _
set_option maxRecDepth 100000 in
set_option maxHeartbeats 4000000 in
theorem fr_lX11_readsAll_12 (k38 : mx_G → Option (Unit × mx_G)) (hk38 : ∀ (sz : mx_G), FR [45, 66, 67] sz (k38 sz)) : ∀ (n : Nat) (a1 : Int32) (s0 : mx_G), FR [45, 66, 67] s0 (lX11_readsAll_12  k38 n a1 s0) := by
  intro n
  induction n with
  | zero => intro a1 s0; exact fr_none
  | succ n ih12 =>
    intro a1 s0
    rw [lX11_readsAll_12]
    refine fr_if ?_ ?_
    · exact hk38 _
    · refine fr_if (fr_gi me_83 (fun s3 => ?_)) fr_none
      refine fr_if (fr_gi me_84 (fun s4 => ?_)) fr_none
      exact ih12 _ _
set_option maxRecDepth 100000 in
set_option maxHeartbeats 4000000 in
theorem fr_lX11_readsAll_51 (k109 : mx_G → Option (Unit × mx_G)) (hk109 : ∀ (sz : mx_G), FR [45, 66, 67] sz (k109 sz)) : ∀ (n : Nat) (a1 : Int32) (s0 : mx_G), FR [45, 66, 67] s0 (lX11_readsAll_51  k109 n a1 s0) := by
  intro n
  induction n with
  | zero => intro a1 s0; exact fr_none
  | succ n ih51 =>
    intro a1 s0
    rw [lX11_readsAll_51]
    refine fr_if ?_ ?_
    · exact hk109 _
    · refine fr_if ?_ ?_
      · refine fr_bind (fr_X11_readsLink  _) (fun _ h => h) (fun _ s8 => ?_)
        refine fr_j1 ?_ (fun J87 hJ87 => ?_)
        · intro q0_87 s_87
          refine fr_if ?_ ?_
          · refine fr_gi me_82 (fun s9 => ?_)
            exact ih51 _ _
          · refine fr_gi me_82 (fun s10 => ?_)
            exact ih51 _ _
        refine fr_j0 ?_ (fun J86 hJ86 => ?_)
        · intro s_86
          exact hJ87 _ _
        refine fr_if ?_ ?_
        · refine fr_bind (fr_X11_looks  _) hs_85 (fun x11 s12 => ?_)
          refine fr_if ?_ ?_
          · exact hJ87 _ _
          · exact hJ86 _
        · exact hJ86 _
      · exact hk109 _
set_option maxRecDepth 100000 in
set_option maxHeartbeats 4000000 in
theorem fr_X11_readsAll (s : mx_G) : FR [45, 66, 67] s (fX11_readsAll  s) := by
  unfold fX11_readsAll
  refine fr_gi me_82 (fun s1 => ?_)
  refine fr_if (fr_gi me_82 (fun s2 => ?_)) fr_none
  refine fr_lX11_readsAll_12 _ (fun s5 => ?_) FU _ _
  refine fr_bind (fr_X11_looks  _) hs_85 (fun x6 s7 => ?_)
  refine fr_j1 ?_ (fun J50 hJ50 => ?_)
  · intro q0_50 s_50
    refine fr_lX11_readsAll_51 _ (fun s13 => ?_) FU _ _
    refine fr_if ?_ ?_
    · refine fr_bind (fr_X11_looks  _) hs_85 (fun x15 s16 => ?_)
      refine fr_if ?_ ?_
      · refine fr_if (fr_gi me_82 (fun s17 => ?_)) fr_none
        exact fr_some
      · refine fr_if (fr_gi me_82 (fun s18 => ?_)) fr_none
        exact fr_some
    · refine fr_if (fr_gi me_82 (fun s14 => ?_)) fr_none
      exact fr_some
  refine fr_if ?_ ?_
  · exact hJ50 _ _
  · exact hJ50 _ _
set_option maxRecDepth 100000 in
set_option maxHeartbeats 4000000 in
theorem fr_lX11_bring_5_3 (a1 : Int32) (a3 : Int32) (a4 : Int32)  : ∀ (n : Nat) (a5 : Int32) (s0 : mx_G), FR [46] s0 (lX11_bring_5_3 a1 a3 a4  n a5 s0) := by
  intro n
  induction n with
  | zero => intro a5 s0; exact fr_none
  | succ n ih3 =>
    intro a5 s0
    rw [lX11_bring_5_3]
    refine fr_if ?_ ?_
    · exact fr_some
    · refine fr_if ?_ fr_none
      refine fr_if (fr_gi me_61 (fun s1 => ?_)) fr_none
      exact ih3 _ _
set_option maxRecDepth 100000 in
set_option maxHeartbeats 4000000 in
theorem fr_X11_bring_5 (p1 : Int32) (p3 : Int32) (p4 : Int32) (s : mx_G) : FR [46] s (fX11_bring_5 p1 p3 p4 s) := by
  unfold fX11_bring_5
  exact fr_lX11_bring_5_3 _ _ _ FU _ _
set_option maxRecDepth 100000 in
set_option maxHeartbeats 4000000 in
theorem fr_lX11_bring_6_3 (a1 : Int32) (a3 : Int32) (a4 : Int32)  : ∀ (n : Nat) (a5 : Int32) (s0 : mx_G), FR [46] s0 (lX11_bring_6_3 a1 a3 a4  n a5 s0) := by
  intro n
  induction n with
  | zero => intro a5 s0; exact fr_none
  | succ n ih3 =>
    intro a5 s0
    rw [lX11_bring_6_3]
    refine fr_if ?_ ?_
    · exact fr_some
    · refine fr_if ?_ fr_none
      refine fr_if (fr_gi me_61 (fun s1 => ?_)) fr_none
      exact ih3 _ _
set_option maxRecDepth 100000 in
set_option maxHeartbeats 4000000 in
theorem fr_X11_bring_6 (p1 : Int32) (p3 : Int32) (p4 : Int32) (s : mx_G) : FR [46] s (fX11_bring_6 p1 p3 p4 s) := by
  unfold fX11_bring_6
  exact fr_lX11_bring_6_3 _ _ _ FU _ _
theorem hs_86 : ∀ p ∈ [45, 66, 67], p ∈ [45, 46, 47, 66, 67] := by decide
theorem hs_87 : ∀ p ∈ [45], p ∈ [45, 46, 47, 66, 67] := by decide
theorem me_85 : 45 ∈ [45, 46, 47, 66, 67] := by decide
theorem hs_88 : ∀ p ∈ [45, 47], p ∈ [45, 46, 47, 66, 67] := by decide
theorem hs_89 : ∀ p ∈ [46], p ∈ [45, 46, 47, 66, 67] := by decide
set_option maxRecDepth 100000 in
set_option maxHeartbeats 4000000 in
theorem fr_X11_read (s : mx_G) : FR [45, 46, 47, 66, 67] s (fX11_read  s) := by
  unfold fX11_read
  refine fr_bind (fr_X11_readsAll  _) hs_86 (fun _ s1 => ?_)
  refine fr_bind (fr_X11_looks  _) hs_87 (fun x2 s3 => ?_)
  refine fr_leti (fun x4 => ?_)
  refine fr_gi me_85 (fun s5 => ?_)
  refine fr_if ?_ ?_
  · refine fr_bind (fr_X11_notes  _) hs_88 (fun _ s6 => ?_)
    refine fr_bind (fr_X11_bring_5 _ _ _ _) hs_89 (fun _ s7 => ?_)
    refine fr_bind (fr_X11_bring_6 _ _ _ _) hs_89 (fun _ s8 => ?_)
    refine fr_bind (fr_X11_linkMany _ _) (fun _ h => absurd h List.not_mem_nil) (fun x9 s10 => ?_)
    exact fr_some
  · exact fr_some
theorem me_86 : 46 ∈ [46, 56, 57] := by decide
theorem hs_90 : ∀ p ∈ [46, 56], p ∈ [46, 56, 57] := by decide
set_option maxRecDepth 100000 in
set_option maxHeartbeats 4000000 in
theorem fr_X11_drifts (p1 : Int32) (s : mx_G) : FR [46, 56, 57] s (fX11_drifts p1 s) := by
  unfold fX11_drifts
  refine fr_leti (fun x1 => ?_)
  refine fr_if ?_ fr_none
  refine fr_if fr_none ?_
  refine fr_leti (fun x2 => ?_)
  refine fr_if ?_ fr_none
  refine fr_if fr_none ?_
  refine fr_leti (fun x3 => ?_)
  refine fr_leti (fun x4 => ?_)
  refine fr_leti (fun x5 => ?_)
  refine fr_bind (fr_X11_pair _ _ _) (fun _ h => absurd h List.not_mem_nil) (fun x6 s7 => ?_)
  refine fr_if ?_ ?_
  · refine fr_if ?_ ?_
    · refine fr_if ?_ ?_
      · refine fr_if (fr_gi me_86 (fun s12 => ?_)) fr_none
        exact fr_some
      · refine fr_j0 ?_ (fun J125 hJ125 => ?_)
        · intro s_125
          refine fr_j0 ?_ (fun J180 hJ180 => ?_)
          · intro s_180
            refine fr_j0 ?_ (fun J210 hJ210 => ?_)
            · intro s_210
              refine fr_if ?_ ?_
              · exact fr_some
              · refine fr_if ?_ ?_
                · refine fr_if ?_ fr_none
                  refine fr_if (fr_gi me_86 (fun s8 => ?_)) fr_none
                  exact fr_some
                · exact fr_some
            refine fr_if ?_ ?_
            · exact hJ210 _
            · refine fr_if ?_ ?_
              · refine fr_if (fr_gi me_86 (fun s9 => ?_)) fr_none
                exact fr_some
              · exact hJ210 _
          refine fr_if ?_ ?_
          · exact hJ180 _
          · refine fr_if ?_ ?_
            · refine fr_if ?_ fr_none
              refine fr_if ?_ ?_
              · exact hJ180 _
              · refine fr_if ?_ fr_none
                refine fr_if ?_ fr_none
                refine fr_bind (fr_X11_links _ _ _ _ _) hs_68 (fun _ s10 => ?_)
                exact fr_some
            · exact hJ180 _
        refine fr_if ?_ ?_
        · exact hJ125 _
        · refine fr_if ?_ ?_
          · refine fr_bind (fr_X11_links _ _ _ _ _) hs_68 (fun _ s11 => ?_)
            exact fr_some
          · exact hJ125 _
    · refine fr_bind (fr_X11_turnsOnce  _) (fun _ h => h) (fun x13 s14 => ?_)
      exact fr_some
  · refine fr_bind (fr_X11_choosesAnew _ _) hs_90 (fun x15 s16 => ?_)
    exact fr_some
theorem me_87 : 46 ∈ [45, 46, 47, 56, 57] := by decide
set_option maxRecDepth 100000 in
set_option maxHeartbeats 4000000 in
theorem fr_lX11_drift_16 (a1 : Int32)  : ∀ (n : Nat) (a2 : Int32) (s0 : mx_G), FR [45, 46, 47, 56, 57] s0 (lX11_drift_16 a1  n a2 s0) := by
  intro n
  induction n with
  | zero => intro a2 s0; exact fr_none
  | succ n ih16 =>
    intro a2 s0
    rw [lX11_drift_16]
    refine fr_if ?_ ?_
    · refine fr_bind (fr_X11_chosenSet  _) (fun _ h => absurd h List.not_mem_nil) (fun x3 s4 => ?_)
      exact fr_some
    · refine fr_bind (fr_X11_notes  _) hs_70 (fun _ s5 => ?_)
      refine fr_if ?_ fr_none
      refine fr_letl (fun x6 => ?_)
      refine fr_if (fr_gi me_87 (fun s7 => ?_)) fr_none
      refine fr_if ?_ fr_none
      refine fr_bind (fr_X11_drifts _ _) hs_71 (fun _ s8 => ?_)
      exact ih16 _ _
set_option maxRecDepth 100000 in
set_option maxHeartbeats 4000000 in
theorem fr_X11_drift (p1 : Int32) (s : mx_G) : FR [45, 46, 47, 56, 57] s (fX11_drift p1 s) := by
  unfold fX11_drift
  refine fr_bind (fr_X11_in _ _ _ _) (fun _ h => absurd h List.not_mem_nil) (fun x1 s2 => ?_)
  refine fr_if ?_ ?_
  · exact fr_some
  · exact fr_lX11_drift_16 _ FU _ _
set_option maxRecDepth 100000 in
set_option maxHeartbeats 4000000 in
theorem fr_lX11_bring_7_3 (a1 : Int32) (a3 : Int32) (a4 : Int32)  : ∀ (n : Nat) (a5 : Int32) (s0 : mx_G), FR [46] s0 (lX11_bring_7_3 a1 a3 a4  n a5 s0) := by
  intro n
  induction n with
  | zero => intro a5 s0; exact fr_none
  | succ n ih3 =>
    intro a5 s0
    rw [lX11_bring_7_3]
    refine fr_if ?_ ?_
    · exact fr_some
    · refine fr_if ?_ fr_none
      refine fr_if (fr_gi me_61 (fun s1 => ?_)) fr_none
      exact ih3 _ _
set_option maxRecDepth 100000 in
set_option maxHeartbeats 4000000 in
theorem fr_X11_bring_7 (p1 : Int32) (p3 : Int32) (p4 : Int32) (s : mx_G) : FR [46] s (fX11_bring_7 p1 p3 p4 s) := by
  unfold fX11_bring_7
  exact fr_lX11_bring_7_3 _ _ _ FU _ _
theorem me_88 : 45 ∈ [45, 46] := by decide
theorem hs_91 : ∀ p ∈ [46], p ∈ [45, 46] := by decide
set_option maxRecDepth 100000 in
set_option maxHeartbeats 4000000 in
theorem fr_X11_undo (s : mx_G) : FR [45, 46] s (fX11_undo  s) := by
  unfold fX11_undo
  refine fr_if ?_ ?_
  · exact fr_some
  · refine fr_gi me_88 (fun s1 => ?_)
    refine fr_bind (fr_X11_bring_7 _ _ _ _) hs_91 (fun _ s2 => ?_)
    exact fr_some
set_option maxRecDepth 100000 in
set_option maxHeartbeats 4000000 in
theorem fr_X11_seed (p1 : Int32) (s : mx_G) : FR [46] s (fX11_seed p1 s) := by
  unfold fX11_seed
  refine fr_if ?_ ?_
  · refine fr_if ?_ fr_none
    refine fr_leti (fun x1 => ?_)
    refine fr_if (fr_gi me_61 (fun s2 => ?_)) fr_none
    exact fr_some
  · exact fr_some
theorem me_89 : 48 ∈ [48] := by decide
set_option maxRecDepth 100000 in
set_option maxHeartbeats 4000000 in
theorem fr_lX11_bring_8_3 (a1 : Int32) (a3 : Int32) (a4 : Int32)  : ∀ (n : Nat) (a5 : Int32) (s0 : mx_G), FR [48] s0 (lX11_bring_8_3 a1 a3 a4  n a5 s0) := by
  intro n
  induction n with
  | zero => intro a5 s0; exact fr_none
  | succ n ih3 =>
    intro a5 s0
    rw [lX11_bring_8_3]
    refine fr_if ?_ ?_
    · exact fr_some
    · refine fr_if ?_ fr_none
      refine fr_if (fr_gi me_89 (fun s1 => ?_)) fr_none
      exact ih3 _ _
set_option maxRecDepth 100000 in
set_option maxHeartbeats 4000000 in
theorem fr_X11_bring_8 (p1 : Int32) (p3 : Int32) (p4 : Int32) (s : mx_G) : FR [48] s (fX11_bring_8 p1 p3 p4 s) := by
  unfold fX11_bring_8
  exact fr_lX11_bring_8_3 _ _ _ FU _ _
theorem me_90 : 49 ∈ [49] := by decide
set_option maxRecDepth 100000 in
set_option maxHeartbeats 4000000 in
theorem fr_lX11_bring_9_3 (a1 : Int32) (a3 : Int32) (a4 : Int32)  : ∀ (n : Nat) (a5 : Int32) (s0 : mx_G), FR [49] s0 (lX11_bring_9_3 a1 a3 a4  n a5 s0) := by
  intro n
  induction n with
  | zero => intro a5 s0; exact fr_none
  | succ n ih3 =>
    intro a5 s0
    rw [lX11_bring_9_3]
    refine fr_if ?_ ?_
    · exact fr_some
    · refine fr_if ?_ fr_none
      refine fr_if (fr_gi me_90 (fun s1 => ?_)) fr_none
      exact ih3 _ _
set_option maxRecDepth 100000 in
set_option maxHeartbeats 4000000 in
theorem fr_X11_bring_9 (p1 : Int32) (p3 : Int32) (p4 : Int32) (s : mx_G) : FR [49] s (fX11_bring_9 p1 p3 p4 s) := by
  unfold fX11_bring_9
  exact fr_lX11_bring_9_3 _ _ _ FU _ _
theorem hs_92 : ∀ p ∈ [48], p ∈ [45, 48, 49] := by decide
theorem hs_93 : ∀ p ∈ [49], p ∈ [45, 48, 49] := by decide
theorem me_91 : 45 ∈ [45, 48, 49] := by decide
set_option maxRecDepth 100000 in
set_option maxHeartbeats 4000000 in
theorem fr_X11_image (s : mx_G) : FR [45, 48, 49] s (fX11_image  s) := by
  unfold fX11_image
  refine fr_bind (fr_X11_bring_8 _ _ _ _) hs_92 (fun _ s1 => ?_)
  refine fr_bind (fr_X11_bring_9 _ _ _ _) hs_93 (fun _ s2 => ?_)
  refine fr_gi me_91 (fun s3 => ?_)
  exact fr_some
set_option maxRecDepth 100000 in
set_option maxHeartbeats 4000000 in
theorem fr_lX11_bring_10_3 (a1 : Int32) (a3 : Int32) (a4 : Int32)  : ∀ (n : Nat) (a5 : Int32) (s0 : mx_G), FR [46] s0 (lX11_bring_10_3 a1 a3 a4  n a5 s0) := by
  intro n
  induction n with
  | zero => intro a5 s0; exact fr_none
  | succ n ih3 =>
    intro a5 s0
    rw [lX11_bring_10_3]
    refine fr_if ?_ ?_
    · exact fr_some
    · refine fr_if ?_ fr_none
      refine fr_if (fr_gi me_61 (fun s1 => ?_)) fr_none
      exact ih3 _ _
set_option maxRecDepth 100000 in
set_option maxHeartbeats 4000000 in
theorem fr_X11_bring_10 (p1 : Int32) (p3 : Int32) (p4 : Int32) (s : mx_G) : FR [46] s (fX11_bring_10 p1 p3 p4 s) := by
  unfold fX11_bring_10
  exact fr_lX11_bring_10_3 _ _ _ FU _ _
set_option maxRecDepth 100000 in
set_option maxHeartbeats 4000000 in
theorem fr_lX11_bring_11_3 (a1 : Int32) (a3 : Int32) (a4 : Int32)  : ∀ (n : Nat) (a5 : Int32) (s0 : mx_G), FR [47] s0 (lX11_bring_11_3 a1 a3 a4  n a5 s0) := by
  intro n
  induction n with
  | zero => intro a5 s0; exact fr_none
  | succ n ih3 =>
    intro a5 s0
    rw [lX11_bring_11_3]
    refine fr_if ?_ ?_
    · exact fr_some
    · refine fr_if ?_ fr_none
      refine fr_if (fr_gi me_59 (fun s1 => ?_)) fr_none
      exact ih3 _ _
set_option maxRecDepth 100000 in
set_option maxHeartbeats 4000000 in
theorem fr_X11_bring_11 (p1 : Int32) (p3 : Int32) (p4 : Int32) (s : mx_G) : FR [47] s (fX11_bring_11 p1 p3 p4 s) := by
  unfold fX11_bring_11
  exact fr_lX11_bring_11_3 _ _ _ FU _ _
theorem hs_94 : ∀ p ∈ [47], p ∈ [45, 46, 47] := by decide
theorem me_92 : 45 ∈ [45, 46, 47] := by decide
set_option maxRecDepth 100000 in
set_option maxHeartbeats 4000000 in
theorem fr_X11_restore (s : mx_G) : FR [45, 46, 47] s (fX11_restore  s) := by
  unfold fX11_restore
  refine fr_if ?_ ?_
  · refine fr_bind (fr_X11_bring_10 _ _ _ _) hs_58 (fun _ s1 => ?_)
    refine fr_bind (fr_X11_bring_11 _ _ _ _) hs_94 (fun _ s2 => ?_)
    refine fr_gi me_92 (fun s3 => ?_)
    exact fr_some
  · exact fr_some
set_option maxRecDepth 100000 in
set_option maxHeartbeats 4000000 in
theorem fr_X11_isSheet (p0 : Int32) (p1 : Int32) (s : mx_G) : FR [] s (fX11_isSheet p0 p1 s) := by
  unfold fX11_isSheet
  refine fr_bind (fr_X11_in _ _ _ _) (fun _ h => absurd h List.not_mem_nil) (fun x1 s2 => ?_)
  refine fr_if ?_ ?_
  · exact fr_some
  · refine fr_bind (fr_X11_in _ _ _ _) (fun _ h => absurd h List.not_mem_nil) (fun x3 s4 => ?_)
    refine fr_if ?_ ?_
    · exact fr_some
    · exact fr_some
set_option maxRecDepth 100000 in
set_option maxHeartbeats 4000000 in
theorem fr_X11_found (p1 : Int32) (p2 : Int32) (p3 : Int32) (p4 : Int32) (s : mx_G) : FR [] s (fX11_found p1 p2 p3 p4 s) := by
  unfold fX11_found
  refine fr_if ?_ fr_none
  refine fr_if ?_ ?_
  · refine fr_if ?_ fr_none
    refine fr_if ?_ ?_
    · refine fr_if ?_ ?_
      · exact fr_some
      · refine fr_if ?_ fr_none
        refine fr_if ?_ ?_
        · exact fr_some
        · exact fr_some
    · exact fr_some
  · exact fr_some
set_option maxRecDepth 100000 in
set_option maxHeartbeats 4000000 in
theorem fr_lX11_tried_38 (a1 : Int32) (a3 : Int32)  : ∀ (n : Nat) (a5 : Int32) (s0 : mx_G), FR [56, 59] s0 (lX11_tried_38 a1 a3  n a5 s0) := by
  intro n
  induction n with
  | zero => intro a5 s0; exact fr_none
  | succ n ih38 =>
    intro a5 s0
    rw [lX11_tried_38]
    refine fr_if ?_ fr_none
    refine fr_if ?_ ?_
    · refine fr_bind (fr_X11_thinksOfNexts  _) hs_61 (fun x5 s6 => ?_)
      refine fr_bind (fr_X11_notContent  _) (fun _ h => absurd h List.not_mem_nil) (fun x7 s8 => ?_)
      exact fr_some
    · refine fr_if ?_ fr_none
      refine fr_letl (fun x9 => ?_)
      refine fr_if ?_ fr_none
      refine fr_bind (fr_X11_in _ _ _ _) (fun _ h => absurd h List.not_mem_nil) (fun x10 s11 => ?_)
      refine fr_j0 ?_ (fun J97 hJ97 => ?_)
      · intro s_97
        refine fr_if (fr_gi me_68 (fun s12 => ?_)) fr_none
        exact ih38 _ _
      refine fr_if ?_ ?_
      · refine fr_if ?_ ?_
        · exact hJ97 _
        · exact fr_some
      · exact hJ97 _
set_option maxRecDepth 100000 in
set_option maxHeartbeats 4000000 in
theorem fr_X11_tried (p1 : Int32) (p2 : Int32) (p3 : Int32) (s : mx_G) : FR [56, 59] s (fX11_tried p1 p2 p3 s) := by
  unfold fX11_tried
  refine fr_bind (fr_X11_isSheet _ _ _) (fun _ h => absurd h List.not_mem_nil) (fun x1 s2 => ?_)
  refine fr_if ?_ ?_
  · exact fr_some
  · refine fr_if ?_ fr_none
    refine fr_bind (fr_X11_found _ _ _ _ _) (fun _ h => absurd h List.not_mem_nil) (fun x3 s4 => ?_)
    refine fr_if ?_ ?_
    · exact fr_lX11_tried_38 _ _ FU _ _
    · exact fr_some
theorem me_93 : 53 ∈ [53] := by decide
set_option maxRecDepth 100000 in
set_option maxHeartbeats 4000000 in
theorem fr_lX11_film_38 (a1 : Int32) (a3 : Int32) (k102 : mx_G → Option (Int32 × mx_G)) (hk102 : ∀ (sz : mx_G), FR [53] sz (k102 sz)) : ∀ (n : Nat) (a5 : Int32) (s0 : mx_G), FR [53] s0 (lX11_film_38 a1 a3 k102 n a5 s0) := by
  intro n
  induction n with
  | zero => intro a5 s0; exact fr_none
  | succ n ih38 =>
    intro a5 s0
    rw [lX11_film_38]
    refine fr_if ?_ fr_none
    refine fr_if ?_ ?_
    · exact hk102 _
    · refine fr_if ?_ fr_none
      refine fr_leti (fun x5 => ?_)
      refine fr_if ?_ ?_
      · refine fr_if (fr_gl me_93 (fun s9 => ?_)) fr_none
        exact ih38 _ _
      · refine fr_bind (fr_X11_second _ _) (fun _ h => absurd h List.not_mem_nil) (fun x6 s7 => ?_)
        refine fr_if (fr_gl me_93 (fun s8 => ?_)) fr_none
        exact ih38 _ _
set_option maxRecDepth 100000 in
set_option maxHeartbeats 4000000 in
theorem fr_X11_film (p1 : Int32) (p2 : Int32) (p3 : Int32) (s : mx_G) : FR [53] s (fX11_film p1 p2 p3 s) := by
  unfold fX11_film
  refine fr_bind (fr_X11_isSheet _ _ _) (fun _ h => absurd h List.not_mem_nil) (fun x1 s2 => ?_)
  refine fr_if ?_ ?_
  · exact fr_some
  · refine fr_if ?_ fr_none
    refine fr_bind (fr_X11_found _ _ _ _ _) (fun _ h => absurd h List.not_mem_nil) (fun x3 s4 => ?_)
    refine fr_if ?_ ?_
    · refine fr_lX11_film_38 _ _ _ (fun s10 => ?_) FU _ _
      refine fr_if ?_ fr_none
      exact fr_some
    · exact fr_some
theorem me_94 : 53 ∈ [51, 52, 53] := by decide
set_option maxRecDepth 100000 in
set_option maxHeartbeats 4000000 in
theorem fr_lX11_sheet_40 (a1 : Int32) (a3 : Int32)  : ∀ (n : Nat) (a4 : Int32) (s0 : mx_G), FR [51, 52, 53] s0 (lX11_sheet_40 a1 a3  n a4 s0) := by
  intro n
  induction n with
  | zero => intro a4 s0; exact fr_none
  | succ n ih40 =>
    intro a4 s0
    rw [lX11_sheet_40]
    refine fr_if ?_ ?_
    · exact fr_some
    · refine fr_if (fr_gl me_94 (fun s5 => ?_)) fr_none
      exact ih40 _ _
theorem me_95 : 51 ∈ [51, 52, 53] := by decide
theorem me_96 : 52 ∈ [51, 52, 53] := by decide
set_option maxRecDepth 100000 in
set_option maxHeartbeats 4000000 in
theorem fr_X11_sheet (p1 : Int32) (p2 : Int32) (p3 : Int32) (s : mx_G) : FR [51, 52, 53] s (fX11_sheet p1 p2 p3 s) := by
  unfold fX11_sheet
  refine fr_bind (fr_X11_isSheet _ _ _) (fun _ h => absurd h List.not_mem_nil) (fun x1 s2 => ?_)
  refine fr_if ?_ ?_
  · exact fr_some
  · refine fr_if ?_ ?_
    · refine fr_if ?_ ?_
      · refine fr_if (fr_gi me_95 (fun s3 => ?_)) fr_none
        refine fr_if (fr_gi me_96 (fun s4 => ?_)) fr_none
        exact fr_lX11_sheet_40 _ _ FU _ _
      · exact fr_some
    · exact fr_some
theorem me_97 : 51 ∈ [51] := by decide
set_option maxRecDepth 100000 in
set_option maxHeartbeats 4000000 in
theorem fr_X11_drop (p1 : Int32) (s : mx_G) : FR [51] s (fX11_drop p1 s) := by
  unfold fX11_drop
  refine fr_bind (fr_X11_in _ _ _ _) (fun _ h => absurd h List.not_mem_nil) (fun x1 s2 => ?_)
  refine fr_if ?_ ?_
  · exact fr_some
  · refine fr_if ?_ fr_none
    refine fr_if ?_ ?_
    · refine fr_if (fr_gi me_97 (fun s3 => ?_)) fr_none
      refine fr_if ?_ fr_none
      exact fr_some
    · exact fr_some
set_option maxRecDepth 100000 in
set_option maxHeartbeats 4000000 in
theorem fr_X11_lowest (p0 : Int64) (p2 : Int32) (s : mx_G) : FR [] s (fX11_lowest p0 p2 s) := by
  unfold fX11_lowest
  refine fr_if ?_ ?_
  · exact fr_some
  · refine fr_if ?_ ?_
    · exact fr_some
    · refine fr_if ?_ ?_
      · exact fr_some
      · exact fr_some
set_option maxRecDepth 100000 in
set_option maxHeartbeats 4000000 in
theorem fr_X11_item (p1 : Int32) (p2 : Int32) (p3 : Int32) (p4 : Int64) (s : mx_G) : FR [53] s (fX11_item p1 p2 p3 p4 s) := by
  unfold fX11_item
  refine fr_bind (fr_X11_isSheet _ _ _) (fun _ h => absurd h List.not_mem_nil) (fun x1 s2 => ?_)
  refine fr_if ?_ ?_
  · exact fr_some
  · refine fr_bind (fr_X11_found _ _ _ _ _) (fun _ h => absurd h List.not_mem_nil) (fun x3 s4 => ?_)
    refine fr_if ?_ ?_
    · refine fr_bind (fr_X11_lowest _ _ _) (fun _ h => absurd h List.not_mem_nil) (fun x5 s6 => ?_)
      refine fr_if (fr_gl me_93 (fun s7 => ?_)) fr_none
      exact fr_some
    · exact fr_some
set_option maxRecDepth 100000 in
set_option maxHeartbeats 4000000 in
theorem fr_lX11_copy_132 (a1 : Int32) (a2 : Int32) (a3 : Int32) (a4 : Int32) (a5 : Int32) (a6 : Int32)  : ∀ (n : Nat) (a7 : Int32) (s0 : mx_G), FR [53] s0 (lX11_copy_132 a1 a2 a3 a4 a5 a6  n a7 s0) := by
  intro n
  induction n with
  | zero => intro a7 s0; exact fr_none
  | succ n ih132 =>
    intro a7 s0
    rw [lX11_copy_132]
    refine fr_if ?_ ?_
    · exact fr_some
    · refine fr_j1 ?_ (fun J156 hJ156 => ?_)
      · intro q0_156 s_156
        refine fr_if ?_ fr_none
        refine fr_if (fr_gl me_93 (fun s5 => ?_)) fr_none
        exact ih132 _ _
      refine fr_if ?_ ?_
      · exact hJ156 _ _
      · exact hJ156 _ _
set_option maxRecDepth 100000 in
set_option maxHeartbeats 4000000 in
theorem fr_X11_copy (p1 : Int32) (p2 : Int32) (p3 : Int32) (p4 : Int32) (p5 : Int32) (s : mx_G) : FR [53] s (fX11_copy p1 p2 p3 p4 p5 s) := by
  unfold fX11_copy
  refine fr_bind (fr_X11_in _ _ _ _) (fun _ h => absurd h List.not_mem_nil) (fun x1 s2 => ?_)
  refine fr_if ?_ ?_
  · exact fr_some
  · refine fr_bind (fr_X11_in _ _ _ _) (fun _ h => absurd h List.not_mem_nil) (fun x3 s4 => ?_)
    refine fr_if ?_ ?_
    · exact fr_some
    · refine fr_if ?_ fr_none
      refine fr_if ?_ ?_
      · exact fr_some
      · refine fr_if ?_ fr_none
        refine fr_if ?_ ?_
        · refine fr_if ?_ fr_none
          refine fr_if ?_ fr_none
          refine fr_if ?_ ?_
          · refine fr_if ?_ ?_
            · exact fr_some
            · refine fr_if ?_ ?_
              · exact fr_some
              · refine fr_if ?_ ?_
                · exact fr_some
                · refine fr_if ?_ ?_
                  · exact fr_some
                  · refine fr_if ?_ fr_none
                    refine fr_if ?_ ?_
                    · exact fr_some
                    · refine fr_if ?_ fr_none
                      refine fr_if ?_ ?_
                      · refine fr_j1 ?_ (fun J127 hJ127 => ?_)
                        · intro q0_127 s_127
                          exact fr_lX11_copy_132 _ _ _ _ _ _ FU _ _
                        refine fr_if ?_ ?_
                        · exact hJ127 _ _
                        · exact hJ127 _ _
                      · exact fr_some
          · exact fr_some
        · exact fr_some
