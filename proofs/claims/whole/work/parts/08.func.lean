/-! THE MAIN PHASE: the cells' shape is fixed; the state is two tables of numbers (ints and longs, by cell and place). mf_X r: if the function's answer r is some end, the machine comes to that end. -/
abbrev mx_G : Type := (Nat → Nat → Int32) × (Nat → Nat → Int64)
abbrev mk_e : Type := (FieldType × Nat) ⊕ (Nat × List (Option Nat))
def mk_s : List mk_e := [.inr (9, [some 1, some 3, some 5, some 7, none, some 9, some 15, some 25, some 31, some 34, some 36, some 40, some 44]), .inr (8, [some 2]), .inl (.int, 128), .inr (2, [some 4, none, none]), .inl (.int, 768), .inr (8, [some 6]), .inl (.int, 128), .inr (2, [some 8, none, none]), .inl (.int, 768), .inr (0, [some 10, some 11, some 12, some 13, some 14]), .inl (.int, 6), .inl (.int, 6), .inl (.int, 6), .inl (.int, 6), .inl (.int, 6), .inr (7, [some 16, none, none, some 17, some 18, some 19, some 20, some 21, some 22, some 23, some 24]), .inl (.int, 121), .inl (.int, 326), .inl (.int, 326), .inl (.int, 326), .inl (.int, 326), .inl (.int, 326), .inl (.int, 326), .inl (.int, 6), .inl (.int, 390), .inr (4, [none, none, none, none, some 26, some 27, some 28, some 29, some 30]), .inl (.long, 1956), .inl (.long, 6), .inl (.long, 6), .inl (.long, 6), .inl (.long, 6), .inr (3, [none, none, some 32, some 33]), .inl (.int, 2117), .inl (.int, 6), .inr (1, [none, none, some 35]), .inl (.int, 366), .inr (6, [some 37, none, none, none, none, none, none, some 38, some 39]), .inl (.int, 80), .inl (.int, 36), .inl (.boolean, 36), .inr (5, [some 41, some 42, some 43]), .inl (.int, 4), .inl (.int, 4), .inl (.long, 96), .inl (.int, 6), .inr (10, [some 46, some 47, none, some 48, some 49, none, some 50, none, some 51, some 52, some 53, some 54, some 55, none, some 56, some 57, some 58, some 59, some 60, some 61, some 62, some 63, some 64, some 65, none, none, some 66, some 67]), .inl (.int, 128), .inl (.int, 768), .inl (.int, 128), .inl (.int, 768), .inl (.int, 80), .inl (.int, 4), .inl (.int, 4), .inl (.long, 96), .inl (.int, 326), .inl (.int, 326), .inl (.int, 6), .inl (.int, 6), .inl (.int, 366), .inl (.int, 6), .inl (.long, 1956), .inl (.long, 6), .inl (.long, 6), .inl (.long, 6), .inl (.int, 36), .inl (.int, 65), .inl (.int, 36), .inl (.int, 36)]
def mk_n : Nat := 68
def mk_f (v : Nat → Int32) (k : Nat) (o : Option Nat) : Value := match o with
  | some q => .ref q
  | none => .int (v k)
def mk_c (σ : mx_G) (p : Nat) (s : mk_e) : mx_C := match s with
  | .inl (.long, n) => .inl (.long, n, .inr (.inl (σ.2 p)))
  | .inl (t, n) => .inl (t, n, .inl (σ.1 p))
  | .inr (ci, tm) => .inr (ci, tm.mapIdx (mk_f (σ.1 p)))
def mk_h (σ : mx_G) : List mx_C := mk_s.mapIdx (mk_c σ)
def gs (σ : mx_G) (p : Nat) (f : Nat → Int32) : mx_G := (fun q => if q = p then f else σ.1 q, σ.2)
def gt (σ : mx_G) (p : Nat) (f : Nat → Int64) : mx_G := (σ.1, fun q => if q = p then f else σ.2 q)
def gi (σ : mx_G) (p k : Nat) (x : Int32) : mx_G := gs σ p (upd (σ.1 p) k x)
def gl (σ : mx_G) (p k : Nat) (x : Int64) : mx_G := gt σ p (vp_updL (σ.2 p) k x)
def ix (j : Int32) (n : Nat) : Bool := !(decide (j < 0)) && decide (j.toNatClampNeg < n)
theorem ix_in {j : Int32} {n : Nat} : ix j n = true ↔ vp_in j n := by
  simp [ix, vp_in, Int32.not_lt]
def cp (sp dp n : Int32) (n2 n1 : Nat) : Bool := !(decide (sp < 0)) && !(decide (dp < 0)) && !(decide (n < 0)) && decide (sp.toNatClampNeg + n.toNatClampNeg ≤ n2) && decide (dp.toNatClampNeg + n.toNatClampNeg ≤ n1)
def mv_let {α β : Sort _} (a : α) (f : α → β) : β := f a
def mv_bind {α β : Type} (r : Option (β × mx_G)) (f : β → mx_G → Option (α × mx_G)) : Option (α × mx_G) := match r with
  | some (x, σ) => f x σ
  | none => none
def FU : Nat := 1000000
theorem mk_len (σ : mx_G) : (mk_h σ).length = mk_n := by
  rw [mk_h, List.length_mapIdx]; decide +kernel
theorem mk_at {σ : mx_G} {p : Nat} {e : mk_e} (h : mk_s[p]? = some e) : (mk_h σ)[p]? = some (mk_c σ p e) := by
  simp [mk_h, List.getElem?_mapIdx, h]
theorem mk_set {σ τ : mx_G} {p : Nat} {e : mk_e} (h : mk_s[p]? = some e) (hq : ∀ q e', q ≠ p → mk_c τ q e' = mk_c σ q e') : (mk_h σ).set p (mk_c τ p e) = mk_h τ := by
  apply List.ext_getElem?
  intro j
  unfold mk_h
  rw [List.getElem?_set, List.getElem?_mapIdx, List.getElem?_mapIdx, List.length_mapIdx]
  by_cases hj : p = j
  · subst hj
    rw [if_pos rfl, h]
    have hl : p < mk_s.length := (List.getElem?_eq_some_iff.mp h).1
    simp [hl]
  · rw [if_neg hj]
    cases hs : mk_s[j]? with
    | none => rfl
    | some e' => simp only [Option.map_some]; rw [hq j e' (fun z => hj z.symm)]
theorem mk_gs_ne {σ : mx_G} {p q : Nat} {f : Nat → Int32} (h : q ≠ p) : (gs σ p f).1 q = σ.1 q := if_neg h
theorem mk_gt_ne {σ : mx_G} {p q : Nat} {f : Nat → Int64} (h : q ≠ p) : (gt σ p f).2 q = σ.2 q := if_neg h
theorem mk_gs_at {σ : mx_G} {p : Nat} {f : Nat → Int32} : (gs σ p f).1 p = f := if_pos rfl
theorem mk_gt_at {σ : mx_G} {p : Nat} {f : Nat → Int64} : (gt σ p f).2 p = f := if_pos rfl
theorem mk_gs {σ : mx_G} {p : Nat} {f : Nat → Int32} {q : Nat} {e : mk_e} (h : q ≠ p) : mk_c (gs σ p f) q e = mk_c σ q e := by
  have h1 : (gs σ p f).1 q = σ.1 q := mk_gs_ne h
  have h2 : (gs σ p f).2 = σ.2 := rfl
  unfold mk_c
  rw [h1, h2]
theorem mk_gt {σ : mx_G} {p : Nat} {f : Nat → Int64} {q : Nat} {e : mk_e} (h : q ≠ p) : mk_c (gt σ p f) q e = mk_c σ q e := by
  have h1 : (gt σ p f).2 q = σ.2 q := mk_gt_ne h
  have h2 : (gt σ p f).1 = σ.1 := rfl
  unfold mk_c
  rw [h1, h2]
theorem mk_setI {σ : mx_G} {p n : Nat} {f : Nat → Int32} (h : mk_s[p]? = some (.inl (.int, n))) : (mk_h σ).set p (.inl (.int, n, .inl f)) = mk_h (gs σ p f) := by
  have := mk_set (σ := σ) (τ := gs σ p f) h (fun q e' hq => mk_gs hq)
  rwa [show mk_c (gs σ p f) p (.inl (.int, n)) = .inl (.int, n, .inl f) by simp [mk_c, mk_gs_at]] at this
theorem mk_setZ {σ : mx_G} {p n : Nat} {f : Nat → Int32} (h : mk_s[p]? = some (.inl (.boolean, n))) : (mk_h σ).set p (.inl (.boolean, n, .inl f)) = mk_h (gs σ p f) := by
  have := mk_set (σ := σ) (τ := gs σ p f) h (fun q e' hq => mk_gs hq)
  rwa [show mk_c (gs σ p f) p (.inl (.boolean, n)) = .inl (.boolean, n, .inl f) by simp [mk_c, mk_gs_at]] at this
theorem mk_setL {σ : mx_G} {p n : Nat} {f : Nat → Int64} (h : mk_s[p]? = some (.inl (.long, n))) : (mk_h σ).set p (.inl (.long, n, .inr (.inl f))) = mk_h (gt σ p f) := by
  have := mk_set (σ := σ) (τ := gt σ p f) h (fun q e' hq => mk_gt hq)
  rwa [show mk_c (gt σ p f) p (.inl (.long, n)) = .inl (.long, n, .inr (.inl f)) by simp [mk_c, mk_gt_at]] at this
theorem mk_setF {σ : mx_G} {p ci k : Nat} {tm : List (Option Nat)} {x : Int32} (h : mk_s[p]? = some (.inr (ci, tm))) (hk : tm[k]? = some none) : (mk_h σ).set p (.inr (ci, (tm.mapIdx (mk_f (σ.1 p))).set k (.int x))) = mk_h (gi σ p k x) := by
  have e1 : (tm.mapIdx (mk_f (σ.1 p))).set k (.int x) = tm.mapIdx (mk_f (upd (σ.1 p) k x)) := by
    apply List.ext_getElem?
    intro j
    rw [List.getElem?_set, List.getElem?_mapIdx, List.getElem?_mapIdx, List.length_mapIdx]
    by_cases hj : k = j
    · subst hj
      have hl : k < tm.length := (List.getElem?_eq_some_iff.mp hk).1
      rw [if_pos rfl, if_pos hl, hk]
      simp [mk_f, upd]
    · rw [if_neg hj]
      cases tm[j]? with
      | none => rfl
      | some o => cases o with
        | none => simp [mk_f, upd]; exact fun z => absurd z.symm hj
        | some q => rfl
  have e2 : mk_c (gi σ p k x) p (.inr (ci, tm)) = .inr (ci, tm.mapIdx (mk_f (upd (σ.1 p) k x))) := by
    show Sum.inr (ci, tm.mapIdx (mk_f ((gi σ p k x).1 p))) = _
    rw [show (gi σ p k x).1 p = upd (σ.1 p) k x from mk_gs_at]
  rw [e1, ← e2]
  exact mk_set h (fun q e' hq => mk_gs hq)
def mf_X {α : Type} (emb : α → Option Value) (l : Launch) (own : String) (cc : ByteArray) (nL : Nat) (rt : Option FieldType) (nm : String) (d : Nat) (r : Option (α × mx_G)) (pc : Nat) (loc : List (Nat × Value)) (stk : List Value) (σ : mx_G) : Prop :=
  ∀ (a : α) (σ' : mx_G), r = some (a, σ') → mx_X l mx_E0 own cc nL rt nm (mx_rm d 0 0) (mx_Qm mk_n (emb a) (mk_h σ') 0 0) mk_n pc loc stk (mk_h σ) 0 0
def mf_M {α : Type} (emb : α → Option Value) (l : Launch) (y : MethodName) (cc : ByteArray) (nL : Nat) (rt : Option FieldType) (d : Nat) (args : List Value) (σ : mx_G) (r : Option (α × mx_G)) : Prop :=
  ∀ (a : α) (σ' : mx_G), r = some (a, σ') → mx_M l y cc nL rt d args (mk_h σ) (emb a) (mk_h σ') 0 0
def ei (x : Int32) : Option Value := some (.int x)
def el (x : Int64) : Option Value := some (.long x)
def ev (_ : Unit) : Option Value := none
section MF
variable {α : Type} {emb : α → Option Value} {l : Launch} {own : String} {cc : ByteArray} {nL : Nat} {rt : Option FieldType} {nm : String} {d : Nat} {r r1 r2 : Option (α × mx_G)} {pc : Nat} {loc : List (Nat × Value)} {stk : List Value} {σ : mx_G}
theorem mf_intro {y : MethodName} {args : List Value} (hy : plainName y.cls = true) (hn : (lg_sl args).length ≤ nL) (ho : y.cls = own) (hm : y.name = nm) (k : mf_X emb l own cc nL rt nm d r 0 (lv_args 0 args) [] σ) : mf_M emb l y cc nL rt d args σ r := fun a σ' hr => mx_intro hy hn ho hm (by rw [mk_len]; exact k a σ' hr)
theorem mf_none : mf_X emb l own cc nL rt nm d none pc loc stk σ := fun _ _ h => by cases h
theorem mf_Mnone {y : MethodName} {args : List Value} : mf_M emb l y cc nL rt d args σ none := fun _ _ h => by cases h
theorem mf_if {c : Prop} [inst : Decidable c] (kt : c → mf_X emb l own cc nL rt nm d r1 pc loc stk σ) (kf : ¬ c → mf_X emb l own cc nL rt nm d r2 pc loc stk σ) : mf_X emb l own cc nL rt nm d (if c then r1 else r2) pc loc stk σ := fun a σ' hr => by
  by_cases h : c
  · rw [if_pos h] at hr; exact kt h a σ' hr
  · rw [if_neg h] at hr; exact kf h a σ' hr
theorem mf_join {β : Sort _} {B : β} {f : β → Option (α × mx_G)} (Pj : β → Prop) (hB : Pj B) (k : ∀ J, Pj J → mf_X emb l own cc nL rt nm d (f J) pc loc stk σ) : mf_X emb l own cc nL rt nm d (mv_let B f) pc loc stk σ := k B hB
theorem mf_leti {e : Int32} {f : Int32 → Option (α × mx_G)} (k : ∀ y : Int32, mf_X emb l own cc nL rt nm d (f y) pc loc (.int y :: stk) σ) : mf_X emb l own cc nL rt nm d (mv_let e f) pc loc (.int e :: stk) σ := k e
theorem mf_letl {e : Int64} {f : Int64 → Option (α × mx_G)} (k : ∀ y : Int64, mf_X emb l own cc nL rt nm d (f y) pc loc (.long y :: stk) σ) : mf_X emb l own cc nL rt nm d (mv_let e f) pc loc (.long e :: stk) σ := k e
theorem mf_sub (zs : List Nat) {loc' : List (Nat × Value)} (hL : lv_pick loc zs = loc') (k : mf_X emb l own cc nL rt nm d r pc loc' stk σ) : mf_X emb l own cc nL rt nm d r pc loc stk σ := fun a σ' hr => mx_sub zs hL (k a σ' hr)
theorem mf_iconst (v : Int32) {n : Int} (dd : decode cc pc = .ok (.iconst n, 1)) (hv : Int32.ofInt n = v) (k : mf_X emb l own cc nL rt nm d r (pc + 1) loc (.int v :: stk) σ) : mf_X emb l own cc nL rt nm d r pc loc stk σ := fun a σ' hr => mx_iconst v dd hv (k a σ' hr)
theorem mf_bipush (v : Int32) {n : Int} (dd : decode cc pc = .ok (.bipush n, 2)) (hv : (Int8.ofInt n).toInt32 = v) (k : mf_X emb l own cc nL rt nm d r (pc + 2) loc (.int v :: stk) σ) : mf_X emb l own cc nL rt nm d r pc loc stk σ := fun a σ' hr => mx_bipush v dd hv (k a σ' hr)
theorem mf_sipush (v : Int32) {n : Int} (dd : decode cc pc = .ok (.sipush n, 3)) (hv : (Int16.ofInt n).toInt32 = v) (k : mf_X emb l own cc nL rt nm d r (pc + 3) loc (.int v :: stk) σ) : mf_X emb l own cc nL rt nm d r pc loc stk σ := fun a σ' hr => mx_sipush v dd hv (k a σ' hr)
theorem mf_lconst (v : Int64) {n : Fin 2} (dd : decode cc pc = .ok (.lconst n, 1)) (hv : Int64.ofNat (n : Nat) = v) (k : mf_X emb l own cc nL rt nm d r (pc + 1) loc (.long v :: stk) σ) : mf_X emb l own cc nL rt nm d r pc loc stk σ := fun a σ' hr => mx_lconst v dd hv (k a σ' hr)
theorem mf_ldc {v : Int32} {index : Nat} (hc : Cond.constant own index v ∈ mx_T) (dd : decode cc pc = .ok (.ldc index, 2)) (k : mf_X emb l own cc nL rt nm d r (pc + 2) loc (.int v :: stk) σ) : mf_X emb l own cc nL rt nm d r pc loc stk σ := fun a σ' hr => mx_ldc hc dd (k a σ' hr)
theorem mf_ldcw {v : Int32} {index : Nat} (hc : Cond.constant own index v ∈ mx_T) (dd : decode cc pc = .ok (.ldc_w index, 3)) (k : mf_X emb l own cc nL rt nm d r (pc + 3) loc (.int v :: stk) σ) : mf_X emb l own cc nL rt nm d r pc loc stk σ := fun a σ' hr => mx_ldcw hc dd (k a σ' hr)
theorem mf_ldc2 {v : Int64} {index : Nat} (hc : Cond.constantLong own index v ∈ mx_T) (dd : decode cc pc = .ok (.ldc2_w index, 3)) (k : mf_X emb l own cc nL rt nm d r (pc + 3) loc (.long v :: stk) σ) : mf_X emb l own cc nL rt nm d r pc loc stk σ := fun a σ' hr => mx_ldc2 hc dd (k a σ' hr)
theorem mf_iload_n {q : Fin 4} {i : Nat} {x : Int32} (dd : decode cc pc = .ok (.iload_n q, 1)) (hi : (q : Nat) = i) (z : Nat) (hz : loc[z]? = some (i, .int x)) (k : mf_X emb l own cc nL rt nm d r (pc + 1) loc (.int x :: stk) σ) : mf_X emb l own cc nL rt nm d r pc loc stk σ := fun a σ' hr => mx_iload_n dd hi z hz (k a σ' hr)
theorem mf_iload {i : Nat} {x : Int32} (dd : decode cc pc = .ok (.iload i, 2)) (z : Nat) (hz : loc[z]? = some (i, .int x)) (k : mf_X emb l own cc nL rt nm d r (pc + 2) loc (.int x :: stk) σ) : mf_X emb l own cc nL rt nm d r pc loc stk σ := fun a σ' hr => mx_iload dd z hz (k a σ' hr)
theorem mf_istore_n {q : Fin 4} {i : Nat} {x : Int32} (loc' : List (Nat × Value)) (dd : decode cc pc = .ok (.istore_n q, 1)) (hi : (q : Nat) = i) (hn : i < nL) (hL : mx_st1 i (.int x) loc = loc') (k : mf_X emb l own cc nL rt nm d r (pc + 1) loc' stk σ) : mf_X emb l own cc nL rt nm d r pc loc (.int x :: stk) σ := fun a σ' hr => mx_istore_n loc' dd hi hn hL (k a σ' hr)
theorem mf_istore {i : Nat} {x : Int32} (loc' : List (Nat × Value)) (dd : decode cc pc = .ok (.istore i, 2)) (hn : i < nL) (hL : mx_st1 i (.int x) loc = loc') (k : mf_X emb l own cc nL rt nm d r (pc + 2) loc' stk σ) : mf_X emb l own cc nL rt nm d r pc loc (.int x :: stk) σ := fun a σ' hr => mx_istore loc' dd hn hL (k a σ' hr)
theorem mf_lload_n {q : Fin 4} {i : Nat} {x : Int64} (dd : decode cc pc = .ok (.lload_n q, 1)) (hi : (q : Nat) = i) (z : Nat) (hz : loc[z]? = some (i, .long x)) (k : mf_X emb l own cc nL rt nm d r (pc + 1) loc (.long x :: stk) σ) : mf_X emb l own cc nL rt nm d r pc loc stk σ := fun a σ' hr => mx_lload_n dd hi z hz (k a σ' hr)
theorem mf_lload {i : Nat} {x : Int64} (dd : decode cc pc = .ok (.lload i, 2)) (z : Nat) (hz : loc[z]? = some (i, .long x)) (k : mf_X emb l own cc nL rt nm d r (pc + 2) loc (.long x :: stk) σ) : mf_X emb l own cc nL rt nm d r pc loc stk σ := fun a σ' hr => mx_lload dd z hz (k a σ' hr)
theorem mf_lstore_n {q : Fin 4} {i : Nat} {x : Int64} (loc' : List (Nat × Value)) (dd : decode cc pc = .ok (.lstore_n q, 1)) (hi : (q : Nat) = i) (hn : i + 1 < nL) (hL : mx_st2 i (.long x) loc = loc') (k : mf_X emb l own cc nL rt nm d r (pc + 1) loc' stk σ) : mf_X emb l own cc nL rt nm d r pc loc (.long x :: stk) σ := fun a σ' hr => mx_lstore_n loc' dd hi hn hL (k a σ' hr)
theorem mf_lstore {i : Nat} {x : Int64} (loc' : List (Nat × Value)) (dd : decode cc pc = .ok (.lstore i, 2)) (hn : i + 1 < nL) (hL : mx_st2 i (.long x) loc = loc') (k : mf_X emb l own cc nL rt nm d r (pc + 2) loc' stk σ) : mf_X emb l own cc nL rt nm d r pc loc (.long x :: stk) σ := fun a σ' hr => mx_lstore loc' dd hn hL (k a σ' hr)
theorem mf_aload_n {q : Fin 4} {i : Nat} {x : Nat} (dd : decode cc pc = .ok (.aload_n q, 1)) (hi : (q : Nat) = i) (z : Nat) (hz : loc[z]? = some (i, .ref x)) (k : mf_X emb l own cc nL rt nm d r (pc + 1) loc (.ref x :: stk) σ) : mf_X emb l own cc nL rt nm d r pc loc stk σ := fun a σ' hr => mx_aload_n dd hi z hz (k a σ' hr)
theorem mf_aload {i : Nat} {x : Nat} (dd : decode cc pc = .ok (.aload i, 2)) (z : Nat) (hz : loc[z]? = some (i, .ref x)) (k : mf_X emb l own cc nL rt nm d r (pc + 2) loc (.ref x :: stk) σ) : mf_X emb l own cc nL rt nm d r pc loc stk σ := fun a σ' hr => mx_aload dd z hz (k a σ' hr)
theorem mf_astore_n {q : Fin 4} {i : Nat} {x : Nat} (loc' : List (Nat × Value)) (dd : decode cc pc = .ok (.astore_n q, 1)) (hi : (q : Nat) = i) (hn : i < nL) (hL : mx_st1 i (.ref x) loc = loc') (k : mf_X emb l own cc nL rt nm d r (pc + 1) loc' stk σ) : mf_X emb l own cc nL rt nm d r pc loc (.ref x :: stk) σ := fun a σ' hr => mx_astore_n loc' dd hi hn hL (k a σ' hr)
theorem mf_astore {i : Nat} {x : Nat} (loc' : List (Nat × Value)) (dd : decode cc pc = .ok (.astore i, 2)) (hn : i < nL) (hL : mx_st1 i (.ref x) loc = loc') (k : mf_X emb l own cc nL rt nm d r (pc + 2) loc' stk σ) : mf_X emb l own cc nL rt nm d r pc loc (.ref x :: stk) σ := fun a σ' hr => mx_astore loc' dd hn hL (k a σ' hr)
theorem mf_iinc {i : Nat} {n : Int} {x : Int32} (v : Int32) (loc' : List (Nat × Value)) (dd : decode cc pc = .ok (.iinc i n, 3)) (z : Nat) (hz : loc[z]? = some (i, .int x)) (hv : Int32.ofInt n = v) (hn : i < nL) (hL : mx_st1 i (.int (x + v)) loc = loc') (k : mf_X emb l own cc nL rt nm d r (pc + 3) loc' stk σ) : mf_X emb l own cc nL rt nm d r pc loc stk σ := fun a σ' hr => mx_iinc v loc' dd z hz hv hn hL (k a σ' hr)
theorem mf_iadd {x y : Int32} (dd : decode cc pc = .ok (.iadd, 1)) (k : mf_X emb l own cc nL rt nm d r (pc + 1) loc (.int (x + y) :: stk) σ) : mf_X emb l own cc nL rt nm d r pc loc (.int y :: .int x :: stk) σ := fun a σ' hr => mx_iadd dd (k a σ' hr)
theorem mf_isub {x y : Int32} (dd : decode cc pc = .ok (.isub, 1)) (k : mf_X emb l own cc nL rt nm d r (pc + 1) loc (.int (x - y) :: stk) σ) : mf_X emb l own cc nL rt nm d r pc loc (.int y :: .int x :: stk) σ := fun a σ' hr => mx_isub dd (k a σ' hr)
theorem mf_imul {x y : Int32} (dd : decode cc pc = .ok (.imul, 1)) (k : mf_X emb l own cc nL rt nm d r (pc + 1) loc (.int (x * y) :: stk) σ) : mf_X emb l own cc nL rt nm d r pc loc (.int y :: .int x :: stk) σ := fun a σ' hr => mx_imul dd (k a σ' hr)
theorem mf_iand {x y : Int32} (dd : decode cc pc = .ok (.iand, 1)) (k : mf_X emb l own cc nL rt nm d r (pc + 1) loc (.int (x &&& y) :: stk) σ) : mf_X emb l own cc nL rt nm d r pc loc (.int y :: .int x :: stk) σ := fun a σ' hr => mx_iand dd (k a σ' hr)
theorem mf_ior {x y : Int32} (dd : decode cc pc = .ok (.ior, 1)) (k : mf_X emb l own cc nL rt nm d r (pc + 1) loc (.int (x ||| y) :: stk) σ) : mf_X emb l own cc nL rt nm d r pc loc (.int y :: .int x :: stk) σ := fun a σ' hr => mx_ior dd (k a σ' hr)
theorem mf_ixor {x y : Int32} (dd : decode cc pc = .ok (.ixor, 1)) (k : mf_X emb l own cc nL rt nm d r (pc + 1) loc (.int (x ^^^ y) :: stk) σ) : mf_X emb l own cc nL rt nm d r pc loc (.int y :: .int x :: stk) σ := fun a σ' hr => mx_ixor dd (k a σ' hr)
theorem mf_ishl {x y : Int32} (dd : decode cc pc = .ok (.ishl, 1)) (k : mf_X emb l own cc nL rt nm d r (pc + 1) loc (.int (mv_shl x y) :: stk) σ) : mf_X emb l own cc nL rt nm d r pc loc (.int y :: .int x :: stk) σ := fun a σ' hr => mx_ishl dd (k a σ' hr)
theorem mf_ishr {x y : Int32} (dd : decode cc pc = .ok (.ishr, 1)) (k : mf_X emb l own cc nL rt nm d r (pc + 1) loc (.int (mv_shr x y) :: stk) σ) : mf_X emb l own cc nL rt nm d r pc loc (.int y :: .int x :: stk) σ := fun a σ' hr => mx_ishr dd (k a σ' hr)
theorem mf_iushr {x y : Int32} (dd : decode cc pc = .ok (.iushr, 1)) (k : mf_X emb l own cc nL rt nm d r (pc + 1) loc (.int (mv_ushr x y) :: stk) σ) : mf_X emb l own cc nL rt nm d r pc loc (.int y :: .int x :: stk) σ := fun a σ' hr => mx_iushr dd (k a σ' hr)
theorem mf_idiv {x y : Int32} (hy : ¬ y = 0) (dd : decode cc pc = .ok (.idiv, 1)) (k : mf_X emb l own cc nL rt nm d r (pc + 1) loc (.int (x / y) :: stk) σ) : mf_X emb l own cc nL rt nm d r pc loc (.int y :: .int x :: stk) σ := fun a σ' hr => mx_idiv hy dd (k a σ' hr)
theorem mf_irem {x y : Int32} (hy : ¬ y = 0) (dd : decode cc pc = .ok (.irem, 1)) (k : mf_X emb l own cc nL rt nm d r (pc + 1) loc (.int (mv_rem x y) :: stk) σ) : mf_X emb l own cc nL rt nm d r pc loc (.int y :: .int x :: stk) σ := fun a σ' hr => mx_irem hy dd (k a σ' hr)
theorem mf_ineg {x : Int32} (dd : decode cc pc = .ok (.ineg, 1)) (k : mf_X emb l own cc nL rt nm d r (pc + 1) loc (.int (-x) :: stk) σ) : mf_X emb l own cc nL rt nm d r pc loc (.int x :: stk) σ := fun a σ' hr => mx_ineg dd (k a σ' hr)
theorem mf_ladd {x y : Int64} (dd : decode cc pc = .ok (.ladd, 1)) (k : mf_X emb l own cc nL rt nm d r (pc + 1) loc (.long (x + y) :: stk) σ) : mf_X emb l own cc nL rt nm d r pc loc (.long y :: .long x :: stk) σ := fun a σ' hr => mx_ladd dd (k a σ' hr)
theorem mf_lsub {x y : Int64} (dd : decode cc pc = .ok (.lsub, 1)) (k : mf_X emb l own cc nL rt nm d r (pc + 1) loc (.long (x - y) :: stk) σ) : mf_X emb l own cc nL rt nm d r pc loc (.long y :: .long x :: stk) σ := fun a σ' hr => mx_lsub dd (k a σ' hr)
theorem mf_lmul {x y : Int64} (dd : decode cc pc = .ok (.lmul, 1)) (k : mf_X emb l own cc nL rt nm d r (pc + 1) loc (.long (x * y) :: stk) σ) : mf_X emb l own cc nL rt nm d r pc loc (.long y :: .long x :: stk) σ := fun a σ' hr => mx_lmul dd (k a σ' hr)
theorem mf_land {x y : Int64} (dd : decode cc pc = .ok (.land, 1)) (k : mf_X emb l own cc nL rt nm d r (pc + 1) loc (.long (x &&& y) :: stk) σ) : mf_X emb l own cc nL rt nm d r pc loc (.long y :: .long x :: stk) σ := fun a σ' hr => mx_land dd (k a σ' hr)
theorem mf_lor {x y : Int64} (dd : decode cc pc = .ok (.lor, 1)) (k : mf_X emb l own cc nL rt nm d r (pc + 1) loc (.long (x ||| y) :: stk) σ) : mf_X emb l own cc nL rt nm d r pc loc (.long y :: .long x :: stk) σ := fun a σ' hr => mx_lor dd (k a σ' hr)
theorem mf_lxor {x y : Int64} (dd : decode cc pc = .ok (.lxor, 1)) (k : mf_X emb l own cc nL rt nm d r (pc + 1) loc (.long (x ^^^ y) :: stk) σ) : mf_X emb l own cc nL rt nm d r pc loc (.long y :: .long x :: stk) σ := fun a σ' hr => mx_lxor dd (k a σ' hr)
theorem mf_ldiv {x y : Int64} (hy : ¬ y = 0) (dd : decode cc pc = .ok (.ldiv, 1)) (k : mf_X emb l own cc nL rt nm d r (pc + 1) loc (.long (x / y) :: stk) σ) : mf_X emb l own cc nL rt nm d r pc loc (.long y :: .long x :: stk) σ := fun a σ' hr => mx_ldiv hy dd (k a σ' hr)
theorem mf_lrem {x y : Int64} (hy : ¬ y = 0) (dd : decode cc pc = .ok (.lrem, 1)) (k : mf_X emb l own cc nL rt nm d r (pc + 1) loc (.long (mv_lrem x y) :: stk) σ) : mf_X emb l own cc nL rt nm d r pc loc (.long y :: .long x :: stk) σ := fun a σ' hr => mx_lrem hy dd (k a σ' hr)
theorem mf_lneg {x : Int64} (dd : decode cc pc = .ok (.lneg, 1)) (k : mf_X emb l own cc nL rt nm d r (pc + 1) loc (.long (-x) :: stk) σ) : mf_X emb l own cc nL rt nm d r pc loc (.long x :: stk) σ := fun a σ' hr => mx_lneg dd (k a σ' hr)
theorem mf_lshl {x : Int64} {y : Int32} (dd : decode cc pc = .ok (.lshl, 1)) (k : mf_X emb l own cc nL rt nm d r (pc + 1) loc (.long (mv_lshl x y) :: stk) σ) : mf_X emb l own cc nL rt nm d r pc loc (.int y :: .long x :: stk) σ := fun a σ' hr => mx_lshl dd (k a σ' hr)
theorem mf_lshr {x : Int64} {y : Int32} (dd : decode cc pc = .ok (.lshr, 1)) (k : mf_X emb l own cc nL rt nm d r (pc + 1) loc (.long (mv_lshr x y) :: stk) σ) : mf_X emb l own cc nL rt nm d r pc loc (.int y :: .long x :: stk) σ := fun a σ' hr => mx_lshr dd (k a σ' hr)
theorem mf_lushr {x : Int64} {y : Int32} (dd : decode cc pc = .ok (.lushr, 1)) (k : mf_X emb l own cc nL rt nm d r (pc + 1) loc (.long (mv_lushr x y) :: stk) σ) : mf_X emb l own cc nL rt nm d r pc loc (.int y :: .long x :: stk) σ := fun a σ' hr => mx_lushr dd (k a σ' hr)
theorem mf_i2l {x : Int32} (dd : decode cc pc = .ok (.i2l, 1)) (k : mf_X emb l own cc nL rt nm d r (pc + 1) loc (.long x.toInt64 :: stk) σ) : mf_X emb l own cc nL rt nm d r pc loc (.int x :: stk) σ := fun a σ' hr => mx_i2l dd (k a σ' hr)
theorem mf_l2i {x : Int64} (dd : decode cc pc = .ok (.l2i, 1)) (k : mf_X emb l own cc nL rt nm d r (pc + 1) loc (.int x.toInt32 :: stk) σ) : mf_X emb l own cc nL rt nm d r pc loc (.long x :: stk) σ := fun a σ' hr => mx_l2i dd (k a σ' hr)
theorem mf_i2b {x : Int32} (dd : decode cc pc = .ok (.i2b, 1)) (k : mf_X emb l own cc nL rt nm d r (pc + 1) loc (.int x.toInt8.toInt32 :: stk) σ) : mf_X emb l own cc nL rt nm d r pc loc (.int x :: stk) σ := fun a σ' hr => mx_i2b dd (k a σ' hr)
theorem mf_i2s {x : Int32} (dd : decode cc pc = .ok (.i2s, 1)) (k : mf_X emb l own cc nL rt nm d r (pc + 1) loc (.int x.toInt16.toInt32 :: stk) σ) : mf_X emb l own cc nL rt nm d r pc loc (.int x :: stk) σ := fun a σ' hr => mx_i2s dd (k a σ' hr)
theorem mf_lcmp {x y : Int64} (dd : decode cc pc = .ok (.lcmp, 1)) (k : mf_X emb l own cc nL rt nm d r (pc + 1) loc (.int (lg_cmp x y) :: stk) σ) : mf_X emb l own cc nL rt nm d r pc loc (.long y :: .long x :: stk) σ := fun a σ' hr => mx_lcmp dd (k a σ' hr)
theorem mf_dup {v : Value} (hv : v.category = 1) (dd : decode cc pc = .ok (.dup, 1)) (k : mf_X emb l own cc nL rt nm d r (pc + 1) loc (v :: v :: stk) σ) : mf_X emb l own cc nL rt nm d r pc loc (v :: stk) σ := fun a σ' hr => mx_dup hv dd (k a σ' hr)
theorem mf_pop {v : Value} (hv : v.category = 1) (dd : decode cc pc = .ok (.pop, 1)) (k : mf_X emb l own cc nL rt nm d r (pc + 1) loc stk σ) : mf_X emb l own cc nL rt nm d r pc loc (v :: stk) σ := fun a σ' hr => mx_pop hv dd (k a σ' hr)
theorem mf_dup2 {v w : Value} (hv : v.category = 1) (hw : w.category = 1) (dd : decode cc pc = .ok (.dup2, 1)) (k : mf_X emb l own cc nL rt nm d r (pc + 1) loc (v :: w :: v :: w :: stk) σ) : mf_X emb l own cc nL rt nm d r pc loc (v :: w :: stk) σ := fun a σ' hr => mx_dup2 hv hw dd (k a σ' hr)
theorem mf_goto {off : Int} (tgt : Nat) (dd : decode cc pc = .ok (.goto off, 3)) (ht : (pc : Int) + off = (tgt : Int)) (k : mf_X emb l own cc nL rt nm d r tgt loc stk σ) : mf_X emb l own cc nL rt nm d r pc loc stk σ := fun a σ' hr => mx_goto tgt dd ht (k a σ' hr)
theorem mf_if_eq {x : Int32} {off : Int} (tgt : Nat) (dd : decode cc pc = .ok (.ifCond .eq off, 3)) (ht : (pc : Int) + off = (tgt : Int)) (kt : mf_X emb l own cc nL rt nm d r1 tgt loc stk σ) (kf : mf_X emb l own cc nL rt nm d r2 (pc + 3) loc stk σ) : mf_X emb l own cc nL rt nm d (if x = 0 then r1 else r2) pc loc (.int x :: stk) σ := fun a σ' hr => mx_if_eq tgt dd ht (fun c => kt a σ' (by rw [if_pos c] at hr; exact hr)) (fun c => kf a σ' (by rw [if_neg c] at hr; exact hr))
theorem mf_icmp_eq {x y : Int32} {off : Int} (tgt : Nat) (dd : decode cc pc = .ok (.if_icmp .eq off, 3)) (ht : (pc : Int) + off = (tgt : Int)) (kt : mf_X emb l own cc nL rt nm d r1 tgt loc stk σ) (kf : mf_X emb l own cc nL rt nm d r2 (pc + 3) loc stk σ) : mf_X emb l own cc nL rt nm d (if x = y then r1 else r2) pc loc (.int y :: .int x :: stk) σ := fun a σ' hr => mx_icmp_eq tgt dd ht (fun c => kt a σ' (by rw [if_pos c] at hr; exact hr)) (fun c => kf a σ' (by rw [if_neg c] at hr; exact hr))
theorem mf_if_lt {x : Int32} {off : Int} (tgt : Nat) (dd : decode cc pc = .ok (.ifCond .lt off, 3)) (ht : (pc : Int) + off = (tgt : Int)) (kt : mf_X emb l own cc nL rt nm d r1 tgt loc stk σ) (kf : mf_X emb l own cc nL rt nm d r2 (pc + 3) loc stk σ) : mf_X emb l own cc nL rt nm d (if x < 0 then r1 else r2) pc loc (.int x :: stk) σ := fun a σ' hr => mx_if_lt tgt dd ht (fun c => kt a σ' (by rw [if_pos c] at hr; exact hr)) (fun c => kf a σ' (by rw [if_neg c] at hr; exact hr))
theorem mf_icmp_lt {x y : Int32} {off : Int} (tgt : Nat) (dd : decode cc pc = .ok (.if_icmp .lt off, 3)) (ht : (pc : Int) + off = (tgt : Int)) (kt : mf_X emb l own cc nL rt nm d r1 tgt loc stk σ) (kf : mf_X emb l own cc nL rt nm d r2 (pc + 3) loc stk σ) : mf_X emb l own cc nL rt nm d (if x < y then r1 else r2) pc loc (.int y :: .int x :: stk) σ := fun a σ' hr => mx_icmp_lt tgt dd ht (fun c => kt a σ' (by rw [if_pos c] at hr; exact hr)) (fun c => kf a σ' (by rw [if_neg c] at hr; exact hr))
theorem mf_if_ge {x : Int32} {off : Int} (tgt : Nat) (dd : decode cc pc = .ok (.ifCond .ge off, 3)) (ht : (pc : Int) + off = (tgt : Int)) (kt : mf_X emb l own cc nL rt nm d r1 tgt loc stk σ) (kf : mf_X emb l own cc nL rt nm d r2 (pc + 3) loc stk σ) : mf_X emb l own cc nL rt nm d (if 0 ≤ x then r1 else r2) pc loc (.int x :: stk) σ := fun a σ' hr => mx_if_ge tgt dd ht (fun c => kt a σ' (by rw [if_pos c] at hr; exact hr)) (fun c => kf a σ' (by rw [if_neg c] at hr; exact hr))
theorem mf_icmp_ge {x y : Int32} {off : Int} (tgt : Nat) (dd : decode cc pc = .ok (.if_icmp .ge off, 3)) (ht : (pc : Int) + off = (tgt : Int)) (kt : mf_X emb l own cc nL rt nm d r1 tgt loc stk σ) (kf : mf_X emb l own cc nL rt nm d r2 (pc + 3) loc stk σ) : mf_X emb l own cc nL rt nm d (if y ≤ x then r1 else r2) pc loc (.int y :: .int x :: stk) σ := fun a σ' hr => mx_icmp_ge tgt dd ht (fun c => kt a σ' (by rw [if_pos c] at hr; exact hr)) (fun c => kf a σ' (by rw [if_neg c] at hr; exact hr))
theorem mf_if_gt {x : Int32} {off : Int} (tgt : Nat) (dd : decode cc pc = .ok (.ifCond .gt off, 3)) (ht : (pc : Int) + off = (tgt : Int)) (kt : mf_X emb l own cc nL rt nm d r1 tgt loc stk σ) (kf : mf_X emb l own cc nL rt nm d r2 (pc + 3) loc stk σ) : mf_X emb l own cc nL rt nm d (if 0 < x then r1 else r2) pc loc (.int x :: stk) σ := fun a σ' hr => mx_if_gt tgt dd ht (fun c => kt a σ' (by rw [if_pos c] at hr; exact hr)) (fun c => kf a σ' (by rw [if_neg c] at hr; exact hr))
theorem mf_icmp_gt {x y : Int32} {off : Int} (tgt : Nat) (dd : decode cc pc = .ok (.if_icmp .gt off, 3)) (ht : (pc : Int) + off = (tgt : Int)) (kt : mf_X emb l own cc nL rt nm d r1 tgt loc stk σ) (kf : mf_X emb l own cc nL rt nm d r2 (pc + 3) loc stk σ) : mf_X emb l own cc nL rt nm d (if y < x then r1 else r2) pc loc (.int y :: .int x :: stk) σ := fun a σ' hr => mx_icmp_gt tgt dd ht (fun c => kt a σ' (by rw [if_pos c] at hr; exact hr)) (fun c => kf a σ' (by rw [if_neg c] at hr; exact hr))
theorem mf_if_le {x : Int32} {off : Int} (tgt : Nat) (dd : decode cc pc = .ok (.ifCond .le off, 3)) (ht : (pc : Int) + off = (tgt : Int)) (kt : mf_X emb l own cc nL rt nm d r1 tgt loc stk σ) (kf : mf_X emb l own cc nL rt nm d r2 (pc + 3) loc stk σ) : mf_X emb l own cc nL rt nm d (if x ≤ 0 then r1 else r2) pc loc (.int x :: stk) σ := fun a σ' hr => mx_if_le tgt dd ht (fun c => kt a σ' (by rw [if_pos c] at hr; exact hr)) (fun c => kf a σ' (by rw [if_neg c] at hr; exact hr))
theorem mf_icmp_le {x y : Int32} {off : Int} (tgt : Nat) (dd : decode cc pc = .ok (.if_icmp .le off, 3)) (ht : (pc : Int) + off = (tgt : Int)) (kt : mf_X emb l own cc nL rt nm d r1 tgt loc stk σ) (kf : mf_X emb l own cc nL rt nm d r2 (pc + 3) loc stk σ) : mf_X emb l own cc nL rt nm d (if x ≤ y then r1 else r2) pc loc (.int y :: .int x :: stk) σ := fun a σ' hr => mx_icmp_le tgt dd ht (fun c => kt a σ' (by rw [if_pos c] at hr; exact hr)) (fun c => kf a σ' (by rw [if_neg c] at hr; exact hr))
theorem mf_if_ne {x : Int32} {off : Int} (tgt : Nat) (dd : decode cc pc = .ok (.ifCond .ne off, 3)) (ht : (pc : Int) + off = (tgt : Int)) (kf : mf_X emb l own cc nL rt nm d r1 (pc + 3) loc stk σ) (kt : mf_X emb l own cc nL rt nm d r2 tgt loc stk σ) : mf_X emb l own cc nL rt nm d (if x = 0 then r1 else r2) pc loc (.int x :: stk) σ := fun a σ' hr => mx_if_ne tgt dd ht (fun c => kt a σ' (by rw [if_neg c] at hr; exact hr)) (fun c => kf a σ' (by rw [if_pos c] at hr; exact hr))
theorem mf_icmp_ne {x y : Int32} {off : Int} (tgt : Nat) (dd : decode cc pc = .ok (.if_icmp .ne off, 3)) (ht : (pc : Int) + off = (tgt : Int)) (kf : mf_X emb l own cc nL rt nm d r1 (pc + 3) loc stk σ) (kt : mf_X emb l own cc nL rt nm d r2 tgt loc stk σ) : mf_X emb l own cc nL rt nm d (if x = y then r1 else r2) pc loc (.int y :: .int x :: stk) σ := fun a σ' hr => mx_icmp_ne tgt dd ht (fun c => kt a σ' (by rw [if_neg c] at hr; exact hr)) (fun c => kf a σ' (by rw [if_pos c] at hr; exact hr))
theorem mf_tabIn {dflt lo hi : Int} {offs : Array Int} {len : Nat} {x v : Int32} {off : Int} (tgt : Nat) (dd : decode cc pc = .ok (.tableswitch dflt lo hi offs, len)) (hx : x = v) (h1 : ¬ v.toInt < lo) (h2 : ¬ hi < v.toInt) (ho : offs[(v.toInt - lo).toNat]? = some off) (ht : (pc : Int) + off = (tgt : Int)) (k : mf_X emb l own cc nL rt nm d r tgt loc stk σ) : mf_X emb l own cc nL rt nm d r pc loc (.int x :: stk) σ := fun a σ' hr => by
  subst hx
  exact mx_tableIn tgt dd h1 h2 ho ht (k a σ' hr)
theorem mf_tabOut {dflt lo hi : Int} {offs : Array Int} {len : Nat} {x : Int32} (tgt : Nat) (dd : decode cc pc = .ok (.tableswitch dflt lo hi offs, len)) (h0 : ∀ j : Nat, (lo + j ≤ hi) → ¬ x = Int32.ofInt (lo + j)) (ht : (pc : Int) + dflt = (tgt : Int)) (k : mf_X emb l own cc nL rt nm d r tgt loc stk σ) : mf_X emb l own cc nL rt nm d r pc loc (.int x :: stk) σ := fun a σ' hr => by
  refine mx_tableOut tgt dd ?_ ht (k a σ' hr)
  rcases Int.lt_or_le x.toInt lo with h | h
  · exact Or.inl h
  · rcases Int.lt_or_le hi x.toInt with h2 | h2
    · exact Or.inr h2
    · refine absurd ?_ (h0 (x.toInt - lo).toNat (by omega))
      rw [show lo + ((x.toInt - lo).toNat : Int) = x.toInt by omega, Int32.ofInt_toInt]
theorem mf_getI {index ci f i : Nat} {ty : FieldType} {fin : Bool} {dc : String} {tm : List (Option Nat)} (F : mx_F own index ci f ty fin dc) (he : mk_s[i]? = some (.inr (ci, tm))) (hf : tm[f]? = some none) (dd : decode cc pc = .ok (.getfield index, 3)) (k : mf_X emb l own cc nL rt nm d r (pc + 3) loc (.int (σ.1 i f) :: stk) σ) : mf_X emb l own cc nL rt nm d r pc loc (.ref i :: stk) σ := fun a σ' hr => mx_get F (mk_at he) (by rw [List.getElem?_mapIdx, hf]; rfl) dd (k a σ' hr)
theorem mf_getR {index ci f i q : Nat} {ty : FieldType} {fin : Bool} {dc : String} {tm : List (Option Nat)} (F : mx_F own index ci f ty fin dc) (he : mk_s[i]? = some (.inr (ci, tm))) (hf : tm[f]? = some (some q)) (dd : decode cc pc = .ok (.getfield index, 3)) (k : mf_X emb l own cc nL rt nm d r (pc + 3) loc (.ref q :: stk) σ) : mf_X emb l own cc nL rt nm d r pc loc (.ref i :: stk) σ := fun a σ' hr => mx_get F (mk_at he) (by rw [List.getElem?_mapIdx, hf]; rfl) dd (k a σ' hr)
theorem mf_putI {index ci f i : Nat} {dc : String} {tm : List (Option Nat)} {x : Int32} {g : mx_G → Option (α × mx_G)} (F : mx_F own index ci f .int false dc) (he : mk_s[i]? = some (.inr (ci, tm))) (hf : tm[f]? = some none) (dd : decode cc pc = .ok (.putfield index, 3)) (k : ∀ τ : mx_G, mf_X emb l own cc nL rt nm d (g τ) (pc + 3) loc stk τ) : mf_X emb l own cc nL rt nm d (mv_let (gi σ i f x) g) pc loc (.int x :: .ref i :: stk) σ := fun a σ' hr => mx_put F (mk_at he) (by rw [List.length_mapIdx]; exact (List.getElem?_eq_some_iff.mp hf).1) (fun _ => rfl) (fun _ => rfl) dd (by rw [mk_setF he hf]; exact k _ a σ' hr)
theorem mf_putZ {index ci f i : Nat} {dc : String} {tm : List (Option Nat)} {x : Int32} {g : mx_G → Option (α × mx_G)} (F : mx_F own index ci f .boolean false dc) (he : mk_s[i]? = some (.inr (ci, tm))) (hf : tm[f]? = some none) (dd : decode cc pc = .ok (.putfield index, 3)) (k : ∀ τ : mx_G, mf_X emb l own cc nL rt nm d (g τ) (pc + 3) loc stk τ) : mf_X emb l own cc nL rt nm d (if x = 0 ∨ x = 1 then mv_let (gi σ i f x) g else none) pc loc (.int x :: .ref i :: stk) σ := fun a σ' hr => by
  by_cases hx : x = 0 ∨ x = 1
  · rw [if_pos hx] at hr
    refine mx_put F (mk_at he) (by rw [List.length_mapIdx]; exact (List.getElem?_eq_some_iff.mp hf).1) (fun _ => ?_) (fun _ => ?_) dd (by rw [mk_setF he hf]; exact k _ a σ' hr)
    · rcases hx with rfl | rfl <;> exact congrArg Value.int (by decide)
    · rcases hx with rfl | rfl <;> rfl
  · rw [if_neg hx] at hr; cases hr
theorem mf_iald {i n : Nat} {j : Int32} (he : mk_s[i]? = some (.inl (.int, n))) (dd : decode cc pc = .ok (.iaload, 1)) (k : mf_X emb l own cc nL rt nm d r (pc + 1) loc (.int (σ.1 i j.toNatClampNeg) :: stk) σ) : mf_X emb l own cc nL rt nm d (if ix j n = true then r else none) pc loc (.int j :: .ref i :: stk) σ := fun a σ' hr => by
  by_cases hx : ix j n = true
  · rw [if_pos hx] at hr; exact mx_iald (mk_at he) (ix_in.mp hx) dd (k a σ' hr)
  · rw [if_neg hx] at hr; cases hr
theorem mf_zald {i n : Nat} {j : Int32} (he : mk_s[i]? = some (.inl (.boolean, n))) (dd : decode cc pc = .ok (.baload, 1)) (k : mf_X emb l own cc nL rt nm d r (pc + 1) loc (.int (σ.1 i j.toNatClampNeg) :: stk) σ) : mf_X emb l own cc nL rt nm d (if ix j n = true then r else none) pc loc (.int j :: .ref i :: stk) σ := fun a σ' hr => by
  by_cases hx : ix j n = true
  · rw [if_pos hx] at hr; exact mx_zald (mk_at he) (ix_in.mp hx) dd (k a σ' hr)
  · rw [if_neg hx] at hr; cases hr
theorem mf_lald {i n : Nat} {j : Int32} (he : mk_s[i]? = some (.inl (.long, n))) (dd : decode cc pc = .ok (.laload, 1)) (k : mf_X emb l own cc nL rt nm d r (pc + 1) loc (.long (σ.2 i j.toNatClampNeg) :: stk) σ) : mf_X emb l own cc nL rt nm d (if ix j n = true then r else none) pc loc (.int j :: .ref i :: stk) σ := fun a σ' hr => by
  by_cases hx : ix j n = true
  · rw [if_pos hx] at hr; exact mx_lald (mk_at he) (ix_in.mp hx) dd (k a σ' hr)
  · rw [if_neg hx] at hr; cases hr
theorem mf_iast {i n : Nat} {j x : Int32} {g : mx_G → Option (α × mx_G)} (he : mk_s[i]? = some (.inl (.int, n))) (dd : decode cc pc = .ok (.iastore, 1)) (k : ∀ τ : mx_G, mf_X emb l own cc nL rt nm d (g τ) (pc + 1) loc stk τ) : mf_X emb l own cc nL rt nm d (if ix j n = true then mv_let (gi σ i j.toNatClampNeg x) g else none) pc loc (.int x :: .int j :: .ref i :: stk) σ := fun a σ' hr => by
  by_cases hx : ix j n = true
  · rw [if_pos hx] at hr; exact mx_iast (mk_at he) (ix_in.mp hx) dd (by rw [mk_setI he]; exact k _ a σ' hr)
  · rw [if_neg hx] at hr; cases hr
theorem mf_zast {i n : Nat} {j x : Int32} {g : mx_G → Option (α × mx_G)} (he : mk_s[i]? = some (.inl (.boolean, n))) (dd : decode cc pc = .ok (.bastore, 1)) (k : ∀ τ : mx_G, mf_X emb l own cc nL rt nm d (g τ) (pc + 1) loc stk τ) : mf_X emb l own cc nL rt nm d (if ix j n = true then mv_let (gi σ i j.toNatClampNeg (x &&& 1)) g else none) pc loc (.int x :: .int j :: .ref i :: stk) σ := fun a σ' hr => by
  by_cases hx : ix j n = true
  · rw [if_pos hx] at hr; exact mx_zast (mk_at he) (ix_in.mp hx) dd (by rw [mk_setZ he]; exact k _ a σ' hr)
  · rw [if_neg hx] at hr; cases hr
theorem mf_last {i n : Nat} {j : Int32} {x : Int64} {g : mx_G → Option (α × mx_G)} (he : mk_s[i]? = some (.inl (.long, n))) (dd : decode cc pc = .ok (.lastore, 1)) (k : ∀ τ : mx_G, mf_X emb l own cc nL rt nm d (g τ) (pc + 1) loc stk τ) : mf_X emb l own cc nL rt nm d (if ix j n = true then mv_let (gl σ i j.toNatClampNeg x) g else none) pc loc (.long x :: .int j :: .ref i :: stk) σ := fun a σ' hr => by
  by_cases hx : ix j n = true
  · rw [if_pos hx] at hr; exact mx_last (mk_at he) (ix_in.mp hx) dd (by rw [mk_setL he]; exact k _ a σ' hr)
  · rw [if_neg hx] at hr; cases hr
theorem mf_aleni {i n : Nat} (v : Int32) (he : mk_s[i]? = some (.inl (.int, n))) (hv : Int32.ofNat n = v) (dd : decode cc pc = .ok (.arraylength, 1)) (k : mf_X emb l own cc nL rt nm d r (pc + 1) loc (.int v :: stk) σ) : mf_X emb l own cc nL rt nm d r pc loc (.ref i :: stk) σ := fun a σ' hr => mx_alen v (mk_at he) 0 (fun _ => rfl) hv dd (k a σ' hr)
theorem mf_alenl {i n : Nat} (v : Int32) (he : mk_s[i]? = some (.inl (.long, n))) (hv : Int32.ofNat n = v) (dd : decode cc pc = .ok (.arraylength, 1)) (k : mf_X emb l own cc nL rt nm d r (pc + 1) loc (.int v :: stk) σ) : mf_X emb l own cc nL rt nm d r pc loc (.ref i :: stk) σ := fun a σ' hr => mx_alen v (mk_at he) 1 (fun _ => rfl) hv dd (k a σ' hr)
theorem mf_copyi {index i0 i1 n1 n2 : Nat} {sp dp n : Int32} {g : mx_G → Option (α × mx_G)} (w1 : Cond.methodLink own index arraycopyName ∈ mx_T) (w2 : Cond.native arraycopyName ∈ mx_T) (w3 : Cond.static arraycopyName ∈ mx_T) (w4 : Cond.initialized "java/lang/System" ∈ mx_T) (h0 : mk_s[i0]? = some (.inl (.int, n2))) (h1 : mk_s[i1]? = some (.inl (.int, n1))) (hd : 3 ≤ d) (hw8 : (stk.map fun v => v.category).sum ≤ 8) (dd : decode cc pc = .ok (.invokestatic index, 3)) (k : ∀ τ : mx_G, mf_X emb l own cc nL rt nm d (g τ) (pc + 3) loc stk τ) : mf_X emb l own cc nL rt nm d (if cp sp dp n n2 n1 = true then mv_let (gs σ i1 (va_cpy (σ.1 i0) (σ.1 i1) sp.toNatClampNeg dp.toNatClampNeg n.toNatClampNeg)) g else none) pc loc (.int n :: .int dp :: .ref i1 :: .int sp :: .ref i0 :: stk) σ := fun a σ' hr => by
  by_cases hx : cp sp dp n n2 n1 = true
  · rw [if_pos hx] at hr
    simp only [cp, Bool.and_eq_true, Bool.not_eq_true', decide_eq_false_iff_not, decide_eq_true_eq] at hx
    exact mx_copyi w1 w2 w3 w4 (mk_at h0) (mk_at h1) hx.1.1.1.1 hx.1.1.1.2 hx.1.1.2 hx.1.2 hx.2 ⟨by show 1 ≤ d; omega, by show 100 ≤ 40 * d; omega⟩ hw8 dd (by rw [mk_setI h1]; exact k _ a σ' hr)
  · rw [if_neg hx] at hr; cases hr
theorem mf_copyl {index i0 i1 n1 n2 : Nat} {sp dp n : Int32} {g : mx_G → Option (α × mx_G)} (w1 : Cond.methodLink own index arraycopyName ∈ mx_T) (w2 : Cond.native arraycopyName ∈ mx_T) (w3 : Cond.static arraycopyName ∈ mx_T) (w4 : Cond.initialized "java/lang/System" ∈ mx_T) (h0 : mk_s[i0]? = some (.inl (.long, n2))) (h1 : mk_s[i1]? = some (.inl (.long, n1))) (hd : 3 ≤ d) (hw8 : (stk.map fun v => v.category).sum ≤ 8) (dd : decode cc pc = .ok (.invokestatic index, 3)) (k : ∀ τ : mx_G, mf_X emb l own cc nL rt nm d (g τ) (pc + 3) loc stk τ) : mf_X emb l own cc nL rt nm d (if cp sp dp n n2 n1 = true then mv_let (gt σ i1 (va_cpy (σ.2 i0) (σ.2 i1) sp.toNatClampNeg dp.toNatClampNeg n.toNatClampNeg)) g else none) pc loc (.int n :: .int dp :: .ref i1 :: .int sp :: .ref i0 :: stk) σ := fun a σ' hr => by
  by_cases hx : cp sp dp n n2 n1 = true
  · rw [if_pos hx] at hr
    simp only [cp, Bool.and_eq_true, Bool.not_eq_true', decide_eq_false_iff_not, decide_eq_true_eq] at hx
    exact mx_copyl w1 w2 w3 w4 (mk_at h0) (mk_at h1) hx.1.1.1.1 hx.1.1.1.2 hx.1.1.2 hx.1.2 hx.2 ⟨by show 1 ≤ d; omega, by show 100 ≤ 40 * d; omega⟩ hw8 dd (by rw [mk_setL h1]; exact k _ a σ' hr)
  · rw [if_neg hx] at hr; cases hr
theorem mf_idivG {x y : Int32} (dd : decode cc pc = .ok (.idiv, 1)) (k : mf_X emb l own cc nL rt nm d r (pc + 1) loc (.int (x / y) :: stk) σ) : mf_X emb l own cc nL rt nm d (if y = 0 then none else r) pc loc (.int y :: .int x :: stk) σ := fun a σ' hr => by
  by_cases hy : y = 0
  · rw [if_pos hy] at hr; cases hr
  · rw [if_neg hy] at hr; exact mx_idiv hy dd (k a σ' hr)
theorem mf_iremG {x y : Int32} (dd : decode cc pc = .ok (.irem, 1)) (k : mf_X emb l own cc nL rt nm d r (pc + 1) loc (.int (mv_rem x y) :: stk) σ) : mf_X emb l own cc nL rt nm d (if y = 0 then none else r) pc loc (.int y :: .int x :: stk) σ := fun a σ' hr => by
  by_cases hy : y = 0
  · rw [if_pos hy] at hr; cases hr
  · rw [if_neg hy] at hr; exact mx_irem hy dd (k a σ' hr)
theorem mf_ldivG {x y : Int64} (dd : decode cc pc = .ok (.ldiv, 1)) (k : mf_X emb l own cc nL rt nm d r (pc + 1) loc (.long (x / y) :: stk) σ) : mf_X emb l own cc nL rt nm d (if y = 0 then none else r) pc loc (.long y :: .long x :: stk) σ := fun a σ' hr => by
  by_cases hy : y = 0
  · rw [if_pos hy] at hr; cases hr
  · rw [if_neg hy] at hr; exact mx_ldiv hy dd (k a σ' hr)
theorem mf_lremG {x y : Int64} (dd : decode cc pc = .ok (.lrem, 1)) (k : mf_X emb l own cc nL rt nm d r (pc + 1) loc (.long (mv_lrem x y) :: stk) σ) : mf_X emb l own cc nL rt nm d (if y = 0 then none else r) pc loc (.long y :: .long x :: stk) σ := fun a σ' hr => by
  by_cases hy : y = 0
  · rw [if_pos hy] at hr; cases hr
  · rw [if_neg hy] at hr; exact mx_lrem hy dd (k a σ' hr)
theorem mf_iret {x : Int32} (dd : decode cc pc = .ok (.ireturn, 1)) : mf_X ei l own cc nL (some .int) nm d (some (x, σ)) pc loc [.int x] σ := fun a σ' hr => by
  cases hr
  exact mx_iret (Nat.le_refl 0) (Nat.le_refl 0) dd
theorem mf_zret {x : Int32} (hx : x &&& 1 = x) (dd : decode cc pc = .ok (.ireturn, 1)) : mf_X ei l own cc nL (some .boolean) nm d (some (x, σ)) pc loc [.int x] σ := fun a σ' hr => by
  cases hr
  exact mx_zret hx (Nat.le_refl 0) (Nat.le_refl 0) dd
theorem mf_zretG {x : Int32} (dd : decode cc pc = .ok (.ireturn, 1)) : mf_X ei l own cc nL (some .boolean) nm d (if x &&& 1 = x then some (x, σ) else none) pc loc [.int x] σ := fun a σ' hr => by
  by_cases hx : x &&& 1 = x
  · rw [if_pos hx] at hr
    cases hr
    exact mx_zret hx (Nat.le_refl 0) (Nat.le_refl 0) dd
  · rw [if_neg hx] at hr; cases hr
theorem mf_lret {x : Int64} (dd : decode cc pc = .ok (.lreturn, 1)) : mf_X el l own cc nL (some .long) nm d (some (x, σ)) pc loc [.long x] σ := fun a σ' hr => by
  cases hr
  exact mx_lret (Nat.le_refl 0) (Nat.le_refl 0) dd
theorem mf_vret (dd : decode cc pc = .ok (.return_, 1)) : mf_X ev l own cc nL none nm d (some ((), σ)) pc loc [] σ := fun a σ' hr => by
  cases hr
  exact mx_vret (Nat.le_refl 0) (Nat.le_refl 0) dd
theorem mf_callVi {y : MethodName} {ccy : ByteArray} {nLy index n dy : Nat} {rty : Option FieldType} {As : List Value} {i ci : Nat} {tm : List (Option Nat)} {r0 : Option (Int32 × mx_G)} {f : Int32 → mx_G → Option (α × mx_G)} {st : List Value} (M : mf_M ei l y ccy nLy rty dy (.ref i :: As) σ r0) (Cw : mx_CV own index y ccy nLy rty n) (hst : st = As.reverse ++ .ref i :: stk) (hd : dy + 1 ≤ d) (he : mk_s[i]? = some (.inr (ci, tm))) (hc : (vwCl[ci]?).map (fun q => q.1) = some y.cls) (hn : As.length = n) (hw8 : (stk.map fun v => v.category).sum ≤ 8) (okl : loc.all (fun q => mx_okV mk_n q.2) = true) (oks : stk.all (mx_okV mk_n) = true) (dd : decode cc pc = .ok (.invokevirtual index, 3)) (k : ∀ (x : Int32) (τ : mx_G), mf_X emb l own cc nL rt nm d (f x τ) (pc + 3) loc (.int x :: stk) τ) : mf_X emb l own cc nL rt nm d (mv_bind r0 f) pc loc st σ := fun a σ' hr => by
  cases e : r0 with
  | none => rw [e] at hr; cases hr
  | some q =>
    obtain ⟨x, τ⟩ := q
    rw [e] at hr
    exact mx_callVi (fun _ _ h => h) (M x τ e) Cw hst ⟨hd, by show 40 * dy + 40 ≤ 40 * d; omega, Nat.le_refl 0, Nat.le_refl 0⟩ (mk_at he) hc hn hw8 (by rw [mk_len]; exact Nat.le_refl _) (by rw [mk_len]; exact okl) (by rw [mk_len]; exact oks) dd (k x τ a σ' hr)
theorem mf_callVl {y : MethodName} {ccy : ByteArray} {nLy index n dy : Nat} {rty : Option FieldType} {As : List Value} {i ci : Nat} {tm : List (Option Nat)} {r0 : Option (Int64 × mx_G)} {f : Int64 → mx_G → Option (α × mx_G)} {st : List Value} (M : mf_M el l y ccy nLy rty dy (.ref i :: As) σ r0) (Cw : mx_CV own index y ccy nLy rty n) (hst : st = As.reverse ++ .ref i :: stk) (hd : dy + 1 ≤ d) (he : mk_s[i]? = some (.inr (ci, tm))) (hc : (vwCl[ci]?).map (fun q => q.1) = some y.cls) (hn : As.length = n) (hw8 : (stk.map fun v => v.category).sum ≤ 8) (okl : loc.all (fun q => mx_okV mk_n q.2) = true) (oks : stk.all (mx_okV mk_n) = true) (dd : decode cc pc = .ok (.invokevirtual index, 3)) (k : ∀ (x : Int64) (τ : mx_G), mf_X emb l own cc nL rt nm d (f x τ) (pc + 3) loc (.long x :: stk) τ) : mf_X emb l own cc nL rt nm d (mv_bind r0 f) pc loc st σ := fun a σ' hr => by
  cases e : r0 with
  | none => rw [e] at hr; cases hr
  | some q =>
    obtain ⟨x, τ⟩ := q
    rw [e] at hr
    exact mx_callVl (fun _ _ h => h) (M x τ e) Cw hst ⟨hd, by show 40 * dy + 40 ≤ 40 * d; omega, Nat.le_refl 0, Nat.le_refl 0⟩ (mk_at he) hc hn hw8 (by rw [mk_len]; exact Nat.le_refl _) (by rw [mk_len]; exact okl) (by rw [mk_len]; exact oks) dd (k x τ a σ' hr)
theorem mf_callVv {y : MethodName} {ccy : ByteArray} {nLy index n dy : Nat} {rty : Option FieldType} {As : List Value} {i ci : Nat} {tm : List (Option Nat)} {r0 : Option (Unit × mx_G)} {f : Unit → mx_G → Option (α × mx_G)} {st : List Value} (M : mf_M ev l y ccy nLy rty dy (.ref i :: As) σ r0) (Cw : mx_CV own index y ccy nLy rty n) (hst : st = As.reverse ++ .ref i :: stk) (hd : dy + 1 ≤ d) (he : mk_s[i]? = some (.inr (ci, tm))) (hc : (vwCl[ci]?).map (fun q => q.1) = some y.cls) (hn : As.length = n) (hw8 : (stk.map fun v => v.category).sum ≤ 8) (okl : loc.all (fun q => mx_okV mk_n q.2) = true) (oks : stk.all (mx_okV mk_n) = true) (dd : decode cc pc = .ok (.invokevirtual index, 3)) (k : ∀ (x : Unit) (τ : mx_G), mf_X emb l own cc nL rt nm d (f x τ) (pc + 3) loc (stk) τ) : mf_X emb l own cc nL rt nm d (mv_bind r0 f) pc loc st σ := fun a σ' hr => by
  cases e : r0 with
  | none => rw [e] at hr; cases hr
  | some q =>
    obtain ⟨x, τ⟩ := q
    rw [e] at hr
    exact mx_callVv (fun _ _ h => h) (M x τ e) Cw hst ⟨hd, by show 40 * dy + 40 ≤ 40 * d; omega, Nat.le_refl 0, Nat.le_refl 0⟩ (mk_at he) hc hn hw8 (by rw [mk_len]; exact Nat.le_refl _) (by rw [mk_len]; exact okl) (by rw [mk_len]; exact oks) dd (k x τ a σ' hr)
theorem mf_callSi {y : MethodName} {ccy : ByteArray} {nLy index n dy : Nat} {rty : Option FieldType} {As : List Value} {r0 : Option (Int32 × mx_G)} {f : Int32 → mx_G → Option (α × mx_G)} {st : List Value} (M : mf_M ei l y ccy nLy rty dy As σ r0) (Cw : mx_CS own index y ccy nLy rty n) (hst : st = As.reverse ++ stk) (hd : dy + 1 ≤ d) (hn : As.length = n) (hw8 : (stk.map fun v => v.category).sum ≤ 8) (okl : loc.all (fun q => mx_okV mk_n q.2) = true) (oks : stk.all (mx_okV mk_n) = true) (dd : decode cc pc = .ok (.invokestatic index, 3)) (k : ∀ (x : Int32) (τ : mx_G), mf_X emb l own cc nL rt nm d (f x τ) (pc + 3) loc (.int x :: stk) τ) : mf_X emb l own cc nL rt nm d (mv_bind r0 f) pc loc st σ := fun a σ' hr => by
  cases e : r0 with
  | none => rw [e] at hr; cases hr
  | some q =>
    obtain ⟨x, τ⟩ := q
    rw [e] at hr
    exact mx_callSi (fun _ _ h => h) (M x τ e) Cw hst ⟨hd, by show 40 * dy + 40 ≤ 40 * d; omega, Nat.le_refl 0, Nat.le_refl 0⟩ hn hw8 (by rw [mk_len]; exact Nat.le_refl _) (by rw [mk_len]; exact okl) (by rw [mk_len]; exact oks) dd (k x τ a σ' hr)
theorem mf_callSl {y : MethodName} {ccy : ByteArray} {nLy index n dy : Nat} {rty : Option FieldType} {As : List Value} {r0 : Option (Int64 × mx_G)} {f : Int64 → mx_G → Option (α × mx_G)} {st : List Value} (M : mf_M el l y ccy nLy rty dy As σ r0) (Cw : mx_CS own index y ccy nLy rty n) (hst : st = As.reverse ++ stk) (hd : dy + 1 ≤ d) (hn : As.length = n) (hw8 : (stk.map fun v => v.category).sum ≤ 8) (okl : loc.all (fun q => mx_okV mk_n q.2) = true) (oks : stk.all (mx_okV mk_n) = true) (dd : decode cc pc = .ok (.invokestatic index, 3)) (k : ∀ (x : Int64) (τ : mx_G), mf_X emb l own cc nL rt nm d (f x τ) (pc + 3) loc (.long x :: stk) τ) : mf_X emb l own cc nL rt nm d (mv_bind r0 f) pc loc st σ := fun a σ' hr => by
  cases e : r0 with
  | none => rw [e] at hr; cases hr
  | some q =>
    obtain ⟨x, τ⟩ := q
    rw [e] at hr
    exact mx_callSl (fun _ _ h => h) (M x τ e) Cw hst ⟨hd, by show 40 * dy + 40 ≤ 40 * d; omega, Nat.le_refl 0, Nat.le_refl 0⟩ hn hw8 (by rw [mk_len]; exact Nat.le_refl _) (by rw [mk_len]; exact okl) (by rw [mk_len]; exact oks) dd (k x τ a σ' hr)
theorem mf_callSv {y : MethodName} {ccy : ByteArray} {nLy index n dy : Nat} {rty : Option FieldType} {As : List Value} {r0 : Option (Unit × mx_G)} {f : Unit → mx_G → Option (α × mx_G)} {st : List Value} (M : mf_M ev l y ccy nLy rty dy As σ r0) (Cw : mx_CS own index y ccy nLy rty n) (hst : st = As.reverse ++ stk) (hd : dy + 1 ≤ d) (hn : As.length = n) (hw8 : (stk.map fun v => v.category).sum ≤ 8) (okl : loc.all (fun q => mx_okV mk_n q.2) = true) (oks : stk.all (mx_okV mk_n) = true) (dd : decode cc pc = .ok (.invokestatic index, 3)) (k : ∀ (x : Unit) (τ : mx_G), mf_X emb l own cc nL rt nm d (f x τ) (pc + 3) loc (stk) τ) : mf_X emb l own cc nL rt nm d (mv_bind r0 f) pc loc st σ := fun a σ' hr => by
  cases e : r0 with
  | none => rw [e] at hr; cases hr
  | some q =>
    obtain ⟨x, τ⟩ := q
    rw [e] at hr
    exact mx_callSv (fun _ _ h => h) (M x τ e) Cw hst ⟨hd, by show 40 * dy + 40 ≤ 40 * d; omega, Nat.le_refl 0, Nat.le_refl 0⟩ hn hw8 (by rw [mk_len]; exact Nat.le_refl _) (by rw [mk_len]; exact okl) (by rw [mk_len]; exact oks) dd (k x τ a σ' hr)
theorem mf_callSNi {y : MethodName} {ccy : ByteArray} {nLy index n dy : Nat} {rty : Option FieldType} {As : List Value} {host : String} {r0 : Option (Int32 × mx_G)} {f : Int32 → mx_G → Option (α × mx_G)} {st : List Value} (M : mf_M ei l y ccy nLy rty dy As σ r0) (Cw : mx_CSN own index y host ccy nLy rty n) (hst : st = As.reverse ++ stk) (hd : dy + 1 ≤ d) (hn : As.length = n) (hw8 : (stk.map fun v => v.category).sum ≤ 8) (okl : loc.all (fun q => mx_okV mk_n q.2) = true) (oks : stk.all (mx_okV mk_n) = true) (dd : decode cc pc = .ok (.invokestatic index, 3)) (k : ∀ (x : Int32) (τ : mx_G), mf_X emb l own cc nL rt nm d (f x τ) (pc + 3) loc (.int x :: stk) τ) : mf_X emb l own cc nL rt nm d (mv_bind r0 f) pc loc st σ := fun a σ' hr => by
  cases e : r0 with
  | none => rw [e] at hr; cases hr
  | some q =>
    obtain ⟨x, τ⟩ := q
    rw [e] at hr
    exact mx_callSNi (fun _ _ h => h) (M x τ e) Cw hst ⟨hd, by show 40 * dy + 40 ≤ 40 * d; omega, Nat.le_refl 0, Nat.le_refl 0⟩ hn hw8 (by rw [mk_len]; exact Nat.le_refl _) (by rw [mk_len]; exact okl) (by rw [mk_len]; exact oks) dd (k x τ a σ' hr)
theorem mf_callSNl {y : MethodName} {ccy : ByteArray} {nLy index n dy : Nat} {rty : Option FieldType} {As : List Value} {host : String} {r0 : Option (Int64 × mx_G)} {f : Int64 → mx_G → Option (α × mx_G)} {st : List Value} (M : mf_M el l y ccy nLy rty dy As σ r0) (Cw : mx_CSN own index y host ccy nLy rty n) (hst : st = As.reverse ++ stk) (hd : dy + 1 ≤ d) (hn : As.length = n) (hw8 : (stk.map fun v => v.category).sum ≤ 8) (okl : loc.all (fun q => mx_okV mk_n q.2) = true) (oks : stk.all (mx_okV mk_n) = true) (dd : decode cc pc = .ok (.invokestatic index, 3)) (k : ∀ (x : Int64) (τ : mx_G), mf_X emb l own cc nL rt nm d (f x τ) (pc + 3) loc (.long x :: stk) τ) : mf_X emb l own cc nL rt nm d (mv_bind r0 f) pc loc st σ := fun a σ' hr => by
  cases e : r0 with
  | none => rw [e] at hr; cases hr
  | some q =>
    obtain ⟨x, τ⟩ := q
    rw [e] at hr
    exact mx_callSNl (fun _ _ h => h) (M x τ e) Cw hst ⟨hd, by show 40 * dy + 40 ≤ 40 * d; omega, Nat.le_refl 0, Nat.le_refl 0⟩ hn hw8 (by rw [mk_len]; exact Nat.le_refl _) (by rw [mk_len]; exact okl) (by rw [mk_len]; exact oks) dd (k x τ a σ' hr)
end MF
