/-! THE MACHINE OVER A PICTURE OF NUMBERED CELLS: a reference in the picture is a cell's number; ad tells each number's address. mx_X: from here the method goes on to its end Qs. A row an instruction, generic once for all methods. -/
abbrev mx_C : Type := (FieldType × vp_A) ⊕ (Nat × List Value)
def mx_v (ad : Nat → Nat) (v : Value) : Value := match v with
  | .ref i => .ref (ad i)
  | w => w
def mx_c (cT : FieldType → ClassId) (ad : Nat → Nat) (q : mx_C) : va_E := match q with
  | .inl (t, a) => .inl (cT t, a)
  | .inr (ci, fs) => .inr (ci, fs.map (mx_v ad))
def mx_w (cT : FieldType → ClassId) (ad : Nat → Nat) (h : List mx_C) : va_W := h.mapIdx (fun i c => (ad i, mx_c cT ad c))
def mx_l (ad : Nat → Nat) (loc : List (Nat × Value)) : List (Nat × Value) := loc.map (fun q => (q.1, mx_v ad q.2))
def mx_tys (cT : FieldType → ClassId) : List (ClassId × FieldType) := [(cT .int, .int), (cT .long, .long), (cT .boolean, .boolean)]
abbrev mx_E : Type := State → (Nat → Prop) → Prop
abbrev mx_Qt : Type := List Frame → Array Value → State → (Nat → Prop) → (Nat → ClassId) → (Nat → Nat → Nat) → (FieldType → ClassId) → (Nat → Nat) → State → Prop
def mx_B (E : mx_E) (own : String) (cc : ByteArray) (nL : Nat) (rt : Option FieldType) (nm : String) (p : Program) (s : State) (m : MethodId) (args : Array Value) (meth : Method) (c : Code) (dC : Nat → ClassId) (dI : Nat → Nat → Nat) (cT : FieldType → ClassId) (A : Nat → Prop) : Prop :=
  p.tables.exec = Jvm.exec ∧ c.code = cc ∧ c.maxLocals = nL ∧ meth.sig.returnType = rt ∧ meth.name = nm ∧ meth.locks = false ∧ s.vm.findClass own = some m.cls ∧ (∀ w ∈ mx_T, w.before args s = true) ∧ va_K (dC, dI) vwCl (mx_tys cT) s ∧ (∀ q : Nat, s.heap.size ≤ q → A q) ∧ E s A
def mx_X (l : Launch) (E : mx_E) (own : String) (cc : ByteArray) (nL : Nat) (rt : Option FieldType) (nm : String) (R : Room) (Qs : mx_Qt) (n0 : Nat) (pc : Nat) (loc : List (Nat × Value)) (stk : List Value) (h : List mx_C) (kc ks : Nat) : Prop :=
  ∀ (p : Program) (e : Env) (s : State) (m : MethodId) (args : Array Value) (below : List Frame) (meth : Method) (c : Code) (dC : Nat → ClassId) (dI : Nat → Nat → Nat) (cT : FieldType → ClassId) (A : Nat → Prop) (ad0 ad : Nat → Nat) (H : Heap) (locs : List Loc) (ls : Array Slot),
    mx_B E own cc nL rt nm p s m args meth c dC dI cT A → (∀ i : Nat, i < n0 → ad i = ad0 i) → va_P (dC, dI) vwCl (mx_w cT ad h) H → va_D A (mx_w cT ad h) → va_S A s.heap H locs → lv_has ls nL (mx_l ad loc) →
    W p l e R s m args below meth c H locs kc ks (Qs below args s A dC dI cT ad0) (F0 m pc ls (stk.map (mx_v ad)))
theorem mx_at {ad : Nat → Nat} {ls : Array Slot} {nL : Nat} {loc : List (Nat × Value)} (h : lv_has ls nL (mx_l ad loc)) (k : Nat) {i : Nat} {v : Value} (hk : loc[k]? = some (i, v)) : ls[i]? = some (.val (mx_v ad v)) :=
  lv_at h k (i := i) (v := mx_v ad v) (by simp [mx_l, hk])
theorem mx_cat (ad : Nat → Nat) (v : Value) : (mx_v ad v).category = v.category := by cases v <;> rfl
theorem mx_flt {ad : Nat → Nat} {loc : List (Nat × Value)} (f : Nat → Nat → Bool) : (mx_l ad loc).filter (fun q => f q.1 q.2.category) = mx_l ad (loc.filter (fun q => f q.1 q.2.category)) := by
  unfold mx_l
  rw [List.filter_map]
  congr 1
  apply List.filter_congr
  intro q _
  simp [mx_cat]
def mx_st1 (i : Nat) (v : Value) (loc : List (Nat × Value)) : List (Nat × Value) := (i, v) :: loc.filter (fun q => !(q.1 == i) && !(q.1 + 1 == i && q.2.category == 2))
def mx_st2 (i : Nat) (v : Value) (loc : List (Nat × Value)) : List (Nat × Value) := (i, v) :: loc.filter (fun q => !(q.1 == i) && (!(q.1 == i + 1) && !(q.1 + 1 == i && q.2.category == 2)))
theorem mx_st1_ok {ad : Nat → Nat} {loc loc' : List (Nat × Value)} {i : Nat} {v : Value} (h : mx_st1 i v loc = loc') : (i, mx_v ad v) :: (mx_l ad loc).filter (fun q => !(q.1 == i) && !(q.1 + 1 == i && q.2.category == 2)) = mx_l ad loc' := by
  subst h
  rw [mx_flt (fun a b => !(a == i) && !(a + 1 == i && b == 2))]
  rfl
theorem mx_st2_ok {ad : Nat → Nat} {loc loc' : List (Nat × Value)} {i : Nat} {v : Value} (h : mx_st2 i v loc = loc') : (i, mx_v ad v) :: (mx_l ad loc).filter (fun q => !(q.1 == i) && (!(q.1 == i + 1) && !(q.1 + 1 == i && q.2.category == 2))) = mx_l ad loc' := by
  subst h
  rw [mx_flt (fun a b => !(a == i) && (!(a == i + 1) && !(a + 1 == i && b == 2)))]
  rfl
theorem mx_wat {cT : FieldType → ClassId} {ad : Nat → Nat} {h : List mx_C} {i : Nat} {q : mx_C} (hi : h[i]? = some q) : (mx_w cT ad h)[i]? = some (ad i, mx_c cT ad q) := by
  simp [mx_w, List.getElem?_mapIdx, hi]
theorem mx_wset {cT : FieldType → ClassId} {ad : Nat → Nat} {h : List mx_C} {i : Nat} {q : mx_C} : (mx_w cT ad h).set i (ad i, mx_c cT ad q) = mx_w cT ad (h.set i q) := by
  apply List.ext_getElem?
  intro j
  simp only [mx_w, List.getElem?_set, List.getElem?_mapIdx, List.length_mapIdx]
  by_cases hij : i = j
  · subst hij
    by_cases hl : i < h.length
    · simp [hl]
    · simp [hl]
  · simp [hij]
def mv_shl (x y : Int32) : Int32 := x <<< (y &&& 31)
def mv_shr (x y : Int32) : Int32 := x >>> (y &&& 31)
def mv_ushr (x y : Int32) : Int32 := (x.toUInt32 >>> (y.toUInt32 &&& Int32.toUInt32 31)).toInt32
def mv_rem (x y : Int32) : Int32 := x - x / y * y
def mv_lrem (x y : Int64) : Int64 := x - x / y * y
def mv_lshl (x : Int64) (y : Int32) : Int64 := x <<< (y.toInt64 &&& 63)
def mv_lshr (x : Int64) (y : Int32) : Int64 := x >>> (y.toInt64 &&& 63)
def mv_lushr (x : Int64) (y : Int32) : Int64 := (x.toUInt64 >>> (y.toInt64.toUInt64 &&& Int64.toUInt64 63)).toInt64
section MX
variable {l : Launch} {E : mx_E} {own : String} {cc : ByteArray} {nL : Nat} {rt : Option FieldType} {nm : String} {R : Room} {Qs : mx_Qt} {n0 pc : Nat} {loc : List (Nat × Value)} {stk : List Value} {h : List mx_C} {kc ks : Nat}
theorem mx_iconst (v : Int32) {n : Int} (d : decode cc pc = .ok (.iconst n, 1)) (hv : Int32.ofInt n = v) (k : mx_X l E own cc nL rt nm R Qs n0 (pc + 1) loc (.int v :: stk) h kc ks) : mx_X l E own cc nL rt nm R Qs n0 pc loc stk h kc ks := by
  intro p e s m args below meth c dC dI cT A ad0 ad H locs ls hB ha hP hD hS hl
  exact lv_iconst hB.1 hB.2.1 d hv (k p e s m args below meth c dC dI cT A ad0 ad H locs ls hB ha hP hD hS hl)
theorem mx_bipush (v : Int32) {n : Int} (d : decode cc pc = .ok (.bipush n, 2)) (hv : (Int8.ofInt n).toInt32 = v) (k : mx_X l E own cc nL rt nm R Qs n0 (pc + 2) loc (.int v :: stk) h kc ks) : mx_X l E own cc nL rt nm R Qs n0 pc loc stk h kc ks := by
  intro p e s m args below meth c dC dI cT A ad0 ad H locs ls hB ha hP hD hS hl
  exact lv_bipush hB.1 hB.2.1 d hv (k p e s m args below meth c dC dI cT A ad0 ad H locs ls hB ha hP hD hS hl)
theorem mx_sipush (v : Int32) {n : Int} (d : decode cc pc = .ok (.sipush n, 3)) (hv : (Int16.ofInt n).toInt32 = v) (k : mx_X l E own cc nL rt nm R Qs n0 (pc + 3) loc (.int v :: stk) h kc ks) : mx_X l E own cc nL rt nm R Qs n0 pc loc stk h kc ks := by
  intro p e s m args below meth c dC dI cT A ad0 ad H locs ls hB ha hP hD hS hl
  exact lv_sipush hB.1 hB.2.1 d hv (k p e s m args below meth c dC dI cT A ad0 ad H locs ls hB ha hP hD hS hl)
theorem mx_lconst (v : Int64) {n : Fin 2} (d : decode cc pc = .ok (.lconst n, 1)) (hv : Int64.ofNat (n : Nat) = v) (k : mx_X l E own cc nL rt nm R Qs n0 (pc + 1) loc (.long v :: stk) h kc ks) : mx_X l E own cc nL rt nm R Qs n0 pc loc stk h kc ks := by
  intro p e s m args below meth c dC dI cT A ad0 ad H locs ls hB ha hP hD hS hl
  exact lv_lconst hB.1 hB.2.1 d hv (k p e s m args below meth c dC dI cT A ad0 ad H locs ls hB ha hP hD hS hl)
theorem mx_ldc {v : Int32} {index : Nat} (hc : Cond.constant own index v ∈ mx_T) (d : decode cc pc = .ok (.ldc index, 2)) (k : mx_X l E own cc nL rt nm R Qs n0 (pc + 2) loc (.int v :: stk) h kc ks) : mx_X l E own cc nL rt nm R Qs n0 pc loc stk h kc ks := by
  intro p e s m args below meth c dC dI cT A ad0 ad H locs ls hB ha hP hD hS hl
  exact lv_ldc hB.1 hB.2.1 hB.2.2.2.2.2.2.1 (hB.2.2.2.2.2.2.2.1 _ hc) d (k p e s m args below meth c dC dI cT A ad0 ad H locs ls hB ha hP hD hS hl)
theorem mx_ldcw {v : Int32} {index : Nat} (hc : Cond.constant own index v ∈ mx_T) (d : decode cc pc = .ok (.ldc_w index, 3)) (k : mx_X l E own cc nL rt nm R Qs n0 (pc + 3) loc (.int v :: stk) h kc ks) : mx_X l E own cc nL rt nm R Qs n0 pc loc stk h kc ks := by
  intro p e s m args below meth c dC dI cT A ad0 ad H locs ls hB ha hP hD hS hl
  exact lv_ldcw hB.1 hB.2.1 hB.2.2.2.2.2.2.1 (hB.2.2.2.2.2.2.2.1 _ hc) d (k p e s m args below meth c dC dI cT A ad0 ad H locs ls hB ha hP hD hS hl)
theorem mx_ldc2 {v : Int64} {index : Nat} (hc : Cond.constantLong own index v ∈ mx_T) (d : decode cc pc = .ok (.ldc2_w index, 3)) (k : mx_X l E own cc nL rt nm R Qs n0 (pc + 3) loc (.long v :: stk) h kc ks) : mx_X l E own cc nL rt nm R Qs n0 pc loc stk h kc ks := by
  intro p e s m args below meth c dC dI cT A ad0 ad H locs ls hB ha hP hD hS hl
  exact lv_ldc2 hB.1 hB.2.1 hB.2.2.2.2.2.2.1 (hB.2.2.2.2.2.2.2.1 _ hc) d (k p e s m args below meth c dC dI cT A ad0 ad H locs ls hB ha hP hD hS hl)
theorem mx_iload_n {q : Fin 4} {i : Nat} {x : Int32} (d : decode cc pc = .ok (.iload_n q, 1)) (hi : (q : Nat) = i) (z : Nat) (hz : loc[z]? = some (i, .int x)) (k : mx_X l E own cc nL rt nm R Qs n0 (pc + 1) loc (.int x :: stk) h kc ks) : mx_X l E own cc nL rt nm R Qs n0 pc loc stk h kc ks := by
  intro p e s m args below meth c dC dI cT A ad0 ad H locs ls hB ha hP hD hS hl
  exact lv_iload_n hB.1 hB.2.1 d hi (mx_at hl z hz) (k p e s m args below meth c dC dI cT A ad0 ad H locs ls hB ha hP hD hS hl)
theorem mx_iload {i : Nat} {x : Int32} (d : decode cc pc = .ok (.iload i, 2)) (z : Nat) (hz : loc[z]? = some (i, .int x)) (k : mx_X l E own cc nL rt nm R Qs n0 (pc + 2) loc (.int x :: stk) h kc ks) : mx_X l E own cc nL rt nm R Qs n0 pc loc stk h kc ks := by
  intro p e s m args below meth c dC dI cT A ad0 ad H locs ls hB ha hP hD hS hl
  exact lv_iload hB.1 hB.2.1 d (mx_at hl z hz) (k p e s m args below meth c dC dI cT A ad0 ad H locs ls hB ha hP hD hS hl)
theorem mx_istore_n {q : Fin 4} {i : Nat} {x : Int32} (loc' : List (Nat × Value)) (d : decode cc pc = .ok (.istore_n q, 1)) (hi : (q : Nat) = i) (hn : i < nL) (hL : mx_st1 i (.int x) loc = loc') (k : mx_X l E own cc nL rt nm R Qs n0 (pc + 1) loc' stk h kc ks) : mx_X l E own cc nL rt nm R Qs n0 pc loc (.int x :: stk) h kc ks := by
  intro p e s m args below meth c dC dI cT A ad0 ad H locs ls hB ha hP hD hS hl
  exact lv_istore_n hB.1 hB.2.1 d hi hl hn (mx_st1_ok (ad := ad) hL) (fun ls hl => k p e s m args below meth c dC dI cT A ad0 ad H locs ls hB ha hP hD hS hl)
theorem mx_istore {i : Nat} {x : Int32} (loc' : List (Nat × Value)) (d : decode cc pc = .ok (.istore i, 2)) (hn : i < nL) (hL : mx_st1 i (.int x) loc = loc') (k : mx_X l E own cc nL rt nm R Qs n0 (pc + 2) loc' stk h kc ks) : mx_X l E own cc nL rt nm R Qs n0 pc loc (.int x :: stk) h kc ks := by
  intro p e s m args below meth c dC dI cT A ad0 ad H locs ls hB ha hP hD hS hl
  exact lv_istore hB.1 hB.2.1 d hl hn (mx_st1_ok (ad := ad) hL) (fun ls hl => k p e s m args below meth c dC dI cT A ad0 ad H locs ls hB ha hP hD hS hl)
theorem mx_lload_n {q : Fin 4} {i : Nat} {x : Int64} (d : decode cc pc = .ok (.lload_n q, 1)) (hi : (q : Nat) = i) (z : Nat) (hz : loc[z]? = some (i, .long x)) (k : mx_X l E own cc nL rt nm R Qs n0 (pc + 1) loc (.long x :: stk) h kc ks) : mx_X l E own cc nL rt nm R Qs n0 pc loc stk h kc ks := by
  intro p e s m args below meth c dC dI cT A ad0 ad H locs ls hB ha hP hD hS hl
  exact lv_lload_n hB.1 hB.2.1 d hi (mx_at hl z hz) (k p e s m args below meth c dC dI cT A ad0 ad H locs ls hB ha hP hD hS hl)
theorem mx_lload {i : Nat} {x : Int64} (d : decode cc pc = .ok (.lload i, 2)) (z : Nat) (hz : loc[z]? = some (i, .long x)) (k : mx_X l E own cc nL rt nm R Qs n0 (pc + 2) loc (.long x :: stk) h kc ks) : mx_X l E own cc nL rt nm R Qs n0 pc loc stk h kc ks := by
  intro p e s m args below meth c dC dI cT A ad0 ad H locs ls hB ha hP hD hS hl
  exact lv_lload hB.1 hB.2.1 d (mx_at hl z hz) (k p e s m args below meth c dC dI cT A ad0 ad H locs ls hB ha hP hD hS hl)
theorem mx_lstore_n {q : Fin 4} {i : Nat} {x : Int64} (loc' : List (Nat × Value)) (d : decode cc pc = .ok (.lstore_n q, 1)) (hi : (q : Nat) = i) (hn : i + 1 < nL) (hL : mx_st2 i (.long x) loc = loc') (k : mx_X l E own cc nL rt nm R Qs n0 (pc + 1) loc' stk h kc ks) : mx_X l E own cc nL rt nm R Qs n0 pc loc (.long x :: stk) h kc ks := by
  intro p e s m args below meth c dC dI cT A ad0 ad H locs ls hB ha hP hD hS hl
  exact lv_lstore_n hB.1 hB.2.1 d hi hl hn (mx_st2_ok (ad := ad) hL) (fun ls hl => k p e s m args below meth c dC dI cT A ad0 ad H locs ls hB ha hP hD hS hl)
theorem mx_lstore {i : Nat} {x : Int64} (loc' : List (Nat × Value)) (d : decode cc pc = .ok (.lstore i, 2)) (hn : i + 1 < nL) (hL : mx_st2 i (.long x) loc = loc') (k : mx_X l E own cc nL rt nm R Qs n0 (pc + 2) loc' stk h kc ks) : mx_X l E own cc nL rt nm R Qs n0 pc loc (.long x :: stk) h kc ks := by
  intro p e s m args below meth c dC dI cT A ad0 ad H locs ls hB ha hP hD hS hl
  exact lv_lstore hB.1 hB.2.1 d hl hn (mx_st2_ok (ad := ad) hL) (fun ls hl => k p e s m args below meth c dC dI cT A ad0 ad H locs ls hB ha hP hD hS hl)
theorem mx_aload_n {q : Fin 4} {i : Nat} {x : Nat} (d : decode cc pc = .ok (.aload_n q, 1)) (hi : (q : Nat) = i) (z : Nat) (hz : loc[z]? = some (i, .ref x)) (k : mx_X l E own cc nL rt nm R Qs n0 (pc + 1) loc (.ref x :: stk) h kc ks) : mx_X l E own cc nL rt nm R Qs n0 pc loc stk h kc ks := by
  intro p e s m args below meth c dC dI cT A ad0 ad H locs ls hB ha hP hD hS hl
  exact lv_aload_n hB.1 hB.2.1 d hi (mx_at hl z hz) (k p e s m args below meth c dC dI cT A ad0 ad H locs ls hB ha hP hD hS hl)
theorem mx_aload {i : Nat} {x : Nat} (d : decode cc pc = .ok (.aload i, 2)) (z : Nat) (hz : loc[z]? = some (i, .ref x)) (k : mx_X l E own cc nL rt nm R Qs n0 (pc + 2) loc (.ref x :: stk) h kc ks) : mx_X l E own cc nL rt nm R Qs n0 pc loc stk h kc ks := by
  intro p e s m args below meth c dC dI cT A ad0 ad H locs ls hB ha hP hD hS hl
  exact lv_aload hB.1 hB.2.1 d (mx_at hl z hz) (k p e s m args below meth c dC dI cT A ad0 ad H locs ls hB ha hP hD hS hl)
theorem mx_astore_n {q : Fin 4} {i : Nat} {x : Nat} (loc' : List (Nat × Value)) (d : decode cc pc = .ok (.astore_n q, 1)) (hi : (q : Nat) = i) (hn : i < nL) (hL : mx_st1 i (.ref x) loc = loc') (k : mx_X l E own cc nL rt nm R Qs n0 (pc + 1) loc' stk h kc ks) : mx_X l E own cc nL rt nm R Qs n0 pc loc (.ref x :: stk) h kc ks := by
  intro p e s m args below meth c dC dI cT A ad0 ad H locs ls hB ha hP hD hS hl
  exact lv_astore_n hB.1 hB.2.1 d hi hl hn (mx_st1_ok (ad := ad) hL) (fun ls hl => k p e s m args below meth c dC dI cT A ad0 ad H locs ls hB ha hP hD hS hl)
theorem mx_astore {i : Nat} {x : Nat} (loc' : List (Nat × Value)) (d : decode cc pc = .ok (.astore i, 2)) (hn : i < nL) (hL : mx_st1 i (.ref x) loc = loc') (k : mx_X l E own cc nL rt nm R Qs n0 (pc + 2) loc' stk h kc ks) : mx_X l E own cc nL rt nm R Qs n0 pc loc (.ref x :: stk) h kc ks := by
  intro p e s m args below meth c dC dI cT A ad0 ad H locs ls hB ha hP hD hS hl
  exact lv_astore hB.1 hB.2.1 d hl hn (mx_st1_ok (ad := ad) hL) (fun ls hl => k p e s m args below meth c dC dI cT A ad0 ad H locs ls hB ha hP hD hS hl)
theorem mx_iinc {i : Nat} {n : Int} {x : Int32} (v : Int32) (loc' : List (Nat × Value)) (d : decode cc pc = .ok (.iinc i n, 3)) (z : Nat) (hz : loc[z]? = some (i, .int x)) (hv : Int32.ofInt n = v) (hn : i < nL) (hL : mx_st1 i (.int (x + v)) loc = loc') (k : mx_X l E own cc nL rt nm R Qs n0 (pc + 3) loc' stk h kc ks) : mx_X l E own cc nL rt nm R Qs n0 pc loc stk h kc ks := by
  intro p e s m args below meth c dC dI cT A ad0 ad H locs ls hB ha hP hD hS hl
  exact lv_iinc hB.1 hB.2.1 d hl (k := z) (x := x) (v := x + v) (by simp [mx_l, hz, mx_v]) (by rw [hv]) hn (mx_st1_ok (ad := ad) hL) (fun ls hl => k p e s m args below meth c dC dI cT A ad0 ad H locs ls hB ha hP hD hS hl)
theorem mx_sub (zs : List Nat) {loc' : List (Nat × Value)} (hL : lv_pick loc zs = loc') (k : mx_X l E own cc nL rt nm R Qs n0 pc loc' stk h kc ks) : mx_X l E own cc nL rt nm R Qs n0 pc loc stk h kc ks := by
  intro p e s m args below meth c dC dI cT A ad0 ad H locs ls hB ha hP hD hS hl
  have hl' : lv_has ls nL (mx_l ad loc') := by
    refine lv_sub hl zs ?_
    subst hL
    simp [lv_pick, mx_l, List.map_filterMap]
  exact k p e s m args below meth c dC dI cT A ad0 ad H locs ls hB ha hP hD hS hl'
theorem mx_iadd {x y : Int32} (d : decode cc pc = .ok (.iadd, 1)) (k : mx_X l E own cc nL rt nm R Qs n0 (pc + 1) loc (.int (x + y) :: stk) h kc ks) : mx_X l E own cc nL rt nm R Qs n0 pc loc (.int y :: .int x :: stk) h kc ks := by
  intro p e s m args below meth c dC dI cT A ad0 ad H locs ls hB ha hP hD hS hl
  exact lv_iadd hB.1 hB.2.1 d (k p e s m args below meth c dC dI cT A ad0 ad H locs ls hB ha hP hD hS hl)
theorem mx_isub {x y : Int32} (d : decode cc pc = .ok (.isub, 1)) (k : mx_X l E own cc nL rt nm R Qs n0 (pc + 1) loc (.int (x - y) :: stk) h kc ks) : mx_X l E own cc nL rt nm R Qs n0 pc loc (.int y :: .int x :: stk) h kc ks := by
  intro p e s m args below meth c dC dI cT A ad0 ad H locs ls hB ha hP hD hS hl
  exact lv_isub hB.1 hB.2.1 d (k p e s m args below meth c dC dI cT A ad0 ad H locs ls hB ha hP hD hS hl)
theorem mx_imul {x y : Int32} (d : decode cc pc = .ok (.imul, 1)) (k : mx_X l E own cc nL rt nm R Qs n0 (pc + 1) loc (.int (x * y) :: stk) h kc ks) : mx_X l E own cc nL rt nm R Qs n0 pc loc (.int y :: .int x :: stk) h kc ks := by
  intro p e s m args below meth c dC dI cT A ad0 ad H locs ls hB ha hP hD hS hl
  exact lv_imul hB.1 hB.2.1 d (k p e s m args below meth c dC dI cT A ad0 ad H locs ls hB ha hP hD hS hl)
theorem mx_iand {x y : Int32} (d : decode cc pc = .ok (.iand, 1)) (k : mx_X l E own cc nL rt nm R Qs n0 (pc + 1) loc (.int (x &&& y) :: stk) h kc ks) : mx_X l E own cc nL rt nm R Qs n0 pc loc (.int y :: .int x :: stk) h kc ks := by
  intro p e s m args below meth c dC dI cT A ad0 ad H locs ls hB ha hP hD hS hl
  exact lv_iand hB.1 hB.2.1 d (k p e s m args below meth c dC dI cT A ad0 ad H locs ls hB ha hP hD hS hl)
theorem mx_ior {x y : Int32} (d : decode cc pc = .ok (.ior, 1)) (k : mx_X l E own cc nL rt nm R Qs n0 (pc + 1) loc (.int (x ||| y) :: stk) h kc ks) : mx_X l E own cc nL rt nm R Qs n0 pc loc (.int y :: .int x :: stk) h kc ks := by
  intro p e s m args below meth c dC dI cT A ad0 ad H locs ls hB ha hP hD hS hl
  exact lv_ior hB.1 hB.2.1 d (k p e s m args below meth c dC dI cT A ad0 ad H locs ls hB ha hP hD hS hl)
theorem mx_ixor {x y : Int32} (d : decode cc pc = .ok (.ixor, 1)) (k : mx_X l E own cc nL rt nm R Qs n0 (pc + 1) loc (.int (x ^^^ y) :: stk) h kc ks) : mx_X l E own cc nL rt nm R Qs n0 pc loc (.int y :: .int x :: stk) h kc ks := by
  intro p e s m args below meth c dC dI cT A ad0 ad H locs ls hB ha hP hD hS hl
  exact lv_ixor hB.1 hB.2.1 d (k p e s m args below meth c dC dI cT A ad0 ad H locs ls hB ha hP hD hS hl)
theorem mx_ishl {x y : Int32} (d : decode cc pc = .ok (.ishl, 1)) (k : mx_X l E own cc nL rt nm R Qs n0 (pc + 1) loc (.int (mv_shl x y) :: stk) h kc ks) : mx_X l E own cc nL rt nm R Qs n0 pc loc (.int y :: .int x :: stk) h kc ks := by
  intro p e s m args below meth c dC dI cT A ad0 ad H locs ls hB ha hP hD hS hl
  exact lv_ishl hB.1 hB.2.1 d (k p e s m args below meth c dC dI cT A ad0 ad H locs ls hB ha hP hD hS hl)
theorem mx_ishr {x y : Int32} (d : decode cc pc = .ok (.ishr, 1)) (k : mx_X l E own cc nL rt nm R Qs n0 (pc + 1) loc (.int (mv_shr x y) :: stk) h kc ks) : mx_X l E own cc nL rt nm R Qs n0 pc loc (.int y :: .int x :: stk) h kc ks := by
  intro p e s m args below meth c dC dI cT A ad0 ad H locs ls hB ha hP hD hS hl
  exact lv_ishr hB.1 hB.2.1 d (k p e s m args below meth c dC dI cT A ad0 ad H locs ls hB ha hP hD hS hl)
theorem mx_idiv {x y : Int32} (hy : ¬ y = 0) (d : decode cc pc = .ok (.idiv, 1)) (k : mx_X l E own cc nL rt nm R Qs n0 (pc + 1) loc (.int (x / y) :: stk) h kc ks) : mx_X l E own cc nL rt nm R Qs n0 pc loc (.int y :: .int x :: stk) h kc ks := by
  intro p e s m args below meth c dC dI cT A ad0 ad H locs ls hB ha hP hD hS hl
  exact lv_idiv hB.1 hB.2.1 d hy (k p e s m args below meth c dC dI cT A ad0 ad H locs ls hB ha hP hD hS hl)
theorem mx_irem {x y : Int32} (hy : ¬ y = 0) (d : decode cc pc = .ok (.irem, 1)) (k : mx_X l E own cc nL rt nm R Qs n0 (pc + 1) loc (.int (mv_rem x y) :: stk) h kc ks) : mx_X l E own cc nL rt nm R Qs n0 pc loc (.int y :: .int x :: stk) h kc ks := by
  intro p e s m args below meth c dC dI cT A ad0 ad H locs ls hB ha hP hD hS hl
  exact lv_irem hB.1 hB.2.1 d hy (k p e s m args below meth c dC dI cT A ad0 ad H locs ls hB ha hP hD hS hl)
theorem mx_ineg {x : Int32} (d : decode cc pc = .ok (.ineg, 1)) (k : mx_X l E own cc nL rt nm R Qs n0 (pc + 1) loc (.int (-x) :: stk) h kc ks) : mx_X l E own cc nL rt nm R Qs n0 pc loc (.int x :: stk) h kc ks := by
  intro p e s m args below meth c dC dI cT A ad0 ad H locs ls hB ha hP hD hS hl
  exact lv_ineg hB.1 hB.2.1 d (k p e s m args below meth c dC dI cT A ad0 ad H locs ls hB ha hP hD hS hl)
theorem mx_iushr {x y : Int32} (d : decode cc pc = .ok (.iushr, 1)) (k : mx_X l E own cc nL rt nm R Qs n0 (pc + 1) loc (.int (mv_ushr x y) :: stk) h kc ks) : mx_X l E own cc nL rt nm R Qs n0 pc loc (.int y :: .int x :: stk) h kc ks := by
  intro p e s m args below meth c dC dI cT A ad0 ad H locs ls hB ha hP hD hS hl
  exact lv_iushr (v := mv_ushr x y) hB.1 hB.2.1 d rfl (k p e s m args below meth c dC dI cT A ad0 ad H locs ls hB ha hP hD hS hl)
theorem mx_ladd {x y : Int64} (d : decode cc pc = .ok (.ladd, 1)) (k : mx_X l E own cc nL rt nm R Qs n0 (pc + 1) loc (.long (x + y) :: stk) h kc ks) : mx_X l E own cc nL rt nm R Qs n0 pc loc (.long y :: .long x :: stk) h kc ks := by
  intro p e s m args below meth c dC dI cT A ad0 ad H locs ls hB ha hP hD hS hl
  exact lv_ladd hB.1 hB.2.1 d (k p e s m args below meth c dC dI cT A ad0 ad H locs ls hB ha hP hD hS hl)
theorem mx_lsub {x y : Int64} (d : decode cc pc = .ok (.lsub, 1)) (k : mx_X l E own cc nL rt nm R Qs n0 (pc + 1) loc (.long (x - y) :: stk) h kc ks) : mx_X l E own cc nL rt nm R Qs n0 pc loc (.long y :: .long x :: stk) h kc ks := by
  intro p e s m args below meth c dC dI cT A ad0 ad H locs ls hB ha hP hD hS hl
  exact lv_lsub hB.1 hB.2.1 d (k p e s m args below meth c dC dI cT A ad0 ad H locs ls hB ha hP hD hS hl)
theorem mx_lmul {x y : Int64} (d : decode cc pc = .ok (.lmul, 1)) (k : mx_X l E own cc nL rt nm R Qs n0 (pc + 1) loc (.long (x * y) :: stk) h kc ks) : mx_X l E own cc nL rt nm R Qs n0 pc loc (.long y :: .long x :: stk) h kc ks := by
  intro p e s m args below meth c dC dI cT A ad0 ad H locs ls hB ha hP hD hS hl
  exact lv_lmul hB.1 hB.2.1 d (k p e s m args below meth c dC dI cT A ad0 ad H locs ls hB ha hP hD hS hl)
theorem mx_land {x y : Int64} (d : decode cc pc = .ok (.land, 1)) (k : mx_X l E own cc nL rt nm R Qs n0 (pc + 1) loc (.long (x &&& y) :: stk) h kc ks) : mx_X l E own cc nL rt nm R Qs n0 pc loc (.long y :: .long x :: stk) h kc ks := by
  intro p e s m args below meth c dC dI cT A ad0 ad H locs ls hB ha hP hD hS hl
  exact lv_land hB.1 hB.2.1 d (k p e s m args below meth c dC dI cT A ad0 ad H locs ls hB ha hP hD hS hl)
theorem mx_lor {x y : Int64} (d : decode cc pc = .ok (.lor, 1)) (k : mx_X l E own cc nL rt nm R Qs n0 (pc + 1) loc (.long (x ||| y) :: stk) h kc ks) : mx_X l E own cc nL rt nm R Qs n0 pc loc (.long y :: .long x :: stk) h kc ks := by
  intro p e s m args below meth c dC dI cT A ad0 ad H locs ls hB ha hP hD hS hl
  exact lv_lor hB.1 hB.2.1 d (k p e s m args below meth c dC dI cT A ad0 ad H locs ls hB ha hP hD hS hl)
theorem mx_lxor {x y : Int64} (d : decode cc pc = .ok (.lxor, 1)) (k : mx_X l E own cc nL rt nm R Qs n0 (pc + 1) loc (.long (x ^^^ y) :: stk) h kc ks) : mx_X l E own cc nL rt nm R Qs n0 pc loc (.long y :: .long x :: stk) h kc ks := by
  intro p e s m args below meth c dC dI cT A ad0 ad H locs ls hB ha hP hD hS hl
  exact lv_lxor hB.1 hB.2.1 d (k p e s m args below meth c dC dI cT A ad0 ad H locs ls hB ha hP hD hS hl)
theorem mx_ldiv {x y : Int64} (hy : ¬ y = 0) (d : decode cc pc = .ok (.ldiv, 1)) (k : mx_X l E own cc nL rt nm R Qs n0 (pc + 1) loc (.long (x / y) :: stk) h kc ks) : mx_X l E own cc nL rt nm R Qs n0 pc loc (.long y :: .long x :: stk) h kc ks := by
  intro p e s m args below meth c dC dI cT A ad0 ad H locs ls hB ha hP hD hS hl
  exact lv_ldiv hB.1 hB.2.1 d hy (k p e s m args below meth c dC dI cT A ad0 ad H locs ls hB ha hP hD hS hl)
theorem mx_lrem {x y : Int64} (hy : ¬ y = 0) (d : decode cc pc = .ok (.lrem, 1)) (k : mx_X l E own cc nL rt nm R Qs n0 (pc + 1) loc (.long (mv_lrem x y) :: stk) h kc ks) : mx_X l E own cc nL rt nm R Qs n0 pc loc (.long y :: .long x :: stk) h kc ks := by
  intro p e s m args below meth c dC dI cT A ad0 ad H locs ls hB ha hP hD hS hl
  exact lv_lrem hB.1 hB.2.1 d hy (k p e s m args below meth c dC dI cT A ad0 ad H locs ls hB ha hP hD hS hl)
theorem mx_lneg {x : Int64} (d : decode cc pc = .ok (.lneg, 1)) (k : mx_X l E own cc nL rt nm R Qs n0 (pc + 1) loc (.long (-x) :: stk) h kc ks) : mx_X l E own cc nL rt nm R Qs n0 pc loc (.long x :: stk) h kc ks := by
  intro p e s m args below meth c dC dI cT A ad0 ad H locs ls hB ha hP hD hS hl
  exact lv_lneg hB.1 hB.2.1 d (k p e s m args below meth c dC dI cT A ad0 ad H locs ls hB ha hP hD hS hl)
theorem mx_lshl {x : Int64} {y : Int32} (d : decode cc pc = .ok (.lshl, 1)) (k : mx_X l E own cc nL rt nm R Qs n0 (pc + 1) loc (.long (mv_lshl x y) :: stk) h kc ks) : mx_X l E own cc nL rt nm R Qs n0 pc loc (.int y :: .long x :: stk) h kc ks := by
  intro p e s m args below meth c dC dI cT A ad0 ad H locs ls hB ha hP hD hS hl
  exact lv_lshl (v := mv_lshl x y) hB.1 hB.2.1 d rfl (k p e s m args below meth c dC dI cT A ad0 ad H locs ls hB ha hP hD hS hl)
theorem mx_lshr {x : Int64} {y : Int32} (d : decode cc pc = .ok (.lshr, 1)) (k : mx_X l E own cc nL rt nm R Qs n0 (pc + 1) loc (.long (mv_lshr x y) :: stk) h kc ks) : mx_X l E own cc nL rt nm R Qs n0 pc loc (.int y :: .long x :: stk) h kc ks := by
  intro p e s m args below meth c dC dI cT A ad0 ad H locs ls hB ha hP hD hS hl
  exact lv_lshr (v := mv_lshr x y) hB.1 hB.2.1 d rfl (k p e s m args below meth c dC dI cT A ad0 ad H locs ls hB ha hP hD hS hl)
theorem mx_lushr {x : Int64} {y : Int32} (d : decode cc pc = .ok (.lushr, 1)) (k : mx_X l E own cc nL rt nm R Qs n0 (pc + 1) loc (.long (mv_lushr x y) :: stk) h kc ks) : mx_X l E own cc nL rt nm R Qs n0 pc loc (.int y :: .long x :: stk) h kc ks := by
  intro p e s m args below meth c dC dI cT A ad0 ad H locs ls hB ha hP hD hS hl
  exact lv_lushr (v := mv_lushr x y) hB.1 hB.2.1 d rfl (k p e s m args below meth c dC dI cT A ad0 ad H locs ls hB ha hP hD hS hl)
theorem mx_i2l {x : Int32} (d : decode cc pc = .ok (.i2l, 1)) (k : mx_X l E own cc nL rt nm R Qs n0 (pc + 1) loc (.long x.toInt64 :: stk) h kc ks) : mx_X l E own cc nL rt nm R Qs n0 pc loc (.int x :: stk) h kc ks := by
  intro p e s m args below meth c dC dI cT A ad0 ad H locs ls hB ha hP hD hS hl
  exact lv_i2l hB.1 hB.2.1 d rfl (k p e s m args below meth c dC dI cT A ad0 ad H locs ls hB ha hP hD hS hl)
theorem mx_l2i {x : Int64} (d : decode cc pc = .ok (.l2i, 1)) (k : mx_X l E own cc nL rt nm R Qs n0 (pc + 1) loc (.int x.toInt32 :: stk) h kc ks) : mx_X l E own cc nL rt nm R Qs n0 pc loc (.long x :: stk) h kc ks := by
  intro p e s m args below meth c dC dI cT A ad0 ad H locs ls hB ha hP hD hS hl
  exact lv_l2i hB.1 hB.2.1 d rfl (k p e s m args below meth c dC dI cT A ad0 ad H locs ls hB ha hP hD hS hl)
theorem mx_i2b {x : Int32} (d : decode cc pc = .ok (.i2b, 1)) (k : mx_X l E own cc nL rt nm R Qs n0 (pc + 1) loc (.int x.toInt8.toInt32 :: stk) h kc ks) : mx_X l E own cc nL rt nm R Qs n0 pc loc (.int x :: stk) h kc ks := by
  intro p e s m args below meth c dC dI cT A ad0 ad H locs ls hB ha hP hD hS hl
  exact lv_i2b hB.1 hB.2.1 d rfl (k p e s m args below meth c dC dI cT A ad0 ad H locs ls hB ha hP hD hS hl)
theorem mx_i2s {x : Int32} (d : decode cc pc = .ok (.i2s, 1)) (k : mx_X l E own cc nL rt nm R Qs n0 (pc + 1) loc (.int x.toInt16.toInt32 :: stk) h kc ks) : mx_X l E own cc nL rt nm R Qs n0 pc loc (.int x :: stk) h kc ks := by
  intro p e s m args below meth c dC dI cT A ad0 ad H locs ls hB ha hP hD hS hl
  exact lv_i2s hB.1 hB.2.1 d rfl (k p e s m args below meth c dC dI cT A ad0 ad H locs ls hB ha hP hD hS hl)
theorem mx_lcmp {x y : Int64} (d : decode cc pc = .ok (.lcmp, 1)) (k : mx_X l E own cc nL rt nm R Qs n0 (pc + 1) loc (.int (lg_cmp x y) :: stk) h kc ks) : mx_X l E own cc nL rt nm R Qs n0 pc loc (.long y :: .long x :: stk) h kc ks := by
  intro p e s m args below meth c dC dI cT A ad0 ad H locs ls hB ha hP hD hS hl
  exact W.lcmp hB.1 hB.2.1 d (k p e s m args below meth c dC dI cT A ad0 ad H locs ls hB ha hP hD hS hl)
theorem mx_dup {v : Value} (hv : v.category = 1) (d : decode cc pc = .ok (.dup, 1)) (k : mx_X l E own cc nL rt nm R Qs n0 (pc + 1) loc (v :: v :: stk) h kc ks) : mx_X l E own cc nL rt nm R Qs n0 pc loc (v :: stk) h kc ks := by
  intro p e s m args below meth c dC dI cT A ad0 ad H locs ls hB ha hP hD hS hl
  exact lv_dup hB.1 hB.2.1 d (by rw [mx_cat]; exact hv) (k p e s m args below meth c dC dI cT A ad0 ad H locs ls hB ha hP hD hS hl)
theorem mx_pop {v : Value} (hv : v.category = 1) (d : decode cc pc = .ok (.pop, 1)) (k : mx_X l E own cc nL rt nm R Qs n0 (pc + 1) loc (stk) h kc ks) : mx_X l E own cc nL rt nm R Qs n0 pc loc (v :: stk) h kc ks := by
  intro p e s m args below meth c dC dI cT A ad0 ad H locs ls hB ha hP hD hS hl
  exact lv_pop hB.1 hB.2.1 d (by rw [mx_cat]; exact hv) (k p e s m args below meth c dC dI cT A ad0 ad H locs ls hB ha hP hD hS hl)
theorem mx_dup2 {v w : Value} (hv : v.category = 1) (hw : w.category = 1) (d : decode cc pc = .ok (.dup2, 1)) (k : mx_X l E own cc nL rt nm R Qs n0 (pc + 1) loc (v :: w :: v :: w :: stk) h kc ks) : mx_X l E own cc nL rt nm R Qs n0 pc loc (v :: w :: stk) h kc ks := by
  intro p e s m args below meth c dC dI cT A ad0 ad H locs ls hB ha hP hD hS hl
  exact lv_dup2_11 hB.1 hB.2.1 d (by rw [mx_cat]; exact hv) (by rw [mx_cat]; exact hw) (k p e s m args below meth c dC dI cT A ad0 ad H locs ls hB ha hP hD hS hl)
theorem mx_if_eq {x : Int32} {off : Int} (tgt : Nat) (d : decode cc pc = .ok (.ifCond .eq off, 3)) (ht : (pc : Int) + off = (tgt : Int)) (kt : x = 0 → mx_X l E own cc nL rt nm R Qs n0 tgt loc stk h kc ks) (kf : ¬ x = 0 → mx_X l E own cc nL rt nm R Qs n0 (pc + 3) loc stk h kc ks) : mx_X l E own cc nL rt nm R Qs n0 pc loc (.int x :: stk) h kc ks := by
  intro p e s m args below meth c dC dI cT A ad0 ad H locs ls hB ha hP hD hS hl
  exact lv_if_eq hB.1 hB.2.1 d ht (fun z => kt z p e s m args below meth c dC dI cT A ad0 ad H locs ls hB ha hP hD hS hl) (fun z => kf z p e s m args below meth c dC dI cT A ad0 ad H locs ls hB ha hP hD hS hl)
theorem mx_icmp_eq {x y : Int32} {off : Int} (tgt : Nat) (d : decode cc pc = .ok (.if_icmp .eq off, 3)) (ht : (pc : Int) + off = (tgt : Int)) (kt : x = y → mx_X l E own cc nL rt nm R Qs n0 tgt loc stk h kc ks) (kf : ¬ x = y → mx_X l E own cc nL rt nm R Qs n0 (pc + 3) loc stk h kc ks) : mx_X l E own cc nL rt nm R Qs n0 pc loc (.int y :: .int x :: stk) h kc ks := by
  intro p e s m args below meth c dC dI cT A ad0 ad H locs ls hB ha hP hD hS hl
  exact lv_icmp_eq hB.1 hB.2.1 d ht (fun z => kt z p e s m args below meth c dC dI cT A ad0 ad H locs ls hB ha hP hD hS hl) (fun z => kf z p e s m args below meth c dC dI cT A ad0 ad H locs ls hB ha hP hD hS hl)
theorem mx_if_lt {x : Int32} {off : Int} (tgt : Nat) (d : decode cc pc = .ok (.ifCond .lt off, 3)) (ht : (pc : Int) + off = (tgt : Int)) (kt : x < 0 → mx_X l E own cc nL rt nm R Qs n0 tgt loc stk h kc ks) (kf : ¬ x < 0 → mx_X l E own cc nL rt nm R Qs n0 (pc + 3) loc stk h kc ks) : mx_X l E own cc nL rt nm R Qs n0 pc loc (.int x :: stk) h kc ks := by
  intro p e s m args below meth c dC dI cT A ad0 ad H locs ls hB ha hP hD hS hl
  exact lv_if_lt hB.1 hB.2.1 d ht (fun z => kt z p e s m args below meth c dC dI cT A ad0 ad H locs ls hB ha hP hD hS hl) (fun z => kf z p e s m args below meth c dC dI cT A ad0 ad H locs ls hB ha hP hD hS hl)
theorem mx_icmp_lt {x y : Int32} {off : Int} (tgt : Nat) (d : decode cc pc = .ok (.if_icmp .lt off, 3)) (ht : (pc : Int) + off = (tgt : Int)) (kt : x < y → mx_X l E own cc nL rt nm R Qs n0 tgt loc stk h kc ks) (kf : ¬ x < y → mx_X l E own cc nL rt nm R Qs n0 (pc + 3) loc stk h kc ks) : mx_X l E own cc nL rt nm R Qs n0 pc loc (.int y :: .int x :: stk) h kc ks := by
  intro p e s m args below meth c dC dI cT A ad0 ad H locs ls hB ha hP hD hS hl
  exact lv_icmp_lt hB.1 hB.2.1 d ht (fun z => kt z p e s m args below meth c dC dI cT A ad0 ad H locs ls hB ha hP hD hS hl) (fun z => kf z p e s m args below meth c dC dI cT A ad0 ad H locs ls hB ha hP hD hS hl)
theorem mx_if_ge {x : Int32} {off : Int} (tgt : Nat) (d : decode cc pc = .ok (.ifCond .ge off, 3)) (ht : (pc : Int) + off = (tgt : Int)) (kt : 0 ≤ x → mx_X l E own cc nL rt nm R Qs n0 tgt loc stk h kc ks) (kf : ¬ 0 ≤ x → mx_X l E own cc nL rt nm R Qs n0 (pc + 3) loc stk h kc ks) : mx_X l E own cc nL rt nm R Qs n0 pc loc (.int x :: stk) h kc ks := by
  intro p e s m args below meth c dC dI cT A ad0 ad H locs ls hB ha hP hD hS hl
  exact lv_if_ge hB.1 hB.2.1 d ht (fun z => kt z p e s m args below meth c dC dI cT A ad0 ad H locs ls hB ha hP hD hS hl) (fun z => kf z p e s m args below meth c dC dI cT A ad0 ad H locs ls hB ha hP hD hS hl)
theorem mx_icmp_ge {x y : Int32} {off : Int} (tgt : Nat) (d : decode cc pc = .ok (.if_icmp .ge off, 3)) (ht : (pc : Int) + off = (tgt : Int)) (kt : y ≤ x → mx_X l E own cc nL rt nm R Qs n0 tgt loc stk h kc ks) (kf : ¬ y ≤ x → mx_X l E own cc nL rt nm R Qs n0 (pc + 3) loc stk h kc ks) : mx_X l E own cc nL rt nm R Qs n0 pc loc (.int y :: .int x :: stk) h kc ks := by
  intro p e s m args below meth c dC dI cT A ad0 ad H locs ls hB ha hP hD hS hl
  exact lv_icmp_ge hB.1 hB.2.1 d ht (fun z => kt z p e s m args below meth c dC dI cT A ad0 ad H locs ls hB ha hP hD hS hl) (fun z => kf z p e s m args below meth c dC dI cT A ad0 ad H locs ls hB ha hP hD hS hl)
theorem mx_if_gt {x : Int32} {off : Int} (tgt : Nat) (d : decode cc pc = .ok (.ifCond .gt off, 3)) (ht : (pc : Int) + off = (tgt : Int)) (kt : 0 < x → mx_X l E own cc nL rt nm R Qs n0 tgt loc stk h kc ks) (kf : ¬ 0 < x → mx_X l E own cc nL rt nm R Qs n0 (pc + 3) loc stk h kc ks) : mx_X l E own cc nL rt nm R Qs n0 pc loc (.int x :: stk) h kc ks := by
  intro p e s m args below meth c dC dI cT A ad0 ad H locs ls hB ha hP hD hS hl
  exact lv_if_gt hB.1 hB.2.1 d ht (fun z => kt z p e s m args below meth c dC dI cT A ad0 ad H locs ls hB ha hP hD hS hl) (fun z => kf z p e s m args below meth c dC dI cT A ad0 ad H locs ls hB ha hP hD hS hl)
theorem mx_icmp_gt {x y : Int32} {off : Int} (tgt : Nat) (d : decode cc pc = .ok (.if_icmp .gt off, 3)) (ht : (pc : Int) + off = (tgt : Int)) (kt : y < x → mx_X l E own cc nL rt nm R Qs n0 tgt loc stk h kc ks) (kf : ¬ y < x → mx_X l E own cc nL rt nm R Qs n0 (pc + 3) loc stk h kc ks) : mx_X l E own cc nL rt nm R Qs n0 pc loc (.int y :: .int x :: stk) h kc ks := by
  intro p e s m args below meth c dC dI cT A ad0 ad H locs ls hB ha hP hD hS hl
  exact lv_icmp_gt hB.1 hB.2.1 d ht (fun z => kt z p e s m args below meth c dC dI cT A ad0 ad H locs ls hB ha hP hD hS hl) (fun z => kf z p e s m args below meth c dC dI cT A ad0 ad H locs ls hB ha hP hD hS hl)
theorem mx_if_le {x : Int32} {off : Int} (tgt : Nat) (d : decode cc pc = .ok (.ifCond .le off, 3)) (ht : (pc : Int) + off = (tgt : Int)) (kt : x ≤ 0 → mx_X l E own cc nL rt nm R Qs n0 tgt loc stk h kc ks) (kf : ¬ x ≤ 0 → mx_X l E own cc nL rt nm R Qs n0 (pc + 3) loc stk h kc ks) : mx_X l E own cc nL rt nm R Qs n0 pc loc (.int x :: stk) h kc ks := by
  intro p e s m args below meth c dC dI cT A ad0 ad H locs ls hB ha hP hD hS hl
  exact lv_if_le hB.1 hB.2.1 d ht (fun z => kt z p e s m args below meth c dC dI cT A ad0 ad H locs ls hB ha hP hD hS hl) (fun z => kf z p e s m args below meth c dC dI cT A ad0 ad H locs ls hB ha hP hD hS hl)
theorem mx_icmp_le {x y : Int32} {off : Int} (tgt : Nat) (d : decode cc pc = .ok (.if_icmp .le off, 3)) (ht : (pc : Int) + off = (tgt : Int)) (kt : x ≤ y → mx_X l E own cc nL rt nm R Qs n0 tgt loc stk h kc ks) (kf : ¬ x ≤ y → mx_X l E own cc nL rt nm R Qs n0 (pc + 3) loc stk h kc ks) : mx_X l E own cc nL rt nm R Qs n0 pc loc (.int y :: .int x :: stk) h kc ks := by
  intro p e s m args below meth c dC dI cT A ad0 ad H locs ls hB ha hP hD hS hl
  exact lv_icmp_le hB.1 hB.2.1 d ht (fun z => kt z p e s m args below meth c dC dI cT A ad0 ad H locs ls hB ha hP hD hS hl) (fun z => kf z p e s m args below meth c dC dI cT A ad0 ad H locs ls hB ha hP hD hS hl)
theorem mx_if_ne {x : Int32} {off : Int} (tgt : Nat) (d : decode cc pc = .ok (.ifCond .ne off, 3)) (ht : (pc : Int) + off = (tgt : Int)) (kt : ¬ x = 0 → mx_X l E own cc nL rt nm R Qs n0 tgt loc stk h kc ks) (kf : x = 0 → mx_X l E own cc nL rt nm R Qs n0 (pc + 3) loc stk h kc ks) : mx_X l E own cc nL rt nm R Qs n0 pc loc (.int x :: stk) h kc ks := by
  intro p e s m args below meth c dC dI cT A ad0 ad H locs ls hB ha hP hD hS hl
  exact lv_if_ne hB.1 hB.2.1 d ht (fun z => kt z p e s m args below meth c dC dI cT A ad0 ad H locs ls hB ha hP hD hS hl) (fun z => kf z p e s m args below meth c dC dI cT A ad0 ad H locs ls hB ha hP hD hS hl)
theorem mx_icmp_ne {x y : Int32} {off : Int} (tgt : Nat) (d : decode cc pc = .ok (.if_icmp .ne off, 3)) (ht : (pc : Int) + off = (tgt : Int)) (kt : ¬ x = y → mx_X l E own cc nL rt nm R Qs n0 tgt loc stk h kc ks) (kf : x = y → mx_X l E own cc nL rt nm R Qs n0 (pc + 3) loc stk h kc ks) : mx_X l E own cc nL rt nm R Qs n0 pc loc (.int y :: .int x :: stk) h kc ks := by
  intro p e s m args below meth c dC dI cT A ad0 ad H locs ls hB ha hP hD hS hl
  exact lv_icmp_ne hB.1 hB.2.1 d ht (fun z => kt z p e s m args below meth c dC dI cT A ad0 ad H locs ls hB ha hP hD hS hl) (fun z => kf z p e s m args below meth c dC dI cT A ad0 ad H locs ls hB ha hP hD hS hl)
theorem mx_goto {off : Int} (tgt : Nat) (d : decode cc pc = .ok (.goto off, 3)) (ht : (pc : Int) + off = (tgt : Int)) (k : mx_X l E own cc nL rt nm R Qs n0 tgt loc stk h kc ks) : mx_X l E own cc nL rt nm R Qs n0 pc loc stk h kc ks := by
  intro p e s m args below meth c dC dI cT A ad0 ad H locs ls hB ha hP hD hS hl
  exact lv_goto hB.1 hB.2.1 d ht (k p e s m args below meth c dC dI cT A ad0 ad H locs ls hB ha hP hD hS hl)
theorem mx_tableIn {dflt lo hi : Int} {offs : Array Int} {len : Nat} {x : Int32} {off : Int} (tgt : Nat) (d : decode cc pc = .ok (.tableswitch dflt lo hi offs, len)) (h1 : ¬ x.toInt < lo) (h2 : ¬ hi < x.toInt) (ho : offs[(x.toInt - lo).toNat]? = some off) (ht : (pc : Int) + off = (tgt : Int)) (k : mx_X l E own cc nL rt nm R Qs n0 tgt loc stk h kc ks) : mx_X l E own cc nL rt nm R Qs n0 pc loc (.int x :: stk) h kc ks := by
  intro p e s m args below meth c dC dI cT A ad0 ad H locs ls hB ha hP hD hS hl
  exact lv_tableIn hB.1 hB.2.1 d h1 h2 ho ht (k p e s m args below meth c dC dI cT A ad0 ad H locs ls hB ha hP hD hS hl)
theorem mx_tableOut {dflt lo hi : Int} {offs : Array Int} {len : Nat} {x : Int32} (tgt : Nat) (d : decode cc pc = .ok (.tableswitch dflt lo hi offs, len)) (h0 : x.toInt < lo ∨ hi < x.toInt) (ht : (pc : Int) + dflt = (tgt : Int)) (k : mx_X l E own cc nL rt nm R Qs n0 tgt loc stk h kc ks) : mx_X l E own cc nL rt nm R Qs n0 pc loc (.int x :: stk) h kc ks := by
  intro p e s m args below meth c dC dI cT A ad0 ad H locs ls hB ha hP hD hS hl
  exact lv_tableOut hB.1 hB.2.1 d h0 ht (k p e s m args below meth c dC dI cT A ad0 ad H locs ls hB ha hP hD hS hl)
theorem mx_get {index ci f i : Nat} {ty : FieldType} {fin : Bool} {dc : String} {fs : List Value} {v : Value} (F : mx_F own index ci f ty fin dc) (he : h[i]? = some (.inr (ci, fs))) (hv : fs[f]? = some v) (d : decode cc pc = .ok (.getfield index, 3)) (k : mx_X l E own cc nL rt nm R Qs n0 (pc + 3) loc (v :: stk) h kc ks) : mx_X l E own cc nL rt nm R Qs n0 pc loc (.ref i :: stk) h kc ks := by
  intro p e s m args below meth c dC dI cT A ad0 ad H locs ls hB ha hP hD hS hl
  obtain ⟨C, T, N, ty0, h1, h2, h3, h4, -⟩ := F
  exact va_get (D := (dC, dI)) (ci := ci) (v := mx_v ad v) (C := C) (T := T) (N := N) hB.1 hB.2.1 hB.2.2.2.2.2.2.2.1 h2 hB.2.2.2.2.2.2.1 hB.2.2.2.2.2.2.2.2.1 hP i (mx_wat he) h1 f h3 (hB.2.2.2.2.2.2.2.1 _ h4) (fun _ h9 => h9) (by simp [hv]) d (k p e s m args below meth c dC dI cT A ad0 ad H locs ls hB ha hP hD hS hl)
theorem mx_put {index ci f i : Nat} {ty : FieldType} {dc : String} {fs : List Value} {v : Value} (F : mx_F own index ci f ty false dc) (he : h[i]? = some (.inr (ci, fs))) (hf : f < fs.length) (hn : ∀ a, narrow ty (mx_v a v) = mx_v a v) (hfit : ∀ a, fits ty (mx_v a v) = true) (d : decode cc pc = .ok (.putfield index, 3)) (k : mx_X l E own cc nL rt nm R Qs n0 (pc + 3) loc stk (h.set i (.inr (ci, fs.set f v))) kc ks) : mx_X l E own cc nL rt nm R Qs n0 pc loc (v :: .ref i :: stk) h kc ks := by
  intro p e s m args below meth c dC dI cT A ad0 ad H locs ls hB ha hP hD hS hl
  obtain ⟨C, T, N, ty0, h1, h2, h3, h4, h5, h6, h7, h8, -⟩ := F
  refine va_put (D := (dC, dI)) (ci := ci) (v := mx_v ad v) (ty := ty) (C := C) (T := T) (N := N) (fs := fs.map (mx_v ad)) hB.1 hB.2.1 hB.2.2.2.2.2.2.2.1 h2 ty0 h5 h7 hB.2.2.2.2.2.2.1 hB.2.2.2.2.2.2.2.2.1 hP hD hS i (mx_wat he) h1 f h3 (hB.2.2.2.2.2.2.2.1 _ h4) (fun _ h9 => h9) h8 (by rw [h5 f h3, h6]) (hn ad) (hfit ad) (by simp [hf]) d (fun H locs hP hD hS => ?_)
  have e9 : (Sum.inr (ci, (fs.map (mx_v ad)).set f (mx_v ad v)) : va_E) = mx_c cT ad (.inr (ci, fs.set f v)) := by simp [mx_c, List.map_set]
  rw [e9, mx_wset] at hP hD
  exact k p e s m args below meth c dC dI cT A ad0 ad H locs ls hB ha hP hD hS hl
theorem mx_putF {index ci f i : Nat} {ty : FieldType} {fs : List Value} {v : Value} (hnm : nm = "<init>") (F : mx_F own index ci f ty true own) (he : h[i]? = some (.inr (ci, fs))) (hf : f < fs.length) (hn : ∀ a, narrow ty (mx_v a v) = mx_v a v) (hfit : ∀ a, fits ty (mx_v a v) = true) (d : decode cc pc = .ok (.putfield index, 3)) (k : mx_X l E own cc nL rt nm R Qs n0 (pc + 3) loc stk (h.set i (.inr (ci, fs.set f v))) kc ks) : mx_X l E own cc nL rt nm R Qs n0 pc loc (v :: .ref i :: stk) h kc ks := by
  intro p e s m args below meth c dC dI cT A ad0 ad H locs ls hB ha hP hD hS hl
  obtain ⟨C, T, N, ty0, h1, h2, h3, h4, h5, h6, h7, h8, h10⟩ := F
  refine va_putF (D := (dC, dI)) (ci := ci) (v := mx_v ad v) (ty := ty) (C := C) (T := T) (N := N) (fs := fs.map (mx_v ad)) hB.1 hB.2.1 hB.2.2.2.2.2.2.2.1 h2 ty0 h5 h7 hB.2.2.2.2.2.2.1 hB.2.2.2.2.2.2.2.2.1 hP hD hS i (mx_wat he) h1 f h3 (hB.2.2.2.2.2.2.2.1 _ h4) (fun _ h9 => h9) h8 (hB.2.2.2.2.1.trans hnm) h10 (by rw [h5 f h3, h6]) (hn ad) (hfit ad) (by simp [hf]) d (fun H locs hP hD hS => ?_)
  have e9 : (Sum.inr (ci, (fs.map (mx_v ad)).set f (mx_v ad v)) : va_E) = mx_c cT ad (.inr (ci, fs.set f v)) := by simp [mx_c, List.map_set]
  rw [e9, mx_wset] at hP hD
  exact k p e s m args below meth c dC dI cT A ad0 ad H locs ls hB ha hP hD hS hl
theorem mx_iald {i n : Nat} {f : Nat → Int32} {j : Int32} (he : h[i]? = some (.inl (.int, n, .inl f))) (hj : vp_in j n) (d : decode cc pc = .ok (.iaload, 1)) (k : mx_X l E own cc nL rt nm R Qs n0 (pc + 1) loc (.int (f j.toNatClampNeg) :: stk) h kc ks) : mx_X l E own cc nL rt nm R Qs n0 pc loc (.int j :: .ref i :: stk) h kc ks := by
  intro p e s m args below meth c dC dI cT A ad0 ad H locs ls hB ha hP hD hS hl
  exact va_iald hB.1 hB.2.1 hB.2.2.2.2.2.2.2.2.1 hP i 0 (mx_wat he) rfl hj d (k p e s m args below meth c dC dI cT A ad0 ad H locs ls hB ha hP hD hS hl)
theorem mx_zald {i n : Nat} {f : Nat → Int32} {j : Int32} (he : h[i]? = some (.inl (.boolean, n, .inl f))) (hj : vp_in j n) (d : decode cc pc = .ok (.baload, 1)) (k : mx_X l E own cc nL rt nm R Qs n0 (pc + 1) loc (.int (f j.toNatClampNeg) :: stk) h kc ks) : mx_X l E own cc nL rt nm R Qs n0 pc loc (.int j :: .ref i :: stk) h kc ks := by
  intro p e s m args below meth c dC dI cT A ad0 ad H locs ls hB ha hP hD hS hl
  exact va_zald hB.1 hB.2.1 hB.2.2.2.2.2.2.2.2.1 hP i 2 (mx_wat he) rfl hj d (k p e s m args below meth c dC dI cT A ad0 ad H locs ls hB ha hP hD hS hl)
theorem mx_lald {i n : Nat} {f : Nat → Int64} {j : Int32} (he : h[i]? = some (.inl (.long, n, .inr (.inl f)))) (hj : vp_in j n) (d : decode cc pc = .ok (.laload, 1)) (k : mx_X l E own cc nL rt nm R Qs n0 (pc + 1) loc (.long (f j.toNatClampNeg) :: stk) h kc ks) : mx_X l E own cc nL rt nm R Qs n0 pc loc (.int j :: .ref i :: stk) h kc ks := by
  intro p e s m args below meth c dC dI cT A ad0 ad H locs ls hB ha hP hD hS hl
  exact va_lald hB.1 hB.2.1 hB.2.2.2.2.2.2.2.2.1 hP i 1 (mx_wat he) rfl hj d (k p e s m args below meth c dC dI cT A ad0 ad H locs ls hB ha hP hD hS hl)
theorem mx_iast {i n : Nat} {f : Nat → Int32} {j : Int32} {x : Int32} (he : h[i]? = some (.inl (.int, n, .inl f))) (hj : vp_in j n) (d : decode cc pc = .ok (.iastore, 1)) (k : mx_X l E own cc nL rt nm R Qs n0 (pc + 1) loc stk (h.set i (.inl (.int, n, .inl (upd f j.toNatClampNeg (x))))) kc ks) : mx_X l E own cc nL rt nm R Qs n0 pc loc (.int x :: .int j :: .ref i :: stk) h kc ks := by
  intro p e s m args below meth c dC dI cT A ad0 ad H locs ls hB ha hP hD hS hl
  refine va_iast hB.1 hB.2.1 hB.2.2.2.2.2.2.2.2.1 hP hD hS i 0 (mx_wat he) rfl hj d (fun H locs hP hD hS => ?_)
  have hP : va_P (dC, dI) vwCl ((mx_w cT ad h).set i (ad i, mx_c cT ad (.inl (.int, n, .inl (upd f j.toNatClampNeg (x)))))) H := hP
  have hD : va_D A ((mx_w cT ad h).set i (ad i, mx_c cT ad (.inl (.int, n, .inl (upd f j.toNatClampNeg (x)))))) := hD
  rw [mx_wset] at hP hD
  exact k p e s m args below meth c dC dI cT A ad0 ad H locs ls hB ha hP hD hS hl
theorem mx_zast {i n : Nat} {f : Nat → Int32} {j : Int32} {x : Int32} (he : h[i]? = some (.inl (.boolean, n, .inl f))) (hj : vp_in j n) (d : decode cc pc = .ok (.bastore, 1)) (k : mx_X l E own cc nL rt nm R Qs n0 (pc + 1) loc stk (h.set i (.inl (.boolean, n, .inl (upd f j.toNatClampNeg (vp_nar .boolean x))))) kc ks) : mx_X l E own cc nL rt nm R Qs n0 pc loc (.int x :: .int j :: .ref i :: stk) h kc ks := by
  intro p e s m args below meth c dC dI cT A ad0 ad H locs ls hB ha hP hD hS hl
  refine va_zast hB.1 hB.2.1 hB.2.2.2.2.2.2.2.2.1 hP hD hS i 2 (mx_wat he) rfl hj d (fun H locs hP hD hS => ?_)
  have hP : va_P (dC, dI) vwCl ((mx_w cT ad h).set i (ad i, mx_c cT ad (.inl (.boolean, n, .inl (upd f j.toNatClampNeg (vp_nar .boolean x)))))) H := hP
  have hD : va_D A ((mx_w cT ad h).set i (ad i, mx_c cT ad (.inl (.boolean, n, .inl (upd f j.toNatClampNeg (vp_nar .boolean x)))))) := hD
  rw [mx_wset] at hP hD
  exact k p e s m args below meth c dC dI cT A ad0 ad H locs ls hB ha hP hD hS hl
theorem mx_last {i n : Nat} {f : Nat → Int64} {j : Int32} {x : Int64} (he : h[i]? = some (.inl (.long, n, .inr (.inl f)))) (hj : vp_in j n) (d : decode cc pc = .ok (.lastore, 1)) (k : mx_X l E own cc nL rt nm R Qs n0 (pc + 1) loc stk (h.set i (.inl (.long, n, .inr (.inl (vp_updL f j.toNatClampNeg x))))) kc ks) : mx_X l E own cc nL rt nm R Qs n0 pc loc (.long x :: .int j :: .ref i :: stk) h kc ks := by
  intro p e s m args below meth c dC dI cT A ad0 ad H locs ls hB ha hP hD hS hl
  refine va_last hB.1 hB.2.1 hB.2.2.2.2.2.2.2.2.1 hP hD hS i 1 (mx_wat he) rfl hj d (fun H locs hP hD hS => ?_)
  have hP : va_P (dC, dI) vwCl ((mx_w cT ad h).set i (ad i, mx_c cT ad (.inl (.long, n, .inr (.inl (vp_updL f j.toNatClampNeg x)))))) H := hP
  have hD : va_D A ((mx_w cT ad h).set i (ad i, mx_c cT ad (.inl (.long, n, .inr (.inl (vp_updL f j.toNatClampNeg x)))))) := hD
  rw [mx_wset] at hP hD
  exact k p e s m args below meth c dC dI cT A ad0 ad H locs ls hB ha hP hD hS hl
theorem mx_alen {i : Nat} {t : FieldType} {a : vp_A} (v : Int32) (he : h[i]? = some (.inl (t, a))) (z : Nat) (hz : ∀ cT, (mx_tys cT)[z]? = some (cT t, t)) (hv : Int32.ofNat a.1 = v) (d : decode cc pc = .ok (.arraylength, 1)) (k : mx_X l E own cc nL rt nm R Qs n0 (pc + 1) loc (.int v :: stk) h kc ks) : mx_X l E own cc nL rt nm R Qs n0 pc loc (.ref i :: stk) h kc ks := by
  intro p e s m args below meth c dC dI cT A ad0 ad H locs ls hB ha hP hD hS hl
  exact va_alen hB.1 hB.2.1 hB.2.2.2.2.2.2.2.2.1 hP i z (mx_wat he) (hz cT) hv d (k p e s m args below meth c dC dI cT A ad0 ad H locs ls hB ha hP hD hS hl)
end MX
