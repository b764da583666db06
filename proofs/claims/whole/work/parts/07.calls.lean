/-! CALLS: a method's contract over the picture (mx_M), its start, its ends, a call of each kind, new cells -/
def mx_pow (j : Nat) : Value := .long (Int64.ofNat (10 ^ j))
def mx_E0 : mx_E := fun s A => (∀ q ∈ mx_nestL, va_Nw (.methodLinkNest q.1 q.2.1 q.2.2.1 q.2.2.2) s) ∧ ∃ t : Nat, va_Z "PolicyRoutes$Odds" "TENS" "[J" (.ref t) A s s.heap ∧ va_T .long t 16 mx_pow A s s.heap
theorem mx_E0_to {s U : State} {A A' : Nat → Prop} {H : Heap} {locs : List Loc} (h : mx_E0 s A) (hS : va_S A s.heap H locs) (hU : U.heap = H) (hW : s.WarmedH U.vm) (hA : ∀ q, A' q → A q) : mx_E0 U A' := by
  obtain ⟨h1, t, h2, h3⟩ := h
  refine ⟨fun q hq => (h1 q hq).warmM hW, t, ?_, ?_⟩
  · rw [hU]; exact ((h2.kept hS.2.1).moved hW.alike).narrow hA
  · rw [hU]; exact ((h3.kept hS.2.1).moved hW.alike).narrow hA
theorem mx_E0_bl {U : State} {A : Nat → Prop} (g : JFrame) (mk : MethodId) (a : Array Value) (h : mx_E0 U A) : mx_E0 (U.calling g mk a) A := by
  obtain ⟨h1, t, h2, h3⟩ := h
  refine ⟨fun q hq => (h1 q hq).same rfl rfl, t, ?_, ?_⟩
  · exact h2.moved (u := U) (U := U.calling g mk a) (Vm.Alike.refl U.vm)
  · exact h3.moved (u := U) (U := U.calling g mk a) (Vm.Alike.refl U.vm)
def mx_ws (y : MethodName) (cc : ByteArray) (nL : Nat) (rt : Option FieldType) : List Cond := .code y cc nL rt :: mx_T
def mx_rm (d mc ms : Nat) : Room := { frames := d, cells := mc, slots := ms, locals := 40 * d }
def mx_Q (dC : Nat → ClassId) (dI : Nat → Nat → Nat) (cT : FieldType → ClassId) (ad : Nat → Nat) (n0 : Nat) (r : Option Value) (h' : List mx_C) (A : Nat → Prop) : Array Value → State → Outcome → State → Prop := match r with
  | some (.int x) => va_Qi (fun (r : Int32) (u : Nat → Nat) => r = x ∧ ∀ i : Nat, i < n0 → u i = ad i) (fun u t => va_P (dC, dI) vwCl (mx_w cT u h') t.heap ∧ va_D A (mx_w cT u h')) A
  | some (.long x) => va_Ql (fun (r : Int64) (u : Nat → Nat) => r = x ∧ ∀ i : Nat, i < n0 → u i = ad i) (fun u t => va_P (dC, dI) vwCl (mx_w cT u h') t.heap ∧ va_D A (mx_w cT u h')) A
  | none => va_Qv (fun (u : Nat → Nat) => ∀ i : Nat, i < n0 → u i = ad i) (fun u t => va_P (dC, dI) vwCl (mx_w cT u h') t.heap ∧ va_D A (mx_w cT u h')) A
  | _ => fun _ _ _ _ => False
def mx_Pc (dC : Nat → ClassId) (dI : Nat → Nat → Nat) (cT : FieldType → ClassId) (ad : Nat → Nat) (sz : Nat) (args : List Value) (h : List mx_C) : Array Value → State → Prop := va_Pc (args.map (mx_v ad)) (fun U => U.heap.size = sz ∧ va_P (dC, dI) vwCl (mx_w cT ad h) U.heap ∧ va_K (dC, dI) vwCl (mx_tys cT) U ∧ va_D (fun _ => True) (mx_w cT ad h) ∧ mx_E0 U (va_A (mx_w cT ad h) sz))
def mx_M (l : Launch) (y : MethodName) (cc : ByteArray) (nL : Nat) (rt : Option FieldType) (d : Nat) (args : List Value) (h : List mx_C) (r : Option Value) (h' : List mx_C) (mc ms : Nat) : Prop := ∀ (dC : Nat → ClassId) (dI : Nat → Nat → Nat) (cT : FieldType → ClassId) (ad : Nat → Nat) (sz : Nat),
  Met l y (mx_ws y cc nL rt) (mx_rm d mc ms) (mx_Pc dC dI cT ad sz args h) (mx_Q dC dI cT ad h.length r h' (va_A (mx_w cT ad h) sz)) mc ms (va_A (mx_w cT ad h) sz)
def mx_Qm (n0 : Nat) (r : Option Value) (h' : List mx_C) (mc ms : Nat) : mx_Qt := fun below args s A dC dI cT ad0 => MQ below (mx_Q dC dI cT ad0 n0 r h' A) args s mc ms A
theorem mx_args (ad : Nat → Nat) (vs : List Value) : ∀ i, lv_args i (vs.map (mx_v ad)) = mx_l ad (lv_args i vs) := by
  induction vs with
  | nil => intro i; rfl
  | cons v vs ih =>
    intro i
    simp only [List.map_cons, lv_args, mx_cat, mx_l] at ih ⊢
    rw [ih]
theorem mx_sl (ad : Nat → Nat) (vs : List Value) : (lg_sl (vs.map (mx_v ad))).length = (lg_sl vs).length := by
  induction vs with
  | nil => rfl
  | cons v vs ih =>
    simp only [List.map_cons, lg_sl, List.flatMap_cons, List.length_append, mx_cat] at ih ⊢
    rw [ih]
    congr 1
    split <;> rfl
theorem mx_intro {l : Launch} {y : MethodName} {cc : ByteArray} {nL : Nat} {rt : Option FieldType} {d : Nat} {args : List Value} {h : List mx_C} {r : Option Value} {h' : List mx_C} {mc ms : Nat} (hy : plainName y.cls = true) (hn : (lg_sl args).length ≤ nL) {own nm : String} (ho : y.cls = own) (hm : y.name = nm) (k : mx_X l mx_E0 own cc nL rt nm (mx_rm d mc ms) (mx_Qm h.length r h' mc ms) h.length 0 (lv_args 0 args) [] h 0 0) : mx_M l y cc nL rt d args h r h' mc ms := by
  intro dC dI cT ad sz
  refine Met.ofW (cc := cc) (maxL := nL) (ret := rt) hy rfl ?_
  intro p e s m args' below meth c s₁ B hml hv
  obtain ⟨rfl, hsz, hP, hK, hD0, hE⟩ := hv
  subst ho; subst hm
  have hts := atoms_spec (ws := mx_ws y cc nL rt) B.pre
  have hown : s.vm.findClass y.cls = some m.cls := findClass_of_methodNamed B.named
  have hin : meth.name = y.name := (name_of_methodNamed B.named B.method).1
  subst hsz
  have hD := hD0.self (sz := s.heap.size)
  have hl := lv_entry (args.map (mx_v ad)) (n := nL) (by rw [mx_sl]; exact hn)
  rw [mx_args] at hl
  rw [lg_entry_eq]
  exact k p e s m _ below meth c dC dI cT _ ad ad s.heap [] _ ⟨B.exec, B.bytes, hml, B.returns, hin, B.notSynchronized, hown, fun w hw => hts w (List.mem_cons_of_mem _ hw), hK, fun q hq => Or.inr hq, hE⟩ (fun _ _ => rfl) hP hD va_S.rf hl
section MC
variable {l : Launch} {E : mx_E} {own : String} {cc : ByteArray} {nL : Nat} {rt : Option FieldType} {nm : String} {R : Room} {Qs : mx_Qt} {n0 pc : Nat} {loc : List (Nat × Value)} {stk : List Value} {h : List mx_C} {kc ks mc ms : Nat}
theorem mx_iret {x : Int32} (hk : kc ≤ mc) (hs : ks ≤ ms) (d : decode cc pc = .ok (.ireturn, 1)) : mx_X l E own cc nL (some .int) nm R (mx_Qm n0 (some (.int x)) h mc ms) n0 pc loc [.int x] h kc ks := by
  intro p e s m args below meth c dC dI cT A ad0 ad H locs ls hB ha hP hD hS hl
  exact W.widen hk hs (W.iret (v := x) hB.1 hB.2.1 hB.2.2.2.1 (fun t ht hW => ⟨⟨x, ad, rfl, ⟨rfl, ha⟩, by rw [ht]; exact hP, hD⟩, hS.F ht⟩) hS.2.2 d hB.2.2.2.2.2.1)
theorem mx_zret {x : Int32} (hx : x &&& 1 = x) (hk : kc ≤ mc) (hs : ks ≤ ms) (d : decode cc pc = .ok (.ireturn, 1)) : mx_X l E own cc nL (some .boolean) nm R (mx_Qm n0 (some (.int x)) h mc ms) n0 pc loc [.int x] h kc ks := by
  intro p e s m args below meth c dC dI cT A ad0 ad H locs ls hB ha hP hD hS hl
  exact W.widen hk hs (W.zret (v := x) hB.1 hB.2.1 hB.2.2.2.1 (by show Value.int (x &&& 1) = _; rw [hx]) (fun t ht hW => ⟨⟨x, ad, rfl, ⟨rfl, ha⟩, by rw [ht]; exact hP, hD⟩, hS.F ht⟩) hS.2.2 d hB.2.2.2.2.2.1)
theorem mx_lret {x : Int64} (hk : kc ≤ mc) (hs : ks ≤ ms) (d : decode cc pc = .ok (.lreturn, 1)) : mx_X l E own cc nL (some .long) nm R (mx_Qm n0 (some (.long x)) h mc ms) n0 pc loc [.long x] h kc ks := by
  intro p e s m args below meth c dC dI cT A ad0 ad H locs ls hB ha hP hD hS hl
  exact W.widen hk hs (W.lret (v := x) hB.1 hB.2.1 hB.2.2.2.1 (fun t ht hW => ⟨⟨x, ad, rfl, ⟨rfl, ha⟩, by rw [ht]; exact hP, hD⟩, hS.F ht⟩) hS.2.2 d hB.2.2.2.2.2.1)
theorem mx_vret (hk : kc ≤ mc) (hs : ks ≤ ms) (d : decode cc pc = .ok (.return_, 1)) : mx_X l E own cc nL none nm R (mx_Qm n0 none h mc ms) n0 pc loc [] h kc ks := by
  intro p e s m args below meth c dC dI cT A ad0 ad H locs ls hB ha hP hD hS hl
  exact W.widen hk hs (W.vret hB.1 hB.2.1 hB.2.2.2.1 (fun t ht hW => ⟨⟨ad, rfl, ha, by rw [ht]; exact hP, hD⟩, hS.F ht⟩) hS.2.2 d hB.2.2.2.2.2.1)
theorem mx_okV_eq {n : Nat} {v : Value} {ad u : Nat → Nat} (hv : mx_okV n v = true) (hu : ∀ i : Nat, i < n → u i = ad i) : mx_v u v = mx_v ad v := by
  cases v with
  | ref i => show Value.ref (u i) = Value.ref (ad i); rw [hu i (by simpa [mx_okV] using hv)]
  | _ => rfl
theorem mx_okS {n : Nat} {vs : List Value} {ad u : Nat → Nat} (hv : vs.all (mx_okV n) = true) (hu : ∀ i : Nat, i < n → u i = ad i) : vs.map (mx_v u) = vs.map (mx_v ad) := by
  apply List.map_congr_left
  intro v h
  exact mx_okV_eq (List.all_eq_true.mp hv v h) hu
theorem mx_okL {n : Nat} {loc : List (Nat × Value)} {ad u : Nat → Nat} (hv : loc.all (fun q => mx_okV n q.2) = true) (hu : ∀ i : Nat, i < n → u i = ad i) : mx_l u loc = mx_l ad loc := by
  apply List.map_congr_left
  intro q h
  rw [mx_okV_eq (List.all_eq_true.mp hv q h) hu]
theorem mx_T_good : ∀ w ∈ mx_T, (w.onTables && w.keeps) = true ∨ ∃ ty, w = .arrayClass ty := fun w h => good_of_word (List.mem_filter.mp h).2
theorem mx_good {y : MethodName} {cc : ByteArray} {nL : Nat} {rt : Option FieldType} (h : Cond.code y cc nL rt ∈ mx_T) : GoodIn mx_T (mx_ws y cc nL rt) := fun w hw => by
  have hm : w ∈ mx_T := (List.mem_cons.mp hw).elim (fun e => e ▸ h) id
  exact ⟨hm, mx_T_good w hm⟩
theorem mx_goodA {a : List Cond} {y : MethodName} {cc : ByteArray} {nL : Nat} {rt : Option FieldType} (h : Cond.code y cc nL rt ∈ mx_T) (ha : ∀ w ∈ a, w ∈ mx_T) : GoodIn mx_T (a ++ mx_ws y cc nL rt) := fun w hw => (List.mem_append.mp hw).elim (fun h1 => ⟨ha w h1, mx_T_good w (ha w h1)⟩) (mx_good h w)
theorem mx_blind {dC : Nat → ClassId} {dI : Nat → Nat → Nat} {cT : FieldType → ClassId} {ad : Nat → Nat} {sz : Nat} {args : List Value} {h : List mx_C} : FrameBlind (mx_Pc dC dI cT ad sz args h) := fun a U g mk q => by
  obtain ⟨q0, q1, qP, qK, qD, qE⟩ := q
  exact ⟨q0, q1, qP, va_K.moved (u := U) (U := U.calling g mk a) (Vm.Alike.refl U.vm) qK, qD, mx_E0_bl g mk a qE⟩
theorem mx_pre {s : State} {dC : Nat → ClassId} {dI : Nat → Nat → Nat} {cT : FieldType → ClassId} {ad : Nat → Nat} {A : Nat → Prop} {args : List Value} {H : Heap} {locs : List Loc} (hE : mx_E0 s A) (hK : va_K (dC, dI) vwCl (mx_tys cT) s) (hA : ∀ q : Nat, s.heap.size ≤ q → A q) (hP : va_P (dC, dI) vwCl (mx_w cT ad h) H) (hD : va_D A (mx_w cT ad h)) (hS : va_S A s.heap H locs) : (∀ q, va_A (mx_w cT ad h) H.size q → A q) ∧ ∀ U : State, U.heap = H → s.WarmedH U.vm → mx_Pc dC dI cT ad H.size args h (args.map (mx_v ad)).toArray U := by
  have hF : ∀ q, va_A (mx_w cT ad h) H.size q → A q := by
    rintro q (⟨k, e, hk⟩ | hk)
    · exact hD.2 k (q, e) hk
    · exact hA q (Nat.le_trans hS.1 hk)
  exact ⟨hF, fun U hU hW => ⟨rfl, by rw [hU], by rw [hU]; exact hP, va_K.moved hW.alike hK, hD.weaken (fun _ _ _ _ => trivial), mx_E0_to hE hS hU hW hF⟩⟩
theorem mx_sum (ad : Nat → Nat) (vs : List Value) : ((vs.map (mx_v ad)).map fun v => v.category).sum = (vs.map fun v => v.category).sum := by
  rw [List.map_map]
  congr 1
  apply List.map_congr_left
  intro v _
  exact mx_cat ad v
theorem mx_rev (ad : Nat → Nat) (vs : List Value) : (vs.map (mx_v ad)).reverse = vs.reverse.map (mx_v ad) := by rw [List.map_reverse]
theorem mx_callVi {y : MethodName} {ccy : ByteArray} {nLy index n dy : Nat} {As : List Value} {i : Nat} {ci : Nat} {fs : List Value} {rty : Option FieldType} {x : Int32} {h' : List mx_C} {st : List Value} (hE : ∀ (s : State) (A : Nat → Prop), E s A → mx_E0 s A) (M : mx_M l y ccy nLy rty dy (.ref i :: As) h (some (.int x)) h' mc ms) (Cw : mx_CV own index y ccy nLy rty n) (hst : st = As.reverse ++ .ref i :: stk) (hR : dy + 1 ≤ R.frames ∧ 40 * dy + 40 ≤ R.locals ∧ kc + mc ≤ R.cells ∧ ks + ms ≤ R.slots) (he : h[i]? = some (.inr (ci, fs))) (hc : (vwCl[ci]?).map (fun q => q.1) = some y.cls) (hn : As.length = n) (hw8 : (stk.map fun v => v.category).sum ≤ 8) (hn0 : n0 ≤ h.length) (okl : loc.all (fun q => mx_okV h.length q.2) = true) (oks : stk.all (mx_okV h.length) = true) (dd : decode cc pc = .ok (.invokevirtual index, 3)) (k : mx_X l E own cc nL rt nm R Qs n0 (pc + 3) loc (.int x :: stk) h' (kc + mc) (ks + ms)) : mx_X l E own cc nL rt nm R Qs n0 pc loc st h kc ks := by
  subst hst
  intro p e s m args below meth c dC dI cT A ad0 ad H locs ls hB ha hP hD hS hl
  obtain ⟨hx, hb, hml, hr, hnm, hlk, hown, hts, hK, hA, hE1⟩ := id hB
  obtain ⟨hF, hpre⟩ := mx_pre (args := (.ref i :: As)) (hE s A hE1) hK hA hP hD hS
  obtain ⟨w1, w2, w3, w4, w5, w6, w7⟩ := Cw
  cases hci : vwCl[ci]? with
  | none => rw [hci] at hc; cases hc
  | some qc =>
  rw [hci] at hc
  have hcl : qc.1 = y.cls := Option.some.inj hc
  refine va_calli (va_runV (As := As.map (mx_v ad)) (rest := stk.map (mx_v ad)) ⟨hx, hb, hml, hown, hts⟩ (M dC dI cT ad H.size) (cwV (C := y.cls) n hts (mx_goodA w5 (by intro w hw; simp only [List.mem_cons, List.not_mem_nil, or_false] at hw; rcases hw with rfl | rfl | rfl | rfl <;> assumption)) rfl rfl rfl ⟨rfl, w6⟩ ⟨hR.1, by have := hR.2.1; simp only [mx_rm]; omega⟩) ⟨mx_blind, by rw [← hcl]; exact va_recv hK hP hci (mx_wat he), hpre⟩ rfl (by rw [List.length_map]; exact hn) hl.1 (by rw [mx_rev]; simp [mx_v]) (lv_room (by rw [mx_sum]; exact hw8)) dd ⟨hR.2.2.1, hR.2.2.2⟩) hS (fun q _ h => hF q h) hF (fun r u t H1 locs1 ht hvm hw hB1 hz1 hk1 hS1 => ?_)
  obtain ⟨rfl, hag⟩ := hw
  obtain ⟨hP1, hD1⟩ := hB1
  rw [ht] at hP1
  have e1 := mx_okL okl hag
  have e2 := mx_okS oks hag
  have K := k p e s m args below meth c dC dI cT A ad0 u H1 locs1 ls hB (fun i hi => (hag i (Nat.lt_of_lt_of_le hi hn0)).trans (ha i hi)) hP1 (hD1.weaken (fun _ q _ hq => hF q.1 hq)) hS1 (by rw [e1]; exact hl)
  simp only [List.map_cons, e2, mx_v] at K
  exact K
theorem mx_callVl {y : MethodName} {ccy : ByteArray} {nLy index n dy : Nat} {As : List Value} {i : Nat} {ci : Nat} {fs : List Value} {rty : Option FieldType} {x : Int64} {h' : List mx_C} {st : List Value} (hE : ∀ (s : State) (A : Nat → Prop), E s A → mx_E0 s A) (M : mx_M l y ccy nLy rty dy (.ref i :: As) h (some (.long x)) h' mc ms) (Cw : mx_CV own index y ccy nLy rty n) (hst : st = As.reverse ++ .ref i :: stk) (hR : dy + 1 ≤ R.frames ∧ 40 * dy + 40 ≤ R.locals ∧ kc + mc ≤ R.cells ∧ ks + ms ≤ R.slots) (he : h[i]? = some (.inr (ci, fs))) (hc : (vwCl[ci]?).map (fun q => q.1) = some y.cls) (hn : As.length = n) (hw8 : (stk.map fun v => v.category).sum ≤ 8) (hn0 : n0 ≤ h.length) (okl : loc.all (fun q => mx_okV h.length q.2) = true) (oks : stk.all (mx_okV h.length) = true) (dd : decode cc pc = .ok (.invokevirtual index, 3)) (k : mx_X l E own cc nL rt nm R Qs n0 (pc + 3) loc (.long x :: stk) h' (kc + mc) (ks + ms)) : mx_X l E own cc nL rt nm R Qs n0 pc loc st h kc ks := by
  subst hst
  intro p e s m args below meth c dC dI cT A ad0 ad H locs ls hB ha hP hD hS hl
  obtain ⟨hx, hb, hml, hr, hnm, hlk, hown, hts, hK, hA, hE1⟩ := id hB
  obtain ⟨hF, hpre⟩ := mx_pre (args := (.ref i :: As)) (hE s A hE1) hK hA hP hD hS
  obtain ⟨w1, w2, w3, w4, w5, w6, w7⟩ := Cw
  cases hci : vwCl[ci]? with
  | none => rw [hci] at hc; cases hc
  | some qc =>
  rw [hci] at hc
  have hcl : qc.1 = y.cls := Option.some.inj hc
  refine va_calll (va_runV (As := As.map (mx_v ad)) (rest := stk.map (mx_v ad)) ⟨hx, hb, hml, hown, hts⟩ (M dC dI cT ad H.size) (cwV (C := y.cls) n hts (mx_goodA w5 (by intro w hw; simp only [List.mem_cons, List.not_mem_nil, or_false] at hw; rcases hw with rfl | rfl | rfl | rfl <;> assumption)) rfl rfl rfl ⟨rfl, w6⟩ ⟨hR.1, by have := hR.2.1; simp only [mx_rm]; omega⟩) ⟨mx_blind, by rw [← hcl]; exact va_recv hK hP hci (mx_wat he), hpre⟩ rfl (by rw [List.length_map]; exact hn) hl.1 (by rw [mx_rev]; simp [mx_v]) (lv_room (by rw [mx_sum]; exact hw8)) dd ⟨hR.2.2.1, hR.2.2.2⟩) hS (fun q _ h => hF q h) hF (fun r u t H1 locs1 ht hvm hw hB1 hz1 hk1 hS1 => ?_)
  obtain ⟨rfl, hag⟩ := hw
  obtain ⟨hP1, hD1⟩ := hB1
  rw [ht] at hP1
  have e1 := mx_okL okl hag
  have e2 := mx_okS oks hag
  have K := k p e s m args below meth c dC dI cT A ad0 u H1 locs1 ls hB (fun i hi => (hag i (Nat.lt_of_lt_of_le hi hn0)).trans (ha i hi)) hP1 (hD1.weaken (fun _ q _ hq => hF q.1 hq)) hS1 (by rw [e1]; exact hl)
  simp only [List.map_cons, e2, mx_v] at K
  exact K
theorem mx_callVv {y : MethodName} {ccy : ByteArray} {nLy index n dy : Nat} {As : List Value} {i : Nat} {ci : Nat} {fs : List Value} {rty : Option FieldType}  {h' : List mx_C} {st : List Value} (hE : ∀ (s : State) (A : Nat → Prop), E s A → mx_E0 s A) (M : mx_M l y ccy nLy rty dy (.ref i :: As) h none h' mc ms) (Cw : mx_CV own index y ccy nLy rty n) (hst : st = As.reverse ++ .ref i :: stk) (hR : dy + 1 ≤ R.frames ∧ 40 * dy + 40 ≤ R.locals ∧ kc + mc ≤ R.cells ∧ ks + ms ≤ R.slots) (he : h[i]? = some (.inr (ci, fs))) (hc : (vwCl[ci]?).map (fun q => q.1) = some y.cls) (hn : As.length = n) (hw8 : (stk.map fun v => v.category).sum ≤ 8) (hn0 : n0 ≤ h.length) (okl : loc.all (fun q => mx_okV h.length q.2) = true) (oks : stk.all (mx_okV h.length) = true) (dd : decode cc pc = .ok (.invokevirtual index, 3)) (k : mx_X l E own cc nL rt nm R Qs n0 (pc + 3) loc (stk) h' (kc + mc) (ks + ms)) : mx_X l E own cc nL rt nm R Qs n0 pc loc st h kc ks := by
  subst hst
  intro p e s m args below meth c dC dI cT A ad0 ad H locs ls hB ha hP hD hS hl
  obtain ⟨hx, hb, hml, hr, hnm, hlk, hown, hts, hK, hA, hE1⟩ := id hB
  obtain ⟨hF, hpre⟩ := mx_pre (args := (.ref i :: As)) (hE s A hE1) hK hA hP hD hS
  obtain ⟨w1, w2, w3, w4, w5, w6, w7⟩ := Cw
  cases hci : vwCl[ci]? with
  | none => rw [hci] at hc; cases hc
  | some qc =>
  rw [hci] at hc
  have hcl : qc.1 = y.cls := Option.some.inj hc
  refine va_callv (va_runV (As := As.map (mx_v ad)) (rest := stk.map (mx_v ad)) ⟨hx, hb, hml, hown, hts⟩ (M dC dI cT ad H.size) (cwV (C := y.cls) n hts (mx_goodA w5 (by intro w hw; simp only [List.mem_cons, List.not_mem_nil, or_false] at hw; rcases hw with rfl | rfl | rfl | rfl <;> assumption)) rfl rfl rfl ⟨rfl, w6⟩ ⟨hR.1, by have := hR.2.1; simp only [mx_rm]; omega⟩) ⟨mx_blind, by rw [← hcl]; exact va_recv hK hP hci (mx_wat he), hpre⟩ rfl (by rw [List.length_map]; exact hn) hl.1 (by rw [mx_rev]; simp [mx_v]) (lv_room (by rw [mx_sum]; exact hw8)) dd ⟨hR.2.2.1, hR.2.2.2⟩) hS (fun q _ h => hF q h) hF (fun u t H1 locs1 ht hvm hw hB1 hz1 hk1 hS1 => ?_)
  have hag := hw
  obtain ⟨hP1, hD1⟩ := hB1
  rw [ht] at hP1
  have e1 := mx_okL okl hag
  have e2 := mx_okS oks hag
  have K := k p e s m args below meth c dC dI cT A ad0 u H1 locs1 ls hB (fun i hi => (hag i (Nat.lt_of_lt_of_le hi hn0)).trans (ha i hi)) hP1 (hD1.weaken (fun _ q _ hq => hF q.1 hq)) hS1 (by rw [e1]; exact hl)
  simp only [List.map_cons, e2, mx_v] at K
  exact K
theorem mx_callSi {y : MethodName} {ccy : ByteArray} {nLy index n dy : Nat} {As : List Value} {rty : Option FieldType} {x : Int32} {h' : List mx_C} {st : List Value} (hE : ∀ (s : State) (A : Nat → Prop), E s A → mx_E0 s A) (M : mx_M l y ccy nLy rty dy As h (some (.int x)) h' mc ms) (Cw : mx_CS own index y ccy nLy rty n) (hst : st = As.reverse ++ stk) (hR : dy + 1 ≤ R.frames ∧ 40 * dy + 40 ≤ R.locals ∧ kc + mc ≤ R.cells ∧ ks + ms ≤ R.slots) (hn : As.length = n) (hw8 : (stk.map fun v => v.category).sum ≤ 8) (hn0 : n0 ≤ h.length) (okl : loc.all (fun q => mx_okV h.length q.2) = true) (oks : stk.all (mx_okV h.length) = true) (dd : decode cc pc = .ok (.invokestatic index, 3)) (k : mx_X l E own cc nL rt nm R Qs n0 (pc + 3) loc (.int x :: stk) h' (kc + mc) (ks + ms)) : mx_X l E own cc nL rt nm R Qs n0 pc loc st h kc ks := by
  subst hst
  intro p e s m args below meth c dC dI cT A ad0 ad H locs ls hB ha hP hD hS hl
  obtain ⟨hx, hb, hml, hr, hnm, hlk, hown, hts, hK, hA, hE1⟩ := id hB
  obtain ⟨hF, hpre⟩ := mx_pre (args := As) (hE s A hE1) hK hA hP hD hS
  obtain ⟨w1, w2, w4, w5, w6, w7⟩ := Cw
  refine va_calli (va_runS (As := As.map (mx_v ad)) (rest := stk.map (mx_v ad)) ⟨hx, hb, hml, hown, hts⟩ (M dC dI cT ad H.size) (va_cwS n hts (mx_goodA w5 (by intro w hw; simp only [List.mem_cons, List.not_mem_nil, or_false] at hw; rcases hw with rfl | rfl | rfl <;> assumption)) rfl rfl rfl w6 ⟨hR.1, by have := hR.2.1; simp only [mx_rm]; omega⟩) ⟨mx_blind, hpre⟩ rfl (by rw [List.length_map]; exact hn) hl.1 (by rw [mx_rev]; simp [mx_v]) (lv_room (by rw [mx_sum]; exact hw8)) dd ⟨hR.2.2.1, hR.2.2.2⟩) hS (fun q _ h => hF q h) hF (fun r u t H1 locs1 ht hvm hw hB1 hz1 hk1 hS1 => ?_)
  obtain ⟨rfl, hag⟩ := hw
  obtain ⟨hP1, hD1⟩ := hB1
  rw [ht] at hP1
  have e1 := mx_okL okl hag
  have e2 := mx_okS oks hag
  have K := k p e s m args below meth c dC dI cT A ad0 u H1 locs1 ls hB (fun i hi => (hag i (Nat.lt_of_lt_of_le hi hn0)).trans (ha i hi)) hP1 (hD1.weaken (fun _ q _ hq => hF q.1 hq)) hS1 (by rw [e1]; exact hl)
  simp only [List.map_cons, e2, mx_v] at K
  exact K
theorem mx_callSl {y : MethodName} {ccy : ByteArray} {nLy index n dy : Nat} {As : List Value} {rty : Option FieldType} {x : Int64} {h' : List mx_C} {st : List Value} (hE : ∀ (s : State) (A : Nat → Prop), E s A → mx_E0 s A) (M : mx_M l y ccy nLy rty dy As h (some (.long x)) h' mc ms) (Cw : mx_CS own index y ccy nLy rty n) (hst : st = As.reverse ++ stk) (hR : dy + 1 ≤ R.frames ∧ 40 * dy + 40 ≤ R.locals ∧ kc + mc ≤ R.cells ∧ ks + ms ≤ R.slots) (hn : As.length = n) (hw8 : (stk.map fun v => v.category).sum ≤ 8) (hn0 : n0 ≤ h.length) (okl : loc.all (fun q => mx_okV h.length q.2) = true) (oks : stk.all (mx_okV h.length) = true) (dd : decode cc pc = .ok (.invokestatic index, 3)) (k : mx_X l E own cc nL rt nm R Qs n0 (pc + 3) loc (.long x :: stk) h' (kc + mc) (ks + ms)) : mx_X l E own cc nL rt nm R Qs n0 pc loc st h kc ks := by
  subst hst
  intro p e s m args below meth c dC dI cT A ad0 ad H locs ls hB ha hP hD hS hl
  obtain ⟨hx, hb, hml, hr, hnm, hlk, hown, hts, hK, hA, hE1⟩ := id hB
  obtain ⟨hF, hpre⟩ := mx_pre (args := As) (hE s A hE1) hK hA hP hD hS
  obtain ⟨w1, w2, w4, w5, w6, w7⟩ := Cw
  refine va_calll (va_runS (As := As.map (mx_v ad)) (rest := stk.map (mx_v ad)) ⟨hx, hb, hml, hown, hts⟩ (M dC dI cT ad H.size) (va_cwS n hts (mx_goodA w5 (by intro w hw; simp only [List.mem_cons, List.not_mem_nil, or_false] at hw; rcases hw with rfl | rfl | rfl <;> assumption)) rfl rfl rfl w6 ⟨hR.1, by have := hR.2.1; simp only [mx_rm]; omega⟩) ⟨mx_blind, hpre⟩ rfl (by rw [List.length_map]; exact hn) hl.1 (by rw [mx_rev]; simp [mx_v]) (lv_room (by rw [mx_sum]; exact hw8)) dd ⟨hR.2.2.1, hR.2.2.2⟩) hS (fun q _ h => hF q h) hF (fun r u t H1 locs1 ht hvm hw hB1 hz1 hk1 hS1 => ?_)
  obtain ⟨rfl, hag⟩ := hw
  obtain ⟨hP1, hD1⟩ := hB1
  rw [ht] at hP1
  have e1 := mx_okL okl hag
  have e2 := mx_okS oks hag
  have K := k p e s m args below meth c dC dI cT A ad0 u H1 locs1 ls hB (fun i hi => (hag i (Nat.lt_of_lt_of_le hi hn0)).trans (ha i hi)) hP1 (hD1.weaken (fun _ q _ hq => hF q.1 hq)) hS1 (by rw [e1]; exact hl)
  simp only [List.map_cons, e2, mx_v] at K
  exact K
theorem mx_callSv {y : MethodName} {ccy : ByteArray} {nLy index n dy : Nat} {As : List Value} {rty : Option FieldType}  {h' : List mx_C} {st : List Value} (hE : ∀ (s : State) (A : Nat → Prop), E s A → mx_E0 s A) (M : mx_M l y ccy nLy rty dy As h none h' mc ms) (Cw : mx_CS own index y ccy nLy rty n) (hst : st = As.reverse ++ stk) (hR : dy + 1 ≤ R.frames ∧ 40 * dy + 40 ≤ R.locals ∧ kc + mc ≤ R.cells ∧ ks + ms ≤ R.slots) (hn : As.length = n) (hw8 : (stk.map fun v => v.category).sum ≤ 8) (hn0 : n0 ≤ h.length) (okl : loc.all (fun q => mx_okV h.length q.2) = true) (oks : stk.all (mx_okV h.length) = true) (dd : decode cc pc = .ok (.invokestatic index, 3)) (k : mx_X l E own cc nL rt nm R Qs n0 (pc + 3) loc (stk) h' (kc + mc) (ks + ms)) : mx_X l E own cc nL rt nm R Qs n0 pc loc st h kc ks := by
  subst hst
  intro p e s m args below meth c dC dI cT A ad0 ad H locs ls hB ha hP hD hS hl
  obtain ⟨hx, hb, hml, hr, hnm, hlk, hown, hts, hK, hA, hE1⟩ := id hB
  obtain ⟨hF, hpre⟩ := mx_pre (args := As) (hE s A hE1) hK hA hP hD hS
  obtain ⟨w1, w2, w4, w5, w6, w7⟩ := Cw
  refine va_callv (va_runS (As := As.map (mx_v ad)) (rest := stk.map (mx_v ad)) ⟨hx, hb, hml, hown, hts⟩ (M dC dI cT ad H.size) (va_cwS n hts (mx_goodA w5 (by intro w hw; simp only [List.mem_cons, List.not_mem_nil, or_false] at hw; rcases hw with rfl | rfl | rfl <;> assumption)) rfl rfl rfl w6 ⟨hR.1, by have := hR.2.1; simp only [mx_rm]; omega⟩) ⟨mx_blind, hpre⟩ rfl (by rw [List.length_map]; exact hn) hl.1 (by rw [mx_rev]; simp [mx_v]) (lv_room (by rw [mx_sum]; exact hw8)) dd ⟨hR.2.2.1, hR.2.2.2⟩) hS (fun q _ h => hF q h) hF (fun u t H1 locs1 ht hvm hw hB1 hz1 hk1 hS1 => ?_)
  have hag := hw
  obtain ⟨hP1, hD1⟩ := hB1
  rw [ht] at hP1
  have e1 := mx_okL okl hag
  have e2 := mx_okS oks hag
  have K := k p e s m args below meth c dC dI cT A ad0 u H1 locs1 ls hB (fun i hi => (hag i (Nat.lt_of_lt_of_le hi hn0)).trans (ha i hi)) hP1 (hD1.weaken (fun _ q _ hq => hF q.1 hq)) hS1 (by rw [e1]; exact hl)
  simp only [List.map_cons, e2, mx_v] at K
  exact K
theorem mx_callSNi {y : MethodName} {ccy : ByteArray} {nLy index n dy : Nat} {As : List Value} {host : String} {rty : Option FieldType} {x : Int32} {h' : List mx_C} {st : List Value} (hE : ∀ (s : State) (A : Nat → Prop), E s A → mx_E0 s A) (M : mx_M l y ccy nLy rty dy As h (some (.int x)) h' mc ms) (Cw : mx_CSN own index y host ccy nLy rty n) (hst : st = As.reverse ++ stk) (hR : dy + 1 ≤ R.frames ∧ 40 * dy + 40 ≤ R.locals ∧ kc + mc ≤ R.cells ∧ ks + ms ≤ R.slots) (hn : As.length = n) (hw8 : (stk.map fun v => v.category).sum ≤ 8) (hn0 : n0 ≤ h.length) (okl : loc.all (fun q => mx_okV h.length q.2) = true) (oks : stk.all (mx_okV h.length) = true) (dd : decode cc pc = .ok (.invokestatic index, 3)) (k : mx_X l E own cc nL rt nm R Qs n0 (pc + 3) loc (.int x :: stk) h' (kc + mc) (ks + ms)) : mx_X l E own cc nL rt nm R Qs n0 pc loc st h kc ks := by
  subst hst
  intro p e s m args below meth c dC dI cT A ad0 ad H locs ls hB ha hP hD hS hl
  obtain ⟨hx, hb, hml, hr, hnm, hlk, hown, hts, hK, hA, hE1⟩ := id hB
  obtain ⟨hF, hpre⟩ := mx_pre (args := As) (hE s A hE1) hK hA hP hD hS
  obtain ⟨w1, w2, w4, w5, w6, w7⟩ := Cw
  refine va_calli (va_runSN (As := As.map (mx_v ad)) (rest := stk.map (mx_v ad)) ⟨hx, hb, hml, hown, hts⟩ (M dC dI cT ad H.size) ⟨va_cnB n hts (mx_good w5) rfl rfl rfl ((hE s A hE1).1 _ w1) (hts _ w4) w6 ⟨hR.1, by have := hR.2.1; simp only [mx_rm]; omega⟩, hts _ w2, trivial⟩ ⟨mx_blind, hpre⟩ rfl (by rw [List.length_map]; exact hn) hl.1 (by rw [mx_rev]; simp [mx_v]) (lv_room (by rw [mx_sum]; exact hw8)) dd ⟨hR.2.2.1, hR.2.2.2⟩) hS (fun q _ h => hF q h) hF (fun r u t H1 locs1 ht hvm hw hB1 hz1 hk1 hS1 => ?_)
  obtain ⟨rfl, hag⟩ := hw
  obtain ⟨hP1, hD1⟩ := hB1
  rw [ht] at hP1
  have e1 := mx_okL okl hag
  have e2 := mx_okS oks hag
  have K := k p e s m args below meth c dC dI cT A ad0 u H1 locs1 ls hB (fun i hi => (hag i (Nat.lt_of_lt_of_le hi hn0)).trans (ha i hi)) hP1 (hD1.weaken (fun _ q _ hq => hF q.1 hq)) hS1 (by rw [e1]; exact hl)
  simp only [List.map_cons, e2, mx_v] at K
  exact K
theorem mx_callSNl {y : MethodName} {ccy : ByteArray} {nLy index n dy : Nat} {As : List Value} {host : String} {rty : Option FieldType} {x : Int64} {h' : List mx_C} {st : List Value} (hE : ∀ (s : State) (A : Nat → Prop), E s A → mx_E0 s A) (M : mx_M l y ccy nLy rty dy As h (some (.long x)) h' mc ms) (Cw : mx_CSN own index y host ccy nLy rty n) (hst : st = As.reverse ++ stk) (hR : dy + 1 ≤ R.frames ∧ 40 * dy + 40 ≤ R.locals ∧ kc + mc ≤ R.cells ∧ ks + ms ≤ R.slots) (hn : As.length = n) (hw8 : (stk.map fun v => v.category).sum ≤ 8) (hn0 : n0 ≤ h.length) (okl : loc.all (fun q => mx_okV h.length q.2) = true) (oks : stk.all (mx_okV h.length) = true) (dd : decode cc pc = .ok (.invokestatic index, 3)) (k : mx_X l E own cc nL rt nm R Qs n0 (pc + 3) loc (.long x :: stk) h' (kc + mc) (ks + ms)) : mx_X l E own cc nL rt nm R Qs n0 pc loc st h kc ks := by
  subst hst
  intro p e s m args below meth c dC dI cT A ad0 ad H locs ls hB ha hP hD hS hl
  obtain ⟨hx, hb, hml, hr, hnm, hlk, hown, hts, hK, hA, hE1⟩ := id hB
  obtain ⟨hF, hpre⟩ := mx_pre (args := As) (hE s A hE1) hK hA hP hD hS
  obtain ⟨w1, w2, w4, w5, w6, w7⟩ := Cw
  refine va_calll (va_runSN (As := As.map (mx_v ad)) (rest := stk.map (mx_v ad)) ⟨hx, hb, hml, hown, hts⟩ (M dC dI cT ad H.size) ⟨va_cnB n hts (mx_good w5) rfl rfl rfl ((hE s A hE1).1 _ w1) (hts _ w4) w6 ⟨hR.1, by have := hR.2.1; simp only [mx_rm]; omega⟩, hts _ w2, trivial⟩ ⟨mx_blind, hpre⟩ rfl (by rw [List.length_map]; exact hn) hl.1 (by rw [mx_rev]; simp [mx_v]) (lv_room (by rw [mx_sum]; exact hw8)) dd ⟨hR.2.2.1, hR.2.2.2⟩) hS (fun q _ h => hF q h) hF (fun r u t H1 locs1 ht hvm hw hB1 hz1 hk1 hS1 => ?_)
  obtain ⟨rfl, hag⟩ := hw
  obtain ⟨hP1, hD1⟩ := hB1
  rw [ht] at hP1
  have e1 := mx_okL okl hag
  have e2 := mx_okS oks hag
  have K := k p e s m args below meth c dC dI cT A ad0 u H1 locs1 ls hB (fun i hi => (hag i (Nat.lt_of_lt_of_le hi hn0)).trans (ha i hi)) hP1 (hD1.weaken (fun _ q _ hq => hF q.1 hq)) hS1 (by rw [e1]; exact hl)
  simp only [List.map_cons, e2, mx_v] at K
  exact K
theorem mx_callIv {y : MethodName} {ccy : ByteArray} {nLy index n dy : Nat} {As : List Value} {i : Nat}  {h' : List mx_C} {st : List Value} (hE : ∀ (s : State) (A : Nat → Prop), E s A → mx_E0 s A) (M : mx_M l y ccy nLy none dy (.ref i :: As) h none h' mc ms) (Cw : mx_CI own index y ccy nLy n) (hst : st = As.reverse ++ .ref i :: stk) (hR : dy + 1 ≤ R.frames ∧ 40 * dy + 40 ≤ R.locals ∧ kc + mc ≤ R.cells ∧ ks + ms ≤ R.slots) (hn : As.length = n) (hw8 : (stk.map fun v => v.category).sum ≤ 8) (hn0 : n0 ≤ h.length) (okl : loc.all (fun q => mx_okV h.length q.2) = true) (oks : stk.all (mx_okV h.length) = true) (dd : decode cc pc = .ok (.invokespecial index, 3)) (k : mx_X l E own cc nL rt nm R Qs n0 (pc + 3) loc (stk) h' (kc + mc) (ks + ms)) : mx_X l E own cc nL rt nm R Qs n0 pc loc st h kc ks := by
  subst hst
  intro p e s m args below meth c dC dI cT A ad0 ad H locs ls hB ha hP hD hS hl
  obtain ⟨hx, hb, hml, hr, hnm, hlk, hown, hts, hK, hA, hE1⟩ := id hB
  obtain ⟨hF, hpre⟩ := mx_pre (args := (.ref i :: As)) (hE s A hE1) hK hA hP hD hS
  obtain ⟨w1, w2, w4, w5, w6, w7, w8⟩ := Cw
  refine va_callv (va_runI (As := As.map (mx_v ad)) (rest := stk.map (mx_v ad)) ⟨hx, hb, hml, hown, hts⟩ (M dC dI cT ad H.size) (cwI n hts (mx_good w5) rfl rfl rfl (hts _ w4) (hts _ w1) (hts _ w2) w8 w6 ⟨hR.1, by have := hR.2.1; simp only [mx_rm]; omega⟩) ⟨mx_blind, hpre⟩ rfl (by rw [List.length_map]; exact hn) hl.1 (by rw [mx_rev]; simp [mx_v]) (lv_room (by rw [mx_sum]; exact hw8)) dd ⟨hR.2.2.1, hR.2.2.2⟩) hS (fun q _ h => hF q h) hF (fun u t H1 locs1 ht hvm hw hB1 hz1 hk1 hS1 => ?_)
  have hag := hw
  obtain ⟨hP1, hD1⟩ := hB1
  rw [ht] at hP1
  have e1 := mx_okL okl hag
  have e2 := mx_okS oks hag
  have K := k p e s m args below meth c dC dI cT A ad0 u H1 locs1 ls hB (fun i hi => (hag i (Nat.lt_of_lt_of_le hi hn0)).trans (ha i hi)) hP1 (hD1.weaken (fun _ q _ hq => hF q.1 hq)) hS1 (by rw [e1]; exact hl)
  simp only [List.map_cons, e2, mx_v] at K
  exact K
theorem mx_callINv {y : MethodName} {ccy : ByteArray} {nLy index n dy : Nat} {As : List Value} {host : String} {i : Nat}  {h' : List mx_C} {st : List Value} (hE : ∀ (s : State) (A : Nat → Prop), E s A → mx_E0 s A) (M : mx_M l y ccy nLy none dy (.ref i :: As) h none h' mc ms) (Cw : mx_CIN own index y host ccy nLy n) (hst : st = As.reverse ++ .ref i :: stk) (hR : dy + 1 ≤ R.frames ∧ 40 * dy + 40 ≤ R.locals ∧ kc + mc ≤ R.cells ∧ ks + ms ≤ R.slots) (hn : As.length = n) (hw8 : (stk.map fun v => v.category).sum ≤ 8) (hn0 : n0 ≤ h.length) (okl : loc.all (fun q => mx_okV h.length q.2) = true) (oks : stk.all (mx_okV h.length) = true) (dd : decode cc pc = .ok (.invokespecial index, 3)) (k : mx_X l E own cc nL rt nm R Qs n0 (pc + 3) loc (stk) h' (kc + mc) (ks + ms)) : mx_X l E own cc nL rt nm R Qs n0 pc loc st h kc ks := by
  subst hst
  intro p e s m args below meth c dC dI cT A ad0 ad H locs ls hB ha hP hD hS hl
  obtain ⟨hx, hb, hml, hr, hnm, hlk, hown, hts, hK, hA, hE1⟩ := id hB
  obtain ⟨hF, hpre⟩ := mx_pre (args := (.ref i :: As)) (hE s A hE1) hK hA hP hD hS
  obtain ⟨w1, w2, w4, w5, w6, w7, w8⟩ := Cw
  refine va_callv (va_runIN (As := As.map (mx_v ad)) (rest := stk.map (mx_v ad)) ⟨hx, hb, hml, hown, hts⟩ (M dC dI cT ad H.size) ⟨va_cnB n hts (mx_good w5) rfl rfl rfl ((hE s A hE1).1 _ w1) (hts _ w4) w6 ⟨hR.1, by have := hR.2.1; simp only [mx_rm]; omega⟩, w8, hts _ w2⟩ ⟨mx_blind, hpre⟩ rfl (by rw [List.length_map]; exact hn) hl.1 (by rw [mx_rev]; simp [mx_v]) (lv_room (by rw [mx_sum]; exact hw8)) dd ⟨hR.2.2.1, hR.2.2.2⟩) hS (fun q _ h => hF q h) hF (fun u t H1 locs1 ht hvm hw hB1 hz1 hk1 hS1 => ?_)
  have hag := hw
  obtain ⟨hP1, hD1⟩ := hB1
  rw [ht] at hP1
  have e1 := mx_okL okl hag
  have e2 := mx_okS oks hag
  have K := k p e s m args below meth c dC dI cT A ad0 u H1 locs1 ls hB (fun i hi => (hag i (Nat.lt_of_lt_of_le hi hn0)).trans (ha i hi)) hP1 (hD1.weaken (fun _ q _ hq => hF q.1 hq)) hS1 (by rw [e1]; exact hl)
  simp only [List.map_cons, e2, mx_v] at K
  exact K
theorem mx_objInit {i index : Nat} (w1 : Cond.methodLink own index objectInit ∈ mx_T) (w2 : Cond.instanceMethod objectInit ∈ mx_T) (w3 : Cond.code objectInit ⟨#[0xb1]⟩ 1 none ∈ mx_T) (hR : 1 ≤ R.frames ∧ 40 ≤ R.locals) (hw8 : (stk.map fun v => v.category).sum ≤ 8) (dd : decode cc pc = .ok (.invokespecial index, 3)) (k : mx_X l E own cc nL rt nm R Qs n0 (pc + 3) loc stk h kc ks) : mx_X l E own cc nL rt nm R Qs n0 pc loc (.ref i :: stk) h kc ks := by
  intro p e s m args below meth c dC dI cT A ad0 ad H locs ls hB ha hP hD hS hl
  obtain ⟨hx, hb, hml, hr, hnm, hlk, hown, hts, hK, hA, hE1⟩ := id hB
  refine W.objInit hx hb hown (hts _ w1) (hts _ w2) (hts _ w3) rfl (by rw [hml]; exact hl.1) rfl dd hR.1 ?_ ?_
  · have := mx_sum ad stk
    have h2 := lv_room (m := m) (pc := pc) (ls := ls) (rest := Value.ref (ad i) :: stk.map (mx_v ad)) (st := stk.map (mx_v ad)) (by rw [this]; exact hw8)
    have := hR.2
    exact Nat.le_trans (Nat.add_le_add_right h2 12) (by omega)
  · exact k p e s m args below meth c dC dI cT A ad0 ad H locs ls hB ha hP hD hS hl
def mx_okC (n : Nat) (q : mx_C) : Bool := match q with
  | .inl _ => true
  | .inr (_, fs) => fs.all (mx_okV n)
theorem mx_ext {cT : FieldType → ClassId} {ad u : Nat → Nat} {q : mx_C} (hh : h.all (mx_okC h.length) = true) (hu : ∀ i : Nat, i < h.length → u i = ad i) : mx_w cT u (h ++ [q]) = mx_w cT ad h ++ [(u h.length, mx_c cT u q)] := by
  apply List.ext_getElem?
  intro j
  unfold mx_w
  rw [List.getElem?_mapIdx]
  rcases Nat.lt_or_ge j h.length with hj | hj
  · rw [List.getElem?_append_left hj, List.getElem?_append_left (by simpa using hj), List.getElem?_mapIdx]
    have hj' : h[j]? = some h[j] := List.getElem?_eq_getElem hj
    rw [hj']
    have ho := List.all_eq_true.mp hh h[j] (List.getElem_mem hj)
    simp only [Option.map_some, hu j hj]
    congr 2
    generalize h[j] = z at ho
    cases z with
    | inl a => rfl
    | inr o => obtain ⟨ci, fs⟩ := o; show Sum.inr _ = Sum.inr _; rw [mx_okS ho hu]
  · rw [List.getElem?_append_right hj, List.getElem?_append_right (by simpa using hj), List.length_mapIdx]
    rcases Nat.eq_or_lt_of_le hj with e | e
    · subst e; simp
    · have e2 : j - h.length ≠ 0 := by omega
      rw [List.getElem?_eq_none (by simp; omega), List.getElem?_eq_none (by simp; omega)]
      rfl
theorem mx_new {index ci : Nat} {fs : List Value} (Nw : mx_N own index ci fs) (hcs : kc + 1 ≤ R.cells ∧ ks + fs.length ≤ R.slots) (hn0 : n0 ≤ h.length) (okh : h.all (mx_okC h.length) = true) (okl : loc.all (fun q => mx_okV h.length q.2) = true) (oks : stk.all (mx_okV h.length) = true) (dd : decode cc pc = .ok (.new index, 3)) (k : mx_X l E own cc nL rt nm R Qs n0 (pc + 3) loc (.ref h.length :: stk) (h ++ [.inr (ci, fs)]) (kc + 1) (ks + fs.length)) : mx_X l E own cc nL rt nm R Qs n0 pc loc stk h kc ks := by
  intro p e s m args below meth c dC dI cT A ad0 ad H locs ls hB ha hP hD hS hl
  obtain ⟨hx, hb, hml, hr, hnm, hlk, hown, hts, hK, hA, hE1⟩ := id hB
  obtain ⟨C, T, N, ty0, h1, h2, h3, h4, h5, h6, h7, h8, h9⟩ := Nw
  subst h8
  refine va_new (ci := ci) (fs := fs) (C := C) (T := T) (N := fs.length) hx hb hts h2 ty0 h3 hown (hts _ h4) (hts _ h5) (hts _ h6) hK hP hD hS hA h1 h7 hcs.1 hcs.2 dd (fun q H1 hP1 hD1 hS1 => ?_)
  have hu : ∀ i : Nat, i < h.length → (fun i => if i = h.length then q else ad i) i = ad i := fun i hi => if_neg (Nat.ne_of_lt hi)
  have ef : fs.map (mx_v (fun i => if i = h.length then q else ad i)) = fs := by
    refine Eq.trans (List.map_congr_left (fun v hv => ?_)) (List.map_id fs)
    have := List.all_eq_true.mp h9 v hv
    cases v <;> first | rfl | (simp [mx_okV] at this)
  have ew := mx_ext (cT := cT) (q := .inr (ci, fs)) okh hu
  simp only [mx_c, ef, if_true] at ew
  have K := k p e s m args below meth c dC dI cT A ad0 (fun i => if i = h.length then q else ad i) H1 locs ls hB (fun i hi => (hu i (Nat.lt_of_lt_of_le hi hn0)).trans (ha i hi)) (by rw [ew]; exact hP1) (by rw [ew]; exact hD1) hS1 (by rw [mx_okL okl hu]; exact hl)
  simp only [List.map_cons, mx_okS oks hu, mx_v, if_true] at K
  exact K
theorem mx_newarr {atype : ArrayType} {n : Int32} {N : Nat} {ty : FieldType} {a0 : vp_A} (z : Nat) (w1 : Cond.arrayClass ty ∈ mx_T) (hty : newarray.typeOf atype = ty) (hz : ∀ cT, (mx_tys cT)[z]? = some (cT ty, ty)) (ha0 : ∀ cA : ClassId, vp_cell cA a0 = arrV cA N (fun _ => defaultValue ty)) (hn : ¬ n < 0) (hN : n.toNatClampNeg = N) (hbytes : N * componentBytes ty ≤ 536870912) (hcs : kc + 1 ≤ R.cells ∧ ks + N ≤ R.slots) (hn0 : n0 ≤ h.length) (okh : h.all (mx_okC h.length) = true) (okl : loc.all (fun q => mx_okV h.length q.2) = true) (oks : stk.all (mx_okV h.length) = true) (dd : decode cc pc = .ok (.newarray atype, 2)) (k : mx_X l E own cc nL rt nm R Qs n0 (pc + 2) loc (.ref h.length :: stk) (h ++ [.inl (ty, a0)]) (kc + 1) (ks + N)) : mx_X l E own cc nL rt nm R Qs n0 pc loc (.int n :: stk) h kc ks := by
  intro p e s m args below meth c dC dI cT A ad0 ad H locs ls hB ha hP hD hS hl
  obtain ⟨hx, hb, hml, hr, hnm, hlk, hown, hts, hK, hA, hE1⟩ := id hB
  refine va_newa (atype := atype) (ty := ty) hx hb (by rw [hty]; exact hts _ w1) hty hK hP hD hS hA ha0 hn hN hbytes hcs.1 hcs.2 dd (fun q cA H1 hK1 hP1 hD1 hS1 => ?_)
  have hcA : cA = cT ty := by
    have e1 := (hK1.2 (mx_tys cT).length (cA, ty) (by simp)).2
    have e2 := (hK.2 z (cT ty, ty) (hz cT)).2
    subst hty
    have e3 : s.vm.findClass ("[" ++ (newarray.typeOf atype).toString) = some cA := by cases atype <;> exact e1
    have e4 : s.vm.findClass ("[" ++ (newarray.typeOf atype).toString) = some (cT (newarray.typeOf atype)) := by cases atype <;> exact e2
    exact Option.some.inj (e3.symm.trans e4)
  subst hcA
  have hu : ∀ i : Nat, i < h.length → (fun i => if i = h.length then q else ad i) i = ad i := fun i hi => if_neg (Nat.ne_of_lt hi)
  have ew := mx_ext (cT := cT) (q := .inl (ty, a0)) okh hu
  simp only [mx_c, if_true] at ew
  have K := k p e s m args below meth c dC dI cT A ad0 (fun i => if i = h.length then q else ad i) H1 locs ls hB (fun i hi => (hu i (Nat.lt_of_lt_of_le hi hn0)).trans (ha i hi)) (by rw [ew]; exact hP1) (by rw [ew]; exact hD1) hS1 (by rw [mx_okL okl hu]; exact hl)
  simp only [List.map_cons, mx_okS oks hu, mx_v, if_true] at K
  exact K
theorem mx_copyi {index i0 i1 n1 n2 : Nat} {f g : Nat → Int32} {sp dp n : Int32} (w1 : Cond.methodLink own index arraycopyName ∈ mx_T) (w2 : Cond.native arraycopyName ∈ mx_T) (w3 : Cond.static arraycopyName ∈ mx_T) (w4 : Cond.initialized "java/lang/System" ∈ mx_T) (h0 : h[i0]? = some (.inl (.int, n2, .inl f))) (h1 : h[i1]? = some (.inl (.int, n1, .inl g))) (g1 : ¬ sp < 0) (g2 : ¬ dp < 0) (g3 : ¬ n < 0) (g4 : sp.toNatClampNeg + n.toNatClampNeg ≤ n2) (g5 : dp.toNatClampNeg + n.toNatClampNeg ≤ n1) (hR : 1 ≤ R.frames ∧ 100 ≤ R.locals) (hw8 : (stk.map fun v => v.category).sum ≤ 8) (dd : decode cc pc = .ok (.invokestatic index, 3)) (k : mx_X l E own cc nL rt nm R Qs n0 (pc + 3) loc stk (h.set i1 (.inl (.int, n1, .inl (va_cpy f g sp.toNatClampNeg dp.toNatClampNeg n.toNatClampNeg)))) kc ks) : mx_X l E own cc nL rt nm R Qs n0 pc loc (.int n :: .int dp :: .ref i1 :: .int sp :: .ref i0 :: stk) h kc ks := by
  intro p e s m args below meth c dC dI cT A ad0 ad H locs ls hB ha hP hD hS hl
  obtain ⟨hx, hb, hml, hr, hnm, hlk, hown, hts, hK, hA, hE1⟩ := id hB
  refine va_copyi hx hb (by rw [hml]; exact hl.1.symm) hown (hts _ w1) (hts _ w2) (hts _ w3) (hts _ w4) hK hP hD hS i0 i1 0 0 (mx_wat h0) (mx_wat h1) rfl rfl rfl g1 g2 g3 g4 g5 (fun _ _ => rfl) hR.1 ?_ dd (fun H locs hP hD hS => ?_)
  · rw [mx_sum]; exact Nat.le_trans (Nat.add_le_add_right hw8 _) (Nat.le_trans (by decide +kernel) hR.2)
  · have hP : va_P (dC, dI) vwCl ((mx_w cT ad h).set i1 (ad i1, mx_c cT ad (.inl (.int, n1, .inl (va_cpy f g sp.toNatClampNeg dp.toNatClampNeg n.toNatClampNeg))))) H := hP
    have hD : va_D A ((mx_w cT ad h).set i1 (ad i1, mx_c cT ad (.inl (.int, n1, .inl (va_cpy f g sp.toNatClampNeg dp.toNatClampNeg n.toNatClampNeg))))) := hD
    rw [mx_wset] at hP hD
    exact k p e s m args below meth c dC dI cT A ad0 ad H locs ls hB ha hP hD hS hl
theorem mx_copyl {index i0 i1 n1 n2 : Nat} {f g : Nat → Int64} {sp dp n : Int32} (w1 : Cond.methodLink own index arraycopyName ∈ mx_T) (w2 : Cond.native arraycopyName ∈ mx_T) (w3 : Cond.static arraycopyName ∈ mx_T) (w4 : Cond.initialized "java/lang/System" ∈ mx_T) (h0 : h[i0]? = some (.inl (.long, n2, .inr (.inl f)))) (h1 : h[i1]? = some (.inl (.long, n1, .inr (.inl g)))) (g1 : ¬ sp < 0) (g2 : ¬ dp < 0) (g3 : ¬ n < 0) (g4 : sp.toNatClampNeg + n.toNatClampNeg ≤ n2) (g5 : dp.toNatClampNeg + n.toNatClampNeg ≤ n1) (hR : 1 ≤ R.frames ∧ 100 ≤ R.locals) (hw8 : (stk.map fun v => v.category).sum ≤ 8) (dd : decode cc pc = .ok (.invokestatic index, 3)) (k : mx_X l E own cc nL rt nm R Qs n0 (pc + 3) loc stk (h.set i1 (.inl (.long, n1, .inr (.inl (va_cpy f g sp.toNatClampNeg dp.toNatClampNeg n.toNatClampNeg))))) kc ks) : mx_X l E own cc nL rt nm R Qs n0 pc loc (.int n :: .int dp :: .ref i1 :: .int sp :: .ref i0 :: stk) h kc ks := by
  intro p e s m args below meth c dC dI cT A ad0 ad H locs ls hB ha hP hD hS hl
  obtain ⟨hx, hb, hml, hr, hnm, hlk, hown, hts, hK, hA, hE1⟩ := id hB
  refine va_copyl hx hb (by rw [hml]; exact hl.1.symm) hown (hts _ w1) (hts _ w2) (hts _ w3) (hts _ w4) hK hP hD hS i0 i1 1 1 (mx_wat h0) (mx_wat h1) rfl rfl rfl g1 g2 g3 g4 g5 (fun _ _ => rfl) hR.1 ?_ dd (fun H locs hP hD hS => ?_)
  · rw [mx_sum]; exact Nat.le_trans (Nat.add_le_add_right hw8 _) (Nat.le_trans (by decide +kernel) hR.2)
  · have hP : va_P (dC, dI) vwCl ((mx_w cT ad h).set i1 (ad i1, mx_c cT ad (.inl (.long, n1, .inr (.inl (va_cpy f g sp.toNatClampNeg dp.toNatClampNeg n.toNatClampNeg)))))) H := hP
    have hD : va_D A ((mx_w cT ad h).set i1 (ad i1, mx_c cT ad (.inl (.long, n1, .inr (.inl (va_cpy f g sp.toNatClampNeg dp.toNatClampNeg n.toNatClampNeg)))))) := hD
    rw [mx_wset] at hP hD
    exact k p e s m args below meth c dC dI cT A ad0 ad H locs ls hB ha hP hD hS hl
end MC
