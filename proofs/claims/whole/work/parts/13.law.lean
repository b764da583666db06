def R_law : String := "PolicyRoutesLaw"
def lw_P (b : Addr) (xs : List Int32) (args : Array Value) (s : State) : Prop := args = #[.ref b] ∧ s.IntsAt b xs ∧ xs.length ≤ 3072 ∧ (Jvm.Cond.and given_1 narrow_1).before args s = true
def lw_Q (_ : Array Value) (s : State) (o : Outcome) (t : State) : Prop := o = .returned (some (.int 1)) ∧ Framed s o t [] 600000 7302250
def lw_Z (below : List Frame) (a : Array Value) (s : State) : State → Prop := fun t => ∃ o, t.status = .running ∧ Ended t below o ∧ lw_Q a s o t
/-- the law's own end, with 1 on the stack, nothing written that was there before, its room as the claim has it -/
theorem lw_ret {p : Program} {l : Launch} {e : Env} {s : State} {m : MethodId} {below : List Frame} {meth : Method} {c : Code} {b : Nat} (hx : p.tables.exec = Jvm.exec) (hb : c.code = code) (hr : meth.sig.returnType = ret) (hlocks : meth.locks = false) {pc : Nat} {H : Heap} {ls : Array Slot} (hdg : decode code pc = .ok (.ireturn, 1)) : W p l e room_1 s m #[Value.ref b] below meth c H [] 600000 7302250 (lw_Z below #[Value.ref b] s) (F0 m pc ls [.int 1]) := by
  intro T hT X
  obtain ⟨fs, hret, hrun, hended, hW, hframe⟩ := X.leave (v := some (.int 1)) (hlocks := hlocks) (fun h => by rw [hr] at h; cases h)
  have hmeth' : T.vm.method? m = some meth := X.method'
  refine ⟨T.setFrames fs, ?_, .returned (some (.int 1)), hrun, hended, rfl, ⟨_, rfl⟩, hW, hframe⟩
  jvm_step X.here [X.here.top, hx, hb, hdg, hmeth', hr, ret, narrow_b1]
  (try refine ⟨rfl, ?_⟩); (try refine ⟨rfl, ?_⟩)
  first | (intro acts; rw [hret _ acts rfl rfl rfl]) | rw [hret _ _ rfl rfl rfl]
  exact Steps.refl _
/-- what holds at the law's entry: the machine, the code, the tables' words (any of lw_tbl by 'hts w (by decide +kernel)'), the script of L ints xs at the cell b, what the Statement gives of the start (any of its parts by flat_of_before) -/
def lw_At (p : Program) (s : State) (m : MethodId) (meth : Method) (c : Code) (b L : Nat) (xs : Nat → Int32) : Prop :=
  p.tables.exec = Jvm.exec ∧ c.code = code ∧ meth.sig.returnType = ret ∧ c.maxLocals = 4 ∧ s.vm.findClass R_law = some m.cls ∧ (∀ w ∈ lw_tbl, w.before #[Value.ref b] s = true) ∧ va_X b L xs s s.heap ∧ b < s.heap.size ∧ meth.locks = false ∧ (Jvm.Cond.and given_1 narrow_1).before #[Value.ref b] s = true

/-- one call of both: they answer alike, and the invariant holds behind them -/
def pv_ok {α : Type} (I : mx_G → Prop) (rx : Option (α × mx_G)) (rm : mx_G → Option (α × mx_G)) : Prop := ∃ (r : α) (τ τ' : mx_G), rx = some (r, τ) ∧ rm τ = some (r, τ') ∧ I τ'
abbrev lx_A (s : State) : Nat → Prop := fun q => s.heap.size ≤ q
def lx (l : Launch) (b L : Nat) (xs : Nat → Int32) (pc : Nat) (i : Int32) (stk : List Value) (σ : mx_G) : Prop := ∀ (p : Program) (e : Env) (s : State) (m : MethodId) (below : List Frame) (meth : Method) (c : Code) (dC : Nat → ClassId) (dI : Nat → Nat → Nat) (cT : FieldType → ClassId) (ad : Nat → Nat) (H : Heap) (locs : List Loc) (ls : Array Slot),
  lw_At p s m meth c b L xs → mx_E0 s (lx_A s) → va_K (dC, dI) vwCl (mx_tys cT) s → va_P (dC, dI) vwCl (mx_w cT ad (mk_h σ)) H → va_D (lx_A s) (mx_w cT ad (mk_h σ)) → va_S (lx_A s) s.heap H locs → lv_has ls 4 [(0, .ref b), (1, .ref (ad 0)), (2, .ref (ad 45)), (3, .int i)] →
  W p l e room_1 s m #[Value.ref b] below meth c H locs 68 14278 (lw_Z below #[Value.ref b] s) (F0 m pc ls (stk.map (mx_v ad)))
section LX
variable {l : Launch} {b L : Nat} {xs : Nat → Int32} {pc : Nat} {i : Int32} {stk : List Value} {σ τ : mx_G}
theorem lx_this (d : decode code pc = .ok (.aload_n 1, 1)) (k : lx l b L xs (pc + 1) i (.ref 0 :: stk) σ) : lx l b L xs pc i stk σ := by
  intro p e s m below meth c dC dI cT ad H locs ls C0 hE hK hP hD hS hl
  exact lv_aload_n C0.1 C0.2.1 d rfl (lv_at hl 1 rfl) (k p e s m below meth c dC dI cT ad H locs ls C0 hE hK hP hD hS hl)
theorem lx_that (d : decode code pc = .ok (.aload_n 2, 1)) (k : lx l b L xs (pc + 1) i (.ref 45 :: stk) σ) : lx l b L xs pc i stk σ := by
  intro p e s m below meth c dC dI cT ad H locs ls C0 hE hK hP hD hS hl
  exact lv_aload_n C0.1 C0.2.1 d rfl (lv_at hl 2 rfl) (k p e s m below meth c dC dI cT ad H locs ls C0 hE hK hP hD hS hl)
theorem lx_sc (v : Int32) {n : Int} (d0 : decode code pc = .ok (.aload_n 0, 1)) (d1 : decode code (pc + 1) = .ok (.iload_n 3, 1)) (d2 : decode code (pc + 1 + 1) = .ok (.iconst n, 1)) (hv : Int32.ofInt n = v) (d3 : decode code (pc + 1 + 1 + 1) = .ok (.iadd, 1)) (d4 : decode code (pc + 1 + 1 + 1 + 1) = .ok (.iaload, 1)) (hin : vp_in (i + v) L) (k : lx l b L xs (pc + 1 + 1 + 1 + 1 + 1) i (.int (xs (i + v).toNatClampNeg) :: stk) σ) : lx l b L xs pc i stk σ := by
  intro p e s m below meth c dC dI cT ad H locs ls C0 hE hK hP hD hS hl
  obtain ⟨hx, hb, hr, hml, hown, hts, hX, hbl, hlocks, hgv⟩ := id C0
  refine lv_aload_n hx hb d0 rfl (lv_at hl 0 rfl) ?_
  refine lv_iload_n hx hb d1 rfl (lv_at hl 3 rfl) ?_
  refine lv_iconst hx hb d2 hv ?_
  refine lv_iadd hx hb d3 ?_
  exact va_sld hx hb hX hbl (Nat.not_le.mpr hbl) hS hin d4 (k p e s m below meth c dC dI cT ad H locs ls C0 hE hK hP hD hS hl)
theorem lx_sc0 (d0 : decode code pc = .ok (.aload_n 0, 1)) (d1 : decode code (pc + 1) = .ok (.iload_n 3, 1)) (d4 : decode code (pc + 1 + 1) = .ok (.iaload, 1)) (hin : vp_in i L) (k : lx l b L xs (pc + 1 + 1 + 1) i (.int (xs i.toNatClampNeg) :: stk) σ) : lx l b L xs pc i stk σ := by
  intro p e s m below meth c dC dI cT ad H locs ls C0 hE hK hP hD hS hl
  obtain ⟨hx, hb, hr, hml, hown, hts, hX, hbl, hlocks, hgv⟩ := id C0
  refine lv_aload_n hx hb d0 rfl (lv_at hl 0 rfl) ?_
  refine lv_iload_n hx hb d1 rfl (lv_at hl 3 rfl) ?_
  exact va_sld hx hb hX hbl (Nat.not_le.mpr hbl) hS hin d4 (k p e s m below meth c dC dI cT ad H locs ls C0 hE hK hP hD hS hl)
theorem lx_bipush (v : Int32) {n : Int} (d : decode code pc = .ok (.bipush n, 2)) (hv : (Int8.ofInt n).toInt32 = v) (k : lx l b L xs (pc + 2) i (.int v :: stk) σ) : lx l b L xs pc i stk σ := by
  intro p e s m below meth c dC dI cT ad H locs ls C0 hE hK hP hD hS hl
  exact lv_bipush C0.1 C0.2.1 d hv (k p e s m below meth c dC dI cT ad H locs ls C0 hE hK hP hD hS hl)
theorem lx_iand {x y : Int32} (d : decode code pc = .ok (.iand, 1)) (k : lx l b L xs (pc + 1) i (.int (x &&& y) :: stk) σ) : lx l b L xs pc i (.int y :: .int x :: stk) σ := by
  intro p e s m below meth c dC dI cT ad H locs ls C0 hE hK hP hD hS hl
  exact lv_iand C0.1 C0.2.1 d (k p e s m below meth c dC dI cT ad H locs ls C0 hE hK hP hD hS hl)
theorem lx_i2l {x : Int32} (d : decode code pc = .ok (.i2l, 1)) (k : lx l b L xs (pc + 1) i (.long x.toInt64 :: stk) σ) : lx l b L xs pc i (.int x :: stk) σ := by
  intro p e s m below meth c dC dI cT ad H locs ls C0 hE hK hP hD hS hl
  exact lv_i2l C0.1 C0.2.1 d rfl (k p e s m below meth c dC dI cT ad H locs ls C0 hE hK hP hD hS hl)
theorem lx_lshl {x : Int64} {y : Int32} (d : decode code pc = .ok (.lshl, 1)) (k : lx l b L xs (pc + 1) i (.long (mv_lshl x y) :: stk) σ) : lx l b L xs pc i (.int y :: .long x :: stk) σ := by
  intro p e s m below meth c dC dI cT ad H locs ls C0 hE hK hP hD hS hl
  exact lv_lshl (v := mv_lshl x y) C0.1 C0.2.1 d rfl (k p e s m below meth c dC dI cT ad H locs ls C0 hE hK hP hD hS hl)
theorem lx_ldc2 {v : Int64} {index : Nat} (hc : Cond.constantLong RL index v ∈ mx_T) (d : decode code pc = .ok (.ldc2_w index, 3)) (k : lx l b L xs (pc + 3) i (.long v :: stk) σ) : lx l b L xs pc i stk σ := by
  intro p e s m below meth c dC dI cT ad H locs ls C0 hE hK hP hD hS hl
  exact lv_ldc2 C0.1 C0.2.1 C0.2.2.2.2.1 (C0.2.2.2.2.2.1 _ (List.mem_filter.mp hc).1) d (k p e s m below meth c dC dI cT ad H locs ls C0 hE hK hP hD hS hl)
theorem lx_land {x y : Int64} (d : decode code pc = .ok (.land, 1)) (k : lx l b L xs (pc + 1) i (.long (x &&& y) :: stk) σ) : lx l b L xs pc i (.long y :: .long x :: stk) σ := by
  intro p e s m below meth c dC dI cT ad H locs ls C0 hE hK hP hD hS hl
  exact lv_land C0.1 C0.2.1 d (k p e s m below meth c dC dI cT ad H locs ls C0 hE hK hP hD hS hl)
theorem lx_lor {x y : Int64} (d : decode code pc = .ok (.lor, 1)) (k : lx l b L xs (pc + 1) i (.long (x ||| y) :: stk) σ) : lx l b L xs pc i (.long y :: .long x :: stk) σ := by
  intro p e s m below meth c dC dI cT ad H locs ls C0 hE hK hP hD hS hl
  exact lv_lor C0.1 C0.2.1 d (k p e s m below meth c dC dI cT ad H locs ls C0 hE hK hP hD hS hl)
theorem lx_eq {x : Int32} {off : Int} (tgt : Nat) (d : decode code pc = .ok (.if_icmp .eq off, 3)) (ht : (pc : Int) + off = (tgt : Int)) (k : lx l b L xs tgt i stk σ) : lx l b L xs pc i (.int x :: .int x :: stk) σ := by
  intro p e s m below meth c dC dI cT ad H locs ls C0 hE hK hP hD hS hl
  exact lv_icmp_eq C0.1 C0.2.1 d ht (fun _ => k p e s m below meth c dC dI cT ad H locs ls C0 hE hK hP hD hS hl) (fun z => absurd rfl z)
theorem lx_leq {x : Int64} {off : Int} (tgt : Nat) (d : decode code pc = .ok (.lcmp, 1)) (d2 : decode code (pc + 1) = .ok (.ifCond .eq off, 3)) (ht : ((pc + 1 : Nat) : Int) + off = (tgt : Int)) (k : lx l b L xs tgt i stk σ) : lx l b L xs pc i (.long x :: .long x :: stk) σ := by
  intro p e s m below meth c dC dI cT ad H locs ls C0 hE hK hP hD hS hl
  refine W.lcmp C0.1 C0.2.1 d ?_
  have e0 : lg_cmp x x = 0 := by simp [lg_cmp]
  rw [e0]
  exact lv_if_eq C0.1 C0.2.1 d2 ht (fun _ => k p e s m below meth c dC dI cT ad H locs ls C0 hE hK hP hD hS hl) (fun z => absurd rfl z)
theorem lx_next {off : Int} (tgt : Nat) (d : decode code pc = .ok (.iinc 3 6, 3)) (d2 : decode code (pc + 3) = .ok (.goto off, 3)) (ht : ((pc + 3 : Nat) : Int) + off = (tgt : Int)) (k : lx l b L xs tgt (i + 6) [] σ) : lx l b L xs pc i [] σ := by
  intro p e s m below meth c dC dI cT ad H locs ls C0 hE hK hP hD hS hl
  refine lv_iinc (v := i + 6) (lv' := [(3, .int (i + 6)), (0, .ref b), (1, .ref (ad 0)), (2, .ref (ad 45))]) C0.1 C0.2.1 d hl (k := 3) rfl (by rfl) (by decide) rfl (fun ls hl => ?_)
  refine lv_goto C0.1 C0.2.1 d2 ht ?_
  exact k p e s m below meth c dC dI cT ad H locs ls C0 hE hK hP hD hS (lv_sub hl [1, 2, 3, 0] rfl)
theorem lx_tabIn {dflt lo hi : Int} {offs : Array Int} {len : Nat} {x v : Int32} (off : Int) (tgt : Nat) (dd : decode code pc = .ok (.tableswitch dflt lo hi offs, len)) (hx : x = v) (h1 : ¬ v.toInt < lo) (h2 : ¬ hi < v.toInt) (ho : offs[(v.toInt - lo).toNat]? = some off) (ht : (pc : Int) + off = (tgt : Int)) (k : lx l b L xs tgt i stk σ) : lx l b L xs pc i (.int x :: stk) σ := by
  subst hx
  intro p e s m below meth c dC dI cT ad H locs ls C0 hE hK hP hD hS hl
  exact lv_tableIn C0.1 C0.2.1 dd h1 h2 ho ht (k p e s m below meth c dC dI cT ad H locs ls C0 hE hK hP hD hS hl)
theorem lx_tabOut {dflt lo hi : Int} {offs : Array Int} {len : Nat} {x : Int32} (tgt : Nat) (dd : decode code pc = .ok (.tableswitch dflt lo hi offs, len)) (h0 : ∀ j : Nat, (lo + j ≤ hi) → ¬ x = Int32.ofInt (lo + j)) (ht : (pc : Int) + dflt = (tgt : Int)) (k : lx l b L xs tgt i stk σ) : lx l b L xs pc i (.int x :: stk) σ := by
  intro p e s m below meth c dC dI cT ad H locs ls C0 hE hK hP hD hS hl
  refine lv_tableOut C0.1 C0.2.1 dd ?_ ht (k p e s m below meth c dC dI cT ad H locs ls C0 hE hK hP hD hS hl)
  rcases Int.lt_or_le x.toInt lo with h | h
  · exact Or.inl h
  · rcases Int.lt_or_le hi x.toInt with h2 | h2
    · exact Or.inr h2
    · refine absurd ?_ (h0 (x.toInt - lo).toNat (by omega))
      rw [show lo + ((x.toInt - lo).toNat : Int) = x.toInt by omega, Int32.ofInt_toInt]
theorem lx_calli {y : MethodName} {ccy : ByteArray} {nLy index n dy j ci : Nat} {rty : Option FieldType} {tm : List (Option Nat)} {As st : List Value} {x : Int32} (M : mx_M l y ccy nLy rty dy (.ref j :: As) (mk_h σ) (some (.int x)) (mk_h τ) 0 0) (Cw : mx_CV RL index y ccy nLy rty n) (hst : st = As.reverse ++ .ref j :: stk) (hR : dy + 1 ≤ 2048 ∧ 40 * dy + 40 ≤ 84000) (he : mk_s[j]? = some (.inr (ci, tm))) (hc : (vwCl[ci]?).map (fun q => q.1) = some y.cls) (hn : As.length = n) (hw8 : (stk.map fun v => v.category).sum ≤ 8) (oks : stk.all (mx_okV mk_n) = true) (dd : decode code pc = .ok (.invokevirtual index, 3)) (k : lx l b L xs (pc + 3) i (.int x :: stk) τ) : lx l b L xs pc i st σ := by
  subst hst
  intro p e s m below meth c dC dI cT ad H locs ls C0 hE hK hP hD hS hl
  obtain ⟨hx, hb, hr, hml, hown, hts, hX, hbl, hlocks, hgv⟩ := id C0
  have htm : ∀ w ∈ mx_T, w.before #[Value.ref b] s = true := fun w hw => hts w (List.mem_filter.mp hw).1
  obtain ⟨hF, hpre⟩ := mx_pre (args := (.ref j :: As)) hE hK (fun q h => h) hP hD hS
  obtain ⟨w1, w2, w3, w4, w5, w6, w7⟩ := Cw
  cases hci : vwCl[ci]? with
  | none => rw [hci] at hc; cases hc
  | some qc =>
  rw [hci] at hc
  have hcl : qc.1 = y.cls := Option.some.inj hc
  refine va_calli (va_runV (As := As.map (mx_v ad)) (rest := stk.map (mx_v ad)) ⟨hx, hb, hml, hown, htm⟩ (M dC dI cT ad H.size) (cwV (C := y.cls) n htm (mx_goodA w5 (by intro w hw; simp only [List.mem_cons, List.not_mem_nil, or_false] at hw; rcases hw with rfl | rfl | rfl | rfl <;> assumption)) rfl rfl rfl ⟨rfl, w6⟩ ⟨hR.1, by have := hR.2; show 8 + (nLy + 11) + 40 * dy ≤ 84000; omega⟩) ⟨mx_blind, by rw [← hcl]; exact va_recv hK hP hci (mx_wat (mk_at he)), hpre⟩ rfl (by rw [List.length_map]; exact hn) hl.1 (by rw [mx_rev]; simp [mx_v]) (lv_room (by rw [mx_sum]; exact hw8)) dd ⟨Nat.le_of_ble_eq_true rfl, Nat.le_of_ble_eq_true rfl⟩) hS (fun q _ h => hF q h) hF (fun r u t H1 locs1 ht hvm hw hB1 hz1 hk1 hS1 => ?_)
  obtain ⟨rfl, hag⟩ := hw
  obtain ⟨hP1, hD1⟩ := hB1
  rw [ht] at hP1
  rw [mk_len] at hag
  have e2 := mx_okS oks hag
  have K := k p e s m below meth c dC dI cT u H1 locs1 ls C0 hE hK hP1 (hD1.weaken (fun _ q _ hq => hF q.1 hq)) hS1 (by rw [hag 0 (by decide), hag 45 (by decide)]; exact hl)
  simp only [List.map_cons, e2, mx_v] at K
  exact K
theorem lx_calll {y : MethodName} {ccy : ByteArray} {nLy index n dy j ci : Nat} {rty : Option FieldType} {tm : List (Option Nat)} {As st : List Value} {x : Int64} (M : mx_M l y ccy nLy rty dy (.ref j :: As) (mk_h σ) (some (.long x)) (mk_h τ) 0 0) (Cw : mx_CV RL index y ccy nLy rty n) (hst : st = As.reverse ++ .ref j :: stk) (hR : dy + 1 ≤ 2048 ∧ 40 * dy + 40 ≤ 84000) (he : mk_s[j]? = some (.inr (ci, tm))) (hc : (vwCl[ci]?).map (fun q => q.1) = some y.cls) (hn : As.length = n) (hw8 : (stk.map fun v => v.category).sum ≤ 8) (oks : stk.all (mx_okV mk_n) = true) (dd : decode code pc = .ok (.invokevirtual index, 3)) (k : lx l b L xs (pc + 3) i (.long x :: stk) τ) : lx l b L xs pc i st σ := by
  subst hst
  intro p e s m below meth c dC dI cT ad H locs ls C0 hE hK hP hD hS hl
  obtain ⟨hx, hb, hr, hml, hown, hts, hX, hbl, hlocks, hgv⟩ := id C0
  have htm : ∀ w ∈ mx_T, w.before #[Value.ref b] s = true := fun w hw => hts w (List.mem_filter.mp hw).1
  obtain ⟨hF, hpre⟩ := mx_pre (args := (.ref j :: As)) hE hK (fun q h => h) hP hD hS
  obtain ⟨w1, w2, w3, w4, w5, w6, w7⟩ := Cw
  cases hci : vwCl[ci]? with
  | none => rw [hci] at hc; cases hc
  | some qc =>
  rw [hci] at hc
  have hcl : qc.1 = y.cls := Option.some.inj hc
  refine va_calll (va_runV (As := As.map (mx_v ad)) (rest := stk.map (mx_v ad)) ⟨hx, hb, hml, hown, htm⟩ (M dC dI cT ad H.size) (cwV (C := y.cls) n htm (mx_goodA w5 (by intro w hw; simp only [List.mem_cons, List.not_mem_nil, or_false] at hw; rcases hw with rfl | rfl | rfl | rfl <;> assumption)) rfl rfl rfl ⟨rfl, w6⟩ ⟨hR.1, by have := hR.2; show 8 + (nLy + 11) + 40 * dy ≤ 84000; omega⟩) ⟨mx_blind, by rw [← hcl]; exact va_recv hK hP hci (mx_wat (mk_at he)), hpre⟩ rfl (by rw [List.length_map]; exact hn) hl.1 (by rw [mx_rev]; simp [mx_v]) (lv_room (by rw [mx_sum]; exact hw8)) dd ⟨Nat.le_of_ble_eq_true rfl, Nat.le_of_ble_eq_true rfl⟩) hS (fun q _ h => hF q h) hF (fun r u t H1 locs1 ht hvm hw hB1 hz1 hk1 hS1 => ?_)
  obtain ⟨rfl, hag⟩ := hw
  obtain ⟨hP1, hD1⟩ := hB1
  rw [ht] at hP1
  rw [mk_len] at hag
  have e2 := mx_okS oks hag
  have K := k p e s m below meth c dC dI cT u H1 locs1 ls C0 hE hK hP1 (hD1.weaken (fun _ q _ hq => hF q.1 hq)) hS1 (by rw [hag 0 (by decide), hag 45 (by decide)]; exact hl)
  simp only [List.map_cons, e2, mx_v] at K
  exact K
end LX
/-- what is wanted of class and reference, call by call (k calls are done) -/
def pv_link (I : Nat → mx_G → Prop) : Prop := ∀ (k : Nat) (σ : mx_G) (a1 : Int32) (a2 : Int32) (a3 : Int32), k < 512 → I k σ → pv_ok (I (k + 1)) (fX10_link a1 a2 a3 σ) (fun τ => fX11_link a1 a2 a3 τ)
def pv_cut (I : Nat → mx_G → Prop) : Prop := ∀ (k : Nat) (σ : mx_G) (a1 : Int32) (a2 : Int32), k < 512 → I k σ → pv_ok (I (k + 1)) (fX10_cut a1 a2 σ) (fun τ => fX11_cut a1 a2 τ)
def pv_like (I : Nat → mx_G → Prop) : Prop := ∀ (k : Nat) (σ : mx_G) (a1 : Int32) (a2 : Int32) (a3 : Int32), k < 512 → I k σ → pv_ok (I (k + 1)) (fX10_like a1 a2 a3 σ) (fun τ => fX11_like a1 a2 a3 τ)
def pv_manner (I : Nat → mx_G → Prop) : Prop := ∀ (k : Nat) (σ : mx_G) (a1 : Int32) (a2 : Int32), k < 512 → I k σ → pv_ok (I (k + 1)) (fX10_manner a1 a2 σ) (fun τ => fX11_manner a1 a2 τ)
def pv_bar (I : Nat → mx_G → Prop) : Prop := ∀ (k : Nat) (σ : mx_G) (a1 : Int32) (a2 : Int32), k < 512 → I k σ → pv_ok (I (k + 1)) (fX10_bar a1 a2 σ) (fun τ => fX11_bar a1 a2 τ)
def pv_domains (I : Nat → mx_G → Prop) : Prop := ∀ (k : Nat) (σ : mx_G) (a1 : Int32), k < 512 → I k σ → pv_ok (I (k + 1)) (fX10_domains a1 σ) (fun τ => fX11_domains a1 τ)
def pv_told (I : Nat → mx_G → Prop) : Prop := ∀ (k : Nat) (σ : mx_G) (a1 : Int32) (a2 : Int32) (a3 : Int32), k < 512 → I k σ → pv_ok (I (k + 1)) (fX10_told a1 a2 a3 σ) (fun τ => fX11_told a1 a2 a3 τ)
def pv_own (I : Nat → mx_G → Prop) : Prop := ∀ (k : Nat) (σ : mx_G) (a1 : Int32) (a2 : Int32), k < 512 → I k σ → pv_ok (I (k + 1)) (fX10_own a1 a2 σ) (fun τ => fX11_own a1 a2 τ)
def pv_way (I : Nat → mx_G → Prop) : Prop := ∀ (k : Nat) (σ : mx_G) (a1 : Int32) (a2 : Int32), k < 512 → I k σ → pv_ok (I (k + 1)) (fX10_way a1 a2 σ) (fun τ => fX11_way a1 a2 τ)
def pv_why (I : Nat → mx_G → Prop) : Prop := ∀ (k : Nat) (σ : mx_G) (a1 : Int32), k < 512 → I k σ → pv_ok (I (k + 1)) (fX10_why a1 σ) (fun τ => fX11_why a1 τ)
def pv_count (I : Nat → mx_G → Prop) : Prop := ∀ (k : Nat) (σ : mx_G) (a1 : Int32), k < 512 → I k σ → pv_ok (I (k + 1)) (fX10_count a1 σ) (fun τ => fX11_count a1 τ)
def pv_type (I : Nat → mx_G → Prop) : Prop := ∀ (k : Nat) (σ : mx_G) (a1 : Int32), k < 512 → I k σ → pv_ok (I (k + 1)) (fX10_type a1 σ) (fun τ => fX11_type a1 τ)
def pv_read (I : Nat → mx_G → Prop) : Prop := ∀ (k : Nat) (σ : mx_G), k < 512 → I k σ → pv_ok (I (k + 1)) (fX10_read σ) (fun τ => fX11_read τ)
def pv_turn (I : Nat → mx_G → Prop) : Prop := ∀ (k : Nat) (σ : mx_G), k < 512 → I k σ → pv_ok (I (k + 1)) (fX10_turn σ) (fun τ => fX11_turn τ)
def pv_choose (I : Nat → mx_G → Prop) : Prop := ∀ (k : Nat) (σ : mx_G) (a1 : Int32), k < 512 → I k σ → pv_ok (I (k + 1)) (fX10_choose a1 σ) (fun τ => fX11_choose a1 τ)
def pv_rest (I : Nat → mx_G → Prop) : Prop := ∀ (k : Nat) (σ : mx_G), k < 512 → I k σ → pv_ok (I (k + 1)) (fX10_rest σ) (fun τ => fX11_rest τ)
def pv_clear (I : Nat → mx_G → Prop) : Prop := ∀ (k : Nat) (σ : mx_G), k < 512 → I k σ → pv_ok (I (k + 1)) (fX10_clear σ) (fun τ => fX11_clear τ)
def pv_foreseen (I : Nat → mx_G → Prop) : Prop := ∀ (k : Nat) (σ : mx_G) (a1 : Int32), k < 512 → I k σ → pv_ok (I (k + 1)) (fX10_foreseen a1 σ) (fun τ => fX11_foreseen a1 τ)
def pv_stable (I : Nat → mx_G → Prop) : Prop := ∀ (k : Nat) (σ : mx_G) (a1 : Int32) (a2 : Int32), k < 512 → I k σ → pv_ok (I (k + 1)) (fX10_stable a1 a2 σ) (fun τ => fX11_stable a1 a2 τ)
def pv_ring (I : Nat → mx_G → Prop) : Prop := ∀ (k : Nat) (σ : mx_G) (a1 : Int32), k < 512 → I k σ → pv_ok (I (k + 1)) (fX10_ring a1 σ) (fun τ => fX11_ring a1 τ)
def pv_fail (I : Nat → mx_G → Prop) : Prop := ∀ (k : Nat) (σ : mx_G) (a1 : Int32) (a2 : Int32) (a3 : Int32), k < 512 → I k σ → pv_ok (I (k + 1)) (fX10_fail a1 a2 a3 σ) (fun τ => fX11_fail a1 a2 a3 τ)
def pv_seen (I : Nat → mx_G → Prop) : Prop := ∀ (k : Nat) (σ : mx_G) (a1 : Int32), k < 512 → I k σ → pv_ok (I (k + 1)) (fX10_seen a1 σ) (fun τ => fX11_seen a1 τ)
def pv_drift (I : Nat → mx_G → Prop) : Prop := ∀ (k : Nat) (σ : mx_G) (a1 : Int32), k < 512 → I k σ → pv_ok (I (k + 1)) (fX10_drift a1 σ) (fun τ => fX11_drift a1 τ)
def pv_undo (I : Nat → mx_G → Prop) : Prop := ∀ (k : Nat) (σ : mx_G), k < 512 → I k σ → pv_ok (I (k + 1)) (fX10_undo σ) (fun τ => fX11_undo τ)
def pv_seed (I : Nat → mx_G → Prop) : Prop := ∀ (k : Nat) (σ : mx_G) (a1 : Int32), k < 512 → I k σ → pv_ok (I (k + 1)) (fX10_seed a1 σ) (fun τ => fX11_seed a1 τ)
def pv_image (I : Nat → mx_G → Prop) : Prop := ∀ (k : Nat) (σ : mx_G), k < 512 → I k σ → pv_ok (I (k + 1)) (fX10_image σ) (fun τ => fX11_image τ)
def pv_restore (I : Nat → mx_G → Prop) : Prop := ∀ (k : Nat) (σ : mx_G), k < 512 → I k σ → pv_ok (I (k + 1)) (fX10_restore σ) (fun τ => fX11_restore τ)
def pv_tried (I : Nat → mx_G → Prop) : Prop := ∀ (k : Nat) (σ : mx_G) (a1 : Int32) (a2 : Int32) (a3 : Int32), k < 512 → I k σ → pv_ok (I (k + 1)) (fX10_tried a1 a2 a3 σ) (fun τ => fX11_tried a1 a2 a3 τ)
def pv_film (I : Nat → mx_G → Prop) : Prop := ∀ (k : Nat) (σ : mx_G) (a1 : Int32) (a2 : Int32) (a3 : Int32), k < 512 → I k σ → pv_ok (I (k + 1)) (fX10_film a1 a2 a3 σ) (fun τ => fX11_film a1 a2 a3 τ)
def pv_sheet (I : Nat → mx_G → Prop) : Prop := ∀ (k : Nat) (σ : mx_G) (a1 : Int32) (a2 : Int32) (a3 : Int32), k < 512 → I k σ → pv_ok (I (k + 1)) (fX10_sheet a1 a2 a3 σ) (fun τ => fX11_sheet a1 a2 a3 τ)
def pv_drop (I : Nat → mx_G → Prop) : Prop := ∀ (k : Nat) (σ : mx_G) (a1 : Int32), k < 512 → I k σ → pv_ok (I (k + 1)) (fX10_drop a1 σ) (fun τ => fX11_drop a1 τ)
def pv_item (I : Nat → mx_G → Prop) : Prop := ∀ (k : Nat) (σ : mx_G) (a1 : Int32) (a2 : Int32) (a3 : Int32) (a4 : Int64), k < 512 → I k σ → pv_ok (I (k + 1)) (fX10_item a1 a2 a3 a4 σ) (fun τ => fX11_item a1 a2 a3 a4 τ)
def pv_copy (I : Nat → mx_G → Prop) : Prop := ∀ (k : Nat) (σ : mx_G) (a1 : Int32) (a2 : Int32) (a3 : Int32) (a4 : Int32) (a5 : Int32), k < 512 → I k σ → pv_ok (I (k + 1)) (fX10_copy a1 a2 a3 a4 a5 σ) (fun τ => fX11_copy a1 a2 a3 a4 a5 τ)
def pv_All (I : Nat → mx_G → Prop) : Prop := (∀ k σ, I k σ → I (k + 1) σ) ∧ pv_link I ∧ pv_cut I ∧ pv_like I ∧ pv_manner I ∧ pv_bar I ∧ pv_domains I ∧ pv_told I ∧ pv_own I ∧ pv_way I ∧ pv_why I ∧ pv_count I ∧ pv_type I ∧ pv_read I ∧ pv_turn I ∧ pv_choose I ∧ pv_rest I ∧ pv_clear I ∧ pv_foreseen I ∧ pv_stable I ∧ pv_ring I ∧ pv_fail I ∧ pv_seen I ∧ pv_drift I ∧ pv_undo I ∧ pv_seed I ∧ pv_image I ∧ pv_restore I ∧ pv_tried I ∧ pv_film I ∧ pv_sheet I ∧ pv_drop I ∧ pv_item I ∧ pv_copy I
theorem lx_nI (k : Nat) : nI (6 * k) + 6 = nI (6 * (k + 1)) := by
  rw [show (6 : Int32) = nI 6 from rfl, nI_add]
  congr 1
theorem lx_in {k L j : Nat} (h : 6 * k + 6 ≤ L) (hL : L ≤ 3072) (hj : j < 6) : vp_in (nI (6 * k) + nI j) L := by
  rw [nI_add]
  exact vp_in_nI (by omega) (by omega)
set_option maxRecDepth 100000 in
set_option maxHeartbeats 4000000 in
theorem lx_case {I : Nat → mx_G → Prop} (hI : pv_All I) {l : Launch} {b L : Nat} {xs : Nat → Int32} {k : Nat} {σ : mx_G} (hL : L ≤ 3072) (hk : 6 * k + 6 ≤ L) (hσ : I k σ) (nx : ∀ τ, I (k + 1) τ → lx l b L xs 18 (nI (6 * (k + 1))) [] τ) : ∀ v : Int32, lx l b L xs 33 (nI (6 * k)) [.int v] σ := by
  intro v
  have hk5 : k < 512 := by omega
  obtain ⟨hskip, h_link, h_cut, h_like, h_manner, h_bar, h_domains, h_told, h_own, h_way, h_why, h_count, h_type, h_read, h_turn, h_choose, h_rest, h_clear, h_foreseen, h_stable, h_ring, h_fail, h_seen, h_drift, h_undo, h_seed, h_image, h_restore, h_tried, h_film, h_sheet, h_drop, h_item, h_copy⟩ := hI
  have fin : ∀ τ, I (k + 1) τ → lx l b L xs 1170 (nI (6 * k)) [] τ := fun τ hτ => lx_next 18 dL_law_1170 dL_law_1173 (by decide) (by rw [lx_nI]; exact nx τ hτ)
  by_cases c0 : v = 0
  · refine lx_tabIn 147 180 dL_law_33 c0 (by decide) (by decide) (by decide) (by decide) ?_
    refine lx_this dL_law_180 ?_
    refine lx_sc 1 dL_law_181 dL_law_182 dL_law_183 (by decide) dL_law_184 dL_law_185 (lx_in (j := 1) hk hL (by decide)) ?_
    refine lx_sc 2 dL_law_186 dL_law_187 dL_law_188 (by decide) dL_law_189 dL_law_190 (lx_in (j := 2) hk hL (by decide)) ?_
    refine lx_sc 3 dL_law_191 dL_law_192 dL_law_193 (by decide) dL_law_194 dL_law_195 (lx_in (j := 3) hk hL (by decide)) ?_
    obtain ⟨r, τ, τ', e1, e2, e3⟩ := h_link k σ (xs (nI (6 * k) + 1).toNatClampNeg) (xs (nI (6 * k) + 2).toNatClampNeg) (xs (nI (6 * k) + 3).toNatClampNeg) hk5 hσ
    refine lx_calli (stk := []) (wX10_link l _ _ _ _ r τ e1) cl_L_13 rfl ⟨Nat.le_of_ble_eq_true rfl, Nat.le_of_ble_eq_true rfl⟩ rfl rfl rfl (Nat.le_of_ble_eq_true rfl) rfl dL_law_196 ?_
    refine lx_that dL_law_199 ?_
    refine lx_sc 1 dL_law_200 dL_law_201 dL_law_202 (by decide) dL_law_203 dL_law_204 (lx_in (j := 1) hk hL (by decide)) ?_
    refine lx_sc 2 dL_law_205 dL_law_206 dL_law_207 (by decide) dL_law_208 dL_law_209 (lx_in (j := 2) hk hL (by decide)) ?_
    refine lx_sc 3 dL_law_210 dL_law_211 dL_law_212 (by decide) dL_law_213 dL_law_214 (lx_in (j := 3) hk hL (by decide)) ?_
    refine lx_calli (stk := [.int r]) (wX11_link l _ _ _ _ r τ' e2) cl_L_17 rfl ⟨Nat.le_of_ble_eq_true rfl, Nat.le_of_ble_eq_true rfl⟩ rfl rfl rfl (Nat.le_of_ble_eq_true rfl) rfl dL_law_215 ?_
    exact lx_eq 1170 dL_law_218 (by decide) (fin τ' e3)
  by_cases c1 : v = 1
  · refine lx_tabIn 190 223 dL_law_33 c1 (by decide) (by decide) (by decide) (by decide) ?_
    refine lx_this dL_law_223 ?_
    refine lx_sc 1 dL_law_224 dL_law_225 dL_law_226 (by decide) dL_law_227 dL_law_228 (lx_in (j := 1) hk hL (by decide)) ?_
    refine lx_sc 2 dL_law_229 dL_law_230 dL_law_231 (by decide) dL_law_232 dL_law_233 (lx_in (j := 2) hk hL (by decide)) ?_
    obtain ⟨r, τ, τ', e1, e2, e3⟩ := h_cut k σ (xs (nI (6 * k) + 1).toNatClampNeg) (xs (nI (6 * k) + 2).toNatClampNeg) hk5 hσ
    refine lx_calli (stk := []) (wX10_cut l _ _ _ r τ e1) cl_L_18 rfl ⟨Nat.le_of_ble_eq_true rfl, Nat.le_of_ble_eq_true rfl⟩ rfl rfl rfl (Nat.le_of_ble_eq_true rfl) rfl dL_law_234 ?_
    refine lx_that dL_law_237 ?_
    refine lx_sc 1 dL_law_238 dL_law_239 dL_law_240 (by decide) dL_law_241 dL_law_242 (lx_in (j := 1) hk hL (by decide)) ?_
    refine lx_sc 2 dL_law_243 dL_law_244 dL_law_245 (by decide) dL_law_246 dL_law_247 (lx_in (j := 2) hk hL (by decide)) ?_
    refine lx_calli (stk := [.int r]) (wX11_cut l _ _ _ r τ' e2) cl_L_22 rfl ⟨Nat.le_of_ble_eq_true rfl, Nat.le_of_ble_eq_true rfl⟩ rfl rfl rfl (Nat.le_of_ble_eq_true rfl) rfl dL_law_248 ?_
    exact lx_eq 1170 dL_law_251 (by decide) (fin τ' e3)
  by_cases c2 : v = 2
  · refine lx_tabIn 223 256 dL_law_33 c2 (by decide) (by decide) (by decide) (by decide) ?_
    refine lx_this dL_law_256 ?_
    refine lx_sc 1 dL_law_257 dL_law_258 dL_law_259 (by decide) dL_law_260 dL_law_261 (lx_in (j := 1) hk hL (by decide)) ?_
    refine lx_sc 2 dL_law_262 dL_law_263 dL_law_264 (by decide) dL_law_265 dL_law_266 (lx_in (j := 2) hk hL (by decide)) ?_
    refine lx_sc 3 dL_law_267 dL_law_268 dL_law_269 (by decide) dL_law_270 dL_law_271 (lx_in (j := 3) hk hL (by decide)) ?_
    obtain ⟨r, τ, τ', e1, e2, e3⟩ := h_like k σ (xs (nI (6 * k) + 1).toNatClampNeg) (xs (nI (6 * k) + 2).toNatClampNeg) (xs (nI (6 * k) + 3).toNatClampNeg) hk5 hσ
    refine lx_calli (stk := []) (wX10_like l _ _ _ _ r τ e1) cl_L_23 rfl ⟨Nat.le_of_ble_eq_true rfl, Nat.le_of_ble_eq_true rfl⟩ rfl rfl rfl (Nat.le_of_ble_eq_true rfl) rfl dL_law_272 ?_
    refine lx_that dL_law_275 ?_
    refine lx_sc 1 dL_law_276 dL_law_277 dL_law_278 (by decide) dL_law_279 dL_law_280 (lx_in (j := 1) hk hL (by decide)) ?_
    refine lx_sc 2 dL_law_281 dL_law_282 dL_law_283 (by decide) dL_law_284 dL_law_285 (lx_in (j := 2) hk hL (by decide)) ?_
    refine lx_sc 3 dL_law_286 dL_law_287 dL_law_288 (by decide) dL_law_289 dL_law_290 (lx_in (j := 3) hk hL (by decide)) ?_
    refine lx_calli (stk := [.int r]) (wX11_like l _ _ _ _ r τ' e2) cl_L_26 rfl ⟨Nat.le_of_ble_eq_true rfl, Nat.le_of_ble_eq_true rfl⟩ rfl rfl rfl (Nat.le_of_ble_eq_true rfl) rfl dL_law_291 ?_
    exact lx_eq 1170 dL_law_294 (by decide) (fin τ' e3)
  by_cases c3 : v = 3
  · refine lx_tabIn 266 299 dL_law_33 c3 (by decide) (by decide) (by decide) (by decide) ?_
    refine lx_this dL_law_299 ?_
    refine lx_sc 1 dL_law_300 dL_law_301 dL_law_302 (by decide) dL_law_303 dL_law_304 (lx_in (j := 1) hk hL (by decide)) ?_
    refine lx_sc 2 dL_law_305 dL_law_306 dL_law_307 (by decide) dL_law_308 dL_law_309 (lx_in (j := 2) hk hL (by decide)) ?_
    obtain ⟨r, τ, τ', e1, e2, e3⟩ := h_manner k σ (xs (nI (6 * k) + 1).toNatClampNeg) (xs (nI (6 * k) + 2).toNatClampNeg) hk5 hσ
    refine lx_calli (stk := []) (wX10_manner l _ _ _ r τ e1) cl_L_27 rfl ⟨Nat.le_of_ble_eq_true rfl, Nat.le_of_ble_eq_true rfl⟩ rfl rfl rfl (Nat.le_of_ble_eq_true rfl) rfl dL_law_310 ?_
    refine lx_that dL_law_313 ?_
    refine lx_sc 1 dL_law_314 dL_law_315 dL_law_316 (by decide) dL_law_317 dL_law_318 (lx_in (j := 1) hk hL (by decide)) ?_
    refine lx_sc 2 dL_law_319 dL_law_320 dL_law_321 (by decide) dL_law_322 dL_law_323 (lx_in (j := 2) hk hL (by decide)) ?_
    refine lx_calli (stk := [.int r]) (wX11_manner l _ _ _ r τ' e2) cl_L_30 rfl ⟨Nat.le_of_ble_eq_true rfl, Nat.le_of_ble_eq_true rfl⟩ rfl rfl rfl (Nat.le_of_ble_eq_true rfl) rfl dL_law_324 ?_
    exact lx_eq 1170 dL_law_327 (by decide) (fin τ' e3)
  by_cases c4 : v = 4
  · refine lx_tabIn 299 332 dL_law_33 c4 (by decide) (by decide) (by decide) (by decide) ?_
    refine lx_this dL_law_332 ?_
    refine lx_sc 1 dL_law_333 dL_law_334 dL_law_335 (by decide) dL_law_336 dL_law_337 (lx_in (j := 1) hk hL (by decide)) ?_
    refine lx_sc 2 dL_law_338 dL_law_339 dL_law_340 (by decide) dL_law_341 dL_law_342 (lx_in (j := 2) hk hL (by decide)) ?_
    obtain ⟨r, τ, τ', e1, e2, e3⟩ := h_bar k σ (xs (nI (6 * k) + 1).toNatClampNeg) (xs (nI (6 * k) + 2).toNatClampNeg) hk5 hσ
    refine lx_calli (stk := []) (wX10_bar l _ _ _ r τ e1) cl_L_31 rfl ⟨Nat.le_of_ble_eq_true rfl, Nat.le_of_ble_eq_true rfl⟩ rfl rfl rfl (Nat.le_of_ble_eq_true rfl) rfl dL_law_343 ?_
    refine lx_that dL_law_346 ?_
    refine lx_sc 1 dL_law_347 dL_law_348 dL_law_349 (by decide) dL_law_350 dL_law_351 (lx_in (j := 1) hk hL (by decide)) ?_
    refine lx_sc 2 dL_law_352 dL_law_353 dL_law_354 (by decide) dL_law_355 dL_law_356 (lx_in (j := 2) hk hL (by decide)) ?_
    refine lx_calli (stk := [.int r]) (wX11_bar l _ _ _ r τ' e2) cl_L_34 rfl ⟨Nat.le_of_ble_eq_true rfl, Nat.le_of_ble_eq_true rfl⟩ rfl rfl rfl (Nat.le_of_ble_eq_true rfl) rfl dL_law_357 ?_
    exact lx_eq 1170 dL_law_360 (by decide) (fin τ' e3)
  by_cases c5 : v = 5
  · refine lx_tabIn 332 365 dL_law_33 c5 (by decide) (by decide) (by decide) (by decide) ?_
    refine lx_this dL_law_365 ?_
    refine lx_sc 1 dL_law_366 dL_law_367 dL_law_368 (by decide) dL_law_369 dL_law_370 (lx_in (j := 1) hk hL (by decide)) ?_
    obtain ⟨r, τ, τ', e1, e2, e3⟩ := h_domains k σ (xs (nI (6 * k) + 1).toNatClampNeg) hk5 hσ
    refine lx_calli (stk := []) (wX10_domains l _ _ r τ e1) cl_L_35 rfl ⟨Nat.le_of_ble_eq_true rfl, Nat.le_of_ble_eq_true rfl⟩ rfl rfl rfl (Nat.le_of_ble_eq_true rfl) rfl dL_law_371 ?_
    refine lx_that dL_law_374 ?_
    refine lx_sc 1 dL_law_375 dL_law_376 dL_law_377 (by decide) dL_law_378 dL_law_379 (lx_in (j := 1) hk hL (by decide)) ?_
    refine lx_calli (stk := [.int r]) (wX11_domains l _ _ r τ' e2) cl_L_39 rfl ⟨Nat.le_of_ble_eq_true rfl, Nat.le_of_ble_eq_true rfl⟩ rfl rfl rfl (Nat.le_of_ble_eq_true rfl) rfl dL_law_380 ?_
    exact lx_eq 1170 dL_law_383 (by decide) (fin τ' e3)
  by_cases c6 : v = 6
  · refine lx_tabIn 355 388 dL_law_33 c6 (by decide) (by decide) (by decide) (by decide) ?_
    refine lx_this dL_law_388 ?_
    refine lx_sc 1 dL_law_389 dL_law_390 dL_law_391 (by decide) dL_law_392 dL_law_393 (lx_in (j := 1) hk hL (by decide)) ?_
    refine lx_sc 2 dL_law_394 dL_law_395 dL_law_396 (by decide) dL_law_397 dL_law_398 (lx_in (j := 2) hk hL (by decide)) ?_
    refine lx_sc 3 dL_law_399 dL_law_400 dL_law_401 (by decide) dL_law_402 dL_law_403 (lx_in (j := 3) hk hL (by decide)) ?_
    obtain ⟨r, τ, τ', e1, e2, e3⟩ := h_told k σ (xs (nI (6 * k) + 1).toNatClampNeg) (xs (nI (6 * k) + 2).toNatClampNeg) (xs (nI (6 * k) + 3).toNatClampNeg) hk5 hσ
    refine lx_calli (stk := []) (wX10_told l _ _ _ _ r τ e1) cl_L_40 rfl ⟨Nat.le_of_ble_eq_true rfl, Nat.le_of_ble_eq_true rfl⟩ rfl rfl rfl (Nat.le_of_ble_eq_true rfl) rfl dL_law_404 ?_
    refine lx_that dL_law_407 ?_
    refine lx_sc 1 dL_law_408 dL_law_409 dL_law_410 (by decide) dL_law_411 dL_law_412 (lx_in (j := 1) hk hL (by decide)) ?_
    refine lx_sc 2 dL_law_413 dL_law_414 dL_law_415 (by decide) dL_law_416 dL_law_417 (lx_in (j := 2) hk hL (by decide)) ?_
    refine lx_sc 3 dL_law_418 dL_law_419 dL_law_420 (by decide) dL_law_421 dL_law_422 (lx_in (j := 3) hk hL (by decide)) ?_
    refine lx_calli (stk := [.int r]) (wX11_told l _ _ _ _ r τ' e2) cl_L_43 rfl ⟨Nat.le_of_ble_eq_true rfl, Nat.le_of_ble_eq_true rfl⟩ rfl rfl rfl (Nat.le_of_ble_eq_true rfl) rfl dL_law_423 ?_
    exact lx_eq 1170 dL_law_426 (by decide) (fin τ' e3)
  by_cases c7 : v = 7
  · refine lx_tabIn 398 431 dL_law_33 c7 (by decide) (by decide) (by decide) (by decide) ?_
    refine lx_this dL_law_431 ?_
    refine lx_sc 1 dL_law_432 dL_law_433 dL_law_434 (by decide) dL_law_435 dL_law_436 (lx_in (j := 1) hk hL (by decide)) ?_
    refine lx_sc 2 dL_law_437 dL_law_438 dL_law_439 (by decide) dL_law_440 dL_law_441 (lx_in (j := 2) hk hL (by decide)) ?_
    obtain ⟨r, τ, τ', e1, e2, e3⟩ := h_own k σ (xs (nI (6 * k) + 1).toNatClampNeg) (xs (nI (6 * k) + 2).toNatClampNeg) hk5 hσ
    refine lx_calli (stk := []) (wX10_own l _ _ _ r τ e1) cl_L_44 rfl ⟨Nat.le_of_ble_eq_true rfl, Nat.le_of_ble_eq_true rfl⟩ rfl rfl rfl (Nat.le_of_ble_eq_true rfl) rfl dL_law_442 ?_
    refine lx_that dL_law_445 ?_
    refine lx_sc 1 dL_law_446 dL_law_447 dL_law_448 (by decide) dL_law_449 dL_law_450 (lx_in (j := 1) hk hL (by decide)) ?_
    refine lx_sc 2 dL_law_451 dL_law_452 dL_law_453 (by decide) dL_law_454 dL_law_455 (lx_in (j := 2) hk hL (by decide)) ?_
    refine lx_calli (stk := [.int r]) (wX11_own l _ _ _ r τ' e2) cl_L_47 rfl ⟨Nat.le_of_ble_eq_true rfl, Nat.le_of_ble_eq_true rfl⟩ rfl rfl rfl (Nat.le_of_ble_eq_true rfl) rfl dL_law_456 ?_
    exact lx_eq 1170 dL_law_459 (by decide) (fin τ' e3)
  by_cases c8 : v = 8
  · refine lx_tabIn 431 464 dL_law_33 c8 (by decide) (by decide) (by decide) (by decide) ?_
    refine lx_this dL_law_464 ?_
    refine lx_sc 1 dL_law_465 dL_law_466 dL_law_467 (by decide) dL_law_468 dL_law_469 (lx_in (j := 1) hk hL (by decide)) ?_
    refine lx_sc 2 dL_law_470 dL_law_471 dL_law_472 (by decide) dL_law_473 dL_law_474 (lx_in (j := 2) hk hL (by decide)) ?_
    obtain ⟨r, τ, τ', e1, e2, e3⟩ := h_way k σ (xs (nI (6 * k) + 1).toNatClampNeg) (xs (nI (6 * k) + 2).toNatClampNeg) hk5 hσ
    refine lx_calli (stk := []) (wX10_way l _ _ _ r τ e1) cl_L_48 rfl ⟨Nat.le_of_ble_eq_true rfl, Nat.le_of_ble_eq_true rfl⟩ rfl rfl rfl (Nat.le_of_ble_eq_true rfl) rfl dL_law_475 ?_
    refine lx_that dL_law_478 ?_
    refine lx_sc 1 dL_law_479 dL_law_480 dL_law_481 (by decide) dL_law_482 dL_law_483 (lx_in (j := 1) hk hL (by decide)) ?_
    refine lx_sc 2 dL_law_484 dL_law_485 dL_law_486 (by decide) dL_law_487 dL_law_488 (lx_in (j := 2) hk hL (by decide)) ?_
    refine lx_calli (stk := [.int r]) (wX11_way l _ _ _ r τ' e2) cl_L_51 rfl ⟨Nat.le_of_ble_eq_true rfl, Nat.le_of_ble_eq_true rfl⟩ rfl rfl rfl (Nat.le_of_ble_eq_true rfl) rfl dL_law_489 ?_
    exact lx_eq 1170 dL_law_492 (by decide) (fin τ' e3)
  by_cases c9 : v = 9
  · refine lx_tabIn 464 497 dL_law_33 c9 (by decide) (by decide) (by decide) (by decide) ?_
    refine lx_this dL_law_497 ?_
    refine lx_sc 1 dL_law_498 dL_law_499 dL_law_500 (by decide) dL_law_501 dL_law_502 (lx_in (j := 1) hk hL (by decide)) ?_
    obtain ⟨r, τ, τ', e1, e2, e3⟩ := h_why k σ (xs (nI (6 * k) + 1).toNatClampNeg) hk5 hσ
    refine lx_calli (stk := []) (wX10_why l _ _ r τ e1) cl_L_52 rfl ⟨Nat.le_of_ble_eq_true rfl, Nat.le_of_ble_eq_true rfl⟩ rfl rfl rfl (Nat.le_of_ble_eq_true rfl) rfl dL_law_503 ?_
    refine lx_that dL_law_506 ?_
    refine lx_sc 1 dL_law_507 dL_law_508 dL_law_509 (by decide) dL_law_510 dL_law_511 (lx_in (j := 1) hk hL (by decide)) ?_
    refine lx_calli (stk := [.int r]) (wX11_why l _ _ r τ' e2) cl_L_55 rfl ⟨Nat.le_of_ble_eq_true rfl, Nat.le_of_ble_eq_true rfl⟩ rfl rfl rfl (Nat.le_of_ble_eq_true rfl) rfl dL_law_512 ?_
    exact lx_eq 1170 dL_law_515 (by decide) (fin τ' e3)
  by_cases c10 : v = 10
  · refine lx_tabIn 487 520 dL_law_33 c10 (by decide) (by decide) (by decide) (by decide) ?_
    refine lx_this dL_law_520 ?_
    refine lx_sc 1 dL_law_521 dL_law_522 dL_law_523 (by decide) dL_law_524 dL_law_525 (lx_in (j := 1) hk hL (by decide)) ?_
    obtain ⟨r, τ, τ', e1, e2, e3⟩ := h_count k σ (xs (nI (6 * k) + 1).toNatClampNeg) hk5 hσ
    refine lx_calli (stk := []) (wX10_count l _ _ r τ e1) cl_L_56 rfl ⟨Nat.le_of_ble_eq_true rfl, Nat.le_of_ble_eq_true rfl⟩ rfl rfl rfl (Nat.le_of_ble_eq_true rfl) rfl dL_law_526 ?_
    refine lx_that dL_law_529 ?_
    refine lx_sc 1 dL_law_530 dL_law_531 dL_law_532 (by decide) dL_law_533 dL_law_534 (lx_in (j := 1) hk hL (by decide)) ?_
    refine lx_calli (stk := [.int r]) (wX11_count l _ _ r τ' e2) cl_L_59 rfl ⟨Nat.le_of_ble_eq_true rfl, Nat.le_of_ble_eq_true rfl⟩ rfl rfl rfl (Nat.le_of_ble_eq_true rfl) rfl dL_law_535 ?_
    exact lx_eq 1170 dL_law_538 (by decide) (fin τ' e3)
  by_cases c11 : v = 11
  · refine lx_tabIn 510 543 dL_law_33 c11 (by decide) (by decide) (by decide) (by decide) ?_
    refine lx_this dL_law_543 ?_
    refine lx_sc 1 dL_law_544 dL_law_545 dL_law_546 (by decide) dL_law_547 dL_law_548 (lx_in (j := 1) hk hL (by decide)) ?_
    obtain ⟨r, τ, τ', e1, e2, e3⟩ := h_type k σ (xs (nI (6 * k) + 1).toNatClampNeg) hk5 hσ
    refine lx_calli (stk := []) (wX10_type l _ _ r τ e1) cl_L_60 rfl ⟨Nat.le_of_ble_eq_true rfl, Nat.le_of_ble_eq_true rfl⟩ rfl rfl rfl (Nat.le_of_ble_eq_true rfl) rfl dL_law_549 ?_
    refine lx_that dL_law_552 ?_
    refine lx_sc 1 dL_law_553 dL_law_554 dL_law_555 (by decide) dL_law_556 dL_law_557 (lx_in (j := 1) hk hL (by decide)) ?_
    refine lx_calli (stk := [.int r]) (wX11_type l _ _ r τ' e2) cl_L_63 rfl ⟨Nat.le_of_ble_eq_true rfl, Nat.le_of_ble_eq_true rfl⟩ rfl rfl rfl (Nat.le_of_ble_eq_true rfl) rfl dL_law_558 ?_
    exact lx_eq 1170 dL_law_561 (by decide) (fin τ' e3)
  by_cases c12 : v = 12
  · refine lx_tabIn 533 566 dL_law_33 c12 (by decide) (by decide) (by decide) (by decide) ?_
    refine lx_this dL_law_566 ?_
    obtain ⟨r, τ, τ', e1, e2, e3⟩ := h_read k σ hk5 hσ
    refine lx_calli (stk := []) (wX10_read l _ r τ e1) cl_L_64 rfl ⟨Nat.le_of_ble_eq_true rfl, Nat.le_of_ble_eq_true rfl⟩ rfl rfl rfl (Nat.le_of_ble_eq_true rfl) rfl dL_law_567 ?_
    refine lx_that dL_law_570 ?_
    refine lx_calli (stk := [.int r]) (wX11_read l _ r τ' e2) cl_L_68 rfl ⟨Nat.le_of_ble_eq_true rfl, Nat.le_of_ble_eq_true rfl⟩ rfl rfl rfl (Nat.le_of_ble_eq_true rfl) rfl dL_law_571 ?_
    exact lx_eq 1170 dL_law_574 (by decide) (fin τ' e3)
  by_cases c13 : v = 13
  · refine lx_tabIn 546 579 dL_law_33 c13 (by decide) (by decide) (by decide) (by decide) ?_
    refine lx_this dL_law_579 ?_
    obtain ⟨r, τ, τ', e1, e2, e3⟩ := h_turn k σ hk5 hσ
    refine lx_calli (stk := []) (wX10_turn l _ r τ e1) cl_L_69 rfl ⟨Nat.le_of_ble_eq_true rfl, Nat.le_of_ble_eq_true rfl⟩ rfl rfl rfl (Nat.le_of_ble_eq_true rfl) rfl dL_law_580 ?_
    refine lx_that dL_law_583 ?_
    refine lx_calli (stk := [.int r]) (wX11_turn l _ r τ' e2) cl_L_72 rfl ⟨Nat.le_of_ble_eq_true rfl, Nat.le_of_ble_eq_true rfl⟩ rfl rfl rfl (Nat.le_of_ble_eq_true rfl) rfl dL_law_584 ?_
    exact lx_eq 1170 dL_law_587 (by decide) (fin τ' e3)
  by_cases c14 : v = 14
  · refine lx_tabIn 559 592 dL_law_33 c14 (by decide) (by decide) (by decide) (by decide) ?_
    refine lx_this dL_law_592 ?_
    refine lx_sc 1 dL_law_593 dL_law_594 dL_law_595 (by decide) dL_law_596 dL_law_597 (lx_in (j := 1) hk hL (by decide)) ?_
    obtain ⟨r, τ, τ', e1, e2, e3⟩ := h_choose k σ (xs (nI (6 * k) + 1).toNatClampNeg) hk5 hσ
    refine lx_calli (stk := []) (wX10_choose l _ _ r τ e1) cl_L_73 rfl ⟨Nat.le_of_ble_eq_true rfl, Nat.le_of_ble_eq_true rfl⟩ rfl rfl rfl (Nat.le_of_ble_eq_true rfl) rfl dL_law_598 ?_
    refine lx_that dL_law_601 ?_
    refine lx_sc 1 dL_law_602 dL_law_603 dL_law_604 (by decide) dL_law_605 dL_law_606 (lx_in (j := 1) hk hL (by decide)) ?_
    refine lx_calli (stk := [.int r]) (wX11_choose l _ _ r τ' e2) cl_L_76 rfl ⟨Nat.le_of_ble_eq_true rfl, Nat.le_of_ble_eq_true rfl⟩ rfl rfl rfl (Nat.le_of_ble_eq_true rfl) rfl dL_law_607 ?_
    exact lx_eq 1170 dL_law_610 (by decide) (fin τ' e3)
  by_cases c15 : v = 15
  · refine lx_tabIn 582 615 dL_law_33 c15 (by decide) (by decide) (by decide) (by decide) ?_
    refine lx_this dL_law_615 ?_
    obtain ⟨r, τ, τ', e1, e2, e3⟩ := h_rest k σ hk5 hσ
    refine lx_calli (stk := []) (wX10_rest l _ r τ e1) cl_L_77 rfl ⟨Nat.le_of_ble_eq_true rfl, Nat.le_of_ble_eq_true rfl⟩ rfl rfl rfl (Nat.le_of_ble_eq_true rfl) rfl dL_law_616 ?_
    refine lx_that dL_law_619 ?_
    refine lx_calli (stk := [.int r]) (wX11_rest l _ r τ' e2) cl_L_80 rfl ⟨Nat.le_of_ble_eq_true rfl, Nat.le_of_ble_eq_true rfl⟩ rfl rfl rfl (Nat.le_of_ble_eq_true rfl) rfl dL_law_620 ?_
    exact lx_eq 1170 dL_law_623 (by decide) (fin τ' e3)
  by_cases c16 : v = 16
  · refine lx_tabIn 595 628 dL_law_33 c16 (by decide) (by decide) (by decide) (by decide) ?_
    refine lx_this dL_law_628 ?_
    obtain ⟨r, τ, τ', e1, e2, e3⟩ := h_clear k σ hk5 hσ
    refine lx_calli (stk := []) (wX10_clear l _ r τ e1) cl_L_81 rfl ⟨Nat.le_of_ble_eq_true rfl, Nat.le_of_ble_eq_true rfl⟩ rfl rfl rfl (Nat.le_of_ble_eq_true rfl) rfl dL_law_629 ?_
    refine lx_that dL_law_632 ?_
    refine lx_calli (stk := [.int r]) (wX11_clear l _ r τ' e2) cl_L_84 rfl ⟨Nat.le_of_ble_eq_true rfl, Nat.le_of_ble_eq_true rfl⟩ rfl rfl rfl (Nat.le_of_ble_eq_true rfl) rfl dL_law_633 ?_
    exact lx_eq 1170 dL_law_636 (by decide) (fin τ' e3)
  by_cases c17 : v = 17
  · refine lx_tabIn 608 641 dL_law_33 c17 (by decide) (by decide) (by decide) (by decide) ?_
    refine lx_this dL_law_641 ?_
    refine lx_sc 1 dL_law_642 dL_law_643 dL_law_644 (by decide) dL_law_645 dL_law_646 (lx_in (j := 1) hk hL (by decide)) ?_
    obtain ⟨r, τ, τ', e1, e2, e3⟩ := h_foreseen k σ (xs (nI (6 * k) + 1).toNatClampNeg) hk5 hσ
    refine lx_calli (stk := []) (wX10_foreseen l _ _ r τ e1) cl_L_85 rfl ⟨Nat.le_of_ble_eq_true rfl, Nat.le_of_ble_eq_true rfl⟩ rfl rfl rfl (Nat.le_of_ble_eq_true rfl) rfl dL_law_647 ?_
    refine lx_that dL_law_650 ?_
    refine lx_sc 1 dL_law_651 dL_law_652 dL_law_653 (by decide) dL_law_654 dL_law_655 (lx_in (j := 1) hk hL (by decide)) ?_
    refine lx_calli (stk := [.int r]) (wX11_foreseen l _ _ r τ' e2) cl_L_88 rfl ⟨Nat.le_of_ble_eq_true rfl, Nat.le_of_ble_eq_true rfl⟩ rfl rfl rfl (Nat.le_of_ble_eq_true rfl) rfl dL_law_656 ?_
    exact lx_eq 1170 dL_law_659 (by decide) (fin τ' e3)
  by_cases c18 : v = 18
  · refine lx_tabIn 631 664 dL_law_33 c18 (by decide) (by decide) (by decide) (by decide) ?_
    refine lx_this dL_law_664 ?_
    refine lx_sc 1 dL_law_665 dL_law_666 dL_law_667 (by decide) dL_law_668 dL_law_669 (lx_in (j := 1) hk hL (by decide)) ?_
    refine lx_sc 2 dL_law_670 dL_law_671 dL_law_672 (by decide) dL_law_673 dL_law_674 (lx_in (j := 2) hk hL (by decide)) ?_
    obtain ⟨r, τ, τ', e1, e2, e3⟩ := h_stable k σ (xs (nI (6 * k) + 1).toNatClampNeg) (xs (nI (6 * k) + 2).toNatClampNeg) hk5 hσ
    refine lx_calli (stk := []) (wX10_stable l _ _ _ r τ e1) cl_L_89 rfl ⟨Nat.le_of_ble_eq_true rfl, Nat.le_of_ble_eq_true rfl⟩ rfl rfl rfl (Nat.le_of_ble_eq_true rfl) rfl dL_law_675 ?_
    refine lx_that dL_law_678 ?_
    refine lx_sc 1 dL_law_679 dL_law_680 dL_law_681 (by decide) dL_law_682 dL_law_683 (lx_in (j := 1) hk hL (by decide)) ?_
    refine lx_sc 2 dL_law_684 dL_law_685 dL_law_686 (by decide) dL_law_687 dL_law_688 (lx_in (j := 2) hk hL (by decide)) ?_
    refine lx_calli (stk := [.int r]) (wX11_stable l _ _ _ r τ' e2) cl_L_92 rfl ⟨Nat.le_of_ble_eq_true rfl, Nat.le_of_ble_eq_true rfl⟩ rfl rfl rfl (Nat.le_of_ble_eq_true rfl) rfl dL_law_689 ?_
    exact lx_eq 1170 dL_law_692 (by decide) (fin τ' e3)
  by_cases c19 : v = 19
  · refine lx_tabIn 664 697 dL_law_33 c19 (by decide) (by decide) (by decide) (by decide) ?_
    refine lx_this dL_law_697 ?_
    refine lx_sc 1 dL_law_698 dL_law_699 dL_law_700 (by decide) dL_law_701 dL_law_702 (lx_in (j := 1) hk hL (by decide)) ?_
    obtain ⟨r, τ, τ', e1, e2, e3⟩ := h_ring k σ (xs (nI (6 * k) + 1).toNatClampNeg) hk5 hσ
    refine lx_calli (stk := []) (wX10_ring l _ _ r τ e1) cl_L_93 rfl ⟨Nat.le_of_ble_eq_true rfl, Nat.le_of_ble_eq_true rfl⟩ rfl rfl rfl (Nat.le_of_ble_eq_true rfl) rfl dL_law_703 ?_
    refine lx_that dL_law_706 ?_
    refine lx_sc 1 dL_law_707 dL_law_708 dL_law_709 (by decide) dL_law_710 dL_law_711 (lx_in (j := 1) hk hL (by decide)) ?_
    refine lx_calli (stk := [.int r]) (wX11_ring l _ _ r τ' e2) cl_L_96 rfl ⟨Nat.le_of_ble_eq_true rfl, Nat.le_of_ble_eq_true rfl⟩ rfl rfl rfl (Nat.le_of_ble_eq_true rfl) rfl dL_law_712 ?_
    exact lx_eq 1170 dL_law_715 (by decide) (fin τ' e3)
  by_cases c20 : v = 20
  · refine lx_tabIn 687 720 dL_law_33 c20 (by decide) (by decide) (by decide) (by decide) ?_
    refine lx_this dL_law_720 ?_
    refine lx_sc 1 dL_law_721 dL_law_722 dL_law_723 (by decide) dL_law_724 dL_law_725 (lx_in (j := 1) hk hL (by decide)) ?_
    refine lx_sc 2 dL_law_726 dL_law_727 dL_law_728 (by decide) dL_law_729 dL_law_730 (lx_in (j := 2) hk hL (by decide)) ?_
    refine lx_sc 3 dL_law_731 dL_law_732 dL_law_733 (by decide) dL_law_734 dL_law_735 (lx_in (j := 3) hk hL (by decide)) ?_
    obtain ⟨r, τ, τ', e1, e2, e3⟩ := h_fail k σ (xs (nI (6 * k) + 1).toNatClampNeg) (xs (nI (6 * k) + 2).toNatClampNeg) (xs (nI (6 * k) + 3).toNatClampNeg) hk5 hσ
    refine lx_calll (stk := []) (wX10_fail l _ _ _ _ r τ e1) cl_L_97 rfl ⟨Nat.le_of_ble_eq_true rfl, Nat.le_of_ble_eq_true rfl⟩ rfl rfl rfl (Nat.le_of_ble_eq_true rfl) rfl dL_law_736 ?_
    refine lx_that dL_law_739 ?_
    refine lx_sc 1 dL_law_740 dL_law_741 dL_law_742 (by decide) dL_law_743 dL_law_744 (lx_in (j := 1) hk hL (by decide)) ?_
    refine lx_sc 2 dL_law_745 dL_law_746 dL_law_747 (by decide) dL_law_748 dL_law_749 (lx_in (j := 2) hk hL (by decide)) ?_
    refine lx_sc 3 dL_law_750 dL_law_751 dL_law_752 (by decide) dL_law_753 dL_law_754 (lx_in (j := 3) hk hL (by decide)) ?_
    refine lx_calll (stk := [.long r]) (wX11_fail l _ _ _ _ r τ' e2) cl_L_101 rfl ⟨Nat.le_of_ble_eq_true rfl, Nat.le_of_ble_eq_true rfl⟩ rfl rfl rfl (Nat.le_of_ble_eq_true rfl) rfl dL_law_755 ?_
    exact lx_leq 1170 dL_law_758 dL_law_759 (by decide) (fin τ' e3)
  by_cases c21 : v = 21
  · refine lx_tabIn 731 764 dL_law_33 c21 (by decide) (by decide) (by decide) (by decide) ?_
    refine lx_this dL_law_764 ?_
    refine lx_sc 1 dL_law_765 dL_law_766 dL_law_767 (by decide) dL_law_768 dL_law_769 (lx_in (j := 1) hk hL (by decide)) ?_
    obtain ⟨r, τ, τ', e1, e2, e3⟩ := h_seen k σ (xs (nI (6 * k) + 1).toNatClampNeg) hk5 hσ
    refine lx_calli (stk := []) (wX10_seen l _ _ r τ e1) cl_L_102 rfl ⟨Nat.le_of_ble_eq_true rfl, Nat.le_of_ble_eq_true rfl⟩ rfl rfl rfl (Nat.le_of_ble_eq_true rfl) rfl dL_law_770 ?_
    refine lx_that dL_law_773 ?_
    refine lx_sc 1 dL_law_774 dL_law_775 dL_law_776 (by decide) dL_law_777 dL_law_778 (lx_in (j := 1) hk hL (by decide)) ?_
    refine lx_calli (stk := [.int r]) (wX11_seen l _ _ r τ' e2) cl_L_105 rfl ⟨Nat.le_of_ble_eq_true rfl, Nat.le_of_ble_eq_true rfl⟩ rfl rfl rfl (Nat.le_of_ble_eq_true rfl) rfl dL_law_779 ?_
    exact lx_eq 1170 dL_law_782 (by decide) (fin τ' e3)
  by_cases c22 : v = 22
  · refine lx_tabIn 754 787 dL_law_33 c22 (by decide) (by decide) (by decide) (by decide) ?_
    refine lx_this dL_law_787 ?_
    refine lx_sc 1 dL_law_788 dL_law_789 dL_law_790 (by decide) dL_law_791 dL_law_792 (lx_in (j := 1) hk hL (by decide)) ?_
    obtain ⟨r, τ, τ', e1, e2, e3⟩ := h_drift k σ (xs (nI (6 * k) + 1).toNatClampNeg) hk5 hσ
    refine lx_calli (stk := []) (wX10_drift l _ _ r τ e1) cl_L_106 rfl ⟨Nat.le_of_ble_eq_true rfl, Nat.le_of_ble_eq_true rfl⟩ rfl rfl rfl (Nat.le_of_ble_eq_true rfl) rfl dL_law_793 ?_
    refine lx_that dL_law_796 ?_
    refine lx_sc 1 dL_law_797 dL_law_798 dL_law_799 (by decide) dL_law_800 dL_law_801 (lx_in (j := 1) hk hL (by decide)) ?_
    refine lx_calli (stk := [.int r]) (wX11_drift l _ _ r τ' e2) cl_L_109 rfl ⟨Nat.le_of_ble_eq_true rfl, Nat.le_of_ble_eq_true rfl⟩ rfl rfl rfl (Nat.le_of_ble_eq_true rfl) rfl dL_law_802 ?_
    exact lx_eq 1170 dL_law_805 (by decide) (fin τ' e3)
  by_cases c23 : v = 23
  · refine lx_tabIn 777 810 dL_law_33 c23 (by decide) (by decide) (by decide) (by decide) ?_
    refine lx_this dL_law_810 ?_
    obtain ⟨r, τ, τ', e1, e2, e3⟩ := h_undo k σ hk5 hσ
    refine lx_calli (stk := []) (wX10_undo l _ r τ e1) cl_L_110 rfl ⟨Nat.le_of_ble_eq_true rfl, Nat.le_of_ble_eq_true rfl⟩ rfl rfl rfl (Nat.le_of_ble_eq_true rfl) rfl dL_law_811 ?_
    refine lx_that dL_law_814 ?_
    refine lx_calli (stk := [.int r]) (wX11_undo l _ r τ' e2) cl_L_113 rfl ⟨Nat.le_of_ble_eq_true rfl, Nat.le_of_ble_eq_true rfl⟩ rfl rfl rfl (Nat.le_of_ble_eq_true rfl) rfl dL_law_815 ?_
    exact lx_eq 1170 dL_law_818 (by decide) (fin τ' e3)
  by_cases c24 : v = 24
  · refine lx_tabIn 790 823 dL_law_33 c24 (by decide) (by decide) (by decide) (by decide) ?_
    refine lx_this dL_law_823 ?_
    refine lx_sc 1 dL_law_824 dL_law_825 dL_law_826 (by decide) dL_law_827 dL_law_828 (lx_in (j := 1) hk hL (by decide)) ?_
    obtain ⟨r, τ, τ', e1, e2, e3⟩ := h_seed k σ (xs (nI (6 * k) + 1).toNatClampNeg) hk5 hσ
    refine lx_calli (stk := []) (wX10_seed l _ _ r τ e1) cl_L_114 rfl ⟨Nat.le_of_ble_eq_true rfl, Nat.le_of_ble_eq_true rfl⟩ rfl rfl rfl (Nat.le_of_ble_eq_true rfl) rfl dL_law_829 ?_
    refine lx_that dL_law_832 ?_
    refine lx_sc 1 dL_law_833 dL_law_834 dL_law_835 (by decide) dL_law_836 dL_law_837 (lx_in (j := 1) hk hL (by decide)) ?_
    refine lx_calli (stk := [.int r]) (wX11_seed l _ _ r τ' e2) cl_L_117 rfl ⟨Nat.le_of_ble_eq_true rfl, Nat.le_of_ble_eq_true rfl⟩ rfl rfl rfl (Nat.le_of_ble_eq_true rfl) rfl dL_law_838 ?_
    exact lx_eq 1170 dL_law_841 (by decide) (fin τ' e3)
  by_cases c25 : v = 25
  · refine lx_tabIn 813 846 dL_law_33 c25 (by decide) (by decide) (by decide) (by decide) ?_
    refine lx_this dL_law_846 ?_
    obtain ⟨r, τ, τ', e1, e2, e3⟩ := h_image k σ hk5 hσ
    refine lx_calli (stk := []) (wX10_image l _ r τ e1) cl_L_118 rfl ⟨Nat.le_of_ble_eq_true rfl, Nat.le_of_ble_eq_true rfl⟩ rfl rfl rfl (Nat.le_of_ble_eq_true rfl) rfl dL_law_847 ?_
    refine lx_that dL_law_850 ?_
    refine lx_calli (stk := [.int r]) (wX11_image l _ r τ' e2) cl_L_121 rfl ⟨Nat.le_of_ble_eq_true rfl, Nat.le_of_ble_eq_true rfl⟩ rfl rfl rfl (Nat.le_of_ble_eq_true rfl) rfl dL_law_851 ?_
    exact lx_eq 1170 dL_law_854 (by decide) (fin τ' e3)
  by_cases c26 : v = 26
  · refine lx_tabIn 826 859 dL_law_33 c26 (by decide) (by decide) (by decide) (by decide) ?_
    refine lx_this dL_law_859 ?_
    obtain ⟨r, τ, τ', e1, e2, e3⟩ := h_restore k σ hk5 hσ
    refine lx_calli (stk := []) (wX10_restore l _ r τ e1) cl_L_122 rfl ⟨Nat.le_of_ble_eq_true rfl, Nat.le_of_ble_eq_true rfl⟩ rfl rfl rfl (Nat.le_of_ble_eq_true rfl) rfl dL_law_860 ?_
    refine lx_that dL_law_863 ?_
    refine lx_calli (stk := [.int r]) (wX11_restore l _ r τ' e2) cl_L_125 rfl ⟨Nat.le_of_ble_eq_true rfl, Nat.le_of_ble_eq_true rfl⟩ rfl rfl rfl (Nat.le_of_ble_eq_true rfl) rfl dL_law_864 ?_
    exact lx_eq 1170 dL_law_867 (by decide) (fin τ' e3)
  by_cases c27 : v = 27
  · refine lx_tabIn 839 872 dL_law_33 c27 (by decide) (by decide) (by decide) (by decide) ?_
    refine lx_this dL_law_872 ?_
    refine lx_sc 1 dL_law_873 dL_law_874 dL_law_875 (by decide) dL_law_876 dL_law_877 (lx_in (j := 1) hk hL (by decide)) ?_
    refine lx_sc 2 dL_law_878 dL_law_879 dL_law_880 (by decide) dL_law_881 dL_law_882 (lx_in (j := 2) hk hL (by decide)) ?_
    refine lx_sc 3 dL_law_883 dL_law_884 dL_law_885 (by decide) dL_law_886 dL_law_887 (lx_in (j := 3) hk hL (by decide)) ?_
    obtain ⟨r, τ, τ', e1, e2, e3⟩ := h_tried k σ (xs (nI (6 * k) + 1).toNatClampNeg) (xs (nI (6 * k) + 2).toNatClampNeg) (xs (nI (6 * k) + 3).toNatClampNeg) hk5 hσ
    refine lx_calli (stk := []) (wX10_tried l _ _ _ _ r τ e1) cl_L_126 rfl ⟨Nat.le_of_ble_eq_true rfl, Nat.le_of_ble_eq_true rfl⟩ rfl rfl rfl (Nat.le_of_ble_eq_true rfl) rfl dL_law_888 ?_
    refine lx_that dL_law_891 ?_
    refine lx_sc 1 dL_law_892 dL_law_893 dL_law_894 (by decide) dL_law_895 dL_law_896 (lx_in (j := 1) hk hL (by decide)) ?_
    refine lx_sc 2 dL_law_897 dL_law_898 dL_law_899 (by decide) dL_law_900 dL_law_901 (lx_in (j := 2) hk hL (by decide)) ?_
    refine lx_sc 3 dL_law_902 dL_law_903 dL_law_904 (by decide) dL_law_905 dL_law_906 (lx_in (j := 3) hk hL (by decide)) ?_
    refine lx_calli (stk := [.int r]) (wX11_tried l _ _ _ _ r τ' e2) cl_L_129 rfl ⟨Nat.le_of_ble_eq_true rfl, Nat.le_of_ble_eq_true rfl⟩ rfl rfl rfl (Nat.le_of_ble_eq_true rfl) rfl dL_law_907 ?_
    exact lx_eq 1170 dL_law_910 (by decide) (fin τ' e3)
  by_cases c28 : v = 28
  · refine lx_tabIn 882 915 dL_law_33 c28 (by decide) (by decide) (by decide) (by decide) ?_
    refine lx_this dL_law_915 ?_
    refine lx_sc 1 dL_law_916 dL_law_917 dL_law_918 (by decide) dL_law_919 dL_law_920 (lx_in (j := 1) hk hL (by decide)) ?_
    refine lx_sc 2 dL_law_921 dL_law_922 dL_law_923 (by decide) dL_law_924 dL_law_925 (lx_in (j := 2) hk hL (by decide)) ?_
    refine lx_sc 3 dL_law_926 dL_law_927 dL_law_928 (by decide) dL_law_929 dL_law_930 (lx_in (j := 3) hk hL (by decide)) ?_
    obtain ⟨r, τ, τ', e1, e2, e3⟩ := h_film k σ (xs (nI (6 * k) + 1).toNatClampNeg) (xs (nI (6 * k) + 2).toNatClampNeg) (xs (nI (6 * k) + 3).toNatClampNeg) hk5 hσ
    refine lx_calli (stk := []) (wX10_film l _ _ _ _ r τ e1) cl_L_130 rfl ⟨Nat.le_of_ble_eq_true rfl, Nat.le_of_ble_eq_true rfl⟩ rfl rfl rfl (Nat.le_of_ble_eq_true rfl) rfl dL_law_931 ?_
    refine lx_that dL_law_934 ?_
    refine lx_sc 1 dL_law_935 dL_law_936 dL_law_937 (by decide) dL_law_938 dL_law_939 (lx_in (j := 1) hk hL (by decide)) ?_
    refine lx_sc 2 dL_law_940 dL_law_941 dL_law_942 (by decide) dL_law_943 dL_law_944 (lx_in (j := 2) hk hL (by decide)) ?_
    refine lx_sc 3 dL_law_945 dL_law_946 dL_law_947 (by decide) dL_law_948 dL_law_949 (lx_in (j := 3) hk hL (by decide)) ?_
    refine lx_calli (stk := [.int r]) (wX11_film l _ _ _ _ r τ' e2) cl_L_133 rfl ⟨Nat.le_of_ble_eq_true rfl, Nat.le_of_ble_eq_true rfl⟩ rfl rfl rfl (Nat.le_of_ble_eq_true rfl) rfl dL_law_950 ?_
    exact lx_eq 1170 dL_law_953 (by decide) (fin τ' e3)
  by_cases c29 : v = 29
  · refine lx_tabIn 925 958 dL_law_33 c29 (by decide) (by decide) (by decide) (by decide) ?_
    refine lx_this dL_law_958 ?_
    refine lx_sc 1 dL_law_959 dL_law_960 dL_law_961 (by decide) dL_law_962 dL_law_963 (lx_in (j := 1) hk hL (by decide)) ?_
    refine lx_sc 2 dL_law_964 dL_law_965 dL_law_966 (by decide) dL_law_967 dL_law_968 (lx_in (j := 2) hk hL (by decide)) ?_
    refine lx_sc 3 dL_law_969 dL_law_970 dL_law_971 (by decide) dL_law_972 dL_law_973 (lx_in (j := 3) hk hL (by decide)) ?_
    obtain ⟨r, τ, τ', e1, e2, e3⟩ := h_sheet k σ (xs (nI (6 * k) + 1).toNatClampNeg) (xs (nI (6 * k) + 2).toNatClampNeg) (xs (nI (6 * k) + 3).toNatClampNeg) hk5 hσ
    refine lx_calli (stk := []) (wX10_sheet l _ _ _ _ r τ e1) cl_L_134 rfl ⟨Nat.le_of_ble_eq_true rfl, Nat.le_of_ble_eq_true rfl⟩ rfl rfl rfl (Nat.le_of_ble_eq_true rfl) rfl dL_law_974 ?_
    refine lx_that dL_law_977 ?_
    refine lx_sc 1 dL_law_978 dL_law_979 dL_law_980 (by decide) dL_law_981 dL_law_982 (lx_in (j := 1) hk hL (by decide)) ?_
    refine lx_sc 2 dL_law_983 dL_law_984 dL_law_985 (by decide) dL_law_986 dL_law_987 (lx_in (j := 2) hk hL (by decide)) ?_
    refine lx_sc 3 dL_law_988 dL_law_989 dL_law_990 (by decide) dL_law_991 dL_law_992 (lx_in (j := 3) hk hL (by decide)) ?_
    refine lx_calli (stk := [.int r]) (wX11_sheet l _ _ _ _ r τ' e2) cl_L_137 rfl ⟨Nat.le_of_ble_eq_true rfl, Nat.le_of_ble_eq_true rfl⟩ rfl rfl rfl (Nat.le_of_ble_eq_true rfl) rfl dL_law_993 ?_
    exact lx_eq 1170 dL_law_996 (by decide) (fin τ' e3)
  by_cases c30 : v = 30
  · refine lx_tabIn 968 1001 dL_law_33 c30 (by decide) (by decide) (by decide) (by decide) ?_
    refine lx_this dL_law_1001 ?_
    refine lx_sc 1 dL_law_1002 dL_law_1003 dL_law_1004 (by decide) dL_law_1005 dL_law_1006 (lx_in (j := 1) hk hL (by decide)) ?_
    obtain ⟨r, τ, τ', e1, e2, e3⟩ := h_drop k σ (xs (nI (6 * k) + 1).toNatClampNeg) hk5 hσ
    refine lx_calli (stk := []) (wX10_drop l _ _ r τ e1) cl_L_138 rfl ⟨Nat.le_of_ble_eq_true rfl, Nat.le_of_ble_eq_true rfl⟩ rfl rfl rfl (Nat.le_of_ble_eq_true rfl) rfl dL_law_1007 ?_
    refine lx_that dL_law_1010 ?_
    refine lx_sc 1 dL_law_1011 dL_law_1012 dL_law_1013 (by decide) dL_law_1014 dL_law_1015 (lx_in (j := 1) hk hL (by decide)) ?_
    refine lx_calli (stk := [.int r]) (wX11_drop l _ _ r τ' e2) cl_L_141 rfl ⟨Nat.le_of_ble_eq_true rfl, Nat.le_of_ble_eq_true rfl⟩ rfl rfl rfl (Nat.le_of_ble_eq_true rfl) rfl dL_law_1016 ?_
    exact lx_eq 1170 dL_law_1019 (by decide) (fin τ' e3)
  by_cases c31 : v = 31
  · refine lx_tabIn 991 1024 dL_law_33 c31 (by decide) (by decide) (by decide) (by decide) ?_
    refine lx_this dL_law_1024 ?_
    refine lx_sc 1 dL_law_1025 dL_law_1026 dL_law_1027 (by decide) dL_law_1028 dL_law_1029 (lx_in (j := 1) hk hL (by decide)) ?_
    refine lx_sc 2 dL_law_1030 dL_law_1031 dL_law_1032 (by decide) dL_law_1033 dL_law_1034 (lx_in (j := 2) hk hL (by decide)) ?_
    refine lx_sc 3 dL_law_1035 dL_law_1036 dL_law_1037 (by decide) dL_law_1038 dL_law_1039 (lx_in (j := 3) hk hL (by decide)) ?_
    refine lx_sc 4 dL_law_1040 dL_law_1041 dL_law_1042 (by decide) dL_law_1043 dL_law_1044 (lx_in (j := 4) hk hL (by decide)) ?_
    refine lx_i2l dL_law_1045 ?_
    refine lx_bipush 32 dL_law_1046 (by decide) ?_
    refine lx_lshl dL_law_1048 ?_
    refine lx_sc 5 dL_law_1049 dL_law_1050 dL_law_1051 (by decide) dL_law_1052 dL_law_1053 (lx_in (j := 5) hk hL (by decide)) ?_
    refine lx_i2l dL_law_1054 ?_
    refine lx_ldc2 kl_L_142 dL_law_1055 ?_
    refine lx_land dL_law_1058 ?_
    refine lx_lor dL_law_1059 ?_
    obtain ⟨r, τ, τ', e1, e2, e3⟩ := h_item k σ (xs (nI (6 * k) + 1).toNatClampNeg) (xs (nI (6 * k) + 2).toNatClampNeg) (xs (nI (6 * k) + 3).toNatClampNeg) ((mv_lshl (Int32.toInt64 (xs (nI (6 * k) + 4).toNatClampNeg)) 32) ||| ((Int32.toInt64 (xs (nI (6 * k) + 5).toNatClampNeg)) &&& 4294967295)) hk5 hσ
    refine lx_calli (stk := []) (wX10_item l _ _ _ _ _ r τ e1) cl_L_144 rfl ⟨Nat.le_of_ble_eq_true rfl, Nat.le_of_ble_eq_true rfl⟩ rfl rfl rfl (Nat.le_of_ble_eq_true rfl) rfl dL_law_1060 ?_
    refine lx_that dL_law_1063 ?_
    refine lx_sc 1 dL_law_1064 dL_law_1065 dL_law_1066 (by decide) dL_law_1067 dL_law_1068 (lx_in (j := 1) hk hL (by decide)) ?_
    refine lx_sc 2 dL_law_1069 dL_law_1070 dL_law_1071 (by decide) dL_law_1072 dL_law_1073 (lx_in (j := 2) hk hL (by decide)) ?_
    refine lx_sc 3 dL_law_1074 dL_law_1075 dL_law_1076 (by decide) dL_law_1077 dL_law_1078 (lx_in (j := 3) hk hL (by decide)) ?_
    refine lx_sc 4 dL_law_1079 dL_law_1080 dL_law_1081 (by decide) dL_law_1082 dL_law_1083 (lx_in (j := 4) hk hL (by decide)) ?_
    refine lx_i2l dL_law_1084 ?_
    refine lx_bipush 32 dL_law_1085 (by decide) ?_
    refine lx_lshl dL_law_1087 ?_
    refine lx_sc 5 dL_law_1088 dL_law_1089 dL_law_1090 (by decide) dL_law_1091 dL_law_1092 (lx_in (j := 5) hk hL (by decide)) ?_
    refine lx_i2l dL_law_1093 ?_
    refine lx_ldc2 kl_L_142 dL_law_1094 ?_
    refine lx_land dL_law_1097 ?_
    refine lx_lor dL_law_1098 ?_
    refine lx_calli (stk := [.int r]) (wX11_item l _ _ _ _ _ r τ' e2) cl_L_148 rfl ⟨Nat.le_of_ble_eq_true rfl, Nat.le_of_ble_eq_true rfl⟩ rfl rfl rfl (Nat.le_of_ble_eq_true rfl) rfl dL_law_1099 ?_
    exact lx_eq 1170 dL_law_1102 (by decide) (fin τ' e3)
  by_cases c32 : v = 32
  · refine lx_tabIn 1074 1107 dL_law_33 c32 (by decide) (by decide) (by decide) (by decide) ?_
    refine lx_this dL_law_1107 ?_
    refine lx_sc 1 dL_law_1108 dL_law_1109 dL_law_1110 (by decide) dL_law_1111 dL_law_1112 (lx_in (j := 1) hk hL (by decide)) ?_
    refine lx_sc 2 dL_law_1113 dL_law_1114 dL_law_1115 (by decide) dL_law_1116 dL_law_1117 (lx_in (j := 2) hk hL (by decide)) ?_
    refine lx_sc 3 dL_law_1118 dL_law_1119 dL_law_1120 (by decide) dL_law_1121 dL_law_1122 (lx_in (j := 3) hk hL (by decide)) ?_
    refine lx_sc 4 dL_law_1123 dL_law_1124 dL_law_1125 (by decide) dL_law_1126 dL_law_1127 (lx_in (j := 4) hk hL (by decide)) ?_
    refine lx_sc 5 dL_law_1128 dL_law_1129 dL_law_1130 (by decide) dL_law_1131 dL_law_1132 (lx_in (j := 5) hk hL (by decide)) ?_
    obtain ⟨r, τ, τ', e1, e2, e3⟩ := h_copy k σ (xs (nI (6 * k) + 1).toNatClampNeg) (xs (nI (6 * k) + 2).toNatClampNeg) (xs (nI (6 * k) + 3).toNatClampNeg) (xs (nI (6 * k) + 4).toNatClampNeg) (xs (nI (6 * k) + 5).toNatClampNeg) hk5 hσ
    refine lx_calli (stk := []) (wX10_copy l _ _ _ _ _ _ r τ e1) cl_L_149 rfl ⟨Nat.le_of_ble_eq_true rfl, Nat.le_of_ble_eq_true rfl⟩ rfl rfl rfl (Nat.le_of_ble_eq_true rfl) rfl dL_law_1133 ?_
    refine lx_that dL_law_1136 ?_
    refine lx_sc 1 dL_law_1137 dL_law_1138 dL_law_1139 (by decide) dL_law_1140 dL_law_1141 (lx_in (j := 1) hk hL (by decide)) ?_
    refine lx_sc 2 dL_law_1142 dL_law_1143 dL_law_1144 (by decide) dL_law_1145 dL_law_1146 (lx_in (j := 2) hk hL (by decide)) ?_
    refine lx_sc 3 dL_law_1147 dL_law_1148 dL_law_1149 (by decide) dL_law_1150 dL_law_1151 (lx_in (j := 3) hk hL (by decide)) ?_
    refine lx_sc 4 dL_law_1152 dL_law_1153 dL_law_1154 (by decide) dL_law_1155 dL_law_1156 (lx_in (j := 4) hk hL (by decide)) ?_
    refine lx_sc 5 dL_law_1157 dL_law_1158 dL_law_1159 (by decide) dL_law_1160 dL_law_1161 (lx_in (j := 5) hk hL (by decide)) ?_
    refine lx_calli (stk := [.int r]) (wX11_copy l _ _ _ _ _ _ r τ' e2) cl_L_153 rfl ⟨Nat.le_of_ble_eq_true rfl, Nat.le_of_ble_eq_true rfl⟩ rfl rfl rfl (Nat.le_of_ble_eq_true rfl) rfl dL_law_1162 ?_
    exact lx_eq 1170 dL_law_1165 (by decide) (fin τ' e3)
  exact lx_tabOut 1170 dL_law_33 (fun j hj => by rcases (show j = 0 ∨ j = 1 ∨ j = 2 ∨ j = 3 ∨ j = 4 ∨ j = 5 ∨ j = 6 ∨ j = 7 ∨ j = 8 ∨ j = 9 ∨ j = 10 ∨ j = 11 ∨ j = 12 ∨ j = 13 ∨ j = 14 ∨ j = 15 ∨ j = 16 ∨ j = 17 ∨ j = 18 ∨ j = 19 ∨ j = 20 ∨ j = 21 ∨ j = 22 ∨ j = 23 ∨ j = 24 ∨ j = 25 ∨ j = 26 ∨ j = 27 ∨ j = 28 ∨ j = 29 ∨ j = 30 ∨ j = 31 ∨ j = 32 by omega) with rfl | rfl | rfl | rfl | rfl | rfl | rfl | rfl | rfl | rfl | rfl | rfl | rfl | rfl | rfl | rfl | rfl | rfl | rfl | rfl | rfl | rfl | rfl | rfl | rfl | rfl | rfl | rfl | rfl | rfl | rfl | rfl | rfl <;> assumption) (by decide) (fin σ (hskip k σ hσ))
set_option maxRecDepth 100000 in
set_option maxHeartbeats 4000000 in
theorem lx_loop {I : Nat → mx_G → Prop} (hI : pv_All I) {l : Launch} {b L : Nat} {xs : Nat → Int32} (hL : L ≤ 3072) : ∀ (n k : Nat) (σ : mx_G), L + 1 ≤ 6 * k + n → 6 * k ≤ L → I k σ → lx l b L xs 18 (nI (6 * k)) [] σ := by
  intro n
  induction n using Nat.strongRecOn with
  | ind n ih =>
    intro k σ hn hkL hσ
    by_cases hk : 6 * k + 6 ≤ L
    · intro p e s m below meth c dC dI cT ad H locs ls C0 hE hK hP hD hS hl
      obtain ⟨hx, hb, hr, hml, hown, hts, hX, hbl, hlocks, hgv⟩ := id C0
      refine lv_iload_n hx hb dL_law_18 rfl (lv_at hl 3 rfl) ?_
      refine lv_aload_n hx hb dL_law_19 rfl (lv_at hl 0 rfl) ?_
      refine va_slen hx hb hX hbl (Nat.not_le.mpr hbl) hS dL_law_20 ?_
      refine lv_bipush (v := 6) hx hb dL_law_21 (by decide) ?_
      refine lv_isub hx hb dL_law_23 ?_
      have e6 : Int32.ofNat L - 6 = nI (L - 6) := pk_sub (a := L) (b := 6) (by omega)
      rw [e6]
      refine lv_icmp_gt (tgt := 1176) hx hb dL_law_24 (by decide) (fun c0 => ?_) (fun _ => ?_)
      · exact absurd c0 (nI_nlt (by omega) (by omega))
      · have K : lx l b L xs 27 (nI (6 * k)) [] σ := by
          refine lx_sc0 dL_law_27 dL_law_28 dL_law_29 (vp_in_nI (by omega) (by omega)) ?_
          refine lx_bipush 63 dL_law_30 (by decide) ?_
          refine lx_iand dL_law_32 ?_
          exact lx_case hI hL hk hσ (fun τ hτ => ih (n - 6) (by omega) (k + 1) τ (by omega) (by omega) hτ) _
        exact K p e s m below meth c dC dI cT ad H locs ls C0 hE hK hP hD hS hl
    · intro p e s m below meth c dC dI cT ad H locs ls C0 hE hK hP hD hS hl
      obtain ⟨hx, hb, hr, hml, hown, hts, hX, hbl, hlocks, hgv⟩ := id C0
      refine lv_iload_n hx hb dL_law_18 rfl (lv_at hl 3 rfl) ?_
      refine lv_aload_n hx hb dL_law_19 rfl (lv_at hl 0 rfl) ?_
      refine va_slen hx hb hX hbl (Nat.not_le.mpr hbl) hS dL_law_20 ?_
      refine lv_bipush (v := 6) hx hb dL_law_21 (by decide) ?_
      refine lv_isub hx hb dL_law_23 ?_
      refine lv_icmp_gt (tgt := 1176) hx hb dL_law_24 (by decide) (fun _ => ?_) (fun c0 => ?_)
      · refine lv_iconst (v := 1) hx hb dL_law_1176 (by decide) ?_
        refine va_forget (fun q hq => hS.2.2 q hq) ?_
        refine W.widen (k := 600000) (n := 7302250) (Nat.le_of_ble_eq_true rfl) (Nat.le_of_ble_eq_true rfl) ?_
        exact lw_ret hx hb hr hlocks dL_law_1177
      · exfalso
        apply c0
        have hkb : 6 * k < 2 ^ 31 := by omega
        rw [Int32.lt_iff_toInt_lt, nI_toInt hkb, show (Int32.ofNat L - 6).toInt = (L : Int) - 6 from pk_sub_toInt (a := L) (b := 6) (by omega) (by decide)]
        omega
theorem il_0 : Cond.instantiable RX0 5 ∈ mx_T := mx_in 132 (by decide +kernel) (by decide +kernel)
theorem il_1 : Cond.instantiable RX1 3 ∈ mx_T := mx_in 251 (by decide +kernel) (by decide +kernel)
theorem il_2 : Cond.instantiable RX3 3 ∈ mx_T := mx_in 116 (by decide +kernel) (by decide +kernel)
theorem il_3 : Cond.instantiable RX4 4 ∈ mx_T := mx_in 232 (by decide +kernel) (by decide +kernel)
theorem il_4 : Cond.instantiable RX5 9 ∈ mx_T := mx_in 194 (by decide +kernel) (by decide +kernel)
theorem il_5 : Cond.instantiable RX6 3 ∈ mx_T := mx_in 304 (by decide +kernel) (by decide +kernel)
theorem il_6 : Cond.instantiable RX7 9 ∈ mx_T := mx_in 269 (by decide +kernel) (by decide +kernel)
theorem il_7 : Cond.instantiable RX8 11 ∈ mx_T := mx_in 154 (by decide +kernel) (by decide +kernel)
theorem il_8 : Cond.instantiable RX9 1 ∈ mx_T := mx_in 103 (by decide +kernel) (by decide +kernel)
theorem il_9 : Cond.instantiable RX10 13 ∈ mx_T := mx_in 95 (by decide +kernel) (by decide +kernel)
theorem il_10 : Cond.instantiable RX11 28 ∈ mx_T := mx_in 1058 (by decide +kernel) (by decide +kernel)
theorem lw_T {w : Cond} (h : w ∈ mx_T) : w ∈ lw_tbl := (List.mem_filter.mp h).1
/-- a constructor's call in the law -/
theorem lw_new {l : Launch} {p : Program} {e : Env} {s : State} {m : MethodId} {below : List Frame} {meth : Method} {c : Code} {b L : Nat} {xs : Nat → Int32} (C0 : lw_At p s m meth c b L xs) {dC : Nat → ClassId} {dI : Nat → Nat → Nat} {cT : FieldType → ClassId} {ad : Nat → Nat} {H : Heap} {locs : List Loc} {ls : Array Slot} {h h' : List mx_C} {rest : List Value} {y : MethodName} {ccy : ByteArray} {nLy index dy i mc ms kc ks pc : Nat} (M : mx_M l y ccy nLy none dy [.ref i] h none h' mc ms) (Cw : mx_CI RL index y ccy nLy 0) (hR : dy + 1 ≤ 2048 ∧ 40 * dy + 40 ≤ 84000 ∧ kc + mc ≤ 600000 ∧ ks + ms ≤ 7302250) (hw8 : (rest.map fun v => v.category).sum ≤ 8) (hE : mx_E0 s (lx_A s)) (hK : va_K (dC, dI) vwCl (mx_tys cT) s) (hP : va_P (dC, dI) vwCl (mx_w cT ad h) H) (hD : va_D (lx_A s) (mx_w cT ad h)) (hS : va_S (lx_A s) s.heap H locs) (hz : ls.size = 4) (dd : decode code pc = .ok (.invokespecial index, 3))
    (k : ∀ (u : Nat → Nat) (H1 : Heap) (locs1 : List Loc), (∀ j : Nat, j < h.length → u j = ad j) → va_P (dC, dI) vwCl (mx_w cT u h') H1 → va_D (lx_A s) (mx_w cT u h') → va_S (lx_A s) s.heap H1 locs1 → W p l e room_1 s m #[Value.ref b] below meth c H1 locs1 (kc + mc) (ks + ms) (lw_Z below #[Value.ref b] s) (F0 m (pc + 3) ls rest)) : W p l e room_1 s m #[Value.ref b] below meth c H locs kc ks (lw_Z below #[Value.ref b] s) (F0 m pc ls (.ref (ad i) :: rest)) := by
  obtain ⟨hx, hb, hr, hml, hown, hts, hX, hbl, hlocks, hgv⟩ := id C0
  have htm : ∀ w ∈ mx_T, w.before #[Value.ref b] s = true := fun w hw => hts w (List.mem_filter.mp hw).1
  obtain ⟨hF, hpre⟩ := mx_pre (args := [.ref i]) hE hK (fun q h => h) hP hD hS
  obtain ⟨w1, w2, w4, w5, w6, w7, w8⟩ := Cw
  refine va_callv (va_runI (As := []) (rest := rest) ⟨hx, hb, hml, hown, htm⟩ (M dC dI cT ad H.size) (cwI 0 htm (mx_good w5) rfl rfl rfl (htm _ w4) (htm _ w1) (htm _ w2) w8 w6 ⟨hR.1, by have := hR.2.1; show 8 + (nLy + 11) + 40 * dy ≤ 84000; omega⟩) ⟨mx_blind, hpre⟩ rfl rfl hz rfl (lv_room hw8) dd ⟨hR.2.2.1, hR.2.2.2⟩) hS (fun q _ h => hF q h) hF (fun u t H1 locs1 ht hvm hw hB1 hz1 hk1 hS1 => ?_)
  obtain ⟨hP1, hD1⟩ := hB1
  rw [ht] at hP1
  exact k u H1 locs1 hw hP1 (hD1.weaken (fun _ q _ hq => hF q.1 hq)) hS1
theorem lw_tens {s : State} {b : Nat} (hts : ∀ w ∈ lw_tbl, w.before #[Value.ref b] s = true) (hgv : (Jvm.Cond.and given_1 narrow_1).before #[Value.ref b] s = true) : mx_E0 s (lx_A s) := by
  have hs := flat_of_before _ hgv
  have hA : ∀ a : Nat, a < s.heap.size → ¬ lx_A s a := fun a ha h => absurd ha (Nat.not_lt.mpr h)
  have harr : (Cond.arrayOf (.static "PolicyRoutes$Odds" "TENS" "[J") .long).before #[Value.ref b] s = true := hs _ (by decide +kernel)
  have hlen : (Cond.eq (.length (.static "PolicyRoutes$Odds" "TENS" "[J")) (.int 16)).before #[Value.ref b] s = true := hs _ (by decide +kernel)
  obtain ⟨t, ht, hT⟩ := va_Tof (N := 16) (f := mx_pow) (A := lx_A s) (by decide) harr (va_eqt hlen) (fun j hj => by
    have hh : (Cond.eq (.elem (.static "PolicyRoutes$Odds" "TENS" "[J") (.int (Int32.ofNat j))) (.long (Int64.ofNat (10 ^ j)))).before #[Value.ref b] s = true := by
      rcases (show j = 0 ∨ j = 1 ∨ j = 2 ∨ j = 3 ∨ j = 4 ∨ j = 5 ∨ j = 6 ∨ j = 7 ∨ j = 8 ∨ j = 9 ∨ j = 10 ∨ j = 11 ∨ j = 12 ∨ j = 13 ∨ j = 14 ∨ j = 15 by omega) with rfl | rfl | rfl | rfl | rfl | rfl | rfl | rfl | rfl | rfl | rfl | rfl | rfl | rfl | rfl | rfl <;> exact hs _ (by decide +kernel)
    exact va_eqtl hh) hA
  refine ⟨fun q hq => ?_, t, va_Zref (hts _ (List.mem_of_getElem? (i := 908) (by decide +kernel))) (hts _ (List.mem_of_getElem? (i := 93) (by decide +kernel))) ht hA, hT⟩
  have hm : ∀ q ∈ mx_nestL, (Cond.methodLinkNest q.1 q.2.1 q.2.2.1 q.2.2.2) ∈ lw_tbl := by
    intro q hq
    simp only [mx_nestL, List.mem_cons, List.not_mem_nil, or_false] at hq
    rcases hq with rfl | rfl | rfl | rfl | rfl | rfl | rfl | rfl | rfl | rfl
    · exact List.mem_of_getElem? (i := 117) (by decide +kernel)
    · exact List.mem_of_getElem? (i := 133) (by decide +kernel)
    · exact List.mem_of_getElem? (i := 155) (by decide +kernel)
    · exact List.mem_of_getElem? (i := 195) (by decide +kernel)
    · exact List.mem_of_getElem? (i := 233) (by decide +kernel)
    · exact List.mem_of_getElem? (i := 252) (by decide +kernel)
    · exact List.mem_of_getElem? (i := 270) (by decide +kernel)
    · exact List.mem_of_getElem? (i := 305) (by decide +kernel)
    · exact List.mem_of_getElem? (i := 567) (by decide +kernel)
    · exact List.mem_of_getElem? (i := 896) (by decide +kernel)
  exact va_Nw.of rfl (hts _ (hm q hq))
theorem lw_arr {s : State} {b : Nat} {ty : FieldType} (h : (Cond.arrayClass ty).before #[Value.ref b] s = true) (hp : ∀ C, ty ≠ .object C) : ∃ cA : ClassId, ArrOfT s cA ty ∧ va_RA s cA ty := by
  obtain ⟨cA, kA, comp, h1, h2, h3⟩ := Cond.arrayClass_spec h
  refine ⟨cA, fun n z => ⟨fun k h => (by cases h), kA, h2, comp, h3⟩, ?_⟩
  cases ty with
  | object C => exact absurd rfl (hp C)
  | _ => exact h1
set_option maxHeartbeats 4000000 in
set_option maxRecDepth 100000 in
theorem whole_open {I : Nat → mx_G → Prop} (hI : pv_All I) (h0 : I 0 sg_0) {p : Program} {e : Env} {s : State} {m : MethodId} {below : List Frame} {meth : Method} {c : Code} (l : Launch) {b L : Nat} {xs : Nat → Int32} (hL : L ≤ 3072) (C0 : lw_At p s m meth c b L xs) : W p l e room_1 s m #[Value.ref b] below meth c s.heap [] 0 0 (lw_Z below #[Value.ref b] s) (entryFrame m ([Value.ref b] : List Value).toArray 4) := by
  obtain ⟨hx, hb, hr, hml, hown, hts, hX, hbl, hlocks, hgv⟩ := id C0
  have hE := lw_tens hts hgv
  have hA : ∀ q : Nat, s.heap.size ≤ q → lx_A s q := fun _ h => h
  obtain ⟨c0, iS0, hKn0⟩ := u_known (C := RX0) (T := TX0) (N := 5) (n := 5) hts (fun w hw => lw_T (uX0 w hw)) (hts _ (lw_T il_0))
  obtain ⟨c1, iS1, hKn1⟩ := u_known (C := RX1) (T := TX1) (N := 3) (n := 3) hts (fun w hw => lw_T (uX1 w hw)) (hts _ (lw_T il_1))
  obtain ⟨c2, iS2, hKn2⟩ := u_known (C := RX3) (T := TX3) (N := 3) (n := 3) hts (fun w hw => lw_T (uX3 w hw)) (hts _ (lw_T il_2))
  obtain ⟨c3, iS3, hKn3⟩ := u_known (C := RX4) (T := TX4) (N := 4) (n := 4) hts (fun w hw => lw_T (uX4 w hw)) (hts _ (lw_T il_3))
  obtain ⟨c4, iS4, hKn4⟩ := u_known (C := RX5) (T := TX5) (N := 9) (n := 9) hts (fun w hw => lw_T (uX5 w hw)) (hts _ (lw_T il_4))
  obtain ⟨c5, iS5, hKn5⟩ := u_known (C := RX6) (T := TX6) (N := 3) (n := 3) hts (fun w hw => lw_T (uX6 w hw)) (hts _ (lw_T il_5))
  obtain ⟨c6, iS6, hKn6⟩ := u_known (C := RX7) (T := TX7) (N := 9) (n := 9) hts (fun w hw => lw_T (uX7 w hw)) (hts _ (lw_T il_6))
  obtain ⟨c7, iS7, hKn7⟩ := u_known (C := RX8) (T := TX8) (N := 11) (n := 11) hts (fun w hw => lw_T (uX8 w hw)) (hts _ (lw_T il_7))
  obtain ⟨c8, iS8, hKn8⟩ := u_known (C := RX9) (T := TX9) (N := 1) (n := 1) hts (fun w hw => lw_T (uX9 w hw)) (hts _ (lw_T il_8))
  obtain ⟨c9, iS9, hKn9⟩ := u_known (C := RX10) (T := TX10) (N := 13) (n := 13) hts (fun w hw => lw_T (uX10 w hw)) (hts _ (lw_T il_9))
  obtain ⟨c10, iS10, hKn10⟩ := u_known (C := RX11) (T := TX11) (N := 28) (n := 28) hts (fun w hw => lw_T (uX11 w hw)) (hts _ (lw_T il_10))
  obtain ⟨dC, dI, hKc⟩ : ∃ (dC : Nat → ClassId) (dI : Nat → Nat → Nat), ∀ (k : Nat) (q : vw_C), vwCl[k]? = some q → u_Kn s q.1 q.2.1 q.2.2 (dC k) (dI k) := by
    refine ⟨fun k => if k = 0 then c0 else if k = 1 then c1 else if k = 2 then c2 else if k = 3 then c3 else if k = 4 then c4 else if k = 5 then c5 else if k = 6 then c6 else if k = 7 then c7 else if k = 8 then c8 else if k = 9 then c9 else c10, fun k => if k = 0 then iS0 else if k = 1 then iS1 else if k = 2 then iS2 else if k = 3 then iS3 else if k = 4 then iS4 else if k = 5 then iS5 else if k = 6 then iS6 else if k = 7 then iS7 else if k = 8 then iS8 else if k = 9 then iS9 else iS10, ?_⟩
    intro k q hq
    match k, hq with
    | 0, hq => cases hq; exact hKn0
    | 1, hq => cases hq; exact hKn1
    | 2, hq => cases hq; exact hKn2
    | 3, hq => cases hq; exact hKn3
    | 4, hq => cases hq; exact hKn4
    | 5, hq => cases hq; exact hKn5
    | 6, hq => cases hq; exact hKn6
    | 7, hq => cases hq; exact hKn7
    | 8, hq => cases hq; exact hKn8
    | 9, hq => cases hq; exact hKn9
    | 10, hq => cases hq; exact hKn10
    | k + 11, hq => simp [vwCl] at hq
  obtain ⟨ci, i1, i2⟩ := lw_arr (ty := .int) (hts _ (lw_T al_int)) (fun C h => by cases h)
  obtain ⟨cl, l1, l2⟩ := lw_arr (ty := .long) (hts _ (lw_T al_long)) (fun C h => by cases h)
  obtain ⟨cz, z1, z2⟩ := lw_arr (ty := .boolean) (hts _ (lw_T al_boolean)) (fun C h => by cases h)
  obtain ⟨cT, t1, t2, t3⟩ : ∃ cT : FieldType → ClassId, cT .int = ci ∧ cT .long = cl ∧ cT .boolean = cz := ⟨fun t => match t with | .int => ci | .long => cl | _ => cz, rfl, rfl, rfl⟩
  have hK : va_K (dC, dI) vwCl (mx_tys cT) s := by
    refine ⟨hKc, fun k q h => ?_⟩
    simp only [mx_tys] at h
    match k, h with
    | 0, h => cases h; rw [t1]; exact ⟨i1, i2⟩
    | 1, h => cases h; rw [t2]; exact ⟨l1, l2⟩
    | 2, h => cases h; rw [t3]; exact ⟨z1, z2⟩
    | k + 3, h => simp at h
  have hS : va_S (lx_A s) s.heap s.heap [] := va_S.rf
  have hP : va_P (dC, dI) vwCl [] s.heap := fun k q h => by simp at h
  have hD : va_D (lx_A s) [] := ⟨fun i j p q h => by simp at h, fun k q h => by simp at h⟩
  have hl := lv_entry ([.ref b]) (n := 4) (Nat.le_of_ble_eq_true rfl)
  rw [lg_entry_eq]
  generalize (lg_sl ([.ref b]) ++ List.replicate (4 - (lg_sl ([.ref b])).length) Slot.unset).toArray = ls at hl ⊢
  have hl : lv_has ls 4 [(0, .ref b)] := hl
  have htm : ∀ w ∈ mx_T, w.before #[Value.ref b] s = true := fun w hw => hts w (List.mem_filter.mp hw).1
  obtain ⟨C1, T1, N1, ty1, a1, a2, a3, a4, a5, a6, a7, a8, a9⟩ := nl_L_7
  have e1 : (C1, T1, N1) = (RX10, TX10, 13) := (Option.some.inj (a1.symm.trans (rfl : vwCl[9]? = some (RX10, TX10, 13))))
  cases e1
  refine va_new (ci := 9) (fs := [.null, .null, .null, .null, .int 0, .null, .null, .null, .null, .null, .null, .null, .null]) (C := RX10) (T := TX10) (N := 13) hx hb htm a2 ty1 a3 hown (htm _ a4) (htm _ a5) (htm _ a6) hK hP hD hS hA rfl a7 (Nat.le_of_ble_eq_true rfl) (Nat.le_of_ble_eq_true rfl) dL_law_0 (fun q0 H hP hD hS => ?_)
  have hP : va_P (dC, dI) vwCl (mx_w cT (fun _ => q0) [ob 9 [.null, .null, .null, .null, .int 0, .null, .null, .null, .null, .null, .null, .null, .null]]) H := hP
  have hD : va_D (lx_A s) (mx_w cT (fun _ => q0) [ob 9 [.null, .null, .null, .null, .int 0, .null, .null, .null, .null, .null, .null, .null, .null]]) := hD
  refine lv_dup hx hb dL_law_3 rfl ?_
  refine lw_new (ad := fun _ => q0) (i := 0) (rest := [.ref q0]) C0 (nX10_init_0 l) cl_L_9 ⟨Nat.le_of_ble_eq_true rfl, Nat.le_of_ble_eq_true rfl, Nat.le_of_ble_eq_true rfl, Nat.le_of_ble_eq_true rfl⟩ (Nat.le_of_ble_eq_true rfl) hE hK hP hD hS hl.1 dL_law_4 (fun u H locs hag hP hD hS => ?_)
  have hu0 : q0 = u 0 := (hag 0 (by decide)).symm
  refine lv_astore_n (lv' := [(1, .ref q0), (0, .ref b)]) hx hb dL_law_7 rfl hl (by decide) rfl (fun ls hl => ?_)
  rw [hu0] at hl
  obtain ⟨C2, T2, N2, ty2, b1, b2, b3, b4, b5, b6, b7, b8, b9⟩ := nl_L_10
  have e2 : (C2, T2, N2) = (RX11, TX11, 28) := (Option.some.inj (b1.symm.trans (rfl : vwCl[10]? = some (RX11, TX11, 28))))
  cases e2
  refine va_new (ci := 10) (fs := [.null, .null, .int 0, .null, .null, .int 0, .null, .int 0, .null, .null, .null, .null, .null, .int 0, .null, .null, .null, .null, .null, .null, .null, .null, .null, .null, .int 0, .int 0, .null, .null]) (C := RX11) (T := TX11) (N := 28) hx hb htm b2 ty2 b3 hown (htm _ b4) (htm _ b5) (htm _ b6) hK hP hD hS hA rfl b7 (Nat.le_of_ble_eq_true rfl) (Nat.le_of_ble_eq_true rfl) dL_law_8 (fun q1 H hP hD hS => ?_)
  have hv : ∀ i : Nat, i < 45 → (fun i => if i = 45 then q1 else u i) i = u i := fun i hi => if_neg (Nat.ne_of_lt hi)
  have ew := mx_ext (h := [ob 9 [.ref 1, .ref 3, .ref 5, .ref 7, .int 0, .ref 9, .ref 15, .ref 25, .ref 31, .ref 34, .ref 36, .ref 40, .ref 44], ob 8 [.ref 2], aI 128 ca_14, ob 2 [.ref 4, .int 0, .int 0], zI 768, ob 8 [.ref 6], aI 128 ca_28, ob 2 [.ref 8, .int 0, .int 0], zI 768, ob 0 [.ref 10, .ref 11, .ref 12, .ref 13, .ref 14], zI 6, zI 6, zI 6, zI 6, zI 6, ob 7 [.ref 16, .int 0, .int 0, .ref 17, .ref 18, .ref 19, .ref 20, .ref 21, .ref 22, .ref 23, .ref 24], zI 121, zI 326, zI 326, zI 326, zI 326, zI 326, zI 326, zI 6, zI 390, ob 4 [.int 0, .int 0, .int (-4), .int 0, .ref 26, .ref 27, .ref 28, .ref 29, .ref 30], zL 1956, zL 6, zL 6, zL 6, zL 6, ob 3 [.int 0, .int 0, .ref 32, .ref 33], zI 2117, zI 6, ob 1 [.int (-4), .int (-4), .ref 35], zI 366, ob 6 [.ref 37, .int 0, .int 0, .int 0, .int 0, .int 0, .int 0, .ref 38, .ref 39], zI 80, zI 36, zZ 36, ob 5 [.ref 41, .ref 42, .ref 43], aI 4 ca_32, zI 4, zL 96, zI 6]) (cT := cT) (ad := u) (u := fun i => if i = 45 then q1 else u i) (q := ob 10 [.null, .null, .int 0, .null, .null, .int 0, .null, .int 0, .null, .null, .null, .null, .null, .int 0, .null, .null, .null, .null, .null, .null, .null, .null, .null, .null, .int 0, .int 0, .null, .null]) rfl hv
  have hP : va_P (dC, dI) vwCl (mx_w cT (fun i => if i = 45 then q1 else u i) [ob 9 [.ref 1, .ref 3, .ref 5, .ref 7, .int 0, .ref 9, .ref 15, .ref 25, .ref 31, .ref 34, .ref 36, .ref 40, .ref 44], ob 8 [.ref 2], aI 128 ca_14, ob 2 [.ref 4, .int 0, .int 0], zI 768, ob 8 [.ref 6], aI 128 ca_28, ob 2 [.ref 8, .int 0, .int 0], zI 768, ob 0 [.ref 10, .ref 11, .ref 12, .ref 13, .ref 14], zI 6, zI 6, zI 6, zI 6, zI 6, ob 7 [.ref 16, .int 0, .int 0, .ref 17, .ref 18, .ref 19, .ref 20, .ref 21, .ref 22, .ref 23, .ref 24], zI 121, zI 326, zI 326, zI 326, zI 326, zI 326, zI 326, zI 6, zI 390, ob 4 [.int 0, .int 0, .int (-4), .int 0, .ref 26, .ref 27, .ref 28, .ref 29, .ref 30], zL 1956, zL 6, zL 6, zL 6, zL 6, ob 3 [.int 0, .int 0, .ref 32, .ref 33], zI 2117, zI 6, ob 1 [.int (-4), .int (-4), .ref 35], zI 366, ob 6 [.ref 37, .int 0, .int 0, .int 0, .int 0, .int 0, .int 0, .ref 38, .ref 39], zI 80, zI 36, zZ 36, ob 5 [.ref 41, .ref 42, .ref 43], aI 4 ca_32, zI 4, zL 96, zI 6, ob 10 [.null, .null, .int 0, .null, .null, .int 0, .null, .int 0, .null, .null, .null, .null, .null, .int 0, .null, .null, .null, .null, .null, .null, .null, .null, .null, .null, .int 0, .int 0, .null, .null]]) H := by
    show va_P (dC, dI) vwCl (mx_w cT (fun i => if i = 45 then q1 else u i) ([ob 9 [.ref 1, .ref 3, .ref 5, .ref 7, .int 0, .ref 9, .ref 15, .ref 25, .ref 31, .ref 34, .ref 36, .ref 40, .ref 44], ob 8 [.ref 2], aI 128 ca_14, ob 2 [.ref 4, .int 0, .int 0], zI 768, ob 8 [.ref 6], aI 128 ca_28, ob 2 [.ref 8, .int 0, .int 0], zI 768, ob 0 [.ref 10, .ref 11, .ref 12, .ref 13, .ref 14], zI 6, zI 6, zI 6, zI 6, zI 6, ob 7 [.ref 16, .int 0, .int 0, .ref 17, .ref 18, .ref 19, .ref 20, .ref 21, .ref 22, .ref 23, .ref 24], zI 121, zI 326, zI 326, zI 326, zI 326, zI 326, zI 326, zI 6, zI 390, ob 4 [.int 0, .int 0, .int (-4), .int 0, .ref 26, .ref 27, .ref 28, .ref 29, .ref 30], zL 1956, zL 6, zL 6, zL 6, zL 6, ob 3 [.int 0, .int 0, .ref 32, .ref 33], zI 2117, zI 6, ob 1 [.int (-4), .int (-4), .ref 35], zI 366, ob 6 [.ref 37, .int 0, .int 0, .int 0, .int 0, .int 0, .int 0, .ref 38, .ref 39], zI 80, zI 36, zZ 36, ob 5 [.ref 41, .ref 42, .ref 43], aI 4 ca_32, zI 4, zL 96, zI 6] ++ [ob 10 [.null, .null, .int 0, .null, .null, .int 0, .null, .int 0, .null, .null, .null, .null, .null, .int 0, .null, .null, .null, .null, .null, .null, .null, .null, .null, .null, .int 0, .int 0, .null, .null]])) H
    rw [ew]; exact hP
  have hD : va_D (lx_A s) (mx_w cT (fun i => if i = 45 then q1 else u i) [ob 9 [.ref 1, .ref 3, .ref 5, .ref 7, .int 0, .ref 9, .ref 15, .ref 25, .ref 31, .ref 34, .ref 36, .ref 40, .ref 44], ob 8 [.ref 2], aI 128 ca_14, ob 2 [.ref 4, .int 0, .int 0], zI 768, ob 8 [.ref 6], aI 128 ca_28, ob 2 [.ref 8, .int 0, .int 0], zI 768, ob 0 [.ref 10, .ref 11, .ref 12, .ref 13, .ref 14], zI 6, zI 6, zI 6, zI 6, zI 6, ob 7 [.ref 16, .int 0, .int 0, .ref 17, .ref 18, .ref 19, .ref 20, .ref 21, .ref 22, .ref 23, .ref 24], zI 121, zI 326, zI 326, zI 326, zI 326, zI 326, zI 326, zI 6, zI 390, ob 4 [.int 0, .int 0, .int (-4), .int 0, .ref 26, .ref 27, .ref 28, .ref 29, .ref 30], zL 1956, zL 6, zL 6, zL 6, zL 6, ob 3 [.int 0, .int 0, .ref 32, .ref 33], zI 2117, zI 6, ob 1 [.int (-4), .int (-4), .ref 35], zI 366, ob 6 [.ref 37, .int 0, .int 0, .int 0, .int 0, .int 0, .int 0, .ref 38, .ref 39], zI 80, zI 36, zZ 36, ob 5 [.ref 41, .ref 42, .ref 43], aI 4 ca_32, zI 4, zL 96, zI 6, ob 10 [.null, .null, .int 0, .null, .null, .int 0, .null, .int 0, .null, .null, .null, .null, .null, .int 0, .null, .null, .null, .null, .null, .null, .null, .null, .null, .null, .int 0, .int 0, .null, .null]]) := by
    show va_D (lx_A s) (mx_w cT (fun i => if i = 45 then q1 else u i) ([ob 9 [.ref 1, .ref 3, .ref 5, .ref 7, .int 0, .ref 9, .ref 15, .ref 25, .ref 31, .ref 34, .ref 36, .ref 40, .ref 44], ob 8 [.ref 2], aI 128 ca_14, ob 2 [.ref 4, .int 0, .int 0], zI 768, ob 8 [.ref 6], aI 128 ca_28, ob 2 [.ref 8, .int 0, .int 0], zI 768, ob 0 [.ref 10, .ref 11, .ref 12, .ref 13, .ref 14], zI 6, zI 6, zI 6, zI 6, zI 6, ob 7 [.ref 16, .int 0, .int 0, .ref 17, .ref 18, .ref 19, .ref 20, .ref 21, .ref 22, .ref 23, .ref 24], zI 121, zI 326, zI 326, zI 326, zI 326, zI 326, zI 326, zI 6, zI 390, ob 4 [.int 0, .int 0, .int (-4), .int 0, .ref 26, .ref 27, .ref 28, .ref 29, .ref 30], zL 1956, zL 6, zL 6, zL 6, zL 6, ob 3 [.int 0, .int 0, .ref 32, .ref 33], zI 2117, zI 6, ob 1 [.int (-4), .int (-4), .ref 35], zI 366, ob 6 [.ref 37, .int 0, .int 0, .int 0, .int 0, .int 0, .int 0, .ref 38, .ref 39], zI 80, zI 36, zZ 36, ob 5 [.ref 41, .ref 42, .ref 43], aI 4 ca_32, zI 4, zL 96, zI 6] ++ [ob 10 [.null, .null, .int 0, .null, .null, .int 0, .null, .int 0, .null, .null, .null, .null, .null, .int 0, .null, .null, .null, .null, .null, .null, .null, .null, .null, .null, .int 0, .int 0, .null, .null]]))
    rw [ew]; exact hD
  refine lv_dup hx hb dL_law_11 rfl ?_
  refine lw_new (ad := fun i => if i = 45 then q1 else u i) (i := 45) (rest := [.ref q1]) C0 (nX11_init_45 l) cl_L_12 ⟨Nat.le_of_ble_eq_true rfl, Nat.le_of_ble_eq_true rfl, Nat.le_of_ble_eq_true rfl, Nat.le_of_ble_eq_true rfl⟩ (Nat.le_of_ble_eq_true rfl) hE hK hP hD hS hl.1 dL_law_12 (fun w H locs hag hP hD hS => ?_)
  have hw0 : u 0 = w 0 := (hag 0 (by decide)).symm
  have hw1 : q1 = w 45 := (hag 45 (by decide)).symm
  rw [hw0] at hl
  refine lv_astore_n (lv' := [(2, .ref q1), (1, .ref (w 0)), (0, .ref b)]) hx hb dL_law_15 rfl hl (by decide) rfl (fun ls hl => ?_)
  rw [hw1] at hl
  refine lv_iconst (v := 0) hx hb dL_law_16 (by decide) ?_
  refine lv_istore_n (lv' := [(3, .int 0), (2, .ref (w 45)), (1, .ref (w 0)), (0, .ref b)]) hx hb dL_law_17 rfl hl (by decide) rfl (fun ls hl => ?_)
  rw [← sg_0_h] at hP hD
  have K := lx_loop hI (l := l) (b := b) (xs := xs) hL (L + 1) 0 sg_0 (by omega) (by omega) h0
  exact K p e s m below meth c dC dI cT w H locs ls C0 hE hK hP hD hS (lv_sub hl [3, 2, 1, 0] rfl)
