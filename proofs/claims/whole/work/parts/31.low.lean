/-! PURE PART: the lowest bits with their sign -/
theorem lshl_bv (v : Int64) (y : Int32) (k : Nat) (hk : ((y.toInt64 &&& 63).toBitVec.smod 64).toNat = k) : (mv_lshl v y).toBitVec = v.toBitVec <<< k := by
  unfold mv_lshl
  rw [Int64.toBitVec_shiftLeft, BitVec.shiftLeft_eq', hk]
theorem lshr_bv (v : Int64) (y : Int32) (k : Nat) (hk : ((y.toInt64 &&& 63).toBitVec.smod 64).toNat = k) : (mv_lshr v y).toBitVec = v.toBitVec.sshiftRight k := by
  unfold mv_lshr
  rw [Int64.toBitVec_shiftRight, BitVec.sshiftRight_eq', hk]
theorem bv_low (x : BitVec 64) (k s : Nat) (hk : 0 < k) (hs : k + s = 64) : (x <<< s).sshiftRight s = (x.setWidth k).signExtend 64 := by
  apply BitVec.eq_of_getLsbD_eq
  intro i hi
  rw [BitVec.getLsbD_sshiftRight, BitVec.getLsbD_signExtend]
  simp only [hi, decide_true, Bool.true_and, Nat.not_le.mpr hi, decide_false, Bool.not_false]
  by_cases h : i < k
  · rw [if_pos (by omega), if_pos h, BitVec.getLsbD_shiftLeft, BitVec.getLsbD_setWidth]
    simp [h, show s + i < 64 by omega]
  · rw [if_neg (by omega), if_neg h, BitVec.msb_eq_getLsbD_last, BitVec.msb_eq_getLsbD_last, BitVec.getLsbD_shiftLeft, BitVec.getLsbD_setWidth]
    simp [show k - 1 < k by omega, show ¬ 63 < s by omega, show 63 - s = k - 1 by omega]
theorem bv_two (x : BitVec 64) (k : Nat) (hk : 0 < k) (hk2 : k ≤ 32) : (((x.setWidth 32).setWidth k).signExtend 32).signExtend 64 = (x.setWidth k).signExtend 64 := by
  apply BitVec.eq_of_getLsbD_eq
  intro i hi
  simp only [BitVec.getLsbD_signExtend, BitVec.msb_eq_getLsbD_last, BitVec.getLsbD_setWidth]
  by_cases h : i < 32
  · by_cases h2 : i < k
    · simp [h, h2, hi]
    · simp [h, h2, hi, show k - 1 < k by omega, show k - 1 < 32 by omega]
  · have h2 : ¬ i < k := by omega
    by_cases h3 : 31 < k
    · have : k = 32 := by omega
      subst this
      simp [h, hi]
    · simp [h, h2, hi, h3, show k - 1 < k by omega, show k - 1 < 32 by omega]
theorem low32 (v : Int64) : Int32.toInt64 (Int64.toInt32 v) = mv_lshr (mv_lshl v 32) 32 := by
  apply Int64.toBitVec_inj.mp
  rw [lshr_bv _ 32 32 (by decide), lshl_bv _ 32 32 (by decide), bv_low _ 32 32 (by omega) (by omega), Int32.toBitVec_toInt64, Int64.toBitVec_toInt32, BitVec.signExtend_eq_setWidth_of_le (w := 64) _ (show 32 ≤ 64 by omega)]
theorem low16 (v : Int64) : Int32.toInt64 (Int16.toInt32 (Int32.toInt16 (Int64.toInt32 v))) = mv_lshr (mv_lshl v 48) 48 := by
  apply Int64.toBitVec_inj.mp
  rw [lshr_bv _ 48 48 (by decide), lshl_bv _ 48 48 (by decide), bv_low _ 16 48 (by omega) (by omega), Int32.toBitVec_toInt64, Int16.toBitVec_toInt32, Int32.toBitVec_toInt16, Int64.toBitVec_toInt32, BitVec.signExtend_eq_setWidth_of_le (w := 64) _ (show 32 ≤ 64 by omega), BitVec.signExtend_eq_setWidth_of_le (w := 32) _ (show 16 ≤ 32 by omega), bv_two _ 16 (by omega) (by omega)]
theorem low8 (v : Int64) : Int32.toInt64 (Int8.toInt32 (Int32.toInt8 (Int64.toInt32 v))) = mv_lshr (mv_lshl v 56) 56 := by
  apply Int64.toBitVec_inj.mp
  rw [lshr_bv _ 56 56 (by decide), lshl_bv _ 56 56 (by decide), bv_low _ 8 56 (by omega) (by omega), Int32.toBitVec_toInt64, Int8.toBitVec_toInt32, Int32.toBitVec_toInt8, Int64.toBitVec_toInt32, BitVec.signExtend_eq_setWidth_of_le (w := 64) _ (show 32 ≤ 64 by omega), BitVec.signExtend_eq_setWidth_of_le (w := 32) _ (show 8 ≤ 32 by omega), bv_two _ 8 (by omega) (by omega)]
theorem narrow_low {l : Nat} (hl : l ≤ 3) (v : Int64) : ∃ w : Int64, (∀ s, fX6_narrowed (nI l) v s = some (w, s)) ∧ ∀ s, fX11_lowest v (nI l) s = some (w, s) := by
  unfold fX6_narrowed fX11_lowest
  rcases (show l = 0 ∨ l = 1 ∨ l = 2 ∨ l = 3 by omega) with rfl | rfl | rfl | rfl
  · exact ⟨_, fun s => by rw [if_pos (show nI 0 = 0 from rfl), low8], fun s => by rw [if_pos (show nI 0 = 0 from rfl)]⟩
  · exact ⟨_, fun s => by rw [if_neg (by decide), if_pos (show nI 1 = 1 from rfl), low16], fun s => by rw [if_neg (by decide), if_pos (show nI 1 = 1 from rfl)]⟩
  · exact ⟨_, fun s => by rw [if_neg (by decide), if_neg (by decide), if_pos (show nI 2 = 2 from rfl), low32], fun s => by rw [if_neg (by decide), if_neg (by decide), if_pos (show nI 2 = 2 from rfl)]⟩
  · exact ⟨v, fun s => by rw [if_neg (by decide), if_neg (by decide), if_neg (by decide)], fun s => by rw [if_neg (by decide), if_neg (by decide), if_neg (by decide)]⟩
section ACT
variable {IC : Nat → mx_G → Prop}
theorem sm_isSheet (p q : Int32) (a b : Bool) (h1 : ∀ σ : mx_G, fX11_in (Int32.toInt64 p) 0 3 σ = some (if a then 1 else 0, σ)) (h2 : ∀ σ : mx_G, fX11_in (Int32.toInt64 q) 0 3 σ = some (if b then 1 else 0, σ)) (σ : mx_G) : fX11_isSheet p q σ = some (if a && b then 1 else 0, σ) := by
  unfold fX11_isSheet
  rw [h1 σ, bd_some]
  cases a with
  | false => rfl
  | true =>
    rw [if_neg (by decide), h2 σ, bd_some]
    cases b with
    | false => rfl
    | true => rfl
theorem ok_item (hC : ICok IC) : pv_item (Inv IC) := by
  intro k σ p1 p2 p3 p4 hk h
  unfold fX10_item fX11_item
  rcases sh_cases p1 with ⟨s, hs, rfl, x1, m1⟩ | ⟨x1, m1⟩
  · rcases ln_cases p2 with ⟨l, hl, rfl, x2, m2⟩ | ⟨x2, m2⟩
    · obtain ⟨r, g1, -, g3⟩ := ref_found (τ := σ) h.2.2.2.2.1 (m := 1) p3 hs hl (by omega) rfl rfl
      have g1 : fX6_refusal (nI s) (nI l) p3 1 σ = some (r, σ) := g1
      have ms := fun τ => sm_isSheet (nI s) (nI l) true true m1 m2 τ
      by_cases hr : r = 0
      · obtain ⟨j, n, rfl, hj, hn, a1, a2, a3, a4, a5⟩ := g3 hr
        obtain ⟨w, w1, w2⟩ := narrow_low hl p4
        have g2 : ∀ τ : mx_G, τ.1 51 s = σ.1 51 s → τ.1 52 s = σ.1 52 s → fX11_found (nI s) (nI l) (nI j) 1 τ = some (0, τ) := by
          intro τ e1 e2
          obtain ⟨r', q1, q2, -⟩ := ref_found (τ := τ) h.2.2.2.2.1 (m := 1) (nI j) hs hl (by omega) e1 e2
          have q1 : fX6_refusal (nI s) (nI l) (nI j) 1 σ = some (r', σ) := q1
          rw [g1] at q1
          have : r = r' := congrArg Prod.fst (Option.some.inj q1)
          rw [← this, hr] at q2
          exact q2
        refine ⟨1, gl σ 43 (s * 24 + j) w, gl (gl σ 43 (s * 24 + j) w) 53 (24 * s + j) w, ?_, ?_, ?_⟩
        · rw [g1, bd_some, if_pos hr]
          unfold fX6_setItem
          simp (disch := omega) only [ixT, if_true, clI, a1, w1, bd_some, li_24, muI, adI, mv_let]
        · show mv_bind (fX11_isSheet _ _ _) _ = _
          rw [ms, bd_some, if_neg (by decide), g2 (gl σ 43 (s * 24 + j) w) rfl rfl, bd_some, if_pos rfl, w2, bd_some]
          simp (disch := omega) only [ixT, if_true, clI, li_24, muI, adI, mv_let]
        · refine h.sheets hC (fun p hp => rfl) (fun p hp => ?_) (IS.set h.2.2.2.2.1 hs (fun r hr hrs => ?_) (Or.inr ⟨l, n, hl, hn, a1, a2, a3, a4, fun t ht => ?_⟩))
          · have q : ∀ n : Nat, n ∈ [43, 53] → ¬ p = n := fun n hn z => hp (z ▸ hn)
            simp only [rd_gl, q 43 (by decide), q 53 (by decide), if_false]
          · refine ⟨rfl, rfl, rfl, rfl, fun t ht => ?_⟩
            simp only [rd_gl, Nat.reduceEqDiff, if_true, if_false, updL_rd]
            rw [if_neg (by omega), if_neg (by omega)]
            exact ⟨rfl, rfl⟩
          · simp only [rd_gl, Nat.reduceEqDiff, if_true, if_false, updL_rd]
            by_cases htj : t = j
            · rw [if_pos (by omega), if_pos (by omega)]
            · rw [if_neg (by omega), if_neg (by omega)]; exact a5 t ht
      · refine pv_same hC h r ?_ ?_
        · rw [g1, bd_some, if_neg hr]
        · obtain ⟨r', q1, q2, -⟩ := ref_found (τ := σ) h.2.2.2.2.1 (m := 1) p3 hs hl (by omega) rfl rfl
          have q1 : fX6_refusal (nI s) (nI l) p3 1 σ = some (r', σ) := q1
          rw [g1] at q1
          have e : r = r' := congrArg Prod.fst (Option.some.inj q1)
          have q2 : fX11_found (nI s) (nI l) p3 1 σ = some (r', σ) := q2
          show mv_bind (fX11_isSheet _ _ σ) _ = _
          rw [ms, bd_some, if_neg (by decide), q2, bd_some, ← e, if_neg hr]
    · refine pv_same hC h (-1) ?_ ?_
      · unfold fX6_refusal
        rw [x1 σ, bd_some, if_neg one_ne, x2 σ, bd_some, if_pos rfl, bd_some, if_neg (by decide)]
      · show mv_bind (fX11_isSheet _ _ σ) _ = _
        rw [sm_isSheet (nI s) p2 true false m1 m2 σ, bd_some, if_pos (by decide)]
  · refine pv_same hC h (-1) ?_ ?_
    · unfold fX6_refusal
      rw [x1 σ, bd_some, if_pos rfl, bd_some, if_neg (by decide)]
    · show mv_bind (fX11_isSheet _ _ σ) _ = _
      unfold fX11_isSheet
      rw [m1 σ, bd_some, if_pos rfl, bd_some, if_pos rfl]
end ACT
