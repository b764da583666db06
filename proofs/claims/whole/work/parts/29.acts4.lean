/-! PURE PART: type, undo, image, restore -/
theorem IA.of {σ τ : mx_G} (h : IA σ) (e1 : τ.1 2 = σ.1 2) (e2 : τ.1 46 = σ.1 46) : IA τ := by unfold IA; rw [e1, e2]; exact h
theorem IP.of {σ τ : mx_G} (h : IP σ) (e1 : τ.1 3 = σ.1 3) (e2 : τ.1 4 = σ.1 4) (e3 : τ.1 47 = σ.1 47) (e4 : τ.1 45 2 = σ.1 45 2) : IP τ := by unfold IP; rw [e1, e2, e3, e4]; exact h
theorem II.of {σ τ : mx_G} (h : II σ) (e1 : τ.1 0 = σ.1 0) (e2 : τ.1 6 = σ.1 6) (e3 : τ.1 7 = σ.1 7) (e4 : τ.1 8 = σ.1 8) (e5 : τ.1 48 = σ.1 48) (e6 : τ.1 49 = σ.1 49) (e7 : τ.1 45 5 = σ.1 45 5) : II τ := by unfold II; rw [e1, e2, e3, e4, e5, e6, e7]; exact h
theorem IT.of {σ τ : mx_G} (h : IT σ) (e1 : τ.1 36 1 = σ.1 36 1) (e2 : τ.1 37 = σ.1 37) (e3 : τ.1 50 = σ.1 50) (e4 : τ.1 45 7 = σ.1 45 7) : IT τ := by unfold IT; rw [e1, e2, e3, e4]; exact h
theorem IS.of {σ τ : mx_G} (h : IS σ) (e1 : τ.1 41 = σ.1 41) (e2 : τ.1 42 = σ.1 42) (e3 : τ.1 51 = σ.1 51) (e4 : τ.1 52 = σ.1 52) (e5 : τ.2 43 = σ.2 43) (e6 : τ.2 53 = σ.2 53) : IS τ := by unfold IS; rw [e1, e2, e3, e4, e5, e6]; exact h
theorem PR.congr {sh sh' sm sm' : Nat → Int32} {kn nx ac : Int32} (h1 : ∀ j : Nat, j < 768 → sh' j = sh j) (h2 : ∀ j : Nat, j < 768 → sm' j = sm j) (h : PR sh kn nx sm ac) : PR sh' kn nx sm' ac := by
  obtain ⟨a, x, ha, hx, p1, p2, p3, p4⟩ := h
  refine ⟨a, x, ha, hx, p1, p2, p3, fun i hi => ⟨fun j hj => ?_, WOK.congr (fun j hj => ?_) (p4 i hi).2⟩⟩
  · have := pi_lt hj
    rw [h2 _ (by omega), h1 _ (by omega)]; exact (p4 i hi).1 j hj
  · show sh' _ = sh _
    rw [h1 _ (by omega)]
theorem RW.congr {f f' c c' : Nat → Int32} (h1 : ∀ j : Nat, j < 128 → f' j = f j) (h2 : ∀ j : Nat, j < 128 → c' j = c j) (h : RW f c) : RW f' c' := fun j hj => by rw [h1 j hj, h2 _ (pi_lt hj)]; exact h j hj
section ACT
variable {IC : Nat → mx_G → Prop}
theorem ok_type (hC : ICok IC) : pv_type (Inv IC) := by
  intro k σ p1 hk h
  unfold fX10_type fX11_type
  have hin := fun s => sm_inI p1 (a := 32) (b := 126) (by omega) (by omega) 32 126 (by decide) (by decide) s
  by_cases hr : nI 32 ≤ p1 ∧ p1 ≤ nI 126
  · rcases nI_ex p1 with z | ⟨t, ht, rfl⟩
    · have h1 := hr.1
      rw [Int32.le_iff_toInt_le, nI_toInt (by omega)] at h1
      rw [Int32.lt_iff_toInt_lt] at z
      have : (0 : Int32).toInt = 0 := rfl
      omega
    have h32 : 32 ≤ t := by have := hr.1; rwa [leI (by omega) ht] at this
    have h126 : t ≤ 126 := by have := hr.2; rwa [leI ht (by omega)] at this
    obtain ⟨h1, h2, h3, ⟨m, hm, t1, t2, t3⟩, h5, h6⟩ := h
    by_cases hm8 : m = 80
    · refine pv_same hC ⟨h1, h2, h3, ⟨m, hm, t1, t2, t3⟩, h5, h6⟩ (-3) ?_ ?_
      · simp (disch := omega) only [li_32, li_126, ltI, leI, fX7_append, t1, li_80, hm8]
        rw [if_neg (by omega), if_pos h126, if_neg (by omega)]
        rfl
      · show mv_bind (fX11_in _ 32 126 σ) _ = _
        rw [hin σ, if_pos hr, bd_some, if_neg one_ne, t2, hm8, if_pos (show nI 80 = 80 from rfl)]
    · refine ⟨nI (m + 1), gi (gi σ 37 m (nI t)) 36 1 (nI (m + 1)), gi (gi (gi (gi σ 37 m (nI t)) 36 1 (nI (m + 1))) 50 m (nI t)) 45 7 (nI (m + 1)), ?_, ?_, ?_⟩
      · have e : fX7_append (nI t) σ = some (nI (m + 1), gi (gi σ 37 m (nI t)) 36 1 (nI (m + 1))) := by
          unfold fX7_append
          simp (disch := omega) only [t1, li_80, ltI]
          rw [if_pos (by omega)]
          simp (disch := omega) only [ixT, if_true, mv_let, clI, rd_gi, Nat.reduceEqDiff, if_false, t1, li_1, adI, upd_rd]
        simp (disch := omega) only [li_32, li_126, ltI, leI]
        rw [if_neg (by omega), if_pos h126, e, bd_some]
      · show mv_bind (fX11_in _ 32 126 _) _ = _
        rw [hin _, if_pos hr, bd_some, if_neg one_ne]
        simp (disch := omega) only [rd_gi, Nat.reduceEqDiff, if_false, t2, li_80, eqI, hm8, ixT, if_true, mv_let, clI, li_1, adI, upd_rd]
      · refine ⟨h1.of rfl rfl, h2.of rfl rfl rfl rfl, h3.of rfl rfl rfl rfl rfl rfl rfl, ?_, h5.of rfl rfl rfl rfl rfl rfl, hC k σ _ (fun p g1 g2 => ⟨?_, rfl⟩) h6⟩
        · refine ⟨m + 1, by omega, ?_, ?_, fun j hj => ?_⟩
          · simp only [rd_gi, Nat.reduceEqDiff, if_false, if_true, upd_rd]
          · simp only [rd_gi, Nat.reduceEqDiff, if_false, if_true, upd_rd]
          · simp only [rd_gi, Nat.reduceEqDiff, if_false, if_true, upd_rd]
            by_cases hjm : j = m
            · rw [if_pos hjm, if_pos hjm]
              exact ⟨rfl, t, h32, h126, rfl⟩
            · rw [if_neg hjm, if_neg hjm]
              exact t3 j (by omega)
        · rw [rd_gi, if_neg (by omega), rd_gi, if_neg (by omega), rd_gi, if_neg (by omega), rd_gi, if_neg (by omega)]
  · refine pv_same hC h (-1) ?_ ?_
    · by_cases z : p1 < 32
      · rw [if_pos z]
      · rw [if_neg z, if_neg (fun y : p1 ≤ 126 => hr ⟨Int32.not_lt.mp z, y⟩)]
    · show mv_bind (fX11_in _ 32 126 σ) _ = _
      rw [hin σ, if_neg hr, bd_some, if_pos rfl]
theorem ok_undo (hC : ICok IC) : pv_undo (Inv IC) := by
  intro k σ hk h
  obtain ⟨h1, ⟨a, x, ha, hx, p1, p2, p3, p4⟩, h3, h4, h5, h6⟩ := id h
  unfold fX10_undo fX11_undo
  by_cases ha0 : a = 0
  · subst ha0
    refine pv_same hC h (-4) ?_ ?_
    · unfold fX3_known
      rw [bd_some, p1, ← li_0, if_pos rfl]
    · show (if σ.1 45 2 = 0 then _ else _) = _
      rw [p3, ← li_0, if_pos rfl]
  · refine ⟨nI (a - 1), gs (gi (gi σ 3 1 (nI (a - 1))) 3 2 (nI ((x + 5) % 6))) 2 (va_cpy (σ.1 4) (σ.1 2) ((x + 5) % 6 * 128) 0 128), gs (gi (gs (gi (gi σ 3 1 (nI (a - 1))) 3 2 (nI ((x + 5) % 6))) 2 (va_cpy (σ.1 4) (σ.1 2) ((x + 5) % 6 * 128) 0 128)) 45 2 (nI (a - 1))) 46 (va_cpy (σ.1 47) (σ.1 46) (128 * (a - 1)) 0 128), ?_, ?_, ?_⟩
    · unfold fX3_known fX3_bringBack
      rw [bd_some, p1, if_neg (by rw [li_0, eqI (by omega) (by omega)]; exact ha0), if_neg (by rw [li_0, eqI (by omega) (by omega)]; exact ha0)]
      simp (disch := omega) only [p1, li_1, suI, mv_let, rd_gi, if_true, upd_rd, Nat.reduceEqDiff, if_false, p2, li_6, adI, rmI, li_128, muI, li_0, cpT, clI, bd_some, rd_gs]
      rw [show x + 6 - 1 = x + 5 by omega]
    · show (if (gs _ 2 _).1 45 2 = 0 then _ else _) = _
      have e45 : (gs (gi (gi σ 3 1 (nI (a - 1))) 3 2 (nI ((x + 5) % 6))) 2 (va_cpy (σ.1 4) (σ.1 2) ((x + 5) % 6 * 128) 0 128)).1 45 2 = nI a := by
        simp only [rd_gs, rd_gi, Nat.reduceEqDiff, if_false]; exact p3
      rw [e45, if_neg (by rw [li_0, eqI (by omega) (by omega)]; exact ha0)]
      simp (disch := omega) only [li_1, suI, mv_let, rd_gi, if_true, upd_rd, li_128, li_0, muI, sm_bring_7, bd_some, rd_gs, Nat.reduceEqDiff, if_false]
    · refine ⟨⟨?_, ?_⟩, ?_, h3.of rfl rfl ?_ rfl rfl rfl rfl, h4.of rfl rfl rfl rfl, h5.of rfl rfl rfl rfl rfl rfl, hC k σ _ (fun p g1 g2 => ⟨?_, rfl⟩) h6⟩
      · simp only [rd_gs, rd_gi, Nat.reduceEqDiff, if_false, if_true]
        intro j hj
        have hj2 := pi_lt hj
        rw [cpy_rd, cpy_rd, if_pos (by omega), if_pos (by omega)]
        have := (p4 (a - 1) (by omega)).1 j hj
        rw [show (x + 6 - a + (a - 1)) % 6 = (x + 5) % 6 by omega] at this
        rw [show 128 * (a - 1) + (j - 0) = 128 * (a - 1) + j by omega, this]
        exact congrArg _ (by omega)
      · simp only [rd_gs, rd_gi, Nat.reduceEqDiff, if_false, if_true]
        have := (p4 (a - 1) (by omega)).2
        rw [show (x + 6 - a + (a - 1)) % 6 = (x + 5) % 6 by omega] at this
        refine WOK.congr (fun j hj => ?_) this
        rw [cpy_rd, if_pos (by omega)]
        exact congrArg _ (by omega)
      · unfold IP
        simp only [rd_gs, rd_gi, Nat.reduceEqDiff, if_false, if_true, upd_rd]
        refine ⟨a - 1, (x + 5) % 6, by omega, by omega, rfl, rfl, rfl, fun i hi => ?_⟩
        have := p4 i (by omega)
        rw [show ((x + 5) % 6 + 6 - (a - 1) + i) % 6 = (x + 6 - a + i) % 6 by omega]
        exact this
      · simp only [rd_gs, rd_gi, Nat.reduceEqDiff, if_false, if_true]
      · rw [rd_gs, if_neg (by omega), rd_gi, if_neg (by omega), rd_gs, if_neg (by omega), rd_gi, if_neg (by omega), rd_gi, if_neg (by omega)]
theorem ok_image (hC : ICok IC) : pv_image (Inv IC) := by
  intro k σ hk h
  obtain ⟨h1, h2, h3, h4, h5, h6⟩ := id h
  refine ⟨1, gi (gi (gi (gs (gs σ 6 (va_cpy (σ.1 2) (σ.1 6) 0 0 128)) 8 (va_cpy (σ.1 4) (σ.1 8) 0 0 768)) 7 1 (σ.1 3 1)) 7 2 (σ.1 3 2)) 0 4 1, gi (gs (gs (gi (gi (gi (gs (gs σ 6 (va_cpy (σ.1 2) (σ.1 6) 0 0 128)) 8 (va_cpy (σ.1 4) (σ.1 8) 0 0 768)) 7 1 (σ.1 3 1)) 7 2 (σ.1 3 2)) 0 4 1) 48 (va_cpy (σ.1 46) (σ.1 48) 0 0 128)) 49 (va_cpy (σ.1 47) (σ.1 49) 0 0 768)) 45 5 (σ.1 45 2), ?_, ?_, ?_⟩
  · unfold fX10_image fX9_become fX3_become
    have e1 : cp 0 0 128 128 128 = true := by rw [li_0, li_128]; exact cpT (by omega) (by omega) (by omega) (by omega)
    have e2 : cp 0 0 768 768 768 = true := by rw [li_0, li_768]; exact cpT (by omega) (by omega) (by omega) (by omega)
    rw [if_pos e1]
    simp only [mv_let, bd_some]
    rw [if_pos e2]
    simp only [bd_some]
    rw [if_pos (Or.inr trivial)]
    simp (disch := omega) only [li_0, li_128, li_768, clI, rd_gs, rd_gi, Nat.reduceEqDiff, if_false, if_true]
  · show fX11_image _ = _
    unfold fX11_image
    simp (disch := omega) only [li_0, li_128, li_768, sm_bring_8, bd_some, sm_bring_9, mv_let, rd_gs, rd_gi, Nat.reduceEqDiff, if_false, if_true]
  · refine ⟨h1.of rfl rfl, h2.of rfl rfl rfl rfl, ?_, h4.of rfl rfl rfl rfl, h5.of rfl rfl rfl rfl rfl rfl, hC k σ _ (fun p g1 g2 => ⟨?_, rfl⟩) h6⟩
    · right
      simp only [rd_gs, rd_gi, Nat.reduceEqDiff, if_false, if_true, upd_rd]
      refine ⟨rfl, RW.congr (fun j hj => ?_) (fun j hj => ?_) h1.1, WOK.congr (fun j hj => ?_) h1.2, PR.congr (fun j hj => ?_) (fun j hj => ?_) h2⟩
      · rw [cpy_rd, if_pos (by omega)]; exact congrArg _ (by omega)
      · rw [cpy_rd, if_pos (by omega)]; exact congrArg _ (by omega)
      · rw [cpy_rd, if_pos (by omega)]; exact congrArg _ (by omega)
      · rw [cpy_rd, if_pos (by omega)]; exact congrArg _ (by omega)
      · rw [cpy_rd, if_pos (by omega)]; exact congrArg _ (by omega)
    · have q : ∀ n : Nat, n < 15 ∨ 33 < n → ¬ p = n := by intro n hn; omega
      simp only [rd_gi, rd_gs, q 45 (by omega), q 49 (by omega), q 48 (by omega), q 0 (by omega), q 7 (by omega), q 8 (by omega), q 6 (by omega), if_false]
theorem ok_restore (hC : ICok IC) : pv_restore (Inv IC) := by
  intro k σ hk h
  obtain ⟨h1, h2, h3, h4, h5, h6⟩ := id h
  rcases h3 with ⟨k0, a0⟩ | ⟨k1, r1, r2, r3⟩
  · refine pv_same hC h (-4) ?_ ?_
    · unfold fX10_restore
      rw [k0, ← li_0, if_pos rfl]
    · show fX11_restore _ = _
      unfold fX11_restore
      rw [a0, if_neg (by decide)]
  · refine ⟨1, gi (gi (gs (gs σ 2 (va_cpy (σ.1 6) (σ.1 2) 0 0 128)) 4 (va_cpy (σ.1 8) (σ.1 4) 0 0 768)) 3 1 (σ.1 7 1)) 3 2 (σ.1 7 2), gi (gs (gs (gi (gi (gs (gs σ 2 (va_cpy (σ.1 6) (σ.1 2) 0 0 128)) 4 (va_cpy (σ.1 8) (σ.1 4) 0 0 768)) 3 1 (σ.1 7 1)) 3 2 (σ.1 7 2)) 46 (va_cpy (σ.1 48) (σ.1 46) 0 0 128)) 47 (va_cpy (σ.1 49) (σ.1 47) 0 0 768)) 45 2 (σ.1 45 5), ?_, ?_, ?_⟩
    · unfold fX10_restore fX9_become_1 fX3_become_1
      have e1 : cp 0 0 128 128 128 = true := by rw [li_0, li_128]; exact cpT (by omega) (by omega) (by omega) (by omega)
      have e2 : cp 0 0 768 768 768 = true := by rw [li_0, li_768]; exact cpT (by omega) (by omega) (by omega) (by omega)
      rw [k1, if_neg (by decide), if_pos e1]
      simp only [mv_let, bd_some]
      rw [if_pos e2]
      simp (disch := omega) only [bd_some, li_0, li_128, li_768, clI, rd_gs, rd_gi, Nat.reduceEqDiff, if_false, if_true]
    · show fX11_restore _ = _
      unfold fX11_restore
      have e5 : (gi (gi (gs (gs σ 2 (va_cpy (σ.1 6) (σ.1 2) 0 0 128)) 4 (va_cpy (σ.1 8) (σ.1 4) 0 0 768)) 3 1 (σ.1 7 1)) 3 2 (σ.1 7 2)).1 45 5 = σ.1 45 5 := by
        simp only [rd_gs, rd_gi, Nat.reduceEqDiff, if_false]
      have e6 : 0 ≤ σ.1 45 5 := by
        obtain ⟨a, x, ha, hx, -, -, p3, -⟩ := r3
        rw [p3]; exact nI_pos' (by omega)
      rw [e5, if_pos e6]
      simp (disch := omega) only [li_0, li_128, li_768, sm_bring_10, bd_some, sm_bring_11, mv_let, rd_gs, rd_gi, Nat.reduceEqDiff, if_false, if_true]
    · refine ⟨⟨?_, ?_⟩, ?_, ?_, h4.of rfl rfl rfl rfl, h5.of rfl rfl rfl rfl rfl rfl, hC k σ _ (fun p g1 g2 => ⟨?_, rfl⟩) h6⟩
      · simp only [rd_gs, rd_gi, Nat.reduceEqDiff, if_false, if_true]
        exact RW.congr (fun j hj => by rw [cpy_rd, if_pos (by omega)]; exact congrArg _ (by omega)) (fun j hj => by rw [cpy_rd, if_pos (by omega)]; exact congrArg _ (by omega)) r1
      · simp only [rd_gs, rd_gi, Nat.reduceEqDiff, if_false, if_true]
        exact WOK.congr (fun j hj => by rw [cpy_rd, if_pos (by omega)]; exact congrArg _ (by omega)) r2
      · unfold IP
        simp only [rd_gs, rd_gi, Nat.reduceEqDiff, if_false, if_true, upd_rd]
        exact PR.congr (fun j hj => by rw [cpy_rd, if_pos (by omega)]; exact congrArg _ (by omega)) (fun j hj => by rw [cpy_rd, if_pos (by omega)]; exact congrArg _ (by omega)) r3
      · right
        simp only [rd_gs, rd_gi, Nat.reduceEqDiff, if_false, if_true, upd_rd]
        exact ⟨k1, r1, r2, r3⟩
      · have q : ∀ n : Nat, n < 15 ∨ 33 < n → ¬ p = n := by intro n hn; omega
        simp only [rd_gi, rd_gs, q 45 (by omega), q 47 (by omega), q 46 (by omega), q 3 (by omega), q 4 (by omega), q 2 (by omega), if_false]
end ACT
