/-! PURE PART: the first state -/
theorem in_w : ∀ k : Nat, k < 128 → ca_14 k = (if k = 0 then nI 4 else if k = 127 then nI 1 else if 1 ≤ k ∧ k < 7 then nI 3 else if 122 ≤ k ∧ k < 127 then -4 else nI 0) := by decide +kernel
theorem in_m : ∀ k : Nat, k < 128 → ca_46 k = ca_14 (pi k) := by decide +kernel
theorem in_N : ∀ k : Nat, k < 122 → N ca_14 k = (if k = 0 then 4 else if 1 ≤ k ∧ k < 7 then 3 else 0) := by decide +kernel
theorem in_ok : WOK ca_14 := by
  have h0 := in_N 0 (by omega)
  refine ⟨by rw [h0]; decide, fun k hk => ?_, by decide +kernel, fun d hd => ?_, fun a b ha hb => ?_, by decide +kernel, fun d hd hd6 => ?_⟩
  · rw [in_w k (by omega), in_N k (by omega)]
    by_cases z0 : k = 0
    · rw [if_pos z0, if_pos z0]
    · rw [if_neg z0, if_neg z0, if_neg (by omega)]
      by_cases z1 : 1 ≤ k ∧ k < 7
      · rw [if_pos z1, if_pos z1]
      · rw [if_neg z1, if_neg z1, if_neg (by omega)]
  · rw [in_N _ (by omega), in_N _ (by omega)]
    rw [if_neg (by omega), if_pos (by omega), if_neg (by omega), if_neg (by omega)]
    omega
  · have z : ∀ j, 13 ≤ j → j < 121 → N ca_14 j = 0 := fun j h1 h2 => by rw [in_N j (by omega), if_neg (by omega), if_neg (by omega)]
    rw [z (13 + a * 6 + b) (by omega) (by omega), z (49 + a * 6 + b) (by omega) (by omega), z (85 + a * 6 + b) (by omega) (by omega), z (13 + b * 6 + a) (by omega) (by omega), z (49 + b * 6 + a) (by omega) (by omega)]
    exact ⟨by omega, by omega, by omega, rfl, rfl, fun _ => rfl, fun _ => rfl⟩
  · have e := in_w (121 + d) (by omega)
    rw [if_neg (by omega), if_neg (by omega), if_neg (by omega), if_pos (by omega)] at e
    exact ⟨fun _ => e, fun _ => Or.inl e⟩
theorem in_inv : Inv IC 0 sg_0 := by
  refine ⟨⟨in_m, in_ok⟩, ⟨0, 0, by omega, by omega, rfl, rfl, rfl, fun i hi => absurd hi (by omega)⟩, Or.inl ⟨rfl, rfl⟩, ⟨0, by omega, rfl, rfl, fun j hj => absurd hj (by omega)⟩, fun s hs => Or.inl ?_, ?_⟩
  · rcases (show s = 0 ∨ s = 1 ∨ s = 2 ∨ s = 3 by omega) with rfl | rfl | rfl | rfl <;> exact ⟨by decide, by decide⟩
  · exact ⟨0, 0, 0, by omega, by omega, by omega, rfl, rfl, rfl, fun h => absurd h (by omega)⟩
