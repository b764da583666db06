/-! PURE PART: all of it -/
theorem all_ok : pv_All (Inv IC) :=
  ⟨fun k σ h => h.sc IC_ok (Sc.rf σ), ok_link IC_ok, ok_cut IC_ok, ok_like IC_ok, ok_manner IC_ok, ok_bar IC_ok, ok_domains IC_ok, ok_told IC_ok, ok_own, ok_way, ok_why IC_ok, ok_count, ok_type IC_ok, ok_read, ok_turn IC_ok IC_k, ok_choose IC_ok IC_k, ok_rest IC_ok IC_k, ok_clear IC_ok, ok_foreseen IC_ok, ok_stable, ok_ring, ok_fail, ok_seen IC_ok, ok_drift IC_ok, ok_undo IC_ok, ok_seed IC_ok, ok_image IC_ok, ok_restore IC_ok, ok_tried IC_ok, ok_film IC_ok IC_k, ok_sheet IC_ok, ok_drop IC_ok, ok_item IC_ok, ok_copy IC_ok⟩
