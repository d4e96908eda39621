set_option maxRecDepth 100000 in
theorem prL_law_eq : prL_law = (prL_law_0 ++ (prL_law_1 ++ (prL_law_2 ++ (prL_law_3 ++ (prL_law_4 ++ (prL_law_5 ++ (prL_law_6 ++ (prL_law_7 ++ (prL_law_8 ++ (prL_law_9 ++ (prL_law_10 ++ (prL_law_11 ++ (prL_law_12 ++ (prL_law_13 ++ (prL_law_14 ++ (prL_law_15 ++ (prL_law_16 ++ (prL_law_17 ++ prL_law_18)))))))))))))))))) := by rfl
set_option maxRecDepth 100000 in
theorem k_pmL_law : pm_cks pmL_law pmL_law.2.2.2.2.2 = true := by
  show pm_ckn pmL_law 0 prL_law = true
  rw [prL_law_eq]
  exact (pm_ckn_app (M := pmL_law) (pm_ckn_app (M := pmL_law) (pm_ckn_app (M := pmL_law) (pm_ckn_app (M := pmL_law) (pm_ckn_app (M := pmL_law) (pm_ckn_app (M := pmL_law) (pm_ckn_app (M := pmL_law) (pm_ckn_app (M := pmL_law) (pm_ckn_app (M := pmL_law) (pm_ckn_app (M := pmL_law) (pm_ckn_app (M := pmL_law) (pm_ckn_app (M := pmL_law) (pm_ckn_app (M := pmL_law) (pm_ckn_app (M := pmL_law) (pm_ckn_app (M := pmL_law) (pm_ckn_app (M := pmL_law) (pm_ckn_app (M := pmL_law) (pm_ckn_app (M := pmL_law) k_law_18 _ k_law_17) _ k_law_16) _ k_law_15) _ k_law_14) _ k_law_13) _ k_law_12) _ k_law_11) _ k_law_10) _ k_law_9) _ k_law_8) _ k_law_7) _ k_law_6) _ k_law_5) _ k_law_4) _ k_law_3) _ k_law_2) _ k_law_1) _ k_law_0)
theorem pm_prs_ok : ∀ M ∈ pm_prs, pm_cks M M.2.2.2.2.2 = true := by
  unfold pm_prs
  simp only [List.forall_mem_cons, List.not_mem_nil, false_implies, implies_true, and_true]
  exact ⟨k_pmX0_of, k_pmX0_kindOf, k_pmX0_numberOf, k_pmX0_wordOf, k_pmX0_mapOf, k_pmX0_checkSum, k_pmX0_withByte, k_pmX1_plus, k_pmX1_distance, k_pmX1_slotOf, k_pmX2_init, k_pmX2_clear, k_pmX2_accept, k_pmX2_acknowledgement, k_pmX2_behindGap, k_pmX2_deliveredCount, k_pmX2_keeps, k_pmX2_keptWord, k_pmX2_deliver, k_pmX3_init, k_pmX3_clear, k_pmX3_hasRoom, k_pmX3_takeWord, k_pmX3_sendAgain, k_pmX3_isGood, k_pmX3_acknowledge, k_pmX3_unacknowledged, k_pmX3_held, k_pmX3_frameOf, k_pmX3_isInMap, k_pmX3_mark, k_pmX3_moveBase, k_pmX4_init, k_pmX4_clear, k_pmX4_size, k_pmX4_isEmpty, k_pmX4_hasRoom, k_pmX4_bytesAt, k_pmX4_checkSumAt, k_pmX4_isOldestSound, k_pmX4_put, k_pmX4_takeOldest, k_pmX4_turnBitOfOldest, k_pmX4_doubleOldest, k_pmX4_moveOldestBack, k_pmX4_putBack, k_pmX4_placeOf, k_pmX5_init, k_pmX5_begin, k_pmX5_send, k_pmX5_tick, k_pmX5_comeToB, k_pmX5_comeToA, k_pmX5_lose, k_pmX5_change, k_pmX5_twice, k_pmX5_delay, k_pmX5_delivered, k_pmX5_word, k_pmX5_frame, k_pmX5_told, k_pmX5_sum, k_pmX5_restart, k_pmX5_wireOf, k_pmX5_isWithin, k_pmX6_init, k_pmX6_thrown, k_pmX6_begin, k_pmX6_crc, k_pmX6_sum, k_pmX6_at, k_pmX6_bytesAt, k_pmX6_put, k_pmX6_drop, k_pmX6_isGood, k_pmX6_far, k_pmX6_send, k_pmX6_tick, k_pmX6_hear, k_pmX6_comeToA, k_pmX6_comeToB, k_pmX6_noWire, k_pmX6_lose, k_pmX6_change, k_pmX6_twice, k_pmX6_delay, k_pmX6_delivered, k_pmX6_word, k_pmX6_frame, k_pmX6_told, k_pmL_begin, k_pmL_lose, k_pmL_change, k_pmL_twice, k_pmL_delay, k_pmL_word, k_pmL_frame, k_pmL_told, k_pmL_law⟩
theorem pm_ok (me : Nat) : pm_cks (pm_pr me) (pm_pr me).2.2.2.2.2 = true := by
  rcases pm_at_or pmL_law pm_prs me with h | h
  · exact pm_prs_ok _ h
  · have h2 : pm_pr me = pmL_law := h
    rw [h2]
    exact k_pmL_law
