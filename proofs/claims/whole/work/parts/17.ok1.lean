set_option maxRecDepth 100000 in
theorem k_pmX0_of : pm_cks pmX0_of pmX0_of.2.2.2.2.2 = true := by decide +kernel
set_option maxRecDepth 100000 in
theorem k_pmX0_kindOf : pm_cks pmX0_kindOf pmX0_kindOf.2.2.2.2.2 = true := by decide +kernel
set_option maxRecDepth 100000 in
theorem k_pmX0_numberOf : pm_cks pmX0_numberOf pmX0_numberOf.2.2.2.2.2 = true := by decide +kernel
set_option maxRecDepth 100000 in
theorem k_pmX0_wordOf : pm_cks pmX0_wordOf pmX0_wordOf.2.2.2.2.2 = true := by decide +kernel
set_option maxRecDepth 100000 in
theorem k_pmX0_mapOf : pm_cks pmX0_mapOf pmX0_mapOf.2.2.2.2.2 = true := by decide +kernel
set_option maxRecDepth 100000 in
theorem k_pmX0_checkSum : pm_cks pmX0_checkSum pmX0_checkSum.2.2.2.2.2 = true := by decide +kernel
set_option maxRecDepth 100000 in
theorem k_pmX0_withByte : pm_cks pmX0_withByte pmX0_withByte.2.2.2.2.2 = true := by decide +kernel
set_option maxRecDepth 100000 in
theorem k_pmX1_plus : pm_cks pmX1_plus pmX1_plus.2.2.2.2.2 = true := by decide +kernel
set_option maxRecDepth 100000 in
theorem k_pmX1_distance : pm_cks pmX1_distance pmX1_distance.2.2.2.2.2 = true := by decide +kernel
set_option maxRecDepth 100000 in
theorem k_pmX1_slotOf : pm_cks pmX1_slotOf pmX1_slotOf.2.2.2.2.2 = true := by decide +kernel
set_option maxRecDepth 100000 in
theorem k_pmX2_init : pm_cks pmX2_init pmX2_init.2.2.2.2.2 = true := by decide +kernel
set_option maxRecDepth 100000 in
theorem k_pmX2_clear : pm_cks pmX2_clear pmX2_clear.2.2.2.2.2 = true := by decide +kernel
set_option maxRecDepth 100000 in
theorem k_pmX2_accept : pm_cks pmX2_accept pmX2_accept.2.2.2.2.2 = true := by decide +kernel
set_option maxRecDepth 100000 in
theorem k_pmX2_acknowledgement : pm_cks pmX2_acknowledgement pmX2_acknowledgement.2.2.2.2.2 = true := by decide +kernel
set_option maxRecDepth 100000 in
theorem k_pmX2_behindGap : pm_cks pmX2_behindGap pmX2_behindGap.2.2.2.2.2 = true := by decide +kernel
set_option maxRecDepth 100000 in
theorem k_pmX2_deliveredCount : pm_cks pmX2_deliveredCount pmX2_deliveredCount.2.2.2.2.2 = true := by decide +kernel
set_option maxRecDepth 100000 in
theorem k_pmX2_keeps : pm_cks pmX2_keeps pmX2_keeps.2.2.2.2.2 = true := by decide +kernel
set_option maxRecDepth 100000 in
theorem k_pmX2_keptWord : pm_cks pmX2_keptWord pmX2_keptWord.2.2.2.2.2 = true := by decide +kernel
set_option maxRecDepth 100000 in
theorem k_pmX2_deliver : pm_cks pmX2_deliver pmX2_deliver.2.2.2.2.2 = true := by decide +kernel
set_option maxRecDepth 100000 in
theorem k_pmX3_init : pm_cks pmX3_init pmX3_init.2.2.2.2.2 = true := by decide +kernel
set_option maxRecDepth 100000 in
theorem k_pmX3_clear : pm_cks pmX3_clear pmX3_clear.2.2.2.2.2 = true := by decide +kernel
set_option maxRecDepth 100000 in
theorem k_pmX3_hasRoom : pm_cks pmX3_hasRoom pmX3_hasRoom.2.2.2.2.2 = true := by decide +kernel
set_option maxRecDepth 100000 in
theorem k_pmX3_takeWord : pm_cks pmX3_takeWord pmX3_takeWord.2.2.2.2.2 = true := by decide +kernel
set_option maxRecDepth 100000 in
theorem k_pmX3_sendAgain : pm_cks pmX3_sendAgain pmX3_sendAgain.2.2.2.2.2 = true := by decide +kernel
set_option maxRecDepth 100000 in
theorem k_pmX3_isGood : pm_cks pmX3_isGood pmX3_isGood.2.2.2.2.2 = true := by decide +kernel
set_option maxRecDepth 100000 in
theorem k_pmX3_acknowledge : pm_cks pmX3_acknowledge pmX3_acknowledge.2.2.2.2.2 = true := by decide +kernel
set_option maxRecDepth 100000 in
theorem k_pmX3_unacknowledged : pm_cks pmX3_unacknowledged pmX3_unacknowledged.2.2.2.2.2 = true := by decide +kernel
set_option maxRecDepth 100000 in
theorem k_pmX3_held : pm_cks pmX3_held pmX3_held.2.2.2.2.2 = true := by decide +kernel
set_option maxRecDepth 100000 in
theorem k_pmX3_frameOf : pm_cks pmX3_frameOf pmX3_frameOf.2.2.2.2.2 = true := by decide +kernel
set_option maxRecDepth 100000 in
theorem k_pmX3_isInMap : pm_cks pmX3_isInMap pmX3_isInMap.2.2.2.2.2 = true := by decide +kernel
set_option maxRecDepth 100000 in
theorem k_pmX3_mark : pm_cks pmX3_mark pmX3_mark.2.2.2.2.2 = true := by decide +kernel
set_option maxRecDepth 100000 in
theorem k_pmX3_moveBase : pm_cks pmX3_moveBase pmX3_moveBase.2.2.2.2.2 = true := by decide +kernel
set_option maxRecDepth 100000 in
theorem k_pmX4_init : pm_cks pmX4_init pmX4_init.2.2.2.2.2 = true := by decide +kernel
set_option maxRecDepth 100000 in
theorem k_pmX4_clear : pm_cks pmX4_clear pmX4_clear.2.2.2.2.2 = true := by decide +kernel
set_option maxRecDepth 100000 in
theorem k_pmX4_size : pm_cks pmX4_size pmX4_size.2.2.2.2.2 = true := by decide +kernel
set_option maxRecDepth 100000 in
theorem k_pmX4_isEmpty : pm_cks pmX4_isEmpty pmX4_isEmpty.2.2.2.2.2 = true := by decide +kernel
set_option maxRecDepth 100000 in
theorem k_pmX4_hasRoom : pm_cks pmX4_hasRoom pmX4_hasRoom.2.2.2.2.2 = true := by decide +kernel
set_option maxRecDepth 100000 in
theorem k_pmX4_bytesAt : pm_cks pmX4_bytesAt pmX4_bytesAt.2.2.2.2.2 = true := by decide +kernel
set_option maxRecDepth 100000 in
theorem k_pmX4_checkSumAt : pm_cks pmX4_checkSumAt pmX4_checkSumAt.2.2.2.2.2 = true := by decide +kernel
set_option maxRecDepth 100000 in
theorem k_pmX4_isOldestSound : pm_cks pmX4_isOldestSound pmX4_isOldestSound.2.2.2.2.2 = true := by decide +kernel
set_option maxRecDepth 100000 in
theorem k_pmX4_put : pm_cks pmX4_put pmX4_put.2.2.2.2.2 = true := by decide +kernel
set_option maxRecDepth 100000 in
theorem k_pmX4_takeOldest : pm_cks pmX4_takeOldest pmX4_takeOldest.2.2.2.2.2 = true := by decide +kernel
set_option maxRecDepth 100000 in
theorem k_pmX4_turnBitOfOldest : pm_cks pmX4_turnBitOfOldest pmX4_turnBitOfOldest.2.2.2.2.2 = true := by decide +kernel
set_option maxRecDepth 100000 in
theorem k_pmX4_doubleOldest : pm_cks pmX4_doubleOldest pmX4_doubleOldest.2.2.2.2.2 = true := by decide +kernel
set_option maxRecDepth 100000 in
theorem k_pmX4_moveOldestBack : pm_cks pmX4_moveOldestBack pmX4_moveOldestBack.2.2.2.2.2 = true := by decide +kernel
set_option maxRecDepth 100000 in
theorem k_pmX4_putBack : pm_cks pmX4_putBack pmX4_putBack.2.2.2.2.2 = true := by decide +kernel
set_option maxRecDepth 100000 in
theorem k_pmX4_placeOf : pm_cks pmX4_placeOf pmX4_placeOf.2.2.2.2.2 = true := by decide +kernel
