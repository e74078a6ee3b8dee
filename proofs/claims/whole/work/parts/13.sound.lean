/-! The checks of the tables, put together. -/
def ab_qok (q : abM) : Prop := q.2.2.2.2.2.all (ab_ok (ab_own1 q) q.2.1) = true
theorem ab_all_td {l : List abQ} {f : abQ → Bool} (k : Nat) (h1 : (l.take k).all f = true) (h2 : (l.drop k).all f = true) : l.all f = true := by
  rw [← List.take_append_drop k l, List.all_append, h1, h2]
  rfl
theorem eL_law : iL_law.all (ab_ok RL cL_law) = true := by
  refine ab_all_td 90 (show ((iL_law.drop 0).take 90).all _ = true from eL_law_0) ?_
  refine ab_all_td 90 (eL_law_90) ?_
  rw [List.drop_drop]
  refine ab_all_td 90 (eL_law_180) ?_
  rw [List.drop_drop]
  refine ab_all_td 90 (eL_law_270) ?_
  rw [List.drop_drop]
  refine ab_all_td 90 (eL_law_360) ?_
  rw [List.drop_drop]
  refine ab_all_td 90 (eL_law_450) ?_
  rw [List.drop_drop]
  refine ab_all_td 90 (eL_law_540) ?_
  rw [List.drop_drop]
  refine ab_all_td 90 (eL_law_630) ?_
  rw [List.drop_drop]
  refine ab_all_td 90 (eL_law_720) ?_
  rw [List.drop_drop]
  refine ab_all_td 90 (eL_law_810) ?_
  rw [List.drop_drop]
  refine ab_all_td 90 (eL_law_900) ?_
  rw [List.drop_drop]
  refine ab_all_td 90 (eL_law_990) ?_
  rw [List.drop_drop]
  rw [List.drop_eq_nil_of_le (by decide +kernel)]
  rfl
theorem ab_qok0 : ∀ q ∈ ab_ms0, ab_qok q := List.forall_mem_cons.mpr ⟨eX0_init, List.forall_mem_cons.mpr ⟨eX0_begin, List.forall_mem_cons.mpr ⟨eX0_end, List.forall_mem_cons.mpr ⟨eX0_takeBack, List.forall_mem_cons.mpr ⟨eX0_goOn, List.forall_mem_cons.mpr ⟨eX0_turnArm, List.forall_mem_cons.mpr ⟨eX0_setOut, List.forall_mem_cons.mpr ⟨eX0_befog, List.forall_mem_cons.mpr ⟨eX0_doOne, List.forall_mem_cons.mpr ⟨eX0_doAll, List.forall_mem_cons.mpr ⟨eX0_liveYear, List.forall_mem_cons.mpr ⟨eX0_drawDeed, List.forall_mem_cons.mpr ⟨eX0_draw, List.forall_mem_cons.mpr ⟨eX1_init, List.forall_mem_cons.mpr ⟨eX1_countTrees, List.forall_mem_cons.mpr ⟨eX1_allLeadTo, List.forall_mem_cons.mpr ⟨eX1_force, List.forall_mem_cons.mpr ⟨eX1_forcingRoad, List.forall_mem_cons.mpr ⟨eX1_canLead, List.forall_mem_cons.mpr ⟨eX1_mustLead, List.forall_mem_cons.mpr ⟨eX1_roadsInto, List.forall_mem_cons.mpr ⟨eX2_init, List.forall_mem_cons.mpr ⟨eX2_walk, List.forall_mem_cons.mpr ⟨eX2_standBehind, List.forall_mem_cons.mpr ⟨eX2_visitsTo, List.forall_mem_cons.mpr ⟨eX2_timesAt, List.forall_mem_cons.mpr ⟨eX2_firstAt, List.forall_mem_cons.mpr ⟨eX2_fill, List.forall_mem_cons.mpr ⟨eX2_stepsOut, List.forall_mem_cons.mpr ⟨eX2_standAfter, List.forall_mem_cons.mpr ⟨eX2_countHits, List.forall_mem_cons.mpr ⟨eX3_init, List.forall_mem_cons.mpr ⟨eX3_clear, List.forall_mem_cons.mpr ⟨eX3_copy, List.forall_mem_cons.mpr ⟨eX3_has, List.forall_mem_cons.mpr ⟨eX3_roadsOf, List.forall_mem_cons.mpr ⟨eX3_leadsTo, List.forall_mem_cons.mpr ⟨eX3_isHome, List.forall_mem_cons.mpr ⟨eX3_restsAt, List.forall_mem_cons.mpr ⟨eX3_allRoads, fun _ h => absurd h List.not_mem_nil⟩⟩⟩⟩⟩⟩⟩⟩⟩⟩⟩⟩⟩⟩⟩⟩⟩⟩⟩⟩⟩⟩⟩⟩⟩⟩⟩⟩⟩⟩⟩⟩⟩⟩⟩⟩⟩⟩⟩⟩
theorem ab_qok1 : ∀ q ∈ ab_ms1, ab_qok q := List.forall_mem_cons.mpr ⟨eX3_addRoad, List.forall_mem_cons.mpr ⟨eX3_armLimit, List.forall_mem_cons.mpr ⟨eX3_canShow, List.forall_mem_cons.mpr ⟨eX3_restingPosts, List.forall_mem_cons.mpr ⟨eX4_init, List.forall_mem_cons.mpr ⟨eX4_comesTo, List.forall_mem_cons.mpr ⟨eX4_lasts, List.forall_mem_cons.mpr ⟨eX4_allPosts, List.forall_mem_cons.mpr ⟨eX4_leadInto, List.forall_mem_cons.mpr ⟨eX4_comeFrom, List.forall_mem_cons.mpr ⟨eX4_roadsTo, List.forall_mem_cons.mpr ⟨eX4_number, List.forall_mem_cons.mpr ⟨eX4_layRow, List.forall_mem_cons.mpr ⟨eX4_cell, List.forall_mem_cons.mpr ⟨eX4_put, List.forall_mem_cons.mpr ⟨eX4_solve, List.forall_mem_cons.mpr ⟨eX4_clearColumn, List.forall_mem_cons.mpr ⟨eX4_answerFor, List.forall_mem_cons.mpr ⟨eX4_answer, List.forall_mem_cons.mpr ⟨eX4_commonDivisor, List.forall_mem_cons.mpr ⟨eX5_init, List.forall_mem_cons.mpr ⟨eX5_fits, List.forall_mem_cons.mpr ⟨eX5_tally, List.forall_mem_cons.mpr ⟨eX5_shownBy, List.forall_mem_cons.mpr ⟨eX5_timesShown, List.forall_mem_cons.mpr ⟨eX5_mostTelling, List.forall_mem_cons.mpr ⟨eX6_init, List.forall_mem_cons.mpr ⟨eX6_append, List.forall_mem_cons.mpr ⟨eX6_read, List.forall_mem_cons.mpr ⟨eX6_readHead, List.forall_mem_cons.mpr ⟨eX6_readLine, List.forall_mem_cons.mpr ⟨eX6_endLine, List.forall_mem_cons.mpr ⟨eX6_readRoad, List.forall_mem_cons.mpr ⟨eX6_readArm, List.forall_mem_cons.mpr ⟨eX6_readHome, List.forall_mem_cons.mpr ⟨eX6_readWalker, List.forall_mem_cons.mpr ⟨eX6_readFog, List.forall_mem_cons.mpr ⟨eX6_readTurns, List.forall_mem_cons.mpr ⟨eX6_readSticks, List.forall_mem_cons.mpr ⟨eX6_readSum, fun _ h => absurd h List.not_mem_nil⟩⟩⟩⟩⟩⟩⟩⟩⟩⟩⟩⟩⟩⟩⟩⟩⟩⟩⟩⟩⟩⟩⟩⟩⟩⟩⟩⟩⟩⟩⟩⟩⟩⟩⟩⟩⟩⟩⟩⟩
theorem ab_qok2 : ∀ q ∈ ab_ms2, ab_qok q := List.forall_mem_cons.mpr ⟨eX6_readTerm, List.forall_mem_cons.mpr ⟨eX6_readAtom, List.forall_mem_cons.mpr ⟨eX6_leafHere, List.forall_mem_cons.mpr ⟨eX6_readTruth, List.forall_mem_cons.mpr ⟨eX6_readBoth, List.forall_mem_cons.mpr ⟨eX6_readUnit, List.forall_mem_cons.mpr ⟨eX6_readComparison, List.forall_mem_cons.mpr ⟨eX6_open, List.forall_mem_cons.mpr ⟨eX6_emit, List.forall_mem_cons.mpr ⟨eX6_take, List.forall_mem_cons.mpr ⟨eX6_takePost, List.forall_mem_cons.mpr ⟨eX6_takeNumber, List.forall_mem_cons.mpr ⟨eX6_wrong, List.forall_mem_cons.mpr ⟨eX6_is, List.forall_mem_cons.mpr ⟨eX6_advance, List.forall_mem_cons.mpr ⟨eX7_init, List.forall_mem_cons.mpr ⟨eX7_forget, List.forall_mem_cons.mpr ⟨eX7_prepare, List.forall_mem_cons.mpr ⟨eX7_behind, List.forall_mem_cons.mpr ⟨eX7_nextStand, List.forall_mem_cons.mpr ⟨eX7_workOut, List.forall_mem_cons.mpr ⟨eX7_valueOf, List.forall_mem_cons.mpr ⟨eX7_leafValue, List.forall_mem_cons.mpr ⟨eX7_joined, List.forall_mem_cons.mpr ⟨eX8_init, List.forall_mem_cons.mpr ⟨eX8_clearSeen, List.forall_mem_cons.mpr ⟨eX8_home, List.forall_mem_cons.mpr ⟨eX8_stepsHome, List.forall_mem_cons.mpr ⟨eX8_reachByHand, List.forall_mem_cons.mpr ⟨eX8_reachTurned, List.forall_mem_cons.mpr ⟨eX8_takeNearest, List.forall_mem_cons.mpr ⟨eX8_goOnFrom, List.forall_mem_cons.mpr ⟨eX8_countAhead, List.forall_mem_cons.mpr ⟨eX8_postsAhead, List.forall_mem_cons.mpr ⟨eX8_addAhead, List.forall_mem_cons.mpr ⟨eX8_countAgain, List.forall_mem_cons.mpr ⟨eX9_init, List.forall_mem_cons.mpr ⟨eX9_copy, List.forall_mem_cons.mpr ⟨eX9_clear, List.forall_mem_cons.mpr ⟨eX9_code, fun _ h => absurd h List.not_mem_nil⟩⟩⟩⟩⟩⟩⟩⟩⟩⟩⟩⟩⟩⟩⟩⟩⟩⟩⟩⟩⟩⟩⟩⟩⟩⟩⟩⟩⟩⟩⟩⟩⟩⟩⟩⟩⟩⟩⟩⟩
theorem ab_qok3 : ∀ q ∈ ab_ms3, ab_qok q := List.forall_mem_cons.mpr ⟨eX10_init, List.forall_mem_cons.mpr ⟨eX10_lay, List.forall_mem_cons.mpr ⟨eX10_value, List.forall_mem_cons.mpr ⟨eX10_put, List.forall_mem_cons.mpr ⟨eX10_cut, List.forall_mem_cons.mpr ⟨eX11_init, List.forall_mem_cons.mpr ⟨eX11_feed, List.forall_mem_cons.mpr ⟨eX11_moor, List.forall_mem_cons.mpr ⟨eX11_fault, List.forall_mem_cons.mpr ⟨eX11_post, List.forall_mem_cons.mpr ⟨eX11_by, List.forall_mem_cons.mpr ⟨eX11_step, List.forall_mem_cons.mpr ⟨eX11_steps, List.forall_mem_cons.mpr ⟨eX11_turn, List.forall_mem_cons.mpr ⟨eX11_setsOut, List.forall_mem_cons.mpr ⟨eX11_fog, List.forall_mem_cons.mpr ⟨eX11_undo, List.forall_mem_cons.mpr ⟨eX11_judge, List.forall_mem_cons.mpr ⟨eX11_perform, List.forall_mem_cons.mpr ⟨eX11_year, List.forall_mem_cons.mpr ⟨eX11_at, List.forall_mem_cons.mpr ⟨eX11_arms, List.forall_mem_cons.mpr ⟨eX11_visits, List.forall_mem_cons.mpr ⟨eX11_round, List.forall_mem_cons.mpr ⟨eX11_first, List.forall_mem_cons.mpr ⟨eX11_rests, List.forall_mem_cons.mpr ⟨eX11_homing, List.forall_mem_cons.mpr ⟨eX11_hands, List.forall_mem_cons.mpr ⟨eX11_fills, List.forall_mem_cons.mpr ⟨eX11_filling, List.forall_mem_cons.mpr ⟨eX11_footprints, List.forall_mem_cons.mpr ⟨eX11_shown, List.forall_mem_cons.mpr ⟨eX11_look, List.forall_mem_cons.mpr ⟨eX11_fogs, List.forall_mem_cons.mpr ⟨eX11_ahead, List.forall_mem_cons.mpr ⟨eX11_from, List.forall_mem_cons.mpr ⟨eX11_again, List.forall_mem_cons.mpr ⟨eX11_trees, List.forall_mem_cons.mpr ⟨eX11_chance, List.forall_mem_cons.mpr ⟨eX11_mean, fun _ h => absurd h List.not_mem_nil⟩⟩⟩⟩⟩⟩⟩⟩⟩⟩⟩⟩⟩⟩⟩⟩⟩⟩⟩⟩⟩⟩⟩⟩⟩⟩⟩⟩⟩⟩⟩⟩⟩⟩⟩⟩⟩⟩⟩⟩
theorem ab_qok4 : ∀ q ∈ ab_ms4, ab_qok q := List.forall_mem_cons.mpr ⟨eX11_score, List.forall_mem_cons.mpr ⟨eX11_forces, List.forall_mem_cons.mpr ⟨eX11_best, List.forall_mem_cons.mpr ⟨eX11_numbers, List.forall_mem_cons.mpr ⟨eX11_write, List.forall_mem_cons.mpr ⟨eX11_lists, List.forall_mem_cons.mpr ⟨eX11_image, List.forall_mem_cons.mpr ⟨eX11_restore, List.forall_mem_cons.mpr ⟨eX11_count, List.forall_mem_cons.mpr ⟨eX11_ended, List.forall_mem_cons.mpr ⟨eX11_noTray, List.forall_mem_cons.mpr ⟨eX11_printsRefused, List.forall_mem_cons.mpr ⟨eX11_armOf, List.forall_mem_cons.mpr ⟨eX11_withArm, List.forall_mem_cons.mpr ⟨eX11_isIn, List.forall_mem_cons.mpr ⟨eX12_within, List.forall_mem_cons.mpr ⟨eX12_init, List.forall_mem_cons.mpr ⟨eX12_plain, List.forall_mem_cons.mpr ⟨eX12_feed, List.forall_mem_cons.mpr ⟨eX12_see, List.forall_mem_cons.mpr ⟨eX12_isSmall, List.forall_mem_cons.mpr ⟨eX12_isDigit, List.forall_mem_cons.mpr ⟨eX12_keyAt, List.forall_mem_cons.mpr ⟨eX12_next, List.forall_mem_cons.mpr ⟨eX12_fails, List.forall_mem_cons.mpr ⟨eX12_is, List.forall_mem_cons.mpr ⟨eX12_eats, List.forall_mem_cons.mpr ⟨eX12_takes, List.forall_mem_cons.mpr ⟨eX12_isIn, List.forall_mem_cons.mpr ⟨eX12_wordOf, List.forall_mem_cons.mpr ⟨eX12_codes, List.forall_mem_cons.mpr ⟨eX12_goesIn, List.forall_mem_cons.mpr ⟨eX12_readAtom, List.forall_mem_cons.mpr ⟨eX12_readIf, List.forall_mem_cons.mpr ⟨eX12_readTerm, List.forall_mem_cons.mpr ⟨eX12_readSum, List.forall_mem_cons.mpr ⟨eX12_readUnit, List.forall_mem_cons.mpr ⟨eX12_readBoth, List.forall_mem_cons.mpr ⟨eX12_readTruth, List.forall_mem_cons.mpr ⟨eX12_named, fun _ h => absurd h List.not_mem_nil⟩⟩⟩⟩⟩⟩⟩⟩⟩⟩⟩⟩⟩⟩⟩⟩⟩⟩⟩⟩⟩⟩⟩⟩⟩⟩⟩⟩⟩⟩⟩⟩⟩⟩⟩⟩⟩⟩⟩⟩
theorem ab_qok5 : ∀ q ∈ ab_ms5, ab_qok q := List.forall_mem_cons.mpr ⟨eX12_takesPost, List.forall_mem_cons.mpr ⟨eX12_readRoad, List.forall_mem_cons.mpr ⟨eX12_readArm, List.forall_mem_cons.mpr ⟨eX12_readHome, List.forall_mem_cons.mpr ⟨eX12_readLaw, List.forall_mem_cons.mpr ⟨eX12_readLine, List.forall_mem_cons.mpr ⟨eX12_closes, List.forall_mem_cons.mpr ⟨eX12_moor, List.forall_mem_cons.mpr ⟨eX12_fault, List.forall_mem_cons.mpr ⟨eX12_isPost, List.forall_mem_cons.mpr ⟨eX12_isRoad, List.forall_mem_cons.mpr ⟨eX12_placeOf, List.forall_mem_cons.mpr ⟨eX12_armIn, List.forall_mem_cons.mpr ⟨eX12_withArm, List.forall_mem_cons.mpr ⟨eX12_armsNow, List.forall_mem_cons.mpr ⟨eX12_standOf, List.forall_mem_cons.mpr ⟨eX12_standNow, List.forall_mem_cons.mpr ⟨eX12_isStand, List.forall_mem_cons.mpr ⟨eX12_roadOf, List.forall_mem_cons.mpr ⟨eX12_areArms, List.forall_mem_cons.mpr ⟨eX12_isStand1, List.forall_mem_cons.mpr ⟨eX12_between, List.forall_mem_cons.mpr ⟨eX12_reckons, List.forall_mem_cons.mpr ⟨eX12_isRest, List.forall_mem_cons.mpr ⟨eX12_stepTo, List.forall_mem_cons.mpr ⟨eX12_goesTo, List.forall_mem_cons.mpr ⟨eX12_post, List.forall_mem_cons.mpr ⟨eX12_by, List.forall_mem_cons.mpr ⟨eX12_stores, List.forall_mem_cons.mpr ⟨eX12_isAgain, List.forall_mem_cons.mpr ⟨eX12_notes, List.forall_mem_cons.mpr ⟨eX12_goesStep, List.forall_mem_cons.mpr ⟨eX12_step, List.forall_mem_cons.mpr ⟨eX12_steps, List.forall_mem_cons.mpr ⟨eX12_turn, List.forall_mem_cons.mpr ⟨eX12_setsOut, List.forall_mem_cons.mpr ⟨eX12_fog, List.forall_mem_cons.mpr ⟨eX12_undo, List.forall_mem_cons.mpr ⟨eX12_whyNot, List.forall_mem_cons.mpr ⟨eX12_does, fun _ h => absurd h List.not_mem_nil⟩⟩⟩⟩⟩⟩⟩⟩⟩⟩⟩⟩⟩⟩⟩⟩⟩⟩⟩⟩⟩⟩⟩⟩⟩⟩⟩⟩⟩⟩⟩⟩⟩⟩⟩⟩⟩⟩⟩⟩
theorem ab_qok6 : ∀ q ∈ ab_ms6, ab_qok q := List.forall_mem_cons.mpr ⟨eX12_tells, List.forall_mem_cons.mpr ⟨eX12_noTray, List.forall_mem_cons.mpr ⟨eX12_judge, List.forall_mem_cons.mpr ⟨eX12_perform, List.forall_mem_cons.mpr ⟨eX12_draw, List.forall_mem_cons.mpr ⟨eX12_drawn, List.forall_mem_cons.mpr ⟨eX12_year, List.forall_mem_cons.mpr ⟨eX12_laysLine, List.forall_mem_cons.mpr ⟨eX12_lineAt, List.forall_mem_cons.mpr ⟨eX12_at, List.forall_mem_cons.mpr ⟨eX12_arms, List.forall_mem_cons.mpr ⟨eX12_oftenAt, List.forall_mem_cons.mpr ⟨eX12_visits, List.forall_mem_cons.mpr ⟨eX12_round, List.forall_mem_cons.mpr ⟨eX12_first, List.forall_mem_cons.mpr ⟨eX12_rests, List.forall_mem_cons.mpr ⟨eX12_homeFrom, List.forall_mem_cons.mpr ⟨eX12_homing, List.forall_mem_cons.mpr ⟨eX12_laysCost, List.forall_mem_cons.mpr ⟨eX12_hands, List.forall_mem_cons.mpr ⟨eX12_laysFilling, List.forall_mem_cons.mpr ⟨eX12_fills, List.forall_mem_cons.mpr ⟨eX12_filling, List.forall_mem_cons.mpr ⟨eX12_noFeet, List.forall_mem_cons.mpr ⟨eX12_areFeet, List.forall_mem_cons.mpr ⟨eX12_laysFeet, List.forall_mem_cons.mpr ⟨eX12_footprints, List.forall_mem_cons.mpr ⟨eX12_shown, List.forall_mem_cons.mpr ⟨eX12_look, List.forall_mem_cons.mpr ⟨eX12_fogs, List.forall_mem_cons.mpr ⟨eX12_laysAhead, List.forall_mem_cons.mpr ⟨eX12_beginsAhead, List.forall_mem_cons.mpr ⟨eX12_ahead, List.forall_mem_cons.mpr ⟨eX12_from, List.forall_mem_cons.mpr ⟨eX12_again, List.forall_mem_cons.mpr ⟨eX12_isTree, List.forall_mem_cons.mpr ⟨eX12_trees, List.forall_mem_cons.mpr ⟨eX12_common, List.forall_mem_cons.mpr ⟨eX12_lays, List.forall_mem_cons.mpr ⟨eX12_addsTo, fun _ h => absurd h List.not_mem_nil⟩⟩⟩⟩⟩⟩⟩⟩⟩⟩⟩⟩⟩⟩⟩⟩⟩⟩⟩⟩⟩⟩⟩⟩⟩⟩⟩⟩⟩⟩⟩⟩⟩⟩⟩⟩⟩⟩⟩⟩
theorem ab_qok7 : ∀ q ∈ ab_ms7, ab_qok q := List.forall_mem_cons.mpr ⟨eX12_solves, List.forall_mem_cons.mpr ⟨eX12_swaps, List.forall_mem_cons.mpr ⟨eX12_comesTo, List.forall_mem_cons.mpr ⟨eX12_beginsRows, List.forall_mem_cons.mpr ⟨eX12_chance, List.forall_mem_cons.mpr ⟨eX12_strays, List.forall_mem_cons.mpr ⟨eX12_mean, List.forall_mem_cons.mpr ⟨eX12_score, List.forall_mem_cons.mpr ⟨eX12_otherAt, List.forall_mem_cons.mpr ⟨eX12_firstBy, List.forall_mem_cons.mpr ⟨eX12_laysForce, List.forall_mem_cons.mpr ⟨eX12_forces, List.forall_mem_cons.mpr ⟨eX12_best, List.forall_mem_cons.mpr ⟨eX12_cut, List.forall_mem_cons.mpr ⟨eX12_numbers, List.forall_mem_cons.mpr ⟨eX12_write, List.forall_mem_cons.mpr ⟨eX12_lists, List.forall_mem_cons.mpr ⟨eX12_image, List.forall_mem_cons.mpr ⟨eX12_restore, List.forall_mem_cons.mpr ⟨eX12_count, List.forall_mem_cons.mpr ⟨eJ9_floorMod_7cf53, List.forall_mem_cons.mpr ⟨eJ9_abs_067f4, List.forall_mem_cons.mpr ⟨eJ9_max_7cf53, List.forall_mem_cons.mpr ⟨eJ9_min_7cf53, List.forall_mem_cons.mpr ⟨eJ0_length_8abf5, List.forall_mem_cons.mpr ⟨eJ0_charAt_5068e, List.forall_mem_cons.mpr ⟨eJ0_indexOf_0f7a4, List.forall_mem_cons.mpr ⟨eJ0_indexOf_7cf53, List.forall_mem_cons.mpr ⟨eJ0_coder_7d493, List.forall_mem_cons.mpr ⟨eJ0_isLatin1_aae02, List.forall_mem_cons.mpr ⟨eJ0_checkIndex_df160, List.forall_mem_cons.mpr ⟨eJ1_charAt_3b067, List.forall_mem_cons.mpr ⟨eJ1_canEncode_9a6ad, List.forall_mem_cons.mpr ⟨eJ1_indexOf_4cfef, List.forall_mem_cons.mpr ⟨eJ1_indexOfChar_4cfef, List.forall_mem_cons.mpr ⟨eJ7_rangeCheck_23922, List.forall_mem_cons.mpr ⟨eJ7_fill_d0a16, List.forall_mem_cons.mpr ⟨eJ7_fill_53178, List.forall_mem_cons.mpr ⟨eJ7_fill_fda19, List.forall_mem_cons.mpr ⟨eJ3_checkIndex_8e157, fun _ h => absurd h List.not_mem_nil⟩⟩⟩⟩⟩⟩⟩⟩⟩⟩⟩⟩⟩⟩⟩⟩⟩⟩⟩⟩⟩⟩⟩⟩⟩⟩⟩⟩⟩⟩⟩⟩⟩⟩⟩⟩⟩⟩⟩⟩
theorem ab_qok8 : ∀ q ∈ ab_ms8, ab_qok q := List.forall_mem_cons.mpr ⟨eL_law, fun _ h => absurd h List.not_mem_nil⟩
theorem ab_qoks : ∀ q ∈ ab_ms, ab_qok q := by
  show ∀ q ∈ ab_ms0 ++ (ab_ms1 ++ (ab_ms2 ++ (ab_ms3 ++ (ab_ms4 ++ (ab_ms5 ++ (ab_ms6 ++ (ab_ms7 ++ (ab_ms8)))))))), ab_qok q
  exact List.forall_mem_append.mpr ⟨ab_qok0, List.forall_mem_append.mpr ⟨ab_qok1, List.forall_mem_append.mpr ⟨ab_qok2, List.forall_mem_append.mpr ⟨ab_qok3, List.forall_mem_append.mpr ⟨ab_qok4, List.forall_mem_append.mpr ⟨ab_qok5, List.forall_mem_append.mpr ⟨ab_qok6, List.forall_mem_append.mpr ⟨ab_qok7, ab_qok8⟩⟩⟩⟩⟩⟩⟩⟩
theorem ab_q_ok {M : Nat} {q : abM} (h : ab_ms[M]? = some q) : ab_qok q := ab_qoks q (List.mem_of_getElem? h)
theorem ab_mp_all : ∀ j, j < 20 → (((ab_ms.drop (16 * j)).take 16).zip ((ab_mp.drop (16 * j)).take 16)).all (fun z => ab_mok2 z.1 z.2) = true := by
  intro j hj
  match j, hj with
  | 0, _ => exact ab_mp_0
  | 1, _ => exact ab_mp_16
  | 2, _ => exact ab_mp_32
  | 3, _ => exact ab_mp_48
  | 4, _ => exact ab_mp_64
  | 5, _ => exact ab_mp_80
  | 6, _ => exact ab_mp_96
  | 7, _ => exact ab_mp_112
  | 8, _ => exact ab_mp_128
  | 9, _ => exact ab_mp_144
  | 10, _ => exact ab_mp_160
  | 11, _ => exact ab_mp_176
  | 12, _ => exact ab_mp_192
  | 13, _ => exact ab_mp_208
  | 14, _ => exact ab_mp_224
  | 15, _ => exact ab_mp_240
  | 16, _ => exact ab_mp_256
  | 17, _ => exact ab_mp_272
  | 18, _ => exact ab_mp_288
  | 19, _ => exact ab_mp_304
  | n + 20, h => exact absurd h (by omega)
theorem ab_get_lt {α : Type} {mp : List (Nat × α)} {M kd : Nat} {w : α} (hk : (mp.getD M (9, w)).1 = kd) (h9 : kd ≠ 9) : M < mp.length := by
  by_cases z : M < mp.length
  · exact z
  · have e : mp.getD M (9, w) = (9, w) := by
      rw [List.getD_eq_getElem?_getD, List.getElem?_eq_none (by omega)]
      rfl
    rw [e] at hk
    exact absurd hk.symm h9
theorem ab_mp_gen {α β : Type} {ms : List α} {mp : List β} {f : α × β → Bool} {w : β} (hall : ∀ j, j < 20 → (((ms.drop (16 * j)).take 16).zip ((mp.drop (16 * j)).take 16)).all f = true) (hlen : mp.length = 320) {M : Nat} {q : α} (h : ms[M]? = some q) (hM : M < mp.length) : f (q, mp.getD M w) = true := by
  have h2 : mp[M]? = some (mp.getD M w) := by
    rw [List.getD_eq_getElem?_getD, List.getElem?_eq_getElem hM]
    rfl
  have h3 := hall (M / 16) (by omega)
  have e : 16 * (M / 16) + M % 16 = M := by omega
  have h4 : (((ms.drop (16 * (M / 16))).take 16).zip ((mp.drop (16 * (M / 16))).take 16))[M % 16]? = some (q, mp.getD M w) := by
    rw [List.getElem?_zip_eq_some]
    constructor
    · rw [List.getElem?_take, if_pos (Nat.mod_lt _ (by decide)), List.getElem?_drop, e]
      exact h
    · rw [List.getElem?_take, if_pos (Nat.mod_lt _ (by decide)), List.getElem?_drop, e]
      exact h2
  exact List.all_eq_true.mp h3 _ (List.mem_of_getElem? h4)
theorem ab_mp_at {M kd : Nat} {q : abM} (h : ab_ms[M]? = some q) (hk : (ab_mp.getD M (9, 0, 0, 0, 0)).1 = kd) (h9 : kd ≠ 9) : ab_mok2 q (ab_mp.getD M (9, 0, 0, 0, 0)) = true :=
  ab_mp_gen (f := fun z => ab_mok2 z.1 z.2) (w := (9, 0, 0, 0, 0)) ab_mp_all ab_ms_n.2.2.2 h (ab_get_lt hk h9)
theorem ab_na_at {M : Nat} {q : abM} (h : ab_ms[M]? = some q) : (parseMethodDescriptor q.1.desc).map (fun d => d.parameters.length) = some (ab_na.getD M 0) := by
  have hn := ab_ms_n
  have hM : M < ab_ms.length := (List.getElem?_eq_some_iff.mp h).1
  have h2 : ab_na[M]? = some (ab_na.getD M 0) := by
    have : M < ab_na.length := by omega
    simp [this]
  have h4 : (ab_ms.zip ab_na)[M]? = some (q, ab_na.getD M 0) := by
    rw [List.getElem?_zip_eq_some]
    exact ⟨h, h2⟩
  exact of_decide_eq_true (List.all_eq_true.mp ab_na_ok _ (List.mem_of_getElem? h4))
theorem ab_ini_at {M : Nat} {q : abM} (h : ab_ms[M]? = some q) : ab_ini.getD M 99 = 99 ∨ (q.1.name = "<init>" ∧ q.2.2.2.2.1 = ab_ini.getD M 99) := by
  have hn := ab_ms_n
  have hM : M < ab_ms.length := (List.getElem?_eq_some_iff.mp h).1
  have h2 : ab_ini[M]? = some (ab_ini.getD M 99) := by
    have : M < ab_ini.length := by omega
    simp [this]
  have h4 : (ab_ms.zip ab_ini)[M]? = some (q, ab_ini.getD M 99) := by
    rw [List.getElem?_zip_eq_some]
    exact ⟨h, h2⟩
  exact of_decide_eq_true (List.all_eq_true.mp ab_ini_ok _ (List.mem_of_getElem? h4))
theorem ab_code_at {M : Nat} {q : abM} (h : ab_ms[M]? = some q) (h13 : q.2.2.2.2.1 ≠ 13) : Cond.code q.1 q.2.1 q.2.2.1 q.2.2.2.1 ∈ ab_tb := by
  rcases ab_coks q (List.mem_of_getElem? h) with h1 | h1
  · exact absurd h1 h13
  · exact List.mem_filter.mpr ⟨h1, rfl⟩
theorem ab_n13 : (ab_ms.zip ab_mp).all (fun z => decide (z.1.2.2.2.2.1 ≠ 13)) = true := by decide +kernel
theorem ab_zip_gen {α β : Type} {ms : List α} {mp : List β} {f : α × β → Bool} {w : β} (hall : (ms.zip mp).all f = true) {M : Nat} {q : α} (h : ms[M]? = some q) (hM : M < mp.length) : f (q, mp.getD M w) = true := by
  have h2 : mp[M]? = some (mp.getD M w) := by
    rw [List.getD_eq_getElem?_getD, List.getElem?_eq_getElem hM]
    rfl
  have h4 : (ms.zip mp)[M]? = some (q, mp.getD M w) := by
    rw [List.getElem?_zip_eq_some]
    exact ⟨h, h2⟩
  exact List.all_eq_true.mp hall _ (List.mem_of_getElem? h4)
theorem ab_not13 {M kd : Nat} {q : abM} (h : ab_ms[M]? = some q) (hk : (ab_mp.getD M (9, 0, 0, 0, 0)).1 = kd) (h9 : kd ≠ 9) : q.2.2.2.2.1 ≠ 13 := by
  have hM : M < ab_mp.length := ab_get_lt hk h9
  have h1 := ab_zip_gen (ms := ab_ms) (mp := ab_mp) (f := fun z => decide (z.1.2.2.2.2.1 ≠ 13)) (w := (9, 0, 0, 0, 0)) ab_n13 h hM
  generalize ab_mp.getD M (9, 0, 0, 0, 0) = w at h1
  exact of_decide_eq_true h1
