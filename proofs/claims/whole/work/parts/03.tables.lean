/-! tables of the class files, by program: classes, methods, fields, links, constants (gen/mk03.py) -/
def rnL : List String := [RX0, RX1, RX2, RX3, RX4, RX5, RX6, RX7, RX8, RX9, RX10, RX11, RL]
def rn (c : Nat) : String := rnL.getD c ""
/-- own class, name, code, locals, what it returns, kind of that (0 nothing, 1 int, 2 long, 3 a reference), frames, words -/
abbrev MI : Type := Nat × MethodName × ByteArray × Nat × Option FieldType × Nat × Nat × Nat
def mtL : List MI := [
  (0, yX0_init, cX0_init, 3, .none, 0, 2, 34),
  (0, yX0_kind, cX0_kind, 1, (some .int), 1, 0, 0),
  (0, yX0_due, cX0_due, 1, (some .int), 1, 1, 20),
  (0, yX0_sharers, cX0_sharers, 2, (some .int), 1, 1, 20),
  (0, yX0_shareOut, cX0_shareOut, 2, .none, 0, 3, 70),
  (1, yX1_init, cX1_init, 3, .none, 0, 3, 56),
  (1, yX1_kind, cX1_kind, 1, (some .int), 1, 0, 0),
  (1, yX1_due, cX1_due, 1, (some .int), 1, 2, 40),
  (1, yX1_sharers, cX1_sharers, 3, (some .int), 1, 2, 43),
  (2, yX2_init, cX2_init, 1, .none, 0, 1, 12),
  (2, yX2_become, cX2_become, 4, .none, 0, 0, 0),
  (2, yX2_copy, cX2_copy, 2, .none, 0, 0, 0),
  (2, yX2_headOwes, cX2_headOwes, 1, (some .int), 1, 1, 21),
  (2, yX2_isCheaperThan, cX2_isCheaperThan, 2, (some .boolean), 1, 0, 0),
  (2, yX2_owe, cX2_owe, 2, .none, 0, 0, 0),
  (2, yX2_pay, cX2_pay, 3, .none, 0, 0, 0),
  (2, yX2_settle, cX2_settle, 3, .none, 0, 1, 22),
  (2, yX2_bear, cX2_bear, 1, .none, 0, 0, 0),
  (2, yX2_passYear, cX2_passYear, 3, .none, 0, 2, 44),
  (2, yX2_passYears, cX2_passYears, 5, .none, 0, 3, 66),
  (3, yX3_init, cX3_init, 2, .none, 0, 2, 32),
  (3, yX3_copy, cX3_copy, 3, .none, 0, 1, 21),
  (3, yX3_at, cX3_at, 2, (some (.object "PaidByTheUnborn$Family")), 3, 0, 0),
  (3, yX3_workAt, cX3_workAt, 2, (some (.object "PaidByTheUnborn$Work")), 3, 0, 0),
  (3, yX3_builtAs, cX3_builtAs, 2, (some .int), 1, 0, 0),
  (3, yX3_isBuilt, cX3_isBuilt, 2, (some .boolean), 1, 0, 0),
  (3, yX3_lacksFamily, cX3_lacksFamily, 2, (some .int), 1, 0, 0),
  (3, yX3_lacksTwo, cX3_lacksTwo, 3, (some .int), 1, 1, 21),
  (3, yX3_lacksEither, cX3_lacksEither, 3, (some .int), 1, 1, 21),
  (3, yX3_takeFamily, cX3_takeFamily, 4, (some .int), 1, 1, 23),
  (3, yX3_takeWork, cX3_takeWork, 4, (some .int), 1, 5, 100),
  (3, yX3_newWork, cX3_newWork, 3, (some (.object "PaidByTheUnborn$Work")), 3, 4, 78),
  (3, yX3_build, cX3_build, 3, (some .int), 1, 4, 91),
  (3, yX3_takeYears, cX3_takeYears, 3, (some .int), 1, 4, 89),
  (3, yX3_takeDebt, cX3_takeDebt, 5, (some .int), 1, 1, 22),
  (3, yX3_takeRate, cX3_takeRate, 4, (some .int), 1, 1, 22),
  (3, yX3_passYear, cX3_passYear, 1, .none, 0, 4, 89),
  (3, yX3_passYears, cX3_passYears, 4, .none, 0, 3, 66),
  (3, yX3_allDebtsBehind, cX3_allDebtsBehind, 2, (some .int), 1, 4, 89),
  (3, yX3_everybody, cX3_everybody, 1, (some .int), 1, 0, 0),
  (3, yX3_bearing, cX3_bearing, 3, (some .int), 1, 1, 21),
  (3, yX3_headsOf, cX3_headsOf, 4, (some .int), 1, 1, 21),
  (3, yX3_mostHeads, cX3_mostHeads, 3, (some .int), 1, 1, 21),
  (3, yX3_leastDebt, cX3_leastDebt, 3, (some .int), 1, 1, 21),
  (3, yX3_allDebts, cX3_allDebts, 3, (some .int), 1, 1, 21),
  (3, yX3_oweNothing, cX3_oweNothing, 3, (some .int), 1, 1, 21),
  (3, yX3_isStuck, cX3_isStuck, 2, (some .boolean), 1, 1, 21),
  (3, yX3_shareAlike, cX3_shareAlike, 4, .none, 0, 1, 24),
  (3, yX3_shareByHeads, cX3_shareByHeads, 7, .none, 0, 2, 44),
  (3, yX3_shareLeftOver, cX3_shareLeftOver, 5, .none, 0, 0, 0),
  (3, yX3_shareToOne, cX3_shareToOne, 4, .none, 0, 0, 0),
  (3, yX3_shareOf, cX3_shareOf, 4, (some .int), 1, 4, 91),
  (3, yX3_oweShares, cX3_oweShares, 2, .none, 0, 1, 21),
  (3, yX3_charge, cX3_charge, 3, .none, 0, 4, 91),
  (3, yX3_chargeSet, cX3_chargeSet, 3, .none, 0, 5, 113),
  (3, yX3_sets, cX3_sets, 1, (some .int), 1, 0, 0),
  (3, yX3_costOf, cX3_costOf, 5, (some .int), 1, 1, 21),
  (3, yX3_unusedWork, cX3_unusedWork, 5, (some .int), 1, 0, 0),
  (4, yX4_init, cX4_init, 2, .none, 0, 3, 53),
  (4, yX4_kept, cX4_kept, 2, (some (.object "PaidByTheUnborn$Ledger")), 3, 0, 0),
  (4, yX4_keep, cX4_keep, 2, .none, 0, 2, 43),
  (4, yX4_takeBack, cX4_takeBack, 2, .none, 0, 2, 43),
  (4, yX4_forget, cX4_forget, 1, .none, 0, 0, 0),
  (5, yX5_init, cX5_init, 3, .none, 0, 3, 56),
  (5, yX5_kind, cX5_kind, 1, (some .int), 1, 0, 0),
  (5, yX5_due, cX5_due, 1, (some .int), 1, 2, 40),
  (5, yX5_payer, cX5_payer, 2, (some .int), 1, 2, 43),
  (6, yX6_init, cX6_init, 3, .none, 0, 3, 56),
  (6, yX6_kind, cX6_kind, 1, (some .int), 1, 0, 0),
  (6, yX6_due, cX6_due, 1, (some .int), 1, 2, 40),
  (7, yX7_init, cX7_init, 1, .none, 0, 1, 12),
  (7, yX7_isFull, cX7_isFull, 1, (some .boolean), 1, 0, 0),
  (7, yX7_add, cX7_add, 2, (some .int), 1, 0, 0),
  (7, yX7_empty, cX7_empty, 1, .none, 0, 0, 0),
  (7, yX7_faultOfForm, cX7_faultOfForm, 3, (some .int), 1, 2, 44),
  (7, yX7_placeBehind, cX7_placeBehind, 4, (some .int), 1, 1, 21),
  (7, yX7_lengthAt, cX7_lengthAt, 2, (some .int), 1, 1, 21),
  (7, yX7_enact, cX7_enact, 3, (some .int), 1, 6, 123),
  (7, yX7_digitsBehind, cX7_digitsBehind, 1, (some .int), 1, 0, 0),
  (7, yX7_letterAt, cX7_letterAt, 2, (some .int), 1, 0, 0),
  (7, yX7_isDigit, cX7_isDigit, 1, (some .boolean), 1, 0, 0),
  (7, yX7_number, cX7_number, 5, (some .int), 1, 1, 21),
  (8, yX8_init, cX8_init, 3, .none, 0, 2, 34),
  (8, yX8_kind, cX8_kind, 1, (some .int), 1, 0, 0),
  (8, yX8_due, cX8_due, 1, (some .int), 1, 1, 20),
  (8, yX8_payer, cX8_payer, 2, (some .int), 1, 2, 43),
  (8, yX8_shareOut, cX8_shareOut, 2, .none, 0, 3, 64),
  (9, yX9_init, cX9_init, 3, .none, 0, 1, 12),
  (9, yX9_kind, cX9_kind, 1, (some .int), 1, 0, 0),
  (9, yX9_due, cX9_due, 1, (some .int), 1, 0, 0),
  (9, yX9_shareOut, cX9_shareOut, 2, .none, 0, 3, 60),
  (10, yX10_init, cX10_init, 1, .none, 0, 4, 74),
  (10, yX10_feed, cX10_feed, 3, (some .int), 1, 1, 22),
  (10, yX10_treasury, cX10_treasury, 5, (some .int), 1, 7, 145),
  (10, yX10_familyOf, cX10_familyOf, 5, (some .int), 1, 2, 41),
  (10, yX10_workOf, cX10_workOf, 4, (some .int), 1, 3, 60),
  (10, yX10_family, cX10_family, 4, (some .int), 1, 2, 46),
  (10, yX10_work, cX10_work, 4, (some .int), 1, 6, 123),
  (10, yX10_builds, cX10_builds, 2, (some .int), 1, 5, 113),
  (10, yX10_years, cX10_years, 2, (some .int), 1, 5, 111),
  (10, yX10_debt, cX10_debt, 3, (some .int), 1, 4, 85),
  (10, yX10_rate, cX10_rate, 2, (some .int), 1, 4, 85),
  (10, yX10_behind, cX10_behind, 5, (some .int), 1, 5, 112),
  (10, yX10_all, cX10_all, 3, (some .int), 1, 5, 110),
  (10, yX10_solvent, cX10_solvent, 3, (some .int), 1, 4, 89),
  (10, yX10_first, cX10_first, 2, (some .int), 1, 6, 134),
  (10, yX10_highest, cX10_highest, 5, (some .int), 1, 5, 113),
  (10, yX10_building, cX10_building, 9, (some .int), 1, 7, 159),
  (10, yX10_oneMore, cX10_oneMore, 7, (some .int), 1, 5, 113),
  (10, yX10_share, cX10_share, 4, (some .int), 1, 5, 114),
  (10, yX10_pulledDown, cX10_pulledDown, 5, (some .int), 1, 5, 114),
  (10, yX10_merger, cX10_merger, 5, (some .int), 1, 5, 114),
  (10, yX10_bestMerger, cX10_bestMerger, 8, (some .int), 1, 6, 134),
  (10, yX10_child, cX10_child, 4, (some .long), 2, 2, 56),
  (10, yX10_cheapest, cX10_cheapest, 4, (some .int), 1, 6, 135),
  (10, yX10_treaty, cX10_treaty, 5, (some .int), 1, 6, 137),
  (10, yX10_signature, cX10_signature, 9, (some .int), 1, 5, 114),
  (10, yX10_whoBuilt, cX10_whoBuilt, 5, (some .int), 1, 7, 157),
  (10, yX10_births, cX10_births, 14, (some .long), 2, 3, 68),
  (10, yX10_back, cX10_back, 1, (some .int), 1, 3, 64),
  (10, yX10_oldest, cX10_oldest, 2, (some .int), 1, 1, 22),
  (10, yX10_order, cX10_order, 7, (some .int), 1, 6, 135),
  (10, yX10_jubilee, cX10_jubilee, 7, (some .int), 1, 5, 110),
  (10, yX10_fair, cX10_fair, 4, (some .int), 1, 4, 88),
  (10, yX10_peak, cX10_peak, 8, (some .int), 1, 3, 66),
  (10, yX10_interest, cX10_interest, 4, (some .int), 1, 5, 112),
  (10, yX10_doubled, cX10_doubled, 5, (some .int), 1, 3, 66),
  (10, yX10_commonPay, cX10_commonPay, 6, (some .int), 1, 5, 110),
  (10, yX10_bestBirths, cX10_bestBirths, 7, (some .int), 1, 4, 90),
  (10, yX10_lump, cX10_lump, 4, (some .int), 1, 4, 89),
  (10, yX10_crosses, cX10_crosses, 5, (some .int), 1, 5, 109),
  (10, yX10_heir, cX10_heir, 6, (some .int), 1, 3, 70),
  (10, yX10_rank, cX10_rank, 2, (some .int), 1, 4, 88),
  (10, yX10_half, cX10_half, 3, (some .int), 1, 5, 109),
  (10, yX10_row, cX10_row, 3, (some .int), 1, 1, 22),
  (10, yX10_judge, cX10_judge, 5, (some .int), 1, 3, 66),
  (10, yX10_clear, cX10_clear, 2, (some .int), 1, 0, 0),
  (10, yX10_lots, cX10_lots, 10, (some .int), 1, 5, 110),
  (10, yX10_image, cX10_image, 1, (some .int), 1, 2, 43),
  (10, yX10_restore, cX10_restore, 1, (some .int), 1, 2, 43),
  (10, yX10_count, cX10_count, 2, (some .int), 1, 2, 44),
  (10, yX10_refused, cX10_refused, 3, (some .int), 1, 0, 0),
  (10, yX10_withoutPast, cX10_withoutPast, 2, (some .int), 1, 1, 22),
  (10, yX10_withPast, cX10_withPast, 2, (some .int), 1, 3, 64),
  (10, yX10_outside, cX10_outside, 3, (some .int), 1, 0, 0),
  (10, yX10_eitherOutside, cX10_eitherOutside, 4, (some .int), 1, 0, 0),
  (10, yX10_otherThan, cX10_otherThan, 2, (some .int), 1, 0, 0),
  (10, yX10_notAhead, cX10_notAhead, 1, (some .int), 1, 1, 22),
  (10, yX10_noFamilyAhead, cX10_noFamilyAhead, 4, (some .int), 1, 2, 42),
  (10, yX10_noTwoAhead, cX10_noTwoAhead, 5, (some .int), 1, 2, 43),
  (10, yX10_ahead, cX10_ahead, 3, .none, 0, 4, 90),
  (10, yX10_headOwesBehind, cX10_headOwesBehind, 3, (some .int), 1, 5, 112),
  (10, yX10_freeBehind, cX10_freeBehind, 4, (some .int), 1, 3, 66),
  (10, yX10_highestRate, cX10_highestRate, 4, (some .int), 1, 4, 90),
  (10, yX10_leastPay, cX10_leastPay, 4, (some .int), 1, 4, 90),
  (10, yX10_mergedHeadOwes, cX10_mergedHeadOwes, 5, (some .int), 1, 4, 90),
  (10, yX10_signedPay, cX10_signedPay, 5, (some .int), 1, 5, 113),
  (10, yX10_costOfPaying, cX10_costOfPaying, 4, (some .int), 1, 4, 90),
  (10, yX10_waysOf, cX10_waysOf, 6, (some .long), 2, 0, 0),
  (10, yX10_bearByChance, cX10_bearByChance, 5, .none, 0, 2, 44),
  (10, yX10_firstFree, cX10_firstFree, 5, (some .int), 1, 4, 89),
  (10, yX10_growing, cX10_growing, 3, (some .int), 1, 5, 112),
  (10, yX10_firstStuck, cX10_firstStuck, 2, (some .int), 1, 5, 109),
  (10, yX10_cheapestFamily, cX10_cheapestFamily, 3, (some .int), 1, 1, 21),
  (10, yX10_bornFree, cX10_bornFree, 4, (some .int), 1, 5, 112),
  (10, yX10_ranked, cX10_ranked, 3, (some .int), 1, 3, 66),
  (10, yX10_ranksAbove, cX10_ranksAbove, 6, (some .int), 1, 2, 41),
  (10, yX10_isBearable, cX10_isBearable, 5, (some .boolean), 1, 6, 135),
  (10, yX10_isToldBy, cX10_isToldBy, 3, (some .boolean), 1, 6, 135),
  (10, yX10_isTold, cX10_isTold, 3, (some .boolean), 1, 1, 21),
  (10, yX10_factorial, cX10_factorial, 3, (some .int), 1, 0, 0),
  (10, yX10_arrange, cX10_arrange, 9, .none, 0, 1, 24),
  (10, yX10_debtsAsTried, cX10_debtsAsTried, 3, (some .int), 1, 5, 113),
  (10, yX10_up, cX10_up, 2, (some .int), 1, 0, 0),
  (10, yX10_inLowestTerms, cX10_inLowestTerms, 7, (some .long), 2, 1, 30),
  (10, yX10_commonDivisor, cX10_commonDivisor, 11, (some .long), 2, 0, 0),
  (10, yX10_nextSeed, cX10_nextSeed, 1, (some .int), 1, 0, 0),
  (10, yX10_drawBelow, cX10_drawBelow, 2, (some .int), 1, 0, 0),
  (11, yX11_init, cX11_init, 1, .none, 0, 1, 12),
  (11, yX11_in, cX11_in, 6, (some .boolean), 1, 0, 0),
  (11, yX11_refuse, cX11_refuse, 2, (some .int), 1, 0, 0),
  (11, yX11_isFamily, cX11_isFamily, 2, (some .boolean), 1, 1, 25),
  (11, yX11_isWork, cX11_isWork, 2, (some .boolean), 1, 1, 25),
  (11, yX11_wrongNumber, cX11_wrongNumber, 3, (some .int), 1, 0, 0),
  (11, yX11_wrongBit, cX11_wrongBit, 3, (some .int), 1, 1, 25),
  (11, yX11_hasBit, cX11_hasBit, 2, (some .boolean), 1, 0, 0),
  (11, yX11_held, cX11_held, 3, (some .int), 1, 0, 0),
  (11, yX11_allHeads, cX11_allHeads, 3, (some .int), 1, 0, 0),
  (11, yX11_allDebts, cX11_allDebts, 3, (some .int), 1, 0, 0),
  (11, yX11_headOwes, cX11_headOwes, 2, (some .int), 1, 0, 0),
  (11, yX11_dueOf, cX11_dueOf, 4, (some .int), 1, 1, 22),
  (11, yX11_mostHeads, cX11_mostHeads, 3, (some .int), 1, 0, 0),
  (11, yX11_leastDebt, cX11_leastDebt, 3, (some .int), 1, 0, 0),
  (11, yX11_layParts, cX11_layParts, 6, .none, 0, 1, 22),
  (11, yX11_layShares, cX11_layShares, 7, .none, 0, 2, 47),
  (11, yX11_lastBuilt, cX11_lastBuilt, 3, (some .int), 1, 0, 0),
  (11, yX11_build, cX11_build, 3, .none, 0, 3, 73),
  (11, yX11_owes, cX11_owes, 4, .none, 0, 0, 0),
  (11, yX11_yearOn, cX11_yearOn, 2, .none, 0, 1, 23),
  (11, yX11_goYears, cX11_goYears, 3, .none, 0, 2, 44),
  (11, yX11_feed, cX11_feed, 2, (some .int), 1, 1, 21),
  (11, yX11_here, cX11_here, 1, (some .int), 1, 0, 0),
  (11, yX11_readDigits, cX11_readDigits, 4, (some .int), 1, 1, 25),
  (11, yX11_isLetter, cX11_isLetter, 1, (some .boolean), 1, 0, 0),
  (11, yX11_readNumbers, cX11_readNumbers, 3, .none, 0, 2, 48),
  (11, yX11_readStatement, cX11_readStatement, 3, .none, 0, 3, 70),
  (11, yX11_familyComes, cX11_familyComes, 4, .none, 0, 0, 0),
  (11, yX11_workComes, cX11_workComes, 4, .none, 0, 0, 0),
  (11, yX11_comesTold, cX11_comesTold, 6, (some .boolean), 1, 4, 95),
  (11, yX11_treasury, cX11_treasury, 2, (some .int), 1, 5, 120),
  (11, yX11_carry, cX11_carry, 2, (some .int), 1, 0, 0),
  (11, yX11_carryAll, cX11_carryAll, 4, .none, 0, 1, 21),
  (11, yX11_think, cX11_think, 1, .none, 0, 2, 44),
  (11, yX11_again, cX11_again, 1, .none, 0, 2, 44),
  (11, yX11_image, cX11_image, 1, (some .int), 1, 2, 44),
  (11, yX11_restore, cX11_restore, 1, (some .int), 1, 2, 44),
  (11, yX11_keepTurn, cX11_keepTurn, 2, .none, 0, 2, 44),
  (11, yX11_back, cX11_back, 2, (some .int), 1, 2, 44),
  (11, yX11_familyOf, cX11_familyOf, 3, (some .int), 1, 2, 46),
  (11, yX11_workOf, cX11_workOf, 3, (some .int), 1, 2, 46),
  (11, yX11_family, cX11_family, 5, (some .int), 1, 1, 23),
  (11, yX11_work, cX11_work, 5, (some .int), 1, 1, 25),
  (11, yX11_builds, cX11_builds, 3, (some .int), 1, 4, 95),
  (11, yX11_years, cX11_years, 3, (some .int), 1, 3, 66),
  (11, yX11_debt, cX11_debt, 5, (some .int), 1, 3, 65),
  (11, yX11_rate, cX11_rate, 3, (some .int), 1, 3, 65),
  (11, yX11_behind, cX11_behind, 6, (some .int), 1, 3, 66),
  (11, yX11_allIn, cX11_allIn, 3, (some .int), 1, 3, 66),
  (11, yX11_all, cX11_all, 2, (some .int), 1, 4, 88),
  (11, yX11_solventIn, cX11_solventIn, 3, (some .int), 1, 3, 64),
  (11, yX11_solvent, cX11_solvent, 2, (some .int), 1, 4, 86),
  (11, yX11_stuckIn, cX11_stuckIn, 4, (some .int), 1, 3, 64),
  (11, yX11_growBits, cX11_growBits, 4, (some .int), 1, 3, 64),
  (11, yX11_first, cX11_first, 6, (some .int), 1, 4, 87),
  (11, yX11_highest, cX11_highest, 8, (some .int), 1, 3, 66),
  (11, yX11_noneOwes, cX11_noneOwes, 4, (some .boolean), 1, 1, 21),
  (11, yX11_builtBits, cX11_builtBits, 3, (some .int), 1, 0, 0),
  (11, yX11_buildAll, cX11_buildAll, 3, .none, 0, 4, 95),
  (11, yX11_building, cX11_building, 11, (some .int), 1, 5, 117),
  (11, yX11_oneMore, cX11_oneMore, 6, (some .int), 1, 4, 95),
  (11, yX11_share, cX11_share, 3, (some .int), 1, 3, 73),
  (11, yX11_pulledDown, cX11_pulledDown, 8, (some .int), 1, 3, 73),
  (11, yX11_headIn, cX11_headIn, 4, (some .int), 1, 3, 66),
  (11, yX11_mergedIn, cX11_mergedIn, 5, (some .int), 1, 3, 66),
  (11, yX11_merger, cX11_merger, 5, (some .int), 1, 4, 90),
  (11, yX11_bestMerger, cX11_bestMerger, 8, (some .int), 1, 4, 90),
  (11, yX11_divisor, cX11_divisor, 10, (some .long), 2, 0, 0),
  (11, yX11_partOf, cX11_partOf, 7, (some .long), 2, 1, 29),
  (11, yX11_child, cX11_child, 4, (some .long), 2, 2, 55),
  (11, yX11_cheapest, cX11_cheapest, 6, (some .int), 1, 3, 66),
  (11, yX11_burden, cX11_burden, 5, (some .int), 1, 3, 66),
  (11, yX11_treaty, cX11_treaty, 7, (some .int), 1, 4, 90),
  (11, yX11_signature, cX11_signature, 8, (some .int), 1, 3, 73),
  (11, yX11_whoBuilt, cX11_whoBuilt, 8, (some .int), 1, 5, 117),
  (11, yX11_births, cX11_births, 15, (some .long), 2, 3, 64),
  (11, yX11_oldest, cX11_oldest, 5, (some .int), 1, 1, 25),
  (11, yX11_ordersOf, cX11_ordersOf, 3, (some .int), 1, 0, 0),
  (11, yX11_layOrder, cX11_layOrder, 9, .none, 0, 1, 22),
  (11, yX11_order, cX11_order, 9, (some .int), 1, 4, 95),
  (11, yX11_jubilee, cX11_jubilee, 6, (some .int), 1, 4, 88),
  (11, yX11_fair, cX11_fair, 5, (some .int), 1, 1, 25),
  (11, yX11_peak, cX11_peak, 8, (some .int), 1, 3, 64),
  (11, yX11_interest, cX11_interest, 6, (some .int), 1, 3, 64),
  (11, yX11_doubled, cX11_doubled, 5, (some .int), 1, 3, 64),
  (11, yX11_commonPay, cX11_commonPay, 7, (some .int), 1, 4, 88),
  (11, yX11_bestBirths, cX11_bestBirths, 8, (some .int), 1, 3, 66),
  (11, yX11_lump, cX11_lump, 5, (some .int), 1, 3, 64),
  (11, yX11_crosses, cX11_crosses, 5, (some .int), 1, 3, 64),
  (11, yX11_heir, cX11_heir, 9, (some .int), 1, 2, 46),
  (11, yX11_rank, cX11_rank, 5, (some .int), 1, 1, 21),
  (11, yX11_half, cX11_half, 4, (some .int), 1, 3, 64),
  (11, yX11_row, cX11_row, 2, (some .int), 1, 1, 21),
  (11, yX11_judge, cX11_judge, 5, (some .int), 1, 3, 64),
  (11, yX11_clear, cX11_clear, 2, (some .int), 1, 0, 0),
  (11, yX11_drawBelow, cX11_drawBelow, 2, (some .int), 1, 0, 0),
  (11, yX11_lots, cX11_lots, 9, (some .int), 1, 3, 66),
  (11, yX11_count, cX11_count, 2, (some .int), 1, 1, 25),
  (12, yL_law, cL_law, 4, (some .boolean), 1, 8, 187)]
def mth (M : Nat) : MI := mtL.getD M (0, yL_law, cL_law, 0, none, 0, 0, 0)
def ownOf (M : Nat) : Nat := (mth M).1
def yOf (M : Nat) : MethodName := (mth M).2.1
def codeOf (M : Nat) : ByteArray := (mth M).2.2.1
def mxl (M : Nat) : Nat := (mth M).2.2.2.1
def retOf (M : Nat) : Option FieldType := (mth M).2.2.2.2.1
def rkOf (M : Nat) : Nat := (mth M).2.2.2.2.2.1
def frm (M : Nat) : Nat := (mth M).2.2.2.2.2.2.1
def lom (M : Nat) : Nat := (mth M).2.2.2.2.2.2.2
def lk2 {α : Type} (o i : Nat) : List (Nat × Nat × α) → Option α
  | [] => none
  | (a, b, x) :: l => bif Nat.beq a o && Nat.beq b i then some x else lk2 o i l
def cstIL : List (Nat × Nat × Int32) := [(2, 37, (99999)), (3, 122, (99999)), (10, 219, (2147483647)), (10, 337, (99999)), (10, 417, (1103515245)), (10, 418, (65536)), (11, 96, (99999)), (11, 271, (999999)), (11, 307, (1103515245)), (11, 308, (2147483647)), (11, 309, (65536))]
def cstLL : List (Nat × Nat × Int64) := [(10, 261, (4000000000000000000)), (11, 150, (48)), (11, 152, (57)), (11, 168, (20)), (11, 183, (60)), (11, 225, (4)), (11, 230, (5)), (11, 250, (2)), (11, 283, (4000000000000000000)), (11, 313, (11)), (11, 315, (16))]
def clsL : List (Nat × Nat × Nat) := [(3, 15, 2), (3, 22, 9), (3, 81, 0), (3, 86, 8), (3, 89, 1), (3, 92, 5), (3, 95, 6), (4, 9, 3), (10, 7, 3), (10, 22, 4), (10, 29, 7), (10, 43, 2), (12, 7, 10), (12, 10, 11)]
/-- a field: its place, its type (0 int, 1 boolean, 2 a reference), whether it may be written (0 yes, 1 by a constructor of this class, 2 no), the kinds of object -/
abbrev FR : Type := Nat × Nat × Nat × List Nat
def fldL : List (Nat × Nat × FR) := [(0, 11, 0, 0, 2, [1, 2, 7]),
  (2, 9, 0, 0, 0, [3]),
  (2, 15, 1, 0, 0, [3]),
  (2, 18, 2, 0, 0, [3]),
  (2, 21, 3, 0, 0, [3]),
  (2, 24, 4, 0, 0, [3]),
  (2, 27, 5, 0, 0, [3]),
  (2, 30, 6, 0, 0, [3]),
  (3, 9, 3, 0, 0, [4]),
  (3, 17, 6, 2, 1, [4]),
  (3, 24, 7, 2, 1, [4]),
  (3, 28, 8, 2, 1, [4]),
  (3, 32, 9, 2, 1, [4]),
  (3, 35, 0, 0, 0, [4]),
  (3, 38, 1, 0, 0, [4]),
  (3, 41, 2, 0, 0, [4]),
  (3, 44, 4, 0, 0, [4]),
  (3, 47, 5, 0, 0, [4]),
  (3, 123, 1, 0, 0, [3]),
  (3, 129, 3, 0, 0, [3]),
  (3, 132, 0, 0, 0, [3]),
  (3, 150, 1, 0, 2, [1, 2, 6, 7, 9, 10]),
  (4, 11, 0, 2, 1, [5]),
  (4, 18, 1, 0, 0, [5]),
  (4, 30, 2, 0, 0, [5]),
  (5, 11, 0, 0, 2, [6]),
  (6, 11, 1, 0, 2, [7]),
  (7, 9, 0, 2, 1, [8]),
  (7, 15, 1, 0, 0, [8]),
  (9, 7, 0, 0, 1, [1, 2, 6, 7, 9, 10]),
  (9, 13, 1, 0, 1, [1, 2, 6, 7, 9, 10]),
  (10, 10, 0, 2, 1, [11]),
  (10, 16, 1, 2, 1, [11]),
  (10, 19, 2, 2, 1, [11]),
  (10, 25, 4, 2, 1, [11]),
  (10, 32, 5, 2, 1, [11]),
  (10, 36, 6, 2, 1, [11]),
  (10, 40, 8, 2, 1, [11]),
  (10, 46, 9, 2, 1, [11]),
  (10, 50, 10, 2, 1, [11]),
  (10, 53, 11, 2, 1, [11]),
  (10, 56, 12, 2, 1, [11]),
  (10, 82, 1, 0, 0, [8]),
  (10, 110, 0, 0, 0, [3]),
  (10, 113, 1, 0, 0, [3]),
  (10, 116, 2, 0, 0, [3]),
  (10, 119, 3, 0, 0, [3]),
  (10, 134, 0, 0, 2, [1, 2, 6, 7, 9, 10]),
  (10, 137, 1, 0, 2, [1, 2, 6, 7, 9, 10]),
  (10, 212, 4, 0, 0, [4]),
  (10, 220, 1, 0, 0, [4]),
  (10, 239, 3, 0, 0, [4]),
  (10, 242, 2, 0, 0, [4]),
  (10, 255, 0, 0, 0, [4]),
  (10, 285, 7, 0, 0, [11]),
  (10, 298, 2, 0, 0, [5]),
  (10, 302, 5, 0, 0, [4]),
  (10, 334, 4, 0, 0, [3]),
  (10, 371, 3, 1, 0, [11]),
  (10, 384, 5, 0, 0, [3]),
  (10, 400, 6, 0, 0, [3]),
  (11, 7, 1, 2, 1, [12]),
  (11, 13, 2, 2, 1, [12]),
  (11, 16, 3, 2, 1, [12]),
  (11, 19, 4, 2, 1, [12]),
  (11, 22, 5, 0, 0, [12]),
  (11, 26, 8, 2, 1, [12]),
  (11, 29, 9, 2, 1, [12]),
  (11, 32, 10, 2, 1, [12]),
  (11, 35, 11, 2, 1, [12]),
  (11, 38, 13, 2, 1, [12]),
  (11, 41, 14, 2, 1, [12]),
  (11, 44, 15, 2, 1, [12]),
  (11, 47, 17, 2, 1, [12]),
  (11, 50, 18, 2, 1, [12]),
  (11, 53, 23, 2, 1, [12]),
  (11, 56, 24, 2, 1, [12]),
  (11, 59, 25, 2, 1, [12]),
  (11, 62, 26, 2, 1, [12]),
  (11, 65, 27, 2, 1, [12]),
  (11, 68, 32, 2, 1, [12]),
  (11, 71, 33, 2, 1, [12]),
  (11, 74, 35, 2, 1, [12]),
  (11, 77, 37, 2, 1, [12]),
  (11, 80, 38, 2, 1, [12]),
  (11, 83, 12, 0, 0, [12]),
  (11, 86, 0, 0, 0, [12]),
  (11, 93, 7, 0, 0, [12]),
  (11, 122, 6, 0, 0, [12]),
  (11, 128, 16, 0, 0, [12]),
  (11, 137, 19, 0, 0, [12]),
  (11, 140, 20, 0, 0, [12]),
  (11, 143, 21, 1, 0, [12]),
  (11, 157, 22, 0, 0, [12]),
  (11, 203, 34, 0, 0, [12]),
  (11, 206, 30, 1, 0, [12]),
  (11, 209, 31, 2, 0, [12]),
  (11, 212, 29, 0, 0, [12]),
  (11, 222, 28, 1, 0, [12]),
  (11, 295, 36, 0, 0, [12]),
  (11, 304, 39, 0, 0, [12])]
/-- a call: 0 by the receiver, 1 a constructor, 2 of a nest mate, 3 of super, 4 static, 5 of a nest mate, 6 Object, 7 max, 8 min, 9 arraycopy; how many arguments; the methods by kind of receiver -/
abbrev CR0 : Type := Nat × Nat × List (Nat × Nat)
def calL : List (Nat × Nat × CR0) := [(0, 1, 1, 2, [(0, 87)]),
  (0, 7, 3, 0, [(0, 89)]),
  (0, 17, 0, 0, [(4, 39)]),
  (0, 22, 0, 0, [(1, 2), (2, 7), (7, 69)]),
  (0, 23, 0, 1, [(1, 3), (2, 8), (7, 3)]),
  (0, 27, 0, 2, [(4, 48)]),
  (1, 1, 1, 2, [(0, 0)]),
  (1, 7, 3, 0, [(0, 2)]),
  (1, 11, 0, 0, [(4, 40)]),
  (1, 16, 0, 0, [(4, 39)]),
  (2, 3, 6, 0, []),
  (2, 33, 5, 2, [(0, 173)]),
  (2, 38, 0, 1, [(3, 14)]),
  (2, 42, 0, 1, [(3, 15)]),
  (2, 45, 0, 1, [(3, 16)]),
  (2, 48, 0, 0, [(3, 17)]),
  (2, 51, 0, 2, [(3, 18)]),
  (3, 3, 6, 0, []),
  (3, 21, 2, 0, [(0, 9)]),
  (3, 50, 0, 1, [(4, 22)]),
  (3, 54, 0, 1, [(3, 11)]),
  (3, 58, 0, 1, [(4, 23)]),
  (3, 62, 0, 1, [(4, 24)]),
  (3, 66, 0, 1, [(4, 26)]),
  (3, 69, 0, 3, [(3, 10)]),
  (3, 73, 5, 2, [(0, 146)]),
  (3, 77, 4, 3, [(0, 31)]),
  (3, 83, 1, 2, [(0, 0)]),
  (3, 88, 1, 2, [(0, 82)]),
  (3, 91, 1, 2, [(0, 5)]),
  (3, 94, 1, 2, [(0, 63)]),
  (3, 97, 1, 2, [(0, 67)]),
  (3, 98, 1, 2, [(0, 87)]),
  (3, 99, 0, 1, [(4, 25)]),
  (3, 103, 0, 1, [(1, 4), (2, 4), (6, 86), (7, 4), (9, 86), (10, 90)]),
  (3, 107, 0, 0, [(4, 52)]),
  (3, 110, 0, 0, [(4, 44)]),
  (3, 114, 5, 3, [(0, 144)]),
  (3, 118, 0, 1, [(4, 37)]),
  (3, 126, 0, 2, [(3, 18)]),
  (3, 135, 0, 0, [(4, 39)]),
  (3, 138, 0, 2, [(4, 49)]),
  (3, 141, 0, 1, [(4, 41)]),
  (3, 144, 0, 1, [(3, 14)]),
  (3, 147, 0, 1, [(4, 53)]),
  (4, 3, 6, 0, []),
  (4, 17, 1, 0, [(0, 20)]),
  (4, 22, 0, 1, [(5, 59)]),
  (4, 26, 0, 1, [(4, 21)]),
  (4, 33, 8, 2, []),
  (5, 1, 1, 2, [(0, 82)]),
  (5, 7, 3, 0, [(0, 84)]),
  (5, 17, 7, 2, []),
  (5, 23, 0, 0, [(4, 43)]),
  (6, 1, 1, 2, [(0, 0)]),
  (6, 7, 3, 0, [(0, 2)]),
  (7, 3, 6, 0, []),
  (7, 19, 0, 1, [(8, 75)]),
  (7, 23, 0, 1, [(8, 79)]),
  (7, 26, 4, 1, [(0, 78)]),
  (7, 29, 4, 1, [(0, 80)]),
  (7, 33, 0, 2, [(8, 81)]),
  (7, 37, 0, 3, [(4, 29)]),
  (7, 43, 0, 3, [(4, 30)]),
  (7, 46, 0, 1, [(4, 32)]),
  (7, 49, 0, 1, [(4, 35)]),
  (7, 52, 0, 1, [(4, 33)]),
  (7, 55, 0, 2, [(4, 34)]),
  (8, 1, 1, 2, [(0, 87)]),
  (8, 7, 3, 0, [(0, 89)]),
  (8, 11, 0, 0, [(4, 42)]),
  (8, 16, 0, 0, [(6, 65), (9, 84)]),
  (8, 19, 0, 1, [(6, 66), (9, 85)]),
  (8, 23, 0, 2, [(4, 50)]),
  (9, 1, 6, 0, []),
  (9, 16, 0, 0, [(1, 2), (2, 7), (6, 65), (7, 69), (9, 84), (10, 89)]),
  (9, 20, 0, 1, [(4, 47)]),
  (10, 1, 6, 0, []),
  (10, 9, 1, 0, [(0, 20)]),
  (10, 24, 1, 0, [(0, 58)]),
  (10, 31, 1, 0, [(0, 70)]),
  (10, 45, 2, 0, [(0, 9)]),
  (10, 59, 4, 3, [(0, 144)]),
  (10, 63, 0, 0, [(8, 71)]),
  (10, 67, 0, 1, [(11, 141)]),
  (10, 71, 0, 1, [(8, 72)]),
  (10, 74, 0, 1, [(4, 21)]),
  (10, 78, 0, 0, [(8, 74)]),
  (10, 86, 0, 2, [(8, 77)]),
  (10, 90, 0, 1, [(8, 76)]),
  (10, 93, 0, 0, [(8, 73)]),
  (10, 96, 0, 0, [(5, 62)]),
  (10, 99, 0, 1, [(4, 26)]),
  (10, 102, 4, 2, [(0, 146)]),
  (10, 106, 0, 1, [(4, 22)]),
  (10, 122, 0, 0, [(3, 12)]),
  (10, 125, 0, 1, [(4, 23)]),
  (10, 129, 0, 0, [(1, 1), (2, 6), (6, 64), (7, 68), (9, 83), (10, 88)]),
  (10, 140, 0, 0, [(1, 2), (2, 7), (6, 65), (7, 69), (9, 84), (10, 89)]),
  (10, 143, 0, 1, [(4, 25)]),
  (10, 147, 0, 3, [(4, 29)]),
  (10, 150, 0, 1, [(11, 142)]),
  (10, 153, 0, 3, [(4, 30)]),
  (10, 156, 0, 1, [(4, 32)]),
  (10, 159, 0, 1, [(11, 143)]),
  (10, 162, 0, 1, [(4, 33)]),
  (10, 165, 0, 2, [(4, 34)]),
  (10, 168, 0, 1, [(4, 35)]),
  (10, 171, 0, 2, [(11, 148)]),
  (10, 174, 0, 2, [(11, 150)]),
  (10, 178, 4, 1, [(0, 147)]),
  (10, 181, 0, 1, [(4, 38)]),
  (10, 184, 0, 2, [(11, 152)]),
  (10, 187, 0, 0, [(11, 160)]),
  (10, 190, 0, 0, [(11, 161)]),
  (10, 193, 0, 0, [(11, 162)]),
  (10, 196, 0, 2, [(11, 153)]),
  (10, 199, 0, 2, [(11, 154)]),
  (10, 202, 4, 4, [(0, 145)]),
  (10, 206, 0, 0, [(4, 55)]),
  (10, 209, 0, 1, [(4, 56)]),
  (10, 215, 0, 3, [(11, 167)]),
  (10, 223, 0, 1, [(4, 53)]),
  (10, 227, 0, 2, [(4, 28)]),
  (10, 230, 0, 2, [(4, 51)]),
  (10, 233, 0, 1, [(3, 11)]),
  (10, 236, 0, 1, [(3, 15)]),
  (10, 245, 0, 3, [(3, 19)]),
  (10, 249, 0, 3, [(11, 149)]),
  (10, 252, 0, 3, [(11, 155)]),
  (10, 258, 0, 2, [(11, 151)]),
  (10, 263, 4, 3, [(0, 174)]),
  (10, 267, 0, 0, [(11, 163)]),
  (10, 270, 0, 1, [(11, 164)]),
  (10, 273, 0, 2, [(11, 156)]),
  (10, 276, 0, 0, [(4, 39)]),
  (10, 279, 0, 1, [(4, 41)]),
  (10, 282, 4, 2, [(0, 173)]),
  (10, 288, 0, 1, [(11, 168)]),
  (10, 291, 4, 3, [(0, 158)]),
  (10, 295, 0, 3, [(11, 159)]),
  (10, 299, 0, 1, [(5, 61)]),
  (10, 305, 0, 1, [(4, 24)]),
  (10, 308, 4, 1, [(0, 170)]),
  (10, 311, 0, 2, [(11, 171)]),
  (10, 314, 0, 1, [(11, 172)]),
  (10, 317, 8, 2, []),
  (10, 322, 9, 5, []),
  (10, 328, 0, 1, [(11, 165)]),
  (10, 331, 0, 2, [(3, 18)]),
  (10, 338, 0, 2, [(4, 27)]),
  (10, 341, 0, 0, [(4, 36)]),
  (10, 343, 0, 2, [(4, 48)]),
  (10, 346, 0, 0, [(4, 52)]),
  (10, 349, 7, 2, []),
  (10, 352, 0, 0, [(4, 44)]),
  (10, 355, 0, 0, [(11, 136)]),
  (10, 358, 0, 2, [(11, 169)]),
  (10, 362, 4, 1, [(0, 176)]),
  (10, 365, 4, 2, [(0, 177)]),
  (10, 368, 0, 0, [(4, 45)]),
  (10, 375, 0, 1, [(5, 60)]),
  (10, 378, 0, 1, [(3, 14)]),
  (10, 381, 0, 3, [(11, 157)]),
  (10, 387, 0, 1, [(3, 16)]),
  (10, 390, 0, 0, [(3, 17)]),
  (10, 393, 0, 0, [(4, 46)]),
  (10, 396, 0, 1, [(3, 13)]),
  (10, 402, 0, 1, [(11, 166)]),
  (10, 405, 0, 1, [(4, 54)]),
  (10, 408, 0, 1, [(4, 37)]),
  (10, 410, 0, 2, [(4, 57)]),
  (10, 413, 4, 2, [(0, 175)]),
  (11, 1, 6, 0, []),
  (11, 89, 4, 3, [(0, 179)]),
  (11, 97, 4, 3, [(0, 186)]),
  (11, 101, 0, 0, [(12, 191)]),
  (11, 105, 0, 0, [(12, 192)]),
  (11, 108, 0, 1, [(12, 193)]),
  (11, 112, 0, 1, [(12, 190)]),
  (11, 116, 0, 1, [(12, 194)]),
  (11, 119, 0, 0, [(12, 195)]),
  (11, 125, 0, 1, [(12, 197)]),
  (11, 131, 0, 0, [(12, 198)]),
  (11, 134, 0, 1, [(12, 180)]),
  (11, 147, 0, 0, [(12, 201)]),
  (11, 154, 0, 1, [(12, 202)]),
  (11, 160, 4, 1, [(0, 203)]),
  (11, 164, 0, 2, [(12, 204)]),
  (11, 170, 0, 3, [(12, 206)]),
  (11, 174, 0, 3, [(12, 207)]),
  (11, 177, 0, 1, [(12, 182)]),
  (11, 180, 0, 1, [(12, 196)]),
  (11, 185, 0, 1, [(12, 199)]),
  (11, 188, 0, 1, [(12, 181)]),
  (11, 191, 0, 0, [(12, 205)]),
  (11, 194, 0, 0, [(12, 212)]),
  (11, 197, 0, 1, [(12, 208)]),
  (11, 200, 0, 0, [(12, 213)]),
  (11, 215, 0, 1, [(12, 210)]),
  (11, 218, 0, 2, [(12, 211)]),
  (11, 227, 0, 1, [(12, 189)]),
  (11, 232, 0, 0, [(12, 216)]),
  (11, 235, 0, 0, [(12, 188)]),
  (11, 238, 4, 3, [(0, 183)]),
  (11, 241, 4, 3, [(0, 184)]),
  (11, 244, 0, 1, [(12, 227)]),
  (11, 247, 0, 1, [(12, 229)]),
  (11, 252, 0, 0, [(12, 232)]),
  (11, 255, 0, 0, [(12, 231)]),
  (11, 258, 4, 2, [(0, 185)]),
  (11, 262, 0, 0, [(12, 236)]),
  (11, 265, 0, 1, [(12, 237)]),
  (11, 268, 0, 1, [(12, 235)]),
  (11, 272, 0, 3, [(12, 243)]),
  (11, 275, 0, 2, [(12, 242)]),
  (11, 279, 4, 2, [(0, 246)]),
  (11, 285, 4, 3, [(0, 247)]),
  (11, 289, 0, 3, [(12, 250)]),
  (11, 292, 0, 0, [(12, 187)]),
  (11, 298, 4, 1, [(0, 256)]),
  (11, 301, 0, 2, [(12, 257)]),
  (11, 310, 0, 1, [(12, 274)]),
  (12, 9, 1, 0, [(0, 91)]),
  (12, 12, 1, 0, [(0, 178)]),
  (12, 13, 0, 1, [(11, 92)]),
  (12, 17, 0, 1, [(12, 200)]),
  (12, 18, 0, 0, [(11, 93)]),
  (12, 22, 0, 0, [(12, 209)]),
  (12, 23, 0, 2, [(11, 94)]),
  (12, 27, 0, 2, [(12, 218)]),
  (12, 28, 0, 2, [(11, 95)]),
  (12, 31, 0, 2, [(12, 219)]),
  (12, 32, 0, 3, [(11, 96)]),
  (12, 36, 0, 3, [(12, 220)]),
  (12, 37, 0, 3, [(11, 97)]),
  (12, 40, 0, 3, [(12, 221)]),
  (12, 41, 0, 1, [(11, 98)]),
  (12, 44, 0, 1, [(12, 222)]),
  (12, 45, 0, 1, [(11, 99)]),
  (12, 48, 0, 1, [(12, 223)]),
  (12, 49, 0, 2, [(11, 100)]),
  (12, 52, 0, 2, [(12, 224)]),
  (12, 53, 0, 1, [(11, 101)]),
  (12, 56, 0, 1, [(12, 225)]),
  (12, 57, 0, 0, [(11, 119)]),
  (12, 60, 0, 0, [(12, 217)]),
  (12, 61, 0, 3, [(11, 102)]),
  (12, 64, 0, 3, [(12, 226)]),
  (12, 65, 0, 1, [(11, 103)]),
  (12, 68, 0, 1, [(12, 228)]),
  (12, 69, 0, 1, [(11, 104)]),
  (12, 72, 0, 1, [(12, 230)]),
  (12, 73, 0, 1, [(11, 105)]),
  (12, 76, 0, 1, [(12, 233)]),
  (12, 77, 0, 3, [(11, 106)]),
  (12, 80, 0, 3, [(12, 234)]),
  (12, 81, 0, 3, [(11, 107)]),
  (12, 84, 0, 3, [(12, 238)]),
  (12, 85, 0, 1, [(11, 108)]),
  (12, 88, 0, 1, [(12, 239)]),
  (12, 89, 0, 2, [(11, 109)]),
  (12, 92, 0, 2, [(12, 240)]),
  (12, 93, 0, 3, [(11, 110)]),
  (12, 96, 0, 3, [(12, 241)]),
  (12, 97, 0, 3, [(11, 111)]),
  (12, 100, 0, 3, [(12, 244)]),
  (12, 101, 0, 1, [(11, 112)]),
  (12, 104, 0, 1, [(12, 245)]),
  (12, 105, 0, 2, [(11, 113)]),
  (12, 109, 0, 2, [(12, 248)]),
  (12, 110, 0, 2, [(11, 114)]),
  (12, 113, 0, 2, [(12, 249)]),
  (12, 114, 0, 3, [(11, 115)]),
  (12, 117, 0, 3, [(12, 251)]),
  (12, 118, 0, 2, [(11, 116)]),
  (12, 121, 0, 2, [(12, 252)]),
  (12, 122, 0, 1, [(11, 117)]),
  (12, 125, 0, 1, [(12, 253)]),
  (12, 126, 0, 5, [(11, 118)]),
  (12, 130, 0, 5, [(12, 254)]),
  (12, 131, 0, 1, [(11, 120)]),
  (12, 134, 0, 1, [(12, 255)]),
  (12, 135, 0, 1, [(11, 121)]),
  (12, 138, 0, 1, [(12, 258)]),
  (12, 139, 0, 1, [(11, 122)]),
  (12, 142, 0, 1, [(12, 259)]),
  (12, 143, 0, 1, [(11, 123)]),
  (12, 146, 0, 1, [(12, 260)]),
  (12, 147, 0, 3, [(11, 124)]),
  (12, 150, 0, 3, [(12, 261)]),
  (12, 151, 0, 2, [(11, 125)]),
  (12, 154, 0, 2, [(12, 262)]),
  (12, 155, 0, 1, [(11, 126)]),
  (12, 158, 0, 1, [(12, 263)]),
  (12, 159, 0, 2, [(11, 127)]),
  (12, 162, 0, 2, [(12, 264)]),
  (12, 163, 0, 2, [(11, 128)]),
  (12, 166, 0, 2, [(12, 265)]),
  (12, 167, 0, 2, [(11, 129)]),
  (12, 170, 0, 2, [(12, 266)]),
  (12, 171, 0, 2, [(11, 130)]),
  (12, 174, 0, 2, [(12, 267)]),
  (12, 175, 0, 1, [(11, 131)]),
  (12, 178, 0, 1, [(12, 268)]),
  (12, 179, 0, 1, [(11, 132)]),
  (12, 182, 0, 1, [(12, 269)]),
  (12, 183, 0, 0, [(11, 133)]),
  (12, 186, 0, 0, [(12, 270)]),
  (12, 187, 0, 1, [(11, 134)]),
  (12, 190, 0, 1, [(12, 271)]),
  (12, 191, 0, 1, [(11, 135)]),
  (12, 194, 0, 1, [(12, 272)]),
  (12, 195, 0, 0, [(11, 136)]),
  (12, 198, 0, 0, [(12, 273)]),
  (12, 199, 0, 3, [(11, 137)]),
  (12, 202, 0, 3, [(12, 275)]),
  (12, 203, 0, 0, [(11, 138)]),
  (12, 206, 0, 0, [(12, 214)]),
  (12, 207, 0, 0, [(11, 139)]),
  (12, 210, 0, 0, [(12, 215)]),
  (12, 211, 0, 1, [(11, 140)]),
  (12, 214, 0, 1, [(12, 276)])]
def nslL : List Nat := [2, 2, 7, 10, 3, 2, 2, 2, 2, 2, 13, 40]
abbrev m_Bridge_init : Nat := 0
theorem cd_Bridge_init : codeOf m_Bridge_init = cX0_init := rfl
abbrev m_Bridge_kind : Nat := 1
theorem cd_Bridge_kind : codeOf m_Bridge_kind = cX0_kind := rfl
abbrev m_Bridge_due : Nat := 2
theorem cd_Bridge_due : codeOf m_Bridge_due = cX0_due := rfl
abbrev m_Bridge_sharers : Nat := 3
theorem cd_Bridge_sharers : codeOf m_Bridge_sharers = cX0_sharers := rfl
abbrev m_Bridge_shareOut : Nat := 4
theorem cd_Bridge_shareOut : codeOf m_Bridge_shareOut = cX0_shareOut := rfl
abbrev m_Cradle_init : Nat := 5
theorem cd_Cradle_init : codeOf m_Cradle_init = cX1_init := rfl
abbrev m_Cradle_kind : Nat := 6
theorem cd_Cradle_kind : codeOf m_Cradle_kind = cX1_kind := rfl
abbrev m_Cradle_due : Nat := 7
theorem cd_Cradle_due : codeOf m_Cradle_due = cX1_due := rfl
abbrev m_Cradle_sharers : Nat := 8
theorem cd_Cradle_sharers : codeOf m_Cradle_sharers = cX1_sharers := rfl
abbrev m_Family_init : Nat := 9
theorem cd_Family_init : codeOf m_Family_init = cX2_init := rfl
abbrev m_Family_become : Nat := 10
theorem cd_Family_become : codeOf m_Family_become = cX2_become := rfl
abbrev m_Family_copy : Nat := 11
theorem cd_Family_copy : codeOf m_Family_copy = cX2_copy := rfl
abbrev m_Family_headOwes : Nat := 12
theorem cd_Family_headOwes : codeOf m_Family_headOwes = cX2_headOwes := rfl
abbrev m_Family_isCheaperThan : Nat := 13
theorem cd_Family_isCheaperThan : codeOf m_Family_isCheaperThan = cX2_isCheaperThan := rfl
abbrev m_Family_owe : Nat := 14
theorem cd_Family_owe : codeOf m_Family_owe = cX2_owe := rfl
abbrev m_Family_pay : Nat := 15
theorem cd_Family_pay : codeOf m_Family_pay = cX2_pay := rfl
abbrev m_Family_settle : Nat := 16
theorem cd_Family_settle : codeOf m_Family_settle = cX2_settle := rfl
abbrev m_Family_bear : Nat := 17
theorem cd_Family_bear : codeOf m_Family_bear = cX2_bear := rfl
abbrev m_Family_passYear : Nat := 18
theorem cd_Family_passYear : codeOf m_Family_passYear = cX2_passYear := rfl
abbrev m_Family_passYears : Nat := 19
theorem cd_Family_passYears : codeOf m_Family_passYears = cX2_passYears := rfl
abbrev m_Ledger_init : Nat := 20
theorem cd_Ledger_init : codeOf m_Ledger_init = cX3_init := rfl
abbrev m_Ledger_copy : Nat := 21
theorem cd_Ledger_copy : codeOf m_Ledger_copy = cX3_copy := rfl
abbrev m_Ledger_at : Nat := 22
theorem cd_Ledger_at : codeOf m_Ledger_at = cX3_at := rfl
abbrev m_Ledger_workAt : Nat := 23
theorem cd_Ledger_workAt : codeOf m_Ledger_workAt = cX3_workAt := rfl
abbrev m_Ledger_builtAs : Nat := 24
theorem cd_Ledger_builtAs : codeOf m_Ledger_builtAs = cX3_builtAs := rfl
abbrev m_Ledger_isBuilt : Nat := 25
theorem cd_Ledger_isBuilt : codeOf m_Ledger_isBuilt = cX3_isBuilt := rfl
abbrev m_Ledger_lacksFamily : Nat := 26
theorem cd_Ledger_lacksFamily : codeOf m_Ledger_lacksFamily = cX3_lacksFamily := rfl
abbrev m_Ledger_lacksTwo : Nat := 27
theorem cd_Ledger_lacksTwo : codeOf m_Ledger_lacksTwo = cX3_lacksTwo := rfl
abbrev m_Ledger_lacksEither : Nat := 28
theorem cd_Ledger_lacksEither : codeOf m_Ledger_lacksEither = cX3_lacksEither := rfl
abbrev m_Ledger_takeFamily : Nat := 29
theorem cd_Ledger_takeFamily : codeOf m_Ledger_takeFamily = cX3_takeFamily := rfl
abbrev m_Ledger_takeWork : Nat := 30
theorem cd_Ledger_takeWork : codeOf m_Ledger_takeWork = cX3_takeWork := rfl
abbrev m_Ledger_newWork : Nat := 31
theorem cd_Ledger_newWork : codeOf m_Ledger_newWork = cX3_newWork := rfl
abbrev m_Ledger_build : Nat := 32
theorem cd_Ledger_build : codeOf m_Ledger_build = cX3_build := rfl
abbrev m_Ledger_takeYears : Nat := 33
theorem cd_Ledger_takeYears : codeOf m_Ledger_takeYears = cX3_takeYears := rfl
abbrev m_Ledger_takeDebt : Nat := 34
theorem cd_Ledger_takeDebt : codeOf m_Ledger_takeDebt = cX3_takeDebt := rfl
abbrev m_Ledger_takeRate : Nat := 35
theorem cd_Ledger_takeRate : codeOf m_Ledger_takeRate = cX3_takeRate := rfl
abbrev m_Ledger_passYear : Nat := 36
theorem cd_Ledger_passYear : codeOf m_Ledger_passYear = cX3_passYear := rfl
abbrev m_Ledger_passYears : Nat := 37
theorem cd_Ledger_passYears : codeOf m_Ledger_passYears = cX3_passYears := rfl
abbrev m_Ledger_allDebtsBehind : Nat := 38
theorem cd_Ledger_allDebtsBehind : codeOf m_Ledger_allDebtsBehind = cX3_allDebtsBehind := rfl
abbrev m_Ledger_everybody : Nat := 39
theorem cd_Ledger_everybody : codeOf m_Ledger_everybody = cX3_everybody := rfl
abbrev m_Ledger_bearing : Nat := 40
theorem cd_Ledger_bearing : codeOf m_Ledger_bearing = cX3_bearing := rfl
abbrev m_Ledger_headsOf : Nat := 41
theorem cd_Ledger_headsOf : codeOf m_Ledger_headsOf = cX3_headsOf := rfl
abbrev m_Ledger_mostHeads : Nat := 42
theorem cd_Ledger_mostHeads : codeOf m_Ledger_mostHeads = cX3_mostHeads := rfl
abbrev m_Ledger_leastDebt : Nat := 43
theorem cd_Ledger_leastDebt : codeOf m_Ledger_leastDebt = cX3_leastDebt := rfl
abbrev m_Ledger_allDebts : Nat := 44
theorem cd_Ledger_allDebts : codeOf m_Ledger_allDebts = cX3_allDebts := rfl
abbrev m_Ledger_oweNothing : Nat := 45
theorem cd_Ledger_oweNothing : codeOf m_Ledger_oweNothing = cX3_oweNothing := rfl
abbrev m_Ledger_isStuck : Nat := 46
theorem cd_Ledger_isStuck : codeOf m_Ledger_isStuck = cX3_isStuck := rfl
abbrev m_Ledger_shareAlike : Nat := 47
theorem cd_Ledger_shareAlike : codeOf m_Ledger_shareAlike = cX3_shareAlike := rfl
abbrev m_Ledger_shareByHeads : Nat := 48
theorem cd_Ledger_shareByHeads : codeOf m_Ledger_shareByHeads = cX3_shareByHeads := rfl
abbrev m_Ledger_shareLeftOver : Nat := 49
theorem cd_Ledger_shareLeftOver : codeOf m_Ledger_shareLeftOver = cX3_shareLeftOver := rfl
abbrev m_Ledger_shareToOne : Nat := 50
theorem cd_Ledger_shareToOne : codeOf m_Ledger_shareToOne = cX3_shareToOne := rfl
abbrev m_Ledger_shareOf : Nat := 51
theorem cd_Ledger_shareOf : codeOf m_Ledger_shareOf = cX3_shareOf := rfl
abbrev m_Ledger_oweShares : Nat := 52
theorem cd_Ledger_oweShares : codeOf m_Ledger_oweShares = cX3_oweShares := rfl
abbrev m_Ledger_charge : Nat := 53
theorem cd_Ledger_charge : codeOf m_Ledger_charge = cX3_charge := rfl
abbrev m_Ledger_chargeSet : Nat := 54
theorem cd_Ledger_chargeSet : codeOf m_Ledger_chargeSet = cX3_chargeSet := rfl
abbrev m_Ledger_sets : Nat := 55
theorem cd_Ledger_sets : codeOf m_Ledger_sets = cX3_sets := rfl
abbrev m_Ledger_costOf : Nat := 56
theorem cd_Ledger_costOf : codeOf m_Ledger_costOf = cX3_costOf := rfl
abbrev m_Ledger_unusedWork : Nat := 57
theorem cd_Ledger_unusedWork : codeOf m_Ledger_unusedWork = cX3_unusedWork := rfl
abbrev m_Past_init : Nat := 58
theorem cd_Past_init : codeOf m_Past_init = cX4_init := rfl
abbrev m_Past_kept : Nat := 59
theorem cd_Past_kept : codeOf m_Past_kept = cX4_kept := rfl
abbrev m_Past_keep : Nat := 60
theorem cd_Past_keep : codeOf m_Past_keep = cX4_keep := rfl
abbrev m_Past_takeBack : Nat := 61
theorem cd_Past_takeBack : codeOf m_Past_takeBack = cX4_takeBack := rfl
abbrev m_Past_forget : Nat := 62
theorem cd_Past_forget : codeOf m_Past_forget = cX4_forget := rfl
abbrev m_Pen_init : Nat := 63
theorem cd_Pen_init : codeOf m_Pen_init = cX5_init := rfl
abbrev m_Pen_kind : Nat := 64
theorem cd_Pen_kind : codeOf m_Pen_kind = cX5_kind := rfl
abbrev m_Pen_due : Nat := 65
theorem cd_Pen_due : codeOf m_Pen_due = cX5_due := rfl
abbrev m_Pen_payer : Nat := 66
theorem cd_Pen_payer : codeOf m_Pen_payer = cX5_payer := rfl
abbrev m_Ruin_init : Nat := 67
theorem cd_Ruin_init : codeOf m_Ruin_init = cX6_init := rfl
abbrev m_Ruin_kind : Nat := 68
theorem cd_Ruin_kind : codeOf m_Ruin_kind = cX6_kind := rfl
abbrev m_Ruin_due : Nat := 69
theorem cd_Ruin_due : codeOf m_Ruin_due = cX6_due := rfl
abbrev m_Text_init : Nat := 70
theorem cd_Text_init : codeOf m_Text_init = cX7_init := rfl
abbrev m_Text_isFull : Nat := 71
theorem cd_Text_isFull : codeOf m_Text_isFull = cX7_isFull := rfl
abbrev m_Text_add : Nat := 72
theorem cd_Text_add : codeOf m_Text_add = cX7_add := rfl
abbrev m_Text_empty : Nat := 73
theorem cd_Text_empty : codeOf m_Text_empty = cX7_empty := rfl
abbrev m_Text_faultOfForm : Nat := 74
theorem cd_Text_faultOfForm : codeOf m_Text_faultOfForm = cX7_faultOfForm := rfl
abbrev m_Text_placeBehind : Nat := 75
theorem cd_Text_placeBehind : codeOf m_Text_placeBehind = cX7_placeBehind := rfl
abbrev m_Text_lengthAt : Nat := 76
theorem cd_Text_lengthAt : codeOf m_Text_lengthAt = cX7_lengthAt := rfl
abbrev m_Text_enact : Nat := 77
theorem cd_Text_enact : codeOf m_Text_enact = cX7_enact := rfl
abbrev m_Text_digitsBehind : Nat := 78
theorem cd_Text_digitsBehind : codeOf m_Text_digitsBehind = cX7_digitsBehind := rfl
abbrev m_Text_letterAt : Nat := 79
theorem cd_Text_letterAt : codeOf m_Text_letterAt = cX7_letterAt := rfl
abbrev m_Text_isDigit : Nat := 80
theorem cd_Text_isDigit : codeOf m_Text_isDigit = cX7_isDigit := rfl
abbrev m_Text_number : Nat := 81
theorem cd_Text_number : codeOf m_Text_number = cX7_number := rfl
abbrev m_War_init : Nat := 82
theorem cd_War_init : codeOf m_War_init = cX8_init := rfl
abbrev m_War_kind : Nat := 83
theorem cd_War_kind : codeOf m_War_kind = cX8_kind := rfl
abbrev m_War_due : Nat := 84
theorem cd_War_due : codeOf m_War_due = cX8_due := rfl
abbrev m_War_payer : Nat := 85
theorem cd_War_payer : codeOf m_War_payer = cX8_payer := rfl
abbrev m_War_shareOut : Nat := 86
theorem cd_War_shareOut : codeOf m_War_shareOut = cX8_shareOut := rfl
abbrev m_Work_init : Nat := 87
theorem cd_Work_init : codeOf m_Work_init = cX9_init := rfl
abbrev m_Work_kind : Nat := 88
theorem cd_Work_kind : codeOf m_Work_kind = cX9_kind := rfl
abbrev m_Work_due : Nat := 89
theorem cd_Work_due : codeOf m_Work_due = cX9_due := rfl
abbrev m_Work_shareOut : Nat := 90
theorem cd_Work_shareOut : codeOf m_Work_shareOut = cX9_shareOut := rfl
abbrev m_P_init : Nat := 91
theorem cd_P_init : codeOf m_P_init = cX10_init := rfl
abbrev m_P_feed : Nat := 92
theorem cd_P_feed : codeOf m_P_feed = cX10_feed := rfl
abbrev m_P_treasury : Nat := 93
theorem cd_P_treasury : codeOf m_P_treasury = cX10_treasury := rfl
abbrev m_P_familyOf : Nat := 94
theorem cd_P_familyOf : codeOf m_P_familyOf = cX10_familyOf := rfl
abbrev m_P_workOf : Nat := 95
theorem cd_P_workOf : codeOf m_P_workOf = cX10_workOf := rfl
abbrev m_P_family : Nat := 96
theorem cd_P_family : codeOf m_P_family = cX10_family := rfl
abbrev m_P_work : Nat := 97
theorem cd_P_work : codeOf m_P_work = cX10_work := rfl
abbrev m_P_builds : Nat := 98
theorem cd_P_builds : codeOf m_P_builds = cX10_builds := rfl
abbrev m_P_years : Nat := 99
theorem cd_P_years : codeOf m_P_years = cX10_years := rfl
abbrev m_P_debt : Nat := 100
theorem cd_P_debt : codeOf m_P_debt = cX10_debt := rfl
abbrev m_P_rate : Nat := 101
theorem cd_P_rate : codeOf m_P_rate = cX10_rate := rfl
abbrev m_P_behind : Nat := 102
theorem cd_P_behind : codeOf m_P_behind = cX10_behind := rfl
abbrev m_P_all : Nat := 103
theorem cd_P_all : codeOf m_P_all = cX10_all := rfl
abbrev m_P_solvent : Nat := 104
theorem cd_P_solvent : codeOf m_P_solvent = cX10_solvent := rfl
abbrev m_P_first : Nat := 105
theorem cd_P_first : codeOf m_P_first = cX10_first := rfl
abbrev m_P_highest : Nat := 106
theorem cd_P_highest : codeOf m_P_highest = cX10_highest := rfl
abbrev m_P_building : Nat := 107
theorem cd_P_building : codeOf m_P_building = cX10_building := rfl
abbrev m_P_oneMore : Nat := 108
theorem cd_P_oneMore : codeOf m_P_oneMore = cX10_oneMore := rfl
abbrev m_P_share : Nat := 109
theorem cd_P_share : codeOf m_P_share = cX10_share := rfl
abbrev m_P_pulledDown : Nat := 110
theorem cd_P_pulledDown : codeOf m_P_pulledDown = cX10_pulledDown := rfl
abbrev m_P_merger : Nat := 111
theorem cd_P_merger : codeOf m_P_merger = cX10_merger := rfl
abbrev m_P_bestMerger : Nat := 112
theorem cd_P_bestMerger : codeOf m_P_bestMerger = cX10_bestMerger := rfl
abbrev m_P_child : Nat := 113
theorem cd_P_child : codeOf m_P_child = cX10_child := rfl
abbrev m_P_cheapest : Nat := 114
theorem cd_P_cheapest : codeOf m_P_cheapest = cX10_cheapest := rfl
abbrev m_P_treaty : Nat := 115
theorem cd_P_treaty : codeOf m_P_treaty = cX10_treaty := rfl
abbrev m_P_signature : Nat := 116
theorem cd_P_signature : codeOf m_P_signature = cX10_signature := rfl
abbrev m_P_whoBuilt : Nat := 117
theorem cd_P_whoBuilt : codeOf m_P_whoBuilt = cX10_whoBuilt := rfl
abbrev m_P_births : Nat := 118
theorem cd_P_births : codeOf m_P_births = cX10_births := rfl
abbrev m_P_back : Nat := 119
theorem cd_P_back : codeOf m_P_back = cX10_back := rfl
abbrev m_P_oldest : Nat := 120
theorem cd_P_oldest : codeOf m_P_oldest = cX10_oldest := rfl
abbrev m_P_order : Nat := 121
theorem cd_P_order : codeOf m_P_order = cX10_order := rfl
abbrev m_P_jubilee : Nat := 122
theorem cd_P_jubilee : codeOf m_P_jubilee = cX10_jubilee := rfl
abbrev m_P_fair : Nat := 123
theorem cd_P_fair : codeOf m_P_fair = cX10_fair := rfl
abbrev m_P_peak : Nat := 124
theorem cd_P_peak : codeOf m_P_peak = cX10_peak := rfl
abbrev m_P_interest : Nat := 125
theorem cd_P_interest : codeOf m_P_interest = cX10_interest := rfl
abbrev m_P_doubled : Nat := 126
theorem cd_P_doubled : codeOf m_P_doubled = cX10_doubled := rfl
abbrev m_P_commonPay : Nat := 127
theorem cd_P_commonPay : codeOf m_P_commonPay = cX10_commonPay := rfl
abbrev m_P_bestBirths : Nat := 128
theorem cd_P_bestBirths : codeOf m_P_bestBirths = cX10_bestBirths := rfl
abbrev m_P_lump : Nat := 129
theorem cd_P_lump : codeOf m_P_lump = cX10_lump := rfl
abbrev m_P_crosses : Nat := 130
theorem cd_P_crosses : codeOf m_P_crosses = cX10_crosses := rfl
abbrev m_P_heir : Nat := 131
theorem cd_P_heir : codeOf m_P_heir = cX10_heir := rfl
abbrev m_P_rank : Nat := 132
theorem cd_P_rank : codeOf m_P_rank = cX10_rank := rfl
abbrev m_P_half : Nat := 133
theorem cd_P_half : codeOf m_P_half = cX10_half := rfl
abbrev m_P_row : Nat := 134
theorem cd_P_row : codeOf m_P_row = cX10_row := rfl
abbrev m_P_judge : Nat := 135
theorem cd_P_judge : codeOf m_P_judge = cX10_judge := rfl
abbrev m_P_clear : Nat := 136
theorem cd_P_clear : codeOf m_P_clear = cX10_clear := rfl
abbrev m_P_lots : Nat := 137
theorem cd_P_lots : codeOf m_P_lots = cX10_lots := rfl
abbrev m_P_image : Nat := 138
theorem cd_P_image : codeOf m_P_image = cX10_image := rfl
abbrev m_P_restore : Nat := 139
theorem cd_P_restore : codeOf m_P_restore = cX10_restore := rfl
abbrev m_P_count : Nat := 140
theorem cd_P_count : codeOf m_P_count = cX10_count := rfl
abbrev m_P_refused : Nat := 141
theorem cd_P_refused : codeOf m_P_refused = cX10_refused := rfl
abbrev m_P_withoutPast : Nat := 142
theorem cd_P_withoutPast : codeOf m_P_withoutPast = cX10_withoutPast := rfl
abbrev m_P_withPast : Nat := 143
theorem cd_P_withPast : codeOf m_P_withPast = cX10_withPast := rfl
abbrev m_P_outside : Nat := 144
theorem cd_P_outside : codeOf m_P_outside = cX10_outside := rfl
abbrev m_P_eitherOutside : Nat := 145
theorem cd_P_eitherOutside : codeOf m_P_eitherOutside = cX10_eitherOutside := rfl
abbrev m_P_otherThan : Nat := 146
theorem cd_P_otherThan : codeOf m_P_otherThan = cX10_otherThan := rfl
abbrev m_P_notAhead : Nat := 147
theorem cd_P_notAhead : codeOf m_P_notAhead = cX10_notAhead := rfl
abbrev m_P_noFamilyAhead : Nat := 148
theorem cd_P_noFamilyAhead : codeOf m_P_noFamilyAhead = cX10_noFamilyAhead := rfl
abbrev m_P_noTwoAhead : Nat := 149
theorem cd_P_noTwoAhead : codeOf m_P_noTwoAhead = cX10_noTwoAhead := rfl
abbrev m_P_ahead : Nat := 150
theorem cd_P_ahead : codeOf m_P_ahead = cX10_ahead := rfl
abbrev m_P_headOwesBehind : Nat := 151
theorem cd_P_headOwesBehind : codeOf m_P_headOwesBehind = cX10_headOwesBehind := rfl
abbrev m_P_freeBehind : Nat := 152
theorem cd_P_freeBehind : codeOf m_P_freeBehind = cX10_freeBehind := rfl
abbrev m_P_highestRate : Nat := 153
theorem cd_P_highestRate : codeOf m_P_highestRate = cX10_highestRate := rfl
abbrev m_P_leastPay : Nat := 154
theorem cd_P_leastPay : codeOf m_P_leastPay = cX10_leastPay := rfl
abbrev m_P_mergedHeadOwes : Nat := 155
theorem cd_P_mergedHeadOwes : codeOf m_P_mergedHeadOwes = cX10_mergedHeadOwes := rfl
abbrev m_P_signedPay : Nat := 156
theorem cd_P_signedPay : codeOf m_P_signedPay = cX10_signedPay := rfl
abbrev m_P_costOfPaying : Nat := 157
theorem cd_P_costOfPaying : codeOf m_P_costOfPaying = cX10_costOfPaying := rfl
abbrev m_P_waysOf : Nat := 158
theorem cd_P_waysOf : codeOf m_P_waysOf = cX10_waysOf := rfl
abbrev m_P_bearByChance : Nat := 159
theorem cd_P_bearByChance : codeOf m_P_bearByChance = cX10_bearByChance := rfl
abbrev m_P_firstFree : Nat := 160
theorem cd_P_firstFree : codeOf m_P_firstFree = cX10_firstFree := rfl
abbrev m_P_growing : Nat := 161
theorem cd_P_growing : codeOf m_P_growing = cX10_growing := rfl
abbrev m_P_firstStuck : Nat := 162
theorem cd_P_firstStuck : codeOf m_P_firstStuck = cX10_firstStuck := rfl
abbrev m_P_cheapestFamily : Nat := 163
theorem cd_P_cheapestFamily : codeOf m_P_cheapestFamily = cX10_cheapestFamily := rfl
abbrev m_P_bornFree : Nat := 164
theorem cd_P_bornFree : codeOf m_P_bornFree = cX10_bornFree := rfl
abbrev m_P_ranked : Nat := 165
theorem cd_P_ranked : codeOf m_P_ranked = cX10_ranked := rfl
abbrev m_P_ranksAbove : Nat := 166
theorem cd_P_ranksAbove : codeOf m_P_ranksAbove = cX10_ranksAbove := rfl
abbrev m_P_isBearable : Nat := 167
theorem cd_P_isBearable : codeOf m_P_isBearable = cX10_isBearable := rfl
abbrev m_P_isToldBy : Nat := 168
theorem cd_P_isToldBy : codeOf m_P_isToldBy = cX10_isToldBy := rfl
abbrev m_P_isTold : Nat := 169
theorem cd_P_isTold : codeOf m_P_isTold = cX10_isTold := rfl
abbrev m_P_factorial : Nat := 170
theorem cd_P_factorial : codeOf m_P_factorial = cX10_factorial := rfl
abbrev m_P_arrange : Nat := 171
theorem cd_P_arrange : codeOf m_P_arrange = cX10_arrange := rfl
abbrev m_P_debtsAsTried : Nat := 172
theorem cd_P_debtsAsTried : codeOf m_P_debtsAsTried = cX10_debtsAsTried := rfl
abbrev m_P_up : Nat := 173
theorem cd_P_up : codeOf m_P_up = cX10_up := rfl
abbrev m_P_inLowestTerms : Nat := 174
theorem cd_P_inLowestTerms : codeOf m_P_inLowestTerms = cX10_inLowestTerms := rfl
abbrev m_P_commonDivisor : Nat := 175
theorem cd_P_commonDivisor : codeOf m_P_commonDivisor = cX10_commonDivisor := rfl
abbrev m_P_nextSeed : Nat := 176
theorem cd_P_nextSeed : codeOf m_P_nextSeed = cX10_nextSeed := rfl
abbrev m_P_drawBelow : Nat := 177
theorem cd_P_drawBelow : codeOf m_P_drawBelow = cX10_drawBelow := rfl
abbrev m_Q_init : Nat := 178
theorem cd_Q_init : codeOf m_Q_init = cX11_init := rfl
abbrev m_Q_in : Nat := 179
theorem cd_Q_in : codeOf m_Q_in = cX11_in := rfl
abbrev m_Q_refuse : Nat := 180
theorem cd_Q_refuse : codeOf m_Q_refuse = cX11_refuse := rfl
abbrev m_Q_isFamily : Nat := 181
theorem cd_Q_isFamily : codeOf m_Q_isFamily = cX11_isFamily := rfl
abbrev m_Q_isWork : Nat := 182
theorem cd_Q_isWork : codeOf m_Q_isWork = cX11_isWork := rfl
abbrev m_Q_wrongNumber : Nat := 183
theorem cd_Q_wrongNumber : codeOf m_Q_wrongNumber = cX11_wrongNumber := rfl
abbrev m_Q_wrongBit : Nat := 184
theorem cd_Q_wrongBit : codeOf m_Q_wrongBit = cX11_wrongBit := rfl
abbrev m_Q_hasBit : Nat := 185
theorem cd_Q_hasBit : codeOf m_Q_hasBit = cX11_hasBit := rfl
abbrev m_Q_held : Nat := 186
theorem cd_Q_held : codeOf m_Q_held = cX11_held := rfl
abbrev m_Q_allHeads : Nat := 187
theorem cd_Q_allHeads : codeOf m_Q_allHeads = cX11_allHeads := rfl
abbrev m_Q_allDebts : Nat := 188
theorem cd_Q_allDebts : codeOf m_Q_allDebts = cX11_allDebts := rfl
abbrev m_Q_headOwes : Nat := 189
theorem cd_Q_headOwes : codeOf m_Q_headOwes = cX11_headOwes := rfl
abbrev m_Q_dueOf : Nat := 190
theorem cd_Q_dueOf : codeOf m_Q_dueOf = cX11_dueOf := rfl
abbrev m_Q_mostHeads : Nat := 191
theorem cd_Q_mostHeads : codeOf m_Q_mostHeads = cX11_mostHeads := rfl
abbrev m_Q_leastDebt : Nat := 192
theorem cd_Q_leastDebt : codeOf m_Q_leastDebt = cX11_leastDebt := rfl
abbrev m_Q_layParts : Nat := 193
theorem cd_Q_layParts : codeOf m_Q_layParts = cX11_layParts := rfl
abbrev m_Q_layShares : Nat := 194
theorem cd_Q_layShares : codeOf m_Q_layShares = cX11_layShares := rfl
abbrev m_Q_lastBuilt : Nat := 195
theorem cd_Q_lastBuilt : codeOf m_Q_lastBuilt = cX11_lastBuilt := rfl
abbrev m_Q_build : Nat := 196
theorem cd_Q_build : codeOf m_Q_build = cX11_build := rfl
abbrev m_Q_owes : Nat := 197
theorem cd_Q_owes : codeOf m_Q_owes = cX11_owes := rfl
abbrev m_Q_yearOn : Nat := 198
theorem cd_Q_yearOn : codeOf m_Q_yearOn = cX11_yearOn := rfl
abbrev m_Q_goYears : Nat := 199
theorem cd_Q_goYears : codeOf m_Q_goYears = cX11_goYears := rfl
abbrev m_Q_feed : Nat := 200
theorem cd_Q_feed : codeOf m_Q_feed = cX11_feed := rfl
abbrev m_Q_here : Nat := 201
theorem cd_Q_here : codeOf m_Q_here = cX11_here := rfl
abbrev m_Q_readDigits : Nat := 202
theorem cd_Q_readDigits : codeOf m_Q_readDigits = cX11_readDigits := rfl
abbrev m_Q_isLetter : Nat := 203
theorem cd_Q_isLetter : codeOf m_Q_isLetter = cX11_isLetter := rfl
abbrev m_Q_readNumbers : Nat := 204
theorem cd_Q_readNumbers : codeOf m_Q_readNumbers = cX11_readNumbers := rfl
abbrev m_Q_readStatement : Nat := 205
theorem cd_Q_readStatement : codeOf m_Q_readStatement = cX11_readStatement := rfl
abbrev m_Q_familyComes : Nat := 206
theorem cd_Q_familyComes : codeOf m_Q_familyComes = cX11_familyComes := rfl
abbrev m_Q_workComes : Nat := 207
theorem cd_Q_workComes : codeOf m_Q_workComes = cX11_workComes := rfl
abbrev m_Q_comesTold : Nat := 208
theorem cd_Q_comesTold : codeOf m_Q_comesTold = cX11_comesTold := rfl
abbrev m_Q_treasury : Nat := 209
theorem cd_Q_treasury : codeOf m_Q_treasury = cX11_treasury := rfl
abbrev m_Q_carry : Nat := 210
theorem cd_Q_carry : codeOf m_Q_carry = cX11_carry := rfl
abbrev m_Q_carryAll : Nat := 211
theorem cd_Q_carryAll : codeOf m_Q_carryAll = cX11_carryAll := rfl
abbrev m_Q_think : Nat := 212
theorem cd_Q_think : codeOf m_Q_think = cX11_think := rfl
abbrev m_Q_again : Nat := 213
theorem cd_Q_again : codeOf m_Q_again = cX11_again := rfl
abbrev m_Q_image : Nat := 214
theorem cd_Q_image : codeOf m_Q_image = cX11_image := rfl
abbrev m_Q_restore : Nat := 215
theorem cd_Q_restore : codeOf m_Q_restore = cX11_restore := rfl
abbrev m_Q_keepTurn : Nat := 216
theorem cd_Q_keepTurn : codeOf m_Q_keepTurn = cX11_keepTurn := rfl
abbrev m_Q_back : Nat := 217
theorem cd_Q_back : codeOf m_Q_back = cX11_back := rfl
abbrev m_Q_familyOf : Nat := 218
theorem cd_Q_familyOf : codeOf m_Q_familyOf = cX11_familyOf := rfl
abbrev m_Q_workOf : Nat := 219
theorem cd_Q_workOf : codeOf m_Q_workOf = cX11_workOf := rfl
abbrev m_Q_family : Nat := 220
theorem cd_Q_family : codeOf m_Q_family = cX11_family := rfl
abbrev m_Q_work : Nat := 221
theorem cd_Q_work : codeOf m_Q_work = cX11_work := rfl
abbrev m_Q_builds : Nat := 222
theorem cd_Q_builds : codeOf m_Q_builds = cX11_builds := rfl
abbrev m_Q_years : Nat := 223
theorem cd_Q_years : codeOf m_Q_years = cX11_years := rfl
abbrev m_Q_debt : Nat := 224
theorem cd_Q_debt : codeOf m_Q_debt = cX11_debt := rfl
abbrev m_Q_rate : Nat := 225
theorem cd_Q_rate : codeOf m_Q_rate = cX11_rate := rfl
abbrev m_Q_behind : Nat := 226
theorem cd_Q_behind : codeOf m_Q_behind = cX11_behind := rfl
abbrev m_Q_allIn : Nat := 227
theorem cd_Q_allIn : codeOf m_Q_allIn = cX11_allIn := rfl
abbrev m_Q_all : Nat := 228
theorem cd_Q_all : codeOf m_Q_all = cX11_all := rfl
abbrev m_Q_solventIn : Nat := 229
theorem cd_Q_solventIn : codeOf m_Q_solventIn = cX11_solventIn := rfl
abbrev m_Q_solvent : Nat := 230
theorem cd_Q_solvent : codeOf m_Q_solvent = cX11_solvent := rfl
abbrev m_Q_stuckIn : Nat := 231
theorem cd_Q_stuckIn : codeOf m_Q_stuckIn = cX11_stuckIn := rfl
abbrev m_Q_growBits : Nat := 232
theorem cd_Q_growBits : codeOf m_Q_growBits = cX11_growBits := rfl
abbrev m_Q_first : Nat := 233
theorem cd_Q_first : codeOf m_Q_first = cX11_first := rfl
abbrev m_Q_highest : Nat := 234
theorem cd_Q_highest : codeOf m_Q_highest = cX11_highest := rfl
abbrev m_Q_noneOwes : Nat := 235
theorem cd_Q_noneOwes : codeOf m_Q_noneOwes = cX11_noneOwes := rfl
abbrev m_Q_builtBits : Nat := 236
theorem cd_Q_builtBits : codeOf m_Q_builtBits = cX11_builtBits := rfl
abbrev m_Q_buildAll : Nat := 237
theorem cd_Q_buildAll : codeOf m_Q_buildAll = cX11_buildAll := rfl
abbrev m_Q_building : Nat := 238
theorem cd_Q_building : codeOf m_Q_building = cX11_building := rfl
abbrev m_Q_oneMore : Nat := 239
theorem cd_Q_oneMore : codeOf m_Q_oneMore = cX11_oneMore := rfl
abbrev m_Q_share : Nat := 240
theorem cd_Q_share : codeOf m_Q_share = cX11_share := rfl
abbrev m_Q_pulledDown : Nat := 241
theorem cd_Q_pulledDown : codeOf m_Q_pulledDown = cX11_pulledDown := rfl
abbrev m_Q_headIn : Nat := 242
theorem cd_Q_headIn : codeOf m_Q_headIn = cX11_headIn := rfl
abbrev m_Q_mergedIn : Nat := 243
theorem cd_Q_mergedIn : codeOf m_Q_mergedIn = cX11_mergedIn := rfl
abbrev m_Q_merger : Nat := 244
theorem cd_Q_merger : codeOf m_Q_merger = cX11_merger := rfl
abbrev m_Q_bestMerger : Nat := 245
theorem cd_Q_bestMerger : codeOf m_Q_bestMerger = cX11_bestMerger := rfl
abbrev m_Q_divisor : Nat := 246
theorem cd_Q_divisor : codeOf m_Q_divisor = cX11_divisor := rfl
abbrev m_Q_partOf : Nat := 247
theorem cd_Q_partOf : codeOf m_Q_partOf = cX11_partOf := rfl
abbrev m_Q_child : Nat := 248
theorem cd_Q_child : codeOf m_Q_child = cX11_child := rfl
abbrev m_Q_cheapest : Nat := 249
theorem cd_Q_cheapest : codeOf m_Q_cheapest = cX11_cheapest := rfl
abbrev m_Q_burden : Nat := 250
theorem cd_Q_burden : codeOf m_Q_burden = cX11_burden := rfl
abbrev m_Q_treaty : Nat := 251
theorem cd_Q_treaty : codeOf m_Q_treaty = cX11_treaty := rfl
abbrev m_Q_signature : Nat := 252
theorem cd_Q_signature : codeOf m_Q_signature = cX11_signature := rfl
abbrev m_Q_whoBuilt : Nat := 253
theorem cd_Q_whoBuilt : codeOf m_Q_whoBuilt = cX11_whoBuilt := rfl
abbrev m_Q_births : Nat := 254
theorem cd_Q_births : codeOf m_Q_births = cX11_births := rfl
abbrev m_Q_oldest : Nat := 255
theorem cd_Q_oldest : codeOf m_Q_oldest = cX11_oldest := rfl
abbrev m_Q_ordersOf : Nat := 256
theorem cd_Q_ordersOf : codeOf m_Q_ordersOf = cX11_ordersOf := rfl
abbrev m_Q_layOrder : Nat := 257
theorem cd_Q_layOrder : codeOf m_Q_layOrder = cX11_layOrder := rfl
abbrev m_Q_order : Nat := 258
theorem cd_Q_order : codeOf m_Q_order = cX11_order := rfl
abbrev m_Q_jubilee : Nat := 259
theorem cd_Q_jubilee : codeOf m_Q_jubilee = cX11_jubilee := rfl
abbrev m_Q_fair : Nat := 260
theorem cd_Q_fair : codeOf m_Q_fair = cX11_fair := rfl
abbrev m_Q_peak : Nat := 261
theorem cd_Q_peak : codeOf m_Q_peak = cX11_peak := rfl
abbrev m_Q_interest : Nat := 262
theorem cd_Q_interest : codeOf m_Q_interest = cX11_interest := rfl
abbrev m_Q_doubled : Nat := 263
theorem cd_Q_doubled : codeOf m_Q_doubled = cX11_doubled := rfl
abbrev m_Q_commonPay : Nat := 264
theorem cd_Q_commonPay : codeOf m_Q_commonPay = cX11_commonPay := rfl
abbrev m_Q_bestBirths : Nat := 265
theorem cd_Q_bestBirths : codeOf m_Q_bestBirths = cX11_bestBirths := rfl
abbrev m_Q_lump : Nat := 266
theorem cd_Q_lump : codeOf m_Q_lump = cX11_lump := rfl
abbrev m_Q_crosses : Nat := 267
theorem cd_Q_crosses : codeOf m_Q_crosses = cX11_crosses := rfl
abbrev m_Q_heir : Nat := 268
theorem cd_Q_heir : codeOf m_Q_heir = cX11_heir := rfl
abbrev m_Q_rank : Nat := 269
theorem cd_Q_rank : codeOf m_Q_rank = cX11_rank := rfl
abbrev m_Q_half : Nat := 270
theorem cd_Q_half : codeOf m_Q_half = cX11_half := rfl
abbrev m_Q_row : Nat := 271
theorem cd_Q_row : codeOf m_Q_row = cX11_row := rfl
abbrev m_Q_judge : Nat := 272
theorem cd_Q_judge : codeOf m_Q_judge = cX11_judge := rfl
abbrev m_Q_clear : Nat := 273
theorem cd_Q_clear : codeOf m_Q_clear = cX11_clear := rfl
abbrev m_Q_drawBelow : Nat := 274
theorem cd_Q_drawBelow : codeOf m_Q_drawBelow = cX11_drawBelow := rfl
abbrev m_Q_lots : Nat := 275
theorem cd_Q_lots : codeOf m_Q_lots = cX11_lots := rfl
abbrev m_Q_count : Nat := 276
theorem cd_Q_count : codeOf m_Q_count = cX11_count := rfl
abbrev m_Law_law : Nat := 277
theorem cd_Law_law : codeOf m_Law_law = cL_law := rfl
theorem fl0_11 : lk2 0 11 fldL = some (0, 0, 2, [1, 2, 7]) := by decide +kernel
theorem fl2_9 : lk2 2 9 fldL = some (0, 0, 0, [3]) := by decide +kernel
theorem fl2_15 : lk2 2 15 fldL = some (1, 0, 0, [3]) := by decide +kernel
theorem fl2_18 : lk2 2 18 fldL = some (2, 0, 0, [3]) := by decide +kernel
theorem fl2_21 : lk2 2 21 fldL = some (3, 0, 0, [3]) := by decide +kernel
theorem fl2_24 : lk2 2 24 fldL = some (4, 0, 0, [3]) := by decide +kernel
theorem fl2_27 : lk2 2 27 fldL = some (5, 0, 0, [3]) := by decide +kernel
theorem fl2_30 : lk2 2 30 fldL = some (6, 0, 0, [3]) := by decide +kernel
theorem fl3_9 : lk2 3 9 fldL = some (3, 0, 0, [4]) := by decide +kernel
theorem fl3_17 : lk2 3 17 fldL = some (6, 2, 1, [4]) := by decide +kernel
theorem fl3_24 : lk2 3 24 fldL = some (7, 2, 1, [4]) := by decide +kernel
theorem fl3_28 : lk2 3 28 fldL = some (8, 2, 1, [4]) := by decide +kernel
theorem fl3_32 : lk2 3 32 fldL = some (9, 2, 1, [4]) := by decide +kernel
theorem fl3_35 : lk2 3 35 fldL = some (0, 0, 0, [4]) := by decide +kernel
theorem fl3_38 : lk2 3 38 fldL = some (1, 0, 0, [4]) := by decide +kernel
theorem fl3_41 : lk2 3 41 fldL = some (2, 0, 0, [4]) := by decide +kernel
theorem fl3_44 : lk2 3 44 fldL = some (4, 0, 0, [4]) := by decide +kernel
theorem fl3_47 : lk2 3 47 fldL = some (5, 0, 0, [4]) := by decide +kernel
theorem fl3_123 : lk2 3 123 fldL = some (1, 0, 0, [3]) := by decide +kernel
theorem fl3_129 : lk2 3 129 fldL = some (3, 0, 0, [3]) := by decide +kernel
theorem fl3_132 : lk2 3 132 fldL = some (0, 0, 0, [3]) := by decide +kernel
theorem fl3_150 : lk2 3 150 fldL = some (1, 0, 2, [1, 2, 6, 7, 9, 10]) := by decide +kernel
theorem fl4_11 : lk2 4 11 fldL = some (0, 2, 1, [5]) := by decide +kernel
theorem fl4_18 : lk2 4 18 fldL = some (1, 0, 0, [5]) := by decide +kernel
theorem fl4_30 : lk2 4 30 fldL = some (2, 0, 0, [5]) := by decide +kernel
theorem fl5_11 : lk2 5 11 fldL = some (0, 0, 2, [6]) := by decide +kernel
theorem fl6_11 : lk2 6 11 fldL = some (1, 0, 2, [7]) := by decide +kernel
theorem fl7_9 : lk2 7 9 fldL = some (0, 2, 1, [8]) := by decide +kernel
theorem fl7_15 : lk2 7 15 fldL = some (1, 0, 0, [8]) := by decide +kernel
theorem fl9_7 : lk2 9 7 fldL = some (0, 0, 1, [1, 2, 6, 7, 9, 10]) := by decide +kernel
theorem fl9_13 : lk2 9 13 fldL = some (1, 0, 1, [1, 2, 6, 7, 9, 10]) := by decide +kernel
theorem fl10_10 : lk2 10 10 fldL = some (0, 2, 1, [11]) := by decide +kernel
theorem fl10_16 : lk2 10 16 fldL = some (1, 2, 1, [11]) := by decide +kernel
theorem fl10_19 : lk2 10 19 fldL = some (2, 2, 1, [11]) := by decide +kernel
theorem fl10_25 : lk2 10 25 fldL = some (4, 2, 1, [11]) := by decide +kernel
theorem fl10_32 : lk2 10 32 fldL = some (5, 2, 1, [11]) := by decide +kernel
theorem fl10_36 : lk2 10 36 fldL = some (6, 2, 1, [11]) := by decide +kernel
theorem fl10_40 : lk2 10 40 fldL = some (8, 2, 1, [11]) := by decide +kernel
theorem fl10_46 : lk2 10 46 fldL = some (9, 2, 1, [11]) := by decide +kernel
theorem fl10_50 : lk2 10 50 fldL = some (10, 2, 1, [11]) := by decide +kernel
theorem fl10_53 : lk2 10 53 fldL = some (11, 2, 1, [11]) := by decide +kernel
theorem fl10_56 : lk2 10 56 fldL = some (12, 2, 1, [11]) := by decide +kernel
theorem fl10_82 : lk2 10 82 fldL = some (1, 0, 0, [8]) := by decide +kernel
theorem fl10_110 : lk2 10 110 fldL = some (0, 0, 0, [3]) := by decide +kernel
theorem fl10_113 : lk2 10 113 fldL = some (1, 0, 0, [3]) := by decide +kernel
theorem fl10_116 : lk2 10 116 fldL = some (2, 0, 0, [3]) := by decide +kernel
theorem fl10_119 : lk2 10 119 fldL = some (3, 0, 0, [3]) := by decide +kernel
theorem fl10_134 : lk2 10 134 fldL = some (0, 0, 2, [1, 2, 6, 7, 9, 10]) := by decide +kernel
theorem fl10_137 : lk2 10 137 fldL = some (1, 0, 2, [1, 2, 6, 7, 9, 10]) := by decide +kernel
theorem fl10_212 : lk2 10 212 fldL = some (4, 0, 0, [4]) := by decide +kernel
theorem fl10_220 : lk2 10 220 fldL = some (1, 0, 0, [4]) := by decide +kernel
theorem fl10_239 : lk2 10 239 fldL = some (3, 0, 0, [4]) := by decide +kernel
theorem fl10_242 : lk2 10 242 fldL = some (2, 0, 0, [4]) := by decide +kernel
theorem fl10_255 : lk2 10 255 fldL = some (0, 0, 0, [4]) := by decide +kernel
theorem fl10_285 : lk2 10 285 fldL = some (7, 0, 0, [11]) := by decide +kernel
theorem fl10_298 : lk2 10 298 fldL = some (2, 0, 0, [5]) := by decide +kernel
theorem fl10_302 : lk2 10 302 fldL = some (5, 0, 0, [4]) := by decide +kernel
theorem fl10_334 : lk2 10 334 fldL = some (4, 0, 0, [3]) := by decide +kernel
theorem fl10_371 : lk2 10 371 fldL = some (3, 1, 0, [11]) := by decide +kernel
theorem fl10_384 : lk2 10 384 fldL = some (5, 0, 0, [3]) := by decide +kernel
theorem fl10_400 : lk2 10 400 fldL = some (6, 0, 0, [3]) := by decide +kernel
theorem fl11_7 : lk2 11 7 fldL = some (1, 2, 1, [12]) := by decide +kernel
theorem fl11_13 : lk2 11 13 fldL = some (2, 2, 1, [12]) := by decide +kernel
theorem fl11_16 : lk2 11 16 fldL = some (3, 2, 1, [12]) := by decide +kernel
theorem fl11_19 : lk2 11 19 fldL = some (4, 2, 1, [12]) := by decide +kernel
theorem fl11_22 : lk2 11 22 fldL = some (5, 0, 0, [12]) := by decide +kernel
theorem fl11_26 : lk2 11 26 fldL = some (8, 2, 1, [12]) := by decide +kernel
theorem fl11_29 : lk2 11 29 fldL = some (9, 2, 1, [12]) := by decide +kernel
theorem fl11_32 : lk2 11 32 fldL = some (10, 2, 1, [12]) := by decide +kernel
theorem fl11_35 : lk2 11 35 fldL = some (11, 2, 1, [12]) := by decide +kernel
theorem fl11_38 : lk2 11 38 fldL = some (13, 2, 1, [12]) := by decide +kernel
theorem fl11_41 : lk2 11 41 fldL = some (14, 2, 1, [12]) := by decide +kernel
theorem fl11_44 : lk2 11 44 fldL = some (15, 2, 1, [12]) := by decide +kernel
theorem fl11_47 : lk2 11 47 fldL = some (17, 2, 1, [12]) := by decide +kernel
theorem fl11_50 : lk2 11 50 fldL = some (18, 2, 1, [12]) := by decide +kernel
theorem fl11_53 : lk2 11 53 fldL = some (23, 2, 1, [12]) := by decide +kernel
theorem fl11_56 : lk2 11 56 fldL = some (24, 2, 1, [12]) := by decide +kernel
theorem fl11_59 : lk2 11 59 fldL = some (25, 2, 1, [12]) := by decide +kernel
theorem fl11_62 : lk2 11 62 fldL = some (26, 2, 1, [12]) := by decide +kernel
theorem fl11_65 : lk2 11 65 fldL = some (27, 2, 1, [12]) := by decide +kernel
theorem fl11_68 : lk2 11 68 fldL = some (32, 2, 1, [12]) := by decide +kernel
theorem fl11_71 : lk2 11 71 fldL = some (33, 2, 1, [12]) := by decide +kernel
theorem fl11_74 : lk2 11 74 fldL = some (35, 2, 1, [12]) := by decide +kernel
theorem fl11_77 : lk2 11 77 fldL = some (37, 2, 1, [12]) := by decide +kernel
theorem fl11_80 : lk2 11 80 fldL = some (38, 2, 1, [12]) := by decide +kernel
theorem fl11_83 : lk2 11 83 fldL = some (12, 0, 0, [12]) := by decide +kernel
theorem fl11_86 : lk2 11 86 fldL = some (0, 0, 0, [12]) := by decide +kernel
theorem fl11_93 : lk2 11 93 fldL = some (7, 0, 0, [12]) := by decide +kernel
theorem fl11_122 : lk2 11 122 fldL = some (6, 0, 0, [12]) := by decide +kernel
theorem fl11_128 : lk2 11 128 fldL = some (16, 0, 0, [12]) := by decide +kernel
theorem fl11_137 : lk2 11 137 fldL = some (19, 0, 0, [12]) := by decide +kernel
theorem fl11_140 : lk2 11 140 fldL = some (20, 0, 0, [12]) := by decide +kernel
theorem fl11_143 : lk2 11 143 fldL = some (21, 1, 0, [12]) := by decide +kernel
theorem fl11_157 : lk2 11 157 fldL = some (22, 0, 0, [12]) := by decide +kernel
theorem fl11_203 : lk2 11 203 fldL = some (34, 0, 0, [12]) := by decide +kernel
theorem fl11_206 : lk2 11 206 fldL = some (30, 1, 0, [12]) := by decide +kernel
theorem fl11_209 : lk2 11 209 fldL = some (31, 2, 0, [12]) := by decide +kernel
theorem fl11_212 : lk2 11 212 fldL = some (29, 0, 0, [12]) := by decide +kernel
theorem fl11_222 : lk2 11 222 fldL = some (28, 1, 0, [12]) := by decide +kernel
theorem fl11_295 : lk2 11 295 fldL = some (36, 0, 0, [12]) := by decide +kernel
theorem fl11_304 : lk2 11 304 fldL = some (39, 0, 0, [12]) := by decide +kernel
theorem ca0_1 : lk2 0 1 calL = some (1, 2, [(0, 87)]) := by decide +kernel
theorem ca0_7 : lk2 0 7 calL = some (3, 0, [(0, 89)]) := by decide +kernel
theorem ca0_17 : lk2 0 17 calL = some (0, 0, [(4, 39)]) := by decide +kernel
theorem ca0_22 : lk2 0 22 calL = some (0, 0, [(1, 2), (2, 7), (7, 69)]) := by decide +kernel
theorem ca0_23 : lk2 0 23 calL = some (0, 1, [(1, 3), (2, 8), (7, 3)]) := by decide +kernel
theorem ca0_27 : lk2 0 27 calL = some (0, 2, [(4, 48)]) := by decide +kernel
theorem ca1_1 : lk2 1 1 calL = some (1, 2, [(0, 0)]) := by decide +kernel
theorem ca1_7 : lk2 1 7 calL = some (3, 0, [(0, 2)]) := by decide +kernel
theorem ca1_11 : lk2 1 11 calL = some (0, 0, [(4, 40)]) := by decide +kernel
theorem ca1_16 : lk2 1 16 calL = some (0, 0, [(4, 39)]) := by decide +kernel
theorem ca2_3 : lk2 2 3 calL = some (6, 0, []) := by decide +kernel
theorem ca2_33 : lk2 2 33 calL = some (5, 2, [(0, 173)]) := by decide +kernel
theorem ca2_38 : lk2 2 38 calL = some (0, 1, [(3, 14)]) := by decide +kernel
theorem ca2_42 : lk2 2 42 calL = some (0, 1, [(3, 15)]) := by decide +kernel
theorem ca2_45 : lk2 2 45 calL = some (0, 1, [(3, 16)]) := by decide +kernel
theorem ca2_48 : lk2 2 48 calL = some (0, 0, [(3, 17)]) := by decide +kernel
theorem ca2_51 : lk2 2 51 calL = some (0, 2, [(3, 18)]) := by decide +kernel
theorem ca3_3 : lk2 3 3 calL = some (6, 0, []) := by decide +kernel
theorem ca3_21 : lk2 3 21 calL = some (2, 0, [(0, 9)]) := by decide +kernel
theorem ca3_50 : lk2 3 50 calL = some (0, 1, [(4, 22)]) := by decide +kernel
theorem ca3_54 : lk2 3 54 calL = some (0, 1, [(3, 11)]) := by decide +kernel
theorem ca3_58 : lk2 3 58 calL = some (0, 1, [(4, 23)]) := by decide +kernel
theorem ca3_62 : lk2 3 62 calL = some (0, 1, [(4, 24)]) := by decide +kernel
theorem ca3_66 : lk2 3 66 calL = some (0, 1, [(4, 26)]) := by decide +kernel
theorem ca3_69 : lk2 3 69 calL = some (0, 3, [(3, 10)]) := by decide +kernel
theorem ca3_73 : lk2 3 73 calL = some (5, 2, [(0, 146)]) := by decide +kernel
theorem ca3_77 : lk2 3 77 calL = some (4, 3, [(0, 31)]) := by decide +kernel
theorem ca3_83 : lk2 3 83 calL = some (1, 2, [(0, 0)]) := by decide +kernel
theorem ca3_88 : lk2 3 88 calL = some (1, 2, [(0, 82)]) := by decide +kernel
theorem ca3_91 : lk2 3 91 calL = some (1, 2, [(0, 5)]) := by decide +kernel
theorem ca3_94 : lk2 3 94 calL = some (1, 2, [(0, 63)]) := by decide +kernel
theorem ca3_97 : lk2 3 97 calL = some (1, 2, [(0, 67)]) := by decide +kernel
theorem ca3_98 : lk2 3 98 calL = some (1, 2, [(0, 87)]) := by decide +kernel
theorem ca3_99 : lk2 3 99 calL = some (0, 1, [(4, 25)]) := by decide +kernel
theorem ca3_103 : lk2 3 103 calL = some (0, 1, [(1, 4), (2, 4), (6, 86), (7, 4), (9, 86), (10, 90)]) := by decide +kernel
theorem ca3_107 : lk2 3 107 calL = some (0, 0, [(4, 52)]) := by decide +kernel
theorem ca3_110 : lk2 3 110 calL = some (0, 0, [(4, 44)]) := by decide +kernel
theorem ca3_114 : lk2 3 114 calL = some (5, 3, [(0, 144)]) := by decide +kernel
theorem ca3_118 : lk2 3 118 calL = some (0, 1, [(4, 37)]) := by decide +kernel
theorem ca3_126 : lk2 3 126 calL = some (0, 2, [(3, 18)]) := by decide +kernel
theorem ca3_135 : lk2 3 135 calL = some (0, 0, [(4, 39)]) := by decide +kernel
theorem ca3_138 : lk2 3 138 calL = some (0, 2, [(4, 49)]) := by decide +kernel
theorem ca3_141 : lk2 3 141 calL = some (0, 1, [(4, 41)]) := by decide +kernel
theorem ca3_144 : lk2 3 144 calL = some (0, 1, [(3, 14)]) := by decide +kernel
theorem ca3_147 : lk2 3 147 calL = some (0, 1, [(4, 53)]) := by decide +kernel
theorem ca4_3 : lk2 4 3 calL = some (6, 0, []) := by decide +kernel
theorem ca4_17 : lk2 4 17 calL = some (1, 0, [(0, 20)]) := by decide +kernel
theorem ca4_22 : lk2 4 22 calL = some (0, 1, [(5, 59)]) := by decide +kernel
theorem ca4_26 : lk2 4 26 calL = some (0, 1, [(4, 21)]) := by decide +kernel
theorem ca4_33 : lk2 4 33 calL = some (8, 2, []) := by decide +kernel
theorem ca5_1 : lk2 5 1 calL = some (1, 2, [(0, 82)]) := by decide +kernel
theorem ca5_7 : lk2 5 7 calL = some (3, 0, [(0, 84)]) := by decide +kernel
theorem ca5_17 : lk2 5 17 calL = some (7, 2, []) := by decide +kernel
theorem ca5_23 : lk2 5 23 calL = some (0, 0, [(4, 43)]) := by decide +kernel
theorem ca6_1 : lk2 6 1 calL = some (1, 2, [(0, 0)]) := by decide +kernel
theorem ca6_7 : lk2 6 7 calL = some (3, 0, [(0, 2)]) := by decide +kernel
theorem ca7_3 : lk2 7 3 calL = some (6, 0, []) := by decide +kernel
theorem ca7_19 : lk2 7 19 calL = some (0, 1, [(8, 75)]) := by decide +kernel
theorem ca7_23 : lk2 7 23 calL = some (0, 1, [(8, 79)]) := by decide +kernel
theorem ca7_26 : lk2 7 26 calL = some (4, 1, [(0, 78)]) := by decide +kernel
theorem ca7_29 : lk2 7 29 calL = some (4, 1, [(0, 80)]) := by decide +kernel
theorem ca7_33 : lk2 7 33 calL = some (0, 2, [(8, 81)]) := by decide +kernel
theorem ca7_37 : lk2 7 37 calL = some (0, 3, [(4, 29)]) := by decide +kernel
theorem ca7_43 : lk2 7 43 calL = some (0, 3, [(4, 30)]) := by decide +kernel
theorem ca7_46 : lk2 7 46 calL = some (0, 1, [(4, 32)]) := by decide +kernel
theorem ca7_49 : lk2 7 49 calL = some (0, 1, [(4, 35)]) := by decide +kernel
theorem ca7_52 : lk2 7 52 calL = some (0, 1, [(4, 33)]) := by decide +kernel
theorem ca7_55 : lk2 7 55 calL = some (0, 2, [(4, 34)]) := by decide +kernel
theorem ca8_1 : lk2 8 1 calL = some (1, 2, [(0, 87)]) := by decide +kernel
theorem ca8_7 : lk2 8 7 calL = some (3, 0, [(0, 89)]) := by decide +kernel
theorem ca8_11 : lk2 8 11 calL = some (0, 0, [(4, 42)]) := by decide +kernel
theorem ca8_16 : lk2 8 16 calL = some (0, 0, [(6, 65), (9, 84)]) := by decide +kernel
theorem ca8_19 : lk2 8 19 calL = some (0, 1, [(6, 66), (9, 85)]) := by decide +kernel
theorem ca8_23 : lk2 8 23 calL = some (0, 2, [(4, 50)]) := by decide +kernel
theorem ca9_1 : lk2 9 1 calL = some (6, 0, []) := by decide +kernel
theorem ca9_16 : lk2 9 16 calL = some (0, 0, [(1, 2), (2, 7), (6, 65), (7, 69), (9, 84), (10, 89)]) := by decide +kernel
theorem ca9_20 : lk2 9 20 calL = some (0, 1, [(4, 47)]) := by decide +kernel
theorem ca10_1 : lk2 10 1 calL = some (6, 0, []) := by decide +kernel
theorem ca10_9 : lk2 10 9 calL = some (1, 0, [(0, 20)]) := by decide +kernel
theorem ca10_24 : lk2 10 24 calL = some (1, 0, [(0, 58)]) := by decide +kernel
theorem ca10_31 : lk2 10 31 calL = some (1, 0, [(0, 70)]) := by decide +kernel
theorem ca10_45 : lk2 10 45 calL = some (2, 0, [(0, 9)]) := by decide +kernel
theorem ca10_59 : lk2 10 59 calL = some (4, 3, [(0, 144)]) := by decide +kernel
theorem ca10_63 : lk2 10 63 calL = some (0, 0, [(8, 71)]) := by decide +kernel
theorem ca10_67 : lk2 10 67 calL = some (0, 1, [(11, 141)]) := by decide +kernel
theorem ca10_71 : lk2 10 71 calL = some (0, 1, [(8, 72)]) := by decide +kernel
theorem ca10_74 : lk2 10 74 calL = some (0, 1, [(4, 21)]) := by decide +kernel
theorem ca10_78 : lk2 10 78 calL = some (0, 0, [(8, 74)]) := by decide +kernel
theorem ca10_86 : lk2 10 86 calL = some (0, 2, [(8, 77)]) := by decide +kernel
theorem ca10_90 : lk2 10 90 calL = some (0, 1, [(8, 76)]) := by decide +kernel
theorem ca10_93 : lk2 10 93 calL = some (0, 0, [(8, 73)]) := by decide +kernel
theorem ca10_96 : lk2 10 96 calL = some (0, 0, [(5, 62)]) := by decide +kernel
theorem ca10_99 : lk2 10 99 calL = some (0, 1, [(4, 26)]) := by decide +kernel
theorem ca10_102 : lk2 10 102 calL = some (4, 2, [(0, 146)]) := by decide +kernel
theorem ca10_106 : lk2 10 106 calL = some (0, 1, [(4, 22)]) := by decide +kernel
theorem ca10_122 : lk2 10 122 calL = some (0, 0, [(3, 12)]) := by decide +kernel
theorem ca10_125 : lk2 10 125 calL = some (0, 1, [(4, 23)]) := by decide +kernel
theorem ca10_129 : lk2 10 129 calL = some (0, 0, [(1, 1), (2, 6), (6, 64), (7, 68), (9, 83), (10, 88)]) := by decide +kernel
theorem ca10_140 : lk2 10 140 calL = some (0, 0, [(1, 2), (2, 7), (6, 65), (7, 69), (9, 84), (10, 89)]) := by decide +kernel
theorem ca10_143 : lk2 10 143 calL = some (0, 1, [(4, 25)]) := by decide +kernel
theorem ca10_147 : lk2 10 147 calL = some (0, 3, [(4, 29)]) := by decide +kernel
theorem ca10_150 : lk2 10 150 calL = some (0, 1, [(11, 142)]) := by decide +kernel
theorem ca10_153 : lk2 10 153 calL = some (0, 3, [(4, 30)]) := by decide +kernel
theorem ca10_156 : lk2 10 156 calL = some (0, 1, [(4, 32)]) := by decide +kernel
theorem ca10_159 : lk2 10 159 calL = some (0, 1, [(11, 143)]) := by decide +kernel
theorem ca10_162 : lk2 10 162 calL = some (0, 1, [(4, 33)]) := by decide +kernel
theorem ca10_165 : lk2 10 165 calL = some (0, 2, [(4, 34)]) := by decide +kernel
theorem ca10_168 : lk2 10 168 calL = some (0, 1, [(4, 35)]) := by decide +kernel
theorem ca10_171 : lk2 10 171 calL = some (0, 2, [(11, 148)]) := by decide +kernel
theorem ca10_174 : lk2 10 174 calL = some (0, 2, [(11, 150)]) := by decide +kernel
theorem ca10_178 : lk2 10 178 calL = some (4, 1, [(0, 147)]) := by decide +kernel
theorem ca10_181 : lk2 10 181 calL = some (0, 1, [(4, 38)]) := by decide +kernel
theorem ca10_184 : lk2 10 184 calL = some (0, 2, [(11, 152)]) := by decide +kernel
theorem ca10_187 : lk2 10 187 calL = some (0, 0, [(11, 160)]) := by decide +kernel
theorem ca10_190 : lk2 10 190 calL = some (0, 0, [(11, 161)]) := by decide +kernel
theorem ca10_193 : lk2 10 193 calL = some (0, 0, [(11, 162)]) := by decide +kernel
theorem ca10_196 : lk2 10 196 calL = some (0, 2, [(11, 153)]) := by decide +kernel
theorem ca10_199 : lk2 10 199 calL = some (0, 2, [(11, 154)]) := by decide +kernel
theorem ca10_202 : lk2 10 202 calL = some (4, 4, [(0, 145)]) := by decide +kernel
theorem ca10_206 : lk2 10 206 calL = some (0, 0, [(4, 55)]) := by decide +kernel
theorem ca10_209 : lk2 10 209 calL = some (0, 1, [(4, 56)]) := by decide +kernel
theorem ca10_215 : lk2 10 215 calL = some (0, 3, [(11, 167)]) := by decide +kernel
theorem ca10_223 : lk2 10 223 calL = some (0, 1, [(4, 53)]) := by decide +kernel
theorem ca10_227 : lk2 10 227 calL = some (0, 2, [(4, 28)]) := by decide +kernel
theorem ca10_230 : lk2 10 230 calL = some (0, 2, [(4, 51)]) := by decide +kernel
theorem ca10_233 : lk2 10 233 calL = some (0, 1, [(3, 11)]) := by decide +kernel
theorem ca10_236 : lk2 10 236 calL = some (0, 1, [(3, 15)]) := by decide +kernel
theorem ca10_245 : lk2 10 245 calL = some (0, 3, [(3, 19)]) := by decide +kernel
theorem ca10_249 : lk2 10 249 calL = some (0, 3, [(11, 149)]) := by decide +kernel
theorem ca10_252 : lk2 10 252 calL = some (0, 3, [(11, 155)]) := by decide +kernel
theorem ca10_258 : lk2 10 258 calL = some (0, 2, [(11, 151)]) := by decide +kernel
theorem ca10_263 : lk2 10 263 calL = some (4, 3, [(0, 174)]) := by decide +kernel
theorem ca10_267 : lk2 10 267 calL = some (0, 0, [(11, 163)]) := by decide +kernel
theorem ca10_270 : lk2 10 270 calL = some (0, 1, [(11, 164)]) := by decide +kernel
theorem ca10_273 : lk2 10 273 calL = some (0, 2, [(11, 156)]) := by decide +kernel
theorem ca10_276 : lk2 10 276 calL = some (0, 0, [(4, 39)]) := by decide +kernel
theorem ca10_279 : lk2 10 279 calL = some (0, 1, [(4, 41)]) := by decide +kernel
theorem ca10_282 : lk2 10 282 calL = some (4, 2, [(0, 173)]) := by decide +kernel
theorem ca10_288 : lk2 10 288 calL = some (0, 1, [(11, 168)]) := by decide +kernel
theorem ca10_291 : lk2 10 291 calL = some (4, 3, [(0, 158)]) := by decide +kernel
theorem ca10_295 : lk2 10 295 calL = some (0, 3, [(11, 159)]) := by decide +kernel
theorem ca10_299 : lk2 10 299 calL = some (0, 1, [(5, 61)]) := by decide +kernel
theorem ca10_305 : lk2 10 305 calL = some (0, 1, [(4, 24)]) := by decide +kernel
theorem ca10_308 : lk2 10 308 calL = some (4, 1, [(0, 170)]) := by decide +kernel
theorem ca10_311 : lk2 10 311 calL = some (0, 2, [(11, 171)]) := by decide +kernel
theorem ca10_314 : lk2 10 314 calL = some (0, 1, [(11, 172)]) := by decide +kernel
theorem ca10_317 : lk2 10 317 calL = some (8, 2, []) := by decide +kernel
theorem ca10_322 : lk2 10 322 calL = some (9, 5, []) := by decide +kernel
theorem ca10_328 : lk2 10 328 calL = some (0, 1, [(11, 165)]) := by decide +kernel
theorem ca10_331 : lk2 10 331 calL = some (0, 2, [(3, 18)]) := by decide +kernel
theorem ca10_338 : lk2 10 338 calL = some (0, 2, [(4, 27)]) := by decide +kernel
theorem ca10_341 : lk2 10 341 calL = some (0, 0, [(4, 36)]) := by decide +kernel
theorem ca10_343 : lk2 10 343 calL = some (0, 2, [(4, 48)]) := by decide +kernel
theorem ca10_346 : lk2 10 346 calL = some (0, 0, [(4, 52)]) := by decide +kernel
theorem ca10_349 : lk2 10 349 calL = some (7, 2, []) := by decide +kernel
theorem ca10_352 : lk2 10 352 calL = some (0, 0, [(4, 44)]) := by decide +kernel
theorem ca10_355 : lk2 10 355 calL = some (0, 0, [(11, 136)]) := by decide +kernel
theorem ca10_358 : lk2 10 358 calL = some (0, 2, [(11, 169)]) := by decide +kernel
theorem ca10_362 : lk2 10 362 calL = some (4, 1, [(0, 176)]) := by decide +kernel
theorem ca10_365 : lk2 10 365 calL = some (4, 2, [(0, 177)]) := by decide +kernel
theorem ca10_368 : lk2 10 368 calL = some (0, 0, [(4, 45)]) := by decide +kernel
theorem ca10_375 : lk2 10 375 calL = some (0, 1, [(5, 60)]) := by decide +kernel
theorem ca10_378 : lk2 10 378 calL = some (0, 1, [(3, 14)]) := by decide +kernel
theorem ca10_381 : lk2 10 381 calL = some (0, 3, [(11, 157)]) := by decide +kernel
theorem ca10_387 : lk2 10 387 calL = some (0, 1, [(3, 16)]) := by decide +kernel
theorem ca10_390 : lk2 10 390 calL = some (0, 0, [(3, 17)]) := by decide +kernel
theorem ca10_393 : lk2 10 393 calL = some (0, 0, [(4, 46)]) := by decide +kernel
theorem ca10_396 : lk2 10 396 calL = some (0, 1, [(3, 13)]) := by decide +kernel
theorem ca10_402 : lk2 10 402 calL = some (0, 1, [(11, 166)]) := by decide +kernel
theorem ca10_405 : lk2 10 405 calL = some (0, 1, [(4, 54)]) := by decide +kernel
theorem ca10_408 : lk2 10 408 calL = some (0, 1, [(4, 37)]) := by decide +kernel
theorem ca10_410 : lk2 10 410 calL = some (0, 2, [(4, 57)]) := by decide +kernel
theorem ca10_413 : lk2 10 413 calL = some (4, 2, [(0, 175)]) := by decide +kernel
theorem ca11_1 : lk2 11 1 calL = some (6, 0, []) := by decide +kernel
theorem ca11_89 : lk2 11 89 calL = some (4, 3, [(0, 179)]) := by decide +kernel
theorem ca11_97 : lk2 11 97 calL = some (4, 3, [(0, 186)]) := by decide +kernel
theorem ca11_101 : lk2 11 101 calL = some (0, 0, [(12, 191)]) := by decide +kernel
theorem ca11_105 : lk2 11 105 calL = some (0, 0, [(12, 192)]) := by decide +kernel
theorem ca11_108 : lk2 11 108 calL = some (0, 1, [(12, 193)]) := by decide +kernel
theorem ca11_112 : lk2 11 112 calL = some (0, 1, [(12, 190)]) := by decide +kernel
theorem ca11_116 : lk2 11 116 calL = some (0, 1, [(12, 194)]) := by decide +kernel
theorem ca11_119 : lk2 11 119 calL = some (0, 0, [(12, 195)]) := by decide +kernel
theorem ca11_125 : lk2 11 125 calL = some (0, 1, [(12, 197)]) := by decide +kernel
theorem ca11_131 : lk2 11 131 calL = some (0, 0, [(12, 198)]) := by decide +kernel
theorem ca11_134 : lk2 11 134 calL = some (0, 1, [(12, 180)]) := by decide +kernel
theorem ca11_147 : lk2 11 147 calL = some (0, 0, [(12, 201)]) := by decide +kernel
theorem ca11_154 : lk2 11 154 calL = some (0, 1, [(12, 202)]) := by decide +kernel
theorem ca11_160 : lk2 11 160 calL = some (4, 1, [(0, 203)]) := by decide +kernel
theorem ca11_164 : lk2 11 164 calL = some (0, 2, [(12, 204)]) := by decide +kernel
theorem ca11_170 : lk2 11 170 calL = some (0, 3, [(12, 206)]) := by decide +kernel
theorem ca11_174 : lk2 11 174 calL = some (0, 3, [(12, 207)]) := by decide +kernel
theorem ca11_177 : lk2 11 177 calL = some (0, 1, [(12, 182)]) := by decide +kernel
theorem ca11_180 : lk2 11 180 calL = some (0, 1, [(12, 196)]) := by decide +kernel
theorem ca11_185 : lk2 11 185 calL = some (0, 1, [(12, 199)]) := by decide +kernel
theorem ca11_188 : lk2 11 188 calL = some (0, 1, [(12, 181)]) := by decide +kernel
theorem ca11_191 : lk2 11 191 calL = some (0, 0, [(12, 205)]) := by decide +kernel
theorem ca11_194 : lk2 11 194 calL = some (0, 0, [(12, 212)]) := by decide +kernel
theorem ca11_197 : lk2 11 197 calL = some (0, 1, [(12, 208)]) := by decide +kernel
theorem ca11_200 : lk2 11 200 calL = some (0, 0, [(12, 213)]) := by decide +kernel
theorem ca11_215 : lk2 11 215 calL = some (0, 1, [(12, 210)]) := by decide +kernel
theorem ca11_218 : lk2 11 218 calL = some (0, 2, [(12, 211)]) := by decide +kernel
theorem ca11_227 : lk2 11 227 calL = some (0, 1, [(12, 189)]) := by decide +kernel
theorem ca11_232 : lk2 11 232 calL = some (0, 0, [(12, 216)]) := by decide +kernel
theorem ca11_235 : lk2 11 235 calL = some (0, 0, [(12, 188)]) := by decide +kernel
theorem ca11_238 : lk2 11 238 calL = some (4, 3, [(0, 183)]) := by decide +kernel
theorem ca11_241 : lk2 11 241 calL = some (4, 3, [(0, 184)]) := by decide +kernel
theorem ca11_244 : lk2 11 244 calL = some (0, 1, [(12, 227)]) := by decide +kernel
theorem ca11_247 : lk2 11 247 calL = some (0, 1, [(12, 229)]) := by decide +kernel
theorem ca11_252 : lk2 11 252 calL = some (0, 0, [(12, 232)]) := by decide +kernel
theorem ca11_255 : lk2 11 255 calL = some (0, 0, [(12, 231)]) := by decide +kernel
theorem ca11_258 : lk2 11 258 calL = some (4, 2, [(0, 185)]) := by decide +kernel
theorem ca11_262 : lk2 11 262 calL = some (0, 0, [(12, 236)]) := by decide +kernel
theorem ca11_265 : lk2 11 265 calL = some (0, 1, [(12, 237)]) := by decide +kernel
theorem ca11_268 : lk2 11 268 calL = some (0, 1, [(12, 235)]) := by decide +kernel
theorem ca11_272 : lk2 11 272 calL = some (0, 3, [(12, 243)]) := by decide +kernel
theorem ca11_275 : lk2 11 275 calL = some (0, 2, [(12, 242)]) := by decide +kernel
theorem ca11_279 : lk2 11 279 calL = some (4, 2, [(0, 246)]) := by decide +kernel
theorem ca11_285 : lk2 11 285 calL = some (4, 3, [(0, 247)]) := by decide +kernel
theorem ca11_289 : lk2 11 289 calL = some (0, 3, [(12, 250)]) := by decide +kernel
theorem ca11_292 : lk2 11 292 calL = some (0, 0, [(12, 187)]) := by decide +kernel
theorem ca11_298 : lk2 11 298 calL = some (4, 1, [(0, 256)]) := by decide +kernel
theorem ca11_301 : lk2 11 301 calL = some (0, 2, [(12, 257)]) := by decide +kernel
theorem ca11_310 : lk2 11 310 calL = some (0, 1, [(12, 274)]) := by decide +kernel
theorem ca12_9 : lk2 12 9 calL = some (1, 0, [(0, 91)]) := by decide +kernel
theorem ca12_12 : lk2 12 12 calL = some (1, 0, [(0, 178)]) := by decide +kernel
theorem ca12_13 : lk2 12 13 calL = some (0, 1, [(11, 92)]) := by decide +kernel
theorem ca12_17 : lk2 12 17 calL = some (0, 1, [(12, 200)]) := by decide +kernel
theorem ca12_18 : lk2 12 18 calL = some (0, 0, [(11, 93)]) := by decide +kernel
theorem ca12_22 : lk2 12 22 calL = some (0, 0, [(12, 209)]) := by decide +kernel
theorem ca12_23 : lk2 12 23 calL = some (0, 2, [(11, 94)]) := by decide +kernel
theorem ca12_27 : lk2 12 27 calL = some (0, 2, [(12, 218)]) := by decide +kernel
theorem ca12_28 : lk2 12 28 calL = some (0, 2, [(11, 95)]) := by decide +kernel
theorem ca12_31 : lk2 12 31 calL = some (0, 2, [(12, 219)]) := by decide +kernel
theorem ca12_32 : lk2 12 32 calL = some (0, 3, [(11, 96)]) := by decide +kernel
theorem ca12_36 : lk2 12 36 calL = some (0, 3, [(12, 220)]) := by decide +kernel
theorem ca12_37 : lk2 12 37 calL = some (0, 3, [(11, 97)]) := by decide +kernel
theorem ca12_40 : lk2 12 40 calL = some (0, 3, [(12, 221)]) := by decide +kernel
theorem ca12_41 : lk2 12 41 calL = some (0, 1, [(11, 98)]) := by decide +kernel
theorem ca12_44 : lk2 12 44 calL = some (0, 1, [(12, 222)]) := by decide +kernel
theorem ca12_45 : lk2 12 45 calL = some (0, 1, [(11, 99)]) := by decide +kernel
theorem ca12_48 : lk2 12 48 calL = some (0, 1, [(12, 223)]) := by decide +kernel
theorem ca12_49 : lk2 12 49 calL = some (0, 2, [(11, 100)]) := by decide +kernel
theorem ca12_52 : lk2 12 52 calL = some (0, 2, [(12, 224)]) := by decide +kernel
theorem ca12_53 : lk2 12 53 calL = some (0, 1, [(11, 101)]) := by decide +kernel
theorem ca12_56 : lk2 12 56 calL = some (0, 1, [(12, 225)]) := by decide +kernel
theorem ca12_57 : lk2 12 57 calL = some (0, 0, [(11, 119)]) := by decide +kernel
theorem ca12_60 : lk2 12 60 calL = some (0, 0, [(12, 217)]) := by decide +kernel
theorem ca12_61 : lk2 12 61 calL = some (0, 3, [(11, 102)]) := by decide +kernel
theorem ca12_64 : lk2 12 64 calL = some (0, 3, [(12, 226)]) := by decide +kernel
theorem ca12_65 : lk2 12 65 calL = some (0, 1, [(11, 103)]) := by decide +kernel
theorem ca12_68 : lk2 12 68 calL = some (0, 1, [(12, 228)]) := by decide +kernel
theorem ca12_69 : lk2 12 69 calL = some (0, 1, [(11, 104)]) := by decide +kernel
theorem ca12_72 : lk2 12 72 calL = some (0, 1, [(12, 230)]) := by decide +kernel
theorem ca12_73 : lk2 12 73 calL = some (0, 1, [(11, 105)]) := by decide +kernel
theorem ca12_76 : lk2 12 76 calL = some (0, 1, [(12, 233)]) := by decide +kernel
theorem ca12_77 : lk2 12 77 calL = some (0, 3, [(11, 106)]) := by decide +kernel
theorem ca12_80 : lk2 12 80 calL = some (0, 3, [(12, 234)]) := by decide +kernel
theorem ca12_81 : lk2 12 81 calL = some (0, 3, [(11, 107)]) := by decide +kernel
theorem ca12_84 : lk2 12 84 calL = some (0, 3, [(12, 238)]) := by decide +kernel
theorem ca12_85 : lk2 12 85 calL = some (0, 1, [(11, 108)]) := by decide +kernel
theorem ca12_88 : lk2 12 88 calL = some (0, 1, [(12, 239)]) := by decide +kernel
theorem ca12_89 : lk2 12 89 calL = some (0, 2, [(11, 109)]) := by decide +kernel
theorem ca12_92 : lk2 12 92 calL = some (0, 2, [(12, 240)]) := by decide +kernel
theorem ca12_93 : lk2 12 93 calL = some (0, 3, [(11, 110)]) := by decide +kernel
theorem ca12_96 : lk2 12 96 calL = some (0, 3, [(12, 241)]) := by decide +kernel
theorem ca12_97 : lk2 12 97 calL = some (0, 3, [(11, 111)]) := by decide +kernel
theorem ca12_100 : lk2 12 100 calL = some (0, 3, [(12, 244)]) := by decide +kernel
theorem ca12_101 : lk2 12 101 calL = some (0, 1, [(11, 112)]) := by decide +kernel
theorem ca12_104 : lk2 12 104 calL = some (0, 1, [(12, 245)]) := by decide +kernel
theorem ca12_105 : lk2 12 105 calL = some (0, 2, [(11, 113)]) := by decide +kernel
theorem ca12_109 : lk2 12 109 calL = some (0, 2, [(12, 248)]) := by decide +kernel
theorem ca12_110 : lk2 12 110 calL = some (0, 2, [(11, 114)]) := by decide +kernel
theorem ca12_113 : lk2 12 113 calL = some (0, 2, [(12, 249)]) := by decide +kernel
theorem ca12_114 : lk2 12 114 calL = some (0, 3, [(11, 115)]) := by decide +kernel
theorem ca12_117 : lk2 12 117 calL = some (0, 3, [(12, 251)]) := by decide +kernel
theorem ca12_118 : lk2 12 118 calL = some (0, 2, [(11, 116)]) := by decide +kernel
theorem ca12_121 : lk2 12 121 calL = some (0, 2, [(12, 252)]) := by decide +kernel
theorem ca12_122 : lk2 12 122 calL = some (0, 1, [(11, 117)]) := by decide +kernel
theorem ca12_125 : lk2 12 125 calL = some (0, 1, [(12, 253)]) := by decide +kernel
theorem ca12_126 : lk2 12 126 calL = some (0, 5, [(11, 118)]) := by decide +kernel
theorem ca12_130 : lk2 12 130 calL = some (0, 5, [(12, 254)]) := by decide +kernel
theorem ca12_131 : lk2 12 131 calL = some (0, 1, [(11, 120)]) := by decide +kernel
theorem ca12_134 : lk2 12 134 calL = some (0, 1, [(12, 255)]) := by decide +kernel
theorem ca12_135 : lk2 12 135 calL = some (0, 1, [(11, 121)]) := by decide +kernel
theorem ca12_138 : lk2 12 138 calL = some (0, 1, [(12, 258)]) := by decide +kernel
theorem ca12_139 : lk2 12 139 calL = some (0, 1, [(11, 122)]) := by decide +kernel
theorem ca12_142 : lk2 12 142 calL = some (0, 1, [(12, 259)]) := by decide +kernel
theorem ca12_143 : lk2 12 143 calL = some (0, 1, [(11, 123)]) := by decide +kernel
theorem ca12_146 : lk2 12 146 calL = some (0, 1, [(12, 260)]) := by decide +kernel
theorem ca12_147 : lk2 12 147 calL = some (0, 3, [(11, 124)]) := by decide +kernel
theorem ca12_150 : lk2 12 150 calL = some (0, 3, [(12, 261)]) := by decide +kernel
theorem ca12_151 : lk2 12 151 calL = some (0, 2, [(11, 125)]) := by decide +kernel
theorem ca12_154 : lk2 12 154 calL = some (0, 2, [(12, 262)]) := by decide +kernel
theorem ca12_155 : lk2 12 155 calL = some (0, 1, [(11, 126)]) := by decide +kernel
theorem ca12_158 : lk2 12 158 calL = some (0, 1, [(12, 263)]) := by decide +kernel
theorem ca12_159 : lk2 12 159 calL = some (0, 2, [(11, 127)]) := by decide +kernel
theorem ca12_162 : lk2 12 162 calL = some (0, 2, [(12, 264)]) := by decide +kernel
theorem ca12_163 : lk2 12 163 calL = some (0, 2, [(11, 128)]) := by decide +kernel
theorem ca12_166 : lk2 12 166 calL = some (0, 2, [(12, 265)]) := by decide +kernel
theorem ca12_167 : lk2 12 167 calL = some (0, 2, [(11, 129)]) := by decide +kernel
theorem ca12_170 : lk2 12 170 calL = some (0, 2, [(12, 266)]) := by decide +kernel
theorem ca12_171 : lk2 12 171 calL = some (0, 2, [(11, 130)]) := by decide +kernel
theorem ca12_174 : lk2 12 174 calL = some (0, 2, [(12, 267)]) := by decide +kernel
theorem ca12_175 : lk2 12 175 calL = some (0, 1, [(11, 131)]) := by decide +kernel
theorem ca12_178 : lk2 12 178 calL = some (0, 1, [(12, 268)]) := by decide +kernel
theorem ca12_179 : lk2 12 179 calL = some (0, 1, [(11, 132)]) := by decide +kernel
theorem ca12_182 : lk2 12 182 calL = some (0, 1, [(12, 269)]) := by decide +kernel
theorem ca12_183 : lk2 12 183 calL = some (0, 0, [(11, 133)]) := by decide +kernel
theorem ca12_186 : lk2 12 186 calL = some (0, 0, [(12, 270)]) := by decide +kernel
theorem ca12_187 : lk2 12 187 calL = some (0, 1, [(11, 134)]) := by decide +kernel
theorem ca12_190 : lk2 12 190 calL = some (0, 1, [(12, 271)]) := by decide +kernel
theorem ca12_191 : lk2 12 191 calL = some (0, 1, [(11, 135)]) := by decide +kernel
theorem ca12_194 : lk2 12 194 calL = some (0, 1, [(12, 272)]) := by decide +kernel
theorem ca12_195 : lk2 12 195 calL = some (0, 0, [(11, 136)]) := by decide +kernel
theorem ca12_198 : lk2 12 198 calL = some (0, 0, [(12, 273)]) := by decide +kernel
theorem ca12_199 : lk2 12 199 calL = some (0, 3, [(11, 137)]) := by decide +kernel
theorem ca12_202 : lk2 12 202 calL = some (0, 3, [(12, 275)]) := by decide +kernel
theorem ca12_203 : lk2 12 203 calL = some (0, 0, [(11, 138)]) := by decide +kernel
theorem ca12_206 : lk2 12 206 calL = some (0, 0, [(12, 214)]) := by decide +kernel
theorem ca12_207 : lk2 12 207 calL = some (0, 0, [(11, 139)]) := by decide +kernel
theorem ca12_210 : lk2 12 210 calL = some (0, 0, [(12, 215)]) := by decide +kernel
theorem ca12_211 : lk2 12 211 calL = some (0, 1, [(11, 140)]) := by decide +kernel
theorem ca12_214 : lk2 12 214 calL = some (0, 1, [(12, 276)]) := by decide +kernel
