set_option maxRecDepth 100000 in
theorem eRows_X0_init : eRows eM_X0_init := by unfold eRows eM_X0_init; decide +kernel
set_option maxRecDepth 100000 in
theorem eRows_X0_become : eRows eM_X0_become := by unfold eRows eM_X0_become; decide +kernel
set_option maxRecDepth 100000 in
theorem eRows_X0_pits : eRows eM_X0_pits := by unfold eRows eM_X0_pits; decide +kernel
set_option maxRecDepth 100000 in
theorem eRows_X0_monkAtTurn : eRows eM_X0_monkAtTurn := by unfold eRows eM_X0_monkAtTurn; decide +kernel
set_option maxRecDepth 100000 in
theorem eRows_X0_marblesCame : eRows eM_X0_marblesCame := by unfold eRows eM_X0_marblesCame; decide +kernel
set_option maxRecDepth 100000 in
theorem eRows_X0_marblesLeftLying : eRows eM_X0_marblesLeftLying := by unfold eRows eM_X0_marblesLeftLying; decide +kernel
set_option maxRecDepth 100000 in
theorem eRows_X0_gamesSoFar : eRows eM_X0_gamesSoFar := by unfold eRows eM_X0_gamesSoFar; decide +kernel
set_option maxRecDepth 100000 in
theorem eRows_X0_hasPit : eRows eM_X0_hasPit := by unfold eRows eM_X0_hasPit; decide +kernel
set_option maxRecDepth 100000 in
theorem eRows_X0_marblesIn : eRows eM_X0_marblesIn := by unfold eRows eM_X0_marblesIn; decide +kernel
set_option maxRecDepth 100000 in
theorem eRows_X0_marblesInAll : eRows eM_X0_marblesInAll := by unfold eRows eM_X0_marblesInAll; decide +kernel
set_option maxRecDepth 100000 in
theorem eRows_X0_digitFor : eRows eM_X0_digitFor := by unfold eRows eM_X0_digitFor; decide +kernel
set_option maxRecDepth 100000 in
theorem eRows_X0_setDigit : eRows eM_X0_setDigit := by unfold eRows eM_X0_setDigit; decide +kernel
set_option maxRecDepth 100000 in
theorem eRows_X0_tally : eRows eM_X0_tally := by unfold eRows eM_X0_tally; decide +kernel
set_option maxRecDepth 100000 in
theorem eRows_X0_tallyOfBoth : eRows eM_X0_tallyOfBoth := by unfold eRows eM_X0_tallyOfBoth; decide +kernel
set_option maxRecDepth 100000 in
theorem eRows_X0_isTally : eRows eM_X0_isTally := by unfold eRows eM_X0_isTally; decide +kernel
set_option maxRecDepth 100000 in
theorem eRows_X0_addTally : eRows eM_X0_addTally := by unfold eRows eM_X0_addTally; decide +kernel
set_option maxRecDepth 100000 in
theorem eRows_X0_lets : eRows eM_X0_lets := by unfold eRows eM_X0_lets; decide +kernel
set_option maxRecDepth 100000 in
theorem eRows_X0_scoopsOf : eRows eM_X0_scoopsOf := by unfold eRows eM_X0_scoopsOf; decide +kernel
set_option maxRecDepth 100000 in
theorem eRows_X0_scoopsInAll : eRows eM_X0_scoopsInAll := by unfold eRows eM_X0_scoopsInAll; decide +kernel
set_option maxRecDepth 100000 in
theorem eRows_X0_bringPit : eRows eM_X0_bringPit := by unfold eRows eM_X0_bringPit; decide +kernel
set_option maxRecDepth 100000 in
theorem eRows_X0_addPit : eRows eM_X0_addPit := by unfold eRows eM_X0_addPit; decide +kernel
set_option maxRecDepth 100000 in
theorem eRows_X0_removePit : eRows eM_X0_removePit := by unfold eRows eM_X0_removePit; decide +kernel
set_option maxRecDepth 100000 in
theorem eRows_X0_make : eRows eM_X0_make := by unfold eRows eM_X0_make; decide +kernel
set_option maxRecDepth 100000 in
theorem eRows_X0_winner : eRows eM_X0_winner := by unfold eRows eM_X0_winner; decide +kernel
set_option maxRecDepth 100000 in
theorem eRows_X0_beginNext : eRows eM_X0_beginNext := by unfold eRows eM_X0_beginNext; decide +kernel
set_option maxRecDepth 100000 in
theorem eRows_X1_init : eRows eM_X1_init := by unfold eRows eM_X1_init; decide +kernel
set_option maxRecDepth 100000 in
theorem eRows_X1_size : eRows eM_X1_size := by unfold eRows eM_X1_size; decide +kernel
set_option maxRecDepth 100000 in
theorem eRows_X1_forget : eRows eM_X1_forget := by unfold eRows eM_X1_forget; decide +kernel
set_option maxRecDepth 100000 in
theorem eRows_X1_keptAt : eRows eM_X1_keptAt := by unfold eRows eM_X1_keptAt; decide +kernel
set_option maxRecDepth 100000 in
theorem eRows_X1_keep : eRows eM_X1_keep := by unfold eRows eM_X1_keep; decide +kernel
set_option maxRecDepth 100000 in
theorem eRows_X1_giveBack : eRows eM_X1_giveBack := by unfold eRows eM_X1_giveBack; decide +kernel
set_option maxRecDepth 100000 in
theorem eRows_X2_init : eRows eM_X2_init := by unfold eRows eM_X2_init; decide +kernel
set_option maxRecDepth 100000 in
theorem eRows_X2_set : eRows eM_X2_set := by unfold eRows eM_X2_set; decide +kernel
set_option maxRecDepth 100000 in
theorem eRows_X2_from : eRows eM_X2_from := by unfold eRows eM_X2_from; decide +kernel
set_option maxRecDepth 100000 in
theorem eRows_X2_taken : eRows eM_X2_taken := by unfold eRows eM_X2_taken; decide +kernel
set_option maxRecDepth 100000 in
theorem eRows_X2_left : eRows eM_X2_left := by unfold eRows eM_X2_left; decide +kernel
set_option maxRecDepth 100000 in
theorem eRows_X2_part : eRows eM_X2_part := by unfold eRows eM_X2_part; decide +kernel
set_option maxRecDepth 100000 in
theorem eRows_X3_init : eRows eM_X3_init := by unfold eRows eM_X3_init; decide +kernel
set_option maxRecDepth 100000 in
theorem eRows_X3_length : eRows eM_X3_length := by unfold eRows eM_X3_length; decide +kernel
set_option maxRecDepth 100000 in
theorem eRows_X3_isFull : eRows eM_X3_isFull := by unfold eRows eM_X3_isFull; decide +kernel
set_option maxRecDepth 100000 in
theorem eRows_X3_add : eRows eM_X3_add := by unfold eRows eM_X3_add; decide +kernel
set_option maxRecDepth 100000 in
theorem eRows_X3_clear : eRows eM_X3_clear := by unfold eRows eM_X3_clear; decide +kernel
set_option maxRecDepth 100000 in
theorem eRows_X3_orders : eRows eM_X3_orders := by unfold eRows eM_X3_orders; decide +kernel
set_option maxRecDepth 100000 in
theorem eRows_X3_kind : eRows eM_X3_kind := by unfold eRows eM_X3_kind; decide +kernel
set_option maxRecDepth 100000 in
theorem eRows_X3_number : eRows eM_X3_number := by unfold eRows eM_X3_number; decide +kernel
set_option maxRecDepth 100000 in
theorem eRows_X3_readOrders : eRows eM_X3_readOrders := by unfold eRows eM_X3_readOrders; decide +kernel
set_option maxRecDepth 100000 in
theorem eRows_X3_readOrder : eRows eM_X3_readOrder := by unfold eRows eM_X3_readOrder; decide +kernel
set_option maxRecDepth 100000 in
theorem eRows_X3_readNumbers : eRows eM_X3_readNumbers := by unfold eRows eM_X3_readNumbers; decide +kernel
set_option maxRecDepth 100000 in
theorem eRows_X3_readDigit : eRows eM_X3_readDigit := by unfold eRows eM_X3_readDigit; decide +kernel
set_option maxRecDepth 100000 in
theorem eRows_X3_readNumber : eRows eM_X3_readNumber := by unfold eRows eM_X3_readNumber; decide +kernel
set_option maxRecDepth 100000 in
theorem eRows_X3_setNumber : eRows eM_X3_setNumber := by unfold eRows eM_X3_setNumber; decide +kernel
set_option maxRecDepth 100000 in
theorem eRows_X3_skip : eRows eM_X3_skip := by unfold eRows eM_X3_skip; decide +kernel
set_option maxRecDepth 100000 in
theorem eRows_X3_sign : eRows eM_X3_sign := by unfold eRows eM_X3_sign; decide +kernel
set_option maxRecDepth 100000 in
theorem eRows_X4_init : eRows eM_X4_init := by unfold eRows eM_X4_init; decide +kernel
set_option maxRecDepth 100000 in
theorem eRows_X4_isWon : eRows eM_X4_isWon := by unfold eRows eM_X4_isWon; decide +kernel
set_option maxRecDepth 100000 in
theorem eRows_X4_canWin : eRows eM_X4_canWin := by unfold eRows eM_X4_canWin; decide +kernel
set_option maxRecDepth 100000 in
theorem eRows_X4_note : eRows eM_X4_note := by unfold eRows eM_X4_note; decide +kernel
set_option maxRecDepth 100000 in
theorem eRows_X4_canWinByAny : eRows eM_X4_canWinByAny := by unfold eRows eM_X4_canWinByAny; decide +kernel
set_option maxRecDepth 100000 in
theorem eRows_X4_canWinFrom : eRows eM_X4_canWinFrom := by unfold eRows eM_X4_canWinFrom; decide +kernel
set_option maxRecDepth 100000 in
theorem eRows_X4_oneOf : eRows eM_X4_oneOf := by unfold eRows eM_X4_oneOf; decide +kernel
set_option maxRecDepth 100000 in
theorem eRows_X4_isIn : eRows eM_X4_isIn := by unfold eRows eM_X4_isIn; decide +kernel
set_option maxRecDepth 100000 in
theorem eRows_X5_init : eRows eM_X5_init := by unfold eRows eM_X5_init; decide +kernel
set_option maxRecDepth 100000 in
theorem eRows_X5_learn : eRows eM_X5_learn := by unfold eRows eM_X5_learn; decide +kernel
set_option maxRecDepth 100000 in
theorem eRows_X5_reckon : eRows eM_X5_reckon := by unfold eRows eM_X5_reckon; decide +kernel
set_option maxRecDepth 100000 in
theorem eRows_X5_makeList : eRows eM_X5_makeList := by unfold eRows eM_X5_makeList; decide +kernel
set_option maxRecDepth 100000 in
theorem eRows_X5_putInList : eRows eM_X5_putInList := by unfold eRows eM_X5_putInList; decide +kernel
set_option maxRecDepth 100000 in
theorem eRows_X5_lookThroughList : eRows eM_X5_lookThroughList := by unfold eRows eM_X5_lookThroughList; decide +kernel
set_option maxRecDepth 100000 in
theorem eRows_X5_bitsOf : eRows eM_X5_bitsOf := by unfold eRows eM_X5_bitsOf; decide +kernel
set_option maxRecDepth 100000 in
theorem eRows_X5_bitsOfSplits : eRows eM_X5_bitsOfSplits := by unfold eRows eM_X5_bitsOfSplits; decide +kernel
set_option maxRecDepth 100000 in
theorem eRows_X5_of : eRows eM_X5_of := by unfold eRows eM_X5_of; decide +kernel
set_option maxRecDepth 100000 in
theorem eRows_X5_ofBits : eRows eM_X5_ofBits := by unfold eRows eM_X5_ofBits; decide +kernel
set_option maxRecDepth 100000 in
theorem eRows_X5_hasInList : eRows eM_X5_hasInList := by unfold eRows eM_X5_hasInList; decide +kernel
set_option maxRecDepth 100000 in
theorem eRows_X5_differentInList : eRows eM_X5_differentInList := by unfold eRows eM_X5_differentInList; decide +kernel
set_option maxRecDepth 100000 in
theorem eRows_X5_greatest : eRows eM_X5_greatest := by unfold eRows eM_X5_greatest; decide +kernel
set_option maxRecDepth 100000 in
theorem eRows_X5_isPeriod : eRows eM_X5_isPeriod := by unfold eRows eM_X5_isPeriod; decide +kernel
set_option maxRecDepth 100000 in
theorem eRows_X5_areAlike : eRows eM_X5_areAlike := by unfold eRows eM_X5_areAlike; decide +kernel
set_option maxRecDepth 100000 in
theorem eRows_X6_init : eRows eM_X6_init := by unfold eRows eM_X6_init; decide +kernel
set_option maxRecDepth 100000 in
theorem eRows_X6_pit : eRows eM_X6_pit := by unfold eRows eM_X6_pit; decide +kernel
set_option maxRecDepth 100000 in
theorem eRows_X6_digit : eRows eM_X6_digit := by unfold eRows eM_X6_digit; decide +kernel
set_option maxRecDepth 100000 in
theorem eRows_X6_digitOf : eRows eM_X6_digitOf := by unfold eRows eM_X6_digitOf; decide +kernel
set_option maxRecDepth 100000 in
theorem eRows_X6_pitOf : eRows eM_X6_pitOf := by unfold eRows eM_X6_pitOf; decide +kernel
set_option maxRecDepth 100000 in
theorem eRows_X6_ranked : eRows eM_X6_ranked := by unfold eRows eM_X6_ranked; decide +kernel
set_option maxRecDepth 100000 in
theorem eRows_X6_scoop : eRows eM_X6_scoop := by unfold eRows eM_X6_scoop; decide +kernel
set_option maxRecDepth 100000 in
theorem eRows_X6_play : eRows eM_X6_play := by unfold eRows eM_X6_play; decide +kernel
set_option maxRecDepth 100000 in
theorem eRows_X6_scoops : eRows eM_X6_scoops := by unfold eRows eM_X6_scoops; decide +kernel
set_option maxRecDepth 100000 in
theorem eRows_X6_scoopAt : eRows eM_X6_scoopAt := by unfold eRows eM_X6_scoopAt; decide +kernel
set_option maxRecDepth 100000 in
theorem eRows_X6_told : eRows eM_X6_told := by unfold eRows eM_X6_told; decide +kernel
set_option maxRecDepth 100000 in
theorem eRows_X6_wins : eRows eM_X6_wins := by unfold eRows eM_X6_wins; decide +kernel
set_option maxRecDepth 100000 in
theorem eRows_X6_next : eRows eM_X6_next := by unfold eRows eM_X6_next; decide +kernel
set_option maxRecDepth 100000 in
theorem eRows_X6_turn : eRows eM_X6_turn := by unfold eRows eM_X6_turn; decide +kernel
set_option maxRecDepth 100000 in
theorem eRows_X6_monkOf : eRows eM_X6_monkOf := by unfold eRows eM_X6_monkOf; decide +kernel
set_option maxRecDepth 100000 in
theorem eRows_X6_value : eRows eM_X6_value := by unfold eRows eM_X6_value; decide +kernel
set_option maxRecDepth 100000 in
theorem eRows_X6_lists : eRows eM_X6_lists := by unfold eRows eM_X6_lists; decide +kernel
set_option maxRecDepth 100000 in
theorem eRows_X6_listed : eRows eM_X6_listed := by unfold eRows eM_X6_listed; decide +kernel
set_option maxRecDepth 100000 in
theorem eRows_X6_sum : eRows eM_X6_sum := by unfold eRows eM_X6_sum; decide +kernel
set_option maxRecDepth 100000 in
theorem eRows_X6_period : eRows eM_X6_period := by unfold eRows eM_X6_period; decide +kernel
set_option maxRecDepth 100000 in
theorem eRows_X6_least : eRows eM_X6_least := by unfold eRows eM_X6_least; decide +kernel
set_option maxRecDepth 100000 in
theorem eRows_X6_line : eRows eM_X6_line := by unfold eRows eM_X6_line; decide +kernel
set_option maxRecDepth 100000 in
theorem eRows_X6_valuesLine : eRows eM_X6_valuesLine := by unfold eRows eM_X6_valuesLine; decide +kernel
set_option maxRecDepth 100000 in
theorem eRows_X6_character : eRows eM_X6_character := by unfold eRows eM_X6_character; decide +kernel
set_option maxRecDepth 100000 in
theorem eRows_X6_append : eRows eM_X6_append := by unfold eRows eM_X6_append; decide +kernel
set_option maxRecDepth 100000 in
theorem eRows_X6_run : eRows eM_X6_run := by unfold eRows eM_X6_run; decide +kernel
set_option maxRecDepth 100000 in
theorem eRows_X6_errorPosition : eRows eM_X6_errorPosition := by unfold eRows eM_X6_errorPosition; decide +kernel
set_option maxRecDepth 100000 in
theorem eRows_X6_refusal : eRows eM_X6_refusal := by unfold eRows eM_X6_refusal; decide +kernel
set_option maxRecDepth 100000 in
theorem eRows_X6_account : eRows eM_X6_account := by unfold eRows eM_X6_account; decide +kernel
set_option maxRecDepth 100000 in
theorem eRows_X6_isWell : eRows eM_X6_isWell := by unfold eRows eM_X6_isWell; decide +kernel
set_option maxRecDepth 100000 in
theorem eRows_X6_meanMarbles : eRows eM_X6_meanMarbles := by unfold eRows eM_X6_meanMarbles; decide +kernel
set_option maxRecDepth 100000 in
theorem eRows_X6_share : eRows eM_X6_share := by unfold eRows eM_X6_share; decide +kernel
set_option maxRecDepth 100000 in
theorem eRows_X6_undo : eRows eM_X6_undo := by unfold eRows eM_X6_undo; decide +kernel
set_option maxRecDepth 100000 in
theorem eRows_X6_save : eRows eM_X6_save := by unfold eRows eM_X6_save; decide +kernel
set_option maxRecDepth 100000 in
theorem eRows_X6_restore : eRows eM_X6_restore := by unfold eRows eM_X6_restore; decide +kernel
set_option maxRecDepth 100000 in
theorem eRows_X6_isTake : eRows eM_X6_isTake := by unfold eRows eM_X6_isTake; decide +kernel
set_option maxRecDepth 100000 in
theorem eRows_X6_isMonk : eRows eM_X6_isMonk := by unfold eRows eM_X6_isMonk; decide +kernel
set_option maxRecDepth 100000 in
theorem eRows_X6_isNumber : eRows eM_X6_isNumber := by unfold eRows eM_X6_isNumber; decide +kernel
set_option maxRecDepth 100000 in
theorem eRows_X6_refuse : eRows eM_X6_refuse := by unfold eRows eM_X6_refuse; decide +kernel
set_option maxRecDepth 100000 in
theorem eRows_X6_tryPit : eRows eM_X6_tryPit := by unfold eRows eM_X6_tryPit; decide +kernel
set_option maxRecDepth 100000 in
theorem eRows_X6_tryDigit : eRows eM_X6_tryDigit := by unfold eRows eM_X6_tryDigit; decide +kernel
set_option maxRecDepth 100000 in
theorem eRows_X6_tryScoop : eRows eM_X6_tryScoop := by unfold eRows eM_X6_tryScoop; decide +kernel
set_option maxRecDepth 100000 in
theorem eRows_X6_tryNext : eRows eM_X6_tryNext := by unfold eRows eM_X6_tryNext; decide +kernel
set_option maxRecDepth 100000 in
theorem eRows_X6_tryOrders : eRows eM_X6_tryOrders := by unfold eRows eM_X6_tryOrders; decide +kernel
set_option maxRecDepth 100000 in
theorem eRows_X6_tryOrder : eRows eM_X6_tryOrder := by unfold eRows eM_X6_tryOrder; decide +kernel
set_option maxRecDepth 100000 in
theorem eRows_X6_leftByOrder : eRows eM_X6_leftByOrder := by unfold eRows eM_X6_leftByOrder; decide +kernel
set_option maxRecDepth 100000 in
theorem eRows_X6_valueOfPit : eRows eM_X6_valueOfPit := by unfold eRows eM_X6_valueOfPit; decide +kernel
set_option maxRecDepth 100000 in
theorem eRows_X6_sumOf : eRows eM_X6_sumOf := by unfold eRows eM_X6_sumOf; decide +kernel
set_option maxRecDepth 100000 in
theorem eRows_X6_rankOf : eRows eM_X6_rankOf := by unfold eRows eM_X6_rankOf; decide +kernel
set_option maxRecDepth 100000 in
theorem eRows_X6_isRankedBefore : eRows eM_X6_isRankedBefore := by unfold eRows eM_X6_isRankedBefore; decide +kernel
set_option maxRecDepth 100000 in
theorem eRows_X6_findAt : eRows eM_X6_findAt := by unfold eRows eM_X6_findAt; decide +kernel
set_option maxRecDepth 100000 in
theorem eRows_X6_findInPit : eRows eM_X6_findInPit := by unfold eRows eM_X6_findInPit; decide +kernel
set_option maxRecDepth 100000 in
theorem eRows_X6_findTold : eRows eM_X6_findTold := by unfold eRows eM_X6_findTold; decide +kernel
set_option maxRecDepth 100000 in
theorem eRows_X6_findToldInPit : eRows eM_X6_findToldInPit := by unfold eRows eM_X6_findToldInPit; decide +kernel
set_option maxRecDepth 100000 in
theorem eRows_X6_isEveryMarbleKnown : eRows eM_X6_isEveryMarbleKnown := by unfold eRows eM_X6_isEveryMarbleKnown; decide +kernel
set_option maxRecDepth 100000 in
theorem eRows_X6_isToldRight : eRows eM_X6_isToldRight := by unfold eRows eM_X6_isToldRight; decide +kernel
set_option maxRecDepth 100000 in
theorem eRows_X6_winsByValues : eRows eM_X6_winsByValues := by unfold eRows eM_X6_winsByValues; decide +kernel
set_option maxRecDepth 100000 in
theorem eRows_X6_isWinningToldAlike : eRows eM_X6_isWinningToldAlike := by unfold eRows eM_X6_isWinningToldAlike; decide +kernel
set_option maxRecDepth 100000 in
theorem eRows_X7_init : eRows eM_X7_init := by unfold eRows eM_X7_init; decide +kernel
set_option maxRecDepth 100000 in
theorem eRows_X7_thrown : eRows eM_X7_thrown := by unfold eRows eM_X7_thrown; decide +kernel
set_option maxRecDepth 100000 in
theorem eRows_X7_fails : eRows eM_X7_fails := by unfold eRows eM_X7_fails; decide +kernel
set_option maxRecDepth 100000 in
theorem eRows_X7_refuses : eRows eM_X7_refuses := by unfold eRows eM_X7_refuses; decide +kernel
set_option maxRecDepth 100000 in
theorem eRows_X7_in : eRows eM_X7_in := by unfold eRows eM_X7_in; decide +kernel
set_option maxRecDepth 100000 in
theorem eRows_X7_copies : eRows eM_X7_copies := by unfold eRows eM_X7_copies; decide +kernel
set_option maxRecDepth 100000 in
theorem eRows_X7_keeps : eRows eM_X7_keeps := by unfold eRows eM_X7_keeps; decide +kernel
set_option maxRecDepth 100000 in
theorem eRows_X7_fills : eRows eM_X7_fills := by unfold eRows eM_X7_fills; decide +kernel
set_option maxRecDepth 100000 in
theorem eRows_X7_finds : eRows eM_X7_finds := by unfold eRows eM_X7_finds; decide +kernel
set_option maxRecDepth 100000 in
theorem eRows_X7_marbles : eRows eM_X7_marbles := by unfold eRows eM_X7_marbles; decide +kernel
set_option maxRecDepth 100000 in
theorem eRows_X7_sumNow : eRows eM_X7_sumNow := by unfold eRows eM_X7_sumNow; decide +kernel
set_option maxRecDepth 100000 in
theorem eRows_X7_marblesNow : eRows eM_X7_marblesNow := by unfold eRows eM_X7_marblesNow; decide +kernel
set_option maxRecDepth 100000 in
theorem eRows_X7_isPit : eRows eM_X7_isPit := by unfold eRows eM_X7_isPit; decide +kernel
set_option maxRecDepth 100000 in
theorem eRows_X7_comes : eRows eM_X7_comes := by unfold eRows eM_X7_comes; decide +kernel
set_option maxRecDepth 100000 in
theorem eRows_X7_pit : eRows eM_X7_pit := by unfold eRows eM_X7_pit; decide +kernel
set_option maxRecDepth 100000 in
theorem eRows_X7_digit : eRows eM_X7_digit := by unfold eRows eM_X7_digit; decide +kernel
set_option maxRecDepth 100000 in
theorem eRows_X7_digitOf : eRows eM_X7_digitOf := by unfold eRows eM_X7_digitOf; decide +kernel
set_option maxRecDepth 100000 in
theorem eRows_X7_ways : eRows eM_X7_ways := by unfold eRows eM_X7_ways; decide +kernel
set_option maxRecDepth 100000 in
theorem eRows_X7_waysOf : eRows eM_X7_waysOf := by unfold eRows eM_X7_waysOf; decide +kernel
set_option maxRecDepth 100000 in
theorem eRows_X7_pitOf : eRows eM_X7_pitOf := by unfold eRows eM_X7_pitOf; decide +kernel
set_option maxRecDepth 100000 in
theorem eRows_X7_isAhead : eRows eM_X7_isAhead := by unfold eRows eM_X7_isAhead; decide +kernel
set_option maxRecDepth 100000 in
theorem eRows_X7_ranked : eRows eM_X7_ranked := by unfold eRows eM_X7_ranked; decide +kernel
set_option maxRecDepth 100000 in
theorem eRows_X7_takes : eRows eM_X7_takes := by unfold eRows eM_X7_takes; decide +kernel
set_option maxRecDepth 100000 in
theorem eRows_X7_scoop : eRows eM_X7_scoop := by unfold eRows eM_X7_scoop; decide +kernel
set_option maxRecDepth 100000 in
theorem eRows_X7_leftBy : eRows eM_X7_leftBy := by unfold eRows eM_X7_leftBy; decide +kernel
set_option maxRecDepth 100000 in
theorem eRows_X7_isFound : eRows eM_X7_isFound := by unfold eRows eM_X7_isFound; decide +kernel
set_option maxRecDepth 100000 in
theorem eRows_X7_isTold : eRows eM_X7_isTold := by unfold eRows eM_X7_isTold; decide +kernel
set_option maxRecDepth 100000 in
theorem eRows_X7_play : eRows eM_X7_play := by unfold eRows eM_X7_play; decide +kernel
set_option maxRecDepth 100000 in
theorem eRows_X7_scoopsNow : eRows eM_X7_scoopsNow := by unfold eRows eM_X7_scoopsNow; decide +kernel
set_option maxRecDepth 100000 in
theorem eRows_X7_scoops : eRows eM_X7_scoops := by unfold eRows eM_X7_scoops; decide +kernel
set_option maxRecDepth 100000 in
theorem eRows_X7_part : eRows eM_X7_part := by unfold eRows eM_X7_part; decide +kernel
set_option maxRecDepth 100000 in
theorem eRows_X7_scoopAt : eRows eM_X7_scoopAt := by unfold eRows eM_X7_scoopAt; decide +kernel
set_option maxRecDepth 100000 in
theorem eRows_X7_told : eRows eM_X7_told := by unfold eRows eM_X7_told; decide +kernel
set_option maxRecDepth 100000 in
theorem eRows_X7_wins : eRows eM_X7_wins := by unfold eRows eM_X7_wins; decide +kernel
set_option maxRecDepth 100000 in
theorem eRows_X7_next : eRows eM_X7_next := by unfold eRows eM_X7_next; decide +kernel
set_option maxRecDepth 100000 in
theorem eRows_X7_turn : eRows eM_X7_turn := by unfold eRows eM_X7_turn; decide +kernel
set_option maxRecDepth 100000 in
theorem eRows_X7_isMonk : eRows eM_X7_isMonk := by unfold eRows eM_X7_isMonk; decide +kernel
set_option maxRecDepth 100000 in
theorem eRows_X7_monkOf : eRows eM_X7_monkOf := by unfold eRows eM_X7_monkOf; decide +kernel
set_option maxRecDepth 100000 in
theorem eRows_X7_isNoNumber : eRows eM_X7_isNoNumber := by unfold eRows eM_X7_isNoNumber; decide +kernel
set_option maxRecDepth 100000 in
theorem eRows_X7_value : eRows eM_X7_value := by unfold eRows eM_X7_value; decide +kernel
set_option maxRecDepth 100000 in
theorem eRows_X7_lists : eRows eM_X7_lists := by unfold eRows eM_X7_lists; decide +kernel
set_option maxRecDepth 100000 in
theorem eRows_X7_listed : eRows eM_X7_listed := by unfold eRows eM_X7_listed; decide +kernel
set_option maxRecDepth 100000 in
theorem eRows_X7_sum : eRows eM_X7_sum := by unfold eRows eM_X7_sum; decide +kernel
set_option maxRecDepth 100000 in
theorem eRows_X7_isPeriod : eRows eM_X7_isPeriod := by unfold eRows eM_X7_isPeriod; decide +kernel
set_option maxRecDepth 100000 in
theorem eRows_X7_period : eRows eM_X7_period := by unfold eRows eM_X7_period; decide +kernel
set_option maxRecDepth 100000 in
theorem eRows_X7_least : eRows eM_X7_least := by unfold eRows eM_X7_least; decide +kernel
set_option maxRecDepth 100000 in
theorem eRows_X7_writes : eRows eM_X7_writes := by unfold eRows eM_X7_writes; decide +kernel
set_option maxRecDepth 100000 in
theorem eRows_X7_writesNumber : eRows eM_X7_writesNumber := by unfold eRows eM_X7_writesNumber; decide +kernel
set_option maxRecDepth 100000 in
theorem eRows_X7_line : eRows eM_X7_line := by unfold eRows eM_X7_line; decide +kernel
set_option maxRecDepth 100000 in
theorem eRows_X7_valuesLine : eRows eM_X7_valuesLine := by unfold eRows eM_X7_valuesLine; decide +kernel
set_option maxRecDepth 100000 in
theorem eRows_X7_character : eRows eM_X7_character := by unfold eRows eM_X7_character; decide +kernel
set_option maxRecDepth 100000 in
theorem eRows_X7_append : eRows eM_X7_append := by unfold eRows eM_X7_append; decide +kernel
set_option maxRecDepth 100000 in
theorem eRows_X7_here : eRows eM_X7_here := by unfold eRows eM_X7_here; decide +kernel
set_option maxRecDepth 100000 in
theorem eRows_X7_skips : eRows eM_X7_skips := by unfold eRows eM_X7_skips; decide +kernel
set_option maxRecDepth 100000 in
theorem eRows_X7_figures : eRows eM_X7_figures := by unfold eRows eM_X7_figures; decide +kernel
set_option maxRecDepth 100000 in
theorem eRows_X7_orderHere : eRows eM_X7_orderHere := by unfold eRows eM_X7_orderHere; decide +kernel
set_option maxRecDepth 100000 in
theorem eRows_X7_isText : eRows eM_X7_isText := by unfold eRows eM_X7_isText; decide +kernel
set_option maxRecDepth 100000 in
theorem eRows_X7_others : eRows eM_X7_others := by unfold eRows eM_X7_others; decide +kernel
set_option maxRecDepth 100000 in
theorem eRows_X7_carries : eRows eM_X7_carries := by unfold eRows eM_X7_carries; decide +kernel
set_option maxRecDepth 100000 in
theorem eRows_X7_run : eRows eM_X7_run := by unfold eRows eM_X7_run; decide +kernel
set_option maxRecDepth 100000 in
theorem eRows_X7_errorPosition : eRows eM_X7_errorPosition := by unfold eRows eM_X7_errorPosition; decide +kernel
set_option maxRecDepth 100000 in
theorem eRows_X7_refusal : eRows eM_X7_refusal := by unfold eRows eM_X7_refusal; decide +kernel
set_option maxRecDepth 100000 in
theorem eRows_X7_greatest : eRows eM_X7_greatest := by unfold eRows eM_X7_greatest; decide +kernel
set_option maxRecDepth 100000 in
theorem eRows_X7_account : eRows eM_X7_account := by unfold eRows eM_X7_account; decide +kernel
set_option maxRecDepth 100000 in
theorem eRows_X7_isWell : eRows eM_X7_isWell := by unfold eRows eM_X7_isWell; decide +kernel
set_option maxRecDepth 100000 in
theorem eRows_X7_meanMarbles : eRows eM_X7_meanMarbles := by unfold eRows eM_X7_meanMarbles; decide +kernel
set_option maxRecDepth 100000 in
theorem eRows_X7_share : eRows eM_X7_share := by unfold eRows eM_X7_share; decide +kernel
set_option maxRecDepth 100000 in
theorem eRows_X7_undo : eRows eM_X7_undo := by unfold eRows eM_X7_undo; decide +kernel
set_option maxRecDepth 100000 in
theorem eRows_X7_save : eRows eM_X7_save := by unfold eRows eM_X7_save; decide +kernel
set_option maxRecDepth 100000 in
theorem eRows_X7_restore : eRows eM_X7_restore := by unfold eRows eM_X7_restore; decide +kernel
set_option maxRecDepth 100000 in
theorem eRows_L_pit : eRows eM_L_pit := by unfold eRows eM_L_pit; decide +kernel
set_option maxRecDepth 100000 in
theorem eRows_L_digit : eRows eM_L_digit := by unfold eRows eM_L_digit; decide +kernel
set_option maxRecDepth 100000 in
theorem eRows_L_digitOf : eRows eM_L_digitOf := by unfold eRows eM_L_digitOf; decide +kernel
set_option maxRecDepth 100000 in
theorem eRows_L_pitOf : eRows eM_L_pitOf := by unfold eRows eM_L_pitOf; decide +kernel
set_option maxRecDepth 100000 in
theorem eRows_L_ranked : eRows eM_L_ranked := by unfold eRows eM_L_ranked; decide +kernel
set_option maxRecDepth 100000 in
theorem eRows_L_scoop : eRows eM_L_scoop := by unfold eRows eM_L_scoop; decide +kernel
set_option maxRecDepth 100000 in
theorem eRows_L_play : eRows eM_L_play := by unfold eRows eM_L_play; decide +kernel
set_option maxRecDepth 100000 in
theorem eRows_L_scoopAt : eRows eM_L_scoopAt := by unfold eRows eM_L_scoopAt; decide +kernel
set_option maxRecDepth 100000 in
theorem eRows_L_told : eRows eM_L_told := by unfold eRows eM_L_told; decide +kernel
set_option maxRecDepth 100000 in
theorem eRows_L_wins : eRows eM_L_wins := by unfold eRows eM_L_wins; decide +kernel
set_option maxRecDepth 100000 in
theorem eRows_L_next : eRows eM_L_next := by unfold eRows eM_L_next; decide +kernel
set_option maxRecDepth 100000 in
theorem eRows_L_monkOf : eRows eM_L_monkOf := by unfold eRows eM_L_monkOf; decide +kernel
set_option maxRecDepth 100000 in
theorem eRows_L_value : eRows eM_L_value := by unfold eRows eM_L_value; decide +kernel
set_option maxRecDepth 100000 in
theorem eRows_L_lists : eRows eM_L_lists := by unfold eRows eM_L_lists; decide +kernel
set_option maxRecDepth 100000 in
theorem eRows_L_listed : eRows eM_L_listed := by unfold eRows eM_L_listed; decide +kernel
set_option maxRecDepth 100000 in
theorem eRows_L_period : eRows eM_L_period := by unfold eRows eM_L_period; decide +kernel
set_option maxRecDepth 100000 in
theorem eRows_L_least : eRows eM_L_least := by unfold eRows eM_L_least; decide +kernel
set_option maxRecDepth 100000 in
theorem eRows_L_valuesLine : eRows eM_L_valuesLine := by unfold eRows eM_L_valuesLine; decide +kernel
set_option maxRecDepth 100000 in
theorem eRows_L_character : eRows eM_L_character := by unfold eRows eM_L_character; decide +kernel
set_option maxRecDepth 100000 in
theorem eRows_L_append : eRows eM_L_append := by unfold eRows eM_L_append; decide +kernel
set_option maxRecDepth 100000 in
theorem eRows_L_run : eRows eM_L_run := by unfold eRows eM_L_run; decide +kernel
set_option maxRecDepth 100000 in
theorem eRows_L_refusal : eRows eM_L_refusal := by unfold eRows eM_L_refusal; decide +kernel
set_option maxRecDepth 100000 in
theorem eRows_L_account : eRows eM_L_account := by unfold eRows eM_L_account; decide +kernel
set_option maxRecDepth 100000 in
theorem eRows_L_meanMarbles : eRows eM_L_meanMarbles := by unfold eRows eM_L_meanMarbles; decide +kernel
set_option maxRecDepth 100000 in
theorem eRows_L_share : eRows eM_L_share := by unfold eRows eM_L_share; decide +kernel
set_option maxRecDepth 100000 in
theorem eRows_L_undo : eRows eM_L_undo := by unfold eRows eM_L_undo; decide +kernel
set_option maxRecDepth 100000 in
theorem eRows_L_restore : eRows eM_L_restore := by unfold eRows eM_L_restore; decide +kernel
set_option maxRecDepth 100000 in
theorem eRows_J4_init_da8c8 : eRows eM_J4_init_da8c8 := by unfold eRows eM_J4_init_da8c8; decide +kernel
set_option maxRecDepth 100000 in
theorem eRows_J4_append_cf468 : eRows eM_J4_append_cf468 := by unfold eRows eM_J4_append_cf468; decide +kernel
set_option maxRecDepth 100000 in
theorem eRows_J4_append_bf812 : eRows eM_J4_append_bf812 := by unfold eRows eM_J4_append_bf812; decide +kernel
set_option maxRecDepth 100000 in
theorem eRows_J4_charAt_5068e : eRows eM_J4_charAt_5068e := by unfold eRows eM_J4_charAt_5068e; decide +kernel
set_option maxRecDepth 100000 in
theorem eRows_J4_setLength_d00df : eRows eM_J4_setLength_d00df := by unfold eRows eM_J4_setLength_d00df; decide +kernel
set_option maxRecDepth 100000 in
theorem eRows_J4_length_8abf5 : eRows eM_J4_length_8abf5 := by unfold eRows eM_J4_length_8abf5; decide +kernel
set_option maxRecDepth 100000 in
theorem eRows_J5_init_d00df : eRows eM_J5_init_d00df := by unfold eRows eM_J5_init_d00df; decide +kernel
set_option maxRecDepth 100000 in
theorem eRows_J5_append_3fe6f : eRows eM_J5_append_3fe6f := by unfold eRows eM_J5_append_3fe6f; decide +kernel
set_option maxRecDepth 100000 in
theorem eRows_J5_append_c97b9 : eRows eM_J5_append_c97b9 := by unfold eRows eM_J5_append_c97b9; decide +kernel
set_option maxRecDepth 100000 in
theorem eRows_J5_charAt_5068e : eRows eM_J5_charAt_5068e := by unfold eRows eM_J5_charAt_5068e; decide +kernel
set_option maxRecDepth 100000 in
theorem eRows_J5_setLength_d00df : eRows eM_J5_setLength_d00df := by unfold eRows eM_J5_setLength_d00df; decide +kernel
set_option maxRecDepth 100000 in
theorem eRows_J5_length_8abf5 : eRows eM_J5_length_8abf5 := by unfold eRows eM_J5_length_8abf5; decide +kernel
set_option maxRecDepth 100000 in
theorem eRows_J5_ensureCapacityInternal_d00df : eRows eM_J5_ensureCapacityInternal_d00df := by unfold eRows eM_J5_ensureCapacityInternal_d00df; decide +kernel
set_option maxRecDepth 100000 in
theorem eRows_J5_newCapacity_0f7a4 : eRows eM_J5_newCapacity_0f7a4 := by unfold eRows eM_J5_newCapacity_0f7a4; decide +kernel
set_option maxRecDepth 100000 in
theorem eRows_J5_isLatin1_aae02 : eRows eM_J5_isLatin1_aae02 := by unfold eRows eM_J5_isLatin1_aae02; decide +kernel
set_option maxRecDepth 100000 in
theorem eRows_J1_canEncode_fc78d : eRows eM_J1_canEncode_fc78d := by unfold eRows eM_J1_canEncode_fc78d; decide +kernel
set_option maxRecDepth 100000 in
theorem eRows_J6_stringSize_0f7a4 : eRows eM_J6_stringSize_0f7a4 := by unfold eRows eM_J6_stringSize_0f7a4; decide +kernel
set_option maxRecDepth 100000 in
theorem eRows_J6_getChars_ba4f3 : eRows eM_J6_getChars_ba4f3 := by unfold eRows eM_J6_getChars_ba4f3; decide +kernel
set_option maxRecDepth 100000 in
theorem eRows_J6_numberOfTrailingZeros_0f7a4 : eRows eM_J6_numberOfTrailingZeros_0f7a4 := by unfold eRows eM_J6_numberOfTrailingZeros_0f7a4; decide +kernel
set_option maxRecDepth 100000 in
theorem eRows_J6_bitCount_0f7a4 : eRows eM_J6_bitCount_0f7a4 := by unfold eRows eM_J6_bitCount_0f7a4; decide +kernel
set_option maxRecDepth 100000 in
theorem eRows_J7_copyOf_9075b : eRows eM_J7_copyOf_9075b := by unfold eRows eM_J7_copyOf_9075b; decide +kernel
set_option maxRecDepth 100000 in
theorem eRows_J8_newLength_cabcc : eRows eM_J8_newLength_cabcc := by unfold eRows eM_J8_newLength_cabcc; decide +kernel
set_option maxRecDepth 100000 in
theorem eRows_J0_checkIndex_df160 : eRows eM_J0_checkIndex_df160 := by unfold eRows eM_J0_checkIndex_df160; decide +kernel
set_option maxRecDepth 100000 in
theorem eRows_J3_checkIndex_8e157 : eRows eM_J3_checkIndex_8e157 := by unfold eRows eM_J3_checkIndex_8e157; decide +kernel
