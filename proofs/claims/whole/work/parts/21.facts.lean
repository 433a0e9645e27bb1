abbrev m_X0_isKind : Mt := (yX0_isKind, cX0_isKind, 1, some .boolean)
abbrev m_X0_isUnder : Mt := (yX0_isUnder, cX0_isUnder, 4, some .boolean)
abbrev m_X0_has : Mt := (yX0_has, cX0_has, 2, some .boolean)
abbrev m_X0_add : Mt := (yX0_add, cX0_add, 2, some .int)
abbrev m_X0_kindOf : Mt := (yX0_kindOf, cX0_kindOf, 2, some .int)
abbrev m_X0_traced : Mt := (yX0_traced, cX0_traced, 2, some .int)
abbrev m_X0_forget : Mt := (yX0_forget, cX0_forget, 1, none)
abbrev m_X0_perform : Mt := (yX0_perform, cX0_perform, 4, some .int)
abbrev m_X0_own : Mt := (yX0_own, cX0_own, 4, some .int)
abbrev m_X0_from : Mt := (yX0_from, cX0_from, 7, some .int)
abbrev m_X0_note : Mt := (yX0_note, cX0_note, 2, none)
abbrev m_X0_atTop : Mt := (yX0_atTop, cX0_atTop, 4, some .int)
abbrev m_X0_below : Mt := (yX0_below, cX0_below, 5, some .int)
abbrev m_X1_begin : Mt := (yX1_begin, cX1_begin, 4, none)
abbrev m_X1_step : Mt := (yX1_step, cX1_step, 10, none)
abbrev m_X1_power : Mt := (yX1_power, cX1_power, 5, some .long)
abbrev m_X1_isLevel : Mt := (yX1_isLevel, cX1_isLevel, 1, some .boolean)
abbrev m_X1_at : Mt := (yX1_at, cX1_at, 3, some .long)
abbrev m_X1_all : Mt := (yX1_all, cX1_all, 3, some .long)
abbrev m_X1_allAhead : Mt := (yX1_allAhead, cX1_allAhead, 5, some .long)
abbrev m_X1_stones : Mt := (yX1_stones, cX1_stones, 3, some .long)
abbrev m_X2_become : Mt := (yX2_become, cX2_become, 2, none)
abbrev m_X2_begin : Mt := (yX2_begin, cX2_begin, 3, none)
abbrev m_X2_addLook : Mt := (yX2_addLook, cX2_addLook, 4, none)
abbrev m_X2_end : Mt := (yX2_end, cX2_end, 2, some .int)
abbrev m_X3_draw : Mt := (yX3_draw, cX3_draw, 2, some .int)
abbrev m_X3_stones : Mt := (yX3_stones, cX3_stones, 6, some .int)
abbrev m_X3_found : Mt := (yX3_found, cX3_found, 5, some .int)
abbrev m_X4_isFull : Mt := (yX4_isFull, cX4_isFull, 1, some .boolean)
abbrev m_X4_isTold : Mt := (yX4_isTold, cX4_isTold, 1, some .boolean)
abbrev m_X4_add : Mt := (yX4_add, cX4_add, 2, some .int)
abbrev m_X4_takeTape : Mt := (yX4_takeTape, cX4_takeTape, 2, some .int)
abbrev m_X4_readLines : Mt := (yX4_readLines, cX4_readLines, 2, some .boolean)
abbrev m_X4_readLine : Mt := (yX4_readLine, cX4_readLine, 2, some .boolean)
abbrev m_X4_readLevel : Mt := (yX4_readLevel, cX4_readLevel, 6, some .boolean)
abbrev m_X4_readOperand : Mt := (yX4_readOperand, cX4_readOperand, 3, some .boolean)
abbrev m_X4_readNumber : Mt := (yX4_readNumber, cX4_readNumber, 3, some .boolean)
abbrev m_X4_letter : Mt := (yX4_letter, cX4_letter, 1, some .int)
abbrev m_X4_passed : Mt := (yX4_passed, cX4_passed, 2, some .boolean)
abbrev m_X4_write : Mt := (yX4_write, cX4_write, 3, none)
abbrev m_X4_isDigit : Mt := (yX4_isDigit, cX4_isDigit, 1, some .boolean)
abbrev m_X4_nameOf : Mt := (yX4_nameOf, cX4_nameOf, 1, some .int)
abbrev m_X4_levelOf : Mt := (yX4_levelOf, cX4_levelOf, 1, some .int)
abbrev m_X4_workOut : Mt := (yX4_workOut, cX4_workOut, 11, some .int)
abbrev m_X4_run : Mt := (yX4_run, cX4_run, 4, none)
abbrev m_X4_joined : Mt := (yX4_joined, cX4_joined, 3, some .int)
abbrev m_X4_push : Mt := (yX4_push, cX4_push, 2, none)
abbrev m_X4_pop : Mt := (yX4_pop, cX4_pop, 1, some .int)
abbrev m_X5_read : Mt := (yX5_read, cX5_read, 4, none)
abbrev m_X5_readTwo : Mt := (yX5_readTwo, cX5_readTwo, 8, some .boolean)
abbrev m_X5_isFound : Mt := (yX5_isFound, cX5_isFound, 2, some .boolean)
abbrev m_X5_by : Mt := (yX5_by, cX5_by, 2, some .int)
abbrev m_X5_found : Mt := (yX5_found, cX5_found, 2, some .int)
abbrev m_X6_isLooker : Mt := (yX6_isLooker, cX6_isLooker, 2, some .boolean)
abbrev m_X6_mayBe : Mt := (yX6_mayBe, cX6_mayBe, 3, some .boolean)
abbrev m_X6_slotOf : Mt := (yX6_slotOf, cX6_slotOf, 3, some .int)
abbrev m_X6_get : Mt := (yX6_get, cX6_get, 4, some .int)
abbrev m_X6_addLooker : Mt := (yX6_addLooker, cX6_addLooker, 3, some .int)
abbrev m_X6_become : Mt := (yX6_become, cX6_become, 4, some .int)
abbrev m_X6_dropOldest : Mt := (yX6_dropOldest, cX6_dropOldest, 1, none)
abbrev m_X6_stepBack : Mt := (yX6_stepBack, cX6_stepBack, 1, some .int)
abbrev m_X6_stepOn : Mt := (yX6_stepOn, cX6_stepOn, 1, some .int)
abbrev m_X7_add : Mt := (yX7_add, cX7_add, 4, none)
abbrev m_X7_tell : Mt := (yX7_tell, cX7_tell, 4, none)
abbrev m_X7_search : Mt := (yX7_search, cX7_search, 6, none)
abbrev m_X7_weigh : Mt := (yX7_weigh, cX7_weigh, 7, none)
abbrev m_X7_heapsOf : Mt := (yX7_heapsOf, cX7_heapsOf, 2, some .int)
abbrev m_X8_leastOf : Mt := (yX8_leastOf, cX8_leastOf, 2, some .long)
abbrev m_X8_least : Mt := (yX8_least, cX8_least, 8, some .long)
abbrev m_X8_leastBy : Mt := (yX8_leastBy, cX8_leastBy, 9, some .long)
abbrev m_X9_isEmpty : Mt := (yX9_isEmpty, cX9_isEmpty, 1, some .boolean)
abbrev m_X9_isRow : Mt := (yX9_isRow, cX9_isRow, 1, some .boolean)
abbrev m_X9_isBytes : Mt := (yX9_isBytes, cX9_isBytes, 1, some .boolean)
abbrev m_X9_refusalAsBytes : Mt := (yX9_refusalAsBytes, cX9_refusalAsBytes, 1, some .int)
abbrev m_X9_hasPlace : Mt := (yX9_hasPlace, cX9_hasPlace, 2, some .boolean)
abbrev m_X9_hasPlaces : Mt := (yX9_hasPlaces, cX9_hasPlaces, 3, some .boolean)
abbrev m_X9_holdNothing : Mt := (yX9_holdNothing, cX9_holdNothing, 1, none)
abbrev m_X9_holdBody : Mt := (yX9_holdBody, cX9_holdBody, 2, none)
abbrev m_X9_holdRow : Mt := (yX9_holdRow, cX9_holdRow, 4, none)
abbrev m_X9_read : Mt := (yX9_read, cX9_read, 2, some .long)
abbrev m_X9_write : Mt := (yX9_write, cX9_write, 4, none)
abbrev m_X9_cut : Mt := (yX9_cut, cX9_cut, 3, some .long)
abbrev m_X9_copyTo : Mt := (yX9_copyTo, cX9_copyTo, 5, none)
abbrev m_X10_hear : Mt := (yX10_hear, cX10_hear, 3, none)
abbrev m_X10_hearOne : Mt := (yX10_hearOne, cX10_hearOne, 2, some .boolean)
abbrev m_X10_goOn : Mt := (yX10_goOn, cX10_goOn, 3, none)
abbrev m_X10_canHaveFound : Mt := (yX10_canHaveFound, cX10_canHaveFound, 3, some .boolean)
abbrev m_X10_note : Mt := (yX10_note, cX10_note, 3, none)
abbrev m_X10_sureBy : Mt := (yX10_sureBy, cX10_sureBy, 2, some .int)
abbrev m_X10_most : Mt := (yX10_most, cX10_most, 2, some .int)
abbrev m_X11_looker : Mt := (yX11_looker, cX11_looker, 2, some .int)
abbrev m_X11_lookers : Mt := (yX11_lookers, cX11_lookers, 6, some .int)
abbrev m_X11_mend : Mt := (yX11_mend, cX11_mend, 5, some .int)
abbrev m_X11_of : Mt := (yX11_of, cX11_of, 3, some .int)
abbrev m_X11_feed : Mt := (yX11_feed, cX11_feed, 2, some .int)
abbrev m_X11_law : Mt := (yX11_law, cX11_law, 2, some .int)
abbrev m_X11_finds : Mt := (yX11_finds, cX11_finds, 3, some .int)
abbrev m_X11_left : Mt := (yX11_left, cX11_left, 8, some .long)
abbrev m_X11_mean : Mt := (yX11_mean, cX11_mean, 8, some .long)
abbrev m_X11_worth : Mt := (yX11_worth, cX11_worth, 8, some .long)
abbrev m_X11_next : Mt := (yX11_next, cX11_next, 11, some .int)
abbrev m_X11_plan : Mt := (yX11_plan, cX11_plan, 6, some .long)
abbrev m_X11_buy : Mt := (yX11_buy, cX11_buy, 14, some .long)
abbrev m_X11_lists : Mt := (yX11_lists, cX11_lists, 7, some .long)
abbrev m_X11_likeliest : Mt := (yX11_likeliest, cX11_likeliest, 6, some .int)
abbrev m_X11_seesFor : Mt := (yX11_seesFor, cX11_seesFor, 2, some .int)
abbrev m_X11_besides : Mt := (yX11_besides, cX11_besides, 5, some .long)
abbrev m_X11_handful : Mt := (yX11_handful, cX11_handful, 16, some .long)
abbrev m_X11_heaps : Mt := (yX11_heaps, cX11_heaps, 5, some .int)
abbrev m_X11_who : Mt := (yX11_who, cX11_who, 6, some .int)
abbrev m_X11_drawn : Mt := (yX11_drawn, cX11_drawn, 10, some .int)
abbrev m_X11_open : Mt := (yX11_open, cX11_open, 3, some .int)
abbrev m_X11_look : Mt := (yX11_look, cX11_look, 3, some .int)
abbrev m_X11_eat : Mt := (yX11_eat, cX11_eat, 1, some .int)
abbrev m_X11_led : Mt := (yX11_led, cX11_led, 2, some .int)
abbrev m_X11_image : Mt := (yX11_image, cX11_image, 1, some .int)
abbrev m_X11_back : Mt := (yX11_back, cX11_back, 1, some .int)
abbrev m_X11_undo : Mt := (yX11_undo, cX11_undo, 1, some .int)
abbrev m_X11_redo : Mt := (yX11_redo, cX11_redo, 1, some .int)
abbrev m_X11_body : Mt := (yX11_body, cX11_body, 2, some .int)
abbrev m_X11_act : Mt := (yX11_act, cX11_act, 4, some .int)
abbrev m_X11_trace : Mt := (yX11_trace, cX11_trace, 2, some .int)
abbrev m_X11_keep : Mt := (yX11_keep, cX11_keep, 3, some .int)
abbrev m_X11_row : Mt := (yX11_row, cX11_row, 4, some .int)
abbrev m_X11_put : Mt := (yX11_put, cX11_put, 6, some .int)
abbrev m_X11_element : Mt := (yX11_element, cX11_element, 3, some .long)
abbrev m_X11_shift : Mt := (yX11_shift, cX11_shift, 8, some .int)
abbrev m_X11_taken : Mt := (yX11_taken, cX11_taken, 5, some .int)
abbrev m_X11_count : Mt := (yX11_count, cX11_count, 2, some .int)
abbrev m_X11_isShelf : Mt := (yX11_isShelf, cX11_isShelf, 1, some .boolean)
abbrev m_X11_isBag : Mt := (yX11_isBag, cX11_isBag, 1, some .boolean)
abbrev m_X11_isPart : Mt := (yX11_isPart, cX11_isPart, 1, some .boolean)
abbrev m_X11_isThinkable : Mt := (yX11_isThinkable, cX11_isThinkable, 3, some .boolean)
abbrev m_X11_areLists : Mt := (yX11_areLists, cX11_areLists, 4, some .boolean)
abbrev m_X11_isPutIn : Mt := (yX11_isPutIn, cX11_isPutIn, 1, some .boolean)
abbrev m_X11_inLowest : Mt := (yX11_inLowest, cX11_inLowest, 12, some .long)
abbrev m_X11_falling : Mt := (yX11_falling, cX11_falling, 6, some .long)
abbrev m_X11_likeliestTwelfths : Mt := (yX11_likeliestTwelfths, cX11_likeliestTwelfths, 4, some .int)
abbrev m_X11_isLikelier : Mt := (yX11_isLikelier, cX11_isLikelier, 8, some .boolean)
abbrev m_X11_limbOf : Mt := (yX11_limbOf, cX11_limbOf, 12, some .long)
abbrev m_X11_cameFrom : Mt := (yX11_cameFrom, cX11_cameFrom, 7, some .boolean)
abbrev m_X11_twelfths : Mt := (yX11_twelfths, cX11_twelfths, 3, some .int)
abbrev m_X11_twelfthsIn : Mt := (yX11_twelfthsIn, cX11_twelfthsIn, 8, some .int)
abbrev m_X11_fillShares : Mt := (yX11_fillShares, cX11_fillShares, 5, none)
abbrev m_X11_tellPlanner : Mt := (yX11_tellPlanner, cX11_tellPlanner, 2, none)
abbrev m_X11_leastFor : Mt := (yX11_leastFor, cX11_leastFor, 3, some .long)
abbrev m_X11_fillParting : Mt := (yX11_fillParting, cX11_fillParting, 6, none)
abbrev m_X11_think : Mt := (yX11_think, cX11_think, 4, some .int)
abbrev m_X11_gain : Mt := (yX11_gain, cX11_gain, 5, some .long)
abbrev m_X11_stillInOneMore : Mt := (yX11_stillInOneMore, cX11_stillInOneMore, 4, some .int)
abbrev m_X12_in : Mt := (yX12_in, cX12_in, 3, some .boolean)
abbrev m_X12_isBag : Mt := (yX12_isBag, cX12_isBag, 1, some .boolean)
abbrev m_X12_isLooker : Mt := (yX12_isLooker, cX12_isLooker, 2, some .boolean)
abbrev m_X12_addLooker : Mt := (yX12_addLooker, cX12_addLooker, 3, some .int)
abbrev m_X12_looker : Mt := (yX12_looker, cX12_looker, 2, some .int)
abbrev m_X12_lookers : Mt := (yX12_lookers, cX12_lookers, 8, some .int)
abbrev m_X12_valueAt : Mt := (yX12_valueAt, cX12_valueAt, 3, some .int)
abbrev m_X12_lays : Mt := (yX12_lays, cX12_lays, 4, none)
abbrev m_X12_changes : Mt := (yX12_changes, cX12_changes, 6, some .int)
abbrev m_X12_undo : Mt := (yX12_undo, cX12_undo, 1, some .int)
abbrev m_X12_redo : Mt := (yX12_redo, cX12_redo, 1, some .int)
abbrev m_X12_isOne : Mt := (yX12_isOne, cX12_isOne, 3, some .boolean)
abbrev m_X12_mayBe : Mt := (yX12_mayBe, cX12_mayBe, 2, some .boolean)
abbrev m_X12_mend : Mt := (yX12_mend, cX12_mend, 4, some .int)
abbrev m_X12_of : Mt := (yX12_of, cX12_of, 3, some .int)
abbrev m_X12_feed : Mt := (yX12_feed, cX12_feed, 2, some .int)
abbrev m_X12_looksOn : Mt := (yX12_looksOn, cX12_looksOn, 1, some .int)
abbrev m_X12_faulty : Mt := (yX12_faulty, cX12_faulty, 1, none)
abbrev m_X12_addStep : Mt := (yX12_addStep, cX12_addStep, 3, none)
abbrev m_X12_nameOf : Mt := (yX12_nameOf, cX12_nameOf, 1, some .int)
abbrev m_X12_opens : Mt := (yX12_opens, cX12_opens, 1, some .boolean)
abbrev m_X12_figure : Mt := (yX12_figure, cX12_figure, 3, none)
abbrev m_X12_operand : Mt := (yX12_operand, cX12_operand, 2, none)
abbrev m_X12_product : Mt := (yX12_product, cX12_product, 2, none)
abbrev m_X12_sum : Mt := (yX12_sum, cX12_sum, 2, none)
abbrev m_X12_compared : Mt := (yX12_compared, cX12_compared, 2, none)
abbrev m_X12_both : Mt := (yX12_both, cX12_both, 1, none)
abbrev m_X12_either : Mt := (yX12_either, cX12_either, 1, none)
abbrev m_X12_line : Mt := (yX12_line, cX12_line, 2, none)
abbrev m_X12_readText : Mt := (yX12_readText, cX12_readText, 3, some .int)
abbrev m_X12_twoOf : Mt := (yX12_twoOf, cX12_twoOf, 3, some .int)
abbrev m_X12_worked : Mt := (yX12_worked, cX12_worked, 7, some .int)
abbrev m_X12_gives : Mt := (yX12_gives, cX12_gives, 4, some .int)
abbrev m_X12_law : Mt := (yX12_law, cX12_law, 2, some .int)
abbrev m_X12_findsBy : Mt := (yX12_findsBy, cX12_findsBy, 5, some .int)
abbrev m_X12_finds : Mt := (yX12_finds, cX12_finds, 3, some .int)
abbrev m_X12_allWeights : Mt := (yX12_allWeights, cX12_allWeights, 2, some .int)
abbrev m_X12_weightAt : Mt := (yX12_weightAt, cX12_weightAt, 3, some .int)
abbrev m_X12_measureOf : Mt := (yX12_measureOf, cX12_measureOf, 2, some .int)
abbrev m_X12_beginParts : Mt := (yX12_beginParts, cX12_beginParts, 4, none)
abbrev m_X12_power : Mt := (yX12_power, cX12_power, 6, some .long)
abbrev m_X12_choose : Mt := (yX12_choose, cX12_choose, 2, some .int)
abbrev m_X12_lookTo : Mt := (yX12_lookTo, cX12_lookTo, 5, none)
abbrev m_X12_allParts : Mt := (yX12_allParts, cX12_allParts, 2, some .long)
abbrev m_X12_stonesIn : Mt := (yX12_stonesIn, cX12_stonesIn, 2, some .long)
abbrev m_X12_rowFault : Mt := (yX12_rowFault, cX12_rowFault, 2, some .int)
abbrev m_X12_byteAt : Mt := (yX12_byteAt, cX12_byteAt, 3, some .int)
abbrev m_X12_goLooks : Mt := (yX12_goLooks, cX12_goLooks, 4, some .int)
abbrev m_X12_asPart : Mt := (yX12_asPart, cX12_asPart, 11, some .long)
abbrev m_X12_isPart : Mt := (yX12_isPart, cX12_isPart, 1, some .boolean)
abbrev m_X12_left : Mt := (yX12_left, cX12_left, 6, some .long)
abbrev m_X12_mean : Mt := (yX12_mean, cX12_mean, 6, some .long)
abbrev m_X12_findWorth : Mt := (yX12_findWorth, cX12_findWorth, 11, none)
abbrev m_X12_asBy : Mt := (yX12_asBy, cX12_asBy, 10, some .long)
abbrev m_X12_worth : Mt := (yX12_worth, cX12_worth, 5, some .long)
abbrev m_X12_next : Mt := (yX12_next, cX12_next, 8, some .int)
abbrev m_X12_planFrom : Mt := (yX12_planFrom, cX12_planFrom, 10, some .long)
abbrev m_X12_planOf : Mt := (yX12_planOf, cX12_planOf, 3, some .long)
abbrev m_X12_plan : Mt := (yX12_plan, cX12_plan, 6, some .long)
abbrev m_X12_buy : Mt := (yX12_buy, cX12_buy, 14, some .long)
abbrev m_X12_areLists : Mt := (yX12_areLists, cX12_areLists, 1, some .boolean)
abbrev m_X12_lists : Mt := (yX12_lists, cX12_lists, 7, some .long)
abbrev m_X12_likeliest : Mt := (yX12_likeliest, cX12_likeliest, 6, some .int)
abbrev m_X12_layProduct : Mt := (yX12_layProduct, cX12_layProduct, 12, none)
abbrev m_X12_isMore : Mt := (yX12_isMore, cX12_isMore, 2, some .boolean)
abbrev m_X12_isPutIn : Mt := (yX12_isPutIn, cX12_isPutIn, 1, some .boolean)
abbrev m_X12_likeliestSees : Mt := (yX12_likeliestSees, cX12_likeliestSees, 5, some .int)
abbrev m_X12_seesFor : Mt := (yX12_seesFor, cX12_seesFor, 2, some .int)
abbrev m_X12_besides : Mt := (yX12_besides, cX12_besides, 5, some .long)
abbrev m_X12_noneOf : Mt := (yX12_noneOf, cX12_noneOf, 7, some .long)
abbrev m_X12_allOf : Mt := (yX12_allOf, cX12_allOf, 4, some .long)
abbrev m_X12_handful : Mt := (yX12_handful, cX12_handful, 11, some .long)
abbrev m_X12_heaps : Mt := (yX12_heaps, cX12_heaps, 14, some .int)
abbrev m_X12_goRows : Mt := (yX12_goRows, cX12_goRows, 3, none)
abbrev m_X12_who : Mt := (yX12_who, cX12_who, 6, some .int)
abbrev m_X12_draw : Mt := (yX12_draw, cX12_draw, 2, some .int)
abbrev m_X12_drawStones : Mt := (yX12_drawStones, cX12_drawStones, 4, some .int)
abbrev m_X12_drawFound : Mt := (yX12_drawFound, cX12_drawFound, 5, some .int)
abbrev m_X12_drawn : Mt := (yX12_drawn, cX12_drawn, 10, some .int)
abbrev m_X12_open : Mt := (yX12_open, cX12_open, 3, some .int)
abbrev m_X12_look : Mt := (yX12_look, cX12_look, 3, some .int)
abbrev m_X12_eat : Mt := (yX12_eat, cX12_eat, 2, some .int)
abbrev m_X12_led : Mt := (yX12_led, cX12_led, 2, some .int)
abbrev m_X12_image : Mt := (yX12_image, cX12_image, 2, some .int)
abbrev m_X12_back : Mt := (yX12_back, cX12_back, 2, some .int)
abbrev m_X12_isBody : Mt := (yX12_isBody, cX12_isBody, 2, some .boolean)
abbrev m_X12_ran : Mt := (yX12_ran, cX12_ran, 2, none)
abbrev m_X12_trace : Mt := (yX12_trace, cX12_trace, 2, some .int)
abbrev m_X12_body : Mt := (yX12_body, cX12_body, 2, some .int)
abbrev m_X12_isUnder : Mt := (yX12_isUnder, cX12_isUnder, 2, some .boolean)
abbrev m_X12_plainPicks : Mt := (yX12_plainPicks, cX12_plainPicks, 3, some .int)
abbrev m_X12_countedPicks : Mt := (yX12_countedPicks, cX12_countedPicks, 3, some .int)
abbrev m_X12_picking : Mt := (yX12_picking, cX12_picking, 3, some .int)
abbrev m_X12_plainFinds : Mt := (yX12_plainFinds, cX12_plainFinds, 3, some .int)
abbrev m_X12_slowFinds : Mt := (yX12_slowFinds, cX12_slowFinds, 3, some .int)
abbrev m_X12_finding : Mt := (yX12_finding, cX12_finding, 4, some .int)
abbrev m_X12_plainLeaves : Mt := (yX12_plainLeaves, cX12_plainLeaves, 3, some .int)
abbrev m_X12_lampedLeaves : Mt := (yX12_lampedLeaves, cX12_lampedLeaves, 3, some .int)
abbrev m_X12_leaving : Mt := (yX12_leaving, cX12_leaving, 4, some .int)
abbrev m_X12_plainTells : Mt := (yX12_plainTells, cX12_plainTells, 4, some .int)
abbrev m_X12_telling : Mt := (yX12_telling, cX12_telling, 3, some .int)
abbrev m_X12_act : Mt := (yX12_act, cX12_act, 4, some .int)
abbrev m_X12_count : Mt := (yX12_count, cX12_count, 2, some .int)
abbrev m_X12_isShelf : Mt := (yX12_isShelf, cX12_isShelf, 1, some .boolean)
abbrev m_X12_keep : Mt := (yX12_keep, cX12_keep, 3, some .int)
abbrev m_X12_row : Mt := (yX12_row, cX12_row, 5, some .int)
abbrev m_X12_whyNoPlace : Mt := (yX12_whyNoPlace, cX12_whyNoPlace, 3, some .int)
abbrev m_X12_put : Mt := (yX12_put, cX12_put, 7, some .int)
abbrev m_X12_element : Mt := (yX12_element, cX12_element, 3, some .long)
abbrev m_X12_shift : Mt := (yX12_shift, cX12_shift, 7, some .int)
abbrev m_X12_taken : Mt := (yX12_taken, cX12_taken, 3, some .int)
abbrev m_J6_bitCount_0f7a4 : Mt := (yJ6_bitCount_0f7a4, cJ6_bitCount_0f7a4, 1, some .int)
theorem ic_m1 : Int32.ofInt (-1) = (-1 : Int32) := by decide
theorem ic_0 : Int32.ofInt (0) = (0 : Int32) := by decide
theorem ic_1 : Int32.ofInt (1) = (1 : Int32) := by decide
theorem ic_2 : Int32.ofInt (2) = (2 : Int32) := by decide
theorem ic_3 : Int32.ofInt (3) = (3 : Int32) := by decide
theorem ic_4 : Int32.ofInt (4) = (4 : Int32) := by decide
theorem ic_5 : Int32.ofInt (5) = (5 : Int32) := by decide
theorem bp_m100 : (Int8.ofInt (-100)).toInt32 = (-100 : Int32) := by decide
theorem bp_m14 : (Int8.ofInt (-14)).toInt32 = (-14 : Int32) := by decide
theorem bp_m13 : (Int8.ofInt (-13)).toInt32 = (-13 : Int32) := by decide
theorem bp_m12 : (Int8.ofInt (-12)).toInt32 = (-12 : Int32) := by decide
theorem bp_m11 : (Int8.ofInt (-11)).toInt32 = (-11 : Int32) := by decide
theorem bp_m5 : (Int8.ofInt (-5)).toInt32 = (-5 : Int32) := by decide
theorem bp_m3 : (Int8.ofInt (-3)).toInt32 = (-3 : Int32) := by decide
theorem bp_m2 : (Int8.ofInt (-2)).toInt32 = (-2 : Int32) := by decide
theorem bp_6 : (Int8.ofInt (6)).toInt32 = (6 : Int32) := by decide
theorem bp_7 : (Int8.ofInt (7)).toInt32 = (7 : Int32) := by decide
theorem bp_8 : (Int8.ofInt (8)).toInt32 = (8 : Int32) := by decide
theorem bp_9 : (Int8.ofInt (9)).toInt32 = (9 : Int32) := by decide
theorem bp_10 : (Int8.ofInt (10)).toInt32 = (10 : Int32) := by decide
theorem bp_11 : (Int8.ofInt (11)).toInt32 = (11 : Int32) := by decide
theorem bp_12 : (Int8.ofInt (12)).toInt32 = (12 : Int32) := by decide
theorem bp_16 : (Int8.ofInt (16)).toInt32 = (16 : Int32) := by decide
theorem bp_20 : (Int8.ofInt (20)).toInt32 = (20 : Int32) := by decide
theorem bp_24 : (Int8.ofInt (24)).toInt32 = (24 : Int32) := by decide
theorem bp_30 : (Int8.ofInt (30)).toInt32 = (30 : Int32) := by decide
theorem bp_32 : (Int8.ofInt (32)).toInt32 = (32 : Int32) := by decide
theorem bp_33 : (Int8.ofInt (33)).toInt32 = (33 : Int32) := by decide
theorem bp_35 : (Int8.ofInt (35)).toInt32 = (35 : Int32) := by decide
theorem bp_36 : (Int8.ofInt (36)).toInt32 = (36 : Int32) := by decide
theorem bp_37 : (Int8.ofInt (37)).toInt32 = (37 : Int32) := by decide
theorem bp_38 : (Int8.ofInt (38)).toInt32 = (38 : Int32) := by decide
theorem bp_39 : (Int8.ofInt (39)).toInt32 = (39 : Int32) := by decide
theorem bp_40 : (Int8.ofInt (40)).toInt32 = (40 : Int32) := by decide
theorem bp_41 : (Int8.ofInt (41)).toInt32 = (41 : Int32) := by decide
theorem bp_42 : (Int8.ofInt (42)).toInt32 = (42 : Int32) := by decide
theorem bp_43 : (Int8.ofInt (43)).toInt32 = (43 : Int32) := by decide
theorem bp_45 : (Int8.ofInt (45)).toInt32 = (45 : Int32) := by decide
theorem bp_47 : (Int8.ofInt (47)).toInt32 = (47 : Int32) := by decide
theorem bp_48 : (Int8.ofInt (48)).toInt32 = (48 : Int32) := by decide
theorem bp_50 : (Int8.ofInt (50)).toInt32 = (50 : Int32) := by decide
theorem bp_57 : (Int8.ofInt (57)).toInt32 = (57 : Int32) := by decide
theorem bp_59 : (Int8.ofInt (59)).toInt32 = (59 : Int32) := by decide
theorem bp_60 : (Int8.ofInt (60)).toInt32 = (60 : Int32) := by decide
theorem bp_61 : (Int8.ofInt (61)).toInt32 = (61 : Int32) := by decide
theorem bp_62 : (Int8.ofInt (62)).toInt32 = (62 : Int32) := by decide
theorem bp_63 : (Int8.ofInt (63)).toInt32 = (63 : Int32) := by decide
theorem bp_70 : (Int8.ofInt (70)).toInt32 = (70 : Int32) := by decide
theorem bp_80 : (Int8.ofInt (80)).toInt32 = (80 : Int32) := by decide
theorem bp_81 : (Int8.ofInt (81)).toInt32 = (81 : Int32) := by decide
theorem bp_82 : (Int8.ofInt (82)).toInt32 = (82 : Int32) := by decide
theorem bp_99 : (Int8.ofInt (99)).toInt32 = (99 : Int32) := by decide
theorem bp_100 : (Int8.ofInt (100)).toInt32 = (100 : Int32) := by decide
theorem bp_120 : (Int8.ofInt (120)).toInt32 = (120 : Int32) := by decide
theorem bp_124 : (Int8.ofInt (124)).toInt32 = (124 : Int32) := by decide
theorem bp_126 : (Int8.ofInt (126)).toInt32 = (126 : Int32) := by decide
theorem sp_130 : (Int16.ofInt (130)).toInt32 = (130 : Int32) := by decide
theorem sp_255 : (Int16.ofInt (255)).toInt32 = (255 : Int32) := by decide
theorem sp_256 : (Int16.ofInt (256)).toInt32 = (256 : Int32) := by decide
theorem sp_999 : (Int16.ofInt (999)).toInt32 = (999 : Int32) := by decide
theorem sp_10000 : (Int16.ofInt (10000)).toInt32 = (10000 : Int32) := by decide
theorem sp_12345 : (Int16.ofInt (12345)).toInt32 = (12345 : Int32) := by decide
theorem lc_0 : Int64.ofNat ((0 : Fin 2) : Nat) = (0 : Int64) := by decide
theorem lc_1 : Int64.ofNat ((1 : Fin 2) : Nat) = (1 : Int64) := by decide
theorem ii_m1 (x : Int32) : x + Int32.ofInt (-1) = x + (-1 : Int32) := by rw [ic_m1]
theorem ii_1 (x : Int32) : x + Int32.ofInt (1) = x + (1 : Int32) := by rw [ic_1]
theorem al_6 : Int32.ofNat 6 = (6 : Int32) := by decide
theorem al_24 : Int32.ofNat 24 = (24 : Int32) := by decide
theorem al_64 : Int32.ofNat 64 = (64 : Int32) := by decide
theorem al_128 : Int32.ofNat 128 = (128 : Int32) := by decide
theorem kk0 : kd 0 = (0, 11) := rfl
theorem kk1 : kd 1 = (0, 6) := rfl
theorem kk2 : kd 2 = (1, 37) := rfl
theorem kk3 : kd 3 = (1, 40) := rfl
theorem kk4 : kd 4 = (1, 40) := rfl
theorem kk5 : kd 5 = (1, 40) := rfl
theorem kk6 : kd 6 = (0, 4) := rfl
theorem kk7 : kd 7 = (1, 120) := rfl
theorem kk8 : kd 8 = (1, 128) := rfl
theorem kk9 : kd 9 = (1, 128) := rfl
theorem kk10 : kd 10 = (1, 6) := rfl
theorem kk11 : kd 11 = (1, 64) := rfl
theorem kk12 : kd 12 = (5, 6) := rfl
theorem kk13 : kd 13 = (0, 5) := rfl
theorem kk14 : kd 14 = (1, 4) := rfl
theorem kk15 : kd 15 = (1, 4) := rfl
theorem kk16 : kd 16 = (0, 1) := rfl
theorem kk18 : kd 18 = (0, 8) := rfl
theorem kk19 : kd 19 = (0, 1) := rfl
theorem kk21 : kd 21 = (1, 24) := rfl
theorem kk22 : kd 22 = (1, 6) := rfl
theorem kk23 : kd 23 = (0, 10) := rfl
theorem kk24 : kd 24 = (0, 1) := rfl
theorem kk26 : kd 26 = (1, 24) := rfl
theorem kk27 : kd 27 = (1, 4) := rfl
theorem kk28 : kd 28 = (1, 4) := rfl
theorem kk29 : kd 29 = (1, 4) := rfl
theorem kk30 : kd 30 = (1, 4) := rfl
theorem kk31 : kd 31 = (0, 7) := rfl
theorem kk32 : kd 32 = (1, 123) := rfl
theorem kk33 : kd 33 = (1, 3) := rfl
theorem kk34 : kd 34 = (1, 3) := rfl
theorem kk35 : kd 35 = (1, 3) := rfl
theorem kk36 : kd 36 = (0, 3) := rfl
theorem kk37 : kd 37 = (0, 2) := rfl
theorem kk38 : kd 38 = (0, 2) := rfl
theorem kk39 : kd 39 = (0, 0) := rfl
theorem kk40 : kd 40 = (1, 50) := rfl
theorem kk41 : kd 41 = (1, 24) := rfl
theorem kk54 : kd 54 = (0, 12) := rfl
theorem kk55 : kd 55 = (1, 16) := rfl
theorem kk56 : kd 56 = (1, 4) := rfl
theorem kk57 : kd 57 = (1, 6) := rfl
theorem kk58 : kd 58 = (1, 6) := rfl
theorem kk59 : kd 59 = (1, 40) := rfl
theorem kk60 : kd 60 = (1, 40) := rfl
theorem kk61 : kd 61 = (1, 40) := rfl
theorem kk62 : kd 62 = (1, 40) := rfl
theorem kk63 : kd 63 = (2, 120) := rfl
theorem kk64 : kd 64 = (2, 260) := rfl
theorem kk65 : kd 65 = (1, 260) := rfl
theorem kk66 : kd 66 = (1, 2) := rfl
theorem kk67 : kd 67 = (3, 122) := rfl
theorem kk68 : kd 68 = (3, 122) := rfl
theorem kk69 : kd 69 = (1, 6) := rfl
theorem kk70 : kd 70 = (1, 130) := rfl
theorem kk71 : kd 71 = (4, 32) := rfl
theorem kk72 : kd 72 = (4, 6) := rfl
theorem kk73 : kd 73 = (1, 123) := rfl
theorem kk74 : kd 74 = (1, 4) := rfl
theorem kk75 : kd 75 = (1, 4) := rfl
theorem kk76 : kd 76 = (1, 4) := rfl
theorem kk77 : kd 77 = (1, 4) := rfl
theorem kk78 : kd 78 = (1, 8) := rfl
theorem kk79 : kd 79 = (1, 8) := rfl
theorem kk80 : kd 80 = (1, 50) := rfl
theorem kk81 : kd 81 = (1, 24) := rfl
theorem kk82 : kd 82 = (1, 6) := rfl
theorem kk83 : kd 83 = (1, 6) := rfl
theorem kk84 : kd 84 = (4, 360) := rfl
theorem kk85 : kd 85 = (4, 60) := rfl
theorem hk_isA24_21 : isA24 21 := rfl
theorem hk_isA24_26 : isA24 26 := rfl
theorem hk_isCh_16 : isCh 16 := ⟨rfl, rfl⟩
theorem hk_isCh_19 : isCh 19 := ⟨rfl, rfl⟩
theorem hk_isCh_24 : isCh 24 := ⟨rfl, rfl⟩
theorem hk_isDe_37 : isDe 37 := rfl
theorem hk_isDe_38 : isDe 38 := rfl
theorem tw_all {ws : List Cond} (ps : List Nat) (hp : ws = ps.filterMap (fun i => lw_tbl[i]?)) (h : ws.all goodWord = true) : ∀ w ∈ ws, w ∈ tw := by
  intro w hw
  have h1 := List.all_eq_true.mp h w hw
  rw [hp] at hw
  obtain ⟨i, -, hi⟩ := List.mem_filterMap.mp hw
  exact tw_in i hi h1
set_option maxRecDepth 20000 in
theorem Kc0 : Kc 0 RX0 TX0 5 tyX0 := ⟨rfl, rfl, tw_all [389, 391, 393, 395, 397] (by decide +kernel) (by decide +kernel), tyX0_ok, nmX0⟩
set_option maxRecDepth 20000 in
theorem Kc1 : Kc 1 RX1 TX1 1 tyX1 := ⟨rfl, rfl, tw_all [216] (by decide +kernel) (by decide +kernel), tyX1_ok, nmX1⟩
set_option maxRecDepth 20000 in
theorem Kc2 : Kc 2 RX2 TX2 9 tyX2 := ⟨rfl, rfl, tw_all [357, 359, 361, 363, 365, 367, 369, 371, 373] (by decide +kernel) (by decide +kernel), tyX2_ok, nmX2⟩
set_option maxRecDepth 20000 in
theorem Kc3 : Kc 3 RX3 TX3 1 tyX3 := ⟨rfl, rfl, tw_all [330] (by decide +kernel) (by decide +kernel), tyX3_ok, nmX3⟩
set_option maxRecDepth 20000 in
theorem Kc4 : Kc 4 RX4 TX4 10 tyX4 := ⟨rfl, rfl, tw_all [169, 171, 173, 175, 177, 179, 181, 183, 185, 187] (by decide +kernel) (by decide +kernel), tyX4_ok, nmX4⟩
set_option maxRecDepth 20000 in
theorem Kc5 : Kc 5 RX5 TX5 3 tyX5 := ⟨rfl, rfl, tw_all [202, 204, 206] (by decide +kernel) (by decide +kernel), tyX5_ok, nmX5⟩
set_option maxRecDepth 20000 in
theorem Kc6 : Kc 6 RX6 TX6 7 tyX6 := ⟨rfl, rfl, tw_all [136, 138, 140, 142, 144, 146, 148] (by decide +kernel) (by decide +kernel), tyX6_ok, nmX6⟩
set_option maxRecDepth 20000 in
theorem Kc7 : Kc 7 RX7 TX7 6 tyX7 := ⟨rfl, rfl, tw_all [309, 311, 313, 315, 317, 319] (by decide +kernel) (by decide +kernel), tyX7_ok, nmX7⟩
set_option maxRecDepth 20000 in
theorem Kc8 : Kc 8 RX8 TX8 6 tyX8 := ⟨rfl, rfl, tw_all [240, 242, 244, 246, 248, 250] (by decide +kernel) (by decide +kernel), tyX8_ok, nmX8⟩
set_option maxRecDepth 20000 in
theorem Kc9 : Kc 9 RX9 TX9 5 tyX9 := ⟨rfl, rfl, tw_all [412, 414, 416, 418, 420] (by decide +kernel) (by decide +kernel), tyX9_ok, nmX9⟩
set_option maxRecDepth 20000 in
theorem Kc10 : Kc 10 RX10 TX10 10 tyX10 := ⟨rfl, rfl, tw_all [274, 276, 278, 280, 282, 284, 286, 288, 290, 292] (by decide +kernel) (by decide +kernel), tyX10_ok, nmX10⟩
set_option maxRecDepth 20000 in
theorem Kc11 : Kc 11 RX11 TX11 13 tyX11 := ⟨rfl, rfl, tw_all [436, 438, 440, 442, 444, 446, 448, 450, 452, 454, 456, 458, 460] (by decide +kernel) (by decide +kernel), tyX11_ok, nmX11⟩
set_option maxRecDepth 20000 in
theorem Kc12 : Kc 12 RX12 TX12 56 tyX12 := ⟨rfl, rfl, tw_all [1175, 1177, 1179, 1181, 1183, 1185, 1187, 1189, 1191, 1193, 1195, 1197, 1199, 1201, 1203, 1205, 1207, 1209, 1211, 1213, 1215, 1217, 1219, 1221, 1223, 1225, 1227, 1229, 1231, 1233, 1235, 1237, 1239, 1241, 1243, 1245, 1247, 1249, 1251, 1253, 1255, 1257, 1259, 1261, 1263, 1265, 1267, 1269, 1271, 1273, 1275, 1277, 1279, 1281, 1283, 1285] (by decide +kernel) (by decide +kernel), tyX12_ok, nmX12⟩
theorem cw_X0_isKind : codeW m_X0_isKind ∈ tw := tw_in 993 (by decide +kernel) rfl
theorem cw_X0_isUnder : codeW m_X0_isUnder ∈ tw := tw_in 1109 (by decide +kernel) rfl
theorem cw_X0_has : codeW m_X0_has ∈ tw := tw_in 1009 (by decide +kernel) rfl
theorem cw_X0_add : codeW m_X0_add ∈ tw := tw_in 997 (by decide +kernel) rfl
theorem cw_X0_kindOf : codeW m_X0_kindOf ∈ tw := tw_in 1021 (by decide +kernel) rfl
theorem cw_X0_traced : codeW m_X0_traced ∈ tw := tw_in 1051 (by decide +kernel) rfl
theorem cw_X0_forget : codeW m_X0_forget ∈ tw := tw_in 1005 (by decide +kernel) rfl
theorem cw_X0_perform : codeW m_X0_perform ∈ tw := tw_in 1013 (by decide +kernel) rfl
theorem cw_X0_own : codeW m_X0_own ∈ tw := tw_in 1017 (by decide +kernel) rfl
theorem cw_X0_from : codeW m_X0_from ∈ tw := tw_in 1026 (by decide +kernel) rfl
theorem cw_X0_note : codeW m_X0_note ∈ tw := tw_in 1035 (by decide +kernel) rfl
theorem cw_X0_atTop : codeW m_X0_atTop ∈ tw := tw_in 1039 (by decide +kernel) rfl
theorem cw_X0_below : codeW m_X0_below ∈ tw := tw_in 1043 (by decide +kernel) rfl
theorem cw_X1_begin : codeW m_X1_begin ∈ tw := tw_in 684 (by decide +kernel) rfl
theorem cw_X1_step : codeW m_X1_step ∈ tw := tw_in 704 (by decide +kernel) rfl
theorem cw_X1_power : codeW m_X1_power ∈ tw := tw_in 709 (by decide +kernel) rfl
theorem cw_X1_isLevel : codeW m_X1_isLevel ∈ tw := tw_in 692 (by decide +kernel) rfl
theorem cw_X1_at : codeW m_X1_at ∈ tw := tw_in 715 (by decide +kernel) rfl
theorem cw_X1_all : codeW m_X1_all ∈ tw := tw_in 689 (by decide +kernel) rfl
theorem cw_X1_allAhead : codeW m_X1_allAhead ∈ tw := tw_in 729 (by decide +kernel) rfl
theorem cw_X1_stones : codeW m_X1_stones ∈ tw := tw_in 734 (by decide +kernel) rfl
theorem cw_X2_become : codeW m_X2_become ∈ tw := tw_in 966 (by decide +kernel) rfl
theorem cw_X2_begin : codeW m_X2_begin ∈ tw := tw_in 938 (by decide +kernel) rfl
theorem cw_X2_addLook : codeW m_X2_addLook ∈ tw := tw_in 946 (by decide +kernel) rfl
theorem cw_X2_end : codeW m_X2_end ∈ tw := tw_in 954 (by decide +kernel) rfl
theorem cw_X3_draw : codeW m_X3_draw ∈ tw := tw_in 925 (by decide +kernel) rfl
theorem cw_X3_stones : codeW m_X3_stones ∈ tw := tw_in 920 (by decide +kernel) rfl
theorem cw_X3_found : codeW m_X3_found ∈ tw := tw_in 930 (by decide +kernel) rfl
theorem cw_X4_isFull : codeW m_X4_isFull ∈ tw := tw_in 553 (by decide +kernel) rfl
theorem cw_X4_isTold : codeW m_X4_isTold ∈ tw := tw_in 624 (by decide +kernel) rfl
theorem cw_X4_add : codeW m_X4_add ∈ tw := tw_in 557 (by decide +kernel) rfl
theorem cw_X4_takeTape : codeW m_X4_takeTape ∈ tw := tw_in 565 (by decide +kernel) rfl
theorem cw_X4_readLines : codeW m_X4_readLines ∈ tw := tw_in 569 (by decide +kernel) rfl
theorem cw_X4_readLine : codeW m_X4_readLine ∈ tw := tw_in 573 (by decide +kernel) rfl
theorem cw_X4_readLevel : codeW m_X4_readLevel ∈ tw := tw_in 577 (by decide +kernel) rfl
theorem cw_X4_readOperand : codeW m_X4_readOperand ∈ tw := tw_in 581 (by decide +kernel) rfl
theorem cw_X4_readNumber : codeW m_X4_readNumber ∈ tw := tw_in 592 (by decide +kernel) rfl
theorem cw_X4_letter : codeW m_X4_letter ∈ tw := tw_in 585 (by decide +kernel) rfl
theorem cw_X4_passed : codeW m_X4_passed ∈ tw := tw_in 603 (by decide +kernel) rfl
theorem cw_X4_write : codeW m_X4_write ∈ tw := tw_in 596 (by decide +kernel) rfl
theorem cw_X4_isDigit : codeW m_X4_isDigit ∈ tw := tw_in 588 (by decide +kernel) rfl
theorem cw_X4_nameOf : codeW m_X4_nameOf ∈ tw := tw_in 599 (by decide +kernel) rfl
theorem cw_X4_levelOf : codeW m_X4_levelOf ∈ tw := tw_in 606 (by decide +kernel) rfl
theorem cw_X4_workOut : codeW m_X4_workOut ∈ tw := tw_in 628 (by decide +kernel) rfl
theorem cw_X4_run : codeW m_X4_run ∈ tw := tw_in 636 (by decide +kernel) rfl
theorem cw_X4_joined : codeW m_X4_joined ∈ tw := tw_in 643 (by decide +kernel) rfl
theorem cw_X4_push : codeW m_X4_push ∈ tw := tw_in 640 (by decide +kernel) rfl
theorem cw_X4_pop : codeW m_X4_pop ∈ tw := tw_in 632 (by decide +kernel) rfl
theorem cw_X5_read : codeW m_X5_read ∈ tw := tw_in 670 (by decide +kernel) rfl
theorem cw_X5_readTwo : codeW m_X5_readTwo ∈ tw := tw_in 674 (by decide +kernel) rfl
theorem cw_X5_isFound : codeW m_X5_isFound ∈ tw := tw_in 679 (by decide +kernel) rfl
theorem cw_X5_by : codeW m_X5_by ∈ tw := tw_in 696 (by decide +kernel) rfl
theorem cw_X5_found : codeW m_X5_found ∈ tw := tw_in 700 (by decide +kernel) rfl
theorem cw_X6_isLooker : codeW m_X6_isLooker ∈ tw := tw_in 525 (by decide +kernel) rfl
theorem cw_X6_mayBe : codeW m_X6_mayBe ∈ tw := tw_in 470 (by decide +kernel) rfl
theorem cw_X6_slotOf : codeW m_X6_slotOf ∈ tw := tw_in 518 (by decide +kernel) rfl
theorem cw_X6_get : codeW m_X6_get ∈ tw := tw_in 544 (by decide +kernel) rfl
theorem cw_X6_addLooker : codeW m_X6_addLooker ∈ tw := tw_in 478 (by decide +kernel) rfl
theorem cw_X6_become : codeW m_X6_become ∈ tw := tw_in 529 (by decide +kernel) rfl
theorem cw_X6_dropOldest : codeW m_X6_dropOldest ∈ tw := tw_in 533 (by decide +kernel) rfl
theorem cw_X6_stepBack : codeW m_X6_stepBack ∈ tw := tw_in 978 (by decide +kernel) rfl
theorem cw_X6_stepOn : codeW m_X6_stepOn ∈ tw := tw_in 986 (by decide +kernel) rfl
theorem cw_X7_add : codeW m_X7_add ∈ tw := tw_in 851 (by decide +kernel) rfl
theorem cw_X7_tell : codeW m_X7_tell ∈ tw := tw_in 847 (by decide +kernel) rfl
theorem cw_X7_search : codeW m_X7_search ∈ tw := tw_in 856 (by decide +kernel) rfl
theorem cw_X7_weigh : codeW m_X7_weigh ∈ tw := tw_in 860 (by decide +kernel) rfl
theorem cw_X7_heapsOf : codeW m_X7_heapsOf ∈ tw := tw_in 864 (by decide +kernel) rfl
theorem cw_X8_leastOf : codeW m_X8_leastOf ∈ tw := tw_in 775 (by decide +kernel) rfl
theorem cw_X8_least : codeW m_X8_least ∈ tw := tw_in 781 (by decide +kernel) rfl
theorem cw_X8_leastBy : codeW m_X8_leastBy ∈ tw := tw_in 788 (by decide +kernel) rfl
theorem cw_X9_isEmpty : codeW m_X9_isEmpty ∈ tw := tw_in 489 (by decide +kernel) rfl
theorem cw_X9_isRow : codeW m_X9_isRow ∈ tw := tw_in 1079 (by decide +kernel) rfl
theorem cw_X9_isBytes : codeW m_X9_isBytes ∈ tw := tw_in 493 (by decide +kernel) rfl
theorem cw_X9_refusalAsBytes : codeW m_X9_refusalAsBytes ∈ tw := tw_in 753 (by decide +kernel) rfl
theorem cw_X9_hasPlace : codeW m_X9_hasPlace ∈ tw := tw_in 501 (by decide +kernel) rfl
theorem cw_X9_hasPlaces : codeW m_X9_hasPlaces ∈ tw := tw_in 505 (by decide +kernel) rfl
theorem cw_X9_holdNothing : codeW m_X9_holdNothing ∈ tw := tw_in 1059 (by decide +kernel) rfl
theorem cw_X9_holdBody : codeW m_X9_holdBody ∈ tw := tw_in 1063 (by decide +kernel) rfl
theorem cw_X9_holdRow : codeW m_X9_holdRow ∈ tw := tw_in 1071 (by decide +kernel) rfl
theorem cw_X9_read : codeW m_X9_read ∈ tw := tw_in 509 (by decide +kernel) rfl
theorem cw_X9_write : codeW m_X9_write ∈ tw := tw_in 1083 (by decide +kernel) rfl
theorem cw_X9_cut : codeW m_X9_cut ∈ tw := tw_in 1087 (by decide +kernel) rfl
theorem cw_X9_copyTo : codeW m_X9_copyTo ∈ tw := tw_in 1099 (by decide +kernel) rfl
theorem cw_X10_hear : codeW m_X10_hear ∈ tw := tw_in 872 (by decide +kernel) rfl
theorem cw_X10_hearOne : codeW m_X10_hearOne ∈ tw := tw_in 876 (by decide +kernel) rfl
theorem cw_X10_goOn : codeW m_X10_goOn ∈ tw := tw_in 883 (by decide +kernel) rfl
theorem cw_X10_canHaveFound : codeW m_X10_canHaveFound ∈ tw := tw_in 893 (by decide +kernel) rfl
theorem cw_X10_note : codeW m_X10_note ∈ tw := tw_in 887 (by decide +kernel) rfl
theorem cw_X10_sureBy : codeW m_X10_sureBy ∈ tw := tw_in 898 (by decide +kernel) rfl
theorem cw_X10_most : codeW m_X10_most ∈ tw := tw_in 908 (by decide +kernel) rfl
theorem cw_X11_looker : codeW m_X11_looker ∈ tw := tw_in 466 (by decide +kernel) rfl
theorem cw_X11_lookers : codeW m_X11_lookers ∈ tw := tw_in 482 (by decide +kernel) rfl
theorem cw_X11_mend : codeW m_X11_mend ∈ tw := tw_in 514 (by decide +kernel) rfl
theorem cw_X11_of : codeW m_X11_of ∈ tw := tw_in 540 (by decide +kernel) rfl
theorem cw_X11_feed : codeW m_X11_feed ∈ tw := tw_in 549 (by decide +kernel) rfl
theorem cw_X11_law : codeW m_X11_law ∈ tw := tw_in 561 (by decide +kernel) rfl
theorem cw_X11_finds : codeW m_X11_finds ∈ tw := tw_in 611 (by decide +kernel) rfl
theorem cw_X11_left : codeW m_X11_left ∈ tw := tw_in 653 (by decide +kernel) rfl
theorem cw_X11_mean : codeW m_X11_mean ∈ tw := tw_in 725 (by decide +kernel) rfl
theorem cw_X11_worth : codeW m_X11_worth ∈ tw := tw_in 740 (by decide +kernel) rfl
theorem cw_X11_next : codeW m_X11_next ∈ tw := tw_in 749 (by decide +kernel) rfl
theorem cw_X11_plan : codeW m_X11_plan ∈ tw := tw_in 759 (by decide +kernel) rfl
theorem cw_X11_buy : codeW m_X11_buy ∈ tw := tw_in 795 (by decide +kernel) rfl
theorem cw_X11_lists : codeW m_X11_lists ∈ tw := tw_in 800 (by decide +kernel) rfl
theorem cw_X11_likeliest : codeW m_X11_likeliest ∈ tw := tw_in 807 (by decide +kernel) rfl
theorem cw_X11_seesFor : codeW m_X11_seesFor ∈ tw := tw_in 811 (by decide +kernel) rfl
theorem cw_X11_besides : codeW m_X11_besides ∈ tw := tw_in 828 (by decide +kernel) rfl
theorem cw_X11_handful : codeW m_X11_handful ∈ tw := tw_in 832 (by decide +kernel) rfl
theorem cw_X11_heaps : codeW m_X11_heaps ∈ tw := tw_in 839 (by decide +kernel) rfl
theorem cw_X11_who : codeW m_X11_who ∈ tw := tw_in 868 (by decide +kernel) rfl
theorem cw_X11_drawn : codeW m_X11_drawn ∈ tw := tw_in 912 (by decide +kernel) rfl
theorem cw_X11_open : codeW m_X11_open ∈ tw := tw_in 934 (by decide +kernel) rfl
theorem cw_X11_look : codeW m_X11_look ∈ tw := tw_in 942 (by decide +kernel) rfl
theorem cw_X11_eat : codeW m_X11_eat ∈ tw := tw_in 950 (by decide +kernel) rfl
theorem cw_X11_led : codeW m_X11_led ∈ tw := tw_in 958 (by decide +kernel) rfl
theorem cw_X11_image : codeW m_X11_image ∈ tw := tw_in 962 (by decide +kernel) rfl
theorem cw_X11_back : codeW m_X11_back ∈ tw := tw_in 970 (by decide +kernel) rfl
theorem cw_X11_undo : codeW m_X11_undo ∈ tw := tw_in 974 (by decide +kernel) rfl
theorem cw_X11_redo : codeW m_X11_redo ∈ tw := tw_in 982 (by decide +kernel) rfl
theorem cw_X11_body : codeW m_X11_body ∈ tw := tw_in 990 (by decide +kernel) rfl
theorem cw_X11_act : codeW m_X11_act ∈ tw := tw_in 1001 (by decide +kernel) rfl
theorem cw_X11_trace : codeW m_X11_trace ∈ tw := tw_in 1047 (by decide +kernel) rfl
theorem cw_X11_keep : codeW m_X11_keep ∈ tw := tw_in 1055 (by decide +kernel) rfl
theorem cw_X11_row : codeW m_X11_row ∈ tw := tw_in 1067 (by decide +kernel) rfl
theorem cw_X11_put : codeW m_X11_put ∈ tw := tw_in 1075 (by decide +kernel) rfl
theorem cw_X11_element : codeW m_X11_element ∈ tw := tw_in 1091 (by decide +kernel) rfl
theorem cw_X11_shift : codeW m_X11_shift ∈ tw := tw_in 1095 (by decide +kernel) rfl
theorem cw_X11_taken : codeW m_X11_taken ∈ tw := tw_in 1105 (by decide +kernel) rfl
theorem cw_X11_count : codeW m_X11_count ∈ tw := tw_in 1113 (by decide +kernel) rfl
theorem cw_X11_isShelf : codeW m_X11_isShelf ∈ tw := tw_in 485 (by decide +kernel) rfl
theorem cw_X11_isBag : codeW m_X11_isBag ∈ tw := tw_in 521 (by decide +kernel) rfl
theorem cw_X11_isPart : codeW m_X11_isPart ∈ tw := tw_in 661 (by decide +kernel) rfl
theorem cw_X11_isThinkable : codeW m_X11_isThinkable ∈ tw := tw_in 657 (by decide +kernel) rfl
theorem cw_X11_areLists : codeW m_X11_areLists ∈ tw := tw_in 803 (by decide +kernel) rfl
theorem cw_X11_isPutIn : codeW m_X11_isPutIn ∈ tw := tw_in 814 (by decide +kernel) rfl
theorem cw_X11_inLowest : codeW m_X11_inLowest ∈ tw := tw_in 718 (by decide +kernel) rfl
theorem cw_X11_falling : codeW m_X11_falling ∈ tw := tw_in 835 (by decide +kernel) rfl
theorem cw_X11_likeliestTwelfths : codeW m_X11_likeliestTwelfths ∈ tw := tw_in 817 (by decide +kernel) rfl
theorem cw_X11_isLikelier : codeW m_X11_isLikelier ∈ tw := tw_in 820 (by decide +kernel) rfl
theorem cw_X11_limbOf : codeW m_X11_limbOf ∈ tw := tw_in 823 (by decide +kernel) rfl
theorem cw_X11_cameFrom : codeW m_X11_cameFrom ∈ tw := tw_in 497 (by decide +kernel) rfl
theorem cw_X11_twelfths : codeW m_X11_twelfths ∈ tw := tw_in 616 (by decide +kernel) rfl
theorem cw_X11_twelfthsIn : codeW m_X11_twelfthsIn ∈ tw := tw_in 620 (by decide +kernel) rfl
theorem cw_X11_fillShares : codeW m_X11_fillShares ∈ tw := tw_in 767 (by decide +kernel) rfl
theorem cw_X11_tellPlanner : codeW m_X11_tellPlanner ∈ tw := tw_in 763 (by decide +kernel) rfl
theorem cw_X11_leastFor : codeW m_X11_leastFor ∈ tw := tw_in 771 (by decide +kernel) rfl
theorem cw_X11_fillParting : codeW m_X11_fillParting ∈ tw := tw_in 843 (by decide +kernel) rfl
theorem cw_X11_think : codeW m_X11_think ∈ tw := tw_in 666 (by decide +kernel) rfl
theorem cw_X11_gain : codeW m_X11_gain ∈ tw := tw_in 744 (by decide +kernel) rfl
theorem cw_X11_stillInOneMore : codeW m_X11_stillInOneMore ∈ tw := tw_in 916 (by decide +kernel) rfl
theorem cw_X12_in : codeW m_X12_in ∈ tw := tw_in 1307 (by decide +kernel) rfl
theorem cw_X12_isBag : codeW m_X12_isBag ∈ tw := tw_in 1330 (by decide +kernel) rfl
theorem cw_X12_isLooker : codeW m_X12_isLooker ∈ tw := tw_in 1334 (by decide +kernel) rfl
theorem cw_X12_addLooker : codeW m_X12_addLooker ∈ tw := tw_in 1297 (by decide +kernel) rfl
theorem cw_X12_looker : codeW m_X12_looker ∈ tw := tw_in 1293 (by decide +kernel) rfl
theorem cw_X12_lookers : codeW m_X12_lookers ∈ tw := tw_in 1301 (by decide +kernel) rfl
theorem cw_X12_valueAt : codeW m_X12_valueAt ∈ tw := tw_in 1345 (by decide +kernel) rfl
theorem cw_X12_lays : codeW m_X12_lays ∈ tw := tw_in 1315 (by decide +kernel) rfl
theorem cw_X12_changes : codeW m_X12_changes ∈ tw := tw_in 1341 (by decide +kernel) rfl
theorem cw_X12_undo : codeW m_X12_undo ∈ tw := tw_in 1311 (by decide +kernel) rfl
theorem cw_X12_redo : codeW m_X12_redo ∈ tw := tw_in 1319 (by decide +kernel) rfl
theorem cw_X12_isOne : codeW m_X12_isOne ∈ tw := tw_in 1327 (by decide +kernel) rfl
theorem cw_X12_mayBe : codeW m_X12_mayBe ∈ tw := tw_in 1337 (by decide +kernel) rfl
theorem cw_X12_mend : codeW m_X12_mend ∈ tw := tw_in 1323 (by decide +kernel) rfl
theorem cw_X12_of : codeW m_X12_of ∈ tw := tw_in 1349 (by decide +kernel) rfl
theorem cw_X12_feed : codeW m_X12_feed ∈ tw := tw_in 1353 (by decide +kernel) rfl
theorem cw_X12_looksOn : codeW m_X12_looksOn ∈ tw := tw_in 1393 (by decide +kernel) rfl
theorem cw_X12_faulty : codeW m_X12_faulty ∈ tw := tw_in 1408 (by decide +kernel) rfl
theorem cw_X12_addStep : codeW m_X12_addStep ∈ tw := tw_in 1400 (by decide +kernel) rfl
theorem cw_X12_nameOf : codeW m_X12_nameOf ∈ tw := tw_in 1396 (by decide +kernel) rfl
theorem cw_X12_opens : codeW m_X12_opens ∈ tw := tw_in 1404 (by decide +kernel) rfl
theorem cw_X12_figure : codeW m_X12_figure ∈ tw := tw_in 1412 (by decide +kernel) rfl
theorem cw_X12_operand : codeW m_X12_operand ∈ tw := tw_in 1389 (by decide +kernel) rfl
theorem cw_X12_product : codeW m_X12_product ∈ tw := tw_in 1385 (by decide +kernel) rfl
theorem cw_X12_sum : codeW m_X12_sum ∈ tw := tw_in 1381 (by decide +kernel) rfl
theorem cw_X12_compared : codeW m_X12_compared ∈ tw := tw_in 1377 (by decide +kernel) rfl
theorem cw_X12_both : codeW m_X12_both ∈ tw := tw_in 1373 (by decide +kernel) rfl
theorem cw_X12_either : codeW m_X12_either ∈ tw := tw_in 1369 (by decide +kernel) rfl
theorem cw_X12_line : codeW m_X12_line ∈ tw := tw_in 1365 (by decide +kernel) rfl
theorem cw_X12_readText : codeW m_X12_readText ∈ tw := tw_in 1361 (by decide +kernel) rfl
theorem cw_X12_twoOf : codeW m_X12_twoOf ∈ tw := tw_in 1431 (by decide +kernel) rfl
theorem cw_X12_worked : codeW m_X12_worked ∈ tw := tw_in 1428 (by decide +kernel) rfl
theorem cw_X12_gives : codeW m_X12_gives ∈ tw := tw_in 1424 (by decide +kernel) rfl
theorem cw_X12_law : codeW m_X12_law ∈ tw := tw_in 1357 (by decide +kernel) rfl
theorem cw_X12_findsBy : codeW m_X12_findsBy ∈ tw := tw_in 1420 (by decide +kernel) rfl
theorem cw_X12_finds : codeW m_X12_finds ∈ tw := tw_in 1416 (by decide +kernel) rfl
theorem cw_X12_allWeights : codeW m_X12_allWeights ∈ tw := tw_in 1459 (by decide +kernel) rfl
theorem cw_X12_weightAt : codeW m_X12_weightAt ∈ tw := tw_in 1455 (by decide +kernel) rfl
theorem cw_X12_measureOf : codeW m_X12_measureOf ∈ tw := tw_in 1490 (by decide +kernel) rfl
theorem cw_X12_beginParts : codeW m_X12_beginParts ∈ tw := tw_in 1451 (by decide +kernel) rfl
theorem cw_X12_power : codeW m_X12_power ∈ tw := tw_in 1473 (by decide +kernel) rfl
theorem cw_X12_choose : codeW m_X12_choose ∈ tw := tw_in 1470 (by decide +kernel) rfl
theorem cw_X12_lookTo : codeW m_X12_lookTo ∈ tw := tw_in 1467 (by decide +kernel) rfl
theorem cw_X12_allParts : codeW m_X12_allParts ∈ tw := tw_in 1478 (by decide +kernel) rfl
theorem cw_X12_stonesIn : codeW m_X12_stonesIn ∈ tw := tw_in 1495 (by decide +kernel) rfl
theorem cw_X12_rowFault : codeW m_X12_rowFault ∈ tw := tw_in 1442 (by decide +kernel) rfl
theorem cw_X12_byteAt : codeW m_X12_byteAt ∈ tw := tw_in 1463 (by decide +kernel) rfl
theorem cw_X12_goLooks : codeW m_X12_goLooks ∈ tw := tw_in 1447 (by decide +kernel) rfl
theorem cw_X12_asPart : codeW m_X12_asPart ∈ tw := tw_in 1482 (by decide +kernel) rfl
theorem cw_X12_isPart : codeW m_X12_isPart ∈ tw := tw_in 1438 (by decide +kernel) rfl
theorem cw_X12_left : codeW m_X12_left ∈ tw := tw_in 1435 (by decide +kernel) rfl
theorem cw_X12_mean : codeW m_X12_mean ∈ tw := tw_in 1486 (by decide +kernel) rfl
theorem cw_X12_findWorth : codeW m_X12_findWorth ∈ tw := tw_in 1505 (by decide +kernel) rfl
theorem cw_X12_asBy : codeW m_X12_asBy ∈ tw := tw_in 1508 (by decide +kernel) rfl
theorem cw_X12_worth : codeW m_X12_worth ∈ tw := tw_in 1501 (by decide +kernel) rfl
theorem cw_X12_next : codeW m_X12_next ∈ tw := tw_in 1512 (by decide +kernel) rfl
theorem cw_X12_planFrom : codeW m_X12_planFrom ∈ tw := tw_in 1524 (by decide +kernel) rfl
theorem cw_X12_planOf : codeW m_X12_planOf ∈ tw := tw_in 1520 (by decide +kernel) rfl
theorem cw_X12_plan : codeW m_X12_plan ∈ tw := tw_in 1516 (by decide +kernel) rfl
theorem cw_X12_buy : codeW m_X12_buy ∈ tw := tw_in 1528 (by decide +kernel) rfl
theorem cw_X12_areLists : codeW m_X12_areLists ∈ tw := tw_in 1535 (by decide +kernel) rfl
theorem cw_X12_lists : codeW m_X12_lists ∈ tw := tw_in 1532 (by decide +kernel) rfl
theorem cw_X12_likeliest : codeW m_X12_likeliest ∈ tw := tw_in 1539 (by decide +kernel) rfl
theorem cw_X12_layProduct : codeW m_X12_layProduct ∈ tw := tw_in 1554 (by decide +kernel) rfl
theorem cw_X12_isMore : codeW m_X12_isMore ∈ tw := tw_in 1559 (by decide +kernel) rfl
theorem cw_X12_isPutIn : codeW m_X12_isPutIn ∈ tw := tw_in 1546 (by decide +kernel) rfl
theorem cw_X12_likeliestSees : codeW m_X12_likeliestSees ∈ tw := tw_in 1550 (by decide +kernel) rfl
theorem cw_X12_seesFor : codeW m_X12_seesFor ∈ tw := tw_in 1543 (by decide +kernel) rfl
theorem cw_X12_besides : codeW m_X12_besides ∈ tw := tw_in 1563 (by decide +kernel) rfl
theorem cw_X12_noneOf : codeW m_X12_noneOf ∈ tw := tw_in 1571 (by decide +kernel) rfl
theorem cw_X12_allOf : codeW m_X12_allOf ∈ tw := tw_in 1574 (by decide +kernel) rfl
theorem cw_X12_handful : codeW m_X12_handful ∈ tw := tw_in 1567 (by decide +kernel) rfl
theorem cw_X12_heaps : codeW m_X12_heaps ∈ tw := tw_in 1578 (by decide +kernel) rfl
theorem cw_X12_goRows : codeW m_X12_goRows ∈ tw := tw_in 1586 (by decide +kernel) rfl
theorem cw_X12_who : codeW m_X12_who ∈ tw := tw_in 1582 (by decide +kernel) rfl
theorem cw_X12_draw : codeW m_X12_draw ∈ tw := tw_in 1598 (by decide +kernel) rfl
theorem cw_X12_drawStones : codeW m_X12_drawStones ∈ tw := tw_in 1594 (by decide +kernel) rfl
theorem cw_X12_drawFound : codeW m_X12_drawFound ∈ tw := tw_in 1603 (by decide +kernel) rfl
theorem cw_X12_drawn : codeW m_X12_drawn ∈ tw := tw_in 1590 (by decide +kernel) rfl
theorem cw_X12_open : codeW m_X12_open ∈ tw := tw_in 1607 (by decide +kernel) rfl
theorem cw_X12_look : codeW m_X12_look ∈ tw := tw_in 1611 (by decide +kernel) rfl
theorem cw_X12_eat : codeW m_X12_eat ∈ tw := tw_in 1615 (by decide +kernel) rfl
theorem cw_X12_led : codeW m_X12_led ∈ tw := tw_in 1619 (by decide +kernel) rfl
theorem cw_X12_image : codeW m_X12_image ∈ tw := tw_in 1623 (by decide +kernel) rfl
theorem cw_X12_back : codeW m_X12_back ∈ tw := tw_in 1627 (by decide +kernel) rfl
theorem cw_X12_isBody : codeW m_X12_isBody ∈ tw := tw_in 1643 (by decide +kernel) rfl
theorem cw_X12_ran : codeW m_X12_ran ∈ tw := tw_in 1654 (by decide +kernel) rfl
theorem cw_X12_trace : codeW m_X12_trace ∈ tw := tw_in 1631 (by decide +kernel) rfl
theorem cw_X12_body : codeW m_X12_body ∈ tw := tw_in 1635 (by decide +kernel) rfl
theorem cw_X12_isUnder : codeW m_X12_isUnder ∈ tw := tw_in 1650 (by decide +kernel) rfl
theorem cw_X12_plainPicks : codeW m_X12_plainPicks ∈ tw := tw_in 1658 (by decide +kernel) rfl
theorem cw_X12_countedPicks : codeW m_X12_countedPicks ∈ tw := tw_in 1662 (by decide +kernel) rfl
theorem cw_X12_picking : codeW m_X12_picking ∈ tw := tw_in 1647 (by decide +kernel) rfl
theorem cw_X12_plainFinds : codeW m_X12_plainFinds ∈ tw := tw_in 1674 (by decide +kernel) rfl
theorem cw_X12_slowFinds : codeW m_X12_slowFinds ∈ tw := tw_in 1670 (by decide +kernel) rfl
theorem cw_X12_finding : codeW m_X12_finding ∈ tw := tw_in 1666 (by decide +kernel) rfl
theorem cw_X12_plainLeaves : codeW m_X12_plainLeaves ∈ tw := tw_in 1686 (by decide +kernel) rfl
theorem cw_X12_lampedLeaves : codeW m_X12_lampedLeaves ∈ tw := tw_in 1682 (by decide +kernel) rfl
theorem cw_X12_leaving : codeW m_X12_leaving ∈ tw := tw_in 1678 (by decide +kernel) rfl
theorem cw_X12_plainTells : codeW m_X12_plainTells ∈ tw := tw_in 1694 (by decide +kernel) rfl
theorem cw_X12_telling : codeW m_X12_telling ∈ tw := tw_in 1690 (by decide +kernel) rfl
theorem cw_X12_act : codeW m_X12_act ∈ tw := tw_in 1639 (by decide +kernel) rfl
theorem cw_X12_count : codeW m_X12_count ∈ tw := tw_in 1698 (by decide +kernel) rfl
theorem cw_X12_isShelf : codeW m_X12_isShelf ∈ tw := tw_in 1304 (by decide +kernel) rfl
theorem cw_X12_keep : codeW m_X12_keep ∈ tw := tw_in 1702 (by decide +kernel) rfl
theorem cw_X12_row : codeW m_X12_row ∈ tw := tw_in 1706 (by decide +kernel) rfl
theorem cw_X12_whyNoPlace : codeW m_X12_whyNoPlace ∈ tw := tw_in 1714 (by decide +kernel) rfl
theorem cw_X12_put : codeW m_X12_put ∈ tw := tw_in 1710 (by decide +kernel) rfl
theorem cw_X12_element : codeW m_X12_element ∈ tw := tw_in 1718 (by decide +kernel) rfl
theorem cw_X12_shift : codeW m_X12_shift ∈ tw := tw_in 1722 (by decide +kernel) rfl
theorem cw_X12_taken : codeW m_X12_taken ∈ tw := tw_in 1726 (by decide +kernel) rfl
theorem cw_J6_bitCount_0f7a4 : codeW m_J6_bitCount_0f7a4 ∈ tw := tw_in 901 (by decide +kernel) rfl
theorem fl_X11_10 : FlR RX11 10 11 0 0 := ⟨_, _, _, _, Kc11, by decide, rfl, tw_in 423 (by decide +kernel) rfl⟩
theorem fl_X11_19 : FlR RX11 19 11 1 5 := ⟨_, _, _, _, Kc11, by decide, rfl, tw_in 424 (by decide +kernel) rfl⟩
theorem fl_X11_25 : FlR RX11 25 11 2 11 := ⟨_, _, _, _, Kc11, by decide, rfl, tw_in 425 (by decide +kernel) rfl⟩
theorem fl_X11_32 : FlR RX11 32 11 3 12 := ⟨_, _, _, _, Kc11, by decide, rfl, tw_in 426 (by decide +kernel) rfl⟩
theorem fl_X11_39 : FlR RX11 39 11 4 15 := ⟨_, _, _, _, Kc11, by decide, rfl, tw_in 427 (by decide +kernel) rfl⟩
theorem fl_X11_46 : FlR RX11 46 11 5 17 := ⟨_, _, _, _, Kc11, by decide, rfl, tw_in 428 (by decide +kernel) rfl⟩
theorem fl_X11_53 : FlR RX11 53 11 6 22 := ⟨_, _, _, _, Kc11, by decide, rfl, tw_in 429 (by decide +kernel) rfl⟩
theorem fl_X11_60 : FlR RX11 60 11 7 30 := ⟨_, _, _, _, Kc11, by decide, rfl, tw_in 430 (by decide +kernel) rfl⟩
theorem fl_X11_67 : FlR RX11 67 11 8 35 := ⟨_, _, _, _, Kc11, by decide, rfl, tw_in 431 (by decide +kernel) rfl⟩
theorem fl_X11_74 : FlR RX11 74 11 9 36 := ⟨_, _, _, _, Kc11, by decide, rfl, tw_in 432 (by decide +kernel) rfl⟩
theorem fl_X11_78 : FlR RX11 78 11 10 37 := ⟨_, _, _, _, Kc11, by decide, rfl, tw_in 433 (by decide +kernel) rfl⟩
theorem fl_X11_81 : FlI RX11 81 11 11 := ⟨_, _, _, _, Kc11, by decide, rfl, tw_in 434 (by decide +kernel) rfl⟩
theorem fl_X11_88 : FlR RX11 88 11 12 38 := ⟨_, _, _, _, Kc11, by decide, rfl, tw_in 435 (by decide +kernel) rfl⟩
theorem fl_X11_190 : FlI RX11 190 8 5 := ⟨_, _, _, _, Kc8, by decide, rfl, tw_in 239 (by decide +kernel) rfl⟩
theorem fl_X11_194 : FlR RX11 194 8 0 0 := ⟨_, _, _, _, Kc8, by decide, rfl, tw_in 229 (by decide +kernel) rfl⟩
theorem fl_X11_215 : FlI RX11 215 6 1 := ⟨_, _, _, _, Kc6, by decide, rfl, tw_in 128 (by decide +kernel) rfl⟩
theorem fl_X11_225 : FlI RX11 225 7 4 := ⟨_, _, _, _, Kc7, by decide, rfl, tw_in 306 (by decide +kernel) rfl⟩
theorem fl_X11_227 : FlI RX11 227 7 5 := ⟨_, _, _, _, Kc7, by decide, rfl, tw_in 308 (by decide +kernel) rfl⟩
theorem fl_X11_233 : FlR RX11 233 10 1 2 := ⟨_, _, _, _, Kc10, by decide, rfl, tw_in 264 (by decide +kernel) rfl⟩
theorem fl_X11_241 : FlR RX11 241 10 0 0 := ⟨_, _, _, _, Kc10, by decide, rfl, tw_in 262 (by decide +kernel) rfl⟩
theorem fl_X11_250 : FlI RX11 250 10 8 := ⟨_, _, _, _, Kc10, by decide, rfl, tw_in 272 (by decide +kernel) rfl⟩
theorem fl_X11_263 : FlI RX11 263 3 0 := ⟨_, _, _, _, Kc3, by decide, rfl, tw_in 329 (by decide +kernel) rfl⟩
theorem fl_X11_269 : FlI RX11 269 5 2 := ⟨_, _, _, _, Kc5, by decide, rfl, tw_in 201 (by decide +kernel) rfl⟩
theorem fl_X11_275 : FlI RX11 275 2 0 := ⟨_, _, _, _, Kc2, by decide, rfl, tw_in 340 (by decide +kernel) rfl⟩
theorem fl_X11_283 : FlI RX11 283 2 2 := ⟨_, _, _, _, Kc2, by decide, rfl, tw_in 344 (by decide +kernel) rfl⟩
theorem fl_X11_284 : FlI RX11 284 2 1 := ⟨_, _, _, _, Kc2, by decide, rfl, tw_in 342 (by decide +kernel) rfl⟩
theorem fl_X11_286 : FlI RX11 286 2 3 := ⟨_, _, _, _, Kc2, by decide, rfl, tw_in 346 (by decide +kernel) rfl⟩
theorem fl_X11_299 : FlI RX11 299 2 4 := ⟨_, _, _, _, Kc2, by decide, rfl, tw_in 348 (by decide +kernel) rfl⟩
theorem fl_X11_302 : FlI RX11 302 2 5 := ⟨_, _, _, _, Kc2, by decide, rfl, tw_in 350 (by decide +kernel) rfl⟩
theorem fl_X11_304 : FlI RX11 304 2 6 := ⟨_, _, _, _, Kc2, by decide, rfl, tw_in 352 (by decide +kernel) rfl⟩
theorem fl_X11_306 : FlI RX11 306 2 7 := ⟨_, _, _, _, Kc2, by decide, rfl, tw_in 354 (by decide +kernel) rfl⟩
theorem fl_X11_309 : FlI RX11 309 2 8 := ⟨_, _, _, _, Kc2, by decide, rfl, tw_in 356 (by decide +kernel) rfl⟩
theorem fl_X11_315 : FlI RX11 315 6 5 := ⟨_, _, _, _, Kc6, by decide, rfl, tw_in 133 (by decide +kernel) rfl⟩
theorem fl_X11_321 : FlI RX11 321 6 6 := ⟨_, _, _, _, Kc6, by decide, rfl, tw_in 135 (by decide +kernel) rfl⟩
theorem fl_X11_341 : FlI RX11 341 0 3 := ⟨_, _, _, _, Kc0, by decide, rfl, tw_in 387 (by decide +kernel) rfl⟩
theorem fl_X11_369 : FlI RX11 369 9 2 := ⟨_, _, _, _, Kc9, by decide, rfl, tw_in 409 (by decide +kernel) rfl⟩
theorem fl_X11_379 : FlI RX11 379 9 1 := ⟨_, _, _, _, Kc9, by decide, rfl, tw_in 407 (by decide +kernel) rfl⟩
theorem fl_X11_388 : FlI RX11 388 4 1 := ⟨_, _, _, _, Kc4, by decide, rfl, tw_in 160 (by decide +kernel) rfl⟩
theorem fl_X11_391 : FlI RX11 391 0 1 := ⟨_, _, _, _, Kc0, by decide, rfl, tw_in 384 (by decide +kernel) rfl⟩
theorem fl_X11_419 : FlR RX11 419 8 1 2 := ⟨_, _, _, _, Kc8, by decide, rfl, tw_in 231 (by decide +kernel) rfl⟩
theorem fl_X11_424 : FlR RX11 424 8 2 3 := ⟨_, _, _, _, Kc8, by decide, rfl, tw_in 233 (by decide +kernel) rfl⟩
theorem fl_X0_11 : FlR RX0 11 0 0 0 := ⟨_, _, _, _, Kc0, by decide, rfl, tw_in 382 (by decide +kernel) rfl⟩
theorem fl_X0_15 : FlI RX0 15 0 1 := ⟨_, _, _, _, Kc0, by decide, rfl, tw_in 383 (by decide +kernel) rfl⟩
theorem fl_X0_19 : FlR RX0 19 0 2 1 := ⟨_, _, _, _, Kc0, by decide, rfl, tw_in 385 (by decide +kernel) rfl⟩
theorem fl_X0_22 : FlI RX0 22 0 3 := ⟨_, _, _, _, Kc0, by decide, rfl, tw_in 386 (by decide +kernel) rfl⟩
theorem fl_X0_25 : FlI RX0 25 0 4 := ⟨_, _, _, _, Kc0, by decide, rfl, tw_in 388 (by decide +kernel) rfl⟩
theorem fl_X0_32 : Cond.fieldLink RX0 32 "StoneInLentils$Bodies" "ABOVE" "[I" ∈ tw := tw_in 1030 (by decide +kernel) rfl
theorem fl_X0_50 : Cond.fieldLink RX0 50 "StoneInLentils$Bodies" "OWN" "[I" ∈ tw := tw_in 1028 (by decide +kernel) rfl
theorem fl_X1_11 : FlR RX1 11 1 0 0 := ⟨_, _, _, _, Kc1, by decide, rfl, tw_in 215 (by decide +kernel) rfl⟩
theorem fl_X1_25 : Cond.fieldLink RX1 25 "StoneInLentils$Chances" "CHOOSE" "[I" ∈ tw := tw_in 705 (by decide +kernel) rfl
theorem fl_X2_7 : FlI RX2 7 2 0 := ⟨_, _, _, _, Kc2, by decide, rfl, tw_in 339 (by decide +kernel) rfl⟩
theorem fl_X2_13 : FlI RX2 13 2 1 := ⟨_, _, _, _, Kc2, by decide, rfl, tw_in 341 (by decide +kernel) rfl⟩
theorem fl_X2_17 : FlI RX2 17 2 2 := ⟨_, _, _, _, Kc2, by decide, rfl, tw_in 343 (by decide +kernel) rfl⟩
theorem fl_X2_20 : FlI RX2 20 2 3 := ⟨_, _, _, _, Kc2, by decide, rfl, tw_in 345 (by decide +kernel) rfl⟩
theorem fl_X2_23 : FlI RX2 23 2 4 := ⟨_, _, _, _, Kc2, by decide, rfl, tw_in 347 (by decide +kernel) rfl⟩
theorem fl_X2_26 : FlI RX2 26 2 5 := ⟨_, _, _, _, Kc2, by decide, rfl, tw_in 349 (by decide +kernel) rfl⟩
theorem fl_X2_29 : FlI RX2 29 2 6 := ⟨_, _, _, _, Kc2, by decide, rfl, tw_in 351 (by decide +kernel) rfl⟩
theorem fl_X2_32 : FlI RX2 32 2 7 := ⟨_, _, _, _, Kc2, by decide, rfl, tw_in 353 (by decide +kernel) rfl⟩
theorem fl_X2_35 : FlI RX2 35 2 8 := ⟨_, _, _, _, Kc2, by decide, rfl, tw_in 355 (by decide +kernel) rfl⟩
theorem fl_X3_9 : FlI RX3 9 3 0 := ⟨_, _, _, _, Kc3, by decide, rfl, tw_in 328 (by decide +kernel) rfl⟩
theorem fl_X4_9 : FlR RX4 9 4 0 0 := ⟨_, _, _, _, Kc4, by decide, rfl, tw_in 158 (by decide +kernel) rfl⟩
theorem fl_X4_13 : FlI RX4 13 4 1 := ⟨_, _, _, _, Kc4, by decide, rfl, tw_in 159 (by decide +kernel) rfl⟩
theorem fl_X4_17 : FlI RX4 17 4 2 := ⟨_, _, _, _, Kc4, by decide, rfl, tw_in 161 (by decide +kernel) rfl⟩
theorem fl_X4_20 : FlR RX4 20 4 3 1 := ⟨_, _, _, _, Kc4, by decide, rfl, tw_in 162 (by decide +kernel) rfl⟩
theorem fl_X4_23 : FlI RX4 23 4 4 := ⟨_, _, _, _, Kc4, by decide, rfl, tw_in 163 (by decide +kernel) rfl⟩
theorem fl_X4_26 : FlR RX4 26 4 5 2 := ⟨_, _, _, _, Kc4, by decide, rfl, tw_in 164 (by decide +kernel) rfl⟩
theorem fl_X4_29 : FlI RX4 29 4 6 := ⟨_, _, _, _, Kc4, by decide, rfl, tw_in 165 (by decide +kernel) rfl⟩
theorem fl_X4_32 : FlR RX4 32 4 7 3 := ⟨_, _, _, _, Kc4, by decide, rfl, tw_in 166 (by decide +kernel) rfl⟩
theorem fl_X4_35 : FlR RX4 35 4 8 4 := ⟨_, _, _, _, Kc4, by decide, rfl, tw_in 167 (by decide +kernel) rfl⟩
theorem fl_X4_38 : FlI RX4 38 4 9 := ⟨_, _, _, _, Kc4, by decide, rfl, tw_in 168 (by decide +kernel) rfl⟩
theorem fl_X5_9 : FlR RX5 9 5 0 0 := ⟨_, _, _, _, Kc5, by decide, rfl, tw_in 198 (by decide +kernel) rfl⟩
theorem fl_X5_15 : FlR RX5 15 5 1 1 := ⟨_, _, _, _, Kc5, by decide, rfl, tw_in 199 (by decide +kernel) rfl⟩
theorem fl_X5_18 : FlI RX5 18 5 2 := ⟨_, _, _, _, Kc5, by decide, rfl, tw_in 200 (by decide +kernel) rfl⟩
theorem fl_X6_11 : FlR RX6 11 6 0 0 := ⟨_, _, _, _, Kc6, by decide, rfl, tw_in 126 (by decide +kernel) rfl⟩
theorem fl_X6_15 : FlI RX6 15 6 1 := ⟨_, _, _, _, Kc6, by decide, rfl, tw_in 127 (by decide +kernel) rfl⟩
theorem fl_X6_19 : FlR RX6 19 6 2 1 := ⟨_, _, _, _, Kc6, by decide, rfl, tw_in 129 (by decide +kernel) rfl⟩
theorem fl_X6_22 : FlR RX6 22 6 3 2 := ⟨_, _, _, _, Kc6, by decide, rfl, tw_in 130 (by decide +kernel) rfl⟩
theorem fl_X6_25 : FlR RX6 25 6 4 3 := ⟨_, _, _, _, Kc6, by decide, rfl, tw_in 131 (by decide +kernel) rfl⟩
theorem fl_X6_28 : FlI RX6 28 6 5 := ⟨_, _, _, _, Kc6, by decide, rfl, tw_in 132 (by decide +kernel) rfl⟩
theorem fl_X6_31 : FlI RX6 31 6 6 := ⟨_, _, _, _, Kc6, by decide, rfl, tw_in 134 (by decide +kernel) rfl⟩
theorem fl_X6_34 : Cond.fieldLink RX6 34 "StoneInLentils$Numbers" "LEAST" "[I" ∈ tw := tw_in 471 (by decide +kernel) rfl
theorem fl_X6_37 : Cond.fieldLink RX6 37 "StoneInLentils$Numbers" "GREATEST" "[I" ∈ tw := tw_in 473 (by decide +kernel) rfl
theorem fl_X7_11 : FlR RX7 11 7 0 0 := ⟨_, _, _, _, Kc7, by decide, rfl, tw_in 301 (by decide +kernel) rfl⟩
theorem fl_X7_15 : FlR RX7 15 7 1 1 := ⟨_, _, _, _, Kc7, by decide, rfl, tw_in 302 (by decide +kernel) rfl⟩
theorem fl_X7_18 : FlR RX7 18 7 2 2 := ⟨_, _, _, _, Kc7, by decide, rfl, tw_in 303 (by decide +kernel) rfl⟩
theorem fl_X7_21 : FlR RX7 21 7 3 3 := ⟨_, _, _, _, Kc7, by decide, rfl, tw_in 304 (by decide +kernel) rfl⟩
theorem fl_X7_24 : FlI RX7 24 7 4 := ⟨_, _, _, _, Kc7, by decide, rfl, tw_in 305 (by decide +kernel) rfl⟩
theorem fl_X7_28 : FlI RX7 28 7 5 := ⟨_, _, _, _, Kc7, by decide, rfl, tw_in 307 (by decide +kernel) rfl⟩
theorem fl_X8_12 : FlR RX8 12 8 0 0 := ⟨_, _, _, _, Kc8, by decide, rfl, tw_in 228 (by decide +kernel) rfl⟩
theorem fl_X8_18 : FlR RX8 18 8 1 2 := ⟨_, _, _, _, Kc8, by decide, rfl, tw_in 230 (by decide +kernel) rfl⟩
theorem fl_X8_22 : FlR RX8 22 8 2 3 := ⟨_, _, _, _, Kc8, by decide, rfl, tw_in 232 (by decide +kernel) rfl⟩
theorem fl_X8_25 : FlI RX8 25 8 3 := ⟨_, _, _, _, Kc8, by decide, rfl, tw_in 234 (by decide +kernel) rfl⟩
theorem fl_X8_29 : FlI RX8 29 8 4 := ⟨_, _, _, _, Kc8, by decide, rfl, tw_in 236 (by decide +kernel) rfl⟩
theorem fl_X8_52 : Cond.fieldLink RX8 52 "StoneInLentils$Planner" "CUBES" "[J" ∈ tw := tw_in 783 (by decide +kernel) rfl
theorem fl_X9_11 : FlI RX9 11 9 0 := ⟨_, _, _, _, Kc9, by decide, rfl, tw_in 405 (by decide +kernel) rfl⟩
theorem fl_X9_18 : FlI RX9 18 9 2 := ⟨_, _, _, _, Kc9, by decide, rfl, tw_in 408 (by decide +kernel) rfl⟩
theorem fl_X9_21 : FlI RX9 21 9 3 := ⟨_, _, _, _, Kc9, by decide, rfl, tw_in 410 (by decide +kernel) rfl⟩
theorem fl_X9_24 : FlR RX9 24 9 4 0 := ⟨_, _, _, _, Kc9, by decide, rfl, tw_in 411 (by decide +kernel) rfl⟩
theorem fl_X10_12 : FlR RX10 12 10 0 0 := ⟨_, _, _, _, Kc10, by decide, rfl, tw_in 261 (by decide +kernel) rfl⟩
theorem fl_X10_18 : FlR RX10 18 10 1 2 := ⟨_, _, _, _, Kc10, by decide, rfl, tw_in 263 (by decide +kernel) rfl⟩
theorem fl_X10_22 : FlR RX10 22 10 2 3 := ⟨_, _, _, _, Kc10, by decide, rfl, tw_in 265 (by decide +kernel) rfl⟩
theorem fl_X10_25 : FlR RX10 25 10 3 4 := ⟨_, _, _, _, Kc10, by decide, rfl, tw_in 266 (by decide +kernel) rfl⟩
theorem fl_X10_28 : FlR RX10 28 10 4 5 := ⟨_, _, _, _, Kc10, by decide, rfl, tw_in 267 (by decide +kernel) rfl⟩
theorem fl_X10_31 : FlR RX10 31 10 5 6 := ⟨_, _, _, _, Kc10, by decide, rfl, tw_in 268 (by decide +kernel) rfl⟩
theorem fl_X10_34 : FlI RX10 34 10 6 := ⟨_, _, _, _, Kc10, by decide, rfl, tw_in 269 (by decide +kernel) rfl⟩
theorem fl_X10_38 : FlI RX10 38 10 7 := ⟨_, _, _, _, Kc10, by decide, rfl, tw_in 270 (by decide +kernel) rfl⟩
theorem fl_X10_41 : FlI RX10 41 10 8 := ⟨_, _, _, _, Kc10, by decide, rfl, tw_in 271 (by decide +kernel) rfl⟩
theorem fl_X10_44 : FlL RX10 44 10 9 := ⟨_, _, _, _, Kc10, by decide, rfl, tw_in 273 (by decide +kernel) rfl⟩
theorem fl_X12_9 : FlR RX12 9 12 1 0 := ⟨_, _, _, _, Kc12, by decide, rfl, tw_in 1120 (by decide +kernel) rfl⟩
theorem fl_X12_15 : FlR RX12 15 12 2 1 := ⟨_, _, _, _, Kc12, by decide, rfl, tw_in 1121 (by decide +kernel) rfl⟩
theorem fl_X12_18 : FlR RX12 18 12 4 2 := ⟨_, _, _, _, Kc12, by decide, rfl, tw_in 1123 (by decide +kernel) rfl⟩
theorem fl_X12_21 : FlR RX12 21 12 5 3 := ⟨_, _, _, _, Kc12, by decide, rfl, tw_in 1124 (by decide +kernel) rfl⟩
theorem fl_X12_24 : FlI RX12 24 12 7 := ⟨_, _, _, _, Kc12, by decide, rfl, tw_in 1126 (by decide +kernel) rfl⟩
theorem fl_X12_28 : FlI RX12 28 12 8 := ⟨_, _, _, _, Kc12, by decide, rfl, tw_in 1127 (by decide +kernel) rfl⟩
theorem fl_X12_31 : FlI RX12 31 12 9 := ⟨_, _, _, _, Kc12, by decide, rfl, tw_in 1128 (by decide +kernel) rfl⟩
theorem fl_X12_34 : FlI RX12 34 12 10 := ⟨_, _, _, _, Kc12, by decide, rfl, tw_in 1129 (by decide +kernel) rfl⟩
theorem fl_X12_37 : FlR RX12 37 12 13 4 := ⟨_, _, _, _, Kc12, by decide, rfl, tw_in 1132 (by decide +kernel) rfl⟩
theorem fl_X12_40 : FlR RX12 40 12 14 5 := ⟨_, _, _, _, Kc12, by decide, rfl, tw_in 1133 (by decide +kernel) rfl⟩
theorem fl_X12_43 : FlR RX12 43 12 15 6 := ⟨_, _, _, _, Kc12, by decide, rfl, tw_in 1134 (by decide +kernel) rfl⟩
theorem fl_X12_46 : FlR RX12 46 12 16 7 := ⟨_, _, _, _, Kc12, by decide, rfl, tw_in 1135 (by decide +kernel) rfl⟩
theorem fl_X12_49 : FlR RX12 49 12 17 8 := ⟨_, _, _, _, Kc12, by decide, rfl, tw_in 1136 (by decide +kernel) rfl⟩
theorem fl_X12_53 : FlR RX12 53 12 23 9 := ⟨_, _, _, _, Kc12, by decide, rfl, tw_in 1142 (by decide +kernel) rfl⟩
theorem fl_X12_56 : FlR RX12 56 12 24 10 := ⟨_, _, _, _, Kc12, by decide, rfl, tw_in 1143 (by decide +kernel) rfl⟩
theorem fl_X12_59 : FlR RX12 59 12 25 11 := ⟨_, _, _, _, Kc12, by decide, rfl, tw_in 1144 (by decide +kernel) rfl⟩
theorem fl_X12_62 : FlR RX12 62 12 26 12 := ⟨_, _, _, _, Kc12, by decide, rfl, tw_in 1145 (by decide +kernel) rfl⟩
theorem fl_X12_66 : FlR RX12 66 12 27 13 := ⟨_, _, _, _, Kc12, by decide, rfl, tw_in 1146 (by decide +kernel) rfl⟩
theorem fl_X12_69 : FlR RX12 69 12 28 14 := ⟨_, _, _, _, Kc12, by decide, rfl, tw_in 1147 (by decide +kernel) rfl⟩
theorem fl_X12_72 : FlR RX12 72 12 29 15 := ⟨_, _, _, _, Kc12, by decide, rfl, tw_in 1148 (by decide +kernel) rfl⟩
theorem fl_X12_75 : FlR RX12 75 12 31 16 := ⟨_, _, _, _, Kc12, by decide, rfl, tw_in 1150 (by decide +kernel) rfl⟩
theorem fl_X12_79 : FlR RX12 79 12 35 17 := ⟨_, _, _, _, Kc12, by decide, rfl, tw_in 1154 (by decide +kernel) rfl⟩
theorem fl_X12_82 : FlR RX12 82 12 36 18 := ⟨_, _, _, _, Kc12, by decide, rfl, tw_in 1155 (by decide +kernel) rfl⟩
theorem fl_X12_85 : FlR RX12 85 12 37 19 := ⟨_, _, _, _, Kc12, by decide, rfl, tw_in 1156 (by decide +kernel) rfl⟩
theorem fl_X12_88 : FlR RX12 88 12 39 20 := ⟨_, _, _, _, Kc12, by decide, rfl, tw_in 1158 (by decide +kernel) rfl⟩
theorem fl_X12_91 : FlR RX12 91 12 40 21 := ⟨_, _, _, _, Kc12, by decide, rfl, tw_in 1159 (by decide +kernel) rfl⟩
theorem fl_X12_94 : FlR RX12 94 12 41 22 := ⟨_, _, _, _, Kc12, by decide, rfl, tw_in 1160 (by decide +kernel) rfl⟩
theorem fl_X12_97 : FlR RX12 97 12 45 23 := ⟨_, _, _, _, Kc12, by decide, rfl, tw_in 1164 (by decide +kernel) rfl⟩
theorem fl_X12_100 : FlR RX12 100 12 46 24 := ⟨_, _, _, _, Kc12, by decide, rfl, tw_in 1165 (by decide +kernel) rfl⟩
theorem fl_X12_103 : FlR RX12 103 12 49 25 := ⟨_, _, _, _, Kc12, by decide, rfl, tw_in 1168 (by decide +kernel) rfl⟩
theorem fl_X12_106 : FlR RX12 106 12 51 26 := ⟨_, _, _, _, Kc12, by decide, rfl, tw_in 1170 (by decide +kernel) rfl⟩
theorem fl_X12_109 : FlR RX12 109 12 52 27 := ⟨_, _, _, _, Kc12, by decide, rfl, tw_in 1171 (by decide +kernel) rfl⟩
theorem fl_X12_112 : FlR RX12 112 12 53 28 := ⟨_, _, _, _, Kc12, by decide, rfl, tw_in 1172 (by decide +kernel) rfl⟩
theorem fl_X12_115 : FlR RX12 115 12 54 29 := ⟨_, _, _, _, Kc12, by decide, rfl, tw_in 1173 (by decide +kernel) rfl⟩
theorem fl_X12_118 : FlR RX12 118 12 55 30 := ⟨_, _, _, _, Kc12, by decide, rfl, tw_in 1174 (by decide +kernel) rfl⟩
theorem fl_X12_128 : FlI RX12 128 12 3 := ⟨_, _, _, _, Kc12, by decide, rfl, tw_in 1122 (by decide +kernel) rfl⟩
theorem fl_X12_139 : FlI RX12 139 12 6 := ⟨_, _, _, _, Kc12, by decide, rfl, tw_in 1125 (by decide +kernel) rfl⟩
theorem fl_X12_145 : FlI RX12 145 12 12 := ⟨_, _, _, _, Kc12, by decide, rfl, tw_in 1131 (by decide +kernel) rfl⟩
theorem fl_X12_148 : FlI RX12 148 12 11 := ⟨_, _, _, _, Kc12, by decide, rfl, tw_in 1130 (by decide +kernel) rfl⟩
theorem fl_X12_172 : FlI RX12 172 12 18 := ⟨_, _, _, _, Kc12, by decide, rfl, tw_in 1137 (by decide +kernel) rfl⟩
theorem fl_X12_175 : FlI RX12 175 12 19 := ⟨_, _, _, _, Kc12, by decide, rfl, tw_in 1138 (by decide +kernel) rfl⟩
theorem fl_X12_178 : FlI RX12 178 12 20 := ⟨_, _, _, _, Kc12, by decide, rfl, tw_in 1139 (by decide +kernel) rfl⟩
theorem fl_X12_181 : FlI RX12 181 12 22 := ⟨_, _, _, _, Kc12, by decide, rfl, tw_in 1141 (by decide +kernel) rfl⟩
theorem fl_X12_184 : FlI RX12 184 12 21 := ⟨_, _, _, _, Kc12, by decide, rfl, tw_in 1140 (by decide +kernel) rfl⟩
theorem fl_X12_239 : FlI RX12 239 12 30 := ⟨_, _, _, _, Kc12, by decide, rfl, tw_in 1149 (by decide +kernel) rfl⟩
theorem fl_X12_310 : FlL RX12 310 12 32 := ⟨_, _, _, _, Kc12, by decide, rfl, tw_in 1151 (by decide +kernel) rfl⟩
theorem fl_X12_314 : FlL RX12 314 12 33 := ⟨_, _, _, _, Kc12, by decide, rfl, tw_in 1152 (by decide +kernel) rfl⟩
theorem fl_X12_324 : FlI RX12 324 12 34 := ⟨_, _, _, _, Kc12, by decide, rfl, tw_in 1153 (by decide +kernel) rfl⟩
theorem fl_X12_355 : FlI RX12 355 12 38 := ⟨_, _, _, _, Kc12, by decide, rfl, tw_in 1157 (by decide +kernel) rfl⟩
theorem fl_X12_358 : FlI RX12 358 12 42 := ⟨_, _, _, _, Kc12, by decide, rfl, tw_in 1161 (by decide +kernel) rfl⟩
theorem fl_X12_361 : FlL RX12 361 12 43 := ⟨_, _, _, _, Kc12, by decide, rfl, tw_in 1162 (by decide +kernel) rfl⟩
theorem fl_X12_368 : FlI RX12 368 12 44 := ⟨_, _, _, _, Kc12, by decide, rfl, tw_in 1163 (by decide +kernel) rfl⟩
theorem fl_X12_381 : FlI RX12 381 12 47 := ⟨_, _, _, _, Kc12, by decide, rfl, tw_in 1166 (by decide +kernel) rfl⟩
theorem fl_X12_384 : FlI RX12 384 12 48 := ⟨_, _, _, _, Kc12, by decide, rfl, tw_in 1167 (by decide +kernel) rfl⟩
theorem fl_X12_387 : FlI RX12 387 12 50 := ⟨_, _, _, _, Kc12, by decide, rfl, tw_in 1169 (by decide +kernel) rfl⟩
theorem fp_X11_81 : FpX RX11 81 11 11 0 .boolean := ⟨_, _, _, _, Kc11, by decide, rfl, rfl, by decide +kernel, tw_in 434 (by decide +kernel) rfl⟩
theorem fp_X11_263 : FpX RX11 263 3 0 0 .int := ⟨_, _, _, _, Kc3, by decide, rfl, rfl, by decide +kernel, tw_in 329 (by decide +kernel) rfl⟩
theorem fp_X11_420 : FpX RX11 420 8 3 0 .int := ⟨_, _, _, _, Kc8, by decide, rfl, rfl, by decide +kernel, tw_in 235 (by decide +kernel) rfl⟩
theorem fp_X11_421 : FpX RX11 421 8 4 0 .int := ⟨_, _, _, _, Kc8, by decide, rfl, rfl, by decide +kernel, tw_in 237 (by decide +kernel) rfl⟩
theorem fp_X0_15 : FpX RX0 15 0 1 0 .int := ⟨_, _, _, _, Kc0, by decide, rfl, rfl, by decide +kernel, tw_in 383 (by decide +kernel) rfl⟩
theorem fp_X0_22 : FpX RX0 22 0 3 0 .int := ⟨_, _, _, _, Kc0, by decide, rfl, rfl, by decide +kernel, tw_in 386 (by decide +kernel) rfl⟩
theorem fp_X0_25 : FpX RX0 25 0 4 0 .int := ⟨_, _, _, _, Kc0, by decide, rfl, rfl, by decide +kernel, tw_in 388 (by decide +kernel) rfl⟩
theorem fp_X2_7 : FpX RX2 7 2 0 0 .boolean := ⟨_, _, _, _, Kc2, by decide, rfl, rfl, by decide +kernel, tw_in 339 (by decide +kernel) rfl⟩
theorem fp_X2_13 : FpX RX2 13 2 1 0 .int := ⟨_, _, _, _, Kc2, by decide, rfl, rfl, by decide +kernel, tw_in 341 (by decide +kernel) rfl⟩
theorem fp_X2_17 : FpX RX2 17 2 2 0 .int := ⟨_, _, _, _, Kc2, by decide, rfl, rfl, by decide +kernel, tw_in 343 (by decide +kernel) rfl⟩
theorem fp_X2_20 : FpX RX2 20 2 3 0 .int := ⟨_, _, _, _, Kc2, by decide, rfl, rfl, by decide +kernel, tw_in 345 (by decide +kernel) rfl⟩
theorem fp_X2_23 : FpX RX2 23 2 4 0 .int := ⟨_, _, _, _, Kc2, by decide, rfl, rfl, by decide +kernel, tw_in 347 (by decide +kernel) rfl⟩
theorem fp_X2_26 : FpX RX2 26 2 5 0 .int := ⟨_, _, _, _, Kc2, by decide, rfl, rfl, by decide +kernel, tw_in 349 (by decide +kernel) rfl⟩
theorem fp_X2_29 : FpX RX2 29 2 6 0 .int := ⟨_, _, _, _, Kc2, by decide, rfl, rfl, by decide +kernel, tw_in 351 (by decide +kernel) rfl⟩
theorem fp_X2_32 : FpX RX2 32 2 7 0 .int := ⟨_, _, _, _, Kc2, by decide, rfl, rfl, by decide +kernel, tw_in 353 (by decide +kernel) rfl⟩
theorem fp_X2_35 : FpX RX2 35 2 8 0 .int := ⟨_, _, _, _, Kc2, by decide, rfl, rfl, by decide +kernel, tw_in 355 (by decide +kernel) rfl⟩
theorem fp_X3_9 : FpX RX3 9 3 0 0 .int := ⟨_, _, _, _, Kc3, by decide, rfl, rfl, by decide +kernel, tw_in 328 (by decide +kernel) rfl⟩
theorem fp_X4_13 : FpX RX4 13 4 1 0 .int := ⟨_, _, _, _, Kc4, by decide, rfl, rfl, by decide +kernel, tw_in 159 (by decide +kernel) rfl⟩
theorem fp_X4_17 : FpX RX4 17 4 2 0 .int := ⟨_, _, _, _, Kc4, by decide, rfl, rfl, by decide +kernel, tw_in 161 (by decide +kernel) rfl⟩
theorem fp_X4_23 : FpX RX4 23 4 4 0 .int := ⟨_, _, _, _, Kc4, by decide, rfl, rfl, by decide +kernel, tw_in 163 (by decide +kernel) rfl⟩
theorem fp_X4_29 : FpX RX4 29 4 6 0 .int := ⟨_, _, _, _, Kc4, by decide, rfl, rfl, by decide +kernel, tw_in 165 (by decide +kernel) rfl⟩
theorem fp_X4_38 : FpX RX4 38 4 9 0 .int := ⟨_, _, _, _, Kc4, by decide, rfl, rfl, by decide +kernel, tw_in 168 (by decide +kernel) rfl⟩
theorem fp_X5_18 : FpX RX5 18 5 2 0 .int := ⟨_, _, _, _, Kc5, by decide, rfl, rfl, by decide +kernel, tw_in 200 (by decide +kernel) rfl⟩
theorem fp_X6_15 : FpX RX6 15 6 1 0 .int := ⟨_, _, _, _, Kc6, by decide, rfl, rfl, by decide +kernel, tw_in 127 (by decide +kernel) rfl⟩
theorem fp_X6_28 : FpX RX6 28 6 5 0 .int := ⟨_, _, _, _, Kc6, by decide, rfl, rfl, by decide +kernel, tw_in 132 (by decide +kernel) rfl⟩
theorem fp_X6_31 : FpX RX6 31 6 6 0 .int := ⟨_, _, _, _, Kc6, by decide, rfl, rfl, by decide +kernel, tw_in 134 (by decide +kernel) rfl⟩
theorem fp_X7_24 : FpX RX7 24 7 4 0 .int := ⟨_, _, _, _, Kc7, by decide, rfl, rfl, by decide +kernel, tw_in 305 (by decide +kernel) rfl⟩
theorem fp_X7_28 : FpX RX7 28 7 5 0 .int := ⟨_, _, _, _, Kc7, by decide, rfl, rfl, by decide +kernel, tw_in 307 (by decide +kernel) rfl⟩
theorem fp_X8_32 : FpX RX8 32 8 5 0 .int := ⟨_, _, _, _, Kc8, by decide, rfl, rfl, by decide +kernel, tw_in 238 (by decide +kernel) rfl⟩
theorem fp_X9_11 : FpX RX9 11 9 0 0 .int := ⟨_, _, _, _, Kc9, by decide, rfl, rfl, by decide +kernel, tw_in 405 (by decide +kernel) rfl⟩
theorem fp_X9_15 : FpX RX9 15 9 1 0 .int := ⟨_, _, _, _, Kc9, by decide, rfl, rfl, by decide +kernel, tw_in 406 (by decide +kernel) rfl⟩
theorem fp_X9_18 : FpX RX9 18 9 2 0 .int := ⟨_, _, _, _, Kc9, by decide, rfl, rfl, by decide +kernel, tw_in 408 (by decide +kernel) rfl⟩
theorem fp_X9_21 : FpX RX9 21 9 3 0 .int := ⟨_, _, _, _, Kc9, by decide, rfl, rfl, by decide +kernel, tw_in 410 (by decide +kernel) rfl⟩
theorem fp_X10_34 : FpX RX10 34 10 6 0 .int := ⟨_, _, _, _, Kc10, by decide, rfl, rfl, by decide +kernel, tw_in 269 (by decide +kernel) rfl⟩
theorem fp_X10_38 : FpX RX10 38 10 7 0 .int := ⟨_, _, _, _, Kc10, by decide, rfl, rfl, by decide +kernel, tw_in 270 (by decide +kernel) rfl⟩
theorem fp_X10_41 : FpX RX10 41 10 8 0 .int := ⟨_, _, _, _, Kc10, by decide, rfl, rfl, by decide +kernel, tw_in 271 (by decide +kernel) rfl⟩
theorem fp_X10_44 : FpX RX10 44 10 9 1 .long := ⟨_, _, _, _, Kc10, by decide, rfl, rfl, by decide +kernel, tw_in 273 (by decide +kernel) rfl⟩
theorem fp_X12_24 : FpX RX12 24 12 7 0 .int := ⟨_, _, _, _, Kc12, by decide, rfl, rfl, by decide +kernel, tw_in 1126 (by decide +kernel) rfl⟩
theorem fp_X12_28 : FpX RX12 28 12 8 0 .int := ⟨_, _, _, _, Kc12, by decide, rfl, rfl, by decide +kernel, tw_in 1127 (by decide +kernel) rfl⟩
theorem fp_X12_31 : FpX RX12 31 12 9 0 .int := ⟨_, _, _, _, Kc12, by decide, rfl, rfl, by decide +kernel, tw_in 1128 (by decide +kernel) rfl⟩
theorem fp_X12_34 : FpX RX12 34 12 10 0 .int := ⟨_, _, _, _, Kc12, by decide, rfl, rfl, by decide +kernel, tw_in 1129 (by decide +kernel) rfl⟩
theorem fp_X12_128 : FpX RX12 128 12 3 0 .int := ⟨_, _, _, _, Kc12, by decide, rfl, rfl, by decide +kernel, tw_in 1122 (by decide +kernel) rfl⟩
theorem fp_X12_139 : FpX RX12 139 12 6 0 .int := ⟨_, _, _, _, Kc12, by decide, rfl, rfl, by decide +kernel, tw_in 1125 (by decide +kernel) rfl⟩
theorem fp_X12_145 : FpX RX12 145 12 12 0 .int := ⟨_, _, _, _, Kc12, by decide, rfl, rfl, by decide +kernel, tw_in 1131 (by decide +kernel) rfl⟩
theorem fp_X12_148 : FpX RX12 148 12 11 0 .int := ⟨_, _, _, _, Kc12, by decide, rfl, rfl, by decide +kernel, tw_in 1130 (by decide +kernel) rfl⟩
theorem fp_X12_172 : FpX RX12 172 12 18 0 .int := ⟨_, _, _, _, Kc12, by decide, rfl, rfl, by decide +kernel, tw_in 1137 (by decide +kernel) rfl⟩
theorem fp_X12_175 : FpX RX12 175 12 19 0 .int := ⟨_, _, _, _, Kc12, by decide, rfl, rfl, by decide +kernel, tw_in 1138 (by decide +kernel) rfl⟩
theorem fp_X12_178 : FpX RX12 178 12 20 0 .int := ⟨_, _, _, _, Kc12, by decide, rfl, rfl, by decide +kernel, tw_in 1139 (by decide +kernel) rfl⟩
theorem fp_X12_181 : FpX RX12 181 12 22 0 .int := ⟨_, _, _, _, Kc12, by decide, rfl, rfl, by decide +kernel, tw_in 1141 (by decide +kernel) rfl⟩
theorem fp_X12_184 : FpX RX12 184 12 21 0 .int := ⟨_, _, _, _, Kc12, by decide, rfl, rfl, by decide +kernel, tw_in 1140 (by decide +kernel) rfl⟩
theorem fp_X12_239 : FpX RX12 239 12 30 0 .boolean := ⟨_, _, _, _, Kc12, by decide, rfl, rfl, by decide +kernel, tw_in 1149 (by decide +kernel) rfl⟩
theorem fp_X12_310 : FpX RX12 310 12 32 1 .long := ⟨_, _, _, _, Kc12, by decide, rfl, rfl, by decide +kernel, tw_in 1151 (by decide +kernel) rfl⟩
theorem fp_X12_314 : FpX RX12 314 12 33 1 .long := ⟨_, _, _, _, Kc12, by decide, rfl, rfl, by decide +kernel, tw_in 1152 (by decide +kernel) rfl⟩
theorem fp_X12_324 : FpX RX12 324 12 34 0 .int := ⟨_, _, _, _, Kc12, by decide, rfl, rfl, by decide +kernel, tw_in 1153 (by decide +kernel) rfl⟩
theorem fp_X12_355 : FpX RX12 355 12 38 0 .int := ⟨_, _, _, _, Kc12, by decide, rfl, rfl, by decide +kernel, tw_in 1157 (by decide +kernel) rfl⟩
theorem fp_X12_358 : FpX RX12 358 12 42 0 .int := ⟨_, _, _, _, Kc12, by decide, rfl, rfl, by decide +kernel, tw_in 1161 (by decide +kernel) rfl⟩
theorem fp_X12_361 : FpX RX12 361 12 43 1 .long := ⟨_, _, _, _, Kc12, by decide, rfl, rfl, by decide +kernel, tw_in 1162 (by decide +kernel) rfl⟩
theorem fp_X12_368 : FpX RX12 368 12 44 0 .int := ⟨_, _, _, _, Kc12, by decide, rfl, rfl, by decide +kernel, tw_in 1163 (by decide +kernel) rfl⟩
theorem fp_X12_381 : FpX RX12 381 12 47 0 .boolean := ⟨_, _, _, _, Kc12, by decide, rfl, rfl, by decide +kernel, tw_in 1166 (by decide +kernel) rfl⟩
theorem fp_X12_384 : FpX RX12 384 12 48 0 .int := ⟨_, _, _, _, Kc12, by decide, rfl, rfl, by decide +kernel, tw_in 1167 (by decide +kernel) rfl⟩
theorem fp_X12_387 : FpX RX12 387 12 50 0 .int := ⟨_, _, _, _, Kc12, by decide, rfl, rfl, by decide +kernel, tw_in 1169 (by decide +kernel) rfl⟩
theorem co_X3_15 : Cond.constant RX3 15 (1103515245) ∈ tw := tw_in 926 (by decide +kernel) rfl
theorem co_X12_371 : Cond.constant RX12 371 (1103515245) ∈ tw := tw_in 1599 (by decide +kernel) rfl
theorem co_J6_265 : Cond.constant RJ6 265 (1431655765) ∈ tw := tw_in 902 (by decide +kernel) rfl
theorem co_J6_266 : Cond.constant RJ6 266 (858993459) ∈ tw := tw_in 903 (by decide +kernel) rfl
theorem co_J6_267 : Cond.constant RJ6 267 (252645135) ∈ tw := tw_in 904 (by decide +kernel) rfl
theorem cl_X11_148 : Cond.constantLong RX11 148 (-9223372036854775808) ∈ tw := tw_in 662 (by decide +kernel) rfl
theorem cl_X11_157 : Cond.constantLong RX11 157 (-2) ∈ tw := tw_in 711 (by decide +kernel) rfl
theorem cl_X11_176 : Cond.constantLong RX11 176 (12) ∈ tw := tw_in 745 (by decide +kernel) rfl
theorem cl_X11_195 : Cond.constantLong RX11 195 (1728) ∈ tw := tw_in 796 (by decide +kernel) rfl
theorem cl_X11_404 : Cond.constantLong RX11 404 (1099511627776) ∈ tw := tw_in 824 (by decide +kernel) rfl
theorem cl_X1_37 : Cond.constantLong RX1 37 (1728) ∈ tw := tw_in 730 (by decide +kernel) rfl
theorem cl_X1_39 : Cond.constantLong RX1 39 (2) ∈ tw := tw_in 735 (by decide +kernel) rfl
theorem cl_X1_41 : Cond.constantLong RX1 41 (3) ∈ tw := tw_in 736 (by decide +kernel) rfl
theorem cl_X5_40 : Cond.constantLong RX5 40 (3) ∈ tw := tw_in 680 (by decide +kernel) rfl
theorem cl_X8_63 : Cond.constantLong RX8 63 (144) ∈ tw := tw_in 790 (by decide +kernel) rfl
theorem cl_X12_262 : Cond.constantLong RX12 262 (12) ∈ tw := tw_in 1474 (by decide +kernel) rfl
theorem cl_X12_264 : Cond.constantLong RX12 264 (2) ∈ tw := tw_in 1496 (by decide +kernel) rfl
theorem cl_X12_266 : Cond.constantLong RX12 266 (3) ∈ tw := tw_in 1497 (by decide +kernel) rfl
theorem cl_X12_283 : Cond.constantLong RX12 283 (-9223372036854775808) ∈ tw := tw_in 1443 (by decide +kernel) rfl
theorem cl_X12_292 : Cond.constantLong RX12 292 (-2) ∈ tw := tw_in 1479 (by decide +kernel) rfl
theorem cl_X12_301 : Cond.constantLong RX12 301 (1728) ∈ tw := tw_in 1491 (by decide +kernel) rfl
theorem cl_X12_333 : Cond.constantLong RX12 333 (1000000000) ∈ tw := tw_in 1555 (by decide +kernel) rfl
theorem sZ0 {X : Xt} (U : State) (h : En X U) : va_Z "StoneInLentils$Numbers" "LEAST" "[I" (.ref (xa X 100)) (AX X) U U.heap := h.2.1.1.1
theorem sT0 {X : Xt} (U : State) (h : En X U) : va_T .int (xa X 100) 12 (fun j => .int (tb0 j)) (AX X) U U.heap := h.2.1.1.2
theorem sZ1 {X : Xt} (U : State) (h : En X U) : va_Z "StoneInLentils$Numbers" "GREATEST" "[I" (.ref (xa X 101)) (AX X) U U.heap := h.2.1.2.1.1
theorem sT1 {X : Xt} (U : State) (h : En X U) : va_T .int (xa X 101) 12 (fun j => .int (tb1 j)) (AX X) U U.heap := h.2.1.2.1.2
theorem sZ2 {X : Xt} (U : State) (h : En X U) : va_Z "StoneInLentils$Chances" "CHOOSE" "[I" (.ref (xa X 102)) (AX X) U U.heap := h.2.1.2.2.1.1
theorem sT2 {X : Xt} (U : State) (h : En X U) : va_T .int (xa X 102) 16 (fun j => .int (tb2 j)) (AX X) U U.heap := h.2.1.2.2.1.2
theorem sZ3 {X : Xt} (U : State) (h : En X U) : va_Z "StoneInLentils$Planner" "CUBES" "[J" (.ref (xa X 103)) (AX X) U U.heap := h.2.1.2.2.2.1.1
theorem sT3 {X : Xt} (U : State) (h : En X U) : va_T .long (xa X 103) 4 (fun j => .long (tb3 j)) (AX X) U U.heap := h.2.1.2.2.2.1.2
theorem sZ4 {X : Xt} (U : State) (h : En X U) : va_Z "StoneInLentils$Bodies" "ABOVE" "[I" (.ref (xa X 104)) (AX X) U U.heap := h.2.1.2.2.2.2.1.1
theorem sT4 {X : Xt} (U : State) (h : En X U) : va_T .int (xa X 104) 8 (fun j => .int (tb4 j)) (AX X) U U.heap := h.2.1.2.2.2.2.1.2
theorem sZ5 {X : Xt} (U : State) (h : En X U) : va_Z "StoneInLentils$Bodies" "OWN" "[I" (.ref (xa X 105)) (AX X) U U.heap := h.2.1.2.2.2.2.2.1
theorem sT5 {X : Xt} (U : State) (h : En X U) : va_T .int (xa X 105) 32 (fun j => .int (tb5 j)) (AX X) U U.heap := h.2.1.2.2.2.2.2.2
theorem ini_StoneInLentils : Cond.initialized "StoneInLentils" ∈ tw := tw_in 96 (by decide +kernel) rfl
theorem ini_StoneInLentils_Bodies : Cond.initialized "StoneInLentils$Bodies" ∈ tw := tw_in 106 (by decide +kernel) rfl
theorem ini_StoneInLentils_Chances : Cond.initialized "StoneInLentils$Chances" ∈ tw := tw_in 100 (by decide +kernel) rfl
theorem ini_StoneInLentils_Deeds : Cond.initialized "StoneInLentils$Deeds" ∈ tw := tw_in 105 (by decide +kernel) rfl
theorem ini_StoneInLentils_Draws : Cond.initialized "StoneInLentils$Draws" ∈ tw := tw_in 104 (by decide +kernel) rfl
theorem ini_StoneInLentils_Law : Cond.initialized "StoneInLentils$Law" ∈ tw := tw_in 98 (by decide +kernel) rfl
theorem ini_StoneInLentils_Looks : Cond.initialized "StoneInLentils$Looks" ∈ tw := tw_in 99 (by decide +kernel) rfl
theorem ini_StoneInLentils_Numbers : Cond.initialized "StoneInLentils$Numbers" ∈ tw := tw_in 97 (by decide +kernel) rfl
theorem ini_StoneInLentils_Parting : Cond.initialized "StoneInLentils$Parting" ∈ tw := tw_in 103 (by decide +kernel) rfl
theorem ini_StoneInLentils_Planner : Cond.initialized "StoneInLentils$Planner" ∈ tw := tw_in 101 (by decide +kernel) rfl
theorem ini_StoneInLentils_Shelf : Cond.initialized "StoneInLentils$Shelf" ∈ tw := tw_in 107 (by decide +kernel) rfl
theorem ini_StoneInLentils_Witness : Cond.initialized "StoneInLentils$Witness" ∈ tw := tw_in 102 (by decide +kernel) rfl
theorem ini_StoneInLentilsModel : Cond.initialized "StoneInLentilsModel" ∈ tw := tw_in 108 (by decide +kernel) rfl
theorem ini_java_lang_Integer : Cond.initialized "java/lang/Integer" ∈ tw := tw_in 111 (by decide +kernel) rfl
theorem ini_java_lang_Math : Cond.initialized "java/lang/Math" ∈ tw := tw_in 110 (by decide +kernel) rfl
theorem ini_java_lang_System : Cond.initialized "java/lang/System" ∈ tw := tw_in 109 (by decide +kernel) rfl
theorem ms_max : Cond.static Lib.Math.max.name ∈ tw := tw_in 648 (by decide +kernel) rfl
theorem mc_max : Cond.code Lib.Math.max.name Lib.Math.max.code 2 (some .int) ∈ tw := tw_in 649 (by decide +kernel) rfl
theorem ms_min : Cond.static Lib.Math.min.name ∈ tw := tw_in 645 (by decide +kernel) rfl
theorem mc_min : Cond.code Lib.Math.min.name Lib.Math.min.code 2 (some .int) ∈ tw := tw_in 646 (by decide +kernel) rfl
theorem ms_abs : Cond.static Lib.MathLoose.abs_long.x ∈ tw := tw_in 720 (by decide +kernel) rfl
theorem mc_abs : Cond.code Lib.MathLoose.abs_long.x Lib.MathLoose.abs_long.code 2 (some .long) ∈ tw := tw_in 721 (by decide +kernel) rfl
theorem mi_Math : Cond.initialized "java/lang/Math" ∈ tw := ini_java_lang_Math
theorem lk_X11_93 : LkV RX11 93 m_X6_mayBe 2 := ⟨tw_in 467 (by decide +kernel) rfl, tw_in 468 (by decide +kernel) rfl, tw_in 469 (by decide +kernel) rfl, ini_StoneInLentils_Numbers, cw_X6_mayBe, ⟨by decide +kernel, by decide +kernel⟩, by decide +kernel⟩
theorem lk_X11_97 : LkV RX11 97 m_X6_addLooker 2 := ⟨tw_in 475 (by decide +kernel) rfl, tw_in 476 (by decide +kernel) rfl, tw_in 477 (by decide +kernel) rfl, ini_StoneInLentils_Numbers, cw_X6_addLooker, ⟨by decide +kernel, by decide +kernel⟩, by decide +kernel⟩
theorem lk_X11_101 : LkS RX11 101 m_X11_isShelf 1 := ⟨tw_in 483 (by decide +kernel) rfl, tw_in 484 (by decide +kernel) rfl, ini_StoneInLentils, cw_X11_isShelf, ⟨by decide +kernel, by decide +kernel⟩, by decide +kernel⟩
theorem lk_X11_105 : LkV RX11 105 m_X9_isEmpty 0 := ⟨tw_in 486 (by decide +kernel) rfl, tw_in 487 (by decide +kernel) rfl, tw_in 488 (by decide +kernel) rfl, ini_StoneInLentils_Shelf, cw_X9_isEmpty, ⟨by decide +kernel, by decide +kernel⟩, by decide +kernel⟩
theorem lk_X11_109 : LkV RX11 109 m_X9_isBytes 0 := ⟨tw_in 490 (by decide +kernel) rfl, tw_in 491 (by decide +kernel) rfl, tw_in 492 (by decide +kernel) rfl, ini_StoneInLentils_Shelf, cw_X9_isBytes, ⟨by decide +kernel, by decide +kernel⟩, by decide +kernel⟩
theorem lk_X11_112 : LkV RX11 112 m_X11_cameFrom 3 := ⟨tw_in 494 (by decide +kernel) rfl, tw_in 496 (by decide +kernel) rfl, tw_in 0 (by decide +kernel) rfl, ini_StoneInLentils, cw_X11_cameFrom, ⟨by decide +kernel, by decide +kernel⟩, by decide +kernel⟩
theorem lk_X11_116 : LkV RX11 116 m_X6_slotOf 2 := ⟨tw_in 515 (by decide +kernel) rfl, tw_in 516 (by decide +kernel) rfl, tw_in 517 (by decide +kernel) rfl, ini_StoneInLentils_Numbers, cw_X6_slotOf, ⟨by decide +kernel, by decide +kernel⟩, by decide +kernel⟩
theorem lk_X11_119 : LkV RX11 119 m_X6_become 2 := ⟨tw_in 526 (by decide +kernel) rfl, tw_in 527 (by decide +kernel) rfl, tw_in 528 (by decide +kernel) rfl, ini_StoneInLentils_Numbers, cw_X6_become, ⟨by decide +kernel, by decide +kernel⟩, by decide +kernel⟩
theorem lk_X11_122 : LkV RX11 122 m_X6_get 2 := ⟨tw_in 541 (by decide +kernel) rfl, tw_in 542 (by decide +kernel) rfl, tw_in 543 (by decide +kernel) rfl, ini_StoneInLentils_Numbers, cw_X6_get, ⟨by decide +kernel, by decide +kernel⟩, by decide +kernel⟩
theorem lk_X11_125 : LkV RX11 125 m_X4_isFull 0 := ⟨tw_in 550 (by decide +kernel) rfl, tw_in 551 (by decide +kernel) rfl, tw_in 552 (by decide +kernel) rfl, ini_StoneInLentils_Law, cw_X4_isFull, ⟨by decide +kernel, by decide +kernel⟩, by decide +kernel⟩
theorem lk_X11_128 : LkV RX11 128 m_X4_add 1 := ⟨tw_in 554 (by decide +kernel) rfl, tw_in 555 (by decide +kernel) rfl, tw_in 556 (by decide +kernel) rfl, ini_StoneInLentils_Law, cw_X4_add, ⟨by decide +kernel, by decide +kernel⟩, by decide +kernel⟩
theorem lk_X11_132 : LkV RX11 132 m_X4_takeTape 0 := ⟨tw_in 562 (by decide +kernel) rfl, tw_in 563 (by decide +kernel) rfl, tw_in 564 (by decide +kernel) rfl, ini_StoneInLentils_Law, cw_X4_takeTape, ⟨by decide +kernel, by decide +kernel⟩, by decide +kernel⟩
theorem lk_X11_136 : LkV RX11 136 m_X6_isLooker 1 := ⟨tw_in 612 (by decide +kernel) rfl, tw_in 523 (by decide +kernel) rfl, tw_in 524 (by decide +kernel) rfl, ini_StoneInLentils_Numbers, cw_X6_isLooker, ⟨by decide +kernel, by decide +kernel⟩, by decide +kernel⟩
theorem lk_X11_139 : LkV RX11 139 m_X11_twelfths 2 := ⟨tw_in 613 (by decide +kernel) rfl, tw_in 615 (by decide +kernel) rfl, tw_in 10 (by decide +kernel) rfl, ini_StoneInLentils, cw_X11_twelfths, ⟨by decide +kernel, by decide +kernel⟩, by decide +kernel⟩
theorem lk_X11_142 : LkV RX11 142 m_X11_isThinkable 2 := ⟨tw_in 654 (by decide +kernel) rfl, tw_in 656 (by decide +kernel) rfl, tw_in 15 (by decide +kernel) rfl, ini_StoneInLentils, cw_X11_isThinkable, ⟨by decide +kernel, by decide +kernel⟩, by decide +kernel⟩
theorem lk_X11_145 : LkS RX11 145 m_X11_isPart 1 := ⟨tw_in 659 (by decide +kernel) rfl, tw_in 660 (by decide +kernel) rfl, ini_StoneInLentils, cw_X11_isPart, ⟨by decide +kernel, by decide +kernel⟩, by decide +kernel⟩
theorem lk_X11_150 : LkV RX11 150 m_X11_think 2 := ⟨tw_in 663 (by decide +kernel) rfl, tw_in 665 (by decide +kernel) rfl, tw_in 16 (by decide +kernel) rfl, ini_StoneInLentils, cw_X11_think, ⟨by decide +kernel, by decide +kernel⟩, by decide +kernel⟩
theorem lk_X11_153 : LkV RX11 153 m_X1_all 1 := ⟨tw_in 710 (by decide +kernel) rfl, tw_in 687 (by decide +kernel) rfl, tw_in 688 (by decide +kernel) rfl, ini_StoneInLentils_Chances, cw_X1_all, ⟨by decide +kernel, by decide +kernel⟩, by decide +kernel⟩
theorem lk_X11_159 : LkV RX11 159 m_X1_at 2 := ⟨tw_in 712 (by decide +kernel) rfl, tw_in 713 (by decide +kernel) rfl, tw_in 714 (by decide +kernel) rfl, ini_StoneInLentils_Chances, cw_X1_at, ⟨by decide +kernel, by decide +kernel⟩, by decide +kernel⟩
theorem lk_X11_163 : LkS RX11 163 m_X11_inLowest 3 := ⟨tw_in 716 (by decide +kernel) rfl, tw_in 717 (by decide +kernel) rfl, ini_StoneInLentils, cw_X11_inLowest, ⟨by decide +kernel, by decide +kernel⟩, by decide +kernel⟩
theorem lk_X11_167 : LkV RX11 167 m_X1_allAhead 1 := ⟨tw_in 726 (by decide +kernel) rfl, tw_in 727 (by decide +kernel) rfl, tw_in 728 (by decide +kernel) rfl, ini_StoneInLentils_Chances, cw_X1_allAhead, ⟨by decide +kernel, by decide +kernel⟩, by decide +kernel⟩
theorem lk_X11_170 : LkV RX11 170 m_X1_stones 1 := ⟨tw_in 731 (by decide +kernel) rfl, tw_in 732 (by decide +kernel) rfl, tw_in 733 (by decide +kernel) rfl, ini_StoneInLentils_Chances, cw_X1_stones, ⟨by decide +kernel, by decide +kernel⟩, by decide +kernel⟩
theorem lk_X11_173 : LkV RX11 173 m_X11_gain 2 := ⟨tw_in 741 (by decide +kernel) rfl, tw_in 743 (by decide +kernel) rfl, tw_in 18 (by decide +kernel) rfl, ini_StoneInLentils, cw_X11_gain, ⟨by decide +kernel, by decide +kernel⟩, by decide +kernel⟩
theorem lk_X11_178 : LkS RX11 178 m_X11_isBag 1 := ⟨tw_in 658 (by decide +kernel) rfl, tw_in 520 (by decide +kernel) rfl, ini_StoneInLentils, cw_X11_isBag, ⟨by decide +kernel, by decide +kernel⟩, by decide +kernel⟩
theorem lk_X11_181 : LkV RX11 181 m_X9_refusalAsBytes 0 := ⟨tw_in 750 (by decide +kernel) rfl, tw_in 751 (by decide +kernel) rfl, tw_in 752 (by decide +kernel) rfl, ini_StoneInLentils_Shelf, cw_X9_refusalAsBytes, ⟨by decide +kernel, by decide +kernel⟩, by decide +kernel⟩
theorem lk_X11_184 : LkV RX11 184 m_X11_tellPlanner 0 := ⟨tw_in 760 (by decide +kernel) rfl, tw_in 762 (by decide +kernel) rfl, tw_in 19 (by decide +kernel) rfl, ini_StoneInLentils, cw_X11_tellPlanner, ⟨by decide +kernel, by decide +kernel⟩, by decide +kernel⟩
theorem lk_X11_187 : LkV RX11 187 m_X11_leastFor 2 := ⟨tw_in 768 (by decide +kernel) rfl, tw_in 770 (by decide +kernel) rfl, tw_in 21 (by decide +kernel) rfl, ini_StoneInLentils, cw_X11_leastFor, ⟨by decide +kernel, by decide +kernel⟩, by decide +kernel⟩
theorem lk_X11_197 : LkS RX11 197 m_X11_areLists 1 := ⟨tw_in 801 (by decide +kernel) rfl, tw_in 802 (by decide +kernel) rfl, ini_StoneInLentils, cw_X11_areLists, ⟨by decide +kernel, by decide +kernel⟩, by decide +kernel⟩
theorem lk_X11_200 : LkS RX11 200 m_X11_isPutIn 1 := ⟨tw_in 812 (by decide +kernel) rfl, tw_in 813 (by decide +kernel) rfl, ini_StoneInLentils, cw_X11_isPutIn, ⟨by decide +kernel, by decide +kernel⟩, by decide +kernel⟩
theorem lk_X11_203 : LkS RX11 203 m_X11_likeliestTwelfths 2 := ⟨tw_in 815 (by decide +kernel) rfl, tw_in 816 (by decide +kernel) rfl, ini_StoneInLentils, cw_X11_likeliestTwelfths, ⟨by decide +kernel, by decide +kernel⟩, by decide +kernel⟩
theorem ml_X11_206 : Cond.methodLink RX11 206 Lib.Math.min.name ∈ tw := tw_in 644 (by decide +kernel) rfl
theorem lk_X11_211 : LkS RX11 211 m_X11_falling 3 := ⟨tw_in 833 (by decide +kernel) rfl, tw_in 834 (by decide +kernel) rfl, ini_StoneInLentils, cw_X11_falling, ⟨by decide +kernel, by decide +kernel⟩, by decide +kernel⟩
theorem lk_X11_218 : LkV RX11 218 m_X11_fillParting 2 := ⟨tw_in 840 (by decide +kernel) rfl, tw_in 842 (by decide +kernel) rfl, tw_in 24 (by decide +kernel) rfl, ini_StoneInLentils, cw_X11_fillParting, ⟨by decide +kernel, by decide +kernel⟩, by decide +kernel⟩
theorem lk_X11_222 : LkV RX11 222 m_X7_search 2 := ⟨tw_in 853 (by decide +kernel) rfl, tw_in 854 (by decide +kernel) rfl, tw_in 855 (by decide +kernel) rfl, ini_StoneInLentils_Parting, cw_X7_search, ⟨by decide +kernel, by decide +kernel⟩, by decide +kernel⟩
theorem lk_X11_230 : LkV RX11 230 m_X7_heapsOf 1 := ⟨tw_in 861 (by decide +kernel) rfl, tw_in 862 (by decide +kernel) rfl, tw_in 863 (by decide +kernel) rfl, ini_StoneInLentils_Parting, cw_X7_heapsOf, ⟨by decide +kernel, by decide +kernel⟩, by decide +kernel⟩
theorem lk_X11_237 : LkV RX11 237 m_X11_fillShares 1 := ⟨tw_in 764 (by decide +kernel) rfl, tw_in 766 (by decide +kernel) rfl, tw_in 20 (by decide +kernel) rfl, ini_StoneInLentils, cw_X11_fillShares, ⟨by decide +kernel, by decide +kernel⟩, by decide +kernel⟩
theorem lk_X11_242 : LkV RX11 242 m_X1_begin 2 := ⟨tw_in 681 (by decide +kernel) rfl, tw_in 682 (by decide +kernel) rfl, tw_in 683 (by decide +kernel) rfl, ini_StoneInLentils_Chances, cw_X1_begin, ⟨by decide +kernel, by decide +kernel⟩, by decide +kernel⟩
theorem lk_X11_246 : LkV RX11 246 m_X10_hear 2 := ⟨tw_in 869 (by decide +kernel) rfl, tw_in 870 (by decide +kernel) rfl, tw_in 871 (by decide +kernel) rfl, ini_StoneInLentils_Witness, cw_X10_hear, ⟨by decide +kernel, by decide +kernel⟩, by decide +kernel⟩
theorem lk_X11_253 : LkV RX11 253 m_X10_sureBy 1 := ⟨tw_in 895 (by decide +kernel) rfl, tw_in 896 (by decide +kernel) rfl, tw_in 897 (by decide +kernel) rfl, ini_StoneInLentils_Witness, cw_X10_sureBy, ⟨by decide +kernel, by decide +kernel⟩, by decide +kernel⟩
theorem lk_X11_256 : LkV RX11 256 m_X10_most 1 := ⟨tw_in 905 (by decide +kernel) rfl, tw_in 906 (by decide +kernel) rfl, tw_in 907 (by decide +kernel) rfl, ini_StoneInLentils_Witness, cw_X10_most, ⟨by decide +kernel, by decide +kernel⟩, by decide +kernel⟩
theorem lk_X11_259 : LkV RX11 259 m_X5_read 3 := ⟨tw_in 667 (by decide +kernel) rfl, tw_in 668 (by decide +kernel) rfl, tw_in 669 (by decide +kernel) rfl, ini_StoneInLentils_Looks, cw_X5_read, ⟨by decide +kernel, by decide +kernel⟩, by decide +kernel⟩
theorem lk_X11_266 : LkV RX11 266 m_X11_stillInOneMore 1 := ⟨tw_in 913 (by decide +kernel) rfl, tw_in 915 (by decide +kernel) rfl, tw_in 30 (by decide +kernel) rfl, ini_StoneInLentils, cw_X11_stillInOneMore, ⟨by decide +kernel, by decide +kernel⟩, by decide +kernel⟩
theorem lk_X11_272 : LkV RX11 272 m_X5_by 1 := ⟨tw_in 693 (by decide +kernel) rfl, tw_in 694 (by decide +kernel) rfl, tw_in 695 (by decide +kernel) rfl, ini_StoneInLentils_Looks, cw_X5_by, ⟨by decide +kernel, by decide +kernel⟩, by decide +kernel⟩
theorem lk_X11_278 : LkV RX11 278 m_X3_stones 2 := ⟨tw_in 917 (by decide +kernel) rfl, tw_in 918 (by decide +kernel) rfl, tw_in 919 (by decide +kernel) rfl, ini_StoneInLentils_Draws, cw_X3_stones, ⟨by decide +kernel, by decide +kernel⟩, by decide +kernel⟩
theorem lk_X11_281 : LkV RX11 281 m_X2_begin 2 := ⟨tw_in 935 (by decide +kernel) rfl, tw_in 936 (by decide +kernel) rfl, tw_in 937 (by decide +kernel) rfl, ini_StoneInLentils_Deeds, cw_X2_begin, ⟨by decide +kernel, by decide +kernel⟩, by decide +kernel⟩
theorem lk_X11_289 : LkV RX11 289 m_X3_found 2 := ⟨tw_in 927 (by decide +kernel) rfl, tw_in 928 (by decide +kernel) rfl, tw_in 929 (by decide +kernel) rfl, ini_StoneInLentils_Draws, cw_X3_found, ⟨by decide +kernel, by decide +kernel⟩, by decide +kernel⟩
theorem lk_X11_292 : LkV RX11 292 m_X2_addLook 3 := ⟨tw_in 943 (by decide +kernel) rfl, tw_in 944 (by decide +kernel) rfl, tw_in 945 (by decide +kernel) rfl, ini_StoneInLentils_Deeds, cw_X2_addLook, ⟨by decide +kernel, by decide +kernel⟩, by decide +kernel⟩
theorem lk_X11_296 : LkV RX11 296 m_X2_end 1 := ⟨tw_in 951 (by decide +kernel) rfl, tw_in 952 (by decide +kernel) rfl, tw_in 953 (by decide +kernel) rfl, ini_StoneInLentils_Deeds, cw_X2_end, ⟨by decide +kernel, by decide +kernel⟩, by decide +kernel⟩
theorem lk_X11_312 : LkV RX11 312 m_X2_become 1 := ⟨tw_in 963 (by decide +kernel) rfl, tw_in 964 (by decide +kernel) rfl, tw_in 965 (by decide +kernel) rfl, ini_StoneInLentils_Deeds, cw_X2_become, ⟨by decide +kernel, by decide +kernel⟩, by decide +kernel⟩
theorem lk_X11_318 : LkV RX11 318 m_X6_stepBack 0 := ⟨tw_in 975 (by decide +kernel) rfl, tw_in 976 (by decide +kernel) rfl, tw_in 977 (by decide +kernel) rfl, ini_StoneInLentils_Numbers, cw_X6_stepBack, ⟨by decide +kernel, by decide +kernel⟩, by decide +kernel⟩
theorem lk_X11_324 : LkV RX11 324 m_X6_stepOn 0 := ⟨tw_in 983 (by decide +kernel) rfl, tw_in 984 (by decide +kernel) rfl, tw_in 985 (by decide +kernel) rfl, ini_StoneInLentils_Numbers, cw_X6_stepOn, ⟨by decide +kernel, by decide +kernel⟩, by decide +kernel⟩
theorem lk_X11_327 : LkS RX11 327 m_X0_isKind 1 := ⟨tw_in 991 (by decide +kernel) rfl, tw_in 992 (by decide +kernel) rfl, ini_StoneInLentils_Bodies, cw_X0_isKind, ⟨by decide +kernel, by decide +kernel⟩, by decide +kernel⟩
theorem lk_X11_330 : LkV RX11 330 m_X0_add 1 := ⟨tw_in 994 (by decide +kernel) rfl, tw_in 995 (by decide +kernel) rfl, tw_in 996 (by decide +kernel) rfl, ini_StoneInLentils_Bodies, cw_X0_add, ⟨by decide +kernel, by decide +kernel⟩, by decide +kernel⟩
theorem lk_X11_331 : LkV RX11 331 m_X0_forget 0 := ⟨tw_in 1002 (by decide +kernel) rfl, tw_in 1003 (by decide +kernel) rfl, tw_in 1004 (by decide +kernel) rfl, ini_StoneInLentils_Bodies, cw_X0_forget, ⟨by decide +kernel, by decide +kernel⟩, by decide +kernel⟩
theorem lk_X11_334 : LkV RX11 334 m_X0_has 1 := ⟨tw_in 1006 (by decide +kernel) rfl, tw_in 1007 (by decide +kernel) rfl, tw_in 1008 (by decide +kernel) rfl, ini_StoneInLentils_Bodies, cw_X0_has, ⟨by decide +kernel, by decide +kernel⟩, by decide +kernel⟩
theorem lk_X11_337 : LkV RX11 337 m_X0_perform 3 := ⟨tw_in 1010 (by decide +kernel) rfl, tw_in 1011 (by decide +kernel) rfl, tw_in 1012 (by decide +kernel) rfl, ini_StoneInLentils_Bodies, cw_X0_perform, ⟨by decide +kernel, by decide +kernel⟩, by decide +kernel⟩
theorem lk_X11_344 : LkV RX11 344 m_X0_traced 1 := ⟨tw_in 1048 (by decide +kernel) rfl, tw_in 1049 (by decide +kernel) rfl, tw_in 1050 (by decide +kernel) rfl, ini_StoneInLentils_Bodies, cw_X0_traced, ⟨by decide +kernel, by decide +kernel⟩, by decide +kernel⟩
theorem lk_X11_347 : LkV RX11 347 m_X9_holdNothing 0 := ⟨tw_in 1056 (by decide +kernel) rfl, tw_in 1057 (by decide +kernel) rfl, tw_in 1058 (by decide +kernel) rfl, ini_StoneInLentils_Shelf, cw_X9_holdNothing, ⟨by decide +kernel, by decide +kernel⟩, by decide +kernel⟩
theorem lk_X11_350 : LkV RX11 350 m_X9_holdBody 1 := ⟨tw_in 1060 (by decide +kernel) rfl, tw_in 1061 (by decide +kernel) rfl, tw_in 1062 (by decide +kernel) rfl, ini_StoneInLentils_Shelf, cw_X9_holdBody, ⟨by decide +kernel, by decide +kernel⟩, by decide +kernel⟩
theorem lk_X11_354 : LkV RX11 354 m_X9_holdRow 2 := ⟨tw_in 1068 (by decide +kernel) rfl, tw_in 1069 (by decide +kernel) rfl, tw_in 1070 (by decide +kernel) rfl, ini_StoneInLentils_Shelf, cw_X9_holdRow, ⟨by decide +kernel, by decide +kernel⟩, by decide +kernel⟩
theorem lk_X11_357 : LkV RX11 357 m_X9_isRow 0 := ⟨tw_in 1076 (by decide +kernel) rfl, tw_in 1077 (by decide +kernel) rfl, tw_in 1078 (by decide +kernel) rfl, ini_StoneInLentils_Shelf, cw_X9_isRow, ⟨by decide +kernel, by decide +kernel⟩, by decide +kernel⟩
theorem lk_X11_360 : LkV RX11 360 m_X9_hasPlace 1 := ⟨tw_in 498 (by decide +kernel) rfl, tw_in 499 (by decide +kernel) rfl, tw_in 500 (by decide +kernel) rfl, ini_StoneInLentils_Shelf, cw_X9_hasPlace, ⟨by decide +kernel, by decide +kernel⟩, by decide +kernel⟩
theorem lk_X11_363 : LkV RX11 363 m_X9_write 2 := ⟨tw_in 1080 (by decide +kernel) rfl, tw_in 1081 (by decide +kernel) rfl, tw_in 1082 (by decide +kernel) rfl, ini_StoneInLentils_Shelf, cw_X9_write, ⟨by decide +kernel, by decide +kernel⟩, by decide +kernel⟩
theorem lk_X11_367 : LkV RX11 367 m_X9_read 1 := ⟨tw_in 506 (by decide +kernel) rfl, tw_in 507 (by decide +kernel) rfl, tw_in 508 (by decide +kernel) rfl, ini_StoneInLentils_Shelf, cw_X9_read, ⟨by decide +kernel, by decide +kernel⟩, by decide +kernel⟩
theorem lk_X11_372 : LkV RX11 372 m_X9_hasPlaces 2 := ⟨tw_in 502 (by decide +kernel) rfl, tw_in 503 (by decide +kernel) rfl, tw_in 504 (by decide +kernel) rfl, ini_StoneInLentils_Shelf, cw_X9_hasPlaces, ⟨by decide +kernel, by decide +kernel⟩, by decide +kernel⟩
theorem lk_X11_375 : LkV RX11 375 m_X9_copyTo 4 := ⟨tw_in 1096 (by decide +kernel) rfl, tw_in 1097 (by decide +kernel) rfl, tw_in 1098 (by decide +kernel) rfl, ini_StoneInLentils_Shelf, cw_X9_copyTo, ⟨by decide +kernel, by decide +kernel⟩, by decide +kernel⟩
theorem lk_X11_382 : LkV RX11 382 m_X0_kindOf 1 := ⟨tw_in 1106 (by decide +kernel) rfl, tw_in 1019 (by decide +kernel) rfl, tw_in 1020 (by decide +kernel) rfl, ini_StoneInLentils_Bodies, cw_X0_kindOf, ⟨by decide +kernel, by decide +kernel⟩, by decide +kernel⟩
theorem lk_X11_385 : LkS RX11 385 m_X0_isUnder 2 := ⟨tw_in 1107 (by decide +kernel) rfl, tw_in 1108 (by decide +kernel) rfl, ini_StoneInLentils_Bodies, cw_X0_isUnder, ⟨by decide +kernel, by decide +kernel⟩, by decide +kernel⟩
theorem ml_X11_392 : Cond.methodLink RX11 392 Lib.MathLoose.abs_long.x ∈ tw := tw_in 719 (by decide +kernel) rfl
theorem lk_X11_396 : LkS RX11 396 m_X11_isLikelier 4 := ⟨tw_in 818 (by decide +kernel) rfl, tw_in 819 (by decide +kernel) rfl, ini_StoneInLentils, cw_X11_isLikelier, ⟨by decide +kernel, by decide +kernel⟩, by decide +kernel⟩
theorem lk_X11_400 : LkS RX11 400 m_X11_limbOf 4 := ⟨tw_in 821 (by decide +kernel) rfl, tw_in 822 (by decide +kernel) rfl, ini_StoneInLentils, cw_X11_limbOf, ⟨by decide +kernel, by decide +kernel⟩, by decide +kernel⟩
theorem lk_X11_406 : LkV RX11 406 m_X11_twelfthsIn 3 := ⟨tw_in 617 (by decide +kernel) rfl, tw_in 619 (by decide +kernel) rfl, tw_in 11 (by decide +kernel) rfl, ini_StoneInLentils, cw_X11_twelfthsIn, ⟨by decide +kernel, by decide +kernel⟩, by decide +kernel⟩
theorem lk_X11_409 : LkV RX11 409 m_X4_isTold 0 := ⟨tw_in 621 (by decide +kernel) rfl, tw_in 622 (by decide +kernel) rfl, tw_in 623 (by decide +kernel) rfl, ini_StoneInLentils_Law, cw_X4_isTold, ⟨by decide +kernel, by decide +kernel⟩, by decide +kernel⟩
theorem lk_X11_412 : LkV RX11 412 m_X4_workOut 6 := ⟨tw_in 625 (by decide +kernel) rfl, tw_in 626 (by decide +kernel) rfl, tw_in 627 (by decide +kernel) rfl, ini_StoneInLentils_Law, cw_X4_workOut, ⟨by decide +kernel, by decide +kernel⟩, by decide +kernel⟩
theorem ml_X11_416 : Cond.methodLink RX11 416 Lib.Math.max.name ∈ tw := tw_in 647 (by decide +kernel) rfl
theorem lk_X11_426 : LkV RX11 426 m_X8_leastOf 1 := ⟨tw_in 772 (by decide +kernel) rfl, tw_in 773 (by decide +kernel) rfl, tw_in 774 (by decide +kernel) rfl, ini_StoneInLentils_Planner, cw_X8_leastOf, ⟨by decide +kernel, by decide +kernel⟩, by decide +kernel⟩
theorem lk_X11_429 : LkV RX11 429 m_X7_tell 3 := ⟨tw_in 844 (by decide +kernel) rfl, tw_in 845 (by decide +kernel) rfl, tw_in 846 (by decide +kernel) rfl, ini_StoneInLentils_Parting, cw_X7_tell, ⟨by decide +kernel, by decide +kernel⟩, by decide +kernel⟩
theorem lk_X11_432 : LkV RX11 432 m_X7_add 3 := ⟨tw_in 848 (by decide +kernel) rfl, tw_in 849 (by decide +kernel) rfl, tw_in 850 (by decide +kernel) rfl, ini_StoneInLentils_Parting, cw_X7_add, ⟨by decide +kernel, by decide +kernel⟩, by decide +kernel⟩
theorem lk_X11_434 : LkV RX11 434 m_X5_found 1 := ⟨tw_in 697 (by decide +kernel) rfl, tw_in 698 (by decide +kernel) rfl, tw_in 699 (by decide +kernel) rfl, ini_StoneInLentils_Looks, cw_X5_found, ⟨by decide +kernel, by decide +kernel⟩, by decide +kernel⟩
theorem lk_X11_436 : LkV RX11 436 m_X1_step 3 := ⟨tw_in 701 (by decide +kernel) rfl, tw_in 702 (by decide +kernel) rfl, tw_in 703 (by decide +kernel) rfl, ini_StoneInLentils_Chances, cw_X1_step, ⟨by decide +kernel, by decide +kernel⟩, by decide +kernel⟩
theorem lk_X0_28 : LkS RX0 28 m_X0_isKind 1 := ⟨tw_in 1027 (by decide +kernel) rfl, tw_in 992 (by decide +kernel) rfl, ini_StoneInLentils_Bodies, cw_X0_isKind, ⟨by decide +kernel, by decide +kernel⟩, by decide +kernel⟩
theorem lk_X0_35 : LkV RX0 35 m_X0_has 1 := ⟨tw_in 1022 (by decide +kernel) rfl, tw_in 1007 (by decide +kernel) rfl, tw_in 1008 (by decide +kernel) rfl, ini_StoneInLentils_Bodies, cw_X0_has, ⟨by decide +kernel, by decide +kernel⟩, by decide +kernel⟩
theorem lk_X0_38 : LkV RX0 38 m_X0_own 3 := ⟨tw_in 1014 (by decide +kernel) rfl, tw_in 1016 (by decide +kernel) rfl, tw_in 32 (by decide +kernel) rfl, ini_StoneInLentils_Bodies, cw_X0_own, ⟨by decide +kernel, by decide +kernel⟩, by decide +kernel⟩
theorem lk_X0_42 : LkV RX0 42 m_X0_kindOf 1 := ⟨tw_in 1018 (by decide +kernel) rfl, tw_in 1019 (by decide +kernel) rfl, tw_in 1020 (by decide +kernel) rfl, ini_StoneInLentils_Bodies, cw_X0_kindOf, ⟨by decide +kernel, by decide +kernel⟩, by decide +kernel⟩
theorem lk_X0_46 : LkV RX0 46 m_X0_from 4 := ⟨tw_in 1023 (by decide +kernel) rfl, tw_in 1025 (by decide +kernel) rfl, tw_in 33 (by decide +kernel) rfl, ini_StoneInLentils_Bodies, cw_X0_from, ⟨by decide +kernel, by decide +kernel⟩, by decide +kernel⟩
theorem lk_X0_53 : LkV RX0 53 m_X0_note 1 := ⟨tw_in 1032 (by decide +kernel) rfl, tw_in 1034 (by decide +kernel) rfl, tw_in 34 (by decide +kernel) rfl, ini_StoneInLentils_Bodies, cw_X0_note, ⟨by decide +kernel, by decide +kernel⟩, by decide +kernel⟩
theorem lk_X0_57 : LkV RX0 57 m_X0_atTop 3 := ⟨tw_in 1036 (by decide +kernel) rfl, tw_in 1038 (by decide +kernel) rfl, tw_in 35 (by decide +kernel) rfl, ini_StoneInLentils_Bodies, cw_X0_atTop, ⟨by decide +kernel, by decide +kernel⟩, by decide +kernel⟩
theorem lk_X0_60 : LkV RX0 60 m_X0_below 4 := ⟨tw_in 1040 (by decide +kernel) rfl, tw_in 1042 (by decide +kernel) rfl, tw_in 36 (by decide +kernel) rfl, ini_StoneInLentils_Bodies, cw_X0_below, ⟨by decide +kernel, by decide +kernel⟩, by decide +kernel⟩
theorem lk_X1_15 : LkV RX1 15 m_X6_get 2 := ⟨tw_in 685 (by decide +kernel) rfl, tw_in 542 (by decide +kernel) rfl, tw_in 543 (by decide +kernel) rfl, ini_StoneInLentils_Numbers, cw_X6_get, ⟨by decide +kernel, by decide +kernel⟩, by decide +kernel⟩
theorem lk_X1_21 : LkV RX1 21 m_X1_all 1 := ⟨tw_in 686 (by decide +kernel) rfl, tw_in 687 (by decide +kernel) rfl, tw_in 688 (by decide +kernel) rfl, ini_StoneInLentils_Chances, cw_X1_all, ⟨by decide +kernel, by decide +kernel⟩, by decide +kernel⟩
theorem lk_X1_29 : LkS RX1 29 m_X1_power 2 := ⟨tw_in 707 (by decide +kernel) rfl, tw_in 708 (by decide +kernel) rfl, ini_StoneInLentils_Chances, cw_X1_power, ⟨by decide +kernel, by decide +kernel⟩, by decide +kernel⟩
theorem lk_X1_33 : LkS RX1 33 m_X1_isLevel 1 := ⟨tw_in 690 (by decide +kernel) rfl, tw_in 691 (by decide +kernel) rfl, ini_StoneInLentils_Chances, cw_X1_isLevel, ⟨by decide +kernel, by decide +kernel⟩, by decide +kernel⟩
theorem lk_X3_16 : LkV RX3 16 m_X6_get 2 := ⟨tw_in 921 (by decide +kernel) rfl, tw_in 542 (by decide +kernel) rfl, tw_in 543 (by decide +kernel) rfl, ini_StoneInLentils_Numbers, cw_X6_get, ⟨by decide +kernel, by decide +kernel⟩, by decide +kernel⟩
theorem lk_X3_22 : LkV RX3 22 m_X3_draw 1 := ⟨tw_in 922 (by decide +kernel) rfl, tw_in 924 (by decide +kernel) rfl, tw_in 31 (by decide +kernel) rfl, ini_StoneInLentils_Draws, cw_X3_draw, ⟨by decide +kernel, by decide +kernel⟩, by decide +kernel⟩
theorem lk_X4_41 : LkV RX4 41 m_X4_readLines 0 := ⟨tw_in 566 (by decide +kernel) rfl, tw_in 568 (by decide +kernel) rfl, tw_in 2 (by decide +kernel) rfl, ini_StoneInLentils_Law, cw_X4_readLines, ⟨by decide +kernel, by decide +kernel⟩, by decide +kernel⟩
theorem lcp_X4_45 : LkC RX4 45 := ⟨tw_in 607 (by decide +kernel) rfl, tw_in 536 (by decide +kernel) rfl, tw_in 535 (by decide +kernel) rfl, ini_java_lang_System⟩
theorem lk_X4_51 : LkV RX4 51 m_X4_readLine 0 := ⟨tw_in 570 (by decide +kernel) rfl, tw_in 572 (by decide +kernel) rfl, tw_in 3 (by decide +kernel) rfl, ini_StoneInLentils_Law, cw_X4_readLine, ⟨by decide +kernel, by decide +kernel⟩, by decide +kernel⟩
theorem lk_X4_54 : LkV RX4 54 m_X4_passed 1 := ⟨tw_in 600 (by decide +kernel) rfl, tw_in 602 (by decide +kernel) rfl, tw_in 9 (by decide +kernel) rfl, ini_StoneInLentils_Law, cw_X4_passed, ⟨by decide +kernel, by decide +kernel⟩, by decide +kernel⟩
theorem lk_X4_58 : LkV RX4 58 m_X4_readLevel 2 := ⟨tw_in 574 (by decide +kernel) rfl, tw_in 576 (by decide +kernel) rfl, tw_in 4 (by decide +kernel) rfl, ini_StoneInLentils_Law, cw_X4_readLevel, ⟨by decide +kernel, by decide +kernel⟩, by decide +kernel⟩
theorem lk_X4_62 : LkV RX4 62 m_X4_write 2 := ⟨tw_in 593 (by decide +kernel) rfl, tw_in 595 (by decide +kernel) rfl, tw_in 8 (by decide +kernel) rfl, ini_StoneInLentils_Law, cw_X4_write, ⟨by decide +kernel, by decide +kernel⟩, by decide +kernel⟩
theorem lk_X4_66 : LkV RX4 66 m_X4_readOperand 1 := ⟨tw_in 578 (by decide +kernel) rfl, tw_in 580 (by decide +kernel) rfl, tw_in 5 (by decide +kernel) rfl, ini_StoneInLentils_Law, cw_X4_readOperand, ⟨by decide +kernel, by decide +kernel⟩, by decide +kernel⟩
theorem lk_X4_69 : LkV RX4 69 m_X4_letter 0 := ⟨tw_in 582 (by decide +kernel) rfl, tw_in 584 (by decide +kernel) rfl, tw_in 6 (by decide +kernel) rfl, ini_StoneInLentils_Law, cw_X4_letter, ⟨by decide +kernel, by decide +kernel⟩, by decide +kernel⟩
theorem lk_X4_73 : LkS RX4 73 m_X4_levelOf 1 := ⟨tw_in 604 (by decide +kernel) rfl, tw_in 605 (by decide +kernel) rfl, ini_StoneInLentils_Law, cw_X4_levelOf, ⟨by decide +kernel, by decide +kernel⟩, by decide +kernel⟩
theorem lk_X4_77 : LkS RX4 77 m_X4_isDigit 1 := ⟨tw_in 586 (by decide +kernel) rfl, tw_in 587 (by decide +kernel) rfl, ini_StoneInLentils_Law, cw_X4_isDigit, ⟨by decide +kernel, by decide +kernel⟩, by decide +kernel⟩
theorem lk_X4_80 : LkV RX4 80 m_X4_readNumber 0 := ⟨tw_in 589 (by decide +kernel) rfl, tw_in 591 (by decide +kernel) rfl, tw_in 7 (by decide +kernel) rfl, ini_StoneInLentils_Law, cw_X4_readNumber, ⟨by decide +kernel, by decide +kernel⟩, by decide +kernel⟩
theorem lk_X4_83 : LkS RX4 83 m_X4_nameOf 1 := ⟨tw_in 597 (by decide +kernel) rfl, tw_in 598 (by decide +kernel) rfl, ini_StoneInLentils_Law, cw_X4_nameOf, ⟨by decide +kernel, by decide +kernel⟩, by decide +kernel⟩
theorem lk_X4_86 : LkV RX4 86 m_X4_pop 0 := ⟨tw_in 629 (by decide +kernel) rfl, tw_in 631 (by decide +kernel) rfl, tw_in 12 (by decide +kernel) rfl, ini_StoneInLentils_Law, cw_X4_pop, ⟨by decide +kernel, by decide +kernel⟩, by decide +kernel⟩
theorem lk_X4_89 : LkV RX4 89 m_X4_run 2 := ⟨tw_in 633 (by decide +kernel) rfl, tw_in 635 (by decide +kernel) rfl, tw_in 13 (by decide +kernel) rfl, ini_StoneInLentils_Law, cw_X4_run, ⟨by decide +kernel, by decide +kernel⟩, by decide +kernel⟩
theorem lk_X4_92 : LkV RX4 92 m_X4_push 1 := ⟨tw_in 637 (by decide +kernel) rfl, tw_in 639 (by decide +kernel) rfl, tw_in 14 (by decide +kernel) rfl, ini_StoneInLentils_Law, cw_X4_push, ⟨by decide +kernel, by decide +kernel⟩, by decide +kernel⟩
theorem lk_X4_96 : LkS RX4 96 m_X4_joined 3 := ⟨tw_in 641 (by decide +kernel) rfl, tw_in 642 (by decide +kernel) rfl, ini_StoneInLentils_Law, cw_X4_joined, ⟨by decide +kernel, by decide +kernel⟩, by decide +kernel⟩
theorem lk_X5_22 : LkV RX5 22 m_X5_readTwo 3 := ⟨tw_in 671 (by decide +kernel) rfl, tw_in 673 (by decide +kernel) rfl, tw_in 17 (by decide +kernel) rfl, ini_StoneInLentils_Looks, cw_X5_readTwo, ⟨by decide +kernel, by decide +kernel⟩, by decide +kernel⟩
theorem lk_X5_26 : LkV RX5 26 m_X9_hasPlaces 2 := ⟨tw_in 675 (by decide +kernel) rfl, tw_in 503 (by decide +kernel) rfl, tw_in 504 (by decide +kernel) rfl, ini_StoneInLentils_Shelf, cw_X9_hasPlaces, ⟨by decide +kernel, by decide +kernel⟩, by decide +kernel⟩
theorem lk_X5_32 : LkV RX5 32 m_X9_read 1 := ⟨tw_in 676 (by decide +kernel) rfl, tw_in 507 (by decide +kernel) rfl, tw_in 508 (by decide +kernel) rfl, ini_StoneInLentils_Shelf, cw_X9_read, ⟨by decide +kernel, by decide +kernel⟩, by decide +kernel⟩
theorem lk_X5_36 : LkS RX5 36 m_X5_isFound 1 := ⟨tw_in 677 (by decide +kernel) rfl, tw_in 678 (by decide +kernel) rfl, ini_StoneInLentils_Looks, cw_X5_isFound, ⟨by decide +kernel, by decide +kernel⟩, by decide +kernel⟩
theorem lk_X6_40 (X : Xt) : LkN RX6 40 m_X11_isBag 1 "StoneInLentils" X := ⟨fun U h => h.2.2, tw_in 520 (by decide +kernel) rfl, ini_StoneInLentils, cw_X11_isBag, ⟨by decide +kernel, by decide +kernel⟩, by decide +kernel⟩
theorem lk_X6_44 : LkV RX6 44 m_X6_isLooker 1 := ⟨tw_in 522 (by decide +kernel) rfl, tw_in 523 (by decide +kernel) rfl, tw_in 524 (by decide +kernel) rfl, ini_StoneInLentils_Numbers, cw_X6_isLooker, ⟨by decide +kernel, by decide +kernel⟩, by decide +kernel⟩
theorem lk_X6_47 : LkV RX6 47 m_X6_slotOf 2 := ⟨tw_in 545 (by decide +kernel) rfl, tw_in 516 (by decide +kernel) rfl, tw_in 517 (by decide +kernel) rfl, ini_StoneInLentils_Numbers, cw_X6_slotOf, ⟨by decide +kernel, by decide +kernel⟩, by decide +kernel⟩
theorem lk_X6_51 : LkV RX6 51 m_X6_dropOldest 0 := ⟨tw_in 530 (by decide +kernel) rfl, tw_in 532 (by decide +kernel) rfl, tw_in 1 (by decide +kernel) rfl, ini_StoneInLentils_Numbers, cw_X6_dropOldest, ⟨by decide +kernel, by decide +kernel⟩, by decide +kernel⟩
theorem lcp_X6_54 : LkC RX6 54 := ⟨tw_in 534 (by decide +kernel) rfl, tw_in 536 (by decide +kernel) rfl, tw_in 535 (by decide +kernel) rfl, ini_java_lang_System⟩
theorem ml_X7_31 : Cond.methodLink RX7 31 Lib.Math.min.name ∈ tw := tw_in 852 (by decide +kernel) rfl
theorem lk_X7_37 : LkV RX7 37 m_X7_weigh 4 := ⟨tw_in 857 (by decide +kernel) rfl, tw_in 859 (by decide +kernel) rfl, tw_in 25 (by decide +kernel) rfl, ini_StoneInLentils_Parting, cw_X7_weigh, ⟨by decide +kernel, by decide +kernel⟩, by decide +kernel⟩
theorem ml_X8_35 : Cond.methodLink RX8 35 Lib.Math.min.name ∈ tw := tw_in 776 (by decide +kernel) rfl
theorem ml_X8_41 : Cond.methodLink RX8 41 Lib.Math.max.name ∈ tw := tw_in 777 (by decide +kernel) rfl
theorem lk_X8_44 : LkV RX8 44 m_X8_least 2 := ⟨tw_in 778 (by decide +kernel) rfl, tw_in 780 (by decide +kernel) rfl, tw_in 22 (by decide +kernel) rfl, ini_StoneInLentils_Planner, cw_X8_least, ⟨by decide +kernel, by decide +kernel⟩, by decide +kernel⟩
theorem lk_X8_48 : LkV RX8 48 m_X1_stones 1 := ⟨tw_in 782 (by decide +kernel) rfl, tw_in 732 (by decide +kernel) rfl, tw_in 733 (by decide +kernel) rfl, ini_StoneInLentils_Chances, cw_X1_stones, ⟨by decide +kernel, by decide +kernel⟩, by decide +kernel⟩
theorem lk_X8_56 : LkV RX8 56 m_X8_leastBy 3 := ⟨tw_in 785 (by decide +kernel) rfl, tw_in 787 (by decide +kernel) rfl, tw_in 23 (by decide +kernel) rfl, ini_StoneInLentils_Planner, cw_X8_leastBy, ⟨by decide +kernel, by decide +kernel⟩, by decide +kernel⟩
theorem lk_X8_60 : LkV RX8 60 m_X1_all 1 := ⟨tw_in 789 (by decide +kernel) rfl, tw_in 687 (by decide +kernel) rfl, tw_in 688 (by decide +kernel) rfl, ini_StoneInLentils_Chances, cw_X1_all, ⟨by decide +kernel, by decide +kernel⟩, by decide +kernel⟩
theorem lk_X8_65 : LkV RX8 65 m_X1_step 3 := ⟨tw_in 791 (by decide +kernel) rfl, tw_in 702 (by decide +kernel) rfl, tw_in 703 (by decide +kernel) rfl, ini_StoneInLentils_Chances, cw_X1_step, ⟨by decide +kernel, by decide +kernel⟩, by decide +kernel⟩
theorem lk_X9_28 : LkV RX9 28 m_X9_isEmpty 0 := ⟨tw_in 754 (by decide +kernel) rfl, tw_in 487 (by decide +kernel) rfl, tw_in 488 (by decide +kernel) rfl, ini_StoneInLentils_Shelf, cw_X9_isEmpty, ⟨by decide +kernel, by decide +kernel⟩, by decide +kernel⟩
theorem lk_X9_32 : LkV RX9 32 m_X9_isBytes 0 := ⟨tw_in 755 (by decide +kernel) rfl, tw_in 491 (by decide +kernel) rfl, tw_in 492 (by decide +kernel) rfl, ini_StoneInLentils_Shelf, cw_X9_isBytes, ⟨by decide +kernel, by decide +kernel⟩, by decide +kernel⟩
theorem lk_X9_35 : LkV RX9 35 m_X9_hasPlace 1 := ⟨tw_in 510 (by decide +kernel) rfl, tw_in 499 (by decide +kernel) rfl, tw_in 500 (by decide +kernel) rfl, ini_StoneInLentils_Shelf, cw_X9_hasPlace, ⟨by decide +kernel, by decide +kernel⟩, by decide +kernel⟩
theorem lk_X9_39 : LkV RX9 39 m_X9_cut 1 := ⟨tw_in 1084 (by decide +kernel) rfl, tw_in 1086 (by decide +kernel) rfl, tw_in 37 (by decide +kernel) rfl, ini_StoneInLentils_Shelf, cw_X9_cut, ⟨by decide +kernel, by decide +kernel⟩, by decide +kernel⟩
theorem lk_X9_43 : LkV RX9 43 m_X9_hasPlaces 2 := ⟨tw_in 1100 (by decide +kernel) rfl, tw_in 503 (by decide +kernel) rfl, tw_in 504 (by decide +kernel) rfl, ini_StoneInLentils_Shelf, cw_X9_hasPlaces, ⟨by decide +kernel, by decide +kernel⟩, by decide +kernel⟩
theorem lcp_X9_47 : LkC RX9 47 := ⟨tw_in 1101 (by decide +kernel) rfl, tw_in 536 (by decide +kernel) rfl, tw_in 535 (by decide +kernel) rfl, ini_java_lang_System⟩
theorem lk_X10_48 : LkV RX10 48 m_X10_hearOne 1 := ⟨tw_in 873 (by decide +kernel) rfl, tw_in 875 (by decide +kernel) rfl, tw_in 26 (by decide +kernel) rfl, ini_StoneInLentils_Witness, cw_X10_hearOne, ⟨by decide +kernel, by decide +kernel⟩, by decide +kernel⟩
theorem lk_X10_52 : LkV RX10 52 m_X10_goOn 1 := ⟨tw_in 880 (by decide +kernel) rfl, tw_in 882 (by decide +kernel) rfl, tw_in 27 (by decide +kernel) rfl, ini_StoneInLentils_Witness, cw_X10_goOn, ⟨by decide +kernel, by decide +kernel⟩, by decide +kernel⟩
theorem lk_X10_56 : LkV RX10 56 m_X9_hasPlace 1 := ⟨tw_in 877 (by decide +kernel) rfl, tw_in 499 (by decide +kernel) rfl, tw_in 500 (by decide +kernel) rfl, ini_StoneInLentils_Shelf, cw_X9_hasPlace, ⟨by decide +kernel, by decide +kernel⟩, by decide +kernel⟩
theorem lk_X10_62 : LkV RX10 62 m_X9_read 1 := ⟨tw_in 878 (by decide +kernel) rfl, tw_in 507 (by decide +kernel) rfl, tw_in 508 (by decide +kernel) rfl, ini_StoneInLentils_Shelf, cw_X9_read, ⟨by decide +kernel, by decide +kernel⟩, by decide +kernel⟩
theorem lk_X10_66 : LkS RX10 66 m_X5_isFound 1 := ⟨tw_in 879 (by decide +kernel) rfl, tw_in 678 (by decide +kernel) rfl, ini_StoneInLentils_Looks, cw_X5_isFound, ⟨by decide +kernel, by decide +kernel⟩, by decide +kernel⟩
theorem lk_X10_72 : LkV RX10 72 m_X10_note 0 := ⟨tw_in 884 (by decide +kernel) rfl, tw_in 886 (by decide +kernel) rfl, tw_in 28 (by decide +kernel) rfl, ini_StoneInLentils_Witness, cw_X10_note, ⟨by decide +kernel, by decide +kernel⟩, by decide +kernel⟩
theorem lk_X10_75 : LkV RX10 75 m_X10_canHaveFound 2 := ⟨tw_in 890 (by decide +kernel) rfl, tw_in 892 (by decide +kernel) rfl, tw_in 29 (by decide +kernel) rfl, ini_StoneInLentils_Witness, cw_X10_canHaveFound, ⟨by decide +kernel, by decide +kernel⟩, by decide +kernel⟩
theorem lk_X10_79 : LkV RX10 79 m_X1_step 3 := ⟨tw_in 894 (by decide +kernel) rfl, tw_in 702 (by decide +kernel) rfl, tw_in 703 (by decide +kernel) rfl, ini_StoneInLentils_Chances, cw_X1_step, ⟨by decide +kernel, by decide +kernel⟩, by decide +kernel⟩
theorem lk_X10_83 : LkV RX10 83 m_X1_all 1 := ⟨tw_in 888 (by decide +kernel) rfl, tw_in 687 (by decide +kernel) rfl, tw_in 688 (by decide +kernel) rfl, ini_StoneInLentils_Chances, cw_X1_all, ⟨by decide +kernel, by decide +kernel⟩, by decide +kernel⟩
theorem lcp_X10_86 : LkC RX10 86 := ⟨tw_in 889 (by decide +kernel) rfl, tw_in 536 (by decide +kernel) rfl, tw_in 535 (by decide +kernel) rfl, ini_java_lang_System⟩
theorem lk_X10_92 : LkS RX10 92 m_J6_bitCount_0f7a4 1 := ⟨tw_in 899 (by decide +kernel) rfl, tw_in 900 (by decide +kernel) rfl, ini_java_lang_Integer, cw_J6_bitCount_0f7a4, ⟨by decide +kernel, by decide +kernel⟩, by decide +kernel⟩
theorem lk_X12_124 : LkS RX12 124 m_X12_in 3 := ⟨tw_in 1305 (by decide +kernel) rfl, tw_in 1306 (by decide +kernel) rfl, ini_StoneInLentilsModel, cw_X12_in, ⟨by decide +kernel, by decide +kernel⟩, by decide +kernel⟩
theorem lk_X12_131 : LkV RX12 131 m_X12_addLooker 2 := ⟨tw_in 1294 (by decide +kernel) rfl, tw_in 1296 (by decide +kernel) rfl, tw_in 38 (by decide +kernel) rfl, ini_StoneInLentilsModel, cw_X12_addLooker, ⟨by decide +kernel, by decide +kernel⟩, by decide +kernel⟩
theorem lk_X12_135 : LkS RX12 135 m_X12_isShelf 1 := ⟨tw_in 1302 (by decide +kernel) rfl, tw_in 1303 (by decide +kernel) rfl, ini_StoneInLentilsModel, cw_X12_isShelf, ⟨by decide +kernel, by decide +kernel⟩, by decide +kernel⟩
theorem lk_X12_142 : LkV RX12 142 m_X12_valueAt 2 := ⟨tw_in 1342 (by decide +kernel) rfl, tw_in 1344 (by decide +kernel) rfl, tw_in 43 (by decide +kernel) rfl, ini_StoneInLentilsModel, cw_X12_valueAt, ⟨by decide +kernel, by decide +kernel⟩, by decide +kernel⟩
theorem lk_X12_151 : LkV RX12 151 m_X12_lays 3 := ⟨tw_in 1312 (by decide +kernel) rfl, tw_in 1314 (by decide +kernel) rfl, tw_in 39 (by decide +kernel) rfl, ini_StoneInLentilsModel, cw_X12_lays, ⟨by decide +kernel, by decide +kernel⟩, by decide +kernel⟩
theorem lk_X12_155 : LkS RX12 155 m_X12_isBag 1 := ⟨tw_in 1328 (by decide +kernel) rfl, tw_in 1329 (by decide +kernel) rfl, ini_StoneInLentilsModel, cw_X12_isBag, ⟨by decide +kernel, by decide +kernel⟩, by decide +kernel⟩
theorem lk_X12_158 : LkV RX12 158 m_X12_isLooker 1 := ⟨tw_in 1331 (by decide +kernel) rfl, tw_in 1333 (by decide +kernel) rfl, tw_in 41 (by decide +kernel) rfl, ini_StoneInLentilsModel, cw_X12_isLooker, ⟨by decide +kernel, by decide +kernel⟩, by decide +kernel⟩
theorem lk_X12_161 : LkV RX12 161 m_X12_isOne 2 := ⟨tw_in 1324 (by decide +kernel) rfl, tw_in 1326 (by decide +kernel) rfl, tw_in 40 (by decide +kernel) rfl, ini_StoneInLentilsModel, cw_X12_isOne, ⟨by decide +kernel, by decide +kernel⟩, by decide +kernel⟩
theorem lk_X12_165 : LkS RX12 165 m_X12_mayBe 2 := ⟨tw_in 1335 (by decide +kernel) rfl, tw_in 1336 (by decide +kernel) rfl, ini_StoneInLentilsModel, cw_X12_mayBe, ⟨by decide +kernel, by decide +kernel⟩, by decide +kernel⟩
theorem lk_X12_168 : LkV RX12 168 m_X12_changes 3 := ⟨tw_in 1338 (by decide +kernel) rfl, tw_in 1340 (by decide +kernel) rfl, tw_in 42 (by decide +kernel) rfl, ini_StoneInLentilsModel, cw_X12_changes, ⟨by decide +kernel, by decide +kernel⟩, by decide +kernel⟩
theorem lk_X12_187 : LkV RX12 187 m_X12_faulty 0 := ⟨tw_in 1405 (by decide +kernel) rfl, tw_in 1407 (by decide +kernel) rfl, tw_in 55 (by decide +kernel) rfl, ini_StoneInLentilsModel, cw_X12_faulty, ⟨by decide +kernel, by decide +kernel⟩, by decide +kernel⟩
theorem lk_X12_190 : LkV RX12 190 m_X12_looksOn 0 := ⟨tw_in 1390 (by decide +kernel) rfl, tw_in 1392 (by decide +kernel) rfl, tw_in 52 (by decide +kernel) rfl, ini_StoneInLentilsModel, cw_X12_looksOn, ⟨by decide +kernel, by decide +kernel⟩, by decide +kernel⟩
theorem lk_X12_194 : LkV RX12 194 m_X12_addStep 2 := ⟨tw_in 1397 (by decide +kernel) rfl, tw_in 1399 (by decide +kernel) rfl, tw_in 53 (by decide +kernel) rfl, ini_StoneInLentilsModel, cw_X12_addStep, ⟨by decide +kernel, by decide +kernel⟩, by decide +kernel⟩
theorem lk_X12_198 : LkS RX12 198 m_X12_nameOf 1 := ⟨tw_in 1394 (by decide +kernel) rfl, tw_in 1395 (by decide +kernel) rfl, ini_StoneInLentilsModel, cw_X12_nameOf, ⟨by decide +kernel, by decide +kernel⟩, by decide +kernel⟩
theorem lk_X12_202 : LkV RX12 202 m_X12_opens 0 := ⟨tw_in 1401 (by decide +kernel) rfl, tw_in 1403 (by decide +kernel) rfl, tw_in 54 (by decide +kernel) rfl, ini_StoneInLentilsModel, cw_X12_opens, ⟨by decide +kernel, by decide +kernel⟩, by decide +kernel⟩
theorem lk_X12_206 : LkV RX12 206 m_X12_operand 0 := ⟨tw_in 1386 (by decide +kernel) rfl, tw_in 1388 (by decide +kernel) rfl, tw_in 51 (by decide +kernel) rfl, ini_StoneInLentilsModel, cw_X12_operand, ⟨by decide +kernel, by decide +kernel⟩, by decide +kernel⟩
theorem lk_X12_209 : LkV RX12 209 m_X12_either 0 := ⟨tw_in 1366 (by decide +kernel) rfl, tw_in 1368 (by decide +kernel) rfl, tw_in 46 (by decide +kernel) rfl, ini_StoneInLentilsModel, cw_X12_either, ⟨by decide +kernel, by decide +kernel⟩, by decide +kernel⟩
theorem lk_X12_212 : LkV RX12 212 m_X12_figure 0 := ⟨tw_in 1409 (by decide +kernel) rfl, tw_in 1411 (by decide +kernel) rfl, tw_in 56 (by decide +kernel) rfl, ini_StoneInLentilsModel, cw_X12_figure, ⟨by decide +kernel, by decide +kernel⟩, by decide +kernel⟩
theorem lk_X12_215 : LkV RX12 215 m_X12_product 0 := ⟨tw_in 1382 (by decide +kernel) rfl, tw_in 1384 (by decide +kernel) rfl, tw_in 50 (by decide +kernel) rfl, ini_StoneInLentilsModel, cw_X12_product, ⟨by decide +kernel, by decide +kernel⟩, by decide +kernel⟩
theorem lk_X12_218 : LkV RX12 218 m_X12_sum 0 := ⟨tw_in 1378 (by decide +kernel) rfl, tw_in 1380 (by decide +kernel) rfl, tw_in 49 (by decide +kernel) rfl, ini_StoneInLentilsModel, cw_X12_sum, ⟨by decide +kernel, by decide +kernel⟩, by decide +kernel⟩
theorem lk_X12_221 : LkV RX12 221 m_X12_compared 0 := ⟨tw_in 1374 (by decide +kernel) rfl, tw_in 1376 (by decide +kernel) rfl, tw_in 48 (by decide +kernel) rfl, ini_StoneInLentilsModel, cw_X12_compared, ⟨by decide +kernel, by decide +kernel⟩, by decide +kernel⟩
theorem lk_X12_224 : LkV RX12 224 m_X12_both 0 := ⟨tw_in 1370 (by decide +kernel) rfl, tw_in 1372 (by decide +kernel) rfl, tw_in 47 (by decide +kernel) rfl, ini_StoneInLentilsModel, cw_X12_both, ⟨by decide +kernel, by decide +kernel⟩, by decide +kernel⟩
theorem lk_X12_227 : LkV RX12 227 m_X12_line 0 := ⟨tw_in 1362 (by decide +kernel) rfl, tw_in 1364 (by decide +kernel) rfl, tw_in 45 (by decide +kernel) rfl, ini_StoneInLentilsModel, cw_X12_line, ⟨by decide +kernel, by decide +kernel⟩, by decide +kernel⟩
theorem lk_X12_230 : LkS RX12 230 m_X12_twoOf 3 := ⟨tw_in 1429 (by decide +kernel) rfl, tw_in 1430 (by decide +kernel) rfl, ini_StoneInLentilsModel, cw_X12_twoOf, ⟨by decide +kernel, by decide +kernel⟩, by decide +kernel⟩
theorem lk_X12_233 : LkV RX12 233 m_X12_worked 3 := ⟨tw_in 1425 (by decide +kernel) rfl, tw_in 1427 (by decide +kernel) rfl, tw_in 59 (by decide +kernel) rfl, ini_StoneInLentilsModel, cw_X12_worked, ⟨by decide +kernel, by decide +kernel⟩, by decide +kernel⟩
theorem lk_X12_236 : LkV RX12 236 m_X12_readText 1 := ⟨tw_in 1358 (by decide +kernel) rfl, tw_in 1360 (by decide +kernel) rfl, tw_in 44 (by decide +kernel) rfl, ini_StoneInLentilsModel, cw_X12_readText, ⟨by decide +kernel, by decide +kernel⟩, by decide +kernel⟩
theorem lk_X12_243 : LkV RX12 243 m_X12_gives 1 := ⟨tw_in 1421 (by decide +kernel) rfl, tw_in 1423 (by decide +kernel) rfl, tw_in 58 (by decide +kernel) rfl, ini_StoneInLentilsModel, cw_X12_gives, ⟨by decide +kernel, by decide +kernel⟩, by decide +kernel⟩
theorem lk_X12_246 : LkV RX12 246 m_X12_findsBy 3 := ⟨tw_in 1417 (by decide +kernel) rfl, tw_in 1419 (by decide +kernel) rfl, tw_in 57 (by decide +kernel) rfl, ini_StoneInLentilsModel, cw_X12_findsBy, ⟨by decide +kernel, by decide +kernel⟩, by decide +kernel⟩
theorem lk_X12_249 : LkV RX12 249 m_X12_allWeights 1 := ⟨tw_in 1456 (by decide +kernel) rfl, tw_in 1458 (by decide +kernel) rfl, tw_in 64 (by decide +kernel) rfl, ini_StoneInLentilsModel, cw_X12_allWeights, ⟨by decide +kernel, by decide +kernel⟩, by decide +kernel⟩
theorem lk_X12_252 : LkV RX12 252 m_X12_weightAt 2 := ⟨tw_in 1452 (by decide +kernel) rfl, tw_in 1454 (by decide +kernel) rfl, tw_in 63 (by decide +kernel) rfl, ini_StoneInLentilsModel, cw_X12_weightAt, ⟨by decide +kernel, by decide +kernel⟩, by decide +kernel⟩
theorem lk_X12_255 : LkS RX12 255 m_X12_choose 2 := ⟨tw_in 1468 (by decide +kernel) rfl, tw_in 1469 (by decide +kernel) rfl, ini_StoneInLentilsModel, cw_X12_choose, ⟨by decide +kernel, by decide +kernel⟩, by decide +kernel⟩
theorem lk_X12_258 : LkS RX12 258 m_X12_power 2 := ⟨tw_in 1471 (by decide +kernel) rfl, tw_in 1472 (by decide +kernel) rfl, ini_StoneInLentilsModel, cw_X12_power, ⟨by decide +kernel, by decide +kernel⟩, by decide +kernel⟩
theorem lk_X12_268 : LkV RX12 268 m_X12_beginParts 2 := ⟨tw_in 1448 (by decide +kernel) rfl, tw_in 1450 (by decide +kernel) rfl, tw_in 62 (by decide +kernel) rfl, ini_StoneInLentilsModel, cw_X12_beginParts, ⟨by decide +kernel, by decide +kernel⟩, by decide +kernel⟩
theorem lk_X12_271 : LkV RX12 271 m_X12_byteAt 2 := ⟨tw_in 1460 (by decide +kernel) rfl, tw_in 1462 (by decide +kernel) rfl, tw_in 65 (by decide +kernel) rfl, ini_StoneInLentilsModel, cw_X12_byteAt, ⟨by decide +kernel, by decide +kernel⟩, by decide +kernel⟩
theorem lk_X12_274 : LkV RX12 274 m_X12_lookTo 3 := ⟨tw_in 1464 (by decide +kernel) rfl, tw_in 1466 (by decide +kernel) rfl, tw_in 66 (by decide +kernel) rfl, ini_StoneInLentilsModel, cw_X12_lookTo, ⟨by decide +kernel, by decide +kernel⟩, by decide +kernel⟩
theorem lk_X12_277 : LkS RX12 277 m_X12_isPart 1 := ⟨tw_in 1436 (by decide +kernel) rfl, tw_in 1437 (by decide +kernel) rfl, ini_StoneInLentilsModel, cw_X12_isPart, ⟨by decide +kernel, by decide +kernel⟩, by decide +kernel⟩
theorem lk_X12_280 : LkV RX12 280 m_X12_rowFault 1 := ⟨tw_in 1439 (by decide +kernel) rfl, tw_in 1441 (by decide +kernel) rfl, tw_in 60 (by decide +kernel) rfl, ini_StoneInLentilsModel, cw_X12_rowFault, ⟨by decide +kernel, by decide +kernel⟩, by decide +kernel⟩
theorem lk_X12_285 : LkV RX12 285 m_X12_goLooks 2 := ⟨tw_in 1444 (by decide +kernel) rfl, tw_in 1446 (by decide +kernel) rfl, tw_in 61 (by decide +kernel) rfl, ini_StoneInLentilsModel, cw_X12_goLooks, ⟨by decide +kernel, by decide +kernel⟩, by decide +kernel⟩
theorem lk_X12_288 : LkV RX12 288 m_X12_allParts 1 := ⟨tw_in 1475 (by decide +kernel) rfl, tw_in 1477 (by decide +kernel) rfl, tw_in 67 (by decide +kernel) rfl, ini_StoneInLentilsModel, cw_X12_allParts, ⟨by decide +kernel, by decide +kernel⟩, by decide +kernel⟩
theorem lk_X12_294 : LkS RX12 294 m_X12_asPart 3 := ⟨tw_in 1480 (by decide +kernel) rfl, tw_in 1481 (by decide +kernel) rfl, ini_StoneInLentilsModel, cw_X12_asPart, ⟨by decide +kernel, by decide +kernel⟩, by decide +kernel⟩
theorem lk_X12_298 : LkV RX12 298 m_X12_measureOf 1 := ⟨tw_in 1487 (by decide +kernel) rfl, tw_in 1489 (by decide +kernel) rfl, tw_in 68 (by decide +kernel) rfl, ini_StoneInLentilsModel, cw_X12_measureOf, ⟨by decide +kernel, by decide +kernel⟩, by decide +kernel⟩
theorem lk_X12_303 : LkV RX12 303 m_X12_stonesIn 1 := ⟨tw_in 1492 (by decide +kernel) rfl, tw_in 1494 (by decide +kernel) rfl, tw_in 69 (by decide +kernel) rfl, ini_StoneInLentilsModel, cw_X12_stonesIn, ⟨by decide +kernel, by decide +kernel⟩, by decide +kernel⟩
theorem lk_X12_306 : LkS RX12 306 m_X12_asBy 2 := ⟨tw_in 1506 (by decide +kernel) rfl, tw_in 1507 (by decide +kernel) rfl, ini_StoneInLentilsModel, cw_X12_asBy, ⟨by decide +kernel, by decide +kernel⟩, by decide +kernel⟩
theorem lk_X12_317 : LkV RX12 317 m_X12_findWorth 2 := ⟨tw_in 1502 (by decide +kernel) rfl, tw_in 1504 (by decide +kernel) rfl, tw_in 70 (by decide +kernel) rfl, ini_StoneInLentilsModel, cw_X12_findWorth, ⟨by decide +kernel, by decide +kernel⟩, by decide +kernel⟩
theorem lk_X12_320 : LkV RX12 320 m_X12_planFrom 2 := ⟨tw_in 1521 (by decide +kernel) rfl, tw_in 1523 (by decide +kernel) rfl, tw_in 72 (by decide +kernel) rfl, ini_StoneInLentilsModel, cw_X12_planFrom, ⟨by decide +kernel, by decide +kernel⟩, by decide +kernel⟩
theorem lk_X12_327 : LkV RX12 327 m_X12_planOf 2 := ⟨tw_in 1517 (by decide +kernel) rfl, tw_in 1519 (by decide +kernel) rfl, tw_in 71 (by decide +kernel) rfl, ini_StoneInLentilsModel, cw_X12_planOf, ⟨by decide +kernel, by decide +kernel⟩, by decide +kernel⟩
theorem lk_X12_330 : LkS RX12 330 m_X12_areLists 1 := ⟨tw_in 1533 (by decide +kernel) rfl, tw_in 1534 (by decide +kernel) rfl, ini_StoneInLentilsModel, cw_X12_areLists, ⟨by decide +kernel, by decide +kernel⟩, by decide +kernel⟩
theorem lk_X12_335 : LkV RX12 335 m_X12_layProduct 4 := ⟨tw_in 1551 (by decide +kernel) rfl, tw_in 1553 (by decide +kernel) rfl, tw_in 74 (by decide +kernel) rfl, ini_StoneInLentilsModel, cw_X12_layProduct, ⟨by decide +kernel, by decide +kernel⟩, by decide +kernel⟩
theorem lk_X12_339 : LkV RX12 339 m_X12_isMore 0 := ⟨tw_in 1556 (by decide +kernel) rfl, tw_in 1558 (by decide +kernel) rfl, tw_in 75 (by decide +kernel) rfl, ini_StoneInLentilsModel, cw_X12_isMore, ⟨by decide +kernel, by decide +kernel⟩, by decide +kernel⟩
theorem lk_X12_342 : LkS RX12 342 m_X12_isPutIn 1 := ⟨tw_in 1544 (by decide +kernel) rfl, tw_in 1545 (by decide +kernel) rfl, ini_StoneInLentilsModel, cw_X12_isPutIn, ⟨by decide +kernel, by decide +kernel⟩, by decide +kernel⟩
theorem lk_X12_345 : LkV RX12 345 m_X12_likeliestSees 1 := ⟨tw_in 1547 (by decide +kernel) rfl, tw_in 1549 (by decide +kernel) rfl, tw_in 73 (by decide +kernel) rfl, ini_StoneInLentilsModel, cw_X12_likeliestSees, ⟨by decide +kernel, by decide +kernel⟩, by decide +kernel⟩
theorem lk_X12_348 : LkV RX12 348 m_X12_noneOf 3 := ⟨tw_in 1568 (by decide +kernel) rfl, tw_in 1570 (by decide +kernel) rfl, tw_in 76 (by decide +kernel) rfl, ini_StoneInLentilsModel, cw_X12_noneOf, ⟨by decide +kernel, by decide +kernel⟩, by decide +kernel⟩
theorem lk_X12_352 : LkS RX12 352 m_X12_allOf 1 := ⟨tw_in 1572 (by decide +kernel) rfl, tw_in 1573 (by decide +kernel) rfl, ini_StoneInLentilsModel, cw_X12_allOf, ⟨by decide +kernel, by decide +kernel⟩, by decide +kernel⟩
theorem lk_X12_364 : LkV RX12 364 m_X12_goRows 1 := ⟨tw_in 1583 (by decide +kernel) rfl, tw_in 1585 (by decide +kernel) rfl, tw_in 77 (by decide +kernel) rfl, ini_StoneInLentilsModel, cw_X12_goRows, ⟨by decide +kernel, by decide +kernel⟩, by decide +kernel⟩
theorem lk_X12_372 : LkV RX12 372 m_X12_draw 1 := ⟨tw_in 1595 (by decide +kernel) rfl, tw_in 1597 (by decide +kernel) rfl, tw_in 79 (by decide +kernel) rfl, ini_StoneInLentilsModel, cw_X12_draw, ⟨by decide +kernel, by decide +kernel⟩, by decide +kernel⟩
theorem lk_X12_375 : LkV RX12 375 m_X12_drawStones 1 := ⟨tw_in 1591 (by decide +kernel) rfl, tw_in 1593 (by decide +kernel) rfl, tw_in 78 (by decide +kernel) rfl, ini_StoneInLentilsModel, cw_X12_drawStones, ⟨by decide +kernel, by decide +kernel⟩, by decide +kernel⟩
theorem lk_X12_378 : LkV RX12 378 m_X12_drawFound 2 := ⟨tw_in 1600 (by decide +kernel) rfl, tw_in 1602 (by decide +kernel) rfl, tw_in 80 (by decide +kernel) rfl, ini_StoneInLentilsModel, cw_X12_drawFound, ⟨by decide +kernel, by decide +kernel⟩, by decide +kernel⟩
theorem lk_X12_390 : LkV RX12 390 m_X12_ran 1 := ⟨tw_in 1651 (by decide +kernel) rfl, tw_in 1653 (by decide +kernel) rfl, tw_in 83 (by decide +kernel) rfl, ini_StoneInLentilsModel, cw_X12_ran, ⟨by decide +kernel, by decide +kernel⟩, by decide +kernel⟩
theorem lk_X12_393 : LkV RX12 393 m_X12_plainPicks 2 := ⟨tw_in 1655 (by decide +kernel) rfl, tw_in 1657 (by decide +kernel) rfl, tw_in 84 (by decide +kernel) rfl, ini_StoneInLentilsModel, cw_X12_plainPicks, ⟨by decide +kernel, by decide +kernel⟩, by decide +kernel⟩
theorem lk_X12_396 : LkS RX12 396 m_X12_isUnder 2 := ⟨tw_in 1648 (by decide +kernel) rfl, tw_in 1649 (by decide +kernel) rfl, ini_StoneInLentilsModel, cw_X12_isUnder, ⟨by decide +kernel, by decide +kernel⟩, by decide +kernel⟩
theorem lk_X12_399 : LkV RX12 399 m_X12_countedPicks 2 := ⟨tw_in 1659 (by decide +kernel) rfl, tw_in 1661 (by decide +kernel) rfl, tw_in 85 (by decide +kernel) rfl, ini_StoneInLentilsModel, cw_X12_countedPicks, ⟨by decide +kernel, by decide +kernel⟩, by decide +kernel⟩
theorem lk_X12_402 : LkV RX12 402 m_X12_picking 2 := ⟨tw_in 1644 (by decide +kernel) rfl, tw_in 1646 (by decide +kernel) rfl, tw_in 82 (by decide +kernel) rfl, ini_StoneInLentilsModel, cw_X12_picking, ⟨by decide +kernel, by decide +kernel⟩, by decide +kernel⟩
theorem lk_X12_405 : LkV RX12 405 m_X12_plainFinds 2 := ⟨tw_in 1671 (by decide +kernel) rfl, tw_in 1673 (by decide +kernel) rfl, tw_in 88 (by decide +kernel) rfl, ini_StoneInLentilsModel, cw_X12_plainFinds, ⟨by decide +kernel, by decide +kernel⟩, by decide +kernel⟩
theorem lk_X12_408 : LkV RX12 408 m_X12_slowFinds 2 := ⟨tw_in 1667 (by decide +kernel) rfl, tw_in 1669 (by decide +kernel) rfl, tw_in 87 (by decide +kernel) rfl, ini_StoneInLentilsModel, cw_X12_slowFinds, ⟨by decide +kernel, by decide +kernel⟩, by decide +kernel⟩
theorem lk_X12_411 : LkV RX12 411 m_X12_leaving 2 := ⟨tw_in 1675 (by decide +kernel) rfl, tw_in 1677 (by decide +kernel) rfl, tw_in 89 (by decide +kernel) rfl, ini_StoneInLentilsModel, cw_X12_leaving, ⟨by decide +kernel, by decide +kernel⟩, by decide +kernel⟩
theorem lk_X12_414 : LkV RX12 414 m_X12_plainLeaves 2 := ⟨tw_in 1683 (by decide +kernel) rfl, tw_in 1685 (by decide +kernel) rfl, tw_in 91 (by decide +kernel) rfl, ini_StoneInLentilsModel, cw_X12_plainLeaves, ⟨by decide +kernel, by decide +kernel⟩, by decide +kernel⟩
theorem lk_X12_417 : LkV RX12 417 m_X12_lampedLeaves 2 := ⟨tw_in 1679 (by decide +kernel) rfl, tw_in 1681 (by decide +kernel) rfl, tw_in 90 (by decide +kernel) rfl, ini_StoneInLentilsModel, cw_X12_lampedLeaves, ⟨by decide +kernel, by decide +kernel⟩, by decide +kernel⟩
theorem lk_X12_420 : LkV RX12 420 m_X12_finding 2 := ⟨tw_in 1663 (by decide +kernel) rfl, tw_in 1665 (by decide +kernel) rfl, tw_in 86 (by decide +kernel) rfl, ini_StoneInLentilsModel, cw_X12_finding, ⟨by decide +kernel, by decide +kernel⟩, by decide +kernel⟩
theorem lk_X12_423 : LkV RX12 423 m_X12_plainTells 2 := ⟨tw_in 1691 (by decide +kernel) rfl, tw_in 1693 (by decide +kernel) rfl, tw_in 93 (by decide +kernel) rfl, ini_StoneInLentilsModel, cw_X12_plainTells, ⟨by decide +kernel, by decide +kernel⟩, by decide +kernel⟩
theorem lk_X12_426 : LkV RX12 426 m_X12_isBody 1 := ⟨tw_in 1640 (by decide +kernel) rfl, tw_in 1642 (by decide +kernel) rfl, tw_in 81 (by decide +kernel) rfl, ini_StoneInLentilsModel, cw_X12_isBody, ⟨by decide +kernel, by decide +kernel⟩, by decide +kernel⟩
theorem lk_X12_429 : LkV RX12 429 m_X12_telling 2 := ⟨tw_in 1687 (by decide +kernel) rfl, tw_in 1689 (by decide +kernel) rfl, tw_in 92 (by decide +kernel) rfl, ini_StoneInLentilsModel, cw_X12_telling, ⟨by decide +kernel, by decide +kernel⟩, by decide +kernel⟩
theorem lk_X12_432 : LkV RX12 432 m_X12_whyNoPlace 2 := ⟨tw_in 1711 (by decide +kernel) rfl, tw_in 1713 (by decide +kernel) rfl, tw_in 94 (by decide +kernel) rfl, ini_StoneInLentilsModel, cw_X12_whyNoPlace, ⟨by decide +kernel, by decide +kernel⟩, by decide +kernel⟩
