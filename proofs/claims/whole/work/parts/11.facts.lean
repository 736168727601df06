/-! methods, cells, fields, calls, by program (wip/whole/gen/facts.py) -/
def mX0_init : qb_M := (yX0_init, cX0_init, 1, none, (1, 20), (6, 496))
def mX0_letterOf : qb_M := (yX0_letterOf, cX0_letterOf, 1, some .int, (1, 22), (0, 0))
def mX0_factOf : qb_M := (yX0_factOf, cX0_factOf, 1, some .int, (0, 0), (0, 0))
def mX0_isComparer : qb_M := (yX0_isComparer, cX0_isComparer, 1, some .boolean, (1, 22), (0, 0))
def mX0_isDigit : qb_M := (yX0_isDigit, cX0_isDigit, 1, some .boolean, (1, 22), (0, 0))
def mX0_add : qb_M := (yX0_add, cX0_add, 9, none, (2, 42), (0, 0))
def mX0_actOn : qb_M := (yX0_actOn, cX0_actOn, 4, some .int, (0, 0), (0, 0))
def mX0_gradesOn : qb_M := (yX0_gradesOn, cX0_gradesOn, 5, some .int, (1, 23), (0, 0))
def mX0_gradeAt : qb_M := (yX0_gradeAt, cX0_gradeAt, 6, some .int, (1, 23), (0, 0))
def mX0_beginsGrade : qb_M := (yX0_beginsGrade, cX0_beginsGrade, 3, some .boolean, (0, 0), (0, 0))
def mX0_brandOn : qb_M := (yX0_brandOn, cX0_brandOn, 7, some .int, (1, 23), (0, 0))
def mX0_holds : qb_M := (yX0_holds, cX0_holds, 3, some .boolean, (0, 0), (0, 0))
def mX1_init : qb_M := (yX1_init, cX1_init, 2, none, (1, 20), (3, 30))
def mX1_bind : qb_M := (yX1_bind, cX1_bind, 5, none, (0, 0), (0, 0))
def mX1_agreedAt : qb_M := (yX1_agreedAt, cX1_agreedAt, 4, some .int, (0, 0), (0, 0))
def mX2_init : qb_M := (yX2_init, cX2_init, 1, none, (1, 20), (0, 0))
def mX2_start : qb_M := (yX2_start, cX2_start, 2, none, (0, 0), (0, 0))
def mX2_empty : qb_M := (yX2_empty, cX2_empty, 1, none, (0, 0), (0, 0))
def mX2_take : qb_M := (yX2_take, cX2_take, 4, none, (1, 21), (0, 0))
def mX2_compare : qb_M := (yX2_compare, cX2_compare, 1, none, (0, 0), (0, 0))
def mX3_init : qb_M := (yX3_init, cX3_init, 1, none, (1, 20), (1, 60))
def mX3_add : qb_M := (yX3_add, cX3_add, 2, some .int, (0, 0), (0, 0))
def mX3_clear : qb_M := (yX3_clear, cX3_clear, 2, some .int, (0, 0), (0, 0))
def mX3_firstFault : qb_M := (yX3_firstFault, cX3_firstFault, 5, some .int, (4, 86), (0, 0))
def mX3_following : qb_M := (yX3_following, cX3_following, 3, some .int, (3, 64), (0, 0))
def mX3_isNewLetter : qb_M := (yX3_isNewLetter, cX3_isNewLetter, 3, some .boolean, (2, 42), (0, 0))
def mX3_behindDigit : qb_M := (yX3_behindDigit, cX3_behindDigit, 3, some .int, (2, 42), (0, 0))
def mX4_init : qb_M := (yX4_init, cX4_init, 1, none, (1, 20), (5, 2221))
def mX4_worth : qb_M := (yX4_worth, cX4_worth, 4, some .int, (0, 0), (0, 0))
def mX4_plan : qb_M := (yX4_plan, cX4_plan, 5, none, (2, 68), (0, 0))
def mX4_bearOneMore : qb_M := (yX4_bearOneMore, cX4_bearOneMore, 7, none, (1, 23), (0, 0))
def mX4_borneBy : qb_M := (yX4_borneBy, cX4_borneBy, 8, some .int, (2, 50), (0, 0))
def mX4_leastRow : qb_M := (yX4_leastRow, cX4_leastRow, 8, some .int, (1, 23), (0, 0))
def mX5_init : qb_M := (yX5_init, cX5_init, 1, none, (1, 20), (4, 240))
def mX5_add : qb_M := (yX5_add, cX5_add, 5, some .int, (0, 0), (0, 0))
def mX5_find : qb_M := (yX5_find, cX5_find, 8, some .int, (0, 0), (0, 0))
def mX6_init : qb_M := (yX6_init, cX6_init, 1, none, (1, 20), (3, 63))
def mX6_add : qb_M := (yX6_add, cX6_add, 6, some .int, (0, 0), (0, 0))
def mX6_clear : qb_M := (yX6_clear, cX6_clear, 3, some .int, (0, 0), (0, 0))
def mX6_mayBe : qb_M := (yX6_mayBe, cX6_mayBe, 2, some .boolean, (1, 20), (0, 0))
def mX6_fewest : qb_M := (yX6_fewest, cX6_fewest, 2, some .int, (4, 87), (0, 0))
def mX6_explaining : qb_M := (yX6_explaining, cX6_explaining, 6, some .int, (3, 62), (0, 0))
def mX6_chosenCause : qb_M := (yX6_chosenCause, cX6_chosenCause, 2, some .int, (0, 0), (0, 0))
def mX6_listAble : qb_M := (yX6_listAble, cX6_listAble, 2, none, (2, 41), (0, 0))
def mX6_explainsAll : qb_M := (yX6_explainsAll, cX6_explainsAll, 4, some .boolean, (0, 0), (0, 0))
def mX6_advance : qb_M := (yX6_advance, cX6_advance, 4, some .boolean, (0, 0), (0, 0))
def mX7_init : qb_M := (yX7_init, cX7_init, 1, none, (1, 20), (13, 286))
def mX7_add : qb_M := (yX7_add, cX7_add, 8, some .int, (0, 0), (0, 0))
def mX7_waiting : qb_M := (yX7_waiting, cX7_waiting, 3, some .int, (0, 0), (0, 0))
def mX7_paceAt : qb_M := (yX7_paceAt, cX7_paceAt, 2, some .int, (0, 0), (0, 0))
def mX7_work : qb_M := (yX7_work, cX7_work, 4, none, (3, 69), (0, 0))
def mX7_workOne : qb_M := (yX7_workOne, cX7_workOne, 4, none, (2, 46), (0, 0))
def mX7_startOf : qb_M := (yX7_startOf, cX7_startOf, 4, some .int, (1, 21), (0, 0))
def mX7_workedFrom : qb_M := (yX7_workedFrom, cX7_workedFrom, 6, some .int, (1, 21), (0, 0))
def mX7_spoiltOf : qb_M := (yX7_spoiltOf, cX7_spoiltOf, 2, some .int, (0, 0), (0, 0))
def mX7_lastHourOf : qb_M := (yX7_lastHourOf, cX7_lastHourOf, 2, some .int, (1, 21), (0, 0))
def mX7_spoiltAt : qb_M := (yX7_spoiltAt, cX7_spoiltAt, 4, some .int, (1, 21), (0, 0))
def mX7_spoiltWith : qb_M := (yX7_spoiltWith, cX7_spoiltWith, 12, some .int, (2, 46), (0, 0))
def mX7_fishOf : qb_M := (yX7_fishOf, cX7_fishOf, 5, some .int, (0, 0), (0, 0))
def mX7_measure : qb_M := (yX7_measure, cX7_measure, 11, none, (2, 44), (0, 0))
def mX8_init : qb_M := (yX8_init, cX8_init, 1, none, (1, 20), (4, 48))
def mX8_add : qb_M := (yX8_add, cX8_add, 5, some .int, (0, 0), (0, 0))
def mX8_find : qb_M := (yX8_find, cX8_find, 6, some .int, (0, 0), (0, 0))
def mX8_lotAt : qb_M := (yX8_lotAt, cX8_lotAt, 4, some .int, (1, 25), (0, 0))
def mX8_muchAt : qb_M := (yX8_muchAt, cX8_muchAt, 4, some .int, (1, 25), (0, 0))
def mX9_init : qb_M := (yX9_init, cX9_init, 1, none, (1, 20), (3, 163))
def mX9_plan : qb_M := (yX9_plan, cX9_plan, 5, none, (3, 77), (0, 0))
def mX9_quayOf : qb_M := (yX9_quayOf, cX9_quayOf, 2, some .int, (1, 22), (0, 0))
def mX9_list : qb_M := (yX9_list, cX9_list, 3, none, (0, 0), (0, 0))
def mX9_digit : qb_M := (yX9_digit, cX9_digit, 3, some .int, (0, 0), (0, 0))
def mX9_spoiltBy : qb_M := (yX9_spoiltBy, cX9_spoiltBy, 6, some .int, (1, 22), (0, 0))
def mX10_init : qb_M := (yX10_init, cX10_init, 1, none, (2, 41), (59, 3927))
def mX10_say : qb_M := (yX10_say, cX10_say, 2, some .int, (1, 22), (0, 0))
def mX10_wipe : qb_M := (yX10_wipe, cX10_wipe, 1, some .int, (1, 21), (0, 0))
def mX10_fault : qb_M := (yX10_fault, cX10_fault, 1, some .int, (5, 110), (0, 0))
def mX10_act : qb_M := (yX10_act, cX10_act, 2, some .int, (5, 110), (0, 0))
def mX10_brand : qb_M := (yX10_brand, cX10_brand, 4, some .int, (5, 112), (0, 0))
def mX10_grade : qb_M := (yX10_grade, cX10_grade, 3, some .int, (2, 48), (0, 0))
def mX10_set : qb_M := (yX10_set, cX10_set, 6, some .int, (2, 42), (0, 0))
def mX10_rule : qb_M := (yX10_rule, cX10_rule, 4, some .int, (1, 22), (0, 0))
def mX10_land : qb_M := (yX10_land, cX10_land, 6, some .int, (3, 62), (0, 0))
def mX10_lead : qb_M := (yX10_lead, cX10_lead, 4, some .int, (3, 62), (0, 0))
def mX10_landing : qb_M := (yX10_landing, cX10_landing, 3, some .int, (5, 112), (0, 0))
def mX10_salt : qb_M := (yX10_salt, cX10_salt, 5, some .int, (2, 42), (0, 0))
def mX10_barrel : qb_M := (yX10_barrel, cX10_barrel, 5, some .int, (5, 112), (0, 0))
def mX10_filled : qb_M := (yX10_filled, cX10_filled, 7, some .int, (5, 112), (0, 0))
def mX10_open : qb_M := (yX10_open, cX10_open, 7, some .int, (1, 24), (0, 0))
def mX10_judge : qb_M := (yX10_judge, cX10_judge, 5, some .int, (1, 25), (0, 0))
def mX10_absolve : qb_M := (yX10_absolve, cX10_absolve, 1, some .int, (1, 22), (0, 0))
def mX10_cause : qb_M := (yX10_cause, cX10_cause, 2, some .int, (2, 41), (0, 0))
def mX10_explained : qb_M := (yX10_explained, cX10_explained, 1, some .int, (5, 108), (0, 0))
def mX10_rival : qb_M := (yX10_rival, cX10_rival, 4, some .int, (5, 108), (0, 0))
def mX10_engage : qb_M := (yX10_engage, cX10_engage, 5, some .int, (3, 62), (0, 0))
def mX10_free : qb_M := (yX10_free, cX10_free, 4, some .int, (2, 42), (0, 0))
def mX10_freeOn : qb_M := (yX10_freeOn, cX10_freeOn, 3, some .int, (2, 49), (0, 0))
def mX10_cost : qb_M := (yX10_cost, cX10_cost, 5, some .int, (4, 103), (0, 0))
def mX10_account : qb_M := (yX10_account, cX10_account, 4, some .int, (6, 143), (0, 0))
def mX10_spread : qb_M := (yX10_spread, cX10_spread, 2, some .int, (4, 101), (0, 0))
def mX10_settle : qb_M := (yX10_settle, cX10_settle, 2, some .int, (4, 101), (0, 0))
def mX10_ship : qb_M := (yX10_ship, cX10_ship, 4, some .int, (2, 42), (0, 0))
def mX10_price : qb_M := (yX10_price, cX10_price, 5, some .int, (2, 42), (0, 0))
def mX10_priceOn : qb_M := (yX10_priceOn, cX10_priceOn, 4, some .int, (2, 42), (0, 0))
def mX10_load : qb_M := (yX10_load, cX10_load, 6, some .int, (3, 92), (0, 0))
def mX10_told : qb_M := (yX10_told, cX10_told, 2, some .int, (6, 134), (0, 0))
def mX10_within : qb_M := (yX10_within, cX10_within, 3, some .boolean, (0, 0), (0, 0))
def mX10_isDay : qb_M := (yX10_isDay, cX10_isDay, 1, some .boolean, (1, 22), (0, 0))
def mX10_isHour : qb_M := (yX10_isHour, cX10_isHour, 1, some .boolean, (1, 22), (0, 0))
def mX10_isBoat : qb_M := (yX10_isBoat, cX10_isBoat, 1, some .boolean, (1, 22), (0, 0))
def mX10_isQuay : qb_M := (yX10_isQuay, cX10_isQuay, 1, some .boolean, (1, 22), (0, 0))
def mX10_isQuayOrNone : qb_M := (yX10_isQuayOrNone, cX10_isQuayOrNone, 1, some .boolean, (2, 42), (0, 0))
def mX10_isLanding : qb_M := (yX10_isLanding, cX10_isLanding, 2, some .boolean, (1, 22), (0, 0))
def mX10_choose : qb_M := (yX10_choose, cX10_choose, 5, some .long, (0, 0), (0, 0))
def mX10_work : qb_M := (yX10_work, cX10_work, 1, none, (4, 92), (0, 0))
def mX10_barrelsAt : qb_M := (yX10_barrelsAt, cX10_barrelsAt, 2, some .int, (0, 0), (0, 0))
def mX10_barrelsOfAll : qb_M := (yX10_barrelsOfAll, cX10_barrelsOfAll, 3, some .int, (5, 112), (0, 0))
def mX10_spoiltOfAll : qb_M := (yX10_spoiltOfAll, cX10_spoiltOfAll, 3, some .int, (5, 112), (0, 0))
def mX10_measureOne : qb_M := (yX10_measureOne, cX10_measureOne, 3, none, (3, 74), (0, 0))
def mX10_tiers : qb_M := (yX10_tiers, cX10_tiers, 1, some .int, (0, 0), (0, 0))
def mX10_ofCask : qb_M := (yX10_ofCask, cX10_ofCask, 2, some .int, (2, 48), (0, 0))
def mX10_brandOfCask : qb_M := (yX10_brandOfCask, cX10_brandOfCask, 2, some .int, (2, 49), (0, 0))
def mX10_countBranded : qb_M := (yX10_countBranded, cX10_countBranded, 8, some .int, (3, 74), (0, 0))
def mX10_brandedAt : qb_M := (yX10_brandedAt, cX10_brandedAt, 2, some .int, (4, 101), (0, 0))
def mX10_wagesAt : qb_M := (yX10_wagesAt, cX10_wagesAt, 2, some .int, (1, 21), (0, 0))
def mX10_bountyAt : qb_M := (yX10_bountyAt, cX10_bountyAt, 2, some .int, (5, 122), (0, 0))
def mX10_freePrice : qb_M := (yX10_freePrice, cX10_freePrice, 3, some .int, (1, 27), (0, 0))
def mX10_costOf : qb_M := (yX10_costOf, cX10_costOf, 12, some .int, (2, 49), (0, 0))
def mX10_savedBy : qb_M := (yX10_savedBy, cX10_savedBy, 4, some .int, (3, 80), (0, 0))
def mX10_costsAt : qb_M := (yX10_costsAt, cX10_costsAt, 5, some .int, (3, 80), (0, 0))
def mX11_init : qb_M := (yX11_init, cX11_init, 2, none, (1, 20), (28, 10823))
def mX11_in : qb_M := (yX11_in, cX11_in, 3, some .boolean, (0, 0), (0, 0))
def mX11_isDay : qb_M := (yX11_isDay, cX11_isDay, 1, some .boolean, (1, 22), (0, 0))
def mX11_isHour : qb_M := (yX11_isHour, cX11_isHour, 1, some .boolean, (1, 22), (0, 0))
def mX11_isQuay : qb_M := (yX11_isQuay, cX11_isQuay, 1, some .boolean, (1, 22), (0, 0))
def mX11_say : qb_M := (yX11_say, cX11_say, 2, some .int, (1, 22), (0, 0))
def mX11_wipe : qb_M := (yX11_wipe, cX11_wipe, 2, some .int, (0, 0), (0, 0))
def mX11_isFact : qb_M := (yX11_isFact, cX11_isFact, 1, some .boolean, (0, 0), (0, 0))
def mX11_faultOf : qb_M := (yX11_faultOf, cX11_faultOf, 6, some .int, (1, 22), (0, 0))
def mX11_fault : qb_M := (yX11_fault, cX11_fault, 1, some .int, (2, 47), (0, 0))
def mX11_act : qb_M := (yX11_act, cX11_act, 3, some .int, (2, 47), (0, 0))
def mX11_actOn : qb_M := (yX11_actOn, cX11_actOn, 4, some .int, (0, 0), (0, 0))
def mX11_grade : qb_M := (yX11_grade, cX11_grade, 7, some .int, (2, 42), (0, 0))
def mX11_factOf : qb_M := (yX11_factOf, cX11_factOf, 3, some .int, (1, 25), (0, 0))
def mX11_brandOf : qb_M := (yX11_brandOf, cX11_brandOf, 11, some .int, (2, 47), (0, 0))
def mX11_set : qb_M := (yX11_set, cX11_set, 5, some .int, (2, 42), (0, 0))
def mX11_rule : qb_M := (yX11_rule, cX11_rule, 6, some .int, (1, 22), (0, 0))
def mX11_waiting : qb_M := (yX11_waiting, cX11_waiting, 3, some .int, (0, 0), (0, 0))
def mX11_land : qb_M := (yX11_land, cX11_land, 7, some .int, (2, 42), (0, 0))
def mX11_lead : qb_M := (yX11_lead, cX11_lead, 4, some .int, (2, 42), (0, 0))
def mX11_firstOf : qb_M := (yX11_firstOf, cX11_firstOf, 6, some .int, (0, 0), (0, 0))
def mX11_nextHour : qb_M := (yX11_nextHour, cX11_nextHour, 5, some .int, (0, 0), (0, 0))
def mX11_workQuay : qb_M := (yX11_workQuay, cX11_workQuay, 6, none, (1, 25), (0, 0))
def mX11_landing : qb_M := (yX11_landing, cX11_landing, 4, some .int, (2, 50), (0, 0))
def mX11_salt : qb_M := (yX11_salt, cX11_salt, 5, some .int, (2, 42), (0, 0))
def mX11_saltOf : qb_M := (yX11_saltOf, cX11_saltOf, 6, some .int, (0, 0), (0, 0))
def mX11_beginBarrels : qb_M := (yX11_beginBarrels, cX11_beginBarrels, 2, none, (2, 50), (0, 0))
def mX11_takeBarrel : qb_M := (yX11_takeBarrel, cX11_takeBarrel, 7, none, (0, 0), (0, 0))
def mX11_barrelsNow : qb_M := (yX11_barrelsNow, cX11_barrelsNow, 1, some .int, (0, 0), (0, 0))
def mX11_takes : qb_M := (yX11_takes, cX11_takes, 4, some .boolean, (3, 71), (0, 0))
def mX11_brand : qb_M := (yX11_brand, cX11_brand, 4, some .int, (4, 94), (0, 0))
def mX11_barrel : qb_M := (yX11_barrel, cX11_barrel, 4, some .int, (4, 94), (0, 0))
def mX11_filled : qb_M := (yX11_filled, cX11_filled, 8, some .int, (3, 77), (0, 0))
def mX11_choose : qb_M := (yX11_choose, cX11_choose, 5, some .long, (0, 0), (0, 0))
def mX11_open : qb_M := (yX11_open, cX11_open, 5, some .int, (1, 24), (0, 0))
def mX11_judge : qb_M := (yX11_judge, cX11_judge, 5, some .int, (1, 22), (0, 0))
def mX11_absolve : qb_M := (yX11_absolve, cX11_absolve, 2, some .int, (0, 0), (0, 0))
def mX11_hasCause : qb_M := (yX11_hasCause, cX11_hasCause, 3, some .boolean, (0, 0), (0, 0))
def mX11_mayBe : qb_M := (yX11_mayBe, cX11_mayBe, 6, some .boolean, (1, 22), (0, 0))
def mX11_cause : qb_M := (yX11_cause, cX11_cause, 2, some .int, (2, 47), (0, 0))
def mX11_explain : qb_M := (yX11_explain, cX11_explain, 7, some .boolean, (1, 22), (0, 0))
def mX11_setOf : qb_M := (yX11_setOf, cX11_setOf, 10, some .int, (2, 48), (0, 0))
def mX11_fewest : qb_M := (yX11_fewest, cX11_fewest, 2, some .int, (3, 77), (0, 0))
def mX11_explained : qb_M := (yX11_explained, cX11_explained, 1, some .int, (4, 98), (0, 0))
def mX11_rival : qb_M := (yX11_rival, cX11_rival, 4, some .int, (4, 98), (0, 0))
def mX11_isPrice : qb_M := (yX11_isPrice, cX11_isPrice, 1, some .boolean, (1, 22), (0, 0))
def mX11_engage : qb_M := (yX11_engage, cX11_engage, 5, some .int, (2, 42), (0, 0))
def mX11_free : qb_M := (yX11_free, cX11_free, 4, some .int, (2, 42), (0, 0))
def mX11_freeAt : qb_M := (yX11_freeAt, cX11_freeAt, 6, some .int, (0, 0), (0, 0))
def mX11_freeOn : qb_M := (yX11_freeOn, cX11_freeOn, 3, some .int, (2, 42), (0, 0))
def mX11_layCost : qb_M := (yX11_layCost, cX11_layCost, 10, none, (1, 25), (0, 0))
def mX11_cost : qb_M := (yX11_cost, cX11_cost, 5, some .int, (2, 54), (0, 0))
def mX11_costsOf : qb_M := (yX11_costsOf, cX11_costsOf, 5, some .int, (2, 54), (0, 0))
def mX11_brandedOf : qb_M := (yX11_brandedOf, cX11_brandedOf, 5, some .int, (3, 77), (0, 0))
def mX11_account : qb_M := (yX11_account, cX11_account, 6, some .int, (4, 101), (0, 0))
def mX11_allSpoilt : qb_M := (yX11_allSpoilt, cX11_allSpoilt, 3, some .int, (2, 50), (0, 0))
def mX11_leadAll : qb_M := (yX11_leadAll, cX11_leadAll, 4, none, (0, 0), (0, 0))
def mX11_laySpread : qb_M := (yX11_laySpread, cX11_laySpread, 3, none, (3, 72), (0, 0))
def mX11_spread : qb_M := (yX11_spread, cX11_spread, 2, some .int, (4, 94), (0, 0))
def mX11_settle : qb_M := (yX11_settle, cX11_settle, 1, some .int, (4, 94), (0, 0))
def mX11_ship : qb_M := (yX11_ship, cX11_ship, 4, some .int, (2, 42), (0, 0))
def mX11_price : qb_M := (yX11_price, cX11_price, 5, some .int, (2, 42), (0, 0))
def mX11_priceAt : qb_M := (yX11_priceAt, cX11_priceAt, 7, some .int, (0, 0), (0, 0))
def mX11_priceOn : qb_M := (yX11_priceOn, cX11_priceOn, 4, some .int, (2, 42), (0, 0))
def mX11_gain : qb_M := (yX11_gain, cX11_gain, 5, some .int, (1, 26), (0, 0))
def mX11_layMost : qb_M := (yX11_layMost, cX11_layMost, 10, none, (1, 26), (0, 0))
def mX11_load : qb_M := (yX11_load, cX11_load, 10, some .int, (2, 55), (0, 0))
def mX11_told : qb_M := (yX11_told, cX11_told, 4, some .int, (3, 72), (0, 0))
def mJ6_bitCount_0f7a4 : qb_M := (yJ6_bitCount_0f7a4, cJ6_bitCount_0f7a4, 1, some .int, (0, 0), (0, 0))
def mL_law : qb_M := (yL_law, cL_law, 4, some .boolean, (9, 334), (89, 14813))
def qb_sh : qb_Sh := [.inl (10, [some (some 1), some (some 3), some (some 10), some (some 11), some (some 25), some (some 26), some (some 31), some (some 32), some (some 36), some (some 40), some (some 45), some (some 50), some (some 54)]),
  .inl (3, [some (some 2), none]),
  .inr 60,
  .inl (0, [some (some 4), some (some 5), some (some 6), some (some 7), some (some 8), some (some 9), none]),
  .inr 8,
  .inr 8,
  .inr 120,
  .inr 120,
  .inr 120,
  .inr 120,
  .inr 7,
  .inl (7, [some (some 12), some (some 13), some (some 14), some (some 15), some (some 16), some (some 17), some (some 18), some (some 19), some (some 20), some (some 21), some (some 22), some (some 23), some (some 24), none]),
  .inr 30,
  .inr 30,
  .inr 30,
  .inr 30,
  .inr 30,
  .inr 30,
  .inr 30,
  .inr 30,
  .inr 30,
  .inr 4,
  .inr 4,
  .inr 4,
  .inr 4,
  .inl (2, [none, none, none, none, none, none, none, none, none, none]),
  .inl (8, [some (some 27), some (some 28), some (some 29), some (some 30), none]),
  .inr 12,
  .inr 12,
  .inr 12,
  .inr 12,
  .inr 5,
  .inl (6, [some (some 33), some (some 34), some (some 35), none, none, none]),
  .inr 30,
  .inr 30,
  .inr 3,
  .inl (1, [some (some 37), some (some 38), some (some 39)]),
  .inr 10,
  .inr 10,
  .inr 10,
  .inl (5, [some (some 41), some (some 42), some (some 43), some (some 44), none]),
  .inr 60,
  .inr 60,
  .inr 60,
  .inr 60,
  .inl (5, [some (some 46), some (some 47), some (some 48), some (some 49), none]),
  .inr 60,
  .inr 60,
  .inr 60,
  .inr 60,
  .inl (9, [some (some 51), some (some 52), some (some 53), none, none, none]),
  .inr 30,
  .inr 5,
  .inr 128,
  .inl (4, [some (some 55), some (some 56), some (some 57), some (some 58), some (some 59)]),
  .inr 4,
  .inr 4,
  .inr 4,
  .inr 4,
  .inr 2205,
  .inl (11, [none, some (some 61), none, some (some 62), some (some 63), some (some 64), some (some 65), some (some 66), some (some 67), none, some (some 68), none, some (some 69), none, some (some 70), some (some 71), some (some 72), some (some 73), none, some (some 74), some (some 75), some (some 76), some (some 77), some (some 78), none, some (some 79), some (some 80), some (some 81), some (some 82), none, none, none, none, none, some (some 83), some (some 84), some (some 85), some (some 86), none, none, none, none, none, none, none, none, none, none, some (some 87), some (some 88)]),
  .inr 60,
  .inr 8,
  .inr 8,
  .inr 480,
  .inr 4,
  .inr 4,
  .inr 7,
  .inr 210,
  .inr 48,
  .inr 96,
  .inr 10,
  .inr 10,
  .inr 10,
  .inr 60,
  .inr 60,
  .inr 60,
  .inr 4,
  .inr 4,
  .inr 60,
  .inr 60,
  .inr 60,
  .inr 60,
  .inr 2400,
  .inr 2400,
  .inr 2400,
  .inr 30,
  .inr 5,
  .inr 2205]
theorem qb_s0 : qb_sh[0]? = some (.inl (10, [some (some 1), some (some 3), some (some 10), some (some 11), some (some 25), some (some 26), some (some 31), some (some 32), some (some 36), some (some 40), some (some 45), some (some 50), some (some 54)])) := rfl
theorem qb_s1 : qb_sh[1]? = some (.inl (3, [some (some 2), none])) := rfl
theorem qb_s2 : qb_sh[2]? = some (.inr 60) := rfl
theorem qb_s3 : qb_sh[3]? = some (.inl (0, [some (some 4), some (some 5), some (some 6), some (some 7), some (some 8), some (some 9), none])) := rfl
theorem qb_s4 : qb_sh[4]? = some (.inr 8) := rfl
theorem qb_s5 : qb_sh[5]? = some (.inr 8) := rfl
theorem qb_s6 : qb_sh[6]? = some (.inr 120) := rfl
theorem qb_s7 : qb_sh[7]? = some (.inr 120) := rfl
theorem qb_s8 : qb_sh[8]? = some (.inr 120) := rfl
theorem qb_s9 : qb_sh[9]? = some (.inr 120) := rfl
theorem qb_s10 : qb_sh[10]? = some (.inr 7) := rfl
theorem qb_s11 : qb_sh[11]? = some (.inl (7, [some (some 12), some (some 13), some (some 14), some (some 15), some (some 16), some (some 17), some (some 18), some (some 19), some (some 20), some (some 21), some (some 22), some (some 23), some (some 24), none])) := rfl
theorem qb_s12 : qb_sh[12]? = some (.inr 30) := rfl
theorem qb_s13 : qb_sh[13]? = some (.inr 30) := rfl
theorem qb_s14 : qb_sh[14]? = some (.inr 30) := rfl
theorem qb_s15 : qb_sh[15]? = some (.inr 30) := rfl
theorem qb_s16 : qb_sh[16]? = some (.inr 30) := rfl
theorem qb_s17 : qb_sh[17]? = some (.inr 30) := rfl
theorem qb_s18 : qb_sh[18]? = some (.inr 30) := rfl
theorem qb_s19 : qb_sh[19]? = some (.inr 30) := rfl
theorem qb_s20 : qb_sh[20]? = some (.inr 30) := rfl
theorem qb_s21 : qb_sh[21]? = some (.inr 4) := rfl
theorem qb_s22 : qb_sh[22]? = some (.inr 4) := rfl
theorem qb_s23 : qb_sh[23]? = some (.inr 4) := rfl
theorem qb_s24 : qb_sh[24]? = some (.inr 4) := rfl
theorem qb_s25 : qb_sh[25]? = some (.inl (2, [none, none, none, none, none, none, none, none, none, none])) := rfl
theorem qb_s26 : qb_sh[26]? = some (.inl (8, [some (some 27), some (some 28), some (some 29), some (some 30), none])) := rfl
theorem qb_s27 : qb_sh[27]? = some (.inr 12) := rfl
theorem qb_s28 : qb_sh[28]? = some (.inr 12) := rfl
theorem qb_s29 : qb_sh[29]? = some (.inr 12) := rfl
theorem qb_s30 : qb_sh[30]? = some (.inr 12) := rfl
theorem qb_s31 : qb_sh[31]? = some (.inr 5) := rfl
theorem qb_s32 : qb_sh[32]? = some (.inl (6, [some (some 33), some (some 34), some (some 35), none, none, none])) := rfl
theorem qb_s33 : qb_sh[33]? = some (.inr 30) := rfl
theorem qb_s34 : qb_sh[34]? = some (.inr 30) := rfl
theorem qb_s35 : qb_sh[35]? = some (.inr 3) := rfl
theorem qb_s36 : qb_sh[36]? = some (.inl (1, [some (some 37), some (some 38), some (some 39)])) := rfl
theorem qb_s37 : qb_sh[37]? = some (.inr 10) := rfl
theorem qb_s38 : qb_sh[38]? = some (.inr 10) := rfl
theorem qb_s39 : qb_sh[39]? = some (.inr 10) := rfl
theorem qb_s40 : qb_sh[40]? = some (.inl (5, [some (some 41), some (some 42), some (some 43), some (some 44), none])) := rfl
theorem qb_s41 : qb_sh[41]? = some (.inr 60) := rfl
theorem qb_s42 : qb_sh[42]? = some (.inr 60) := rfl
theorem qb_s43 : qb_sh[43]? = some (.inr 60) := rfl
theorem qb_s44 : qb_sh[44]? = some (.inr 60) := rfl
theorem qb_s45 : qb_sh[45]? = some (.inl (5, [some (some 46), some (some 47), some (some 48), some (some 49), none])) := rfl
theorem qb_s46 : qb_sh[46]? = some (.inr 60) := rfl
theorem qb_s47 : qb_sh[47]? = some (.inr 60) := rfl
theorem qb_s48 : qb_sh[48]? = some (.inr 60) := rfl
theorem qb_s49 : qb_sh[49]? = some (.inr 60) := rfl
theorem qb_s50 : qb_sh[50]? = some (.inl (9, [some (some 51), some (some 52), some (some 53), none, none, none])) := rfl
theorem qb_s51 : qb_sh[51]? = some (.inr 30) := rfl
theorem qb_s52 : qb_sh[52]? = some (.inr 5) := rfl
theorem qb_s53 : qb_sh[53]? = some (.inr 128) := rfl
theorem qb_s54 : qb_sh[54]? = some (.inl (4, [some (some 55), some (some 56), some (some 57), some (some 58), some (some 59)])) := rfl
theorem qb_s55 : qb_sh[55]? = some (.inr 4) := rfl
theorem qb_s56 : qb_sh[56]? = some (.inr 4) := rfl
theorem qb_s57 : qb_sh[57]? = some (.inr 4) := rfl
theorem qb_s58 : qb_sh[58]? = some (.inr 4) := rfl
theorem qb_s59 : qb_sh[59]? = some (.inr 2205) := rfl
theorem qb_s60 : qb_sh[60]? = some (.inl (11, [none, some (some 61), none, some (some 62), some (some 63), some (some 64), some (some 65), some (some 66), some (some 67), none, some (some 68), none, some (some 69), none, some (some 70), some (some 71), some (some 72), some (some 73), none, some (some 74), some (some 75), some (some 76), some (some 77), some (some 78), none, some (some 79), some (some 80), some (some 81), some (some 82), none, none, none, none, none, some (some 83), some (some 84), some (some 85), some (some 86), none, none, none, none, none, none, none, none, none, none, some (some 87), some (some 88)])) := rfl
theorem qb_s61 : qb_sh[61]? = some (.inr 60) := rfl
theorem qb_s62 : qb_sh[62]? = some (.inr 8) := rfl
theorem qb_s63 : qb_sh[63]? = some (.inr 8) := rfl
theorem qb_s64 : qb_sh[64]? = some (.inr 480) := rfl
theorem qb_s65 : qb_sh[65]? = some (.inr 4) := rfl
theorem qb_s66 : qb_sh[66]? = some (.inr 4) := rfl
theorem qb_s67 : qb_sh[67]? = some (.inr 7) := rfl
theorem qb_s68 : qb_sh[68]? = some (.inr 210) := rfl
theorem qb_s69 : qb_sh[69]? = some (.inr 48) := rfl
theorem qb_s70 : qb_sh[70]? = some (.inr 96) := rfl
theorem qb_s71 : qb_sh[71]? = some (.inr 10) := rfl
theorem qb_s72 : qb_sh[72]? = some (.inr 10) := rfl
theorem qb_s73 : qb_sh[73]? = some (.inr 10) := rfl
theorem qb_s74 : qb_sh[74]? = some (.inr 60) := rfl
theorem qb_s75 : qb_sh[75]? = some (.inr 60) := rfl
theorem qb_s76 : qb_sh[76]? = some (.inr 60) := rfl
theorem qb_s77 : qb_sh[77]? = some (.inr 4) := rfl
theorem qb_s78 : qb_sh[78]? = some (.inr 4) := rfl
theorem qb_s79 : qb_sh[79]? = some (.inr 60) := rfl
theorem qb_s80 : qb_sh[80]? = some (.inr 60) := rfl
theorem qb_s81 : qb_sh[81]? = some (.inr 60) := rfl
theorem qb_s82 : qb_sh[82]? = some (.inr 60) := rfl
theorem qb_s83 : qb_sh[83]? = some (.inr 2400) := rfl
theorem qb_s84 : qb_sh[84]? = some (.inr 2400) := rfl
theorem qb_s85 : qb_sh[85]? = some (.inr 2400) := rfl
theorem qb_s86 : qb_sh[86]? = some (.inr 30) := rfl
theorem qb_s87 : qb_sh[87]? = some (.inr 5) := rfl
theorem qb_s88 : qb_sh[88]? = some (.inr 2205) := rfl
theorem qf_X0_9 : qb_FL RX0 9 0 0 true (.array .int) := ⟨RX0, TX0, 7, rfl, by decide, qb_wg_in 106 (by decide +kernel) (by decide +kernel), rfl, by decide +kernel⟩
theorem qf_X0_15 : qb_FL RX0 15 0 1 true (.array .int) := ⟨RX0, TX0, 7, rfl, by decide, qb_wg_in 107 (by decide +kernel) (by decide +kernel), rfl, by decide +kernel⟩
theorem qf_X0_18 : qb_FL RX0 18 0 2 true (.array .int) := ⟨RX0, TX0, 7, rfl, by decide, qb_wg_in 108 (by decide +kernel) (by decide +kernel), rfl, by decide +kernel⟩
theorem qf_X0_21 : qb_FL RX0 21 0 3 true (.array .int) := ⟨RX0, TX0, 7, rfl, by decide, qb_wg_in 109 (by decide +kernel) (by decide +kernel), rfl, by decide +kernel⟩
theorem qf_X0_24 : qb_FL RX0 24 0 4 true (.array .int) := ⟨RX0, TX0, 7, rfl, by decide, qb_wg_in 110 (by decide +kernel) (by decide +kernel), rfl, by decide +kernel⟩
theorem qf_X0_27 : qb_FL RX0 27 0 5 true (.array .int) := ⟨RX0, TX0, 7, rfl, by decide, qb_wg_in 111 (by decide +kernel) (by decide +kernel), rfl, by decide +kernel⟩
theorem qf_X0_34 : qb_FL RX0 34 0 6 false .int := ⟨RX0, TX0, 7, rfl, by decide, qb_wg_in 113 (by decide +kernel) (by decide +kernel), rfl, by decide +kernel⟩
theorem qf_X0_38 : qb_FL RX0 38 3 1 false .int := ⟨RX3, TX3, 2, rfl, by decide, qb_wg_in 93 (by decide +kernel) (by decide +kernel), rfl, by decide +kernel⟩
theorem qf_X0_41 : qb_FL RX0 41 3 0 true (.array .int) := ⟨RX3, TX3, 2, rfl, by decide, qb_wg_in 90 (by decide +kernel) (by decide +kernel), rfl, by decide +kernel⟩
theorem qf_X1_9 : qb_FL RX1 9 1 0 true (.array .int) := ⟨RX1, TX1, 3, rfl, by decide, qb_wg_in 290 (by decide +kernel) (by decide +kernel), rfl, by decide +kernel⟩
theorem qf_X1_15 : qb_FL RX1 15 1 1 true (.array .int) := ⟨RX1, TX1, 3, rfl, by decide, qb_wg_in 291 (by decide +kernel) (by decide +kernel), rfl, by decide +kernel⟩
theorem qf_X1_18 : qb_FL RX1 18 1 2 true (.array .int) := ⟨RX1, TX1, 3, rfl, by decide, qb_wg_in 292 (by decide +kernel) (by decide +kernel), rfl, by decide +kernel⟩
theorem qf_X10_10 : qb_FL RX10 10 10 0 true (.object "QuayBrands$Draft") := ⟨RX10, TX10, 13, rfl, by decide, qb_wg_in 378 (by decide +kernel) (by decide +kernel), rfl, by decide +kernel⟩
theorem qf_X10_19 : qb_FL RX10 19 10 1 true (.object "QuayBrands$Acts") := ⟨RX10, TX10, 13, rfl, by decide, qb_wg_in 379 (by decide +kernel) (by decide +kernel), rfl, by decide +kernel⟩
theorem qf_X10_23 : qb_FL RX10 23 10 2 true (.array .int) := ⟨RX10, TX10, 13, rfl, by decide, qb_wg_in 380 (by decide +kernel) (by decide +kernel), rfl, by decide +kernel⟩
theorem qf_X10_30 : qb_FL RX10 30 10 3 true (.object "QuayBrands$Landings") := ⟨RX10, TX10, 13, rfl, by decide, qb_wg_in 381 (by decide +kernel) (by decide +kernel), rfl, by decide +kernel⟩
theorem qf_X10_37 : qb_FL RX10 37 10 4 true (.object "QuayBrands$Cask") := ⟨RX10, TX10, 13, rfl, by decide, qb_wg_in 382 (by decide +kernel) (by decide +kernel), rfl, by decide +kernel⟩
theorem qf_X10_44 : qb_FL RX10 44 10 5 true (.object "QuayBrands$Salts") := ⟨RX10, TX10, 13, rfl, by decide, qb_wg_in 383 (by decide +kernel) (by decide +kernel), rfl, by decide +kernel⟩
theorem qf_X10_48 : qb_FL RX10 48 10 6 true (.array .int) := ⟨RX10, TX10, 13, rfl, by decide, qb_wg_in 384 (by decide +kernel) (by decide +kernel), rfl, by decide +kernel⟩
theorem qf_X10_54 : qb_FL RX10 54 10 7 true (.object "QuayBrands$Judged") := ⟨RX10, TX10, 13, rfl, by decide, qb_wg_in 385 (by decide +kernel) (by decide +kernel), rfl, by decide +kernel⟩
theorem qf_X10_61 : qb_FL RX10 61 10 8 true (.object "QuayBrands$Boats") := ⟨RX10, TX10, 13, rfl, by decide, qb_wg_in 386 (by decide +kernel) (by decide +kernel), rfl, by decide +kernel⟩
theorem qf_X10_68 : qb_FL RX10 68 10 9 true (.object "QuayBrands$Forecasts") := ⟨RX10, TX10, 13, rfl, by decide, qb_wg_in 387 (by decide +kernel) (by decide +kernel), rfl, by decide +kernel⟩
theorem qf_X10_72 : qb_FL RX10 72 10 10 true (.object "QuayBrands$Forecasts") := ⟨RX10, TX10, 13, rfl, by decide, qb_wg_in 388 (by decide +kernel) (by decide +kernel), rfl, by decide +kernel⟩
theorem qf_X10_78 : qb_FL RX10 78 10 11 true (.object "QuayBrands$Spreading") := ⟨RX10, TX10, 13, rfl, by decide, qb_wg_in 389 (by decide +kernel) (by decide +kernel), rfl, by decide +kernel⟩
theorem qf_X10_85 : qb_FL RX10 85 10 12 true (.object "QuayBrands$Fleet") := ⟨RX10, TX10, 13, rfl, by decide, qb_wg_in 390 (by decide +kernel) (by decide +kernel), rfl, by decide +kernel⟩
theorem qf_X10_93 : qb_FL RX10 93 3 1 false .int := ⟨RX3, TX3, 2, rfl, by decide, qb_wg_in 92 (by decide +kernel) (by decide +kernel), rfl, by decide +kernel⟩
theorem qf_X10_112 : qb_FL RX10 112 0 6 false .int := ⟨RX0, TX0, 7, rfl, by decide, qb_wg_in 112 (by decide +kernel) (by decide +kernel), rfl, by decide +kernel⟩
theorem qf_X10_139 : qb_FL RX10 139 7 9 true (.array .int) := ⟨RX7, TX7, 14, rfl, by decide, qb_wg_in 152 (by decide +kernel) (by decide +kernel), rfl, by decide +kernel⟩
theorem qf_X10_142 : qb_FL RX10 142 7 10 true (.array .int) := ⟨RX7, TX7, 14, rfl, by decide, qb_wg_in 154 (by decide +kernel) (by decide +kernel), rfl, by decide +kernel⟩
theorem qf_X10_160 : qb_FL RX10 160 7 13 false .int := ⟨RX7, TX7, 14, rfl, by decide, qb_wg_in 160 (by decide +kernel) (by decide +kernel), rfl, by decide +kernel⟩
theorem qf_X10_170 : qb_FL RX10 170 7 1 true (.array .int) := ⟨RX7, TX7, 14, rfl, by decide, qb_wg_in 139 (by decide +kernel) (by decide +kernel), rfl, by decide +kernel⟩
theorem qf_X10_173 : qb_FL RX10 173 7 0 true (.array .int) := ⟨RX7, TX7, 14, rfl, by decide, qb_wg_in 136 (by decide +kernel) (by decide +kernel), rfl, by decide +kernel⟩
theorem qf_X10_175 : qb_FL RX10 175 7 2 true (.array .int) := ⟨RX7, TX7, 14, rfl, by decide, qb_wg_in 141 (by decide +kernel) (by decide +kernel), rfl, by decide +kernel⟩
theorem qf_X10_178 : qb_FL RX10 178 7 3 true (.array .int) := ⟨RX7, TX7, 14, rfl, by decide, qb_wg_in 143 (by decide +kernel) (by decide +kernel), rfl, by decide +kernel⟩
theorem qf_X10_181 : qb_FL RX10 181 7 4 true (.array .int) := ⟨RX7, TX7, 14, rfl, by decide, qb_wg_in 145 (by decide +kernel) (by decide +kernel), rfl, by decide +kernel⟩
theorem qf_X10_190 : qb_FL RX10 190 8 4 false .int := ⟨RX8, TX8, 5, rfl, by decide, qb_wg_in 246 (by decide +kernel) (by decide +kernel), rfl, by decide +kernel⟩
theorem qf_X10_207 : qb_FL RX10 207 6 4 false .int := ⟨RX6, TX6, 6, rfl, by decide, qb_wg_in 269 (by decide +kernel) (by decide +kernel), rfl, by decide +kernel⟩
theorem qf_X10_228 : qb_FL RX10 228 5 4 false .int := ⟨RX5, TX5, 5, rfl, by decide, qb_wg_in 312 (by decide +kernel) (by decide +kernel), rfl, by decide +kernel⟩
theorem qf_X10_260 : qb_FL RX10 260 7 12 true (.array .int) := ⟨RX7, TX7, 14, rfl, by decide, qb_wg_in 157 (by decide +kernel) (by decide +kernel), rfl, by decide +kernel⟩
theorem qf_X10_267 : qb_FL RX10 267 9 4 false .int := ⟨RX9, TX9, 6, rfl, by decide, qb_wg_in 337 (by decide +kernel) (by decide +kernel), rfl, by decide +kernel⟩
theorem qf_X10_272 : qb_FL RX10 272 9 3 false .int := ⟨RX9, TX9, 6, rfl, by decide, qb_wg_in 335 (by decide +kernel) (by decide +kernel), rfl, by decide +kernel⟩
theorem qf_X10_273 : qb_FL RX10 273 9 1 true (.array .int) := ⟨RX9, TX9, 6, rfl, by decide, qb_wg_in 332 (by decide +kernel) (by decide +kernel), rfl, by decide +kernel⟩
theorem qf_X10_276 : qb_FL RX10 276 4 0 true (.array .int) := ⟨RX4, TX4, 5, rfl, by decide, qb_wg_in 359 (by decide +kernel) (by decide +kernel), rfl, by decide +kernel⟩
theorem qf_X10_279 : qb_FL RX10 279 4 1 true (.array .int) := ⟨RX4, TX4, 5, rfl, by decide, qb_wg_in 361 (by decide +kernel) (by decide +kernel), rfl, by decide +kernel⟩
theorem qf_X10_285 : qb_FL RX10 285 4 2 true (.array .int) := ⟨RX4, TX4, 5, rfl, by decide, qb_wg_in 363 (by decide +kernel) (by decide +kernel), rfl, by decide +kernel⟩
theorem qf_X10_288 : qb_FL RX10 288 4 3 true (.array .int) := ⟨RX4, TX4, 5, rfl, by decide, qb_wg_in 365 (by decide +kernel) (by decide +kernel), rfl, by decide +kernel⟩
theorem qf_X10_315 : qb_FL RX10 315 2 2 false .int := ⟨RX2, TX2, 10, rfl, by decide, qb_wg_in 202 (by decide +kernel) (by decide +kernel), rfl, by decide +kernel⟩
theorem qf_X10_318 : qb_FL RX10 318 2 3 false .int := ⟨RX2, TX2, 10, rfl, by decide, qb_wg_in 204 (by decide +kernel) (by decide +kernel), rfl, by decide +kernel⟩
theorem qf_X10_324 : qb_FL RX10 324 2 0 false .int := ⟨RX2, TX2, 10, rfl, by decide, qb_wg_in 198 (by decide +kernel) (by decide +kernel), rfl, by decide +kernel⟩
theorem qf_X10_333 : qb_FL RX10 333 2 4 false .int := ⟨RX2, TX2, 10, rfl, by decide, qb_wg_in 206 (by decide +kernel) (by decide +kernel), rfl, by decide +kernel⟩
theorem qf_X10_336 : qb_FL RX10 336 2 5 false .int := ⟨RX2, TX2, 10, rfl, by decide, qb_wg_in 208 (by decide +kernel) (by decide +kernel), rfl, by decide +kernel⟩
theorem qf_X10_343 : qb_FL RX10 343 2 6 false .boolean := ⟨RX2, TX2, 10, rfl, by decide, qb_wg_in 210 (by decide +kernel) (by decide +kernel), rfl, by decide +kernel⟩
theorem qf_X10_347 : qb_FL RX10 347 7 5 true (.array .int) := ⟨RX7, TX7, 14, rfl, by decide, qb_wg_in 147 (by decide +kernel) (by decide +kernel), rfl, by decide +kernel⟩
theorem qf_X10_355 : qb_FL RX10 355 1 2 true (.array .int) := ⟨RX1, TX1, 3, rfl, by decide, qb_wg_in 293 (by decide +kernel) (by decide +kernel), rfl, by decide +kernel⟩
theorem qf_X11_7 : qb_FL RX11 7 11 1 true (.array .int) := ⟨RX11, TX11, 50, rfl, by decide, qb_wg_in 912 (by decide +kernel) (by decide +kernel), rfl, by decide +kernel⟩
theorem qf_X11_13 : qb_FL RX11 13 11 3 true (.array .int) := ⟨RX11, TX11, 50, rfl, by decide, qb_wg_in 914 (by decide +kernel) (by decide +kernel), rfl, by decide +kernel⟩
theorem qf_X11_16 : qb_FL RX11 16 11 4 true (.array .int) := ⟨RX11, TX11, 50, rfl, by decide, qb_wg_in 915 (by decide +kernel) (by decide +kernel), rfl, by decide +kernel⟩
theorem qf_X11_19 : qb_FL RX11 19 11 5 true (.array .int) := ⟨RX11, TX11, 50, rfl, by decide, qb_wg_in 916 (by decide +kernel) (by decide +kernel), rfl, by decide +kernel⟩
theorem qf_X11_22 : qb_FL RX11 22 11 6 true (.array .int) := ⟨RX11, TX11, 50, rfl, by decide, qb_wg_in 917 (by decide +kernel) (by decide +kernel), rfl, by decide +kernel⟩
theorem qf_X11_25 : qb_FL RX11 25 11 7 true (.array .int) := ⟨RX11, TX11, 50, rfl, by decide, qb_wg_in 918 (by decide +kernel) (by decide +kernel), rfl, by decide +kernel⟩
theorem qf_X11_28 : qb_FL RX11 28 11 8 true (.array .int) := ⟨RX11, TX11, 50, rfl, by decide, qb_wg_in 919 (by decide +kernel) (by decide +kernel), rfl, by decide +kernel⟩
theorem qf_X11_31 : qb_FL RX11 31 11 10 true (.array .int) := ⟨RX11, TX11, 50, rfl, by decide, qb_wg_in 921 (by decide +kernel) (by decide +kernel), rfl, by decide +kernel⟩
theorem qf_X11_34 : qb_FL RX11 34 11 12 true (.array .int) := ⟨RX11, TX11, 50, rfl, by decide, qb_wg_in 923 (by decide +kernel) (by decide +kernel), rfl, by decide +kernel⟩
theorem qf_X11_37 : qb_FL RX11 37 11 14 true (.array .int) := ⟨RX11, TX11, 50, rfl, by decide, qb_wg_in 925 (by decide +kernel) (by decide +kernel), rfl, by decide +kernel⟩
theorem qf_X11_40 : qb_FL RX11 40 11 15 true (.array .int) := ⟨RX11, TX11, 50, rfl, by decide, qb_wg_in 926 (by decide +kernel) (by decide +kernel), rfl, by decide +kernel⟩
theorem qf_X11_43 : qb_FL RX11 43 11 16 true (.array .int) := ⟨RX11, TX11, 50, rfl, by decide, qb_wg_in 927 (by decide +kernel) (by decide +kernel), rfl, by decide +kernel⟩
theorem qf_X11_46 : qb_FL RX11 46 11 17 true (.array .int) := ⟨RX11, TX11, 50, rfl, by decide, qb_wg_in 928 (by decide +kernel) (by decide +kernel), rfl, by decide +kernel⟩
theorem qf_X11_49 : qb_FL RX11 49 11 19 true (.array .int) := ⟨RX11, TX11, 50, rfl, by decide, qb_wg_in 930 (by decide +kernel) (by decide +kernel), rfl, by decide +kernel⟩
theorem qf_X11_52 : qb_FL RX11 52 11 20 true (.array .int) := ⟨RX11, TX11, 50, rfl, by decide, qb_wg_in 931 (by decide +kernel) (by decide +kernel), rfl, by decide +kernel⟩
theorem qf_X11_55 : qb_FL RX11 55 11 21 true (.array .int) := ⟨RX11, TX11, 50, rfl, by decide, qb_wg_in 932 (by decide +kernel) (by decide +kernel), rfl, by decide +kernel⟩
theorem qf_X11_58 : qb_FL RX11 58 11 22 true (.array .int) := ⟨RX11, TX11, 50, rfl, by decide, qb_wg_in 933 (by decide +kernel) (by decide +kernel), rfl, by decide +kernel⟩
theorem qf_X11_61 : qb_FL RX11 61 11 23 true (.array .int) := ⟨RX11, TX11, 50, rfl, by decide, qb_wg_in 934 (by decide +kernel) (by decide +kernel), rfl, by decide +kernel⟩
theorem qf_X11_64 : qb_FL RX11 64 11 25 true (.array .int) := ⟨RX11, TX11, 50, rfl, by decide, qb_wg_in 936 (by decide +kernel) (by decide +kernel), rfl, by decide +kernel⟩
theorem qf_X11_67 : qb_FL RX11 67 11 26 true (.array .int) := ⟨RX11, TX11, 50, rfl, by decide, qb_wg_in 937 (by decide +kernel) (by decide +kernel), rfl, by decide +kernel⟩
theorem qf_X11_70 : qb_FL RX11 70 11 27 true (.array .int) := ⟨RX11, TX11, 50, rfl, by decide, qb_wg_in 938 (by decide +kernel) (by decide +kernel), rfl, by decide +kernel⟩
theorem qf_X11_73 : qb_FL RX11 73 11 28 true (.array .int) := ⟨RX11, TX11, 50, rfl, by decide, qb_wg_in 939 (by decide +kernel) (by decide +kernel), rfl, by decide +kernel⟩
theorem qf_X11_76 : qb_FL RX11 76 11 34 true (.array .int) := ⟨RX11, TX11, 50, rfl, by decide, qb_wg_in 945 (by decide +kernel) (by decide +kernel), rfl, by decide +kernel⟩
theorem qf_X11_79 : qb_FL RX11 79 11 35 true (.array .int) := ⟨RX11, TX11, 50, rfl, by decide, qb_wg_in 946 (by decide +kernel) (by decide +kernel), rfl, by decide +kernel⟩
theorem qf_X11_82 : qb_FL RX11 82 11 36 true (.array .int) := ⟨RX11, TX11, 50, rfl, by decide, qb_wg_in 947 (by decide +kernel) (by decide +kernel), rfl, by decide +kernel⟩
theorem qf_X11_85 : qb_FL RX11 85 11 37 true (.array .int) := ⟨RX11, TX11, 50, rfl, by decide, qb_wg_in 948 (by decide +kernel) (by decide +kernel), rfl, by decide +kernel⟩
theorem qf_X11_88 : qb_FL RX11 88 11 48 true (.array .int) := ⟨RX11, TX11, 50, rfl, by decide, qb_wg_in 959 (by decide +kernel) (by decide +kernel), rfl, by decide +kernel⟩
theorem qf_X11_91 : qb_FL RX11 91 11 49 true (.array .int) := ⟨RX11, TX11, 50, rfl, by decide, qb_wg_in 960 (by decide +kernel) (by decide +kernel), rfl, by decide +kernel⟩
theorem qf_X11_98 : qb_FL RX11 98 11 0 false .int := ⟨RX11, TX11, 50, rfl, by decide, qb_wg_in 911 (by decide +kernel) (by decide +kernel), rfl, by decide +kernel⟩
theorem qf_X11_113 : qb_FL RX11 113 11 2 false .int := ⟨RX11, TX11, 50, rfl, by decide, qb_wg_in 913 (by decide +kernel) (by decide +kernel), rfl, by decide +kernel⟩
theorem qf_X11_120 : qb_FL RX11 120 11 30 false .int := ⟨RX11, TX11, 50, rfl, by decide, qb_wg_in 941 (by decide +kernel) (by decide +kernel), rfl, by decide +kernel⟩
theorem qf_X11_127 : qb_FL RX11 127 11 31 false .int := ⟨RX11, TX11, 50, rfl, by decide, qb_wg_in 942 (by decide +kernel) (by decide +kernel), rfl, by decide +kernel⟩
theorem qf_X11_136 : qb_FL RX11 136 11 9 false .int := ⟨RX11, TX11, 50, rfl, by decide, qb_wg_in 920 (by decide +kernel) (by decide +kernel), rfl, by decide +kernel⟩
theorem qf_X11_145 : qb_FL RX11 145 11 33 false .int := ⟨RX11, TX11, 50, rfl, by decide, qb_wg_in 944 (by decide +kernel) (by decide +kernel), rfl, by decide +kernel⟩
theorem qf_X11_148 : qb_FL RX11 148 11 38 false .int := ⟨RX11, TX11, 50, rfl, by decide, qb_wg_in 949 (by decide +kernel) (by decide +kernel), rfl, by decide +kernel⟩
theorem qf_X11_151 : qb_FL RX11 151 11 39 false .int := ⟨RX11, TX11, 50, rfl, by decide, qb_wg_in 950 (by decide +kernel) (by decide +kernel), rfl, by decide +kernel⟩
theorem qf_X11_164 : qb_FL RX11 164 11 11 false .int := ⟨RX11, TX11, 50, rfl, by decide, qb_wg_in 922 (by decide +kernel) (by decide +kernel), rfl, by decide +kernel⟩
theorem qf_X11_167 : qb_FL RX11 167 11 29 false .int := ⟨RX11, TX11, 50, rfl, by decide, qb_wg_in 940 (by decide +kernel) (by decide +kernel), rfl, by decide +kernel⟩
theorem qf_X11_170 : qb_FL RX11 170 11 40 false .int := ⟨RX11, TX11, 50, rfl, by decide, qb_wg_in 951 (by decide +kernel) (by decide +kernel), rfl, by decide +kernel⟩
theorem qf_X11_173 : qb_FL RX11 173 11 41 false .int := ⟨RX11, TX11, 50, rfl, by decide, qb_wg_in 952 (by decide +kernel) (by decide +kernel), rfl, by decide +kernel⟩
theorem qf_X11_176 : qb_FL RX11 176 11 32 false .int := ⟨RX11, TX11, 50, rfl, by decide, qb_wg_in 943 (by decide +kernel) (by decide +kernel), rfl, by decide +kernel⟩
theorem qf_X11_201 : qb_FL RX11 201 11 13 false .int := ⟨RX11, TX11, 50, rfl, by decide, qb_wg_in 924 (by decide +kernel) (by decide +kernel), rfl, by decide +kernel⟩
theorem qf_X11_223 : qb_FL RX11 223 11 18 false .int := ⟨RX11, TX11, 50, rfl, by decide, qb_wg_in 929 (by decide +kernel) (by decide +kernel), rfl, by decide +kernel⟩
theorem qf_X11_229 : qb_FL RX11 229 11 42 false .int := ⟨RX11, TX11, 50, rfl, by decide, qb_wg_in 953 (by decide +kernel) (by decide +kernel), rfl, by decide +kernel⟩
theorem qf_X11_232 : qb_FL RX11 232 11 43 false .int := ⟨RX11, TX11, 50, rfl, by decide, qb_wg_in 954 (by decide +kernel) (by decide +kernel), rfl, by decide +kernel⟩
theorem qf_X11_235 : qb_FL RX11 235 11 44 false .int := ⟨RX11, TX11, 50, rfl, by decide, qb_wg_in 955 (by decide +kernel) (by decide +kernel), rfl, by decide +kernel⟩
theorem qf_X11_248 : qb_FL RX11 248 11 47 false .int := ⟨RX11, TX11, 50, rfl, by decide, qb_wg_in 958 (by decide +kernel) (by decide +kernel), rfl, by decide +kernel⟩
theorem qf_X11_251 : qb_FL RX11 251 11 45 false .int := ⟨RX11, TX11, 50, rfl, by decide, qb_wg_in 956 (by decide +kernel) (by decide +kernel), rfl, by decide +kernel⟩
theorem qf_X11_260 : qb_FL RX11 260 11 46 false .int := ⟨RX11, TX11, 50, rfl, by decide, qb_wg_in 957 (by decide +kernel) (by decide +kernel), rfl, by decide +kernel⟩
theorem qf_X11_266 : qb_FL RX11 266 11 24 false .int := ⟨RX11, TX11, 50, rfl, by decide, qb_wg_in 935 (by decide +kernel) (by decide +kernel), rfl, by decide +kernel⟩
theorem qf_X2_9 : qb_FL RX2 9 2 0 false .int := ⟨RX2, TX2, 10, rfl, by decide, qb_wg_in 196 (by decide +kernel) (by decide +kernel), rfl, by decide +kernel⟩
theorem qf_X2_15 : qb_FL RX2 15 2 1 false .int := ⟨RX2, TX2, 10, rfl, by decide, qb_wg_in 199 (by decide +kernel) (by decide +kernel), rfl, by decide +kernel⟩
theorem qf_X2_18 : qb_FL RX2 18 2 2 false .int := ⟨RX2, TX2, 10, rfl, by decide, qb_wg_in 201 (by decide +kernel) (by decide +kernel), rfl, by decide +kernel⟩
theorem qf_X2_21 : qb_FL RX2 21 2 7 false .int := ⟨RX2, TX2, 10, rfl, by decide, qb_wg_in 211 (by decide +kernel) (by decide +kernel), rfl, by decide +kernel⟩
theorem qf_X2_24 : qb_FL RX2 24 2 3 false .int := ⟨RX2, TX2, 10, rfl, by decide, qb_wg_in 203 (by decide +kernel) (by decide +kernel), rfl, by decide +kernel⟩
theorem qf_X2_27 : qb_FL RX2 27 2 8 false .int := ⟨RX2, TX2, 10, rfl, by decide, qb_wg_in 212 (by decide +kernel) (by decide +kernel), rfl, by decide +kernel⟩
theorem qf_X2_30 : qb_FL RX2 30 2 4 false .int := ⟨RX2, TX2, 10, rfl, by decide, qb_wg_in 205 (by decide +kernel) (by decide +kernel), rfl, by decide +kernel⟩
theorem qf_X2_33 : qb_FL RX2 33 2 9 false .int := ⟨RX2, TX2, 10, rfl, by decide, qb_wg_in 213 (by decide +kernel) (by decide +kernel), rfl, by decide +kernel⟩
theorem qf_X2_36 : qb_FL RX2 36 2 5 false .int := ⟨RX2, TX2, 10, rfl, by decide, qb_wg_in 207 (by decide +kernel) (by decide +kernel), rfl, by decide +kernel⟩
theorem qf_X2_48 : qb_FL RX2 48 2 6 false .boolean := ⟨RX2, TX2, 10, rfl, by decide, qb_wg_in 209 (by decide +kernel) (by decide +kernel), rfl, by decide +kernel⟩
theorem qf_X3_9 : qb_FL RX3 9 3 0 true (.array .int) := ⟨RX3, TX3, 2, rfl, by decide, qb_wg_in 89 (by decide +kernel) (by decide +kernel), rfl, by decide +kernel⟩
theorem qf_X3_15 : qb_FL RX3 15 3 1 false .int := ⟨RX3, TX3, 2, rfl, by decide, qb_wg_in 91 (by decide +kernel) (by decide +kernel), rfl, by decide +kernel⟩
theorem qf_X4_15 : qb_FL RX4 15 4 1 true (.array .int) := ⟨RX4, TX4, 5, rfl, by decide, qb_wg_in 360 (by decide +kernel) (by decide +kernel), rfl, by decide +kernel⟩
theorem qf_X4_18 : qb_FL RX4 18 4 2 true (.array .int) := ⟨RX4, TX4, 5, rfl, by decide, qb_wg_in 362 (by decide +kernel) (by decide +kernel), rfl, by decide +kernel⟩
theorem qf_X4_21 : qb_FL RX4 21 4 3 true (.array .int) := ⟨RX4, TX4, 5, rfl, by decide, qb_wg_in 364 (by decide +kernel) (by decide +kernel), rfl, by decide +kernel⟩
theorem qf_X4_24 : qb_FL RX4 24 4 4 true (.array .int) := ⟨RX4, TX4, 5, rfl, by decide, qb_wg_in 366 (by decide +kernel) (by decide +kernel), rfl, by decide +kernel⟩
theorem qf_X5_9 : qb_FL RX5 9 5 0 true (.array .int) := ⟨RX5, TX5, 5, rfl, by decide, qb_wg_in 307 (by decide +kernel) (by decide +kernel), rfl, by decide +kernel⟩
theorem qf_X5_15 : qb_FL RX5 15 5 1 true (.array .int) := ⟨RX5, TX5, 5, rfl, by decide, qb_wg_in 308 (by decide +kernel) (by decide +kernel), rfl, by decide +kernel⟩
theorem qf_X5_18 : qb_FL RX5 18 5 2 true (.array .int) := ⟨RX5, TX5, 5, rfl, by decide, qb_wg_in 309 (by decide +kernel) (by decide +kernel), rfl, by decide +kernel⟩
theorem qf_X5_21 : qb_FL RX5 21 5 3 true (.array .int) := ⟨RX5, TX5, 5, rfl, by decide, qb_wg_in 310 (by decide +kernel) (by decide +kernel), rfl, by decide +kernel⟩
theorem qf_X5_24 : qb_FL RX5 24 5 4 false .int := ⟨RX5, TX5, 5, rfl, by decide, qb_wg_in 311 (by decide +kernel) (by decide +kernel), rfl, by decide +kernel⟩
theorem qf_X6_9 : qb_FL RX6 9 6 0 true (.array .int) := ⟨RX6, TX6, 6, rfl, by decide, qb_wg_in 264 (by decide +kernel) (by decide +kernel), rfl, by decide +kernel⟩
theorem qf_X6_15 : qb_FL RX6 15 6 1 true (.array .int) := ⟨RX6, TX6, 6, rfl, by decide, qb_wg_in 265 (by decide +kernel) (by decide +kernel), rfl, by decide +kernel⟩
theorem qf_X6_18 : qb_FL RX6 18 6 2 true (.array .int) := ⟨RX6, TX6, 6, rfl, by decide, qb_wg_in 266 (by decide +kernel) (by decide +kernel), rfl, by decide +kernel⟩
theorem qf_X6_21 : qb_FL RX6 21 6 4 false .int := ⟨RX6, TX6, 6, rfl, by decide, qb_wg_in 268 (by decide +kernel) (by decide +kernel), rfl, by decide +kernel⟩
theorem qf_X6_25 : qb_FL RX6 25 6 3 false .int := ⟨RX6, TX6, 6, rfl, by decide, qb_wg_in 267 (by decide +kernel) (by decide +kernel), rfl, by decide +kernel⟩
theorem qf_X6_41 : qb_FL RX6 41 6 5 false .int := ⟨RX6, TX6, 6, rfl, by decide, qb_wg_in 270 (by decide +kernel) (by decide +kernel), rfl, by decide +kernel⟩
theorem qf_X7_9 : qb_FL RX7 9 7 0 true (.array .int) := ⟨RX7, TX7, 14, rfl, by decide, qb_wg_in 135 (by decide +kernel) (by decide +kernel), rfl, by decide +kernel⟩
theorem qf_X7_15 : qb_FL RX7 15 7 1 true (.array .int) := ⟨RX7, TX7, 14, rfl, by decide, qb_wg_in 137 (by decide +kernel) (by decide +kernel), rfl, by decide +kernel⟩
theorem qf_X7_18 : qb_FL RX7 18 7 2 true (.array .int) := ⟨RX7, TX7, 14, rfl, by decide, qb_wg_in 140 (by decide +kernel) (by decide +kernel), rfl, by decide +kernel⟩
theorem qf_X7_21 : qb_FL RX7 21 7 3 true (.array .int) := ⟨RX7, TX7, 14, rfl, by decide, qb_wg_in 142 (by decide +kernel) (by decide +kernel), rfl, by decide +kernel⟩
theorem qf_X7_24 : qb_FL RX7 24 7 4 true (.array .int) := ⟨RX7, TX7, 14, rfl, by decide, qb_wg_in 144 (by decide +kernel) (by decide +kernel), rfl, by decide +kernel⟩
theorem qf_X7_27 : qb_FL RX7 27 7 5 true (.array .int) := ⟨RX7, TX7, 14, rfl, by decide, qb_wg_in 146 (by decide +kernel) (by decide +kernel), rfl, by decide +kernel⟩
theorem qf_X7_30 : qb_FL RX7 30 7 6 true (.array .int) := ⟨RX7, TX7, 14, rfl, by decide, qb_wg_in 148 (by decide +kernel) (by decide +kernel), rfl, by decide +kernel⟩
theorem qf_X7_33 : qb_FL RX7 33 7 7 true (.array .int) := ⟨RX7, TX7, 14, rfl, by decide, qb_wg_in 149 (by decide +kernel) (by decide +kernel), rfl, by decide +kernel⟩
theorem qf_X7_36 : qb_FL RX7 36 7 8 true (.array .int) := ⟨RX7, TX7, 14, rfl, by decide, qb_wg_in 150 (by decide +kernel) (by decide +kernel), rfl, by decide +kernel⟩
theorem qf_X7_39 : qb_FL RX7 39 7 9 true (.array .int) := ⟨RX7, TX7, 14, rfl, by decide, qb_wg_in 151 (by decide +kernel) (by decide +kernel), rfl, by decide +kernel⟩
theorem qf_X7_42 : qb_FL RX7 42 7 10 true (.array .int) := ⟨RX7, TX7, 14, rfl, by decide, qb_wg_in 153 (by decide +kernel) (by decide +kernel), rfl, by decide +kernel⟩
theorem qf_X7_45 : qb_FL RX7 45 7 11 true (.array .int) := ⟨RX7, TX7, 14, rfl, by decide, qb_wg_in 155 (by decide +kernel) (by decide +kernel), rfl, by decide +kernel⟩
theorem qf_X7_48 : qb_FL RX7 48 7 12 true (.array .int) := ⟨RX7, TX7, 14, rfl, by decide, qb_wg_in 156 (by decide +kernel) (by decide +kernel), rfl, by decide +kernel⟩
theorem qf_X7_51 : qb_FL RX7 51 7 13 false .int := ⟨RX7, TX7, 14, rfl, by decide, qb_wg_in 158 (by decide +kernel) (by decide +kernel), rfl, by decide +kernel⟩
theorem qf_X7_83 : qb_FL RX7 83 2 0 false .int := ⟨RX2, TX2, 10, rfl, by decide, qb_wg_in 197 (by decide +kernel) (by decide +kernel), rfl, by decide +kernel⟩
theorem qf_X7_91 : qb_FL RX7 91 2 1 false .int := ⟨RX2, TX2, 10, rfl, by decide, qb_wg_in 200 (by decide +kernel) (by decide +kernel), rfl, by decide +kernel⟩
theorem qf_X8_9 : qb_FL RX8 9 8 0 true (.array .int) := ⟨RX8, TX8, 5, rfl, by decide, qb_wg_in 241 (by decide +kernel) (by decide +kernel), rfl, by decide +kernel⟩
theorem qf_X8_15 : qb_FL RX8 15 8 1 true (.array .int) := ⟨RX8, TX8, 5, rfl, by decide, qb_wg_in 242 (by decide +kernel) (by decide +kernel), rfl, by decide +kernel⟩
theorem qf_X8_18 : qb_FL RX8 18 8 2 true (.array .int) := ⟨RX8, TX8, 5, rfl, by decide, qb_wg_in 243 (by decide +kernel) (by decide +kernel), rfl, by decide +kernel⟩
theorem qf_X8_21 : qb_FL RX8 21 8 3 true (.array .int) := ⟨RX8, TX8, 5, rfl, by decide, qb_wg_in 244 (by decide +kernel) (by decide +kernel), rfl, by decide +kernel⟩
theorem qf_X8_24 : qb_FL RX8 24 8 4 false .int := ⟨RX8, TX8, 5, rfl, by decide, qb_wg_in 245 (by decide +kernel) (by decide +kernel), rfl, by decide +kernel⟩
theorem qf_X9_9 : qb_FL RX9 9 9 0 true (.array .int) := ⟨RX9, TX9, 6, rfl, by decide, qb_wg_in 330 (by decide +kernel) (by decide +kernel), rfl, by decide +kernel⟩
theorem qf_X9_15 : qb_FL RX9 15 9 1 true (.array .int) := ⟨RX9, TX9, 6, rfl, by decide, qb_wg_in 331 (by decide +kernel) (by decide +kernel), rfl, by decide +kernel⟩
theorem qf_X9_18 : qb_FL RX9 18 9 2 true (.array .int) := ⟨RX9, TX9, 6, rfl, by decide, qb_wg_in 333 (by decide +kernel) (by decide +kernel), rfl, by decide +kernel⟩
theorem qf_X9_25 : qb_FL RX9 25 9 3 false .int := ⟨RX9, TX9, 6, rfl, by decide, qb_wg_in 334 (by decide +kernel) (by decide +kernel), rfl, by decide +kernel⟩
theorem qf_X9_35 : qb_FL RX9 35 9 5 false .int := ⟨RX9, TX9, 6, rfl, by decide, qb_wg_in 338 (by decide +kernel) (by decide +kernel), rfl, by decide +kernel⟩
theorem qf_X9_42 : qb_FL RX9 42 9 4 false .int := ⟨RX9, TX9, 6, rfl, by decide, qb_wg_in 336 (by decide +kernel) (by decide +kernel), rfl, by decide +kernel⟩
theorem qf_X9_49 : qb_FL RX9 49 7 13 false .int := ⟨RX7, TX7, 14, rfl, by decide, qb_wg_in 159 (by decide +kernel) (by decide +kernel), rfl, by decide +kernel⟩
theorem qf_X9_50 : qb_FL RX9 50 7 1 true (.array .int) := ⟨RX7, TX7, 14, rfl, by decide, qb_wg_in 138 (by decide +kernel) (by decide +kernel), rfl, by decide +kernel⟩
theorem qcw_mX0_factOf : Cond.code (qb_nm mX0_factOf) (qb_by mX0_factOf) (qb_ml mX0_factOf) (qb_rt mX0_factOf) ∈ qb_wg := qb_wg_in 457 (by decide +kernel) (by decide +kernel)
theorem qci_mX0_factOf : Cond.initialized (qb_nm mX0_factOf).cls ∈ qb_wg := qb_wg_in 62 (by decide +kernel) (by decide +kernel)
theorem qst_mX0_factOf : Cond.static (qb_nm mX0_factOf) ∈ qb_wg := qb_wg_in 456 (by decide +kernel) (by decide +kernel)
theorem qe_mX0_add_mX0_factOf : qb_CS mX0_add mX0_factOf 48 1 := ⟨⟨qcw_mX0_factOf, qci_mX0_factOf, by decide +kernel, by decide +kernel, by decide +kernel⟩, qb_wg_in 479 (by decide +kernel) (by decide +kernel), qst_mX0_factOf⟩
theorem qcw_mX0_isComparer : Cond.code (qb_nm mX0_isComparer) (qb_by mX0_isComparer) (qb_ml mX0_isComparer) (qb_rt mX0_isComparer) ∈ qb_wg := qb_wg_in 460 (by decide +kernel) (by decide +kernel)
theorem qci_mX0_isComparer : Cond.initialized (qb_nm mX0_isComparer).cls ∈ qb_wg := qb_wg_in 62 (by decide +kernel) (by decide +kernel)
theorem qst_mX0_isComparer : Cond.static (qb_nm mX0_isComparer) ∈ qb_wg := qb_wg_in 459 (by decide +kernel) (by decide +kernel)
theorem qe_mX0_add_mX0_isComparer : qb_CS mX0_add mX0_isComparer 51 1 := ⟨⟨qcw_mX0_isComparer, qci_mX0_isComparer, by decide +kernel, by decide +kernel, by decide +kernel⟩, qb_wg_in 480 (by decide +kernel) (by decide +kernel), qst_mX0_isComparer⟩
theorem qcw_mX0_isDigit : Cond.code (qb_nm mX0_isDigit) (qb_by mX0_isDigit) (qb_ml mX0_isDigit) (qb_rt mX0_isDigit) ∈ qb_wg := qb_wg_in 463 (by decide +kernel) (by decide +kernel)
theorem qci_mX0_isDigit : Cond.initialized (qb_nm mX0_isDigit).cls ∈ qb_wg := qb_wg_in 62 (by decide +kernel) (by decide +kernel)
theorem qst_mX0_isDigit : Cond.static (qb_nm mX0_isDigit) ∈ qb_wg := qb_wg_in 462 (by decide +kernel) (by decide +kernel)
theorem qe_mX0_add_mX0_isDigit : qb_CS mX0_add mX0_isDigit 55 1 := ⟨⟨qcw_mX0_isDigit, qci_mX0_isDigit, by decide +kernel, by decide +kernel, by decide +kernel⟩, qb_wg_in 481 (by decide +kernel) (by decide +kernel), qst_mX0_isDigit⟩
theorem qcw_mX0_letterOf : Cond.code (qb_nm mX0_letterOf) (qb_by mX0_letterOf) (qb_ml mX0_letterOf) (qb_rt mX0_letterOf) ∈ qb_wg := qb_wg_in 453 (by decide +kernel) (by decide +kernel)
theorem qci_mX0_letterOf : Cond.initialized (qb_nm mX0_letterOf).cls ∈ qb_wg := qb_wg_in 62 (by decide +kernel) (by decide +kernel)
theorem qst_mX0_letterOf : Cond.static (qb_nm mX0_letterOf) ∈ qb_wg := qb_wg_in 452 (by decide +kernel) (by decide +kernel)
theorem qe_mX0_add_mX0_letterOf : qb_CS mX0_add mX0_letterOf 44 1 := ⟨⟨qcw_mX0_letterOf, qci_mX0_letterOf, by decide +kernel, by decide +kernel, by decide +kernel⟩, qb_wg_in 478 (by decide +kernel) (by decide +kernel), qst_mX0_letterOf⟩
theorem qcw_mX0_actOn : Cond.code (qb_nm mX0_actOn) (qb_by mX0_actOn) (qb_ml mX0_actOn) (qb_rt mX0_actOn) ∈ qb_wg := qb_wg_in 572 (by decide +kernel) (by decide +kernel)
theorem qci_mX0_actOn : Cond.initialized (qb_nm mX0_actOn).cls ∈ qb_wg := qb_wg_in 62 (by decide +kernel) (by decide +kernel)
theorem qsi_mX0_actOn : Cond.instanceMethod (qb_nm mX0_actOn) ∈ qb_wg := qb_wg_in 571 (by decide +kernel) (by decide +kernel)
theorem qse_mX0_actOn : Cond.selects (qb_nm mX0_actOn).cls (qb_nm mX0_actOn) (qb_nm mX0_actOn) ∈ qb_wg := qb_wg_in 9 (by decide +kernel) (by decide +kernel)
theorem qe_mX0_brandOn_mX0_actOn : qb_CV mX0_brandOn mX0_actOn 58 1 := ⟨⟨qcw_mX0_actOn, qci_mX0_actOn, by decide +kernel, by decide +kernel, by decide +kernel⟩, qb_wg_in 569 (by decide +kernel) (by decide +kernel), qsi_mX0_actOn, qse_mX0_actOn⟩
theorem qcw_mX0_beginsGrade : Cond.code (qb_nm mX0_beginsGrade) (qb_by mX0_beginsGrade) (qb_ml mX0_beginsGrade) (qb_rt mX0_beginsGrade) ∈ qb_wg := qb_wg_in 576 (by decide +kernel) (by decide +kernel)
theorem qci_mX0_beginsGrade : Cond.initialized (qb_nm mX0_beginsGrade).cls ∈ qb_wg := qb_wg_in 62 (by decide +kernel) (by decide +kernel)
theorem qsi_mX0_beginsGrade : Cond.instanceMethod (qb_nm mX0_beginsGrade) ∈ qb_wg := qb_wg_in 575 (by decide +kernel) (by decide +kernel)
theorem qse_mX0_beginsGrade : Cond.selects (qb_nm mX0_beginsGrade).cls (qb_nm mX0_beginsGrade) (qb_nm mX0_beginsGrade) ∈ qb_wg := qb_wg_in 10 (by decide +kernel) (by decide +kernel)
theorem qe_mX0_brandOn_mX0_beginsGrade : qb_CV mX0_brandOn mX0_beginsGrade 61 2 := ⟨⟨qcw_mX0_beginsGrade, qci_mX0_beginsGrade, by decide +kernel, by decide +kernel, by decide +kernel⟩, qb_wg_in 573 (by decide +kernel) (by decide +kernel), qsi_mX0_beginsGrade, qse_mX0_beginsGrade⟩
theorem qcw_mX0_holds : Cond.code (qb_nm mX0_holds) (qb_by mX0_holds) (qb_ml mX0_holds) (qb_rt mX0_holds) ∈ qb_wg := qb_wg_in 579 (by decide +kernel) (by decide +kernel)
theorem qci_mX0_holds : Cond.initialized (qb_nm mX0_holds).cls ∈ qb_wg := qb_wg_in 62 (by decide +kernel) (by decide +kernel)
theorem qst_mX0_holds : Cond.static (qb_nm mX0_holds) ∈ qb_wg := qb_wg_in 578 (by decide +kernel) (by decide +kernel)
theorem qe_mX0_brandOn_mX0_holds : qb_CS mX0_brandOn mX0_holds 65 3 := ⟨⟨qcw_mX0_holds, qci_mX0_holds, by decide +kernel, by decide +kernel, by decide +kernel⟩, qb_wg_in 577 (by decide +kernel) (by decide +kernel), qst_mX0_holds⟩
theorem qe_mX0_gradeAt_mX0_actOn : qb_CV mX0_gradeAt mX0_actOn 58 1 := ⟨⟨qcw_mX0_actOn, qci_mX0_actOn, by decide +kernel, by decide +kernel, by decide +kernel⟩, qb_wg_in 569 (by decide +kernel) (by decide +kernel), qsi_mX0_actOn, qse_mX0_actOn⟩
theorem qe_mX0_gradeAt_mX0_beginsGrade : qb_CV mX0_gradeAt mX0_beginsGrade 61 2 := ⟨⟨qcw_mX0_beginsGrade, qci_mX0_beginsGrade, by decide +kernel, by decide +kernel, by decide +kernel⟩, qb_wg_in 573 (by decide +kernel) (by decide +kernel), qsi_mX0_beginsGrade, qse_mX0_beginsGrade⟩
theorem qe_mX0_gradesOn_mX0_actOn : qb_CV mX0_gradesOn mX0_actOn 58 1 := ⟨⟨qcw_mX0_actOn, qci_mX0_actOn, by decide +kernel, by decide +kernel, by decide +kernel⟩, qb_wg_in 569 (by decide +kernel) (by decide +kernel), qsi_mX0_actOn, qse_mX0_actOn⟩
theorem qe_mX0_gradesOn_mX0_beginsGrade : qb_CV mX0_gradesOn mX0_beginsGrade 61 2 := ⟨⟨qcw_mX0_beginsGrade, qci_mX0_beginsGrade, by decide +kernel, by decide +kernel, by decide +kernel⟩, qb_wg_in 573 (by decide +kernel) (by decide +kernel), qsi_mX0_beginsGrade, qse_mX0_beginsGrade⟩
theorem qcw_mX10_within : Cond.code (qb_nm mX10_within) (qb_by mX10_within) (qb_ml mX10_within) (qb_rt mX10_within) ∈ qb_wg := qb_wg_in 424 (by decide +kernel) (by decide +kernel)
theorem qci_mX10_within : Cond.initialized (qb_nm mX10_within).cls ∈ qb_wg := qb_wg_in 60 (by decide +kernel) (by decide +kernel)
theorem qst_mX10_within : Cond.static (qb_nm mX10_within) ∈ qb_wg := qb_wg_in 423 (by decide +kernel) (by decide +kernel)
theorem qe_mX0_isComparer_mX10_within : qb_CB mX0_isComparer mX10_within 3 := ⟨qcw_mX10_within, qci_mX10_within, by decide +kernel, by decide +kernel, by decide +kernel⟩
theorem qe_mX0_isDigit_mX10_within : qb_CB mX0_isDigit mX10_within 3 := ⟨qcw_mX10_within, qci_mX10_within, by decide +kernel, by decide +kernel, by decide +kernel⟩
theorem qe_mX0_letterOf_mX10_within : qb_CB mX0_letterOf mX10_within 3 := ⟨qcw_mX10_within, qci_mX10_within, by decide +kernel, by decide +kernel, by decide +kernel⟩
theorem qcw_mX6_clear : Cond.code (qb_nm mX6_clear) (qb_by mX6_clear) (qb_ml mX6_clear) (qb_rt mX6_clear) ∈ qb_wg := qb_wg_in 696 (by decide +kernel) (by decide +kernel)
theorem qci_mX6_clear : Cond.initialized (qb_nm mX6_clear).cls ∈ qb_wg := qb_wg_in 66 (by decide +kernel) (by decide +kernel)
theorem qsi_mX6_clear : Cond.instanceMethod (qb_nm mX6_clear) ∈ qb_wg := qb_wg_in 694 (by decide +kernel) (by decide +kernel)
theorem qse_mX6_clear : Cond.selects (qb_nm mX6_clear).cls (qb_nm mX6_clear) (qb_nm mX6_clear) ∈ qb_wg := qb_wg_in 695 (by decide +kernel) (by decide +kernel)
theorem qe_mX10_absolve_mX6_clear : qb_CV mX10_absolve mX6_clear 211 0 := ⟨⟨qcw_mX6_clear, qci_mX6_clear, by decide +kernel, by decide +kernel, by decide +kernel⟩, qb_wg_in 693 (by decide +kernel) (by decide +kernel), qsi_mX6_clear, qse_mX6_clear⟩
theorem qcw_mX10_barrelsAt : Cond.code (qb_nm mX10_barrelsAt) (qb_by mX10_barrelsAt) (qb_ml mX10_barrelsAt) (qb_rt mX10_barrelsAt) ∈ qb_wg := qb_wg_in 522 (by decide +kernel) (by decide +kernel)
theorem qci_mX10_barrelsAt : Cond.initialized (qb_nm mX10_barrelsAt).cls ∈ qb_wg := qb_wg_in 60 (by decide +kernel) (by decide +kernel)
theorem qsi_mX10_barrelsAt : Cond.instanceMethod (qb_nm mX10_barrelsAt) ∈ qb_wg := qb_wg_in 521 (by decide +kernel) (by decide +kernel)
theorem qse_mX10_barrelsAt : Cond.selects (qb_nm mX10_barrelsAt).cls (qb_nm mX10_barrelsAt) (qb_nm mX10_barrelsAt) ∈ qb_wg := qb_wg_in 4 (by decide +kernel) (by decide +kernel)
theorem qe_mX10_account_mX10_barrelsAt : qb_CV mX10_account mX10_barrelsAt 122 1 := ⟨⟨qcw_mX10_barrelsAt, qci_mX10_barrelsAt, by decide +kernel, by decide +kernel, by decide +kernel⟩, qb_wg_in 519 (by decide +kernel) (by decide +kernel), qsi_mX10_barrelsAt, qse_mX10_barrelsAt⟩
theorem qcw_mX10_bountyAt : Cond.code (qb_nm mX10_bountyAt) (qb_by mX10_bountyAt) (qb_ml mX10_bountyAt) (qb_rt mX10_bountyAt) ∈ qb_wg := qb_wg_in 809 (by decide +kernel) (by decide +kernel)
theorem qci_mX10_bountyAt : Cond.initialized (qb_nm mX10_bountyAt).cls ∈ qb_wg := qb_wg_in 60 (by decide +kernel) (by decide +kernel)
theorem qsi_mX10_bountyAt : Cond.instanceMethod (qb_nm mX10_bountyAt) ∈ qb_wg := qb_wg_in 808 (by decide +kernel) (by decide +kernel)
theorem qse_mX10_bountyAt : Cond.selects (qb_nm mX10_bountyAt).cls (qb_nm mX10_bountyAt) (qb_nm mX10_bountyAt) ∈ qb_wg := qb_wg_in 22 (by decide +kernel) (by decide +kernel)
theorem qe_mX10_account_mX10_bountyAt : qb_CV mX10_account mX10_bountyAt 251 1 := ⟨⟨qcw_mX10_bountyAt, qci_mX10_bountyAt, by decide +kernel, by decide +kernel, by decide +kernel⟩, qb_wg_in 806 (by decide +kernel) (by decide +kernel), qsi_mX10_bountyAt, qse_mX10_bountyAt⟩
theorem qcw_mX10_brandedAt : Cond.code (qb_nm mX10_brandedAt) (qb_by mX10_brandedAt) (qb_ml mX10_brandedAt) (qb_rt mX10_brandedAt) ∈ qb_wg := qb_wg_in 813 (by decide +kernel) (by decide +kernel)
theorem qci_mX10_brandedAt : Cond.initialized (qb_nm mX10_brandedAt).cls ∈ qb_wg := qb_wg_in 60 (by decide +kernel) (by decide +kernel)
theorem qsi_mX10_brandedAt : Cond.instanceMethod (qb_nm mX10_brandedAt) ∈ qb_wg := qb_wg_in 812 (by decide +kernel) (by decide +kernel)
theorem qse_mX10_brandedAt : Cond.selects (qb_nm mX10_brandedAt).cls (qb_nm mX10_brandedAt) (qb_nm mX10_brandedAt) ∈ qb_wg := qb_wg_in 23 (by decide +kernel) (by decide +kernel)
theorem qe_mX10_account_mX10_brandedAt : qb_CV mX10_account mX10_brandedAt 254 1 := ⟨⟨qcw_mX10_brandedAt, qci_mX10_brandedAt, by decide +kernel, by decide +kernel, by decide +kernel⟩, qb_wg_in 810 (by decide +kernel) (by decide +kernel), qsi_mX10_brandedAt, qse_mX10_brandedAt⟩
theorem qcw_mX10_costsAt : Cond.code (qb_nm mX10_costsAt) (qb_by mX10_costsAt) (qb_ml mX10_costsAt) (qb_rt mX10_costsAt) ∈ qb_wg := qb_wg_in 801 (by decide +kernel) (by decide +kernel)
theorem qci_mX10_costsAt : Cond.initialized (qb_nm mX10_costsAt).cls ∈ qb_wg := qb_wg_in 60 (by decide +kernel) (by decide +kernel)
theorem qsi_mX10_costsAt : Cond.instanceMethod (qb_nm mX10_costsAt) ∈ qb_wg := qb_wg_in 800 (by decide +kernel) (by decide +kernel)
theorem qse_mX10_costsAt : Cond.selects (qb_nm mX10_costsAt).cls (qb_nm mX10_costsAt) (qb_nm mX10_costsAt) ∈ qb_wg := qb_wg_in 20 (by decide +kernel) (by decide +kernel)
theorem qe_mX10_account_mX10_costsAt : qb_CV mX10_account mX10_costsAt 245 2 := ⟨⟨qcw_mX10_costsAt, qci_mX10_costsAt, by decide +kernel, by decide +kernel, by decide +kernel⟩, qb_wg_in 798 (by decide +kernel) (by decide +kernel), qsi_mX10_costsAt, qse_mX10_costsAt⟩
theorem qcw_mX10_isDay : Cond.code (qb_nm mX10_isDay) (qb_by mX10_isDay) (qb_ml mX10_isDay) (qb_rt mX10_isDay) ∈ qb_wg := qb_wg_in 473 (by decide +kernel) (by decide +kernel)
theorem qci_mX10_isDay : Cond.initialized (qb_nm mX10_isDay).cls ∈ qb_wg := qb_wg_in 60 (by decide +kernel) (by decide +kernel)
theorem qst_mX10_isDay : Cond.static (qb_nm mX10_isDay) ∈ qb_wg := qb_wg_in 472 (by decide +kernel) (by decide +kernel)
theorem qe_mX10_account_mX10_isDay : qb_CS mX10_account mX10_isDay 108 1 := ⟨⟨qcw_mX10_isDay, qci_mX10_isDay, by decide +kernel, by decide +kernel, by decide +kernel⟩, qb_wg_in 471 (by decide +kernel) (by decide +kernel), qst_mX10_isDay⟩
theorem qcw_mX10_isQuay : Cond.code (qb_nm mX10_isQuay) (qb_by mX10_isQuay) (qb_ml mX10_isQuay) (qb_rt mX10_isQuay) ∈ qb_wg := qb_wg_in 488 (by decide +kernel) (by decide +kernel)
theorem qci_mX10_isQuay : Cond.initialized (qb_nm mX10_isQuay).cls ∈ qb_wg := qb_wg_in 60 (by decide +kernel) (by decide +kernel)
theorem qst_mX10_isQuay : Cond.static (qb_nm mX10_isQuay) ∈ qb_wg := qb_wg_in 487 (by decide +kernel) (by decide +kernel)
theorem qe_mX10_account_mX10_isQuay : qb_CS mX10_account mX10_isQuay 116 1 := ⟨⟨qcw_mX10_isQuay, qci_mX10_isQuay, by decide +kernel, by decide +kernel, by decide +kernel⟩, qb_wg_in 486 (by decide +kernel) (by decide +kernel), qst_mX10_isQuay⟩
theorem qcw_mX10_wagesAt : Cond.code (qb_nm mX10_wagesAt) (qb_by mX10_wagesAt) (qb_ml mX10_wagesAt) (qb_rt mX10_wagesAt) ∈ qb_wg := qb_wg_in 805 (by decide +kernel) (by decide +kernel)
theorem qci_mX10_wagesAt : Cond.initialized (qb_nm mX10_wagesAt).cls ∈ qb_wg := qb_wg_in 60 (by decide +kernel) (by decide +kernel)
theorem qsi_mX10_wagesAt : Cond.instanceMethod (qb_nm mX10_wagesAt) ∈ qb_wg := qb_wg_in 804 (by decide +kernel) (by decide +kernel)
theorem qse_mX10_wagesAt : Cond.selects (qb_nm mX10_wagesAt).cls (qb_nm mX10_wagesAt) (qb_nm mX10_wagesAt) ∈ qb_wg := qb_wg_in 21 (by decide +kernel) (by decide +kernel)
theorem qe_mX10_account_mX10_wagesAt : qb_CV mX10_account mX10_wagesAt 248 1 := ⟨⟨qcw_mX10_wagesAt, qci_mX10_wagesAt, by decide +kernel, by decide +kernel, by decide +kernel⟩, qb_wg_in 802 (by decide +kernel) (by decide +kernel), qsi_mX10_wagesAt, qse_mX10_wagesAt⟩
theorem qe_mX10_account_mX10_within : qb_CS mX10_account mX10_within 89 3 := ⟨⟨qcw_mX10_within, qci_mX10_within, by decide +kernel, by decide +kernel, by decide +kernel⟩, qb_wg_in 422 (by decide +kernel) (by decide +kernel), qst_mX10_within⟩
theorem qcw_mX10_work : Cond.code (qb_nm mX10_work) (qb_by mX10_work) (qb_ml mX10_work) (qb_rt mX10_work) ∈ qb_wg := qb_wg_in 492 (by decide +kernel) (by decide +kernel)
theorem qci_mX10_work : Cond.initialized (qb_nm mX10_work).cls ∈ qb_wg := qb_wg_in 60 (by decide +kernel) (by decide +kernel)
theorem qsi_mX10_work : Cond.instanceMethod (qb_nm mX10_work) ∈ qb_wg := qb_wg_in 491 (by decide +kernel) (by decide +kernel)
theorem qse_mX10_work : Cond.selects (qb_nm mX10_work).cls (qb_nm mX10_work) (qb_nm mX10_work) ∈ qb_wg := qb_wg_in 0 (by decide +kernel) (by decide +kernel)
theorem qe_mX10_account_mX10_work : qb_CV mX10_account mX10_work 119 0 := ⟨⟨qcw_mX10_work, qci_mX10_work, by decide +kernel, by decide +kernel, by decide +kernel⟩, qb_wg_in 489 (by decide +kernel) (by decide +kernel), qsi_mX10_work, qse_mX10_work⟩
theorem qcw_mX7_spoiltAt : Cond.code (qb_nm mX7_spoiltAt) (qb_by mX7_spoiltAt) (qb_ml mX7_spoiltAt) (qb_rt mX7_spoiltAt) ∈ qb_wg := qb_wg_in 817 (by decide +kernel) (by decide +kernel)
theorem qci_mX7_spoiltAt : Cond.initialized (qb_nm mX7_spoiltAt).cls ∈ qb_wg := qb_wg_in 63 (by decide +kernel) (by decide +kernel)
theorem qsi_mX7_spoiltAt : Cond.instanceMethod (qb_nm mX7_spoiltAt) ∈ qb_wg := qb_wg_in 815 (by decide +kernel) (by decide +kernel)
theorem qse_mX7_spoiltAt : Cond.selects (qb_nm mX7_spoiltAt).cls (qb_nm mX7_spoiltAt) (qb_nm mX7_spoiltAt) ∈ qb_wg := qb_wg_in 816 (by decide +kernel) (by decide +kernel)
theorem qe_mX10_account_mX7_spoiltAt : qb_CV mX10_account mX7_spoiltAt 257 1 := ⟨⟨qcw_mX7_spoiltAt, qci_mX7_spoiltAt, by decide +kernel, by decide +kernel, by decide +kernel⟩, qb_wg_in 814 (by decide +kernel) (by decide +kernel), qsi_mX7_spoiltAt, qse_mX7_spoiltAt⟩
theorem qcw_mX0_add : Cond.code (qb_nm mX0_add) (qb_by mX0_add) (qb_ml mX0_add) (qb_rt mX0_add) ∈ qb_wg := qb_wg_in 477 (by decide +kernel) (by decide +kernel)
theorem qci_mX0_add : Cond.initialized (qb_nm mX0_add).cls ∈ qb_wg := qb_wg_in 62 (by decide +kernel) (by decide +kernel)
theorem qsi_mX0_add : Cond.instanceMethod (qb_nm mX0_add) ∈ qb_wg := qb_wg_in 475 (by decide +kernel) (by decide +kernel)
theorem qse_mX0_add : Cond.selects (qb_nm mX0_add).cls (qb_nm mX0_add) (qb_nm mX0_add) ∈ qb_wg := qb_wg_in 476 (by decide +kernel) (by decide +kernel)
theorem qe_mX10_act_mX0_add : qb_CV mX10_act mX0_add 113 2 := ⟨⟨qcw_mX0_add, qci_mX0_add, by decide +kernel, by decide +kernel, by decide +kernel⟩, qb_wg_in 474 (by decide +kernel) (by decide +kernel), qsi_mX0_add, qse_mX0_add⟩
theorem qe_mX10_act_mX10_isDay : qb_CS mX10_act mX10_isDay 108 1 := ⟨⟨qcw_mX10_isDay, qci_mX10_isDay, by decide +kernel, by decide +kernel, by decide +kernel⟩, qb_wg_in 471 (by decide +kernel) (by decide +kernel), qst_mX10_isDay⟩
theorem qcw_mX3_clear : Cond.code (qb_nm mX3_clear) (qb_by mX3_clear) (qb_ml mX3_clear) (qb_rt mX3_clear) ∈ qb_wg := qb_wg_in 436 (by decide +kernel) (by decide +kernel)
theorem qci_mX3_clear : Cond.initialized (qb_nm mX3_clear).cls ∈ qb_wg := qb_wg_in 61 (by decide +kernel) (by decide +kernel)
theorem qsi_mX3_clear : Cond.instanceMethod (qb_nm mX3_clear) ∈ qb_wg := qb_wg_in 434 (by decide +kernel) (by decide +kernel)
theorem qse_mX3_clear : Cond.selects (qb_nm mX3_clear).cls (qb_nm mX3_clear) (qb_nm mX3_clear) ∈ qb_wg := qb_wg_in 435 (by decide +kernel) (by decide +kernel)
theorem qe_mX10_act_mX3_clear : qb_CV mX10_act mX3_clear 101 0 := ⟨⟨qcw_mX3_clear, qci_mX3_clear, by decide +kernel, by decide +kernel, by decide +kernel⟩, qb_wg_in 433 (by decide +kernel) (by decide +kernel), qsi_mX3_clear, qse_mX3_clear⟩
theorem qcw_mX3_firstFault : Cond.code (qb_nm mX3_firstFault) (qb_by mX3_firstFault) (qb_ml mX3_firstFault) (qb_rt mX3_firstFault) ∈ qb_wg := qb_wg_in 444 (by decide +kernel) (by decide +kernel)
theorem qci_mX3_firstFault : Cond.initialized (qb_nm mX3_firstFault).cls ∈ qb_wg := qb_wg_in 61 (by decide +kernel) (by decide +kernel)
theorem qsi_mX3_firstFault : Cond.instanceMethod (qb_nm mX3_firstFault) ∈ qb_wg := qb_wg_in 442 (by decide +kernel) (by decide +kernel)
theorem qse_mX3_firstFault : Cond.selects (qb_nm mX3_firstFault).cls (qb_nm mX3_firstFault) (qb_nm mX3_firstFault) ∈ qb_wg := qb_wg_in 443 (by decide +kernel) (by decide +kernel)
theorem qe_mX10_act_mX3_firstFault : qb_CV mX10_act mX3_firstFault 105 0 := ⟨⟨qcw_mX3_firstFault, qci_mX3_firstFault, by decide +kernel, by decide +kernel, by decide +kernel⟩, qb_wg_in 441 (by decide +kernel) (by decide +kernel), qsi_mX3_firstFault, qse_mX3_firstFault⟩
theorem qe_mX10_barrel_mX10_barrelsAt : qb_CV mX10_barrel mX10_barrelsAt 122 1 := ⟨⟨qcw_mX10_barrelsAt, qci_mX10_barrelsAt, by decide +kernel, by decide +kernel, by decide +kernel⟩, qb_wg_in 519 (by decide +kernel) (by decide +kernel), qsi_mX10_barrelsAt, qse_mX10_barrelsAt⟩
theorem qe_mX10_barrel_mX10_isQuay : qb_CS mX10_barrel mX10_isQuay 116 1 := ⟨⟨qcw_mX10_isQuay, qci_mX10_isQuay, by decide +kernel, by decide +kernel, by decide +kernel⟩, qb_wg_in 486 (by decide +kernel) (by decide +kernel), qst_mX10_isQuay⟩
theorem qcw_mX10_measureOne : Cond.code (qb_nm mX10_measureOne) (qb_by mX10_measureOne) (qb_ml mX10_measureOne) (qb_rt mX10_measureOne) ∈ qb_wg := qb_wg_in 526 (by decide +kernel) (by decide +kernel)
theorem qci_mX10_measureOne : Cond.initialized (qb_nm mX10_measureOne).cls ∈ qb_wg := qb_wg_in 60 (by decide +kernel) (by decide +kernel)
theorem qsi_mX10_measureOne : Cond.instanceMethod (qb_nm mX10_measureOne) ∈ qb_wg := qb_wg_in 525 (by decide +kernel) (by decide +kernel)
theorem qse_mX10_measureOne : Cond.selects (qb_nm mX10_measureOne).cls (qb_nm mX10_measureOne) (qb_nm mX10_measureOne) ∈ qb_wg := qb_wg_in 5 (by decide +kernel) (by decide +kernel)
theorem qe_mX10_barrel_mX10_measureOne : qb_CV mX10_barrel mX10_measureOne 125 2 := ⟨⟨qcw_mX10_measureOne, qci_mX10_measureOne, by decide +kernel, by decide +kernel, by decide +kernel⟩, qb_wg_in 523 (by decide +kernel) (by decide +kernel), qsi_mX10_measureOne, qse_mX10_measureOne⟩
theorem qcw_mX10_ofCask : Cond.code (qb_nm mX10_ofCask) (qb_by mX10_ofCask) (qb_ml mX10_ofCask) (qb_rt mX10_ofCask) ∈ qb_wg := qb_wg_in 660 (by decide +kernel) (by decide +kernel)
theorem qci_mX10_ofCask : Cond.initialized (qb_nm mX10_ofCask).cls ∈ qb_wg := qb_wg_in 60 (by decide +kernel) (by decide +kernel)
theorem qsi_mX10_ofCask : Cond.instanceMethod (qb_nm mX10_ofCask) ∈ qb_wg := qb_wg_in 659 (by decide +kernel) (by decide +kernel)
theorem qse_mX10_ofCask : Cond.selects (qb_nm mX10_ofCask).cls (qb_nm mX10_ofCask) (qb_nm mX10_ofCask) ∈ qb_wg := qb_wg_in 12 (by decide +kernel) (by decide +kernel)
theorem qe_mX10_barrel_mX10_ofCask : qb_CV mX10_barrel mX10_ofCask 194 1 := ⟨⟨qcw_mX10_ofCask, qci_mX10_ofCask, by decide +kernel, by decide +kernel, by decide +kernel⟩, qb_wg_in 657 (by decide +kernel) (by decide +kernel), qsi_mX10_ofCask, qse_mX10_ofCask⟩
theorem qe_mX10_barrel_mX10_within : qb_CS mX10_barrel mX10_within 89 3 := ⟨⟨qcw_mX10_within, qci_mX10_within, by decide +kernel, by decide +kernel, by decide +kernel⟩, qb_wg_in 422 (by decide +kernel) (by decide +kernel), qst_mX10_within⟩
theorem qe_mX10_barrel_mX10_work : qb_CV mX10_barrel mX10_work 119 0 := ⟨⟨qcw_mX10_work, qci_mX10_work, by decide +kernel, by decide +kernel, by decide +kernel⟩, qb_wg_in 489 (by decide +kernel) (by decide +kernel), qsi_mX10_work, qse_mX10_work⟩
theorem qe_mX10_barrelsOfAll_mX10_barrelsAt : qb_CV mX10_barrelsOfAll mX10_barrelsAt 122 1 := ⟨⟨qcw_mX10_barrelsAt, qci_mX10_barrelsAt, by decide +kernel, by decide +kernel, by decide +kernel⟩, qb_wg_in 519 (by decide +kernel) (by decide +kernel), qsi_mX10_barrelsAt, qse_mX10_barrelsAt⟩
theorem qe_mX10_barrelsOfAll_mX10_work : qb_CV mX10_barrelsOfAll mX10_work 119 0 := ⟨⟨qcw_mX10_work, qci_mX10_work, by decide +kernel, by decide +kernel, by decide +kernel⟩, qb_wg_in 489 (by decide +kernel) (by decide +kernel), qsi_mX10_work, qse_mX10_work⟩
theorem qe_mX10_bountyAt_mX10_brandedAt : qb_CV mX10_bountyAt mX10_brandedAt 254 1 := ⟨⟨qcw_mX10_brandedAt, qci_mX10_brandedAt, by decide +kernel, by decide +kernel, by decide +kernel⟩, qb_wg_in 810 (by decide +kernel) (by decide +kernel), qsi_mX10_brandedAt, qse_mX10_brandedAt⟩
theorem qe_mX10_brand_mX10_barrelsAt : qb_CV mX10_brand mX10_barrelsAt 122 1 := ⟨⟨qcw_mX10_barrelsAt, qci_mX10_barrelsAt, by decide +kernel, by decide +kernel, by decide +kernel⟩, qb_wg_in 519 (by decide +kernel) (by decide +kernel), qsi_mX10_barrelsAt, qse_mX10_barrelsAt⟩
theorem qcw_mX10_brandOfCask : Cond.code (qb_nm mX10_brandOfCask) (qb_by mX10_brandOfCask) (qb_ml mX10_brandOfCask) (qb_rt mX10_brandOfCask) ∈ qb_wg := qb_wg_in 552 (by decide +kernel) (by decide +kernel)
theorem qci_mX10_brandOfCask : Cond.initialized (qb_nm mX10_brandOfCask).cls ∈ qb_wg := qb_wg_in 60 (by decide +kernel) (by decide +kernel)
theorem qsi_mX10_brandOfCask : Cond.instanceMethod (qb_nm mX10_brandOfCask) ∈ qb_wg := qb_wg_in 551 (by decide +kernel) (by decide +kernel)
theorem qse_mX10_brandOfCask : Cond.selects (qb_nm mX10_brandOfCask).cls (qb_nm mX10_brandOfCask) (qb_nm mX10_brandOfCask) ∈ qb_wg := qb_wg_in 6 (by decide +kernel) (by decide +kernel)
theorem qe_mX10_brand_mX10_brandOfCask : qb_CV mX10_brand mX10_brandOfCask 129 1 := ⟨⟨qcw_mX10_brandOfCask, qci_mX10_brandOfCask, by decide +kernel, by decide +kernel, by decide +kernel⟩, qb_wg_in 549 (by decide +kernel) (by decide +kernel), qsi_mX10_brandOfCask, qse_mX10_brandOfCask⟩
theorem qe_mX10_brand_mX10_isDay : qb_CS mX10_brand mX10_isDay 108 1 := ⟨⟨qcw_mX10_isDay, qci_mX10_isDay, by decide +kernel, by decide +kernel, by decide +kernel⟩, qb_wg_in 471 (by decide +kernel) (by decide +kernel), qst_mX10_isDay⟩
theorem qe_mX10_brand_mX10_isQuay : qb_CS mX10_brand mX10_isQuay 116 1 := ⟨⟨qcw_mX10_isQuay, qci_mX10_isQuay, by decide +kernel, by decide +kernel, by decide +kernel⟩, qb_wg_in 486 (by decide +kernel) (by decide +kernel), qst_mX10_isQuay⟩
theorem qe_mX10_brand_mX10_measureOne : qb_CV mX10_brand mX10_measureOne 125 2 := ⟨⟨qcw_mX10_measureOne, qci_mX10_measureOne, by decide +kernel, by decide +kernel, by decide +kernel⟩, qb_wg_in 523 (by decide +kernel) (by decide +kernel), qsi_mX10_measureOne, qse_mX10_measureOne⟩
theorem qe_mX10_brand_mX10_within : qb_CS mX10_brand mX10_within 89 3 := ⟨⟨qcw_mX10_within, qci_mX10_within, by decide +kernel, by decide +kernel, by decide +kernel⟩, qb_wg_in 422 (by decide +kernel) (by decide +kernel), qst_mX10_within⟩
theorem qe_mX10_brand_mX10_work : qb_CV mX10_brand mX10_work 119 0 := ⟨⟨qcw_mX10_work, qci_mX10_work, by decide +kernel, by decide +kernel, by decide +kernel⟩, qb_wg_in 489 (by decide +kernel) (by decide +kernel), qsi_mX10_work, qse_mX10_work⟩
theorem qcw_mX0_brandOn : Cond.code (qb_nm mX0_brandOn) (qb_by mX0_brandOn) (qb_ml mX0_brandOn) (qb_rt mX0_brandOn) ∈ qb_wg := qb_wg_in 568 (by decide +kernel) (by decide +kernel)
theorem qci_mX0_brandOn : Cond.initialized (qb_nm mX0_brandOn).cls ∈ qb_wg := qb_wg_in 62 (by decide +kernel) (by decide +kernel)
theorem qsi_mX0_brandOn : Cond.instanceMethod (qb_nm mX0_brandOn) ∈ qb_wg := qb_wg_in 566 (by decide +kernel) (by decide +kernel)
theorem qse_mX0_brandOn : Cond.selects (qb_nm mX0_brandOn).cls (qb_nm mX0_brandOn) (qb_nm mX0_brandOn) ∈ qb_wg := qb_wg_in 567 (by decide +kernel) (by decide +kernel)
theorem qe_mX10_brandOfCask_mX0_brandOn : qb_CV mX10_brandOfCask mX0_brandOn 339 2 := ⟨⟨qcw_mX0_brandOn, qci_mX0_brandOn, by decide +kernel, by decide +kernel, by decide +kernel⟩, qb_wg_in 565 (by decide +kernel) (by decide +kernel), qsi_mX0_brandOn, qse_mX0_brandOn⟩
theorem qcw_mX10_tiers : Cond.code (qb_nm mX10_tiers) (qb_by mX10_tiers) (qb_ml mX10_tiers) (qb_rt mX10_tiers) ∈ qb_wg := qb_wg_in 556 (by decide +kernel) (by decide +kernel)
theorem qci_mX10_tiers : Cond.initialized (qb_nm mX10_tiers).cls ∈ qb_wg := qb_wg_in 60 (by decide +kernel) (by decide +kernel)
theorem qsi_mX10_tiers : Cond.instanceMethod (qb_nm mX10_tiers) ∈ qb_wg := qb_wg_in 555 (by decide +kernel) (by decide +kernel)
theorem qse_mX10_tiers : Cond.selects (qb_nm mX10_tiers).cls (qb_nm mX10_tiers) (qb_nm mX10_tiers) ∈ qb_wg := qb_wg_in 7 (by decide +kernel) (by decide +kernel)
theorem qe_mX10_brandOfCask_mX10_tiers : qb_CV mX10_brandOfCask mX10_tiers 321 0 := ⟨⟨qcw_mX10_tiers, qci_mX10_tiers, by decide +kernel, by decide +kernel, by decide +kernel⟩, qb_wg_in 553 (by decide +kernel) (by decide +kernel), qsi_mX10_tiers, qse_mX10_tiers⟩
theorem qcw_mX8_muchAt : Cond.code (qb_nm mX8_muchAt) (qb_by mX8_muchAt) (qb_ml mX8_muchAt) (qb_rt mX8_muchAt) ∈ qb_wg := qb_wg_in 560 (by decide +kernel) (by decide +kernel)
theorem qci_mX8_muchAt : Cond.initialized (qb_nm mX8_muchAt).cls ∈ qb_wg := qb_wg_in 65 (by decide +kernel) (by decide +kernel)
theorem qsi_mX8_muchAt : Cond.instanceMethod (qb_nm mX8_muchAt) ∈ qb_wg := qb_wg_in 558 (by decide +kernel) (by decide +kernel)
theorem qse_mX8_muchAt : Cond.selects (qb_nm mX8_muchAt).cls (qb_nm mX8_muchAt) (qb_nm mX8_muchAt) ∈ qb_wg := qb_wg_in 559 (by decide +kernel) (by decide +kernel)
theorem qe_mX10_brandOfCask_mX8_muchAt : qb_CV mX10_brandOfCask mX8_muchAt 327 2 := ⟨⟨qcw_mX8_muchAt, qci_mX8_muchAt, by decide +kernel, by decide +kernel, by decide +kernel⟩, qb_wg_in 557 (by decide +kernel) (by decide +kernel), qsi_mX8_muchAt, qse_mX8_muchAt⟩
theorem qcw_mX10_countBranded : Cond.code (qb_nm mX10_countBranded) (qb_by mX10_countBranded) (qb_ml mX10_countBranded) (qb_rt mX10_countBranded) ∈ qb_wg := qb_wg_in 672 (by decide +kernel) (by decide +kernel)
theorem qci_mX10_countBranded : Cond.initialized (qb_nm mX10_countBranded).cls ∈ qb_wg := qb_wg_in 60 (by decide +kernel) (by decide +kernel)
theorem qsi_mX10_countBranded : Cond.instanceMethod (qb_nm mX10_countBranded) ∈ qb_wg := qb_wg_in 671 (by decide +kernel) (by decide +kernel)
theorem qse_mX10_countBranded : Cond.selects (qb_nm mX10_countBranded).cls (qb_nm mX10_countBranded) (qb_nm mX10_countBranded) ∈ qb_wg := qb_wg_in 13 (by decide +kernel) (by decide +kernel)
theorem qe_mX10_brandedAt_mX10_countBranded : qb_CV mX10_brandedAt mX10_countBranded 197 3 := ⟨⟨qcw_mX10_countBranded, qci_mX10_countBranded, by decide +kernel, by decide +kernel, by decide +kernel⟩, qb_wg_in 669 (by decide +kernel) (by decide +kernel), qsi_mX10_countBranded, qse_mX10_countBranded⟩
theorem qe_mX10_cause_mX10_within : qb_CS mX10_cause mX10_within 89 3 := ⟨⟨qcw_mX10_within, qci_mX10_within, by decide +kernel, by decide +kernel, by decide +kernel⟩, qb_wg_in 422 (by decide +kernel) (by decide +kernel), qst_mX10_within⟩
theorem qcw_mX6_mayBe : Cond.code (qb_nm mX6_mayBe) (qb_by mX6_mayBe) (qb_ml mX6_mayBe) (qb_rt mX6_mayBe) ∈ qb_wg := qb_wg_in 704 (by decide +kernel) (by decide +kernel)
theorem qci_mX6_mayBe : Cond.initialized (qb_nm mX6_mayBe).cls ∈ qb_wg := qb_wg_in 66 (by decide +kernel) (by decide +kernel)
theorem qsi_mX6_mayBe : Cond.instanceMethod (qb_nm mX6_mayBe) ∈ qb_wg := qb_wg_in 702 (by decide +kernel) (by decide +kernel)
theorem qse_mX6_mayBe : Cond.selects (qb_nm mX6_mayBe).cls (qb_nm mX6_mayBe) (qb_nm mX6_mayBe) ∈ qb_wg := qb_wg_in 703 (by decide +kernel) (by decide +kernel)
theorem qe_mX10_cause_mX6_mayBe : qb_CV mX10_cause mX6_mayBe 212 1 := ⟨⟨qcw_mX6_mayBe, qci_mX6_mayBe, by decide +kernel, by decide +kernel, by decide +kernel⟩, qb_wg_in 701 (by decide +kernel) (by decide +kernel), qsi_mX6_mayBe, qse_mX6_mayBe⟩
theorem qcw_mX10_costOf : Cond.code (qb_nm mX10_costOf) (qb_by mX10_costOf) (qb_ml mX10_costOf) (qb_rt mX10_costOf) ∈ qb_wg := qb_wg_in 784 (by decide +kernel) (by decide +kernel)
theorem qci_mX10_costOf : Cond.initialized (qb_nm mX10_costOf).cls ∈ qb_wg := qb_wg_in 60 (by decide +kernel) (by decide +kernel)
theorem qsi_mX10_costOf : Cond.instanceMethod (qb_nm mX10_costOf) ∈ qb_wg := qb_wg_in 783 (by decide +kernel) (by decide +kernel)
theorem qse_mX10_costOf : Cond.selects (qb_nm mX10_costOf).cls (qb_nm mX10_costOf) (qb_nm mX10_costOf) ∈ qb_wg := qb_wg_in 18 (by decide +kernel) (by decide +kernel)
theorem qe_mX10_cost_mX10_costOf : qb_CV mX10_cost mX10_costOf 236 4 := ⟨⟨qcw_mX10_costOf, qci_mX10_costOf, by decide +kernel, by decide +kernel, by decide +kernel⟩, qb_wg_in 781 (by decide +kernel) (by decide +kernel), qsi_mX10_costOf, qse_mX10_costOf⟩
theorem qcw_mX10_isBoat : Cond.code (qb_nm mX10_isBoat) (qb_by mX10_isBoat) (qb_ml mX10_isBoat) (qb_rt mX10_isBoat) ∈ qb_wg := qb_wg_in 610 (by decide +kernel) (by decide +kernel)
theorem qci_mX10_isBoat : Cond.initialized (qb_nm mX10_isBoat).cls ∈ qb_wg := qb_wg_in 60 (by decide +kernel) (by decide +kernel)
theorem qst_mX10_isBoat : Cond.static (qb_nm mX10_isBoat) ∈ qb_wg := qb_wg_in 609 (by decide +kernel) (by decide +kernel)
theorem qe_mX10_cost_mX10_isBoat : qb_CS mX10_cost mX10_isBoat 151 1 := ⟨⟨qcw_mX10_isBoat, qci_mX10_isBoat, by decide +kernel, by decide +kernel, by decide +kernel⟩, qb_wg_in 608 (by decide +kernel) (by decide +kernel), qst_mX10_isBoat⟩
theorem qe_mX10_cost_mX10_isDay : qb_CS mX10_cost mX10_isDay 108 1 := ⟨⟨qcw_mX10_isDay, qci_mX10_isDay, by decide +kernel, by decide +kernel, by decide +kernel⟩, qb_wg_in 471 (by decide +kernel) (by decide +kernel), qst_mX10_isDay⟩
theorem qe_mX10_cost_mX10_isQuay : qb_CS mX10_cost mX10_isQuay 116 1 := ⟨⟨qcw_mX10_isQuay, qci_mX10_isQuay, by decide +kernel, by decide +kernel, by decide +kernel⟩, qb_wg_in 486 (by decide +kernel) (by decide +kernel), qst_mX10_isQuay⟩
theorem qcw_mX10_savedBy : Cond.code (qb_nm mX10_savedBy) (qb_by mX10_savedBy) (qb_ml mX10_savedBy) (qb_rt mX10_savedBy) ∈ qb_wg := qb_wg_in 789 (by decide +kernel) (by decide +kernel)
theorem qci_mX10_savedBy : Cond.initialized (qb_nm mX10_savedBy).cls ∈ qb_wg := qb_wg_in 60 (by decide +kernel) (by decide +kernel)
theorem qsi_mX10_savedBy : Cond.instanceMethod (qb_nm mX10_savedBy) ∈ qb_wg := qb_wg_in 788 (by decide +kernel) (by decide +kernel)
theorem qse_mX10_savedBy : Cond.selects (qb_nm mX10_savedBy).cls (qb_nm mX10_savedBy) (qb_nm mX10_savedBy) ∈ qb_wg := qb_wg_in 19 (by decide +kernel) (by decide +kernel)
theorem qe_mX10_cost_mX10_savedBy : qb_CV mX10_cost mX10_savedBy 239 3 := ⟨⟨qcw_mX10_savedBy, qci_mX10_savedBy, by decide +kernel, by decide +kernel, by decide +kernel⟩, qb_wg_in 786 (by decide +kernel) (by decide +kernel), qsi_mX10_savedBy, qse_mX10_savedBy⟩
theorem qe_mX10_cost_mX10_within : qb_CS mX10_cost mX10_within 89 3 := ⟨⟨qcw_mX10_within, qci_mX10_within, by decide +kernel, by decide +kernel, by decide +kernel⟩, qb_wg_in 422 (by decide +kernel) (by decide +kernel), qst_mX10_within⟩
theorem qcw_mX1_agreedAt : Cond.code (qb_nm mX1_agreedAt) (qb_by mX1_agreedAt) (qb_ml mX1_agreedAt) (qb_rt mX1_agreedAt) ∈ qb_wg := qb_wg_in 780 (by decide +kernel) (by decide +kernel)
theorem qci_mX1_agreedAt : Cond.initialized (qb_nm mX1_agreedAt).cls ∈ qb_wg := qb_wg_in 67 (by decide +kernel) (by decide +kernel)
theorem qsi_mX1_agreedAt : Cond.instanceMethod (qb_nm mX1_agreedAt) ∈ qb_wg := qb_wg_in 778 (by decide +kernel) (by decide +kernel)
theorem qse_mX1_agreedAt : Cond.selects (qb_nm mX1_agreedAt).cls (qb_nm mX1_agreedAt) (qb_nm mX1_agreedAt) ∈ qb_wg := qb_wg_in 779 (by decide +kernel) (by decide +kernel)
theorem qe_mX10_cost_mX1_agreedAt : qb_CV mX10_cost mX1_agreedAt 233 3 := ⟨⟨qcw_mX1_agreedAt, qci_mX1_agreedAt, by decide +kernel, by decide +kernel, by decide +kernel⟩, qb_wg_in 777 (by decide +kernel) (by decide +kernel), qsi_mX1_agreedAt, qse_mX1_agreedAt⟩
theorem qcw_mX7_fishOf : Cond.code (qb_nm mX7_fishOf) (qb_by mX7_fishOf) (qb_ml mX7_fishOf) (qb_rt mX7_fishOf) ∈ qb_wg := qb_wg_in 793 (by decide +kernel) (by decide +kernel)
theorem qci_mX7_fishOf : Cond.initialized (qb_nm mX7_fishOf).cls ∈ qb_wg := qb_wg_in 63 (by decide +kernel) (by decide +kernel)
theorem qsi_mX7_fishOf : Cond.instanceMethod (qb_nm mX7_fishOf) ∈ qb_wg := qb_wg_in 791 (by decide +kernel) (by decide +kernel)
theorem qse_mX7_fishOf : Cond.selects (qb_nm mX7_fishOf).cls (qb_nm mX7_fishOf) (qb_nm mX7_fishOf) ∈ qb_wg := qb_wg_in 792 (by decide +kernel) (by decide +kernel)
theorem qe_mX10_cost_mX7_fishOf : qb_CV mX10_cost mX7_fishOf 242 2 := ⟨⟨qcw_mX7_fishOf, qci_mX7_fishOf, by decide +kernel, by decide +kernel, by decide +kernel⟩, qb_wg_in 790 (by decide +kernel) (by decide +kernel), qsi_mX7_fishOf, qse_mX7_fishOf⟩
theorem qcw_mX10_freePrice : Cond.code (qb_nm mX10_freePrice) (qb_by mX10_freePrice) (qb_ml mX10_freePrice) (qb_rt mX10_freePrice) ∈ qb_wg := qb_wg_in 768 (by decide +kernel) (by decide +kernel)
theorem qci_mX10_freePrice : Cond.initialized (qb_nm mX10_freePrice).cls ∈ qb_wg := qb_wg_in 60 (by decide +kernel) (by decide +kernel)
theorem qsi_mX10_freePrice : Cond.instanceMethod (qb_nm mX10_freePrice) ∈ qb_wg := qb_wg_in 767 (by decide +kernel) (by decide +kernel)
theorem qse_mX10_freePrice : Cond.selects (qb_nm mX10_freePrice).cls (qb_nm mX10_freePrice) (qb_nm mX10_freePrice) ∈ qb_wg := qb_wg_in 17 (by decide +kernel) (by decide +kernel)
theorem qe_mX10_costOf_mX10_freePrice : qb_CV mX10_costOf mX10_freePrice 230 2 := ⟨⟨qcw_mX10_freePrice, qci_mX10_freePrice, by decide +kernel, by decide +kernel, by decide +kernel⟩, qb_wg_in 765 (by decide +kernel) (by decide +kernel), qsi_mX10_freePrice, qse_mX10_freePrice⟩
theorem qe_mX10_costsAt_mX10_costOf : qb_CV mX10_costsAt mX10_costOf 236 4 := ⟨⟨qcw_mX10_costOf, qci_mX10_costOf, by decide +kernel, by decide +kernel, by decide +kernel⟩, qb_wg_in 781 (by decide +kernel) (by decide +kernel), qsi_mX10_costOf, qse_mX10_costOf⟩
theorem qe_mX10_costsAt_mX1_agreedAt : qb_CV mX10_costsAt mX1_agreedAt 233 3 := ⟨⟨qcw_mX1_agreedAt, qci_mX1_agreedAt, by decide +kernel, by decide +kernel, by decide +kernel⟩, qb_wg_in 777 (by decide +kernel) (by decide +kernel), qsi_mX1_agreedAt, qse_mX1_agreedAt⟩
theorem qe_mX10_countBranded_mX10_barrelsAt : qb_CV mX10_countBranded mX10_barrelsAt 122 1 := ⟨⟨qcw_mX10_barrelsAt, qci_mX10_barrelsAt, by decide +kernel, by decide +kernel, by decide +kernel⟩, qb_wg_in 519 (by decide +kernel) (by decide +kernel), qsi_mX10_barrelsAt, qse_mX10_barrelsAt⟩
theorem qe_mX10_countBranded_mX10_brandOfCask : qb_CV mX10_countBranded mX10_brandOfCask 129 1 := ⟨⟨qcw_mX10_brandOfCask, qci_mX10_brandOfCask, by decide +kernel, by decide +kernel, by decide +kernel⟩, qb_wg_in 549 (by decide +kernel) (by decide +kernel), qsi_mX10_brandOfCask, qse_mX10_brandOfCask⟩
theorem qcw_mX2_start : Cond.code (qb_nm mX2_start) (qb_by mX2_start) (qb_ml mX2_start) (qb_rt mX2_start) ∈ qb_wg := qb_wg_in 530 (by decide +kernel) (by decide +kernel)
theorem qci_mX2_start : Cond.initialized (qb_nm mX2_start).cls ∈ qb_wg := qb_wg_in 64 (by decide +kernel) (by decide +kernel)
theorem qsi_mX2_start : Cond.instanceMethod (qb_nm mX2_start) ∈ qb_wg := qb_wg_in 528 (by decide +kernel) (by decide +kernel)
theorem qse_mX2_start : Cond.selects (qb_nm mX2_start).cls (qb_nm mX2_start) (qb_nm mX2_start) ∈ qb_wg := qb_wg_in 529 (by decide +kernel) (by decide +kernel)
theorem qe_mX10_countBranded_mX2_start : qb_CV mX10_countBranded mX2_start 308 1 := ⟨⟨qcw_mX2_start, qci_mX2_start, by decide +kernel, by decide +kernel, by decide +kernel⟩, qb_wg_in 527 (by decide +kernel) (by decide +kernel), qsi_mX2_start, qse_mX2_start⟩
theorem qcw_mX7_measure : Cond.code (qb_nm mX7_measure) (qb_by mX7_measure) (qb_ml mX7_measure) (qb_rt mX7_measure) ∈ qb_wg := qb_wg_in 534 (by decide +kernel) (by decide +kernel)
theorem qci_mX7_measure : Cond.initialized (qb_nm mX7_measure).cls ∈ qb_wg := qb_wg_in 63 (by decide +kernel) (by decide +kernel)
theorem qsi_mX7_measure : Cond.instanceMethod (qb_nm mX7_measure) ∈ qb_wg := qb_wg_in 532 (by decide +kernel) (by decide +kernel)
theorem qse_mX7_measure : Cond.selects (qb_nm mX7_measure).cls (qb_nm mX7_measure) (qb_nm mX7_measure) ∈ qb_wg := qb_wg_in 533 (by decide +kernel) (by decide +kernel)
theorem qe_mX10_countBranded_mX7_measure : qb_CV mX10_countBranded mX7_measure 311 3 := ⟨⟨qcw_mX7_measure, qci_mX7_measure, by decide +kernel, by decide +kernel, by decide +kernel⟩, qb_wg_in 531 (by decide +kernel) (by decide +kernel), qsi_mX7_measure, qse_mX7_measure⟩
theorem qe_mX10_engage_mX10_isBoat : qb_CS mX10_engage mX10_isBoat 151 1 := ⟨⟨qcw_mX10_isBoat, qci_mX10_isBoat, by decide +kernel, by decide +kernel, by decide +kernel⟩, qb_wg_in 608 (by decide +kernel) (by decide +kernel), qst_mX10_isBoat⟩
theorem qcw_mX10_isQuayOrNone : Cond.code (qb_nm mX10_isQuayOrNone) (qb_by mX10_isQuayOrNone) (qb_ml mX10_isQuayOrNone) (qb_rt mX10_isQuayOrNone) ∈ qb_wg := qb_wg_in 613 (by decide +kernel) (by decide +kernel)
theorem qci_mX10_isQuayOrNone : Cond.initialized (qb_nm mX10_isQuayOrNone).cls ∈ qb_wg := qb_wg_in 60 (by decide +kernel) (by decide +kernel)
theorem qst_mX10_isQuayOrNone : Cond.static (qb_nm mX10_isQuayOrNone) ∈ qb_wg := qb_wg_in 612 (by decide +kernel) (by decide +kernel)
theorem qe_mX10_engage_mX10_isQuayOrNone : qb_CS mX10_engage mX10_isQuayOrNone 154 1 := ⟨⟨qcw_mX10_isQuayOrNone, qci_mX10_isQuayOrNone, by decide +kernel, by decide +kernel, by decide +kernel⟩, qb_wg_in 611 (by decide +kernel) (by decide +kernel), qst_mX10_isQuayOrNone⟩
theorem qe_mX10_engage_mX10_within : qb_CS mX10_engage mX10_within 89 3 := ⟨⟨qcw_mX10_within, qci_mX10_within, by decide +kernel, by decide +kernel, by decide +kernel⟩, qb_wg_in 422 (by decide +kernel) (by decide +kernel), qst_mX10_within⟩
theorem qcw_mX1_bind : Cond.code (qb_nm mX1_bind) (qb_by mX1_bind) (qb_ml mX1_bind) (qb_rt mX1_bind) ∈ qb_wg := qb_wg_in 752 (by decide +kernel) (by decide +kernel)
theorem qci_mX1_bind : Cond.initialized (qb_nm mX1_bind).cls ∈ qb_wg := qb_wg_in 67 (by decide +kernel) (by decide +kernel)
theorem qsi_mX1_bind : Cond.instanceMethod (qb_nm mX1_bind) ∈ qb_wg := qb_wg_in 750 (by decide +kernel) (by decide +kernel)
theorem qse_mX1_bind : Cond.selects (qb_nm mX1_bind).cls (qb_nm mX1_bind) (qb_nm mX1_bind) ∈ qb_wg := qb_wg_in 751 (by decide +kernel) (by decide +kernel)
theorem qe_mX10_engage_mX1_bind : qb_CV mX10_engage mX1_bind 224 4 := ⟨⟨qcw_mX1_bind, qci_mX1_bind, by decide +kernel, by decide +kernel, by decide +kernel⟩, qb_wg_in 749 (by decide +kernel) (by decide +kernel), qsi_mX1_bind, qse_mX1_bind⟩
theorem qcw_mX6_fewest : Cond.code (qb_nm mX6_fewest) (qb_by mX6_fewest) (qb_ml mX6_fewest) (qb_rt mX6_fewest) ∈ qb_wg := qb_wg_in 718 (by decide +kernel) (by decide +kernel)
theorem qci_mX6_fewest : Cond.initialized (qb_nm mX6_fewest).cls ∈ qb_wg := qb_wg_in 66 (by decide +kernel) (by decide +kernel)
theorem qsi_mX6_fewest : Cond.instanceMethod (qb_nm mX6_fewest) ∈ qb_wg := qb_wg_in 716 (by decide +kernel) (by decide +kernel)
theorem qse_mX6_fewest : Cond.selects (qb_nm mX6_fewest).cls (qb_nm mX6_fewest) (qb_nm mX6_fewest) ∈ qb_wg := qb_wg_in 717 (by decide +kernel) (by decide +kernel)
theorem qe_mX10_explained_mX6_fewest : qb_CV mX10_explained mX6_fewest 215 0 := ⟨⟨qcw_mX6_fewest, qci_mX6_fewest, by decide +kernel, by decide +kernel, by decide +kernel⟩, qb_wg_in 715 (by decide +kernel) (by decide +kernel), qsi_mX6_fewest, qse_mX6_fewest⟩
theorem qe_mX10_fault_mX3_firstFault : qb_CV mX10_fault mX3_firstFault 105 0 := ⟨⟨qcw_mX3_firstFault, qci_mX3_firstFault, by decide +kernel, by decide +kernel, by decide +kernel⟩, qb_wg_in 441 (by decide +kernel) (by decide +kernel), qsi_mX3_firstFault, qse_mX3_firstFault⟩
theorem qe_mX10_filled_mX10_countBranded : qb_CV mX10_filled mX10_countBranded 197 3 := ⟨⟨qcw_mX10_countBranded, qci_mX10_countBranded, by decide +kernel, by decide +kernel, by decide +kernel⟩, qb_wg_in 669 (by decide +kernel) (by decide +kernel), qsi_mX10_countBranded, qse_mX10_countBranded⟩
theorem qcw_mX10_isHour : Cond.code (qb_nm mX10_isHour) (qb_by mX10_isHour) (qb_ml mX10_isHour) (qb_rt mX10_isHour) ∈ qb_wg := qb_wg_in 616 (by decide +kernel) (by decide +kernel)
theorem qci_mX10_isHour : Cond.initialized (qb_nm mX10_isHour).cls ∈ qb_wg := qb_wg_in 60 (by decide +kernel) (by decide +kernel)
theorem qst_mX10_isHour : Cond.static (qb_nm mX10_isHour) ∈ qb_wg := qb_wg_in 615 (by decide +kernel) (by decide +kernel)
theorem qe_mX10_filled_mX10_isHour : qb_CS mX10_filled mX10_isHour 157 1 := ⟨⟨qcw_mX10_isHour, qci_mX10_isHour, by decide +kernel, by decide +kernel, by decide +kernel⟩, qb_wg_in 614 (by decide +kernel) (by decide +kernel), qst_mX10_isHour⟩
theorem qe_mX10_filled_mX10_isQuay : qb_CS mX10_filled mX10_isQuay 116 1 := ⟨⟨qcw_mX10_isQuay, qci_mX10_isQuay, by decide +kernel, by decide +kernel, by decide +kernel⟩, qb_wg_in 486 (by decide +kernel) (by decide +kernel), qst_mX10_isQuay⟩
theorem qe_mX10_filled_mX10_within : qb_CS mX10_filled mX10_within 89 3 := ⟨⟨qcw_mX10_within, qci_mX10_within, by decide +kernel, by decide +kernel, by decide +kernel⟩, qb_wg_in 422 (by decide +kernel) (by decide +kernel), qst_mX10_within⟩
theorem qe_mX10_filled_mX10_work : qb_CV mX10_filled mX10_work 119 0 := ⟨⟨qcw_mX10_work, qci_mX10_work, by decide +kernel, by decide +kernel, by decide +kernel⟩, qb_wg_in 489 (by decide +kernel) (by decide +kernel), qsi_mX10_work, qse_mX10_work⟩
theorem qe_mX10_free_mX10_isDay : qb_CS mX10_free mX10_isDay 108 1 := ⟨⟨qcw_mX10_isDay, qci_mX10_isDay, by decide +kernel, by decide +kernel, by decide +kernel⟩, qb_wg_in 471 (by decide +kernel) (by decide +kernel), qst_mX10_isDay⟩
theorem qe_mX10_free_mX10_within : qb_CS mX10_free mX10_within 89 3 := ⟨⟨qcw_mX10_within, qci_mX10_within, by decide +kernel, by decide +kernel, by decide +kernel⟩, qb_wg_in 422 (by decide +kernel) (by decide +kernel), qst_mX10_within⟩
theorem qcw_mX5_add : Cond.code (qb_nm mX5_add) (qb_by mX5_add) (qb_ml mX5_add) (qb_rt mX5_add) ∈ qb_wg := qb_wg_in 760 (by decide +kernel) (by decide +kernel)
theorem qci_mX5_add : Cond.initialized (qb_nm mX5_add).cls ∈ qb_wg := qb_wg_in 68 (by decide +kernel) (by decide +kernel)
theorem qsi_mX5_add : Cond.instanceMethod (qb_nm mX5_add) ∈ qb_wg := qb_wg_in 758 (by decide +kernel) (by decide +kernel)
theorem qse_mX5_add : Cond.selects (qb_nm mX5_add).cls (qb_nm mX5_add) (qb_nm mX5_add) ∈ qb_wg := qb_wg_in 759 (by decide +kernel) (by decide +kernel)
theorem qe_mX10_free_mX5_add : qb_CV mX10_free mX5_add 229 4 := ⟨⟨qcw_mX5_add, qci_mX5_add, by decide +kernel, by decide +kernel, by decide +kernel⟩, qb_wg_in 757 (by decide +kernel) (by decide +kernel), qsi_mX5_add, qse_mX5_add⟩
theorem qe_mX10_freeOn_mX10_freePrice : qb_CV mX10_freeOn mX10_freePrice 230 2 := ⟨⟨qcw_mX10_freePrice, qci_mX10_freePrice, by decide +kernel, by decide +kernel, by decide +kernel⟩, qb_wg_in 765 (by decide +kernel) (by decide +kernel), qsi_mX10_freePrice, qse_mX10_freePrice⟩
theorem qe_mX10_freeOn_mX10_isDay : qb_CS mX10_freeOn mX10_isDay 108 1 := ⟨⟨qcw_mX10_isDay, qci_mX10_isDay, by decide +kernel, by decide +kernel, by decide +kernel⟩, qb_wg_in 471 (by decide +kernel) (by decide +kernel), qst_mX10_isDay⟩
theorem qcw_mX5_find : Cond.code (qb_nm mX5_find) (qb_by mX5_find) (qb_ml mX5_find) (qb_rt mX5_find) ∈ qb_wg := qb_wg_in 772 (by decide +kernel) (by decide +kernel)
theorem qci_mX5_find : Cond.initialized (qb_nm mX5_find).cls ∈ qb_wg := qb_wg_in 68 (by decide +kernel) (by decide +kernel)
theorem qsi_mX5_find : Cond.instanceMethod (qb_nm mX5_find) ∈ qb_wg := qb_wg_in 770 (by decide +kernel) (by decide +kernel)
theorem qse_mX5_find : Cond.selects (qb_nm mX5_find).cls (qb_nm mX5_find) (qb_nm mX5_find) ∈ qb_wg := qb_wg_in 771 (by decide +kernel) (by decide +kernel)
theorem qe_mX10_freePrice_mX5_find : qb_CV mX10_freePrice mX5_find 282 4 := ⟨⟨qcw_mX5_find, qci_mX5_find, by decide +kernel, by decide +kernel, by decide +kernel⟩, qb_wg_in 769 (by decide +kernel) (by decide +kernel), qsi_mX5_find, qse_mX5_find⟩
theorem qcw_mX0_gradeAt : Cond.code (qb_nm mX0_gradeAt) (qb_by mX0_gradeAt) (qb_ml mX0_gradeAt) (qb_rt mX0_gradeAt) ∈ qb_wg := qb_wg_in 591 (by decide +kernel) (by decide +kernel)
theorem qci_mX0_gradeAt : Cond.initialized (qb_nm mX0_gradeAt).cls ∈ qb_wg := qb_wg_in 62 (by decide +kernel) (by decide +kernel)
theorem qsi_mX0_gradeAt : Cond.instanceMethod (qb_nm mX0_gradeAt) ∈ qb_wg := qb_wg_in 589 (by decide +kernel) (by decide +kernel)
theorem qse_mX0_gradeAt : Cond.selects (qb_nm mX0_gradeAt).cls (qb_nm mX0_gradeAt) (qb_nm mX0_gradeAt) ∈ qb_wg := qb_wg_in 590 (by decide +kernel) (by decide +kernel)
theorem qe_mX10_grade_mX0_gradeAt : qb_CV mX10_grade mX0_gradeAt 135 2 := ⟨⟨qcw_mX0_gradeAt, qci_mX0_gradeAt, by decide +kernel, by decide +kernel, by decide +kernel⟩, qb_wg_in 588 (by decide +kernel) (by decide +kernel), qsi_mX0_gradeAt, qse_mX0_gradeAt⟩
theorem qcw_mX0_gradesOn : Cond.code (qb_nm mX0_gradesOn) (qb_by mX0_gradesOn) (qb_ml mX0_gradesOn) (qb_rt mX0_gradesOn) ∈ qb_wg := qb_wg_in 587 (by decide +kernel) (by decide +kernel)
theorem qci_mX0_gradesOn : Cond.initialized (qb_nm mX0_gradesOn).cls ∈ qb_wg := qb_wg_in 62 (by decide +kernel) (by decide +kernel)
theorem qsi_mX0_gradesOn : Cond.instanceMethod (qb_nm mX0_gradesOn) ∈ qb_wg := qb_wg_in 585 (by decide +kernel) (by decide +kernel)
theorem qse_mX0_gradesOn : Cond.selects (qb_nm mX0_gradesOn).cls (qb_nm mX0_gradesOn) (qb_nm mX0_gradesOn) ∈ qb_wg := qb_wg_in 586 (by decide +kernel) (by decide +kernel)
theorem qe_mX10_grade_mX0_gradesOn : qb_CV mX10_grade mX0_gradesOn 132 1 := ⟨⟨qcw_mX0_gradesOn, qci_mX0_gradesOn, by decide +kernel, by decide +kernel, by decide +kernel⟩, qb_wg_in 584 (by decide +kernel) (by decide +kernel), qsi_mX0_gradesOn, qse_mX0_gradesOn⟩
theorem qe_mX10_grade_mX10_isDay : qb_CS mX10_grade mX10_isDay 108 1 := ⟨⟨qcw_mX10_isDay, qci_mX10_isDay, by decide +kernel, by decide +kernel, by decide +kernel⟩, qb_wg_in 471 (by decide +kernel) (by decide +kernel), qst_mX10_isDay⟩
theorem qe_mX10_isBoat_mX10_within : qb_CS mX10_isBoat mX10_within 89 3 := ⟨⟨qcw_mX10_within, qci_mX10_within, by decide +kernel, by decide +kernel, by decide +kernel⟩, qb_wg_in 422 (by decide +kernel) (by decide +kernel), qst_mX10_within⟩
theorem qe_mX10_isDay_mX10_within : qb_CS mX10_isDay mX10_within 89 3 := ⟨⟨qcw_mX10_within, qci_mX10_within, by decide +kernel, by decide +kernel, by decide +kernel⟩, qb_wg_in 422 (by decide +kernel) (by decide +kernel), qst_mX10_within⟩
theorem qe_mX10_isHour_mX10_within : qb_CS mX10_isHour mX10_within 89 3 := ⟨⟨qcw_mX10_within, qci_mX10_within, by decide +kernel, by decide +kernel, by decide +kernel⟩, qb_wg_in 422 (by decide +kernel) (by decide +kernel), qst_mX10_within⟩
theorem qe_mX10_isLanding_mX10_within : qb_CS mX10_isLanding mX10_within 89 3 := ⟨⟨qcw_mX10_within, qci_mX10_within, by decide +kernel, by decide +kernel, by decide +kernel⟩, qb_wg_in 422 (by decide +kernel) (by decide +kernel), qst_mX10_within⟩
theorem qe_mX10_isQuay_mX10_within : qb_CS mX10_isQuay mX10_within 89 3 := ⟨⟨qcw_mX10_within, qci_mX10_within, by decide +kernel, by decide +kernel, by decide +kernel⟩, qb_wg_in 422 (by decide +kernel) (by decide +kernel), qst_mX10_within⟩
theorem qe_mX10_isQuayOrNone_mX10_isQuay : qb_CS mX10_isQuayOrNone mX10_isQuay 116 1 := ⟨⟨qcw_mX10_isQuay, qci_mX10_isQuay, by decide +kernel, by decide +kernel, by decide +kernel⟩, qb_wg_in 486 (by decide +kernel) (by decide +kernel), qst_mX10_isQuay⟩
theorem qe_mX10_judge_mX10_within : qb_CS mX10_judge mX10_within 89 3 := ⟨⟨qcw_mX10_within, qci_mX10_within, by decide +kernel, by decide +kernel, by decide +kernel⟩, qb_wg_in 422 (by decide +kernel) (by decide +kernel), qst_mX10_within⟩
theorem qcw_mX6_add : Cond.code (qb_nm mX6_add) (qb_by mX6_add) (qb_ml mX6_add) (qb_rt mX6_add) ∈ qb_wg := qb_wg_in 688 (by decide +kernel) (by decide +kernel)
theorem qci_mX6_add : Cond.initialized (qb_nm mX6_add).cls ∈ qb_wg := qb_wg_in 66 (by decide +kernel) (by decide +kernel)
theorem qsi_mX6_add : Cond.instanceMethod (qb_nm mX6_add) ∈ qb_wg := qb_wg_in 686 (by decide +kernel) (by decide +kernel)
theorem qse_mX6_add : Cond.selects (qb_nm mX6_add).cls (qb_nm mX6_add) (qb_nm mX6_add) ∈ qb_wg := qb_wg_in 687 (by decide +kernel) (by decide +kernel)
theorem qe_mX10_judge_mX6_add : qb_CV mX10_judge mX6_add 208 4 := ⟨⟨qcw_mX6_add, qci_mX6_add, by decide +kernel, by decide +kernel, by decide +kernel⟩, qb_wg_in 685 (by decide +kernel) (by decide +kernel), qsi_mX6_add, qse_mX6_add⟩
theorem qe_mX10_land_mX10_isBoat : qb_CS mX10_land mX10_isBoat 151 1 := ⟨⟨qcw_mX10_isBoat, qci_mX10_isBoat, by decide +kernel, by decide +kernel, by decide +kernel⟩, qb_wg_in 608 (by decide +kernel) (by decide +kernel), qst_mX10_isBoat⟩
theorem qe_mX10_land_mX10_isHour : qb_CS mX10_land mX10_isHour 157 1 := ⟨⟨qcw_mX10_isHour, qci_mX10_isHour, by decide +kernel, by decide +kernel, by decide +kernel⟩, qb_wg_in 614 (by decide +kernel) (by decide +kernel), qst_mX10_isHour⟩
theorem qe_mX10_land_mX10_isQuayOrNone : qb_CS mX10_land mX10_isQuayOrNone 154 1 := ⟨⟨qcw_mX10_isQuayOrNone, qci_mX10_isQuayOrNone, by decide +kernel, by decide +kernel, by decide +kernel⟩, qb_wg_in 611 (by decide +kernel) (by decide +kernel), qst_mX10_isQuayOrNone⟩
theorem qe_mX10_land_mX10_within : qb_CS mX10_land mX10_within 89 3 := ⟨⟨qcw_mX10_within, qci_mX10_within, by decide +kernel, by decide +kernel, by decide +kernel⟩, qb_wg_in 422 (by decide +kernel) (by decide +kernel), qst_mX10_within⟩
theorem qcw_mX7_add : Cond.code (qb_nm mX7_add) (qb_by mX7_add) (qb_ml mX7_add) (qb_rt mX7_add) ∈ qb_wg := qb_wg_in 624 (by decide +kernel) (by decide +kernel)
theorem qci_mX7_add : Cond.initialized (qb_nm mX7_add).cls ∈ qb_wg := qb_wg_in 63 (by decide +kernel) (by decide +kernel)
theorem qsi_mX7_add : Cond.instanceMethod (qb_nm mX7_add) ∈ qb_wg := qb_wg_in 622 (by decide +kernel) (by decide +kernel)
theorem qse_mX7_add : Cond.selects (qb_nm mX7_add).cls (qb_nm mX7_add) (qb_nm mX7_add) ∈ qb_wg := qb_wg_in 623 (by decide +kernel) (by decide +kernel)
theorem qe_mX10_land_mX7_add : qb_CV mX10_land mX7_add 164 5 := ⟨⟨qcw_mX7_add, qci_mX7_add, by decide +kernel, by decide +kernel, by decide +kernel⟩, qb_wg_in 621 (by decide +kernel) (by decide +kernel), qsi_mX7_add, qse_mX7_add⟩
theorem qcw_mX7_waiting : Cond.code (qb_nm mX7_waiting) (qb_by mX7_waiting) (qb_ml mX7_waiting) (qb_rt mX7_waiting) ∈ qb_wg := qb_wg_in 620 (by decide +kernel) (by decide +kernel)
theorem qci_mX7_waiting : Cond.initialized (qb_nm mX7_waiting).cls ∈ qb_wg := qb_wg_in 63 (by decide +kernel) (by decide +kernel)
theorem qsi_mX7_waiting : Cond.instanceMethod (qb_nm mX7_waiting) ∈ qb_wg := qb_wg_in 618 (by decide +kernel) (by decide +kernel)
theorem qse_mX7_waiting : Cond.selects (qb_nm mX7_waiting).cls (qb_nm mX7_waiting) (qb_nm mX7_waiting) ∈ qb_wg := qb_wg_in 619 (by decide +kernel) (by decide +kernel)
theorem qe_mX10_land_mX7_waiting : qb_CV mX10_land mX7_waiting 161 0 := ⟨⟨qcw_mX7_waiting, qci_mX7_waiting, by decide +kernel, by decide +kernel, by decide +kernel⟩, qb_wg_in 617 (by decide +kernel) (by decide +kernel), qsi_mX7_waiting, qse_mX7_waiting⟩
theorem qcw_mX10_isLanding : Cond.code (qb_nm mX10_isLanding) (qb_by mX10_isLanding) (qb_ml mX10_isLanding) (qb_rt mX10_isLanding) ∈ qb_wg := qb_wg_in 632 (by decide +kernel) (by decide +kernel)
theorem qci_mX10_isLanding : Cond.initialized (qb_nm mX10_isLanding).cls ∈ qb_wg := qb_wg_in 60 (by decide +kernel) (by decide +kernel)
theorem qsi_mX10_isLanding : Cond.instanceMethod (qb_nm mX10_isLanding) ∈ qb_wg := qb_wg_in 631 (by decide +kernel) (by decide +kernel)
theorem qse_mX10_isLanding : Cond.selects (qb_nm mX10_isLanding).cls (qb_nm mX10_isLanding) (qb_nm mX10_isLanding) ∈ qb_wg := qb_wg_in 11 (by decide +kernel) (by decide +kernel)
theorem qe_mX10_landing_mX10_isLanding : qb_CV mX10_landing mX10_isLanding 167 1 := ⟨⟨qcw_mX10_isLanding, qci_mX10_isLanding, by decide +kernel, by decide +kernel, by decide +kernel⟩, qb_wg_in 629 (by decide +kernel) (by decide +kernel), qsi_mX10_isLanding, qse_mX10_isLanding⟩
theorem qe_mX10_landing_mX10_work : qb_CV mX10_landing mX10_work 119 0 := ⟨⟨qcw_mX10_work, qci_mX10_work, by decide +kernel, by decide +kernel, by decide +kernel⟩, qb_wg_in 489 (by decide +kernel) (by decide +kernel), qsi_mX10_work, qse_mX10_work⟩
theorem qcw_mX7_lastHourOf : Cond.code (qb_nm mX7_lastHourOf) (qb_by mX7_lastHourOf) (qb_ml mX7_lastHourOf) (qb_rt mX7_lastHourOf) ∈ qb_wg := qb_wg_in 644 (by decide +kernel) (by decide +kernel)
theorem qci_mX7_lastHourOf : Cond.initialized (qb_nm mX7_lastHourOf).cls ∈ qb_wg := qb_wg_in 63 (by decide +kernel) (by decide +kernel)
theorem qsi_mX7_lastHourOf : Cond.instanceMethod (qb_nm mX7_lastHourOf) ∈ qb_wg := qb_wg_in 642 (by decide +kernel) (by decide +kernel)
theorem qse_mX7_lastHourOf : Cond.selects (qb_nm mX7_lastHourOf).cls (qb_nm mX7_lastHourOf) (qb_nm mX7_lastHourOf) ∈ qb_wg := qb_wg_in 643 (by decide +kernel) (by decide +kernel)
theorem qe_mX10_landing_mX7_lastHourOf : qb_CV mX10_landing mX7_lastHourOf 187 1 := ⟨⟨qcw_mX7_lastHourOf, qci_mX7_lastHourOf, by decide +kernel, by decide +kernel, by decide +kernel⟩, qb_wg_in 641 (by decide +kernel) (by decide +kernel), qsi_mX7_lastHourOf, qse_mX7_lastHourOf⟩
theorem qcw_mX7_spoiltOf : Cond.code (qb_nm mX7_spoiltOf) (qb_by mX7_spoiltOf) (qb_ml mX7_spoiltOf) (qb_rt mX7_spoiltOf) ∈ qb_wg := qb_wg_in 640 (by decide +kernel) (by decide +kernel)
theorem qci_mX7_spoiltOf : Cond.initialized (qb_nm mX7_spoiltOf).cls ∈ qb_wg := qb_wg_in 63 (by decide +kernel) (by decide +kernel)
theorem qsi_mX7_spoiltOf : Cond.instanceMethod (qb_nm mX7_spoiltOf) ∈ qb_wg := qb_wg_in 638 (by decide +kernel) (by decide +kernel)
theorem qse_mX7_spoiltOf : Cond.selects (qb_nm mX7_spoiltOf).cls (qb_nm mX7_spoiltOf) (qb_nm mX7_spoiltOf) ∈ qb_wg := qb_wg_in 639 (by decide +kernel) (by decide +kernel)
theorem qe_mX10_landing_mX7_spoiltOf : qb_CV mX10_landing mX7_spoiltOf 184 1 := ⟨⟨qcw_mX7_spoiltOf, qci_mX7_spoiltOf, by decide +kernel, by decide +kernel, by decide +kernel⟩, qb_wg_in 637 (by decide +kernel) (by decide +kernel), qsi_mX7_spoiltOf, qse_mX7_spoiltOf⟩
theorem qe_mX10_lead_mX10_isLanding : qb_CV mX10_lead mX10_isLanding 167 1 := ⟨⟨qcw_mX10_isLanding, qci_mX10_isLanding, by decide +kernel, by decide +kernel, by decide +kernel⟩, qb_wg_in 629 (by decide +kernel) (by decide +kernel), qsi_mX10_isLanding, qse_mX10_isLanding⟩
theorem qe_mX10_lead_mX10_isQuayOrNone : qb_CS mX10_lead mX10_isQuayOrNone 154 1 := ⟨⟨qcw_mX10_isQuayOrNone, qci_mX10_isQuayOrNone, by decide +kernel, by decide +kernel, by decide +kernel⟩, qb_wg_in 611 (by decide +kernel) (by decide +kernel), qst_mX10_isQuayOrNone⟩
theorem qe_mX10_lead_mX7_waiting : qb_CV mX10_lead mX7_waiting 161 0 := ⟨⟨qcw_mX7_waiting, qci_mX7_waiting, by decide +kernel, by decide +kernel, by decide +kernel⟩, qb_wg_in 617 (by decide +kernel) (by decide +kernel), qsi_mX7_waiting, qse_mX7_waiting⟩
theorem qe_mX10_load_mX10_isDay : qb_CS mX10_load mX10_isDay 108 1 := ⟨⟨qcw_mX10_isDay, qci_mX10_isDay, by decide +kernel, by decide +kernel, by decide +kernel⟩, qb_wg_in 471 (by decide +kernel) (by decide +kernel), qst_mX10_isDay⟩
theorem qe_mX10_load_mX10_within : qb_CS mX10_load mX10_within 89 3 := ⟨⟨qcw_mX10_within, qci_mX10_within, by decide +kernel, by decide +kernel, by decide +kernel⟩, qb_wg_in 422 (by decide +kernel) (by decide +kernel), qst_mX10_within⟩
theorem qcw_mX4_borneBy : Cond.code (qb_nm mX4_borneBy) (qb_by mX4_borneBy) (qb_ml mX4_borneBy) (qb_rt mX4_borneBy) ∈ qb_wg := qb_wg_in 887 (by decide +kernel) (by decide +kernel)
theorem qci_mX4_borneBy : Cond.initialized (qb_nm mX4_borneBy).cls ∈ qb_wg := qb_wg_in 70 (by decide +kernel) (by decide +kernel)
theorem qsi_mX4_borneBy : Cond.instanceMethod (qb_nm mX4_borneBy) ∈ qb_wg := qb_wg_in 885 (by decide +kernel) (by decide +kernel)
theorem qse_mX4_borneBy : Cond.selects (qb_nm mX4_borneBy).cls (qb_nm mX4_borneBy) (qb_nm mX4_borneBy) ∈ qb_wg := qb_wg_in 886 (by decide +kernel) (by decide +kernel)
theorem qe_mX10_load_mX4_borneBy : qb_CV mX10_load mX4_borneBy 296 3 := ⟨⟨qcw_mX4_borneBy, qci_mX4_borneBy, by decide +kernel, by decide +kernel, by decide +kernel⟩, qb_wg_in 884 (by decide +kernel) (by decide +kernel), qsi_mX4_borneBy, qse_mX4_borneBy⟩
theorem qcw_mX4_plan : Cond.code (qb_nm mX4_plan) (qb_by mX4_plan) (qb_ml mX4_plan) (qb_rt mX4_plan) ∈ qb_wg := qb_wg_in 870 (by decide +kernel) (by decide +kernel)
theorem qci_mX4_plan : Cond.initialized (qb_nm mX4_plan).cls ∈ qb_wg := qb_wg_in 70 (by decide +kernel) (by decide +kernel)
theorem qsi_mX4_plan : Cond.instanceMethod (qb_nm mX4_plan) ∈ qb_wg := qb_wg_in 868 (by decide +kernel) (by decide +kernel)
theorem qse_mX4_plan : Cond.selects (qb_nm mX4_plan).cls (qb_nm mX4_plan) (qb_nm mX4_plan) ∈ qb_wg := qb_wg_in 869 (by decide +kernel) (by decide +kernel)
theorem qe_mX10_load_mX4_plan : qb_CV mX10_load mX4_plan 291 2 := ⟨⟨qcw_mX4_plan, qci_mX4_plan, by decide +kernel, by decide +kernel, by decide +kernel⟩, qb_wg_in 867 (by decide +kernel) (by decide +kernel), qsi_mX4_plan, qse_mX4_plan⟩
theorem qcw_mX4_worth : Cond.code (qb_nm mX4_worth) (qb_by mX4_worth) (qb_ml mX4_worth) (qb_rt mX4_worth) ∈ qb_wg := qb_wg_in 881 (by decide +kernel) (by decide +kernel)
theorem qci_mX4_worth : Cond.initialized (qb_nm mX4_worth).cls ∈ qb_wg := qb_wg_in 70 (by decide +kernel) (by decide +kernel)
theorem qsi_mX4_worth : Cond.instanceMethod (qb_nm mX4_worth) ∈ qb_wg := qb_wg_in 879 (by decide +kernel) (by decide +kernel)
theorem qse_mX4_worth : Cond.selects (qb_nm mX4_worth).cls (qb_nm mX4_worth) (qb_nm mX4_worth) ∈ qb_wg := qb_wg_in 880 (by decide +kernel) (by decide +kernel)
theorem qe_mX10_load_mX4_worth : qb_CV mX10_load mX4_worth 293 3 := ⟨⟨qcw_mX4_worth, qci_mX4_worth, by decide +kernel, by decide +kernel, by decide +kernel⟩, qb_wg_in 883 (by decide +kernel) (by decide +kernel), qsi_mX4_worth, qse_mX4_worth⟩
theorem qe_mX10_load_mX5_find : qb_CV mX10_load mX5_find 282 4 := ⟨⟨qcw_mX5_find, qci_mX5_find, by decide +kernel, by decide +kernel, by decide +kernel⟩, qb_wg_in 769 (by decide +kernel) (by decide +kernel), qsi_mX5_find, qse_mX5_find⟩
theorem qe_mX10_measureOne_mX2_start : qb_CV mX10_measureOne mX2_start 308 1 := ⟨⟨qcw_mX2_start, qci_mX2_start, by decide +kernel, by decide +kernel, by decide +kernel⟩, qb_wg_in 527 (by decide +kernel) (by decide +kernel), qsi_mX2_start, qse_mX2_start⟩
theorem qe_mX10_measureOne_mX7_measure : qb_CV mX10_measureOne mX7_measure 311 3 := ⟨⟨qcw_mX7_measure, qci_mX7_measure, by decide +kernel, by decide +kernel, by decide +kernel⟩, qb_wg_in 531 (by decide +kernel) (by decide +kernel), qsi_mX7_measure, qse_mX7_measure⟩
theorem qe_mX10_ofCask_mX10_tiers : qb_CV mX10_ofCask mX10_tiers 321 0 := ⟨⟨qcw_mX10_tiers, qci_mX10_tiers, by decide +kernel, by decide +kernel, by decide +kernel⟩, qb_wg_in 553 (by decide +kernel) (by decide +kernel), qsi_mX10_tiers, qse_mX10_tiers⟩
theorem qcw_mX8_lotAt : Cond.code (qb_nm mX8_lotAt) (qb_by mX8_lotAt) (qb_ml mX8_lotAt) (qb_rt mX8_lotAt) ∈ qb_wg := qb_wg_in 664 (by decide +kernel) (by decide +kernel)
theorem qci_mX8_lotAt : Cond.initialized (qb_nm mX8_lotAt).cls ∈ qb_wg := qb_wg_in 65 (by decide +kernel) (by decide +kernel)
theorem qsi_mX8_lotAt : Cond.instanceMethod (qb_nm mX8_lotAt) ∈ qb_wg := qb_wg_in 662 (by decide +kernel) (by decide +kernel)
theorem qse_mX8_lotAt : Cond.selects (qb_nm mX8_lotAt).cls (qb_nm mX8_lotAt) (qb_nm mX8_lotAt) ∈ qb_wg := qb_wg_in 663 (by decide +kernel) (by decide +kernel)
theorem qe_mX10_ofCask_mX8_lotAt : qb_CV mX10_ofCask mX8_lotAt 330 2 := ⟨⟨qcw_mX8_lotAt, qci_mX8_lotAt, by decide +kernel, by decide +kernel, by decide +kernel⟩, qb_wg_in 661 (by decide +kernel) (by decide +kernel), qsi_mX8_lotAt, qse_mX8_lotAt⟩
theorem qe_mX10_ofCask_mX8_muchAt : qb_CV mX10_ofCask mX8_muchAt 327 2 := ⟨⟨qcw_mX8_muchAt, qci_mX8_muchAt, by decide +kernel, by decide +kernel, by decide +kernel⟩, qb_wg_in 557 (by decide +kernel) (by decide +kernel), qsi_mX8_muchAt, qse_mX8_muchAt⟩
theorem qcw_mX10_choose : Cond.code (qb_nm mX10_choose) (qb_by mX10_choose) (qb_ml mX10_choose) (qb_rt mX10_choose) ∈ qb_wg := qb_wg_in 679 (by decide +kernel) (by decide +kernel)
theorem qci_mX10_choose : Cond.initialized (qb_nm mX10_choose).cls ∈ qb_wg := qb_wg_in 60 (by decide +kernel) (by decide +kernel)
theorem qst_mX10_choose : Cond.static (qb_nm mX10_choose) ∈ qb_wg := qb_wg_in 678 (by decide +kernel) (by decide +kernel)
theorem qe_mX10_open_mX10_choose : qb_CS mX10_open mX10_choose 201 2 := ⟨⟨qcw_mX10_choose, qci_mX10_choose, by decide +kernel, by decide +kernel, by decide +kernel⟩, qb_wg_in 677 (by decide +kernel) (by decide +kernel), qst_mX10_choose⟩
theorem qe_mX10_open_mX10_within : qb_CS mX10_open mX10_within 89 3 := ⟨⟨qcw_mX10_within, qci_mX10_within, by decide +kernel, by decide +kernel, by decide +kernel⟩, qb_wg_in 422 (by decide +kernel) (by decide +kernel), qst_mX10_within⟩
theorem qe_mX10_price_mX10_isDay : qb_CS mX10_price mX10_isDay 108 1 := ⟨⟨qcw_mX10_isDay, qci_mX10_isDay, by decide +kernel, by decide +kernel, by decide +kernel⟩, qb_wg_in 471 (by decide +kernel) (by decide +kernel), qst_mX10_isDay⟩
theorem qe_mX10_price_mX10_within : qb_CS mX10_price mX10_within 89 3 := ⟨⟨qcw_mX10_within, qci_mX10_within, by decide +kernel, by decide +kernel, by decide +kernel⟩, qb_wg_in 422 (by decide +kernel) (by decide +kernel), qst_mX10_within⟩
theorem qe_mX10_price_mX5_add : qb_CV mX10_price mX5_add 229 4 := ⟨⟨qcw_mX5_add, qci_mX5_add, by decide +kernel, by decide +kernel, by decide +kernel⟩, qb_wg_in 757 (by decide +kernel) (by decide +kernel), qsi_mX5_add, qse_mX5_add⟩
theorem qe_mX10_priceOn_mX10_isDay : qb_CS mX10_priceOn mX10_isDay 108 1 := ⟨⟨qcw_mX10_isDay, qci_mX10_isDay, by decide +kernel, by decide +kernel, by decide +kernel⟩, qb_wg_in 471 (by decide +kernel) (by decide +kernel), qst_mX10_isDay⟩
theorem qe_mX10_priceOn_mX10_within : qb_CS mX10_priceOn mX10_within 89 3 := ⟨⟨qcw_mX10_within, qci_mX10_within, by decide +kernel, by decide +kernel, by decide +kernel⟩, qb_wg_in 422 (by decide +kernel) (by decide +kernel), qst_mX10_within⟩
theorem qe_mX10_priceOn_mX5_find : qb_CV mX10_priceOn mX5_find 282 4 := ⟨⟨qcw_mX5_find, qci_mX5_find, by decide +kernel, by decide +kernel, by decide +kernel⟩, qb_wg_in 769 (by decide +kernel) (by decide +kernel), qsi_mX5_find, qse_mX5_find⟩
theorem qe_mX10_rival_mX10_within : qb_CS mX10_rival mX10_within 89 3 := ⟨⟨qcw_mX10_within, qci_mX10_within, by decide +kernel, by decide +kernel, by decide +kernel⟩, qb_wg_in 422 (by decide +kernel) (by decide +kernel), qst_mX10_within⟩
theorem qcw_mX6_chosenCause : Cond.code (qb_nm mX6_chosenCause) (qb_by mX6_chosenCause) (qb_ml mX6_chosenCause) (qb_rt mX6_chosenCause) ∈ qb_wg := qb_wg_in 744 (by decide +kernel) (by decide +kernel)
theorem qci_mX6_chosenCause : Cond.initialized (qb_nm mX6_chosenCause).cls ∈ qb_wg := qb_wg_in 66 (by decide +kernel) (by decide +kernel)
theorem qsi_mX6_chosenCause : Cond.instanceMethod (qb_nm mX6_chosenCause) ∈ qb_wg := qb_wg_in 742 (by decide +kernel) (by decide +kernel)
theorem qse_mX6_chosenCause : Cond.selects (qb_nm mX6_chosenCause).cls (qb_nm mX6_chosenCause) (qb_nm mX6_chosenCause) ∈ qb_wg := qb_wg_in 743 (by decide +kernel) (by decide +kernel)
theorem qe_mX10_rival_mX6_chosenCause : qb_CV mX10_rival mX6_chosenCause 221 1 := ⟨⟨qcw_mX6_chosenCause, qci_mX6_chosenCause, by decide +kernel, by decide +kernel, by decide +kernel⟩, qb_wg_in 741 (by decide +kernel) (by decide +kernel), qsi_mX6_chosenCause, qse_mX6_chosenCause⟩
theorem qcw_mX6_explaining : Cond.code (qb_nm mX6_explaining) (qb_by mX6_explaining) (qb_ml mX6_explaining) (qb_rt mX6_explaining) ∈ qb_wg := qb_wg_in 722 (by decide +kernel) (by decide +kernel)
theorem qci_mX6_explaining : Cond.initialized (qb_nm mX6_explaining).cls ∈ qb_wg := qb_wg_in 66 (by decide +kernel) (by decide +kernel)
theorem qsi_mX6_explaining : Cond.instanceMethod (qb_nm mX6_explaining) ∈ qb_wg := qb_wg_in 720 (by decide +kernel) (by decide +kernel)
theorem qse_mX6_explaining : Cond.selects (qb_nm mX6_explaining).cls (qb_nm mX6_explaining) (qb_nm mX6_explaining) ∈ qb_wg := qb_wg_in 721 (by decide +kernel) (by decide +kernel)
theorem qe_mX10_rival_mX6_explaining : qb_CV mX10_rival mX6_explaining 218 2 := ⟨⟨qcw_mX6_explaining, qci_mX6_explaining, by decide +kernel, by decide +kernel, by decide +kernel⟩, qb_wg_in 740 (by decide +kernel) (by decide +kernel), qsi_mX6_explaining, qse_mX6_explaining⟩
theorem qe_mX10_rival_mX6_fewest : qb_CV mX10_rival mX6_fewest 215 0 := ⟨⟨qcw_mX6_fewest, qci_mX6_fewest, by decide +kernel, by decide +kernel, by decide +kernel⟩, qb_wg_in 715 (by decide +kernel) (by decide +kernel), qsi_mX6_fewest, qse_mX6_fewest⟩
theorem qe_mX10_rule_mX10_within : qb_CS mX10_rule mX10_within 89 3 := ⟨⟨qcw_mX10_within, qci_mX10_within, by decide +kernel, by decide +kernel, by decide +kernel⟩, qb_wg_in 422 (by decide +kernel) (by decide +kernel), qst_mX10_within⟩
theorem qe_mX10_salt_mX10_isHour : qb_CS mX10_salt mX10_isHour 157 1 := ⟨⟨qcw_mX10_isHour, qci_mX10_isHour, by decide +kernel, by decide +kernel, by decide +kernel⟩, qb_wg_in 614 (by decide +kernel) (by decide +kernel), qst_mX10_isHour⟩
theorem qe_mX10_salt_mX10_isQuay : qb_CS mX10_salt mX10_isQuay 116 1 := ⟨⟨qcw_mX10_isQuay, qci_mX10_isQuay, by decide +kernel, by decide +kernel, by decide +kernel⟩, qb_wg_in 486 (by decide +kernel) (by decide +kernel), qst_mX10_isQuay⟩
theorem qe_mX10_salt_mX10_within : qb_CS mX10_salt mX10_within 89 3 := ⟨⟨qcw_mX10_within, qci_mX10_within, by decide +kernel, by decide +kernel, by decide +kernel⟩, qb_wg_in 422 (by decide +kernel) (by decide +kernel), qst_mX10_within⟩
theorem qcw_mX8_add : Cond.code (qb_nm mX8_add) (qb_by mX8_add) (qb_ml mX8_add) (qb_rt mX8_add) ∈ qb_wg := qb_wg_in 652 (by decide +kernel) (by decide +kernel)
theorem qci_mX8_add : Cond.initialized (qb_nm mX8_add).cls ∈ qb_wg := qb_wg_in 65 (by decide +kernel) (by decide +kernel)
theorem qsi_mX8_add : Cond.instanceMethod (qb_nm mX8_add) ∈ qb_wg := qb_wg_in 650 (by decide +kernel) (by decide +kernel)
theorem qse_mX8_add : Cond.selects (qb_nm mX8_add).cls (qb_nm mX8_add) (qb_nm mX8_add) ∈ qb_wg := qb_wg_in 651 (by decide +kernel) (by decide +kernel)
theorem qe_mX10_salt_mX8_add : qb_CV mX10_salt mX8_add 191 4 := ⟨⟨qcw_mX8_add, qci_mX8_add, by decide +kernel, by decide +kernel, by decide +kernel⟩, qb_wg_in 649 (by decide +kernel) (by decide +kernel), qsi_mX8_add, qse_mX8_add⟩
theorem qe_mX10_savedBy_mX10_costOf : qb_CV mX10_savedBy mX10_costOf 236 4 := ⟨⟨qcw_mX10_costOf, qci_mX10_costOf, by decide +kernel, by decide +kernel, by decide +kernel⟩, qb_wg_in 781 (by decide +kernel) (by decide +kernel), qsi_mX10_costOf, qse_mX10_costOf⟩
theorem qe_mX10_savedBy_mX1_agreedAt : qb_CV mX10_savedBy mX1_agreedAt 233 3 := ⟨⟨qcw_mX1_agreedAt, qci_mX1_agreedAt, by decide +kernel, by decide +kernel, by decide +kernel⟩, qb_wg_in 777 (by decide +kernel) (by decide +kernel), qsi_mX1_agreedAt, qse_mX1_agreedAt⟩
theorem qe_mX10_say_mX10_within : qb_CS mX10_say mX10_within 89 3 := ⟨⟨qcw_mX10_within, qci_mX10_within, by decide +kernel, by decide +kernel, by decide +kernel⟩, qb_wg_in 422 (by decide +kernel) (by decide +kernel), qst_mX10_within⟩
theorem qcw_mX3_add : Cond.code (qb_nm mX3_add) (qb_by mX3_add) (qb_ml mX3_add) (qb_rt mX3_add) ∈ qb_wg := qb_wg_in 428 (by decide +kernel) (by decide +kernel)
theorem qci_mX3_add : Cond.initialized (qb_nm mX3_add).cls ∈ qb_wg := qb_wg_in 61 (by decide +kernel) (by decide +kernel)
theorem qsi_mX3_add : Cond.instanceMethod (qb_nm mX3_add) ∈ qb_wg := qb_wg_in 426 (by decide +kernel) (by decide +kernel)
theorem qse_mX3_add : Cond.selects (qb_nm mX3_add).cls (qb_nm mX3_add) (qb_nm mX3_add) ∈ qb_wg := qb_wg_in 427 (by decide +kernel) (by decide +kernel)
theorem qe_mX10_say_mX3_add : qb_CV mX10_say mX3_add 97 1 := ⟨⟨qcw_mX3_add, qci_mX3_add, by decide +kernel, by decide +kernel, by decide +kernel⟩, qb_wg_in 425 (by decide +kernel) (by decide +kernel), qsi_mX3_add, qse_mX3_add⟩
theorem qe_mX10_set_mX10_isQuay : qb_CS mX10_set mX10_isQuay 116 1 := ⟨⟨qcw_mX10_isQuay, qci_mX10_isQuay, by decide +kernel, by decide +kernel, by decide +kernel⟩, qb_wg_in 486 (by decide +kernel) (by decide +kernel), qst_mX10_isQuay⟩
theorem qe_mX10_set_mX10_within : qb_CS mX10_set mX10_within 89 3 := ⟨⟨qcw_mX10_within, qci_mX10_within, by decide +kernel, by decide +kernel, by decide +kernel⟩, qb_wg_in 422 (by decide +kernel) (by decide +kernel), qst_mX10_within⟩
theorem qcw_mX9_plan : Cond.code (qb_nm mX9_plan) (qb_by mX9_plan) (qb_ml mX9_plan) (qb_rt mX9_plan) ∈ qb_wg := qb_wg_in 826 (by decide +kernel) (by decide +kernel)
theorem qci_mX9_plan : Cond.initialized (qb_nm mX9_plan).cls ∈ qb_wg := qb_wg_in 69 (by decide +kernel) (by decide +kernel)
theorem qsi_mX9_plan : Cond.instanceMethod (qb_nm mX9_plan) ∈ qb_wg := qb_wg_in 824 (by decide +kernel) (by decide +kernel)
theorem qse_mX9_plan : Cond.selects (qb_nm mX9_plan).cls (qb_nm mX9_plan) (qb_nm mX9_plan) ∈ qb_wg := qb_wg_in 825 (by decide +kernel) (by decide +kernel)
theorem qe_mX10_settle_mX9_plan : qb_CV mX10_settle mX9_plan 263 2 := ⟨⟨qcw_mX9_plan, qci_mX9_plan, by decide +kernel, by decide +kernel, by decide +kernel⟩, qb_wg_in 823 (by decide +kernel) (by decide +kernel), qsi_mX9_plan, qse_mX9_plan⟩
theorem qcw_mX9_quayOf : Cond.code (qb_nm mX9_quayOf) (qb_by mX9_quayOf) (qb_ml mX9_quayOf) (qb_rt mX9_quayOf) ∈ qb_wg := qb_wg_in 846 (by decide +kernel) (by decide +kernel)
theorem qci_mX9_quayOf : Cond.initialized (qb_nm mX9_quayOf).cls ∈ qb_wg := qb_wg_in 69 (by decide +kernel) (by decide +kernel)
theorem qsi_mX9_quayOf : Cond.instanceMethod (qb_nm mX9_quayOf) ∈ qb_wg := qb_wg_in 844 (by decide +kernel) (by decide +kernel)
theorem qse_mX9_quayOf : Cond.selects (qb_nm mX9_quayOf).cls (qb_nm mX9_quayOf) (qb_nm mX9_quayOf) ∈ qb_wg := qb_wg_in 845 (by decide +kernel) (by decide +kernel)
theorem qe_mX10_settle_mX9_quayOf : qb_CV mX10_settle mX9_quayOf 269 1 := ⟨⟨qcw_mX9_quayOf, qci_mX9_quayOf, by decide +kernel, by decide +kernel, by decide +kernel⟩, qb_wg_in 843 (by decide +kernel) (by decide +kernel), qsi_mX9_quayOf, qse_mX9_quayOf⟩
theorem qe_mX10_ship_mX10_isDay : qb_CS mX10_ship mX10_isDay 108 1 := ⟨⟨qcw_mX10_isDay, qci_mX10_isDay, by decide +kernel, by decide +kernel, by decide +kernel⟩, qb_wg_in 471 (by decide +kernel) (by decide +kernel), qst_mX10_isDay⟩
theorem qe_mX10_ship_mX10_within : qb_CS mX10_ship mX10_within 89 3 := ⟨⟨qcw_mX10_within, qci_mX10_within, by decide +kernel, by decide +kernel, by decide +kernel⟩, qb_wg_in 422 (by decide +kernel) (by decide +kernel), qst_mX10_within⟩
theorem qe_mX10_spoiltOfAll_mX10_work : qb_CV mX10_spoiltOfAll mX10_work 119 0 := ⟨⟨qcw_mX10_work, qci_mX10_work, by decide +kernel, by decide +kernel, by decide +kernel⟩, qb_wg_in 489 (by decide +kernel) (by decide +kernel), qsi_mX10_work, qse_mX10_work⟩
theorem qe_mX10_spoiltOfAll_mX7_spoiltAt : qb_CV mX10_spoiltOfAll mX7_spoiltAt 257 1 := ⟨⟨qcw_mX7_spoiltAt, qci_mX7_spoiltAt, by decide +kernel, by decide +kernel, by decide +kernel⟩, qb_wg_in 814 (by decide +kernel) (by decide +kernel), qsi_mX7_spoiltAt, qse_mX7_spoiltAt⟩
theorem qe_mX10_spread_mX10_within : qb_CS mX10_spread mX10_within 89 3 := ⟨⟨qcw_mX10_within, qci_mX10_within, by decide +kernel, by decide +kernel, by decide +kernel⟩, qb_wg_in 422 (by decide +kernel) (by decide +kernel), qst_mX10_within⟩
theorem qe_mX10_spread_mX7_waiting : qb_CV mX10_spread mX7_waiting 161 0 := ⟨⟨qcw_mX7_waiting, qci_mX7_waiting, by decide +kernel, by decide +kernel, by decide +kernel⟩, qb_wg_in 617 (by decide +kernel) (by decide +kernel), qsi_mX7_waiting, qse_mX7_waiting⟩
theorem qe_mX10_spread_mX9_plan : qb_CV mX10_spread mX9_plan 263 2 := ⟨⟨qcw_mX9_plan, qci_mX9_plan, by decide +kernel, by decide +kernel, by decide +kernel⟩, qb_wg_in 823 (by decide +kernel) (by decide +kernel), qsi_mX9_plan, qse_mX9_plan⟩
theorem qe_mX10_spread_mX9_quayOf : qb_CV mX10_spread mX9_quayOf 269 1 := ⟨⟨qcw_mX9_quayOf, qci_mX9_quayOf, by decide +kernel, by decide +kernel, by decide +kernel⟩, qb_wg_in 843 (by decide +kernel) (by decide +kernel), qsi_mX9_quayOf, qse_mX9_quayOf⟩
theorem qcw_mX10_barrelsOfAll : Cond.code (qb_nm mX10_barrelsOfAll) (qb_by mX10_barrelsOfAll) (qb_ml mX10_barrelsOfAll) (qb_rt mX10_barrelsOfAll) ∈ qb_wg := qb_wg_in 904 (by decide +kernel) (by decide +kernel)
theorem qci_mX10_barrelsOfAll : Cond.initialized (qb_nm mX10_barrelsOfAll).cls ∈ qb_wg := qb_wg_in 60 (by decide +kernel) (by decide +kernel)
theorem qsi_mX10_barrelsOfAll : Cond.instanceMethod (qb_nm mX10_barrelsOfAll) ∈ qb_wg := qb_wg_in 903 (by decide +kernel) (by decide +kernel)
theorem qse_mX10_barrelsOfAll : Cond.selects (qb_nm mX10_barrelsOfAll).cls (qb_nm mX10_barrelsOfAll) (qb_nm mX10_barrelsOfAll) ∈ qb_wg := qb_wg_in 30 (by decide +kernel) (by decide +kernel)
theorem qe_mX10_told_mX10_barrelsOfAll : qb_CV mX10_told mX10_barrelsOfAll 302 0 := ⟨⟨qcw_mX10_barrelsOfAll, qci_mX10_barrelsOfAll, by decide +kernel, by decide +kernel, by decide +kernel⟩, qb_wg_in 901 (by decide +kernel) (by decide +kernel), qsi_mX10_barrelsOfAll, qse_mX10_barrelsOfAll⟩
theorem qcw_mX10_spoiltOfAll : Cond.code (qb_nm mX10_spoiltOfAll) (qb_by mX10_spoiltOfAll) (qb_ml mX10_spoiltOfAll) (qb_rt mX10_spoiltOfAll) ∈ qb_wg := qb_wg_in 900 (by decide +kernel) (by decide +kernel)
theorem qci_mX10_spoiltOfAll : Cond.initialized (qb_nm mX10_spoiltOfAll).cls ∈ qb_wg := qb_wg_in 60 (by decide +kernel) (by decide +kernel)
theorem qsi_mX10_spoiltOfAll : Cond.instanceMethod (qb_nm mX10_spoiltOfAll) ∈ qb_wg := qb_wg_in 899 (by decide +kernel) (by decide +kernel)
theorem qse_mX10_spoiltOfAll : Cond.selects (qb_nm mX10_spoiltOfAll).cls (qb_nm mX10_spoiltOfAll) (qb_nm mX10_spoiltOfAll) ∈ qb_wg := qb_wg_in 29 (by decide +kernel) (by decide +kernel)
theorem qe_mX10_told_mX10_spoiltOfAll : qb_CV mX10_told mX10_spoiltOfAll 299 0 := ⟨⟨qcw_mX10_spoiltOfAll, qci_mX10_spoiltOfAll, by decide +kernel, by decide +kernel, by decide +kernel⟩, qb_wg_in 897 (by decide +kernel) (by decide +kernel), qsi_mX10_spoiltOfAll, qse_mX10_spoiltOfAll⟩
theorem qe_mX10_told_mX7_waiting : qb_CV mX10_told mX7_waiting 161 0 := ⟨⟨qcw_mX7_waiting, qci_mX7_waiting, by decide +kernel, by decide +kernel, by decide +kernel⟩, qb_wg_in 617 (by decide +kernel) (by decide +kernel), qsi_mX7_waiting, qse_mX7_waiting⟩
theorem qe_mX10_wagesAt_mX10_barrelsAt : qb_CV mX10_wagesAt mX10_barrelsAt 122 1 := ⟨⟨qcw_mX10_barrelsAt, qci_mX10_barrelsAt, by decide +kernel, by decide +kernel, by decide +kernel⟩, qb_wg_in 519 (by decide +kernel) (by decide +kernel), qsi_mX10_barrelsAt, qse_mX10_barrelsAt⟩
theorem qe_mX10_wipe_mX3_clear : qb_CV mX10_wipe mX3_clear 101 0 := ⟨⟨qcw_mX3_clear, qci_mX3_clear, by decide +kernel, by decide +kernel, by decide +kernel⟩, qb_wg_in 433 (by decide +kernel) (by decide +kernel), qsi_mX3_clear, qse_mX3_clear⟩
theorem qcw_mX7_work : Cond.code (qb_nm mX7_work) (qb_by mX7_work) (qb_ml mX7_work) (qb_rt mX7_work) ∈ qb_wg := qb_wg_in 496 (by decide +kernel) (by decide +kernel)
theorem qci_mX7_work : Cond.initialized (qb_nm mX7_work).cls ∈ qb_wg := qb_wg_in 63 (by decide +kernel) (by decide +kernel)
theorem qsi_mX7_work : Cond.instanceMethod (qb_nm mX7_work) ∈ qb_wg := qb_wg_in 494 (by decide +kernel) (by decide +kernel)
theorem qse_mX7_work : Cond.selects (qb_nm mX7_work).cls (qb_nm mX7_work) (qb_nm mX7_work) ∈ qb_wg := qb_wg_in 495 (by decide +kernel) (by decide +kernel)
theorem qe_mX10_work_mX7_work : qb_CV mX10_work mX7_work 305 1 := ⟨⟨qcw_mX7_work, qci_mX7_work, by decide +kernel, by decide +kernel, by decide +kernel⟩, qb_wg_in 493 (by decide +kernel) (by decide +kernel), qsi_mX7_work, qse_mX7_work⟩
theorem qcw_mX11_barrelsNow : Cond.code (qb_nm mX11_barrelsNow) (qb_by mX11_barrelsNow) (qb_ml mX11_barrelsNow) (qb_rt mX11_barrelsNow) ∈ qb_wg := qb_wg_in 1160 (by decide +kernel) (by decide +kernel)
theorem qci_mX11_barrelsNow : Cond.initialized (qb_nm mX11_barrelsNow).cls ∈ qb_wg := qb_wg_in 71 (by decide +kernel) (by decide +kernel)
theorem qsi_mX11_barrelsNow : Cond.instanceMethod (qb_nm mX11_barrelsNow) ∈ qb_wg := qb_wg_in 1159 (by decide +kernel) (by decide +kernel)
theorem qse_mX11_barrelsNow : Cond.selects (qb_nm mX11_barrelsNow).cls (qb_nm mX11_barrelsNow) (qb_nm mX11_barrelsNow) ∈ qb_wg := qb_wg_in 39 (by decide +kernel) (by decide +kernel)
theorem qe_mX11_account_mX11_barrelsNow : qb_CV mX11_account mX11_barrelsNow 182 0 := ⟨⟨qcw_mX11_barrelsNow, qci_mX11_barrelsNow, by decide +kernel, by decide +kernel, by decide +kernel⟩, qb_wg_in 1157 (by decide +kernel) (by decide +kernel), qsi_mX11_barrelsNow, qse_mX11_barrelsNow⟩
theorem qcw_mX11_brandedOf : Cond.code (qb_nm mX11_brandedOf) (qb_by mX11_brandedOf) (qb_ml mX11_brandedOf) (qb_rt mX11_brandedOf) ∈ qb_wg := qb_wg_in 1267 (by decide +kernel) (by decide +kernel)
theorem qci_mX11_brandedOf : Cond.initialized (qb_nm mX11_brandedOf).cls ∈ qb_wg := qb_wg_in 71 (by decide +kernel) (by decide +kernel)
theorem qsi_mX11_brandedOf : Cond.instanceMethod (qb_nm mX11_brandedOf) ∈ qb_wg := qb_wg_in 1266 (by decide +kernel) (by decide +kernel)
theorem qse_mX11_brandedOf : Cond.selects (qb_nm mX11_brandedOf).cls (qb_nm mX11_brandedOf) (qb_nm mX11_brandedOf) ∈ qb_wg := qb_wg_in 51 (by decide +kernel) (by decide +kernel)
theorem qe_mX11_account_mX11_brandedOf : qb_CV mX11_account mX11_brandedOf 242 1 := ⟨⟨qcw_mX11_brandedOf, qci_mX11_brandedOf, by decide +kernel, by decide +kernel, by decide +kernel⟩, qb_wg_in 1264 (by decide +kernel) (by decide +kernel), qsi_mX11_brandedOf, qse_mX11_brandedOf⟩
theorem qcw_mX11_costsOf : Cond.code (qb_nm mX11_costsOf) (qb_by mX11_costsOf) (qb_ml mX11_costsOf) (qb_rt mX11_costsOf) ∈ qb_wg := qb_wg_in 1271 (by decide +kernel) (by decide +kernel)
theorem qci_mX11_costsOf : Cond.initialized (qb_nm mX11_costsOf).cls ∈ qb_wg := qb_wg_in 71 (by decide +kernel) (by decide +kernel)
theorem qsi_mX11_costsOf : Cond.instanceMethod (qb_nm mX11_costsOf) ∈ qb_wg := qb_wg_in 1270 (by decide +kernel) (by decide +kernel)
theorem qse_mX11_costsOf : Cond.selects (qb_nm mX11_costsOf).cls (qb_nm mX11_costsOf) (qb_nm mX11_costsOf) ∈ qb_wg := qb_wg_in 52 (by decide +kernel) (by decide +kernel)
theorem qe_mX11_account_mX11_costsOf : qb_CV mX11_account mX11_costsOf 245 2 := ⟨⟨qcw_mX11_costsOf, qci_mX11_costsOf, by decide +kernel, by decide +kernel, by decide +kernel⟩, qb_wg_in 1268 (by decide +kernel) (by decide +kernel), qsi_mX11_costsOf, qse_mX11_costsOf⟩
theorem qcw_mX11_in : Cond.code (qb_nm mX11_in) (qb_by mX11_in) (qb_ml mX11_in) (qb_rt mX11_in) ∈ qb_wg := qb_wg_in 1068 (by decide +kernel) (by decide +kernel)
theorem qci_mX11_in : Cond.initialized (qb_nm mX11_in).cls ∈ qb_wg := qb_wg_in 71 (by decide +kernel) (by decide +kernel)
theorem qst_mX11_in : Cond.static (qb_nm mX11_in) ∈ qb_wg := qb_wg_in 1067 (by decide +kernel) (by decide +kernel)
theorem qe_mX11_account_mX11_in : qb_CS mX11_account mX11_in 94 3 := ⟨⟨qcw_mX11_in, qci_mX11_in, by decide +kernel, by decide +kernel, by decide +kernel⟩, qb_wg_in 1066 (by decide +kernel) (by decide +kernel), qst_mX11_in⟩
theorem qcw_mX11_isDay : Cond.code (qb_nm mX11_isDay) (qb_by mX11_isDay) (qb_ml mX11_isDay) (qb_rt mX11_isDay) ∈ qb_wg := qb_wg_in 1090 (by decide +kernel) (by decide +kernel)
theorem qci_mX11_isDay : Cond.initialized (qb_nm mX11_isDay).cls ∈ qb_wg := qb_wg_in 71 (by decide +kernel) (by decide +kernel)
theorem qst_mX11_isDay : Cond.static (qb_nm mX11_isDay) ∈ qb_wg := qb_wg_in 1089 (by decide +kernel) (by decide +kernel)
theorem qe_mX11_account_mX11_isDay : qb_CS mX11_account mX11_isDay 110 1 := ⟨⟨qcw_mX11_isDay, qci_mX11_isDay, by decide +kernel, by decide +kernel, by decide +kernel⟩, qb_wg_in 1088 (by decide +kernel) (by decide +kernel), qst_mX11_isDay⟩
theorem qcw_mX11_isQuay : Cond.code (qb_nm mX11_isQuay) (qb_by mX11_isQuay) (qb_ml mX11_isQuay) (qb_rt mX11_isQuay) ∈ qb_wg := qb_wg_in 1105 (by decide +kernel) (by decide +kernel)
theorem qci_mX11_isQuay : Cond.initialized (qb_nm mX11_isQuay).cls ∈ qb_wg := qb_wg_in 71 (by decide +kernel) (by decide +kernel)
theorem qst_mX11_isQuay : Cond.static (qb_nm mX11_isQuay) ∈ qb_wg := qb_wg_in 1104 (by decide +kernel) (by decide +kernel)
theorem qe_mX11_account_mX11_isQuay : qb_CS mX11_account mX11_isQuay 133 1 := ⟨⟨qcw_mX11_isQuay, qci_mX11_isQuay, by decide +kernel, by decide +kernel, by decide +kernel⟩, qb_wg_in 1103 (by decide +kernel) (by decide +kernel), qst_mX11_isQuay⟩
theorem qcw_mX11_faultOf : Cond.code (qb_nm mX11_faultOf) (qb_by mX11_faultOf) (qb_ml mX11_faultOf) (qb_rt mX11_faultOf) ∈ qb_wg := qb_wg_in 1080 (by decide +kernel) (by decide +kernel)
theorem qci_mX11_faultOf : Cond.initialized (qb_nm mX11_faultOf).cls ∈ qb_wg := qb_wg_in 71 (by decide +kernel) (by decide +kernel)
theorem qsi_mX11_faultOf : Cond.instanceMethod (qb_nm mX11_faultOf) ∈ qb_wg := qb_wg_in 1079 (by decide +kernel) (by decide +kernel)
theorem qse_mX11_faultOf : Cond.selects (qb_nm mX11_faultOf).cls (qb_nm mX11_faultOf) (qb_nm mX11_faultOf) ∈ qb_wg := qb_wg_in 31 (by decide +kernel) (by decide +kernel)
theorem qe_mX11_act_mX11_faultOf : qb_CV mX11_act mX11_faultOf 106 0 := ⟨⟨qcw_mX11_faultOf, qci_mX11_faultOf, by decide +kernel, by decide +kernel, by decide +kernel⟩, qb_wg_in 1077 (by decide +kernel) (by decide +kernel), qsi_mX11_faultOf, qse_mX11_faultOf⟩
theorem qe_mX11_act_mX11_isDay : qb_CS mX11_act mX11_isDay 110 1 := ⟨⟨qcw_mX11_isDay, qci_mX11_isDay, by decide +kernel, by decide +kernel, by decide +kernel⟩, qb_wg_in 1088 (by decide +kernel) (by decide +kernel), qst_mX11_isDay⟩
theorem qcw_mX11_workQuay : Cond.code (qb_nm mX11_workQuay) (qb_by mX11_workQuay) (qb_ml mX11_workQuay) (qb_rt mX11_workQuay) ∈ qb_wg := qb_wg_in 1132 (by decide +kernel) (by decide +kernel)
theorem qci_mX11_workQuay : Cond.initialized (qb_nm mX11_workQuay).cls ∈ qb_wg := qb_wg_in 71 (by decide +kernel) (by decide +kernel)
theorem qsi_mX11_workQuay : Cond.instanceMethod (qb_nm mX11_workQuay) ∈ qb_wg := qb_wg_in 1131 (by decide +kernel) (by decide +kernel)
theorem qse_mX11_workQuay : Cond.selects (qb_nm mX11_workQuay).cls (qb_nm mX11_workQuay) (qb_nm mX11_workQuay) ∈ qb_wg := qb_wg_in 34 (by decide +kernel) (by decide +kernel)
theorem qe_mX11_allSpoilt_mX11_workQuay : qb_CV mX11_allSpoilt mX11_workQuay 160 1 := ⟨⟨qcw_mX11_workQuay, qci_mX11_workQuay, by decide +kernel, by decide +kernel, by decide +kernel⟩, qb_wg_in 1129 (by decide +kernel) (by decide +kernel), qsi_mX11_workQuay, qse_mX11_workQuay⟩
theorem qe_mX11_barrel_mX11_barrelsNow : qb_CV mX11_barrel mX11_barrelsNow 182 0 := ⟨⟨qcw_mX11_barrelsNow, qci_mX11_barrelsNow, by decide +kernel, by decide +kernel, by decide +kernel⟩, qb_wg_in 1157 (by decide +kernel) (by decide +kernel), qsi_mX11_barrelsNow, qse_mX11_barrelsNow⟩
theorem qe_mX11_barrel_mX11_in : qb_CS mX11_barrel mX11_in 94 3 := ⟨⟨qcw_mX11_in, qci_mX11_in, by decide +kernel, by decide +kernel, by decide +kernel⟩, qb_wg_in 1066 (by decide +kernel) (by decide +kernel), qst_mX11_in⟩
theorem qe_mX11_barrel_mX11_isQuay : qb_CS mX11_barrel mX11_isQuay 133 1 := ⟨⟨qcw_mX11_isQuay, qci_mX11_isQuay, by decide +kernel, by decide +kernel, by decide +kernel⟩, qb_wg_in 1103 (by decide +kernel) (by decide +kernel), qst_mX11_isQuay⟩
theorem qcw_mX11_saltOf : Cond.code (qb_nm mX11_saltOf) (qb_by mX11_saltOf) (qb_ml mX11_saltOf) (qb_rt mX11_saltOf) ∈ qb_wg := qb_wg_in 1176 (by decide +kernel) (by decide +kernel)
theorem qci_mX11_saltOf : Cond.initialized (qb_nm mX11_saltOf).cls ∈ qb_wg := qb_wg_in 71 (by decide +kernel) (by decide +kernel)
theorem qsi_mX11_saltOf : Cond.instanceMethod (qb_nm mX11_saltOf) ∈ qb_wg := qb_wg_in 1175 (by decide +kernel) (by decide +kernel)
theorem qse_mX11_saltOf : Cond.selects (qb_nm mX11_saltOf).cls (qb_nm mX11_saltOf) (qb_nm mX11_saltOf) ∈ qb_wg := qb_wg_in 43 (by decide +kernel) (by decide +kernel)
theorem qe_mX11_barrel_mX11_saltOf : qb_CV mX11_barrel mX11_saltOf 123 2 := ⟨⟨qcw_mX11_saltOf, qci_mX11_saltOf, by decide +kernel, by decide +kernel, by decide +kernel⟩, qb_wg_in 1173 (by decide +kernel) (by decide +kernel), qsi_mX11_saltOf, qse_mX11_saltOf⟩
theorem qcw_mX11_takes : Cond.code (qb_nm mX11_takes) (qb_by mX11_takes) (qb_ml mX11_takes) (qb_rt mX11_takes) ∈ qb_wg := qb_wg_in 1152 (by decide +kernel) (by decide +kernel)
theorem qci_mX11_takes : Cond.initialized (qb_nm mX11_takes).cls ∈ qb_wg := qb_wg_in 71 (by decide +kernel) (by decide +kernel)
theorem qsi_mX11_takes : Cond.instanceMethod (qb_nm mX11_takes) ∈ qb_wg := qb_wg_in 1151 (by decide +kernel) (by decide +kernel)
theorem qse_mX11_takes : Cond.selects (qb_nm mX11_takes).cls (qb_nm mX11_takes) (qb_nm mX11_takes) ∈ qb_wg := qb_wg_in 37 (by decide +kernel) (by decide +kernel)
theorem qe_mX11_barrel_mX11_takes : qb_CV mX11_barrel mX11_takes 188 2 := ⟨⟨qcw_mX11_takes, qci_mX11_takes, by decide +kernel, by decide +kernel, by decide +kernel⟩, qb_wg_in 1149 (by decide +kernel) (by decide +kernel), qsi_mX11_takes, qse_mX11_takes⟩
theorem qe_mX11_barrel_mX11_workQuay : qb_CV mX11_barrel mX11_workQuay 160 1 := ⟨⟨qcw_mX11_workQuay, qci_mX11_workQuay, by decide +kernel, by decide +kernel, by decide +kernel⟩, qb_wg_in 1129 (by decide +kernel) (by decide +kernel), qsi_mX11_workQuay, qse_mX11_workQuay⟩
theorem qe_mX11_beginBarrels_mX11_workQuay : qb_CV mX11_beginBarrels mX11_workQuay 160 1 := ⟨⟨qcw_mX11_workQuay, qci_mX11_workQuay, by decide +kernel, by decide +kernel, by decide +kernel⟩, qb_wg_in 1129 (by decide +kernel) (by decide +kernel), qsi_mX11_workQuay, qse_mX11_workQuay⟩
theorem qcw_mX11_brandOf : Cond.code (qb_nm mX11_brandOf) (qb_by mX11_brandOf) (qb_ml mX11_brandOf) (qb_rt mX11_brandOf) ∈ qb_wg := qb_wg_in 1168 (by decide +kernel) (by decide +kernel)
theorem qci_mX11_brandOf : Cond.initialized (qb_nm mX11_brandOf).cls ∈ qb_wg := qb_wg_in 71 (by decide +kernel) (by decide +kernel)
theorem qsi_mX11_brandOf : Cond.instanceMethod (qb_nm mX11_brandOf) ∈ qb_wg := qb_wg_in 1167 (by decide +kernel) (by decide +kernel)
theorem qse_mX11_brandOf : Cond.selects (qb_nm mX11_brandOf).cls (qb_nm mX11_brandOf) (qb_nm mX11_brandOf) ∈ qb_wg := qb_wg_in 41 (by decide +kernel) (by decide +kernel)
theorem qe_mX11_brand_mX11_brandOf : qb_CV mX11_brand mX11_brandOf 192 2 := ⟨⟨qcw_mX11_brandOf, qci_mX11_brandOf, by decide +kernel, by decide +kernel, by decide +kernel⟩, qb_wg_in 1165 (by decide +kernel) (by decide +kernel), qsi_mX11_brandOf, qse_mX11_brandOf⟩
theorem qe_mX11_brand_mX11_isDay : qb_CS mX11_brand mX11_isDay 110 1 := ⟨⟨qcw_mX11_isDay, qci_mX11_isDay, by decide +kernel, by decide +kernel, by decide +kernel⟩, qb_wg_in 1088 (by decide +kernel) (by decide +kernel), qst_mX11_isDay⟩
theorem qe_mX11_brand_mX11_isQuay : qb_CS mX11_brand mX11_isQuay 133 1 := ⟨⟨qcw_mX11_isQuay, qci_mX11_isQuay, by decide +kernel, by decide +kernel, by decide +kernel⟩, qb_wg_in 1103 (by decide +kernel) (by decide +kernel), qst_mX11_isQuay⟩
theorem qe_mX11_brand_mX11_takes : qb_CV mX11_brand mX11_takes 188 2 := ⟨⟨qcw_mX11_takes, qci_mX11_takes, by decide +kernel, by decide +kernel, by decide +kernel⟩, qb_wg_in 1149 (by decide +kernel) (by decide +kernel), qsi_mX11_takes, qse_mX11_takes⟩
theorem qcw_mX11_actOn : Cond.code (qb_nm mX11_actOn) (qb_by mX11_actOn) (qb_ml mX11_actOn) (qb_rt mX11_actOn) ∈ qb_wg := qb_wg_in 1098 (by decide +kernel) (by decide +kernel)
theorem qci_mX11_actOn : Cond.initialized (qb_nm mX11_actOn).cls ∈ qb_wg := qb_wg_in 71 (by decide +kernel) (by decide +kernel)
theorem qsi_mX11_actOn : Cond.instanceMethod (qb_nm mX11_actOn) ∈ qb_wg := qb_wg_in 1097 (by decide +kernel) (by decide +kernel)
theorem qse_mX11_actOn : Cond.selects (qb_nm mX11_actOn).cls (qb_nm mX11_actOn) (qb_nm mX11_actOn) ∈ qb_wg := qb_wg_in 32 (by decide +kernel) (by decide +kernel)
theorem qe_mX11_brandOf_mX11_actOn : qb_CV mX11_brandOf mX11_actOn 116 1 := ⟨⟨qcw_mX11_actOn, qci_mX11_actOn, by decide +kernel, by decide +kernel, by decide +kernel⟩, qb_wg_in 1095 (by decide +kernel) (by decide +kernel), qsi_mX11_actOn, qse_mX11_actOn⟩
theorem qcw_mX11_factOf : Cond.code (qb_nm mX11_factOf) (qb_by mX11_factOf) (qb_ml mX11_factOf) (qb_rt mX11_factOf) ∈ qb_wg := qb_wg_in 1172 (by decide +kernel) (by decide +kernel)
theorem qci_mX11_factOf : Cond.initialized (qb_nm mX11_factOf).cls ∈ qb_wg := qb_wg_in 71 (by decide +kernel) (by decide +kernel)
theorem qsi_mX11_factOf : Cond.instanceMethod (qb_nm mX11_factOf) ∈ qb_wg := qb_wg_in 1171 (by decide +kernel) (by decide +kernel)
theorem qse_mX11_factOf : Cond.selects (qb_nm mX11_factOf).cls (qb_nm mX11_factOf) (qb_nm mX11_factOf) ∈ qb_wg := qb_wg_in 42 (by decide +kernel) (by decide +kernel)
theorem qe_mX11_brandOf_mX11_factOf : qb_CV mX11_brandOf mX11_factOf 130 2 := ⟨⟨qcw_mX11_factOf, qci_mX11_factOf, by decide +kernel, by decide +kernel, by decide +kernel⟩, qb_wg_in 1169 (by decide +kernel) (by decide +kernel), qsi_mX11_factOf, qse_mX11_factOf⟩
theorem qe_mX11_brandOf_mX11_in : qb_CS mX11_brandOf mX11_in 94 3 := ⟨⟨qcw_mX11_in, qci_mX11_in, by decide +kernel, by decide +kernel, by decide +kernel⟩, qb_wg_in 1066 (by decide +kernel) (by decide +kernel), qst_mX11_in⟩
theorem qcw_mX11_isFact : Cond.code (qb_nm mX11_isFact) (qb_by mX11_isFact) (qb_ml mX11_isFact) (qb_rt mX11_isFact) ∈ qb_wg := qb_wg_in 1083 (by decide +kernel) (by decide +kernel)
theorem qci_mX11_isFact : Cond.initialized (qb_nm mX11_isFact).cls ∈ qb_wg := qb_wg_in 71 (by decide +kernel) (by decide +kernel)
theorem qst_mX11_isFact : Cond.static (qb_nm mX11_isFact) ∈ qb_wg := qb_wg_in 1082 (by decide +kernel) (by decide +kernel)
theorem qe_mX11_brandOf_mX11_isFact : qb_CS mX11_brandOf mX11_isFact 102 1 := ⟨⟨qcw_mX11_isFact, qci_mX11_isFact, by decide +kernel, by decide +kernel, by decide +kernel⟩, qb_wg_in 1081 (by decide +kernel) (by decide +kernel), qst_mX11_isFact⟩
theorem qe_mX11_brandedOf_mX11_barrelsNow : qb_CV mX11_brandedOf mX11_barrelsNow 182 0 := ⟨⟨qcw_mX11_barrelsNow, qci_mX11_barrelsNow, by decide +kernel, by decide +kernel, by decide +kernel⟩, qb_wg_in 1157 (by decide +kernel) (by decide +kernel), qsi_mX11_barrelsNow, qse_mX11_barrelsNow⟩
theorem qcw_mX11_beginBarrels : Cond.code (qb_nm mX11_beginBarrels) (qb_by mX11_beginBarrels) (qb_ml mX11_beginBarrels) (qb_rt mX11_beginBarrels) ∈ qb_wg := qb_wg_in 1156 (by decide +kernel) (by decide +kernel)
theorem qci_mX11_beginBarrels : Cond.initialized (qb_nm mX11_beginBarrels).cls ∈ qb_wg := qb_wg_in 71 (by decide +kernel) (by decide +kernel)
theorem qsi_mX11_beginBarrels : Cond.instanceMethod (qb_nm mX11_beginBarrels) ∈ qb_wg := qb_wg_in 1155 (by decide +kernel) (by decide +kernel)
theorem qse_mX11_beginBarrels : Cond.selects (qb_nm mX11_beginBarrels).cls (qb_nm mX11_beginBarrels) (qb_nm mX11_beginBarrels) ∈ qb_wg := qb_wg_in 38 (by decide +kernel) (by decide +kernel)
theorem qe_mX11_brandedOf_mX11_beginBarrels : qb_CV mX11_brandedOf mX11_beginBarrels 179 1 := ⟨⟨qcw_mX11_beginBarrels, qci_mX11_beginBarrels, by decide +kernel, by decide +kernel, by decide +kernel⟩, qb_wg_in 1153 (by decide +kernel) (by decide +kernel), qsi_mX11_beginBarrels, qse_mX11_beginBarrels⟩
theorem qe_mX11_brandedOf_mX11_brandOf : qb_CV mX11_brandedOf mX11_brandOf 192 2 := ⟨⟨qcw_mX11_brandOf, qci_mX11_brandOf, by decide +kernel, by decide +kernel, by decide +kernel⟩, qb_wg_in 1165 (by decide +kernel) (by decide +kernel), qsi_mX11_brandOf, qse_mX11_brandOf⟩
theorem qcw_mX11_takeBarrel : Cond.code (qb_nm mX11_takeBarrel) (qb_by mX11_takeBarrel) (qb_ml mX11_takeBarrel) (qb_rt mX11_takeBarrel) ∈ qb_wg := qb_wg_in 1164 (by decide +kernel) (by decide +kernel)
theorem qci_mX11_takeBarrel : Cond.initialized (qb_nm mX11_takeBarrel).cls ∈ qb_wg := qb_wg_in 71 (by decide +kernel) (by decide +kernel)
theorem qsi_mX11_takeBarrel : Cond.instanceMethod (qb_nm mX11_takeBarrel) ∈ qb_wg := qb_wg_in 1163 (by decide +kernel) (by decide +kernel)
theorem qse_mX11_takeBarrel : Cond.selects (qb_nm mX11_takeBarrel).cls (qb_nm mX11_takeBarrel) (qb_nm mX11_takeBarrel) ∈ qb_wg := qb_wg_in 40 (by decide +kernel) (by decide +kernel)
theorem qe_mX11_brandedOf_mX11_takeBarrel : qb_CV mX11_brandedOf mX11_takeBarrel 185 0 := ⟨⟨qcw_mX11_takeBarrel, qci_mX11_takeBarrel, by decide +kernel, by decide +kernel, by decide +kernel⟩, qb_wg_in 1161 (by decide +kernel) (by decide +kernel), qsi_mX11_takeBarrel, qse_mX11_takeBarrel⟩
theorem qe_mX11_cause_mX11_in : qb_CS mX11_cause mX11_in 94 3 := ⟨⟨qcw_mX11_in, qci_mX11_in, by decide +kernel, by decide +kernel, by decide +kernel⟩, qb_wg_in 1066 (by decide +kernel) (by decide +kernel), qst_mX11_in⟩
theorem qcw_mX11_mayBe : Cond.code (qb_nm mX11_mayBe) (qb_by mX11_mayBe) (qb_ml mX11_mayBe) (qb_rt mX11_mayBe) ∈ qb_wg := qb_wg_in 1208 (by decide +kernel) (by decide +kernel)
theorem qci_mX11_mayBe : Cond.initialized (qb_nm mX11_mayBe).cls ∈ qb_wg := qb_wg_in 71 (by decide +kernel) (by decide +kernel)
theorem qsi_mX11_mayBe : Cond.instanceMethod (qb_nm mX11_mayBe) ∈ qb_wg := qb_wg_in 1207 (by decide +kernel) (by decide +kernel)
theorem qse_mX11_mayBe : Cond.selects (qb_nm mX11_mayBe).cls (qb_nm mX11_mayBe) (qb_nm mX11_mayBe) ∈ qb_wg := qb_wg_in 44 (by decide +kernel) (by decide +kernel)
theorem qe_mX11_cause_mX11_mayBe : qb_CV mX11_cause mX11_mayBe 207 1 := ⟨⟨qcw_mX11_mayBe, qci_mX11_mayBe, by decide +kernel, by decide +kernel, by decide +kernel⟩, qb_wg_in 1205 (by decide +kernel) (by decide +kernel), qsi_mX11_mayBe, qse_mX11_mayBe⟩
theorem qe_mX11_cost_mX11_in : qb_CS mX11_cost mX11_in 94 3 := ⟨⟨qcw_mX11_in, qci_mX11_in, by decide +kernel, by decide +kernel, by decide +kernel⟩, qb_wg_in 1066 (by decide +kernel) (by decide +kernel), qst_mX11_in⟩
theorem qe_mX11_cost_mX11_isDay : qb_CS mX11_cost mX11_isDay 110 1 := ⟨⟨qcw_mX11_isDay, qci_mX11_isDay, by decide +kernel, by decide +kernel, by decide +kernel⟩, qb_wg_in 1088 (by decide +kernel) (by decide +kernel), qst_mX11_isDay⟩
theorem qe_mX11_cost_mX11_isQuay : qb_CS mX11_cost mX11_isQuay 133 1 := ⟨⟨qcw_mX11_isQuay, qci_mX11_isQuay, by decide +kernel, by decide +kernel, by decide +kernel⟩, qb_wg_in 1103 (by decide +kernel) (by decide +kernel), qst_mX11_isQuay⟩
theorem qcw_mX11_layCost : Cond.code (qb_nm mX11_layCost) (qb_by mX11_layCost) (qb_ml mX11_layCost) (qb_rt mX11_layCost) ∈ qb_wg := qb_wg_in 1259 (by decide +kernel) (by decide +kernel)
theorem qci_mX11_layCost : Cond.initialized (qb_nm mX11_layCost).cls ∈ qb_wg := qb_wg_in 71 (by decide +kernel) (by decide +kernel)
theorem qsi_mX11_layCost : Cond.instanceMethod (qb_nm mX11_layCost) ∈ qb_wg := qb_wg_in 1258 (by decide +kernel) (by decide +kernel)
theorem qse_mX11_layCost : Cond.selects (qb_nm mX11_layCost).cls (qb_nm mX11_layCost) (qb_nm mX11_layCost) ∈ qb_wg := qb_wg_in 50 (by decide +kernel) (by decide +kernel)
theorem qe_mX11_cost_mX11_layCost : qb_CV mX11_cost mX11_layCost 238 3 := ⟨⟨qcw_mX11_layCost, qci_mX11_layCost, by decide +kernel, by decide +kernel, by decide +kernel⟩, qb_wg_in 1256 (by decide +kernel) (by decide +kernel), qsi_mX11_layCost, qse_mX11_layCost⟩
theorem qe_mX11_costsOf_mX11_layCost : qb_CV mX11_costsOf mX11_layCost 238 3 := ⟨⟨qcw_mX11_layCost, qci_mX11_layCost, by decide +kernel, by decide +kernel, by decide +kernel⟩, qb_wg_in 1256 (by decide +kernel) (by decide +kernel), qsi_mX11_layCost, qse_mX11_layCost⟩
theorem qe_mX11_engage_mX11_in : qb_CS mX11_engage mX11_in 94 3 := ⟨⟨qcw_mX11_in, qci_mX11_in, by decide +kernel, by decide +kernel, by decide +kernel⟩, qb_wg_in 1066 (by decide +kernel) (by decide +kernel), qst_mX11_in⟩
theorem qcw_mX11_isPrice : Cond.code (qb_nm mX11_isPrice) (qb_by mX11_isPrice) (qb_ml mX11_isPrice) (qb_rt mX11_isPrice) ∈ qb_wg := qb_wg_in 1239 (by decide +kernel) (by decide +kernel)
theorem qci_mX11_isPrice : Cond.initialized (qb_nm mX11_isPrice).cls ∈ qb_wg := qb_wg_in 71 (by decide +kernel) (by decide +kernel)
theorem qst_mX11_isPrice : Cond.static (qb_nm mX11_isPrice) ∈ qb_wg := qb_wg_in 1238 (by decide +kernel) (by decide +kernel)
theorem qe_mX11_engage_mX11_isPrice : qb_CS mX11_engage mX11_isPrice 220 1 := ⟨⟨qcw_mX11_isPrice, qci_mX11_isPrice, by decide +kernel, by decide +kernel, by decide +kernel⟩, qb_wg_in 1237 (by decide +kernel) (by decide +kernel), qst_mX11_isPrice⟩
theorem qe_mX11_engage_mX11_isQuay : qb_CS mX11_engage mX11_isQuay 133 1 := ⟨⟨qcw_mX11_isQuay, qci_mX11_isQuay, by decide +kernel, by decide +kernel, by decide +kernel⟩, qb_wg_in 1103 (by decide +kernel) (by decide +kernel), qst_mX11_isQuay⟩
theorem qcw_mX11_hasCause : Cond.code (qb_nm mX11_hasCause) (qb_by mX11_hasCause) (qb_ml mX11_hasCause) (qb_rt mX11_hasCause) ∈ qb_wg := qb_wg_in 1212 (by decide +kernel) (by decide +kernel)
theorem qci_mX11_hasCause : Cond.initialized (qb_nm mX11_hasCause).cls ∈ qb_wg := qb_wg_in 71 (by decide +kernel) (by decide +kernel)
theorem qsi_mX11_hasCause : Cond.instanceMethod (qb_nm mX11_hasCause) ∈ qb_wg := qb_wg_in 1211 (by decide +kernel) (by decide +kernel)
theorem qse_mX11_hasCause : Cond.selects (qb_nm mX11_hasCause).cls (qb_nm mX11_hasCause) (qb_nm mX11_hasCause) ∈ qb_wg := qb_wg_in 45 (by decide +kernel) (by decide +kernel)
theorem qe_mX11_explain_mX11_hasCause : qb_CV mX11_explain mX11_hasCause 204 2 := ⟨⟨qcw_mX11_hasCause, qci_mX11_hasCause, by decide +kernel, by decide +kernel, by decide +kernel⟩, qb_wg_in 1209 (by decide +kernel) (by decide +kernel), qsi_mX11_hasCause, qse_mX11_hasCause⟩
theorem qcw_mX11_fewest : Cond.code (qb_nm mX11_fewest) (qb_by mX11_fewest) (qb_ml mX11_fewest) (qb_rt mX11_fewest) ∈ qb_wg := qb_wg_in 1220 (by decide +kernel) (by decide +kernel)
theorem qci_mX11_fewest : Cond.initialized (qb_nm mX11_fewest).cls ∈ qb_wg := qb_wg_in 71 (by decide +kernel) (by decide +kernel)
theorem qsi_mX11_fewest : Cond.instanceMethod (qb_nm mX11_fewest) ∈ qb_wg := qb_wg_in 1219 (by decide +kernel) (by decide +kernel)
theorem qse_mX11_fewest : Cond.selects (qb_nm mX11_fewest).cls (qb_nm mX11_fewest) (qb_nm mX11_fewest) ∈ qb_wg := qb_wg_in 46 (by decide +kernel) (by decide +kernel)
theorem qe_mX11_explained_mX11_fewest : qb_CV mX11_explained mX11_fewest 217 0 := ⟨⟨qcw_mX11_fewest, qci_mX11_fewest, by decide +kernel, by decide +kernel, by decide +kernel⟩, qb_wg_in 1217 (by decide +kernel) (by decide +kernel), qsi_mX11_fewest, qse_mX11_fewest⟩
theorem qe_mX11_factOf_mX11_saltOf : qb_CV mX11_factOf mX11_saltOf 123 2 := ⟨⟨qcw_mX11_saltOf, qci_mX11_saltOf, by decide +kernel, by decide +kernel, by decide +kernel⟩, qb_wg_in 1173 (by decide +kernel) (by decide +kernel), qsi_mX11_saltOf, qse_mX11_saltOf⟩
theorem qe_mX11_fault_mX11_faultOf : qb_CV mX11_fault mX11_faultOf 106 0 := ⟨⟨qcw_mX11_faultOf, qci_mX11_faultOf, by decide +kernel, by decide +kernel, by decide +kernel⟩, qb_wg_in 1077 (by decide +kernel) (by decide +kernel), qsi_mX11_faultOf, qse_mX11_faultOf⟩
theorem qe_mX11_faultOf_mX11_in : qb_CS mX11_faultOf mX11_in 94 3 := ⟨⟨qcw_mX11_in, qci_mX11_in, by decide +kernel, by decide +kernel, by decide +kernel⟩, qb_wg_in 1066 (by decide +kernel) (by decide +kernel), qst_mX11_in⟩
theorem qe_mX11_faultOf_mX11_isFact : qb_CS mX11_faultOf mX11_isFact 102 1 := ⟨⟨qcw_mX11_isFact, qci_mX11_isFact, by decide +kernel, by decide +kernel, by decide +kernel⟩, qb_wg_in 1081 (by decide +kernel) (by decide +kernel), qst_mX11_isFact⟩
theorem qcw_mX11_setOf : Cond.code (qb_nm mX11_setOf) (qb_by mX11_setOf) (qb_ml mX11_setOf) (qb_rt mX11_setOf) ∈ qb_wg := qb_wg_in 1224 (by decide +kernel) (by decide +kernel)
theorem qci_mX11_setOf : Cond.initialized (qb_nm mX11_setOf).cls ∈ qb_wg := qb_wg_in 71 (by decide +kernel) (by decide +kernel)
theorem qsi_mX11_setOf : Cond.instanceMethod (qb_nm mX11_setOf) ∈ qb_wg := qb_wg_in 1223 (by decide +kernel) (by decide +kernel)
theorem qse_mX11_setOf : Cond.selects (qb_nm mX11_setOf).cls (qb_nm mX11_setOf) (qb_nm mX11_setOf) ∈ qb_wg := qb_wg_in 47 (by decide +kernel) (by decide +kernel)
theorem qe_mX11_fewest_mX11_setOf : qb_CV mX11_fewest mX11_setOf 213 3 := ⟨⟨qcw_mX11_setOf, qci_mX11_setOf, by decide +kernel, by decide +kernel, by decide +kernel⟩, qb_wg_in 1221 (by decide +kernel) (by decide +kernel), qsi_mX11_setOf, qse_mX11_setOf⟩
theorem qe_mX11_filled_mX11_barrelsNow : qb_CV mX11_filled mX11_barrelsNow 182 0 := ⟨⟨qcw_mX11_barrelsNow, qci_mX11_barrelsNow, by decide +kernel, by decide +kernel, by decide +kernel⟩, qb_wg_in 1157 (by decide +kernel) (by decide +kernel), qsi_mX11_barrelsNow, qse_mX11_barrelsNow⟩
theorem qe_mX11_filled_mX11_beginBarrels : qb_CV mX11_filled mX11_beginBarrels 179 1 := ⟨⟨qcw_mX11_beginBarrels, qci_mX11_beginBarrels, by decide +kernel, by decide +kernel, by decide +kernel⟩, qb_wg_in 1153 (by decide +kernel) (by decide +kernel), qsi_mX11_beginBarrels, qse_mX11_beginBarrels⟩
theorem qe_mX11_filled_mX11_brandOf : qb_CV mX11_filled mX11_brandOf 192 2 := ⟨⟨qcw_mX11_brandOf, qci_mX11_brandOf, by decide +kernel, by decide +kernel, by decide +kernel⟩, qb_wg_in 1165 (by decide +kernel) (by decide +kernel), qsi_mX11_brandOf, qse_mX11_brandOf⟩
theorem qe_mX11_filled_mX11_in : qb_CS mX11_filled mX11_in 94 3 := ⟨⟨qcw_mX11_in, qci_mX11_in, by decide +kernel, by decide +kernel, by decide +kernel⟩, qb_wg_in 1066 (by decide +kernel) (by decide +kernel), qst_mX11_in⟩
theorem qcw_mX11_isHour : Cond.code (qb_nm mX11_isHour) (qb_by mX11_isHour) (qb_ml mX11_isHour) (qb_rt mX11_isHour) ∈ qb_wg := qb_wg_in 1116 (by decide +kernel) (by decide +kernel)
theorem qci_mX11_isHour : Cond.initialized (qb_nm mX11_isHour).cls ∈ qb_wg := qb_wg_in 71 (by decide +kernel) (by decide +kernel)
theorem qst_mX11_isHour : Cond.static (qb_nm mX11_isHour) ∈ qb_wg := qb_wg_in 1115 (by decide +kernel) (by decide +kernel)
theorem qe_mX11_filled_mX11_isHour : qb_CS mX11_filled mX11_isHour 139 1 := ⟨⟨qcw_mX11_isHour, qci_mX11_isHour, by decide +kernel, by decide +kernel, by decide +kernel⟩, qb_wg_in 1114 (by decide +kernel) (by decide +kernel), qst_mX11_isHour⟩
theorem qe_mX11_filled_mX11_isQuay : qb_CS mX11_filled mX11_isQuay 133 1 := ⟨⟨qcw_mX11_isQuay, qci_mX11_isQuay, by decide +kernel, by decide +kernel, by decide +kernel⟩, qb_wg_in 1103 (by decide +kernel) (by decide +kernel), qst_mX11_isQuay⟩
theorem qe_mX11_filled_mX11_takeBarrel : qb_CV mX11_filled mX11_takeBarrel 185 0 := ⟨⟨qcw_mX11_takeBarrel, qci_mX11_takeBarrel, by decide +kernel, by decide +kernel, by decide +kernel⟩, qb_wg_in 1161 (by decide +kernel) (by decide +kernel), qsi_mX11_takeBarrel, qse_mX11_takeBarrel⟩
theorem qe_mX11_free_mX11_isDay : qb_CS mX11_free mX11_isDay 110 1 := ⟨⟨qcw_mX11_isDay, qci_mX11_isDay, by decide +kernel, by decide +kernel, by decide +kernel⟩, qb_wg_in 1088 (by decide +kernel) (by decide +kernel), qst_mX11_isDay⟩
theorem qe_mX11_free_mX11_isPrice : qb_CS mX11_free mX11_isPrice 220 1 := ⟨⟨qcw_mX11_isPrice, qci_mX11_isPrice, by decide +kernel, by decide +kernel, by decide +kernel⟩, qb_wg_in 1237 (by decide +kernel) (by decide +kernel), qst_mX11_isPrice⟩
theorem qcw_mX11_freeAt : Cond.code (qb_nm mX11_freeAt) (qb_by mX11_freeAt) (qb_ml mX11_freeAt) (qb_rt mX11_freeAt) ∈ qb_wg := qb_wg_in 1251 (by decide +kernel) (by decide +kernel)
theorem qci_mX11_freeAt : Cond.initialized (qb_nm mX11_freeAt).cls ∈ qb_wg := qb_wg_in 71 (by decide +kernel) (by decide +kernel)
theorem qsi_mX11_freeAt : Cond.instanceMethod (qb_nm mX11_freeAt) ∈ qb_wg := qb_wg_in 1250 (by decide +kernel) (by decide +kernel)
theorem qse_mX11_freeAt : Cond.selects (qb_nm mX11_freeAt).cls (qb_nm mX11_freeAt) (qb_nm mX11_freeAt) ∈ qb_wg := qb_wg_in 49 (by decide +kernel) (by decide +kernel)
theorem qe_mX11_freeOn_mX11_freeAt : qb_CV mX11_freeOn mX11_freeAt 226 2 := ⟨⟨qcw_mX11_freeAt, qci_mX11_freeAt, by decide +kernel, by decide +kernel, by decide +kernel⟩, qb_wg_in 1248 (by decide +kernel) (by decide +kernel), qsi_mX11_freeAt, qse_mX11_freeAt⟩
theorem qe_mX11_freeOn_mX11_isDay : qb_CS mX11_freeOn mX11_isDay 110 1 := ⟨⟨qcw_mX11_isDay, qci_mX11_isDay, by decide +kernel, by decide +kernel, by decide +kernel⟩, qb_wg_in 1088 (by decide +kernel) (by decide +kernel), qst_mX11_isDay⟩
theorem qcw_mX11_priceAt : Cond.code (qb_nm mX11_priceAt) (qb_by mX11_priceAt) (qb_ml mX11_priceAt) (qb_rt mX11_priceAt) ∈ qb_wg := qb_wg_in 1307 (by decide +kernel) (by decide +kernel)
theorem qci_mX11_priceAt : Cond.initialized (qb_nm mX11_priceAt).cls ∈ qb_wg := qb_wg_in 71 (by decide +kernel) (by decide +kernel)
theorem qsi_mX11_priceAt : Cond.instanceMethod (qb_nm mX11_priceAt) ∈ qb_wg := qb_wg_in 1306 (by decide +kernel) (by decide +kernel)
theorem qse_mX11_priceAt : Cond.selects (qb_nm mX11_priceAt).cls (qb_nm mX11_priceAt) (qb_nm mX11_priceAt) ∈ qb_wg := qb_wg_in 56 (by decide +kernel) (by decide +kernel)
theorem qe_mX11_gain_mX11_priceAt : qb_CV mX11_gain mX11_priceAt 269 3 := ⟨⟨qcw_mX11_priceAt, qci_mX11_priceAt, by decide +kernel, by decide +kernel, by decide +kernel⟩, qb_wg_in 1304 (by decide +kernel) (by decide +kernel), qsi_mX11_priceAt, qse_mX11_priceAt⟩
theorem qe_mX11_grade_mX11_actOn : qb_CV mX11_grade mX11_actOn 116 1 := ⟨⟨qcw_mX11_actOn, qci_mX11_actOn, by decide +kernel, by decide +kernel, by decide +kernel⟩, qb_wg_in 1095 (by decide +kernel) (by decide +kernel), qsi_mX11_actOn, qse_mX11_actOn⟩
theorem qe_mX11_grade_mX11_in : qb_CS mX11_grade mX11_in 94 3 := ⟨⟨qcw_mX11_in, qci_mX11_in, by decide +kernel, by decide +kernel, by decide +kernel⟩, qb_wg_in 1066 (by decide +kernel) (by decide +kernel), qst_mX11_in⟩
theorem qe_mX11_grade_mX11_isDay : qb_CS mX11_grade mX11_isDay 110 1 := ⟨⟨qcw_mX11_isDay, qci_mX11_isDay, by decide +kernel, by decide +kernel, by decide +kernel⟩, qb_wg_in 1088 (by decide +kernel) (by decide +kernel), qst_mX11_isDay⟩
theorem qe_mX11_isDay_mX11_in : qb_CS mX11_isDay mX11_in 94 3 := ⟨⟨qcw_mX11_in, qci_mX11_in, by decide +kernel, by decide +kernel, by decide +kernel⟩, qb_wg_in 1066 (by decide +kernel) (by decide +kernel), qst_mX11_in⟩
theorem qe_mX11_isHour_mX11_in : qb_CS mX11_isHour mX11_in 94 3 := ⟨⟨qcw_mX11_in, qci_mX11_in, by decide +kernel, by decide +kernel, by decide +kernel⟩, qb_wg_in 1066 (by decide +kernel) (by decide +kernel), qst_mX11_in⟩
theorem qe_mX11_isPrice_mX11_in : qb_CS mX11_isPrice mX11_in 94 3 := ⟨⟨qcw_mX11_in, qci_mX11_in, by decide +kernel, by decide +kernel, by decide +kernel⟩, qb_wg_in 1066 (by decide +kernel) (by decide +kernel), qst_mX11_in⟩
theorem qe_mX11_isQuay_mX11_in : qb_CS mX11_isQuay mX11_in 94 3 := ⟨⟨qcw_mX11_in, qci_mX11_in, by decide +kernel, by decide +kernel, by decide +kernel⟩, qb_wg_in 1066 (by decide +kernel) (by decide +kernel), qst_mX11_in⟩
theorem qe_mX11_judge_mX11_in : qb_CS mX11_judge mX11_in 94 3 := ⟨⟨qcw_mX11_in, qci_mX11_in, by decide +kernel, by decide +kernel, by decide +kernel⟩, qb_wg_in 1066 (by decide +kernel) (by decide +kernel), qst_mX11_in⟩
theorem qe_mX11_land_mX11_in : qb_CS mX11_land mX11_in 94 3 := ⟨⟨qcw_mX11_in, qci_mX11_in, by decide +kernel, by decide +kernel, by decide +kernel⟩, qb_wg_in 1066 (by decide +kernel) (by decide +kernel), qst_mX11_in⟩
theorem qe_mX11_land_mX11_isHour : qb_CS mX11_land mX11_isHour 139 1 := ⟨⟨qcw_mX11_isHour, qci_mX11_isHour, by decide +kernel, by decide +kernel, by decide +kernel⟩, qb_wg_in 1114 (by decide +kernel) (by decide +kernel), qst_mX11_isHour⟩
theorem qe_mX11_land_mX11_isQuay : qb_CS mX11_land mX11_isQuay 133 1 := ⟨⟨qcw_mX11_isQuay, qci_mX11_isQuay, by decide +kernel, by decide +kernel, by decide +kernel⟩, qb_wg_in 1103 (by decide +kernel) (by decide +kernel), qst_mX11_isQuay⟩
theorem qcw_mX11_waiting : Cond.code (qb_nm mX11_waiting) (qb_by mX11_waiting) (qb_ml mX11_waiting) (qb_rt mX11_waiting) ∈ qb_wg := qb_wg_in 1120 (by decide +kernel) (by decide +kernel)
theorem qci_mX11_waiting : Cond.initialized (qb_nm mX11_waiting).cls ∈ qb_wg := qb_wg_in 71 (by decide +kernel) (by decide +kernel)
theorem qsi_mX11_waiting : Cond.instanceMethod (qb_nm mX11_waiting) ∈ qb_wg := qb_wg_in 1119 (by decide +kernel) (by decide +kernel)
theorem qse_mX11_waiting : Cond.selects (qb_nm mX11_waiting).cls (qb_nm mX11_waiting) (qb_nm mX11_waiting) ∈ qb_wg := qb_wg_in 33 (by decide +kernel) (by decide +kernel)
theorem qe_mX11_land_mX11_waiting : qb_CV mX11_land mX11_waiting 142 0 := ⟨⟨qcw_mX11_waiting, qci_mX11_waiting, by decide +kernel, by decide +kernel, by decide +kernel⟩, qb_wg_in 1117 (by decide +kernel) (by decide +kernel), qsi_mX11_waiting, qse_mX11_waiting⟩
theorem qe_mX11_landing_mX11_in : qb_CS mX11_landing mX11_in 94 3 := ⟨⟨qcw_mX11_in, qci_mX11_in, by decide +kernel, by decide +kernel, by decide +kernel⟩, qb_wg_in 1066 (by decide +kernel) (by decide +kernel), qst_mX11_in⟩
theorem qe_mX11_landing_mX11_workQuay : qb_CV mX11_landing mX11_workQuay 160 1 := ⟨⟨qcw_mX11_workQuay, qci_mX11_workQuay, by decide +kernel, by decide +kernel, by decide +kernel⟩, qb_wg_in 1129 (by decide +kernel) (by decide +kernel), qsi_mX11_workQuay, qse_mX11_workQuay⟩
theorem qe_mX11_layCost_mX11_freeAt : qb_CV mX11_layCost mX11_freeAt 226 2 := ⟨⟨qcw_mX11_freeAt, qci_mX11_freeAt, by decide +kernel, by decide +kernel, by decide +kernel⟩, qb_wg_in 1248 (by decide +kernel) (by decide +kernel), qsi_mX11_freeAt, qse_mX11_freeAt⟩
theorem qe_mX11_layMost_mX11_priceAt : qb_CV mX11_layMost mX11_priceAt 269 3 := ⟨⟨qcw_mX11_priceAt, qci_mX11_priceAt, by decide +kernel, by decide +kernel, by decide +kernel⟩, qb_wg_in 1304 (by decide +kernel) (by decide +kernel), qsi_mX11_priceAt, qse_mX11_priceAt⟩
theorem qcw_mX11_allSpoilt : Cond.code (qb_nm mX11_allSpoilt) (qb_by mX11_allSpoilt) (qb_ml mX11_allSpoilt) (qb_rt mX11_allSpoilt) ∈ qb_wg := qb_wg_in 1287 (by decide +kernel) (by decide +kernel)
theorem qci_mX11_allSpoilt : Cond.initialized (qb_nm mX11_allSpoilt).cls ∈ qb_wg := qb_wg_in 71 (by decide +kernel) (by decide +kernel)
theorem qsi_mX11_allSpoilt : Cond.instanceMethod (qb_nm mX11_allSpoilt) ∈ qb_wg := qb_wg_in 1286 (by decide +kernel) (by decide +kernel)
theorem qse_mX11_allSpoilt : Cond.selects (qb_nm mX11_allSpoilt).cls (qb_nm mX11_allSpoilt) (qb_nm mX11_allSpoilt) ∈ qb_wg := qb_wg_in 55 (by decide +kernel) (by decide +kernel)
theorem qe_mX11_laySpread_mX11_allSpoilt : qb_CV mX11_laySpread mX11_allSpoilt 257 0 := ⟨⟨qcw_mX11_allSpoilt, qci_mX11_allSpoilt, by decide +kernel, by decide +kernel, by decide +kernel⟩, qb_wg_in 1284 (by decide +kernel) (by decide +kernel), qsi_mX11_allSpoilt, qse_mX11_allSpoilt⟩
theorem qcw_mX11_leadAll : Cond.code (qb_nm mX11_leadAll) (qb_by mX11_leadAll) (qb_ml mX11_leadAll) (qb_rt mX11_leadAll) ∈ qb_wg := qb_wg_in 1283 (by decide +kernel) (by decide +kernel)
theorem qci_mX11_leadAll : Cond.initialized (qb_nm mX11_leadAll).cls ∈ qb_wg := qb_wg_in 71 (by decide +kernel) (by decide +kernel)
theorem qsi_mX11_leadAll : Cond.instanceMethod (qb_nm mX11_leadAll) ∈ qb_wg := qb_wg_in 1282 (by decide +kernel) (by decide +kernel)
theorem qse_mX11_leadAll : Cond.selects (qb_nm mX11_leadAll).cls (qb_nm mX11_leadAll) (qb_nm mX11_leadAll) ∈ qb_wg := qb_wg_in 54 (by decide +kernel) (by decide +kernel)
theorem qe_mX11_laySpread_mX11_leadAll : qb_CV mX11_laySpread mX11_leadAll 254 1 := ⟨⟨qcw_mX11_leadAll, qci_mX11_leadAll, by decide +kernel, by decide +kernel, by decide +kernel⟩, qb_wg_in 1280 (by decide +kernel) (by decide +kernel), qsi_mX11_leadAll, qse_mX11_leadAll⟩
theorem qe_mX11_lead_mX11_in : qb_CS mX11_lead mX11_in 94 3 := ⟨⟨qcw_mX11_in, qci_mX11_in, by decide +kernel, by decide +kernel, by decide +kernel⟩, qb_wg_in 1066 (by decide +kernel) (by decide +kernel), qst_mX11_in⟩
theorem qe_mX11_lead_mX11_isQuay : qb_CS mX11_lead mX11_isQuay 133 1 := ⟨⟨qcw_mX11_isQuay, qci_mX11_isQuay, by decide +kernel, by decide +kernel, by decide +kernel⟩, qb_wg_in 1103 (by decide +kernel) (by decide +kernel), qst_mX11_isQuay⟩
theorem qe_mX11_lead_mX11_waiting : qb_CV mX11_lead mX11_waiting 142 0 := ⟨⟨qcw_mX11_waiting, qci_mX11_waiting, by decide +kernel, by decide +kernel, by decide +kernel⟩, qb_wg_in 1117 (by decide +kernel) (by decide +kernel), qsi_mX11_waiting, qse_mX11_waiting⟩
theorem qcw_mX11_gain : Cond.code (qb_nm mX11_gain) (qb_by mX11_gain) (qb_ml mX11_gain) (qb_rt mX11_gain) ∈ qb_wg := qb_wg_in 1319 (by decide +kernel) (by decide +kernel)
theorem qci_mX11_gain : Cond.initialized (qb_nm mX11_gain).cls ∈ qb_wg := qb_wg_in 71 (by decide +kernel) (by decide +kernel)
theorem qsi_mX11_gain : Cond.instanceMethod (qb_nm mX11_gain) ∈ qb_wg := qb_wg_in 1318 (by decide +kernel) (by decide +kernel)
theorem qse_mX11_gain : Cond.selects (qb_nm mX11_gain).cls (qb_nm mX11_gain) (qb_nm mX11_gain) ∈ qb_wg := qb_wg_in 58 (by decide +kernel) (by decide +kernel)
theorem qe_mX11_load_mX11_gain : qb_CV mX11_load mX11_gain 275 4 := ⟨⟨qcw_mX11_gain, qci_mX11_gain, by decide +kernel, by decide +kernel, by decide +kernel⟩, qb_wg_in 1316 (by decide +kernel) (by decide +kernel), qsi_mX11_gain, qse_mX11_gain⟩
theorem qe_mX11_load_mX11_in : qb_CS mX11_load mX11_in 94 3 := ⟨⟨qcw_mX11_in, qci_mX11_in, by decide +kernel, by decide +kernel, by decide +kernel⟩, qb_wg_in 1066 (by decide +kernel) (by decide +kernel), qst_mX11_in⟩
theorem qe_mX11_load_mX11_isDay : qb_CS mX11_load mX11_isDay 110 1 := ⟨⟨qcw_mX11_isDay, qci_mX11_isDay, by decide +kernel, by decide +kernel, by decide +kernel⟩, qb_wg_in 1088 (by decide +kernel) (by decide +kernel), qst_mX11_isDay⟩
theorem qcw_mX11_layMost : Cond.code (qb_nm mX11_layMost) (qb_by mX11_layMost) (qb_ml mX11_layMost) (qb_rt mX11_layMost) ∈ qb_wg := qb_wg_in 1315 (by decide +kernel) (by decide +kernel)
theorem qci_mX11_layMost : Cond.initialized (qb_nm mX11_layMost).cls ∈ qb_wg := qb_wg_in 71 (by decide +kernel) (by decide +kernel)
theorem qsi_mX11_layMost : Cond.instanceMethod (qb_nm mX11_layMost) ∈ qb_wg := qb_wg_in 1314 (by decide +kernel) (by decide +kernel)
theorem qse_mX11_layMost : Cond.selects (qb_nm mX11_layMost).cls (qb_nm mX11_layMost) (qb_nm mX11_layMost) ∈ qb_wg := qb_wg_in 57 (by decide +kernel) (by decide +kernel)
theorem qe_mX11_load_mX11_layMost : qb_CV mX11_load mX11_layMost 272 1 := ⟨⟨qcw_mX11_layMost, qci_mX11_layMost, by decide +kernel, by decide +kernel, by decide +kernel⟩, qb_wg_in 1312 (by decide +kernel) (by decide +kernel), qsi_mX11_layMost, qse_mX11_layMost⟩
theorem qe_mX11_mayBe_mX11_hasCause : qb_CV mX11_mayBe mX11_hasCause 204 2 := ⟨⟨qcw_mX11_hasCause, qci_mX11_hasCause, by decide +kernel, by decide +kernel, by decide +kernel⟩, qb_wg_in 1209 (by decide +kernel) (by decide +kernel), qsi_mX11_hasCause, qse_mX11_hasCause⟩
theorem qcw_mX11_choose : Cond.code (qb_nm mX11_choose) (qb_by mX11_choose) (qb_ml mX11_choose) (qb_rt mX11_choose) ∈ qb_wg := qb_wg_in 1191 (by decide +kernel) (by decide +kernel)
theorem qci_mX11_choose : Cond.initialized (qb_nm mX11_choose).cls ∈ qb_wg := qb_wg_in 71 (by decide +kernel) (by decide +kernel)
theorem qst_mX11_choose : Cond.static (qb_nm mX11_choose) ∈ qb_wg := qb_wg_in 1190 (by decide +kernel) (by decide +kernel)
theorem qe_mX11_open_mX11_choose : qb_CS mX11_open mX11_choose 195 2 := ⟨⟨qcw_mX11_choose, qci_mX11_choose, by decide +kernel, by decide +kernel, by decide +kernel⟩, qb_wg_in 1189 (by decide +kernel) (by decide +kernel), qst_mX11_choose⟩
theorem qe_mX11_open_mX11_in : qb_CS mX11_open mX11_in 94 3 := ⟨⟨qcw_mX11_in, qci_mX11_in, by decide +kernel, by decide +kernel, by decide +kernel⟩, qb_wg_in 1066 (by decide +kernel) (by decide +kernel), qst_mX11_in⟩
theorem qe_mX11_price_mX11_in : qb_CS mX11_price mX11_in 94 3 := ⟨⟨qcw_mX11_in, qci_mX11_in, by decide +kernel, by decide +kernel, by decide +kernel⟩, qb_wg_in 1066 (by decide +kernel) (by decide +kernel), qst_mX11_in⟩
theorem qe_mX11_price_mX11_isDay : qb_CS mX11_price mX11_isDay 110 1 := ⟨⟨qcw_mX11_isDay, qci_mX11_isDay, by decide +kernel, by decide +kernel, by decide +kernel⟩, qb_wg_in 1088 (by decide +kernel) (by decide +kernel), qst_mX11_isDay⟩
theorem qe_mX11_priceOn_mX11_in : qb_CS mX11_priceOn mX11_in 94 3 := ⟨⟨qcw_mX11_in, qci_mX11_in, by decide +kernel, by decide +kernel, by decide +kernel⟩, qb_wg_in 1066 (by decide +kernel) (by decide +kernel), qst_mX11_in⟩
theorem qe_mX11_priceOn_mX11_isDay : qb_CS mX11_priceOn mX11_isDay 110 1 := ⟨⟨qcw_mX11_isDay, qci_mX11_isDay, by decide +kernel, by decide +kernel, by decide +kernel⟩, qb_wg_in 1088 (by decide +kernel) (by decide +kernel), qst_mX11_isDay⟩
theorem qe_mX11_priceOn_mX11_priceAt : qb_CV mX11_priceOn mX11_priceAt 269 3 := ⟨⟨qcw_mX11_priceAt, qci_mX11_priceAt, by decide +kernel, by decide +kernel, by decide +kernel⟩, qb_wg_in 1304 (by decide +kernel) (by decide +kernel), qsi_mX11_priceAt, qse_mX11_priceAt⟩
theorem qe_mX11_rival_mX11_fewest : qb_CV mX11_rival mX11_fewest 217 0 := ⟨⟨qcw_mX11_fewest, qci_mX11_fewest, by decide +kernel, by decide +kernel, by decide +kernel⟩, qb_wg_in 1217 (by decide +kernel) (by decide +kernel), qsi_mX11_fewest, qse_mX11_fewest⟩
theorem qe_mX11_rival_mX11_setOf : qb_CV mX11_rival mX11_setOf 213 3 := ⟨⟨qcw_mX11_setOf, qci_mX11_setOf, by decide +kernel, by decide +kernel, by decide +kernel⟩, qb_wg_in 1221 (by decide +kernel) (by decide +kernel), qsi_mX11_setOf, qse_mX11_setOf⟩
theorem qe_mX11_rule_mX11_in : qb_CS mX11_rule mX11_in 94 3 := ⟨⟨qcw_mX11_in, qci_mX11_in, by decide +kernel, by decide +kernel, by decide +kernel⟩, qb_wg_in 1066 (by decide +kernel) (by decide +kernel), qst_mX11_in⟩
theorem qe_mX11_salt_mX11_in : qb_CS mX11_salt mX11_in 94 3 := ⟨⟨qcw_mX11_in, qci_mX11_in, by decide +kernel, by decide +kernel, by decide +kernel⟩, qb_wg_in 1066 (by decide +kernel) (by decide +kernel), qst_mX11_in⟩
theorem qe_mX11_salt_mX11_isHour : qb_CS mX11_salt mX11_isHour 139 1 := ⟨⟨qcw_mX11_isHour, qci_mX11_isHour, by decide +kernel, by decide +kernel, by decide +kernel⟩, qb_wg_in 1114 (by decide +kernel) (by decide +kernel), qst_mX11_isHour⟩
theorem qe_mX11_salt_mX11_isQuay : qb_CS mX11_salt mX11_isQuay 133 1 := ⟨⟨qcw_mX11_isQuay, qci_mX11_isQuay, by decide +kernel, by decide +kernel, by decide +kernel⟩, qb_wg_in 1103 (by decide +kernel) (by decide +kernel), qst_mX11_isQuay⟩
theorem qe_mX11_say_mX11_in : qb_CS mX11_say mX11_in 94 3 := ⟨⟨qcw_mX11_in, qci_mX11_in, by decide +kernel, by decide +kernel, by decide +kernel⟩, qb_wg_in 1066 (by decide +kernel) (by decide +kernel), qst_mX11_in⟩
theorem qe_mX11_set_mX11_in : qb_CS mX11_set mX11_in 94 3 := ⟨⟨qcw_mX11_in, qci_mX11_in, by decide +kernel, by decide +kernel, by decide +kernel⟩, qb_wg_in 1066 (by decide +kernel) (by decide +kernel), qst_mX11_in⟩
theorem qe_mX11_set_mX11_isQuay : qb_CS mX11_set mX11_isQuay 133 1 := ⟨⟨qcw_mX11_isQuay, qci_mX11_isQuay, by decide +kernel, by decide +kernel, by decide +kernel⟩, qb_wg_in 1103 (by decide +kernel) (by decide +kernel), qst_mX11_isQuay⟩
theorem qcw_mX11_explain : Cond.code (qb_nm mX11_explain) (qb_by mX11_explain) (qb_ml mX11_explain) (qb_rt mX11_explain) ∈ qb_wg := qb_wg_in 1228 (by decide +kernel) (by decide +kernel)
theorem qci_mX11_explain : Cond.initialized (qb_nm mX11_explain).cls ∈ qb_wg := qb_wg_in 71 (by decide +kernel) (by decide +kernel)
theorem qsi_mX11_explain : Cond.instanceMethod (qb_nm mX11_explain) ∈ qb_wg := qb_wg_in 1227 (by decide +kernel) (by decide +kernel)
theorem qse_mX11_explain : Cond.selects (qb_nm mX11_explain).cls (qb_nm mX11_explain) (qb_nm mX11_explain) ∈ qb_wg := qb_wg_in 48 (by decide +kernel) (by decide +kernel)
theorem qe_mX11_setOf_mX11_explain : qb_CV mX11_setOf mX11_explain 210 3 := ⟨⟨qcw_mX11_explain, qci_mX11_explain, by decide +kernel, by decide +kernel, by decide +kernel⟩, qb_wg_in 1225 (by decide +kernel) (by decide +kernel), qsi_mX11_explain, qse_mX11_explain⟩
theorem qe_mX11_setOf_mX11_in : qb_CS mX11_setOf mX11_in 94 3 := ⟨⟨qcw_mX11_in, qci_mX11_in, by decide +kernel, by decide +kernel, by decide +kernel⟩, qb_wg_in 1066 (by decide +kernel) (by decide +kernel), qst_mX11_in⟩
theorem qe_mX11_setOf_mX11_mayBe : qb_CV mX11_setOf mX11_mayBe 207 1 := ⟨⟨qcw_mX11_mayBe, qci_mX11_mayBe, by decide +kernel, by decide +kernel, by decide +kernel⟩, qb_wg_in 1205 (by decide +kernel) (by decide +kernel), qsi_mX11_mayBe, qse_mX11_mayBe⟩
theorem qcw_mX11_laySpread : Cond.code (qb_nm mX11_laySpread) (qb_by mX11_laySpread) (qb_ml mX11_laySpread) (qb_rt mX11_laySpread) ∈ qb_wg := qb_wg_in 1279 (by decide +kernel) (by decide +kernel)
theorem qci_mX11_laySpread : Cond.initialized (qb_nm mX11_laySpread).cls ∈ qb_wg := qb_wg_in 71 (by decide +kernel) (by decide +kernel)
theorem qsi_mX11_laySpread : Cond.instanceMethod (qb_nm mX11_laySpread) ∈ qb_wg := qb_wg_in 1278 (by decide +kernel) (by decide +kernel)
theorem qse_mX11_laySpread : Cond.selects (qb_nm mX11_laySpread).cls (qb_nm mX11_laySpread) (qb_nm mX11_laySpread) ∈ qb_wg := qb_wg_in 53 (by decide +kernel) (by decide +kernel)
theorem qe_mX11_settle_mX11_laySpread : qb_CV mX11_settle mX11_laySpread 263 0 := ⟨⟨qcw_mX11_laySpread, qci_mX11_laySpread, by decide +kernel, by decide +kernel, by decide +kernel⟩, qb_wg_in 1276 (by decide +kernel) (by decide +kernel), qsi_mX11_laySpread, qse_mX11_laySpread⟩
theorem qe_mX11_settle_mX11_leadAll : qb_CV mX11_settle mX11_leadAll 254 1 := ⟨⟨qcw_mX11_leadAll, qci_mX11_leadAll, by decide +kernel, by decide +kernel, by decide +kernel⟩, qb_wg_in 1280 (by decide +kernel) (by decide +kernel), qsi_mX11_leadAll, qse_mX11_leadAll⟩
theorem qe_mX11_ship_mX11_in : qb_CS mX11_ship mX11_in 94 3 := ⟨⟨qcw_mX11_in, qci_mX11_in, by decide +kernel, by decide +kernel, by decide +kernel⟩, qb_wg_in 1066 (by decide +kernel) (by decide +kernel), qst_mX11_in⟩
theorem qe_mX11_ship_mX11_isDay : qb_CS mX11_ship mX11_isDay 110 1 := ⟨⟨qcw_mX11_isDay, qci_mX11_isDay, by decide +kernel, by decide +kernel, by decide +kernel⟩, qb_wg_in 1088 (by decide +kernel) (by decide +kernel), qst_mX11_isDay⟩
theorem qe_mX11_spread_mX11_in : qb_CS mX11_spread mX11_in 94 3 := ⟨⟨qcw_mX11_in, qci_mX11_in, by decide +kernel, by decide +kernel, by decide +kernel⟩, qb_wg_in 1066 (by decide +kernel) (by decide +kernel), qst_mX11_in⟩
theorem qe_mX11_spread_mX11_laySpread : qb_CV mX11_spread mX11_laySpread 263 0 := ⟨⟨qcw_mX11_laySpread, qci_mX11_laySpread, by decide +kernel, by decide +kernel, by decide +kernel⟩, qb_wg_in 1276 (by decide +kernel) (by decide +kernel), qsi_mX11_laySpread, qse_mX11_laySpread⟩
theorem qe_mX11_takes_mX11_barrelsNow : qb_CV mX11_takes mX11_barrelsNow 182 0 := ⟨⟨qcw_mX11_barrelsNow, qci_mX11_barrelsNow, by decide +kernel, by decide +kernel, by decide +kernel⟩, qb_wg_in 1157 (by decide +kernel) (by decide +kernel), qsi_mX11_barrelsNow, qse_mX11_barrelsNow⟩
theorem qe_mX11_takes_mX11_beginBarrels : qb_CV mX11_takes mX11_beginBarrels 179 1 := ⟨⟨qcw_mX11_beginBarrels, qci_mX11_beginBarrels, by decide +kernel, by decide +kernel, by decide +kernel⟩, qb_wg_in 1153 (by decide +kernel) (by decide +kernel), qsi_mX11_beginBarrels, qse_mX11_beginBarrels⟩
theorem qe_mX11_takes_mX11_in : qb_CS mX11_takes mX11_in 94 3 := ⟨⟨qcw_mX11_in, qci_mX11_in, by decide +kernel, by decide +kernel, by decide +kernel⟩, qb_wg_in 1066 (by decide +kernel) (by decide +kernel), qst_mX11_in⟩
theorem qe_mX11_takes_mX11_takeBarrel : qb_CV mX11_takes mX11_takeBarrel 185 0 := ⟨⟨qcw_mX11_takeBarrel, qci_mX11_takeBarrel, by decide +kernel, by decide +kernel, by decide +kernel⟩, qb_wg_in 1161 (by decide +kernel) (by decide +kernel), qsi_mX11_takeBarrel, qse_mX11_takeBarrel⟩
theorem qe_mX11_told_mX11_allSpoilt : qb_CV mX11_told mX11_allSpoilt 257 0 := ⟨⟨qcw_mX11_allSpoilt, qci_mX11_allSpoilt, by decide +kernel, by decide +kernel, by decide +kernel⟩, qb_wg_in 1284 (by decide +kernel) (by decide +kernel), qsi_mX11_allSpoilt, qse_mX11_allSpoilt⟩
theorem qe_mX11_told_mX11_barrelsNow : qb_CV mX11_told mX11_barrelsNow 182 0 := ⟨⟨qcw_mX11_barrelsNow, qci_mX11_barrelsNow, by decide +kernel, by decide +kernel, by decide +kernel⟩, qb_wg_in 1157 (by decide +kernel) (by decide +kernel), qsi_mX11_barrelsNow, qse_mX11_barrelsNow⟩
theorem qe_mX11_told_mX11_waiting : qb_CV mX11_told mX11_waiting 142 0 := ⟨⟨qcw_mX11_waiting, qci_mX11_waiting, by decide +kernel, by decide +kernel, by decide +kernel⟩, qb_wg_in 1117 (by decide +kernel) (by decide +kernel), qsi_mX11_waiting, qse_mX11_waiting⟩
theorem qe_mX11_told_mX11_workQuay : qb_CV mX11_told mX11_workQuay 160 1 := ⟨⟨qcw_mX11_workQuay, qci_mX11_workQuay, by decide +kernel, by decide +kernel, by decide +kernel⟩, qb_wg_in 1129 (by decide +kernel) (by decide +kernel), qsi_mX11_workQuay, qse_mX11_workQuay⟩
theorem qcw_mX11_firstOf : Cond.code (qb_nm mX11_firstOf) (qb_by mX11_firstOf) (qb_ml mX11_firstOf) (qb_rt mX11_firstOf) ∈ qb_wg := qb_wg_in 1140 (by decide +kernel) (by decide +kernel)
theorem qci_mX11_firstOf : Cond.initialized (qb_nm mX11_firstOf).cls ∈ qb_wg := qb_wg_in 71 (by decide +kernel) (by decide +kernel)
theorem qsi_mX11_firstOf : Cond.instanceMethod (qb_nm mX11_firstOf) ∈ qb_wg := qb_wg_in 1139 (by decide +kernel) (by decide +kernel)
theorem qse_mX11_firstOf : Cond.selects (qb_nm mX11_firstOf).cls (qb_nm mX11_firstOf) (qb_nm mX11_firstOf) ∈ qb_wg := qb_wg_in 36 (by decide +kernel) (by decide +kernel)
theorem qe_mX11_workQuay_mX11_firstOf : qb_CV mX11_workQuay mX11_firstOf 157 2 := ⟨⟨qcw_mX11_firstOf, qci_mX11_firstOf, by decide +kernel, by decide +kernel, by decide +kernel⟩, qb_wg_in 1137 (by decide +kernel) (by decide +kernel), qsi_mX11_firstOf, qse_mX11_firstOf⟩
theorem qcw_mX11_nextHour : Cond.code (qb_nm mX11_nextHour) (qb_by mX11_nextHour) (qb_ml mX11_nextHour) (qb_rt mX11_nextHour) ∈ qb_wg := qb_wg_in 1136 (by decide +kernel) (by decide +kernel)
theorem qci_mX11_nextHour : Cond.initialized (qb_nm mX11_nextHour).cls ∈ qb_wg := qb_wg_in 71 (by decide +kernel) (by decide +kernel)
theorem qsi_mX11_nextHour : Cond.instanceMethod (qb_nm mX11_nextHour) ∈ qb_wg := qb_wg_in 1135 (by decide +kernel) (by decide +kernel)
theorem qse_mX11_nextHour : Cond.selects (qb_nm mX11_nextHour).cls (qb_nm mX11_nextHour) (qb_nm mX11_nextHour) ∈ qb_wg := qb_wg_in 35 (by decide +kernel) (by decide +kernel)
theorem qe_mX11_workQuay_mX11_nextHour : qb_CV mX11_workQuay mX11_nextHour 154 1 := ⟨⟨qcw_mX11_nextHour, qci_mX11_nextHour, by decide +kernel, by decide +kernel, by decide +kernel⟩, qb_wg_in 1133 (by decide +kernel) (by decide +kernel), qsi_mX11_nextHour, qse_mX11_nextHour⟩
theorem qe_mX3_behindDigit_mX0_isDigit : qb_CS mX3_behindDigit mX0_isDigit 40 1 := ⟨⟨qcw_mX0_isDigit, qci_mX0_isDigit, by decide +kernel, by decide +kernel, by decide +kernel⟩, qb_wg_in 461 (by decide +kernel) (by decide +kernel), qst_mX0_isDigit⟩
theorem qe_mX3_firstFault_mX0_letterOf : qb_CS mX3_firstFault mX0_letterOf 23 1 := ⟨⟨qcw_mX0_letterOf, qci_mX0_letterOf, by decide +kernel, by decide +kernel, by decide +kernel⟩, qb_wg_in 451 (by decide +kernel) (by decide +kernel), qst_mX0_letterOf⟩
theorem qcw_mX3_following : Cond.code (qb_nm mX3_following) (qb_by mX3_following) (qb_ml mX3_following) (qb_rt mX3_following) ∈ qb_wg := qb_wg_in 447 (by decide +kernel) (by decide +kernel)
theorem qci_mX3_following : Cond.initialized (qb_nm mX3_following).cls ∈ qb_wg := qb_wg_in 61 (by decide +kernel) (by decide +kernel)
theorem qst_mX3_following : Cond.static (qb_nm mX3_following) ∈ qb_wg := qb_wg_in 446 (by decide +kernel) (by decide +kernel)
theorem qe_mX3_firstFault_mX3_following : qb_CS mX3_firstFault mX3_following 19 3 := ⟨⟨qcw_mX3_following, qci_mX3_following, by decide +kernel, by decide +kernel, by decide +kernel⟩, qb_wg_in 445 (by decide +kernel) (by decide +kernel), qst_mX3_following⟩
theorem qe_mX3_following_mX0_factOf : qb_CS mX3_following mX0_factOf 33 1 := ⟨⟨qcw_mX0_factOf, qci_mX0_factOf, by decide +kernel, by decide +kernel, by decide +kernel⟩, qb_wg_in 455 (by decide +kernel) (by decide +kernel), qst_mX0_factOf⟩
theorem qe_mX3_following_mX0_isComparer : qb_CS mX3_following mX0_isComparer 36 1 := ⟨⟨qcw_mX0_isComparer, qci_mX0_isComparer, by decide +kernel, by decide +kernel, by decide +kernel⟩, qb_wg_in 458 (by decide +kernel) (by decide +kernel), qst_mX0_isComparer⟩
theorem qe_mX3_following_mX0_isDigit : qb_CS mX3_following mX0_isDigit 40 1 := ⟨⟨qcw_mX0_isDigit, qci_mX0_isDigit, by decide +kernel, by decide +kernel, by decide +kernel⟩, qb_wg_in 461 (by decide +kernel) (by decide +kernel), qst_mX0_isDigit⟩
theorem qcw_mX3_behindDigit : Cond.code (qb_nm mX3_behindDigit) (qb_by mX3_behindDigit) (qb_ml mX3_behindDigit) (qb_rt mX3_behindDigit) ∈ qb_wg := qb_wg_in 466 (by decide +kernel) (by decide +kernel)
theorem qci_mX3_behindDigit : Cond.initialized (qb_nm mX3_behindDigit).cls ∈ qb_wg := qb_wg_in 61 (by decide +kernel) (by decide +kernel)
theorem qst_mX3_behindDigit : Cond.static (qb_nm mX3_behindDigit) ∈ qb_wg := qb_wg_in 465 (by decide +kernel) (by decide +kernel)
theorem qe_mX3_following_mX3_behindDigit : qb_CS mX3_following mX3_behindDigit 43 3 := ⟨⟨qcw_mX3_behindDigit, qci_mX3_behindDigit, by decide +kernel, by decide +kernel, by decide +kernel⟩, qb_wg_in 464 (by decide +kernel) (by decide +kernel), qst_mX3_behindDigit⟩
theorem qcw_mX3_isNewLetter : Cond.code (qb_nm mX3_isNewLetter) (qb_by mX3_isNewLetter) (qb_ml mX3_isNewLetter) (qb_rt mX3_isNewLetter) ∈ qb_wg := qb_wg_in 450 (by decide +kernel) (by decide +kernel)
theorem qci_mX3_isNewLetter : Cond.initialized (qb_nm mX3_isNewLetter).cls ∈ qb_wg := qb_wg_in 61 (by decide +kernel) (by decide +kernel)
theorem qst_mX3_isNewLetter : Cond.static (qb_nm mX3_isNewLetter) ∈ qb_wg := qb_wg_in 449 (by decide +kernel) (by decide +kernel)
theorem qe_mX3_following_mX3_isNewLetter : qb_CS mX3_following mX3_isNewLetter 29 2 := ⟨⟨qcw_mX3_isNewLetter, qci_mX3_isNewLetter, by decide +kernel, by decide +kernel, by decide +kernel⟩, qb_wg_in 448 (by decide +kernel) (by decide +kernel), qst_mX3_isNewLetter⟩
theorem qe_mX3_isNewLetter_mX0_letterOf : qb_CS mX3_isNewLetter mX0_letterOf 23 1 := ⟨⟨qcw_mX0_letterOf, qci_mX0_letterOf, by decide +kernel, by decide +kernel, by decide +kernel⟩, qb_wg_in 451 (by decide +kernel) (by decide +kernel), qst_mX0_letterOf⟩
theorem qe_mX4_bearOneMore_mX4_worth : qb_CV mX4_bearOneMore mX4_worth 37 3 := ⟨⟨qcw_mX4_worth, qci_mX4_worth, by decide +kernel, by decide +kernel, by decide +kernel⟩, qb_wg_in 878 (by decide +kernel) (by decide +kernel), qsi_mX4_worth, qse_mX4_worth⟩
theorem qcw_mX4_leastRow : Cond.code (qb_nm mX4_leastRow) (qb_by mX4_leastRow) (qb_ml mX4_leastRow) (qb_rt mX4_leastRow) ∈ qb_wg := qb_wg_in 891 (by decide +kernel) (by decide +kernel)
theorem qci_mX4_leastRow : Cond.initialized (qb_nm mX4_leastRow).cls ∈ qb_wg := qb_wg_in 70 (by decide +kernel) (by decide +kernel)
theorem qsi_mX4_leastRow : Cond.instanceMethod (qb_nm mX4_leastRow) ∈ qb_wg := qb_wg_in 890 (by decide +kernel) (by decide +kernel)
theorem qse_mX4_leastRow : Cond.selects (qb_nm mX4_leastRow).cls (qb_nm mX4_leastRow) (qb_nm mX4_leastRow) ∈ qb_wg := qb_wg_in 28 (by decide +kernel) (by decide +kernel)
theorem qe_mX4_borneBy_mX4_leastRow : qb_CV mX4_borneBy mX4_leastRow 47 3 := ⟨⟨qcw_mX4_leastRow, qci_mX4_leastRow, by decide +kernel, by decide +kernel, by decide +kernel⟩, qb_wg_in 888 (by decide +kernel) (by decide +kernel), qsi_mX4_leastRow, qse_mX4_leastRow⟩
theorem qe_mX4_leastRow_mX4_worth : qb_CV mX4_leastRow mX4_worth 37 3 := ⟨⟨qcw_mX4_worth, qci_mX4_worth, by decide +kernel, by decide +kernel, by decide +kernel⟩, qb_wg_in 878 (by decide +kernel) (by decide +kernel), qsi_mX4_worth, qse_mX4_worth⟩
theorem qcw_mX4_bearOneMore : Cond.code (qb_nm mX4_bearOneMore) (qb_by mX4_bearOneMore) (qb_ml mX4_bearOneMore) (qb_rt mX4_bearOneMore) ∈ qb_wg := qb_wg_in 877 (by decide +kernel) (by decide +kernel)
theorem qci_mX4_bearOneMore : Cond.initialized (qb_nm mX4_bearOneMore).cls ∈ qb_wg := qb_wg_in 70 (by decide +kernel) (by decide +kernel)
theorem qsi_mX4_bearOneMore : Cond.instanceMethod (qb_nm mX4_bearOneMore) ∈ qb_wg := qb_wg_in 876 (by decide +kernel) (by decide +kernel)
theorem qse_mX4_bearOneMore : Cond.selects (qb_nm mX4_bearOneMore).cls (qb_nm mX4_bearOneMore) (qb_nm mX4_bearOneMore) ∈ qb_wg := qb_wg_in 27 (by decide +kernel) (by decide +kernel)
theorem qe_mX4_plan_mX4_bearOneMore : qb_CV mX4_plan mX4_bearOneMore 33 3 := ⟨⟨qcw_mX4_bearOneMore, qci_mX4_bearOneMore, by decide +kernel, by decide +kernel, by decide +kernel⟩, qb_wg_in 874 (by decide +kernel) (by decide +kernel), qsi_mX4_bearOneMore, qse_mX4_bearOneMore⟩
theorem qcw_mX6_advance : Cond.code (qb_nm mX6_advance) (qb_by mX6_advance) (qb_ml mX6_advance) (qb_rt mX6_advance) ∈ qb_wg := qb_wg_in 735 (by decide +kernel) (by decide +kernel)
theorem qci_mX6_advance : Cond.initialized (qb_nm mX6_advance).cls ∈ qb_wg := qb_wg_in 66 (by decide +kernel) (by decide +kernel)
theorem qsi_mX6_advance : Cond.instanceMethod (qb_nm mX6_advance) ∈ qb_wg := qb_wg_in 734 (by decide +kernel) (by decide +kernel)
theorem qse_mX6_advance : Cond.selects (qb_nm mX6_advance).cls (qb_nm mX6_advance) (qb_nm mX6_advance) ∈ qb_wg := qb_wg_in 16 (by decide +kernel) (by decide +kernel)
theorem qe_mX6_explaining_mX6_advance : qb_CV mX6_explaining mX6_advance 48 1 := ⟨⟨qcw_mX6_advance, qci_mX6_advance, by decide +kernel, by decide +kernel, by decide +kernel⟩, qb_wg_in 732 (by decide +kernel) (by decide +kernel), qsi_mX6_advance, qse_mX6_advance⟩
theorem qcw_mX6_explainsAll : Cond.code (qb_nm mX6_explainsAll) (qb_by mX6_explainsAll) (qb_ml mX6_explainsAll) (qb_rt mX6_explainsAll) ∈ qb_wg := qb_wg_in 731 (by decide +kernel) (by decide +kernel)
theorem qci_mX6_explainsAll : Cond.initialized (qb_nm mX6_explainsAll).cls ∈ qb_wg := qb_wg_in 66 (by decide +kernel) (by decide +kernel)
theorem qsi_mX6_explainsAll : Cond.instanceMethod (qb_nm mX6_explainsAll) ∈ qb_wg := qb_wg_in 730 (by decide +kernel) (by decide +kernel)
theorem qse_mX6_explainsAll : Cond.selects (qb_nm mX6_explainsAll).cls (qb_nm mX6_explainsAll) (qb_nm mX6_explainsAll) ∈ qb_wg := qb_wg_in 15 (by decide +kernel) (by decide +kernel)
theorem qe_mX6_explaining_mX6_explainsAll : qb_CV mX6_explaining mX6_explainsAll 44 1 := ⟨⟨qcw_mX6_explainsAll, qci_mX6_explainsAll, by decide +kernel, by decide +kernel, by decide +kernel⟩, qb_wg_in 728 (by decide +kernel) (by decide +kernel), qsi_mX6_explainsAll, qse_mX6_explainsAll⟩
theorem qcw_mX6_listAble : Cond.code (qb_nm mX6_listAble) (qb_by mX6_listAble) (qb_ml mX6_listAble) (qb_rt mX6_listAble) ∈ qb_wg := qb_wg_in 726 (by decide +kernel) (by decide +kernel)
theorem qci_mX6_listAble : Cond.initialized (qb_nm mX6_listAble).cls ∈ qb_wg := qb_wg_in 66 (by decide +kernel) (by decide +kernel)
theorem qsi_mX6_listAble : Cond.instanceMethod (qb_nm mX6_listAble) ∈ qb_wg := qb_wg_in 725 (by decide +kernel) (by decide +kernel)
theorem qse_mX6_listAble : Cond.selects (qb_nm mX6_listAble).cls (qb_nm mX6_listAble) (qb_nm mX6_listAble) ∈ qb_wg := qb_wg_in 14 (by decide +kernel) (by decide +kernel)
theorem qe_mX6_explaining_mX6_listAble : qb_CV mX6_explaining mX6_listAble 38 0 := ⟨⟨qcw_mX6_listAble, qci_mX6_listAble, by decide +kernel, by decide +kernel, by decide +kernel⟩, qb_wg_in 723 (by decide +kernel) (by decide +kernel), qsi_mX6_listAble, qse_mX6_listAble⟩
theorem qe_mX6_fewest_mX6_explaining : qb_CV mX6_fewest mX6_explaining 34 2 := ⟨⟨qcw_mX6_explaining, qci_mX6_explaining, by decide +kernel, by decide +kernel, by decide +kernel⟩, qb_wg_in 719 (by decide +kernel) (by decide +kernel), qsi_mX6_explaining, qse_mX6_explaining⟩
theorem qe_mX6_listAble_mX6_mayBe : qb_CV mX6_listAble mX6_mayBe 51 1 := ⟨⟨qcw_mX6_mayBe, qci_mX6_mayBe, by decide +kernel, by decide +kernel, by decide +kernel⟩, qb_wg_in 727 (by decide +kernel) (by decide +kernel), qsi_mX6_mayBe, qse_mX6_mayBe⟩
theorem qcw_mJ6_bitCount_0f7a4 : Cond.code (qb_nm mJ6_bitCount_0f7a4) (qb_by mJ6_bitCount_0f7a4) (qb_ml mJ6_bitCount_0f7a4) (qb_rt mJ6_bitCount_0f7a4) ∈ qb_wg := qb_wg_in 707 (by decide +kernel) (by decide +kernel)
theorem qci_mJ6_bitCount_0f7a4 : Cond.initialized (qb_nm mJ6_bitCount_0f7a4).cls ∈ qb_wg := qb_wg_in 73 (by decide +kernel) (by decide +kernel)
theorem qst_mJ6_bitCount_0f7a4 : Cond.static (qb_nm mJ6_bitCount_0f7a4) ∈ qb_wg := qb_wg_in 706 (by decide +kernel) (by decide +kernel)
theorem qe_mX6_mayBe_mJ6_bitCount_0f7a4 : qb_CS mX6_mayBe mJ6_bitCount_0f7a4 28 1 := ⟨⟨qcw_mJ6_bitCount_0f7a4, qci_mJ6_bitCount_0f7a4, by decide +kernel, by decide +kernel, by decide +kernel⟩, qb_wg_in 705 (by decide +kernel) (by decide +kernel), qst_mJ6_bitCount_0f7a4⟩
theorem qcw_mX7_paceAt : Cond.code (qb_nm mX7_paceAt) (qb_by mX7_paceAt) (qb_ml mX7_paceAt) (qb_rt mX7_paceAt) ∈ qb_wg := qb_wg_in 508 (by decide +kernel) (by decide +kernel)
theorem qci_mX7_paceAt : Cond.initialized (qb_nm mX7_paceAt).cls ∈ qb_wg := qb_wg_in 63 (by decide +kernel) (by decide +kernel)
theorem qsi_mX7_paceAt : Cond.instanceMethod (qb_nm mX7_paceAt) ∈ qb_wg := qb_wg_in 506 (by decide +kernel) (by decide +kernel)
theorem qse_mX7_paceAt : Cond.selects (qb_nm mX7_paceAt).cls (qb_nm mX7_paceAt) (qb_nm mX7_paceAt) ∈ qb_wg := qb_wg_in 507 (by decide +kernel) (by decide +kernel)
theorem qe_mX7_lastHourOf_mX7_paceAt : qb_CV mX7_lastHourOf mX7_paceAt 67 1 := ⟨⟨qcw_mX7_paceAt, qci_mX7_paceAt, by decide +kernel, by decide +kernel, by decide +kernel⟩, qb_wg_in 505 (by decide +kernel) (by decide +kernel), qsi_mX7_paceAt, qse_mX7_paceAt⟩
theorem qcw_mX2_compare : Cond.code (qb_nm mX2_compare) (qb_by mX2_compare) (qb_ml mX2_compare) (qb_rt mX2_compare) ∈ qb_wg := qb_wg_in 548 (by decide +kernel) (by decide +kernel)
theorem qci_mX2_compare : Cond.initialized (qb_nm mX2_compare).cls ∈ qb_wg := qb_wg_in 64 (by decide +kernel) (by decide +kernel)
theorem qsi_mX2_compare : Cond.instanceMethod (qb_nm mX2_compare) ∈ qb_wg := qb_wg_in 546 (by decide +kernel) (by decide +kernel)
theorem qse_mX2_compare : Cond.selects (qb_nm mX2_compare).cls (qb_nm mX2_compare) (qb_nm mX2_compare) ∈ qb_wg := qb_wg_in 547 (by decide +kernel) (by decide +kernel)
theorem qe_mX7_measure_mX2_compare : qb_CV mX7_measure mX2_compare 97 0 := ⟨⟨qcw_mX2_compare, qci_mX2_compare, by decide +kernel, by decide +kernel, by decide +kernel⟩, qb_wg_in 545 (by decide +kernel) (by decide +kernel), qsi_mX2_compare, qse_mX2_compare⟩
theorem qcw_mX2_empty : Cond.code (qb_nm mX2_empty) (qb_by mX2_empty) (qb_ml mX2_empty) (qb_rt mX2_empty) ∈ qb_wg := qb_wg_in 538 (by decide +kernel) (by decide +kernel)
theorem qci_mX2_empty : Cond.initialized (qb_nm mX2_empty).cls ∈ qb_wg := qb_wg_in 64 (by decide +kernel) (by decide +kernel)
theorem qsi_mX2_empty : Cond.instanceMethod (qb_nm mX2_empty) ∈ qb_wg := qb_wg_in 536 (by decide +kernel) (by decide +kernel)
theorem qse_mX2_empty : Cond.selects (qb_nm mX2_empty).cls (qb_nm mX2_empty) (qb_nm mX2_empty) ∈ qb_wg := qb_wg_in 537 (by decide +kernel) (by decide +kernel)
theorem qe_mX7_measure_mX2_empty : qb_CV mX7_measure mX2_empty 88 0 := ⟨⟨qcw_mX2_empty, qci_mX2_empty, by decide +kernel, by decide +kernel, by decide +kernel⟩, qb_wg_in 535 (by decide +kernel) (by decide +kernel), qsi_mX2_empty, qse_mX2_empty⟩
theorem qcw_mX2_take : Cond.code (qb_nm mX2_take) (qb_by mX2_take) (qb_ml mX2_take) (qb_rt mX2_take) ∈ qb_wg := qb_wg_in 542 (by decide +kernel) (by decide +kernel)
theorem qci_mX2_take : Cond.initialized (qb_nm mX2_take).cls ∈ qb_wg := qb_wg_in 64 (by decide +kernel) (by decide +kernel)
theorem qsi_mX2_take : Cond.instanceMethod (qb_nm mX2_take) ∈ qb_wg := qb_wg_in 540 (by decide +kernel) (by decide +kernel)
theorem qse_mX2_take : Cond.selects (qb_nm mX2_take).cls (qb_nm mX2_take) (qb_nm mX2_take) ∈ qb_wg := qb_wg_in 541 (by decide +kernel) (by decide +kernel)
theorem qe_mX7_measure_mX2_take : qb_CV mX7_measure mX2_take 94 3 := ⟨⟨qcw_mX2_take, qci_mX2_take, by decide +kernel, by decide +kernel, by decide +kernel⟩, qb_wg_in 539 (by decide +kernel) (by decide +kernel), qsi_mX2_take, qse_mX2_take⟩
theorem qe_mX7_measure_mX7_paceAt : qb_CV mX7_measure mX7_paceAt 67 1 := ⟨⟨qcw_mX7_paceAt, qci_mX7_paceAt, by decide +kernel, by decide +kernel, by decide +kernel⟩, qb_wg_in 505 (by decide +kernel) (by decide +kernel), qsi_mX7_paceAt, qse_mX7_paceAt⟩
theorem qe_mX7_spoiltAt_mX7_spoiltOf : qb_CV mX7_spoiltAt mX7_spoiltOf 80 1 := ⟨⟨qcw_mX7_spoiltOf, qci_mX7_spoiltOf, by decide +kernel, by decide +kernel, by decide +kernel⟩, qb_wg_in 818 (by decide +kernel) (by decide +kernel), qsi_mX7_spoiltOf, qse_mX7_spoiltOf⟩
theorem qcw_mX7_startOf : Cond.code (qb_nm mX7_startOf) (qb_by mX7_startOf) (qb_ml mX7_startOf) (qb_rt mX7_startOf) ∈ qb_wg := qb_wg_in 504 (by decide +kernel) (by decide +kernel)
theorem qci_mX7_startOf : Cond.initialized (qb_nm mX7_startOf).cls ∈ qb_wg := qb_wg_in 63 (by decide +kernel) (by decide +kernel)
theorem qsi_mX7_startOf : Cond.instanceMethod (qb_nm mX7_startOf) ∈ qb_wg := qb_wg_in 503 (by decide +kernel) (by decide +kernel)
theorem qse_mX7_startOf : Cond.selects (qb_nm mX7_startOf).cls (qb_nm mX7_startOf) (qb_nm mX7_startOf) ∈ qb_wg := qb_wg_in 2 (by decide +kernel) (by decide +kernel)
theorem qe_mX7_spoiltWith_mX7_startOf : qb_CV mX7_spoiltWith mX7_startOf 59 3 := ⟨⟨qcw_mX7_startOf, qci_mX7_startOf, by decide +kernel, by decide +kernel, by decide +kernel⟩, qb_wg_in 501 (by decide +kernel) (by decide +kernel), qsi_mX7_startOf, qse_mX7_startOf⟩
theorem qcw_mX7_workedFrom : Cond.code (qb_nm mX7_workedFrom) (qb_by mX7_workedFrom) (qb_ml mX7_workedFrom) (qb_rt mX7_workedFrom) ∈ qb_wg := qb_wg_in 515 (by decide +kernel) (by decide +kernel)
theorem qci_mX7_workedFrom : Cond.initialized (qb_nm mX7_workedFrom).cls ∈ qb_wg := qb_wg_in 63 (by decide +kernel) (by decide +kernel)
theorem qsi_mX7_workedFrom : Cond.instanceMethod (qb_nm mX7_workedFrom) ∈ qb_wg := qb_wg_in 514 (by decide +kernel) (by decide +kernel)
theorem qse_mX7_workedFrom : Cond.selects (qb_nm mX7_workedFrom).cls (qb_nm mX7_workedFrom) (qb_nm mX7_workedFrom) ∈ qb_wg := qb_wg_in 3 (by decide +kernel) (by decide +kernel)
theorem qe_mX7_spoiltWith_mX7_workedFrom : qb_CV mX7_spoiltWith mX7_workedFrom 63 4 := ⟨⟨qcw_mX7_workedFrom, qci_mX7_workedFrom, by decide +kernel, by decide +kernel, by decide +kernel⟩, qb_wg_in 512 (by decide +kernel) (by decide +kernel), qsi_mX7_workedFrom, qse_mX7_workedFrom⟩
theorem qe_mX7_startOf_mX7_paceAt : qb_CV mX7_startOf mX7_paceAt 67 1 := ⟨⟨qcw_mX7_paceAt, qci_mX7_paceAt, by decide +kernel, by decide +kernel, by decide +kernel⟩, qb_wg_in 505 (by decide +kernel) (by decide +kernel), qsi_mX7_paceAt, qse_mX7_paceAt⟩
theorem qcw_mX7_workOne : Cond.code (qb_nm mX7_workOne) (qb_by mX7_workOne) (qb_ml mX7_workOne) (qb_rt mX7_workOne) ∈ qb_wg := qb_wg_in 500 (by decide +kernel) (by decide +kernel)
theorem qci_mX7_workOne : Cond.initialized (qb_nm mX7_workOne).cls ∈ qb_wg := qb_wg_in 63 (by decide +kernel) (by decide +kernel)
theorem qsi_mX7_workOne : Cond.instanceMethod (qb_nm mX7_workOne) ∈ qb_wg := qb_wg_in 499 (by decide +kernel) (by decide +kernel)
theorem qse_mX7_workOne : Cond.selects (qb_nm mX7_workOne).cls (qb_nm mX7_workOne) (qb_nm mX7_workOne) ∈ qb_wg := qb_wg_in 1 (by decide +kernel) (by decide +kernel)
theorem qe_mX7_work_mX7_workOne : qb_CV mX7_work mX7_workOne 55 3 := ⟨⟨qcw_mX7_workOne, qci_mX7_workOne, by decide +kernel, by decide +kernel, by decide +kernel⟩, qb_wg_in 497 (by decide +kernel) (by decide +kernel), qsi_mX7_workOne, qse_mX7_workOne⟩
theorem qe_mX7_workOne_mX7_startOf : qb_CV mX7_workOne mX7_startOf 59 3 := ⟨⟨qcw_mX7_startOf, qci_mX7_startOf, by decide +kernel, by decide +kernel, by decide +kernel⟩, qb_wg_in 501 (by decide +kernel) (by decide +kernel), qsi_mX7_startOf, qse_mX7_startOf⟩
theorem qe_mX7_workOne_mX7_workedFrom : qb_CV mX7_workOne mX7_workedFrom 63 4 := ⟨⟨qcw_mX7_workedFrom, qci_mX7_workedFrom, by decide +kernel, by decide +kernel, by decide +kernel⟩, qb_wg_in 512 (by decide +kernel) (by decide +kernel), qsi_mX7_workedFrom, qse_mX7_workedFrom⟩
theorem qe_mX7_workedFrom_mX7_paceAt : qb_CV mX7_workedFrom mX7_paceAt 67 1 := ⟨⟨qcw_mX7_paceAt, qci_mX7_paceAt, by decide +kernel, by decide +kernel, by decide +kernel⟩, qb_wg_in 505 (by decide +kernel) (by decide +kernel), qsi_mX7_paceAt, qse_mX7_paceAt⟩
theorem qcw_mX8_find : Cond.code (qb_nm mX8_find) (qb_by mX8_find) (qb_ml mX8_find) (qb_rt mX8_find) ∈ qb_wg := qb_wg_in 564 (by decide +kernel) (by decide +kernel)
theorem qci_mX8_find : Cond.initialized (qb_nm mX8_find).cls ∈ qb_wg := qb_wg_in 65 (by decide +kernel) (by decide +kernel)
theorem qsi_mX8_find : Cond.instanceMethod (qb_nm mX8_find) ∈ qb_wg := qb_wg_in 563 (by decide +kernel) (by decide +kernel)
theorem qse_mX8_find : Cond.selects (qb_nm mX8_find).cls (qb_nm mX8_find) (qb_nm mX8_find) ∈ qb_wg := qb_wg_in 8 (by decide +kernel) (by decide +kernel)
theorem qe_mX8_lotAt_mX8_find : qb_CV mX8_lotAt mX8_find 28 2 := ⟨⟨qcw_mX8_find, qci_mX8_find, by decide +kernel, by decide +kernel, by decide +kernel⟩, qb_wg_in 561 (by decide +kernel) (by decide +kernel), qsi_mX8_find, qse_mX8_find⟩
theorem qe_mX8_muchAt_mX8_find : qb_CV mX8_muchAt mX8_find 28 2 := ⟨⟨qcw_mX8_find, qci_mX8_find, by decide +kernel, by decide +kernel, by decide +kernel⟩, qb_wg_in 561 (by decide +kernel) (by decide +kernel), qsi_mX8_find, qse_mX8_find⟩
theorem qcw_mX7_spoiltWith : Cond.code (qb_nm mX7_spoiltWith) (qb_by mX7_spoiltWith) (qb_ml mX7_spoiltWith) (qb_rt mX7_spoiltWith) ∈ qb_wg := qb_wg_in 834 (by decide +kernel) (by decide +kernel)
theorem qci_mX7_spoiltWith : Cond.initialized (qb_nm mX7_spoiltWith).cls ∈ qb_wg := qb_wg_in 63 (by decide +kernel) (by decide +kernel)
theorem qsi_mX7_spoiltWith : Cond.instanceMethod (qb_nm mX7_spoiltWith) ∈ qb_wg := qb_wg_in 832 (by decide +kernel) (by decide +kernel)
theorem qse_mX7_spoiltWith : Cond.selects (qb_nm mX7_spoiltWith).cls (qb_nm mX7_spoiltWith) (qb_nm mX7_spoiltWith) ∈ qb_wg := qb_wg_in 833 (by decide +kernel) (by decide +kernel)
theorem qe_mX9_plan_mX7_spoiltWith : qb_CV mX9_plan mX7_spoiltWith 29 4 := ⟨⟨qcw_mX7_spoiltWith, qci_mX7_spoiltWith, by decide +kernel, by decide +kernel, by decide +kernel⟩, qb_wg_in 831 (by decide +kernel) (by decide +kernel), qsi_mX7_spoiltWith, qse_mX7_spoiltWith⟩
theorem qcw_mX9_list : Cond.code (qb_nm mX9_list) (qb_by mX9_list) (qb_ml mX9_list) (qb_rt mX9_list) ∈ qb_wg := qb_wg_in 830 (by decide +kernel) (by decide +kernel)
theorem qci_mX9_list : Cond.initialized (qb_nm mX9_list).cls ∈ qb_wg := qb_wg_in 69 (by decide +kernel) (by decide +kernel)
theorem qsi_mX9_list : Cond.instanceMethod (qb_nm mX9_list) ∈ qb_wg := qb_wg_in 829 (by decide +kernel) (by decide +kernel)
theorem qse_mX9_list : Cond.selects (qb_nm mX9_list).cls (qb_nm mX9_list) (qb_nm mX9_list) ∈ qb_wg := qb_wg_in 24 (by decide +kernel) (by decide +kernel)
theorem qe_mX9_plan_mX9_list : qb_CV mX9_plan mX9_list 21 1 := ⟨⟨qcw_mX9_list, qci_mX9_list, by decide +kernel, by decide +kernel, by decide +kernel⟩, qb_wg_in 827 (by decide +kernel) (by decide +kernel), qsi_mX9_list, qse_mX9_list⟩
theorem qcw_mX9_spoiltBy : Cond.code (qb_nm mX9_spoiltBy) (qb_by mX9_spoiltBy) (qb_ml mX9_spoiltBy) (qb_rt mX9_spoiltBy) ∈ qb_wg := qb_wg_in 838 (by decide +kernel) (by decide +kernel)
theorem qci_mX9_spoiltBy : Cond.initialized (qb_nm mX9_spoiltBy).cls ∈ qb_wg := qb_wg_in 69 (by decide +kernel) (by decide +kernel)
theorem qsi_mX9_spoiltBy : Cond.instanceMethod (qb_nm mX9_spoiltBy) ∈ qb_wg := qb_wg_in 837 (by decide +kernel) (by decide +kernel)
theorem qse_mX9_spoiltBy : Cond.selects (qb_nm mX9_spoiltBy).cls (qb_nm mX9_spoiltBy) (qb_nm mX9_spoiltBy) ∈ qb_wg := qb_wg_in 25 (by decide +kernel) (by decide +kernel)
theorem qe_mX9_plan_mX9_spoiltBy : qb_CV mX9_plan mX9_spoiltBy 38 1 := ⟨⟨qcw_mX9_spoiltBy, qci_mX9_spoiltBy, by decide +kernel, by decide +kernel, by decide +kernel⟩, qb_wg_in 835 (by decide +kernel) (by decide +kernel), qsi_mX9_spoiltBy, qse_mX9_spoiltBy⟩
theorem qcw_mX9_digit : Cond.code (qb_nm mX9_digit) (qb_by mX9_digit) (qb_ml mX9_digit) (qb_rt mX9_digit) ∈ qb_wg := qb_wg_in 842 (by decide +kernel) (by decide +kernel)
theorem qci_mX9_digit : Cond.initialized (qb_nm mX9_digit).cls ∈ qb_wg := qb_wg_in 69 (by decide +kernel) (by decide +kernel)
theorem qsi_mX9_digit : Cond.instanceMethod (qb_nm mX9_digit) ∈ qb_wg := qb_wg_in 841 (by decide +kernel) (by decide +kernel)
theorem qse_mX9_digit : Cond.selects (qb_nm mX9_digit).cls (qb_nm mX9_digit) (qb_nm mX9_digit) ∈ qb_wg := qb_wg_in 26 (by decide +kernel) (by decide +kernel)
theorem qe_mX9_quayOf_mX9_digit : qb_CV mX9_quayOf mX9_digit 45 2 := ⟨⟨qcw_mX9_digit, qci_mX9_digit, by decide +kernel, by decide +kernel, by decide +kernel⟩, qb_wg_in 839 (by decide +kernel) (by decide +kernel), qsi_mX9_digit, qse_mX9_digit⟩
theorem qe_mX9_spoiltBy_mX9_digit : qb_CV mX9_spoiltBy mX9_digit 45 2 := ⟨⟨qcw_mX9_digit, qci_mX9_digit, by decide +kernel, by decide +kernel, by decide +kernel⟩, qb_wg_in 839 (by decide +kernel) (by decide +kernel), qsi_mX9_digit, qse_mX9_digit⟩
