/-! ===== by program (wip/whole/gen_tab.py): the methods, and what the pools' entries stand for ===== -/
/-- own class, code, name, locals, answer, 1: a constructor, handlers -/
abbrev MI : Type := Nat × ByteArray × MethodName × Nat × Option FieldType × Nat × List (Nat × Nat × Nat × Nat)
def mJ7_fill_53178 : MI := (13, cJ7_fill_53178, yJ7_fill_53178, 4, none, 0, [])
def mX0_init : MI := (0, cX0_init, yX0_init, 1, none, 1, [])
def mX0_copy : MI := (0, cX0_copy, yX0_copy, 2, none, 0, [])
def mX0_openAll : MI := (0, cX0_openAll, yX0_openAll, 1, none, 0, [])
def mX0_wallCount : MI := (0, cX0_wallCount, yX0_wallCount, 3, (some .int), 0, [])
def mX1_init : MI := (1, cX1_init, yX1_init, 1, none, 1, [])
def mX1_add : MI := (1, cX1_add, yX1_add, 5, (some .boolean), 0, [])
def mX9_isIn : MI := (9, cX9_isIn, yX9_isIn, 3, (some .boolean), 0, [])
def mX2_joined : MI := (2, cX2_joined, yX2_joined, 3, (some .int), 0, [])
def mX2_named : MI := (2, cX2_named, yX2_named, 6, (some .int), 0, [])
def mX9_between : MI := (9, cX9_between, yX9_between, 3, (some .int), 0, [])
def mX2_bounded : MI := (2, cX2_bounded, yX2_bounded, 9, (some .int), 0, [])
def mX1_offByLaw : MI := (1, cX1_offByLaw, yX1_offByLaw, 5, (some .int), 0, [])
def mX1_offByTenths : MI := (1, cX1_offByTenths, yX1_offByTenths, 6, (some .int), 0, [])
def mX2_init : MI := (2, cX2_init, yX2_init, 1, none, 1, [])
def mX6_begin : MI := (6, cX6_begin, yX6_begin, 2, (some .boolean), 0, [])
def mX6_isGood : MI := (6, cX6_isGood, yX6_isGood, 1, (some .boolean), 0, [])
def mX6_next : MI := (6, cX6_next, yX6_next, 1, (some .int), 0, [])
def mX6_skip : MI := (6, cX6_skip, yX6_skip, 2, (some .boolean), 0, [])
def mX2_emit : MI := (2, cX2_emit, yX2_emit, 2, none, 0, [])
def mX6_isAtDigit : MI := (6, cX6_isAtDigit, yX6_isAtDigit, 1, (some .boolean), 0, [])
def mX6_fail : MI := (6, cX6_fail, yX6_fail, 2, none, 0, [])
def mX6_failHere : MI := (6, cX6_failHere, yX6_failHere, 1, none, 0, [])
def mX6_failAtLastDigit : MI := (6, cX6_failAtLastDigit, yX6_failAtLastDigit, 1, none, 0, [])
def mX6_number : MI := (6, cX6_number, yX6_number, 5, (some .int), 0, [])
def mX6_need : MI := (6, cX6_need, yX6_need, 2, none, 0, [])
def mX2_readName : MI := (2, cX2_readName, yX2_readName, 2, none, 0, [])
def mX2_readProduct : MI := (2, cX2_readProduct, yX2_readProduct, 4, none, 0, [])
def mX2_readSum : MI := (2, cX2_readSum, yX2_readSum, 4, none, 0, [])
def mX2_readThing : MI := (2, cX2_readThing, yX2_readThing, 5, none, 0, [])
def mX2_read : MI := (2, cX2_read, yX2_read, 2, none, 0, [])
def mX4_init : MI := (4, cX4_init, yX4_init, 1, none, 1, [])
def mX5_init : MI := (5, cX5_init, yX5_init, 1, none, 1, [])
def mX3_init : MI := (3, cX3_init, yX3_init, 2, none, 1, [])
def mX4_freshen : MI := (4, cX4_freshen, yX4_freshen, 2, none, 0, [])
def mX5_freshen : MI := (5, cX5_freshen, yX5_freshen, 2, none, 0, [])
def mX3_begin : MI := (3, cX3_begin, yX3_begin, 4, none, 0, [])
def mX4_copy : MI := (4, cX4_copy, yX4_copy, 2, none, 0, [])
def mX5_copy : MI := (5, cX5_copy, yX5_copy, 2, none, 0, [])
def mX5_wander : MI := (5, cX5_wander, yX5_wander, 2, (some .int), 0, [])
def mX4_slope : MI := (4, cX4_slope, yX4_slope, 2, (some .int), 0, [])
def mJ9_floorMod_7cf53 : MI := (12, cJ9_floorMod_7cf53, yJ9_floorMod_7cf53, 3, (some .int), 0, [])
def mX5_slopeSeen : MI := (5, cX5_slopeSeen, yX5_slopeSeen, 3, (some .int), 0, [])
def mX5_given : MI := (5, cX5_given, yX5_given, 5, (some .int), 0, [])
def mX4_drive : MI := (4, cX4_drive, yX4_drive, 8, none, 0, [])
def mX4_move : MI := (4, cX4_move, yX4_move, 4, none, 0, [])
def mX4_runOver : MI := (4, cX4_runOver, yX4_runOver, 5, (some .int), 0, [])
def mX4_pass : MI := (4, cX4_pass, yX4_pass, 4, (some .int), 0, [])
def mX5_pass : MI := (5, cX5_pass, yX5_pass, 5, (some .int), 0, [])
def mX5_carry : MI := (5, cX5_carry, yX5_carry, 8, (some .int), 0, [])
def mX3_carries : MI := (3, cX3_carries, yX3_carries, 5, (some .boolean), 0, [])
def mX3_choose : MI := (3, cX3_choose, yX3_choose, 3, none, 0, [])
def mX3_noteBest : MI := (3, cX3_noteBest, yX3_noteBest, 3, none, 0, [])
def mX4_lean : MI := (4, cX4_lean, yX4_lean, 5, none, 0, [])
def mX4_higherEnd : MI := (4, cX4_higherEnd, yX4_higherEnd, 2, (some .int), 0, [])
def mX4_contents : MI := (4, cX4_contents, yX4_contents, 4, (some .int), 0, [])
def mX4_greatest : MI := (4, cX4_greatest, yX4_greatest, 4, (some .int), 0, [])
def mX4_restlessness : MI := (4, cX4_restlessness, yX4_restlessness, 9, (some .long), 0, [])
def mX5_rowOf : MI := (5, cX5_rowOf, yX5_rowOf, 2, (some (.object "CoffeeThatSlops$Row")), 0, [])
def mX6_init : MI := (6, cX6_init, yX6_init, 1, none, 1, [])
def mX6_add : MI := (6, cX6_add, yX6_add, 3, (some .boolean), 0, [])
def mX6_finish : MI := (6, cX6_finish, yX6_finish, 1, (some .int), 0, [])
def mX7_init : MI := (7, cX7_init, yX7_init, 1, none, 1, [])
def mX7_begin : MI := (7, cX7_begin, yX7_begin, 2, none, 0, [])
def mX7_note : MI := (7, cX7_note, yX7_note, 3, none, 0, [])
def mX7_through : MI := (7, cX7_through, yX7_through, 7, none, 0, [])
def mX7_spiltOn : MI := (7, cX7_spiltOn, yX7_spiltOn, 3, (some .int), 0, [])
def mX7_keepsAll : MI := (7, cX7_keepsAll, yX7_keepsAll, 2, (some .boolean), 0, [])
def mX7_spiltFrom : MI := (7, cX7_spiltFrom, yX7_spiltFrom, 3, (some .int), 0, [])
def mX7_spiltWithTurn : MI := (7, cX7_spiltWithTurn, yX7_spiltWithTurn, 3, (some .int), 0, [])
def mX7_spiltWithPause : MI := (7, cX7_spiltWithPause, yX7_spiltWithPause, 5, (some .int), 0, [])
def mX7_letGo : MI := (7, cX7_letGo, yX7_letGo, 4, (some (.array .int)), 0, [])
def mX7_clearFirsts : MI := (7, cX7_clearFirsts, yX7_clearFirsts, 1, none, 0, [])
def mX7_countFirst : MI := (7, cX7_countFirst, yX7_countFirst, 2, none, 0, [])
def mX7_mostOftenFirst : MI := (7, cX7_mostOftenFirst, yX7_mostOftenFirst, 4, (some .int), 0, [])
def mX8_init : MI := (8, cX8_init, yX8_init, 1, none, 1, [])
def mX8_clear : MI := (8, cX8_clear, yX8_clear, 1, none, 0, [])
def mX8_hasRoom : MI := (8, cX8_hasRoom, yX8_hasRoom, 3, (some .boolean), 0, [])
def mX8_addTick : MI := (8, cX8_addTick, yX8_addTick, 4, none, 0, [])
def mX8_addSteps : MI := (8, cX8_addSteps, yX8_addSteps, 8, none, 0, [])
def mX8_readSteps : MI := (8, cX8_readSteps, yX8_readSteps, 6, none, 0, [])
def mX8_readStand : MI := (8, cX8_readStand, yX8_readStand, 4, none, 0, [])
def mX8_readJerk : MI := (8, cX8_readJerk, yX8_readJerk, 4, none, 0, [])
def mX8_readPart : MI := (8, cX8_readPart, yX8_readPart, 2, none, 0, [])
def mX8_read : MI := (8, cX8_read, yX8_read, 3, none, 0, [])
def mX8_stepAt : MI := (8, cX8_stepAt, yX8_stepAt, 2, (some .int), 0, [])
def mX8_sizes : MI := (8, cX8_sizes, yX8_sizes, 4, (some .int), 0, [])
def mX9_init : MI := (9, cX9_init, yX9_init, 2, none, 1, [])
def mX9_cup : MI := (9, cX9_cup, yX9_cup, 4, (some .boolean), 0, [])
def mX9_set : MI := (9, cX9_set, yX9_set, 4, (some .int), 0, [])
def mX9_isGap : MI := (9, cX9_isGap, yX9_isGap, 2, (some .boolean), 0, [])
def mX9_wall : MI := (9, cX9_wall, yX9_wall, 4, (some .int), 0, [])
def mX9_sheetEntry : MI := (9, cX9_sheetEntry, yX9_sheetEntry, 2, (some .int), 0, [])
def mX9_sheet : MI := (9, cX9_sheet, yX9_sheet, 7, (some .int), 0, [])
def mX9_fresh : MI := (9, cX9_fresh, yX9_fresh, 2, (some .int), 0, [])
def mX9_isRow : MI := (9, cX9_isRow, yX9_isRow, 1, (some .boolean), 0, [])
def mX9_tilt : MI := (9, cX9_tilt, yX9_tilt, 3, (some .boolean), 0, [])
def mX9_isPush : MI := (9, cX9_isPush, yX9_isPush, 1, (some .boolean), 0, [])
def mX9_tick : MI := (9, cX9_tick, yX9_tick, 3, (some .int), 0, [])
def mX9_cell : MI := (9, cX9_cell, yX9_cell, 5, (some .int), 0, [])
def mX9_of : MI := (9, cX9_of, yX9_of, 4, (some .int), 0, [])
def mX9_sign : MI := (9, cX9_sign, yX9_sign, 2, (some .int), 0, [])
def mX9_end : MI := (9, cX9_end, yX9_end, 2, (some .boolean), 0, [])
def mX9_isWalk : MI := (9, cX9_isWalk, yX9_isWalk, 1, (some .boolean), 0, [])
def mX9_walk : MI := (9, cX9_walk, yX9_walk, 4, (some .int), 0, [])
def mX9_law : MI := (9, cX9_law, yX9_law, 4, (some .int), 0, [])
def mX9_toldLaw : MI := (9, cX9_toldLaw, yX9_toldLaw, 2, (some (.object "CoffeeThatSlops$Law")), 0, [])
def mX9_gives : MI := (9, cX9_gives, yX9_gives, 4, (some .int), 0, [])
def mX9_tellMore : MI := (9, cX9_tellMore, yX9_tellMore, 3, none, 0, [])
def mX9_tell : MI := (9, cX9_tell, yX9_tell, 3, none, 0, [])
def mX9_tell_ : MI := (9, cX9_tell_, yX9_tell_, 5, none, 0, [])
def mX9_tell__ : MI := (9, cX9_tell__, yX9_tell__, 7, none, 0, [])
def mX9_steps : MI := (9, cX9_steps, yX9_steps, 3, (some .int), 0, [])
def mX9_go : MI := (9, cX9_go, yX9_go, 9, (some .int), 0, [])
def mX9_asItIs : MI := (9, cX9_asItIs, yX9_asItIs, 1, (some (.object "CoffeeThatSlops$Trial")), 0, [])
def mX9_swing : MI := (9, cX9_swing, yX9_swing, 4, (some .int), 0, [])
def mX9_dies : MI := (9, cX9_dies, yX9_dies, 6, (some .int), 0, [])
def mX9_worst : MI := (9, cX9_worst, yX9_worst, 6, (some .int), 0, [])
def mX9_would : MI := (9, cX9_would, yX9_would, 5, (some .int), 0, [])
def mX9_commonDivisor : MI := (9, cX9_commonDivisor, yX9_commonDivisor, 6, (some .int), 0, [])
def mX9_tellFraction : MI := (9, cX9_tellFraction, yX9_tellFraction, 4, none, 0, [])
def mX9_odds : MI := (9, cX9_odds, yX9_odds, 6, (some .int), 0, [])
def mX9_full : MI := (9, cX9_full, yX9_full, 4, (some .int), 0, [])
def mX9_leads : MI := (9, cX9_leads, yX9_leads, 4, (some .int), 0, [])
def mX9_extend : MI := (9, cX9_extend, yX9_extend, 9, none, 0, [])
def mX9_plan : MI := (9, cX9_plan, yX9_plan, 3, (some .int), 0, [])
def mX9_helps : MI := (9, cX9_helps, yX9_helps, 12, (some .int), 0, [])
def mX9_layers : MI := (9, cX9_layers, yX9_layers, 4, (some .int), 0, [])
def mX9_lateSlope : MI := (9, cX9_lateSlope, yX9_lateSlope, 8, (some .int), 0, [])
def mX9_off : MI := (9, cX9_off, yX9_off, 6, (some .int), 0, [])
def mX9_isOpen : MI := (9, cX9_isOpen, yX9_isOpen, 2, (some .boolean), 0, [])
def mX9_walled : MI := (9, cX9_walled, yX9_walled, 5, (some (.object "CoffeeThatSlops$Trial")), 0, [])
def mX9_few : MI := (9, cX9_few, yX9_few, 5, (some .int), 0, [])
def mX9_best : MI := (9, cX9_best, yX9_best, 7, (some .int), 0, [])
def mX9_lid : MI := (9, cX9_lid, yX9_lid, 5, (some .int), 0, [])
def mX9_form : MI := (9, cX9_form, yX9_form, 6, (some .int), 0, [])
def mX9_turn : MI := (9, cX9_turn, yX9_turn, 3, (some .int), 0, [])
def mX9_door : MI := (9, cX9_door, yX9_door, 8, (some .int), 0, [])
def mX9_two : MI := (9, cX9_two, yX9_two, 7, (some .int), 0, [])
def mX9_brake : MI := (9, cX9_brake, yX9_brake, 4, none, 0, [])
def mX9_stop : MI := (9, cX9_stop, yX9_stop, 4, (some .int), 0, [])
def mX9_pause : MI := (9, cX9_pause, yX9_pause, 7, (some .int), 0, [])
def mX9_stir : MI := (9, cX9_stir, yX9_stir, 2, (some .long), 0, [])
def mX9_spot : MI := (9, cX9_spot, yX9_spot, 2, (some .int), 0, [])
def mX9_wipe : MI := (9, cX9_wipe, yX9_wipe, 2, (some .int), 0, [])
def mX9_isHand : MI := (9, cX9_isHand, yX9_isHand, 2, (some .boolean), 0, [])
def mX9_nearest : MI := (9, cX9_nearest, yX9_nearest, 5, (some .int), 0, [])
def mX9_distance : MI := (9, cX9_distance, yX9_distance, 4, (some .int), 0, [])
def mX9_far : MI := (9, cX9_far, yX9_far, 4, (some .int), 0, [])
def mX9_who : MI := (9, cX9_who, yX9_who, 9, (some .int), 0, [])
def mX9_film : MI := (9, cX9_film, yX9_film, 5, (some .int), 0, [])
def mX9_fits : MI := (9, cX9_fits, yX9_fits, 10, (some .int), 0, [])
def mX9_reads : MI := (9, cX9_reads, yX9_reads, 7, (some .int), 0, [])
def mX9_seed : MI := (9, cX9_seed, yX9_seed, 3, (some .int), 0, [])
def mX9_keep : MI := (9, cX9_keep, yX9_keep, 2, (some .boolean), 0, [])
def mX9_again : MI := (9, cX9_again, yX9_again, 2, (some .boolean), 0, [])
def mX9_toldLawBits : MI := (9, cX9_toldLawBits, yX9_toldLawBits, 3, (some .int), 0, [])
def mX9_count : MI := (9, cX9_count, yX9_count, 2, (some .int), 0, [])
def mX9_row : MI := (9, cX9_row, yX9_row, 2, (some .long), 0, [])
def mX10_begin : MI := (10, cX10_begin, yX10_begin, 2, none, 0, [])
def mX10_init : MI := (10, cX10_init, yX10_init, 2, none, 1, [])
def mX10_thrown : MI := (10, cX10_thrown, yX10_thrown, 1, (some .int), 0, [])
def mX10_in : MI := (10, cX10_in, yX10_in, 3, (some .boolean), 0, [])
def mX10_lost : MI := (10, cX10_lost, yX10_lost, 1, (some .int), 0, [])
def mX10_tell : MI := (10, cX10_tell, yX10_tell, 3, none, 0, [])
def mX10_cup : MI := (10, cX10_cup, yX10_cup, 5, (some .boolean), 0, [])
def mX10_set : MI := (10, cX10_set, yX10_set, 6, (some .int), 0, [])
def mX10_isGap : MI := (10, cX10_isGap, yX10_isGap, 2, (some .boolean), 0, [])
def mX10_wall : MI := (10, cX10_wall, yX10_wall, 4, (some .int), 0, [])
def mX10_sheet : MI := (10, cX10_sheet, yX10_sheet, 9, (some .int), 0, [])
def mX10_fresh : MI := (10, cX10_fresh, yX10_fresh, 2, (some .int), 0, [])
def mX10_lean : MI := (10, cX10_lean, yX10_lean, 5, none, 0, [])
def mX10_tilt : MI := (10, cX10_tilt, yX10_tilt, 3, (some .boolean), 0, [])
def mX10_slope : MI := (10, cX10_slope, yX10_slope, 1, (some .int), 0, [])
def mX10_flows : MI := (10, cX10_flows, yX10_flows, 8, none, 0, [])
def mX10_over : MI := (10, cX10_over, yX10_over, 6, (some .int), 0, [])
def mX10_pass : MI := (10, cX10_pass, yX10_pass, 5, (some .int), 0, [])
def mX10_tick : MI := (10, cX10_tick, yX10_tick, 3, (some .int), 0, [])
def mX10_cell : MI := (10, cX10_cell, yX10_cell, 4, (some .int), 0, [])
def mX10_of : MI := (10, cX10_of, yX10_of, 6, (some .int), 0, [])
def mX10_sign : MI := (10, cX10_sign, yX10_sign, 3, (some .int), 0, [])
def mX10_end : MI := (10, cX10_end, yX10_end, 2, (some .boolean), 0, [])
def mX10_start : MI := (10, cX10_start, yX10_start, 4, none, 0, [])
def mX10_here : MI := (10, cX10_here, yX10_here, 1, (some .int), 0, [])
def mX10_fine : MI := (10, cX10_fine, yX10_fine, 1, (some .boolean), 0, [])
def mX10_fault : MI := (10, cX10_fault, yX10_fault, 2, none, 0, [])
def mX10_passes : MI := (10, cX10_passes, yX10_passes, 2, (some .boolean), 0, [])
def mX10_need : MI := (10, cX10_need, yX10_need, 2, none, 0, [])
def mX10_number : MI := (10, cX10_number, yX10_number, 5, (some .int), 0, [])
def mX10_lay : MI := (10, cX10_lay, yX10_lay, 4, none, 0, [])
def mX10_walk : MI := (10, cX10_walk, yX10_walk, 10, (some .int), 0, [])
def mX10_isWalk : MI := (10, cX10_isWalk, yX10_isWalk, 1, (some .boolean), 0, [])
def mX10_steps : MI := (10, cX10_steps, yX10_steps, 5, (some .int), 0, [])
def mX10_product : MI := (10, cX10_product, yX10_product, 5, (some .int), 0, [])
def mX10_sum : MI := (10, cX10_sum, yX10_sum, 5, (some .int), 0, [])
def mX10_thing : MI := (10, cX10_thing, yX10_thing, 4, (some .int), 0, [])
def mX10_law : MI := (10, cX10_law, yX10_law, 4, (some .int), 0, [])
def mX10_isLaw : MI := (10, cX10_isLaw, yX10_isLaw, 2, (some .boolean), 0, [])
def mX10_bounded : MI := (10, cX10_bounded, yX10_bounded, 1, (some .int), 0, [])
def mX10_byLaw : MI := (10, cX10_byLaw, yX10_byLaw, 6, (some .int), 0, [])
def mX10_byHand : MI := (10, cX10_byHand, yX10_byHand, 5, (some .int), 0, [])
def mX10_gives : MI := (10, cX10_gives, yX10_gives, 3, (some .int), 0, [])
def mX10_draw : MI := (10, cX10_draw, yX10_draw, 2, (some .int), 0, [])
def mX10_watch : MI := (10, cX10_watch, yX10_watch, 1, none, 0, [])
def mX10_passWatched : MI := (10, cX10_passWatched, yX10_passWatched, 6, (some .int), 0, [])
def mX10_goOn : MI := (10, cX10_goOn, yX10_goOn, 10, (some .int), 0, [])
def mX10_go : MI := (10, cX10_go, yX10_go, 4, (some .int), 0, [])
def mX10_put : MI := (10, cX10_put, yX10_put, 2, none, 0, [])
def mX10_take : MI := (10, cX10_take, yX10_take, 1, (some .int), 0, [])
def mX10_putBy : MI := (10, cX10_putBy, yX10_putBy, 6, none, 0, [])
def mX10_bringBack : MI := (10, cX10_bringBack, yX10_bringBack, 3, none, 0, [])
def mX10_wholly : MI := (10, cX10_wholly, yX10_wholly, 4, (some .int), 0, [])
def mX10_letGo : MI := (10, cX10_letGo, yX10_letGo, 4, none, 0, [])
def mX10_isTilt : MI := (10, cX10_isTilt, yX10_isTilt, 1, (some .boolean), 0, [])
def mX10_swing : MI := (10, cX10_swing, yX10_swing, 3, (some .int), 0, [])
def mX10_dies : MI := (10, cX10_dies, yX10_dies, 5, (some .int), 0, [])
def mX10_worst : MI := (10, cX10_worst, yX10_worst, 8, (some .int), 0, [])
def mX10_would : MI := (10, cX10_would, yX10_would, 4, (some .int), 0, [])
def mX10_common : MI := (10, cX10_common, yX10_common, 4, (some .long), 0, [])
def mX10_tellPart : MI := (10, cX10_tellPart, yX10_tellPart, 7, none, 0, [])
def mX10_odds : MI := (10, cX10_odds, yX10_odds, 6, (some .int), 0, [])
def mX10_full : MI := (10, cX10_full, yX10_full, 5, (some .int), 0, [])
def mX10_leads : MI := (10, cX10_leads, yX10_leads, 4, (some .int), 0, [])
def mX10_keepPlan : MI := (10, cX10_keepPlan, yX10_keepPlan, 3, (some .int), 0, [])
def mX10_fromPlan : MI := (10, cX10_fromPlan, yX10_fromPlan, 3, none, 0, [])
def mX10_planFrom : MI := (10, cX10_planFrom, yX10_planFrom, 8, none, 0, [])
def mX10_plan : MI := (10, cX10_plan, yX10_plan, 3, (some .int), 0, [])
def mX10_helps : MI := (10, cX10_helps, yX10_helps, 11, (some .int), 0, [])
def mX10_leastOf : MI := (10, cX10_leastOf, yX10_leastOf, 8, (some .int), 0, [])
def mX10_layers : MI := (10, cX10_layers, yX10_layers, 2, (some .int), 0, [])
def mX10_greatestSlope : MI := (10, cX10_greatestSlope, yX10_greatestSlope, 7, (some .int), 0, [])
def mX10_off : MI := (10, cX10_off, yX10_off, 6, (some .int), 0, [])
def mX10_few : MI := (10, cX10_few, yX10_few, 6, (some .int), 0, [])
def mX10_best : MI := (10, cX10_best, yX10_best, 7, (some .int), 0, [])
def mX10_lid : MI := (10, cX10_lid, yX10_lid, 3, (some .int), 0, [])
def mX10_form : MI := (10, cX10_form, yX10_form, 7, (some .int), 0, [])
def mX10_withPause : MI := (10, cX10_withPause, yX10_withPause, 7, (some .int), 0, [])
def mX10_turn : MI := (10, cX10_turn, yX10_turn, 4, (some .int), 0, [])
def mX10_door : MI := (10, cX10_door, yX10_door, 8, (some .int), 0, [])
def mX10_two : MI := (10, cX10_two, yX10_two, 7, (some .int), 0, [])
def mX10_stop : MI := (10, cX10_stop, yX10_stop, 5, (some .int), 0, [])
def mX10_pause : MI := (10, cX10_pause, yX10_pause, 7, (some .int), 0, [])
def mX10_stir : MI := (10, cX10_stir, yX10_stir, 9, (some .long), 0, [])
def mX10_spot : MI := (10, cX10_spot, yX10_spot, 2, (some .int), 0, [])
def mX10_wipe : MI := (10, cX10_wipe, yX10_wipe, 2, (some .int), 0, [])
def mX10_farFrom : MI := (10, cX10_farFrom, yX10_farFrom, 8, (some .int), 0, [])
def mX10_far : MI := (10, cX10_far, yX10_far, 3, (some .int), 0, [])
def mX10_who : MI := (10, cX10_who, yX10_who, 8, (some .int), 0, [])
def mX10_film : MI := (10, cX10_film, yX10_film, 5, (some .int), 0, [])
def mX10_fits : MI := (10, cX10_fits, yX10_fits, 9, (some .int), 0, [])
def mX10_reads : MI := (10, cX10_reads, yX10_reads, 8, (some .int), 0, [])
def mX10_seed : MI := (10, cX10_seed, yX10_seed, 3, (some .int), 0, [])
def mX10_keep : MI := (10, cX10_keep, yX10_keep, 2, (some .boolean), 0, [])
def mX10_again : MI := (10, cX10_again, yX10_again, 2, (some .boolean), 0, [])
def mX10_count : MI := (10, cX10_count, yX10_count, 4, (some .int), 0, [])
def mX10_row : MI := (10, cX10_row, yX10_row, 2, (some .long), 0, [])
def mJ9_abs_0f7a4 : MI := (12, cJ9_abs_0f7a4, yJ9_abs_0f7a4, 1, (some .int), 0, [])
def mJ9_abs_067f4 : MI := (12, cJ9_abs_067f4, yJ9_abs_067f4, 2, (some .long), 0, [])
def mJ9_max_7cf53 : MI := (12, cJ9_max_7cf53, yJ9_max_7cf53, 2, (some .int), 0, [])
def mJ9_min_7cf53 : MI := (12, cJ9_min_7cf53, yJ9_min_7cf53, 2, (some .int), 0, [])
def mL_cell : MI := (11, cL_cell, yL_cell, 6, (some .int), 0, [(0, 12, 15, 13)])
def mL_of : MI := (11, cL_of, yL_of, 5, (some .int), 0, [(0, 10, 13, 13)])
def mL_gives : MI := (11, cL_gives, yL_gives, 5, (some .int), 0, [(0, 10, 13, 13)])
def mL_row : MI := (11, cL_row, yL_row, 4, (some .int), 0, [(0, 8, 11, 13)])
def mL_law : MI := (11, cL_law, yL_law, 8, (some .boolean), 0, [])
def mtb_0 : List MI := [mJ7_fill_53178, mX0_init, mX0_copy, mX0_openAll, mX0_wallCount, mX1_init, mX1_add, mX9_isIn, mX2_joined, mX2_named, mX9_between, mX2_bounded, mX1_offByLaw, mX1_offByTenths, mX2_init, mX6_begin, mX6_isGood, mX6_next, mX6_skip, mX2_emit, mX6_isAtDigit, mX6_fail, mX6_failHere, mX6_failAtLastDigit, mX6_number, mX6_need, mX2_readName, mX2_readProduct, mX2_readSum, mX2_readThing]
def mtb_1 : List MI := [mX2_read, mX4_init, mX5_init, mX3_init, mX4_freshen, mX5_freshen, mX3_begin, mX4_copy, mX5_copy, mX5_wander, mX4_slope, mJ9_floorMod_7cf53, mX5_slopeSeen, mX5_given, mX4_drive, mX4_move, mX4_runOver, mX4_pass, mX5_pass, mX5_carry, mX3_carries, mX3_choose, mX3_noteBest, mX4_lean, mX4_higherEnd, mX4_contents, mX4_greatest, mX4_restlessness, mX5_rowOf, mX6_init]
def mtb_2 : List MI := [mX6_add, mX6_finish, mX7_init, mX7_begin, mX7_note, mX7_through, mX7_spiltOn, mX7_keepsAll, mX7_spiltFrom, mX7_spiltWithTurn, mX7_spiltWithPause, mX7_letGo, mX7_clearFirsts, mX7_countFirst, mX7_mostOftenFirst, mX8_init, mX8_clear, mX8_hasRoom, mX8_addTick, mX8_addSteps, mX8_readSteps, mX8_readStand, mX8_readJerk, mX8_readPart, mX8_read, mX8_stepAt, mX8_sizes, mX9_init, mX9_cup, mX9_set]
def mtb_3 : List MI := [mX9_isGap, mX9_wall, mX9_sheetEntry, mX9_sheet, mX9_fresh, mX9_isRow, mX9_tilt, mX9_isPush, mX9_tick, mX9_cell, mX9_of, mX9_sign, mX9_end, mX9_isWalk, mX9_walk, mX9_law, mX9_toldLaw, mX9_gives, mX9_tellMore, mX9_tell, mX9_tell_, mX9_tell__, mX9_steps, mX9_go, mX9_asItIs, mX9_swing, mX9_dies, mX9_worst, mX9_would, mX9_commonDivisor]
def mtb_4 : List MI := [mX9_tellFraction, mX9_odds, mX9_full, mX9_leads, mX9_extend, mX9_plan, mX9_helps, mX9_layers, mX9_lateSlope, mX9_off, mX9_isOpen, mX9_walled, mX9_few, mX9_best, mX9_lid, mX9_form, mX9_turn, mX9_door, mX9_two, mX9_brake, mX9_stop, mX9_pause, mX9_stir, mX9_spot, mX9_wipe, mX9_isHand, mX9_nearest, mX9_distance, mX9_far, mX9_who]
def mtb_5 : List MI := [mX9_film, mX9_fits, mX9_reads, mX9_seed, mX9_keep, mX9_again, mX9_toldLawBits, mX9_count, mX9_row, mX10_begin, mX10_init, mX10_thrown, mX10_in, mX10_lost, mX10_tell, mX10_cup, mX10_set, mX10_isGap, mX10_wall, mX10_sheet, mX10_fresh, mX10_lean, mX10_tilt, mX10_slope, mX10_flows, mX10_over, mX10_pass, mX10_tick, mX10_cell, mX10_of]
def mtb_6 : List MI := [mX10_sign, mX10_end, mX10_start, mX10_here, mX10_fine, mX10_fault, mX10_passes, mX10_need, mX10_number, mX10_lay, mX10_walk, mX10_isWalk, mX10_steps, mX10_product, mX10_sum, mX10_thing, mX10_law, mX10_isLaw, mX10_bounded, mX10_byLaw, mX10_byHand, mX10_gives, mX10_draw, mX10_watch, mX10_passWatched, mX10_goOn, mX10_go, mX10_put, mX10_take, mX10_putBy]
def mtb_7 : List MI := [mX10_bringBack, mX10_wholly, mX10_letGo, mX10_isTilt, mX10_swing, mX10_dies, mX10_worst, mX10_would, mX10_common, mX10_tellPart, mX10_odds, mX10_full, mX10_leads, mX10_keepPlan, mX10_fromPlan, mX10_planFrom, mX10_plan, mX10_helps, mX10_leastOf, mX10_layers, mX10_greatestSlope, mX10_off, mX10_few, mX10_best, mX10_lid, mX10_form, mX10_withPause, mX10_turn, mX10_door, mX10_two]
def mtb_8 : List MI := [mX10_stop, mX10_pause, mX10_stir, mX10_spot, mX10_wipe, mX10_farFrom, mX10_far, mX10_who, mX10_film, mX10_fits, mX10_reads, mX10_seed, mX10_keep, mX10_again, mX10_count, mX10_row, mJ9_abs_0f7a4, mJ9_abs_067f4, mJ9_max_7cf53, mJ9_min_7cf53, mL_cell, mL_of, mL_gives, mL_row]
def mtb : List MI := mtb_0 ++ mtb_1 ++ mtb_2 ++ mtb_3 ++ mtb_4 ++ mtb_5 ++ mtb_6 ++ mtb_7 ++ mtb_8
def mow (M : MI) : Nat := M.1
def mcd (M : MI) : ByteArray := M.2.1
def mnm (M : MI) : MethodName := M.2.2.1
def mml (M : MI) : Nat := M.2.2.2.1
def mrt (M : MI) : Option FieldType := M.2.2.2.2.1
def mkd (M : MI) : Nat := M.2.2.2.2.2.1
def mhh (M : MI) : List (Nat × Nat × Nat × Nat) := M.2.2.2.2.2.2
def onm : Nat → String
  | 0 => "CoffeeThatSlops$Cup"
  | 1 => "CoffeeThatSlops$Films"
  | 2 => "CoffeeThatSlops$Law"
  | 3 => "CoffeeThatSlops$Planner"
  | 4 => "CoffeeThatSlops$Row"
  | 5 => "CoffeeThatSlops$State"
  | 6 => "CoffeeThatSlops$Text"
  | 7 => "CoffeeThatSlops$Trial"
  | 8 => "CoffeeThatSlops$Walk"
  | 9 => "CoffeeThatSlops"
  | 10 => "CoffeeThatSlopsModel"
  | 11 => "CoffeeThatSlopsLaw"
  | 12 => "java/lang/Math"
  | _ => "java/util/Arrays"
def clC (k : Nat) : String := match k with
  | 1 => RX0
  | 2 => RX1
  | 3 => RX2
  | 4 => RX3
  | 5 => RX4
  | 6 => RX5
  | 7 => RX6
  | 8 => RX7
  | 9 => RX8
  | 10 => RX9
  | 11 => RX10
  | _ => ""
def clT (k : Nat) : u_T := match k with
  | 1 => TX0
  | 2 => TX1
  | 3 => TX2
  | 4 => TX3
  | 5 => TX4
  | 6 => TX5
  | 7 => TX6
  | 8 => TX7
  | 9 => TX8
  | 10 => TX9
  | 11 => TX10
  | _ => fun _ => ("", "", "", false)
def clN (k : Nat) : Nat := match k with
  | 1 => 5
  | 2 => 5
  | 3 => 3
  | 4 => 8
  | 5 => 3
  | 6 => 5
  | 7 => 5
  | 8 => 12
  | 9 => 7
  | 10 => 17
  | 11 => 66
  | _ => 0
def clY (k : Nat) : Nat → FieldType := match k with
  | 1 => tyX0
  | 2 => tyX1
  | 3 => tyX2
  | 4 => tyX3
  | 5 => tyX4
  | 6 => tyX5
  | 7 => tyX6
  | 8 => tyX7
  | 9 => tyX8
  | 10 => tyX9
  | 11 => tyX10
  | _ => fun _ => .int
/-- 0 an int, 1 a boolean, 2 a reference -/
def tcd (d : String) : Nat := if d = "I" then 0 else if d = "Z" then 1 else 2
/-- own class, pool entry, kind, field, its sort, final, the word's place -/
def fdt : List (Nat × Nat × Nat × Nat × Nat × Bool × Nat) := [
  (0, 9, 1, 0, 0, false, 1036),
  (9, 106, 1, 0, 0, false, 1037),
  (4, 38, 1, 0, 0, false, 1038),
  (0, 15, 1, 1, 0, false, 1039),
  (9, 109, 1, 1, 0, false, 1040),
  (4, 47, 1, 1, 0, false, 1041),
  (0, 18, 1, 2, 0, false, 1042),
  (4, 22, 1, 2, 0, false, 1043),
  (9, 112, 1, 2, 0, false, 1044),
  (1, 33, 1, 2, 0, false, 1045),
  (0, 21, 1, 3, 2, true, 1046),
  (1, 28, 1, 3, 2, true, 1047),
  (9, 124, 1, 3, 2, true, 1048),
  (4, 66, 1, 3, 2, true, 1049),
  (5, 83, 1, 3, 2, true, 1050),
  (0, 25, 1, 4, 2, true, 1051),
  (9, 131, 1, 4, 2, true, 1052),
  (4, 72, 1, 4, 2, true, 1053),
  (4, 9, 5, 0, 2, true, 1078),
  (5, 88, 5, 0, 2, true, 1079),
  (9, 168, 5, 0, 2, true, 1080),
  (4, 15, 5, 1, 2, true, 1081),
  (9, 171, 5, 1, 2, true, 1082),
  (4, 18, 5, 2, 0, false, 1083),
  (9, 178, 5, 2, 0, false, 1084),
  (5, 9, 6, 0, 0, false, 1092),
  (9, 142, 6, 0, 0, false, 1093),
  (7, 99, 6, 0, 0, false, 1094),
  (5, 15, 6, 1, 0, false, 1095),
  (7, 63, 6, 1, 0, false, 1096),
  (3, 56, 6, 1, 0, false, 1097),
  (9, 406, 6, 1, 0, false, 1098),
  (5, 21, 6, 2, 2, true, 1099),
  (7, 102, 6, 2, 2, true, 1100),
  (5, 25, 6, 3, 2, true, 1101),
  (7, 112, 6, 3, 2, true, 1102),
  (5, 28, 6, 4, 2, true, 1103),
  (6, 9, 7, 0, 2, true, 1122),
  (6, 15, 7, 1, 0, false, 1123),
  (9, 190, 7, 1, 0, false, 1124),
  (6, 19, 7, 2, 0, false, 1125),
  (6, 22, 7, 3, 0, false, 1126),
  (6, 25, 7, 4, 0, false, 1127),
  (8, 9, 9, 0, 2, true, 1147),
  (5, 60, 9, 0, 2, true, 1148),
  (9, 216, 9, 0, 2, true, 1149),
  (8, 15, 9, 1, 2, true, 1150),
  (5, 74, 9, 1, 2, true, 1151),
  (9, 223, 9, 1, 2, true, 1152),
  (8, 18, 9, 2, 2, true, 1153),
  (5, 64, 9, 2, 2, true, 1154),
  (8, 21, 9, 3, 2, true, 1155),
  (8, 24, 9, 4, 0, false, 1156),
  (7, 70, 9, 4, 0, false, 1157),
  (3, 66, 9, 4, 0, false, 1158),
  (9, 204, 9, 4, 0, false, 1159),
  (8, 28, 9, 5, 0, false, 1160),
  (9, 230, 9, 5, 0, false, 1161),
  (8, 31, 9, 6, 0, false, 1162),
  (2, 9, 3, 0, 2, true, 1185),
  (2, 15, 3, 1, 2, true, 1186),
  (2, 18, 3, 2, 0, false, 1187),
  (9, 419, 3, 2, 0, false, 1188),
  (7, 12, 8, 0, 2, true, 1206),
  (9, 264, 8, 0, 2, true, 1207),
  (7, 18, 8, 1, 2, false, 1208),
  (9, 321, 8, 1, 2, false, 1209),
  (7, 25, 8, 2, 2, true, 1210),
  (7, 29, 8, 3, 1, false, 1211),
  (7, 33, 8, 4, 0, false, 1212),
  (7, 37, 8, 5, 0, false, 1213),
  (9, 275, 8, 5, 0, false, 1214),
  (7, 40, 8, 6, 0, false, 1215),
  (9, 281, 8, 6, 0, false, 1216),
  (7, 43, 8, 7, 0, false, 1217),
  (9, 269, 8, 7, 0, false, 1218),
  (7, 46, 8, 8, 2, true, 1219),
  (9, 383, 8, 8, 2, true, 1220),
  (7, 50, 8, 9, 0, false, 1221),
  (9, 386, 8, 9, 0, false, 1222),
  (7, 53, 8, 10, 2, true, 1223),
  (7, 56, 8, 11, 2, true, 1224),
  (3, 12, 4, 0, 2, true, 2020),
  (3, 18, 4, 1, 2, false, 2021),
  (3, 24, 4, 2, 2, true, 2022),
  (3, 28, 4, 3, 2, true, 2023),
  (3, 32, 4, 4, 0, false, 2024),
  (9, 334, 4, 4, 0, false, 2025),
  (3, 36, 4, 5, 2, true, 2026),
  (9, 315, 4, 5, 2, true, 2027),
  (3, 39, 4, 6, 0, false, 2028),
  (9, 312, 4, 6, 0, false, 2029),
  (3, 42, 4, 7, 0, false, 2030),
  (9, 318, 4, 7, 0, false, 2031),
  (1, 9, 2, 0, 2, true, 2055),
  (1, 15, 2, 1, 2, true, 2056),
  (1, 18, 2, 2, 2, true, 2057),
  (1, 21, 2, 3, 2, true, 2058),
  (1, 24, 2, 4, 0, false, 2059),
  (9, 396, 2, 4, 0, false, 2060),
  (9, 10, 10, 0, 2, true, 2081),
  (9, 19, 10, 1, 2, true, 2082),
  (9, 23, 10, 2, 2, true, 2083),
  (9, 27, 10, 3, 0, false, 2084),
  (9, 34, 10, 4, 2, true, 2085),
  (9, 40, 10, 5, 2, true, 2086),
  (9, 44, 10, 6, 2, true, 2087),
  (9, 49, 10, 7, 2, false, 2088),
  (9, 55, 10, 8, 2, true, 2089),
  (9, 60, 10, 9, 2, false, 2090),
  (9, 67, 10, 10, 2, true, 2091),
  (9, 74, 10, 11, 2, true, 2092),
  (9, 78, 10, 12, 2, true, 2093),
  (9, 81, 10, 13, 0, false, 2094),
  (9, 87, 10, 14, 2, true, 2095),
  (9, 91, 10, 15, 2, true, 2096),
  (9, 95, 10, 16, 0, false, 2097),
  (10, 9, 11, 0, 0, false, 5138),
  (10, 13, 11, 1, 0, false, 5139),
  (10, 16, 11, 2, 0, false, 5140),
  (10, 19, 11, 3, 2, true, 5141),
  (10, 23, 11, 4, 2, true, 5142),
  (10, 148, 11, 5, 0, false, 5143),
  (10, 26, 11, 6, 2, true, 5144),
  (10, 29, 11, 7, 2, true, 5145),
  (10, 32, 11, 8, 2, true, 5146),
  (10, 35, 11, 9, 2, true, 5147),
  (10, 38, 11, 10, 0, false, 5148),
  (10, 41, 11, 11, 2, true, 5149),
  (10, 191, 11, 12, 0, false, 5150),
  (10, 45, 11, 13, 2, true, 5151),
  (10, 145, 11, 14, 0, false, 5152),
  (10, 142, 11, 15, 0, false, 5153),
  (10, 155, 11, 16, 0, false, 5154),
  (10, 194, 11, 17, 2, false, 5155),
  (10, 197, 11, 18, 0, false, 5156),
  (10, 200, 11, 19, 0, false, 5157),
  (10, 203, 11, 20, 0, false, 5158),
  (10, 206, 11, 21, 0, false, 5159),
  (10, 49, 11, 22, 2, true, 5160),
  (10, 52, 11, 23, 2, true, 5161),
  (10, 55, 11, 24, 2, true, 5162),
  (10, 58, 11, 25, 2, true, 5163),
  (10, 61, 11, 26, 2, true, 5164),
  (10, 64, 11, 27, 2, true, 5165),
  (10, 67, 11, 28, 2, true, 5166),
  (10, 70, 11, 29, 2, true, 5167),
  (10, 73, 11, 30, 2, true, 5168),
  (10, 76, 11, 31, 2, true, 5169),
  (10, 224, 11, 32, 0, false, 5170),
  (10, 227, 11, 33, 0, false, 5171),
  (10, 81, 11, 34, 2, true, 5172),
  (10, 84, 11, 35, 2, true, 5173),
  (10, 265, 11, 36, 0, false, 5174),
  (10, 268, 11, 37, 0, false, 5175),
  (10, 271, 11, 38, 0, false, 5176),
  (10, 274, 11, 39, 0, false, 5177),
  (10, 291, 11, 40, 0, false, 5178),
  (10, 294, 11, 41, 0, false, 5179),
  (10, 297, 11, 42, 0, false, 5180),
  (10, 87, 11, 43, 2, true, 5181),
  (10, 300, 11, 44, 0, false, 5182),
  (10, 90, 11, 45, 2, true, 5183),
  (10, 317, 11, 46, 0, false, 5184),
  (10, 93, 11, 47, 2, true, 5185),
  (10, 96, 11, 48, 2, true, 5186),
  (10, 99, 11, 49, 2, true, 5187),
  (10, 102, 11, 50, 2, true, 5188),
  (10, 105, 11, 51, 2, true, 5189),
  (10, 354, 11, 52, 0, false, 5190),
  (10, 357, 11, 53, 0, false, 5191),
  (10, 108, 11, 54, 2, true, 5192),
  (10, 111, 11, 55, 2, true, 5193),
  (10, 114, 11, 56, 2, true, 5194),
  (10, 378, 11, 57, 0, false, 5195),
  (10, 117, 11, 58, 2, true, 5196),
  (10, 384, 11, 59, 0, false, 5197),
  (10, 120, 11, 60, 2, true, 5198),
  (10, 123, 11, 61, 2, true, 5199),
  (10, 126, 11, 62, 2, true, 5200),
  (10, 129, 11, 63, 2, true, 5201),
  (10, 132, 11, 64, 2, true, 5202),
  (10, 136, 11, 65, 2, true, 5203)]
/-- own class, pool entry, sort of call, arguments with the receiver, the method, its words' places -/
def mpos : List Nat := [1003, 1002, 1002, 1002, 1002, 1011, 1011, 1001, 1008, 1008, 1001, 1008, 1011, 1011, 1008, 1006, 1006, 1006, 1006, 1008, 1006, 1006, 1006, 1006, 1006, 1006, 1008, 1008, 1008, 1008, 1008, 1005, 1004, 1010, 1005, 1004, 1010, 1005, 1004, 1004, 1005, 1013, 1004, 1004, 1005, 1005, 1005, 1005, 1004, 1004, 1010, 1010, 1010, 1005, 1005, 1005, 1005, 1005, 1004, 1006, 1006, 1006, 1009, 1009, 1009, 1009, 1009, 1009, 1009, 1009, 1009, 1009, 1009, 1009, 1009, 1007, 1007, 1007, 1007, 1007, 1007, 1007, 1007, 1007, 1007, 1007, 1007, 1001, 1001, 1001, 1001, 1001, 1001, 1001, 1001, 1001, 1001, 1001, 1001, 1001, 1001, 1001, 1001, 1001, 1001, 1001, 1001, 1001, 1001, 1001, 1001, 1001, 1001, 1001, 1001, 1001, 1001, 1001, 1001, 1001, 1001, 1001, 1001, 1001, 1001, 1001, 1001, 1001, 1001, 1001, 1001, 1001, 1001, 1001, 1001, 1001, 1001, 1001, 1001, 1001, 1001, 1001, 1001, 1001, 1001, 1001, 1001, 1001, 1001, 1001, 1001, 1001, 1001, 1001, 1001, 1001, 1001, 1001, 1001, 1012, 1012, 1012, 1012, 1012, 1012, 1012, 1012, 1012, 1012, 1012, 1012, 1012, 1012, 1012, 1012, 1012, 1012, 1012, 1012, 1012, 1012, 1012, 1012, 1012, 1012, 1012, 1012, 1012, 1012, 1012, 1012, 1012, 1012, 1012, 1012, 1012, 1012, 1012, 1012, 1012, 1012, 1012, 1012, 1012, 1012, 1012, 1012, 1012, 1012, 1012, 1012, 1012, 1012, 1012, 1012, 1012, 1012, 1012, 1012, 1012, 1012, 1012, 1012, 1012, 1012, 1012, 1012, 1012, 1012, 1012, 1012, 1012, 1012, 1012, 1012, 1012, 1012, 1012, 1012, 1012, 1012, 1012, 1012, 1012, 1012, 1012, 1012, 1012, 1012, 1012, 1012, 1012, 1012, 1012, 1012, 1012, 1013, 1013, 1013, 1013, 1000, 1000, 1000, 1000]
def calt_0 : List (Nat × Nat × Nat × Nat × Nat × List Nat) := [
  (11, 26, 2, 1, 87, [1021, 1022]),
  (9, 1, 6, 1, 0, [1024, 1025]),
  (9, 9, 2, 1, 1, [1029, 1030]),
  (0, 3, 6, 1, 0, [1032, 1025]),
  (0, 28, 1, 2, 0, [1033, 1034]),
  (9, 18, 5, 1, 32, [1068, 1069]),
  (5, 3, 6, 1, 0, [1071, 1025]),
  (5, 20, 5, 1, 31, [1074, 1075]),
  (4, 3, 6, 1, 0, [1077, 1025]),
  (9, 33, 5, 1, 59, [1118, 1119]),
  (6, 3, 6, 1, 0, [1121, 1025]),
  (9, 48, 5, 1, 75, [1143, 1144]),
  (8, 3, 6, 1, 0, [1146, 1025]),
  (9, 59, 5, 1, 14, [1181, 1182]),
  (2, 3, 6, 1, 0, [1184, 1025]),
  (9, 66, 5, 1, 62, [1198, 1199]),
  (7, 3, 6, 1, 0, [1201, 1025]),
  (7, 11, 2, 1, 1, [1203, 1030]),
  (7, 24, 5, 1, 32, [1205, 1069]),
  (9, 73, 2, 1, 33, [2012, 2013]),
  (3, 3, 6, 1, 0, [2015, 1025]),
  (3, 11, 2, 1, 1, [2017, 1030]),
  (3, 45, 5, 1, 32, [2019, 1069]),
  (9, 86, 5, 1, 5, [2051, 2052]),
  (1, 3, 6, 1, 0, [2054, 1025]),
  (9, 98, 0, 2, 35, [2072, 2073, 2074]),
  (5, 32, 0, 2, 34, [2076, 2077, 2078]),
  (4, 27, 1, 2, 0, [2080, 1034]),
  (11, 30, 0, 4, 88, [2134, 2135, 2136]),
  (9, 102, 1, 3, 7, [2138, 2139]),
  (9, 115, 0, 1, 3, [2141, 2142, 2143]),
  (11, 35, 0, 3, 89, [2145, 2146, 2147]),
  (11, 39, 0, 3, 91, [2153, 2154, 2155]),
  (9, 127, 0, 2, 90, [2157, 2159, 0]),
  (11, 43, 0, 5, 93, [2161, 2162, 2163]),
  (9, 134, 1, 2, 92, [2165, 2166]),
  (9, 138, 1, 3, 10, [2168, 2169]),
  (11, 48, 0, 1, 94, [2171, 2172, 2173]),
  (11, 53, 0, 3, 96, [2175, 2176, 2177]),
  (9, 145, 1, 1, 95, [2179, 2180])]
def calt_1 : List (Nat × Nat × Nat × Nat × Nat × List Nat) := [
  (9, 148, 0, 2, 58, [2182, 2183, 2184]),
  (9, 152, 0, 3, 53, [2186, 2187, 2188]),
  (4, 41, 1, 2, 258, [2190, 2191]),
  (4, 50, 4, 3, 10, [2193, 2169]),
  (11, 58, 0, 3, 98, [2194, 2195, 2196]),
  (9, 158, 1, 1, 97, [2198, 2199]),
  (9, 161, 0, 4, 48, [2201, 2202, 2203]),
  (5, 46, 1, 2, 41, [2205, 2206]),
  (5, 52, 0, 2, 40, [2208, 2209, 2210]),
  (5, 56, 0, 3, 47, [2212, 2213, 2214]),
  (4, 54, 0, 3, 44, [2216, 2218, 1]),
  (4, 69, 1, 2, 259, [2220, 2221]),
  (4, 58, 0, 2, 45, [2223, 2225, 2]),
  (4, 62, 0, 3, 46, [2227, 2229, 3]),
  (11, 75, 0, 2, 101, [2231, 2232, 2233]),
  (9, 187, 0, 2, 60, [2235, 2236, 2237]),
  (11, 80, 0, 2, 102, [2239, 3000, 3001]),
  (11, 85, 0, 2, 104, [3003, 3004, 3005]),
  (9, 193, 1, 1, 103, [3007, 3008]),
  (9, 196, 0, 2, 84, [3010, 3011, 3012]),
  (8, 34, 0, 1, 76, [3014, 3015, 3016]),
  (8, 37, 0, 2, 15, [3018, 3019, 3020]),
  (6, 28, 1, 2, 259, [3022, 2221]),
  (8, 43, 0, 2, 83, [3023, 3025, 4]),
  (8, 51, 0, 2, 18, [3027, 3028, 3029]),
  (6, 38, 0, 1, 17, [3031, 3032, 3033]),
  (8, 55, 0, 2, 80, [3035, 3037, 5]),
  (8, 64, 0, 3, 24, [3039, 3040, 3041]),
  (6, 53, 0, 1, 20, [3043, 3044, 3045]),
  (6, 49, 4, 3, 7, [3047, 2139]),
  (6, 46, 0, 1, 22, [3048, 3049, 3050]),
  (6, 34, 0, 2, 21, [3052, 3053, 3054]),
  (6, 57, 0, 1, 23, [3056, 3057, 3058]),
  (8, 71, 0, 2, 25, [3060, 3061, 3062]),
  (6, 42, 0, 2, 18, [3064, 3028, 3029]),
  (8, 75, 0, 3, 77, [3065, 3067, 6]),
  (8, 47, 0, 1, 16, [3069, 3070, 3071]),
  (8, 87, 0, 1, 23, [3073, 3057, 3058]),
  (8, 79, 0, 5, 79, [3074, 3075, 3076]),
  (8, 83, 0, 4, 78, [3078, 3079, 3080])]
def calt_2 : List (Nat × Nat × Nat × Nat × Nat × List Nat) := [
  (8, 58, 0, 2, 81, [3082, 3084, 7]),
  (8, 61, 0, 2, 82, [3086, 3088, 8]),
  (8, 68, 0, 1, 22, [3090, 3049, 3050]),
  (9, 200, 0, 1, 61, [3091, 3092, 3093]),
  (11, 89, 0, 2, 105, [3095, 3096, 3097]),
  (9, 207, 0, 2, 30, [3099, 3100, 3101]),
  (2, 22, 0, 2, 15, [3103, 3019, 3020]),
  (2, 28, 0, 3, 28, [3104, 3106, 9]),
  (2, 32, 0, 3, 27, [3108, 3110, 10]),
  (2, 47, 0, 3, 29, [3112, 3114, 11]),
  (2, 39, 0, 2, 18, [3116, 3028, 3029]),
  (2, 50, 0, 1, 20, [3117, 3044, 3045]),
  (2, 53, 0, 3, 24, [3118, 3040, 3041]),
  (2, 43, 0, 2, 19, [3119, 3121, 12]),
  (2, 57, 0, 2, 25, [3123, 3061, 3062]),
  (2, 61, 0, 2, 26, [3124, 3126, 13]),
  (2, 65, 0, 1, 22, [3128, 3049, 3050]),
  (2, 35, 0, 1, 16, [3129, 3070, 3071]),
  (11, 96, 0, 2, 112, [3130, 3131, 3132]),
  (9, 219, 0, 2, 86, [3134, 3135, 3136]),
  (8, 94, 1, 1, 256, [3138, 3139]),
  (9, 226, 0, 4, 111, [3141, 3143, 14]),
  (9, 250, 0, 3, 110, [3145, 3147, 15]),
  (9, 272, 0, 2, 109, [3149, 3151, 16]),
  (9, 297, 0, 2, 108, [3153, 3155, 17]),
  (11, 100, 0, 4, 113, [3157, 3158, 3159]),
  (9, 208, 0, 2, 106, [3161, 3163, 18]),
  (9, 233, 1, 2, 259, [3165, 2221]),
  (9, 238, 0, 6, 49, [3166, 3167, 3168]),
  (5, 67, 0, 2, 39, [3170, 3172, 19]),
  (5, 70, 0, 4, 43, [3175, 3176, 3177]),
  (5, 80, 0, 2, 42, [3179, 3181, 20]),
  (5, 91, 0, 6, 11, [3183, 3184, 3185]),
  (2, 68, 4, 3, 7, [3187, 2139]),
  (2, 72, 1, 3, 8, [3188, 3189]),
  (2, 76, 1, 6, 9, [3191, 3192]),
  (2, 80, 4, 3, 10, [3194, 2169]),
  (5, 76, 0, 4, 48, [3195, 2202, 2203]),
  (11, 104, 0, 2, 115, [3196, 3197, 3198]),
  (9, 242, 0, 1, 114, [3200, 3202, 21])]
def calt_3 : List (Nat × Nat × Nat × Nat × Nat × List Nat) := [
  (9, 422, 0, 2, 2, [3204, 3205, 3206]),
  (0, 33, 7, 5, 0, [3208]),
  (9, 246, 0, 3, 71, [3211, 3212, 3213]),
  (7, 59, 0, 2, 35, [3215, 2073, 2074]),
  (7, 122, 0, 3, 53, [3216, 2187, 2188]),
  (7, 115, 0, 2, 40, [3217, 2209, 2210]),
  (7, 79, 0, 4, 48, [3218, 2202, 2203]),
  (11, 108, 0, 3, 116, [3219, 3220, 3221]),
  (9, 253, 1, 1, 256, [3223, 3139]),
  (11, 112, 0, 2, 117, [3224, 3225, 3226]),
  (9, 257, 0, 1, 76, [3228, 3015, 3016]),
  (9, 260, 0, 5, 79, [3229, 3075, 3076]),
  (9, 265, 0, 3, 66, [3230, 3231, 3232]),
  (7, 66, 0, 2, 63, [3234, 3236, 22]),
  (7, 75, 0, 5, 65, [3238, 4000, 23]),
  (7, 86, 1, 2, 259, [4002, 2221]),
  (7, 92, 1, 2, 258, [4003, 2191]),
  (7, 95, 0, 6, 49, [4004, 3167, 3168]),
  (7, 83, 0, 2, 64, [4005, 4007, 24]),
  (7, 106, 0, 2, 54, [4009, 4010, 4011]),
  (7, 118, 1, 1, 256, [4013, 3139]),
  (11, 116, 0, 3, 118, [4014, 4015, 4016]),
  (9, 278, 0, 2, 85, [4018, 4019, 4020]),
  (8, 90, 4, 3, 7, [4022, 2139]),
  (11, 120, 0, 3, 121, [4023, 4024, 4025]),
  (9, 283, 0, 1, 72, [4027, 4028, 4029]),
  (7, 126, 1, 2, 0, [4031, 1034]),
  (9, 286, 0, 2, 73, [4032, 4033, 4034]),
  (7, 132, 4, 3, 7, [4036, 2139]),
  (9, 290, 0, 3, 120, [4037, 4039, 25]),
  (9, 424, 1, 2, 119, [4041, 4042]),
  (9, 294, 0, 1, 74, [4044, 4045, 4046]),
  (11, 124, 0, 2, 122, [4048, 4049, 4050]),
  (9, 300, 0, 2, 67, [4052, 4053, 4054]),
  (11, 128, 0, 3, 123, [4056, 4057, 4058]),
  (11, 132, 0, 2, 125, [4060, 4061, 4062]),
  (9, 304, 0, 4, 36, [4064, 4065, 4066]),
  (3, 46, 0, 2, 2, [4068, 3205, 3206]),
  (3, 53, 0, 2, 35, [4070, 2073, 2074]),
  (9, 308, 1, 6, 124, [4071, 4072])]
def calt_4 : List (Nat × Nat × Nat × Nat × Nat × List Nat) := [
  (9, 327, 0, 3, 50, [4074, 4075, 4076]),
  (3, 59, 4, 3, 7, [4078, 2139]),
  (3, 63, 0, 2, 38, [4079, 4080, 4081]),
  (5, 36, 0, 2, 37, [4083, 4084, 4085]),
  (4, 32, 7, 5, 0, [4087]),
  (5, 40, 7, 5, 0, [4088]),
  (3, 71, 0, 6, 49, [4089, 3167, 3168]),
  (9, 331, 0, 3, 51, [4090, 4091, 4092]),
  (9, 337, 0, 3, 52, [4094, 4095, 4096]),
  (3, 75, 7, 5, 0, [4098]),
  (11, 136, 0, 3, 126, [4099, 4100, 4101]),
  (11, 140, 0, 2, 127, [4104, 4105, 4106]),
  (11, 144, 0, 4, 129, [4108, 4109, 4110]),
  (9, 340, 0, 4, 128, [4112, 4114, 26]),
  (9, 350, 1, 2, 258, [4116, 2191]),
  (11, 148, 0, 3, 132, [4117, 4118, 4119]),
  (9, 343, 0, 2, 130, [4121, 4123, 27]),
  (9, 346, 0, 4, 131, [4125, 4127, 28]),
  (11, 152, 0, 3, 133, [4129, 4130, 4131]),
  (11, 156, 0, 3, 134, [4133, 4134, 4135]),
  (11, 160, 0, 2, 135, [4137, 4138, 4139]),
  (11, 164, 0, 3, 136, [4141, 4142, 4143]),
  (9, 353, 0, 3, 69, [4145, 4146, 4147]),
  (11, 168, 0, 2, 137, [4149, 4150, 4151]),
  (11, 172, 0, 2, 138, [4153, 4154, 4155]),
  (9, 356, 0, 3, 68, [4157, 4158, 4159]),
  (11, 176, 0, 2, 140, [4161, 4162, 4163]),
  (9, 359, 0, 3, 139, [4165, 4167, 29]),
  (9, 372, 0, 4, 78, [4169, 3079, 3080]),
  (11, 180, 0, 3, 141, [4170, 4171, 4172]),
  (9, 362, 0, 4, 70, [4174, 4175, 4176]),
  (11, 184, 0, 2, 142, [4178, 4179, 4180]),
  (9, 366, 0, 2, 57, [4182, 4183, 4184]),
  (11, 188, 0, 2, 143, [4187, 4188, 4189]),
  (11, 192, 0, 1, 144, [4191, 4192, 4193]),
  (11, 196, 0, 3, 148, [4195, 4196, 4197]),
  (9, 376, 0, 2, 145, [4199, 4201, 30]),
  (9, 379, 0, 2, 147, [4203, 4205, 31]),
  (9, 389, 1, 3, 146, [4207, 4208]),
  (11, 200, 0, 1, 149, [4210, 4211, 4212])]
def calt_5 : List (Nat × Nat × Nat × Nat × Nat × List Nat) := [
  (11, 204, 0, 5, 150, [4214, 4215, 4216]),
  (9, 393, 0, 5, 6, [4218, 4219, 4220]),
  (11, 208, 0, 3, 151, [4222, 4223, 4224]),
  (9, 399, 0, 4, 12, [4226, 4227, 4228]),
  (1, 36, 0, 6, 11, [4230, 3184, 3185]),
  (1, 42, 1, 1, 256, [4231, 3139]),
  (11, 212, 0, 1, 152, [4232, 4233, 4234]),
  (9, 403, 0, 3, 13, [4236, 4237, 4238]),
  (1, 48, 4, 3, 10, [5000, 2169]),
  (11, 216, 0, 2, 153, [5001, 5002, 5003]),
  (11, 220, 0, 2, 154, [5005, 5006, 5007]),
  (9, 409, 0, 2, 38, [5009, 4080, 4081]),
  (11, 224, 0, 2, 155, [5010, 5011, 5012]),
  (11, 228, 0, 2, 157, [5014, 5015, 5016]),
  (9, 413, 0, 1, 156, [5018, 5020, 32]),
  (9, 416, 0, 1, 4, [5022, 5023, 5024]),
  (11, 62, 8, 5, 260, [5026, 5027]),
  (11, 7, 0, 4, 99, [5030, 5031, 5032]),
  (11, 71, 8, 4, 261, [5095, 5096]),
  (11, 15, 0, 3, 100, [5098, 5099, 5100]),
  (9, 174, 0, 2, 40, [5102, 2209, 2210]),
  (9, 181, 0, 2, 55, [5103, 5104, 5105]),
  (9, 184, 0, 2, 56, [5107, 5108, 5109]),
  (11, 93, 8, 4, 262, [5111, 5112]),
  (11, 19, 0, 3, 107, [5114, 5115, 5116]),
  (9, 212, 0, 4, 43, [5118, 3176, 3177]),
  (11, 232, 8, 3, 263, [5119, 5120]),
  (11, 22, 0, 2, 158, [5122, 5123, 5124]),
  (11, 29, 2, 1, 160, [5128, 5129]),
  (10, 3, 6, 1, 0, [5131, 1025]),
  (10, 139, 0, 1, 159, [5134, 5136, 34]),
  (11, 68, 0, 1, 161, [6099, 6100, 6101]),
  (11, 34, 0, 4, 165, [6103, 6104, 6105]),
  (10, 151, 1, 3, 162, [6107, 6108]),
  (11, 38, 0, 3, 166, [6110, 6111, 6112]),
  (11, 42, 0, 3, 168, [6114, 6115, 6116]),
  (10, 158, 0, 2, 167, [6118, 6120, 35]),
  (11, 47, 0, 5, 169, [6122, 6123, 6124]),
  (10, 162, 1, 2, 259, [6126, 2221]),
  (10, 168, 1, 2, 258, [6127, 2191])]
def calt_6 : List (Nat × Nat × Nat × Nat × Nat × List Nat) := [
  (11, 52, 0, 1, 170, [6128, 6129, 6130]),
  (11, 57, 0, 3, 172, [6132, 6133, 6134]),
  (10, 171, 0, 3, 171, [6136, 6138, 36]),
  (11, 61, 0, 3, 177, [6140, 6141, 6142]),
  (10, 185, 0, 3, 176, [6144, 6146, 37]),
  (10, 175, 0, 1, 173, [6148, 6150, 38]),
  (10, 179, 0, 3, 174, [6152, 6154, 39]),
  (10, 182, 0, 3, 175, [6156, 6158, 40]),
  (11, 67, 0, 4, 178, [6160, 6161, 6162]),
  (10, 188, 0, 1, 163, [6164, 6166, 41]),
  (11, 74, 0, 3, 179, [6168, 6169, 6170]),
  (11, 79, 0, 2, 180, [6172, 6173, 6174]),
  (11, 84, 0, 2, 181, [6176, 6177, 6178]),
  (11, 88, 0, 2, 190, [6180, 6181, 6182]),
  (10, 230, 0, 4, 182, [6184, 6186, 42]),
  (10, 213, 0, 1, 183, [6188, 6190, 43]),
  (10, 234, 0, 3, 188, [6192, 6194, 44]),
  (10, 209, 0, 1, 184, [6196, 6198, 45]),
  (10, 220, 0, 2, 185, [6200, 6202, 46]),
  (10, 237, 0, 2, 187, [6204, 6206, 47]),
  (10, 216, 0, 2, 186, [6208, 6210, 48]),
  (10, 241, 0, 4, 189, [6212, 6214, 49]),
  (11, 99, 0, 2, 192, [6216, 6217, 6218]),
  (10, 245, 1, 1, 191, [6220, 6221]),
  (10, 248, 1, 1, 256, [6223, 3139]),
  (10, 252, 0, 2, 164, [6224, 6226, 50]),
  (11, 92, 0, 2, 196, [6228, 6229, 6230]),
  (10, 262, 0, 2, 194, [6232, 6234, 51]),
  (10, 256, 0, 2, 193, [6236, 6238, 52]),
  (10, 259, 0, 2, 195, [7000, 7002, 53]),
  (11, 95, 0, 3, 201, [7004, 7005, 7006]),
  (10, 280, 0, 2, 197, [7008, 7010, 54]),
  (10, 287, 0, 3, 200, [7012, 7014, 55]),
  (10, 283, 0, 6, 199, [7016, 7018, 56]),
  (10, 277, 1, 1, 198, [7020, 7021]),
  (11, 103, 0, 4, 206, [7023, 7024, 7025]),
  (10, 310, 0, 1, 203, [7027, 7029, 57]),
  (10, 313, 0, 5, 205, [7031, 7033, 58]),
  (10, 303, 0, 2, 202, [7035, 7037, 59]),
  (10, 306, 0, 4, 204, [7040, 7042, 60])]
def calt_7 : List (Nat × Nat × Nat × Nat × Nat × List Nat) := [
  (11, 107, 0, 2, 214, [7044, 7045, 7046]),
  (10, 332, 1, 1, 213, [7048, 7049]),
  (10, 335, 0, 3, 212, [7051, 7053, 61]),
  (10, 326, 0, 2, 209, [7055, 7057, 62]),
  (10, 320, 0, 2, 207, [7059, 7061, 63]),
  (10, 329, 0, 2, 210, [7063, 7065, 64]),
  (10, 323, 0, 1, 208, [7067, 7069, 65]),
  (11, 111, 0, 3, 215, [7071, 7072, 7073]),
  (11, 115, 0, 2, 216, [7075, 7076, 7077]),
  (11, 119, 0, 3, 217, [7079, 7080, 7081]),
  (10, 338, 0, 3, 211, [7083, 7085, 66]),
  (11, 123, 0, 3, 220, [7087, 7088, 7089]),
  (10, 348, 0, 3, 219, [7091, 7093, 67]),
  (10, 344, 1, 2, 218, [7095, 7096]),
  (10, 341, 1, 1, 257, [7098, 7099]),
  (11, 127, 0, 2, 221, [7102, 7103, 7104]),
  (11, 131, 0, 3, 222, [7106, 7107, 7108]),
  (11, 135, 0, 2, 226, [7110, 7111, 7112]),
  (10, 363, 0, 4, 225, [7114, 7116, 68]),
  (10, 360, 0, 2, 223, [7118, 7120, 69]),
  (10, 366, 0, 2, 224, [7122, 7124, 70]),
  (11, 139, 0, 3, 227, [7126, 7127, 7128]),
  (11, 143, 0, 2, 229, [7130, 7131, 7132]),
  (10, 369, 0, 5, 228, [7134, 7136, 71]),
  (11, 147, 0, 4, 231, [7138, 7139, 7140]),
  (10, 372, 0, 4, 230, [7142, 7144, 72]),
  (11, 151, 0, 3, 232, [7146, 7147, 7148]),
  (11, 155, 0, 3, 233, [7150, 7151, 7152]),
  (11, 159, 0, 3, 234, [7154, 7155, 7156]),
  (11, 163, 0, 2, 235, [7158, 7159, 7160]),
  (11, 167, 0, 3, 237, [7162, 7163, 7164]),
  (10, 375, 0, 5, 236, [7166, 7168, 73]),
  (11, 171, 0, 2, 238, [7170, 7171, 7172]),
  (11, 175, 0, 2, 239, [7174, 7175, 7176]),
  (11, 179, 0, 2, 240, [7178, 7179, 7180]),
  (11, 183, 0, 3, 241, [7182, 7183, 7184]),
  (11, 187, 0, 2, 242, [7186, 7187, 7188]),
  (11, 191, 0, 2, 243, [7190, 7191, 7192]),
  (11, 195, 0, 1, 244, [7194, 7195, 7196]),
  (11, 199, 0, 3, 246, [7198, 7199, 7200])]
def calt_8 : List (Nat × Nat × Nat × Nat × Nat × List Nat) := [
  (10, 381, 0, 3, 245, [7202, 7204, 74]),
  (11, 203, 0, 1, 247, [7206, 7207, 7208]),
  (11, 207, 0, 5, 248, [7210, 7211, 7212]),
  (11, 211, 0, 3, 249, [7214, 7215, 7216]),
  (11, 215, 0, 1, 250, [7218, 7219, 7220]),
  (11, 219, 0, 2, 251, [7222, 7223, 7224]),
  (11, 223, 0, 2, 252, [7226, 7227, 7228]),
  (11, 227, 0, 2, 253, [7230, 7231, 7232]),
  (11, 231, 0, 2, 254, [7234, 7235, 7236]),
  (11, 235, 0, 2, 255, [7238, 7239, 8000])]
def calt : List (Nat × Nat × Nat × Nat × Nat × List Nat) := calt_0 ++ calt_1 ++ calt_2 ++ calt_3 ++ calt_4 ++ calt_5 ++ calt_6 ++ calt_7 ++ calt_8
/-- own class, pool entry, kind of the class that it names, places of its words (link, instantiable, initialized) -/
def nwt : List (Nat × Nat × Nat × List Nat) := [
  (11, 8, 10, [1019, 1020, 1001]),
  (9, 7, 1, [1027, 1028, 1002]),
  (9, 16, 6, [1066, 1067, 1004]),
  (5, 18, 5, [1072, 1073, 1005]),
  (9, 31, 7, [1116, 1117, 1006]),
  (9, 38, 9, [1140, 1142, 1007]),
  (9, 53, 3, [1178, 1180, 1008]),
  (9, 64, 8, [1196, 1197, 1009]),
  (7, 9, 1, [1202, 1028, 1002]),
  (7, 22, 6, [1204, 1067, 1004]),
  (9, 71, 4, [2010, 2011, 1010]),
  (3, 9, 1, [2016, 1028, 1002]),
  (3, 22, 6, [2018, 1067, 1004]),
  (9, 84, 2, [2049, 2050, 1011]),
  (11, 27, 11, [5126, 5127, 1012])]

def fld (o i : Nat) : Option (Nat × Nat × Nat × Bool) := (fdt.find? (fun e => e.1 == o && e.2.1 == i)).map (fun e => (e.2.2.1, e.2.2.2.1, e.2.2.2.2.1, e.2.2.2.2.2.1))
def cal (o i : Nat) : Option (Nat × Nat × MI) := (calt.find? (fun e => e.1 == o && e.2.1 == i)).map (fun e => (e.2.2.1, e.2.2.2.1, mtb.getD e.2.2.2.2.1 mX0_init))
def nwc (o i : Nat) : Option Nat := (nwt.find? (fun e => e.1 == o && e.2.1 == i)).map (fun e => e.2.2.1)
def tabs (k : Nat) : List Cond := match k with
  | 0 => k2_sels lw_privs
  | 1 => tables_1_1
  | 2 => tables_1_2
  | 3 => tables_1_3
  | 4 => tables_1_4
  | 5 => tables_1_5
  | 6 => tables_1_6
  | 7 => tables_1_7
  | 8 => tables_1_8
  | _ => []
theorem tabs_in {k : Nat} {w : Cond} (h : w ∈ tabs k) : w ∈ lw_tbl := by
  unfold tabs at h
  split at h
  · exact List.mem_append_left _ h
  · exact List.mem_append_right _ (List.mem_append_left _ h)
  · exact List.mem_append_right _ (List.mem_append_right _ (List.mem_append_left _ h))
  · exact List.mem_append_right _ (List.mem_append_right _ (List.mem_append_right _ (List.mem_append_left _ h)))
  · exact List.mem_append_right _ (List.mem_append_right _ (List.mem_append_right _ (List.mem_append_right _ (List.mem_append_left _ h))))
  · exact List.mem_append_right _ (List.mem_append_right _ (List.mem_append_right _ (List.mem_append_right _ (List.mem_append_right _ (List.mem_append_left _ h)))))
  · exact List.mem_append_right _ (List.mem_append_right _ (List.mem_append_right _ (List.mem_append_right _ (List.mem_append_right _ (List.mem_append_right _ (List.mem_append_left _ h))))))
  · exact List.mem_append_right _ (List.mem_append_right _ (List.mem_append_right _ (List.mem_append_right _ (List.mem_append_right _ (List.mem_append_right _ (List.mem_append_right _ (List.mem_append_left _ h)))))))
  · exact List.mem_append_right _ (List.mem_append_right _ (List.mem_append_right _ (List.mem_append_right _ (List.mem_append_right _ (List.mem_append_right _ (List.mem_append_right _ (List.mem_append_right _ (h))))))))
  · cases h
def okw (p : Nat) (w : Cond) : Bool := decide ((tabs (p / 1000))[p % 1000]? = some w) && goodWord w
def onw (p : Nat) (w : Cond) : Bool := decide ((tabs (p / 1000))[p % 1000]? = some w)
def bigW : List Cond := lw_tbl.filter goodWord
theorem okw_in {p : Nat} {w : Cond} (h : okw p w = true) : w ∈ bigW := by
  unfold okw at h
  simp only [Bool.and_eq_true, decide_eq_true_eq] at h
  exact List.mem_filter.mpr ⟨tabs_in (List.mem_of_getElem? h.1), h.2⟩
def nestW : Cond → Bool
  | .methodLinkNest _ _ _ _ => true
  | _ => false
def nstW : List Cond := lw_tbl.filter nestW
theorem onw_in {p : Nat} {o : String} {i : Nat} {y : MethodName} {h : String} (e : onw p (.methodLinkNest o i y h) = true) : Cond.methodLinkNest o i y h ∈ nstW := by
  unfold onw at e
  exact List.mem_filter.mpr ⟨tabs_in (List.mem_of_getElem? (of_decide_eq_true e)), rfl⟩
def tyok (tc : Nat) (t : FieldType) : Bool := match tc, t with
  | 0, .int => true
  | 1, .boolean => true
  | 2, .object _ => true
  | 2, .array _ => true
  | _, _ => false
def fchk (e : Nat × Nat × Nat × Nat × Nat × Bool × Nat) : Bool := match e with
  | (o, i, kd, j, tc, fin, p) => decide (1 ≤ kd) && (decide (kd ≤ 11) && (decide (j < clN kd) && (decide ((clT kd j).1 = clC kd) && (decide ((clT kd j).2.2.2 = fin) && (decide (tcd (clT kd j).2.2.1 = tc) && (tyok tc (clY kd j) && okw p (.fieldLink (onm o) i (clC kd) (clT kd j).2.1 (clT kd j).2.2.1)))))))
theorem fdt_ok : fdt.all fchk = true := by decide +kernel
def mwd (M : MI) : Cond := if (mhh M).isEmpty then .code (mnm M) (mcd M) (mml M) (mrt M) else .codeWith (mnm M) (mcd M) (mml M) (mrt M) (mhh M)
theorem mwd_good (M : MI) : goodWord (mwd M) = true := by
  unfold mwd
  split <;> rfl
def okm (M : MI) (q : Nat) : Bool := decide ((mnm M).cls = onm (mow M)) && (plainFor (mnm M) && (decide ((mnm M).cls ≠ "java/lang/invoke/MethodHandle") && (decide ((mnm M).cls ≠ "java/lang/invoke/VarHandle") && (decide (mml M ≤ 41) && okw q (.initialized (mnm M).cls)))))
def mchk : List MI → List Nat → Bool
  | [], [] => true
  | M :: l, q :: k => okm M q && mchk l k
  | _, _ => false
set_option maxRecDepth 20000 in
theorem wc_J7_fill_53178 : mwd mJ7_fill_53178 ∈ lw_tbl := tabs_in (k := 1) (List.mem_of_getElem? (i := 35) rfl)
set_option maxRecDepth 20000 in
theorem wc_X0_init : mwd mX0_init ∈ lw_tbl := tabs_in (k := 1) (List.mem_of_getElem? (i := 31) rfl)
set_option maxRecDepth 20000 in
theorem wc_X0_copy : mwd mX0_copy ∈ lw_tbl := tabs_in (k := 3) (List.mem_of_getElem? (i := 207) rfl)
set_option maxRecDepth 20000 in
theorem wc_X0_openAll : mwd mX0_openAll ∈ lw_tbl := tabs_in (k := 2) (List.mem_of_getElem? (i := 144) rfl)
set_option maxRecDepth 20000 in
theorem wc_X0_wallCount : mwd mX0_wallCount ∈ lw_tbl := tabs_in (k := 5) (List.mem_of_getElem? (i := 25) rfl)
set_option maxRecDepth 20000 in
theorem wc_X1_init : mwd mX1_init ∈ lw_tbl := tabs_in (k := 2) (List.mem_of_getElem? (i := 53) rfl)
set_option maxRecDepth 20000 in
theorem wc_X1_add : mwd mX1_add ∈ lw_tbl := tabs_in (k := 4) (List.mem_of_getElem? (i := 221) rfl)
set_option maxRecDepth 20000 in
theorem wc_X9_isIn : mwd mX9_isIn ∈ lw_tbl := tabs_in (k := 2) (List.mem_of_getElem? (i := 140) rfl)
set_option maxRecDepth 20000 in
theorem wc_X2_joined : mwd mX2_joined ∈ lw_tbl := tabs_in (k := 3) (List.mem_of_getElem? (i := 190) rfl)
set_option maxRecDepth 20000 in
theorem wc_X2_named : mwd mX2_named ∈ lw_tbl := tabs_in (k := 3) (List.mem_of_getElem? (i := 193) rfl)
set_option maxRecDepth 20000 in
theorem wc_X9_between : mwd mX9_between ∈ lw_tbl := tabs_in (k := 2) (List.mem_of_getElem? (i := 170) rfl)
set_option maxRecDepth 20000 in
theorem wc_X2_bounded : mwd mX2_bounded ∈ lw_tbl := tabs_in (k := 3) (List.mem_of_getElem? (i := 186) rfl)
set_option maxRecDepth 20000 in
theorem wc_X1_offByLaw : mwd mX1_offByLaw ∈ lw_tbl := tabs_in (k := 4) (List.mem_of_getElem? (i := 229) rfl)
set_option maxRecDepth 20000 in
theorem wc_X1_offByTenths : mwd mX1_offByTenths ∈ lw_tbl := tabs_in (k := 4) (List.mem_of_getElem? (i := 239) rfl)
set_option maxRecDepth 20000 in
theorem wc_X2_init : mwd mX2_init ∈ lw_tbl := tabs_in (k := 1) (List.mem_of_getElem? (i := 183) rfl)
set_option maxRecDepth 20000 in
theorem wc_X6_begin : mwd mX6_begin ∈ lw_tbl := tabs_in (k := 3) (List.mem_of_getElem? (i := 21) rfl)
set_option maxRecDepth 20000 in
theorem wc_X6_isGood : mwd mX6_isGood ∈ lw_tbl := tabs_in (k := 3) (List.mem_of_getElem? (i := 72) rfl)
set_option maxRecDepth 20000 in
theorem wc_X6_next : mwd mX6_next ∈ lw_tbl := tabs_in (k := 3) (List.mem_of_getElem? (i := 34) rfl)
set_option maxRecDepth 20000 in
theorem wc_X6_skip : mwd mX6_skip ∈ lw_tbl := tabs_in (k := 3) (List.mem_of_getElem? (i := 30) rfl)
set_option maxRecDepth 20000 in
theorem wc_X2_emit : mwd mX2_emit ∈ lw_tbl := tabs_in (k := 3) (List.mem_of_getElem? (i := 122) rfl)
set_option maxRecDepth 20000 in
theorem wc_X6_isAtDigit : mwd mX6_isAtDigit ∈ lw_tbl := tabs_in (k := 3) (List.mem_of_getElem? (i := 46) rfl)
set_option maxRecDepth 20000 in
theorem wc_X6_fail : mwd mX6_fail ∈ lw_tbl := tabs_in (k := 3) (List.mem_of_getElem? (i := 55) rfl)
set_option maxRecDepth 20000 in
theorem wc_X6_failHere : mwd mX6_failHere ∈ lw_tbl := tabs_in (k := 3) (List.mem_of_getElem? (i := 51) rfl)
set_option maxRecDepth 20000 in
theorem wc_X6_failAtLastDigit : mwd mX6_failAtLastDigit ∈ lw_tbl := tabs_in (k := 3) (List.mem_of_getElem? (i := 59) rfl)
set_option maxRecDepth 20000 in
theorem wc_X6_number : mwd mX6_number ∈ lw_tbl := tabs_in (k := 3) (List.mem_of_getElem? (i := 42) rfl)
set_option maxRecDepth 20000 in
theorem wc_X6_need : mwd mX6_need ∈ lw_tbl := tabs_in (k := 3) (List.mem_of_getElem? (i := 63) rfl)
set_option maxRecDepth 20000 in
theorem wc_X2_readName : mwd mX2_readName ∈ lw_tbl := tabs_in (k := 3) (List.mem_of_getElem? (i := 127) rfl)
set_option maxRecDepth 20000 in
theorem wc_X2_readProduct : mwd mX2_readProduct ∈ lw_tbl := tabs_in (k := 3) (List.mem_of_getElem? (i := 111) rfl)
set_option maxRecDepth 20000 in
theorem wc_X2_readSum : mwd mX2_readSum ∈ lw_tbl := tabs_in (k := 3) (List.mem_of_getElem? (i := 107) rfl)
set_option maxRecDepth 20000 in
theorem wc_X2_readThing : mwd mX2_readThing ∈ lw_tbl := tabs_in (k := 3) (List.mem_of_getElem? (i := 115) rfl)
set_option maxRecDepth 20000 in
theorem wc_X2_read : mwd mX2_read ∈ lw_tbl := tabs_in (k := 3) (List.mem_of_getElem? (i := 102) rfl)
set_option maxRecDepth 20000 in
theorem wc_X4_init : mwd mX4_init ∈ lw_tbl := tabs_in (k := 1) (List.mem_of_getElem? (i := 76) rfl)
set_option maxRecDepth 20000 in
theorem wc_X5_init : mwd mX5_init ∈ lw_tbl := tabs_in (k := 1) (List.mem_of_getElem? (i := 70) rfl)
set_option maxRecDepth 20000 in
theorem wc_X3_init : mwd mX3_init ∈ lw_tbl := tabs_in (k := 2) (List.mem_of_getElem? (i := 14) rfl)
set_option maxRecDepth 20000 in
theorem wc_X4_freshen : mwd mX4_freshen ∈ lw_tbl := tabs_in (k := 2) (List.mem_of_getElem? (i := 79) rfl)
set_option maxRecDepth 20000 in
theorem wc_X5_freshen : mwd mX5_freshen ∈ lw_tbl := tabs_in (k := 2) (List.mem_of_getElem? (i := 75) rfl)
set_option maxRecDepth 20000 in
theorem wc_X3_begin : mwd mX3_begin ∈ lw_tbl := tabs_in (k := 4) (List.mem_of_getElem? (i := 67) rfl)
set_option maxRecDepth 20000 in
theorem wc_X4_copy : mwd mX4_copy ∈ lw_tbl := tabs_in (k := 4) (List.mem_of_getElem? (i := 86) rfl)
set_option maxRecDepth 20000 in
theorem wc_X5_copy : mwd mX5_copy ∈ lw_tbl := tabs_in (k := 4) (List.mem_of_getElem? (i := 82) rfl)
set_option maxRecDepth 20000 in
theorem wc_X5_wander : mwd mX5_wander ∈ lw_tbl := tabs_in (k := 3) (List.mem_of_getElem? (i := 173) rfl)
set_option maxRecDepth 20000 in
theorem wc_X4_slope : mwd mX4_slope ∈ lw_tbl := tabs_in (k := 2) (List.mem_of_getElem? (i := 211) rfl)
set_option maxRecDepth 20000 in
theorem wc_J9_floorMod_7cf53 : mwd mJ9_floorMod_7cf53 ∈ lw_tbl := tabs_in (k := 2) (List.mem_of_getElem? (i := 207) rfl)
set_option maxRecDepth 20000 in
theorem wc_X5_slopeSeen : mwd mX5_slopeSeen ∈ lw_tbl := tabs_in (k := 3) (List.mem_of_getElem? (i := 182) rfl)
set_option maxRecDepth 20000 in
theorem wc_X5_given : mwd mX5_given ∈ lw_tbl := tabs_in (k := 3) (List.mem_of_getElem? (i := 178) rfl)
set_option maxRecDepth 20000 in
theorem wc_X4_drive : mwd mX4_drive ∈ lw_tbl := tabs_in (k := 2) (List.mem_of_getElem? (i := 219) rfl)
set_option maxRecDepth 20000 in
theorem wc_X4_move : mwd mX4_move ∈ lw_tbl := tabs_in (k := 2) (List.mem_of_getElem? (i := 226) rfl)
set_option maxRecDepth 20000 in
theorem wc_X4_runOver : mwd mX4_runOver ∈ lw_tbl := tabs_in (k := 2) (List.mem_of_getElem? (i := 230) rfl)
set_option maxRecDepth 20000 in
theorem wc_X4_pass : mwd mX4_pass ∈ lw_tbl := tabs_in (k := 2) (List.mem_of_getElem? (i := 215) rfl)
set_option maxRecDepth 20000 in
theorem wc_X5_pass : mwd mX5_pass ∈ lw_tbl := tabs_in (k := 2) (List.mem_of_getElem? (i := 204) rfl)
set_option maxRecDepth 20000 in
theorem wc_X5_carry : mwd mX5_carry ∈ lw_tbl := tabs_in (k := 3) (List.mem_of_getElem? (i := 169) rfl)
set_option maxRecDepth 20000 in
theorem wc_X3_carries : mwd mX3_carries ∈ lw_tbl := tabs_in (k := 4) (List.mem_of_getElem? (i := 77) rfl)
set_option maxRecDepth 20000 in
theorem wc_X3_choose : mwd mX3_choose ∈ lw_tbl := tabs_in (k := 4) (List.mem_of_getElem? (i := 93) rfl)
set_option maxRecDepth 20000 in
theorem wc_X3_noteBest : mwd mX3_noteBest ∈ lw_tbl := tabs_in (k := 4) (List.mem_of_getElem? (i := 97) rfl)
set_option maxRecDepth 20000 in
theorem wc_X4_lean : mwd mX4_lean ∈ lw_tbl := tabs_in (k := 2) (List.mem_of_getElem? (i := 189) rfl)
set_option maxRecDepth 20000 in
theorem wc_X4_higherEnd : mwd mX4_higherEnd ∈ lw_tbl := tabs_in (k := 4) (List.mem_of_getElem? (i := 12) rfl)
set_option maxRecDepth 20000 in
theorem wc_X4_contents : mwd mX4_contents ∈ lw_tbl := tabs_in (k := 5) (List.mem_of_getElem? (i := 106) rfl)
set_option maxRecDepth 20000 in
theorem wc_X4_greatest : mwd mX4_greatest ∈ lw_tbl := tabs_in (k := 5) (List.mem_of_getElem? (i := 110) rfl)
set_option maxRecDepth 20000 in
theorem wc_X4_restlessness : mwd mX4_restlessness ∈ lw_tbl := tabs_in (k := 4) (List.mem_of_getElem? (i := 185) rfl)
set_option maxRecDepth 20000 in
theorem wc_X5_rowOf : mwd mX5_rowOf ∈ lw_tbl := tabs_in (k := 2) (List.mem_of_getElem? (i := 185) rfl)
set_option maxRecDepth 20000 in
theorem wc_X6_init : mwd mX6_init ∈ lw_tbl := tabs_in (k := 1) (List.mem_of_getElem? (i := 120) rfl)
set_option maxRecDepth 20000 in
theorem wc_X6_add : mwd mX6_add ∈ lw_tbl := tabs_in (k := 2) (List.mem_of_getElem? (i := 238) rfl)
set_option maxRecDepth 20000 in
theorem wc_X6_finish : mwd mX6_finish ∈ lw_tbl := tabs_in (k := 3) (List.mem_of_getElem? (i := 94) rfl)
set_option maxRecDepth 20000 in
theorem wc_X7_init : mwd mX7_init ∈ lw_tbl := tabs_in (k := 1) (List.mem_of_getElem? (i := 200) rfl)
set_option maxRecDepth 20000 in
theorem wc_X7_begin : mwd mX7_begin ∈ lw_tbl := tabs_in (k := 3) (List.mem_of_getElem? (i := 237) rfl)
set_option maxRecDepth 20000 in
theorem wc_X7_note : mwd mX7_note ∈ lw_tbl := tabs_in (k := 4) (List.mem_of_getElem? (i := 8) rfl)
set_option maxRecDepth 20000 in
theorem wc_X7_through : mwd mX7_through ∈ lw_tbl := tabs_in (k := 4) (List.mem_of_getElem? (i := 1) rfl)
set_option maxRecDepth 20000 in
theorem wc_X7_spiltOn : mwd mX7_spiltOn ∈ lw_tbl := tabs_in (k := 3) (List.mem_of_getElem? (i := 233) rfl)
set_option maxRecDepth 20000 in
theorem wc_X7_keepsAll : mwd mX7_keepsAll ∈ lw_tbl := tabs_in (k := 4) (List.mem_of_getElem? (i := 55) rfl)
set_option maxRecDepth 20000 in
theorem wc_X7_spiltFrom : mwd mX7_spiltFrom ∈ lw_tbl := tabs_in (k := 4) (List.mem_of_getElem? (i := 160) rfl)
set_option maxRecDepth 20000 in
theorem wc_X7_spiltWithTurn : mwd mX7_spiltWithTurn ∈ lw_tbl := tabs_in (k := 4) (List.mem_of_getElem? (i := 148) rfl)
set_option maxRecDepth 20000 in
theorem wc_X7_spiltWithPause : mwd mX7_spiltWithPause ∈ lw_tbl := tabs_in (k := 4) (List.mem_of_getElem? (i := 177) rfl)
set_option maxRecDepth 20000 in
theorem wc_X7_letGo : mwd mX7_letGo ∈ lw_tbl := tabs_in (k := 3) (List.mem_of_getElem? (i := 214) rfl)
set_option maxRecDepth 20000 in
theorem wc_X7_clearFirsts : mwd mX7_clearFirsts ∈ lw_tbl := tabs_in (k := 4) (List.mem_of_getElem? (i := 30) rfl)
set_option maxRecDepth 20000 in
theorem wc_X7_countFirst : mwd mX7_countFirst ∈ lw_tbl := tabs_in (k := 4) (List.mem_of_getElem? (i := 35) rfl)
set_option maxRecDepth 20000 in
theorem wc_X7_mostOftenFirst : mwd mX7_mostOftenFirst ∈ lw_tbl := tabs_in (k := 4) (List.mem_of_getElem? (i := 47) rfl)
set_option maxRecDepth 20000 in
theorem wc_X8_init : mwd mX8_init ∈ lw_tbl := tabs_in (k := 1) (List.mem_of_getElem? (i := 145) rfl)
set_option maxRecDepth 20000 in
theorem wc_X8_clear : mwd mX8_clear ∈ lw_tbl := tabs_in (k := 3) (List.mem_of_getElem? (i := 17) rfl)
set_option maxRecDepth 20000 in
theorem wc_X8_hasRoom : mwd mX8_hasRoom ∈ lw_tbl := tabs_in (k := 3) (List.mem_of_getElem? (i := 68) rfl)
set_option maxRecDepth 20000 in
theorem wc_X8_addTick : mwd mX8_addTick ∈ lw_tbl := tabs_in (k := 3) (List.mem_of_getElem? (i := 81) rfl)
set_option maxRecDepth 20000 in
theorem wc_X8_addSteps : mwd mX8_addSteps ∈ lw_tbl := tabs_in (k := 3) (List.mem_of_getElem? (i := 77) rfl)
set_option maxRecDepth 20000 in
theorem wc_X8_readSteps : mwd mX8_readSteps ∈ lw_tbl := tabs_in (k := 3) (List.mem_of_getElem? (i := 38) rfl)
set_option maxRecDepth 20000 in
theorem wc_X8_readStand : mwd mX8_readStand ∈ lw_tbl := tabs_in (k := 3) (List.mem_of_getElem? (i := 85) rfl)
set_option maxRecDepth 20000 in
theorem wc_X8_readJerk : mwd mX8_readJerk ∈ lw_tbl := tabs_in (k := 3) (List.mem_of_getElem? (i := 89) rfl)
set_option maxRecDepth 20000 in
theorem wc_X8_readPart : mwd mX8_readPart ∈ lw_tbl := tabs_in (k := 3) (List.mem_of_getElem? (i := 26) rfl)
set_option maxRecDepth 20000 in
theorem wc_X8_read : mwd mX8_read ∈ lw_tbl := tabs_in (k := 3) (List.mem_of_getElem? (i := 13) rfl)
set_option maxRecDepth 20000 in
theorem wc_X8_stepAt : mwd mX8_stepAt ∈ lw_tbl := tabs_in (k := 4) (List.mem_of_getElem? (i := 21) rfl)
set_option maxRecDepth 20000 in
theorem wc_X8_sizes : mwd mX8_sizes ∈ lw_tbl := tabs_in (k := 3) (List.mem_of_getElem? (i := 137) rfl)
set_option maxRecDepth 20000 in
theorem wc_X9_init : mwd mX9_init ∈ lw_tbl := tabs_in (k := 1) (List.mem_of_getElem? (i := 23) rfl)
set_option maxRecDepth 20000 in
theorem wc_X9_cup : mwd mX9_cup ∈ lw_tbl := tabs_in (k := 2) (List.mem_of_getElem? (i := 137) rfl)
set_option maxRecDepth 20000 in
theorem wc_X9_set : mwd mX9_set ∈ lw_tbl := tabs_in (k := 2) (List.mem_of_getElem? (i := 148) rfl)
set_option maxRecDepth 20000 in
theorem wc_X9_isGap : mwd mX9_isGap ∈ lw_tbl := tabs_in (k := 2) (List.mem_of_getElem? (i := 160) rfl)
set_option maxRecDepth 20000 in
theorem wc_X9_wall : mwd mX9_wall ∈ lw_tbl := tabs_in (k := 2) (List.mem_of_getElem? (i := 156) rfl)
set_option maxRecDepth 20000 in
theorem wc_X9_sheetEntry : mwd mX9_sheetEntry ∈ lw_tbl := tabs_in (k := 2) (List.mem_of_getElem? (i := 167) rfl)
set_option maxRecDepth 20000 in
theorem wc_X9_sheet : mwd mX9_sheet ∈ lw_tbl := tabs_in (k := 2) (List.mem_of_getElem? (i := 164) rfl)
set_option maxRecDepth 20000 in
theorem wc_X9_fresh : mwd mX9_fresh ∈ lw_tbl := tabs_in (k := 2) (List.mem_of_getElem? (i := 174) rfl)
set_option maxRecDepth 20000 in
theorem wc_X9_isRow : mwd mX9_isRow ∈ lw_tbl := tabs_in (k := 2) (List.mem_of_getElem? (i := 181) rfl)
set_option maxRecDepth 20000 in
theorem wc_X9_tilt : mwd mX9_tilt ∈ lw_tbl := tabs_in (k := 2) (List.mem_of_getElem? (i := 178) rfl)
set_option maxRecDepth 20000 in
theorem wc_X9_isPush : mwd mX9_isPush ∈ lw_tbl := tabs_in (k := 2) (List.mem_of_getElem? (i := 200) rfl)
set_option maxRecDepth 20000 in
theorem wc_X9_tick : mwd mX9_tick ∈ lw_tbl := tabs_in (k := 2) (List.mem_of_getElem? (i := 197) rfl)
set_option maxRecDepth 20000 in
theorem wc_X9_cell : mwd mX9_cell ∈ lw_tbl := tabs_in (k := 5) (List.mem_of_getElem? (i := 33) rfl)
set_option maxRecDepth 20000 in
theorem wc_X9_of : mwd mX9_of ∈ lw_tbl := tabs_in (k := 5) (List.mem_of_getElem? (i := 101) rfl)
set_option maxRecDepth 20000 in
theorem wc_X9_sign : mwd mX9_sign ∈ lw_tbl := tabs_in (k := 2) (List.mem_of_getElem? (i := 234) rfl)
set_option maxRecDepth 20000 in
theorem wc_X9_end : mwd mX9_end ∈ lw_tbl := tabs_in (k := 3) (List.mem_of_getElem? (i := 2) rfl)
set_option maxRecDepth 20000 in
theorem wc_X9_isWalk : mwd mX9_isWalk ∈ lw_tbl := tabs_in (k := 3) (List.mem_of_getElem? (i := 9) rfl)
set_option maxRecDepth 20000 in
theorem wc_X9_walk : mwd mX9_walk ∈ lw_tbl := tabs_in (k := 3) (List.mem_of_getElem? (i := 6) rfl)
set_option maxRecDepth 20000 in
theorem wc_X9_law : mwd mX9_law ∈ lw_tbl := tabs_in (k := 3) (List.mem_of_getElem? (i := 98) rfl)
set_option maxRecDepth 20000 in
theorem wc_X9_toldLaw : mwd mX9_toldLaw ∈ lw_tbl := tabs_in (k := 3) (List.mem_of_getElem? (i := 164) rfl)
set_option maxRecDepth 20000 in
theorem wc_X9_gives : mwd mX9_gives ∈ lw_tbl := tabs_in (k := 5) (List.mem_of_getElem? (i := 117) rfl)
set_option maxRecDepth 20000 in
theorem wc_X9_tellMore : mwd mX9_tellMore ∈ lw_tbl := tabs_in (k := 3) (List.mem_of_getElem? (i := 156) rfl)
set_option maxRecDepth 20000 in
theorem wc_X9_tell : mwd mX9_tell ∈ lw_tbl := tabs_in (k := 3) (List.mem_of_getElem? (i := 152) rfl)
set_option maxRecDepth 20000 in
theorem wc_X9_tell_ : mwd mX9_tell_ ∈ lw_tbl := tabs_in (k := 3) (List.mem_of_getElem? (i := 148) rfl)
set_option maxRecDepth 20000 in
theorem wc_X9_tell__ : mwd mX9_tell__ ∈ lw_tbl := tabs_in (k := 3) (List.mem_of_getElem? (i := 144) rfl)
set_option maxRecDepth 20000 in
theorem wc_X9_steps : mwd mX9_steps ∈ lw_tbl := tabs_in (k := 3) (List.mem_of_getElem? (i := 133) rfl)
set_option maxRecDepth 20000 in
theorem wc_X9_go : mwd mX9_go ∈ lw_tbl := tabs_in (k := 3) (List.mem_of_getElem? (i := 160) rfl)
set_option maxRecDepth 20000 in
theorem wc_X9_asItIs : mwd mX9_asItIs ∈ lw_tbl := tabs_in (k := 3) (List.mem_of_getElem? (i := 203) rfl)
set_option maxRecDepth 20000 in
theorem wc_X9_swing : mwd mX9_swing ∈ lw_tbl := tabs_in (k := 3) (List.mem_of_getElem? (i := 199) rfl)
set_option maxRecDepth 20000 in
theorem wc_X9_dies : mwd mX9_dies ∈ lw_tbl := tabs_in (k := 3) (List.mem_of_getElem? (i := 222) rfl)
set_option maxRecDepth 20000 in
theorem wc_X9_worst : mwd mX9_worst ∈ lw_tbl := tabs_in (k := 3) (List.mem_of_getElem? (i := 227) rfl)
set_option maxRecDepth 20000 in
theorem wc_X9_would : mwd mX9_would ∈ lw_tbl := tabs_in (k := 4) (List.mem_of_getElem? (i := 17) rfl)
set_option maxRecDepth 20000 in
theorem wc_X9_commonDivisor : mwd mX9_commonDivisor ∈ lw_tbl := tabs_in (k := 4) (List.mem_of_getElem? (i := 43) rfl)
set_option maxRecDepth 20000 in
theorem wc_X9_tellFraction : mwd mX9_tellFraction ∈ lw_tbl := tabs_in (k := 4) (List.mem_of_getElem? (i := 40) rfl)
set_option maxRecDepth 20000 in
theorem wc_X9_odds : mwd mX9_odds ∈ lw_tbl := tabs_in (k := 4) (List.mem_of_getElem? (i := 26) rfl)
set_option maxRecDepth 20000 in
theorem wc_X9_full : mwd mX9_full ∈ lw_tbl := tabs_in (k := 4) (List.mem_of_getElem? (i := 51) rfl)
set_option maxRecDepth 20000 in
theorem wc_X9_leads : mwd mX9_leads ∈ lw_tbl := tabs_in (k := 4) (List.mem_of_getElem? (i := 59) rfl)
set_option maxRecDepth 20000 in
theorem wc_X9_extend : mwd mX9_extend ∈ lw_tbl := tabs_in (k := 4) (List.mem_of_getElem? (i := 73) rfl)
set_option maxRecDepth 20000 in
theorem wc_X9_plan : mwd mX9_plan ∈ lw_tbl := tabs_in (k := 4) (List.mem_of_getElem? (i := 63) rfl)
set_option maxRecDepth 20000 in
theorem wc_X9_helps : mwd mX9_helps ∈ lw_tbl := tabs_in (k := 4) (List.mem_of_getElem? (i := 102) rfl)
set_option maxRecDepth 20000 in
theorem wc_X9_layers : mwd mX9_layers ∈ lw_tbl := tabs_in (k := 4) (List.mem_of_getElem? (i := 107) rfl)
set_option maxRecDepth 20000 in
theorem wc_X9_lateSlope : mwd mX9_lateSlope ∈ lw_tbl := tabs_in (k := 4) (List.mem_of_getElem? (i := 115) rfl)
set_option maxRecDepth 20000 in
theorem wc_X9_off : mwd mX9_off ∈ lw_tbl := tabs_in (k := 4) (List.mem_of_getElem? (i := 111) rfl)
set_option maxRecDepth 20000 in
theorem wc_X9_isOpen : mwd mX9_isOpen ∈ lw_tbl := tabs_in (k := 4) (List.mem_of_getElem? (i := 124) rfl)
set_option maxRecDepth 20000 in
theorem wc_X9_walled : mwd mX9_walled ∈ lw_tbl := tabs_in (k := 4) (List.mem_of_getElem? (i := 128) rfl)
set_option maxRecDepth 20000 in
theorem wc_X9_few : mwd mX9_few ∈ lw_tbl := tabs_in (k := 4) (List.mem_of_getElem? (i := 120) rfl)
set_option maxRecDepth 20000 in
theorem wc_X9_best : mwd mX9_best ∈ lw_tbl := tabs_in (k := 4) (List.mem_of_getElem? (i := 132) rfl)
set_option maxRecDepth 20000 in
theorem wc_X9_lid : mwd mX9_lid ∈ lw_tbl := tabs_in (k := 4) (List.mem_of_getElem? (i := 136) rfl)
set_option maxRecDepth 20000 in
theorem wc_X9_form : mwd mX9_form ∈ lw_tbl := tabs_in (k := 4) (List.mem_of_getElem? (i := 140) rfl)
set_option maxRecDepth 20000 in
theorem wc_X9_turn : mwd mX9_turn ∈ lw_tbl := tabs_in (k := 4) (List.mem_of_getElem? (i := 144) rfl)
set_option maxRecDepth 20000 in
theorem wc_X9_door : mwd mX9_door ∈ lw_tbl := tabs_in (k := 4) (List.mem_of_getElem? (i := 152) rfl)
set_option maxRecDepth 20000 in
theorem wc_X9_two : mwd mX9_two ∈ lw_tbl := tabs_in (k := 4) (List.mem_of_getElem? (i := 156) rfl)
set_option maxRecDepth 20000 in
theorem wc_X9_brake : mwd mX9_brake ∈ lw_tbl := tabs_in (k := 4) (List.mem_of_getElem? (i := 168) rfl)
set_option maxRecDepth 20000 in
theorem wc_X9_stop : mwd mX9_stop ∈ lw_tbl := tabs_in (k := 4) (List.mem_of_getElem? (i := 164) rfl)
set_option maxRecDepth 20000 in
theorem wc_X9_pause : mwd mX9_pause ∈ lw_tbl := tabs_in (k := 4) (List.mem_of_getElem? (i := 173) rfl)
set_option maxRecDepth 20000 in
theorem wc_X9_stir : mwd mX9_stir ∈ lw_tbl := tabs_in (k := 4) (List.mem_of_getElem? (i := 181) rfl)
set_option maxRecDepth 20000 in
theorem wc_X9_spot : mwd mX9_spot ∈ lw_tbl := tabs_in (k := 4) (List.mem_of_getElem? (i := 190) rfl)
set_option maxRecDepth 20000 in
theorem wc_X9_wipe : mwd mX9_wipe ∈ lw_tbl := tabs_in (k := 4) (List.mem_of_getElem? (i := 194) rfl)
set_option maxRecDepth 20000 in
theorem wc_X9_isHand : mwd mX9_isHand ∈ lw_tbl := tabs_in (k := 4) (List.mem_of_getElem? (i := 202) rfl)
set_option maxRecDepth 20000 in
theorem wc_X9_nearest : mwd mX9_nearest ∈ lw_tbl := tabs_in (k := 4) (List.mem_of_getElem? (i := 209) rfl)
set_option maxRecDepth 20000 in
theorem wc_X9_distance : mwd mX9_distance ∈ lw_tbl := tabs_in (k := 4) (List.mem_of_getElem? (i := 206) rfl)
set_option maxRecDepth 20000 in
theorem wc_X9_far : mwd mX9_far ∈ lw_tbl := tabs_in (k := 4) (List.mem_of_getElem? (i := 198) rfl)
set_option maxRecDepth 20000 in
theorem wc_X9_who : mwd mX9_who ∈ lw_tbl := tabs_in (k := 4) (List.mem_of_getElem? (i := 213) rfl)
set_option maxRecDepth 20000 in
theorem wc_X9_film : mwd mX9_film ∈ lw_tbl := tabs_in (k := 4) (List.mem_of_getElem? (i := 217) rfl)
set_option maxRecDepth 20000 in
theorem wc_X9_fits : mwd mX9_fits ∈ lw_tbl := tabs_in (k := 4) (List.mem_of_getElem? (i := 225) rfl)
set_option maxRecDepth 20000 in
theorem wc_X9_reads : mwd mX9_reads ∈ lw_tbl := tabs_in (k := 4) (List.mem_of_getElem? (i := 235) rfl)
set_option maxRecDepth 20000 in
theorem wc_X9_seed : mwd mX9_seed ∈ lw_tbl := tabs_in (k := 5) (List.mem_of_getElem? (i := 4) rfl)
set_option maxRecDepth 20000 in
theorem wc_X9_keep : mwd mX9_keep ∈ lw_tbl := tabs_in (k := 5) (List.mem_of_getElem? (i := 8) rfl)
set_option maxRecDepth 20000 in
theorem wc_X9_again : mwd mX9_again ∈ lw_tbl := tabs_in (k := 5) (List.mem_of_getElem? (i := 13) rfl)
set_option maxRecDepth 20000 in
theorem wc_X9_toldLawBits : mwd mX9_toldLawBits ∈ lw_tbl := tabs_in (k := 5) (List.mem_of_getElem? (i := 21) rfl)
set_option maxRecDepth 20000 in
theorem wc_X9_count : mwd mX9_count ∈ lw_tbl := tabs_in (k := 5) (List.mem_of_getElem? (i := 17) rfl)
set_option maxRecDepth 20000 in
theorem wc_X9_row : mwd mX9_row ∈ lw_tbl := tabs_in (k := 5) (List.mem_of_getElem? (i := 125) rfl)
set_option maxRecDepth 20000 in
theorem wc_X10_begin : mwd mX10_begin ∈ lw_tbl := tabs_in (k := 5) (List.mem_of_getElem? (i := 137) rfl)
set_option maxRecDepth 20000 in
theorem wc_X10_init : mwd mX10_init ∈ lw_tbl := tabs_in (k := 5) (List.mem_of_getElem? (i := 130) rfl)
set_option maxRecDepth 20000 in
theorem wc_X10_thrown : mwd mX10_thrown ∈ lw_tbl := tabs_in (k := 6) (List.mem_of_getElem? (i := 102) rfl)
set_option maxRecDepth 20000 in
theorem wc_X10_in : mwd mX10_in ∈ lw_tbl := tabs_in (k := 6) (List.mem_of_getElem? (i := 109) rfl)
set_option maxRecDepth 20000 in
theorem wc_X10_lost : mwd mX10_lost ∈ lw_tbl := tabs_in (k := 6) (List.mem_of_getElem? (i := 167) rfl)
set_option maxRecDepth 20000 in
theorem wc_X10_tell : mwd mX10_tell ∈ lw_tbl := tabs_in (k := 6) (List.mem_of_getElem? (i := 227) rfl)
set_option maxRecDepth 20000 in
theorem wc_X10_cup : mwd mX10_cup ∈ lw_tbl := tabs_in (k := 6) (List.mem_of_getElem? (i := 106) rfl)
set_option maxRecDepth 20000 in
theorem wc_X10_set : mwd mX10_set ∈ lw_tbl := tabs_in (k := 6) (List.mem_of_getElem? (i := 113) rfl)
set_option maxRecDepth 20000 in
theorem wc_X10_isGap : mwd mX10_isGap ∈ lw_tbl := tabs_in (k := 6) (List.mem_of_getElem? (i := 121) rfl)
set_option maxRecDepth 20000 in
theorem wc_X10_wall : mwd mX10_wall ∈ lw_tbl := tabs_in (k := 6) (List.mem_of_getElem? (i := 117) rfl)
set_option maxRecDepth 20000 in
theorem wc_X10_sheet : mwd mX10_sheet ∈ lw_tbl := tabs_in (k := 6) (List.mem_of_getElem? (i := 125) rfl)
set_option maxRecDepth 20000 in
theorem wc_X10_fresh : mwd mX10_fresh ∈ lw_tbl := tabs_in (k := 6) (List.mem_of_getElem? (i := 131) rfl)
set_option maxRecDepth 20000 in
theorem wc_X10_lean : mwd mX10_lean ∈ lw_tbl := tabs_in (k := 6) (List.mem_of_getElem? (i := 139) rfl)
set_option maxRecDepth 20000 in
theorem wc_X10_tilt : mwd mX10_tilt ∈ lw_tbl := tabs_in (k := 6) (List.mem_of_getElem? (i := 135) rfl)
set_option maxRecDepth 20000 in
theorem wc_X10_slope : mwd mX10_slope ∈ lw_tbl := tabs_in (k := 6) (List.mem_of_getElem? (i := 151) rfl)
set_option maxRecDepth 20000 in
theorem wc_X10_flows : mwd mX10_flows ∈ lw_tbl := tabs_in (k := 6) (List.mem_of_getElem? (i := 155) rfl)
set_option maxRecDepth 20000 in
theorem wc_X10_over : mwd mX10_over ∈ lw_tbl := tabs_in (k := 6) (List.mem_of_getElem? (i := 159) rfl)
set_option maxRecDepth 20000 in
theorem wc_X10_pass : mwd mX10_pass ∈ lw_tbl := tabs_in (k := 6) (List.mem_of_getElem? (i := 147) rfl)
set_option maxRecDepth 20000 in
theorem wc_X10_tick : mwd mX10_tick ∈ lw_tbl := tabs_in (k := 6) (List.mem_of_getElem? (i := 143) rfl)
set_option maxRecDepth 20000 in
theorem wc_X10_cell : mwd mX10_cell ∈ lw_tbl := tabs_in (k := 6) (List.mem_of_getElem? (i := 163) rfl)
set_option maxRecDepth 20000 in
theorem wc_X10_of : mwd mX10_of ∈ lw_tbl := tabs_in (k := 6) (List.mem_of_getElem? (i := 171) rfl)
set_option maxRecDepth 20000 in
theorem wc_X10_sign : mwd mX10_sign ∈ lw_tbl := tabs_in (k := 6) (List.mem_of_getElem? (i := 175) rfl)
set_option maxRecDepth 20000 in
theorem wc_X10_end : mwd mX10_end ∈ lw_tbl := tabs_in (k := 6) (List.mem_of_getElem? (i := 179) rfl)
set_option maxRecDepth 20000 in
theorem wc_X10_start : mwd mX10_start ∈ lw_tbl := tabs_in (k := 6) (List.mem_of_getElem? (i := 187) rfl)
set_option maxRecDepth 20000 in
theorem wc_X10_here : mwd mX10_here ∈ lw_tbl := tabs_in (k := 6) (List.mem_of_getElem? (i := 191) rfl)
set_option maxRecDepth 20000 in
theorem wc_X10_fine : mwd mX10_fine ∈ lw_tbl := tabs_in (k := 6) (List.mem_of_getElem? (i := 199) rfl)
set_option maxRecDepth 20000 in
theorem wc_X10_fault : mwd mX10_fault ∈ lw_tbl := tabs_in (k := 6) (List.mem_of_getElem? (i := 203) rfl)
set_option maxRecDepth 20000 in
theorem wc_X10_passes : mwd mX10_passes ∈ lw_tbl := tabs_in (k := 6) (List.mem_of_getElem? (i := 211) rfl)
set_option maxRecDepth 20000 in
theorem wc_X10_need : mwd mX10_need ∈ lw_tbl := tabs_in (k := 6) (List.mem_of_getElem? (i := 207) rfl)
set_option maxRecDepth 20000 in
theorem wc_X10_number : mwd mX10_number ∈ lw_tbl := tabs_in (k := 6) (List.mem_of_getElem? (i := 195) rfl)
set_option maxRecDepth 20000 in
theorem wc_X10_lay : mwd mX10_lay ∈ lw_tbl := tabs_in (k := 6) (List.mem_of_getElem? (i := 215) rfl)
set_option maxRecDepth 20000 in
theorem wc_X10_walk : mwd mX10_walk ∈ lw_tbl := tabs_in (k := 6) (List.mem_of_getElem? (i := 183) rfl)
set_option maxRecDepth 20000 in
theorem wc_X10_isWalk : mwd mX10_isWalk ∈ lw_tbl := tabs_in (k := 6) (List.mem_of_getElem? (i := 222) rfl)
set_option maxRecDepth 20000 in
theorem wc_X10_steps : mwd mX10_steps ∈ lw_tbl := tabs_in (k := 6) (List.mem_of_getElem? (i := 219) rfl)
set_option maxRecDepth 20000 in
theorem wc_X10_product : mwd mX10_product ∈ lw_tbl := tabs_in (k := 6) (List.mem_of_getElem? (i := 239) rfl)
set_option maxRecDepth 20000 in
theorem wc_X10_sum : mwd mX10_sum ∈ lw_tbl := tabs_in (k := 6) (List.mem_of_getElem? (i := 235) rfl)
set_option maxRecDepth 20000 in
theorem wc_X10_thing : mwd mX10_thing ∈ lw_tbl := tabs_in (k := 7) (List.mem_of_getElem? (i := 3) rfl)
set_option maxRecDepth 20000 in
theorem wc_X10_law : mwd mX10_law ∈ lw_tbl := tabs_in (k := 6) (List.mem_of_getElem? (i := 231) rfl)
set_option maxRecDepth 20000 in
theorem wc_X10_isLaw : mwd mX10_isLaw ∈ lw_tbl := tabs_in (k := 7) (List.mem_of_getElem? (i := 11) rfl)
set_option maxRecDepth 20000 in
theorem wc_X10_bounded : mwd mX10_bounded ∈ lw_tbl := tabs_in (k := 7) (List.mem_of_getElem? (i := 22) rfl)
set_option maxRecDepth 20000 in
theorem wc_X10_byLaw : mwd mX10_byLaw ∈ lw_tbl := tabs_in (k := 7) (List.mem_of_getElem? (i := 19) rfl)
set_option maxRecDepth 20000 in
theorem wc_X10_byHand : mwd mX10_byHand ∈ lw_tbl := tabs_in (k := 7) (List.mem_of_getElem? (i := 15) rfl)
set_option maxRecDepth 20000 in
theorem wc_X10_gives : mwd mX10_gives ∈ lw_tbl := tabs_in (k := 7) (List.mem_of_getElem? (i := 7) rfl)
set_option maxRecDepth 20000 in
theorem wc_X10_draw : mwd mX10_draw ∈ lw_tbl := tabs_in (k := 7) (List.mem_of_getElem? (i := 38) rfl)
set_option maxRecDepth 20000 in
theorem wc_X10_watch : mwd mX10_watch ∈ lw_tbl := tabs_in (k := 7) (List.mem_of_getElem? (i := 30) rfl)
set_option maxRecDepth 20000 in
theorem wc_X10_passWatched : mwd mX10_passWatched ∈ lw_tbl := tabs_in (k := 7) (List.mem_of_getElem? (i := 43) rfl)
set_option maxRecDepth 20000 in
theorem wc_X10_goOn : mwd mX10_goOn ∈ lw_tbl := tabs_in (k := 7) (List.mem_of_getElem? (i := 34) rfl)
set_option maxRecDepth 20000 in
theorem wc_X10_go : mwd mX10_go ∈ lw_tbl := tabs_in (k := 7) (List.mem_of_getElem? (i := 26) rfl)
set_option maxRecDepth 20000 in
theorem wc_X10_put : mwd mX10_put ∈ lw_tbl := tabs_in (k := 7) (List.mem_of_getElem? (i := 62) rfl)
set_option maxRecDepth 20000 in
theorem wc_X10_take : mwd mX10_take ∈ lw_tbl := tabs_in (k := 7) (List.mem_of_getElem? (i := 70) rfl)
set_option maxRecDepth 20000 in
theorem wc_X10_putBy : mwd mX10_putBy ∈ lw_tbl := tabs_in (k := 7) (List.mem_of_getElem? (i := 58) rfl)
set_option maxRecDepth 20000 in
theorem wc_X10_bringBack : mwd mX10_bringBack ∈ lw_tbl := tabs_in (k := 7) (List.mem_of_getElem? (i := 66) rfl)
set_option maxRecDepth 20000 in
theorem wc_X10_wholly : mwd mX10_wholly ∈ lw_tbl := tabs_in (k := 7) (List.mem_of_getElem? (i := 86) rfl)
set_option maxRecDepth 20000 in
theorem wc_X10_letGo : mwd mX10_letGo ∈ lw_tbl := tabs_in (k := 7) (List.mem_of_getElem? (i := 54) rfl)
set_option maxRecDepth 20000 in
theorem wc_X10_isTilt : mwd mX10_isTilt ∈ lw_tbl := tabs_in (k := 7) (List.mem_of_getElem? (i := 50) rfl)
set_option maxRecDepth 20000 in
theorem wc_X10_swing : mwd mX10_swing ∈ lw_tbl := tabs_in (k := 7) (List.mem_of_getElem? (i := 47) rfl)
set_option maxRecDepth 20000 in
theorem wc_X10_dies : mwd mX10_dies ∈ lw_tbl := tabs_in (k := 7) (List.mem_of_getElem? (i := 74) rfl)
set_option maxRecDepth 20000 in
theorem wc_X10_worst : mwd mX10_worst ∈ lw_tbl := tabs_in (k := 7) (List.mem_of_getElem? (i := 78) rfl)
set_option maxRecDepth 20000 in
theorem wc_X10_would : mwd mX10_would ∈ lw_tbl := tabs_in (k := 7) (List.mem_of_getElem? (i := 82) rfl)
set_option maxRecDepth 20000 in
theorem wc_X10_common : mwd mX10_common ∈ lw_tbl := tabs_in (k := 7) (List.mem_of_getElem? (i := 97) rfl)
set_option maxRecDepth 20000 in
theorem wc_X10_tellPart : mwd mX10_tellPart ∈ lw_tbl := tabs_in (k := 7) (List.mem_of_getElem? (i := 94) rfl)
set_option maxRecDepth 20000 in
theorem wc_X10_odds : mwd mX10_odds ∈ lw_tbl := tabs_in (k := 7) (List.mem_of_getElem? (i := 90) rfl)
set_option maxRecDepth 20000 in
theorem wc_X10_full : mwd mX10_full ∈ lw_tbl := tabs_in (k := 7) (List.mem_of_getElem? (i := 105) rfl)
set_option maxRecDepth 20000 in
theorem wc_X10_leads : mwd mX10_leads ∈ lw_tbl := tabs_in (k := 7) (List.mem_of_getElem? (i := 109) rfl)
set_option maxRecDepth 20000 in
theorem wc_X10_keepPlan : mwd mX10_keepPlan ∈ lw_tbl := tabs_in (k := 7) (List.mem_of_getElem? (i := 121) rfl)
set_option maxRecDepth 20000 in
theorem wc_X10_fromPlan : mwd mX10_fromPlan ∈ lw_tbl := tabs_in (k := 7) (List.mem_of_getElem? (i := 125) rfl)
set_option maxRecDepth 20000 in
theorem wc_X10_planFrom : mwd mX10_planFrom ∈ lw_tbl := tabs_in (k := 7) (List.mem_of_getElem? (i := 117) rfl)
set_option maxRecDepth 20000 in
theorem wc_X10_plan : mwd mX10_plan ∈ lw_tbl := tabs_in (k := 7) (List.mem_of_getElem? (i := 113) rfl)
set_option maxRecDepth 20000 in
theorem wc_X10_helps : mwd mX10_helps ∈ lw_tbl := tabs_in (k := 7) (List.mem_of_getElem? (i := 129) rfl)
set_option maxRecDepth 20000 in
theorem wc_X10_leastOf : mwd mX10_leastOf ∈ lw_tbl := tabs_in (k := 7) (List.mem_of_getElem? (i := 137) rfl)
set_option maxRecDepth 20000 in
theorem wc_X10_layers : mwd mX10_layers ∈ lw_tbl := tabs_in (k := 7) (List.mem_of_getElem? (i := 133) rfl)
set_option maxRecDepth 20000 in
theorem wc_X10_greatestSlope : mwd mX10_greatestSlope ∈ lw_tbl := tabs_in (k := 7) (List.mem_of_getElem? (i := 145) rfl)
set_option maxRecDepth 20000 in
theorem wc_X10_off : mwd mX10_off ∈ lw_tbl := tabs_in (k := 7) (List.mem_of_getElem? (i := 141) rfl)
set_option maxRecDepth 20000 in
theorem wc_X10_few : mwd mX10_few ∈ lw_tbl := tabs_in (k := 7) (List.mem_of_getElem? (i := 149) rfl)
set_option maxRecDepth 20000 in
theorem wc_X10_best : mwd mX10_best ∈ lw_tbl := tabs_in (k := 7) (List.mem_of_getElem? (i := 153) rfl)
set_option maxRecDepth 20000 in
theorem wc_X10_lid : mwd mX10_lid ∈ lw_tbl := tabs_in (k := 7) (List.mem_of_getElem? (i := 157) rfl)
set_option maxRecDepth 20000 in
theorem wc_X10_form : mwd mX10_form ∈ lw_tbl := tabs_in (k := 7) (List.mem_of_getElem? (i := 161) rfl)
set_option maxRecDepth 20000 in
theorem wc_X10_withPause : mwd mX10_withPause ∈ lw_tbl := tabs_in (k := 7) (List.mem_of_getElem? (i := 169) rfl)
set_option maxRecDepth 20000 in
theorem wc_X10_turn : mwd mX10_turn ∈ lw_tbl := tabs_in (k := 7) (List.mem_of_getElem? (i := 165) rfl)
set_option maxRecDepth 20000 in
theorem wc_X10_door : mwd mX10_door ∈ lw_tbl := tabs_in (k := 7) (List.mem_of_getElem? (i := 173) rfl)
set_option maxRecDepth 20000 in
theorem wc_X10_two : mwd mX10_two ∈ lw_tbl := tabs_in (k := 7) (List.mem_of_getElem? (i := 177) rfl)
set_option maxRecDepth 20000 in
theorem wc_X10_stop : mwd mX10_stop ∈ lw_tbl := tabs_in (k := 7) (List.mem_of_getElem? (i := 181) rfl)
set_option maxRecDepth 20000 in
theorem wc_X10_pause : mwd mX10_pause ∈ lw_tbl := tabs_in (k := 7) (List.mem_of_getElem? (i := 185) rfl)
set_option maxRecDepth 20000 in
theorem wc_X10_stir : mwd mX10_stir ∈ lw_tbl := tabs_in (k := 7) (List.mem_of_getElem? (i := 189) rfl)
set_option maxRecDepth 20000 in
theorem wc_X10_spot : mwd mX10_spot ∈ lw_tbl := tabs_in (k := 7) (List.mem_of_getElem? (i := 193) rfl)
set_option maxRecDepth 20000 in
theorem wc_X10_wipe : mwd mX10_wipe ∈ lw_tbl := tabs_in (k := 7) (List.mem_of_getElem? (i := 197) rfl)
set_option maxRecDepth 20000 in
theorem wc_X10_farFrom : mwd mX10_farFrom ∈ lw_tbl := tabs_in (k := 7) (List.mem_of_getElem? (i := 205) rfl)
set_option maxRecDepth 20000 in
theorem wc_X10_far : mwd mX10_far ∈ lw_tbl := tabs_in (k := 7) (List.mem_of_getElem? (i := 201) rfl)
set_option maxRecDepth 20000 in
theorem wc_X10_who : mwd mX10_who ∈ lw_tbl := tabs_in (k := 7) (List.mem_of_getElem? (i := 209) rfl)
set_option maxRecDepth 20000 in
theorem wc_X10_film : mwd mX10_film ∈ lw_tbl := tabs_in (k := 7) (List.mem_of_getElem? (i := 213) rfl)
set_option maxRecDepth 20000 in
theorem wc_X10_fits : mwd mX10_fits ∈ lw_tbl := tabs_in (k := 7) (List.mem_of_getElem? (i := 217) rfl)
set_option maxRecDepth 20000 in
theorem wc_X10_reads : mwd mX10_reads ∈ lw_tbl := tabs_in (k := 7) (List.mem_of_getElem? (i := 221) rfl)
set_option maxRecDepth 20000 in
theorem wc_X10_seed : mwd mX10_seed ∈ lw_tbl := tabs_in (k := 7) (List.mem_of_getElem? (i := 225) rfl)
set_option maxRecDepth 20000 in
theorem wc_X10_keep : mwd mX10_keep ∈ lw_tbl := tabs_in (k := 7) (List.mem_of_getElem? (i := 229) rfl)
set_option maxRecDepth 20000 in
theorem wc_X10_again : mwd mX10_again ∈ lw_tbl := tabs_in (k := 7) (List.mem_of_getElem? (i := 233) rfl)
set_option maxRecDepth 20000 in
theorem wc_X10_count : mwd mX10_count ∈ lw_tbl := tabs_in (k := 7) (List.mem_of_getElem? (i := 237) rfl)
set_option maxRecDepth 20000 in
theorem wc_X10_row : mwd mX10_row ∈ lw_tbl := tabs_in (k := 8) (List.mem_of_getElem? (i := 1) rfl)
set_option maxRecDepth 20000 in
theorem wc_J9_abs_0f7a4 : mwd mJ9_abs_0f7a4 ∈ lw_tbl := tabs_in (k := 3) (List.mem_of_getElem? (i := 140) rfl)
set_option maxRecDepth 20000 in
theorem wc_J9_abs_067f4 : mwd mJ9_abs_067f4 ∈ lw_tbl := tabs_in (k := 7) (List.mem_of_getElem? (i := 100) rfl)
set_option maxRecDepth 20000 in
theorem wc_J9_max_7cf53 : mwd mJ9_max_7cf53 ∈ lw_tbl := tabs_in (k := 2) (List.mem_of_getElem? (i := 192) rfl)
set_option maxRecDepth 20000 in
theorem wc_J9_min_7cf53 : mwd mJ9_min_7cf53 ∈ lw_tbl := tabs_in (k := 2) (List.mem_of_getElem? (i := 222) rfl)
set_option maxRecDepth 20000 in
theorem wc_L_cell : mwd mL_cell ∈ lw_tbl := tabs_in (k := 5) (List.mem_of_getElem? (i := 28) rfl)
set_option maxRecDepth 20000 in
theorem wc_L_of : mwd mL_of ∈ lw_tbl := tabs_in (k := 5) (List.mem_of_getElem? (i := 97) rfl)
set_option maxRecDepth 20000 in
theorem wc_L_gives : mwd mL_gives ∈ lw_tbl := tabs_in (k := 5) (List.mem_of_getElem? (i := 113) rfl)
set_option maxRecDepth 20000 in
theorem wc_L_row : mwd mL_row ∈ lw_tbl := tabs_in (k := 5) (List.mem_of_getElem? (i := 121) rfl)
theorem wcs_0 : ∀ M ∈ mtb_0, mwd M ∈ lw_tbl := List.forall_mem_cons.mpr ⟨wc_J7_fill_53178, List.forall_mem_cons.mpr ⟨wc_X0_init, List.forall_mem_cons.mpr ⟨wc_X0_copy, List.forall_mem_cons.mpr ⟨wc_X0_openAll, List.forall_mem_cons.mpr ⟨wc_X0_wallCount, List.forall_mem_cons.mpr ⟨wc_X1_init, List.forall_mem_cons.mpr ⟨wc_X1_add, List.forall_mem_cons.mpr ⟨wc_X9_isIn, List.forall_mem_cons.mpr ⟨wc_X2_joined, List.forall_mem_cons.mpr ⟨wc_X2_named, List.forall_mem_cons.mpr ⟨wc_X9_between, List.forall_mem_cons.mpr ⟨wc_X2_bounded, List.forall_mem_cons.mpr ⟨wc_X1_offByLaw, List.forall_mem_cons.mpr ⟨wc_X1_offByTenths, List.forall_mem_cons.mpr ⟨wc_X2_init, List.forall_mem_cons.mpr ⟨wc_X6_begin, List.forall_mem_cons.mpr ⟨wc_X6_isGood, List.forall_mem_cons.mpr ⟨wc_X6_next, List.forall_mem_cons.mpr ⟨wc_X6_skip, List.forall_mem_cons.mpr ⟨wc_X2_emit, List.forall_mem_cons.mpr ⟨wc_X6_isAtDigit, List.forall_mem_cons.mpr ⟨wc_X6_fail, List.forall_mem_cons.mpr ⟨wc_X6_failHere, List.forall_mem_cons.mpr ⟨wc_X6_failAtLastDigit, List.forall_mem_cons.mpr ⟨wc_X6_number, List.forall_mem_cons.mpr ⟨wc_X6_need, List.forall_mem_cons.mpr ⟨wc_X2_readName, List.forall_mem_cons.mpr ⟨wc_X2_readProduct, List.forall_mem_cons.mpr ⟨wc_X2_readSum, List.forall_mem_cons.mpr ⟨wc_X2_readThing, fun _ h => absurd h List.not_mem_nil⟩⟩⟩⟩⟩⟩⟩⟩⟩⟩⟩⟩⟩⟩⟩⟩⟩⟩⟩⟩⟩⟩⟩⟩⟩⟩⟩⟩⟩⟩
theorem wcs_1 : ∀ M ∈ mtb_1, mwd M ∈ lw_tbl := List.forall_mem_cons.mpr ⟨wc_X2_read, List.forall_mem_cons.mpr ⟨wc_X4_init, List.forall_mem_cons.mpr ⟨wc_X5_init, List.forall_mem_cons.mpr ⟨wc_X3_init, List.forall_mem_cons.mpr ⟨wc_X4_freshen, List.forall_mem_cons.mpr ⟨wc_X5_freshen, List.forall_mem_cons.mpr ⟨wc_X3_begin, List.forall_mem_cons.mpr ⟨wc_X4_copy, List.forall_mem_cons.mpr ⟨wc_X5_copy, List.forall_mem_cons.mpr ⟨wc_X5_wander, List.forall_mem_cons.mpr ⟨wc_X4_slope, List.forall_mem_cons.mpr ⟨wc_J9_floorMod_7cf53, List.forall_mem_cons.mpr ⟨wc_X5_slopeSeen, List.forall_mem_cons.mpr ⟨wc_X5_given, List.forall_mem_cons.mpr ⟨wc_X4_drive, List.forall_mem_cons.mpr ⟨wc_X4_move, List.forall_mem_cons.mpr ⟨wc_X4_runOver, List.forall_mem_cons.mpr ⟨wc_X4_pass, List.forall_mem_cons.mpr ⟨wc_X5_pass, List.forall_mem_cons.mpr ⟨wc_X5_carry, List.forall_mem_cons.mpr ⟨wc_X3_carries, List.forall_mem_cons.mpr ⟨wc_X3_choose, List.forall_mem_cons.mpr ⟨wc_X3_noteBest, List.forall_mem_cons.mpr ⟨wc_X4_lean, List.forall_mem_cons.mpr ⟨wc_X4_higherEnd, List.forall_mem_cons.mpr ⟨wc_X4_contents, List.forall_mem_cons.mpr ⟨wc_X4_greatest, List.forall_mem_cons.mpr ⟨wc_X4_restlessness, List.forall_mem_cons.mpr ⟨wc_X5_rowOf, List.forall_mem_cons.mpr ⟨wc_X6_init, fun _ h => absurd h List.not_mem_nil⟩⟩⟩⟩⟩⟩⟩⟩⟩⟩⟩⟩⟩⟩⟩⟩⟩⟩⟩⟩⟩⟩⟩⟩⟩⟩⟩⟩⟩⟩
theorem wcs_2 : ∀ M ∈ mtb_2, mwd M ∈ lw_tbl := List.forall_mem_cons.mpr ⟨wc_X6_add, List.forall_mem_cons.mpr ⟨wc_X6_finish, List.forall_mem_cons.mpr ⟨wc_X7_init, List.forall_mem_cons.mpr ⟨wc_X7_begin, List.forall_mem_cons.mpr ⟨wc_X7_note, List.forall_mem_cons.mpr ⟨wc_X7_through, List.forall_mem_cons.mpr ⟨wc_X7_spiltOn, List.forall_mem_cons.mpr ⟨wc_X7_keepsAll, List.forall_mem_cons.mpr ⟨wc_X7_spiltFrom, List.forall_mem_cons.mpr ⟨wc_X7_spiltWithTurn, List.forall_mem_cons.mpr ⟨wc_X7_spiltWithPause, List.forall_mem_cons.mpr ⟨wc_X7_letGo, List.forall_mem_cons.mpr ⟨wc_X7_clearFirsts, List.forall_mem_cons.mpr ⟨wc_X7_countFirst, List.forall_mem_cons.mpr ⟨wc_X7_mostOftenFirst, List.forall_mem_cons.mpr ⟨wc_X8_init, List.forall_mem_cons.mpr ⟨wc_X8_clear, List.forall_mem_cons.mpr ⟨wc_X8_hasRoom, List.forall_mem_cons.mpr ⟨wc_X8_addTick, List.forall_mem_cons.mpr ⟨wc_X8_addSteps, List.forall_mem_cons.mpr ⟨wc_X8_readSteps, List.forall_mem_cons.mpr ⟨wc_X8_readStand, List.forall_mem_cons.mpr ⟨wc_X8_readJerk, List.forall_mem_cons.mpr ⟨wc_X8_readPart, List.forall_mem_cons.mpr ⟨wc_X8_read, List.forall_mem_cons.mpr ⟨wc_X8_stepAt, List.forall_mem_cons.mpr ⟨wc_X8_sizes, List.forall_mem_cons.mpr ⟨wc_X9_init, List.forall_mem_cons.mpr ⟨wc_X9_cup, List.forall_mem_cons.mpr ⟨wc_X9_set, fun _ h => absurd h List.not_mem_nil⟩⟩⟩⟩⟩⟩⟩⟩⟩⟩⟩⟩⟩⟩⟩⟩⟩⟩⟩⟩⟩⟩⟩⟩⟩⟩⟩⟩⟩⟩
theorem wcs_3 : ∀ M ∈ mtb_3, mwd M ∈ lw_tbl := List.forall_mem_cons.mpr ⟨wc_X9_isGap, List.forall_mem_cons.mpr ⟨wc_X9_wall, List.forall_mem_cons.mpr ⟨wc_X9_sheetEntry, List.forall_mem_cons.mpr ⟨wc_X9_sheet, List.forall_mem_cons.mpr ⟨wc_X9_fresh, List.forall_mem_cons.mpr ⟨wc_X9_isRow, List.forall_mem_cons.mpr ⟨wc_X9_tilt, List.forall_mem_cons.mpr ⟨wc_X9_isPush, List.forall_mem_cons.mpr ⟨wc_X9_tick, List.forall_mem_cons.mpr ⟨wc_X9_cell, List.forall_mem_cons.mpr ⟨wc_X9_of, List.forall_mem_cons.mpr ⟨wc_X9_sign, List.forall_mem_cons.mpr ⟨wc_X9_end, List.forall_mem_cons.mpr ⟨wc_X9_isWalk, List.forall_mem_cons.mpr ⟨wc_X9_walk, List.forall_mem_cons.mpr ⟨wc_X9_law, List.forall_mem_cons.mpr ⟨wc_X9_toldLaw, List.forall_mem_cons.mpr ⟨wc_X9_gives, List.forall_mem_cons.mpr ⟨wc_X9_tellMore, List.forall_mem_cons.mpr ⟨wc_X9_tell, List.forall_mem_cons.mpr ⟨wc_X9_tell_, List.forall_mem_cons.mpr ⟨wc_X9_tell__, List.forall_mem_cons.mpr ⟨wc_X9_steps, List.forall_mem_cons.mpr ⟨wc_X9_go, List.forall_mem_cons.mpr ⟨wc_X9_asItIs, List.forall_mem_cons.mpr ⟨wc_X9_swing, List.forall_mem_cons.mpr ⟨wc_X9_dies, List.forall_mem_cons.mpr ⟨wc_X9_worst, List.forall_mem_cons.mpr ⟨wc_X9_would, List.forall_mem_cons.mpr ⟨wc_X9_commonDivisor, fun _ h => absurd h List.not_mem_nil⟩⟩⟩⟩⟩⟩⟩⟩⟩⟩⟩⟩⟩⟩⟩⟩⟩⟩⟩⟩⟩⟩⟩⟩⟩⟩⟩⟩⟩⟩
theorem wcs_4 : ∀ M ∈ mtb_4, mwd M ∈ lw_tbl := List.forall_mem_cons.mpr ⟨wc_X9_tellFraction, List.forall_mem_cons.mpr ⟨wc_X9_odds, List.forall_mem_cons.mpr ⟨wc_X9_full, List.forall_mem_cons.mpr ⟨wc_X9_leads, List.forall_mem_cons.mpr ⟨wc_X9_extend, List.forall_mem_cons.mpr ⟨wc_X9_plan, List.forall_mem_cons.mpr ⟨wc_X9_helps, List.forall_mem_cons.mpr ⟨wc_X9_layers, List.forall_mem_cons.mpr ⟨wc_X9_lateSlope, List.forall_mem_cons.mpr ⟨wc_X9_off, List.forall_mem_cons.mpr ⟨wc_X9_isOpen, List.forall_mem_cons.mpr ⟨wc_X9_walled, List.forall_mem_cons.mpr ⟨wc_X9_few, List.forall_mem_cons.mpr ⟨wc_X9_best, List.forall_mem_cons.mpr ⟨wc_X9_lid, List.forall_mem_cons.mpr ⟨wc_X9_form, List.forall_mem_cons.mpr ⟨wc_X9_turn, List.forall_mem_cons.mpr ⟨wc_X9_door, List.forall_mem_cons.mpr ⟨wc_X9_two, List.forall_mem_cons.mpr ⟨wc_X9_brake, List.forall_mem_cons.mpr ⟨wc_X9_stop, List.forall_mem_cons.mpr ⟨wc_X9_pause, List.forall_mem_cons.mpr ⟨wc_X9_stir, List.forall_mem_cons.mpr ⟨wc_X9_spot, List.forall_mem_cons.mpr ⟨wc_X9_wipe, List.forall_mem_cons.mpr ⟨wc_X9_isHand, List.forall_mem_cons.mpr ⟨wc_X9_nearest, List.forall_mem_cons.mpr ⟨wc_X9_distance, List.forall_mem_cons.mpr ⟨wc_X9_far, List.forall_mem_cons.mpr ⟨wc_X9_who, fun _ h => absurd h List.not_mem_nil⟩⟩⟩⟩⟩⟩⟩⟩⟩⟩⟩⟩⟩⟩⟩⟩⟩⟩⟩⟩⟩⟩⟩⟩⟩⟩⟩⟩⟩⟩
theorem wcs_5 : ∀ M ∈ mtb_5, mwd M ∈ lw_tbl := List.forall_mem_cons.mpr ⟨wc_X9_film, List.forall_mem_cons.mpr ⟨wc_X9_fits, List.forall_mem_cons.mpr ⟨wc_X9_reads, List.forall_mem_cons.mpr ⟨wc_X9_seed, List.forall_mem_cons.mpr ⟨wc_X9_keep, List.forall_mem_cons.mpr ⟨wc_X9_again, List.forall_mem_cons.mpr ⟨wc_X9_toldLawBits, List.forall_mem_cons.mpr ⟨wc_X9_count, List.forall_mem_cons.mpr ⟨wc_X9_row, List.forall_mem_cons.mpr ⟨wc_X10_begin, List.forall_mem_cons.mpr ⟨wc_X10_init, List.forall_mem_cons.mpr ⟨wc_X10_thrown, List.forall_mem_cons.mpr ⟨wc_X10_in, List.forall_mem_cons.mpr ⟨wc_X10_lost, List.forall_mem_cons.mpr ⟨wc_X10_tell, List.forall_mem_cons.mpr ⟨wc_X10_cup, List.forall_mem_cons.mpr ⟨wc_X10_set, List.forall_mem_cons.mpr ⟨wc_X10_isGap, List.forall_mem_cons.mpr ⟨wc_X10_wall, List.forall_mem_cons.mpr ⟨wc_X10_sheet, List.forall_mem_cons.mpr ⟨wc_X10_fresh, List.forall_mem_cons.mpr ⟨wc_X10_lean, List.forall_mem_cons.mpr ⟨wc_X10_tilt, List.forall_mem_cons.mpr ⟨wc_X10_slope, List.forall_mem_cons.mpr ⟨wc_X10_flows, List.forall_mem_cons.mpr ⟨wc_X10_over, List.forall_mem_cons.mpr ⟨wc_X10_pass, List.forall_mem_cons.mpr ⟨wc_X10_tick, List.forall_mem_cons.mpr ⟨wc_X10_cell, List.forall_mem_cons.mpr ⟨wc_X10_of, fun _ h => absurd h List.not_mem_nil⟩⟩⟩⟩⟩⟩⟩⟩⟩⟩⟩⟩⟩⟩⟩⟩⟩⟩⟩⟩⟩⟩⟩⟩⟩⟩⟩⟩⟩⟩
theorem wcs_6 : ∀ M ∈ mtb_6, mwd M ∈ lw_tbl := List.forall_mem_cons.mpr ⟨wc_X10_sign, List.forall_mem_cons.mpr ⟨wc_X10_end, List.forall_mem_cons.mpr ⟨wc_X10_start, List.forall_mem_cons.mpr ⟨wc_X10_here, List.forall_mem_cons.mpr ⟨wc_X10_fine, List.forall_mem_cons.mpr ⟨wc_X10_fault, List.forall_mem_cons.mpr ⟨wc_X10_passes, List.forall_mem_cons.mpr ⟨wc_X10_need, List.forall_mem_cons.mpr ⟨wc_X10_number, List.forall_mem_cons.mpr ⟨wc_X10_lay, List.forall_mem_cons.mpr ⟨wc_X10_walk, List.forall_mem_cons.mpr ⟨wc_X10_isWalk, List.forall_mem_cons.mpr ⟨wc_X10_steps, List.forall_mem_cons.mpr ⟨wc_X10_product, List.forall_mem_cons.mpr ⟨wc_X10_sum, List.forall_mem_cons.mpr ⟨wc_X10_thing, List.forall_mem_cons.mpr ⟨wc_X10_law, List.forall_mem_cons.mpr ⟨wc_X10_isLaw, List.forall_mem_cons.mpr ⟨wc_X10_bounded, List.forall_mem_cons.mpr ⟨wc_X10_byLaw, List.forall_mem_cons.mpr ⟨wc_X10_byHand, List.forall_mem_cons.mpr ⟨wc_X10_gives, List.forall_mem_cons.mpr ⟨wc_X10_draw, List.forall_mem_cons.mpr ⟨wc_X10_watch, List.forall_mem_cons.mpr ⟨wc_X10_passWatched, List.forall_mem_cons.mpr ⟨wc_X10_goOn, List.forall_mem_cons.mpr ⟨wc_X10_go, List.forall_mem_cons.mpr ⟨wc_X10_put, List.forall_mem_cons.mpr ⟨wc_X10_take, List.forall_mem_cons.mpr ⟨wc_X10_putBy, fun _ h => absurd h List.not_mem_nil⟩⟩⟩⟩⟩⟩⟩⟩⟩⟩⟩⟩⟩⟩⟩⟩⟩⟩⟩⟩⟩⟩⟩⟩⟩⟩⟩⟩⟩⟩
theorem wcs_7 : ∀ M ∈ mtb_7, mwd M ∈ lw_tbl := List.forall_mem_cons.mpr ⟨wc_X10_bringBack, List.forall_mem_cons.mpr ⟨wc_X10_wholly, List.forall_mem_cons.mpr ⟨wc_X10_letGo, List.forall_mem_cons.mpr ⟨wc_X10_isTilt, List.forall_mem_cons.mpr ⟨wc_X10_swing, List.forall_mem_cons.mpr ⟨wc_X10_dies, List.forall_mem_cons.mpr ⟨wc_X10_worst, List.forall_mem_cons.mpr ⟨wc_X10_would, List.forall_mem_cons.mpr ⟨wc_X10_common, List.forall_mem_cons.mpr ⟨wc_X10_tellPart, List.forall_mem_cons.mpr ⟨wc_X10_odds, List.forall_mem_cons.mpr ⟨wc_X10_full, List.forall_mem_cons.mpr ⟨wc_X10_leads, List.forall_mem_cons.mpr ⟨wc_X10_keepPlan, List.forall_mem_cons.mpr ⟨wc_X10_fromPlan, List.forall_mem_cons.mpr ⟨wc_X10_planFrom, List.forall_mem_cons.mpr ⟨wc_X10_plan, List.forall_mem_cons.mpr ⟨wc_X10_helps, List.forall_mem_cons.mpr ⟨wc_X10_leastOf, List.forall_mem_cons.mpr ⟨wc_X10_layers, List.forall_mem_cons.mpr ⟨wc_X10_greatestSlope, List.forall_mem_cons.mpr ⟨wc_X10_off, List.forall_mem_cons.mpr ⟨wc_X10_few, List.forall_mem_cons.mpr ⟨wc_X10_best, List.forall_mem_cons.mpr ⟨wc_X10_lid, List.forall_mem_cons.mpr ⟨wc_X10_form, List.forall_mem_cons.mpr ⟨wc_X10_withPause, List.forall_mem_cons.mpr ⟨wc_X10_turn, List.forall_mem_cons.mpr ⟨wc_X10_door, List.forall_mem_cons.mpr ⟨wc_X10_two, fun _ h => absurd h List.not_mem_nil⟩⟩⟩⟩⟩⟩⟩⟩⟩⟩⟩⟩⟩⟩⟩⟩⟩⟩⟩⟩⟩⟩⟩⟩⟩⟩⟩⟩⟩⟩
theorem wcs_8 : ∀ M ∈ mtb_8, mwd M ∈ lw_tbl := List.forall_mem_cons.mpr ⟨wc_X10_stop, List.forall_mem_cons.mpr ⟨wc_X10_pause, List.forall_mem_cons.mpr ⟨wc_X10_stir, List.forall_mem_cons.mpr ⟨wc_X10_spot, List.forall_mem_cons.mpr ⟨wc_X10_wipe, List.forall_mem_cons.mpr ⟨wc_X10_farFrom, List.forall_mem_cons.mpr ⟨wc_X10_far, List.forall_mem_cons.mpr ⟨wc_X10_who, List.forall_mem_cons.mpr ⟨wc_X10_film, List.forall_mem_cons.mpr ⟨wc_X10_fits, List.forall_mem_cons.mpr ⟨wc_X10_reads, List.forall_mem_cons.mpr ⟨wc_X10_seed, List.forall_mem_cons.mpr ⟨wc_X10_keep, List.forall_mem_cons.mpr ⟨wc_X10_again, List.forall_mem_cons.mpr ⟨wc_X10_count, List.forall_mem_cons.mpr ⟨wc_X10_row, List.forall_mem_cons.mpr ⟨wc_J9_abs_0f7a4, List.forall_mem_cons.mpr ⟨wc_J9_abs_067f4, List.forall_mem_cons.mpr ⟨wc_J9_max_7cf53, List.forall_mem_cons.mpr ⟨wc_J9_min_7cf53, List.forall_mem_cons.mpr ⟨wc_L_cell, List.forall_mem_cons.mpr ⟨wc_L_of, List.forall_mem_cons.mpr ⟨wc_L_gives, List.forall_mem_cons.mpr ⟨wc_L_row, fun _ h => absurd h List.not_mem_nil⟩⟩⟩⟩⟩⟩⟩⟩⟩⟩⟩⟩⟩⟩⟩⟩⟩⟩⟩⟩⟩⟩⟩⟩
theorem mtc_in : ∀ M ∈ mtb, mwd M ∈ lw_tbl := by
  intro M h
  unfold mtb at h
  simp only [List.mem_append] at h
  rcases h with ((((((((h | h) | h) | h) | h) | h) | h) | h) | h)
  · exact wcs_0 M h
  · exact wcs_1 M h
  · exact wcs_2 M h
  · exact wcs_3 M h
  · exact wcs_4 M h
  · exact wcs_5 M h
  · exact wcs_6 M h
  · exact wcs_7 M h
  · exact wcs_8 M h
def par (y : MethodName) (n : Nat) : Bool := decide ((parseMethodDescriptor y.desc).map (fun d => d.parameters.length) = some n)
def cchk (e : Nat × Nat × Nat × Nat × Nat × List Nat) : Bool := match e with
  | (o, i, kd, na, x, ps) => match kd, ps with
    | 0, [p0, p3, p4] => okw p0 (.methodLink (onm o) i (mnm (mtb.getD x mX0_init))) && (okw p3 (.instanceMethod (mnm (mtb.getD x mX0_init))) && (okw p4 (.selects (mnm (mtb.getD x mX0_init)).cls (mnm (mtb.getD x mX0_init)) (mnm (mtb.getD x mX0_init))) && (decide (1 ≤ na) && (par (mnm (mtb.getD x mX0_init)) (na - 1) && (mhh (mtb.getD x mX0_init)).isEmpty))))
    | 1, [p0, p3] => okw p0 (.methodLink (onm o) i (mnm (mtb.getD x mX0_init))) && (okw p3 (.static (mnm (mtb.getD x mX0_init))) && (par (mnm (mtb.getD x mX0_init)) na && (mhh (mtb.getD x mX0_init)).isEmpty))
    | 8, [p0, p3] => okw p0 (.methodLink (onm o) i (mnm (mtb.getD x mX0_init))) && (okw p3 (.static (mnm (mtb.getD x mX0_init))) && (par (mnm (mtb.getD x mX0_init)) na && !(mhh (mtb.getD x mX0_init)).isEmpty))
    | 2, [p0, p3] => okw p0 (.methodLink (onm o) i (mnm (mtb.getD x mX0_init))) && (okw p3 (.instanceMethod (mnm (mtb.getD x mX0_init))) && (decide (1 ≤ na) && (par (mnm (mtb.getD x mX0_init)) (na - 1) && ((mhh (mtb.getD x mX0_init)).isEmpty && (decide ((mnm (mtb.getD x mX0_init)).name = "<init>") && (decide (mrt (mtb.getD x mX0_init) = none) && decide (mkd (mtb.getD x mX0_init) = 1)))))))
    | 4, [p0, p3] => onw p0 (.methodLinkNest (onm o) i (mnm (mtb.getD x mX0_init)) "CoffeeThatSlops") && (okw p3 (.static (mnm (mtb.getD x mX0_init))) && (par (mnm (mtb.getD x mX0_init)) na && (mhh (mtb.getD x mX0_init)).isEmpty))
    | 5, [p0, p3] => onw p0 (.methodLinkNest (onm o) i (mnm (mtb.getD x mX0_init)) "CoffeeThatSlops") && (okw p3 (.instanceMethod (mnm (mtb.getD x mX0_init))) && (decide (1 ≤ na) && (par (mnm (mtb.getD x mX0_init)) (na - 1) && ((mhh (mtb.getD x mX0_init)).isEmpty && (decide ((mnm (mtb.getD x mX0_init)).name = "<init>") && (decide (mrt (mtb.getD x mX0_init) = none) && decide (mkd (mtb.getD x mX0_init) = 1)))))))
    | 6, [p0, p1] => okw p0 (.methodLink (onm o) i objectInit) && okw p1 (.instanceMethod objectInit)
    | 7, [p0] => okw p0 (.methodLink (onm o) i arraycopyName)
    | _, _ => false
theorem mtb_ok : mchk mtb mpos = true := by decide +kernel
theorem calt_ok_0 : calt_0.all cchk = true := by decide +kernel
theorem calt_ok_1 : calt_1.all cchk = true := by decide +kernel
theorem calt_ok_2 : calt_2.all cchk = true := by decide +kernel
theorem calt_ok_3 : calt_3.all cchk = true := by decide +kernel
theorem calt_ok_4 : calt_4.all cchk = true := by decide +kernel
theorem calt_ok_5 : calt_5.all cchk = true := by decide +kernel
theorem calt_ok_6 : calt_6.all cchk = true := by decide +kernel
theorem calt_ok_7 : calt_7.all cchk = true := by decide +kernel
theorem calt_ok_8 : calt_8.all cchk = true := by decide +kernel
theorem calt_ok : calt.all cchk = true := by
  unfold calt
  simp only [List.all_append, calt_ok_0, calt_ok_1, calt_ok_2, calt_ok_3, calt_ok_4, calt_ok_5, calt_ok_6, calt_ok_7, calt_ok_8, Bool.and_self]
def nchk (e : Nat × Nat × Nat × List Nat) : Bool := match e with
  | (o, i, kd, ps) => match ps with
    | [p0, p1, p2] => decide (1 ≤ kd) && (decide (kd ≤ 11) && (okw p0 (.classLink (onm o) i (clC kd)) && (okw p1 (.instantiable (clC kd) (clN kd)) && okw p2 (.initialized (clC kd)))))
    | _ => false
theorem nwt_ok : nwt.all nchk = true := by decide +kernel
theorem k11 {P : Nat → Prop} (h : P 1 ∧ P 2 ∧ P 3 ∧ P 4 ∧ P 5 ∧ P 6 ∧ P 7 ∧ P 8 ∧ P 9 ∧ P 10 ∧ P 11) : ∀ k, 1 ≤ k → k ≤ 11 → P k := by
  intro k h1 h2
  obtain ⟨a1, a2, a3, a4, a5, a6, a7, a8, a9, a10, a11⟩ := h
  rcases (by omega : k = 1 ∨ k = 2 ∨ k = 3 ∨ k = 4 ∨ k = 5 ∨ k = 6 ∨ k = 7 ∨ k = 8 ∨ k = 9 ∨ k = 10 ∨ k = 11) with rfl | rfl | rfl | rfl | rfl | rfl | rfl | rfl | rfl | rfl | rfl <;> assumption
theorem cl_cl : ∀ k, 1 ≤ k → k ≤ 11 → vwCl[k - 1]? = some (clC k, clT k, clN k) := k11 ⟨rfl, rfl, rfl, rfl, rfl, rfl, rfl, rfl, rfl, rfl, rfl⟩
theorem cl_nm : ∀ k, 1 ≤ k → k ≤ 11 → ∀ a, a < clN k → ∀ b, b < clN k → a ≠ b → (clT k a).2.1 ≠ (clT k b).2.1 := k11 ⟨nmX0, nmX1, nmX2, nmX3, nmX4, nmX5, nmX6, nmX7, nmX8, nmX9, nmX10⟩
theorem cl_ty : ∀ k, 1 ≤ k → k ≤ 11 → ∀ j, j < clN k → parseFieldDescriptor (clT k j).2.2.1 = some (clY k j) := k11 ⟨tyX0_ok, tyX1_ok, tyX2_ok, tyX3_ok, tyX4_ok, tyX5_ok, tyX6_ok, tyX7_ok, tyX8_ok, tyX9_ok, tyX10_ok⟩
theorem cl_in : ∀ k, 1 ≤ k → k ≤ 11 → ∀ w ∈ u_ws (clC k) (clT k) (clN k), w ∈ bigW := k11 ⟨by decide +kernel, by decide +kernel, by decide +kernel, by decide +kernel, by decide +kernel, by decide +kernel, by decide +kernel, by decide +kernel, by decide +kernel, by decide +kernel, by decide +kernel⟩
theorem cl_tc : ∀ k, 1 ≤ k → k ≤ 11 → ∀ j, j < clN k → tyok (tcd (clT k j).2.2.1) (clY k j) = true := k11 ⟨by decide +kernel, by decide +kernel, by decide +kernel, by decide +kernel, by decide +kernel, by decide +kernel, by decide +kernel, by decide +kernel, by decide +kernel, by decide +kernel, by decide +kernel⟩
