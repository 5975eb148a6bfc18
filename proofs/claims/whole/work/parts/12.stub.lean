set_option maxRecDepth 100000 in
theorem g_dh_init : m_dh_init.2.2.2.2.all (chkE m_dh_init) = true := sorry
theorem p_dh_init : plainFor y_dh_init = true := sorry
set_option maxRecDepth 100000 in
theorem g_tx_init : m_tx_init.2.2.2.2.all (chkE m_tx_init) = true := sorry
theorem p_tx_init : plainFor y_tx_init = true := sorry
set_option maxRecDepth 100000 in
theorem g_sc_init : m_sc_init.2.2.2.2.all (chkE m_sc_init) = true := sorry
theorem p_sc_init : plainFor y_sc_init = true := sorry
set_option maxRecDepth 100000 in
theorem g_ca_init : m_ca_init.2.2.2.2.all (chkE m_ca_init) = true := sorry
theorem p_ca_init : plainFor y_ca_init = true := sorry
set_option maxRecDepth 100000 in
theorem g_be_init : m_be_init.2.2.2.2.all (chkE m_be_init) = true := sorry
theorem p_be_init : plainFor y_be_init = true := sorry
set_option maxRecDepth 100000 in
theorem g_fl_init : m_fl_init.2.2.2.2.all (chkE m_fl_init) = true := sorry
theorem p_fl_init : plainFor y_fl_init = true := sorry
set_option maxRecDepth 100000 in
theorem g_ru_init : m_ru_init.2.2.2.2.all (chkE m_ru_init) = true := sorry
theorem p_ru_init : plainFor y_ru_init = true := sorry
set_option maxRecDepth 100000 in
theorem g_ac_init : m_ac_init.2.2.2.2.all (chkE m_ac_init) = true := sorry
theorem p_ac_init : plainFor y_ac_init = true := sorry
set_option maxRecDepth 100000 in
theorem g_co_init : m_co_init.2.2.2.2.all (chkE m_co_init) = true := sorry
theorem p_co_init : plainFor y_co_init = true := sorry
set_option maxRecDepth 100000 in
theorem g_rm_init : m_rm_init.2.2.2.2.all (chkE m_rm_init) = true := sorry
theorem p_rm_init : plainFor y_rm_init = true := sorry
set_option maxRecDepth 100000 in
theorem g_hi_init : m_hi_init.2.2.2.2.all (chkE m_hi_init) = true := sorry
theorem p_hi_init : plainFor y_hi_init = true := sorry
set_option maxRecDepth 100000 in
theorem g_fu_init : m_fu_init.2.2.2.2.all (chkE m_fu_init) = true := sorry
theorem p_fu_init : plainFor y_fu_init = true := sorry
set_option maxRecDepth 100000 in
theorem g_dh_sign : m_dh_sign.2.2.2.2.all (chkE m_dh_sign) = true := sorry
theorem p_dh_sign : plainFor y_dh_sign = true := sorry
theorem v_dh_sign : calleeV m_dh_sign 8331 8329 8330 4097 1 = true := sorry
set_option maxRecDepth 100000 in
theorem g_tx_addFour : m_tx_addFour.2.2.2.2.all (chkE m_tx_addFour) = true := sorry
theorem p_tx_addFour : plainFor y_tx_addFour = true := sorry
theorem v_tx_addFour : calleeV m_tx_addFour 8335 8333 8334 4098 1 = true := sorry
set_option maxRecDepth 100000 in
theorem g_dh_end : m_dh_end.2.2.2.2.all (chkE m_dh_end) = true := sorry
theorem p_dh_end : plainFor y_dh_end = true := sorry
theorem v_dh_end : calleeV m_dh_end 8339 8337 8338 4097 1 = true := sorry
set_option maxRecDepth 100000 in
theorem g_tx_cut : m_tx_cut.2.2.2.2.all (chkE m_tx_cut) = true := sorry
theorem p_tx_cut : plainFor y_tx_cut = true := sorry
theorem v_tx_cut : calleeV m_tx_cut 8343 8341 8342 4098 1 = true := sorry
set_option maxRecDepth 100000 in
theorem g_dh_stable : m_dh_stable.2.2.2.2.all (chkE m_dh_stable) = true := sorry
theorem p_dh_stable : plainFor y_dh_stable = true := sorry
theorem v_dh_stable : calleeV m_dh_stable 8347 8345 8346 4097 0 = true := sorry
set_option maxRecDepth 100000 in
theorem g_tx_begin : m_tx_begin.2.2.2.2.all (chkE m_tx_begin) = true := sorry
theorem p_tx_begin : plainFor y_tx_begin = true := sorry
theorem v_tx_begin : calleeV m_tx_begin 8351 8349 8350 4098 1 = true := sorry
set_option maxRecDepth 100000 in
theorem g_jm_min : m_jm_min.2.2.2.2.all (chkE m_jm_min) = true := sorry
theorem v_jm_min : calleeS m_jm_min 8354 8353 4110 2 = true := sorry
set_option maxRecDepth 100000 in
theorem g_dh_readLines : m_dh_readLines.2.2.2.2.all (chkE m_dh_readLines) = true := sorry
theorem p_dh_readLines : plainFor y_dh_readLines = true := sorry
theorem v_dh_readLines : calleeV m_dh_readLines 8358 8357 0 4097 0 = true := sorry
set_option maxRecDepth 100000 in
theorem g_dh_readLine : m_dh_readLine.2.2.2.2.all (chkE m_dh_readLine) = true := sorry
theorem p_dh_readLine : plainFor y_dh_readLine = true := sorry
theorem v_dh_readLine : calleeV m_dh_readLine 8362 8361 1 4097 1 = true := sorry
set_option maxRecDepth 100000 in
theorem g_tx_digit : m_tx_digit.2.2.2.2.all (chkE m_tx_digit) = true := sorry
theorem p_tx_digit : plainFor y_tx_digit = true := sorry
theorem v_tx_digit : calleeV m_tx_digit 8366 8364 8365 4098 0 = true := sorry
set_option maxRecDepth 100000 in
theorem g_tx_next : m_tx_next.2.2.2.2.all (chkE m_tx_next) = true := sorry
theorem p_tx_next : plainFor y_tx_next = true := sorry
theorem v_tx_next : calleeV m_tx_next 8370 8368 8369 4098 0 = true := sorry
set_option maxRecDepth 100000 in
theorem g_tx_takes : m_tx_takes.2.2.2.2.all (chkE m_tx_takes) = true := sorry
theorem p_tx_takes : plainFor y_tx_takes = true := sorry
theorem v_tx_takes : calleeV m_tx_takes 8374 8372 8373 4098 1 = true := sorry
set_option maxRecDepth 100000 in
theorem g_be_stall : m_be_stall.2.2.2.2.all (chkE m_be_stall) = true := sorry
theorem p_be_stall : plainFor y_be_stall = true := sorry
theorem v_be_stall : calleeV m_be_stall 8378 8376 8377 4101 1 = true := sorry
set_option maxRecDepth 100000 in
theorem g_be_addPlace : m_be_addPlace.2.2.2.2.all (chkE m_be_addPlace) = true := sorry
theorem p_be_addPlace : plainFor y_be_addPlace = true := sorry
theorem v_be_addPlace : calleeV m_be_addPlace 8382 8380 8381 4101 1 = true := sorry
set_option maxRecDepth 100000 in
theorem g_tx_wrong : m_tx_wrong.2.2.2.2.all (chkE m_tx_wrong) = true := sorry
theorem p_tx_wrong : plainFor y_tx_wrong = true := sorry
theorem v_tx_wrong : calleeV m_tx_wrong 8386 8384 8385 4098 0 = true := sorry
set_option maxRecDepth 100000 in
theorem g_tx_isOver : m_tx_isOver.2.2.2.2.all (chkE m_tx_isOver) = true := sorry
theorem p_tx_isOver : plainFor y_tx_isOver = true := sorry
theorem v_tx_isOver : calleeV m_tx_isOver 8390 8388 8389 4098 0 = true := sorry
set_option maxRecDepth 100000 in
theorem g_tx_empty : m_tx_empty.2.2.2.2.all (chkE m_tx_empty) = true := sorry
theorem p_tx_empty : plainFor y_tx_empty = true := sorry
theorem v_tx_empty : calleeV m_tx_empty 8394 8392 8393 4098 0 = true := sorry
set_option maxRecDepth 100000 in
theorem g_hi_clear : m_hi_clear.2.2.2.2.all (chkE m_hi_clear) = true := sorry
theorem p_hi_clear : plainFor y_hi_clear = true := sorry
theorem v_hi_clear : calleeV m_hi_clear 8398 8396 8397 4107 0 = true := sorry
set_option maxRecDepth 100000 in
theorem g_dh_flies : m_dh_flies.2.2.2.2.all (chkE m_dh_flies) = true := sorry
theorem p_dh_flies : plainFor y_dh_flies = true := sorry
theorem v_dh_flies : calleeV m_dh_flies 8402 8400 8401 4097 0 = true := sorry
set_option maxRecDepth 100000 in
theorem g_fl_read : m_fl_read.2.2.2.2.all (chkE m_fl_read) = true := sorry
theorem p_fl_read : plainFor y_fl_read = true := sorry
theorem v_fl_read : calleeV m_fl_read 8406 8404 8405 4102 1 = true := sorry
set_option maxRecDepth 100000 in
theorem g_dh_rule : m_dh_rule.2.2.2.2.all (chkE m_dh_rule) = true := sorry
theorem p_dh_rule : plainFor y_dh_rule = true := sorry
theorem v_dh_rule : calleeV m_dh_rule 8414 8412 8413 4097 0 = true := sorry
set_option maxRecDepth 100000 in
theorem g_ru_read : m_ru_read.2.2.2.2.all (chkE m_ru_read) = true := sorry
theorem p_ru_read : plainFor y_ru_read = true := sorry
theorem v_ru_read : calleeV m_ru_read 8418 8416 8417 4103 1 = true := sorry
set_option maxRecDepth 100000 in
theorem g_ru_readThing : m_ru_readThing.2.2.2.2.all (chkE m_ru_readThing) = true := sorry
theorem p_ru_readThing : plainFor y_ru_readThing = true := sorry
theorem v_ru_readThing : calleeV m_ru_readThing 8423 8422 2 4103 1 = true := sorry
set_option maxRecDepth 100000 in
theorem g_ru_readAhead : m_ru_readAhead.2.2.2.2.all (chkE m_ru_readAhead) = true := sorry
theorem p_ru_readAhead : plainFor y_ru_readAhead = true := sorry
theorem v_ru_readAhead : calleeV m_ru_readAhead 8427 8426 3 4103 1 = true := sorry
set_option maxRecDepth 100000 in
theorem g_ru_push : m_ru_push.2.2.2.2.all (chkE m_ru_push) = true := sorry
theorem p_ru_push : plainFor y_ru_push = true := sorry
theorem v_ru_push : calleeV m_ru_push 12288 8431 4 4103 1 = true := sorry
set_option maxRecDepth 100000 in
theorem g_tx_number : m_tx_number.2.2.2.2.all (chkE m_tx_number) = true := sorry
theorem p_tx_number : plainFor y_tx_number = true := sorry
theorem v_tx_number : calleeV m_tx_number 12292 12290 12291 4098 1 = true := sorry
set_option maxRecDepth 100000 in
theorem g_ru_emit : m_ru_emit.2.2.2.2.all (chkE m_ru_emit) = true := sorry
theorem p_ru_emit : plainFor y_ru_emit = true := sorry
theorem v_ru_emit : calleeV m_ru_emit 12297 12296 5 4103 1 = true := sorry
set_option maxRecDepth 100000 in
theorem g_jm_max : m_jm_max.2.2.2.2.all (chkE m_jm_max) = true := sorry
theorem v_jm_max : calleeS m_jm_max 12330 12329 4110 2 = true := sorry
set_option maxRecDepth 100000 in
theorem g_ru_closeBrackets : m_ru_closeBrackets.2.2.2.2.all (chkE m_ru_closeBrackets) = true := sorry
theorem p_ru_closeBrackets : plainFor y_ru_closeBrackets = true := sorry
theorem v_ru_closeBrackets : calleeV m_ru_closeBrackets 12387 12386 6 4103 1 = true := sorry
set_option maxRecDepth 100000 in
theorem g_ru_unwind : m_ru_unwind.2.2.2.2.all (chkE m_ru_unwind) = true := sorry
theorem p_ru_unwind : plainFor y_ru_unwind = true := sorry
theorem v_ru_unwind : calleeV m_ru_unwind 12391 12390 7 4103 1 = true := sorry
set_option maxRecDepth 100000 in
theorem g_ru_waiting : m_ru_waiting.2.2.2.2.all (chkE m_ru_waiting) = true := sorry
theorem p_ru_waiting : plainFor y_ru_waiting = true := sorry
theorem v_ru_waiting : calleeV m_ru_waiting 12395 12394 8 4103 0 = true := sorry
set_option maxRecDepth 100000 in
theorem g_ru_binding : m_ru_binding.2.2.2.2.all (chkE m_ru_binding) = true := sorry
theorem p_ru_binding : plainFor y_ru_binding = true := sorry
theorem v_ru_binding : calleeS m_ru_binding 12398 12397 4103 1 = true := sorry
set_option maxRecDepth 100000 in
theorem g_ru_pop : m_ru_pop.2.2.2.2.all (chkE m_ru_pop) = true := sorry
theorem p_ru_pop : plainFor y_ru_pop = true := sorry
theorem v_ru_pop : calleeV m_ru_pop 12402 12401 9 4103 0 = true := sorry
set_option maxRecDepth 100000 in
theorem g_ru_readOperator : m_ru_readOperator.2.2.2.2.all (chkE m_ru_readOperator) = true := sorry
theorem p_ru_readOperator : plainFor y_ru_readOperator = true := sorry
theorem v_ru_readOperator : calleeV m_ru_readOperator 12406 12405 10 4103 1 = true := sorry
set_option maxRecDepth 100000 in
theorem g_ru_copy : m_ru_copy.2.2.2.2.all (chkE m_ru_copy) = true := sorry
theorem p_ru_copy : plainFor y_ru_copy = true := sorry
theorem v_ru_copy : calleeV m_ru_copy 12411 12409 12410 4103 1 = true := sorry
set_option maxRecDepth 100000 in
theorem g_dh_thistles : m_dh_thistles.2.2.2.2.all (chkE m_dh_thistles) = true := sorry
theorem p_dh_thistles : plainFor y_dh_thistles = true := sorry
theorem v_dh_thistles : calleeV m_dh_thistles 12419 12417 12418 4097 2 = true := sorry
set_option maxRecDepth 100000 in
theorem g_dh_isPlace : m_dh_isPlace.2.2.2.2.all (chkE m_dh_isPlace) = true := sorry
theorem p_dh_isPlace : plainFor y_dh_isPlace = true := sorry
theorem v_dh_isPlace : calleeV m_dh_isPlace 12423 12422 11 4097 2 = true := sorry
set_option maxRecDepth 100000 in
theorem g_dh_isDonkey : m_dh_isDonkey.2.2.2.2.all (chkE m_dh_isDonkey) = true := sorry
theorem p_dh_isDonkey : plainFor y_dh_isDonkey = true := sorry
theorem v_dh_isDonkey : calleeV m_dh_isDonkey 12427 12426 12 4097 1 = true := sorry
set_option maxRecDepth 100000 in
theorem g_be_thistlesOn : m_be_thistlesOn.2.2.2.2.all (chkE m_be_thistlesOn) = true := sorry
theorem p_be_thistlesOn : plainFor y_be_thistlesOn = true := sorry
theorem v_be_thistlesOn : calleeV m_be_thistlesOn 12431 12429 12430 4101 1 = true := sorry
set_option maxRecDepth 100000 in
theorem g_dh_sow : m_dh_sow.2.2.2.2.all (chkE m_dh_sow) = true := sorry
theorem p_dh_sow : plainFor y_dh_sow = true := sorry
theorem v_dh_sow : calleeV m_dh_sow 12435 12433 12434 4097 3 = true := sorry
set_option maxRecDepth 100000 in
theorem g_be_put : m_be_put.2.2.2.2.all (chkE m_be_put) = true := sorry
theorem p_be_put : plainFor y_be_put = true := sorry
theorem v_be_put : calleeV m_be_put 12439 12437 12438 4101 2 = true := sorry
set_option maxRecDepth 100000 in
theorem g_dh_set : m_dh_set.2.2.2.2.all (chkE m_dh_set) = true := sorry
theorem p_dh_set : plainFor y_dh_set = true := sorry
theorem v_dh_set : calleeV m_dh_set 12443 12441 12442 4097 3 = true := sorry
set_option maxRecDepth 100000 in
theorem g_dh_setHunger : m_dh_setHunger.2.2.2.2.all (chkE m_dh_setHunger) = true := sorry
theorem p_dh_setHunger : plainFor y_dh_setHunger = true := sorry
theorem v_dh_setHunger : calleeV m_dh_setHunger 12447 12446 13 4097 2 = true := sorry
set_option maxRecDepth 100000 in
theorem g_dh_sheet : m_dh_sheet.2.2.2.2.all (chkE m_dh_sheet) = true := sorry
theorem p_dh_sheet : plainFor y_dh_sheet = true := sorry
theorem v_dh_sheet : calleeV m_dh_sheet 12451 12449 12450 4097 4 = true := sorry
set_option maxRecDepth 100000 in
theorem g_dh_entryOf : m_dh_entryOf.2.2.2.2.all (chkE m_dh_entryOf) = true := sorry
theorem p_dh_entryOf : plainFor y_dh_entryOf = true := sorry
theorem v_dh_entryOf : calleeS m_dh_entryOf 12454 12453 4097 2 = true := sorry
set_option maxRecDepth 100000 in
theorem g_be_allThistles : m_be_allThistles.2.2.2.2.all (chkE m_be_allThistles) = true := sorry
theorem p_be_allThistles : plainFor y_be_allThistles = true := sorry
theorem v_be_allThistles : calleeV m_be_allThistles 12460 12458 12459 4101 0 = true := sorry
set_option maxRecDepth 100000 in
theorem g_dh_carrot : m_dh_carrot.2.2.2.2.all (chkE m_dh_carrot) = true := sorry
theorem p_dh_carrot : plainFor y_dh_carrot = true := sorry
theorem v_dh_carrot : calleeV m_dh_carrot 12465 12463 12464 4097 4 = true := sorry
set_option maxRecDepth 100000 in
theorem g_dh_isWay : m_dh_isWay.2.2.2.2.all (chkE m_dh_isWay) = true := sorry
theorem p_dh_isWay : plainFor y_dh_isWay = true := sorry
theorem v_dh_isWay : calleeS m_dh_isWay 12468 12467 4097 1 = true := sorry
set_option maxRecDepth 100000 in
theorem g_ca_add : m_ca_add.2.2.2.2.all (chkE m_ca_add) = true := sorry
theorem p_ca_add : plainFor y_ca_add = true := sorry
theorem v_ca_add : calleeV m_ca_add 12472 12470 12471 4100 4 = true := sorry
set_option maxRecDepth 100000 in
theorem g_dh_eat : m_dh_eat.2.2.2.2.all (chkE m_dh_eat) = true := sorry
theorem p_dh_eat : plainFor y_dh_eat = true := sorry
theorem v_dh_eat : calleeV m_dh_eat 12476 12474 12475 4097 0 = true := sorry
set_option maxRecDepth 100000 in
theorem g_ca_dropLatest : m_ca_dropLatest.2.2.2.2.all (chkE m_ca_dropLatest) = true := sorry
theorem p_ca_dropLatest : plainFor y_ca_dropLatest = true := sorry
theorem v_ca_dropLatest : calleeV m_ca_dropLatest 12480 12478 12479 4100 0 = true := sorry
set_option maxRecDepth 100000 in
theorem g_dh_minute : m_dh_minute.2.2.2.2.all (chkE m_dh_minute) = true := sorry
theorem p_dh_minute : plainFor y_dh_minute = true := sorry
theorem v_dh_minute : calleeV m_dh_minute 12484 12482 12483 4097 0 = true := sorry
set_option maxRecDepth 100000 in
theorem g_sc_allStrokes : m_sc_allStrokes.2.2.2.2.all (chkE m_sc_allStrokes) = true := sorry
theorem p_sc_allStrokes : plainFor y_sc_allStrokes = true := sorry
theorem v_sc_allStrokes : calleeV m_sc_allStrokes 12488 12486 12487 4099 0 = true := sorry
set_option maxRecDepth 100000 in
theorem g_hi_prepare : m_hi_prepare.2.2.2.2.all (chkE m_hi_prepare) = true := sorry
theorem p_hi_prepare : plainFor y_hi_prepare = true := sorry
theorem v_hi_prepare : calleeV m_hi_prepare 12492 12490 12491 4107 2 = true := sorry
set_option maxRecDepth 100000 in
theorem g_jm_floorMod : m_jm_floorMod.2.2.2.2.all (chkE m_jm_floorMod) = true := sorry
theorem p_jm_floorMod : plainFor y_jm_floorMod = true := sorry
theorem v_jm_floorMod : calleeS m_jm_floorMod 12495 12494 4110 2 = true := sorry
set_option maxRecDepth 100000 in
theorem g_sc_copyWalk : m_sc_copyWalk.2.2.2.2.all (chkE m_sc_copyWalk) = true := sorry
theorem p_sc_copyWalk : plainFor y_sc_copyWalk = true := sorry
theorem v_sc_copyWalk : calleeV m_sc_copyWalk 12499 12497 12498 4099 1 = true := sorry
set_option maxRecDepth 100000 in
theorem g_be_copy : m_be_copy.2.2.2.2.all (chkE m_be_copy) = true := sorry
theorem p_be_copy : plainFor y_be_copy = true := sorry
theorem v_be_copy : calleeV m_be_copy 12503 12501 12502 4101 1 = true := sorry
set_option maxRecDepth 100000 in
theorem g_be_copyButBook : m_be_copyButBook.2.2.2.2.all (chkE m_be_copyButBook) = true := sorry
theorem p_be_copyButBook : plainFor y_be_copyButBook = true := sorry
theorem v_be_copyButBook : calleeV m_be_copyButBook 12507 12505 12506 4101 1 = true := sorry
set_option maxRecDepth 100000 in
theorem g_ca_copy : m_ca_copy.2.2.2.2.all (chkE m_ca_copy) = true := sorry
theorem p_ca_copy : plainFor y_ca_copy = true := sorry
theorem v_ca_copy : calleeV m_ca_copy 12512 12510 12511 4100 1 = true := sorry
set_option maxRecDepth 100000 in
theorem g_hi_commit : m_hi_commit.2.2.2.2.all (chkE m_hi_commit) = true := sorry
theorem p_hi_commit : plainFor y_hi_commit = true := sorry
theorem v_hi_commit : calleeV m_hi_commit 12517 12515 12516 4107 0 = true := sorry
set_option maxRecDepth 100000 in
theorem g_dh_pass : m_dh_pass.2.2.2.2.all (chkE m_dh_pass) = true := sorry
theorem p_dh_pass : plainFor y_dh_pass = true := sorry
theorem v_dh_pass : calleeV m_dh_pass 12521 12520 14 4097 0 = true := sorry
set_option maxRecDepth 100000 in
theorem g_dh_paceNow : m_dh_paceNow.2.2.2.2.all (chkE m_dh_paceNow) = true := sorry
theorem p_dh_paceNow : plainFor y_dh_paceNow = true := sorry
theorem v_dh_paceNow : calleeV m_dh_paceNow 12525 12524 15 4097 2 = true := sorry
set_option maxRecDepth 100000 in
theorem g_fl_in : m_fl_in.2.2.2.2.all (chkE m_fl_in) = true := sorry
theorem p_fl_in : plainFor y_fl_in = true := sorry
theorem v_fl_in : calleeV m_fl_in 16385 12527 16384 4102 1 = true := sorry
set_option maxRecDepth 100000 in
theorem g_ca_pull : m_ca_pull.2.2.2.2.all (chkE m_ca_pull) = true := sorry
theorem p_ca_pull : plainFor y_ca_pull = true := sorry
theorem v_ca_pull : calleeV m_ca_pull 16390 16388 16389 4100 2 = true := sorry
set_option maxRecDepth 100000 in
theorem g_ru_give : m_ru_give.2.2.2.2.all (chkE m_ru_give) = true := sorry
theorem p_ru_give : plainFor y_ru_give = true := sorry
theorem v_ru_give : calleeV m_ru_give 16394 16392 16393 4103 5 = true := sorry
set_option maxRecDepth 100000 in
theorem g_ru_pace : m_ru_pace.2.2.2.2.all (chkE m_ru_pace) = true := sorry
theorem p_ru_pace : plainFor y_ru_pace = true := sorry
theorem v_ru_pace : calleeV m_ru_pace 16399 16397 16398 4103 0 = true := sorry
set_option maxRecDepth 100000 in
theorem g_ru_combine : m_ru_combine.2.2.2.2.all (chkE m_ru_combine) = true := sorry
theorem p_ru_combine : plainFor y_ru_combine = true := sorry
theorem v_ru_combine : calleeS m_ru_combine 16402 16401 4103 3 = true := sorry
set_option maxRecDepth 100000 in
theorem g_be_walk : m_be_walk.2.2.2.2.all (chkE m_be_walk) = true := sorry
theorem p_be_walk : plainFor y_be_walk = true := sorry
theorem v_be_walk : calleeV m_be_walk 16407 16405 16406 4101 1 = true := sorry
set_option maxRecDepth 100000 in
theorem g_be_enter : m_be_enter.2.2.2.2.all (chkE m_be_enter) = true := sorry
theorem p_be_enter : plainFor y_be_enter = true := sorry
theorem v_be_enter : calleeV m_be_enter 16414 16412 16413 4101 1 = true := sorry
set_option maxRecDepth 100000 in
theorem g_dh_newRow : m_dh_newRow.2.2.2.2.all (chkE m_dh_newRow) = true := sorry
theorem p_dh_newRow : plainFor y_dh_newRow = true := sorry
theorem v_dh_newRow : calleeV m_dh_newRow 16419 16418 16 4097 0 = true := sorry
set_option maxRecDepth 100000 in
theorem g_dh_tell : m_dh_tell.2.2.2.2.all (chkE m_dh_tell) = true := sorry
theorem p_dh_tell : plainFor y_dh_tell = true := sorry
theorem v_dh_tell : calleeV m_dh_tell 16423 16422 17 4097 1 = true := sorry
set_option maxRecDepth 100000 in
theorem g_dh_minutes : m_dh_minutes.2.2.2.2.all (chkE m_dh_minutes) = true := sorry
theorem p_dh_minutes : plainFor y_dh_minutes = true := sorry
theorem v_dh_minutes : calleeV m_dh_minutes 16427 16425 16426 4097 1 = true := sorry
set_option maxRecDepth 100000 in
theorem g_sc_allThistles : m_sc_allThistles.2.2.2.2.all (chkE m_sc_allThistles) = true := sorry
theorem p_sc_allThistles : plainFor y_sc_allThistles = true := sorry
theorem v_sc_allThistles : calleeV m_sc_allThistles 16431 16429 16430 4099 0 = true := sorry
set_option maxRecDepth 100000 in
theorem g_dh_passMany : m_dh_passMany.2.2.2.2.all (chkE m_dh_passMany) = true := sorry
theorem p_dh_passMany : plainFor y_dh_passMany = true := sorry
theorem v_dh_passMany : calleeV m_dh_passMany 16436 16435 18 4097 1 = true := sorry
set_option maxRecDepth 100000 in
theorem g_dh_day : m_dh_day.2.2.2.2.all (chkE m_dh_day) = true := sorry
theorem p_dh_day : plainFor y_dh_day = true := sorry
theorem v_dh_day : calleeV m_dh_day 16440 16438 16439 4097 0 = true := sorry
set_option maxRecDepth 100000 in
theorem g_ac_read : m_ac_read.2.2.2.2.all (chkE m_ac_read) = true := sorry
theorem p_ac_read : plainFor y_ac_read = true := sorry
theorem v_ac_read : calleeV m_ac_read 16444 16442 16443 4104 1 = true := sorry
set_option maxRecDepth 100000 in
theorem g_ac_readAct : m_ac_readAct.2.2.2.2.all (chkE m_ac_readAct) = true := sorry
theorem p_ac_readAct : plainFor y_ac_readAct = true := sorry
theorem v_ac_readAct : calleeV m_ac_readAct 16449 16448 19 4104 2 = true := sorry
set_option maxRecDepth 100000 in
theorem g_ac_readBetween : m_ac_readBetween.2.2.2.2.all (chkE m_ac_readBetween) = true := sorry
theorem p_ac_readBetween : plainFor y_ac_readBetween = true := sorry
theorem v_ac_readBetween : calleeS m_ac_readBetween 16455 16454 4104 2 = true := sorry
set_option maxRecDepth 100000 in
theorem g_dh_doAct : m_dh_doAct.2.2.2.2.all (chkE m_dh_doAct) = true := sorry
theorem p_dh_doAct : plainFor y_dh_doAct = true := sorry
theorem v_dh_doAct : calleeV m_dh_doAct 16460 16459 20 4097 1 = true := sorry
set_option maxRecDepth 100000 in
theorem g_dh_undo : m_dh_undo.2.2.2.2.all (chkE m_dh_undo) = true := sorry
theorem p_dh_undo : plainFor y_dh_undo = true := sorry
theorem v_dh_undo : calleeV m_dh_undo 16466 16464 16465 4097 0 = true := sorry
set_option maxRecDepth 100000 in
theorem g_hi_takeBack : m_hi_takeBack.2.2.2.2.all (chkE m_hi_takeBack) = true := sorry
theorem p_hi_takeBack : plainFor y_hi_takeBack = true := sorry
theorem v_hi_takeBack : calleeV m_hi_takeBack 16470 16468 16469 4107 1 = true := sorry
set_option maxRecDepth 100000 in
theorem g_dh_struck : m_dh_struck.2.2.2.2.all (chkE m_dh_struck) = true := sorry
theorem p_dh_struck : plainFor y_dh_struck = true := sorry
theorem v_dh_struck : calleeV m_dh_struck 16474 16472 16473 4097 2 = true := sorry
set_option maxRecDepth 100000 in
theorem g_be_minuteOf : m_be_minuteOf.2.2.2.2.all (chkE m_be_minuteOf) = true := sorry
theorem p_be_minuteOf : plainFor y_be_minuteOf = true := sorry
theorem v_be_minuteOf : calleeV m_be_minuteOf 16478 16476 16477 4101 1 = true := sorry
set_option maxRecDepth 100000 in
theorem g_dh_took : m_dh_took.2.2.2.2.all (chkE m_dh_took) = true := sorry
theorem p_dh_took : plainFor y_dh_took = true := sorry
theorem v_dh_took : calleeV m_dh_took 16482 16480 16481 4097 2 = true := sorry
set_option maxRecDepth 100000 in
theorem g_dh_longest : m_dh_longest.2.2.2.2.all (chkE m_dh_longest) = true := sorry
theorem p_dh_longest : plainFor y_dh_longest = true := sorry
theorem v_dh_longest : calleeV m_dh_longest 16486 16484 16485 4097 1 = true := sorry
set_option maxRecDepth 100000 in
theorem g_dh_ahead : m_dh_ahead.2.2.2.2.all (chkE m_dh_ahead) = true := sorry
theorem p_dh_ahead : plainFor y_dh_ahead = true := sorry
theorem v_dh_ahead : calleeV m_dh_ahead 16490 16488 16489 4097 2 = true := sorry
set_option maxRecDepth 100000 in
theorem g_dh_look : m_dh_look.2.2.2.2.all (chkE m_dh_look) = true := sorry
theorem p_dh_look : plainFor y_dh_look = true := sorry
theorem v_dh_look : calleeV m_dh_look 16494 16493 21 4097 2 = true := sorry
set_option maxRecDepth 100000 in
theorem g_fu_begin : m_fu_begin.2.2.2.2.all (chkE m_fu_begin) = true := sorry
theorem p_fu_begin : plainFor y_fu_begin = true := sorry
theorem v_fu_begin : calleeV m_fu_begin 16498 16496 16497 4108 3 = true := sorry
set_option maxRecDepth 100000 in
theorem g_fu_run : m_fu_run.2.2.2.2.all (chkE m_fu_run) = true := sorry
theorem p_fu_run : plainFor y_fu_run = true := sorry
theorem v_fu_run : calleeV m_fu_run 16503 16501 16502 4108 2 = true := sorry
set_option maxRecDepth 100000 in
theorem g_fu_step : m_fu_step.2.2.2.2.all (chkE m_fu_step) = true := sorry
theorem p_fu_step : plainFor y_fu_step = true := sorry
theorem v_fu_step : calleeV m_fu_step 16507 16505 16506 4108 0 = true := sorry
set_option maxRecDepth 100000 in
theorem g_dh_when : m_dh_when.2.2.2.2.all (chkE m_dh_when) = true := sorry
theorem p_dh_when : plainFor y_dh_when = true := sorry
theorem v_dh_when : calleeV m_dh_when 16516 16514 16515 4097 2 = true := sorry
set_option maxRecDepth 100000 in
theorem g_dh_isAskedStroke : m_dh_isAskedStroke.2.2.2.2.all (chkE m_dh_isAskedStroke) = true := sorry
theorem p_dh_isAskedStroke : plainFor y_dh_isAskedStroke = true := sorry
theorem v_dh_isAskedStroke : calleeS m_dh_isAskedStroke 16519 16518 4097 1 = true := sorry
set_option maxRecDepth 100000 in
theorem g_fu_afterStroke : m_fu_afterStroke.2.2.2.2.all (chkE m_fu_afterStroke) = true := sorry
theorem p_fu_afterStroke : plainFor y_fu_afterStroke = true := sorry
theorem v_fu_afterStroke : calleeV m_fu_afterStroke 16523 16521 16522 4108 1 = true := sorry
set_option maxRecDepth 100000 in
theorem g_fu_strokeMinute : m_fu_strokeMinute.2.2.2.2.all (chkE m_fu_strokeMinute) = true := sorry
theorem p_fu_strokeMinute : plainFor y_fu_strokeMinute = true := sorry
theorem v_fu_strokeMinute : calleeV m_fu_strokeMinute 16528 16527 22 4108 1 = true := sorry
set_option maxRecDepth 100000 in
theorem g_dh_strikes : m_dh_strikes.2.2.2.2.all (chkE m_dh_strikes) = true := sorry
theorem p_dh_strikes : plainFor y_dh_strikes = true := sorry
theorem v_dh_strikes : calleeV m_dh_strikes 16532 16530 16531 4097 2 = true := sorry
set_option maxRecDepth 100000 in
theorem g_dh_stops : m_dh_stops.2.2.2.2.all (chkE m_dh_stops) = true := sorry
theorem p_dh_stops : plainFor y_dh_stops = true := sorry
theorem v_dh_stops : calleeV m_dh_stops 16537 16535 16536 4097 1 = true := sorry
set_option maxRecDepth 100000 in
theorem g_dh_eats : m_dh_eats.2.2.2.2.all (chkE m_dh_eats) = true := sorry
theorem p_dh_eats : plainFor y_dh_eats = true := sorry
theorem v_dh_eats : calleeV m_dh_eats 16542 16540 16541 4097 2 = true := sorry
set_option maxRecDepth 100000 in
theorem g_dh_owe : m_dh_owe.2.2.2.2.all (chkE m_dh_owe) = true := sorry
theorem p_dh_owe : plainFor y_dh_owe = true := sorry
theorem v_dh_owe : calleeV m_dh_owe 16546 16544 16545 4097 5 = true := sorry
set_option maxRecDepth 100000 in
theorem g_dh_isPerson : m_dh_isPerson.2.2.2.2.all (chkE m_dh_isPerson) = true := sorry
theorem p_dh_isPerson : plainFor y_dh_isPerson = true := sorry
theorem v_dh_isPerson : calleeS m_dh_isPerson 16549 16548 4097 1 = true := sorry
set_option maxRecDepth 100000 in
theorem g_co_add : m_co_add.2.2.2.2.all (chkE m_co_add) = true := sorry
theorem p_co_add : plainFor y_co_add = true := sorry
theorem v_co_add : calleeV m_co_add 16553 16551 16552 4105 5 = true := sorry
set_option maxRecDepth 100000 in
theorem g_dh_tear : m_dh_tear.2.2.2.2.all (chkE m_dh_tear) = true := sorry
theorem p_dh_tear : plainFor y_dh_tear = true := sorry
theorem v_dh_tear : calleeV m_dh_tear 16557 16555 16556 4097 0 = true := sorry
set_option maxRecDepth 100000 in
theorem g_dh_due : m_dh_due.2.2.2.2.all (chkE m_dh_due) = true := sorry
theorem p_dh_due : plainFor y_dh_due = true := sorry
theorem v_dh_due : calleeV m_dh_due 16561 16559 16560 4097 3 = true := sorry
set_option maxRecDepth 100000 in
theorem g_co_has : m_co_has.2.2.2.2.all (chkE m_co_has) = true := sorry
theorem p_co_has : plainFor y_co_has = true := sorry
theorem v_co_has : calleeV m_co_has 16565 16563 16564 4105 1 = true := sorry
set_option maxRecDepth 100000 in
theorem g_dh_isLaw : m_dh_isLaw.2.2.2.2.all (chkE m_dh_isLaw) = true := sorry
theorem p_dh_isLaw : plainFor y_dh_isLaw = true := sorry
theorem v_dh_isLaw : calleeS m_dh_isLaw 16568 16567 4097 1 = true := sorry
set_option maxRecDepth 100000 in
theorem g_dh_isFar : m_dh_isFar.2.2.2.2.all (chkE m_dh_isFar) = true := sorry
theorem p_dh_isFar : plainFor y_dh_isFar = true := sorry
theorem v_dh_isFar : calleeS m_dh_isFar 16571 16570 4097 1 = true := sorry
set_option maxRecDepth 100000 in
theorem g_fu_timesStruck : m_fu_timesStruck.2.2.2.2.all (chkE m_fu_timesStruck) = true := sorry
theorem p_fu_timesStruck : plainFor y_fu_timesStruck = true := sorry
theorem v_fu_timesStruck : calleeV m_fu_timesStruck 16575 16573 16574 4108 1 = true := sorry
set_option maxRecDepth 100000 in
theorem g_fu_isHour : m_fu_isHour.2.2.2.2.all (chkE m_fu_isHour) = true := sorry
theorem p_fu_isHour : plainFor y_fu_isHour = true := sorry
theorem v_fu_isHour : calleeV m_fu_isHour 16579 16578 23 4108 2 = true := sorry
set_option maxRecDepth 100000 in
theorem g_dh_timesDue : m_dh_timesDue.2.2.2.2.all (chkE m_dh_timesDue) = true := sorry
theorem p_dh_timesDue : plainFor y_dh_timesDue = true := sorry
theorem v_dh_timesDue : calleeS m_dh_timesDue 16583 16582 4097 2 = true := sorry
set_option maxRecDepth 100000 in
theorem g_fu_lastStruck : m_fu_lastStruck.2.2.2.2.all (chkE m_fu_lastStruck) = true := sorry
theorem p_fu_lastStruck : plainFor y_fu_lastStruck = true := sorry
theorem v_fu_lastStruck : calleeV m_fu_lastStruck 16587 16585 16586 4108 1 = true := sorry
set_option maxRecDepth 100000 in
theorem g_fu_firstStruck : m_fu_firstStruck.2.2.2.2.all (chkE m_fu_firstStruck) = true := sorry
theorem p_fu_firstStruck : plainFor y_fu_firstStruck = true := sorry
theorem v_fu_firstStruck : calleeV m_fu_firstStruck 16591 16589 16590 4108 1 = true := sorry
set_option maxRecDepth 100000 in
theorem g_dh_owes : m_dh_owes.2.2.2.2.all (chkE m_dh_owes) = true := sorry
theorem p_dh_owes : plainFor y_dh_owes = true := sorry
theorem v_dh_owes : calleeV m_dh_owes 16595 16593 16594 4097 3 = true := sorry
set_option maxRecDepth 100000 in
theorem g_dh_countDue : m_dh_countDue.2.2.2.2.all (chkE m_dh_countDue) = true := sorry
theorem p_dh_countDue : plainFor y_dh_countDue = true := sorry
theorem v_dh_countDue : calleeV m_dh_countDue 16599 16598 24 4097 1 = true := sorry
set_option maxRecDepth 100000 in
theorem g_co_owedTo : m_co_owedTo.2.2.2.2.all (chkE m_co_owedTo) = true := sorry
theorem p_co_owedTo : plainFor y_co_owedTo = true := sorry
theorem v_co_owedTo : calleeV m_co_owedTo 16603 16601 16602 4105 2 = true := sorry
set_option maxRecDepth 100000 in
theorem g_co_sumOf : m_co_sumOf.2.2.2.2.all (chkE m_co_sumOf) = true := sorry
theorem p_co_sumOf : plainFor y_co_sumOf = true := sorry
theorem v_co_sumOf : calleeV m_co_sumOf 16607 16606 25 4105 3 = true := sorry
set_option maxRecDepth 100000 in
theorem g_co_owedBy : m_co_owedBy.2.2.2.2.all (chkE m_co_owedBy) = true := sorry
theorem p_co_owedBy : plainFor y_co_owedBy = true := sorry
theorem v_co_owedBy : calleeV m_co_owedBy 16612 16610 16611 4105 2 = true := sorry
set_option maxRecDepth 100000 in
theorem g_dh_reading : m_dh_reading.2.2.2.2.all (chkE m_dh_reading) = true := sorry
theorem p_dh_reading : plainFor y_dh_reading = true := sorry
theorem v_dh_reading : calleeV m_dh_reading 16616 16614 16615 4097 2 = true := sorry
set_option maxRecDepth 100000 in
theorem g_co_less : m_co_less.2.2.2.2.all (chkE m_co_less) = true := sorry
theorem p_co_less : plainFor y_co_less = true := sorry
theorem v_co_less : calleeV m_co_less 16620 16618 16619 4105 2 = true := sorry
set_option maxRecDepth 100000 in
theorem g_dh_mildest : m_dh_mildest.2.2.2.2.all (chkE m_dh_mildest) = true := sorry
theorem p_dh_mildest : plainFor y_dh_mildest = true := sorry
theorem v_dh_mildest : calleeV m_dh_mildest 20482 20480 20481 4097 1 = true := sorry
set_option maxRecDepth 100000 in
theorem g_co_most : m_co_most.2.2.2.2.all (chkE m_co_most) = true := sorry
theorem p_co_most : plainFor y_co_most = true := sorry
theorem v_co_most : calleeV m_co_most 20486 20484 20485 4105 1 = true := sorry
set_option maxRecDepth 100000 in
theorem g_dh_leave : m_dh_leave.2.2.2.2.all (chkE m_dh_leave) = true := sorry
theorem p_dh_leave : plainFor y_dh_leave = true := sorry
theorem v_dh_leave : calleeV m_dh_leave 20492 20490 20491 4097 3 = true := sorry
set_option maxRecDepth 100000 in
theorem g_dh_isRoad : m_dh_isRoad.2.2.2.2.all (chkE m_dh_isRoad) = true := sorry
theorem p_dh_isRoad : plainFor y_dh_isRoad = true := sorry
theorem v_dh_isRoad : calleeS m_dh_isRoad 20495 20494 4097 1 = true := sorry
set_option maxRecDepth 100000 in
theorem g_fu_latestFor : m_fu_latestFor.2.2.2.2.all (chkE m_fu_latestFor) = true := sorry
theorem p_fu_latestFor : plainFor y_fu_latestFor = true := sorry
theorem v_fu_latestFor : calleeV m_fu_latestFor 20499 20497 20498 4108 2 = true := sorry
set_option maxRecDepth 100000 in
theorem g_fu_there : m_fu_there.2.2.2.2.all (chkE m_fu_there) = true := sorry
theorem p_fu_there : plainFor y_fu_there = true := sorry
theorem v_fu_there : calleeV m_fu_there 20503 20501 20502 4108 2 = true := sorry
set_option maxRecDepth 100000 in
theorem g_dh_sure : m_dh_sure.2.2.2.2.all (chkE m_dh_sure) = true := sorry
theorem p_dh_sure : plainFor y_dh_sure = true := sorry
theorem v_dh_sure : calleeV m_dh_sure 20507 20505 20506 4097 4 = true := sorry
set_option maxRecDepth 100000 in
theorem g_dh_waysWithLatest : m_dh_waysWithLatest.2.2.2.2.all (chkE m_dh_waysWithLatest) = true := sorry
theorem p_dh_waysWithLatest : plainFor y_dh_waysWithLatest = true := sorry
theorem v_dh_waysWithLatest : calleeV m_dh_waysWithLatest 20511 20510 26 4097 1 = true := sorry
set_option maxRecDepth 100000 in
theorem g_dh_missed : m_dh_missed.2.2.2.2.all (chkE m_dh_missed) = true := sorry
theorem p_dh_missed : plainFor y_dh_missed = true := sorry
theorem v_dh_missed : calleeV m_dh_missed 20515 20513 20514 4097 4 = true := sorry
set_option maxRecDepth 100000 in
theorem g_dh_bribe : m_dh_bribe.2.2.2.2.all (chkE m_dh_bribe) = true := sorry
theorem p_dh_bribe : plainFor y_dh_bribe = true := sorry
theorem v_dh_bribe : calleeV m_dh_bribe 20519 20517 20518 4097 3 = true := sorry
set_option maxRecDepth 100000 in
theorem g_dh_nextHour : m_dh_nextHour.2.2.2.2.all (chkE m_dh_nextHour) = true := sorry
theorem p_dh_nextHour : plainFor y_dh_nextHour = true := sorry
theorem v_dh_nextHour : calleeV m_dh_nextHour 20523 20522 27 4097 1 = true := sorry
set_option maxRecDepth 100000 in
theorem g_fu_hour : m_fu_hour.2.2.2.2.all (chkE m_fu_hour) = true := sorry
theorem p_fu_hour : plainFor y_fu_hour = true := sorry
theorem v_fu_hour : calleeV m_fu_hour 20527 20525 20526 4108 0 = true := sorry
set_option maxRecDepth 100000 in
theorem g_fu_boiled : m_fu_boiled.2.2.2.2.all (chkE m_fu_boiled) = true := sorry
theorem p_fu_boiled : plainFor y_fu_boiled = true := sorry
theorem v_fu_boiled : calleeV m_fu_boiled 20531 20529 20530 4108 1 = true := sorry
set_option maxRecDepth 100000 in
theorem g_dh_think : m_dh_think.2.2.2.2.all (chkE m_dh_think) = true := sorry
theorem p_dh_think : plainFor y_dh_think = true := sorry
theorem v_dh_think : calleeV m_dh_think 20535 20534 28 4097 4 = true := sorry
set_option maxRecDepth 100000 in
theorem g_dh_isBetter : m_dh_isBetter.2.2.2.2.all (chkE m_dh_isBetter) = true := sorry
theorem p_dh_isBetter : plainFor y_dh_isBetter = true := sorry
theorem v_dh_isBetter : calleeS m_dh_isBetter 20538 20537 4097 3 = true := sorry
set_option maxRecDepth 100000 in
theorem g_dh_rests : m_dh_rests.2.2.2.2.all (chkE m_dh_rests) = true := sorry
theorem p_dh_rests : plainFor y_dh_rests = true := sorry
theorem v_dh_rests : calleeV m_dh_rests 20542 20540 20541 4097 3 = true := sorry
set_option maxRecDepth 100000 in
theorem g_dh_bestOfBoy : m_dh_bestOfBoy.2.2.2.2.all (chkE m_dh_bestOfBoy) = true := sorry
theorem p_dh_bestOfBoy : plainFor y_dh_bestOfBoy = true := sorry
theorem v_dh_bestOfBoy : calleeV m_dh_bestOfBoy 20546 20545 29 4097 5 = true := sorry
set_option maxRecDepth 100000 in
theorem g_dh_hourOfBoys : m_dh_hourOfBoys.2.2.2.2.all (chkE m_dh_hourOfBoys) = true := sorry
theorem p_dh_hourOfBoys : plainFor y_dh_hourOfBoys = true := sorry
theorem v_dh_hourOfBoys : calleeV m_dh_hourOfBoys 20550 20549 30 4097 4 = true := sorry
set_option maxRecDepth 100000 in
theorem g_dh_bid : m_dh_bid.2.2.2.2.all (chkE m_dh_bid) = true := sorry
theorem p_dh_bid : plainFor y_dh_bid = true := sorry
theorem v_dh_bid : calleeV m_dh_bid 20554 20552 20553 4097 3 = true := sorry
set_option maxRecDepth 100000 in
theorem g_dh_heard : m_dh_heard.2.2.2.2.all (chkE m_dh_heard) = true := sorry
theorem p_dh_heard : plainFor y_dh_heard = true := sorry
theorem v_dh_heard : calleeV m_dh_heard 20558 20556 20557 4097 3 = true := sorry
set_option maxRecDepth 100000 in
theorem g_rm_add : m_rm_add.2.2.2.2.all (chkE m_rm_add) = true := sorry
theorem p_rm_add : plainFor y_rm_add = true := sorry
theorem v_rm_add : calleeV m_rm_add 20562 20560 20561 4106 3 = true := sorry
set_option maxRecDepth 100000 in
theorem g_dh_forget : m_dh_forget.2.2.2.2.all (chkE m_dh_forget) = true := sorry
theorem p_dh_forget : plainFor y_dh_forget = true := sorry
theorem v_dh_forget : calleeV m_dh_forget 20566 20564 20565 4097 0 = true := sorry
set_option maxRecDepth 100000 in
theorem g_dh_hungers : m_dh_hungers.2.2.2.2.all (chkE m_dh_hungers) = true := sorry
theorem p_dh_hungers : plainFor y_dh_hungers = true := sorry
theorem v_dh_hungers : calleeV m_dh_hungers 20570 20568 20569 4097 1 = true := sorry
set_option maxRecDepth 100000 in
theorem g_dh_isWayHeard : m_dh_isWayHeard.2.2.2.2.all (chkE m_dh_isWayHeard) = true := sorry
theorem p_dh_isWayHeard : plainFor y_dh_isWayHeard = true := sorry
theorem v_dh_isWayHeard : calleeV m_dh_isWayHeard 20574 20573 31 4097 3 = true := sorry
set_option maxRecDepth 100000 in
theorem g_rm_fit : m_rm_fit.2.2.2.2.all (chkE m_rm_fit) = true := sorry
theorem p_rm_fit : plainFor y_rm_fit = true := sorry
theorem v_rm_fit : calleeV m_rm_fit 20578 20576 20577 4106 1 = true := sorry
set_option maxRecDepth 100000 in
theorem g_fu_strokesWithin : m_fu_strokesWithin.2.2.2.2.all (chkE m_fu_strokesWithin) = true := sorry
theorem p_fu_strokesWithin : plainFor y_fu_strokesWithin = true := sorry
theorem v_fu_strokesWithin : calleeV m_fu_strokesWithin 20583 20581 20582 4108 1 = true := sorry
set_option maxRecDepth 100000 in
theorem g_dh_ways : m_dh_ways.2.2.2.2.all (chkE m_dh_ways) = true := sorry
theorem p_dh_ways : plainFor y_dh_ways = true := sorry
theorem v_dh_ways : calleeV m_dh_ways 20587 20585 20586 4097 1 = true := sorry
set_option maxRecDepth 100000 in
theorem g_dh_swarms : m_dh_swarms.2.2.2.2.all (chkE m_dh_swarms) = true := sorry
theorem p_dh_swarms : plainFor y_dh_swarms = true := sorry
theorem v_dh_swarms : calleeV m_dh_swarms 20591 20589 20590 4097 0 = true := sorry
set_option maxRecDepth 100000 in
theorem g_dh_span : m_dh_span.2.2.2.2.all (chkE m_dh_span) = true := sorry
theorem p_dh_span : plainFor y_dh_span = true := sorry
theorem v_dh_span : calleeV m_dh_span 20595 20593 20594 4097 2 = true := sorry
set_option maxRecDepth 100000 in
theorem g_dh_together : m_dh_together.2.2.2.2.all (chkE m_dh_together) = true := sorry
theorem p_dh_together : plainFor y_dh_together = true := sorry
theorem v_dh_together : calleeV m_dh_together 20599 20597 20598 4097 2 = true := sorry
set_option maxRecDepth 100000 in
theorem g_dh_areTwo : m_dh_areTwo.2.2.2.2.all (chkE m_dh_areTwo) = true := sorry
theorem p_dh_areTwo : plainFor y_dh_areTwo = true := sorry
theorem v_dh_areTwo : calleeV m_dh_areTwo 20603 20602 32 4097 2 = true := sorry
set_option maxRecDepth 100000 in
theorem g_dh_lookBoth : m_dh_lookBoth.2.2.2.2.all (chkE m_dh_lookBoth) = true := sorry
theorem p_dh_lookBoth : plainFor y_dh_lookBoth = true := sorry
theorem v_dh_lookBoth : calleeV m_dh_lookBoth 20607 20606 33 4097 2 = true := sorry
set_option maxRecDepth 100000 in
theorem g_dh_join : m_dh_join.2.2.2.2.all (chkE m_dh_join) = true := sorry
theorem p_dh_join : plainFor y_dh_join = true := sorry
theorem v_dh_join : calleeV m_dh_join 20611 20609 20610 4097 3 = true := sorry
set_option maxRecDepth 100000 in
theorem g_dh_shows : m_dh_shows.2.2.2.2.all (chkE m_dh_shows) = true := sorry
theorem p_dh_shows : plainFor y_dh_shows = true := sorry
theorem v_dh_shows : calleeV m_dh_shows 20615 20613 20614 4097 3 = true := sorry
set_option maxRecDepth 100000 in
theorem g_dh_egg : m_dh_egg.2.2.2.2.all (chkE m_dh_egg) = true := sorry
theorem p_dh_egg : plainFor y_dh_egg = true := sorry
theorem v_dh_egg : calleeV m_dh_egg 20619 20617 20618 4097 3 = true := sorry
set_option maxRecDepth 100000 in
theorem g_jm_abs : m_jm_abs.2.2.2.2.all (chkE m_jm_abs) = true := sorry
theorem v_jm_abs : calleeS m_jm_abs 20623 20622 4110 1 = true := sorry
set_option maxRecDepth 100000 in
theorem g_dh_plant : m_dh_plant.2.2.2.2.all (chkE m_dh_plant) = true := sorry
theorem p_dh_plant : plainFor y_dh_plant = true := sorry
theorem v_dh_plant : calleeV m_dh_plant 20627 20625 20626 4097 3 = true := sorry
set_option maxRecDepth 100000 in
theorem g_dh_keep : m_dh_keep.2.2.2.2.all (chkE m_dh_keep) = true := sorry
theorem p_dh_keep : plainFor y_dh_keep = true := sorry
theorem v_dh_keep : calleeV m_dh_keep 20631 20629 20630 4097 1 = true := sorry
set_option maxRecDepth 100000 in
theorem g_dh_again : m_dh_again.2.2.2.2.all (chkE m_dh_again) = true := sorry
theorem p_dh_again : plainFor y_dh_again = true := sorry
theorem v_dh_again : calleeV m_dh_again 20637 20635 20636 4097 1 = true := sorry
set_option maxRecDepth 100000 in
theorem g_dh_count : m_dh_count.2.2.2.2.all (chkE m_dh_count) = true := sorry
theorem p_dh_count : plainFor y_dh_count = true := sorry
theorem v_dh_count : calleeV m_dh_count 20641 20639 20640 4097 1 = true := sorry
set_option maxRecDepth 100000 in
theorem g_dh_donkey : m_dh_donkey.2.2.2.2.all (chkE m_dh_donkey) = true := sorry
theorem p_dh_donkey : plainFor y_dh_donkey = true := sorry
theorem v_dh_donkey : calleeV m_dh_donkey 20649 20647 20648 4097 2 = true := sorry
set_option maxRecDepth 100000 in
theorem g_dh_apart : m_dh_apart.2.2.2.2.all (chkE m_dh_apart) = true := sorry
theorem p_dh_apart : plainFor y_dh_apart = true := sorry
theorem v_dh_apart : calleeV m_dh_apart 24577 20719 24576 4097 3 = true := sorry
set_option maxRecDepth 100000 in
theorem g_dh_row : m_dh_row.2.2.2.2.all (chkE m_dh_row) = true := sorry
theorem p_dh_row : plainFor y_dh_row = true := sorry
theorem v_dh_row : calleeV m_dh_row 24585 24583 24584 4097 1 = true := sorry
set_option maxRecDepth 100000 in
theorem g_mo_init : m_mo_init.2.2.2.2.all (chkE m_mo_init) = true := sorry
theorem p_mo_init : plainFor y_mo_init = true := sorry
set_option maxRecDepth 100000 in
theorem g_mo_thrown : m_mo_thrown.2.2.2.2.all (chkE m_mo_thrown) = true := sorry
theorem p_mo_thrown : plainFor y_mo_thrown = true := sorry
theorem v_mo_thrown : calleeV m_mo_thrown 24763 24761 24762 4109 0 = true := sorry
set_option maxRecDepth 100000 in
theorem g_mo_sign : m_mo_sign.2.2.2.2.all (chkE m_mo_sign) = true := sorry
theorem p_mo_sign : plainFor y_mo_sign = true := sorry
theorem v_mo_sign : calleeV m_mo_sign 24767 24765 24766 4109 1 = true := sorry
set_option maxRecDepth 100000 in
theorem g_mo_end : m_mo_end.2.2.2.2.all (chkE m_mo_end) = true := sorry
theorem p_mo_end : plainFor y_mo_end = true := sorry
theorem v_mo_end : calleeV m_mo_end 24771 24769 24770 4109 1 = true := sorry
set_option maxRecDepth 100000 in
theorem g_mo_in : m_mo_in.2.2.2.2.all (chkE m_mo_in) = true := sorry
theorem p_mo_in : plainFor y_mo_in = true := sorry
theorem v_mo_in : calleeS m_mo_in 24774 24773 4109 3 = true := sorry
set_option maxRecDepth 100000 in
theorem g_mo_stable : m_mo_stable.2.2.2.2.all (chkE m_mo_stable) = true := sorry
theorem p_mo_stable : plainFor y_mo_stable = true := sorry
theorem v_mo_stable : calleeV m_mo_stable 24778 24776 24777 4109 0 = true := sorry
set_option maxRecDepth 100000 in
theorem g_mo_begin : m_mo_begin.2.2.2.2.all (chkE m_mo_begin) = true := sorry
theorem p_mo_begin : plainFor y_mo_begin = true := sorry
theorem v_mo_begin : calleeV m_mo_begin 24782 24781 35 4109 3 = true := sorry
set_option maxRecDepth 100000 in
theorem g_mo_fine : m_mo_fine.2.2.2.2.all (chkE m_mo_fine) = true := sorry
theorem p_mo_fine : plainFor y_mo_fine = true := sorry
theorem v_mo_fine : calleeV m_mo_fine 24786 24785 36 4109 0 = true := sorry
set_option maxRecDepth 100000 in
theorem g_mo_fault : m_mo_fault.2.2.2.2.all (chkE m_mo_fault) = true := sorry
theorem p_mo_fault : plainFor y_mo_fault = true := sorry
theorem v_mo_fault : calleeV m_mo_fault 24790 24789 37 4109 1 = true := sorry
set_option maxRecDepth 100000 in
theorem g_mo_readDonkey : m_mo_readDonkey.2.2.2.2.all (chkE m_mo_readDonkey) = true := sorry
theorem p_mo_readDonkey : plainFor y_mo_readDonkey = true := sorry
theorem v_mo_readDonkey : calleeV m_mo_readDonkey 24794 24793 38 4109 1 = true := sorry
set_option maxRecDepth 100000 in
theorem g_mo_number : m_mo_number.2.2.2.2.all (chkE m_mo_number) = true := sorry
theorem p_mo_number : plainFor y_mo_number = true := sorry
theorem v_mo_number : calleeV m_mo_number 24798 24797 39 4109 1 = true := sorry
set_option maxRecDepth 100000 in
theorem g_mo_here : m_mo_here.2.2.2.2.all (chkE m_mo_here) = true := sorry
theorem p_mo_here : plainFor y_mo_here = true := sorry
theorem v_mo_here : calleeV m_mo_here 24802 24801 40 4109 0 = true := sorry
set_option maxRecDepth 100000 in
theorem g_mo_need : m_mo_need.2.2.2.2.all (chkE m_mo_need) = true := sorry
theorem p_mo_need : plainFor y_mo_need = true := sorry
theorem v_mo_need : calleeV m_mo_need 24806 24805 41 4109 1 = true := sorry
set_option maxRecDepth 100000 in
theorem g_mo_passes : m_mo_passes.2.2.2.2.all (chkE m_mo_passes) = true := sorry
theorem p_mo_passes : plainFor y_mo_passes = true := sorry
theorem v_mo_passes : calleeV m_mo_passes 24810 24809 42 4109 1 = true := sorry
set_option maxRecDepth 100000 in
theorem g_mo_flies : m_mo_flies.2.2.2.2.all (chkE m_mo_flies) = true := sorry
theorem p_mo_flies : plainFor y_mo_flies = true := sorry
theorem v_mo_flies : calleeV m_mo_flies 24814 24812 24813 4109 0 = true := sorry
set_option maxRecDepth 100000 in
theorem g_mo_rule : m_mo_rule.2.2.2.2.all (chkE m_mo_rule) = true := sorry
theorem p_mo_rule : plainFor y_mo_rule = true := sorry
theorem v_mo_rule : calleeV m_mo_rule 28674 28672 28673 4109 0 = true := sorry
set_option maxRecDepth 100000 in
theorem g_mo_held : m_mo_held.2.2.2.2.all (chkE m_mo_held) = true := sorry
theorem p_mo_held : plainFor y_mo_held = true := sorry
theorem v_mo_held : calleeV m_mo_held 28678 28677 43 4109 1 = true := sorry
set_option maxRecDepth 100000 in
theorem g_mo_sum : m_mo_sum.2.2.2.2.all (chkE m_mo_sum) = true := sorry
theorem p_mo_sum : plainFor y_mo_sum = true := sorry
theorem v_mo_sum : calleeV m_mo_sum 28682 28681 44 4109 1 = true := sorry
set_option maxRecDepth 100000 in
theorem g_mo_product : m_mo_product.2.2.2.2.all (chkE m_mo_product) = true := sorry
theorem p_mo_product : plainFor y_mo_product = true := sorry
theorem v_mo_product : calleeV m_mo_product 28686 28685 45 4109 1 = true := sorry
set_option maxRecDepth 100000 in
theorem g_mo_thing : m_mo_thing.2.2.2.2.all (chkE m_mo_thing) = true := sorry
theorem p_mo_thing : plainFor y_mo_thing = true := sorry
theorem v_mo_thing : calleeV m_mo_thing 28690 28689 46 4109 1 = true := sorry
set_option maxRecDepth 100000 in
theorem g_mo_letter : m_mo_letter.2.2.2.2.all (chkE m_mo_letter) = true := sorry
theorem p_mo_letter : plainFor y_mo_letter = true := sorry
theorem v_mo_letter : calleeV m_mo_letter 28694 28693 47 4109 3 = true := sorry
set_option maxRecDepth 100000 in
theorem g_mo_fliesIn : m_mo_fliesIn.2.2.2.2.all (chkE m_mo_fliesIn) = true := sorry
theorem p_mo_fliesIn : plainFor y_mo_fliesIn = true := sorry
theorem v_mo_fliesIn : calleeV m_mo_fliesIn 28698 28697 48 4109 1 = true := sorry
set_option maxRecDepth 100000 in
theorem g_mo_hurry : m_mo_hurry.2.2.2.2.all (chkE m_mo_hurry) = true := sorry
theorem p_mo_hurry : plainFor y_mo_hurry = true := sorry
theorem v_mo_hurry : calleeV m_mo_hurry 28702 28701 49 4109 2 = true := sorry
set_option maxRecDepth 100000 in
theorem g_mo_donkey : m_mo_donkey.2.2.2.2.all (chkE m_mo_donkey) = true := sorry
theorem p_mo_donkey : plainFor y_mo_donkey = true := sorry
theorem v_mo_donkey : calleeV m_mo_donkey 28706 28704 28705 4109 2 = true := sorry
set_option maxRecDepth 100000 in
theorem g_mo_isDonkey : m_mo_isDonkey.2.2.2.2.all (chkE m_mo_isDonkey) = true := sorry
theorem p_mo_isDonkey : plainFor y_mo_isDonkey = true := sorry
theorem v_mo_isDonkey : calleeV m_mo_isDonkey 28710 28709 50 4109 1 = true := sorry
set_option maxRecDepth 100000 in
theorem g_mo_lost : m_mo_lost.2.2.2.2.all (chkE m_mo_lost) = true := sorry
theorem p_mo_lost : plainFor y_mo_lost = true := sorry
theorem v_mo_lost : calleeV m_mo_lost 28714 28713 51 4109 0 = true := sorry
set_option maxRecDepth 100000 in
theorem g_mo_allThistles : m_mo_allThistles.2.2.2.2.all (chkE m_mo_allThistles) = true := sorry
theorem p_mo_allThistles : plainFor y_mo_allThistles = true := sorry
theorem v_mo_allThistles : calleeS m_mo_allThistles 28717 28716 4109 2 = true := sorry
set_option maxRecDepth 100000 in
theorem g_mo_pace : m_mo_pace.2.2.2.2.all (chkE m_mo_pace) = true := sorry
theorem p_mo_pace : plainFor y_mo_pace = true := sorry
theorem v_mo_pace : calleeV m_mo_pace 28721 28720 52 4109 2 = true := sorry
set_option maxRecDepth 100000 in
theorem g_mo_thistles : m_mo_thistles.2.2.2.2.all (chkE m_mo_thistles) = true := sorry
theorem p_mo_thistles : plainFor y_mo_thistles = true := sorry
theorem v_mo_thistles : calleeV m_mo_thistles 28727 28725 28726 4109 2 = true := sorry
set_option maxRecDepth 100000 in
theorem g_mo_isPlace : m_mo_isPlace.2.2.2.2.all (chkE m_mo_isPlace) = true := sorry
theorem p_mo_isPlace : plainFor y_mo_isPlace = true := sorry
theorem v_mo_isPlace : calleeV m_mo_isPlace 28731 28730 53 4109 2 = true := sorry
set_option maxRecDepth 100000 in
theorem g_mo_sow : m_mo_sow.2.2.2.2.all (chkE m_mo_sow) = true := sorry
theorem p_mo_sow : plainFor y_mo_sow = true := sorry
theorem v_mo_sow : calleeV m_mo_sow 28735 28733 28734 4109 3 = true := sorry
set_option maxRecDepth 100000 in
theorem g_mo_set : m_mo_set.2.2.2.2.all (chkE m_mo_set) = true := sorry
theorem p_mo_set : plainFor y_mo_set = true := sorry
theorem v_mo_set : calleeV m_mo_set 28739 28737 28738 4109 3 = true := sorry
set_option maxRecDepth 100000 in
theorem g_mo_sheet : m_mo_sheet.2.2.2.2.all (chkE m_mo_sheet) = true := sorry
theorem p_mo_sheet : plainFor y_mo_sheet = true := sorry
theorem v_mo_sheet : calleeV m_mo_sheet 28743 28741 28742 4109 4 = true := sorry
set_option maxRecDepth 100000 in
theorem g_mo_carrot : m_mo_carrot.2.2.2.2.all (chkE m_mo_carrot) = true := sorry
theorem p_mo_carrot : plainFor y_mo_carrot = true := sorry
theorem v_mo_carrot : calleeV m_mo_carrot 28747 28745 28746 4109 4 = true := sorry
set_option maxRecDepth 100000 in
theorem g_mo_layCarrot : m_mo_layCarrot.2.2.2.2.all (chkE m_mo_layCarrot) = true := sorry
theorem p_mo_layCarrot : plainFor y_mo_layCarrot = true := sorry
theorem v_mo_layCarrot : calleeV m_mo_layCarrot 28751 28750 54 4109 5 = true := sorry
set_option maxRecDepth 100000 in
theorem g_mo_eat : m_mo_eat.2.2.2.2.all (chkE m_mo_eat) = true := sorry
theorem p_mo_eat : plainFor y_mo_eat = true := sorry
theorem v_mo_eat : calleeV m_mo_eat 28755 28753 28754 4109 0 = true := sorry
set_option maxRecDepth 100000 in
theorem g_mo_minute : m_mo_minute.2.2.2.2.all (chkE m_mo_minute) = true := sorry
theorem p_mo_minute : plainFor y_mo_minute = true := sorry
theorem v_mo_minute : calleeV m_mo_minute 28759 28757 28758 4109 0 = true := sorry
set_option maxRecDepth 100000 in
theorem g_mo_layAside : m_mo_layAside.2.2.2.2.all (chkE m_mo_layAside) = true := sorry
theorem p_mo_layAside : plainFor y_mo_layAside = true := sorry
theorem v_mo_layAside : calleeV m_mo_layAside 28763 28762 55 4109 1 = true := sorry
set_option maxRecDepth 100000 in
theorem g_mo_layAll : m_mo_layAll.2.2.2.2.all (chkE m_mo_layAll) = true := sorry
theorem p_mo_layAll : plainFor y_mo_layAll = true := sorry
theorem v_mo_layAll : calleeV m_mo_layAll 28767 28766 56 4109 2 = true := sorry
set_option maxRecDepth 100000 in
theorem g_mo_remember : m_mo_remember.2.2.2.2.all (chkE m_mo_remember) = true := sorry
theorem p_mo_remember : plainFor y_mo_remember = true := sorry
theorem v_mo_remember : calleeV m_mo_remember 28771 28770 57 4109 0 = true := sorry
set_option maxRecDepth 100000 in
theorem g_mo_goMinute : m_mo_goMinute.2.2.2.2.all (chkE m_mo_goMinute) = true := sorry
theorem p_mo_goMinute : plainFor y_mo_goMinute = true := sorry
theorem v_mo_goMinute : calleeV m_mo_goMinute 28775 28774 58 4109 1 = true := sorry
set_option maxRecDepth 100000 in
theorem g_mo_goSteps : m_mo_goSteps.2.2.2.2.all (chkE m_mo_goSteps) = true := sorry
theorem p_mo_goSteps : plainFor y_mo_goSteps = true := sorry
theorem v_mo_goSteps : calleeV m_mo_goSteps 28779 28778 59 4109 3 = true := sorry
set_option maxRecDepth 100000 in
theorem g_mo_tell : m_mo_tell.2.2.2.2.all (chkE m_mo_tell) = true := sorry
theorem p_mo_tell : plainFor y_mo_tell = true := sorry
theorem v_mo_tell : calleeV m_mo_tell 28783 28782 60 4109 1 = true := sorry
set_option maxRecDepth 100000 in
theorem g_mo_minutes : m_mo_minutes.2.2.2.2.all (chkE m_mo_minutes) = true := sorry
theorem p_mo_minutes : plainFor y_mo_minutes = true := sorry
theorem v_mo_minutes : calleeV m_mo_minutes 28787 28785 28786 4109 1 = true := sorry
set_option maxRecDepth 100000 in
theorem g_ji_bitCount : m_ji_bitCount.2.2.2.2.all (chkE m_ji_bitCount) = true := sorry
theorem p_ji_bitCount : plainFor y_ji_bitCount = true := sorry
theorem v_ji_bitCount : calleeS m_ji_bitCount 28790 28789 4121 1 = true := sorry
set_option maxRecDepth 100000 in
theorem g_mo_day : m_mo_day.2.2.2.2.all (chkE m_mo_day) = true := sorry
theorem p_mo_day : plainFor y_mo_day = true := sorry
theorem v_mo_day : calleeV m_mo_day 28797 28795 28796 4109 0 = true := sorry
set_option maxRecDepth 100000 in
theorem g_mo_readAct : m_mo_readAct.2.2.2.2.all (chkE m_mo_readAct) = true := sorry
theorem p_mo_readAct : plainFor y_mo_readAct = true := sorry
theorem v_mo_readAct : calleeV m_mo_readAct 28801 28800 61 4109 1 = true := sorry
set_option maxRecDepth 100000 in
theorem g_mo_act : m_mo_act.2.2.2.2.all (chkE m_mo_act) = true := sorry
theorem p_mo_act : plainFor y_mo_act = true := sorry
theorem v_mo_act : calleeV m_mo_act 28805 28804 62 4109 1 = true := sorry
set_option maxRecDepth 100000 in
theorem g_mo_undo : m_mo_undo.2.2.2.2.all (chkE m_mo_undo) = true := sorry
theorem p_mo_undo : plainFor y_mo_undo = true := sorry
theorem v_mo_undo : calleeV m_mo_undo 28812 28810 28811 4109 0 = true := sorry
set_option maxRecDepth 100000 in
theorem g_mo_takeCarrots : m_mo_takeCarrots.2.2.2.2.all (chkE m_mo_takeCarrots) = true := sorry
theorem p_mo_takeCarrots : plainFor y_mo_takeCarrots = true := sorry
theorem v_mo_takeCarrots : calleeV m_mo_takeCarrots 28816 28815 63 4109 2 = true := sorry
set_option maxRecDepth 100000 in
theorem g_mo_struck : m_mo_struck.2.2.2.2.all (chkE m_mo_struck) = true := sorry
theorem p_mo_struck : plainFor y_mo_struck = true := sorry
theorem v_mo_struck : calleeV m_mo_struck 28820 28818 28819 4109 2 = true := sorry
set_option maxRecDepth 100000 in
theorem g_mo_line : m_mo_line.2.2.2.2.all (chkE m_mo_line) = true := sorry
theorem p_mo_line : plainFor y_mo_line = true := sorry
theorem v_mo_line : calleeV m_mo_line 28824 28823 64 4109 2 = true := sorry
set_option maxRecDepth 100000 in
theorem g_mo_strokes : m_mo_strokes.2.2.2.2.all (chkE m_mo_strokes) = true := sorry
theorem p_mo_strokes : plainFor y_mo_strokes = true := sorry
theorem v_mo_strokes : calleeV m_mo_strokes 28828 28827 65 4109 1 = true := sorry
set_option maxRecDepth 100000 in
theorem g_mo_took : m_mo_took.2.2.2.2.all (chkE m_mo_took) = true := sorry
theorem p_mo_took : plainFor y_mo_took = true := sorry
theorem v_mo_took : calleeV m_mo_took 28832 28830 28831 4109 2 = true := sorry
set_option maxRecDepth 100000 in
theorem g_mo_longest : m_mo_longest.2.2.2.2.all (chkE m_mo_longest) = true := sorry
theorem p_mo_longest : plainFor y_mo_longest = true := sorry
theorem v_mo_longest : calleeV m_mo_longest 28836 28834 28835 4109 1 = true := sorry
set_option maxRecDepth 100000 in
theorem g_mo_ahead : m_mo_ahead.2.2.2.2.all (chkE m_mo_ahead) = true := sorry
theorem p_mo_ahead : plainFor y_mo_ahead = true := sorry
theorem v_mo_ahead : calleeV m_mo_ahead 28840 28838 28839 4109 2 = true := sorry
set_option maxRecDepth 100000 in
theorem g_mo_beginThen : m_mo_beginThen.2.2.2.2.all (chkE m_mo_beginThen) = true := sorry
theorem p_mo_beginThen : plainFor y_mo_beginThen = true := sorry
theorem v_mo_beginThen : calleeV m_mo_beginThen 28844 28843 66 4109 0 = true := sorry
set_option maxRecDepth 100000 in
theorem g_mo_when : m_mo_when.2.2.2.2.all (chkE m_mo_when) = true := sorry
theorem p_mo_when : plainFor y_mo_when = true := sorry
theorem v_mo_when : calleeV m_mo_when 28848 28846 28847 4109 2 = true := sorry
set_option maxRecDepth 100000 in
theorem g_mo_timesNow : m_mo_timesNow.2.2.2.2.all (chkE m_mo_timesNow) = true := sorry
theorem p_mo_timesNow : plainFor y_mo_timesNow = true := sorry
theorem v_mo_timesNow : calleeV m_mo_timesNow 28852 28851 67 4109 1 = true := sorry
set_option maxRecDepth 100000 in
theorem g_mo_findTimes : m_mo_findTimes.2.2.2.2.all (chkE m_mo_findTimes) = true := sorry
theorem p_mo_findTimes : plainFor y_mo_findTimes = true := sorry
theorem v_mo_findTimes : calleeV m_mo_findTimes 28856 28855 68 4109 1 = true := sorry
set_option maxRecDepth 100000 in
theorem g_mo_strikes : m_mo_strikes.2.2.2.2.all (chkE m_mo_strikes) = true := sorry
theorem p_mo_strikes : plainFor y_mo_strikes = true := sorry
theorem v_mo_strikes : calleeV m_mo_strikes 28860 28858 28859 4109 2 = true := sorry
set_option maxRecDepth 100000 in
theorem g_mo_stops : m_mo_stops.2.2.2.2.all (chkE m_mo_stops) = true := sorry
theorem p_mo_stops : plainFor y_mo_stops = true := sorry
theorem v_mo_stops : calleeV m_mo_stops 28864 28862 28863 4109 1 = true := sorry
set_option maxRecDepth 100000 in
theorem g_mo_has : m_mo_has.2.2.2.2.all (chkE m_mo_has) = true := sorry
theorem p_mo_has : plainFor y_mo_has = true := sorry
theorem v_mo_has : calleeS m_mo_has 28867 28866 4109 2 = true := sorry
set_option maxRecDepth 100000 in
theorem g_mo_eats : m_mo_eats.2.2.2.2.all (chkE m_mo_eats) = true := sorry
theorem p_mo_eats : plainFor y_mo_eats = true := sorry
theorem v_mo_eats : calleeV m_mo_eats 28871 28869 28870 4109 2 = true := sorry
set_option maxRecDepth 100000 in
theorem g_mo_owe : m_mo_owe.2.2.2.2.all (chkE m_mo_owe) = true := sorry
theorem p_mo_owe : plainFor y_mo_owe = true := sorry
theorem v_mo_owe : calleeV m_mo_owe 28875 28873 28874 4109 5 = true := sorry
set_option maxRecDepth 100000 in
theorem g_mo_tear : m_mo_tear.2.2.2.2.all (chkE m_mo_tear) = true := sorry
theorem p_mo_tear : plainFor y_mo_tear = true := sorry
theorem v_mo_tear : calleeV m_mo_tear 28879 28877 28878 4109 0 = true := sorry
set_option maxRecDepth 100000 in
theorem g_mo_due : m_mo_due.2.2.2.2.all (chkE m_mo_due) = true := sorry
theorem p_mo_due : plainFor y_mo_due = true := sorry
theorem v_mo_due : calleeV m_mo_due 28883 28881 28882 4109 3 = true := sorry
set_option maxRecDepth 100000 in
theorem g_mo_isMore : m_mo_isMore.2.2.2.2.all (chkE m_mo_isMore) = true := sorry
theorem p_mo_isMore : plainFor y_mo_isMore = true := sorry
theorem v_mo_isMore : calleeS m_mo_isMore 28886 28885 4109 1 = true := sorry
set_option maxRecDepth 100000 in
theorem g_mo_findHours : m_mo_findHours.2.2.2.2.all (chkE m_mo_findHours) = true := sorry
theorem p_mo_findHours : plainFor y_mo_findHours = true := sorry
theorem v_mo_findHours : calleeV m_mo_findHours 28890 28889 69 4109 1 = true := sorry
set_option maxRecDepth 100000 in
theorem g_mo_isDue : m_mo_isDue.2.2.2.2.all (chkE m_mo_isDue) = true := sorry
theorem p_mo_isDue : plainFor y_mo_isDue = true := sorry
theorem v_mo_isDue : calleeV m_mo_isDue 28894 28893 70 4109 2 = true := sorry
set_option maxRecDepth 100000 in
theorem g_mo_owes : m_mo_owes.2.2.2.2.all (chkE m_mo_owes) = true := sorry
theorem p_mo_owes : plainFor y_mo_owes = true := sorry
theorem v_mo_owes : calleeV m_mo_owes 28898 28896 28897 4109 3 = true := sorry
set_option maxRecDepth 100000 in
theorem g_mo_frogsOf : m_mo_frogsOf.2.2.2.2.all (chkE m_mo_frogsOf) = true := sorry
theorem p_mo_frogsOf : plainFor y_mo_frogsOf = true := sorry
theorem v_mo_frogsOf : calleeV m_mo_frogsOf 28902 28901 71 4109 3 = true := sorry
set_option maxRecDepth 100000 in
theorem g_mo_reading : m_mo_reading.2.2.2.2.all (chkE m_mo_reading) = true := sorry
theorem p_mo_reading : plainFor y_mo_reading = true := sorry
theorem v_mo_reading : calleeV m_mo_reading 28906 28904 28905 4109 2 = true := sorry
set_option maxRecDepth 100000 in
theorem g_mo_netOf : m_mo_netOf.2.2.2.2.all (chkE m_mo_netOf) = true := sorry
theorem p_mo_netOf : plainFor y_mo_netOf = true := sorry
theorem v_mo_netOf : calleeV m_mo_netOf 28910 28909 72 4109 2 = true := sorry
set_option maxRecDepth 100000 in
theorem g_mo_mildest : m_mo_mildest.2.2.2.2.all (chkE m_mo_mildest) = true := sorry
theorem p_mo_mildest : plainFor y_mo_mildest = true := sorry
theorem v_mo_mildest : calleeV m_mo_mildest 32770 32768 32769 4109 1 = true := sorry
set_option maxRecDepth 100000 in
theorem g_mo_leave : m_mo_leave.2.2.2.2.all (chkE m_mo_leave) = true := sorry
theorem p_mo_leave : plainFor y_mo_leave = true := sorry
theorem v_mo_leave : calleeV m_mo_leave 32776 32774 32775 4109 3 = true := sorry
set_option maxRecDepth 100000 in
theorem g_mo_latest : m_mo_latest.2.2.2.2.all (chkE m_mo_latest) = true := sorry
theorem p_mo_latest : plainFor y_mo_latest = true := sorry
theorem v_mo_latest : calleeV m_mo_latest 32780 32779 73 4109 2 = true := sorry
set_option maxRecDepth 100000 in
theorem g_mo_there : m_mo_there.2.2.2.2.all (chkE m_mo_there) = true := sorry
theorem p_mo_there : plainFor y_mo_there = true := sorry
theorem v_mo_there : calleeV m_mo_there 32784 32783 74 4109 2 = true := sorry
set_option maxRecDepth 100000 in
theorem g_mo_sure : m_mo_sure.2.2.2.2.all (chkE m_mo_sure) = true := sorry
theorem p_mo_sure : plainFor y_mo_sure = true := sorry
theorem v_mo_sure : calleeV m_mo_sure 32788 32786 32787 4109 4 = true := sorry
set_option maxRecDepth 100000 in
theorem g_mo_missed : m_mo_missed.2.2.2.2.all (chkE m_mo_missed) = true := sorry
theorem p_mo_missed : plainFor y_mo_missed = true := sorry
theorem v_mo_missed : calleeV m_mo_missed 32792 32790 32791 4109 4 = true := sorry
set_option maxRecDepth 100000 in
theorem g_mo_bribe : m_mo_bribe.2.2.2.2.all (chkE m_mo_bribe) = true := sorry
theorem p_mo_bribe : plainFor y_mo_bribe = true := sorry
theorem v_mo_bribe : calleeV m_mo_bribe 32796 32794 32795 4109 3 = true := sorry
set_option maxRecDepth 100000 in
theorem g_mo_hour : m_mo_hour.2.2.2.2.all (chkE m_mo_hour) = true := sorry
theorem p_mo_hour : plainFor y_mo_hour = true := sorry
theorem v_mo_hour : calleeV m_mo_hour 32800 32799 75 4109 1 = true := sorry
set_option maxRecDepth 100000 in
theorem g_mo_think : m_mo_think.2.2.2.2.all (chkE m_mo_think) = true := sorry
theorem p_mo_think : plainFor y_mo_think = true := sorry
theorem v_mo_think : calleeV m_mo_think 32804 32803 76 4109 5 = true := sorry
set_option maxRecDepth 100000 in
theorem g_mo_rests : m_mo_rests.2.2.2.2.all (chkE m_mo_rests) = true := sorry
theorem p_mo_rests : plainFor y_mo_rests = true := sorry
theorem v_mo_rests : calleeV m_mo_rests 32808 32806 32807 4109 3 = true := sorry
set_option maxRecDepth 100000 in
theorem g_mo_hourBy : m_mo_hourBy.2.2.2.2.all (chkE m_mo_hourBy) = true := sorry
theorem p_mo_hourBy : plainFor y_mo_hourBy = true := sorry
theorem v_mo_hourBy : calleeV m_mo_hourBy 32812 32811 77 4109 2 = true := sorry
set_option maxRecDepth 100000 in
theorem g_mo_bid : m_mo_bid.2.2.2.2.all (chkE m_mo_bid) = true := sorry
theorem p_mo_bid : plainFor y_mo_bid = true := sorry
theorem v_mo_bid : calleeV m_mo_bid 32816 32814 32815 4109 3 = true := sorry
set_option maxRecDepth 100000 in
theorem g_mo_heard : m_mo_heard.2.2.2.2.all (chkE m_mo_heard) = true := sorry
theorem p_mo_heard : plainFor y_mo_heard = true := sorry
theorem v_mo_heard : calleeV m_mo_heard 32820 32818 32819 4109 3 = true := sorry
set_option maxRecDepth 100000 in
theorem g_mo_forget : m_mo_forget.2.2.2.2.all (chkE m_mo_forget) = true := sorry
theorem p_mo_forget : plainFor y_mo_forget = true := sorry
theorem v_mo_forget : calleeV m_mo_forget 32824 32822 32823 4109 0 = true := sorry
set_option maxRecDepth 100000 in
theorem g_mo_hungers : m_mo_hungers.2.2.2.2.all (chkE m_mo_hungers) = true := sorry
theorem p_mo_hungers : plainFor y_mo_hungers = true := sorry
theorem v_mo_hungers : calleeV m_mo_hungers 32828 32826 32827 4109 1 = true := sorry
set_option maxRecDepth 100000 in
theorem g_mo_isHeardWith : m_mo_isHeardWith.2.2.2.2.all (chkE m_mo_isHeardWith) = true := sorry
theorem p_mo_isHeardWith : plainFor y_mo_isHeardWith = true := sorry
theorem v_mo_isHeardWith : calleeV m_mo_isHeardWith 32832 32831 78 4109 3 = true := sorry
set_option maxRecDepth 100000 in
theorem g_mo_isHeard : m_mo_isHeard.2.2.2.2.all (chkE m_mo_isHeard) = true := sorry
theorem p_mo_isHeard : plainFor y_mo_isHeard = true := sorry
theorem v_mo_isHeard : calleeV m_mo_isHeard 32836 32835 79 4109 1 = true := sorry
set_option maxRecDepth 100000 in
theorem g_mo_ways : m_mo_ways.2.2.2.2.all (chkE m_mo_ways) = true := sorry
theorem p_mo_ways : plainFor y_mo_ways = true := sorry
theorem v_mo_ways : calleeV m_mo_ways 32840 32838 32839 4109 1 = true := sorry
set_option maxRecDepth 100000 in
theorem g_mo_swarms : m_mo_swarms.2.2.2.2.all (chkE m_mo_swarms) = true := sorry
theorem p_mo_swarms : plainFor y_mo_swarms = true := sorry
theorem v_mo_swarms : calleeV m_mo_swarms 32844 32842 32843 4109 0 = true := sorry
set_option maxRecDepth 100000 in
theorem g_mo_span : m_mo_span.2.2.2.2.all (chkE m_mo_span) = true := sorry
theorem p_mo_span : plainFor y_mo_span = true := sorry
theorem v_mo_span : calleeV m_mo_span 32848 32846 32847 4109 2 = true := sorry
set_option maxRecDepth 100000 in
theorem g_mo_apart : m_mo_apart.2.2.2.2.all (chkE m_mo_apart) = true := sorry
theorem p_mo_apart : plainFor y_mo_apart = true := sorry
theorem v_mo_apart : calleeV m_mo_apart 32852 32850 32851 4109 3 = true := sorry
set_option maxRecDepth 100000 in
theorem g_mo_areTwo : m_mo_areTwo.2.2.2.2.all (chkE m_mo_areTwo) = true := sorry
theorem p_mo_areTwo : plainFor y_mo_areTwo = true := sorry
theorem v_mo_areTwo : calleeV m_mo_areTwo 32856 32855 80 4109 2 = true := sorry
set_option maxRecDepth 100000 in
theorem g_mo_together : m_mo_together.2.2.2.2.all (chkE m_mo_together) = true := sorry
theorem p_mo_together : plainFor y_mo_together = true := sorry
theorem v_mo_together : calleeV m_mo_together 32860 32858 32859 4109 2 = true := sorry
set_option maxRecDepth 100000 in
theorem g_mo_join : m_mo_join.2.2.2.2.all (chkE m_mo_join) = true := sorry
theorem p_mo_join : plainFor y_mo_join = true := sorry
theorem v_mo_join : calleeV m_mo_join 32864 32862 32863 4109 3 = true := sorry
set_option maxRecDepth 100000 in
theorem g_mo_shows : m_mo_shows.2.2.2.2.all (chkE m_mo_shows) = true := sorry
theorem p_mo_shows : plainFor y_mo_shows = true := sorry
theorem v_mo_shows : calleeV m_mo_shows 32868 32866 32867 4109 3 = true := sorry
set_option maxRecDepth 100000 in
theorem g_mo_egg : m_mo_egg.2.2.2.2.all (chkE m_mo_egg) = true := sorry
theorem p_mo_egg : plainFor y_mo_egg = true := sorry
theorem v_mo_egg : calleeV m_mo_egg 32872 32870 32871 4109 3 = true := sorry
set_option maxRecDepth 100000 in
theorem g_mo_boils : m_mo_boils.2.2.2.2.all (chkE m_mo_boils) = true := sorry
theorem p_mo_boils : plainFor y_mo_boils = true := sorry
theorem v_mo_boils : calleeV m_mo_boils 32876 32875 81 4109 1 = true := sorry
set_option maxRecDepth 100000 in
theorem g_mo_plant : m_mo_plant.2.2.2.2.all (chkE m_mo_plant) = true := sorry
theorem p_mo_plant : plainFor y_mo_plant = true := sorry
theorem v_mo_plant : calleeV m_mo_plant 32881 32879 32880 4109 3 = true := sorry
set_option maxRecDepth 100000 in
theorem g_mo_keep : m_mo_keep.2.2.2.2.all (chkE m_mo_keep) = true := sorry
theorem p_mo_keep : plainFor y_mo_keep = true := sorry
theorem v_mo_keep : calleeV m_mo_keep 32885 32883 32884 4109 1 = true := sorry
set_option maxRecDepth 100000 in
theorem g_mo_again : m_mo_again.2.2.2.2.all (chkE m_mo_again) = true := sorry
theorem p_mo_again : plainFor y_mo_again = true := sorry
theorem v_mo_again : calleeV m_mo_again 32889 32887 32888 4109 1 = true := sorry
set_option maxRecDepth 100000 in
theorem g_mo_count : m_mo_count.2.2.2.2.all (chkE m_mo_count) = true := sorry
theorem p_mo_count : plainFor y_mo_count = true := sorry
theorem v_mo_count : calleeV m_mo_count 32893 32891 32892 4109 1 = true := sorry
set_option maxRecDepth 100000 in
theorem g_mo_row : m_mo_row.2.2.2.2.all (chkE m_mo_row) = true := sorry
theorem p_mo_row : plainFor y_mo_row = true := sorry
theorem v_mo_row : calleeV m_mo_row 32897 32895 32896 4109 1 = true := sorry
