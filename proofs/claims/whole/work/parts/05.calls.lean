/-- the methods by their numbers: class, locals, kind of answer, code -/
def MT0 : List (Nat × Nat × Nat × List EN) := [(0, 2, 0, k_X0_init), (0, 8, 0, k_X0_gather), (0, 8, 4, k_X0_fits), (0, 8, 4, k_X0_fits), (0, 8, 1, k_X0_mostLeft), (1, 1, 0, k_X1_init), (1, 9, 1, k_X1_pass), (1, 5, 1, k_X1_leaning), (1, 6, 1, k_X1_hearing), (1, 3, 0, k_X1_setNames), (1, 9, 1, k_X1_reckon), (1, 2, 0, k_X1_push), (1, 1, 1, k_X1_pop), (1, 5, 1, k_X1_joined), (1, 2, 1, k_X1_stepTo), (2, 1, 0, k_X2_init), (2, 6, 0, k_X2_spreadOut), (2, 9, 2, k_X2_share), (3, 1, 0, k_X3_init), (3, 4, 4, k_X3_breakLines), (3, 8, 0, k_X3_chooseLine), (3, 4, 1, k_X3_beginning), (3, 6, 1, k_X3_leastWidth), (3, 5, 1, k_X3_fewestLines), (4, 1, 0, k_X4_init), (4, 2, 0, k_X4_append), (4, 3, 4, k_X4_readInto), (4, 2, 4, k_X4_fail), (4, 3, 4, k_X4_readClause), (4, 1, 1, k_X4_clauseKind), (4, 2, 4, k_X4_readLaw), (4, 5, 4, k_X4_readDeed), (4, 1, 1, k_X4_leastOf), (4, 1, 1, k_X4_mostOf), (4, 4, 4, k_X4_readSum), (4, 4, 4, k_X4_readProduct), (4, 2, 4, k_X4_readOne), (4, 4, 4, k_X4_readChoice), (4, 3, 4, k_X4_readEither), (4, 3, 4, k_X4_readBoth), (4, 3, 4, k_X4_readAsk), (4, 1, 1, k_X4_comparison), (4, 4, 4, k_X4_readName), (4, 1, 1, k_X4_nameOfToken), (4, 2, 4, k_X4_put), (4, 2, 4, k_X4_takeOpening), (4, 3, 4, k_X4_takeNumber), (4, 2, 4, k_X4_takeWord), (4, 2, 4, k_X4_takeSign), (4, 3, 4, k_X4_isWord)]
def MT1 : List (Nat × Nat × Nat × List EN) := [(4, 1, 0, k_X4_advance), (4, 1, 0, k_X4_advance), (4, 2, 0, k_X4_scanSign), (4, 1, 4, k_X4_isLetter), (4, 1, 4, k_X4_isDigit), (5, 1, 0, k_X5_init), (5, 2, 4, k_X5_has), (5, 3, 0, k_X5_add), (5, 2, 1, k_X5_slantIn), (5, 3, 1, k_X5_seatOf), (5, 2, 4, k_X5_isPropped), (5, 3, 4, k_X5_canChange), (5, 4, 0, k_X5_change), (5, 4, 0, k_X5_turnAbout), (5, 3, 4, k_X5_canSetProp), (5, 3, 0, k_X5_setProp), (5, 1, 0, k_X5_renewX), (5, 1, 0, k_X5_drawWind), (5, 2, 0, k_X5_write), (5, 2, 1, k_X5_bookedYear), (5, 2, 1, k_X5_bookedPerson), (5, 2, 1, k_X5_bookedWind), (5, 3, 1, k_X5_packedSlants), (5, 4, 1, k_X5_howManyLean), (5, 2, 0, k_X5_copy), (5, 3, 0, k_X5_save), (5, 5, 0, k_X5_restore), (6, 1, 0, k_X6_init), (6, 2, 0, k_X6_keep), (6, 2, 0, k_X6_takeBack), (6, 2, 0, k_X6_copy), (6, 2, 1, k_X6_placeOf), (7, 1, 0, k_X7_init), (7, 1, 0, k_X7_clear), (7, 4, 0, k_X7_addClause), (7, 2, 0, k_X7_emit), (7, 2, 1, k_X7_emitJump), (7, 2, 0, k_X7_aimHere), (7, 2, 1, k_X7_codeAt), (8, 1, 0, k_X8_init), (8, 2, 0, k_X8_copy), (9, 1, 0, k_X9_init), (9, 4, 0, k_X9_prepare), (9, 7, 0, k_X9_prepareOrder), (9, 7, 4, k_X9_goFarther), (9, 4, 1, k_X9_behind), (9, 7, 1, k_X9_answer), (9, 3, 1, k_X9_lowestNearer), (10, 2, 0, k_X10_init), (10, 3, 1, k_X10_person)]
def MT2 : List (Nat × Nat × Nat × List EN) := [(10, 3, 4, k_X10_rack), (10, 6, 1, k_X10_feed), (10, 2, 1, k_X10_end), (10, 2, 1, k_X10_text), (10, 2, 1, k_X10_fault), (10, 2, 4, k_X10_by), (10, 3, 4, k_X10_swap), (10, 2, 4, k_X10_turn), (10, 3, 4, k_X10_prop), (10, 2, 1, k_X10_year), (10, 4, 1, k_X10_played), (10, 5, 1, k_X10_ages), (10, 1, 1, k_X10_undo), (10, 3, 1, k_X10_of), (10, 3, 1, k_X10_seat), (10, 4, 1, k_X10_hears), (10, 2, 1, k_X10_is), (10, 3, 1, k_X10_book), (10, 4, 1, k_X10_foretold), (10, 6, 1, k_X10_still), (10, 4, 1, k_X10_upright), (10, 2, 1, k_X10_byTurns), (10, 7, 1, k_X10_seats), (10, 4, 1, k_X10_ragged), (10, 2, 1, k_X10_word), (10, 3, 1, k_X10_page), (10, 3, 1, k_X10_line), (10, 2, 1, k_X10_narrowest), (10, 3, 1, k_X10_heard), (10, 4, 1, k_X10_meant), (10, 7, 1, k_X10_listen), (10, 3, 4, k_X10_bar), (10, 6, 1, k_X10_props), (10, 5, 2, k_X10_likely), (10, 4, 2, k_X10_first), (10, 4, 1, k_X10_median), (10, 4, 1, k_X10_spread), (10, 3, 1, k_X10_quarrel), (10, 3, 1, k_X10_said), (10, 3, 1, k_X10_whose), (10, 3, 1, k_X10_straight), (10, 5, 1, k_X10_steepest), (10, 4, 1, k_X10_ledger), (10, 1, 1, k_X10_image), (10, 1, 1, k_X10_back), (10, 2, 1, k_X10_about), (10, 3, 4, k_X10_within), (10, 1, 4, k_X10_isSlant), (10, 2, 1, k_X10_clamp), (10, 3, 1, k_X10_withBit)]
def MT3 : List (Nat × Nat × Nat × List EN) := [(10, 2, 4, k_X10_isText), (10, 1, 3, k_X10_ruling), (10, 4, 1, k_X10_passYears), (10, 5, 4, k_X10_perform), (10, 5, 0, k_X10_moveInAges), (10, 4, 1, k_X10_costOfOrder), (10, 2, 3, k_X10_gatherPairs), (10, 3, 4, k_X10_agrees), (10, 6, 1, k_X10_rankOf), (10, 9, 0, k_X10_unrank), (11, 1, 0, k_X11_init), (11, 3, 0, k_X11_copy), (11, 3, 4, k_X11_isIn), (11, 4, 1, k_X11_cut), (11, 1, 1, k_X11_size), (11, 2, 4, k_X11_has), (11, 3, 1, k_X11_bits), (11, 2, 4, k_X11_isPerson), (11, 1, 4, k_X11_isSteep), (11, 1, 4, k_X11_isSeat), (11, 2, 1, k_X11_slantIn), (11, 3, 1, k_X11_seatOf), (11, 4, 1, k_X11_person), (11, 2, 0, k_X11_begin), (11, 3, 4, k_X11_rack), (11, 3, 4, k_X11_bar), (11, 3, 0, k_X11_four), (11, 6, 1, k_X11_feed), (11, 2, 1, k_X11_end), (11, 2, 1, k_X11_byteAt), (11, 1, 4, k_X11_isLetterByte), (11, 1, 4, k_X11_isFigure), (11, 1, 4, k_X11_isSign), (11, 2, 0, k_X11_nextToken), (11, 2, 2, k_X11_w2), (11, 3, 2, k_X11_w3), (11, 4, 2, k_X11_w4), (11, 5, 2, k_X11_w5), (11, 6, 2, k_X11_w6), (11, 3, 4, k_X11_isWord), (11, 3, 0, k_X11_emit), (11, 1, 1, k_X11_nameOf), (11, 2, 4, k_X11_isOf), (11, 1, 1, k_X11_rank), (11, 2, 0, k_X11_settle), (11, 2, 1, k_X11_openAt), (11, 1, 1, k_X11_openNow), (11, 2, 4, k_X11_isCompared), (11, 1, 4, k_X11_isAskAhead), (11, 2, 1, k_X11_opened)]
def MT4 : List (Nat × Nat × Nat × List EN) := [(11, 2, 1, k_X11_beginOne), (11, 1, 1, k_X11_endOne), (11, 1, 1, k_X11_compareOf), (11, 1, 1, k_X11_betweenOf), (11, 2, 1, k_X11_partOf), (11, 4, 1, k_X11_behindOne), (11, 2, 1, k_X11_summed), (11, 4, 1, k_X11_figure), (11, 3, 1, k_X11_lawClause), (11, 8, 1, k_X11_pair), (11, 3, 1, k_X11_body), (11, 1, 1, k_X11_sortOf), (11, 5, 1, k_X11_clause), (11, 2, 1, k_X11_readText), (11, 1, 1, k_X11_text), (11, 2, 1, k_X11_fault), (11, 2, 4, k_X11_by), (11, 2, 2, k_X11_clip), (11, 5, 2, k_X11_two), (11, 5, 4, k_X11_isAsked), (11, 3, 2, k_X11_seatSlant), (11, 4, 2, k_X11_stepOf), (11, 3, 4, k_X11_joined), (11, 10, 2, k_X11_summedUp), (11, 6, 1, k_X11_says), (11, 2, 0, k_X11_name), (11, 4, 1, k_X11_leansOf), (11, 4, 1, k_X11_hearsOf), (11, 3, 0, k_X11_write), (11, 1, 0, k_X11_anew), (11, 4, 0, k_X11_leanAll), (11, 1, 0, k_X11_pass), (11, 3, 0, k_X11_keep), (11, 3, 1, k_X11_undo), (11, 3, 4, k_X11_canSwap), (11, 4, 0, k_X11_swapNow), (11, 3, 4, k_X11_swap), (11, 3, 0, k_X11_turnNow), (11, 2, 4, k_X11_turn), (11, 3, 4, k_X11_canProp), (11, 3, 4, k_X11_prop), (11, 3, 4, k_X11_arePassed), (11, 2, 1, k_X11_year), (11, 4, 4, k_X11_isPlayed), (11, 3, 1, k_X11_played), (11, 3, 0, k_X11_happens), (11, 5, 1, k_X11_ages), (11, 3, 1, k_X11_of), (11, 3, 1, k_X11_seat), (11, 4, 1, k_X11_hears)]
def MT5 : List (Nat × Nat × Nat × List EN) := [(11, 2, 1, k_X11_is), (11, 4, 1, k_X11_entry), (11, 3, 1, k_X11_book), (11, 4, 1, k_X11_ledger), (11, 3, 1, k_X11_straight), (11, 3, 1, k_X11_steepest), (11, 2, 0, k_X11_setAside), (11, 2, 0, k_X11_putBack), (11, 4, 1, k_X11_foretold), (11, 3, 1, k_X11_slantCode), (11, 6, 1, k_X11_still), (11, 4, 1, k_X11_upright), (11, 8, 1, k_X11_turned), (11, 4, 1, k_X11_orderOf), (11, 5, 0, k_X11_layFars), (11, 5, 1, k_X11_byTurns), (11, 4, 0, k_X11_exchange), (11, 6, 4, k_X11_isNextRow), (11, 3, 1, k_X11_rackedSum), (11, 8, 1, k_X11_seats), (11, 4, 1, k_X11_ragged), (11, 2, 1, k_X11_word), (11, 5, 1, k_X11_widthOf), (11, 7, 0, k_X11_layPage), (11, 3, 1, k_X11_page), (11, 5, 1, k_X11_line), (11, 5, 1, k_X11_linesBy), (11, 3, 1, k_X11_narrowest), (11, 3, 1, k_X11_heard), (11, 5, 4, k_X11_isMeant), (11, 6, 1, k_X11_meant), (11, 7, 1, k_X11_mostLeft), (11, 6, 1, k_X11_listen), (11, 3, 4, k_X11_areHeld), (11, 4, 1, k_X11_props), (11, 10, 2, k_X11_divisor), (11, 4, 2, k_X11_threes), (11, 2, 0, k_X11_goOne), (11, 5, 2, k_X11_part), (11, 6, 2, k_X11_likely), (11, 5, 2, k_X11_first), (11, 6, 1, k_X11_median), (11, 4, 1, k_X11_spread), (11, 4, 4, k_X11_isWon), (11, 5, 1, k_X11_quarrel), (11, 3, 1, k_X11_said), (11, 5, 1, k_X11_whose), (11, 1, 1, k_X11_image), (11, 1, 1, k_X11_back), (11, 2, 1, k_X11_about)]
def MT6 : List (Nat × Nat × Nat × List EN) := [(12, 4, 4, k_L_law)]
def MT : List (Nat × Nat × Nat × List EN) := MT0 ++ (MT1 ++ (MT2 ++ (MT3 ++ (MT4 ++ (MT5 ++ (MT6))))))
/-- a call of the method y with d frames of depth left -/
def cal (X : XS) : Nat → Nat → List AV → HP → RR
  | 0, _, _, _ => none
  | d + 1, y, as, H => match nth MT y with
    | some (_, n, rt, code) => bif Nat.ble (words as) n then rcm X (cal X d) n rt code 1000000 0 (iniL 0 as) [] H else none
    | none => none
theorem cal_eq {X : XS} {d y o n rt : Nat} {code : List EN} (h : nth MT y = some (o, n, rt, code)) (as : List AV) (H : HP) (hw : Nat.ble (words as) n = true) : cal X (d + 1) y as H = rcm X (cal X d) n rt code 1000000 0 (iniL 0 as) [] H := by
  show (match nth MT y with
    | some (_, n, rt, code) => bif Nat.ble (words as) n then rcm X (cal X d) n rt code 1000000 0 (iniL 0 as) [] H else none
    | none => none) = _
  rw [h]
  show (bif Nat.ble (words as) n then _ else none) = _
  rw [hw]
  rfl
set_option maxRecDepth 10000 in
theorem t_X0_init : nth MT 0 = some (0, 2, 0, k_X0_init) := rfl
set_option maxRecDepth 10000 in
theorem t_X0_gather : nth MT 1 = some (0, 8, 0, k_X0_gather) := rfl
set_option maxRecDepth 10000 in
theorem t_X0_fits : nth MT 2 = some (0, 8, 4, k_X0_fits) := rfl
set_option maxRecDepth 10000 in
theorem t_X0_mostLeft : nth MT 4 = some (0, 8, 1, k_X0_mostLeft) := rfl
set_option maxRecDepth 10000 in
theorem t_X1_init : nth MT 5 = some (1, 1, 0, k_X1_init) := rfl
set_option maxRecDepth 10000 in
theorem t_X1_pass : nth MT 6 = some (1, 9, 1, k_X1_pass) := rfl
set_option maxRecDepth 10000 in
theorem t_X1_leaning : nth MT 7 = some (1, 5, 1, k_X1_leaning) := rfl
set_option maxRecDepth 10000 in
theorem t_X1_hearing : nth MT 8 = some (1, 6, 1, k_X1_hearing) := rfl
set_option maxRecDepth 10000 in
theorem t_X1_setNames : nth MT 9 = some (1, 3, 0, k_X1_setNames) := rfl
set_option maxRecDepth 10000 in
theorem t_X1_reckon : nth MT 10 = some (1, 9, 1, k_X1_reckon) := rfl
set_option maxRecDepth 10000 in
theorem t_X1_push : nth MT 11 = some (1, 2, 0, k_X1_push) := rfl
set_option maxRecDepth 10000 in
theorem t_X1_pop : nth MT 12 = some (1, 1, 1, k_X1_pop) := rfl
set_option maxRecDepth 10000 in
theorem t_X1_joined : nth MT 13 = some (1, 5, 1, k_X1_joined) := rfl
set_option maxRecDepth 10000 in
theorem t_X1_stepTo : nth MT 14 = some (1, 2, 1, k_X1_stepTo) := rfl
set_option maxRecDepth 10000 in
theorem t_X2_init : nth MT 15 = some (2, 1, 0, k_X2_init) := rfl
set_option maxRecDepth 10000 in
theorem t_X2_spreadOut : nth MT 16 = some (2, 6, 0, k_X2_spreadOut) := rfl
set_option maxRecDepth 10000 in
theorem t_X2_share : nth MT 17 = some (2, 9, 2, k_X2_share) := rfl
set_option maxRecDepth 10000 in
theorem t_X3_init : nth MT 18 = some (3, 1, 0, k_X3_init) := rfl
set_option maxRecDepth 10000 in
theorem t_X3_breakLines : nth MT 19 = some (3, 4, 4, k_X3_breakLines) := rfl
set_option maxRecDepth 10000 in
theorem t_X3_chooseLine : nth MT 20 = some (3, 8, 0, k_X3_chooseLine) := rfl
set_option maxRecDepth 10000 in
theorem t_X3_beginning : nth MT 21 = some (3, 4, 1, k_X3_beginning) := rfl
set_option maxRecDepth 10000 in
theorem t_X3_leastWidth : nth MT 22 = some (3, 6, 1, k_X3_leastWidth) := rfl
set_option maxRecDepth 10000 in
theorem t_X3_fewestLines : nth MT 23 = some (3, 5, 1, k_X3_fewestLines) := rfl
set_option maxRecDepth 10000 in
theorem t_X4_init : nth MT 24 = some (4, 1, 0, k_X4_init) := rfl
set_option maxRecDepth 10000 in
theorem t_X4_append : nth MT 25 = some (4, 2, 0, k_X4_append) := rfl
set_option maxRecDepth 10000 in
theorem t_X4_readInto : nth MT 26 = some (4, 3, 4, k_X4_readInto) := rfl
set_option maxRecDepth 10000 in
theorem t_X4_fail : nth MT 27 = some (4, 2, 4, k_X4_fail) := rfl
set_option maxRecDepth 10000 in
theorem t_X4_readClause : nth MT 28 = some (4, 3, 4, k_X4_readClause) := rfl
set_option maxRecDepth 10000 in
theorem t_X4_clauseKind : nth MT 29 = some (4, 1, 1, k_X4_clauseKind) := rfl
set_option maxRecDepth 10000 in
theorem t_X4_readLaw : nth MT 30 = some (4, 2, 4, k_X4_readLaw) := rfl
set_option maxRecDepth 10000 in
theorem t_X4_readDeed : nth MT 31 = some (4, 5, 4, k_X4_readDeed) := rfl
set_option maxRecDepth 10000 in
theorem t_X4_leastOf : nth MT 32 = some (4, 1, 1, k_X4_leastOf) := rfl
set_option maxRecDepth 10000 in
theorem t_X4_mostOf : nth MT 33 = some (4, 1, 1, k_X4_mostOf) := rfl
set_option maxRecDepth 10000 in
theorem t_X4_readSum : nth MT 34 = some (4, 4, 4, k_X4_readSum) := rfl
set_option maxRecDepth 10000 in
theorem t_X4_readProduct : nth MT 35 = some (4, 4, 4, k_X4_readProduct) := rfl
set_option maxRecDepth 10000 in
theorem t_X4_readOne : nth MT 36 = some (4, 2, 4, k_X4_readOne) := rfl
set_option maxRecDepth 10000 in
theorem t_X4_readChoice : nth MT 37 = some (4, 4, 4, k_X4_readChoice) := rfl
set_option maxRecDepth 10000 in
theorem t_X4_readEither : nth MT 38 = some (4, 3, 4, k_X4_readEither) := rfl
set_option maxRecDepth 10000 in
theorem t_X4_readBoth : nth MT 39 = some (4, 3, 4, k_X4_readBoth) := rfl
set_option maxRecDepth 10000 in
theorem t_X4_readAsk : nth MT 40 = some (4, 3, 4, k_X4_readAsk) := rfl
set_option maxRecDepth 10000 in
theorem t_X4_comparison : nth MT 41 = some (4, 1, 1, k_X4_comparison) := rfl
set_option maxRecDepth 10000 in
theorem t_X4_readName : nth MT 42 = some (4, 4, 4, k_X4_readName) := rfl
set_option maxRecDepth 10000 in
theorem t_X4_nameOfToken : nth MT 43 = some (4, 1, 1, k_X4_nameOfToken) := rfl
set_option maxRecDepth 10000 in
theorem t_X4_put : nth MT 44 = some (4, 2, 4, k_X4_put) := rfl
set_option maxRecDepth 10000 in
theorem t_X4_takeOpening : nth MT 45 = some (4, 2, 4, k_X4_takeOpening) := rfl
set_option maxRecDepth 10000 in
theorem t_X4_takeNumber : nth MT 46 = some (4, 3, 4, k_X4_takeNumber) := rfl
set_option maxRecDepth 10000 in
theorem t_X4_takeWord : nth MT 47 = some (4, 2, 4, k_X4_takeWord) := rfl
set_option maxRecDepth 10000 in
theorem t_X4_takeSign : nth MT 48 = some (4, 2, 4, k_X4_takeSign) := rfl
set_option maxRecDepth 10000 in
theorem t_X4_isWord : nth MT 49 = some (4, 3, 4, k_X4_isWord) := rfl
set_option maxRecDepth 10000 in
theorem t_X4_advance : nth MT 50 = some (4, 1, 0, k_X4_advance) := rfl
set_option maxRecDepth 10000 in
theorem t_X4_scanSign : nth MT 52 = some (4, 2, 0, k_X4_scanSign) := rfl
set_option maxRecDepth 10000 in
theorem t_X4_isLetter : nth MT 53 = some (4, 1, 4, k_X4_isLetter) := rfl
set_option maxRecDepth 10000 in
theorem t_X4_isDigit : nth MT 54 = some (4, 1, 4, k_X4_isDigit) := rfl
set_option maxRecDepth 10000 in
theorem t_X5_init : nth MT 55 = some (5, 1, 0, k_X5_init) := rfl
set_option maxRecDepth 10000 in
theorem t_X5_has : nth MT 56 = some (5, 2, 4, k_X5_has) := rfl
set_option maxRecDepth 10000 in
theorem t_X5_add : nth MT 57 = some (5, 3, 0, k_X5_add) := rfl
set_option maxRecDepth 10000 in
theorem t_X5_slantIn : nth MT 58 = some (5, 2, 1, k_X5_slantIn) := rfl
set_option maxRecDepth 10000 in
theorem t_X5_seatOf : nth MT 59 = some (5, 3, 1, k_X5_seatOf) := rfl
set_option maxRecDepth 10000 in
theorem t_X5_isPropped : nth MT 60 = some (5, 2, 4, k_X5_isPropped) := rfl
set_option maxRecDepth 10000 in
theorem t_X5_canChange : nth MT 61 = some (5, 3, 4, k_X5_canChange) := rfl
set_option maxRecDepth 10000 in
theorem t_X5_change : nth MT 62 = some (5, 4, 0, k_X5_change) := rfl
set_option maxRecDepth 10000 in
theorem t_X5_turnAbout : nth MT 63 = some (5, 4, 0, k_X5_turnAbout) := rfl
set_option maxRecDepth 10000 in
theorem t_X5_canSetProp : nth MT 64 = some (5, 3, 4, k_X5_canSetProp) := rfl
set_option maxRecDepth 10000 in
theorem t_X5_setProp : nth MT 65 = some (5, 3, 0, k_X5_setProp) := rfl
set_option maxRecDepth 10000 in
theorem t_X5_renewX : nth MT 66 = some (5, 1, 0, k_X5_renewX) := rfl
set_option maxRecDepth 10000 in
theorem t_X5_drawWind : nth MT 67 = some (5, 1, 0, k_X5_drawWind) := rfl
set_option maxRecDepth 10000 in
theorem t_X5_write : nth MT 68 = some (5, 2, 0, k_X5_write) := rfl
set_option maxRecDepth 10000 in
theorem t_X5_bookedYear : nth MT 69 = some (5, 2, 1, k_X5_bookedYear) := rfl
set_option maxRecDepth 10000 in
theorem t_X5_bookedPerson : nth MT 70 = some (5, 2, 1, k_X5_bookedPerson) := rfl
set_option maxRecDepth 10000 in
theorem t_X5_bookedWind : nth MT 71 = some (5, 2, 1, k_X5_bookedWind) := rfl
set_option maxRecDepth 10000 in
theorem t_X5_packedSlants : nth MT 72 = some (5, 3, 1, k_X5_packedSlants) := rfl
set_option maxRecDepth 10000 in
theorem t_X5_howManyLean : nth MT 73 = some (5, 4, 1, k_X5_howManyLean) := rfl
set_option maxRecDepth 10000 in
theorem t_X5_copy : nth MT 74 = some (5, 2, 0, k_X5_copy) := rfl
set_option maxRecDepth 10000 in
theorem t_X5_save : nth MT 75 = some (5, 3, 0, k_X5_save) := rfl
set_option maxRecDepth 10000 in
theorem t_X5_restore : nth MT 76 = some (5, 5, 0, k_X5_restore) := rfl
set_option maxRecDepth 10000 in
theorem t_X6_init : nth MT 77 = some (6, 1, 0, k_X6_init) := rfl
set_option maxRecDepth 10000 in
theorem t_X6_keep : nth MT 78 = some (6, 2, 0, k_X6_keep) := rfl
set_option maxRecDepth 10000 in
theorem t_X6_takeBack : nth MT 79 = some (6, 2, 0, k_X6_takeBack) := rfl
set_option maxRecDepth 10000 in
theorem t_X6_copy : nth MT 80 = some (6, 2, 0, k_X6_copy) := rfl
set_option maxRecDepth 10000 in
theorem t_X6_placeOf : nth MT 81 = some (6, 2, 1, k_X6_placeOf) := rfl
set_option maxRecDepth 10000 in
theorem t_X7_init : nth MT 82 = some (7, 1, 0, k_X7_init) := rfl
set_option maxRecDepth 10000 in
theorem t_X7_clear : nth MT 83 = some (7, 1, 0, k_X7_clear) := rfl
set_option maxRecDepth 10000 in
theorem t_X7_addClause : nth MT 84 = some (7, 4, 0, k_X7_addClause) := rfl
set_option maxRecDepth 10000 in
theorem t_X7_emit : nth MT 85 = some (7, 2, 0, k_X7_emit) := rfl
set_option maxRecDepth 10000 in
theorem t_X7_emitJump : nth MT 86 = some (7, 2, 1, k_X7_emitJump) := rfl
set_option maxRecDepth 10000 in
theorem t_X7_aimHere : nth MT 87 = some (7, 2, 0, k_X7_aimHere) := rfl
set_option maxRecDepth 10000 in
theorem t_X7_codeAt : nth MT 88 = some (7, 2, 1, k_X7_codeAt) := rfl
set_option maxRecDepth 10000 in
theorem t_X8_init : nth MT 89 = some (8, 1, 0, k_X8_init) := rfl
set_option maxRecDepth 10000 in
theorem t_X8_copy : nth MT 90 = some (8, 2, 0, k_X8_copy) := rfl
set_option maxRecDepth 10000 in
theorem t_X9_init : nth MT 91 = some (9, 1, 0, k_X9_init) := rfl
set_option maxRecDepth 10000 in
theorem t_X9_prepare : nth MT 92 = some (9, 4, 0, k_X9_prepare) := rfl
set_option maxRecDepth 10000 in
theorem t_X9_prepareOrder : nth MT 93 = some (9, 7, 0, k_X9_prepareOrder) := rfl
set_option maxRecDepth 10000 in
theorem t_X9_goFarther : nth MT 94 = some (9, 7, 4, k_X9_goFarther) := rfl
set_option maxRecDepth 10000 in
theorem t_X9_behind : nth MT 95 = some (9, 4, 1, k_X9_behind) := rfl
set_option maxRecDepth 10000 in
theorem t_X9_answer : nth MT 96 = some (9, 7, 1, k_X9_answer) := rfl
set_option maxRecDepth 10000 in
theorem t_X9_lowestNearer : nth MT 97 = some (9, 3, 1, k_X9_lowestNearer) := rfl
set_option maxRecDepth 10000 in
theorem t_X10_init : nth MT 98 = some (10, 2, 0, k_X10_init) := rfl
set_option maxRecDepth 10000 in
theorem t_X10_person : nth MT 99 = some (10, 3, 1, k_X10_person) := rfl
set_option maxRecDepth 10000 in
theorem t_X10_rack : nth MT 100 = some (10, 3, 4, k_X10_rack) := rfl
set_option maxRecDepth 10000 in
theorem t_X10_feed : nth MT 101 = some (10, 6, 1, k_X10_feed) := rfl
set_option maxRecDepth 10000 in
theorem t_X10_end : nth MT 102 = some (10, 2, 1, k_X10_end) := rfl
set_option maxRecDepth 10000 in
theorem t_X10_text : nth MT 103 = some (10, 2, 1, k_X10_text) := rfl
set_option maxRecDepth 10000 in
theorem t_X10_fault : nth MT 104 = some (10, 2, 1, k_X10_fault) := rfl
set_option maxRecDepth 10000 in
theorem t_X10_by : nth MT 105 = some (10, 2, 4, k_X10_by) := rfl
set_option maxRecDepth 10000 in
theorem t_X10_swap : nth MT 106 = some (10, 3, 4, k_X10_swap) := rfl
set_option maxRecDepth 10000 in
theorem t_X10_turn : nth MT 107 = some (10, 2, 4, k_X10_turn) := rfl
set_option maxRecDepth 10000 in
theorem t_X10_prop : nth MT 108 = some (10, 3, 4, k_X10_prop) := rfl
set_option maxRecDepth 10000 in
theorem t_X10_year : nth MT 109 = some (10, 2, 1, k_X10_year) := rfl
set_option maxRecDepth 10000 in
theorem t_X10_played : nth MT 110 = some (10, 4, 1, k_X10_played) := rfl
set_option maxRecDepth 10000 in
theorem t_X10_ages : nth MT 111 = some (10, 5, 1, k_X10_ages) := rfl
set_option maxRecDepth 10000 in
theorem t_X10_undo : nth MT 112 = some (10, 1, 1, k_X10_undo) := rfl
set_option maxRecDepth 10000 in
theorem t_X10_of : nth MT 113 = some (10, 3, 1, k_X10_of) := rfl
set_option maxRecDepth 10000 in
theorem t_X10_seat : nth MT 114 = some (10, 3, 1, k_X10_seat) := rfl
set_option maxRecDepth 10000 in
theorem t_X10_hears : nth MT 115 = some (10, 4, 1, k_X10_hears) := rfl
set_option maxRecDepth 10000 in
theorem t_X10_is : nth MT 116 = some (10, 2, 1, k_X10_is) := rfl
set_option maxRecDepth 10000 in
theorem t_X10_book : nth MT 117 = some (10, 3, 1, k_X10_book) := rfl
set_option maxRecDepth 10000 in
theorem t_X10_foretold : nth MT 118 = some (10, 4, 1, k_X10_foretold) := rfl
set_option maxRecDepth 10000 in
theorem t_X10_still : nth MT 119 = some (10, 6, 1, k_X10_still) := rfl
set_option maxRecDepth 10000 in
theorem t_X10_upright : nth MT 120 = some (10, 4, 1, k_X10_upright) := rfl
set_option maxRecDepth 10000 in
theorem t_X10_byTurns : nth MT 121 = some (10, 2, 1, k_X10_byTurns) := rfl
set_option maxRecDepth 10000 in
theorem t_X10_seats : nth MT 122 = some (10, 7, 1, k_X10_seats) := rfl
set_option maxRecDepth 10000 in
theorem t_X10_ragged : nth MT 123 = some (10, 4, 1, k_X10_ragged) := rfl
set_option maxRecDepth 10000 in
theorem t_X10_word : nth MT 124 = some (10, 2, 1, k_X10_word) := rfl
set_option maxRecDepth 10000 in
theorem t_X10_page : nth MT 125 = some (10, 3, 1, k_X10_page) := rfl
set_option maxRecDepth 10000 in
theorem t_X10_line : nth MT 126 = some (10, 3, 1, k_X10_line) := rfl
set_option maxRecDepth 10000 in
theorem t_X10_narrowest : nth MT 127 = some (10, 2, 1, k_X10_narrowest) := rfl
set_option maxRecDepth 10000 in
theorem t_X10_heard : nth MT 128 = some (10, 3, 1, k_X10_heard) := rfl
set_option maxRecDepth 10000 in
theorem t_X10_meant : nth MT 129 = some (10, 4, 1, k_X10_meant) := rfl
set_option maxRecDepth 10000 in
theorem t_X10_listen : nth MT 130 = some (10, 7, 1, k_X10_listen) := rfl
set_option maxRecDepth 10000 in
theorem t_X10_bar : nth MT 131 = some (10, 3, 4, k_X10_bar) := rfl
set_option maxRecDepth 10000 in
theorem t_X10_props : nth MT 132 = some (10, 6, 1, k_X10_props) := rfl
set_option maxRecDepth 10000 in
theorem t_X10_likely : nth MT 133 = some (10, 5, 2, k_X10_likely) := rfl
set_option maxRecDepth 10000 in
theorem t_X10_first : nth MT 134 = some (10, 4, 2, k_X10_first) := rfl
set_option maxRecDepth 10000 in
theorem t_X10_median : nth MT 135 = some (10, 4, 1, k_X10_median) := rfl
set_option maxRecDepth 10000 in
theorem t_X10_spread : nth MT 136 = some (10, 4, 1, k_X10_spread) := rfl
set_option maxRecDepth 10000 in
theorem t_X10_quarrel : nth MT 137 = some (10, 3, 1, k_X10_quarrel) := rfl
set_option maxRecDepth 10000 in
theorem t_X10_said : nth MT 138 = some (10, 3, 1, k_X10_said) := rfl
set_option maxRecDepth 10000 in
theorem t_X10_whose : nth MT 139 = some (10, 3, 1, k_X10_whose) := rfl
set_option maxRecDepth 10000 in
theorem t_X10_straight : nth MT 140 = some (10, 3, 1, k_X10_straight) := rfl
set_option maxRecDepth 10000 in
theorem t_X10_steepest : nth MT 141 = some (10, 5, 1, k_X10_steepest) := rfl
set_option maxRecDepth 10000 in
theorem t_X10_ledger : nth MT 142 = some (10, 4, 1, k_X10_ledger) := rfl
set_option maxRecDepth 10000 in
theorem t_X10_image : nth MT 143 = some (10, 1, 1, k_X10_image) := rfl
set_option maxRecDepth 10000 in
theorem t_X10_back : nth MT 144 = some (10, 1, 1, k_X10_back) := rfl
set_option maxRecDepth 10000 in
theorem t_X10_about : nth MT 145 = some (10, 2, 1, k_X10_about) := rfl
set_option maxRecDepth 10000 in
theorem t_X10_within : nth MT 146 = some (10, 3, 4, k_X10_within) := rfl
set_option maxRecDepth 10000 in
theorem t_X10_isSlant : nth MT 147 = some (10, 1, 4, k_X10_isSlant) := rfl
set_option maxRecDepth 10000 in
theorem t_X10_clamp : nth MT 148 = some (10, 2, 1, k_X10_clamp) := rfl
set_option maxRecDepth 10000 in
theorem t_X10_withBit : nth MT 149 = some (10, 3, 1, k_X10_withBit) := rfl
set_option maxRecDepth 10000 in
theorem t_X10_isText : nth MT 150 = some (10, 2, 4, k_X10_isText) := rfl
set_option maxRecDepth 10000 in
theorem t_X10_ruling : nth MT 151 = some (10, 1, 3, k_X10_ruling) := rfl
set_option maxRecDepth 10000 in
theorem t_X10_passYears : nth MT 152 = some (10, 4, 1, k_X10_passYears) := rfl
set_option maxRecDepth 10000 in
theorem t_X10_perform : nth MT 153 = some (10, 5, 4, k_X10_perform) := rfl
set_option maxRecDepth 10000 in
theorem t_X10_moveInAges : nth MT 154 = some (10, 5, 0, k_X10_moveInAges) := rfl
set_option maxRecDepth 10000 in
theorem t_X10_costOfOrder : nth MT 155 = some (10, 4, 1, k_X10_costOfOrder) := rfl
set_option maxRecDepth 10000 in
theorem t_X10_gatherPairs : nth MT 156 = some (10, 2, 3, k_X10_gatherPairs) := rfl
set_option maxRecDepth 10000 in
theorem t_X10_agrees : nth MT 157 = some (10, 3, 4, k_X10_agrees) := rfl
set_option maxRecDepth 10000 in
theorem t_X10_rankOf : nth MT 158 = some (10, 6, 1, k_X10_rankOf) := rfl
set_option maxRecDepth 10000 in
theorem t_X10_unrank : nth MT 159 = some (10, 9, 0, k_X10_unrank) := rfl
set_option maxRecDepth 10000 in
theorem t_X11_init : nth MT 160 = some (11, 1, 0, k_X11_init) := rfl
set_option maxRecDepth 10000 in
theorem t_X11_copy : nth MT 161 = some (11, 3, 0, k_X11_copy) := rfl
set_option maxRecDepth 10000 in
theorem t_X11_isIn : nth MT 162 = some (11, 3, 4, k_X11_isIn) := rfl
set_option maxRecDepth 10000 in
theorem t_X11_cut : nth MT 163 = some (11, 4, 1, k_X11_cut) := rfl
set_option maxRecDepth 10000 in
theorem t_X11_size : nth MT 164 = some (11, 1, 1, k_X11_size) := rfl
set_option maxRecDepth 10000 in
theorem t_X11_has : nth MT 165 = some (11, 2, 4, k_X11_has) := rfl
set_option maxRecDepth 10000 in
theorem t_X11_bits : nth MT 166 = some (11, 3, 1, k_X11_bits) := rfl
set_option maxRecDepth 10000 in
theorem t_X11_isPerson : nth MT 167 = some (11, 2, 4, k_X11_isPerson) := rfl
set_option maxRecDepth 10000 in
theorem t_X11_isSteep : nth MT 168 = some (11, 1, 4, k_X11_isSteep) := rfl
set_option maxRecDepth 10000 in
theorem t_X11_isSeat : nth MT 169 = some (11, 1, 4, k_X11_isSeat) := rfl
set_option maxRecDepth 10000 in
theorem t_X11_slantIn : nth MT 170 = some (11, 2, 1, k_X11_slantIn) := rfl
set_option maxRecDepth 10000 in
theorem t_X11_seatOf : nth MT 171 = some (11, 3, 1, k_X11_seatOf) := rfl
set_option maxRecDepth 10000 in
theorem t_X11_person : nth MT 172 = some (11, 4, 1, k_X11_person) := rfl
set_option maxRecDepth 10000 in
theorem t_X11_begin : nth MT 173 = some (11, 2, 0, k_X11_begin) := rfl
set_option maxRecDepth 10000 in
theorem t_X11_rack : nth MT 174 = some (11, 3, 4, k_X11_rack) := rfl
set_option maxRecDepth 10000 in
theorem t_X11_bar : nth MT 175 = some (11, 3, 4, k_X11_bar) := rfl
set_option maxRecDepth 10000 in
theorem t_X11_four : nth MT 176 = some (11, 3, 0, k_X11_four) := rfl
set_option maxRecDepth 10000 in
theorem t_X11_feed : nth MT 177 = some (11, 6, 1, k_X11_feed) := rfl
set_option maxRecDepth 10000 in
theorem t_X11_end : nth MT 178 = some (11, 2, 1, k_X11_end) := rfl
set_option maxRecDepth 10000 in
theorem t_X11_byteAt : nth MT 179 = some (11, 2, 1, k_X11_byteAt) := rfl
set_option maxRecDepth 10000 in
theorem t_X11_isLetterByte : nth MT 180 = some (11, 1, 4, k_X11_isLetterByte) := rfl
set_option maxRecDepth 10000 in
theorem t_X11_isFigure : nth MT 181 = some (11, 1, 4, k_X11_isFigure) := rfl
set_option maxRecDepth 10000 in
theorem t_X11_isSign : nth MT 182 = some (11, 1, 4, k_X11_isSign) := rfl
set_option maxRecDepth 10000 in
theorem t_X11_nextToken : nth MT 183 = some (11, 2, 0, k_X11_nextToken) := rfl
set_option maxRecDepth 10000 in
theorem t_X11_w2 : nth MT 184 = some (11, 2, 2, k_X11_w2) := rfl
set_option maxRecDepth 10000 in
theorem t_X11_w3 : nth MT 185 = some (11, 3, 2, k_X11_w3) := rfl
set_option maxRecDepth 10000 in
theorem t_X11_w4 : nth MT 186 = some (11, 4, 2, k_X11_w4) := rfl
set_option maxRecDepth 10000 in
theorem t_X11_w5 : nth MT 187 = some (11, 5, 2, k_X11_w5) := rfl
set_option maxRecDepth 10000 in
theorem t_X11_w6 : nth MT 188 = some (11, 6, 2, k_X11_w6) := rfl
set_option maxRecDepth 10000 in
theorem t_X11_isWord : nth MT 189 = some (11, 3, 4, k_X11_isWord) := rfl
set_option maxRecDepth 10000 in
theorem t_X11_emit : nth MT 190 = some (11, 3, 0, k_X11_emit) := rfl
set_option maxRecDepth 10000 in
theorem t_X11_nameOf : nth MT 191 = some (11, 1, 1, k_X11_nameOf) := rfl
set_option maxRecDepth 10000 in
theorem t_X11_isOf : nth MT 192 = some (11, 2, 4, k_X11_isOf) := rfl
set_option maxRecDepth 10000 in
theorem t_X11_rank : nth MT 193 = some (11, 1, 1, k_X11_rank) := rfl
set_option maxRecDepth 10000 in
theorem t_X11_settle : nth MT 194 = some (11, 2, 0, k_X11_settle) := rfl
set_option maxRecDepth 10000 in
theorem t_X11_openAt : nth MT 195 = some (11, 2, 1, k_X11_openAt) := rfl
set_option maxRecDepth 10000 in
theorem t_X11_openNow : nth MT 196 = some (11, 1, 1, k_X11_openNow) := rfl
set_option maxRecDepth 10000 in
theorem t_X11_isCompared : nth MT 197 = some (11, 2, 4, k_X11_isCompared) := rfl
set_option maxRecDepth 10000 in
theorem t_X11_isAskAhead : nth MT 198 = some (11, 1, 4, k_X11_isAskAhead) := rfl
set_option maxRecDepth 10000 in
theorem t_X11_opened : nth MT 199 = some (11, 2, 1, k_X11_opened) := rfl
set_option maxRecDepth 10000 in
theorem t_X11_beginOne : nth MT 200 = some (11, 2, 1, k_X11_beginOne) := rfl
set_option maxRecDepth 10000 in
theorem t_X11_endOne : nth MT 201 = some (11, 1, 1, k_X11_endOne) := rfl
set_option maxRecDepth 10000 in
theorem t_X11_compareOf : nth MT 202 = some (11, 1, 1, k_X11_compareOf) := rfl
set_option maxRecDepth 10000 in
theorem t_X11_betweenOf : nth MT 203 = some (11, 1, 1, k_X11_betweenOf) := rfl
set_option maxRecDepth 10000 in
theorem t_X11_partOf : nth MT 204 = some (11, 2, 1, k_X11_partOf) := rfl
set_option maxRecDepth 10000 in
theorem t_X11_behindOne : nth MT 205 = some (11, 4, 1, k_X11_behindOne) := rfl
set_option maxRecDepth 10000 in
theorem t_X11_summed : nth MT 206 = some (11, 2, 1, k_X11_summed) := rfl
set_option maxRecDepth 10000 in
theorem t_X11_figure : nth MT 207 = some (11, 4, 1, k_X11_figure) := rfl
set_option maxRecDepth 10000 in
theorem t_X11_lawClause : nth MT 208 = some (11, 3, 1, k_X11_lawClause) := rfl
set_option maxRecDepth 10000 in
theorem t_X11_pair : nth MT 209 = some (11, 8, 1, k_X11_pair) := rfl
set_option maxRecDepth 10000 in
theorem t_X11_body : nth MT 210 = some (11, 3, 1, k_X11_body) := rfl
set_option maxRecDepth 10000 in
theorem t_X11_sortOf : nth MT 211 = some (11, 1, 1, k_X11_sortOf) := rfl
set_option maxRecDepth 10000 in
theorem t_X11_clause : nth MT 212 = some (11, 5, 1, k_X11_clause) := rfl
set_option maxRecDepth 10000 in
theorem t_X11_readText : nth MT 213 = some (11, 2, 1, k_X11_readText) := rfl
set_option maxRecDepth 10000 in
theorem t_X11_text : nth MT 214 = some (11, 1, 1, k_X11_text) := rfl
set_option maxRecDepth 10000 in
theorem t_X11_fault : nth MT 215 = some (11, 2, 1, k_X11_fault) := rfl
set_option maxRecDepth 10000 in
theorem t_X11_by : nth MT 216 = some (11, 2, 4, k_X11_by) := rfl
set_option maxRecDepth 10000 in
theorem t_X11_clip : nth MT 217 = some (11, 2, 2, k_X11_clip) := rfl
set_option maxRecDepth 10000 in
theorem t_X11_two : nth MT 218 = some (11, 5, 2, k_X11_two) := rfl
set_option maxRecDepth 10000 in
theorem t_X11_isAsked : nth MT 219 = some (11, 5, 4, k_X11_isAsked) := rfl
set_option maxRecDepth 10000 in
theorem t_X11_seatSlant : nth MT 220 = some (11, 3, 2, k_X11_seatSlant) := rfl
set_option maxRecDepth 10000 in
theorem t_X11_stepOf : nth MT 221 = some (11, 4, 2, k_X11_stepOf) := rfl
set_option maxRecDepth 10000 in
theorem t_X11_joined : nth MT 222 = some (11, 3, 4, k_X11_joined) := rfl
set_option maxRecDepth 10000 in
theorem t_X11_summedUp : nth MT 223 = some (11, 10, 2, k_X11_summedUp) := rfl
set_option maxRecDepth 10000 in
theorem t_X11_says : nth MT 224 = some (11, 6, 1, k_X11_says) := rfl
set_option maxRecDepth 10000 in
theorem t_X11_name : nth MT 225 = some (11, 2, 0, k_X11_name) := rfl
set_option maxRecDepth 10000 in
theorem t_X11_leansOf : nth MT 226 = some (11, 4, 1, k_X11_leansOf) := rfl
set_option maxRecDepth 10000 in
theorem t_X11_hearsOf : nth MT 227 = some (11, 4, 1, k_X11_hearsOf) := rfl
set_option maxRecDepth 10000 in
theorem t_X11_write : nth MT 228 = some (11, 3, 0, k_X11_write) := rfl
set_option maxRecDepth 10000 in
theorem t_X11_anew : nth MT 229 = some (11, 1, 0, k_X11_anew) := rfl
set_option maxRecDepth 10000 in
theorem t_X11_leanAll : nth MT 230 = some (11, 4, 0, k_X11_leanAll) := rfl
set_option maxRecDepth 10000 in
theorem t_X11_pass : nth MT 231 = some (11, 1, 0, k_X11_pass) := rfl
set_option maxRecDepth 10000 in
theorem t_X11_keep : nth MT 232 = some (11, 3, 0, k_X11_keep) := rfl
set_option maxRecDepth 10000 in
theorem t_X11_undo : nth MT 233 = some (11, 3, 1, k_X11_undo) := rfl
set_option maxRecDepth 10000 in
theorem t_X11_canSwap : nth MT 234 = some (11, 3, 4, k_X11_canSwap) := rfl
set_option maxRecDepth 10000 in
theorem t_X11_swapNow : nth MT 235 = some (11, 4, 0, k_X11_swapNow) := rfl
set_option maxRecDepth 10000 in
theorem t_X11_swap : nth MT 236 = some (11, 3, 4, k_X11_swap) := rfl
set_option maxRecDepth 10000 in
theorem t_X11_turnNow : nth MT 237 = some (11, 3, 0, k_X11_turnNow) := rfl
set_option maxRecDepth 10000 in
theorem t_X11_turn : nth MT 238 = some (11, 2, 4, k_X11_turn) := rfl
set_option maxRecDepth 10000 in
theorem t_X11_canProp : nth MT 239 = some (11, 3, 4, k_X11_canProp) := rfl
set_option maxRecDepth 10000 in
theorem t_X11_prop : nth MT 240 = some (11, 3, 4, k_X11_prop) := rfl
set_option maxRecDepth 10000 in
theorem t_X11_arePassed : nth MT 241 = some (11, 3, 4, k_X11_arePassed) := rfl
set_option maxRecDepth 10000 in
theorem t_X11_year : nth MT 242 = some (11, 2, 1, k_X11_year) := rfl
set_option maxRecDepth 10000 in
theorem t_X11_isPlayed : nth MT 243 = some (11, 4, 4, k_X11_isPlayed) := rfl
set_option maxRecDepth 10000 in
theorem t_X11_played : nth MT 244 = some (11, 3, 1, k_X11_played) := rfl
set_option maxRecDepth 10000 in
theorem t_X11_happens : nth MT 245 = some (11, 3, 0, k_X11_happens) := rfl
set_option maxRecDepth 10000 in
theorem t_X11_ages : nth MT 246 = some (11, 5, 1, k_X11_ages) := rfl
set_option maxRecDepth 10000 in
theorem t_X11_of : nth MT 247 = some (11, 3, 1, k_X11_of) := rfl
set_option maxRecDepth 10000 in
theorem t_X11_seat : nth MT 248 = some (11, 3, 1, k_X11_seat) := rfl
set_option maxRecDepth 10000 in
theorem t_X11_hears : nth MT 249 = some (11, 4, 1, k_X11_hears) := rfl
set_option maxRecDepth 10000 in
theorem t_X11_is : nth MT 250 = some (11, 2, 1, k_X11_is) := rfl
set_option maxRecDepth 10000 in
theorem t_X11_entry : nth MT 251 = some (11, 4, 1, k_X11_entry) := rfl
set_option maxRecDepth 10000 in
theorem t_X11_book : nth MT 252 = some (11, 3, 1, k_X11_book) := rfl
set_option maxRecDepth 10000 in
theorem t_X11_ledger : nth MT 253 = some (11, 4, 1, k_X11_ledger) := rfl
set_option maxRecDepth 10000 in
theorem t_X11_straight : nth MT 254 = some (11, 3, 1, k_X11_straight) := rfl
set_option maxRecDepth 10000 in
theorem t_X11_steepest : nth MT 255 = some (11, 3, 1, k_X11_steepest) := rfl
set_option maxRecDepth 10000 in
theorem t_X11_setAside : nth MT 256 = some (11, 2, 0, k_X11_setAside) := rfl
set_option maxRecDepth 10000 in
theorem t_X11_putBack : nth MT 257 = some (11, 2, 0, k_X11_putBack) := rfl
set_option maxRecDepth 10000 in
theorem t_X11_foretold : nth MT 258 = some (11, 4, 1, k_X11_foretold) := rfl
set_option maxRecDepth 10000 in
theorem t_X11_slantCode : nth MT 259 = some (11, 3, 1, k_X11_slantCode) := rfl
set_option maxRecDepth 10000 in
theorem t_X11_still : nth MT 260 = some (11, 6, 1, k_X11_still) := rfl
set_option maxRecDepth 10000 in
theorem t_X11_upright : nth MT 261 = some (11, 4, 1, k_X11_upright) := rfl
set_option maxRecDepth 10000 in
theorem t_X11_turned : nth MT 262 = some (11, 8, 1, k_X11_turned) := rfl
set_option maxRecDepth 10000 in
theorem t_X11_orderOf : nth MT 263 = some (11, 4, 1, k_X11_orderOf) := rfl
set_option maxRecDepth 10000 in
theorem t_X11_layFars : nth MT 264 = some (11, 5, 0, k_X11_layFars) := rfl
set_option maxRecDepth 10000 in
theorem t_X11_byTurns : nth MT 265 = some (11, 5, 1, k_X11_byTurns) := rfl
set_option maxRecDepth 10000 in
theorem t_X11_exchange : nth MT 266 = some (11, 4, 0, k_X11_exchange) := rfl
set_option maxRecDepth 10000 in
theorem t_X11_isNextRow : nth MT 267 = some (11, 6, 4, k_X11_isNextRow) := rfl
set_option maxRecDepth 10000 in
theorem t_X11_rackedSum : nth MT 268 = some (11, 3, 1, k_X11_rackedSum) := rfl
set_option maxRecDepth 10000 in
theorem t_X11_seats : nth MT 269 = some (11, 8, 1, k_X11_seats) := rfl
set_option maxRecDepth 10000 in
theorem t_X11_ragged : nth MT 270 = some (11, 4, 1, k_X11_ragged) := rfl
set_option maxRecDepth 10000 in
theorem t_X11_word : nth MT 271 = some (11, 2, 1, k_X11_word) := rfl
set_option maxRecDepth 10000 in
theorem t_X11_widthOf : nth MT 272 = some (11, 5, 1, k_X11_widthOf) := rfl
set_option maxRecDepth 10000 in
theorem t_X11_layPage : nth MT 273 = some (11, 7, 0, k_X11_layPage) := rfl
set_option maxRecDepth 10000 in
theorem t_X11_page : nth MT 274 = some (11, 3, 1, k_X11_page) := rfl
set_option maxRecDepth 10000 in
theorem t_X11_line : nth MT 275 = some (11, 5, 1, k_X11_line) := rfl
set_option maxRecDepth 10000 in
theorem t_X11_linesBy : nth MT 276 = some (11, 5, 1, k_X11_linesBy) := rfl
set_option maxRecDepth 10000 in
theorem t_X11_narrowest : nth MT 277 = some (11, 3, 1, k_X11_narrowest) := rfl
set_option maxRecDepth 10000 in
theorem t_X11_heard : nth MT 278 = some (11, 3, 1, k_X11_heard) := rfl
set_option maxRecDepth 10000 in
theorem t_X11_isMeant : nth MT 279 = some (11, 5, 4, k_X11_isMeant) := rfl
set_option maxRecDepth 10000 in
theorem t_X11_meant : nth MT 280 = some (11, 6, 1, k_X11_meant) := rfl
set_option maxRecDepth 10000 in
theorem t_X11_mostLeft : nth MT 281 = some (11, 7, 1, k_X11_mostLeft) := rfl
set_option maxRecDepth 10000 in
theorem t_X11_listen : nth MT 282 = some (11, 6, 1, k_X11_listen) := rfl
set_option maxRecDepth 10000 in
theorem t_X11_areHeld : nth MT 283 = some (11, 3, 4, k_X11_areHeld) := rfl
set_option maxRecDepth 10000 in
theorem t_X11_props : nth MT 284 = some (11, 4, 1, k_X11_props) := rfl
set_option maxRecDepth 10000 in
theorem t_X11_divisor : nth MT 285 = some (11, 10, 2, k_X11_divisor) := rfl
set_option maxRecDepth 10000 in
theorem t_X11_threes : nth MT 286 = some (11, 4, 2, k_X11_threes) := rfl
set_option maxRecDepth 10000 in
theorem t_X11_goOne : nth MT 287 = some (11, 2, 0, k_X11_goOne) := rfl
set_option maxRecDepth 10000 in
theorem t_X11_part : nth MT 288 = some (11, 5, 2, k_X11_part) := rfl
set_option maxRecDepth 10000 in
theorem t_X11_likely : nth MT 289 = some (11, 6, 2, k_X11_likely) := rfl
set_option maxRecDepth 10000 in
theorem t_X11_first : nth MT 290 = some (11, 5, 2, k_X11_first) := rfl
set_option maxRecDepth 10000 in
theorem t_X11_median : nth MT 291 = some (11, 6, 1, k_X11_median) := rfl
set_option maxRecDepth 10000 in
theorem t_X11_spread : nth MT 292 = some (11, 4, 1, k_X11_spread) := rfl
set_option maxRecDepth 10000 in
theorem t_X11_isWon : nth MT 293 = some (11, 4, 4, k_X11_isWon) := rfl
set_option maxRecDepth 10000 in
theorem t_X11_quarrel : nth MT 294 = some (11, 5, 1, k_X11_quarrel) := rfl
set_option maxRecDepth 10000 in
theorem t_X11_said : nth MT 295 = some (11, 3, 1, k_X11_said) := rfl
set_option maxRecDepth 10000 in
theorem t_X11_whose : nth MT 296 = some (11, 5, 1, k_X11_whose) := rfl
set_option maxRecDepth 10000 in
theorem t_X11_image : nth MT 297 = some (11, 1, 1, k_X11_image) := rfl
set_option maxRecDepth 10000 in
theorem t_X11_back : nth MT 298 = some (11, 1, 1, k_X11_back) := rfl
set_option maxRecDepth 10000 in
theorem t_X11_about : nth MT 299 = some (11, 2, 1, k_X11_about) := rfl
set_option maxRecDepth 10000 in
theorem t_L_law : nth MT 300 = some (12, 4, 4, k_L_law) := rfl
