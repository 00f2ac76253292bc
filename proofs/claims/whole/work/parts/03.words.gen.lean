theorem pm_big {w : Cond} {i : Nat} (h : lw_tbl[i]? = some w) (hg : goodWord w = true) : w ∈ pmBig := List.mem_filter.mpr ⟨List.mem_of_getElem? h, hg⟩
theorem pm_nst {w : Cond} {i : Nat} (h : lw_tbl[i]? = some w) (hg : pm_isN w = true) : w ∈ pmNest := List.mem_filter.mpr ⟨List.mem_of_getElem? h, hg⟩
theorem pm_bigs {ws : List Cond} (ps : List Nat) (hp : ws = ps.filterMap (fun i => lw_tbl[i]?)) (h : ws.all goodWord = true) : ∀ w ∈ ws, w ∈ pmBig := by
  intro w hw
  have h1 := List.all_eq_true.mp h w hw
  rw [hp] at hw
  obtain ⟨i, -, hi⟩ := List.mem_filterMap.mp hw
  exact pm_big hi h1
def mX0_pitch : pmM := (yX0_pitch, cX0_pitch, 2, none, RX0)
def mX0_startAgain : pmM := (yX0_startAgain, cX0_startAgain, 1, none, RX0)
def mX0_take : pmM := (yX0_take, cX0_take, 2, none, RX0)
def mX0_seenFrom : pmM := (yX0_seenFrom, cX0_seenFrom, 3, (some .int), RX0)
def mX0_sumFrom : pmM := (yX0_sumFrom, cX0_sumFrom, 3, (some .int), RX0)
def mX0_wordFrom : pmM := (yX0_wordFrom, cX0_wordFrom, 3, (some .int), RX0)
def mX0_seenFromAny : pmM := (yX0_seenFromAny, cX0_seenFromAny, 4, (some .int), RX0)
def mX0_hillsThatSee : pmM := (yX0_hillsThatSee, cX0_hillsThatSee, 4, (some .int), RX0)
def mX0_hillsThatBless : pmM := (yX0_hillsThatBless, cX0_hillsThatBless, 3, (some .int), RX0)
def mX0_isBlessedByAll : pmM := (yX0_isBlessedByAll, cX0_isBlessedByAll, 2, (some .boolean), RX0)
def mX0_fateOf : pmM := (yX0_fateOf, cX0_fateOf, 2, (some .int), RX0)
def mX0_sayFrom : pmM := (yX0_sayFrom, cX0_sayFrom, 6, none, RX0)
def mX0_swap : pmM := (yX0_swap, cX0_swap, 4, none, RX0)
def mX0_swapBits : pmM := (yX0_swapBits, cX0_swapBits, 4, (some .int), RX0)
def mX0_goRound : pmM := (yX0_goRound, cX0_goRound, 2, none, RX0)
def mX0_doAndNote : pmM := (yX0_doAndNote, cX0_doAndNote, 2, none, RX0)
def mX0_goBackTo : pmM := (yX0_goBackTo, cX0_goBackTo, 3, none, RX0)
def mX0_perform : pmM := (yX0_perform, cX0_perform, 2, none, RX0)
def mX1_reachAs : pmM := (yX1_reachAs, cX1_reachAs, 4, (some .int), RX1)
def mX1_seenAs : pmM := (yX1_seenAs, cX1_seenAs, 9, (some .int), RX1)
def mX1_sumAs : pmM := (yX1_sumAs, cX1_sumAs, 4, (some .int), RX1)
def mX1_sumOf : pmM := (yX1_sumOf, cX1_sumOf, 5, (some .int), RX1)
def mX1_markAs : pmM := (yX1_markAs, cX1_markAs, 4, (some .int), RX1)
def mX2_take : pmM := (yX2_take, cX2_take, 3, none, RX2)
def mX2_howManyOf : pmM := (yX2_howManyOf, cX2_howManyOf, 4, (some .int), RX2)
def mX3_goThrough : pmM := (yX3_goThrough, cX3_goThrough, 4, none, RX3)
def mX3_goOn : pmM := (yX3_goOn, cX3_goOn, 5, none, RX3)
def mX3_choose : pmM := (yX3_choose, cX3_choose, 6, none, RX3)
def mX3_weigh : pmM := (yX3_weigh, cX3_weigh, 3, none, RX3)
def mX4_read : pmM := (yX4_read, cX4_read, 2, (some .int), RX4)
def mX4_skipBlanks : pmM := (yX4_skipBlanks, cX4_skipBlanks, 2, none, RX4)
def mX4_readTents : pmM := (yX4_readTents, cX4_readTents, 4, (some .boolean), RX4)
def mX4_readHill : pmM := (yX4_readHill, cX4_readHill, 6, (some .boolean), RX4)
def mX4_figureHere : pmM := (yX4_figureHere, cX4_figureHere, 3, (some .int), RX4)
def mX4_kindHere : pmM := (yX4_kindHere, cX4_kindHere, 3, (some .int), RX4)
def mX5_open : pmM := (yX5_open, cX5_open, 4, none, RX5)
def mX5_drop : pmM := (yX5_drop, cX5_drop, 1, none, RX5)
def mX5_isMissing : pmM := (yX5_isMissing, cX5_isMissing, 1, (some .boolean), RX5)
def mX5_size : pmM := (yX5_size, cX5_size, 1, (some .int), RX5)
def mX5_has : pmM := (yX5_has, cX5_has, 2, (some .boolean), RX5)
def mX5_hasRun : pmM := (yX5_hasRun, cX5_hasRun, 3, (some .boolean), RX5)
def mX5_get : pmM := (yX5_get, cX5_get, 2, (some .int), RX5)
def mX5_set : pmM := (yX5_set, cX5_set, 3, none, RX5)
def mX5_total : pmM := (yX5_total, cX5_total, 4, (some .long), RX5)
def mX5_takeRun : pmM := (yX5_takeRun, cX5_takeRun, 5, none, RX5)
def mX5_takeAnew : pmM := (yX5_takeAnew, cX5_takeAnew, 3, none, RX5)
def mX6_row : pmM := (yX6_row, cX6_row, 3, (some .int), RX6)
def mX6_lay : pmM := (yX6_lay, cX6_lay, 5, (some .int), RX6)
def mX6_at : pmM := (yX6_at, cX6_at, 4, (some .int), RX6)
def mX6_tear : pmM := (yX6_tear, cX6_tear, 2, (some .int), RX6)
def mX6_copy : pmM := (yX6_copy, cX6_copy, 6, (some .int), RX6)
def mX6_mean : pmM := (yX6_mean, cX6_mean, 3, (some .int), RX6)
def mX6_text : pmM := (yX6_text, cX6_text, 3, (some .int), RX6)
def mX6_put : pmM := (yX6_put, cX6_put, 6, (some .int), RX6)
def mX6_fault : pmM := (yX6_fault, cX6_fault, 2, (some .int), RX6)
def mX6_camp : pmM := (yX6_camp, cX6_camp, 3, (some .int), RX6)
def mX6_hill : pmM := (yX6_hill, cX6_hill, 3, (some .int), RX6)
def mX6_tent : pmM := (yX6_tent, cX6_tent, 3, (some .int), RX6)
def mX6_mark : pmM := (yX6_mark, cX6_mark, 4, (some .int), RX6)
def mX6_speak : pmM := (yX6_speak, cX6_speak, 3, (some .int), RX6)
def mX6_day : pmM := (yX6_day, cX6_day, 1, (some .int), RX6)
def mX6_change : pmM := (yX6_change, cX6_change, 3, (some .int), RX6)
def mX6_undo : pmM := (yX6_undo, cX6_undo, 3, (some .int), RX6)
def mX6_keep : pmM := (yX6_keep, cX6_keep, 2, (some .int), RX6)
def mX6_on : pmM := (yX6_on, cX6_on, 2, (some .int), RX6)
def mX6_only : pmM := (yX6_only, cX6_only, 4, (some .int), RX6)
def mX6_hidden : pmM := (yX6_hidden, cX6_hidden, 1, (some .int), RX6)
def mX6_fewest : pmM := (yX6_fewest, cX6_fewest, 4, (some .int), RX6)
def mX6_waits : pmM := (yX6_waits, cX6_waits, 4, (some .int), RX6)
def mX6_curse : pmM := (yX6_curse, cX6_curse, 2, (some .int), RX6)
def mX6_spare : pmM := (yX6_spare, cX6_spare, 2, (some .int), RX6)
def mX6_orders : pmM := (yX6_orders, cX6_orders, 2, (some .int), RX6)
def mX6_rides : pmM := (yX6_rides, cX6_rides, 4, (some .int), RX6)
def mX6_blessed : pmM := (yX6_blessed, cX6_blessed, 3, (some .int), RX6)
def mX6_fees : pmM := (yX6_fees, cX6_fees, 8, (some .int), RX6)
def mX6_from : pmM := (yX6_from, cX6_from, 6, (some .int), RX6)
def mX6_kinds : pmM := (yX6_kinds, cX6_kinds, 6, (some .int), RX6)
def mX6_given : pmM := (yX6_given, cX6_given, 8, (some .int), RX6)
def mX6_king : pmM := (yX6_king, cX6_king, 2, (some .int), RX6)
def mX6_odds : pmM := (yX6_odds, cX6_odds, 3, (some .int), RX6)
def mX6_mid : pmM := (yX6_mid, cX6_mid, 7, (some .int), RX6)
def mX6_lots : pmM := (yX6_lots, cX6_lots, 5, (some .int), RX6)
def mX6_asked : pmM := (yX6_asked, cX6_asked, 1, (some .int), RX6)
def mX6_upper : pmM := (yX6_upper, cX6_upper, 1, (some .long), RX6)
def mX6_lower : pmM := (yX6_lower, cX6_lower, 1, (some .long), RX6)
def mX6_count : pmM := (yX6_count, cX6_count, 2, (some .int), RX6)
def mX6_finding : pmM := (yX6_finding, cX6_finding, 1, (some .int), RX6)
def mX6_findings : pmM := (yX6_findings, cX6_findings, 2, (some .int), RX6)
def mX6_digest : pmM := (yX6_digest, cX6_digest, 5, (some .long), RX6)
def mX6_refuse : pmM := (yX6_refuse, cX6_refuse, 2, (some .int), RX6)
def mX6_tellParts : pmM := (yX6_tellParts, cX6_tellParts, 7, none, RX6)
def mX6_commonDivisor : pmM := (yX6_commonDivisor, cX6_commonDivisor, 7, (some .long), RX6)
def mX6_isRow : pmM := (yX6_isRow, cX6_isRow, 1, (some .boolean), RX6)
def mX6_isText : pmM := (yX6_isText, cX6_isText, 1, (some .boolean), RX6)
def mX6_isTent : pmM := (yX6_isTent, cX6_isTent, 1, (some .boolean), RX6)
def mX6_isHill : pmM := (yX6_isHill, cX6_isHill, 2, (some .boolean), RX6)
def mX6_isWord : pmM := (yX6_isWord, cX6_isWord, 1, (some .boolean), RX6)
def mX6_isKeepingPlace : pmM := (yX6_isKeepingPlace, cX6_isKeepingPlace, 1, (some .boolean), RX6)
def mX6_isFee : pmM := (yX6_isFee, cX6_isFee, 1, (some .boolean), RX6)
def mX6_isChance : pmM := (yX6_isChance, cX6_isChance, 1, (some .boolean), RX6)
def mX6_hasNoHills : pmM := (yX6_hasNoHills, cX6_hasNoHills, 1, (some .boolean), RX6)
def mX6_allHills : pmM := (yX6_allHills, cX6_allHills, 1, (some .int), RX6)
def mX6_isOfKind : pmM := (yX6_isOfKind, cX6_isOfKind, 2, (some .boolean), RX6)
def mX6_wordOf : pmM := (yX6_wordOf, cX6_wordOf, 1, (some .int), RX6)
def mX6_feeOf : pmM := (yX6_feeOf, cX6_feeOf, 4, (some .int), RX6)
def mX6_placeFault : pmM := (yX6_placeFault, cX6_placeFault, 2, (some .int), RX6)
def mX6_notesFault : pmM := (yX6_notesFault, cX6_notesFault, 2, (some .int), RX6)
def mX6_ridesFault : pmM := (yX6_ridesFault, cX6_ridesFault, 3, (some .int), RX6)
def mX6_fits : pmM := (yX6_fits, cX6_fits, 5, (some .boolean), RX6)
def mX6_hillFact : pmM := (yX6_hillFact, cX6_hillFact, 4, (some .int), RX6)
def mX6_firstChangeOf : pmM := (yX6_firstChangeOf, cX6_firstChangeOf, 5, (some .int), RX6)
def mX6_bestHill : pmM := (yX6_bestHill, cX6_bestHill, 8, (some .int), RX6)
def mX6_leastByPeople : pmM := (yX6_leastByPeople, cX6_leastByPeople, 4, (some .int), RX6)
def mX6_mostByKing : pmM := (yX6_mostByKing, cX6_mostByKing, 6, (some .int), RX6)
def mX6_curseChance : pmM := (yX6_curseChance, cX6_curseChance, 2, (some .int), RX6)
def mX6_deedByLot : pmM := (yX6_deedByLot, cX6_deedByLot, 4, (some .int), RX6)
def mX6_howManyThere : pmM := (yX6_howManyThere, cX6_howManyThere, 3, (some .int), RX6)
def mX6_howManyKept : pmM := (yX6_howManyKept, cX6_howManyKept, 3, (some .int), RX6)
def mX6_mixSheets : pmM := (yX6_mixSheets, cX6_mixSheets, 5, (some .long), RX6)
def mX7_in : pmM := (yX7_in, cX7_in, 6, (some .boolean), RX7)
def mX7_has : pmM := (yX7_has, cX7_has, 2, (some .boolean), RX7)
def mX7_ones : pmM := (yX7_ones, cX7_ones, 3, (some .int), RX7)
def mX7_find : pmM := (yX7_find, cX7_find, 2, (some .int), RX7)
def mX7_isRow : pmM := (yX7_isRow, cX7_isRow, 1, (some .boolean), RX7)
def mX7_isText : pmM := (yX7_isText, cX7_isText, 1, (some .boolean), RX7)
def mX7_isHill : pmM := (yX7_isHill, cX7_isHill, 2, (some .boolean), RX7)
def mX7_row : pmM := (yX7_row, cX7_row, 4, (some .int), RX7)
def mX7_wrongAt : pmM := (yX7_wrongAt, cX7_wrongAt, 3, (some .int), RX7)
def mX7_lay : pmM := (yX7_lay, cX7_lay, 4, (some .int), RX7)
def mX7_at : pmM := (yX7_at, cX7_at, 3, (some .int), RX7)
def mX7_tear : pmM := (yX7_tear, cX7_tear, 2, (some .int), RX7)
def mX7_copy : pmM := (yX7_copy, cX7_copy, 8, (some .int), RX7)
def mX7_mean : pmM := (yX7_mean, cX7_mean, 5, (some .int), RX7)
def mX7_text : pmM := (yX7_text, cX7_text, 4, (some .int), RX7)
def mX7_put : pmM := (yX7_put, cX7_put, 5, (some .int), RX7)
def mX7_byteAt : pmM := (yX7_byteAt, cX7_byteAt, 2, (some .int), RX7)
def mX7_blanks : pmM := (yX7_blanks, cX7_blanks, 1, none, RX7)
def mX7_figure : pmM := (yX7_figure, cX7_figure, 4, (some .int), RX7)
def mX7_kindBy : pmM := (yX7_kindBy, cX7_kindBy, 1, (some .int), RX7)
def mX7_hillItem : pmM := (yX7_hillItem, cX7_hillItem, 5, (some .boolean), RX7)
def mX7_tentsItem : pmM := (yX7_tentsItem, cX7_tentsItem, 3, (some .boolean), RX7)
def mX7_readAll : pmM := (yX7_readAll, cX7_readAll, 2, (some .int), RX7)
def mX7_fault : pmM := (yX7_fault, cX7_fault, 2, (some .int), RX7)
def mX7_camp : pmM := (yX7_camp, cX7_camp, 3, (some .int), RX7)
def mX7_isBare : pmM := (yX7_isBare, cX7_isBare, 1, (some .boolean), RX7)
def mX7_isWooded : pmM := (yX7_isWooded, cX7_isWooded, 1, (some .boolean), RX7)
def mX7_view : pmM := (yX7_view, cX7_view, 5, (some .int), RX7)
def mX7_seenBy : pmM := (yX7_seenBy, cX7_seenBy, 8, (some .int), RX7)
def mX7_sumBy : pmM := (yX7_sumBy, cX7_sumBy, 8, (some .int), RX7)
def mX7_wordOf : pmM := (yX7_wordOf, cX7_wordOf, 1, (some .int), RX7)
def mX7_seenFrom : pmM := (yX7_seenFrom, cX7_seenFrom, 3, (some .int), RX7)
def mX7_sumFrom : pmM := (yX7_sumFrom, cX7_sumFrom, 3, (some .int), RX7)
def mX7_wordFrom : pmM := (yX7_wordFrom, cX7_wordFrom, 3, (some .int), RX7)
def mX7_aside : pmM := (yX7_aside, cX7_aside, 2, none, RX7)
def mX7_say : pmM := (yX7_say, cX7_say, 6, none, RX7)
def mX7_cursedAside : pmM := (yX7_cursedAside, cX7_cursedAside, 3, (some .int), RX7)
def mX7_exchange : pmM := (yX7_exchange, cX7_exchange, 5, none, RX7)
def mX7_feeOf : pmM := (yX7_feeOf, cX7_feeOf, 1, (some .int), RX7)
def mX7_goThrough : pmM := (yX7_goThrough, cX7_goThrough, 4, none, RX7)
def mX7_hill : pmM := (yX7_hill, cX7_hill, 3, (some .int), RX7)
def mX7_tent : pmM := (yX7_tent, cX7_tent, 5, (some .int), RX7)
def mX7_mark : pmM := (yX7_mark, cX7_mark, 6, (some .int), RX7)
def mX7_doIt : pmM := (yX7_doIt, cX7_doIt, 2, none, RX7)
def mX7_speak : pmM := (yX7_speak, cX7_speak, 3, (some .int), RX7)
def mX7_day : pmM := (yX7_day, cX7_day, 1, (some .int), RX7)
def mX7_change : pmM := (yX7_change, cX7_change, 3, (some .int), RX7)
def mX7_blessing : pmM := (yX7_blessing, cX7_blessing, 3, (some .int), RX7)
def mX7_undo : pmM := (yX7_undo, cX7_undo, 3, (some .int), RX7)
def mX7_keep : pmM := (yX7_keep, cX7_keep, 3, (some .int), RX7)
def mX7_on : pmM := (yX7_on, cX7_on, 3, (some .int), RX7)
def mX7_only : pmM := (yX7_only, cX7_only, 4, (some .int), RX7)
def mX7_seenFromAny : pmM := (yX7_seenFromAny, cX7_seenFromAny, 4, (some .int), RX7)
def mX7_hidden : pmM := (yX7_hidden, cX7_hidden, 1, (some .int), RX7)
def mX7_fewest : pmM := (yX7_fewest, cX7_fewest, 3, (some .int), RX7)
def mX7_waits : pmM := (yX7_waits, cX7_waits, 5, (some .int), RX7)
def mX7_firstOrder : pmM := (yX7_firstOrder, cX7_firstOrder, 2, none, RX7)
def mX7_nextOrder : pmM := (yX7_nextOrder, cX7_nextOrder, 6, (some .boolean), RX7)
def mX7_cursedBy : pmM := (yX7_cursedBy, cX7_cursedBy, 2, (some .int), RX7)
def mX7_bestOrder : pmM := (yX7_bestOrder, cX7_bestOrder, 8, (some .int), RX7)
def mX7_curse : pmM := (yX7_curse, cX7_curse, 2, (some .int), RX7)
def mX7_spare : pmM := (yX7_spare, cX7_spare, 2, (some .int), RX7)
def mX7_orders : pmM := (yX7_orders, cX7_orders, 6, (some .int), RX7)
def mX7_rides : pmM := (yX7_rides, cX7_rides, 5, (some .int), RX7)
def mX7_areBlessed : pmM := (yX7_areBlessed, cX7_areBlessed, 1, (some .boolean), RX7)
def mX7_blessed : pmM := (yX7_blessed, cX7_blessed, 4, (some .int), RX7)
def mX7_fees : pmM := (yX7_fees, cX7_fees, 12, (some .int), RX7)
def mX7_wrongNotes : pmM := (yX7_wrongNotes, cX7_wrongNotes, 3, (some .int), RX7)
def mX7_areNotes : pmM := (yX7_areNotes, cX7_areNotes, 6, (some .boolean), RX7)
def mX7_from : pmM := (yX7_from, cX7_from, 4, (some .int), RX7)
def mX7_kinds : pmM := (yX7_kinds, cX7_kinds, 5, (some .int), RX7)
def mX7_given : pmM := (yX7_given, cX7_given, 6, (some .int), RX7)
def mX7_hold : pmM := (yX7_hold, cX7_hold, 2, none, RX7)
def mX7_held : pmM := (yX7_held, cX7_held, 2, none, RX7)
def mX7_lastTurn : pmM := (yX7_lastTurn, cX7_lastTurn, 6, (some .int), RX7)
def mX7_king : pmM := (yX7_king, cX7_king, 7, (some .int), RX7)
def mX7_tell : pmM := (yX7_tell, cX7_tell, 11, none, RX7)
def mX7_odds : pmM := (yX7_odds, cX7_odds, 4, (some .int), RX7)
def mX7_mid : pmM := (yX7_mid, cX7_mid, 12, (some .int), RX7)
def mX7_lots : pmM := (yX7_lots, cX7_lots, 9, (some .int), RX7)
def mX7_asked : pmM := (yX7_asked, cX7_asked, 1, (some .int), RX7)
def mX7_upper : pmM := (yX7_upper, cX7_upper, 1, (some .long), RX7)
def mX7_lower : pmM := (yX7_lower, cX7_lower, 1, (some .long), RX7)
def mX7_tentsThat : pmM := (yX7_tentsThat, cX7_tentsThat, 4, (some .int), RX7)
def mX7_counted : pmM := (yX7_counted, cX7_counted, 5, (some .int), RX7)
def mX7_count : pmM := (yX7_count, cX7_count, 2, (some .int), RX7)
def mX7_finding : pmM := (yX7_finding, cX7_finding, 1, (some .int), RX7)
def mX7_findings : pmM := (yX7_findings, cX7_findings, 2, (some .int), RX7)
def mX7_digest : pmM := (yX7_digest, cX7_digest, 5, (some .long), RX7)
def mJ6_bitCount_0f7a4 : pmM := (yJ6_bitCount_0f7a4, cJ6_bitCount_0f7a4, 1, (some .int), RJ6)
def mL_law : pmM := (yL_law, cL_law, 4, (some .boolean), RL)
theorem iX0 : ∀ w ∈ u_ws RX0 TX0 9, w ∈ pmBig := pm_bigs [177, 179, 181, 183, 185, 187, 189, 191, 193] (by decide +kernel) (by decide +kernel)
theorem iX1 : ∀ w ∈ u_ws RX1 TX1 3, w ∈ pmBig := pm_bigs [134, 136, 138] (by decide +kernel) (by decide +kernel)
theorem iX2 : ∀ w ∈ u_ws RX2 TX2 2, w ∈ pmBig := pm_bigs [148, 150] (by decide +kernel) (by decide +kernel)
theorem iX3 : ∀ w ∈ u_ws RX3 TX3 12, w ∈ pmBig := pm_bigs [221, 223, 225, 227, 229, 231, 233, 235, 237, 239, 241, 243] (by decide +kernel) (by decide +kernel)
theorem iX4 : ∀ w ∈ u_ws RX4 TX4 6, w ∈ pmBig := pm_bigs [97, 99, 101, 103, 105, 107] (by decide +kernel) (by decide +kernel)
theorem iX5 : ∀ w ∈ u_ws RX5 TX5 2, w ∈ pmBig := pm_bigs [254, 256] (by decide +kernel) (by decide +kernel)
theorem iX6 : ∀ w ∈ u_ws RX6 TX6 14, w ∈ pmBig := pm_bigs [273, 275, 277, 279, 281, 283, 285, 287, 289, 291, 293, 295, 297, 299] (by decide +kernel) (by decide +kernel)
theorem iX7 : ∀ w ∈ u_ws RX7 TX7 32, w ∈ pmBig := pm_bigs [845, 847, 849, 851, 853, 855, 857, 859, 861, 863, 865, 867, 869, 871, 873, 875, 877, 879, 881, 883, 885, 887, 889, 891, 893, 895, 897, 899, 901, 903, 905, 907] (by decide +kernel) (by decide +kernel)
theorem wd_0 : Cond.code yX0_pitch cX0_pitch 2 none ∈ pmBig := pm_big (i := 441) (by decide +kernel) rfl
theorem wd_1 : Cond.initialized RX0 ∈ pmBig := pm_big (i := 63) (by decide +kernel) rfl
theorem wd_2 : Cond.code yX0_startAgain cX0_startAgain 1 none ∈ pmBig := pm_big (i := 446) (by decide +kernel) rfl
theorem wd_3 : Cond.code yX0_take cX0_take 2 none ∈ pmBig := pm_big (i := 587) (by decide +kernel) rfl
theorem wd_4 : Cond.code yX0_seenFrom cX0_seenFrom 3 (some .int) ∈ pmBig := pm_big (i := 462) (by decide +kernel) rfl
theorem wd_5 : Cond.code yX0_sumFrom cX0_sumFrom 3 (some .int) ∈ pmBig := pm_big (i := 477) (by decide +kernel) rfl
theorem wd_6 : Cond.code yX0_wordFrom cX0_wordFrom 3 (some .int) ∈ pmBig := pm_big (i := 489) (by decide +kernel) rfl
theorem wd_7 : Cond.code yX0_seenFromAny cX0_seenFromAny 4 (some .int) ∈ pmBig := pm_big (i := 608) (by decide +kernel) rfl
theorem wd_8 : Cond.code yX0_hillsThatSee cX0_hillsThatSee 4 (some .int) ∈ pmBig := pm_big (i := 511) (by decide +kernel) rfl
theorem wd_9 : Cond.code yX0_hillsThatBless cX0_hillsThatBless 3 (some .int) ∈ pmBig := pm_big (i := 567) (by decide +kernel) rfl
theorem wd_10 : Cond.code yX0_isBlessedByAll cX0_isBlessedByAll 2 (some .boolean) ∈ pmBig := pm_big (i := 684) (by decide +kernel) rfl
theorem wd_11 : Cond.code yX0_fateOf cX0_fateOf 2 (some .int) ∈ pmBig := pm_big (i := 507) (by decide +kernel) rfl
theorem wd_12 : Cond.code yX0_sayFrom cX0_sayFrom 6 none ∈ pmBig := pm_big (i := 551) (by decide +kernel) rfl
theorem wd_13 : Cond.code yX0_swap cX0_swap 4 none ∈ pmBig := pm_big (i := 544) (by decide +kernel) rfl
theorem wd_14 : Cond.code yX0_swapBits cX0_swapBits 4 (some .int) ∈ pmBig := pm_big (i := 547) (by decide +kernel) rfl
theorem wd_15 : Cond.code yX0_goRound cX0_goRound 2 none ∈ pmBig := pm_big (i := 623) (by decide +kernel) rfl
theorem wd_16 : Cond.code yX0_doAndNote cX0_doAndNote 2 none ∈ pmBig := pm_big (i := 536) (by decide +kernel) rfl
theorem wd_17 : Cond.code yX0_goBackTo cX0_goBackTo 3 none ∈ pmBig := pm_big (i := 576) (by decide +kernel) rfl
theorem wd_18 : Cond.code yX0_perform cX0_perform 2 none ∈ pmBig := pm_big (i := 540) (by decide +kernel) rfl
theorem wd_19 : Cond.code yX1_reachAs cX1_reachAs 4 (some .int) ∈ pmBig := pm_big (i := 470) (by decide +kernel) rfl
theorem wd_20 : Cond.initialized RX1 ∈ pmBig := pm_big (i := 62) (by decide +kernel) rfl
theorem wd_21 : Cond.code yX1_seenAs cX1_seenAs 9 (some .int) ∈ pmBig := pm_big (i := 466) (by decide +kernel) rfl
theorem wd_22 : Cond.code yX1_sumAs cX1_sumAs 4 (some .int) ∈ pmBig := pm_big (i := 481) (by decide +kernel) rfl
theorem wd_23 : Cond.code yX1_sumOf cX1_sumOf 5 (some .int) ∈ pmBig := pm_big (i := 485) (by decide +kernel) rfl
theorem wd_24 : Cond.code yX1_markAs cX1_markAs 4 (some .int) ∈ pmBig := pm_big (i := 521) (by decide +kernel) rfl
theorem wd_25 : Cond.code yX2_take cX2_take 3 none ∈ pmBig := pm_big (i := 437) (by decide +kernel) rfl
theorem wd_26 : Cond.initialized RX2 ∈ pmBig := pm_big (i := 61) (by decide +kernel) rfl
theorem wd_27 : Cond.code yX2_howManyOf cX2_howManyOf 4 (some .int) ∈ pmBig := pm_big (i := 780) (by decide +kernel) rfl
theorem wd_28 : Cond.code yX3_goThrough cX3_goThrough 4 none ∈ pmBig := pm_big (i := 631) (by decide +kernel) rfl
theorem wd_29 : Cond.initialized RX3 ∈ pmBig := pm_big (i := 64) (by decide +kernel) rfl
theorem wd_30 : Cond.code yX3_goOn cX3_goOn 5 none ∈ pmBig := pm_big (i := 637) (by decide +kernel) rfl
theorem wd_31 : Cond.code yX3_choose cX3_choose 6 none ∈ pmBig := pm_big (i := 647) (by decide +kernel) rfl
theorem wd_32 : Cond.code yX3_weigh cX3_weigh 3 none ∈ pmBig := pm_big (i := 641) (by decide +kernel) rfl
theorem wd_33 : Cond.code yX4_read cX4_read 2 (some .int) ∈ pmBig := pm_big (i := 405) (by decide +kernel) rfl
theorem wd_34 : Cond.initialized RX4 ∈ pmBig := pm_big (i := 60) (by decide +kernel) rfl
theorem wd_35 : Cond.code yX4_skipBlanks cX4_skipBlanks 2 none ∈ pmBig := pm_big (i := 409) (by decide +kernel) rfl
theorem wd_36 : Cond.code yX4_readTents cX4_readTents 4 (some .boolean) ∈ pmBig := pm_big (i := 415) (by decide +kernel) rfl
theorem wd_37 : Cond.code yX4_readHill cX4_readHill 6 (some .boolean) ∈ pmBig := pm_big (i := 423) (by decide +kernel) rfl
theorem wd_38 : Cond.code yX4_figureHere cX4_figureHere 3 (some .int) ∈ pmBig := pm_big (i := 419) (by decide +kernel) rfl
theorem wd_39 : Cond.code yX4_kindHere cX4_kindHere 3 (some .int) ∈ pmBig := pm_big (i := 427) (by decide +kernel) rfl
theorem wd_40 : Cond.code yX5_open cX5_open 4 none ∈ pmBig := pm_big (i := 316) (by decide +kernel) rfl
theorem wd_41 : Cond.initialized RX5 ∈ pmBig := pm_big (i := 65) (by decide +kernel) rfl
theorem wd_42 : Cond.code yX5_drop cX5_drop 1 none ∈ pmBig := pm_big (i := 358) (by decide +kernel) rfl
theorem wd_43 : Cond.code yX5_isMissing cX5_isMissing 1 (some .boolean) ∈ pmBig := pm_big (i := 333) (by decide +kernel) rfl
theorem wd_44 : Cond.code yX5_size cX5_size 1 (some .int) ∈ pmBig := pm_big (i := 382) (by decide +kernel) rfl
theorem wd_45 : Cond.code yX5_has cX5_has 2 (some .boolean) ∈ pmBig := pm_big (i := 337) (by decide +kernel) rfl
theorem wd_46 : Cond.code yX5_hasRun cX5_hasRun 3 (some .boolean) ∈ pmBig := pm_big (i := 366) (by decide +kernel) rfl
theorem wd_47 : Cond.code yX5_get cX5_get 2 (some .int) ∈ pmBig := pm_big (i := 341) (by decide +kernel) rfl
theorem wd_48 : Cond.code yX5_set cX5_set 3 none ∈ pmBig := pm_big (i := 346) (by decide +kernel) rfl
theorem wd_49 : Cond.code yX5_total cX5_total 4 (some .long) ∈ pmBig := pm_big (i := 386) (by decide +kernel) rfl
theorem wd_50 : Cond.code yX5_takeRun cX5_takeRun 5 none ∈ pmBig := pm_big (i := 370) (by decide +kernel) rfl
theorem wd_51 : Cond.code yX5_takeAnew cX5_takeAnew 3 none ∈ pmBig := pm_big (i := 651) (by decide +kernel) rfl
theorem wd_52 : Cond.code yX6_row cX6_row 3 (some .int) ∈ pmBig := pm_big (i := 305) (by decide +kernel) rfl
theorem wd_53 : Cond.initialized RX6 ∈ pmBig := pm_big (i := 59) (by decide +kernel) rfl
theorem wd_54 : Cond.code yX6_lay cX6_lay 5 (some .int) ∈ pmBig := pm_big (i := 326) (by decide +kernel) rfl
theorem wd_55 : Cond.code yX6_at cX6_at 4 (some .int) ∈ pmBig := pm_big (i := 350) (by decide +kernel) rfl
theorem wd_56 : Cond.code yX6_tear cX6_tear 2 (some .int) ∈ pmBig := pm_big (i := 354) (by decide +kernel) rfl
theorem wd_57 : Cond.code yX6_copy cX6_copy 6 (some .int) ∈ pmBig := pm_big (i := 362) (by decide +kernel) rfl
theorem wd_58 : Cond.code yX6_mean cX6_mean 3 (some .int) ∈ pmBig := pm_big (i := 378) (by decide +kernel) rfl
theorem wd_59 : Cond.code yX6_text cX6_text 3 (some .int) ∈ pmBig := pm_big (i := 390) (by decide +kernel) rfl
theorem wd_60 : Cond.code yX6_put cX6_put 6 (some .int) ∈ pmBig := pm_big (i := 397) (by decide +kernel) rfl
theorem wd_61 : Cond.code yX6_fault cX6_fault 2 (some .int) ∈ pmBig := pm_big (i := 401) (by decide +kernel) rfl
theorem wd_62 : Cond.code yX6_camp cX6_camp 3 (some .int) ∈ pmBig := pm_big (i := 433) (by decide +kernel) rfl
theorem wd_63 : Cond.code yX6_hill cX6_hill 3 (some .int) ∈ pmBig := pm_big (i := 450) (by decide +kernel) rfl
theorem wd_64 : Cond.code yX6_tent cX6_tent 3 (some .int) ∈ pmBig := pm_big (i := 496) (by decide +kernel) rfl
theorem wd_65 : Cond.code yX6_mark cX6_mark 4 (some .int) ∈ pmBig := pm_big (i := 516) (by decide +kernel) rfl
theorem wd_66 : Cond.code yX6_speak cX6_speak 3 (some .int) ∈ pmBig := pm_big (i := 532) (by decide +kernel) rfl
theorem wd_67 : Cond.code yX6_day cX6_day 1 (some .int) ∈ pmBig := pm_big (i := 559) (by decide +kernel) rfl
theorem wd_68 : Cond.code yX6_change cX6_change 3 (some .int) ∈ pmBig := pm_big (i := 563) (by decide +kernel) rfl
theorem wd_69 : Cond.code yX6_undo cX6_undo 3 (some .int) ∈ pmBig := pm_big (i := 572) (by decide +kernel) rfl
theorem wd_70 : Cond.code yX6_keep cX6_keep 2 (some .int) ∈ pmBig := pm_big (i := 580) (by decide +kernel) rfl
theorem wd_71 : Cond.code yX6_on cX6_on 2 (some .int) ∈ pmBig := pm_big (i := 591) (by decide +kernel) rfl
theorem wd_72 : Cond.code yX6_only cX6_only 4 (some .int) ∈ pmBig := pm_big (i := 595) (by decide +kernel) rfl
theorem wd_73 : Cond.code yX6_hidden cX6_hidden 1 (some .int) ∈ pmBig := pm_big (i := 600) (by decide +kernel) rfl
theorem wd_74 : Cond.code yX6_fewest cX6_fewest 4 (some .int) ∈ pmBig := pm_big (i := 612) (by decide +kernel) rfl
theorem wd_75 : Cond.code yX6_waits cX6_waits 4 (some .int) ∈ pmBig := pm_big (i := 616) (by decide +kernel) rfl
theorem wd_76 : Cond.code yX6_curse cX6_curse 2 (some .int) ∈ pmBig := pm_big (i := 627) (by decide +kernel) rfl
theorem wd_77 : Cond.code yX6_spare cX6_spare 2 (some .int) ∈ pmBig := pm_big (i := 656) (by decide +kernel) rfl
theorem wd_78 : Cond.code yX6_orders cX6_orders 2 (some .int) ∈ pmBig := pm_big (i := 660) (by decide +kernel) rfl
theorem wd_79 : Cond.code yX6_rides cX6_rides 4 (some .int) ∈ pmBig := pm_big (i := 671) (by decide +kernel) rfl
theorem wd_80 : Cond.code yX6_blessed cX6_blessed 3 (some .int) ∈ pmBig := pm_big (i := 680) (by decide +kernel) rfl
theorem wd_81 : Cond.code yX6_fees cX6_fees 8 (some .int) ∈ pmBig := pm_big (i := 692) (by decide +kernel) rfl
theorem wd_82 : Cond.code yX6_from cX6_from 6 (some .int) ∈ pmBig := pm_big (i := 704) (by decide +kernel) rfl
theorem wd_83 : Cond.code yX6_kinds cX6_kinds 6 (some .int) ∈ pmBig := pm_big (i := 716) (by decide +kernel) rfl
theorem wd_84 : Cond.code yX6_given cX6_given 8 (some .int) ∈ pmBig := pm_big (i := 720) (by decide +kernel) rfl
theorem wd_85 : Cond.code yX6_king cX6_king 2 (some .int) ∈ pmBig := pm_big (i := 724) (by decide +kernel) rfl
theorem wd_86 : Cond.code yX6_odds cX6_odds 3 (some .int) ∈ pmBig := pm_big (i := 738) (by decide +kernel) rfl
theorem wd_87 : Cond.code yX6_mid cX6_mid 7 (some .int) ∈ pmBig := pm_big (i := 749) (by decide +kernel) rfl
theorem wd_88 : Cond.code yX6_lots cX6_lots 5 (some .int) ∈ pmBig := pm_big (i := 753) (by decide +kernel) rfl
theorem wd_89 : Cond.code yX6_asked cX6_asked 1 (some .int) ∈ pmBig := pm_big (i := 764) (by decide +kernel) rfl
theorem wd_90 : Cond.code yX6_upper cX6_upper 1 (some .long) ∈ pmBig := pm_big (i := 768) (by decide +kernel) rfl
theorem wd_91 : Cond.code yX6_lower cX6_lower 1 (some .long) ∈ pmBig := pm_big (i := 772) (by decide +kernel) rfl
theorem wd_92 : Cond.code yX6_count cX6_count 2 (some .int) ∈ pmBig := pm_big (i := 776) (by decide +kernel) rfl
theorem wd_93 : Cond.code yX6_finding cX6_finding 1 (some .int) ∈ pmBig := pm_big (i := 792) (by decide +kernel) rfl
theorem wd_94 : Cond.code yX6_findings cX6_findings 2 (some .int) ∈ pmBig := pm_big (i := 796) (by decide +kernel) rfl
theorem wd_95 : Cond.code yX6_digest cX6_digest 5 (some .long) ∈ pmBig := pm_big (i := 800) (by decide +kernel) rfl
theorem wd_96 : Cond.code yX6_refuse cX6_refuse 2 (some .int) ∈ pmBig := pm_big (i := 312) (by decide +kernel) rfl
theorem wd_97 : Cond.code yX6_tellParts cX6_tellParts 7 none ∈ pmBig := pm_big (i := 664) (by decide +kernel) rfl
theorem wd_98 : Cond.code yX6_commonDivisor cX6_commonDivisor 7 (some .long) ∈ pmBig := pm_big (i := 667) (by decide +kernel) rfl
theorem wd_99 : Cond.code yX6_isRow cX6_isRow 1 (some .boolean) ∈ pmBig := pm_big (i := 308) (by decide +kernel) rfl
theorem wd_100 : Cond.code yX6_isText cX6_isText 1 (some .boolean) ∈ pmBig := pm_big (i := 393) (by decide +kernel) rfl
theorem wd_101 : Cond.code yX6_isTent cX6_isTent 1 (some .boolean) ∈ pmBig := pm_big (i := 499) (by decide +kernel) rfl
theorem wd_102 : Cond.code yX6_isHill cX6_isHill 2 (some .boolean) ∈ pmBig := pm_big (i := 454) (by decide +kernel) rfl
theorem wd_103 : Cond.code yX6_isWord cX6_isWord 1 (some .boolean) ∈ pmBig := pm_big (i := 619) (by decide +kernel) rfl
theorem wd_104 : Cond.code yX6_isKeepingPlace cX6_isKeepingPlace 1 (some .boolean) ∈ pmBig := pm_big (i := 583) (by decide +kernel) rfl
theorem wd_105 : Cond.code yX6_isFee cX6_isFee 1 (some .boolean) ∈ pmBig := pm_big (i := 695) (by decide +kernel) rfl
theorem wd_106 : Cond.code yX6_isChance cX6_isChance 1 (some .boolean) ∈ pmBig := pm_big (i := 741) (by decide +kernel) rfl
theorem wd_107 : Cond.code yX6_hasNoHills cX6_hasNoHills 1 (some .boolean) ∈ pmBig := pm_big (i := 503) (by decide +kernel) rfl
theorem wd_108 : Cond.code yX6_allHills cX6_allHills 1 (some .int) ∈ pmBig := pm_big (i := 604) (by decide +kernel) rfl
theorem wd_109 : Cond.code yX6_isOfKind cX6_isOfKind 2 (some .boolean) ∈ pmBig := pm_big (i := 473) (by decide +kernel) rfl
theorem wd_110 : Cond.code yX6_wordOf cX6_wordOf 1 (some .int) ∈ pmBig := pm_big (i := 492) (by decide +kernel) rfl
theorem wd_111 : Cond.code yX6_feeOf cX6_feeOf 4 (some .int) ∈ pmBig := pm_big (i := 555) (by decide +kernel) rfl
theorem wd_112 : Cond.code yX6_placeFault cX6_placeFault 2 (some .int) ∈ pmBig := pm_big (i := 329) (by decide +kernel) rfl
theorem wd_113 : Cond.code yX6_notesFault cX6_notesFault 2 (some .int) ∈ pmBig := pm_big (i := 707) (by decide +kernel) rfl
theorem wd_114 : Cond.code yX6_ridesFault cX6_ridesFault 3 (some .int) ∈ pmBig := pm_big (i := 675) (by decide +kernel) rfl
theorem wd_115 : Cond.code yX6_fits cX6_fits 5 (some .boolean) ∈ pmBig := pm_big (i := 710) (by decide +kernel) rfl
theorem wd_116 : Cond.code yX6_hillFact cX6_hillFact 4 (some .int) ∈ pmBig := pm_big (i := 458) (by decide +kernel) rfl
theorem wd_117 : Cond.code yX6_firstChangeOf cX6_firstChangeOf 5 (some .int) ∈ pmBig := pm_big (i := 687) (by decide +kernel) rfl
theorem wd_118 : Cond.code yX6_bestHill cX6_bestHill 8 (some .int) ∈ pmBig := pm_big (i := 699) (by decide +kernel) rfl
theorem wd_119 : Cond.code yX6_leastByPeople cX6_leastByPeople 4 (some .int) ∈ pmBig := pm_big (i := 728) (by decide +kernel) rfl
theorem wd_120 : Cond.code yX6_mostByKing cX6_mostByKing 6 (some .int) ∈ pmBig := pm_big (i := 732) (by decide +kernel) rfl
theorem wd_121 : Cond.code yX6_curseChance cX6_curseChance 2 (some .int) ∈ pmBig := pm_big (i := 744) (by decide +kernel) rfl
theorem wd_122 : Cond.code yX6_deedByLot cX6_deedByLot 4 (some .int) ∈ pmBig := pm_big (i := 760) (by decide +kernel) rfl
theorem wd_123 : Cond.code yX6_howManyThere cX6_howManyThere 3 (some .int) ∈ pmBig := pm_big (i := 784) (by decide +kernel) rfl
theorem wd_124 : Cond.code yX6_howManyKept cX6_howManyKept 3 (some .int) ∈ pmBig := pm_big (i := 788) (by decide +kernel) rfl
theorem wd_125 : Cond.code yX6_mixSheets cX6_mixSheets 5 (some .long) ∈ pmBig := pm_big (i := 806) (by decide +kernel) rfl
theorem wd_126 : Cond.code yX7_in cX7_in 6 (some .boolean) ∈ pmBig := pm_big (i := 920) (by decide +kernel) rfl
theorem wd_127 : Cond.initialized RX7 ∈ pmBig := pm_big (i := 66) (by decide +kernel) rfl
theorem wd_128 : Cond.code yX7_has cX7_has 2 (some .boolean) ∈ pmBig := pm_big (i := 1031) (by decide +kernel) rfl
theorem wd_129 : Cond.code yX7_ones cX7_ones 3 (some .int) ∈ pmBig := pm_big (i := 1070) (by decide +kernel) rfl
theorem wd_130 : Cond.code yX7_find cX7_find 2 (some .int) ∈ pmBig := pm_big (i := 924) (by decide +kernel) rfl
theorem wd_131 : Cond.code yX7_isRow cX7_isRow 1 (some .boolean) ∈ pmBig := pm_big (i := 916) (by decide +kernel) rfl
theorem wd_132 : Cond.code yX7_isText cX7_isText 1 (some .boolean) ∈ pmBig := pm_big (i := 955) (by decide +kernel) rfl
theorem wd_133 : Cond.code yX7_isHill cX7_isHill 2 (some .boolean) ∈ pmBig := pm_big (i := 1053) (by decide +kernel) rfl
theorem wd_134 : Cond.code yX7_row cX7_row 4 (some .int) ∈ pmBig := pm_big (i := 913) (by decide +kernel) rfl
theorem wd_135 : Cond.code yX7_wrongAt cX7_wrongAt 3 (some .int) ∈ pmBig := pm_big (i := 932) (by decide +kernel) rfl
theorem wd_136 : Cond.code yX7_lay cX7_lay 4 (some .int) ∈ pmBig := pm_big (i := 928) (by decide +kernel) rfl
theorem wd_137 : Cond.code yX7_at cX7_at 3 (some .int) ∈ pmBig := pm_big (i := 936) (by decide +kernel) rfl
theorem wd_138 : Cond.code yX7_tear cX7_tear 2 (some .int) ∈ pmBig := pm_big (i := 940) (by decide +kernel) rfl
theorem wd_139 : Cond.code yX7_copy cX7_copy 8 (some .int) ∈ pmBig := pm_big (i := 944) (by decide +kernel) rfl
theorem wd_140 : Cond.code yX7_mean cX7_mean 5 (some .int) ∈ pmBig := pm_big (i := 948) (by decide +kernel) rfl
theorem wd_141 : Cond.code yX7_text cX7_text 4 (some .int) ∈ pmBig := pm_big (i := 952) (by decide +kernel) rfl
theorem wd_142 : Cond.code yX7_put cX7_put 5 (some .int) ∈ pmBig := pm_big (i := 960) (by decide +kernel) rfl
theorem wd_143 : Cond.code yX7_byteAt cX7_byteAt 2 (some .int) ∈ pmBig := pm_big (i := 976) (by decide +kernel) rfl
theorem wd_144 : Cond.code yX7_blanks cX7_blanks 1 none ∈ pmBig := pm_big (i := 972) (by decide +kernel) rfl
theorem wd_145 : Cond.code yX7_figure cX7_figure 4 (some .int) ∈ pmBig := pm_big (i := 984) (by decide +kernel) rfl
theorem wd_146 : Cond.code yX7_kindBy cX7_kindBy 1 (some .int) ∈ pmBig := pm_big (i := 991) (by decide +kernel) rfl
theorem wd_147 : Cond.code yX7_hillItem cX7_hillItem 5 (some .boolean) ∈ pmBig := pm_big (i := 988) (by decide +kernel) rfl
theorem wd_148 : Cond.code yX7_tentsItem cX7_tentsItem 3 (some .boolean) ∈ pmBig := pm_big (i := 980) (by decide +kernel) rfl
theorem wd_149 : Cond.code yX7_readAll cX7_readAll 2 (some .int) ∈ pmBig := pm_big (i := 968) (by decide +kernel) rfl
theorem wd_150 : Cond.code yX7_fault cX7_fault 2 (some .int) ∈ pmBig := pm_big (i := 964) (by decide +kernel) rfl
theorem wd_151 : Cond.code yX7_camp cX7_camp 3 (some .int) ∈ pmBig := pm_big (i := 995) (by decide +kernel) rfl
theorem wd_152 : Cond.code yX7_isBare cX7_isBare 1 (some .boolean) ∈ pmBig := pm_big (i := 1025) (by decide +kernel) rfl
theorem wd_153 : Cond.code yX7_isWooded cX7_isWooded 1 (some .boolean) ∈ pmBig := pm_big (i := 1028) (by decide +kernel) rfl
theorem wd_154 : Cond.code yX7_view cX7_view 5 (some .int) ∈ pmBig := pm_big (i := 1022) (by decide +kernel) rfl
theorem wd_155 : Cond.code yX7_seenBy cX7_seenBy 8 (some .int) ∈ pmBig := pm_big (i := 1019) (by decide +kernel) rfl
theorem wd_156 : Cond.code yX7_sumBy cX7_sumBy 8 (some .int) ∈ pmBig := pm_big (i := 1015) (by decide +kernel) rfl
theorem wd_157 : Cond.code yX7_wordOf cX7_wordOf 1 (some .int) ∈ pmBig := pm_big (i := 1034) (by decide +kernel) rfl
theorem wd_158 : Cond.code yX7_seenFrom cX7_seenFrom 3 (some .int) ∈ pmBig := pm_big (i := 1045) (by decide +kernel) rfl
theorem wd_159 : Cond.code yX7_sumFrom cX7_sumFrom 3 (some .int) ∈ pmBig := pm_big (i := 1011) (by decide +kernel) rfl
theorem wd_160 : Cond.code yX7_wordFrom cX7_wordFrom 3 (some .int) ∈ pmBig := pm_big (i := 1007) (by decide +kernel) rfl
theorem wd_161 : Cond.code yX7_aside cX7_aside 2 none ∈ pmBig := pm_big (i := 1057) (by decide +kernel) rfl
theorem wd_162 : Cond.code yX7_say cX7_say 6 none ∈ pmBig := pm_big (i := 1041) (by decide +kernel) rfl
theorem wd_163 : Cond.code yX7_cursedAside cX7_cursedAside 3 (some .int) ∈ pmBig := pm_big (i := 1142) (by decide +kernel) rfl
theorem wd_164 : Cond.code yX7_exchange cX7_exchange 5 none ∈ pmBig := pm_big (i := 1003) (by decide +kernel) rfl
theorem wd_165 : Cond.code yX7_feeOf cX7_feeOf 1 (some .int) ∈ pmBig := pm_big (i := 1037) (by decide +kernel) rfl
theorem wd_166 : Cond.code yX7_goThrough cX7_goThrough 4 none ∈ pmBig := pm_big (i := 999) (by decide +kernel) rfl
theorem wd_167 : Cond.code yX7_hill cX7_hill 3 (some .int) ∈ pmBig := pm_big (i := 1049) (by decide +kernel) rfl
theorem wd_168 : Cond.code yX7_tent cX7_tent 5 (some .int) ∈ pmBig := pm_big (i := 1061) (by decide +kernel) rfl
theorem wd_169 : Cond.code yX7_mark cX7_mark 6 (some .int) ∈ pmBig := pm_big (i := 1067) (by decide +kernel) rfl
theorem wd_170 : Cond.code yX7_doIt cX7_doIt 2 none ∈ pmBig := pm_big (i := 1078) (by decide +kernel) rfl
theorem wd_171 : Cond.code yX7_speak cX7_speak 3 (some .int) ∈ pmBig := pm_big (i := 1074) (by decide +kernel) rfl
theorem wd_172 : Cond.code yX7_day cX7_day 1 (some .int) ∈ pmBig := pm_big (i := 1082) (by decide +kernel) rfl
theorem wd_173 : Cond.code yX7_change cX7_change 3 (some .int) ∈ pmBig := pm_big (i := 1086) (by decide +kernel) rfl
theorem wd_174 : Cond.code yX7_blessing cX7_blessing 3 (some .int) ∈ pmBig := pm_big (i := 1090) (by decide +kernel) rfl
theorem wd_175 : Cond.code yX7_undo cX7_undo 3 (some .int) ∈ pmBig := pm_big (i := 1094) (by decide +kernel) rfl
theorem wd_176 : Cond.code yX7_keep cX7_keep 3 (some .int) ∈ pmBig := pm_big (i := 1098) (by decide +kernel) rfl
theorem wd_177 : Cond.code yX7_on cX7_on 3 (some .int) ∈ pmBig := pm_big (i := 1102) (by decide +kernel) rfl
theorem wd_178 : Cond.code yX7_only cX7_only 4 (some .int) ∈ pmBig := pm_big (i := 1106) (by decide +kernel) rfl
theorem wd_179 : Cond.code yX7_seenFromAny cX7_seenFromAny 4 (some .int) ∈ pmBig := pm_big (i := 1114) (by decide +kernel) rfl
theorem wd_180 : Cond.code yX7_hidden cX7_hidden 1 (some .int) ∈ pmBig := pm_big (i := 1110) (by decide +kernel) rfl
theorem wd_181 : Cond.code yX7_fewest cX7_fewest 3 (some .int) ∈ pmBig := pm_big (i := 1118) (by decide +kernel) rfl
theorem wd_182 : Cond.code yX7_waits cX7_waits 5 (some .int) ∈ pmBig := pm_big (i := 1122) (by decide +kernel) rfl
theorem wd_183 : Cond.code yX7_firstOrder cX7_firstOrder 2 none ∈ pmBig := pm_big (i := 1134) (by decide +kernel) rfl
theorem wd_184 : Cond.code yX7_nextOrder cX7_nextOrder 6 (some .boolean) ∈ pmBig := pm_big (i := 1147) (by decide +kernel) rfl
theorem wd_185 : Cond.code yX7_cursedBy cX7_cursedBy 2 (some .int) ∈ pmBig := pm_big (i := 1138) (by decide +kernel) rfl
theorem wd_186 : Cond.code yX7_bestOrder cX7_bestOrder 8 (some .int) ∈ pmBig := pm_big (i := 1130) (by decide +kernel) rfl
theorem wd_187 : Cond.code yX7_curse cX7_curse 2 (some .int) ∈ pmBig := pm_big (i := 1126) (by decide +kernel) rfl
theorem wd_188 : Cond.code yX7_spare cX7_spare 2 (some .int) ∈ pmBig := pm_big (i := 1151) (by decide +kernel) rfl
theorem wd_189 : Cond.code yX7_orders cX7_orders 6 (some .int) ∈ pmBig := pm_big (i := 1155) (by decide +kernel) rfl
theorem wd_190 : Cond.code yX7_rides cX7_rides 5 (some .int) ∈ pmBig := pm_big (i := 1160) (by decide +kernel) rfl
theorem wd_191 : Cond.code yX7_areBlessed cX7_areBlessed 1 (some .boolean) ∈ pmBig := pm_big (i := 1168) (by decide +kernel) rfl
theorem wd_192 : Cond.code yX7_blessed cX7_blessed 4 (some .int) ∈ pmBig := pm_big (i := 1164) (by decide +kernel) rfl
theorem wd_193 : Cond.code yX7_fees cX7_fees 12 (some .int) ∈ pmBig := pm_big (i := 1172) (by decide +kernel) rfl
theorem wd_194 : Cond.code yX7_wrongNotes cX7_wrongNotes 3 (some .int) ∈ pmBig := pm_big (i := 1181) (by decide +kernel) rfl
theorem wd_195 : Cond.code yX7_areNotes cX7_areNotes 6 (some .boolean) ∈ pmBig := pm_big (i := 1186) (by decide +kernel) rfl
theorem wd_196 : Cond.code yX7_from cX7_from 4 (some .int) ∈ pmBig := pm_big (i := 1177) (by decide +kernel) rfl
theorem wd_197 : Cond.code yX7_kinds cX7_kinds 5 (some .int) ∈ pmBig := pm_big (i := 1190) (by decide +kernel) rfl
theorem wd_198 : Cond.code yX7_given cX7_given 6 (some .int) ∈ pmBig := pm_big (i := 1194) (by decide +kernel) rfl
theorem wd_199 : Cond.code yX7_hold cX7_hold 2 none ∈ pmBig := pm_big (i := 1202) (by decide +kernel) rfl
theorem wd_200 : Cond.code yX7_held cX7_held 2 none ∈ pmBig := pm_big (i := 1210) (by decide +kernel) rfl
theorem wd_201 : Cond.code yX7_lastTurn cX7_lastTurn 6 (some .int) ∈ pmBig := pm_big (i := 1206) (by decide +kernel) rfl
theorem wd_202 : Cond.code yX7_king cX7_king 7 (some .int) ∈ pmBig := pm_big (i := 1198) (by decide +kernel) rfl
theorem wd_203 : Cond.code yX7_tell cX7_tell 11 none ∈ pmBig := pm_big (i := 1218) (by decide +kernel) rfl
theorem wd_204 : Cond.code yX7_odds cX7_odds 4 (some .int) ∈ pmBig := pm_big (i := 1214) (by decide +kernel) rfl
theorem wd_205 : Cond.code yX7_mid cX7_mid 12 (some .int) ∈ pmBig := pm_big (i := 1222) (by decide +kernel) rfl
theorem wd_206 : Cond.code yX7_lots cX7_lots 9 (some .int) ∈ pmBig := pm_big (i := 1226) (by decide +kernel) rfl
theorem wd_207 : Cond.code yX7_asked cX7_asked 1 (some .int) ∈ pmBig := pm_big (i := 1236) (by decide +kernel) rfl
theorem wd_208 : Cond.code yX7_upper cX7_upper 1 (some .long) ∈ pmBig := pm_big (i := 1240) (by decide +kernel) rfl
theorem wd_209 : Cond.code yX7_lower cX7_lower 1 (some .long) ∈ pmBig := pm_big (i := 1244) (by decide +kernel) rfl
theorem wd_210 : Cond.code yX7_tentsThat cX7_tentsThat 4 (some .int) ∈ pmBig := pm_big (i := 1252) (by decide +kernel) rfl
theorem wd_211 : Cond.code yX7_counted cX7_counted 5 (some .int) ∈ pmBig := pm_big (i := 1258) (by decide +kernel) rfl
theorem wd_212 : Cond.code yX7_count cX7_count 2 (some .int) ∈ pmBig := pm_big (i := 1248) (by decide +kernel) rfl
theorem wd_213 : Cond.code yX7_finding cX7_finding 1 (some .int) ∈ pmBig := pm_big (i := 1262) (by decide +kernel) rfl
theorem wd_214 : Cond.code yX7_findings cX7_findings 2 (some .int) ∈ pmBig := pm_big (i := 1266) (by decide +kernel) rfl
theorem wd_215 : Cond.code yX7_digest cX7_digest 5 (some .long) ∈ pmBig := pm_big (i := 1270) (by decide +kernel) rfl
theorem wd_216 : Cond.code yJ6_bitCount_0f7a4 cJ6_bitCount_0f7a4 1 (some .int) ∈ pmBig := pm_big (i := 524) (by decide +kernel) rfl
theorem wd_217 : Cond.initialized RJ6 ∈ pmBig := pm_big (i := 69) (by decide +kernel) rfl
theorem wd_218 : Cond.fieldLink RX0 9 "HillSeer$Camp" "pitched" "[I" ∈ pmBig := pm_big (i := 161) (by decide +kernel) rfl
theorem wd_219 : Cond.methodLink RX0 41 arraycopyName ∈ pmBig := pm_big (i := 442) (by decide +kernel) rfl
theorem wd_220 : Cond.native arraycopyName ∈ pmBig := pm_big (i := 374) (by decide +kernel) rfl
theorem wd_221 : Cond.static arraycopyName ∈ pmBig := pm_big (i := 373) (by decide +kernel) rfl
theorem wd_222 : Cond.initialized "java/lang/System" ∈ pmBig := pm_big (i := 68) (by decide +kernel) rfl
theorem wd_223 : Cond.methodLink RX0 47 yX0_startAgain ∈ pmBig := pm_big (i := 443) (by decide +kernel) rfl
theorem wd_224 : Cond.instanceMethod yX0_startAgain ∈ pmBig := pm_big (i := 445) (by decide +kernel) rfl
theorem wd_225 : Cond.selects RX0 yX0_startAgain yX0_startAgain ∈ pmBig := pm_big (i := 6) (by decide +kernel) rfl
theorem wd_226 : Cond.fieldLink RX0 15 "HillSeer$Camp" "givens" "[I" ∈ pmBig := pm_big (i := 162) (by decide +kernel) rfl
theorem wd_227 : Cond.fieldLink RX0 21 "HillSeer$Camp" "done" "I" ∈ pmBig := pm_big (i := 165) (by decide +kernel) rfl
theorem wd_228 : Cond.fieldLink RX0 25 "HillSeer$Camp" "day" "I" ∈ pmBig := pm_big (i := 167) (by decide +kernel) rfl
theorem wd_229 : Cond.fieldLink RX0 28 "HillSeer$Camp" "gold" "I" ∈ pmBig := pm_big (i := 169) (by decide +kernel) rfl
theorem wd_230 : Cond.fieldLink RX0 31 "HillSeer$Camp" "blessed" "I" ∈ pmBig := pm_big (i := 171) (by decide +kernel) rfl
theorem wd_231 : Cond.fieldLink RX0 34 "HillSeer$Camp" "cursed" "I" ∈ pmBig := pm_big (i := 174) (by decide +kernel) rfl
theorem wd_232 : Cond.fieldLink RX0 18 "HillSeer$Camp" "deeds" "[I" ∈ pmBig := pm_big (i := 164) (by decide +kernel) rfl
theorem wd_233 : Cond.fieldLink RX0 37 "HillSeer$Camp" "land" "LHillSeer$Land;" ∈ pmBig := pm_big (i := 159) (by decide +kernel) rfl
theorem wd_234 : Cond.fieldLinkNest RX0 50 "HillSeer$Land" "hills" "[LHillSeer$Hill;" "HillSeer" ∈ pmNest := pm_nst (i := 142) (by decide +kernel) rfl
theorem wd_235 : Cond.fieldLinkNest RX0 56 "HillSeer$Hill" "kind" "I" "HillSeer" ∈ pmNest := pm_nst (i := 126) (by decide +kernel) rfl
theorem wd_236 : Cond.methodLink RX0 61 yX1_seenAs ∈ pmBig := pm_big (i := 463) (by decide +kernel) rfl
theorem wd_237 : Cond.instanceMethod yX1_seenAs ∈ pmBig := pm_big (i := 464) (by decide +kernel) rfl
theorem wd_238 : Cond.selects RX1 yX1_seenAs yX1_seenAs ∈ pmBig := pm_big (i := 465) (by decide +kernel) rfl
theorem wd_239 : Cond.methodLink RX0 65 yX1_sumAs ∈ pmBig := pm_big (i := 478) (by decide +kernel) rfl
theorem wd_240 : Cond.instanceMethod yX1_sumAs ∈ pmBig := pm_big (i := 479) (by decide +kernel) rfl
theorem wd_241 : Cond.selects RX1 yX1_sumAs yX1_sumAs ∈ pmBig := pm_big (i := 480) (by decide +kernel) rfl
theorem wd_242 : Cond.methodLinkNest RX0 68 yX6_wordOf "HillSeer" ∈ pmNest := pm_nst (i := 490) (by decide +kernel) rfl
theorem wd_243 : Cond.static yX6_wordOf ∈ pmBig := pm_big (i := 491) (by decide +kernel) rfl
theorem wd_244 : Cond.fieldLinkNest RX0 72 "HillSeer$Land" "size" "I" "HillSeer" ∈ pmNest := pm_nst (i := 146) (by decide +kernel) rfl
theorem wd_245 : Cond.methodLink RX0 75 yX0_seenFrom ∈ pmBig := pm_big (i := 512) (by decide +kernel) rfl
theorem wd_246 : Cond.instanceMethod yX0_seenFrom ∈ pmBig := pm_big (i := 460) (by decide +kernel) rfl
theorem wd_247 : Cond.selects RX0 yX0_seenFrom yX0_seenFrom ∈ pmBig := pm_big (i := 461) (by decide +kernel) rfl
theorem wd_248 : Cond.methodLink RX0 78 yX0_wordFrom ∈ pmBig := pm_big (i := 568) (by decide +kernel) rfl
theorem wd_249 : Cond.instanceMethod yX0_wordFrom ∈ pmBig := pm_big (i := 487) (by decide +kernel) rfl
theorem wd_250 : Cond.selects RX0 yX0_wordFrom yX0_wordFrom ∈ pmBig := pm_big (i := 488) (by decide +kernel) rfl
theorem wd_251 : Cond.methodLink RX0 81 yX1_sumOf ∈ pmBig := pm_big (i := 552) (by decide +kernel) rfl
theorem wd_252 : Cond.static yX1_sumOf ∈ pmBig := pm_big (i := 484) (by decide +kernel) rfl
theorem wd_253 : Cond.methodLinkNest RX0 85 yX6_feeOf "HillSeer" ∈ pmNest := pm_nst (i := 553) (by decide +kernel) rfl
theorem wd_254 : Cond.static yX6_feeOf ∈ pmBig := pm_big (i := 554) (by decide +kernel) rfl
theorem wd_255 : Cond.methodLink RX0 89 yX0_swapBits ∈ pmBig := pm_big (i := 545) (by decide +kernel) rfl
theorem wd_256 : Cond.static yX0_swapBits ∈ pmBig := pm_big (i := 546) (by decide +kernel) rfl
theorem wd_257 : Cond.methodLink RX0 93 yX0_swap ∈ pmBig := pm_big (i := 541) (by decide +kernel) rfl
theorem wd_258 : Cond.instanceMethod yX0_swap ∈ pmBig := pm_big (i := 542) (by decide +kernel) rfl
theorem wd_259 : Cond.selects RX0 yX0_swap yX0_swap ∈ pmBig := pm_big (i := 543) (by decide +kernel) rfl
theorem wd_260 : Cond.methodLink RX0 97 yX0_perform ∈ pmBig := pm_big (i := 537) (by decide +kernel) rfl
theorem wd_261 : Cond.instanceMethod yX0_perform ∈ pmBig := pm_big (i := 539) (by decide +kernel) rfl
theorem wd_262 : Cond.selects RX0 yX0_perform yX0_perform ∈ pmBig := pm_big (i := 11) (by decide +kernel) rfl
theorem wd_263 : Cond.methodLink RX0 101 yX0_sayFrom ∈ pmBig := pm_big (i := 548) (by decide +kernel) rfl
theorem wd_264 : Cond.instanceMethod yX0_sayFrom ∈ pmBig := pm_big (i := 549) (by decide +kernel) rfl
theorem wd_265 : Cond.selects RX0 yX0_sayFrom yX0_sayFrom ∈ pmBig := pm_big (i := 550) (by decide +kernel) rfl
theorem wd_266 : Cond.fieldLink RX1 18 "HillSeer$Hill" "broad" "I" ∈ pmBig := pm_big (i := 131) (by decide +kernel) rfl
theorem wd_267 : Cond.fieldLink RX1 15 "HillSeer$Hill" "first" "I" ∈ pmBig := pm_big (i := 128) (by decide +kernel) rfl
theorem wd_268 : Cond.methodLink RX1 21 yX1_reachAs ∈ pmBig := pm_big (i := 467) (by decide +kernel) rfl
theorem wd_269 : Cond.instanceMethod yX1_reachAs ∈ pmBig := pm_big (i := 469) (by decide +kernel) rfl
theorem wd_270 : Cond.selects RX1 yX1_reachAs yX1_reachAs ∈ pmBig := pm_big (i := 9) (by decide +kernel) rfl
theorem wd_271 : Cond.methodLinkNest RX1 25 yX6_isOfKind "HillSeer" ∈ pmNest := pm_nst (i := 471) (by decide +kernel) rfl
theorem wd_272 : Cond.static yX6_isOfKind ∈ pmBig := pm_big (i := 472) (by decide +kernel) rfl
theorem wd_273 : Cond.methodLink RX1 29 yX1_seenAs ∈ pmBig := pm_big (i := 482) (by decide +kernel) rfl
theorem wd_274 : Cond.methodLink RX1 33 yX1_sumOf ∈ pmBig := pm_big (i := 483) (by decide +kernel) rfl
theorem wd_275 : Cond.fieldLink RX1 9 "HillSeer$Hill" "kind" "I" ∈ pmBig := pm_big (i := 124) (by decide +kernel) rfl
theorem wd_276 : Cond.methodLink RX1 37 yJ6_bitCount_0f7a4 ∈ pmBig := pm_big (i := 522) (by decide +kernel) rfl
theorem wd_277 : Cond.static yJ6_bitCount_0f7a4 ∈ pmBig := pm_big (i := 523) (by decide +kernel) rfl
theorem wd_278 : Cond.methodLink RX1 43 yX1_sumAs ∈ pmBig := pm_big (i := 528) (by decide +kernel) rfl
theorem wd_279 : Cond.fieldLinkNest RX2 22 "HillSeer$Reader" "hills" "I" "HillSeer" ∈ pmNest := pm_nst (i := 95) (by decide +kernel) rfl
theorem wd_280 : Cond.fieldLink RX2 17 "HillSeer$Land" "size" "I" ∈ pmBig := pm_big (i := 144) (by decide +kernel) rfl
theorem wd_281 : Cond.fieldLink RX2 11 "HillSeer$Land" "hills" "[LHillSeer$Hill;" ∈ pmBig := pm_big (i := 141) (by decide +kernel) rfl
theorem wd_282 : Cond.fieldLinkNest RX2 26 "HillSeer$Reader" "kinds" "[I" "HillSeer" ∈ pmNest := pm_nst (i := 89) (by decide +kernel) rfl
theorem wd_283 : Cond.fieldLinkNest RX2 30 "HillSeer$Hill" "kind" "I" "HillSeer" ∈ pmNest := pm_nst (i := 125) (by decide +kernel) rfl
theorem wd_284 : Cond.fieldLinkNest RX2 33 "HillSeer$Reader" "firsts" "[I" "HillSeer" ∈ pmNest := pm_nst (i := 91) (by decide +kernel) rfl
theorem wd_285 : Cond.fieldLinkNest RX2 36 "HillSeer$Hill" "first" "I" "HillSeer" ∈ pmNest := pm_nst (i := 129) (by decide +kernel) rfl
theorem wd_286 : Cond.fieldLinkNest RX2 39 "HillSeer$Reader" "broads" "[I" "HillSeer" ∈ pmNest := pm_nst (i := 93) (by decide +kernel) rfl
theorem wd_287 : Cond.fieldLinkNest RX2 42 "HillSeer$Hill" "broad" "I" "HillSeer" ∈ pmNest := pm_nst (i := 132) (by decide +kernel) rfl
theorem wd_288 : Cond.methodLinkNest RX2 45 yX6_isOfKind "HillSeer" ∈ pmNest := pm_nst (i := 781) (by decide +kernel) rfl
theorem wd_289 : Cond.fieldLinkNest RX3 49 "HillSeer$Camp" "land" "LHillSeer$Land;" "HillSeer" ∈ pmNest := pm_nst (i := 160) (by decide +kernel) rfl
theorem wd_290 : Cond.fieldLinkNest RX3 55 "HillSeer$Land" "size" "I" "HillSeer" ∈ pmNest := pm_nst (i := 145) (by decide +kernel) rfl
theorem wd_291 : Cond.fieldLink RX3 27 "HillSeer$OrderSearch" "size" "I" ∈ pmBig := pm_big (i := 210) (by decide +kernel) rfl
theorem wd_292 : Cond.fieldLink RX3 9 "HillSeer$OrderSearch" "seen" "[I" ∈ pmBig := pm_big (i := 203) (by decide +kernel) rfl
theorem wd_293 : Cond.methodLink RX3 58 yX0_seenFrom ∈ pmBig := pm_big (i := 632) (by decide +kernel) rfl
theorem wd_294 : Cond.fieldLink RX3 15 "HillSeer$OrderSearch" "words" "[I" ∈ pmBig := pm_big (i := 204) (by decide +kernel) rfl
theorem wd_295 : Cond.methodLink RX3 62 yX0_wordFrom ∈ pmBig := pm_big (i := 633) (by decide +kernel) rfl
theorem wd_296 : Cond.fieldLink RX3 31 "HillSeer$OrderSearch" "used" "I" ∈ pmBig := pm_big (i := 211) (by decide +kernel) rfl
theorem wd_297 : Cond.fieldLink RX3 34 "HillSeer$OrderSearch" "wanted" "I" ∈ pmBig := pm_big (i := 212) (by decide +kernel) rfl
theorem wd_298 : Cond.fieldLink RX3 37 "HillSeer$OrderSearch" "most" "I" ∈ pmBig := pm_big (i := 213) (by decide +kernel) rfl
theorem wd_299 : Cond.fieldLink RX3 40 "HillSeer$OrderSearch" "least" "I" ∈ pmBig := pm_big (i := 215) (by decide +kernel) rfl
theorem wd_300 : Cond.fieldLink RX3 43 "HillSeer$OrderSearch" "found" "I" ∈ pmBig := pm_big (i := 217) (by decide +kernel) rfl
theorem wd_301 : Cond.fieldLink RX3 46 "HillSeer$OrderSearch" "common" "I" ∈ pmBig := pm_big (i := 219) (by decide +kernel) rfl
theorem wd_302 : Cond.fieldLinkNest RX3 65 "HillSeer$Camp" "blessed" "I" "HillSeer" ∈ pmNest := pm_nst (i := 172) (by decide +kernel) rfl
theorem wd_303 : Cond.fieldLinkNest RX3 68 "HillSeer$Camp" "cursed" "I" "HillSeer" ∈ pmNest := pm_nst (i := 175) (by decide +kernel) rfl
theorem wd_304 : Cond.methodLink RX3 71 yX3_goOn ∈ pmBig := pm_big (i := 634) (by decide +kernel) rfl
theorem wd_305 : Cond.instanceMethod yX3_goOn ∈ pmBig := pm_big (i := 636) (by decide +kernel) rfl
theorem wd_306 : Cond.selects RX3 yX3_goOn yX3_goOn ∈ pmBig := pm_big (i := 13) (by decide +kernel) rfl
theorem wd_307 : Cond.methodLink RX3 75 yX3_weigh ∈ pmBig := pm_big (i := 638) (by decide +kernel) rfl
theorem wd_308 : Cond.instanceMethod yX3_weigh ∈ pmBig := pm_big (i := 640) (by decide +kernel) rfl
theorem wd_309 : Cond.selects RX3 yX3_weigh yX3_weigh ∈ pmBig := pm_big (i := 14) (by decide +kernel) rfl
theorem wd_310 : Cond.methodLink RX3 79 yX3_choose ∈ pmBig := pm_big (i := 644) (by decide +kernel) rfl
theorem wd_311 : Cond.instanceMethod yX3_choose ∈ pmBig := pm_big (i := 646) (by decide +kernel) rfl
theorem wd_312 : Cond.selects RX3 yX3_choose yX3_choose ∈ pmBig := pm_big (i := 15) (by decide +kernel) rfl
theorem wd_313 : Cond.fieldLink RX3 18 "HillSeer$OrderSearch" "path" "[I" ∈ pmBig := pm_big (i := 205) (by decide +kernel) rfl
theorem wd_314 : Cond.methodLink RX3 83 yJ6_bitCount_0f7a4 ∈ pmBig := pm_big (i := 642) (by decide +kernel) rfl
theorem wd_315 : Cond.fieldLink RX3 21 "HillSeer$OrderSearch" "mostPath" "[I" ∈ pmBig := pm_big (i := 206) (by decide +kernel) rfl
theorem wd_316 : Cond.methodLink RX3 88 arraycopyName ∈ pmBig := pm_big (i := 643) (by decide +kernel) rfl
theorem wd_317 : Cond.fieldLink RX3 24 "HillSeer$OrderSearch" "leastPath" "[I" ∈ pmBig := pm_big (i := 208) (by decide +kernel) rfl
theorem wd_318 : Cond.fieldLink RX4 24 "HillSeer$Reader" "hills" "I" ∈ pmBig := pm_big (i := 94) (by decide +kernel) rfl
theorem wd_319 : Cond.fieldLink RX4 28 "HillSeer$Reader" "place" "I" ∈ pmBig := pm_big (i := 96) (by decide +kernel) rfl
theorem wd_320 : Cond.methodLink RX4 31 yX4_skipBlanks ∈ pmBig := pm_big (i := 406) (by decide +kernel) rfl
theorem wd_321 : Cond.instanceMethod yX4_skipBlanks ∈ pmBig := pm_big (i := 408) (by decide +kernel) rfl
theorem wd_322 : Cond.selects RX4 yX4_skipBlanks yX4_skipBlanks ∈ pmBig := pm_big (i := 1) (by decide +kernel) rfl
theorem wd_323 : Cond.methodLink RX4 35 yX4_readTents ∈ pmBig := pm_big (i := 412) (by decide +kernel) rfl
theorem wd_324 : Cond.instanceMethod yX4_readTents ∈ pmBig := pm_big (i := 414) (by decide +kernel) rfl
theorem wd_325 : Cond.selects RX4 yX4_readTents yX4_readTents ∈ pmBig := pm_big (i := 2) (by decide +kernel) rfl
theorem wd_326 : Cond.methodLink RX4 39 yX5_has ∈ pmBig := pm_big (i := 410) (by decide +kernel) rfl
theorem wd_327 : Cond.instanceMethod yX5_has ∈ pmBig := pm_big (i := 335) (by decide +kernel) rfl
theorem wd_328 : Cond.selects RX5 yX5_has yX5_has ∈ pmBig := pm_big (i := 336) (by decide +kernel) rfl
theorem wd_329 : Cond.methodLink RX4 45 yX4_readHill ∈ pmBig := pm_big (i := 420) (by decide +kernel) rfl
theorem wd_330 : Cond.instanceMethod yX4_readHill ∈ pmBig := pm_big (i := 422) (by decide +kernel) rfl
theorem wd_331 : Cond.selects RX4 yX4_readHill yX4_readHill ∈ pmBig := pm_big (i := 4) (by decide +kernel) rfl
theorem wd_332 : Cond.methodLink RX4 48 yX5_get ∈ pmBig := pm_big (i := 411) (by decide +kernel) rfl
theorem wd_333 : Cond.instanceMethod yX5_get ∈ pmBig := pm_big (i := 339) (by decide +kernel) rfl
theorem wd_334 : Cond.selects RX5 yX5_get yX5_get ∈ pmBig := pm_big (i := 340) (by decide +kernel) rfl
theorem wd_335 : Cond.methodLink RX4 52 yX4_figureHere ∈ pmBig := pm_big (i := 416) (by decide +kernel) rfl
theorem wd_336 : Cond.instanceMethod yX4_figureHere ∈ pmBig := pm_big (i := 418) (by decide +kernel) rfl
theorem wd_337 : Cond.selects RX4 yX4_figureHere yX4_figureHere ∈ pmBig := pm_big (i := 3) (by decide +kernel) rfl
theorem wd_338 : Cond.fieldLink RX4 9 "HillSeer$Reader" "givens" "[I" ∈ pmBig := pm_big (i := 86) (by decide +kernel) rfl
theorem wd_339 : Cond.methodLink RX4 56 yX4_kindHere ∈ pmBig := pm_big (i := 424) (by decide +kernel) rfl
theorem wd_340 : Cond.instanceMethod yX4_kindHere ∈ pmBig := pm_big (i := 426) (by decide +kernel) rfl
theorem wd_341 : Cond.selects RX4 yX4_kindHere yX4_kindHere ∈ pmBig := pm_big (i := 5) (by decide +kernel) rfl
theorem wd_342 : Cond.fieldLink RX4 15 "HillSeer$Reader" "kinds" "[I" ∈ pmBig := pm_big (i := 88) (by decide +kernel) rfl
theorem wd_343 : Cond.fieldLink RX4 18 "HillSeer$Reader" "firsts" "[I" ∈ pmBig := pm_big (i := 90) (by decide +kernel) rfl
theorem wd_344 : Cond.fieldLink RX4 21 "HillSeer$Reader" "broads" "[I" ∈ pmBig := pm_big (i := 92) (by decide +kernel) rfl
theorem wd_345 : Cond.fieldLink RX4 59 "HillSeer$Reader" "LETTERS" "[I" ∈ pmBig := pm_big (i := 428) (by decide +kernel) rfl
theorem wd_346 : Cond.fieldLink RX5 13 "HillSeer$Sheet" "places" "[I" ∈ pmBig := pm_big (i := 252) (by decide +kernel) rfl
theorem wd_347 : Cond.methodLink RX5 17 Lib.Math.min.name ∈ pmBig := pm_big (i := 317) (by decide +kernel) rfl
theorem wd_348 : Cond.static Lib.Math.min.name ∈ pmBig := pm_big (i := 318) (by decide +kernel) rfl
theorem wd_349 : Cond.initialized "java/lang/Math" ∈ pmBig := pm_big (i := 67) (by decide +kernel) rfl
theorem wd_350 : Cond.code Lib.Math.min.name Lib.Math.min.code 2 (some .int) ∈ pmBig := pm_big (i := 319) (by decide +kernel) rfl
theorem wd_351 : Cond.methodLink RX5 23 Lib.Math.max.name ∈ pmBig := pm_big (i := 320) (by decide +kernel) rfl
theorem wd_352 : Cond.static Lib.Math.max.name ∈ pmBig := pm_big (i := 321) (by decide +kernel) rfl
theorem wd_353 : Cond.code Lib.Math.max.name Lib.Math.max.code 2 (some .int) ∈ pmBig := pm_big (i := 322) (by decide +kernel) rfl
theorem wd_354 : Cond.fieldLink RX5 9 "HillSeer$Sheet" "size" "I" ∈ pmBig := pm_big (i := 253) (by decide +kernel) rfl
theorem wd_355 : Cond.methodLink RX5 26 yX5_has ∈ pmBig := pm_big (i := 342) (by decide +kernel) rfl
theorem wd_356 : Cond.methodLink RX5 30 yX5_hasRun ∈ pmBig := pm_big (i := 371) (by decide +kernel) rfl
theorem wd_357 : Cond.instanceMethod yX5_hasRun ∈ pmBig := pm_big (i := 364) (by decide +kernel) rfl
theorem wd_358 : Cond.selects RX5 yX5_hasRun yX5_hasRun ∈ pmBig := pm_big (i := 365) (by decide +kernel) rfl
theorem wd_359 : Cond.methodLink RX5 34 arraycopyName ∈ pmBig := pm_big (i := 372) (by decide +kernel) rfl
theorem wd_360 : Cond.methodLink RX5 40 yX5_open ∈ pmBig := pm_big (i := 652) (by decide +kernel) rfl
theorem wd_361 : Cond.instanceMethod yX5_open ∈ pmBig := pm_big (i := 314) (by decide +kernel) rfl
theorem wd_362 : Cond.selects RX5 yX5_open yX5_open ∈ pmBig := pm_big (i := 315) (by decide +kernel) rfl
theorem wd_363 : Cond.methodLink RX6 80 yX6_isRow ∈ pmBig := pm_big (i := 306) (by decide +kernel) rfl
theorem wd_364 : Cond.static yX6_isRow ∈ pmBig := pm_big (i := 307) (by decide +kernel) rfl
theorem wd_365 : Cond.methodLink RX6 84 yX6_refuse ∈ pmBig := pm_big (i := 309) (by decide +kernel) rfl
theorem wd_366 : Cond.instanceMethod yX6_refuse ∈ pmBig := pm_big (i := 311) (by decide +kernel) rfl
theorem wd_367 : Cond.selects RX6 yX6_refuse yX6_refuse ∈ pmBig := pm_big (i := 0) (by decide +kernel) rfl
theorem wd_368 : Cond.fieldLink RX6 11 "HillSeer" "rows" "[LHillSeer$Sheet;" ∈ pmBig := pm_big (i := 259) (by decide +kernel) rfl
theorem wd_369 : Cond.methodLink RX6 88 yX5_open ∈ pmBig := pm_big (i := 313) (by decide +kernel) rfl
theorem wd_370 : Cond.methodLink RX6 92 yX6_placeFault ∈ pmBig := pm_big (i := 327) (by decide +kernel) rfl
theorem wd_371 : Cond.static yX6_placeFault ∈ pmBig := pm_big (i := 328) (by decide +kernel) rfl
theorem wd_372 : Cond.methodLink RX6 96 yX5_get ∈ pmBig := pm_big (i := 338) (by decide +kernel) rfl
theorem wd_373 : Cond.fieldLink RX6 67 "HillSeer" "told" "I" ∈ pmBig := pm_big (i := 270) (by decide +kernel) rfl
theorem wd_374 : Cond.methodLink RX6 99 yX5_set ∈ pmBig := pm_big (i := 343) (by decide +kernel) rfl
theorem wd_375 : Cond.instanceMethod yX5_set ∈ pmBig := pm_big (i := 344) (by decide +kernel) rfl
theorem wd_376 : Cond.selects RX5 yX5_set yX5_set ∈ pmBig := pm_big (i := 345) (by decide +kernel) rfl
theorem wd_377 : Cond.methodLink RX6 102 yX5_isMissing ∈ pmBig := pm_big (i := 330) (by decide +kernel) rfl
theorem wd_378 : Cond.instanceMethod yX5_isMissing ∈ pmBig := pm_big (i := 331) (by decide +kernel) rfl
theorem wd_379 : Cond.selects RX5 yX5_isMissing yX5_isMissing ∈ pmBig := pm_big (i := 332) (by decide +kernel) rfl
theorem wd_380 : Cond.methodLink RX6 106 yX5_drop ∈ pmBig := pm_big (i := 355) (by decide +kernel) rfl
theorem wd_381 : Cond.instanceMethod yX5_drop ∈ pmBig := pm_big (i := 356) (by decide +kernel) rfl
theorem wd_382 : Cond.selects RX5 yX5_drop yX5_drop ∈ pmBig := pm_big (i := 357) (by decide +kernel) rfl
theorem wd_383 : Cond.methodLink RX6 109 yX5_hasRun ∈ pmBig := pm_big (i := 363) (by decide +kernel) rfl
theorem wd_384 : Cond.methodLink RX6 113 yX5_takeRun ∈ pmBig := pm_big (i := 367) (by decide +kernel) rfl
theorem wd_385 : Cond.instanceMethod yX5_takeRun ∈ pmBig := pm_big (i := 368) (by decide +kernel) rfl
theorem wd_386 : Cond.selects RX5 yX5_takeRun yX5_takeRun ∈ pmBig := pm_big (i := 369) (by decide +kernel) rfl
theorem wd_387 : Cond.methodLink RX6 117 yX5_size ∈ pmBig := pm_big (i := 379) (by decide +kernel) rfl
theorem wd_388 : Cond.instanceMethod yX5_size ∈ pmBig := pm_big (i := 380) (by decide +kernel) rfl
theorem wd_389 : Cond.selects RX5 yX5_size yX5_size ∈ pmBig := pm_big (i := 381) (by decide +kernel) rfl
theorem wd_390 : Cond.methodLink RX6 121 yX5_total ∈ pmBig := pm_big (i := 383) (by decide +kernel) rfl
theorem wd_391 : Cond.instanceMethod yX5_total ∈ pmBig := pm_big (i := 384) (by decide +kernel) rfl
theorem wd_392 : Cond.selects RX5 yX5_total yX5_total ∈ pmBig := pm_big (i := 385) (by decide +kernel) rfl
theorem wd_393 : Cond.methodLink RX6 125 yX6_isText ∈ pmBig := pm_big (i := 391) (by decide +kernel) rfl
theorem wd_394 : Cond.static yX6_isText ∈ pmBig := pm_big (i := 392) (by decide +kernel) rfl
theorem wd_395 : Cond.fieldLink RX6 15 "HillSeer" "texts" "[LHillSeer$Sheet;" ∈ pmBig := pm_big (i := 260) (by decide +kernel) rfl
theorem wd_396 : Cond.fieldLink RX6 21 "HillSeer" "reader" "LHillSeer$Reader;" ∈ pmBig := pm_big (i := 261) (by decide +kernel) rfl
theorem wd_397 : Cond.methodLink RX6 128 yX4_read ∈ pmBig := pm_big (i := 402) (by decide +kernel) rfl
theorem wd_398 : Cond.instanceMethod yX4_read ∈ pmBig := pm_big (i := 403) (by decide +kernel) rfl
theorem wd_399 : Cond.selects RX4 yX4_read yX4_read ∈ pmBig := pm_big (i := 404) (by decide +kernel) rfl
theorem wd_400 : Cond.fieldLink RX6 28 "HillSeer" "land" "LHillSeer$Land;" ∈ pmBig := pm_big (i := 262) (by decide +kernel) rfl
theorem wd_401 : Cond.methodLink RX6 132 yX2_take ∈ pmBig := pm_big (i := 434) (by decide +kernel) rfl
theorem wd_402 : Cond.instanceMethod yX2_take ∈ pmBig := pm_big (i := 435) (by decide +kernel) rfl
theorem wd_403 : Cond.selects RX2 yX2_take yX2_take ∈ pmBig := pm_big (i := 436) (by decide +kernel) rfl
theorem wd_404 : Cond.fieldLink RX6 37 "HillSeer" "camp" "LHillSeer$Camp;" ∈ pmBig := pm_big (i := 263) (by decide +kernel) rfl
theorem wd_405 : Cond.fieldLinkNest RX6 136 "HillSeer$Reader" "givens" "[I" "HillSeer" ∈ pmNest := pm_nst (i := 87) (by decide +kernel) rfl
theorem wd_406 : Cond.methodLink RX6 139 yX0_pitch ∈ pmBig := pm_big (i := 438) (by decide +kernel) rfl
theorem wd_407 : Cond.instanceMethod yX0_pitch ∈ pmBig := pm_big (i := 439) (by decide +kernel) rfl
theorem wd_408 : Cond.selects RX0 yX0_pitch yX0_pitch ∈ pmBig := pm_big (i := 440) (by decide +kernel) rfl
theorem wd_409 : Cond.fieldLink RX6 48 "HillSeer" "isKept" "[Z" ∈ pmBig := pm_big (i := 266) (by decide +kernel) rfl
theorem wd_410 : Cond.fieldLinkNest RX6 143 "HillSeer$Land" "size" "I" "HillSeer" ∈ pmNest := pm_nst (i := 147) (by decide +kernel) rfl
theorem wd_411 : Cond.methodLink RX6 145 yX6_isHill ∈ pmBig := pm_big (i := 451) (by decide +kernel) rfl
theorem wd_412 : Cond.instanceMethod yX6_isHill ∈ pmBig := pm_big (i := 453) (by decide +kernel) rfl
theorem wd_413 : Cond.selects RX6 yX6_isHill yX6_isHill ∈ pmBig := pm_big (i := 7) (by decide +kernel) rfl
theorem wd_414 : Cond.methodLink RX6 148 yX6_hillFact ∈ pmBig := pm_big (i := 455) (by decide +kernel) rfl
theorem wd_415 : Cond.instanceMethod yX6_hillFact ∈ pmBig := pm_big (i := 457) (by decide +kernel) rfl
theorem wd_416 : Cond.selects RX6 yX6_hillFact yX6_hillFact ∈ pmBig := pm_big (i := 8) (by decide +kernel) rfl
theorem wd_417 : Cond.methodLink RX6 152 yX6_isTent ∈ pmBig := pm_big (i := 497) (by decide +kernel) rfl
theorem wd_418 : Cond.static yX6_isTent ∈ pmBig := pm_big (i := 498) (by decide +kernel) rfl
theorem wd_419 : Cond.methodLink RX6 155 yX6_hasNoHills ∈ pmBig := pm_big (i := 500) (by decide +kernel) rfl
theorem wd_420 : Cond.instanceMethod yX6_hasNoHills ∈ pmBig := pm_big (i := 502) (by decide +kernel) rfl
theorem wd_421 : Cond.selects RX6 yX6_hasNoHills yX6_hasNoHills ∈ pmBig := pm_big (i := 10) (by decide +kernel) rfl
theorem wd_422 : Cond.fieldLinkNest RX6 158 "HillSeer$Camp" "givens" "[I" "HillSeer" ∈ pmNest := pm_nst (i := 163) (by decide +kernel) rfl
theorem wd_423 : Cond.methodLink RX6 159 yX0_fateOf ∈ pmBig := pm_big (i := 504) (by decide +kernel) rfl
theorem wd_424 : Cond.instanceMethod yX0_fateOf ∈ pmBig := pm_big (i := 505) (by decide +kernel) rfl
theorem wd_425 : Cond.selects RX0 yX0_fateOf yX0_fateOf ∈ pmBig := pm_big (i := 506) (by decide +kernel) rfl
theorem wd_426 : Cond.methodLink RX6 162 yX0_hillsThatSee ∈ pmBig := pm_big (i := 508) (by decide +kernel) rfl
theorem wd_427 : Cond.instanceMethod yX0_hillsThatSee ∈ pmBig := pm_big (i := 509) (by decide +kernel) rfl
theorem wd_428 : Cond.selects RX0 yX0_hillsThatSee yX0_hillsThatSee ∈ pmBig := pm_big (i := 510) (by decide +kernel) rfl
theorem wd_429 : Cond.fieldLinkNest RX6 165 "HillSeer$Land" "hills" "[LHillSeer$Hill;" "HillSeer" ∈ pmNest := pm_nst (i := 143) (by decide +kernel) rfl
theorem wd_430 : Cond.fieldLinkNest RX6 169 "HillSeer$Hill" "kind" "I" "HillSeer" ∈ pmNest := pm_nst (i := 127) (by decide +kernel) rfl
theorem wd_431 : Cond.methodLink RX6 174 yX6_isOfKind ∈ pmBig := pm_big (i := 517) (by decide +kernel) rfl
theorem wd_432 : Cond.fieldLinkNest RX6 177 "HillSeer$Camp" "day" "I" "HillSeer" ∈ pmNest := pm_nst (i := 168) (by decide +kernel) rfl
theorem wd_433 : Cond.methodLink RX6 180 yX1_markAs ∈ pmBig := pm_big (i := 518) (by decide +kernel) rfl
theorem wd_434 : Cond.instanceMethod yX1_markAs ∈ pmBig := pm_big (i := 519) (by decide +kernel) rfl
theorem wd_435 : Cond.selects RX1 yX1_markAs yX1_markAs ∈ pmBig := pm_big (i := 520) (by decide +kernel) rfl
theorem wd_436 : Cond.fieldLinkNest RX6 184 "HillSeer$Camp" "done" "I" "HillSeer" ∈ pmNest := pm_nst (i := 166) (by decide +kernel) rfl
theorem wd_437 : Cond.methodLink RX6 187 yX0_wordFrom ∈ pmBig := pm_big (i := 486) (by decide +kernel) rfl
theorem wd_438 : Cond.methodLink RX6 190 yX0_doAndNote ∈ pmBig := pm_big (i := 533) (by decide +kernel) rfl
theorem wd_439 : Cond.instanceMethod yX0_doAndNote ∈ pmBig := pm_big (i := 534) (by decide +kernel) rfl
theorem wd_440 : Cond.selects RX0 yX0_doAndNote yX0_doAndNote ∈ pmBig := pm_big (i := 535) (by decide +kernel) rfl
theorem wd_441 : Cond.methodLink RX6 193 yX0_hillsThatBless ∈ pmBig := pm_big (i := 564) (by decide +kernel) rfl
theorem wd_442 : Cond.instanceMethod yX0_hillsThatBless ∈ pmBig := pm_big (i := 565) (by decide +kernel) rfl
theorem wd_443 : Cond.selects RX0 yX0_hillsThatBless yX0_hillsThatBless ∈ pmBig := pm_big (i := 566) (by decide +kernel) rfl
theorem wd_444 : Cond.methodLink RX6 196 yX0_goBackTo ∈ pmBig := pm_big (i := 573) (by decide +kernel) rfl
theorem wd_445 : Cond.instanceMethod yX0_goBackTo ∈ pmBig := pm_big (i := 574) (by decide +kernel) rfl
theorem wd_446 : Cond.selects RX0 yX0_goBackTo yX0_goBackTo ∈ pmBig := pm_big (i := 575) (by decide +kernel) rfl
theorem wd_447 : Cond.methodLink RX6 199 yX6_isKeepingPlace ∈ pmBig := pm_big (i := 581) (by decide +kernel) rfl
theorem wd_448 : Cond.static yX6_isKeepingPlace ∈ pmBig := pm_big (i := 582) (by decide +kernel) rfl
theorem wd_449 : Cond.fieldLink RX6 44 "HillSeer" "kept" "[LHillSeer$Camp;" ∈ pmBig := pm_big (i := 265) (by decide +kernel) rfl
theorem wd_450 : Cond.methodLink RX6 202 yX0_take ∈ pmBig := pm_big (i := 584) (by decide +kernel) rfl
theorem wd_451 : Cond.instanceMethod yX0_take ∈ pmBig := pm_big (i := 585) (by decide +kernel) rfl
theorem wd_452 : Cond.selects RX0 yX0_take yX0_take ∈ pmBig := pm_big (i := 586) (by decide +kernel) rfl
theorem wd_453 : Cond.methodLink RX6 205 yX0_seenFrom ∈ pmBig := pm_big (i := 459) (by decide +kernel) rfl
theorem wd_454 : Cond.methodLink RX6 208 yJ6_bitCount_0f7a4 ∈ pmBig := pm_big (i := 596) (by decide +kernel) rfl
theorem wd_455 : Cond.methodLink RX6 213 yX6_allHills ∈ pmBig := pm_big (i := 601) (by decide +kernel) rfl
theorem wd_456 : Cond.instanceMethod yX6_allHills ∈ pmBig := pm_big (i := 603) (by decide +kernel) rfl
theorem wd_457 : Cond.selects RX6 yX6_allHills yX6_allHills ∈ pmBig := pm_big (i := 12) (by decide +kernel) rfl
theorem wd_458 : Cond.methodLink RX6 216 yX0_seenFromAny ∈ pmBig := pm_big (i := 605) (by decide +kernel) rfl
theorem wd_459 : Cond.instanceMethod yX0_seenFromAny ∈ pmBig := pm_big (i := 606) (by decide +kernel) rfl
theorem wd_460 : Cond.selects RX0 yX0_seenFromAny yX0_seenFromAny ∈ pmBig := pm_big (i := 607) (by decide +kernel) rfl
theorem wd_461 : Cond.methodLink RX6 219 yX6_isWord ∈ pmBig := pm_big (i := 617) (by decide +kernel) rfl
theorem wd_462 : Cond.static yX6_isWord ∈ pmBig := pm_big (i := 618) (by decide +kernel) rfl
theorem wd_463 : Cond.fieldLink RX6 41 "HillSeer" "trial" "LHillSeer$Camp;" ∈ pmBig := pm_big (i := 264) (by decide +kernel) rfl
theorem wd_464 : Cond.methodLink RX6 222 yX0_goRound ∈ pmBig := pm_big (i := 620) (by decide +kernel) rfl
theorem wd_465 : Cond.instanceMethod yX0_goRound ∈ pmBig := pm_big (i := 621) (by decide +kernel) rfl
theorem wd_466 : Cond.selects RX0 yX0_goRound yX0_goRound ∈ pmBig := pm_big (i := 622) (by decide +kernel) rfl
theorem wd_467 : Cond.fieldLink RX6 55 "HillSeer" "search" "LHillSeer$OrderSearch;" ∈ pmBig := pm_big (i := 267) (by decide +kernel) rfl
theorem wd_468 : Cond.methodLink RX6 225 yX3_goThrough ∈ pmBig := pm_big (i := 628) (by decide +kernel) rfl
theorem wd_469 : Cond.instanceMethod yX3_goThrough ∈ pmBig := pm_big (i := 629) (by decide +kernel) rfl
theorem wd_470 : Cond.selects RX3 yX3_goThrough yX3_goThrough ∈ pmBig := pm_big (i := 630) (by decide +kernel) rfl
theorem wd_471 : Cond.fieldLinkNest RX6 229 "HillSeer$OrderSearch" "mostPath" "[I" "HillSeer" ∈ pmNest := pm_nst (i := 207) (by decide +kernel) rfl
theorem wd_472 : Cond.methodLink RX6 232 yX5_takeAnew ∈ pmBig := pm_big (i := 648) (by decide +kernel) rfl
theorem wd_473 : Cond.instanceMethod yX5_takeAnew ∈ pmBig := pm_big (i := 649) (by decide +kernel) rfl
theorem wd_474 : Cond.selects RX5 yX5_takeAnew yX5_takeAnew ∈ pmBig := pm_big (i := 650) (by decide +kernel) rfl
theorem wd_475 : Cond.fieldLinkNest RX6 236 "HillSeer$OrderSearch" "most" "I" "HillSeer" ∈ pmNest := pm_nst (i := 214) (by decide +kernel) rfl
theorem wd_476 : Cond.fieldLinkNest RX6 239 "HillSeer$OrderSearch" "leastPath" "[I" "HillSeer" ∈ pmNest := pm_nst (i := 209) (by decide +kernel) rfl
theorem wd_477 : Cond.fieldLinkNest RX6 242 "HillSeer$OrderSearch" "least" "I" "HillSeer" ∈ pmNest := pm_nst (i := 216) (by decide +kernel) rfl
theorem wd_478 : Cond.fieldLinkNest RX6 245 "HillSeer$OrderSearch" "found" "I" "HillSeer" ∈ pmNest := pm_nst (i := 218) (by decide +kernel) rfl
theorem wd_479 : Cond.fieldLinkNest RX6 248 "HillSeer$OrderSearch" "common" "I" "HillSeer" ∈ pmNest := pm_nst (i := 220) (by decide +kernel) rfl
theorem wd_480 : Cond.methodLink RX6 251 yX6_tellParts ∈ pmBig := pm_big (i := 661) (by decide +kernel) rfl
theorem wd_481 : Cond.instanceMethod yX6_tellParts ∈ pmBig := pm_big (i := 663) (by decide +kernel) rfl
theorem wd_482 : Cond.selects RX6 yX6_tellParts yX6_tellParts ∈ pmBig := pm_big (i := 16) (by decide +kernel) rfl
theorem wd_483 : Cond.methodLink RX6 255 yX6_ridesFault ∈ pmBig := pm_big (i := 672) (by decide +kernel) rfl
theorem wd_484 : Cond.instanceMethod yX6_ridesFault ∈ pmBig := pm_big (i := 674) (by decide +kernel) rfl
theorem wd_485 : Cond.selects RX6 yX6_ridesFault yX6_ridesFault ∈ pmBig := pm_big (i := 17) (by decide +kernel) rfl
theorem wd_486 : Cond.methodLink RX6 258 yX0_sayFrom ∈ pmBig := pm_big (i := 676) (by decide +kernel) rfl
theorem wd_487 : Cond.fieldLinkNest RX6 261 "HillSeer$Camp" "gold" "I" "HillSeer" ∈ pmNest := pm_nst (i := 170) (by decide +kernel) rfl
theorem wd_488 : Cond.fieldLinkNest RX6 264 "HillSeer$Camp" "cursed" "I" "HillSeer" ∈ pmNest := pm_nst (i := 176) (by decide +kernel) rfl
theorem wd_489 : Cond.methodLink RX6 267 yX0_isBlessedByAll ∈ pmBig := pm_big (i := 681) (by decide +kernel) rfl
theorem wd_490 : Cond.instanceMethod yX0_isBlessedByAll ∈ pmBig := pm_big (i := 682) (by decide +kernel) rfl
theorem wd_491 : Cond.selects RX0 yX0_isBlessedByAll yX0_isBlessedByAll ∈ pmBig := pm_big (i := 683) (by decide +kernel) rfl
theorem wd_492 : Cond.methodLink RX6 270 yX6_firstChangeOf ∈ pmBig := pm_big (i := 685) (by decide +kernel) rfl
theorem wd_493 : Cond.static yX6_firstChangeOf ∈ pmBig := pm_big (i := 686) (by decide +kernel) rfl
theorem wd_494 : Cond.methodLink RX6 274 yX6_isFee ∈ pmBig := pm_big (i := 693) (by decide +kernel) rfl
theorem wd_495 : Cond.static yX6_isFee ∈ pmBig := pm_big (i := 694) (by decide +kernel) rfl
theorem wd_496 : Cond.methodLink RX6 277 yX6_bestHill ∈ pmBig := pm_big (i := 696) (by decide +kernel) rfl
theorem wd_497 : Cond.instanceMethod yX6_bestHill ∈ pmBig := pm_big (i := 698) (by decide +kernel) rfl
theorem wd_498 : Cond.selects RX6 yX6_bestHill yX6_bestHill ∈ pmBig := pm_big (i := 18) (by decide +kernel) rfl
theorem wd_499 : Cond.methodLink RX6 281 yX6_feeOf ∈ pmBig := pm_big (i := 700) (by decide +kernel) rfl
theorem wd_500 : Cond.methodLink RX6 285 yX6_notesFault ∈ pmBig := pm_big (i := 705) (by decide +kernel) rfl
theorem wd_501 : Cond.static yX6_notesFault ∈ pmBig := pm_big (i := 706) (by decide +kernel) rfl
theorem wd_502 : Cond.methodLink RX6 288 yX6_fits ∈ pmBig := pm_big (i := 708) (by decide +kernel) rfl
theorem wd_503 : Cond.static yX6_fits ∈ pmBig := pm_big (i := 709) (by decide +kernel) rfl
theorem wd_504 : Cond.methodLink RX6 292 yX6_leastByPeople ∈ pmBig := pm_big (i := 725) (by decide +kernel) rfl
theorem wd_505 : Cond.instanceMethod yX6_leastByPeople ∈ pmBig := pm_big (i := 727) (by decide +kernel) rfl
theorem wd_506 : Cond.selects RX6 yX6_leastByPeople yX6_leastByPeople ∈ pmBig := pm_big (i := 19) (by decide +kernel) rfl
theorem wd_507 : Cond.methodLink RX6 295 yX6_isChance ∈ pmBig := pm_big (i := 739) (by decide +kernel) rfl
theorem wd_508 : Cond.static yX6_isChance ∈ pmBig := pm_big (i := 740) (by decide +kernel) rfl
theorem wd_509 : Cond.methodLink RX6 298 yX6_curseChance ∈ pmBig := pm_big (i := 742) (by decide +kernel) rfl
theorem wd_510 : Cond.static yX6_curseChance ∈ pmBig := pm_big (i := 743) (by decide +kernel) rfl
theorem wd_511 : Cond.constantLong RX6 301 (12) ∈ pmBig := pm_big (i := 745) (by decide +kernel) rfl
theorem wd_512 : Cond.fieldLinkNest RX6 303 "HillSeer$Camp" "blessed" "I" "HillSeer" ∈ pmNest := pm_nst (i := 173) (by decide +kernel) rfl
theorem wd_513 : Cond.constant RX6 306 (2147483647) ∈ pmBig := pm_big (i := 754) (by decide +kernel) rfl
theorem wd_514 : Cond.constantLong RX6 307 (48271) ∈ pmBig := pm_big (i := 755) (by decide +kernel) rfl
theorem wd_515 : Cond.constantLong RX6 309 (2147483647) ∈ pmBig := pm_big (i := 756) (by decide +kernel) rfl
theorem wd_516 : Cond.methodLink RX6 311 yX6_deedByLot ∈ pmBig := pm_big (i := 757) (by decide +kernel) rfl
theorem wd_517 : Cond.instanceMethod yX6_deedByLot ∈ pmBig := pm_big (i := 759) (by decide +kernel) rfl
theorem wd_518 : Cond.selects RX6 yX6_deedByLot yX6_deedByLot ∈ pmBig := pm_big (i := 21) (by decide +kernel) rfl
theorem wd_519 : Cond.fieldLink RX6 70 "HillSeer" "toldUpper" "J" ∈ pmBig := pm_big (i := 271) (by decide +kernel) rfl
theorem wd_520 : Cond.fieldLink RX6 74 "HillSeer" "toldLower" "J" ∈ pmBig := pm_big (i := 272) (by decide +kernel) rfl
theorem wd_521 : Cond.methodLink RX6 314 yX2_howManyOf ∈ pmBig := pm_big (i := 777) (by decide +kernel) rfl
theorem wd_522 : Cond.instanceMethod yX2_howManyOf ∈ pmBig := pm_big (i := 778) (by decide +kernel) rfl
theorem wd_523 : Cond.selects RX2 yX2_howManyOf yX2_howManyOf ∈ pmBig := pm_big (i := 779) (by decide +kernel) rfl
theorem wd_524 : Cond.methodLink RX6 317 yX6_howManyThere ∈ pmBig := pm_big (i := 782) (by decide +kernel) rfl
theorem wd_525 : Cond.static yX6_howManyThere ∈ pmBig := pm_big (i := 783) (by decide +kernel) rfl
theorem wd_526 : Cond.methodLink RX6 321 yX6_howManyKept ∈ pmBig := pm_big (i := 785) (by decide +kernel) rfl
theorem wd_527 : Cond.instanceMethod yX6_howManyKept ∈ pmBig := pm_big (i := 787) (by decide +kernel) rfl
theorem wd_528 : Cond.selects RX6 yX6_howManyKept yX6_howManyKept ∈ pmBig := pm_big (i := 22) (by decide +kernel) rfl
theorem wd_529 : Cond.fieldLink RX6 63 "HillSeer" "latestFinding" "I" ∈ pmBig := pm_big (i := 269) (by decide +kernel) rfl
theorem wd_530 : Cond.fieldLink RX6 59 "HillSeer" "findingCounts" "[I" ∈ pmBig := pm_big (i := 268) (by decide +kernel) rfl
theorem wd_531 : Cond.constantLong RX6 324 (17) ∈ pmBig := pm_big (i := 801) (by decide +kernel) rfl
theorem wd_532 : Cond.constantLong RX6 326 (31) ∈ pmBig := pm_big (i := 802) (by decide +kernel) rfl
theorem wd_533 : Cond.methodLink RX6 328 yX6_count ∈ pmBig := pm_big (i := 803) (by decide +kernel) rfl
theorem wd_534 : Cond.instanceMethod yX6_count ∈ pmBig := pm_big (i := 774) (by decide +kernel) rfl
theorem wd_535 : Cond.selects RX6 yX6_count yX6_count ∈ pmBig := pm_big (i := 775) (by decide +kernel) rfl
theorem wd_536 : Cond.methodLink RX6 331 yX6_mixSheets ∈ pmBig := pm_big (i := 804) (by decide +kernel) rfl
theorem wd_537 : Cond.static yX6_mixSheets ∈ pmBig := pm_big (i := 805) (by decide +kernel) rfl
theorem wd_538 : Cond.methodLink RX6 335 yX6_commonDivisor ∈ pmBig := pm_big (i := 665) (by decide +kernel) rfl
theorem wd_539 : Cond.static yX6_commonDivisor ∈ pmBig := pm_big (i := 666) (by decide +kernel) rfl
theorem wd_540 : Cond.methodLink RX6 339 yX5_has ∈ pmBig := pm_big (i := 334) (by decide +kernel) rfl
theorem wd_541 : Cond.methodLink RX6 342 yX1_sumAs ∈ pmBig := pm_big (i := 711) (by decide +kernel) rfl
theorem wd_542 : Cond.methodLink RX6 345 yX6_wordOf ∈ pmBig := pm_big (i := 712) (by decide +kernel) rfl
theorem wd_543 : Cond.fieldLinkNest RX6 348 "HillSeer$Hill" "first" "I" "HillSeer" ∈ pmNest := pm_nst (i := 130) (by decide +kernel) rfl
theorem wd_544 : Cond.fieldLinkNest RX6 351 "HillSeer$Hill" "broad" "I" "HillSeer" ∈ pmNest := pm_nst (i := 133) (by decide +kernel) rfl
theorem wd_545 : Cond.methodLink RX6 354 yX0_sumFrom ∈ pmBig := pm_big (i := 474) (by decide +kernel) rfl
theorem wd_546 : Cond.instanceMethod yX0_sumFrom ∈ pmBig := pm_big (i := 475) (by decide +kernel) rfl
theorem wd_547 : Cond.selects RX0 yX0_sumFrom yX0_sumFrom ∈ pmBig := pm_big (i := 476) (by decide +kernel) rfl
theorem wd_548 : Cond.methodLink RX6 357 yX0_swap ∈ pmBig := pm_big (i := 688) (by decide +kernel) rfl
theorem wd_549 : Cond.methodLink RX6 360 yX6_mostByKing ∈ pmBig := pm_big (i := 729) (by decide +kernel) rfl
theorem wd_550 : Cond.instanceMethod yX6_mostByKing ∈ pmBig := pm_big (i := 731) (by decide +kernel) rfl
theorem wd_551 : Cond.selects RX6 yX6_mostByKing yX6_mostByKing ∈ pmBig := pm_big (i := 20) (by decide +kernel) rfl
theorem wd_552 : Cond.methodLink RX6 363 Lib.Math.min.name ∈ pmBig := pm_big (i := 734) (by decide +kernel) rfl
theorem wd_553 : Cond.methodLink RX6 368 Lib.Math.max.name ∈ pmBig := pm_big (i := 733) (by decide +kernel) rfl
theorem wd_554 : Cond.fieldLink RX7 77 "HillSeerModel" "latest" "I" ∈ pmBig := pm_big (i := 835) (by decide +kernel) rfl
theorem wd_555 : Cond.fieldLink RX7 55 "HillSeerModel" "found" "[I" ∈ pmBig := pm_big (i := 836) (by decide +kernel) rfl
theorem wd_556 : Cond.constantLong RX7 81 (5) ∈ pmBig := pm_big (i := 917) (by decide +kernel) rfl
theorem wd_557 : Cond.methodLink RX7 83 yX7_in ∈ pmBig := pm_big (i := 918) (by decide +kernel) rfl
theorem wd_558 : Cond.static yX7_in ∈ pmBig := pm_big (i := 919) (by decide +kernel) rfl
theorem wd_559 : Cond.constantLong RX7 87 (3) ∈ pmBig := pm_big (i := 956) (by decide +kernel) rfl
theorem wd_560 : Cond.fieldLink RX7 89 "HillSeerModel" "hills" "I" ∈ pmBig := pm_big (i := 817) (by decide +kernel) rfl
theorem wd_561 : Cond.methodLink RX7 92 yX7_isRow ∈ pmBig := pm_big (i := 914) (by decide +kernel) rfl
theorem wd_562 : Cond.static yX7_isRow ∈ pmBig := pm_big (i := 915) (by decide +kernel) rfl
theorem wd_563 : Cond.methodLink RX7 96 yX7_find ∈ pmBig := pm_big (i := 921) (by decide +kernel) rfl
theorem wd_564 : Cond.instanceMethod yX7_find ∈ pmBig := pm_big (i := 923) (by decide +kernel) rfl
theorem wd_565 : Cond.selects RX7 yX7_find yX7_find ∈ pmBig := pm_big (i := 23) (by decide +kernel) rfl
theorem wd_566 : Cond.fieldLink RX7 13 "HillSeerModel" "rowSize" "[I" ∈ pmBig := pm_big (i := 814) (by decide +kernel) rfl
theorem wd_567 : Cond.fieldLink RX7 7 "HillSeerModel" "rows" "[I" ∈ pmBig := pm_big (i := 813) (by decide +kernel) rfl
theorem wd_568 : Cond.methodLink RX7 100 yX7_wrongAt ∈ pmBig := pm_big (i := 929) (by decide +kernel) rfl
theorem wd_569 : Cond.instanceMethod yX7_wrongAt ∈ pmBig := pm_big (i := 931) (by decide +kernel) rfl
theorem wd_570 : Cond.selects RX7 yX7_wrongAt yX7_wrongAt ∈ pmBig := pm_big (i := 24) (by decide +kernel) rfl
theorem wd_571 : Cond.fieldLink RX7 104 "HillSeerModel" "asked" "I" ∈ pmBig := pm_big (i := 832) (by decide +kernel) rfl
theorem wd_572 : Cond.methodLink RX7 107 yX7_isText ∈ pmBig := pm_big (i := 953) (by decide +kernel) rfl
theorem wd_573 : Cond.static yX7_isText ∈ pmBig := pm_big (i := 954) (by decide +kernel) rfl
theorem wd_574 : Cond.fieldLink RX7 19 "HillSeerModel" "textSize" "[I" ∈ pmBig := pm_big (i := 816) (by decide +kernel) rfl
theorem wd_575 : Cond.fieldLink RX7 16 "HillSeerModel" "texts" "[I" ∈ pmBig := pm_big (i := 815) (by decide +kernel) rfl
theorem wd_576 : Cond.fieldLink RX7 110 "HillSeerModel" "source" "I" ∈ pmBig := pm_big (i := 837) (by decide +kernel) rfl
theorem wd_577 : Cond.fieldLink RX7 113 "HillSeerModel" "spot" "I" ∈ pmBig := pm_big (i := 838) (by decide +kernel) rfl
theorem wd_578 : Cond.methodLink RX7 116 yX7_byteAt ∈ pmBig := pm_big (i := 973) (by decide +kernel) rfl
theorem wd_579 : Cond.instanceMethod yX7_byteAt ∈ pmBig := pm_big (i := 975) (by decide +kernel) rfl
theorem wd_580 : Cond.selects RX7 yX7_byteAt yX7_byteAt ∈ pmBig := pm_big (i := 27) (by decide +kernel) rfl
theorem wd_581 : Cond.methodLink RX7 119 yX7_kindBy ∈ pmBig := pm_big (i := 989) (by decide +kernel) rfl
theorem wd_582 : Cond.static yX7_kindBy ∈ pmBig := pm_big (i := 990) (by decide +kernel) rfl
theorem wd_583 : Cond.fieldLink RX7 122 "HillSeerModel" "readHills" "I" ∈ pmBig := pm_big (i := 839) (by decide +kernel) rfl
theorem wd_584 : Cond.methodLink RX7 125 yX7_figure ∈ pmBig := pm_big (i := 981) (by decide +kernel) rfl
theorem wd_585 : Cond.instanceMethod yX7_figure ∈ pmBig := pm_big (i := 983) (by decide +kernel) rfl
theorem wd_586 : Cond.selects RX7 yX7_figure yX7_figure ∈ pmBig := pm_big (i := 29) (by decide +kernel) rfl
theorem wd_587 : Cond.fieldLink RX7 58 "HillSeerModel" "readOf" "[I" ∈ pmBig := pm_big (i := 840) (by decide +kernel) rfl
theorem wd_588 : Cond.fieldLink RX7 61 "HillSeerModel" "readGiven" "[I" ∈ pmBig := pm_big (i := 841) (by decide +kernel) rfl
theorem wd_589 : Cond.methodLink RX7 128 yX7_blanks ∈ pmBig := pm_big (i := 969) (by decide +kernel) rfl
theorem wd_590 : Cond.instanceMethod yX7_blanks ∈ pmBig := pm_big (i := 971) (by decide +kernel) rfl
theorem wd_591 : Cond.selects RX7 yX7_blanks yX7_blanks ∈ pmBig := pm_big (i := 26) (by decide +kernel) rfl
theorem wd_592 : Cond.methodLink RX7 131 yX7_tentsItem ∈ pmBig := pm_big (i := 977) (by decide +kernel) rfl
theorem wd_593 : Cond.instanceMethod yX7_tentsItem ∈ pmBig := pm_big (i := 979) (by decide +kernel) rfl
theorem wd_594 : Cond.selects RX7 yX7_tentsItem yX7_tentsItem ∈ pmBig := pm_big (i := 28) (by decide +kernel) rfl
theorem wd_595 : Cond.methodLink RX7 135 yX7_hillItem ∈ pmBig := pm_big (i := 985) (by decide +kernel) rfl
theorem wd_596 : Cond.instanceMethod yX7_hillItem ∈ pmBig := pm_big (i := 987) (by decide +kernel) rfl
theorem wd_597 : Cond.selects RX7 yX7_hillItem yX7_hillItem ∈ pmBig := pm_big (i := 30) (by decide +kernel) rfl
theorem wd_598 : Cond.methodLink RX7 138 yX7_readAll ∈ pmBig := pm_big (i := 965) (by decide +kernel) rfl
theorem wd_599 : Cond.instanceMethod yX7_readAll ∈ pmBig := pm_big (i := 967) (by decide +kernel) rfl
theorem wd_600 : Cond.selects RX7 yX7_readAll yX7_readAll ∈ pmBig := pm_big (i := 25) (by decide +kernel) rfl
theorem wd_601 : Cond.fieldLink RX7 22 "HillSeerModel" "kinds" "[I" ∈ pmBig := pm_big (i := 818) (by decide +kernel) rfl
theorem wd_602 : Cond.fieldLink RX7 25 "HillSeerModel" "firsts" "[I" ∈ pmBig := pm_big (i := 819) (by decide +kernel) rfl
theorem wd_603 : Cond.fieldLink RX7 28 "HillSeerModel" "broads" "[I" ∈ pmBig := pm_big (i := 820) (by decide +kernel) rfl
theorem wd_604 : Cond.fieldLink RX7 31 "HillSeerModel" "camped" "[I" ∈ pmBig := pm_big (i := 821) (by decide +kernel) rfl
theorem wd_605 : Cond.fieldLink RX7 40 "HillSeerModel" "keptMany" "[I" ∈ pmBig := pm_big (i := 825) (by decide +kernel) rfl
theorem wd_606 : Cond.fieldLink RX7 141 "HillSeerModel" "many" "I" ∈ pmBig := pm_big (i := 823) (by decide +kernel) rfl
theorem wd_607 : Cond.methodLink RX7 144 yX7_goThrough ∈ pmBig := pm_big (i := 996) (by decide +kernel) rfl
theorem wd_608 : Cond.instanceMethod yX7_goThrough ∈ pmBig := pm_big (i := 998) (by decide +kernel) rfl
theorem wd_609 : Cond.selects RX7 yX7_goThrough yX7_goThrough ∈ pmBig := pm_big (i := 31) (by decide +kernel) rfl
theorem wd_610 : Cond.methodLink RX7 147 yX7_view ∈ pmBig := pm_big (i := 1020) (by decide +kernel) rfl
theorem wd_611 : Cond.static yX7_view ∈ pmBig := pm_big (i := 1021) (by decide +kernel) rfl
theorem wd_612 : Cond.methodLink RX7 151 yX7_isBare ∈ pmBig := pm_big (i := 1023) (by decide +kernel) rfl
theorem wd_613 : Cond.static yX7_isBare ∈ pmBig := pm_big (i := 1024) (by decide +kernel) rfl
theorem wd_614 : Cond.methodLink RX7 154 yX7_isWooded ∈ pmBig := pm_big (i := 1026) (by decide +kernel) rfl
theorem wd_615 : Cond.static yX7_isWooded ∈ pmBig := pm_big (i := 1027) (by decide +kernel) rfl
theorem wd_616 : Cond.fieldLink RX7 49 "HillSeerModel" "given" "[I" ∈ pmBig := pm_big (i := 830) (by decide +kernel) rfl
theorem wd_617 : Cond.methodLink RX7 157 yX7_seenBy ∈ pmBig := pm_big (i := 1016) (by decide +kernel) rfl
theorem wd_618 : Cond.instanceMethod yX7_seenBy ∈ pmBig := pm_big (i := 1018) (by decide +kernel) rfl
theorem wd_619 : Cond.selects RX7 yX7_seenBy yX7_seenBy ∈ pmBig := pm_big (i := 36) (by decide +kernel) rfl
theorem wd_620 : Cond.methodLink RX7 161 yX7_has ∈ pmBig := pm_big (i := 1029) (by decide +kernel) rfl
theorem wd_621 : Cond.static yX7_has ∈ pmBig := pm_big (i := 1030) (by decide +kernel) rfl
theorem wd_622 : Cond.methodLink RX7 165 yX7_sumBy ∈ pmBig := pm_big (i := 1012) (by decide +kernel) rfl
theorem wd_623 : Cond.instanceMethod yX7_sumBy ∈ pmBig := pm_big (i := 1014) (by decide +kernel) rfl
theorem wd_624 : Cond.selects RX7 yX7_sumBy yX7_sumBy ∈ pmBig := pm_big (i := 35) (by decide +kernel) rfl
theorem wd_625 : Cond.methodLink RX7 168 yX7_sumFrom ∈ pmBig := pm_big (i := 1008) (by decide +kernel) rfl
theorem wd_626 : Cond.instanceMethod yX7_sumFrom ∈ pmBig := pm_big (i := 1010) (by decide +kernel) rfl
theorem wd_627 : Cond.selects RX7 yX7_sumFrom yX7_sumFrom ∈ pmBig := pm_big (i := 34) (by decide +kernel) rfl
theorem wd_628 : Cond.methodLink RX7 171 yX7_wordOf ∈ pmBig := pm_big (i := 1032) (by decide +kernel) rfl
theorem wd_629 : Cond.static yX7_wordOf ∈ pmBig := pm_big (i := 1033) (by decide +kernel) rfl
theorem wd_630 : Cond.fieldLink RX7 43 "HillSeerModel" "now" "[I" ∈ pmBig := pm_big (i := 826) (by decide +kernel) rfl
theorem wd_631 : Cond.fieldLink RX7 52 "HillSeerModel" "marks" "[I" ∈ pmBig := pm_big (i := 831) (by decide +kernel) rfl
theorem wd_632 : Cond.fieldLink RX7 46 "HillSeerModel" "state" "[I" ∈ pmBig := pm_big (i := 827) (by decide +kernel) rfl
theorem wd_633 : Cond.methodLink RX7 174 yX7_seenFrom ∈ pmBig := pm_big (i := 1042) (by decide +kernel) rfl
theorem wd_634 : Cond.instanceMethod yX7_seenFrom ∈ pmBig := pm_big (i := 1044) (by decide +kernel) rfl
theorem wd_635 : Cond.selects RX7 yX7_seenFrom yX7_seenFrom ∈ pmBig := pm_big (i := 38) (by decide +kernel) rfl
theorem wd_636 : Cond.fieldLink RX7 177 "HillSeerModel" "day" "I" ∈ pmBig := pm_big (i := 828) (by decide +kernel) rfl
theorem wd_637 : Cond.fieldLink RX7 180 "HillSeerModel" "gold" "I" ∈ pmBig := pm_big (i := 829) (by decide +kernel) rfl
theorem wd_638 : Cond.fieldLink RX7 34 "HillSeerModel" "deeds" "[I" ∈ pmBig := pm_big (i := 822) (by decide +kernel) rfl
theorem wd_639 : Cond.methodLink RX7 183 yX7_exchange ∈ pmBig := pm_big (i := 1000) (by decide +kernel) rfl
theorem wd_640 : Cond.instanceMethod yX7_exchange ∈ pmBig := pm_big (i := 1002) (by decide +kernel) rfl
theorem wd_641 : Cond.selects RX7 yX7_exchange yX7_exchange ∈ pmBig := pm_big (i := 32) (by decide +kernel) rfl
theorem wd_642 : Cond.methodLink RX7 187 yX7_wordFrom ∈ pmBig := pm_big (i := 1004) (by decide +kernel) rfl
theorem wd_643 : Cond.instanceMethod yX7_wordFrom ∈ pmBig := pm_big (i := 1006) (by decide +kernel) rfl
theorem wd_644 : Cond.selects RX7 yX7_wordFrom yX7_wordFrom ∈ pmBig := pm_big (i := 33) (by decide +kernel) rfl
theorem wd_645 : Cond.methodLink RX7 190 yX7_feeOf ∈ pmBig := pm_big (i := 1035) (by decide +kernel) rfl
theorem wd_646 : Cond.static yX7_feeOf ∈ pmBig := pm_big (i := 1036) (by decide +kernel) rfl
theorem wd_647 : Cond.methodLink RX7 193 yX7_say ∈ pmBig := pm_big (i := 1038) (by decide +kernel) rfl
theorem wd_648 : Cond.instanceMethod yX7_say ∈ pmBig := pm_big (i := 1040) (by decide +kernel) rfl
theorem wd_649 : Cond.selects RX7 yX7_say yX7_say ∈ pmBig := pm_big (i := 37) (by decide +kernel) rfl
theorem wd_650 : Cond.methodLink RX7 197 yX7_isHill ∈ pmBig := pm_big (i := 1050) (by decide +kernel) rfl
theorem wd_651 : Cond.instanceMethod yX7_isHill ∈ pmBig := pm_big (i := 1052) (by decide +kernel) rfl
theorem wd_652 : Cond.selects RX7 yX7_isHill yX7_isHill ∈ pmBig := pm_big (i := 39) (by decide +kernel) rfl
theorem wd_653 : Cond.methodLink RX7 200 yX7_aside ∈ pmBig := pm_big (i := 1054) (by decide +kernel) rfl
theorem wd_654 : Cond.instanceMethod yX7_aside ∈ pmBig := pm_big (i := 1056) (by decide +kernel) rfl
theorem wd_655 : Cond.selects RX7 yX7_aside yX7_aside ∈ pmBig := pm_big (i := 40) (by decide +kernel) rfl
theorem wd_656 : Cond.constantLong RX7 203 (11) ∈ pmBig := pm_big (i := 1062) (by decide +kernel) rfl
theorem wd_657 : Cond.constantLong RX7 205 (2) ∈ pmBig := pm_big (i := 1063) (by decide +kernel) rfl
theorem wd_658 : Cond.methodLink RX7 207 yX7_ones ∈ pmBig := pm_big (i := 1068) (by decide +kernel) rfl
theorem wd_659 : Cond.static yX7_ones ∈ pmBig := pm_big (i := 1069) (by decide +kernel) rfl
theorem wd_660 : Cond.methodLink RX7 210 yX7_doIt ∈ pmBig := pm_big (i := 1075) (by decide +kernel) rfl
theorem wd_661 : Cond.instanceMethod yX7_doIt ∈ pmBig := pm_big (i := 1077) (by decide +kernel) rfl
theorem wd_662 : Cond.selects RX7 yX7_doIt yX7_doIt ∈ pmBig := pm_big (i := 41) (by decide +kernel) rfl
theorem wd_663 : Cond.methodLink RX7 214 yX7_blessing ∈ pmBig := pm_big (i := 1087) (by decide +kernel) rfl
theorem wd_664 : Cond.instanceMethod yX7_blessing ∈ pmBig := pm_big (i := 1089) (by decide +kernel) rfl
theorem wd_665 : Cond.selects RX7 yX7_blessing yX7_blessing ∈ pmBig := pm_big (i := 42) (by decide +kernel) rfl
theorem wd_666 : Cond.fieldLink RX7 37 "HillSeerModel" "keptDeeds" "[I" ∈ pmBig := pm_big (i := 824) (by decide +kernel) rfl
theorem wd_667 : Cond.methodLink RX7 218 yX7_seenFromAny ∈ pmBig := pm_big (i := 1111) (by decide +kernel) rfl
theorem wd_668 : Cond.instanceMethod yX7_seenFromAny ∈ pmBig := pm_big (i := 1113) (by decide +kernel) rfl
theorem wd_669 : Cond.selects RX7 yX7_seenFromAny yX7_seenFromAny ∈ pmBig := pm_big (i := 43) (by decide +kernel) rfl
theorem wd_670 : Cond.fieldLink RX7 64 "HillSeerModel" "order" "[I" ∈ pmBig := pm_big (i := 842) (by decide +kernel) rfl
theorem wd_671 : Cond.methodLink RX7 221 yX7_cursedAside ∈ pmBig := pm_big (i := 1139) (by decide +kernel) rfl
theorem wd_672 : Cond.instanceMethod yX7_cursedAside ∈ pmBig := pm_big (i := 1141) (by decide +kernel) rfl
theorem wd_673 : Cond.selects RX7 yX7_cursedAside yX7_cursedAside ∈ pmBig := pm_big (i := 47) (by decide +kernel) rfl
theorem wd_674 : Cond.methodLink RX7 224 yX7_firstOrder ∈ pmBig := pm_big (i := 1131) (by decide +kernel) rfl
theorem wd_675 : Cond.instanceMethod yX7_firstOrder ∈ pmBig := pm_big (i := 1133) (by decide +kernel) rfl
theorem wd_676 : Cond.selects RX7 yX7_firstOrder yX7_firstOrder ∈ pmBig := pm_big (i := 45) (by decide +kernel) rfl
theorem wd_677 : Cond.methodLink RX7 227 yX7_cursedBy ∈ pmBig := pm_big (i := 1135) (by decide +kernel) rfl
theorem wd_678 : Cond.instanceMethod yX7_cursedBy ∈ pmBig := pm_big (i := 1137) (by decide +kernel) rfl
theorem wd_679 : Cond.selects RX7 yX7_cursedBy yX7_cursedBy ∈ pmBig := pm_big (i := 46) (by decide +kernel) rfl
theorem wd_680 : Cond.methodLink RX7 230 yX7_row ∈ pmBig := pm_big (i := 1143) (by decide +kernel) rfl
theorem wd_681 : Cond.instanceMethod yX7_row ∈ pmBig := pm_big (i := 911) (by decide +kernel) rfl
theorem wd_682 : Cond.selects RX7 yX7_row yX7_row ∈ pmBig := pm_big (i := 912) (by decide +kernel) rfl
theorem wd_683 : Cond.methodLink RX7 233 yX7_nextOrder ∈ pmBig := pm_big (i := 1144) (by decide +kernel) rfl
theorem wd_684 : Cond.instanceMethod yX7_nextOrder ∈ pmBig := pm_big (i := 1146) (by decide +kernel) rfl
theorem wd_685 : Cond.selects RX7 yX7_nextOrder yX7_nextOrder ∈ pmBig := pm_big (i := 48) (by decide +kernel) rfl
theorem wd_686 : Cond.methodLink RX7 236 yX7_bestOrder ∈ pmBig := pm_big (i := 1127) (by decide +kernel) rfl
theorem wd_687 : Cond.instanceMethod yX7_bestOrder ∈ pmBig := pm_big (i := 1129) (by decide +kernel) rfl
theorem wd_688 : Cond.selects RX7 yX7_bestOrder yX7_bestOrder ∈ pmBig := pm_big (i := 44) (by decide +kernel) rfl
theorem wd_689 : Cond.constantLong RX7 239 (12) ∈ pmBig := pm_big (i := 1156) (by decide +kernel) rfl
theorem wd_690 : Cond.fieldLink RX7 241 "HillSeerModel" "upper" "J" ∈ pmBig := pm_big (i := 833) (by decide +kernel) rfl
theorem wd_691 : Cond.fieldLink RX7 73 "HillSeerModel" "lower" "J" ∈ pmBig := pm_big (i := 834) (by decide +kernel) rfl
theorem wd_692 : Cond.methodLink RX7 244 yX7_areBlessed ∈ pmBig := pm_big (i := 1165) (by decide +kernel) rfl
theorem wd_693 : Cond.instanceMethod yX7_areBlessed ∈ pmBig := pm_big (i := 1167) (by decide +kernel) rfl
theorem wd_694 : Cond.selects RX7 yX7_areBlessed yX7_areBlessed ∈ pmBig := pm_big (i := 49) (by decide +kernel) rfl
theorem wd_695 : Cond.constantLong RX7 247 (9) ∈ pmBig := pm_big (i := 1173) (by decide +kernel) rfl
theorem wd_696 : Cond.constantLong RX7 249 (99) ∈ pmBig := pm_big (i := 1182) (by decide +kernel) rfl
theorem wd_697 : Cond.methodLink RX7 251 yX7_wrongNotes ∈ pmBig := pm_big (i := 1178) (by decide +kernel) rfl
theorem wd_698 : Cond.instanceMethod yX7_wrongNotes ∈ pmBig := pm_big (i := 1180) (by decide +kernel) rfl
theorem wd_699 : Cond.selects RX7 yX7_wrongNotes yX7_wrongNotes ∈ pmBig := pm_big (i := 50) (by decide +kernel) rfl
theorem wd_700 : Cond.methodLink RX7 254 yX7_areNotes ∈ pmBig := pm_big (i := 1183) (by decide +kernel) rfl
theorem wd_701 : Cond.instanceMethod yX7_areNotes ∈ pmBig := pm_big (i := 1185) (by decide +kernel) rfl
theorem wd_702 : Cond.selects RX7 yX7_areNotes yX7_areNotes ∈ pmBig := pm_big (i := 51) (by decide +kernel) rfl
theorem wd_703 : Cond.fieldLink RX7 67 "HillSeerModel" "heldGiven" "[I" ∈ pmBig := pm_big (i := 843) (by decide +kernel) rfl
theorem wd_704 : Cond.fieldLink RX7 70 "HillSeerModel" "heldMarks" "[I" ∈ pmBig := pm_big (i := 844) (by decide +kernel) rfl
theorem wd_705 : Cond.methodLink RX7 258 yX7_held ∈ pmBig := pm_big (i := 1207) (by decide +kernel) rfl
theorem wd_706 : Cond.instanceMethod yX7_held ∈ pmBig := pm_big (i := 1209) (by decide +kernel) rfl
theorem wd_707 : Cond.selects RX7 yX7_held yX7_held ∈ pmBig := pm_big (i := 54) (by decide +kernel) rfl
theorem wd_708 : Cond.methodLink RX7 261 yX7_hold ∈ pmBig := pm_big (i := 1199) (by decide +kernel) rfl
theorem wd_709 : Cond.instanceMethod yX7_hold ∈ pmBig := pm_big (i := 1201) (by decide +kernel) rfl
theorem wd_710 : Cond.selects RX7 yX7_hold yX7_hold ∈ pmBig := pm_big (i := 52) (by decide +kernel) rfl
theorem wd_711 : Cond.methodLink RX7 264 yX7_lastTurn ∈ pmBig := pm_big (i := 1203) (by decide +kernel) rfl
theorem wd_712 : Cond.instanceMethod yX7_lastTurn ∈ pmBig := pm_big (i := 1205) (by decide +kernel) rfl
theorem wd_713 : Cond.selects RX7 yX7_lastTurn yX7_lastTurn ∈ pmBig := pm_big (i := 53) (by decide +kernel) rfl
theorem wd_714 : Cond.methodLink RX7 267 yX7_tell ∈ pmBig := pm_big (i := 1215) (by decide +kernel) rfl
theorem wd_715 : Cond.instanceMethod yX7_tell ∈ pmBig := pm_big (i := 1217) (by decide +kernel) rfl
theorem wd_716 : Cond.selects RX7 yX7_tell yX7_tell ∈ pmBig := pm_big (i := 55) (by decide +kernel) rfl
theorem wd_717 : Cond.constantLong RX7 271 (20) ∈ pmBig := pm_big (i := 1227) (by decide +kernel) rfl
theorem wd_718 : Cond.constantLong RX7 273 (2147483646) ∈ pmBig := pm_big (i := 1228) (by decide +kernel) rfl
theorem wd_719 : Cond.constantLong RX7 275 (48271) ∈ pmBig := pm_big (i := 1229) (by decide +kernel) rfl
theorem wd_720 : Cond.constantLong RX7 277 (2147483647) ∈ pmBig := pm_big (i := 1230) (by decide +kernel) rfl
theorem wd_721 : Cond.constantLong RX7 279 (8) ∈ pmBig := pm_big (i := 1231) (by decide +kernel) rfl
theorem wd_722 : Cond.constantLong RX7 281 (4) ∈ pmBig := pm_big (i := 1232) (by decide +kernel) rfl
theorem wd_723 : Cond.methodLink RX7 283 yX7_tentsThat ∈ pmBig := pm_big (i := 1249) (by decide +kernel) rfl
theorem wd_724 : Cond.instanceMethod yX7_tentsThat ∈ pmBig := pm_big (i := 1251) (by decide +kernel) rfl
theorem wd_725 : Cond.selects RX7 yX7_tentsThat yX7_tentsThat ∈ pmBig := pm_big (i := 56) (by decide +kernel) rfl
theorem wd_726 : Cond.constantLong RX7 286 (6) ∈ pmBig := pm_big (i := 1253) (by decide +kernel) rfl
theorem wd_727 : Cond.constantLong RX7 288 (10) ∈ pmBig := pm_big (i := 1254) (by decide +kernel) rfl
theorem wd_728 : Cond.methodLink RX7 290 yX7_counted ∈ pmBig := pm_big (i := 1255) (by decide +kernel) rfl
theorem wd_729 : Cond.instanceMethod yX7_counted ∈ pmBig := pm_big (i := 1257) (by decide +kernel) rfl
theorem wd_730 : Cond.selects RX7 yX7_counted yX7_counted ∈ pmBig := pm_big (i := 57) (by decide +kernel) rfl
theorem wd_731 : Cond.constantLong RX7 293 (17) ∈ pmBig := pm_big (i := 1271) (by decide +kernel) rfl
theorem wd_732 : Cond.constantLong RX7 295 (31) ∈ pmBig := pm_big (i := 1272) (by decide +kernel) rfl
theorem wd_733 : Cond.methodLink RX7 297 yX7_count ∈ pmBig := pm_big (i := 1273) (by decide +kernel) rfl
theorem wd_734 : Cond.instanceMethod yX7_count ∈ pmBig := pm_big (i := 1246) (by decide +kernel) rfl
theorem wd_735 : Cond.selects RX7 yX7_count yX7_count ∈ pmBig := pm_big (i := 1247) (by decide +kernel) rfl
theorem wd_736 : Cond.constant RJ6 265 (1431655765) ∈ pmBig := pm_big (i := 525) (by decide +kernel) rfl
theorem wd_737 : Cond.constant RJ6 266 (858993459) ∈ pmBig := pm_big (i := 526) (by decide +kernel) rfl
theorem wd_738 : Cond.constant RJ6 267 (252645135) ∈ pmBig := pm_big (i := 527) (by decide +kernel) rfl
theorem wd_739 : Cond.methodLink RL 13 yX6_row ∈ pmBig := pm_big (i := 302) (by decide +kernel) rfl
theorem wd_740 : Cond.instanceMethod yX6_row ∈ pmBig := pm_big (i := 303) (by decide +kernel) rfl
theorem wd_741 : Cond.selects RX6 yX6_row yX6_row ∈ pmBig := pm_big (i := 304) (by decide +kernel) rfl
theorem wd_742 : Cond.methodLink RL 17 yX7_row ∈ pmBig := pm_big (i := 910) (by decide +kernel) rfl
theorem wd_743 : Cond.methodLink RL 18 yX6_lay ∈ pmBig := pm_big (i := 323) (by decide +kernel) rfl
theorem wd_744 : Cond.instanceMethod yX6_lay ∈ pmBig := pm_big (i := 324) (by decide +kernel) rfl
theorem wd_745 : Cond.selects RX6 yX6_lay yX6_lay ∈ pmBig := pm_big (i := 325) (by decide +kernel) rfl
theorem wd_746 : Cond.methodLink RL 22 yX7_lay ∈ pmBig := pm_big (i := 925) (by decide +kernel) rfl
theorem wd_747 : Cond.instanceMethod yX7_lay ∈ pmBig := pm_big (i := 926) (by decide +kernel) rfl
theorem wd_748 : Cond.selects RX7 yX7_lay yX7_lay ∈ pmBig := pm_big (i := 927) (by decide +kernel) rfl
theorem wd_749 : Cond.methodLink RL 23 yX6_at ∈ pmBig := pm_big (i := 347) (by decide +kernel) rfl
theorem wd_750 : Cond.instanceMethod yX6_at ∈ pmBig := pm_big (i := 348) (by decide +kernel) rfl
theorem wd_751 : Cond.selects RX6 yX6_at yX6_at ∈ pmBig := pm_big (i := 349) (by decide +kernel) rfl
theorem wd_752 : Cond.methodLink RL 26 yX7_at ∈ pmBig := pm_big (i := 933) (by decide +kernel) rfl
theorem wd_753 : Cond.instanceMethod yX7_at ∈ pmBig := pm_big (i := 934) (by decide +kernel) rfl
theorem wd_754 : Cond.selects RX7 yX7_at yX7_at ∈ pmBig := pm_big (i := 935) (by decide +kernel) rfl
theorem wd_755 : Cond.methodLink RL 27 yX6_tear ∈ pmBig := pm_big (i := 351) (by decide +kernel) rfl
theorem wd_756 : Cond.instanceMethod yX6_tear ∈ pmBig := pm_big (i := 352) (by decide +kernel) rfl
theorem wd_757 : Cond.selects RX6 yX6_tear yX6_tear ∈ pmBig := pm_big (i := 353) (by decide +kernel) rfl
theorem wd_758 : Cond.methodLink RL 31 yX7_tear ∈ pmBig := pm_big (i := 937) (by decide +kernel) rfl
theorem wd_759 : Cond.instanceMethod yX7_tear ∈ pmBig := pm_big (i := 938) (by decide +kernel) rfl
theorem wd_760 : Cond.selects RX7 yX7_tear yX7_tear ∈ pmBig := pm_big (i := 939) (by decide +kernel) rfl
theorem wd_761 : Cond.methodLink RL 32 yX6_copy ∈ pmBig := pm_big (i := 359) (by decide +kernel) rfl
theorem wd_762 : Cond.instanceMethod yX6_copy ∈ pmBig := pm_big (i := 360) (by decide +kernel) rfl
theorem wd_763 : Cond.selects RX6 yX6_copy yX6_copy ∈ pmBig := pm_big (i := 361) (by decide +kernel) rfl
theorem wd_764 : Cond.methodLink RL 36 yX7_copy ∈ pmBig := pm_big (i := 941) (by decide +kernel) rfl
theorem wd_765 : Cond.instanceMethod yX7_copy ∈ pmBig := pm_big (i := 942) (by decide +kernel) rfl
theorem wd_766 : Cond.selects RX7 yX7_copy yX7_copy ∈ pmBig := pm_big (i := 943) (by decide +kernel) rfl
theorem wd_767 : Cond.methodLink RL 37 yX6_mean ∈ pmBig := pm_big (i := 375) (by decide +kernel) rfl
theorem wd_768 : Cond.instanceMethod yX6_mean ∈ pmBig := pm_big (i := 376) (by decide +kernel) rfl
theorem wd_769 : Cond.selects RX6 yX6_mean yX6_mean ∈ pmBig := pm_big (i := 377) (by decide +kernel) rfl
theorem wd_770 : Cond.methodLink RL 40 yX7_mean ∈ pmBig := pm_big (i := 945) (by decide +kernel) rfl
theorem wd_771 : Cond.instanceMethod yX7_mean ∈ pmBig := pm_big (i := 946) (by decide +kernel) rfl
theorem wd_772 : Cond.selects RX7 yX7_mean yX7_mean ∈ pmBig := pm_big (i := 947) (by decide +kernel) rfl
theorem wd_773 : Cond.methodLink RL 41 yX6_text ∈ pmBig := pm_big (i := 387) (by decide +kernel) rfl
theorem wd_774 : Cond.instanceMethod yX6_text ∈ pmBig := pm_big (i := 388) (by decide +kernel) rfl
theorem wd_775 : Cond.selects RX6 yX6_text yX6_text ∈ pmBig := pm_big (i := 389) (by decide +kernel) rfl
theorem wd_776 : Cond.methodLink RL 44 yX7_text ∈ pmBig := pm_big (i := 949) (by decide +kernel) rfl
theorem wd_777 : Cond.instanceMethod yX7_text ∈ pmBig := pm_big (i := 950) (by decide +kernel) rfl
theorem wd_778 : Cond.selects RX7 yX7_text yX7_text ∈ pmBig := pm_big (i := 951) (by decide +kernel) rfl
theorem wd_779 : Cond.methodLink RL 45 yX6_put ∈ pmBig := pm_big (i := 394) (by decide +kernel) rfl
theorem wd_780 : Cond.instanceMethod yX6_put ∈ pmBig := pm_big (i := 395) (by decide +kernel) rfl
theorem wd_781 : Cond.selects RX6 yX6_put yX6_put ∈ pmBig := pm_big (i := 396) (by decide +kernel) rfl
theorem wd_782 : Cond.methodLink RL 48 yX7_put ∈ pmBig := pm_big (i := 957) (by decide +kernel) rfl
theorem wd_783 : Cond.instanceMethod yX7_put ∈ pmBig := pm_big (i := 958) (by decide +kernel) rfl
theorem wd_784 : Cond.selects RX7 yX7_put yX7_put ∈ pmBig := pm_big (i := 959) (by decide +kernel) rfl
theorem wd_785 : Cond.methodLink RL 49 yX6_fault ∈ pmBig := pm_big (i := 398) (by decide +kernel) rfl
theorem wd_786 : Cond.instanceMethod yX6_fault ∈ pmBig := pm_big (i := 399) (by decide +kernel) rfl
theorem wd_787 : Cond.selects RX6 yX6_fault yX6_fault ∈ pmBig := pm_big (i := 400) (by decide +kernel) rfl
theorem wd_788 : Cond.methodLink RL 52 yX7_fault ∈ pmBig := pm_big (i := 961) (by decide +kernel) rfl
theorem wd_789 : Cond.instanceMethod yX7_fault ∈ pmBig := pm_big (i := 962) (by decide +kernel) rfl
theorem wd_790 : Cond.selects RX7 yX7_fault yX7_fault ∈ pmBig := pm_big (i := 963) (by decide +kernel) rfl
theorem wd_791 : Cond.methodLink RL 53 yX6_camp ∈ pmBig := pm_big (i := 430) (by decide +kernel) rfl
theorem wd_792 : Cond.instanceMethod yX6_camp ∈ pmBig := pm_big (i := 431) (by decide +kernel) rfl
theorem wd_793 : Cond.selects RX6 yX6_camp yX6_camp ∈ pmBig := pm_big (i := 432) (by decide +kernel) rfl
theorem wd_794 : Cond.methodLink RL 56 yX7_camp ∈ pmBig := pm_big (i := 992) (by decide +kernel) rfl
theorem wd_795 : Cond.instanceMethod yX7_camp ∈ pmBig := pm_big (i := 993) (by decide +kernel) rfl
theorem wd_796 : Cond.selects RX7 yX7_camp yX7_camp ∈ pmBig := pm_big (i := 994) (by decide +kernel) rfl
theorem wd_797 : Cond.methodLink RL 57 yX6_hill ∈ pmBig := pm_big (i := 447) (by decide +kernel) rfl
theorem wd_798 : Cond.instanceMethod yX6_hill ∈ pmBig := pm_big (i := 448) (by decide +kernel) rfl
theorem wd_799 : Cond.selects RX6 yX6_hill yX6_hill ∈ pmBig := pm_big (i := 449) (by decide +kernel) rfl
theorem wd_800 : Cond.methodLink RL 60 yX7_hill ∈ pmBig := pm_big (i := 1046) (by decide +kernel) rfl
theorem wd_801 : Cond.instanceMethod yX7_hill ∈ pmBig := pm_big (i := 1047) (by decide +kernel) rfl
theorem wd_802 : Cond.selects RX7 yX7_hill yX7_hill ∈ pmBig := pm_big (i := 1048) (by decide +kernel) rfl
theorem wd_803 : Cond.methodLink RL 61 yX6_tent ∈ pmBig := pm_big (i := 493) (by decide +kernel) rfl
theorem wd_804 : Cond.instanceMethod yX6_tent ∈ pmBig := pm_big (i := 494) (by decide +kernel) rfl
theorem wd_805 : Cond.selects RX6 yX6_tent yX6_tent ∈ pmBig := pm_big (i := 495) (by decide +kernel) rfl
theorem wd_806 : Cond.methodLink RL 64 yX7_tent ∈ pmBig := pm_big (i := 1058) (by decide +kernel) rfl
theorem wd_807 : Cond.instanceMethod yX7_tent ∈ pmBig := pm_big (i := 1059) (by decide +kernel) rfl
theorem wd_808 : Cond.selects RX7 yX7_tent yX7_tent ∈ pmBig := pm_big (i := 1060) (by decide +kernel) rfl
theorem wd_809 : Cond.methodLink RL 65 yX6_mark ∈ pmBig := pm_big (i := 513) (by decide +kernel) rfl
theorem wd_810 : Cond.instanceMethod yX6_mark ∈ pmBig := pm_big (i := 514) (by decide +kernel) rfl
theorem wd_811 : Cond.selects RX6 yX6_mark yX6_mark ∈ pmBig := pm_big (i := 515) (by decide +kernel) rfl
theorem wd_812 : Cond.methodLink RL 68 yX7_mark ∈ pmBig := pm_big (i := 1064) (by decide +kernel) rfl
theorem wd_813 : Cond.instanceMethod yX7_mark ∈ pmBig := pm_big (i := 1065) (by decide +kernel) rfl
theorem wd_814 : Cond.selects RX7 yX7_mark yX7_mark ∈ pmBig := pm_big (i := 1066) (by decide +kernel) rfl
theorem wd_815 : Cond.methodLink RL 69 yX6_speak ∈ pmBig := pm_big (i := 529) (by decide +kernel) rfl
theorem wd_816 : Cond.instanceMethod yX6_speak ∈ pmBig := pm_big (i := 530) (by decide +kernel) rfl
theorem wd_817 : Cond.selects RX6 yX6_speak yX6_speak ∈ pmBig := pm_big (i := 531) (by decide +kernel) rfl
theorem wd_818 : Cond.methodLink RL 72 yX7_speak ∈ pmBig := pm_big (i := 1071) (by decide +kernel) rfl
theorem wd_819 : Cond.instanceMethod yX7_speak ∈ pmBig := pm_big (i := 1072) (by decide +kernel) rfl
theorem wd_820 : Cond.selects RX7 yX7_speak yX7_speak ∈ pmBig := pm_big (i := 1073) (by decide +kernel) rfl
theorem wd_821 : Cond.methodLink RL 73 yX6_day ∈ pmBig := pm_big (i := 556) (by decide +kernel) rfl
theorem wd_822 : Cond.instanceMethod yX6_day ∈ pmBig := pm_big (i := 557) (by decide +kernel) rfl
theorem wd_823 : Cond.selects RX6 yX6_day yX6_day ∈ pmBig := pm_big (i := 558) (by decide +kernel) rfl
theorem wd_824 : Cond.methodLink RL 77 yX7_day ∈ pmBig := pm_big (i := 1079) (by decide +kernel) rfl
theorem wd_825 : Cond.instanceMethod yX7_day ∈ pmBig := pm_big (i := 1080) (by decide +kernel) rfl
theorem wd_826 : Cond.selects RX7 yX7_day yX7_day ∈ pmBig := pm_big (i := 1081) (by decide +kernel) rfl
theorem wd_827 : Cond.methodLink RL 78 yX6_change ∈ pmBig := pm_big (i := 560) (by decide +kernel) rfl
theorem wd_828 : Cond.instanceMethod yX6_change ∈ pmBig := pm_big (i := 561) (by decide +kernel) rfl
theorem wd_829 : Cond.selects RX6 yX6_change yX6_change ∈ pmBig := pm_big (i := 562) (by decide +kernel) rfl
theorem wd_830 : Cond.methodLink RL 81 yX7_change ∈ pmBig := pm_big (i := 1083) (by decide +kernel) rfl
theorem wd_831 : Cond.instanceMethod yX7_change ∈ pmBig := pm_big (i := 1084) (by decide +kernel) rfl
theorem wd_832 : Cond.selects RX7 yX7_change yX7_change ∈ pmBig := pm_big (i := 1085) (by decide +kernel) rfl
theorem wd_833 : Cond.methodLink RL 82 yX6_undo ∈ pmBig := pm_big (i := 569) (by decide +kernel) rfl
theorem wd_834 : Cond.instanceMethod yX6_undo ∈ pmBig := pm_big (i := 570) (by decide +kernel) rfl
theorem wd_835 : Cond.selects RX6 yX6_undo yX6_undo ∈ pmBig := pm_big (i := 571) (by decide +kernel) rfl
theorem wd_836 : Cond.methodLink RL 85 yX7_undo ∈ pmBig := pm_big (i := 1091) (by decide +kernel) rfl
theorem wd_837 : Cond.instanceMethod yX7_undo ∈ pmBig := pm_big (i := 1092) (by decide +kernel) rfl
theorem wd_838 : Cond.selects RX7 yX7_undo yX7_undo ∈ pmBig := pm_big (i := 1093) (by decide +kernel) rfl
theorem wd_839 : Cond.methodLink RL 86 yX6_keep ∈ pmBig := pm_big (i := 577) (by decide +kernel) rfl
theorem wd_840 : Cond.instanceMethod yX6_keep ∈ pmBig := pm_big (i := 578) (by decide +kernel) rfl
theorem wd_841 : Cond.selects RX6 yX6_keep yX6_keep ∈ pmBig := pm_big (i := 579) (by decide +kernel) rfl
theorem wd_842 : Cond.methodLink RL 89 yX7_keep ∈ pmBig := pm_big (i := 1095) (by decide +kernel) rfl
theorem wd_843 : Cond.instanceMethod yX7_keep ∈ pmBig := pm_big (i := 1096) (by decide +kernel) rfl
theorem wd_844 : Cond.selects RX7 yX7_keep yX7_keep ∈ pmBig := pm_big (i := 1097) (by decide +kernel) rfl
theorem wd_845 : Cond.methodLink RL 90 yX6_on ∈ pmBig := pm_big (i := 588) (by decide +kernel) rfl
theorem wd_846 : Cond.instanceMethod yX6_on ∈ pmBig := pm_big (i := 589) (by decide +kernel) rfl
theorem wd_847 : Cond.selects RX6 yX6_on yX6_on ∈ pmBig := pm_big (i := 590) (by decide +kernel) rfl
theorem wd_848 : Cond.methodLink RL 93 yX7_on ∈ pmBig := pm_big (i := 1099) (by decide +kernel) rfl
theorem wd_849 : Cond.instanceMethod yX7_on ∈ pmBig := pm_big (i := 1100) (by decide +kernel) rfl
theorem wd_850 : Cond.selects RX7 yX7_on yX7_on ∈ pmBig := pm_big (i := 1101) (by decide +kernel) rfl
theorem wd_851 : Cond.methodLink RL 94 yX6_only ∈ pmBig := pm_big (i := 592) (by decide +kernel) rfl
theorem wd_852 : Cond.instanceMethod yX6_only ∈ pmBig := pm_big (i := 593) (by decide +kernel) rfl
theorem wd_853 : Cond.selects RX6 yX6_only yX6_only ∈ pmBig := pm_big (i := 594) (by decide +kernel) rfl
theorem wd_854 : Cond.methodLink RL 97 yX7_only ∈ pmBig := pm_big (i := 1103) (by decide +kernel) rfl
theorem wd_855 : Cond.instanceMethod yX7_only ∈ pmBig := pm_big (i := 1104) (by decide +kernel) rfl
theorem wd_856 : Cond.selects RX7 yX7_only yX7_only ∈ pmBig := pm_big (i := 1105) (by decide +kernel) rfl
theorem wd_857 : Cond.methodLink RL 98 yX6_hidden ∈ pmBig := pm_big (i := 597) (by decide +kernel) rfl
theorem wd_858 : Cond.instanceMethod yX6_hidden ∈ pmBig := pm_big (i := 598) (by decide +kernel) rfl
theorem wd_859 : Cond.selects RX6 yX6_hidden yX6_hidden ∈ pmBig := pm_big (i := 599) (by decide +kernel) rfl
theorem wd_860 : Cond.methodLink RL 101 yX7_hidden ∈ pmBig := pm_big (i := 1107) (by decide +kernel) rfl
theorem wd_861 : Cond.instanceMethod yX7_hidden ∈ pmBig := pm_big (i := 1108) (by decide +kernel) rfl
theorem wd_862 : Cond.selects RX7 yX7_hidden yX7_hidden ∈ pmBig := pm_big (i := 1109) (by decide +kernel) rfl
theorem wd_863 : Cond.methodLink RL 102 yX6_fewest ∈ pmBig := pm_big (i := 609) (by decide +kernel) rfl
theorem wd_864 : Cond.instanceMethod yX6_fewest ∈ pmBig := pm_big (i := 610) (by decide +kernel) rfl
theorem wd_865 : Cond.selects RX6 yX6_fewest yX6_fewest ∈ pmBig := pm_big (i := 611) (by decide +kernel) rfl
theorem wd_866 : Cond.methodLink RL 105 yX7_fewest ∈ pmBig := pm_big (i := 1115) (by decide +kernel) rfl
theorem wd_867 : Cond.instanceMethod yX7_fewest ∈ pmBig := pm_big (i := 1116) (by decide +kernel) rfl
theorem wd_868 : Cond.selects RX7 yX7_fewest yX7_fewest ∈ pmBig := pm_big (i := 1117) (by decide +kernel) rfl
theorem wd_869 : Cond.methodLink RL 106 yX6_waits ∈ pmBig := pm_big (i := 613) (by decide +kernel) rfl
theorem wd_870 : Cond.instanceMethod yX6_waits ∈ pmBig := pm_big (i := 614) (by decide +kernel) rfl
theorem wd_871 : Cond.selects RX6 yX6_waits yX6_waits ∈ pmBig := pm_big (i := 615) (by decide +kernel) rfl
theorem wd_872 : Cond.methodLink RL 109 yX7_waits ∈ pmBig := pm_big (i := 1119) (by decide +kernel) rfl
theorem wd_873 : Cond.instanceMethod yX7_waits ∈ pmBig := pm_big (i := 1120) (by decide +kernel) rfl
theorem wd_874 : Cond.selects RX7 yX7_waits yX7_waits ∈ pmBig := pm_big (i := 1121) (by decide +kernel) rfl
theorem wd_875 : Cond.methodLink RL 110 yX6_curse ∈ pmBig := pm_big (i := 624) (by decide +kernel) rfl
theorem wd_876 : Cond.instanceMethod yX6_curse ∈ pmBig := pm_big (i := 625) (by decide +kernel) rfl
theorem wd_877 : Cond.selects RX6 yX6_curse yX6_curse ∈ pmBig := pm_big (i := 626) (by decide +kernel) rfl
theorem wd_878 : Cond.methodLink RL 113 yX7_curse ∈ pmBig := pm_big (i := 1123) (by decide +kernel) rfl
theorem wd_879 : Cond.instanceMethod yX7_curse ∈ pmBig := pm_big (i := 1124) (by decide +kernel) rfl
theorem wd_880 : Cond.selects RX7 yX7_curse yX7_curse ∈ pmBig := pm_big (i := 1125) (by decide +kernel) rfl
theorem wd_881 : Cond.methodLink RL 114 yX6_spare ∈ pmBig := pm_big (i := 653) (by decide +kernel) rfl
theorem wd_882 : Cond.instanceMethod yX6_spare ∈ pmBig := pm_big (i := 654) (by decide +kernel) rfl
theorem wd_883 : Cond.selects RX6 yX6_spare yX6_spare ∈ pmBig := pm_big (i := 655) (by decide +kernel) rfl
theorem wd_884 : Cond.methodLink RL 117 yX7_spare ∈ pmBig := pm_big (i := 1148) (by decide +kernel) rfl
theorem wd_885 : Cond.instanceMethod yX7_spare ∈ pmBig := pm_big (i := 1149) (by decide +kernel) rfl
theorem wd_886 : Cond.selects RX7 yX7_spare yX7_spare ∈ pmBig := pm_big (i := 1150) (by decide +kernel) rfl
theorem wd_887 : Cond.methodLink RL 118 yX6_orders ∈ pmBig := pm_big (i := 657) (by decide +kernel) rfl
theorem wd_888 : Cond.instanceMethod yX6_orders ∈ pmBig := pm_big (i := 658) (by decide +kernel) rfl
theorem wd_889 : Cond.selects RX6 yX6_orders yX6_orders ∈ pmBig := pm_big (i := 659) (by decide +kernel) rfl
theorem wd_890 : Cond.methodLink RL 121 yX7_orders ∈ pmBig := pm_big (i := 1152) (by decide +kernel) rfl
theorem wd_891 : Cond.instanceMethod yX7_orders ∈ pmBig := pm_big (i := 1153) (by decide +kernel) rfl
theorem wd_892 : Cond.selects RX7 yX7_orders yX7_orders ∈ pmBig := pm_big (i := 1154) (by decide +kernel) rfl
theorem wd_893 : Cond.methodLink RL 122 yX6_rides ∈ pmBig := pm_big (i := 668) (by decide +kernel) rfl
theorem wd_894 : Cond.instanceMethod yX6_rides ∈ pmBig := pm_big (i := 669) (by decide +kernel) rfl
theorem wd_895 : Cond.selects RX6 yX6_rides yX6_rides ∈ pmBig := pm_big (i := 670) (by decide +kernel) rfl
theorem wd_896 : Cond.methodLink RL 125 yX7_rides ∈ pmBig := pm_big (i := 1157) (by decide +kernel) rfl
theorem wd_897 : Cond.instanceMethod yX7_rides ∈ pmBig := pm_big (i := 1158) (by decide +kernel) rfl
theorem wd_898 : Cond.selects RX7 yX7_rides yX7_rides ∈ pmBig := pm_big (i := 1159) (by decide +kernel) rfl
theorem wd_899 : Cond.methodLink RL 126 yX6_blessed ∈ pmBig := pm_big (i := 677) (by decide +kernel) rfl
theorem wd_900 : Cond.instanceMethod yX6_blessed ∈ pmBig := pm_big (i := 678) (by decide +kernel) rfl
theorem wd_901 : Cond.selects RX6 yX6_blessed yX6_blessed ∈ pmBig := pm_big (i := 679) (by decide +kernel) rfl
theorem wd_902 : Cond.methodLink RL 129 yX7_blessed ∈ pmBig := pm_big (i := 1161) (by decide +kernel) rfl
theorem wd_903 : Cond.instanceMethod yX7_blessed ∈ pmBig := pm_big (i := 1162) (by decide +kernel) rfl
theorem wd_904 : Cond.selects RX7 yX7_blessed yX7_blessed ∈ pmBig := pm_big (i := 1163) (by decide +kernel) rfl
theorem wd_905 : Cond.methodLink RL 130 yX6_fees ∈ pmBig := pm_big (i := 689) (by decide +kernel) rfl
theorem wd_906 : Cond.instanceMethod yX6_fees ∈ pmBig := pm_big (i := 690) (by decide +kernel) rfl
theorem wd_907 : Cond.selects RX6 yX6_fees yX6_fees ∈ pmBig := pm_big (i := 691) (by decide +kernel) rfl
theorem wd_908 : Cond.methodLink RL 134 yX7_fees ∈ pmBig := pm_big (i := 1169) (by decide +kernel) rfl
theorem wd_909 : Cond.instanceMethod yX7_fees ∈ pmBig := pm_big (i := 1170) (by decide +kernel) rfl
theorem wd_910 : Cond.selects RX7 yX7_fees yX7_fees ∈ pmBig := pm_big (i := 1171) (by decide +kernel) rfl
theorem wd_911 : Cond.methodLink RL 135 yX6_from ∈ pmBig := pm_big (i := 701) (by decide +kernel) rfl
theorem wd_912 : Cond.instanceMethod yX6_from ∈ pmBig := pm_big (i := 702) (by decide +kernel) rfl
theorem wd_913 : Cond.selects RX6 yX6_from yX6_from ∈ pmBig := pm_big (i := 703) (by decide +kernel) rfl
theorem wd_914 : Cond.methodLink RL 138 yX7_from ∈ pmBig := pm_big (i := 1174) (by decide +kernel) rfl
theorem wd_915 : Cond.instanceMethod yX7_from ∈ pmBig := pm_big (i := 1175) (by decide +kernel) rfl
theorem wd_916 : Cond.selects RX7 yX7_from yX7_from ∈ pmBig := pm_big (i := 1176) (by decide +kernel) rfl
theorem wd_917 : Cond.methodLink RL 139 yX6_kinds ∈ pmBig := pm_big (i := 713) (by decide +kernel) rfl
theorem wd_918 : Cond.instanceMethod yX6_kinds ∈ pmBig := pm_big (i := 714) (by decide +kernel) rfl
theorem wd_919 : Cond.selects RX6 yX6_kinds yX6_kinds ∈ pmBig := pm_big (i := 715) (by decide +kernel) rfl
theorem wd_920 : Cond.methodLink RL 142 yX7_kinds ∈ pmBig := pm_big (i := 1187) (by decide +kernel) rfl
theorem wd_921 : Cond.instanceMethod yX7_kinds ∈ pmBig := pm_big (i := 1188) (by decide +kernel) rfl
theorem wd_922 : Cond.selects RX7 yX7_kinds yX7_kinds ∈ pmBig := pm_big (i := 1189) (by decide +kernel) rfl
theorem wd_923 : Cond.methodLink RL 143 yX6_given ∈ pmBig := pm_big (i := 717) (by decide +kernel) rfl
theorem wd_924 : Cond.instanceMethod yX6_given ∈ pmBig := pm_big (i := 718) (by decide +kernel) rfl
theorem wd_925 : Cond.selects RX6 yX6_given yX6_given ∈ pmBig := pm_big (i := 719) (by decide +kernel) rfl
theorem wd_926 : Cond.methodLink RL 146 yX7_given ∈ pmBig := pm_big (i := 1191) (by decide +kernel) rfl
theorem wd_927 : Cond.instanceMethod yX7_given ∈ pmBig := pm_big (i := 1192) (by decide +kernel) rfl
theorem wd_928 : Cond.selects RX7 yX7_given yX7_given ∈ pmBig := pm_big (i := 1193) (by decide +kernel) rfl
theorem wd_929 : Cond.methodLink RL 147 yX6_king ∈ pmBig := pm_big (i := 721) (by decide +kernel) rfl
theorem wd_930 : Cond.instanceMethod yX6_king ∈ pmBig := pm_big (i := 722) (by decide +kernel) rfl
theorem wd_931 : Cond.selects RX6 yX6_king yX6_king ∈ pmBig := pm_big (i := 723) (by decide +kernel) rfl
theorem wd_932 : Cond.methodLink RL 150 yX7_king ∈ pmBig := pm_big (i := 1195) (by decide +kernel) rfl
theorem wd_933 : Cond.instanceMethod yX7_king ∈ pmBig := pm_big (i := 1196) (by decide +kernel) rfl
theorem wd_934 : Cond.selects RX7 yX7_king yX7_king ∈ pmBig := pm_big (i := 1197) (by decide +kernel) rfl
theorem wd_935 : Cond.methodLink RL 151 yX6_odds ∈ pmBig := pm_big (i := 735) (by decide +kernel) rfl
theorem wd_936 : Cond.instanceMethod yX6_odds ∈ pmBig := pm_big (i := 736) (by decide +kernel) rfl
theorem wd_937 : Cond.selects RX6 yX6_odds yX6_odds ∈ pmBig := pm_big (i := 737) (by decide +kernel) rfl
theorem wd_938 : Cond.methodLink RL 154 yX7_odds ∈ pmBig := pm_big (i := 1211) (by decide +kernel) rfl
theorem wd_939 : Cond.instanceMethod yX7_odds ∈ pmBig := pm_big (i := 1212) (by decide +kernel) rfl
theorem wd_940 : Cond.selects RX7 yX7_odds yX7_odds ∈ pmBig := pm_big (i := 1213) (by decide +kernel) rfl
theorem wd_941 : Cond.methodLink RL 155 yX6_mid ∈ pmBig := pm_big (i := 746) (by decide +kernel) rfl
theorem wd_942 : Cond.instanceMethod yX6_mid ∈ pmBig := pm_big (i := 747) (by decide +kernel) rfl
theorem wd_943 : Cond.selects RX6 yX6_mid yX6_mid ∈ pmBig := pm_big (i := 748) (by decide +kernel) rfl
theorem wd_944 : Cond.methodLink RL 158 yX7_mid ∈ pmBig := pm_big (i := 1219) (by decide +kernel) rfl
theorem wd_945 : Cond.instanceMethod yX7_mid ∈ pmBig := pm_big (i := 1220) (by decide +kernel) rfl
theorem wd_946 : Cond.selects RX7 yX7_mid yX7_mid ∈ pmBig := pm_big (i := 1221) (by decide +kernel) rfl
theorem wd_947 : Cond.methodLink RL 159 yX6_lots ∈ pmBig := pm_big (i := 750) (by decide +kernel) rfl
theorem wd_948 : Cond.instanceMethod yX6_lots ∈ pmBig := pm_big (i := 751) (by decide +kernel) rfl
theorem wd_949 : Cond.selects RX6 yX6_lots yX6_lots ∈ pmBig := pm_big (i := 752) (by decide +kernel) rfl
theorem wd_950 : Cond.methodLink RL 162 yX7_lots ∈ pmBig := pm_big (i := 1223) (by decide +kernel) rfl
theorem wd_951 : Cond.instanceMethod yX7_lots ∈ pmBig := pm_big (i := 1224) (by decide +kernel) rfl
theorem wd_952 : Cond.selects RX7 yX7_lots yX7_lots ∈ pmBig := pm_big (i := 1225) (by decide +kernel) rfl
theorem wd_953 : Cond.methodLink RL 163 yX6_asked ∈ pmBig := pm_big (i := 761) (by decide +kernel) rfl
theorem wd_954 : Cond.instanceMethod yX6_asked ∈ pmBig := pm_big (i := 762) (by decide +kernel) rfl
theorem wd_955 : Cond.selects RX6 yX6_asked yX6_asked ∈ pmBig := pm_big (i := 763) (by decide +kernel) rfl
theorem wd_956 : Cond.methodLink RL 166 yX7_asked ∈ pmBig := pm_big (i := 1233) (by decide +kernel) rfl
theorem wd_957 : Cond.instanceMethod yX7_asked ∈ pmBig := pm_big (i := 1234) (by decide +kernel) rfl
theorem wd_958 : Cond.selects RX7 yX7_asked yX7_asked ∈ pmBig := pm_big (i := 1235) (by decide +kernel) rfl
theorem wd_959 : Cond.methodLink RL 167 yX6_upper ∈ pmBig := pm_big (i := 765) (by decide +kernel) rfl
theorem wd_960 : Cond.instanceMethod yX6_upper ∈ pmBig := pm_big (i := 766) (by decide +kernel) rfl
theorem wd_961 : Cond.selects RX6 yX6_upper yX6_upper ∈ pmBig := pm_big (i := 767) (by decide +kernel) rfl
theorem wd_962 : Cond.methodLink RL 171 yX7_upper ∈ pmBig := pm_big (i := 1237) (by decide +kernel) rfl
theorem wd_963 : Cond.instanceMethod yX7_upper ∈ pmBig := pm_big (i := 1238) (by decide +kernel) rfl
theorem wd_964 : Cond.selects RX7 yX7_upper yX7_upper ∈ pmBig := pm_big (i := 1239) (by decide +kernel) rfl
theorem wd_965 : Cond.methodLink RL 172 yX6_lower ∈ pmBig := pm_big (i := 769) (by decide +kernel) rfl
theorem wd_966 : Cond.instanceMethod yX6_lower ∈ pmBig := pm_big (i := 770) (by decide +kernel) rfl
theorem wd_967 : Cond.selects RX6 yX6_lower yX6_lower ∈ pmBig := pm_big (i := 771) (by decide +kernel) rfl
theorem wd_968 : Cond.methodLink RL 175 yX7_lower ∈ pmBig := pm_big (i := 1241) (by decide +kernel) rfl
theorem wd_969 : Cond.instanceMethod yX7_lower ∈ pmBig := pm_big (i := 1242) (by decide +kernel) rfl
theorem wd_970 : Cond.selects RX7 yX7_lower yX7_lower ∈ pmBig := pm_big (i := 1243) (by decide +kernel) rfl
theorem wd_971 : Cond.methodLink RL 176 yX6_count ∈ pmBig := pm_big (i := 773) (by decide +kernel) rfl
theorem wd_972 : Cond.methodLink RL 179 yX7_count ∈ pmBig := pm_big (i := 1245) (by decide +kernel) rfl
theorem wd_973 : Cond.methodLink RL 180 yX6_finding ∈ pmBig := pm_big (i := 789) (by decide +kernel) rfl
theorem wd_974 : Cond.instanceMethod yX6_finding ∈ pmBig := pm_big (i := 790) (by decide +kernel) rfl
theorem wd_975 : Cond.selects RX6 yX6_finding yX6_finding ∈ pmBig := pm_big (i := 791) (by decide +kernel) rfl
theorem wd_976 : Cond.methodLink RL 183 yX7_finding ∈ pmBig := pm_big (i := 1259) (by decide +kernel) rfl
theorem wd_977 : Cond.instanceMethod yX7_finding ∈ pmBig := pm_big (i := 1260) (by decide +kernel) rfl
theorem wd_978 : Cond.selects RX7 yX7_finding yX7_finding ∈ pmBig := pm_big (i := 1261) (by decide +kernel) rfl
theorem wd_979 : Cond.methodLink RL 184 yX6_findings ∈ pmBig := pm_big (i := 793) (by decide +kernel) rfl
theorem wd_980 : Cond.instanceMethod yX6_findings ∈ pmBig := pm_big (i := 794) (by decide +kernel) rfl
theorem wd_981 : Cond.selects RX6 yX6_findings yX6_findings ∈ pmBig := pm_big (i := 795) (by decide +kernel) rfl
theorem wd_982 : Cond.methodLink RL 187 yX7_findings ∈ pmBig := pm_big (i := 1263) (by decide +kernel) rfl
theorem wd_983 : Cond.instanceMethod yX7_findings ∈ pmBig := pm_big (i := 1264) (by decide +kernel) rfl
theorem wd_984 : Cond.selects RX7 yX7_findings yX7_findings ∈ pmBig := pm_big (i := 1265) (by decide +kernel) rfl
theorem wd_985 : Cond.methodLink RL 188 yX6_digest ∈ pmBig := pm_big (i := 797) (by decide +kernel) rfl
theorem wd_986 : Cond.instanceMethod yX6_digest ∈ pmBig := pm_big (i := 798) (by decide +kernel) rfl
theorem wd_987 : Cond.selects RX6 yX6_digest yX6_digest ∈ pmBig := pm_big (i := 799) (by decide +kernel) rfl
theorem wd_988 : Cond.methodLink RL 191 yX7_digest ∈ pmBig := pm_big (i := 1267) (by decide +kernel) rfl
theorem wd_989 : Cond.instanceMethod yX7_digest ∈ pmBig := pm_big (i := 1268) (by decide +kernel) rfl
theorem wd_990 : Cond.selects RX7 yX7_digest yX7_digest ∈ pmBig := pm_big (i := 1269) (by decide +kernel) rfl
theorem jX0_pitch : pm_J mX0_pitch 1 := ⟨by decide +kernel, rfl, Nat.le_of_ble_eq_true rfl, ⟨by decide, by decide, by decide +kernel⟩, wd_0, wd_1⟩
theorem jX0_startAgain : pm_J mX0_startAgain 0 := ⟨by decide +kernel, rfl, Nat.le_of_ble_eq_true rfl, ⟨by decide, by decide, by decide +kernel⟩, wd_2, wd_1⟩
theorem jX0_take : pm_J mX0_take 1 := ⟨by decide +kernel, rfl, Nat.le_of_ble_eq_true rfl, ⟨by decide, by decide, by decide +kernel⟩, wd_3, wd_1⟩
theorem jX0_seenFrom : pm_J mX0_seenFrom 1 := ⟨by decide +kernel, rfl, Nat.le_of_ble_eq_true rfl, ⟨by decide, by decide, by decide +kernel⟩, wd_4, wd_1⟩
theorem jX0_sumFrom : pm_J mX0_sumFrom 1 := ⟨by decide +kernel, rfl, Nat.le_of_ble_eq_true rfl, ⟨by decide, by decide, by decide +kernel⟩, wd_5, wd_1⟩
theorem jX0_wordFrom : pm_J mX0_wordFrom 1 := ⟨by decide +kernel, rfl, Nat.le_of_ble_eq_true rfl, ⟨by decide, by decide, by decide +kernel⟩, wd_6, wd_1⟩
theorem jX0_seenFromAny : pm_J mX0_seenFromAny 1 := ⟨by decide +kernel, rfl, Nat.le_of_ble_eq_true rfl, ⟨by decide, by decide, by decide +kernel⟩, wd_7, wd_1⟩
theorem jX0_hillsThatSee : pm_J mX0_hillsThatSee 1 := ⟨by decide +kernel, rfl, Nat.le_of_ble_eq_true rfl, ⟨by decide, by decide, by decide +kernel⟩, wd_8, wd_1⟩
theorem jX0_hillsThatBless : pm_J mX0_hillsThatBless 0 := ⟨by decide +kernel, rfl, Nat.le_of_ble_eq_true rfl, ⟨by decide, by decide, by decide +kernel⟩, wd_9, wd_1⟩
theorem jX0_isBlessedByAll : pm_J mX0_isBlessedByAll 0 := ⟨by decide +kernel, rfl, Nat.le_of_ble_eq_true rfl, ⟨by decide, by decide, by decide +kernel⟩, wd_10, wd_1⟩
theorem jX0_fateOf : pm_J mX0_fateOf 1 := ⟨by decide +kernel, rfl, Nat.le_of_ble_eq_true rfl, ⟨by decide, by decide, by decide +kernel⟩, wd_11, wd_1⟩
theorem jX0_sayFrom : pm_J mX0_sayFrom 1 := ⟨by decide +kernel, rfl, Nat.le_of_ble_eq_true rfl, ⟨by decide, by decide, by decide +kernel⟩, wd_12, wd_1⟩
theorem jX0_swap : pm_J mX0_swap 2 := ⟨by decide +kernel, rfl, Nat.le_of_ble_eq_true rfl, ⟨by decide, by decide, by decide +kernel⟩, wd_13, wd_1⟩
theorem jX0_swapBits : pm_J mX0_swapBits 3 := ⟨by decide +kernel, rfl, Nat.le_of_ble_eq_true rfl, ⟨by decide, by decide, by decide +kernel⟩, wd_14, wd_1⟩
theorem jX0_goRound : pm_J mX0_goRound 0 := ⟨by decide +kernel, rfl, Nat.le_of_ble_eq_true rfl, ⟨by decide, by decide, by decide +kernel⟩, wd_15, wd_1⟩
theorem jX0_doAndNote : pm_J mX0_doAndNote 1 := ⟨by decide +kernel, rfl, Nat.le_of_ble_eq_true rfl, ⟨by decide, by decide, by decide +kernel⟩, wd_16, wd_1⟩
theorem jX0_goBackTo : pm_J mX0_goBackTo 1 := ⟨by decide +kernel, rfl, Nat.le_of_ble_eq_true rfl, ⟨by decide, by decide, by decide +kernel⟩, wd_17, wd_1⟩
theorem jX0_perform : pm_J mX0_perform 1 := ⟨by decide +kernel, rfl, Nat.le_of_ble_eq_true rfl, ⟨by decide, by decide, by decide +kernel⟩, wd_18, wd_1⟩
theorem jX1_reachAs : pm_J mX1_reachAs 2 := ⟨by decide +kernel, rfl, Nat.le_of_ble_eq_true rfl, ⟨by decide, by decide, by decide +kernel⟩, wd_19, wd_20⟩
theorem jX1_seenAs : pm_J mX1_seenAs 3 := ⟨by decide +kernel, rfl, Nat.le_of_ble_eq_true rfl, ⟨by decide, by decide, by decide +kernel⟩, wd_21, wd_20⟩
theorem jX1_sumAs : pm_J mX1_sumAs 3 := ⟨by decide +kernel, rfl, Nat.le_of_ble_eq_true rfl, ⟨by decide, by decide, by decide +kernel⟩, wd_22, wd_20⟩
theorem jX1_sumOf : pm_J mX1_sumOf 3 := ⟨by decide +kernel, rfl, Nat.le_of_ble_eq_true rfl, ⟨by decide, by decide, by decide +kernel⟩, wd_23, wd_20⟩
theorem jX1_markAs : pm_J mX1_markAs 3 := ⟨by decide +kernel, rfl, Nat.le_of_ble_eq_true rfl, ⟨by decide, by decide, by decide +kernel⟩, wd_24, wd_20⟩
theorem jX2_take : pm_J mX2_take 1 := ⟨by decide +kernel, rfl, Nat.le_of_ble_eq_true rfl, ⟨by decide, by decide, by decide +kernel⟩, wd_25, wd_26⟩
theorem jX2_howManyOf : pm_J mX2_howManyOf 1 := ⟨by decide +kernel, rfl, Nat.le_of_ble_eq_true rfl, ⟨by decide, by decide, by decide +kernel⟩, wd_27, wd_26⟩
theorem jX3_goThrough : pm_J mX3_goThrough 2 := ⟨by decide +kernel, rfl, Nat.le_of_ble_eq_true rfl, ⟨by decide, by decide, by decide +kernel⟩, wd_28, wd_29⟩
theorem jX3_goOn : pm_J mX3_goOn 3 := ⟨by decide +kernel, rfl, Nat.le_of_ble_eq_true rfl, ⟨by decide, by decide, by decide +kernel⟩, wd_30, wd_29⟩
theorem jX3_choose : pm_J mX3_choose 4 := ⟨by decide +kernel, rfl, Nat.le_of_ble_eq_true rfl, ⟨by decide, by decide, by decide +kernel⟩, wd_31, wd_29⟩
theorem jX3_weigh : pm_J mX3_weigh 1 := ⟨by decide +kernel, rfl, Nat.le_of_ble_eq_true rfl, ⟨by decide, by decide, by decide +kernel⟩, wd_32, wd_29⟩
theorem jX4_read : pm_J mX4_read 1 := ⟨by decide +kernel, rfl, Nat.le_of_ble_eq_true rfl, ⟨by decide, by decide, by decide +kernel⟩, wd_33, wd_34⟩
theorem jX4_skipBlanks : pm_J mX4_skipBlanks 1 := ⟨by decide +kernel, rfl, Nat.le_of_ble_eq_true rfl, ⟨by decide, by decide, by decide +kernel⟩, wd_35, wd_34⟩
theorem jX4_readTents : pm_J mX4_readTents 1 := ⟨by decide +kernel, rfl, Nat.le_of_ble_eq_true rfl, ⟨by decide, by decide, by decide +kernel⟩, wd_36, wd_34⟩
theorem jX4_readHill : pm_J mX4_readHill 1 := ⟨by decide +kernel, rfl, Nat.le_of_ble_eq_true rfl, ⟨by decide, by decide, by decide +kernel⟩, wd_37, wd_34⟩
theorem jX4_figureHere : pm_J mX4_figureHere 1 := ⟨by decide +kernel, rfl, Nat.le_of_ble_eq_true rfl, ⟨by decide, by decide, by decide +kernel⟩, wd_38, wd_34⟩
theorem jX4_kindHere : pm_J mX4_kindHere 1 := ⟨by decide +kernel, rfl, Nat.le_of_ble_eq_true rfl, ⟨by decide, by decide, by decide +kernel⟩, wd_39, wd_34⟩
theorem jX5_open : pm_J mX5_open 2 := ⟨by decide +kernel, rfl, Nat.le_of_ble_eq_true rfl, ⟨by decide, by decide, by decide +kernel⟩, wd_40, wd_41⟩
theorem jX5_drop : pm_J mX5_drop 0 := ⟨by decide +kernel, rfl, Nat.le_of_ble_eq_true rfl, ⟨by decide, by decide, by decide +kernel⟩, wd_42, wd_41⟩
theorem jX5_isMissing : pm_J mX5_isMissing 0 := ⟨by decide +kernel, rfl, Nat.le_of_ble_eq_true rfl, ⟨by decide, by decide, by decide +kernel⟩, wd_43, wd_41⟩
theorem jX5_size : pm_J mX5_size 0 := ⟨by decide +kernel, rfl, Nat.le_of_ble_eq_true rfl, ⟨by decide, by decide, by decide +kernel⟩, wd_44, wd_41⟩
theorem jX5_has : pm_J mX5_has 1 := ⟨by decide +kernel, rfl, Nat.le_of_ble_eq_true rfl, ⟨by decide, by decide, by decide +kernel⟩, wd_45, wd_41⟩
theorem jX5_hasRun : pm_J mX5_hasRun 2 := ⟨by decide +kernel, rfl, Nat.le_of_ble_eq_true rfl, ⟨by decide, by decide, by decide +kernel⟩, wd_46, wd_41⟩
theorem jX5_get : pm_J mX5_get 1 := ⟨by decide +kernel, rfl, Nat.le_of_ble_eq_true rfl, ⟨by decide, by decide, by decide +kernel⟩, wd_47, wd_41⟩
theorem jX5_set : pm_J mX5_set 2 := ⟨by decide +kernel, rfl, Nat.le_of_ble_eq_true rfl, ⟨by decide, by decide, by decide +kernel⟩, wd_48, wd_41⟩
theorem jX5_total : pm_J mX5_total 0 := ⟨by decide +kernel, rfl, Nat.le_of_ble_eq_true rfl, ⟨by decide, by decide, by decide +kernel⟩, wd_49, wd_41⟩
theorem jX5_takeRun : pm_J mX5_takeRun 4 := ⟨by decide +kernel, rfl, Nat.le_of_ble_eq_true rfl, ⟨by decide, by decide, by decide +kernel⟩, wd_50, wd_41⟩
theorem jX5_takeAnew : pm_J mX5_takeAnew 2 := ⟨by decide +kernel, rfl, Nat.le_of_ble_eq_true rfl, ⟨by decide, by decide, by decide +kernel⟩, wd_51, wd_41⟩
theorem jX6_row : pm_J mX6_row 2 := ⟨by decide +kernel, rfl, Nat.le_of_ble_eq_true rfl, ⟨by decide, by decide, by decide +kernel⟩, wd_52, wd_53⟩
theorem jX6_lay : pm_J mX6_lay 3 := ⟨by decide +kernel, rfl, Nat.le_of_ble_eq_true rfl, ⟨by decide, by decide, by decide +kernel⟩, wd_54, wd_53⟩
theorem jX6_at : pm_J mX6_at 2 := ⟨by decide +kernel, rfl, Nat.le_of_ble_eq_true rfl, ⟨by decide, by decide, by decide +kernel⟩, wd_55, wd_53⟩
theorem jX6_tear : pm_J mX6_tear 1 := ⟨by decide +kernel, rfl, Nat.le_of_ble_eq_true rfl, ⟨by decide, by decide, by decide +kernel⟩, wd_56, wd_53⟩
theorem jX6_copy : pm_J mX6_copy 5 := ⟨by decide +kernel, rfl, Nat.le_of_ble_eq_true rfl, ⟨by decide, by decide, by decide +kernel⟩, wd_57, wd_53⟩
theorem jX6_mean : pm_J mX6_mean 1 := ⟨by decide +kernel, rfl, Nat.le_of_ble_eq_true rfl, ⟨by decide, by decide, by decide +kernel⟩, wd_58, wd_53⟩
theorem jX6_text : pm_J mX6_text 2 := ⟨by decide +kernel, rfl, Nat.le_of_ble_eq_true rfl, ⟨by decide, by decide, by decide +kernel⟩, wd_59, wd_53⟩
theorem jX6_put : pm_J mX6_put 3 := ⟨by decide +kernel, rfl, Nat.le_of_ble_eq_true rfl, ⟨by decide, by decide, by decide +kernel⟩, wd_60, wd_53⟩
theorem jX6_fault : pm_J mX6_fault 1 := ⟨by decide +kernel, rfl, Nat.le_of_ble_eq_true rfl, ⟨by decide, by decide, by decide +kernel⟩, wd_61, wd_53⟩
theorem jX6_camp : pm_J mX6_camp 1 := ⟨by decide +kernel, rfl, Nat.le_of_ble_eq_true rfl, ⟨by decide, by decide, by decide +kernel⟩, wd_62, wd_53⟩
theorem jX6_hill : pm_J mX6_hill 2 := ⟨by decide +kernel, rfl, Nat.le_of_ble_eq_true rfl, ⟨by decide, by decide, by decide +kernel⟩, wd_63, wd_53⟩
theorem jX6_tent : pm_J mX6_tent 2 := ⟨by decide +kernel, rfl, Nat.le_of_ble_eq_true rfl, ⟨by decide, by decide, by decide +kernel⟩, wd_64, wd_53⟩
theorem jX6_mark : pm_J mX6_mark 2 := ⟨by decide +kernel, rfl, Nat.le_of_ble_eq_true rfl, ⟨by decide, by decide, by decide +kernel⟩, wd_65, wd_53⟩
theorem jX6_speak : pm_J mX6_speak 1 := ⟨by decide +kernel, rfl, Nat.le_of_ble_eq_true rfl, ⟨by decide, by decide, by decide +kernel⟩, wd_66, wd_53⟩
theorem jX6_day : pm_J mX6_day 0 := ⟨by decide +kernel, rfl, Nat.le_of_ble_eq_true rfl, ⟨by decide, by decide, by decide +kernel⟩, wd_67, wd_53⟩
theorem jX6_change : pm_J mX6_change 2 := ⟨by decide +kernel, rfl, Nat.le_of_ble_eq_true rfl, ⟨by decide, by decide, by decide +kernel⟩, wd_68, wd_53⟩
theorem jX6_undo : pm_J mX6_undo 1 := ⟨by decide +kernel, rfl, Nat.le_of_ble_eq_true rfl, ⟨by decide, by decide, by decide +kernel⟩, wd_69, wd_53⟩
theorem jX6_keep : pm_J mX6_keep 1 := ⟨by decide +kernel, rfl, Nat.le_of_ble_eq_true rfl, ⟨by decide, by decide, by decide +kernel⟩, wd_70, wd_53⟩
theorem jX6_on : pm_J mX6_on 1 := ⟨by decide +kernel, rfl, Nat.le_of_ble_eq_true rfl, ⟨by decide, by decide, by decide +kernel⟩, wd_71, wd_53⟩
theorem jX6_only : pm_J mX6_only 2 := ⟨by decide +kernel, rfl, Nat.le_of_ble_eq_true rfl, ⟨by decide, by decide, by decide +kernel⟩, wd_72, wd_53⟩
theorem jX6_hidden : pm_J mX6_hidden 0 := ⟨by decide +kernel, rfl, Nat.le_of_ble_eq_true rfl, ⟨by decide, by decide, by decide +kernel⟩, wd_73, wd_53⟩
theorem jX6_fewest : pm_J mX6_fewest 0 := ⟨by decide +kernel, rfl, Nat.le_of_ble_eq_true rfl, ⟨by decide, by decide, by decide +kernel⟩, wd_74, wd_53⟩
theorem jX6_waits : pm_J mX6_waits 2 := ⟨by decide +kernel, rfl, Nat.le_of_ble_eq_true rfl, ⟨by decide, by decide, by decide +kernel⟩, wd_75, wd_53⟩
theorem jX6_curse : pm_J mX6_curse 1 := ⟨by decide +kernel, rfl, Nat.le_of_ble_eq_true rfl, ⟨by decide, by decide, by decide +kernel⟩, wd_76, wd_53⟩
theorem jX6_spare : pm_J mX6_spare 1 := ⟨by decide +kernel, rfl, Nat.le_of_ble_eq_true rfl, ⟨by decide, by decide, by decide +kernel⟩, wd_77, wd_53⟩
theorem jX6_orders : pm_J mX6_orders 1 := ⟨by decide +kernel, rfl, Nat.le_of_ble_eq_true rfl, ⟨by decide, by decide, by decide +kernel⟩, wd_78, wd_53⟩
theorem jX6_rides : pm_J mX6_rides 1 := ⟨by decide +kernel, rfl, Nat.le_of_ble_eq_true rfl, ⟨by decide, by decide, by decide +kernel⟩, wd_79, wd_53⟩
theorem jX6_blessed : pm_J mX6_blessed 0 := ⟨by decide +kernel, rfl, Nat.le_of_ble_eq_true rfl, ⟨by decide, by decide, by decide +kernel⟩, wd_80, wd_53⟩
theorem jX6_fees : pm_J mX6_fees 4 := ⟨by decide +kernel, rfl, Nat.le_of_ble_eq_true rfl, ⟨by decide, by decide, by decide +kernel⟩, wd_81, wd_53⟩
theorem jX6_from : pm_J mX6_from 1 := ⟨by decide +kernel, rfl, Nat.le_of_ble_eq_true rfl, ⟨by decide, by decide, by decide +kernel⟩, wd_82, wd_53⟩
theorem jX6_kinds : pm_J mX6_kinds 2 := ⟨by decide +kernel, rfl, Nat.le_of_ble_eq_true rfl, ⟨by decide, by decide, by decide +kernel⟩, wd_83, wd_53⟩
theorem jX6_given : pm_J mX6_given 3 := ⟨by decide +kernel, rfl, Nat.le_of_ble_eq_true rfl, ⟨by decide, by decide, by decide +kernel⟩, wd_84, wd_53⟩
theorem jX6_king : pm_J mX6_king 1 := ⟨by decide +kernel, rfl, Nat.le_of_ble_eq_true rfl, ⟨by decide, by decide, by decide +kernel⟩, wd_85, wd_53⟩
theorem jX6_odds : pm_J mX6_odds 2 := ⟨by decide +kernel, rfl, Nat.le_of_ble_eq_true rfl, ⟨by decide, by decide, by decide +kernel⟩, wd_86, wd_53⟩
theorem jX6_mid : pm_J mX6_mid 1 := ⟨by decide +kernel, rfl, Nat.le_of_ble_eq_true rfl, ⟨by decide, by decide, by decide +kernel⟩, wd_87, wd_53⟩
theorem jX6_lots : pm_J mX6_lots 2 := ⟨by decide +kernel, rfl, Nat.le_of_ble_eq_true rfl, ⟨by decide, by decide, by decide +kernel⟩, wd_88, wd_53⟩
theorem jX6_asked : pm_J mX6_asked 0 := ⟨by decide +kernel, rfl, Nat.le_of_ble_eq_true rfl, ⟨by decide, by decide, by decide +kernel⟩, wd_89, wd_53⟩
theorem jX6_upper : pm_J mX6_upper 0 := ⟨by decide +kernel, rfl, Nat.le_of_ble_eq_true rfl, ⟨by decide, by decide, by decide +kernel⟩, wd_90, wd_53⟩
theorem jX6_lower : pm_J mX6_lower 0 := ⟨by decide +kernel, rfl, Nat.le_of_ble_eq_true rfl, ⟨by decide, by decide, by decide +kernel⟩, wd_91, wd_53⟩
theorem jX6_count : pm_J mX6_count 1 := ⟨by decide +kernel, rfl, Nat.le_of_ble_eq_true rfl, ⟨by decide, by decide, by decide +kernel⟩, wd_92, wd_53⟩
theorem jX6_finding : pm_J mX6_finding 0 := ⟨by decide +kernel, rfl, Nat.le_of_ble_eq_true rfl, ⟨by decide, by decide, by decide +kernel⟩, wd_93, wd_53⟩
theorem jX6_findings : pm_J mX6_findings 1 := ⟨by decide +kernel, rfl, Nat.le_of_ble_eq_true rfl, ⟨by decide, by decide, by decide +kernel⟩, wd_94, wd_53⟩
theorem jX6_digest : pm_J mX6_digest 0 := ⟨by decide +kernel, rfl, Nat.le_of_ble_eq_true rfl, ⟨by decide, by decide, by decide +kernel⟩, wd_95, wd_53⟩
theorem jX6_refuse : pm_J mX6_refuse 1 := ⟨by decide +kernel, rfl, Nat.le_of_ble_eq_true rfl, ⟨by decide, by decide, by decide +kernel⟩, wd_96, wd_53⟩
theorem jX6_tellParts : pm_J mX6_tellParts 2 := ⟨by decide +kernel, rfl, Nat.le_of_ble_eq_true rfl, ⟨by decide, by decide, by decide +kernel⟩, wd_97, wd_53⟩
theorem jX6_commonDivisor : pm_J mX6_commonDivisor 2 := ⟨by decide +kernel, rfl, Nat.le_of_ble_eq_true rfl, ⟨by decide, by decide, by decide +kernel⟩, wd_98, wd_53⟩
theorem jX6_isRow : pm_J mX6_isRow 1 := ⟨by decide +kernel, rfl, Nat.le_of_ble_eq_true rfl, ⟨by decide, by decide, by decide +kernel⟩, wd_99, wd_53⟩
theorem jX6_isText : pm_J mX6_isText 1 := ⟨by decide +kernel, rfl, Nat.le_of_ble_eq_true rfl, ⟨by decide, by decide, by decide +kernel⟩, wd_100, wd_53⟩
theorem jX6_isTent : pm_J mX6_isTent 1 := ⟨by decide +kernel, rfl, Nat.le_of_ble_eq_true rfl, ⟨by decide, by decide, by decide +kernel⟩, wd_101, wd_53⟩
theorem jX6_isHill : pm_J mX6_isHill 1 := ⟨by decide +kernel, rfl, Nat.le_of_ble_eq_true rfl, ⟨by decide, by decide, by decide +kernel⟩, wd_102, wd_53⟩
theorem jX6_isWord : pm_J mX6_isWord 1 := ⟨by decide +kernel, rfl, Nat.le_of_ble_eq_true rfl, ⟨by decide, by decide, by decide +kernel⟩, wd_103, wd_53⟩
theorem jX6_isKeepingPlace : pm_J mX6_isKeepingPlace 1 := ⟨by decide +kernel, rfl, Nat.le_of_ble_eq_true rfl, ⟨by decide, by decide, by decide +kernel⟩, wd_104, wd_53⟩
theorem jX6_isFee : pm_J mX6_isFee 1 := ⟨by decide +kernel, rfl, Nat.le_of_ble_eq_true rfl, ⟨by decide, by decide, by decide +kernel⟩, wd_105, wd_53⟩
theorem jX6_isChance : pm_J mX6_isChance 1 := ⟨by decide +kernel, rfl, Nat.le_of_ble_eq_true rfl, ⟨by decide, by decide, by decide +kernel⟩, wd_106, wd_53⟩
theorem jX6_hasNoHills : pm_J mX6_hasNoHills 0 := ⟨by decide +kernel, rfl, Nat.le_of_ble_eq_true rfl, ⟨by decide, by decide, by decide +kernel⟩, wd_107, wd_53⟩
theorem jX6_allHills : pm_J mX6_allHills 0 := ⟨by decide +kernel, rfl, Nat.le_of_ble_eq_true rfl, ⟨by decide, by decide, by decide +kernel⟩, wd_108, wd_53⟩
theorem jX6_isOfKind : pm_J mX6_isOfKind 2 := ⟨by decide +kernel, rfl, Nat.le_of_ble_eq_true rfl, ⟨by decide, by decide, by decide +kernel⟩, wd_109, wd_53⟩
theorem jX6_wordOf : pm_J mX6_wordOf 1 := ⟨by decide +kernel, rfl, Nat.le_of_ble_eq_true rfl, ⟨by decide, by decide, by decide +kernel⟩, wd_110, wd_53⟩
theorem jX6_feeOf : pm_J mX6_feeOf 4 := ⟨by decide +kernel, rfl, Nat.le_of_ble_eq_true rfl, ⟨by decide, by decide, by decide +kernel⟩, wd_111, wd_53⟩
theorem jX6_placeFault : pm_J mX6_placeFault 2 := ⟨by decide +kernel, rfl, Nat.le_of_ble_eq_true rfl, ⟨by decide, by decide, by decide +kernel⟩, wd_112, wd_53⟩
theorem jX6_notesFault : pm_J mX6_notesFault 1 := ⟨by decide +kernel, rfl, Nat.le_of_ble_eq_true rfl, ⟨by decide, by decide, by decide +kernel⟩, wd_113, wd_53⟩
theorem jX6_ridesFault : pm_J mX6_ridesFault 1 := ⟨by decide +kernel, rfl, Nat.le_of_ble_eq_true rfl, ⟨by decide, by decide, by decide +kernel⟩, wd_114, wd_53⟩
theorem jX6_fits : pm_J mX6_fits 4 := ⟨by decide +kernel, rfl, Nat.le_of_ble_eq_true rfl, ⟨by decide, by decide, by decide +kernel⟩, wd_115, wd_53⟩
theorem jX6_hillFact : pm_J mX6_hillFact 2 := ⟨by decide +kernel, rfl, Nat.le_of_ble_eq_true rfl, ⟨by decide, by decide, by decide +kernel⟩, wd_116, wd_53⟩
theorem jX6_firstChangeOf : pm_J mX6_firstChangeOf 2 := ⟨by decide +kernel, rfl, Nat.le_of_ble_eq_true rfl, ⟨by decide, by decide, by decide +kernel⟩, wd_117, wd_53⟩
theorem jX6_bestHill : pm_J mX6_bestHill 3 := ⟨by decide +kernel, rfl, Nat.le_of_ble_eq_true rfl, ⟨by decide, by decide, by decide +kernel⟩, wd_118, wd_53⟩
theorem jX6_leastByPeople : pm_J mX6_leastByPeople 1 := ⟨by decide +kernel, rfl, Nat.le_of_ble_eq_true rfl, ⟨by decide, by decide, by decide +kernel⟩, wd_119, wd_53⟩
theorem jX6_mostByKing : pm_J mX6_mostByKing 1 := ⟨by decide +kernel, rfl, Nat.le_of_ble_eq_true rfl, ⟨by decide, by decide, by decide +kernel⟩, wd_120, wd_53⟩
theorem jX6_curseChance : pm_J mX6_curseChance 2 := ⟨by decide +kernel, rfl, Nat.le_of_ble_eq_true rfl, ⟨by decide, by decide, by decide +kernel⟩, wd_121, wd_53⟩
theorem jX6_deedByLot : pm_J mX6_deedByLot 1 := ⟨by decide +kernel, rfl, Nat.le_of_ble_eq_true rfl, ⟨by decide, by decide, by decide +kernel⟩, wd_122, wd_53⟩
theorem jX6_howManyThere : pm_J mX6_howManyThere 1 := ⟨by decide +kernel, rfl, Nat.le_of_ble_eq_true rfl, ⟨by decide, by decide, by decide +kernel⟩, wd_123, wd_53⟩
theorem jX6_howManyKept : pm_J mX6_howManyKept 0 := ⟨by decide +kernel, rfl, Nat.le_of_ble_eq_true rfl, ⟨by decide, by decide, by decide +kernel⟩, wd_124, wd_53⟩
theorem jX6_mixSheets : pm_J mX6_mixSheets 2 := ⟨by decide +kernel, rfl, Nat.le_of_ble_eq_true rfl, ⟨by decide, by decide, by decide +kernel⟩, wd_125, wd_53⟩
theorem jX7_in : pm_J mX7_in 3 := ⟨by decide +kernel, rfl, Nat.le_of_ble_eq_true rfl, ⟨by decide, by decide, by decide +kernel⟩, wd_126, wd_127⟩
theorem jX7_has : pm_J mX7_has 2 := ⟨by decide +kernel, rfl, Nat.le_of_ble_eq_true rfl, ⟨by decide, by decide, by decide +kernel⟩, wd_128, wd_127⟩
theorem jX7_ones : pm_J mX7_ones 1 := ⟨by decide +kernel, rfl, Nat.le_of_ble_eq_true rfl, ⟨by decide, by decide, by decide +kernel⟩, wd_129, wd_127⟩
theorem jX7_find : pm_J mX7_find 1 := ⟨by decide +kernel, rfl, Nat.le_of_ble_eq_true rfl, ⟨by decide, by decide, by decide +kernel⟩, wd_130, wd_127⟩
theorem jX7_isRow : pm_J mX7_isRow 1 := ⟨by decide +kernel, rfl, Nat.le_of_ble_eq_true rfl, ⟨by decide, by decide, by decide +kernel⟩, wd_131, wd_127⟩
theorem jX7_isText : pm_J mX7_isText 1 := ⟨by decide +kernel, rfl, Nat.le_of_ble_eq_true rfl, ⟨by decide, by decide, by decide +kernel⟩, wd_132, wd_127⟩
theorem jX7_isHill : pm_J mX7_isHill 1 := ⟨by decide +kernel, rfl, Nat.le_of_ble_eq_true rfl, ⟨by decide, by decide, by decide +kernel⟩, wd_133, wd_127⟩
theorem jX7_row : pm_J mX7_row 2 := ⟨by decide +kernel, rfl, Nat.le_of_ble_eq_true rfl, ⟨by decide, by decide, by decide +kernel⟩, wd_134, wd_127⟩
theorem jX7_wrongAt : pm_J mX7_wrongAt 2 := ⟨by decide +kernel, rfl, Nat.le_of_ble_eq_true rfl, ⟨by decide, by decide, by decide +kernel⟩, wd_135, wd_127⟩
theorem jX7_lay : pm_J mX7_lay 3 := ⟨by decide +kernel, rfl, Nat.le_of_ble_eq_true rfl, ⟨by decide, by decide, by decide +kernel⟩, wd_136, wd_127⟩
theorem jX7_at : pm_J mX7_at 2 := ⟨by decide +kernel, rfl, Nat.le_of_ble_eq_true rfl, ⟨by decide, by decide, by decide +kernel⟩, wd_137, wd_127⟩
theorem jX7_tear : pm_J mX7_tear 1 := ⟨by decide +kernel, rfl, Nat.le_of_ble_eq_true rfl, ⟨by decide, by decide, by decide +kernel⟩, wd_138, wd_127⟩
theorem jX7_copy : pm_J mX7_copy 5 := ⟨by decide +kernel, rfl, Nat.le_of_ble_eq_true rfl, ⟨by decide, by decide, by decide +kernel⟩, wd_139, wd_127⟩
theorem jX7_mean : pm_J mX7_mean 1 := ⟨by decide +kernel, rfl, Nat.le_of_ble_eq_true rfl, ⟨by decide, by decide, by decide +kernel⟩, wd_140, wd_127⟩
theorem jX7_text : pm_J mX7_text 2 := ⟨by decide +kernel, rfl, Nat.le_of_ble_eq_true rfl, ⟨by decide, by decide, by decide +kernel⟩, wd_141, wd_127⟩
theorem jX7_put : pm_J mX7_put 3 := ⟨by decide +kernel, rfl, Nat.le_of_ble_eq_true rfl, ⟨by decide, by decide, by decide +kernel⟩, wd_142, wd_127⟩
theorem jX7_byteAt : pm_J mX7_byteAt 1 := ⟨by decide +kernel, rfl, Nat.le_of_ble_eq_true rfl, ⟨by decide, by decide, by decide +kernel⟩, wd_143, wd_127⟩
theorem jX7_blanks : pm_J mX7_blanks 0 := ⟨by decide +kernel, rfl, Nat.le_of_ble_eq_true rfl, ⟨by decide, by decide, by decide +kernel⟩, wd_144, wd_127⟩
theorem jX7_figure : pm_J mX7_figure 2 := ⟨by decide +kernel, rfl, Nat.le_of_ble_eq_true rfl, ⟨by decide, by decide, by decide +kernel⟩, wd_145, wd_127⟩
theorem jX7_kindBy : pm_J mX7_kindBy 1 := ⟨by decide +kernel, rfl, Nat.le_of_ble_eq_true rfl, ⟨by decide, by decide, by decide +kernel⟩, wd_146, wd_127⟩
theorem jX7_hillItem : pm_J mX7_hillItem 0 := ⟨by decide +kernel, rfl, Nat.le_of_ble_eq_true rfl, ⟨by decide, by decide, by decide +kernel⟩, wd_147, wd_127⟩
theorem jX7_tentsItem : pm_J mX7_tentsItem 0 := ⟨by decide +kernel, rfl, Nat.le_of_ble_eq_true rfl, ⟨by decide, by decide, by decide +kernel⟩, wd_148, wd_127⟩
theorem jX7_readAll : pm_J mX7_readAll 1 := ⟨by decide +kernel, rfl, Nat.le_of_ble_eq_true rfl, ⟨by decide, by decide, by decide +kernel⟩, wd_149, wd_127⟩
theorem jX7_fault : pm_J mX7_fault 1 := ⟨by decide +kernel, rfl, Nat.le_of_ble_eq_true rfl, ⟨by decide, by decide, by decide +kernel⟩, wd_150, wd_127⟩
theorem jX7_camp : pm_J mX7_camp 1 := ⟨by decide +kernel, rfl, Nat.le_of_ble_eq_true rfl, ⟨by decide, by decide, by decide +kernel⟩, wd_151, wd_127⟩
theorem jX7_isBare : pm_J mX7_isBare 1 := ⟨by decide +kernel, rfl, Nat.le_of_ble_eq_true rfl, ⟨by decide, by decide, by decide +kernel⟩, wd_152, wd_127⟩
theorem jX7_isWooded : pm_J mX7_isWooded 1 := ⟨by decide +kernel, rfl, Nat.le_of_ble_eq_true rfl, ⟨by decide, by decide, by decide +kernel⟩, wd_153, wd_127⟩
theorem jX7_view : pm_J mX7_view 3 := ⟨by decide +kernel, rfl, Nat.le_of_ble_eq_true rfl, ⟨by decide, by decide, by decide +kernel⟩, wd_154, wd_127⟩
theorem jX7_seenBy : pm_J mX7_seenBy 4 := ⟨by decide +kernel, rfl, Nat.le_of_ble_eq_true rfl, ⟨by decide, by decide, by decide +kernel⟩, wd_155, wd_127⟩
theorem jX7_sumBy : pm_J mX7_sumBy 4 := ⟨by decide +kernel, rfl, Nat.le_of_ble_eq_true rfl, ⟨by decide, by decide, by decide +kernel⟩, wd_156, wd_127⟩
theorem jX7_wordOf : pm_J mX7_wordOf 1 := ⟨by decide +kernel, rfl, Nat.le_of_ble_eq_true rfl, ⟨by decide, by decide, by decide +kernel⟩, wd_157, wd_127⟩
theorem jX7_seenFrom : pm_J mX7_seenFrom 2 := ⟨by decide +kernel, rfl, Nat.le_of_ble_eq_true rfl, ⟨by decide, by decide, by decide +kernel⟩, wd_158, wd_127⟩
theorem jX7_sumFrom : pm_J mX7_sumFrom 2 := ⟨by decide +kernel, rfl, Nat.le_of_ble_eq_true rfl, ⟨by decide, by decide, by decide +kernel⟩, wd_159, wd_127⟩
theorem jX7_wordFrom : pm_J mX7_wordFrom 2 := ⟨by decide +kernel, rfl, Nat.le_of_ble_eq_true rfl, ⟨by decide, by decide, by decide +kernel⟩, wd_160, wd_127⟩
theorem jX7_aside : pm_J mX7_aside 0 := ⟨by decide +kernel, rfl, Nat.le_of_ble_eq_true rfl, ⟨by decide, by decide, by decide +kernel⟩, wd_161, wd_127⟩
theorem jX7_say : pm_J mX7_say 3 := ⟨by decide +kernel, rfl, Nat.le_of_ble_eq_true rfl, ⟨by decide, by decide, by decide +kernel⟩, wd_162, wd_127⟩
theorem jX7_cursedAside : pm_J mX7_cursedAside 0 := ⟨by decide +kernel, rfl, Nat.le_of_ble_eq_true rfl, ⟨by decide, by decide, by decide +kernel⟩, wd_163, wd_127⟩
theorem jX7_exchange : pm_J mX7_exchange 2 := ⟨by decide +kernel, rfl, Nat.le_of_ble_eq_true rfl, ⟨by decide, by decide, by decide +kernel⟩, wd_164, wd_127⟩
theorem jX7_feeOf : pm_J mX7_feeOf 1 := ⟨by decide +kernel, rfl, Nat.le_of_ble_eq_true rfl, ⟨by decide, by decide, by decide +kernel⟩, wd_165, wd_127⟩
theorem jX7_goThrough : pm_J mX7_goThrough 0 := ⟨by decide +kernel, rfl, Nat.le_of_ble_eq_true rfl, ⟨by decide, by decide, by decide +kernel⟩, wd_166, wd_127⟩
theorem jX7_hill : pm_J mX7_hill 2 := ⟨by decide +kernel, rfl, Nat.le_of_ble_eq_true rfl, ⟨by decide, by decide, by decide +kernel⟩, wd_167, wd_127⟩
theorem jX7_tent : pm_J mX7_tent 2 := ⟨by decide +kernel, rfl, Nat.le_of_ble_eq_true rfl, ⟨by decide, by decide, by decide +kernel⟩, wd_168, wd_127⟩
theorem jX7_mark : pm_J mX7_mark 2 := ⟨by decide +kernel, rfl, Nat.le_of_ble_eq_true rfl, ⟨by decide, by decide, by decide +kernel⟩, wd_169, wd_127⟩
theorem jX7_doIt : pm_J mX7_doIt 1 := ⟨by decide +kernel, rfl, Nat.le_of_ble_eq_true rfl, ⟨by decide, by decide, by decide +kernel⟩, wd_170, wd_127⟩
theorem jX7_speak : pm_J mX7_speak 1 := ⟨by decide +kernel, rfl, Nat.le_of_ble_eq_true rfl, ⟨by decide, by decide, by decide +kernel⟩, wd_171, wd_127⟩
theorem jX7_day : pm_J mX7_day 0 := ⟨by decide +kernel, rfl, Nat.le_of_ble_eq_true rfl, ⟨by decide, by decide, by decide +kernel⟩, wd_172, wd_127⟩
theorem jX7_change : pm_J mX7_change 2 := ⟨by decide +kernel, rfl, Nat.le_of_ble_eq_true rfl, ⟨by decide, by decide, by decide +kernel⟩, wd_173, wd_127⟩
theorem jX7_blessing : pm_J mX7_blessing 0 := ⟨by decide +kernel, rfl, Nat.le_of_ble_eq_true rfl, ⟨by decide, by decide, by decide +kernel⟩, wd_174, wd_127⟩
theorem jX7_undo : pm_J mX7_undo 1 := ⟨by decide +kernel, rfl, Nat.le_of_ble_eq_true rfl, ⟨by decide, by decide, by decide +kernel⟩, wd_175, wd_127⟩
theorem jX7_keep : pm_J mX7_keep 1 := ⟨by decide +kernel, rfl, Nat.le_of_ble_eq_true rfl, ⟨by decide, by decide, by decide +kernel⟩, wd_176, wd_127⟩
theorem jX7_on : pm_J mX7_on 1 := ⟨by decide +kernel, rfl, Nat.le_of_ble_eq_true rfl, ⟨by decide, by decide, by decide +kernel⟩, wd_177, wd_127⟩
theorem jX7_only : pm_J mX7_only 2 := ⟨by decide +kernel, rfl, Nat.le_of_ble_eq_true rfl, ⟨by decide, by decide, by decide +kernel⟩, wd_178, wd_127⟩
theorem jX7_seenFromAny : pm_J mX7_seenFromAny 1 := ⟨by decide +kernel, rfl, Nat.le_of_ble_eq_true rfl, ⟨by decide, by decide, by decide +kernel⟩, wd_179, wd_127⟩
theorem jX7_hidden : pm_J mX7_hidden 0 := ⟨by decide +kernel, rfl, Nat.le_of_ble_eq_true rfl, ⟨by decide, by decide, by decide +kernel⟩, wd_180, wd_127⟩
theorem jX7_fewest : pm_J mX7_fewest 0 := ⟨by decide +kernel, rfl, Nat.le_of_ble_eq_true rfl, ⟨by decide, by decide, by decide +kernel⟩, wd_181, wd_127⟩
theorem jX7_waits : pm_J mX7_waits 2 := ⟨by decide +kernel, rfl, Nat.le_of_ble_eq_true rfl, ⟨by decide, by decide, by decide +kernel⟩, wd_182, wd_127⟩
theorem jX7_firstOrder : pm_J mX7_firstOrder 0 := ⟨by decide +kernel, rfl, Nat.le_of_ble_eq_true rfl, ⟨by decide, by decide, by decide +kernel⟩, wd_183, wd_127⟩
theorem jX7_nextOrder : pm_J mX7_nextOrder 0 := ⟨by decide +kernel, rfl, Nat.le_of_ble_eq_true rfl, ⟨by decide, by decide, by decide +kernel⟩, wd_184, wd_127⟩
theorem jX7_cursedBy : pm_J mX7_cursedBy 0 := ⟨by decide +kernel, rfl, Nat.le_of_ble_eq_true rfl, ⟨by decide, by decide, by decide +kernel⟩, wd_185, wd_127⟩
theorem jX7_bestOrder : pm_J mX7_bestOrder 2 := ⟨by decide +kernel, rfl, Nat.le_of_ble_eq_true rfl, ⟨by decide, by decide, by decide +kernel⟩, wd_186, wd_127⟩
theorem jX7_curse : pm_J mX7_curse 1 := ⟨by decide +kernel, rfl, Nat.le_of_ble_eq_true rfl, ⟨by decide, by decide, by decide +kernel⟩, wd_187, wd_127⟩
theorem jX7_spare : pm_J mX7_spare 1 := ⟨by decide +kernel, rfl, Nat.le_of_ble_eq_true rfl, ⟨by decide, by decide, by decide +kernel⟩, wd_188, wd_127⟩
theorem jX7_orders : pm_J mX7_orders 1 := ⟨by decide +kernel, rfl, Nat.le_of_ble_eq_true rfl, ⟨by decide, by decide, by decide +kernel⟩, wd_189, wd_127⟩
theorem jX7_rides : pm_J mX7_rides 1 := ⟨by decide +kernel, rfl, Nat.le_of_ble_eq_true rfl, ⟨by decide, by decide, by decide +kernel⟩, wd_190, wd_127⟩
theorem jX7_areBlessed : pm_J mX7_areBlessed 0 := ⟨by decide +kernel, rfl, Nat.le_of_ble_eq_true rfl, ⟨by decide, by decide, by decide +kernel⟩, wd_191, wd_127⟩
theorem jX7_blessed : pm_J mX7_blessed 0 := ⟨by decide +kernel, rfl, Nat.le_of_ble_eq_true rfl, ⟨by decide, by decide, by decide +kernel⟩, wd_192, wd_127⟩
theorem jX7_fees : pm_J mX7_fees 4 := ⟨by decide +kernel, rfl, Nat.le_of_ble_eq_true rfl, ⟨by decide, by decide, by decide +kernel⟩, wd_193, wd_127⟩
theorem jX7_wrongNotes : pm_J mX7_wrongNotes 1 := ⟨by decide +kernel, rfl, Nat.le_of_ble_eq_true rfl, ⟨by decide, by decide, by decide +kernel⟩, wd_194, wd_127⟩
theorem jX7_areNotes : pm_J mX7_areNotes 3 := ⟨by decide +kernel, rfl, Nat.le_of_ble_eq_true rfl, ⟨by decide, by decide, by decide +kernel⟩, wd_195, wd_127⟩
theorem jX7_from : pm_J mX7_from 1 := ⟨by decide +kernel, rfl, Nat.le_of_ble_eq_true rfl, ⟨by decide, by decide, by decide +kernel⟩, wd_196, wd_127⟩
theorem jX7_kinds : pm_J mX7_kinds 2 := ⟨by decide +kernel, rfl, Nat.le_of_ble_eq_true rfl, ⟨by decide, by decide, by decide +kernel⟩, wd_197, wd_127⟩
theorem jX7_given : pm_J mX7_given 3 := ⟨by decide +kernel, rfl, Nat.le_of_ble_eq_true rfl, ⟨by decide, by decide, by decide +kernel⟩, wd_198, wd_127⟩
theorem jX7_hold : pm_J mX7_hold 0 := ⟨by decide +kernel, rfl, Nat.le_of_ble_eq_true rfl, ⟨by decide, by decide, by decide +kernel⟩, wd_199, wd_127⟩
theorem jX7_held : pm_J mX7_held 0 := ⟨by decide +kernel, rfl, Nat.le_of_ble_eq_true rfl, ⟨by decide, by decide, by decide +kernel⟩, wd_200, wd_127⟩
theorem jX7_lastTurn : pm_J mX7_lastTurn 0 := ⟨by decide +kernel, rfl, Nat.le_of_ble_eq_true rfl, ⟨by decide, by decide, by decide +kernel⟩, wd_201, wd_127⟩
theorem jX7_king : pm_J mX7_king 1 := ⟨by decide +kernel, rfl, Nat.le_of_ble_eq_true rfl, ⟨by decide, by decide, by decide +kernel⟩, wd_202, wd_127⟩
theorem jX7_tell : pm_J mX7_tell 2 := ⟨by decide +kernel, rfl, Nat.le_of_ble_eq_true rfl, ⟨by decide, by decide, by decide +kernel⟩, wd_203, wd_127⟩
theorem jX7_odds : pm_J mX7_odds 2 := ⟨by decide +kernel, rfl, Nat.le_of_ble_eq_true rfl, ⟨by decide, by decide, by decide +kernel⟩, wd_204, wd_127⟩
theorem jX7_mid : pm_J mX7_mid 1 := ⟨by decide +kernel, rfl, Nat.le_of_ble_eq_true rfl, ⟨by decide, by decide, by decide +kernel⟩, wd_205, wd_127⟩
theorem jX7_lots : pm_J mX7_lots 2 := ⟨by decide +kernel, rfl, Nat.le_of_ble_eq_true rfl, ⟨by decide, by decide, by decide +kernel⟩, wd_206, wd_127⟩
theorem jX7_asked : pm_J mX7_asked 0 := ⟨by decide +kernel, rfl, Nat.le_of_ble_eq_true rfl, ⟨by decide, by decide, by decide +kernel⟩, wd_207, wd_127⟩
theorem jX7_upper : pm_J mX7_upper 0 := ⟨by decide +kernel, rfl, Nat.le_of_ble_eq_true rfl, ⟨by decide, by decide, by decide +kernel⟩, wd_208, wd_127⟩
theorem jX7_lower : pm_J mX7_lower 0 := ⟨by decide +kernel, rfl, Nat.le_of_ble_eq_true rfl, ⟨by decide, by decide, by decide +kernel⟩, wd_209, wd_127⟩
theorem jX7_tentsThat : pm_J mX7_tentsThat 1 := ⟨by decide +kernel, rfl, Nat.le_of_ble_eq_true rfl, ⟨by decide, by decide, by decide +kernel⟩, wd_210, wd_127⟩
theorem jX7_counted : pm_J mX7_counted 1 := ⟨by decide +kernel, rfl, Nat.le_of_ble_eq_true rfl, ⟨by decide, by decide, by decide +kernel⟩, wd_211, wd_127⟩
theorem jX7_count : pm_J mX7_count 1 := ⟨by decide +kernel, rfl, Nat.le_of_ble_eq_true rfl, ⟨by decide, by decide, by decide +kernel⟩, wd_212, wd_127⟩
theorem jX7_finding : pm_J mX7_finding 0 := ⟨by decide +kernel, rfl, Nat.le_of_ble_eq_true rfl, ⟨by decide, by decide, by decide +kernel⟩, wd_213, wd_127⟩
theorem jX7_findings : pm_J mX7_findings 1 := ⟨by decide +kernel, rfl, Nat.le_of_ble_eq_true rfl, ⟨by decide, by decide, by decide +kernel⟩, wd_214, wd_127⟩
theorem jX7_digest : pm_J mX7_digest 0 := ⟨by decide +kernel, rfl, Nat.le_of_ble_eq_true rfl, ⟨by decide, by decide, by decide +kernel⟩, wd_215, wd_127⟩
theorem jJ6_bitCount_0f7a4 : pm_J mJ6_bitCount_0f7a4 1 := ⟨by decide +kernel, rfl, Nat.le_of_ble_eq_true rfl, ⟨by decide, by decide, by decide +kernel⟩, wd_216, wd_217⟩
