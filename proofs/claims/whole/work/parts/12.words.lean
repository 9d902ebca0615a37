/-! THE WORDS that the instructions stand on, by their places in lw_tbl -/
def jonL : List String := ["RoundTrips$Alarms", "RoundTrips$Book", "RoundTrips$Closers", "RoundTrips$History", "RoundTrips$Narrowest", "RoundTrips$Parts", "RoundTrips$Reader", "RoundTrips$Rounds", "RoundTrips$Ways", "RoundTrips", "RoundTripsModel", "RoundTrips$Hunt", "RoundTripsLaw", "java/lang/Integer", "java/util/Arrays", "java/lang/Float"]
def jon (i : Nat) : String := jonL.getD i ""
def jyT : List (List MethodName) := [[yX0_init, yX0_wipe, yX0_has, yX0_note, yX0_headOf, yX0_find, yX0_begin, yX0_widen, yX0_membersOf, yX0_beginCall, yX0_callOnce, yX0_accountOf, yX0_sizeOf, yX0_allOfTwo, yX0_countWith, yX0_roundsWith, yX0_roundsWithout, yX0_clusterSet],
  [yX0_clusterOf, yX0_clusters, yX0_allMeet, yX0_fewestInAll, yX1_init, yX1_wipe, yX1_copy, yX1_boundCanBe, yX1_hasAccount, yX1_hasTransfer, yX1_isTrusted, yX1_insert, yX1_removeAt, yX1_merge, yX1_mergedName, yX1_moveTransfer, yX1_fits, yX1_stepsFrom],
  [yX1_allAmounts, yX1_isAt, yX1_countAt, yX1_amountAt, yX1_lowestHeld, yX1_countUntil, yX1_joinsFunnel, yX1_funnelCount, yX1_funnelAmount, yX1_isFunnel, yX2_init, yX2_countFor, yX2_meet, yX3_init, yX3_keepAct, yX3_undoLatest, yX3_keepMark, yX3_takeMark],
  [yX4_init, yX4_hunt, yX4_extend, yX5_init, yX5_leastBy, yX5_meet, yX6_init, yX6_lay, yX6_together, yX6_leastOf, yX6_sizeOf, yX6_countFrom, yX6_greatest, yX7_init, yX7_append, yX7_read, yX7_readNames, yX7_readNewName],
  [yX7_readPay, yX7_readTrust, yX7_readBound, yX7_failed, yX7_stands, yX7_takeSign, yX7_takeAt, yX7_takeNumber, yX7_takeAccount, yX7_knownAccount, yX7_accountNamed, yX7_isName, yX7_numberValue, yX7_advance, yX7_readWord, yX7_readNumber, yX7_keywordHere, yX7_byteAt],
  [yX7_isLetter, yX7_isDigit, yX8_init, yX8_gather, yX8_meet, yX8_widen, yX8_countIn, yX8_net, yX8_ringOf, yX8_hopOf, yX8_transferAt, yX8_lastOf, yX8_lengthOf, yX8_alarmAt, yX8_firstTime, yX8_lastTime, yX8_spanOf, yX8_flowOf],
  [yX8_keptOf, yX8_paceOf, yX8_busiest, yX8_greatestFlow, yX8_greatestPace, yX8_leastKept, yX8_closedBy, yX8_closedBetween, yX8_alarmsBetween, yX8_peakTime, yX8_tallyAlarm, yX8_apartIn, yX8_isApart, yX8_hingeOf, yX9_init, yX9_walk, yX9_go, yX9_arrive],
  [yX9_transferAt, yX10_init, yX10_status, yX10_feed, yX10_load, yX10_fault, yX10_many, yX10_bounds, yX10_transfer, yX10_account, yX10_add, yX10_pay, yX10_strike, yX10_trust, yX10_bound, yX10_join, yX10_undo, yX10_mark],
  [yX10_back, yX10_round, yX10_hop, yX10_alarm, yX10_ring, yX10_closed, yX10_would, yX10_top, yX10_left, yX10_cluster, yX10_hinge, yX10_standing, yX10_peak, yX10_ranked, yX10_soonest, yX10_step, yX10_most, yX10_reach],
  [yX10_chain, yX10_part, yX10_parts, yX10_freeze, yX10_without, yX10_heat, yX10_funnel, yX10_funnels, yX10_until, yX10_need, yX10_answer, yX10_none, yX10_refuse, yX10_known, yX10_outside, yX10_notTime, yX10_beginAct, yX10_freshRounds],
  [yX10_whyNoTransfer, yX10_walk, yX10_walkAnywhere, yX10_heatOf, yX10_placeByHeat, yX10_leastRate, yX10_bitsOf, yX10_lowestBit, yX11_init, yX11_status, yX11_refuse, yX11_isSo, yX11_gives, yX11_isFrom, yX11_has, yX11_bits, yX11_of, yX11_copies],
  [yX11_begins, yX11_bound0, yX11_at, yX11_from, yX11_to, yX11_time, yX11_amount, yX11_isAccount, yX11_isTransfer, yX11_acted, yX11_comes, yX11_goes, yX11_add, yX11_wrongPay, yX11_pay, yX11_strike, yX11_trust, yX11_isBound],
  [yX11_bound, yX11_join, yX11_undo, yX11_mark, yX11_back, yX11_isAs, yX11_isStep, yX11_hop0, yX11_last, yX11_isRound, yX11_goesOn, yX11_ringOf, yX11_isLike, yX11_lays, yX11_isIn, yX11_flow, yX11_takes, yX11_kept],
  [yX11_pace, yX11_feed, yX11_four, yX11_byteAt, yX11_isSmall, yX11_isDigit, yX11_ahead, yX11_key, yX11_fails, yX11_takesOn, yX11_takesSign, yX11_takesNumber, yX11_isName, yX11_nameHere, yX11_named, yX11_accountHere, yX11_someAccounts, yX11_aPay],
  [yX11_aTrust, yX11_aBound, yX11_aLine, yX11_load, yX11_fault, yX11_amounts, yX11_areCouples, yX11_many, yX11_bounds, yX11_inRounds, yX11_closes, yX11_transfer, yX11_roundsOf, yX11_alarmsOf, yX11_leastHad, yX11_sideOf, yX11_account, yX11_round],
  [yX11_hop, yX11_witness, yX11_usesOf, yX11_isApart, yX11_alarm, yX11_ring, yX11_closed, yX11_would, yX11_heatOf, yX11_isAbove, yX11_top, yX11_nets, yX11_left, yX11_togetherWith, yX11_clusterOf, yX11_clusters, yX11_cluster, yX11_hinge],
  [yX11_isStanding, yX11_stand, yX11_standing, yX11_unlikeOf, yX11_peak, yX11_ranked, yX11_heat, yX11_until, yX11_isBetter, yX11_seeks, yX11_seeksAll, yX11_wrongWay, yX11_soonest, yX11_step, yX11_most, yX11_reach, yX11_chain, yX11_comesTo],
  [yX11_partOf, yX11_leastOf, yX11_part, yX11_parts, yX11_leftBy, yX11_freeze, yX11_isHit, yX11_without, yX11_isFunnel, yX11_funnel, yX11_funnels, yX11_need, yJxf58ca_isNaN_12338, yJxf58ca_floatToIntBits_5c35a, yJ6_bitCount_0f7a4, yJ7_copyOf_59c91, yL_law]]
def jy (m : Nat) : MethodName := (jyT.getD (m / 18) []).getD (m % 18) yL_law
def jretT : List (List (Option FieldType)) := [[none, none, some .boolean, some .int, some .int, some .int, some .int, some .boolean, some .int, none, some .boolean, some .int, some .int, some .boolean, some .int, some .int, some .int, some .int],
  [some .int, some .int, some .boolean, some .int, none, none, none, some .boolean, some .boolean, some .boolean, some .boolean, some .int, none, some .int, some .int, none, some .boolean, some .int],
  [some .int, some .boolean, some .int, some .int, some .int, some .int, some .boolean, some .int, some .int, some .boolean, none, some .int, none, none, none, none, none, none],
  [none, none, none, none, some .int, none, none, none, some .boolean, some .int, some .int, some .int, some .int, none, none, none, none, some .boolean],
  [none, none, none, some .boolean, some .boolean, some .boolean, some .boolean, some .int, some .int, some .int, some .int, some .boolean, some .int, none, none, none, some .int, some .int],
  [some .boolean, some .boolean, none, none, none, some .boolean, none, none, some .int, some .int, some .int, some .int, some .int, some .int, some .int, some .int, some .int, some .int],
  [some .float, some .float, some .int, some .int, some .int, some .int, some .int, some .int, some .int, some .int, none, some .int, some .boolean, some .int, none, none, none, none],
  [some .int, none, some .int, some .int, some .int, some .int, some .int, some .int, some .int, some .int, some .int, some .int, some .int, some .boolean, some .int, some .int, some .int, some .int],
  [some .int, some .int, some .int, some .int, some .int, some .int, some .int, some .int, some .int, some .int, some .int, some .int, some .int, some .int, some .int, some .int, some .int, some .int],
  [some .int, some .int, some .int, some .int, some .int, some .int, some .int, some .int, some .int, some .int, some .int, some .int, some .boolean, some .int, some .boolean, some .boolean, none, some (.object "RoundTrips$Rounds")],
  [some .int, some .int, some .int, some .float, some .int, some .int, some .int, some .int, none, some .int, some .int, some .boolean, some .int, some .boolean, some .boolean, some .int, some .int, none],
  [none, some .int, some .int, some .int, some .int, some .int, some .int, some .boolean, some .boolean, none, some .int, none, some .int, some .int, some .int, some .int, some .boolean, some .boolean],
  [some .int, some .int, some .int, some .int, some .int, some .boolean, some .boolean, some .int, some .int, none, none, some .int, some .boolean, none, some .boolean, some .int, some .int, some .float],
  [some .float, some .int, none, some .int, some .boolean, some .boolean, none, some .int, some .boolean, some .boolean, some .boolean, some .boolean, some .boolean, some .int, some .int, some .int, some .boolean, some .boolean],
  [some .boolean, some .boolean, some .boolean, some .int, some .int, some .int, some .boolean, some .int, some .int, some .int, some .int, some .int, some .int, some .int, some .int, some .int, some .int, some .int],
  [some .int, some .int, some .int, some .boolean, some .int, some .int, some .int, some .int, some .float, some .boolean, some .int, some .int, some .int, some .int, some .int, some .int, some .int, some .int],
  [some .boolean, some .int, some .int, some .int, some .int, some .int, some .int, some .int, some .boolean, none, none, some .int, some .int, some .int, some .int, some .int, some .int, some .int],
  [some .int, some .int, some .int, some .int, some .int, some .int, some .boolean, some .int, some .boolean, some .int, some .int, some .int, some .boolean, some .int, some .int, some (.array .int), some .boolean]]
def jret (m : Nat) : (Option FieldType) := (jretT.getD (m / 18) []).getD (m % 18) none
def jstatT : List (List Bool) := [[false, false, false, false, true, false, false, false, true, false, false, false, false, false, false, false, false, false],
  [false, false, false, false, false, false, false, true, false, false, false, false, false, false, true, false, false, false],
  [false, false, false, false, false, false, false, false, false, false, false, false, false, false, false, false, false, false],
  [false, false, true, false, false, false, false, false, false, false, false, false, false, false, false, false, false, false],
  [false, false, false, false, false, false, false, false, false, false, false, false, false, false, false, false, false, false],
  [true, true, false, false, false, false, false, false, false, false, false, false, false, false, false, false, false, false],
  [false, false, false, false, false, false, false, false, false, false, false, false, false, false, false, false, true, false],
  [false, false, false, false, false, false, false, false, false, false, false, false, false, false, false, false, false, false],
  [false, false, false, false, false, false, false, false, false, false, false, false, false, false, false, false, false, false],
  [false, false, false, false, false, false, false, false, false, false, false, false, false, false, true, true, false, false],
  [false, false, false, false, false, false, true, true, false, false, false, false, false, true, true, true, false, false],
  [false, false, true, false, false, false, false, false, false, false, false, false, false, false, false, false, false, true],
  [false, false, false, false, false, false, false, false, false, false, false, false, false, false, false, false, false, false],
  [false, false, false, false, true, true, false, false, false, false, false, false, false, false, false, false, false, false],
  [false, false, false, false, false, false, false, false, false, false, false, false, false, false, false, false, false, false],
  [false, false, false, false, false, false, false, false, false, false, false, false, false, false, false, false, false, false],
  [false, false, false, false, false, false, false, false, false, false, false, false, false, false, false, false, false, false],
  [false, true, false, false, false, false, false, false, false, false, false, false, true, true, true, true, true]]
def jstat (m : Nat) : Bool := (jstatT.getD (m / 18) []).getD (m % 18) false
def jiniT : List (List Bool) := [[true, false, false, false, false, false, false, false, false, false, false, false, false, false, false, false, false, false],
  [false, false, false, false, true, false, false, false, false, false, false, false, false, false, false, false, false, false],
  [false, false, false, false, false, false, false, false, false, false, true, false, false, true, false, false, false, false],
  [true, false, false, true, false, false, true, false, false, false, false, false, false, true, false, false, false, false],
  [false, false, false, false, false, false, false, false, false, false, false, false, false, false, false, false, false, false],
  [false, false, true, false, false, false, false, false, false, false, false, false, false, false, false, false, false, false],
  [false, false, false, false, false, false, false, false, false, false, false, false, false, false, true, false, false, false],
  [false, true, false, false, false, false, false, false, false, false, false, false, false, false, false, false, false, false],
  [false, false, false, false, false, false, false, false, false, false, false, false, false, false, false, false, false, false],
  [false, false, false, false, false, false, false, false, false, false, false, false, false, false, false, false, false, false],
  [false, false, false, false, false, false, false, false, true, false, false, false, false, false, false, false, false, false],
  [false, false, false, false, false, false, false, false, false, false, false, false, false, false, false, false, false, false],
  [false, false, false, false, false, false, false, false, false, false, false, false, false, false, false, false, false, false],
  [false, false, false, false, false, false, false, false, false, false, false, false, false, false, false, false, false, false],
  [false, false, false, false, false, false, false, false, false, false, false, false, false, false, false, false, false, false],
  [false, false, false, false, false, false, false, false, false, false, false, false, false, false, false, false, false, false],
  [false, false, false, false, false, false, false, false, false, false, false, false, false, false, false, false, false, false],
  [false, false, false, false, false, false, false, false, false, false, false, false, false, false, false, false, false]]
def jini (m : Nat) : Bool := (jiniT.getD (m / 18) []).getD (m % 18) false
def jnpT : List (List Nat) := [[0, 0, 1, 4, 1, 1, 1, 0, 1, 0, 1, 2, 1, 0, 1, 1, 1, 1],
  [1, 0, 1, 1, 0, 0, 1, 2, 1, 1, 1, 4, 1, 2, 3, 2, 2, 1],
  [0, 3, 2, 2, 1, 1, 4, 3, 3, 3, 0, 5, 1, 0, 1, 1, 1, 1],
  [0, 0, 3, 0, 3, 1, 0, 3, 2, 1, 1, 1, 0, 0, 1, 1, 0, 0],
  [0, 0, 1, 1, 1, 1, 0, 2, 1, 0, 0, 0, 0, 0, 0, 0, 0, 1],
  [1, 1, 0, 1, 1, 0, 1, 1, 1, 2, 2, 1, 1, 1, 1, 1, 1, 1],
  [1, 1, 0, 0, 0, 0, 2, 2, 2, 0, 1, 1, 1, 1, 0, 4, 4, 2],
  [1, 0, 0, 5, 1, 1, 1, 1, 2, 2, 0, 4, 1, 2, 2, 2, 0, 0],
  [0, 2, 2, 2, 2, 2, 4, 1, 1, 1, 1, 2, 1, 1, 4, 4, 3, 2],
  [2, 3, 3, 0, 1, 1, 3, 2, 2, 1, 1, 1, 1, 1, 3, 1, 0, 0],
  [4, 3, 2, 2, 2, 1, 1, 1, 0, 0, 1, 1, 1, 3, 2, 1, 1, 2],
  [0, 1, 1, 1, 1, 1, 1, 1, 1, 0, 4, 1, 0, 4, 4, 1, 2, 2],
  [2, 2, 0, 0, 0, 2, 2, 2, 1, 2, 2, 2, 2, 0, 2, 1, 1, 1],
  [1, 5, 1, 1, 1, 1, 0, 0, 1, 0, 1, 2, 0, 0, 0, 0, 0, 0],
  [0, 1, 0, 1, 1, 0, 0, 1, 1, 1, 1, 2, 1, 1, 1, 3, 2, 2],
  [2, 1, 1, 1, 2, 2, 2, 4, 1, 3, 1, 0, 1, 1, 1, 0, 1, 1],
  [2, 1, 2, 2, 1, 1, 1, 2, 1, 3, 3, 3, 4, 4, 3, 2, 2, 3],
  [3, 1, 3, 3, 1, 0, 1, 1, 3, 3, 2, 1, 1, 1, 1, 2, 1]]
def jnp (m : Nat) : Nat := (jnpT.getD (m / 18) []).getD (m % 18) 0
def jrtT : List (List Nat) := [[8, 8, 0, 0, 0, 0, 0, 0, 0, 8, 0, 0, 0, 0, 0, 0, 0, 0],
  [0, 0, 0, 0, 8, 8, 8, 0, 0, 0, 0, 0, 8, 0, 0, 8, 0, 0],
  [0, 0, 0, 0, 0, 0, 0, 0, 0, 0, 8, 0, 8, 8, 8, 8, 8, 8],
  [8, 8, 8, 8, 0, 8, 8, 8, 0, 0, 0, 0, 0, 8, 8, 8, 8, 0],
  [8, 8, 8, 0, 0, 0, 0, 0, 0, 0, 0, 0, 0, 8, 8, 8, 0, 0],
  [0, 0, 8, 8, 8, 0, 8, 8, 0, 0, 0, 0, 0, 0, 0, 0, 0, 0],
  [2, 2, 0, 0, 0, 0, 0, 0, 0, 0, 8, 0, 0, 0, 8, 8, 8, 8],
  [0, 8, 0, 0, 0, 0, 0, 0, 0, 0, 0, 0, 0, 0, 0, 0, 0, 0],
  [0, 0, 0, 0, 0, 0, 0, 0, 0, 0, 0, 0, 0, 0, 0, 0, 0, 0],
  [0, 0, 0, 0, 0, 0, 0, 0, 0, 0, 0, 0, 0, 0, 0, 0, 8, 22],
  [0, 0, 0, 2, 0, 0, 0, 0, 8, 0, 0, 0, 0, 0, 0, 0, 0, 8],
  [8, 0, 0, 0, 0, 0, 0, 0, 0, 8, 0, 8, 0, 0, 0, 0, 0, 0],
  [0, 0, 0, 0, 0, 0, 0, 0, 0, 8, 8, 0, 0, 8, 0, 0, 0, 2],
  [2, 0, 8, 0, 0, 0, 8, 0, 0, 0, 0, 0, 0, 0, 0, 0, 0, 0],
  [0, 0, 0, 0, 0, 0, 0, 0, 0, 0, 0, 0, 0, 0, 0, 0, 0, 0],
  [0, 0, 0, 0, 0, 0, 0, 0, 2, 0, 0, 0, 0, 0, 0, 0, 0, 0],
  [0, 0, 0, 0, 0, 0, 0, 0, 0, 8, 8, 0, 0, 0, 0, 0, 0, 0],
  [0, 0, 0, 0, 0, 0, 0, 0, 0, 0, 0, 0, 0, 0, 0, 50, 0]]
def jrt (m : Nat) : Nat := (jrtT.getD (m / 18) []).getD (m % 18) 0
def jmwT : List (List (Nat × Nat × Nat × Nat)) := [[(327, 326, 135, 9999), (734, 732, 135, 733), (846, 844, 135, 845), (835, 833, 135, 834), (842, 841, 135, 9999), (839, 838, 135, 32), (850, 849, 135, 33), (854, 853, 135, 34), (859, 858, 135, 9999), (1145, 1143, 135, 1144), (1149, 1147, 135, 1148), (1065, 1063, 135, 1064), (875, 873, 135, 874), (871, 869, 135, 870), (924, 922, 135, 923), (863, 861, 135, 862), (1275, 1273, 135, 1274), (884, 883, 135, 35)],
  [(1120, 1118, 135, 1119), (880, 878, 135, 879), (1267, 1266, 135, 48), (1262, 1260, 135, 1261), (163, 162, 130, 9999), (168, 166, 130, 167), (704, 702, 130, 703), (684, 683, 130, 9999), (907, 905, 130, 906), (899, 897, 130, 898), (677, 675, 130, 676), (665, 663, 130, 664), (953, 951, 130, 952), (976, 974, 130, 975), (979, 978, 130, 9999), (669, 668, 130, 17), (748, 746, 130, 747), (744, 742, 130, 743)],
  [(867, 865, 130, 866), (915, 914, 130, 36), (911, 909, 130, 910), (919, 917, 130, 918), (928, 926, 130, 927), (1313, 1311, 130, 1312), (1291, 1290, 130, 49), (1287, 1285, 130, 1286), (1295, 1293, 130, 1294), (1299, 1297, 130, 1298), (436, 435, 136, 9999), (1081, 1079, 136, 1080), (767, 766, 136, 9999), (289, 288, 132, 9999), (700, 698, 132, 699), (987, 985, 132, 986), (995, 993, 132, 994), (1003, 1001, 132, 1002)],
  [(319, 318, 133, 9999), (740, 739, 133, 9999), (752, 751, 133, 9999), (453, 452, 137, 9999), (1321, 1319, 137, 1320), (770, 769, 137, 9999), (514, 513, 139, 9999), (1226, 1224, 139, 1225), (1236, 1235, 139, 47), (1232, 1230, 139, 1231), (1249, 1247, 139, 1248), (1244, 1242, 139, 1243), (1253, 1251, 139, 1252), (235, 234, 131, 9999), (565, 563, 131, 564), (577, 575, 131, 576), (688, 687, 131, 20), (692, 691, 131, 21)],
  [(629, 628, 131, 8), (673, 672, 131, 18), (681, 680, 131, 19), (625, 624, 131, 7), (621, 620, 131, 6), (649, 648, 131, 13), (661, 660, 131, 16), (653, 652, 131, 14), (633, 632, 131, 9), (637, 636, 131, 10), (645, 644, 131, 12), (641, 640, 131, 11), (657, 656, 131, 15), (588, 587, 131, 1), (599, 598, 131, 3), (617, 616, 131, 5), (603, 602, 131, 4), (592, 591, 131, 2)],
  [(595, 594, 131, 9999), (613, 612, 131, 9999), (316, 315, 134, 9999), (729, 727, 134, 728), (773, 772, 134, 9999), (777, 776, 134, 25), (794, 793, 134, 26), (810, 809, 134, 29), (815, 814, 134, 30), (1035, 1033, 134, 1034), (802, 801, 134, 27), (806, 805, 134, 28), (798, 796, 134, 797), (1015, 1013, 134, 1014), (827, 825, 134, 826), (823, 821, 134, 822), (819, 818, 134, 31), (831, 829, 134, 830)],
  [(1019, 1017, 134, 1018), (1027, 1025, 134, 1026), (1094, 1092, 134, 1093), (1098, 1096, 134, 1097), (1102, 1100, 134, 1101), (1107, 1105, 134, 1106), (1073, 1071, 134, 1072), (1137, 1135, 134, 1136), (1141, 1139, 134, 1140), (1157, 1155, 134, 1156), (1053, 1052, 134, 40), (1049, 1047, 134, 1048), (1057, 1056, 134, 41), (1128, 1126, 134, 1127), (467, 466, 138, 9999), (1182, 1180, 138, 1181), (1187, 1186, 138, 9999), (1191, 1190, 138, 45)],
  [(1202, 1200, 138, 1201), (155, 154, 129, 9999), (557, 555, 129, 556), (561, 559, 129, 560), (569, 567, 129, 568), (717, 715, 129, 716), (721, 719, 129, 720), (888, 886, 129, 887), (895, 893, 129, 894), (903, 901, 129, 902), (933, 931, 129, 932), (937, 935, 129, 936), (949, 947, 129, 948), (957, 955, 129, 956), (965, 963, 129, 964), (970, 968, 129, 969), (983, 981, 129, 982), (991, 989, 129, 990)],
  [(999, 997, 129, 998), (1007, 1005, 129, 1006), (1031, 1029, 129, 1030), (1043, 1041, 129, 1042), (1061, 1059, 129, 1060), (1069, 1067, 129, 1068), (1077, 1075, 129, 1076), (1090, 1088, 129, 1089), (1112, 1110, 129, 1111), (1116, 1114, 129, 1115), (1124, 1122, 129, 1123), (1133, 1131, 129, 1132), (1153, 1151, 129, 1152), (1162, 1160, 129, 1161), (1174, 1172, 129, 1173), (1198, 1196, 129, 1197), (1206, 1204, 129, 1205), (1210, 1208, 129, 1209)],
  [(1218, 1216, 129, 1217), (1222, 1220, 129, 1221), (1240, 1238, 129, 1239), (1258, 1256, 129, 1257), (1271, 1269, 129, 1270), (1279, 1277, 129, 1278), (1283, 1281, 129, 1282), (1305, 1303, 129, 1304), (1309, 1307, 129, 1308), (1317, 1315, 129, 1316), (713, 712, 129, 23), (573, 572, 129, 0), (961, 960, 129, 38), (1039, 1038, 129, 39), (891, 890, 129, 9999), (944, 943, 129, 9999), (696, 695, 129, 22), (725, 724, 129, 24)],
  [(941, 940, 129, 37), (1178, 1177, 129, 44), (1214, 1213, 129, 46), (1170, 1169, 129, 43), (1166, 1165, 129, 42), (1330, 1329, 129, 50), (1022, 1021, 129, 9999), (755, 754, 129, 9999), (1335, 1334, 140, 9999), (1458, 1456, 140, 1457), (1470, 1469, 140, 53), (1528, 1527, 140, 63), (1482, 1481, 140, 56), (1493, 1492, 140, 9999), (1531, 1530, 140, 9999), (1988, 1987, 140, 9999), (1466, 1465, 140, 52), (1478, 1477, 140, 55)],
  [(1341, 1340, 140, 51), (1542, 1541, 140, 64), (1508, 1507, 140, 9999), (1552, 1551, 140, 65), (1556, 1555, 140, 66), (1505, 1504, 140, 60), (1728, 1727, 140, 88), (1497, 1496, 140, 58), (1516, 1515, 140, 61), (1474, 1473, 140, 54), (1501, 1500, 140, 59), (1520, 1519, 140, 62), (1462, 1460, 140, 1461), (1490, 1489, 140, 57), (1486, 1484, 140, 1485), (1512, 1510, 140, 1511), (1524, 1522, 140, 1523), (1538, 1537, 140, 9999)],
  [(1535, 1533, 140, 1534), (1546, 1544, 140, 1545), (1560, 1558, 140, 1559), (1564, 1562, 140, 1563), (1568, 1566, 140, 1567), (1732, 1731, 140, 89), (1724, 1723, 140, 87), (1744, 1743, 140, 92), (1788, 1787, 140, 101), (1720, 1719, 140, 86), (1716, 1715, 140, 85), (1740, 1739, 140, 91), (1736, 1735, 140, 90), (1712, 1711, 140, 84), (1780, 1779, 140, 99), (1816, 1815, 140, 106), (1838, 1837, 140, 109), (1820, 1819, 140, 107)],
  [(1834, 1833, 140, 108), (1572, 1570, 140, 1571), (1576, 1575, 140, 67), (1588, 1587, 140, 69), (1591, 1590, 140, 9999), (1594, 1593, 140, 9999), (1584, 1583, 140, 68), (1603, 1602, 140, 71), (1672, 1671, 140, 76), (1688, 1687, 140, 80), (1684, 1683, 140, 79), (1692, 1691, 140, 81), (1656, 1655, 140, 72), (1668, 1667, 140, 75), (1664, 1663, 140, 74), (1680, 1679, 140, 78), (1660, 1659, 140, 73), (1676, 1675, 140, 77)],
  [(1696, 1695, 140, 82), (1700, 1699, 140, 83), (1599, 1598, 140, 70), (1580, 1578, 140, 1579), (1704, 1702, 140, 1703), (1748, 1747, 140, 93), (1752, 1751, 140, 94), (1708, 1706, 140, 1707), (1768, 1766, 140, 1767), (1776, 1775, 140, 98), (1784, 1783, 140, 100), (1772, 1770, 140, 1771), (1796, 1795, 140, 102), (1800, 1799, 140, 103), (1804, 1803, 140, 104), (1808, 1807, 140, 105), (1792, 1790, 140, 1791), (1812, 1810, 140, 1811)],
  [(1842, 1840, 140, 1841), (1854, 1853, 140, 111), (1850, 1849, 140, 110), (1858, 1857, 140, 112), (1846, 1844, 140, 1845), (1862, 1860, 140, 1861), (1866, 1864, 140, 1865), (1870, 1868, 140, 1869), (1922, 1921, 140, 118), (1878, 1877, 140, 113), (1874, 1872, 140, 1873), (1764, 1763, 140, 97), (1882, 1880, 140, 1881), (1760, 1759, 140, 96), (1890, 1889, 140, 114), (1756, 1755, 140, 95), (1886, 1884, 140, 1885), (1894, 1892, 140, 1893)],
  [(1906, 1905, 140, 116), (1902, 1901, 140, 115), (1898, 1896, 140, 1897), (1910, 1909, 140, 117), (1914, 1912, 140, 1913), (1918, 1916, 140, 1917), (1926, 1924, 140, 1925), (1930, 1928, 140, 1929), (1950, 1949, 140, 122), (1946, 1945, 140, 121), (1942, 1941, 140, 120), (1938, 1937, 140, 119), (1934, 1932, 140, 1933), (1954, 1952, 140, 1953), (1958, 1956, 140, 1957), (1962, 1960, 140, 1961), (1966, 1964, 140, 1965), (1978, 1977, 140, 124)],
  [(1974, 1973, 140, 123), (1981, 1980, 140, 9999), (1970, 1968, 140, 1969), (1985, 1983, 140, 1984), (2004, 2003, 140, 126), (1992, 1990, 140, 1991), (1996, 1995, 140, 125), (2000, 1998, 140, 1999), (2012, 2011, 140, 127), (2008, 2006, 140, 2007), (2016, 2014, 140, 2015), (2020, 2018, 140, 2019), (1826, 1825, 150, 9999), (1823, 1822, 150, 9999), (758, 757, 148, 9999), (781, 780, 149, 9999), (0, 0, 0, 9999)]]
def jmw (m : Nat) : (Nat × Nat × Nat × Nat) := (jmwT.getD (m / 18) []).getD (m % 18) (9999, 9999, 9999, 9999)
def jtyL : List (Nat → FieldType) := [tyX0, tyX1, tyX2, tyX3, tyX5, tyX6, tyX7, tyX8, tyX9, tyX10, tyX11]
def jty (c : Nat) : Nat → FieldType := jtyL.getD c tyX0
def jFT : List (Nat × Nat × Nat × Nat × Nat × Nat × Nat) := [(0, 11, 0, 0, 1, 331, 0), (0, 15, 0, 0, 2, 332, 0), (0, 18, 0, 0, 3, 333, 0), (0, 21, 0, 0, 4, 334, 0), (0, 24, 0, 0, 5, 335, 0), (0, 27, 0, 0, 6, 338, 0), (0, 30, 0, 0, 7, 340, 0), (0, 33, 0, 0, 8, 341, 0), (0, 36, 0, 0, 9, 343, 0), (0, 39, 0, 0, 0, 329, 0), (0, 71, 0, 0, 10, 344, 0), (1, 9, 1, 1, 3, 185, 0), (1, 15, 1, 1, 4, 191, 0), (1, 18, 1, 1, 5, 196, 0), (1, 21, 1, 1, 6, 203, 0), (1, 24, 1, 1, 7, 207, 0), (1, 30, 1, 1, 0, 169, 0), (1, 34, 1, 1, 1, 174, 0), (1, 37, 1, 1, 2, 178, 0), (2, 7, 2, 2, 0, 388, 389), (2, 23, 2, 2, 4, 438, 0), (2, 27, 2, 2, 5, 439, 0), (2, 33, 2, 2, 1, 393, 394), (3, 11, 3, 3, 0, 294, 0), (3, 17, 3, 3, 1, 295, 0), (3, 21, 3, 3, 2, 296, 0), (3, 29, 3, 3, 3, 297, 0), (3, 38, 3, 3, 4, 299, 0), (11, 12, 11, 11, 0, 385, 0), (11, 18, 11, 11, 1, 392, 0), (11, 22, 11, 11, 3, 402, 0), (11, 25, 1, 1, 7, 209, 0), (11, 28, 11, 11, 2, 399, 0), (11, 32, 1, 1, 2, 181, 0), (11, 39, 1, 1, 3, 188, 0), (11, 46, 1, 1, 4, 194, 0), (11, 56, 1, 1, 5, 200, 0), (11, 63, 1, 1, 1, 175, 0), (4, 9, 4, 4, 0, 390, 391), (4, 25, 1, 1, 7, 208, 0), (4, 29, 4, 4, 4, 455, 0), (4, 36, 1, 1, 5, 199, 0), (4, 39, 4, 4, 1, 395, 396), (4, 42, 4, 4, 2, 400, 401), (5, 9, 5, 5, 0, 516, 0), (5, 15, 1, 1, 0, 170, 0), (5, 27, 5, 5, 1, 517, 0), (5, 28, 1, 1, 2, 179, 0), (5, 31, 1, 1, 5, 197, 0), (5, 34, 1, 1, 3, 186, 0), (5, 41, 1, 1, 4, 192, 0), (6, 12, 6, 6, 0, 239, 0), (6, 18, 6, 6, 2, 243, 0), (6, 22, 6, 6, 3, 245, 0), (6, 25, 6, 6, 4, 247, 0), (6, 29, 6, 6, 5, 248, 0), (6, 33, 6, 6, 1, 241, 0), (6, 45, 6, 6, 6, 249, 0), (6, 51, 6, 6, 7, 250, 0), (6, 54, 6, 6, 10, 253, 0), (6, 60, 6, 6, 8, 251, 0), (6, 67, 6, 6, 11, 254, 0), (6, 101, 1, 1, 0, 173, 0), (6, 104, 6, 6, 12, 255, 0), (6, 108, 1, 1, 2, 182, 0), (6, 131, 1, 1, 1, 177, 0), (6, 141, 1, 1, 7, 211, 0), (6, 145, 6, 6, 9, 252, 0), (7, 9, 7, 7, 5, 370, 0), (7, 15, 7, 7, 6, 371, 0), (7, 18, 7, 7, 7, 372, 0), (7, 21, 7, 7, 8, 374, 0), (7, 24, 7, 7, 9, 376, 0), (7, 27, 7, 7, 10, 378, 0), (7, 30, 7, 7, 11, 380, 0), (7, 36, 7, 7, 13, 383, 0), (7, 40, 7, 7, 0, 386, 387), (7, 50, 7, 7, 4, 368, 0), (7, 54, 7, 7, 12, 381, 0), (7, 60, 1, 1, 6, 204, 0), (7, 94, 7, 7, 1, 397, 398), (7, 119, 1, 1, 3, 189, 0), (7, 122, 1, 1, 5, 202, 0), (7, 138, 1, 1, 2, 184, 0), (7, 148, 1, 1, 7, 212, 0), (7, 163, 0, 0, 5, 337, 0), (8, 11, 8, 8, 0, 471, 0), (8, 15, 8, 8, 1, 472, 0), (8, 18, 8, 8, 2, 473, 0), (8, 21, 8, 8, 3, 474, 0), (8, 27, 8, 8, 4, 475, 0), (8, 35, 8, 8, 5, 476, 0), (8, 39, 8, 8, 6, 477, 0), (8, 42, 8, 8, 7, 479, 0), (8, 45, 8, 8, 8, 481, 0), (8, 48, 8, 8, 9, 483, 0), (8, 51, 8, 8, 10, 485, 0), (8, 54, 1, 1, 0, 171, 0), (8, 57, 1, 1, 2, 180, 0), (8, 64, 1, 1, 3, 187, 0), (8, 67, 1, 1, 5, 198, 0), (8, 70, 1, 1, 4, 193, 0), (8, 90, 1, 1, 6, 205, 0), (9, 10, 9, 9, 0, 523, 0), (9, 19, 9, 9, 1, 524, 0), (9, 26, 9, 9, 2, 525, 0), (9, 33, 9, 9, 3, 526, 0), (9, 40, 9, 9, 4, 527, 0), (9, 47, 9, 9, 5, 528, 0), (9, 54, 9, 9, 6, 529, 0), (9, 61, 9, 9, 7, 530, 0), (9, 65, 9, 9, 8, 531, 0), (9, 69, 9, 9, 9, 532, 0), (9, 73, 6, 6, 1, 242, 0), (9, 87, 6, 6, 2, 244, 0), (9, 93, 6, 6, 0, 240, 0), (9, 98, 1, 1, 0, 172, 0), (9, 104, 6, 6, 3, 246, 0), (9, 107, 1, 1, 2, 183, 0), (9, 110, 1, 1, 1, 176, 0), (9, 117, 7, 7, 4, 369, 0), (9, 120, 7, 7, 13, 384, 0), (9, 124, 0, 0, 0, 330, 0), (9, 127, 3, 3, 3, 298, 0), (9, 130, 3, 3, 4, 300, 0), (9, 144, 7, 7, 12, 382, 0), (9, 151, 1, 1, 7, 210, 0), (9, 159, 1, 1, 3, 190, 0), (9, 162, 1, 1, 4, 195, 0), (9, 165, 1, 1, 5, 201, 0), (9, 168, 1, 1, 6, 206, 0), (9, 171, 7, 7, 7, 373, 0), (9, 174, 7, 7, 8, 375, 0), (9, 190, 7, 7, 9, 377, 0), (9, 272, 0, 0, 5, 336, 0), (9, 277, 0, 0, 6, 339, 0), (9, 280, 0, 0, 8, 342, 0), (9, 308, 7, 7, 10, 379, 0), (9, 337, 8, 8, 6, 478, 0), (9, 339, 8, 8, 7, 480, 0), (9, 343, 8, 8, 8, 482, 0), (9, 349, 8, 8, 9, 484, 0), (9, 352, 8, 8, 10, 486, 0), (10, 7, 10, 10, 0, 1342, 0), (10, 14, 10, 10, 4, 1346, 0), (10, 17, 10, 10, 5, 1347, 0), (10, 20, 10, 10, 6, 1348, 0), (10, 23, 10, 10, 7, 1349, 0), (10, 26, 10, 10, 8, 1350, 0), (10, 29, 10, 10, 9, 1351, 0), (10, 32, 10, 10, 13, 1355, 0), (10, 36, 10, 10, 14, 1356, 0), (10, 39, 10, 10, 15, 1357, 0), (10, 42, 10, 10, 23, 1365, 0), (10, 46, 10, 10, 24, 1366, 0), (10, 49, 10, 10, 27, 1369, 0), (10, 52, 10, 10, 28, 1370, 0), (10, 55, 10, 10, 29, 1371, 0), (10, 59, 10, 10, 30, 1372, 0), (10, 65, 10, 10, 1, 1343, 0), (10, 68, 10, 10, 12, 1354, 0), (10, 79, 10, 10, 2, 1344, 0), (10, 148, 10, 10, 3, 1345, 0), (10, 160, 10, 10, 10, 1352, 0), (10, 175, 10, 10, 11, 1353, 0), (10, 187, 10, 10, 16, 1358, 0), (10, 193, 10, 10, 17, 1359, 0), (10, 196, 10, 10, 20, 1362, 0), (10, 202, 10, 10, 19, 1361, 0), (10, 205, 10, 10, 18, 1360, 0), (10, 214, 10, 10, 21, 1363, 0), (10, 230, 10, 10, 22, 1364, 0), (10, 243, 10, 10, 26, 1368, 0), (10, 267, 10, 10, 25, 1367, 0), (10, 369, 10, 10, 31, 1373, 0), (10, 372, 10, 10, 33, 1375, 0), (10, 375, 10, 10, 34, 1376, 0), (10, 378, 10, 10, 32, 1374, 0), (10, 413, 10, 10, 35, 1377, 0), (10, 416, 10, 10, 36, 1378, 0)]
def jSITE : List (Nat × Nat × Nat × Nat × Nat) := [(0, 43, 0, 5, 836), (0, 47, 0, 6, 847), (0, 50, 1, 4, 840), (0, 53, 0, 2, 843), (0, 57, 0, 7, 851), (0, 61, 1, 8, 857), (0, 65, 1, 321, 856), (0, 74, 1, 320, 876), (0, 79, 0, 12, 872), (0, 82, 0, 17, 881), (0, 91, 0, 20, 1264), (1, 27, 0, 23, 165), (1, 46, 0, 33, 666), (1, 50, 1, 32, 977), (1, 54, 0, 34, 745), (1, 58, 0, 37, 912), (1, 68, 0, 42, 1288), (1, 72, 0, 43, 1300), (1, 76, 0, 44, 1301), (2, 1, 3, 54, 437), (2, 13, 0, 24, 1082), (2, 19, 0, 29, 1083), (2, 30, 5, 55, 1084), (3, 20, 2, 22, 293), (3, 25, 0, 24, 701), (11, 11, 2, 22, 322), (11, 35, 0, 35, 741), (11, 42, 0, 28, 749), (11, 49, 1, 56, 750), (11, 53, 4, 187, 753), (11, 59, 6, 94, 762), (4, 3, 3, 54, 454), (4, 15, 0, 24, 1322), (4, 21, 1, 25, 1323), (4, 33, 5, 55, 1324), (5, 37, 0, 26, 1228), (5, 44, 0, 62, 1233), (5, 48, 0, 63, 1245), (5, 52, 0, 64, 1246), (6, 11, 2, 22, 238), (6, 48, 0, 23, 584), (6, 57, 0, 85, 585), (6, 63, 0, 76, 618), (6, 70, 0, 72, 626), (6, 73, 0, 73, 670), (6, 76, 0, 74, 678), (6, 80, 0, 70, 685), (6, 83, 0, 71, 689), (6, 87, 0, 77, 646), (6, 91, 0, 83, 638), (6, 94, 0, 75, 622), (6, 97, 0, 82, 642), (6, 111, 0, 80, 630), (6, 115, 0, 79, 650), (6, 118, 0, 78, 658), (6, 121, 0, 29, 662), (6, 125, 0, 81, 634), (6, 128, 0, 28, 674), (6, 134, 0, 84, 654), (6, 137, 1, 25, 682), (6, 148, 0, 89, 589), (6, 151, 1, 90, 593), (6, 154, 0, 86, 596), (6, 157, 1, 91, 611), (6, 160, 0, 87, 614), (6, 163, 0, 88, 600), (7, 3, 3, 54, 317), (7, 35, 3, 0, 325), (7, 44, 0, 24, 730), (7, 57, 0, 1, 731), (7, 63, 5, 55, 735), (7, 66, 0, 96, 791), (7, 70, 0, 97, 807), (7, 73, 0, 98, 812), (7, 77, 0, 106, 816), (7, 80, 0, 107, 828), (7, 83, 0, 3, 832), (7, 87, 0, 15, 860), (7, 90, 0, 95, 774), (7, 98, 1, 321, 779), (7, 104, 0, 102, 795), (7, 107, 0, 100, 799), (7, 111, 0, 101, 803), (7, 125, 0, 105, 820), (7, 128, 0, 104, 824), (7, 131, 0, 109, 1103), (7, 135, 0, 108, 1108), (7, 141, 0, 9, 1142), (7, 144, 0, 10, 1146), (7, 151, 0, 115, 1158), (7, 154, 0, 118, 1050), (7, 157, 0, 120, 1054), (7, 160, 0, 2, 1129), (8, 26, 2, 22, 470), (8, 31, 0, 24, 1183), (8, 60, 0, 35, 1184), (8, 73, 1, 124, 1185), (8, 77, 0, 125, 1188), (8, 81, 4, 187, 1194), (9, 9, 2, 22, 161), (9, 18, 3, 67, 233), (9, 25, 2, 49, 287), (9, 32, 3, 92, 314), (9, 39, 3, 46, 434), (9, 46, 3, 57, 451), (9, 53, 3, 122, 465), (9, 60, 3, 60, 512), (9, 76, 0, 68, 562), (9, 80, 0, 173, 570), (9, 84, 0, 69, 574), (9, 90, 0, 178, 693), (9, 94, 0, 24, 709), (9, 101, 0, 172, 710), (9, 113, 0, 179, 722), (9, 133, 0, 36, 864), (9, 137, 0, 13, 868), (9, 141, 0, 19, 877), (9, 147, 1, 176, 889), (9, 155, 0, 27, 896), (9, 177, 0, 26, 904), (9, 180, 0, 38, 908), (9, 184, 0, 39, 916), (9, 187, 0, 28, 920), (9, 193, 0, 14, 921), (9, 196, 0, 40, 925), (9, 199, 0, 180, 938), (9, 203, 0, 29, 945), (9, 206, 0, 30, 950), (9, 209, 0, 174, 958), (9, 212, 1, 25, 966), (9, 225, 0, 31, 973), (9, 228, 0, 51, 984), (9, 231, 0, 52, 992), (9, 234, 0, 53, 1000), (9, 237, 0, 102, 1008), (9, 240, 0, 104, 1009), (9, 243, 0, 105, 1010), (9, 246, 0, 107, 1011), (9, 249, 0, 103, 1012), (9, 252, 0, 108, 1016), (9, 256, 1, 186, 1020), (9, 260, 0, 109, 1024), (9, 263, 0, 99, 1032), (9, 266, 0, 175, 1036), (9, 269, 0, 2, 1044), (9, 274, 0, 12, 1045), (9, 283, 0, 119, 1046), (9, 286, 0, 11, 1062), (9, 289, 0, 114, 1070), (9, 292, 0, 47, 1078), (9, 296, 0, 110, 1091), (9, 299, 0, 111, 1095), (9, 302, 0, 112, 1099), (9, 305, 0, 113, 1104), (9, 311, 0, 18, 1117), (9, 314, 0, 121, 1125), (9, 317, 1, 177, 942), (9, 320, 0, 115, 1134), (9, 323, 0, 116, 1138), (9, 326, 0, 117, 1154), (9, 329, 0, 184, 1163), (9, 333, 0, 181, 1175), (9, 340, 0, 126, 1199), (9, 346, 0, 182, 1211), (9, 355, 0, 61, 1223), (9, 359, 0, 63, 1229), (9, 362, 0, 65, 1241), (9, 365, 0, 66, 1250), (9, 368, 0, 64, 1254), (9, 369, 0, 21, 1259), (9, 372, 0, 16, 1272), (9, 375, 0, 183, 1167), (9, 379, 0, 43, 1284), (9, 383, 0, 44, 1292), (9, 386, 0, 45, 1296), (9, 390, 0, 41, 1310), (9, 393, 0, 58, 1318), (9, 397, 0, 185, 1327), (9, 400, 0, 50, 697), (9, 403, 0, 93, 726), (9, 406, 0, 123, 1179), (9, 410, 1, 320, 756), (10, 62, 0, 198, 1338), (10, 72, 0, 196, 1463), (10, 76, 1, 200, 1506), (10, 82, 0, 197, 1475), (10, 86, 0, 203, 1502), (10, 89, 0, 190, 1467), (10, 92, 0, 207, 1471), (10, 95, 0, 192, 1479), (10, 98, 1, 193, 1491), (10, 102, 0, 205, 1494), (10, 106, 0, 211, 1487), (10, 110, 0, 208, 1498), (10, 113, 0, 206, 1513), (10, 116, 0, 209, 1517), (10, 120, 0, 191, 1525), (10, 123, 1, 194, 1529), (10, 127, 1, 215, 1536), (10, 130, 0, 199, 1539), (10, 142, 0, 201, 1549), (10, 145, 0, 202, 1553), (10, 151, 0, 204, 1725), (10, 154, 0, 221, 1729), (10, 157, 0, 223, 1741), (10, 163, 0, 225, 1717), (10, 166, 0, 222, 1721), (10, 169, 0, 226, 1713), (10, 172, 0, 227, 1737), (10, 178, 0, 228, 1733), (10, 181, 0, 224, 1785), (10, 184, 0, 232, 1835), (10, 190, 0, 236, 1573), (10, 199, 0, 237, 1585), (10, 208, 1, 238, 1589), (10, 211, 1, 239, 1592), (10, 233, 0, 240, 1581), (10, 236, 0, 243, 1685), (10, 240, 0, 242, 1669), (10, 246, 0, 241, 1600), (10, 249, 0, 247, 1665), (10, 252, 0, 246, 1653), (10, 255, 0, 248, 1661), (10, 258, 0, 249, 1677), (10, 261, 0, 244, 1681), (10, 264, 0, 245, 1689), (10, 270, 0, 250, 1657), (10, 273, 0, 251, 1673), (10, 276, 0, 252, 1693), (10, 279, 0, 253, 1697), (10, 282, 0, 254, 1596), (10, 285, 0, 229, 1709), (10, 288, 0, 257, 1745), (10, 291, 0, 258, 1749), (10, 294, 0, 285, 1753), (10, 297, 0, 281, 1761), (10, 300, 0, 230, 1777), (10, 303, 0, 261, 1773), (10, 306, 0, 262, 1781), (10, 309, 0, 264, 1793), (10, 312, 0, 265, 1797), (10, 315, 0, 266, 1801), (10, 318, 0, 267, 1805), (10, 322, 0, 231, 1813), (10, 325, 0, 233, 1817), (10, 329, 1, 319, 1821), (10, 335, 0, 234, 1831), (10, 338, 0, 272, 1847), (10, 341, 0, 271, 1851), (10, 344, 0, 273, 1855), (10, 347, 0, 279, 1875), (10, 350, 0, 283, 1757), (10, 353, 0, 284, 1887), (10, 356, 0, 288, 1903), (10, 359, 0, 289, 1899), (10, 362, 0, 291, 1907), (10, 366, 0, 278, 1919), (10, 381, 0, 296, 1947), (10, 384, 0, 297, 1943), (10, 388, 0, 298, 1939), (10, 391, 0, 299, 1935), (10, 395, 0, 305, 1975), (10, 398, 0, 306, 1971), (10, 401, 1, 307, 1979), (10, 404, 1, 195, 1986), (10, 407, 0, 312, 1993), (10, 410, 0, 310, 2001), (10, 419, 0, 314, 2009), (15, 59, 1, 318, 1824), (12, 9, 2, 127, 153), (12, 12, 2, 188, 1333), (12, 13, 0, 128, 554), (12, 17, 0, 189, 1455), (12, 18, 0, 129, 558), (12, 22, 0, 235, 1569), (12, 23, 0, 130, 566), (12, 27, 0, 255, 1577), (12, 28, 0, 131, 714), (12, 31, 0, 256, 1701), (12, 32, 0, 132, 718), (12, 35, 0, 259, 1705), (12, 36, 0, 133, 885), (12, 39, 0, 260, 1765), (12, 40, 0, 134, 892), (12, 44, 0, 263, 1769), (12, 45, 0, 135, 900), (12, 48, 0, 268, 1789), (12, 49, 0, 136, 930), (12, 52, 0, 210, 1459), (12, 53, 0, 137, 934), (12, 57, 0, 212, 1483), (12, 58, 0, 138, 946), (12, 61, 0, 213, 1509), (12, 62, 0, 139, 954), (12, 66, 0, 214, 1521), (12, 67, 0, 140, 962), (12, 70, 0, 216, 1532), (12, 71, 0, 141, 967), (12, 74, 0, 217, 1543), (12, 75, 0, 142, 980), (12, 78, 0, 218, 1557), (12, 79, 0, 143, 988), (12, 82, 0, 219, 1561), (12, 83, 0, 144, 996), (12, 86, 0, 220, 1565), (12, 87, 0, 145, 1004), (12, 90, 0, 269, 1809), (12, 91, 0, 146, 1028), (12, 94, 0, 270, 1839), (12, 95, 0, 147, 1040), (12, 98, 0, 274, 1843), (12, 99, 0, 148, 1058), (12, 102, 0, 275, 1859), (12, 103, 0, 149, 1066), (12, 106, 0, 276, 1863), (12, 107, 0, 150, 1074), (12, 110, 0, 277, 1867), (12, 111, 0, 151, 1087), (12, 114, 0, 280, 1871), (12, 115, 0, 152, 1109), (12, 118, 0, 282, 1879), (12, 119, 0, 153, 1113), (12, 122, 0, 286, 1883), (12, 123, 0, 154, 1121), (12, 126, 0, 287, 1891), (12, 127, 0, 155, 1130), (12, 130, 0, 290, 1895), (12, 131, 0, 156, 1150), (12, 134, 0, 292, 1911), (12, 135, 0, 157, 1159), (12, 138, 0, 293, 1915), (12, 139, 0, 158, 1171), (12, 142, 0, 300, 1931), (12, 143, 0, 159, 1195), (12, 146, 0, 301, 1951), (12, 147, 0, 160, 1203), (12, 151, 0, 302, 1955), (12, 152, 0, 161, 1207), (12, 155, 0, 303, 1959), (12, 156, 0, 162, 1215), (12, 159, 0, 304, 1963), (12, 160, 0, 163, 1219), (12, 163, 0, 308, 1967), (12, 164, 0, 164, 1237), (12, 167, 0, 309, 1982), (12, 168, 0, 165, 1255), (12, 171, 0, 311, 1989), (12, 172, 0, 166, 1268), (12, 175, 0, 313, 1997), (12, 176, 0, 167, 1276), (12, 179, 0, 294, 1923), (12, 180, 0, 168, 1280), (12, 183, 0, 315, 2005), (12, 184, 0, 169, 1302), (12, 188, 0, 316, 2013), (12, 189, 0, 170, 1306), (12, 192, 0, 295, 1927), (12, 193, 0, 171, 1314), (12, 196, 0, 317, 2017)]
def jCT : List (Nat × Nat × Nat × Nat × Nat) := [(0, 64, 0, 242792, 855), (6, 166, 3, 16441, 604), (6, 168, 3, 52, 605), (6, 170, 3, 21583476, 606), (6, 172, 3, 781652471, 607), (6, 174, 3, 13403133556, 608), (6, 176, 3, 409203, 609), (6, 178, 3, 230702, 610), (7, 97, 0, 242792, 778), (9, 409, 2, 1258291200, 1023), (10, 13, 0, 60000, 1337), (10, 217, 0, 99999, 1595), (15, 77, 0, 2143289344, 1830), (13, 265, 0, 1431655765, 759), (13, 266, 0, 858993459, 760), (13, 267, 0, 252645135, 761)]
def jNT : List (Nat × Nat × Nat × Nat × Nat × Nat × Nat × Nat) := [(3, 9, 1, 12, 8, 291, 160, 130), (11, 9, 1, 12, 8, 321, 160, 130), (6, 9, 1, 12, 8, 237, 160, 130), (7, 33, 0, 27, 11, 323, 324, 135), (8, 24, 1, 12, 8, 469, 160, 130), (9, 7, 1, 12, 8, 159, 160, 130), (9, 16, 6, 20, 13, 231, 232, 131), (9, 23, 3, 21, 5, 285, 286, 132), (9, 30, 7, 22, 14, 312, 313, 134), (9, 37, 2, 22, 6, 432, 433, 136), (9, 44, 4, 22, 5, 449, 450, 137), (9, 51, 8, 25, 11, 463, 464, 138), (9, 58, 5, 26, 2, 510, 511, 139), (12, 7, 9, 11, 10, 151, 152, 129), (12, 10, 10, 40, 37, 1331, 1332, 140)]
def jJS : List (Nat × Nat × Nat × Nat) := [(0, 3, 4, 328), (0, 85, 1, 1263), (1, 3, 4, 164), (1, 40, 3, 705), (1, 62, 1, 929), (3, 3, 4, 290), (3, 32, 1, 708), (11, 3, 4, 320), (5, 3, 4, 515), (5, 21, 1, 1227), (6, 3, 4, 236), (6, 36, 1, 578), (6, 42, 2, 581), (7, 114, 1, 811), (8, 3, 4, 468), (8, 84, 2, 1192), (8, 93, 3, 1193), (9, 1, 4, 156), (9, 216, 1, 971), (9, 222, 2, 972), (10, 1, 4, 1336), (10, 133, 1, 1547), (10, 139, 2, 1548), (15, 74, 5, 1827), (14, 304, 1, 789), (14, 150, 3, 790)]
def GW : List Cond := lw_tbl.filter goodWord
def jwp (i : Nat) (w : Cond) : Bool := decide (lw_tbl[i]? = some w) && goodWord w
theorem jwp_in {i : Nat} {w : Cond} (h : jwp i w = true) : w ∈ GW := by
  unfold jwp at h
  simp only [Bool.and_eq_true, decide_eq_true_eq] at h
  exact List.mem_filter.mpr ⟨List.mem_of_getElem? h.1, h.2⟩
def jnest : Cond → Bool
  | .methodLinkNest .. => true
  | .declares .. => true
  | .arrayOver .. => true
  | _ => false
def NW : List Cond := lw_tbl.filter jnest
def jwn (i : Nat) (w : Cond) : Bool := decide (lw_tbl[i]? = some w) && jnest w
theorem jwn_in {i : Nat} {w : Cond} (h : jwn i w = true) : w ∈ NW := by
  unfold jwn at h
  simp only [Bool.and_eq_true, decide_eq_true_eq] at h
  exact List.mem_filter.mpr ⟨List.mem_of_getElem? h.1, h.2⟩
/-- the table of a class's fields; 11: Hunt's -/
def jT (c : Nat) : vw_C := cond (Nat.beq c 11) (RX8, TX8, 4) (vwCl.getD c (RX8, TX8, 0))
def jftk (r : Nat × Nat × Nat × Nat × Nat × Nat × Nat) : Bool :=
  match r with
  | (own, idx, ref, c, k, i, j) => Nat.blt k (jT c).2.2 && jwp i (.fieldLink (jon own) idx (jon ref) ((jT c).2.1 k).2.1 ((jT c).2.1 k).2.2.1) &&
      (decide (jon ref = ((jT c).2.1 k).1) || jwp j (.sameField (jon ref) ((jT c).2.1 k).1 ((jT c).2.1 k).2.1 ((jT c).2.1 k).2.2.1))
theorem ft_ok : jFT.all jftk = true := by decide +kernel
def jstk (r : Nat × Nat × Nat × Nat × Nat) : Bool :=
  match r with
  | (own, idx, kind, id, i) => cond (Nat.ble kind 2) (jwp i (.methodLink (jon own) idx (jy id))) (cond (Nat.ble kind 4) (jwn i (.methodLinkNest (jon own) idx (jy id) "RoundTrips"))
      (cond (Nat.beq kind 5) (jwp i (.methodLink (jon own) idx ⟨jon own, "hunt", "()V"⟩)) (jwp i (.methodLink (jon own) idx ⟨"RoundTrips$Hunt", "meet", "(I)V"⟩))))
theorem site_ok : jSITE.all jstk = true := by decide +kernel
def jctk (r : Nat × Nat × Nat × Nat × Nat) : Bool :=
  match r with
  | (own, idx, t, v, i) => cond (Nat.beq t 0) (jwp i (.constant (jon own) idx (Int32.ofInt (v : Int)))) (cond (Nat.beq t 2) (jwp i (.constantFloat (jon own) idx (jf (v : Int)))) (jwp i (.constantLong (jon own) idx (Int64.ofInt (v : Int)))))
theorem ct_ok : jCT.all jctk = true := by decide +kernel
def jntk (r : Nat × Nat × Nat × Nat × Nat × Nat × Nat × Nat) : Bool :=
  match r with
  | (own, idx, c, t, n, i, j, k) => decide (c < 11) && Nat.beq (jT c).2.2 n && Nat.beq (jkt t) 0 && jwp i (.classLink (jon own) idx (jT c).1) && jwp j (.instantiable (jT c).1 n) && jwp k (.initialized (jT c).1)
theorem nt_ok : jNT.all jntk = true := by decide +kernel
def jjsk (r : Nat × Nat × Nat × Nat) : Bool :=
  match r with
  | (own, idx, q, i) => jwp i (.methodLink (jon own) idx (cond (Nat.beq q 1) Lib.Math.min.name (cond (Nat.beq q 2) Lib.Math.max.name (cond (Nat.beq q 3) arraycopyName (cond (Nat.beq q 4) Lib.objectInit ⟨"java/lang/Float", "floatToRawIntBits", "(F)I"⟩)))))
theorem js_ok : jJS.all jjsk = true := by decide +kernel
/-- a method's bytes: those of its word in the tables -/
def jbytes (id : Nat) : ByteArray := cond (Nat.beq id 322) code (match lw_tbl[(jmw id).1]? with
  | some (.code _ b _ _) => b
  | _ => code)
def jcwk (id : Nat) : Bool := match lw_tbl[(jmw id).1]? with
  | some (.code z _ n r) => decide (z = jy id) && decide (n = jnl id) && decide (r = jret id)
  | _ => false
theorem jcw_in {id : Nat} (hid : id ≠ 322) (h : jcwk id = true) : Cond.code (jy id) (jbytes id) (jnl id) (jret id) ∈ GW := by
  unfold jcwk at h
  unfold jbytes
  rw [nbeq_f hid]
  cases hw : lw_tbl[(jmw id).1]? with
  | none => rw [hw] at h; cases h
  | some w =>
    rw [hw] at h
    cases w with
    | code z b n r =>
      dsimp only at h
      simp only [Bool.and_eq_true, decide_eq_true_eq] at h
      obtain ⟨⟨h1, h2⟩, h3⟩ := h
      rw [← h1, ← h2, ← h3]
      exact List.mem_filter.mpr ⟨List.mem_of_getElem? hw, rfl⟩
    | _ => cases h
def jmwk (id : Nat) : Bool :=
  jcwk id && jwp (jmw id).2.1 (cond (jstat id) (.static (jy id)) (.instanceMethod (jy id))) && jwp (jmw id).2.2.1 (.initialized (jy id).cls) &&
  (Nat.beq (jmw id).2.2.2 9999 || jwp (jmw id).2.2.2 (.selects (jy id).cls (jy id) (jy id))) && decide ((jy id).cls = jon (jown id)) && decide ((jy id).cls ≠ "java/lang/invoke/MethodHandle") && decide ((jy id).cls ≠ "java/lang/invoke/VarHandle") &&
  decide ((parseMethodDescriptor (jy id).desc).map (fun d => d.parameters.length) = some (jnp id)) && plainFor (jy id) && (cond (jini id) (decide ((jy id).name = "<init>")) true) && decide (jnl id ≤ 20) && decide (jnp id + 1 ≤ jnl id + cond (jstat id) 1 0)
theorem wh_X8 : jwp 736 (.sameMethod "RoundTrips$Rounds" "RoundTrips$Hunt" "hunt" "()V") = true ∧ jwp 738 (.selects "RoundTrips$Rounds" ⟨"RoundTrips$Rounds", "hunt", "()V"⟩ yX4_hunt) = true := by decide +kernel
theorem wm_X8 : jwp 771 (.selects "RoundTrips$Rounds" ⟨"RoundTrips$Hunt", "meet", "(I)V"⟩ yX8_meet) = true := by decide +kernel
theorem wh_X2 : jwp 1085 (.sameMethod "RoundTrips$Closers" "RoundTrips$Hunt" "hunt" "()V") = true ∧ jwp 1086 (.selects "RoundTrips$Closers" ⟨"RoundTrips$Closers", "hunt", "()V"⟩ yX4_hunt) = true := by decide +kernel
theorem wm_X2 : jwp 765 (.selects "RoundTrips$Closers" ⟨"RoundTrips$Hunt", "meet", "(I)V"⟩ yX2_meet) = true := by decide +kernel
theorem wh_X5 : jwp 1325 (.sameMethod "RoundTrips$Narrowest" "RoundTrips$Hunt" "hunt" "()V") = true ∧ jwp 1326 (.selects "RoundTrips$Narrowest" ⟨"RoundTrips$Narrowest", "hunt", "()V"⟩ yX4_hunt) = true := by decide +kernel
theorem wm_X5 : jwp 768 (.selects "RoundTrips$Narrowest" ⟨"RoundTrips$Hunt", "meet", "(I)V"⟩ yX5_meet) = true := by decide +kernel
theorem wm_same : jwp 764 (.sameMethod "RoundTrips$Hunt" "RoundTrips$Hunt" "meet" "(I)V") = true := by decide +kernel
theorem wm_decl : jwn 763 (.declares ⟨"RoundTrips$Hunt", "meet", "(I)V"⟩) = true := by decide +kernel
theorem w_min : jwp 579 (.static Lib.Math.min.name) = true ∧ jwp 141 (.initialized "java/lang/Math") = true ∧ jwp 580 (.code Lib.Math.min.name Lib.Math.min.code 2 (some .int)) = true := by decide +kernel
theorem w_max : jwp 582 (.static Lib.Math.max.name) = true ∧ jwp 141 (.initialized "java/lang/Math") = true ∧ jwp 583 (.code Lib.Math.max.name Lib.Math.max.code 2 (some .int)) = true := by decide +kernel
theorem w_copy : jwp 707 (.native arraycopyName) = true ∧ jwp 706 (.static arraycopyName) = true ∧ jwp 142 (.initialized "java/lang/System") = true := by decide +kernel
theorem w_obj : jwp 157 (.instanceMethod Lib.objectInit) = true ∧ jwp 158 (.code Lib.objectInit ⟨#[0xb1]⟩ 1 none) = true := by decide +kernel
theorem w_raw : jwp 1829 (.native ⟨"java/lang/Float", "floatToRawIntBits", "(F)I"⟩) = true ∧ jwp 1828 (.static ⟨"java/lang/Float", "floatToRawIntBits", "(F)I"⟩) = true ∧ jwp 150 (.initialized "java/lang/Float") = true := by decide +kernel
theorem w_arr : jwp 230 (.arrayClass .int) = true ∧ jwp 284 (.arrayClass .long) = true ∧ jwp 283 (.arrayClass .byte) = true ∧ jwp 1454 (.arrayClass .boolean) = true := by decide +kernel
theorem w_over : jwn 292 (.arrayOver (.object "RoundTrips$Book")) = true ∧ jwp 291 (.classLink "RoundTrips$History" 9 "RoundTrips$Book") = true := by decide +kernel
theorem mw_ok0 : ((List.range 20).all fun i => jmwk (0 + i)) = true := by decide +kernel
theorem mw_ok20 : ((List.range 20).all fun i => jmwk (20 + i)) = true := by decide +kernel
theorem mw_ok40 : ((List.range 20).all fun i => jmwk (40 + i)) = true := by decide +kernel
theorem mw_ok60 : ((List.range 20).all fun i => jmwk (60 + i)) = true := by decide +kernel
theorem mw_ok80 : ((List.range 20).all fun i => jmwk (80 + i)) = true := by decide +kernel
theorem mw_ok100 : ((List.range 20).all fun i => jmwk (100 + i)) = true := by decide +kernel
theorem mw_ok120 : ((List.range 20).all fun i => jmwk (120 + i)) = true := by decide +kernel
theorem mw_ok140 : ((List.range 20).all fun i => jmwk (140 + i)) = true := by decide +kernel
theorem mw_ok160 : ((List.range 20).all fun i => jmwk (160 + i)) = true := by decide +kernel
theorem mw_ok180 : ((List.range 20).all fun i => jmwk (180 + i)) = true := by decide +kernel
theorem mw_ok200 : ((List.range 20).all fun i => jmwk (200 + i)) = true := by decide +kernel
theorem mw_ok220 : ((List.range 20).all fun i => jmwk (220 + i)) = true := by decide +kernel
theorem mw_ok240 : ((List.range 20).all fun i => jmwk (240 + i)) = true := by decide +kernel
theorem mw_ok260 : ((List.range 20).all fun i => jmwk (260 + i)) = true := by decide +kernel
theorem mw_ok280 : ((List.range 20).all fun i => jmwk (280 + i)) = true := by decide +kernel
theorem mw_ok300 : ((List.range 20).all fun i => jmwk (300 + i)) = true := by decide +kernel
theorem mw_ok320 : ((List.range 2).all fun i => jmwk (320 + i)) = true := by decide +kernel
