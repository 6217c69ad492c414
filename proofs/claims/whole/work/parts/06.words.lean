theorem ab_w1 (k : Nat) {w : Cond} (h : tables_1_1[k]? = some w) (hg : goodWord w = true) : w ∈ ab_tbl := List.mem_filter.mpr ⟨by unfold lw_tbl tables_1; exact List.mem_append_right _ (List.mem_append_left _ (List.mem_of_getElem? h)), hg⟩
theorem ab_w2 (k : Nat) {w : Cond} (h : tables_1_2[k]? = some w) (hg : goodWord w = true) : w ∈ ab_tbl := List.mem_filter.mpr ⟨by unfold lw_tbl tables_1; exact List.mem_append_right _ (List.mem_append_right _ (List.mem_append_left _ (List.mem_of_getElem? h))), hg⟩
theorem ab_w3 (k : Nat) {w : Cond} (h : tables_1_3[k]? = some w) (hg : goodWord w = true) : w ∈ ab_tbl := List.mem_filter.mpr ⟨by unfold lw_tbl tables_1; exact List.mem_append_right _ (List.mem_append_right _ (List.mem_append_right _ (List.mem_append_left _ (List.mem_of_getElem? h)))), hg⟩
theorem ab_w4 (k : Nat) {w : Cond} (h : tables_1_4[k]? = some w) (hg : goodWord w = true) : w ∈ ab_tbl := List.mem_filter.mpr ⟨by unfold lw_tbl tables_1; exact List.mem_append_right _ (List.mem_append_right _ (List.mem_append_right _ (List.mem_append_right _ (List.mem_append_left _ (List.mem_of_getElem? h))))), hg⟩
theorem ab_w5 (k : Nat) {w : Cond} (h : tables_1_5[k]? = some w) (hg : goodWord w = true) : w ∈ ab_tbl := List.mem_filter.mpr ⟨by unfold lw_tbl tables_1; exact List.mem_append_right _ (List.mem_append_right _ (List.mem_append_right _ (List.mem_append_right _ (List.mem_append_right _ (List.mem_append_left _ (List.mem_of_getElem? h)))))), hg⟩
theorem ab_w6 (k : Nat) {w : Cond} (h : tables_1_6[k]? = some w) (hg : goodWord w = true) : w ∈ ab_tbl := List.mem_filter.mpr ⟨by unfold lw_tbl tables_1; exact List.mem_append_right _ (List.mem_append_right _ (List.mem_append_right _ (List.mem_append_right _ (List.mem_append_right _ (List.mem_append_right _ (List.mem_append_left _ (List.mem_of_getElem? h))))))), hg⟩
theorem ab_w7 (k : Nat) {w : Cond} (h : tables_1_7[k]? = some w) (hg : goodWord w = true) : w ∈ ab_tbl := List.mem_filter.mpr ⟨by unfold lw_tbl tables_1; exact List.mem_append_right _ (List.mem_append_right _ (List.mem_append_right _ (List.mem_append_right _ (List.mem_append_right _ (List.mem_append_right _ (List.mem_append_right _ (List.mem_append_left _ (List.mem_of_getElem? h)))))))), hg⟩
theorem ab_w8 (k : Nat) {w : Cond} (h : tables_1_8[k]? = some w) (hg : goodWord w = true) : w ∈ ab_tbl := List.mem_filter.mpr ⟨by unfold lw_tbl tables_1; exact List.mem_append_right _ (List.mem_append_right _ (List.mem_append_right _ (List.mem_append_right _ (List.mem_append_right _ (List.mem_append_right _ (List.mem_append_right _ (List.mem_append_right _ (List.mem_append_left _ (List.mem_of_getElem? h))))))))), hg⟩
theorem ab_w9 (k : Nat) {w : Cond} (h : tables_1_9[k]? = some w) (hg : goodWord w = true) : w ∈ ab_tbl := List.mem_filter.mpr ⟨by unfold lw_tbl tables_1; exact List.mem_append_right _ (List.mem_append_right _ (List.mem_append_right _ (List.mem_append_right _ (List.mem_append_right _ (List.mem_append_right _ (List.mem_append_right _ (List.mem_append_right _ (List.mem_append_right _ (List.mem_of_getElem? h))))))))), hg⟩
theorem ab_v1 (k : Nat) {y : MethodName} {n : Nat} (h : lw_privs_1[k]? = some (y, n)) : Cond.selects y.cls y y ∈ ab_tbl := List.mem_filter.mpr ⟨by unfold lw_tbl k2_sels lw_privs; exact List.mem_append_left _ (List.mem_map.mpr ⟨(y, n), List.mem_append_left _ (List.mem_of_getElem? h), rfl⟩), rfl⟩
theorem ab_v2 (k : Nat) {y : MethodName} {n : Nat} (h : lw_privs_2[k]? = some (y, n)) : Cond.selects y.cls y y ∈ ab_tbl := List.mem_filter.mpr ⟨by unfold lw_tbl k2_sels lw_privs; exact List.mem_append_left _ (List.mem_map.mpr ⟨(y, n), List.mem_append_right _ (List.mem_append_left _ (List.mem_of_getElem? h)), rfl⟩), rfl⟩
theorem ab_v3 (k : Nat) {y : MethodName} {n : Nat} (h : lw_privs_3[k]? = some (y, n)) : Cond.selects y.cls y y ∈ ab_tbl := List.mem_filter.mpr ⟨by unfold lw_tbl k2_sels lw_privs; exact List.mem_append_left _ (List.mem_map.mpr ⟨(y, n), List.mem_append_right _ (List.mem_append_right _ (List.mem_append_left _ (List.mem_of_getElem? h))), rfl⟩), rfl⟩
theorem ab_v4 (k : Nat) {y : MethodName} {n : Nat} (h : lw_privs_4[k]? = some (y, n)) : Cond.selects y.cls y y ∈ ab_tbl := List.mem_filter.mpr ⟨by unfold lw_tbl k2_sels lw_privs; exact List.mem_append_left _ (List.mem_map.mpr ⟨(y, n), List.mem_append_right _ (List.mem_append_right _ (List.mem_append_right _ (List.mem_append_left _ (List.mem_of_getElem? h)))), rfl⟩), rfl⟩
theorem ab_v5 (k : Nat) {y : MethodName} {n : Nat} (h : lw_privs_5[k]? = some (y, n)) : Cond.selects y.cls y y ∈ ab_tbl := List.mem_filter.mpr ⟨by unfold lw_tbl k2_sels lw_privs; exact List.mem_append_left _ (List.mem_map.mpr ⟨(y, n), List.mem_append_right _ (List.mem_append_right _ (List.mem_append_right _ (List.mem_append_right _ (List.mem_append_left _ (List.mem_of_getElem? h))))), rfl⟩), rfl⟩
theorem ab_v6 (k : Nat) {y : MethodName} {n : Nat} (h : lw_privs_6[k]? = some (y, n)) : Cond.selects y.cls y y ∈ ab_tbl := List.mem_filter.mpr ⟨by unfold lw_tbl k2_sels lw_privs; exact List.mem_append_left _ (List.mem_map.mpr ⟨(y, n), List.mem_append_right _ (List.mem_append_right _ (List.mem_append_right _ (List.mem_append_right _ (List.mem_append_right _ (List.mem_append_left _ (List.mem_of_getElem? h)))))), rfl⟩), rfl⟩
theorem ab_v7 (k : Nat) {y : MethodName} {n : Nat} (h : lw_privs_7[k]? = some (y, n)) : Cond.selects y.cls y y ∈ ab_tbl := List.mem_filter.mpr ⟨by unfold lw_tbl k2_sels lw_privs; exact List.mem_append_left _ (List.mem_map.mpr ⟨(y, n), List.mem_append_right _ (List.mem_append_right _ (List.mem_append_right _ (List.mem_append_right _ (List.mem_append_right _ (List.mem_append_right _ (List.mem_append_left _ (List.mem_of_getElem? h))))))), rfl⟩), rfl⟩
theorem ab_v8 (k : Nat) {y : MethodName} {n : Nat} (h : lw_privs_8[k]? = some (y, n)) : Cond.selects y.cls y y ∈ ab_tbl := List.mem_filter.mpr ⟨by unfold lw_tbl k2_sels lw_privs; exact List.mem_append_left _ (List.mem_map.mpr ⟨(y, n), List.mem_append_right _ (List.mem_append_right _ (List.mem_append_right _ (List.mem_append_right _ (List.mem_append_right _ (List.mem_append_right _ (List.mem_append_right _ (List.mem_append_left _ (List.mem_of_getElem? h)))))))), rfl⟩), rfl⟩
theorem ab_v9 (k : Nat) {y : MethodName} {n : Nat} (h : lw_privs_9[k]? = some (y, n)) : Cond.selects y.cls y y ∈ ab_tbl := List.mem_filter.mpr ⟨by unfold lw_tbl k2_sels lw_privs; exact List.mem_append_left _ (List.mem_map.mpr ⟨(y, n), List.mem_append_right _ (List.mem_append_right _ (List.mem_append_right _ (List.mem_append_right _ (List.mem_append_right _ (List.mem_append_right _ (List.mem_append_right _ (List.mem_append_right _ (List.mem_of_getElem? h)))))))), rfl⟩), rfl⟩
theorem wd_0 : Cond.selects RX7 yX7_add yX7_add ∈ ab_tbl := ab_v1 0 (n := 2) rfl
theorem wd_1 : Cond.selects RX11 yX11_spareMatter yX11_spareMatter ∈ ab_tbl := ab_v1 1 (n := 12) rfl
theorem wd_2 : Cond.selects RX2 yX2_next yX2_next ∈ ab_tbl := ab_v1 2 (n := 14) rfl
theorem wd_3 : Cond.selects RX2 yX2_nextRun yX2_nextRun ∈ ab_tbl := ab_v1 3 (n := 14) rfl
theorem wd_4 : Cond.selects RX2 yX2_readLine yX2_readLine ∈ ab_tbl := ab_v1 4 (n := 14) rfl
theorem wd_5 : Cond.selects RX2 yX2_fail yX2_fail ∈ ab_tbl := ab_v1 5 (n := 14) rfl
theorem wd_6 : Cond.selects RX2 yX2_readTruth yX2_readTruth ∈ ab_tbl := ab_v1 6 (n := 14) rfl
theorem wd_7 : Cond.selects RX2 yX2_someName yX2_someName ∈ ab_tbl := ab_v1 7 (n := 14) rfl
theorem wd_8 : Cond.selects RX2 yX2_isName yX2_isName ∈ ab_tbl := ab_v1 8 (n := 14) rfl
theorem wd_9 : Cond.selects RX2 yX2_someNumber yX2_someNumber ∈ ab_tbl := ab_v1 9 (n := 14) rfl
theorem wd_10 : Cond.selects RX2 yX2_stop yX2_stop ∈ ab_tbl := ab_v1 10 (n := 14) rfl
theorem wd_11 : Cond.selects RX2 yX2_truthsStand yX2_truthsStand ∈ ab_tbl := ab_v1 11 (n := 14) rfl
theorem wd_12 : Cond.selects RX2 yX2_readVoter yX2_readVoter ∈ ab_tbl := ab_v1 12 (n := 14) rfl
theorem wd_13 : Cond.selects RX2 yX2_someKeyword yX2_someKeyword ∈ ab_tbl := ab_v1 13 (n := 14) rfl
theorem wd_14 : Cond.selects RX2 yX2_readLoss yX2_readLoss ∈ ab_tbl := ab_v1 14 (n := 14) rfl
theorem wd_15 : Cond.selects RX2 yX2_readWay yX2_readWay ∈ ab_tbl := ab_v1 15 (n := 14) rfl
theorem wd_16 : Cond.selects RX2 yX2_readSet yX2_readSet ∈ ab_tbl := ab_v2 0 (n := 14) rfl
theorem wd_17 : Cond.selects RX2 yX2_readWeight yX2_readWeight ∈ ab_tbl := ab_v2 1 (n := 14) rfl
theorem wd_18 : Cond.selects RX2 yX2_readNeed yX2_readNeed ∈ ab_tbl := ab_v2 2 (n := 14) rfl
theorem wd_19 : Cond.selects RX2 yX2_readMost yX2_readMost ∈ ab_tbl := ab_v2 3 (n := 14) rfl
theorem wd_20 : Cond.selects RX1 yX1_voteOf yX1_voteOf ∈ ab_tbl := ab_v2 4 (n := 12) rfl
theorem wd_21 : Cond.selects RX1 yX1_shyVote yX1_shyVote ∈ ab_tbl := ab_v2 5 (n := 12) rfl
theorem wd_22 : Cond.selects RX1 yX1_honestVote yX1_honestVote ∈ ab_tbl := ab_v2 6 (n := 12) rfl
theorem wd_23 : Cond.selects RX1 yX1_clearTally yX1_clearTally ∈ ab_tbl := ab_v2 7 (n := 12) rfl
theorem wd_24 : Cond.selects RX4 yX4_addChoice yX4_addChoice ∈ ab_tbl := ab_v2 8 (n := 9) rfl
theorem wd_25 : Cond.selects RX4 yX4_openChoice yX4_openChoice ∈ ab_tbl := ab_v2 9 (n := 9) rfl
theorem wd_26 : Cond.selects RX4 yX4_fillFrom yX4_fillFrom ∈ ab_tbl := ab_v2 10 (n := 9) rfl
theorem wd_27 : Cond.selects RX4 yX4_decidesNow yX4_decidesNow ∈ ab_tbl := ab_v2 11 (n := 9) rfl
theorem wd_28 : Cond.selects RX4 yX4_takeTally yX4_takeTally ∈ ab_tbl := ab_v2 12 (n := 9) rfl
theorem wd_29 : Cond.selects RX4 yX4_addRow yX4_addRow ∈ ab_tbl := ab_v2 13 (n := 9) rfl
theorem wd_30 : Cond.selects RX11 yX11_lostWithout yX11_lostWithout ∈ ab_tbl := ab_v2 14 (n := 12) rfl
theorem wd_31 : Cond.selects RX3 yX3_addLosing yX3_addLosing ∈ ab_tbl := ab_v2 15 (n := 14) rfl
theorem wd_32 : Cond.selects RX3 yX3_voteAt yX3_voteAt ∈ ab_tbl := ab_v3 0 (n := 14) rfl
theorem wd_33 : Cond.selects RX3 yX3_lostBy yX3_lostBy ∈ ab_tbl := ab_v3 1 (n := 14) rfl
theorem wd_34 : Cond.selects RX3 yX3_changesInRound yX3_changesInRound ∈ ab_tbl := ab_v3 2 (n := 14) rfl
theorem wd_35 : Cond.selects RX3 yX3_keepVotes yX3_keepVotes ∈ ab_tbl := ab_v3 3 (n := 14) rfl
theorem wd_36 : Cond.selects RX3 yX3_countTrial yX3_countTrial ∈ ab_tbl := ab_v3 4 (n := 14) rfl
theorem wd_37 : Cond.selects RX8 yX8_speakInOrder yX8_speakInOrder ∈ ab_tbl := ab_v3 5 (n := 8) rfl
theorem wd_38 : Cond.selects RX8 yX8_openTalk yX8_openTalk ∈ ab_tbl := ab_v3 6 (n := 8) rfl
theorem wd_39 : Cond.selects RX8 yX8_speak yX8_speak ∈ ab_tbl := ab_v3 7 (n := 8) rfl
theorem wd_40 : Cond.selects RX8 yX8_endTalk yX8_endTalk ∈ ab_tbl := ab_v3 8 (n := 8) rfl
theorem wd_41 : Cond.selects RX8 yX8_ponder yX8_ponder ∈ ab_tbl := ab_v3 9 (n := 8) rfl
theorem wd_42 : Cond.selects RX8 yX8_cliffAt yX8_cliffAt ∈ ab_tbl := ab_v3 10 (n := 8) rfl
theorem wd_43 : Cond.selects RX8 yX8_follows yX8_follows ∈ ab_tbl := ab_v3 11 (n := 8) rfl
theorem wd_44 : Cond.selects RX8 yX8_hasCase yX8_hasCase ∈ ab_tbl := ab_v3 12 (n := 8) rfl
theorem wd_45 : Cond.selects RX8 yX8_hear yX8_hear ∈ ab_tbl := ab_v3 13 (n := 8) rfl
theorem wd_46 : Cond.selects RX8 yX8_sayWith yX8_sayWith ∈ ab_tbl := ab_v3 14 (n := 8) rfl
theorem wd_47 : Cond.selects RX8 yX8_orderByTen yX8_orderByTen ∈ ab_tbl := ab_v3 15 (n := 8) rfl
theorem wd_48 : Cond.selects RX8 yX8_nextOrder yX8_nextOrder ∈ ab_tbl := ab_v4 0 (n := 8) rfl
theorem wd_49 : Cond.selects RX8 yX8_swap yX8_swap ∈ ab_tbl := ab_v4 1 (n := 8) rfl
theorem wd_50 : Cond.selects RX5 yX5_sortByWeights yX5_sortByWeights ∈ ab_tbl := ab_v4 2 (n := 10) rfl
theorem wd_51 : Cond.selects RX10 yX10_hearWord yX10_hearWord ∈ ab_tbl := ab_v4 3 (n := 6) rfl
theorem wd_52 : Cond.selects RX10 yX10_likelyWord yX10_likelyWord ∈ ab_tbl := ab_v4 4 (n := 6) rfl
theorem wd_53 : Cond.selects RX10 yX10_liesWith yX10_liesWith ∈ ab_tbl := ab_v4 5 (n := 6) rfl
theorem wd_54 : Cond.selects RX10 yX10_lostBy yX10_lostBy ∈ ab_tbl := ab_v4 6 (n := 6) rfl
theorem wd_55 : Cond.selects RX3 yX3_layPlaces yX3_layPlaces ∈ ab_tbl := ab_v4 7 (n := 14) rfl
theorem wd_56 : Cond.selects RX3 yX3_noteReplies yX3_noteReplies ∈ ab_tbl := ab_v4 8 (n := 14) rfl
theorem wd_57 : Cond.selects RX3 yX3_areNoted yX3_areNoted ∈ ab_tbl := ab_v4 9 (n := 14) rfl
theorem wd_58 : Cond.selects RX3 yX3_nextTable yX3_nextTable ∈ ab_tbl := ab_v4 10 (n := 14) rfl
theorem wd_59 : Cond.selects RX5 yX5_sortByVoters yX5_sortByVoters ∈ ab_tbl := ab_v4 11 (n := 10) rfl
theorem wd_60 : Cond.selects RX5 yX5_takeWeights yX5_takeWeights ∈ ab_tbl := ab_v4 12 (n := 10) rfl
theorem wd_61 : Cond.selects RX5 yX5_addWeights yX5_addWeights ∈ ab_tbl := ab_v4 13 (n := 10) rfl
theorem wd_62 : Cond.selects RX5 yX5_tryNeeds yX5_tryNeeds ∈ ab_tbl := ab_v4 14 (n := 10) rfl
theorem wd_63 : Cond.selects RX5 yX5_lostByNeed yX5_lostByNeed ∈ ab_tbl := ab_v4 15 (n := 10) rfl
theorem wd_64 : Cond.selects RX5 yX5_keepNeed yX5_keepNeed ∈ ab_tbl := ab_v5 0 (n := 10) rfl
theorem wd_65 : Cond.selects RX6 yX6_draw yX6_draw ∈ ab_tbl := ab_v5 1 (n := 2) rfl
theorem wd_66 : Cond.selects "java/lang/Throwable" ⟨"java/lang/Throwable", "fillInStackTrace", "(I)Ljava/lang/Throwable;"⟩ ⟨"java/lang/Throwable", "fillInStackTrace", "(I)Ljava/lang/Throwable;"⟩ ∈ ab_tbl := ab_v5 2 (n := 6) rfl
theorem wd_67 : Cond.selects RX3 yX3_turnsNow yX3_turnsNow ∈ ab_tbl := ab_v5 3 (n := 14) rfl
theorem wd_68 : Cond.selects RX12 yX12_come yX12_come ∈ ab_tbl := ab_v5 4 (n := 70) rfl
theorem wd_69 : Cond.selects RX12 yX12_take yX12_take ∈ ab_tbl := ab_v5 5 (n := 70) rfl
theorem wd_70 : Cond.selects RX12 yX12_go yX12_go ∈ ab_tbl := ab_v5 6 (n := 70) rfl
theorem wd_71 : Cond.selects RX12 yX12_byteAt yX12_byteAt ∈ ab_tbl := ab_v5 7 (n := 70) rfl
theorem wd_72 : Cond.selects RX12 yX12_readLine yX12_readLine ∈ ab_tbl := ab_v5 8 (n := 70) rfl
theorem wd_73 : Cond.selects RX12 yX12_lineAtHand yX12_lineAtHand ∈ ab_tbl := ab_v5 9 (n := 70) rfl
theorem wd_74 : Cond.selects RX12 yX12_isKey yX12_isKey ∈ ab_tbl := ab_v5 10 (n := 70) rfl
theorem wd_75 : Cond.selects RX12 yX12_bad yX12_bad ∈ ab_tbl := ab_v5 11 (n := 70) rfl
theorem wd_76 : Cond.selects RX12 yX12_areTruths yX12_areTruths ∈ ab_tbl := ab_v5 12 (n := 70) rfl
theorem wd_77 : Cond.selects RX12 yX12_readTruthLine yX12_readTruthLine ∈ ab_tbl := ab_v5 13 (n := 70) rfl
theorem wd_78 : Cond.selects RX12 yX12_readNew yX12_readNew ∈ ab_tbl := ab_v5 14 (n := 70) rfl
theorem wd_79 : Cond.selects RX12 yX12_isName yX12_isName ∈ ab_tbl := ab_v5 15 (n := 70) rfl
theorem wd_80 : Cond.selects RX12 yX12_wayAtHand yX12_wayAtHand ∈ ab_tbl := ab_v6 0 (n := 70) rfl
theorem wd_81 : Cond.selects RX12 yX12_findTruth yX12_findTruth ∈ ab_tbl := ab_v6 1 (n := 70) rfl
theorem wd_82 : Cond.selects RX12 yX12_findVoter yX12_findVoter ∈ ab_tbl := ab_v6 2 (n := 70) rfl
theorem wd_83 : Cond.selects RX12 yX12_readNumber yX12_readNumber ∈ ab_tbl := ab_v6 3 (n := 70) rfl
theorem wd_84 : Cond.selects RX12 yX12_readVoterLine yX12_readVoterLine ∈ ab_tbl := ab_v6 4 (n := 70) rfl
theorem wd_85 : Cond.selects RX12 yX12_readKey yX12_readKey ∈ ab_tbl := ab_v6 5 (n := 70) rfl
theorem wd_86 : Cond.selects RX12 yX12_readLoss yX12_readLoss ∈ ab_tbl := ab_v6 6 (n := 70) rfl
theorem wd_87 : Cond.selects RX12 yX12_readTruth yX12_readTruth ∈ ab_tbl := ab_v6 7 (n := 70) rfl
theorem wd_88 : Cond.selects RX12 yX12_readWay yX12_readWay ∈ ab_tbl := ab_v6 8 (n := 70) rfl
theorem wd_89 : Cond.selects RX12 yX12_readVoter yX12_readVoter ∈ ab_tbl := ab_v6 9 (n := 70) rfl
theorem wd_90 : Cond.selects RX12 yX12_readRule yX12_readRule ∈ ab_tbl := ab_v6 10 (n := 70) rfl
theorem wd_91 : Cond.selects RX12 yX12_keep yX12_keep ∈ ab_tbl := ab_v6 11 (n := 70) rfl
theorem wd_92 : Cond.selects RX12 yX12_layRows yX12_layRows ∈ ab_tbl := ab_v6 12 (n := 70) rfl
theorem wd_93 : Cond.selects RX12 yX12_sign yX12_sign ∈ ab_tbl := ab_v6 13 (n := 70) rfl
theorem wd_94 : Cond.selects RX12 yX12_layVotes yX12_layVotes ∈ ab_tbl := ab_v6 14 (n := 70) rfl
theorem wd_95 : Cond.selects RX12 yX12_told yX12_told ∈ ab_tbl := ab_v6 15 (n := 70) rfl
theorem wd_96 : Cond.selects RX12 yX12_honest yX12_honest ∈ ab_tbl := ab_v7 0 (n := 70) rfl
theorem wd_97 : Cond.selects RX12 yX12_losing yX12_losing ∈ ab_tbl := ab_v7 1 (n := 70) rfl
theorem wd_98 : Cond.selects RX12 yX12_weightOf yX12_weightOf ∈ ab_tbl := ab_v7 2 (n := 70) rfl
theorem wd_99 : Cond.selects RX12 yX12_loss yX12_loss ∈ ab_tbl := ab_v7 3 (n := 70) rfl
theorem wd_100 : Cond.selects RX12 yX12_least yX12_least ∈ ab_tbl := ab_v7 4 (n := 70) rfl
theorem wd_101 : Cond.selects RX12 yX12_isVoter yX12_isVoter ∈ ab_tbl := ab_v7 5 (n := 70) rfl
theorem wd_102 : Cond.selects RX12 yX12_rowTold yX12_rowTold ∈ ab_tbl := ab_v7 6 (n := 70) rfl
theorem wd_103 : Cond.selects RX12 yX12_isTruth yX12_isTruth ∈ ab_tbl := ab_v7 7 (n := 70) rfl
theorem wd_104 : Cond.selects RX12 yX12_refuse yX12_refuse ∈ ab_tbl := ab_v7 8 (n := 70) rfl
theorem wd_105 : Cond.selects RX12 yX12_isSign yX12_isSign ∈ ab_tbl := ab_v7 9 (n := 70) rfl
theorem wd_106 : Cond.selects RX12 yX12_decideRow yX12_decideRow ∈ ab_tbl := ab_v7 10 (n := 70) rfl
theorem wd_107 : Cond.selects RX12 yX12_decide yX12_decide ∈ ab_tbl := ab_v7 11 (n := 70) rfl
theorem wd_108 : Cond.selects RX12 yX12_rightBy yX12_rightBy ∈ ab_tbl := ab_v7 12 (n := 70) rfl
theorem wd_109 : Cond.selects RX12 yX12_lostBy yX12_lostBy ∈ ab_tbl := ab_v7 13 (n := 70) rfl
theorem wd_110 : Cond.selects RX12 yX12_knownAt yX12_knownAt ∈ ab_tbl := ab_v7 14 (n := 70) rfl
theorem wd_111 : Cond.selects RX12 yX12_commonly yX12_commonly ∈ ab_tbl := ab_v7 15 (n := 70) rfl
theorem wd_112 : Cond.selects RX12 yX12_turned yX12_turned ∈ ab_tbl := ab_v8 0 (n := 70) rfl
theorem wd_113 : Cond.selects RX12 yX12_isTurned yX12_isTurned ∈ ab_tbl := ab_v8 1 (n := 70) rfl
theorem wd_114 : Cond.selects RX12 yX12_decideWith yX12_decideWith ∈ ab_tbl := ab_v8 2 (n := 70) rfl
theorem wd_115 : Cond.selects RX12 yX12_replyBy yX12_replyBy ∈ ab_tbl := ab_v8 3 (n := 70) rfl
theorem wd_116 : Cond.selects RX12 yX12_isFitBy yX12_isFitBy ∈ ab_tbl := ab_v8 4 (n := 70) rfl
theorem wd_117 : Cond.selects RX12 yX12_tryTold yX12_tryTold ∈ ab_tbl := ab_v8 5 (n := 70) rfl
theorem wd_118 : Cond.selects RX12 yX12_speak yX12_speak ∈ ab_tbl := ab_v8 6 (n := 70) rfl
theorem wd_119 : Cond.selects RX12 yX12_speakRow yX12_speakRow ∈ ab_tbl := ab_v8 7 (n := 70) rfl
theorem wd_120 : Cond.selects RX12 yX12_cliffOfSaid yX12_cliffOfSaid ∈ ab_tbl := ab_v8 8 (n := 70) rfl
theorem wd_121 : Cond.selects RX12 yX12_lostInTurns yX12_lostInTurns ∈ ab_tbl := ab_v8 9 (n := 70) rfl
theorem wd_122 : Cond.selects RX12 yX12_speakTold yX12_speakTold ∈ ab_tbl := ab_v8 10 (n := 70) rfl
theorem wd_123 : Cond.selects RX12 yX12_goOn yX12_goOn ∈ ab_tbl := ab_v8 11 (n := 70) rfl
theorem wd_124 : Cond.selects RX12 yX12_exchange yX12_exchange ∈ ab_tbl := ab_v8 12 (n := 70) rfl
theorem wd_125 : Cond.selects RX12 yX12_layByVotes yX12_layByVotes ∈ ab_tbl := ab_v8 13 (n := 70) rfl
theorem wd_126 : Cond.selects RX12 yX12_votesOf yX12_votesOf ∈ ab_tbl := ab_v8 14 (n := 70) rfl
theorem wd_127 : Cond.selects RX12 yX12_layByWeight yX12_layByWeight ∈ ab_tbl := ab_v8 15 (n := 70) rfl
theorem wd_128 : Cond.selects RX12 yX12_lostByNeed yX12_lostByNeed ∈ ab_tbl := ab_v9 0 (n := 70) rfl
theorem wd_129 : Cond.selects RX12 yX12_lostWithout yX12_lostWithout ∈ ab_tbl := ab_v9 1 (n := 70) rfl
theorem wd_130 : Cond.selects RX12 yX12_silence yX12_silence ∈ ab_tbl := ab_v9 2 (n := 70) rfl
theorem wd_131 : Cond.selects RX12 yX12_both yX12_both ∈ ab_tbl := ab_v9 3 (n := 70) rfl
theorem wd_132 : Cond.selects RX12 yX12_lostByWord yX12_lostByWord ∈ ab_tbl := ab_v9 4 (n := 70) rfl
theorem wd_133 : Cond.selects RX12 yX12_areVotesTold yX12_areVotesTold ∈ ab_tbl := ab_v9 5 (n := 70) rfl
theorem wd_134 : Cond.selects RX12 yX12_votesAsTold yX12_votesAsTold ∈ ab_tbl := ab_v9 6 (n := 70) rfl
theorem wd_135 : Cond.selects RX12 yX12_allOf yX12_allOf ∈ ab_tbl := ab_v9 7 (n := 70) rfl
theorem wd_136 : Cond.selects RX12 yX12_draw yX12_draw ∈ ab_tbl := ab_v9 8 (n := 70) rfl
theorem wd_137 : Cond.initialized RL ∈ ab_tbl := ab_w1 0 rfl rfl
theorem wd_138 : Cond.initialized RX11 ∈ ab_tbl := ab_w1 1 rfl rfl
theorem wd_139 : Cond.initialized RX7 ∈ ab_tbl := ab_w1 2 rfl rfl
theorem wd_140 : Cond.initialized RX1 ∈ ab_tbl := ab_w1 3 rfl rfl
theorem wd_141 : Cond.initialized RX0 ∈ ab_tbl := ab_w1 4 rfl rfl
theorem wd_142 : Cond.initialized RX9 ∈ ab_tbl := ab_w1 5 rfl rfl
theorem wd_143 : Cond.initialized RX2 ∈ ab_tbl := ab_w1 6 rfl rfl
theorem wd_144 : Cond.initialized RX4 ∈ ab_tbl := ab_w1 7 rfl rfl
theorem wd_145 : Cond.initialized RX3 ∈ ab_tbl := ab_w1 8 rfl rfl
theorem wd_146 : Cond.initialized RX8 ∈ ab_tbl := ab_w1 9 rfl rfl
theorem wd_147 : Cond.initialized RX5 ∈ ab_tbl := ab_w1 10 rfl rfl
theorem wd_148 : Cond.initialized RX10 ∈ ab_tbl := ab_w1 11 rfl rfl
theorem wd_149 : Cond.initialized RX6 ∈ ab_tbl := ab_w1 12 rfl rfl
theorem wd_150 : Cond.initialized RX12 ∈ ab_tbl := ab_w1 13 rfl rfl
theorem wd_151 : Cond.initialized RJ9 ∈ ab_tbl := ab_w1 14 rfl rfl
theorem wd_152 : Cond.initialized "java/lang/Throwable" ∈ ab_tbl := ab_w1 15 rfl rfl
theorem wd_153 : Cond.initialized "java/lang/Exception" ∈ ab_tbl := ab_w1 16 rfl rfl
theorem wd_154 : Cond.initialized "java/lang/RuntimeException" ∈ ab_tbl := ab_w1 17 rfl rfl
theorem wd_155 : Cond.initialized "java/util/NoSuchElementException" ∈ ab_tbl := ab_w1 18 rfl rfl
theorem wd_156 : Cond.classLink RL 8 RX11 ∈ ab_tbl := ab_w1 19 rfl rfl
theorem wd_157 : Cond.instantiable RX11 12 ∈ ab_tbl := ab_w1 20 rfl rfl
theorem wd_158 : Cond.methodLink RL 42 yX11_init ∈ ab_tbl := ab_w1 21 rfl rfl
theorem wd_159 : Cond.instanceMethod yX11_init ∈ ab_tbl := ab_w1 22 rfl rfl
theorem wd_160 : Cond.code yX11_init cX11_init 2 (none) ∈ ab_tbl := ab_w1 23 rfl rfl
theorem wd_161 : Cond.methodLink RX11 1 objectInit ∈ ab_tbl := ab_w1 24 rfl rfl
theorem wd_162 : Cond.instanceMethod objectInit ∈ ab_tbl := ab_w1 25 rfl rfl
theorem wd_163 : Cond.code objectInit object_method_1_code 1 (none) ∈ ab_tbl := ab_w1 26 rfl rfl
theorem wd_164 : Cond.classLink RX11 7 RX7 ∈ ab_tbl := ab_w1 27 rfl rfl
theorem wd_165 : Cond.instantiable RX7 2 ∈ ab_tbl := ab_w1 28 rfl rfl
theorem wd_166 : Cond.methodLink RX11 9 yX7_init ∈ ab_tbl := ab_w1 29 rfl rfl
theorem wd_167 : Cond.instanceMethod yX7_init ∈ ab_tbl := ab_w1 30 rfl rfl
theorem wd_168 : Cond.code yX7_init cX7_init 1 (none) ∈ ab_tbl := ab_w1 31 rfl rfl
theorem wd_169 : Cond.methodLink RX7 3 objectInit ∈ ab_tbl := ab_w1 32 rfl rfl
theorem wd_170 : Cond.fieldLink RX7 11 RX7 "bytes" "[I" ∈ ab_tbl := ab_w1 33 rfl rfl
theorem wd_171 : Cond.fieldLink RX2 67 RX7 "bytes" "[I" ∈ ab_tbl := ab_w1 34 rfl rfl
theorem wd_172 : Cond.fieldLink RX1 79 RX7 "bytes" "[I" ∈ ab_tbl := ab_w1 35 rfl rfl
theorem wd_173 : Cond.fieldLink RX11 148 RX7 "bytes" "[I" ∈ ab_tbl := ab_w1 36 rfl rfl
theorem wd_174 : Cond.fieldLink RX7 15 RX7 "length" "I" ∈ ab_tbl := ab_w1 37 rfl rfl
theorem wd_175 : Cond.fieldLink RX2 55 RX7 "length" "I" ∈ ab_tbl := ab_w1 38 rfl rfl
theorem wd_176 : Cond.fieldLink RX11 123 RX7 "length" "I" ∈ ab_tbl := ab_w1 39 rfl rfl
theorem wd_177 : Cond.fieldLink RX1 74 RX7 "length" "I" ∈ ab_tbl := ab_w1 40 rfl rfl
theorem wd_178 : Cond.laysFinal RX7 RX7 "bytes" "[I" ∈ ab_tbl := ab_w1 41 rfl rfl
theorem wd_179 : Cond.lays RX7 RX7 "length" "I" ∈ ab_tbl := ab_w1 43 rfl rfl
theorem wd_180 : Cond.arrayClass .int ∈ ab_tbl := ab_w1 46 rfl rfl
theorem wd_181 : Cond.classLink RX11 16 RX1 ∈ ab_tbl := ab_w1 47 rfl rfl
theorem wd_182 : Cond.instantiable RX1 12 ∈ ab_tbl := ab_w1 49 rfl rfl
theorem wd_183 : Cond.methodLink RX11 22 yX1_init ∈ ab_tbl := ab_w1 50 rfl rfl
theorem wd_184 : Cond.instanceMethod yX1_init ∈ ab_tbl := ab_w1 51 rfl rfl
theorem wd_185 : Cond.code yX1_init cX1_init 2 (none) ∈ ab_tbl := ab_w1 52 rfl rfl
theorem wd_186 : Cond.methodLink RX1 3 objectInit ∈ ab_tbl := ab_w1 53 rfl rfl
theorem wd_187 : Cond.classLink RX1 19 RX0 ∈ ab_tbl := ab_w1 54 rfl rfl
theorem wd_188 : Cond.instantiable RX0 1 ∈ ab_tbl := ab_w1 55 rfl rfl
theorem wd_189 : Cond.methodLink RX1 21 yX0_init ∈ ab_tbl := ab_w1 56 rfl rfl
theorem wd_190 : Cond.instanceMethod yX0_init ∈ ab_tbl := ab_w1 57 rfl rfl
theorem wd_191 : Cond.code yX0_init cX0_init 1 (none) ∈ ab_tbl := ab_w1 58 rfl rfl
theorem wd_192 : Cond.methodLink RX0 3 objectInit ∈ ab_tbl := ab_w1 59 rfl rfl
theorem wd_193 : Cond.fieldLink RX0 9 RX0 "cost" "[I" ∈ ab_tbl := ab_w1 60 rfl rfl
theorem wd_194 : Cond.fieldLink RX9 38 RX0 "cost" "[I" ∈ ab_tbl := ab_w1 61 rfl rfl
theorem wd_195 : Cond.fieldLink RX3 121 RX0 "cost" "[I" ∈ ab_tbl := ab_w1 62 rfl rfl
theorem wd_196 : Cond.fieldLink RX2 161 RX0 "cost" "[I" ∈ ab_tbl := ab_w1 63 rfl rfl
theorem wd_197 : Cond.laysFinal RX0 RX0 "cost" "[I" ∈ ab_tbl := ab_w1 64 rfl rfl
theorem wd_198 : Cond.classLink RX1 26 RX9 ∈ ab_tbl := ab_w1 67 rfl rfl
theorem wd_199 : Cond.instantiable RX9 8 ∈ ab_tbl := ab_w1 69 rfl rfl
theorem wd_200 : Cond.methodLink RX1 32 yX9_init ∈ ab_tbl := ab_w1 70 rfl rfl
theorem wd_201 : Cond.instanceMethod yX9_init ∈ ab_tbl := ab_w1 71 rfl rfl
theorem wd_202 : Cond.code yX9_init cX9_init 1 (none) ∈ ab_tbl := ab_w1 72 rfl rfl
theorem wd_203 : Cond.methodLink RX9 3 objectInit ∈ ab_tbl := ab_w1 73 rfl rfl
theorem wd_204 : Cond.classLink RX9 18 RX0 ∈ ab_tbl := ab_w1 74 rfl rfl
theorem wd_205 : Cond.methodLink RX9 20 yX0_init ∈ ab_tbl := ab_w1 75 rfl rfl
theorem wd_206 : Cond.fieldLink RX9 28 RX9 "signs" "I" ∈ ab_tbl := ab_w1 76 rfl rfl
theorem wd_207 : Cond.fieldLink RX4 51 RX9 "signs" "I" ∈ ab_tbl := ab_w1 77 rfl rfl
theorem wd_208 : Cond.fieldLink RX6 43 RX9 "signs" "I" ∈ ab_tbl := ab_w1 78 rfl rfl
theorem wd_209 : Cond.fieldLink RX10 36 RX9 "signs" "I" ∈ ab_tbl := ab_w1 79 rfl rfl
theorem wd_210 : Cond.fieldLink RX1 59 RX9 "signs" "I" ∈ ab_tbl := ab_w1 80 rfl rfl
theorem wd_211 : Cond.fieldLink RX11 133 RX9 "signs" "I" ∈ ab_tbl := ab_w1 81 rfl rfl
theorem wd_212 : Cond.fieldLink RX8 93 RX9 "signs" "I" ∈ ab_tbl := ab_w1 82 rfl rfl
theorem wd_213 : Cond.fieldLink RX3 143 RX9 "signs" "I" ∈ ab_tbl := ab_w1 83 rfl rfl
theorem wd_214 : Cond.fieldLink RX2 151 RX9 "signs" "I" ∈ ab_tbl := ab_w1 84 rfl rfl
theorem wd_215 : Cond.fieldLink RX9 32 RX9 "weight" "I" ∈ ab_tbl := ab_w1 85 rfl rfl
theorem wd_216 : Cond.fieldLink RX4 74 RX9 "weight" "I" ∈ ab_tbl := ab_w1 86 rfl rfl
theorem wd_217 : Cond.fieldLink RX2 190 RX9 "weight" "I" ∈ ab_tbl := ab_w1 87 rfl rfl
theorem wd_218 : Cond.fieldLink RX1 135 RX9 "weight" "I" ∈ ab_tbl := ab_w1 88 rfl rfl
theorem wd_219 : Cond.fieldLink RX9 35 RX9 "way" "I" ∈ ab_tbl := ab_w1 89 rfl rfl
theorem wd_220 : Cond.fieldLink RX1 89 RX9 "way" "I" ∈ ab_tbl := ab_w1 90 rfl rfl
theorem wd_221 : Cond.fieldLink RX2 174 RX9 "way" "I" ∈ ab_tbl := ab_w1 91 rfl rfl
theorem wd_222 : Cond.fieldLink RX2 177 RX9 "shyness" "I" ∈ ab_tbl := ab_w1 92 rfl rfl
theorem wd_223 : Cond.fieldLink RX1 117 RX9 "shyness" "I" ∈ ab_tbl := ab_w1 93 rfl rfl
theorem wd_224 : Cond.fieldLink RX9 9 RX9 "like" "[I" ∈ ab_tbl := ab_w1 94 rfl rfl
theorem wd_225 : Cond.fieldLink RX6 38 RX9 "like" "[I" ∈ ab_tbl := ab_w1 95 rfl rfl
theorem wd_226 : Cond.fieldLink RX10 68 RX9 "like" "[I" ∈ ab_tbl := ab_w1 96 rfl rfl
theorem wd_227 : Cond.fieldLink RX4 66 RX9 "like" "[I" ∈ ab_tbl := ab_w1 97 rfl rfl
theorem wd_228 : Cond.fieldLink RX3 126 RX9 "like" "[I" ∈ ab_tbl := ab_w1 98 rfl rfl
theorem wd_229 : Cond.fieldLink RX8 98 RX9 "like" "[I" ∈ ab_tbl := ab_w1 99 rfl rfl
theorem wd_230 : Cond.fieldLink RX2 154 RX9 "like" "[I" ∈ ab_tbl := ab_w1 100 rfl rfl
theorem wd_231 : Cond.fieldLink RX1 105 RX9 "like" "[I" ∈ ab_tbl := ab_w1 101 rfl rfl
theorem wd_232 : Cond.fieldLink RX9 15 RX9 "told" "[I" ∈ ab_tbl := ab_w1 102 rfl rfl
theorem wd_233 : Cond.fieldLink RX2 168 RX9 "told" "[I" ∈ ab_tbl := ab_w1 103 rfl rfl
theorem wd_234 : Cond.fieldLink RX9 21 RX9 "losses" "LLongTable$Losses;" ∈ ab_tbl := ab_w1 104 rfl rfl
theorem wd_235 : Cond.fieldLink RX10 71 RX9 "losses" "LLongTable$Losses;" ∈ ab_tbl := ab_w1 105 rfl rfl
theorem wd_236 : Cond.fieldLink RX3 115 RX9 "losses" "LLongTable$Losses;" ∈ ab_tbl := ab_w1 106 rfl rfl
theorem wd_237 : Cond.fieldLink RX8 101 RX9 "losses" "LLongTable$Losses;" ∈ ab_tbl := ab_w1 107 rfl rfl
theorem wd_238 : Cond.fieldLink RX1 108 RX9 "losses" "LLongTable$Losses;" ∈ ab_tbl := ab_w1 108 rfl rfl
theorem wd_239 : Cond.fieldLink RX9 25 RX9 "set" "[I" ∈ ab_tbl := ab_w1 109 rfl rfl
theorem wd_240 : Cond.fieldLink RX1 99 RX9 "set" "[I" ∈ ab_tbl := ab_w1 110 rfl rfl
theorem wd_241 : Cond.fieldLink RX2 184 RX9 "set" "[I" ∈ ab_tbl := ab_w1 111 rfl rfl
theorem wd_242 : Cond.lays RX9 RX9 "signs" "I" ∈ ab_tbl := ab_w1 112 rfl rfl
theorem wd_243 : Cond.lays RX9 RX9 "weight" "I" ∈ ab_tbl := ab_w1 114 rfl rfl
theorem wd_244 : Cond.lays RX9 RX9 "way" "I" ∈ ab_tbl := ab_w1 116 rfl rfl
theorem wd_245 : Cond.lays RX9 RX9 "shyness" "I" ∈ ab_tbl := ab_w1 118 rfl rfl
theorem wd_246 : Cond.laysFinal RX9 RX9 "like" "[I" ∈ ab_tbl := ab_w1 120 rfl rfl
theorem wd_247 : Cond.laysFinal RX9 RX9 "told" "[I" ∈ ab_tbl := ab_w1 122 rfl rfl
theorem wd_248 : Cond.laysFinal RX9 RX9 "losses" "LLongTable$Losses;" ∈ ab_tbl := ab_w1 124 rfl rfl
theorem wd_249 : Cond.laysFinal RX9 RX9 "set" "[I" ∈ ab_tbl := ab_w1 126 rfl rfl
theorem wd_250 : Cond.fieldLink RX1 43 RX1 "truths" "I" ∈ ab_tbl := ab_w1 129 rfl rfl
theorem wd_251 : Cond.fieldLink RX6 24 RX1 "truths" "I" ∈ ab_tbl := ab_w1 130 rfl rfl
theorem wd_252 : Cond.fieldLink RX3 95 RX1 "truths" "I" ∈ ab_tbl := ab_w1 131 rfl rfl
theorem wd_253 : Cond.fieldLink RX10 75 RX1 "truths" "I" ∈ ab_tbl := ab_w1 132 rfl rfl
theorem wd_254 : Cond.fieldLink RX5 101 RX1 "truths" "I" ∈ ab_tbl := ab_w1 133 rfl rfl
theorem wd_255 : Cond.fieldLink RX11 117 RX1 "truths" "I" ∈ ab_tbl := ab_w1 134 rfl rfl
theorem wd_256 : Cond.fieldLink RX8 82 RX1 "truths" "I" ∈ ab_tbl := ab_w1 135 rfl rfl
theorem wd_257 : Cond.fieldLink RX2 120 RX1 "truths" "I" ∈ ab_tbl := ab_w1 136 rfl rfl
theorem wd_258 : Cond.fieldLink RX4 119 RX1 "truths" "I" ∈ ab_tbl := ab_w1 137 rfl rfl
theorem wd_259 : Cond.fieldLink RX1 46 RX1 "voters" "I" ∈ ab_tbl := ab_w1 138 rfl rfl
theorem wd_260 : Cond.fieldLink RX4 41 RX1 "voters" "I" ∈ ab_tbl := ab_w1 139 rfl rfl
theorem wd_261 : Cond.fieldLink RX6 31 RX1 "voters" "I" ∈ ab_tbl := ab_w1 140 rfl rfl
theorem wd_262 : Cond.fieldLink RX8 42 RX1 "voters" "I" ∈ ab_tbl := ab_w1 141 rfl rfl
theorem wd_263 : Cond.fieldLink RX5 87 RX1 "voters" "I" ∈ ab_tbl := ab_w1 142 rfl rfl
theorem wd_264 : Cond.fieldLink RX11 120 RX1 "voters" "I" ∈ ab_tbl := ab_w1 143 rfl rfl
theorem wd_265 : Cond.fieldLink RX3 136 RX1 "voters" "I" ∈ ab_tbl := ab_w1 144 rfl rfl
theorem wd_266 : Cond.fieldLink RX2 136 RX1 "voters" "I" ∈ ab_tbl := ab_w1 145 rfl rfl
theorem wd_267 : Cond.fieldLink RX1 49 RX1 "need" "I" ∈ ab_tbl := ab_w1 146 rfl rfl
theorem wd_268 : Cond.fieldLink RX2 193 RX1 "need" "I" ∈ ab_tbl := ab_w1 147 rfl rfl
theorem wd_269 : Cond.fieldLink RX2 199 RX1 "wanted" "I" ∈ ab_tbl := ab_w1 148 rfl rfl
theorem wd_270 : Cond.fieldLink RX1 138 RX1 "wanted" "I" ∈ ab_tbl := ab_w1 149 rfl rfl
theorem wd_271 : Cond.fieldLink RX2 202 RX1 "otherwise" "I" ∈ ab_tbl := ab_w1 150 rfl rfl
theorem wd_272 : Cond.fieldLink RX1 141 RX1 "otherwise" "I" ∈ ab_tbl := ab_w1 151 rfl rfl
theorem wd_273 : Cond.fieldLink RX1 9 RX1 "chair" "I" ∈ ab_tbl := ab_w1 152 rfl rfl
theorem wd_274 : Cond.fieldLink RX2 196 RX1 "chair" "I" ∈ ab_tbl := ab_w1 153 rfl rfl
theorem wd_275 : Cond.fieldLink RX4 90 RX1 "chair" "I" ∈ ab_tbl := ab_w1 154 rfl rfl
theorem wd_276 : Cond.fieldLink RX1 15 RX1 "chance" "[I" ∈ ab_tbl := ab_w1 155 rfl rfl
theorem wd_277 : Cond.fieldLink RX6 19 RX1 "chance" "[I" ∈ ab_tbl := ab_w1 156 rfl rfl
theorem wd_278 : Cond.fieldLink RX10 62 RX1 "chance" "[I" ∈ ab_tbl := ab_w1 157 rfl rfl
theorem wd_279 : Cond.fieldLink RX8 67 RX1 "chance" "[I" ∈ ab_tbl := ab_w1 158 rfl rfl
theorem wd_280 : Cond.fieldLink RX2 123 RX1 "chance" "[I" ∈ ab_tbl := ab_w1 159 rfl rfl
theorem wd_281 : Cond.fieldLink RX4 67 RX1 "chance" "[I" ∈ ab_tbl := ab_w1 160 rfl rfl
theorem wd_282 : Cond.fieldLink RX1 22 RX1 "common" "LLongTable$Losses;" ∈ ab_tbl := ab_w1 161 rfl rfl
theorem wd_283 : Cond.fieldLink RX3 165 RX1 "common" "LLongTable$Losses;" ∈ ab_tbl := ab_w1 162 rfl rfl
theorem wd_284 : Cond.fieldLink RX2 157 RX1 "common" "LLongTable$Losses;" ∈ ab_tbl := ab_w1 163 rfl rfl
theorem wd_285 : Cond.fieldLink RX4 77 RX1 "common" "LLongTable$Losses;" ∈ ab_tbl := ab_w1 164 rfl rfl
theorem wd_286 : Cond.fieldLink RX11 199 RX1 "common" "LLongTable$Losses;" ∈ ab_tbl := ab_w1 165 rfl rfl
theorem wd_287 : Cond.fieldLink RX8 125 RX1 "common" "LLongTable$Losses;" ∈ ab_tbl := ab_w1 166 rfl rfl
theorem wd_288 : Cond.fieldLink RX10 15 RX1 "voter" "[LLongTable$Voter;" ∈ ab_tbl := ab_w1 167 rfl rfl
theorem wd_289 : Cond.fieldLink RX1 28 RX1 "voter" "[LLongTable$Voter;" ∈ ab_tbl := ab_w1 168 rfl rfl
theorem wd_290 : Cond.fieldLink RX4 47 RX1 "voter" "[LLongTable$Voter;" ∈ ab_tbl := ab_w1 169 rfl rfl
theorem wd_291 : Cond.fieldLink RX6 34 RX1 "voter" "[LLongTable$Voter;" ∈ ab_tbl := ab_w1 170 rfl rfl
theorem wd_292 : Cond.fieldLink RX3 111 RX1 "voter" "[LLongTable$Voter;" ∈ ab_tbl := ab_w1 171 rfl rfl
theorem wd_293 : Cond.fieldLink RX11 129 RX1 "voter" "[LLongTable$Voter;" ∈ ab_tbl := ab_w1 172 rfl rfl
theorem wd_294 : Cond.fieldLink RX8 89 RX1 "voter" "[LLongTable$Voter;" ∈ ab_tbl := ab_w1 173 rfl rfl
theorem wd_295 : Cond.fieldLink RX2 142 RX1 "voter" "[LLongTable$Voter;" ∈ ab_tbl := ab_w1 174 rfl rfl
theorem wd_296 : Cond.fieldLink RX1 33 RX1 "votes" "[I" ∈ ab_tbl := ab_w1 175 rfl rfl
theorem wd_297 : Cond.fieldLink RX3 61 RX1 "votes" "[I" ∈ ab_tbl := ab_w1 176 rfl rfl
theorem wd_298 : Cond.fieldLink RX5 52 RX1 "votes" "[I" ∈ ab_tbl := ab_w1 177 rfl rfl
theorem wd_299 : Cond.fieldLink RX4 63 RX1 "votes" "[I" ∈ ab_tbl := ab_w1 178 rfl rfl
theorem wd_300 : Cond.fieldLink RX11 168 RX1 "votes" "[I" ∈ ab_tbl := ab_w1 179 rfl rfl
theorem wd_301 : Cond.fieldLink RX1 36 RX1 "tally" "[I" ∈ ab_tbl := ab_w1 180 rfl rfl
theorem wd_302 : Cond.fieldLink RX1 39 RX1 "with" "[J" ∈ ab_tbl := ab_w1 181 rfl rfl
theorem wd_303 : Cond.lays RX1 RX1 "truths" "I" ∈ ab_tbl := ab_w1 182 rfl rfl
theorem wd_304 : Cond.lays RX1 RX1 "voters" "I" ∈ ab_tbl := ab_w1 184 rfl rfl
theorem wd_305 : Cond.lays RX1 RX1 "need" "I" ∈ ab_tbl := ab_w1 186 rfl rfl
theorem wd_306 : Cond.lays RX1 RX1 "wanted" "I" ∈ ab_tbl := ab_w1 188 rfl rfl
theorem wd_307 : Cond.lays RX1 RX1 "otherwise" "I" ∈ ab_tbl := ab_w1 190 rfl rfl
theorem wd_308 : Cond.lays RX1 RX1 "chair" "I" ∈ ab_tbl := ab_w1 192 rfl rfl
theorem wd_309 : Cond.laysFinal RX1 RX1 "chance" "[I" ∈ ab_tbl := ab_w1 194 rfl rfl
theorem wd_310 : Cond.laysFinal RX1 RX1 "common" "LLongTable$Losses;" ∈ ab_tbl := ab_w1 196 rfl rfl
theorem wd_311 : Cond.laysFinal RX1 RX1 "voter" "[LLongTable$Voter;" ∈ ab_tbl := ab_w1 198 rfl rfl
theorem wd_312 : Cond.laysFinal RX1 RX1 "votes" "[I" ∈ ab_tbl := ab_w1 200 rfl rfl
theorem wd_313 : Cond.laysFinal RX1 RX1 "tally" "[I" ∈ ab_tbl := ab_w1 202 rfl rfl
theorem wd_314 : Cond.laysFinal RX1 RX1 "with" "[J" ∈ ab_tbl := ab_w1 204 rfl rfl
theorem wd_315 : Cond.arrayClass .long ∈ ab_tbl := ab_w1 207 rfl rfl
theorem wd_316 : Cond.classLink RX11 27 RX2 ∈ ab_tbl := ab_w1 208 rfl rfl
theorem wd_317 : Cond.instantiable RX2 14 ∈ ab_tbl := ab_w1 209 rfl rfl
theorem wd_318 : Cond.methodLink RX11 29 yX2_init ∈ ab_tbl := ab_w1 210 rfl rfl
theorem wd_319 : Cond.instanceMethod yX2_init ∈ ab_tbl := ab_w1 211 rfl rfl
theorem wd_320 : Cond.code yX2_init cX2_init 3 (none) ∈ ab_tbl := ab_w1 212 rfl rfl
theorem wd_321 : Cond.methodLink RX2 3 objectInit ∈ ab_tbl := ab_w1 213 rfl rfl
theorem wd_322 : Cond.fieldLink RX2 39 RX2 "fault" "I" ∈ ab_tbl := ab_w1 214 rfl rfl
theorem wd_323 : Cond.fieldLink RX11 113 RX2 "fault" "I" ∈ ab_tbl := ab_w1 215 rfl rfl
theorem wd_324 : Cond.fieldLink RX2 9 RX2 "tape" "LLongTable$Tape;" ∈ ab_tbl := ab_w1 216 rfl rfl
theorem wd_325 : Cond.fieldLink RX2 15 RX2 "matter" "LLongTable$Matter;" ∈ ab_tbl := ab_w1 217 rfl rfl
theorem wd_326 : Cond.fieldLink RX2 31 RX2 "behindTruths" "Z" ∈ ab_tbl := ab_w1 218 rfl rfl
theorem wd_327 : Cond.fieldLink RX2 64 RX2 "place" "I" ∈ ab_tbl := ab_w1 219 rfl rfl
theorem wd_328 : Cond.fieldLink RX2 35 RX2 "behind" "I" ∈ ab_tbl := ab_w1 220 rfl rfl
theorem wd_329 : Cond.fieldLink RX2 45 RX2 "kind" "I" ∈ ab_tbl := ab_w1 221 rfl rfl
theorem wd_330 : Cond.fieldLink RX2 86 RX2 "word" "J" ∈ ab_tbl := ab_w1 222 rfl rfl
theorem wd_331 : Cond.fieldLink RX2 74 RX2 "keyword" "I" ∈ ab_tbl := ab_w1 223 rfl rfl
theorem wd_332 : Cond.fieldLink RX2 90 RX2 "number" "I" ∈ ab_tbl := ab_w1 224 rfl rfl
theorem wd_333 : Cond.fieldLink RX2 171 RX2 "truth" "I" ∈ ab_tbl := ab_w1 225 rfl rfl
theorem wd_334 : Cond.fieldLink RX2 166 RX2 "voter" "I" ∈ ab_tbl := ab_w1 226 rfl rfl
theorem wd_335 : Cond.fieldLink RX2 19 RX2 "truthNames" "[J" ∈ ab_tbl := ab_w1 227 rfl rfl
theorem wd_336 : Cond.fieldLink RX2 23 RX2 "voterNames" "[J" ∈ ab_tbl := ab_w1 228 rfl rfl
theorem wd_337 : Cond.lays RX2 RX2 "fault" "I" ∈ ab_tbl := ab_w1 229 rfl rfl
theorem wd_338 : Cond.laysFinal RX2 RX2 "tape" "LLongTable$Tape;" ∈ ab_tbl := ab_w1 231 rfl rfl
theorem wd_339 : Cond.lays RX2 RX2 "matter" "LLongTable$Matter;" ∈ ab_tbl := ab_w1 233 rfl rfl
theorem wd_340 : Cond.lays RX2 RX2 "behindTruths" "Z" ∈ ab_tbl := ab_w1 235 rfl rfl
theorem wd_341 : Cond.lays RX2 RX2 "place" "I" ∈ ab_tbl := ab_w1 237 rfl rfl
theorem wd_342 : Cond.lays RX2 RX2 "behind" "I" ∈ ab_tbl := ab_w1 239 rfl rfl
theorem wd_343 : Cond.lays RX2 RX2 "kind" "I" ∈ ab_tbl := ab_w2 1 rfl rfl
theorem wd_344 : Cond.lays RX2 RX2 "word" "J" ∈ ab_tbl := ab_w2 3 rfl rfl
theorem wd_345 : Cond.lays RX2 RX2 "keyword" "I" ∈ ab_tbl := ab_w2 5 rfl rfl
theorem wd_346 : Cond.lays RX2 RX2 "number" "I" ∈ ab_tbl := ab_w2 7 rfl rfl
theorem wd_347 : Cond.lays RX2 RX2 "truth" "I" ∈ ab_tbl := ab_w2 9 rfl rfl
theorem wd_348 : Cond.lays RX2 RX2 "voter" "I" ∈ ab_tbl := ab_w2 11 rfl rfl
theorem wd_349 : Cond.laysFinal RX2 RX2 "truthNames" "[J" ∈ ab_tbl := ab_w2 13 rfl rfl
theorem wd_350 : Cond.laysFinal RX2 RX2 "voterNames" "[J" ∈ ab_tbl := ab_w2 15 rfl rfl
theorem wd_351 : Cond.classLink RX11 36 RX4 ∈ ab_tbl := ab_w2 18 rfl rfl
theorem wd_352 : Cond.instantiable RX4 9 ∈ ab_tbl := ab_w2 19 rfl rfl
theorem wd_353 : Cond.methodLink RX11 38 yX4_init ∈ ab_tbl := ab_w2 20 rfl rfl
theorem wd_354 : Cond.instanceMethod yX4_init ∈ ab_tbl := ab_w2 21 rfl rfl
theorem wd_355 : Cond.code yX4_init cX4_init 2 (none) ∈ ab_tbl := ab_w2 22 rfl rfl
theorem wd_356 : Cond.methodLink RX4 3 objectInit ∈ ab_tbl := ab_w2 23 rfl rfl
theorem wd_357 : Cond.fieldLink RX4 9 RX4 "matter" "LLongTable$Matter;" ∈ ab_tbl := ab_w2 24 rfl rfl
theorem wd_358 : Cond.fieldLink RX4 15 RX4 "choices" "[I" ∈ ab_tbl := ab_w2 25 rfl rfl
theorem wd_359 : Cond.fieldLink RX4 19 RX4 "taken" "[I" ∈ ab_tbl := ab_w2 26 rfl rfl
theorem wd_360 : Cond.fieldLink RX4 22 RX4 "code" "[I" ∈ ab_tbl := ab_w2 27 rfl rfl
theorem wd_361 : Cond.fieldLink RX4 25 RX4 "like" "[I" ∈ ab_tbl := ab_w2 28 rfl rfl
theorem wd_362 : Cond.fieldLink RX4 28 RX4 "parts" "[J" ∈ ab_tbl := ab_w2 29 rfl rfl
theorem wd_363 : Cond.fieldLink RX4 32 RX4 "weights" "[I" ∈ ab_tbl := ab_w2 30 rfl rfl
theorem wd_364 : Cond.fieldLink RX4 35 RX4 "row" "[I" ∈ ab_tbl := ab_w2 31 rfl rfl
theorem wd_365 : Cond.fieldLink RX4 38 RX4 "tally" "[I" ∈ ab_tbl := ab_w2 32 rfl rfl
theorem wd_366 : Cond.lays RX4 RX4 "matter" "LLongTable$Matter;" ∈ ab_tbl := ab_w2 33 rfl rfl
theorem wd_367 : Cond.laysFinal RX4 RX4 "choices" "[I" ∈ ab_tbl := ab_w2 35 rfl rfl
theorem wd_368 : Cond.laysFinal RX4 RX4 "taken" "[I" ∈ ab_tbl := ab_w2 37 rfl rfl
theorem wd_369 : Cond.laysFinal RX4 RX4 "code" "[I" ∈ ab_tbl := ab_w2 39 rfl rfl
theorem wd_370 : Cond.laysFinal RX4 RX4 "like" "[I" ∈ ab_tbl := ab_w2 41 rfl rfl
theorem wd_371 : Cond.laysFinal RX4 RX4 "parts" "[J" ∈ ab_tbl := ab_w2 43 rfl rfl
theorem wd_372 : Cond.laysFinal RX4 RX4 "weights" "[I" ∈ ab_tbl := ab_w2 45 rfl rfl
theorem wd_373 : Cond.laysFinal RX4 RX4 "row" "[I" ∈ ab_tbl := ab_w2 47 rfl rfl
theorem wd_374 : Cond.laysFinal RX4 RX4 "tally" "[I" ∈ ab_tbl := ab_w2 49 rfl rfl
theorem wd_375 : Cond.classLink RX11 45 RX3 ∈ ab_tbl := ab_w2 52 rfl rfl
theorem wd_376 : Cond.instantiable RX3 14 ∈ ab_tbl := ab_w2 53 rfl rfl
theorem wd_377 : Cond.methodLink RX11 47 yX3_init ∈ ab_tbl := ab_w2 54 rfl rfl
theorem wd_378 : Cond.instanceMethod yX3_init ∈ ab_tbl := ab_w2 55 rfl rfl
theorem wd_379 : Cond.code yX3_init cX3_init 4 (none) ∈ ab_tbl := ab_w2 56 rfl rfl
theorem wd_380 : Cond.methodLink RX3 3 objectInit ∈ ab_tbl := ab_w2 57 rfl rfl
theorem wd_381 : Cond.constantLong RX3 39 (-1) ∈ ab_tbl := ab_w2 58 rfl rfl
theorem wd_382 : Cond.fieldLink RX3 9 RX3 "rows" "LLongTable$Rows;" ∈ ab_tbl := ab_w2 59 rfl rfl
theorem wd_383 : Cond.fieldLink RX3 15 RX3 "matter" "LLongTable$Matter;" ∈ ab_tbl := ab_w2 60 rfl rfl
theorem wd_384 : Cond.fieldLink RX3 19 RX3 "losing" "[J" ∈ ab_tbl := ab_w2 61 rfl rfl
theorem wd_385 : Cond.fieldLink RX3 23 RX3 "turned" "[J" ∈ ab_tbl := ab_w2 62 rfl rfl
theorem wd_386 : Cond.fieldLink RX11 212 RX3 "turned" "[J" ∈ ab_tbl := ab_w2 63 rfl rfl
theorem wd_387 : Cond.fieldLink RX3 26 RX3 "comes" "[J" ∈ ab_tbl := ab_w2 64 rfl rfl
theorem wd_388 : Cond.fieldLink RX3 29 RX3 "trial" "[I" ∈ ab_tbl := ab_w2 65 rfl rfl
theorem wd_389 : Cond.fieldLink RX3 33 RX3 "settled" "[I" ∈ ab_tbl := ab_w2 66 rfl rfl
theorem wd_390 : Cond.fieldLink RX11 233 RX3 "settled" "[I" ∈ ab_tbl := ab_w2 67 rfl rfl
theorem wd_391 : Cond.fieldLink RX3 41 RX3 "settledRight" "J" ∈ ab_tbl := ab_w2 68 rfl rfl
theorem wd_392 : Cond.fieldLink RX11 236 RX3 "settledRight" "J" ∈ ab_tbl := ab_w2 69 rfl rfl
theorem wd_393 : Cond.fieldLink RX3 45 RX3 "settledLost" "J" ∈ ab_tbl := ab_w2 70 rfl rfl
theorem wd_394 : Cond.fieldLink RX11 240 RX3 "settledLost" "J" ∈ ab_tbl := ab_w2 71 rfl rfl
theorem wd_395 : Cond.fieldLink RX3 36 RX3 "bestFit" "[I" ∈ ab_tbl := ab_w2 72 rfl rfl
theorem wd_396 : Cond.fieldLink RX11 310 RX3 "bestFit" "[I" ∈ ab_tbl := ab_w2 73 rfl rfl
theorem wd_397 : Cond.fieldLink RX3 48 RX3 "place" "[I" ∈ ab_tbl := ab_w2 74 rfl rfl
theorem wd_398 : Cond.fieldLink RX3 51 RX3 "digit" "[I" ∈ ab_tbl := ab_w2 75 rfl rfl
theorem wd_399 : Cond.fieldLink RX3 194 RX3 "places" "I" ∈ ab_tbl := ab_w2 76 rfl rfl
theorem wd_400 : Cond.fieldLink RX3 54 RX3 "noted" "[I" ∈ ab_tbl := ab_w2 77 rfl rfl
theorem wd_401 : Cond.laysFinal RX3 RX3 "rows" "LLongTable$Rows;" ∈ ab_tbl := ab_w2 78 rfl rfl
theorem wd_402 : Cond.lays RX3 RX3 "matter" "LLongTable$Matter;" ∈ ab_tbl := ab_w2 80 rfl rfl
theorem wd_403 : Cond.laysFinal RX3 RX3 "losing" "[J" ∈ ab_tbl := ab_w2 82 rfl rfl
theorem wd_404 : Cond.laysFinal RX3 RX3 "turned" "[J" ∈ ab_tbl := ab_w2 84 rfl rfl
theorem wd_405 : Cond.laysFinal RX3 RX3 "comes" "[J" ∈ ab_tbl := ab_w2 86 rfl rfl
theorem wd_406 : Cond.laysFinal RX3 RX3 "trial" "[I" ∈ ab_tbl := ab_w2 88 rfl rfl
theorem wd_407 : Cond.laysFinal RX3 RX3 "settled" "[I" ∈ ab_tbl := ab_w2 90 rfl rfl
theorem wd_408 : Cond.lays RX3 RX3 "settledRight" "J" ∈ ab_tbl := ab_w2 92 rfl rfl
theorem wd_409 : Cond.lays RX3 RX3 "settledLost" "J" ∈ ab_tbl := ab_w2 94 rfl rfl
theorem wd_410 : Cond.laysFinal RX3 RX3 "bestFit" "[I" ∈ ab_tbl := ab_w2 96 rfl rfl
theorem wd_411 : Cond.laysFinal RX3 RX3 "place" "[I" ∈ ab_tbl := ab_w2 98 rfl rfl
theorem wd_412 : Cond.laysFinal RX3 RX3 "digit" "[I" ∈ ab_tbl := ab_w2 100 rfl rfl
theorem wd_413 : Cond.lays RX3 RX3 "places" "I" ∈ ab_tbl := ab_w2 102 rfl rfl
theorem wd_414 : Cond.laysFinal RX3 RX3 "noted" "[I" ∈ ab_tbl := ab_w2 104 rfl rfl
theorem wd_415 : Cond.classLink RX11 54 RX8 ∈ ab_tbl := ab_w2 107 rfl rfl
theorem wd_416 : Cond.instantiable RX8 8 ∈ ab_tbl := ab_w2 108 rfl rfl
theorem wd_417 : Cond.methodLink RX11 56 yX8_init ∈ ab_tbl := ab_w2 109 rfl rfl
theorem wd_418 : Cond.instanceMethod yX8_init ∈ ab_tbl := ab_w2 110 rfl rfl
theorem wd_419 : Cond.code yX8_init cX8_init 2 (none) ∈ ab_tbl := ab_w2 111 rfl rfl
theorem wd_420 : Cond.methodLink RX8 3 objectInit ∈ ab_tbl := ab_w2 112 rfl rfl
theorem wd_421 : Cond.fieldLink RX8 9 RX8 "matter" "LLongTable$Matter;" ∈ ab_tbl := ab_w2 113 rfl rfl
theorem wd_422 : Cond.fieldLink RX11 329 RX8 "matter" "LLongTable$Matter;" ∈ ab_tbl := ab_w2 114 rfl rfl
theorem wd_423 : Cond.fieldLink RX8 15 RX8 "order" "[I" ∈ ab_tbl := ab_w2 115 rfl rfl
theorem wd_424 : Cond.fieldLink RX8 19 RX8 "say" "[I" ∈ ab_tbl := ab_w2 116 rfl rfl
theorem wd_425 : Cond.fieldLink RX8 22 RX8 "left" "[J" ∈ ab_tbl := ab_w2 117 rfl rfl
theorem wd_426 : Cond.fieldLink RX8 26 RX8 "with" "[J" ∈ ab_tbl := ab_w2 118 rfl rfl
theorem wd_427 : Cond.fieldLink RX8 29 RX8 "comes" "[J" ∈ ab_tbl := ab_w2 119 rfl rfl
theorem wd_428 : Cond.fieldLink RX11 251 RX8 "comes" "[J" ∈ ab_tbl := ab_w2 120 rfl rfl
theorem wd_429 : Cond.fieldLink RX8 53 RX8 "herd" "J" ∈ ab_tbl := ab_w2 121 rfl rfl
theorem wd_430 : Cond.fieldLink RX11 255 RX8 "herd" "J" ∈ ab_tbl := ab_w2 122 rfl rfl
theorem wd_431 : Cond.fieldLink RX8 57 RX8 "astray" "J" ∈ ab_tbl := ab_w2 123 rfl rfl
theorem wd_432 : Cond.fieldLink RX11 258 RX8 "astray" "J" ∈ ab_tbl := ab_w2 124 rfl rfl
theorem wd_433 : Cond.lays RX8 RX8 "matter" "LLongTable$Matter;" ∈ ab_tbl := ab_w2 125 rfl rfl
theorem wd_434 : Cond.laysFinal RX8 RX8 "order" "[I" ∈ ab_tbl := ab_w2 127 rfl rfl
theorem wd_435 : Cond.laysFinal RX8 RX8 "say" "[I" ∈ ab_tbl := ab_w2 129 rfl rfl
theorem wd_436 : Cond.laysFinal RX8 RX8 "left" "[J" ∈ ab_tbl := ab_w2 131 rfl rfl
theorem wd_437 : Cond.laysFinal RX8 RX8 "with" "[J" ∈ ab_tbl := ab_w2 133 rfl rfl
theorem wd_438 : Cond.laysFinal RX8 RX8 "comes" "[J" ∈ ab_tbl := ab_w2 135 rfl rfl
theorem wd_439 : Cond.lays RX8 RX8 "herd" "J" ∈ ab_tbl := ab_w2 137 rfl rfl
theorem wd_440 : Cond.lays RX8 RX8 "astray" "J" ∈ ab_tbl := ab_w2 139 rfl rfl
theorem wd_441 : Cond.classLink RX11 64 RX5 ∈ ab_tbl := ab_w2 142 rfl rfl
theorem wd_442 : Cond.instantiable RX5 10 ∈ ab_tbl := ab_w2 143 rfl rfl
theorem wd_443 : Cond.methodLink RX11 66 yX5_init ∈ ab_tbl := ab_w2 144 rfl rfl
theorem wd_444 : Cond.instanceMethod yX5_init ∈ ab_tbl := ab_w2 145 rfl rfl
theorem wd_445 : Cond.code yX5_init cX5_init 3 (none) ∈ ab_tbl := ab_w2 146 rfl rfl
theorem wd_446 : Cond.methodLink RX5 3 objectInit ∈ ab_tbl := ab_w2 147 rfl rfl
theorem wd_447 : Cond.constantLong RX5 22 (-1) ∈ ab_tbl := ab_w2 148 rfl rfl
theorem wd_448 : Cond.fieldLink RX5 9 RX5 "rows" "LLongTable$Rows;" ∈ ab_tbl := ab_w2 149 rfl rfl
theorem wd_449 : Cond.fieldLink RX5 15 RX5 "taking" "[J" ∈ ab_tbl := ab_w2 150 rfl rfl
theorem wd_450 : Cond.fieldLink RX5 19 RX5 "leaving" "[J" ∈ ab_tbl := ab_w2 151 rfl rfl
theorem wd_451 : Cond.fieldLink RX5 24 RX5 "barLost" "J" ∈ ab_tbl := ab_w2 152 rfl rfl
theorem wd_452 : Cond.fieldLink RX11 275 RX5 "barLost" "J" ∈ ab_tbl := ab_w2 153 rfl rfl
theorem wd_453 : Cond.fieldLink RX5 28 RX5 "byVoters" "[J" ∈ ab_tbl := ab_w2 154 rfl rfl
theorem wd_454 : Cond.fieldLink RX5 31 RX5 "sums" "[I" ∈ ab_tbl := ab_w2 155 rfl rfl
theorem wd_455 : Cond.fieldLink RX5 35 RX5 "above" "[J" ∈ ab_tbl := ab_w2 156 rfl rfl
theorem wd_456 : Cond.fieldLink RX5 38 RX5 "weights" "[I" ∈ ab_tbl := ab_w2 157 rfl rfl
theorem wd_457 : Cond.fieldLink RX5 84 RX5 "least" "J" ∈ ab_tbl := ab_w2 158 rfl rfl
theorem wd_458 : Cond.fieldLink RX5 41 RX5 "weighed" "[I" ∈ ab_tbl := ab_w2 159 rfl rfl
theorem wd_459 : Cond.fieldLink RX11 317 RX5 "weighed" "[I" ∈ ab_tbl := ab_w2 160 rfl rfl
theorem wd_460 : Cond.laysFinal RX5 RX5 "rows" "LLongTable$Rows;" ∈ ab_tbl := ab_w2 161 rfl rfl
theorem wd_461 : Cond.laysFinal RX5 RX5 "taking" "[J" ∈ ab_tbl := ab_w2 163 rfl rfl
theorem wd_462 : Cond.laysFinal RX5 RX5 "leaving" "[J" ∈ ab_tbl := ab_w2 165 rfl rfl
theorem wd_463 : Cond.lays RX5 RX5 "barLost" "J" ∈ ab_tbl := ab_w2 167 rfl rfl
theorem wd_464 : Cond.laysFinal RX5 RX5 "byVoters" "[J" ∈ ab_tbl := ab_w2 169 rfl rfl
theorem wd_465 : Cond.laysFinal RX5 RX5 "sums" "[I" ∈ ab_tbl := ab_w2 171 rfl rfl
theorem wd_466 : Cond.laysFinal RX5 RX5 "above" "[J" ∈ ab_tbl := ab_w2 173 rfl rfl
theorem wd_467 : Cond.laysFinal RX5 RX5 "weights" "[I" ∈ ab_tbl := ab_w2 175 rfl rfl
theorem wd_468 : Cond.lays RX5 RX5 "least" "J" ∈ ab_tbl := ab_w2 177 rfl rfl
theorem wd_469 : Cond.laysFinal RX5 RX5 "weighed" "[I" ∈ ab_tbl := ab_w2 179 rfl rfl
theorem wd_470 : Cond.classLink RX11 73 RX10 ∈ ab_tbl := ab_w2 182 rfl rfl
theorem wd_471 : Cond.instantiable RX10 6 ∈ ab_tbl := ab_w2 183 rfl rfl
theorem wd_472 : Cond.methodLink RX11 75 yX10_init ∈ ab_tbl := ab_w2 184 rfl rfl
theorem wd_473 : Cond.instanceMethod yX10_init ∈ ab_tbl := ab_w2 185 rfl rfl
theorem wd_474 : Cond.code yX10_init cX10_init 2 (none) ∈ ab_tbl := ab_w2 186 rfl rfl
theorem wd_475 : Cond.methodLink RX10 3 objectInit ∈ ab_tbl := ab_w2 187 rfl rfl
theorem wd_476 : Cond.fieldLink RX10 9 RX10 "matter" "LLongTable$Matter;" ∈ ab_tbl := ab_w2 188 rfl rfl
theorem wd_477 : Cond.fieldLink RX10 21 RX10 "speaker" "LLongTable$Voter;" ∈ ab_tbl := ab_w2 189 rfl rfl
theorem wd_478 : Cond.fieldLink RX10 25 RX10 "hearer" "LLongTable$Voter;" ∈ ab_tbl := ab_w2 190 rfl rfl
theorem wd_479 : Cond.fieldLink RX10 42 RX10 "part" "I" ∈ ab_tbl := ab_w2 191 rfl rfl
theorem wd_480 : Cond.fieldLink RX10 28 RX10 "with" "[J" ∈ ab_tbl := ab_w2 192 rfl rfl
theorem wd_481 : Cond.fieldLink RX10 32 RX10 "decides" "[I" ∈ ab_tbl := ab_w2 193 rfl rfl
theorem wd_482 : Cond.lays RX10 RX10 "matter" "LLongTable$Matter;" ∈ ab_tbl := ab_w2 194 rfl rfl
theorem wd_483 : Cond.lays RX10 RX10 "speaker" "LLongTable$Voter;" ∈ ab_tbl := ab_w2 196 rfl rfl
theorem wd_484 : Cond.lays RX10 RX10 "hearer" "LLongTable$Voter;" ∈ ab_tbl := ab_w2 198 rfl rfl
theorem wd_485 : Cond.lays RX10 RX10 "part" "I" ∈ ab_tbl := ab_w2 200 rfl rfl
theorem wd_486 : Cond.laysFinal RX10 RX10 "with" "[J" ∈ ab_tbl := ab_w2 202 rfl rfl
theorem wd_487 : Cond.laysFinal RX10 RX10 "decides" "[I" ∈ ab_tbl := ab_w2 204 rfl rfl
theorem wd_488 : Cond.classLink RX11 80 RX6 ∈ ab_tbl := ab_w2 207 rfl rfl
theorem wd_489 : Cond.instantiable RX6 2 ∈ ab_tbl := ab_w2 208 rfl rfl
theorem wd_490 : Cond.methodLink RX11 82 yX6_init ∈ ab_tbl := ab_w2 209 rfl rfl
theorem wd_491 : Cond.instanceMethod yX6_init ∈ ab_tbl := ab_w2 210 rfl rfl
theorem wd_492 : Cond.code yX6_init cX6_init 1 (none) ∈ ab_tbl := ab_w2 211 rfl rfl
theorem wd_493 : Cond.methodLink RX6 3 objectInit ∈ ab_tbl := ab_w2 212 rfl rfl
theorem wd_494 : Cond.fieldLink RX6 15 RX6 "x" "I" ∈ ab_tbl := ab_w2 213 rfl rfl
theorem wd_495 : Cond.fieldLink RX6 9 RX6 "signs" "[I" ∈ ab_tbl := ab_w2 214 rfl rfl
theorem wd_496 : Cond.lays RX6 RX6 "x" "I" ∈ ab_tbl := ab_w2 215 rfl rfl
theorem wd_497 : Cond.laysFinal RX6 RX6 "signs" "[I" ∈ ab_tbl := ab_w2 217 rfl rfl
theorem wd_498 : Cond.fieldLink RX11 10 RX11 "tape" "LLongTable$Tape;" ∈ ab_tbl := ab_w2 220 rfl rfl
theorem wd_499 : Cond.fieldLink RX11 18 RX11 "pool" "[LLongTable$Matter;" ∈ ab_tbl := ab_w2 221 rfl rfl
theorem wd_500 : Cond.fieldLink RX11 32 RX11 "reader" "LLongTable$Reader;" ∈ ab_tbl := ab_w2 222 rfl rfl
theorem wd_501 : Cond.fieldLink RX11 41 RX11 "rows" "LLongTable$Rows;" ∈ ab_tbl := ab_w2 223 rfl rfl
theorem wd_502 : Cond.fieldLink RX11 50 RX11 "replies" "LLongTable$Replies;" ∈ ab_tbl := ab_w2 224 rfl rfl
theorem wd_503 : Cond.fieldLink RX11 57 RX11 "turns" "LLongTable$Turns;" ∈ ab_tbl := ab_w2 225 rfl rfl
theorem wd_504 : Cond.fieldLink RX11 61 RX11 "trial" "LLongTable$Turns;" ∈ ab_tbl := ab_w2 226 rfl rfl
theorem wd_505 : Cond.fieldLink RX11 69 RX11 "rules" "LLongTable$Rules;" ∈ ab_tbl := ab_w2 227 rfl rfl
theorem wd_506 : Cond.fieldLink RX11 76 RX11 "words" "LLongTable$Words;" ∈ ab_tbl := ab_w2 228 rfl rfl
theorem wd_507 : Cond.fieldLink RX11 83 RX11 "run" "LLongTable$Run;" ∈ ab_tbl := ab_w2 229 rfl rfl
theorem wd_508 : Cond.fieldLink RX11 87 RX11 "comes" "[J" ∈ ab_tbl := ab_w2 230 rfl rfl
theorem wd_509 : Cond.fieldLink RX11 23 RX11 "matter" "LLongTable$Matter;" ∈ ab_tbl := ab_w2 231 rfl rfl
theorem wd_510 : Cond.laysFinal RX11 RX11 "tape" "LLongTable$Tape;" ∈ ab_tbl := ab_w2 232 rfl rfl
theorem wd_511 : Cond.laysFinal RX11 RX11 "pool" "[LLongTable$Matter;" ∈ ab_tbl := ab_w2 234 rfl rfl
theorem wd_512 : Cond.laysFinal RX11 RX11 "reader" "LLongTable$Reader;" ∈ ab_tbl := ab_w2 236 rfl rfl
theorem wd_513 : Cond.laysFinal RX11 RX11 "rows" "LLongTable$Rows;" ∈ ab_tbl := ab_w2 238 rfl rfl
theorem wd_514 : Cond.laysFinal RX11 RX11 "replies" "LLongTable$Replies;" ∈ ab_tbl := ab_w3 0 rfl rfl
theorem wd_515 : Cond.laysFinal RX11 RX11 "turns" "LLongTable$Turns;" ∈ ab_tbl := ab_w3 2 rfl rfl
theorem wd_516 : Cond.laysFinal RX11 RX11 "trial" "LLongTable$Turns;" ∈ ab_tbl := ab_w3 4 rfl rfl
theorem wd_517 : Cond.laysFinal RX11 RX11 "rules" "LLongTable$Rules;" ∈ ab_tbl := ab_w3 6 rfl rfl
theorem wd_518 : Cond.laysFinal RX11 RX11 "words" "LLongTable$Words;" ∈ ab_tbl := ab_w3 8 rfl rfl
theorem wd_519 : Cond.laysFinal RX11 RX11 "run" "LLongTable$Run;" ∈ ab_tbl := ab_w3 10 rfl rfl
theorem wd_520 : Cond.laysFinal RX11 RX11 "comes" "[J" ∈ ab_tbl := ab_w3 12 rfl rfl
theorem wd_521 : Cond.lays RX11 RX11 "matter" "LLongTable$Matter;" ∈ ab_tbl := ab_w3 14 rfl rfl
theorem wd_522 : Cond.methodLink RL 46 yX11_feed ∈ ab_tbl := ab_w3 17 rfl rfl
theorem wd_523 : Cond.instanceMethod yX11_feed ∈ ab_tbl := ab_w3 18 rfl rfl
theorem wd_524 : Cond.selects RX11 yX11_feed yX11_feed ∈ ab_tbl := ab_w3 19 rfl rfl
theorem wd_525 : Cond.code yX11_feed cX11_feed 6 (some .int) ∈ ab_tbl := ab_w3 20 rfl rfl
theorem wd_526 : Cond.methodLink RX11 91 yX7_take ∈ ab_tbl := ab_w3 21 rfl rfl
theorem wd_527 : Cond.instanceMethod yX7_take ∈ ab_tbl := ab_w3 22 rfl rfl
theorem wd_528 : Cond.selects RX7 yX7_take yX7_take ∈ ab_tbl := ab_w3 23 rfl rfl
theorem wd_529 : Cond.code yX7_take cX7_take 6 (some .int) ∈ ab_tbl := ab_w3 24 rfl rfl
theorem wd_530 : Cond.methodLink RX7 19 yX7_add ∈ ab_tbl := ab_w3 25 rfl rfl
theorem wd_531 : Cond.instanceMethod yX7_add ∈ ab_tbl := ab_w3 27 rfl rfl
theorem wd_532 : Cond.code yX7_add cX7_add 3 (none) ∈ ab_tbl := ab_w3 28 rfl rfl
theorem wd_533 : Cond.methodLink RL 51 yX11_end ∈ ab_tbl := ab_w3 29 rfl rfl
theorem wd_534 : Cond.instanceMethod yX11_end ∈ ab_tbl := ab_w3 30 rfl rfl
theorem wd_535 : Cond.selects RX11 yX11_end yX11_end ∈ ab_tbl := ab_w3 31 rfl rfl
theorem wd_536 : Cond.code yX11_end cX11_end 2 (some .boolean) ∈ ab_tbl := ab_w3 32 rfl rfl
theorem wd_537 : Cond.methodLink RX11 95 yX7_cut ∈ ab_tbl := ab_w3 33 rfl rfl
theorem wd_538 : Cond.instanceMethod yX7_cut ∈ ab_tbl := ab_w3 34 rfl rfl
theorem wd_539 : Cond.selects RX7 yX7_cut yX7_cut ∈ ab_tbl := ab_w3 35 rfl rfl
theorem wd_540 : Cond.code yX7_cut cX7_cut 2 (some .boolean) ∈ ab_tbl := ab_w3 36 rfl rfl
theorem wd_541 : Cond.methodLink RL 56 yX11_matter ∈ ab_tbl := ab_w3 37 rfl rfl
theorem wd_542 : Cond.instanceMethod yX11_matter ∈ ab_tbl := ab_w3 38 rfl rfl
theorem wd_543 : Cond.selects RX11 yX11_matter yX11_matter ∈ ab_tbl := ab_w3 39 rfl rfl
theorem wd_544 : Cond.code yX11_matter cX11_matter 3 (some .int) ∈ ab_tbl := ab_w3 40 rfl rfl
theorem wd_545 : Cond.methodLink RX11 99 yX11_spareMatter ∈ ab_tbl := ab_w3 41 rfl rfl
theorem wd_546 : Cond.instanceMethod yX11_spareMatter ∈ ab_tbl := ab_w3 43 rfl rfl
theorem wd_547 : Cond.code yX11_spareMatter cX11_spareMatter 2 (some (.object "LongTable$Matter")) ∈ ab_tbl := ab_w3 44 rfl rfl
theorem wd_548 : Cond.methodLink RX11 103 yX2_read ∈ ab_tbl := ab_w3 45 rfl rfl
theorem wd_549 : Cond.instanceMethod yX2_read ∈ ab_tbl := ab_w3 46 rfl rfl
theorem wd_550 : Cond.selects RX2 yX2_read yX2_read ∈ ab_tbl := ab_w3 47 rfl rfl
theorem wd_551 : Cond.code yX2_read cX2_read 3 (some .int) ∈ ab_tbl := ab_w3 48 rfl rfl
theorem wd_552 : Cond.methodLink RX2 26 yX1_begin ∈ ab_tbl := ab_w3 49 rfl rfl
theorem wd_553 : Cond.instanceMethod yX1_begin ∈ ab_tbl := ab_w3 50 rfl rfl
theorem wd_554 : Cond.selects RX1 yX1_begin yX1_begin ∈ ab_tbl := ab_w3 51 rfl rfl
theorem wd_555 : Cond.code yX1_begin cX1_begin 2 (none) ∈ ab_tbl := ab_w3 52 rfl rfl
theorem wd_556 : Cond.methodLink RX1 52 yX0_becomePlain ∈ ab_tbl := ab_w3 53 rfl rfl
theorem wd_557 : Cond.instanceMethod yX0_becomePlain ∈ ab_tbl := ab_w3 54 rfl rfl
theorem wd_558 : Cond.selects RX0 yX0_becomePlain yX0_becomePlain ∈ ab_tbl := ab_w3 55 rfl rfl
theorem wd_559 : Cond.code yX0_becomePlain cX0_becomePlain 3 (none) ∈ ab_tbl := ab_w3 56 rfl rfl
theorem wd_560 : Cond.methodLink RX2 42 yX2_next ∈ ab_tbl := ab_w3 57 rfl rfl
theorem wd_561 : Cond.instanceMethod yX2_next ∈ ab_tbl := ab_w3 59 rfl rfl
theorem wd_562 : Cond.code yX2_next cX2_next 2 (none) ∈ ab_tbl := ab_w3 60 rfl rfl
theorem wd_563 : Cond.methodLink RX2 71 yX2_isBlank ∈ ab_tbl := ab_w3 61 rfl rfl
theorem wd_564 : Cond.static yX2_isBlank ∈ ab_tbl := ab_w3 62 rfl rfl
theorem wd_565 : Cond.code yX2_isBlank cX2_isBlank 1 (some .boolean) ∈ ab_tbl := ab_w3 63 rfl rfl
theorem wd_566 : Cond.methodLink RX2 77 yJ9_min_7cf53 ∈ ab_tbl := ab_w3 64 rfl rfl
theorem wd_567 : Cond.static yJ9_min_7cf53 ∈ ab_tbl := ab_w3 65 rfl rfl
theorem wd_568 : Cond.code yJ9_min_7cf53 cJ9_min_7cf53 2 (some .int) ∈ ab_tbl := ab_w3 66 rfl rfl
theorem wd_569 : Cond.methodLink RX2 83 yX2_nextRun ∈ ab_tbl := ab_w3 67 rfl rfl
theorem wd_570 : Cond.instanceMethod yX2_nextRun ∈ ab_tbl := ab_w3 69 rfl rfl
theorem wd_571 : Cond.code yX2_nextRun cX2_nextRun 4 (none) ∈ ab_tbl := ab_w3 70 rfl rfl
theorem wd_572 : Cond.fieldLink RX2 93 RX2 "KEYWORDS" "[J" ∈ ab_tbl := ab_w3 71 rfl rfl
theorem wd_573 : Cond.methodLink RX2 48 yX2_readLine ∈ ab_tbl := ab_w3 73 rfl rfl
theorem wd_574 : Cond.instanceMethod yX2_readLine ∈ ab_tbl := ab_w3 75 rfl rfl
theorem wd_575 : Cond.code yX2_readLine cX2_readLine 1 (some .boolean) ∈ ab_tbl := ab_w3 76 rfl rfl
theorem wd_576 : Cond.methodLink RX2 60 yX2_fail ∈ ab_tbl := ab_w3 77 rfl rfl
theorem wd_577 : Cond.instanceMethod yX2_fail ∈ ab_tbl := ab_w3 79 rfl rfl
theorem wd_578 : Cond.code yX2_fail cX2_fail 2 (some .boolean) ∈ ab_tbl := ab_w3 80 rfl rfl
theorem wd_579 : Cond.methodLink RX2 96 yX2_readTruth ∈ ab_tbl := ab_w3 81 rfl rfl
theorem wd_580 : Cond.instanceMethod yX2_readTruth ∈ ab_tbl := ab_w3 83 rfl rfl
theorem wd_581 : Cond.code yX2_readTruth cX2_readTruth 1 (some .boolean) ∈ ab_tbl := ab_w3 84 rfl rfl
theorem wd_582 : Cond.methodLink RX2 126 yX2_someName ∈ ab_tbl := ab_w3 85 rfl rfl
theorem wd_583 : Cond.instanceMethod yX2_someName ∈ ab_tbl := ab_w3 87 rfl rfl
theorem wd_584 : Cond.code yX2_someName cX2_someName 2 (some .boolean) ∈ ab_tbl := ab_w3 88 rfl rfl
theorem wd_585 : Cond.methodLink RX2 187 yX2_isName ∈ ab_tbl := ab_w3 89 rfl rfl
theorem wd_586 : Cond.instanceMethod yX2_isName ∈ ab_tbl := ab_w3 91 rfl rfl
theorem wd_587 : Cond.code yX2_isName cX2_isName 4 (some .boolean) ∈ ab_tbl := ab_w3 92 rfl rfl
theorem wd_588 : Cond.methodLink RX2 129 yX2_someNumber ∈ ab_tbl := ab_w3 93 rfl rfl
theorem wd_589 : Cond.instanceMethod yX2_someNumber ∈ ab_tbl := ab_w3 95 rfl rfl
theorem wd_590 : Cond.code yX2_someNumber cX2_someNumber 3 (some .boolean) ∈ ab_tbl := ab_w3 96 rfl rfl
theorem wd_591 : Cond.methodLink RX2 133 yX2_stop ∈ ab_tbl := ab_w3 97 rfl rfl
theorem wd_592 : Cond.instanceMethod yX2_stop ∈ ab_tbl := ab_w3 99 rfl rfl
theorem wd_593 : Cond.code yX2_stop cX2_stop 1 (some .boolean) ∈ ab_tbl := ab_w3 100 rfl rfl
theorem wd_594 : Cond.methodLink RX2 99 yX2_truthsStand ∈ ab_tbl := ab_w3 101 rfl rfl
theorem wd_595 : Cond.instanceMethod yX2_truthsStand ∈ ab_tbl := ab_w3 103 rfl rfl
theorem wd_596 : Cond.code yX2_truthsStand cX2_truthsStand 3 (some .boolean) ∈ ab_tbl := ab_w3 104 rfl rfl
theorem wd_597 : Cond.methodLink RX2 102 yX2_readVoter ∈ ab_tbl := ab_w3 105 rfl rfl
theorem wd_598 : Cond.instanceMethod yX2_readVoter ∈ ab_tbl := ab_w3 107 rfl rfl
theorem wd_599 : Cond.code yX2_readVoter cX2_readVoter 5 (some .boolean) ∈ ab_tbl := ab_w3 108 rfl rfl
theorem wd_600 : Cond.methodLink RX2 139 yX2_someKeyword ∈ ab_tbl := ab_w3 109 rfl rfl
theorem wd_601 : Cond.instanceMethod yX2_someKeyword ∈ ab_tbl := ab_w3 111 rfl rfl
theorem wd_602 : Cond.code yX2_someKeyword cX2_someKeyword 2 (some .boolean) ∈ ab_tbl := ab_w3 112 rfl rfl
theorem wd_603 : Cond.methodLink RX2 146 yX9_begin ∈ ab_tbl := ab_w3 113 rfl rfl
theorem wd_604 : Cond.instanceMethod yX9_begin ∈ ab_tbl := ab_w3 114 rfl rfl
theorem wd_605 : Cond.selects RX9 yX9_begin yX9_begin ∈ ab_tbl := ab_w3 115 rfl rfl
theorem wd_606 : Cond.code yX9_begin cX9_begin 3 (none) ∈ ab_tbl := ab_w3 116 rfl rfl
theorem wd_607 : Cond.methodLink RX2 105 yX2_readLoss ∈ ab_tbl := ab_w3 117 rfl rfl
theorem wd_608 : Cond.instanceMethod yX2_readLoss ∈ ab_tbl := ab_w3 119 rfl rfl
theorem wd_609 : Cond.code yX2_readLoss cX2_readLoss 4 (some .boolean) ∈ ab_tbl := ab_w3 120 rfl rfl
theorem wd_610 : Cond.methodLink RX2 108 yX2_readWay ∈ ab_tbl := ab_w3 121 rfl rfl
theorem wd_611 : Cond.instanceMethod yX2_readWay ∈ ab_tbl := ab_w3 123 rfl rfl
theorem wd_612 : Cond.code yX2_readWay cX2_readWay 2 (some .boolean) ∈ ab_tbl := ab_w3 124 rfl rfl
theorem wd_613 : Cond.methodLink RX2 180 yX2_readSet ∈ ab_tbl := ab_w3 125 rfl rfl
theorem wd_614 : Cond.instanceMethod yX2_readSet ∈ ab_tbl := ab_w3 127 rfl rfl
theorem wd_615 : Cond.code yX2_readSet cX2_readSet 3 (some .boolean) ∈ ab_tbl := ab_w3 128 rfl rfl
theorem wd_616 : Cond.methodLink RX2 111 yX2_readWeight ∈ ab_tbl := ab_w3 129 rfl rfl
theorem wd_617 : Cond.instanceMethod yX2_readWeight ∈ ab_tbl := ab_w3 131 rfl rfl
theorem wd_618 : Cond.code yX2_readWeight cX2_readWeight 1 (some .boolean) ∈ ab_tbl := ab_w3 132 rfl rfl
theorem wd_619 : Cond.methodLink RX2 114 yX2_readNeed ∈ ab_tbl := ab_w3 133 rfl rfl
theorem wd_620 : Cond.instanceMethod yX2_readNeed ∈ ab_tbl := ab_w3 135 rfl rfl
theorem wd_621 : Cond.code yX2_readNeed cX2_readNeed 1 (some .boolean) ∈ ab_tbl := ab_w3 136 rfl rfl
theorem wd_622 : Cond.methodLink RX2 117 yX2_readMost ∈ ab_tbl := ab_w3 137 rfl rfl
theorem wd_623 : Cond.instanceMethod yX2_readMost ∈ ab_tbl := ab_w3 139 rfl rfl
theorem wd_624 : Cond.code yX2_readMost cX2_readMost 1 (some .boolean) ∈ ab_tbl := ab_w3 140 rfl rfl
theorem wd_625 : Cond.methodLink RX2 52 yX1_isEmpty ∈ ab_tbl := ab_w3 141 rfl rfl
theorem wd_626 : Cond.instanceMethod yX1_isEmpty ∈ ab_tbl := ab_w3 142 rfl rfl
theorem wd_627 : Cond.selects RX1 yX1_isEmpty yX1_isEmpty ∈ ab_tbl := ab_w3 143 rfl rfl
theorem wd_628 : Cond.code yX1_isEmpty cX1_isEmpty 1 (some .boolean) ∈ ab_tbl := ab_w3 144 rfl rfl
theorem wd_629 : Cond.methodLink RX11 107 yX1_finish ∈ ab_tbl := ab_w3 145 rfl rfl
theorem wd_630 : Cond.instanceMethod yX1_finish ∈ ab_tbl := ab_w3 146 rfl rfl
theorem wd_631 : Cond.selects RX1 yX1_finish yX1_finish ∈ ab_tbl := ab_w3 147 rfl rfl
theorem wd_632 : Cond.code yX1_finish cX1_finish 3 (none) ∈ ab_tbl := ab_w3 148 rfl rfl
theorem wd_633 : Cond.methodLink RX1 55 yX9_fillLosses ∈ ab_tbl := ab_w3 149 rfl rfl
theorem wd_634 : Cond.instanceMethod yX9_fillLosses ∈ ab_tbl := ab_w3 150 rfl rfl
theorem wd_635 : Cond.selects RX9 yX9_fillLosses yX9_fillLosses ∈ ab_tbl := ab_w3 151 rfl rfl
theorem wd_636 : Cond.code yX9_fillLosses cX9_fillLosses 3 (none) ∈ ab_tbl := ab_w3 152 rfl rfl
theorem wd_637 : Cond.methodLink RX1 62 yX1_voteOf ∈ ab_tbl := ab_w3 153 rfl rfl
theorem wd_638 : Cond.instanceMethod yX1_voteOf ∈ ab_tbl := ab_w3 155 rfl rfl
theorem wd_639 : Cond.code yX1_voteOf cX1_voteOf 3 (some .int) ∈ ab_tbl := ab_w3 156 rfl rfl
theorem wd_640 : Cond.methodLink RX1 92 yX9_likeliest ∈ ab_tbl := ab_w3 157 rfl rfl
theorem wd_641 : Cond.instanceMethod yX9_likeliest ∈ ab_tbl := ab_w3 158 rfl rfl
theorem wd_642 : Cond.selects RX9 yX9_likeliest yX9_likeliest ∈ ab_tbl := ab_w3 159 rfl rfl
theorem wd_643 : Cond.code yX9_likeliest cX9_likeliest 5 (some .int) ∈ ab_tbl := ab_w3 160 rfl rfl
theorem wd_644 : Cond.methodLink RX1 96 yX1_shyVote ∈ ab_tbl := ab_w3 161 rfl rfl
theorem wd_645 : Cond.instanceMethod yX1_shyVote ∈ ab_tbl := ab_w3 163 rfl rfl
theorem wd_646 : Cond.code yX1_shyVote cX1_shyVote 6 (some .int) ∈ ab_tbl := ab_w3 164 rfl rfl
theorem wd_647 : Cond.methodLink RX1 102 yX1_honestVote ∈ ab_tbl := ab_w3 165 rfl rfl
theorem wd_648 : Cond.instanceMethod yX1_honestVote ∈ ab_tbl := ab_w3 167 rfl rfl
theorem wd_649 : Cond.code yX1_honestVote cX1_honestVote 4 (some .int) ∈ ab_tbl := ab_w3 168 rfl rfl
theorem wd_650 : Cond.methodLink RX1 111 yX0_leastOf ∈ ab_tbl := ab_w3 169 rfl rfl
theorem wd_651 : Cond.instanceMethod yX0_leastOf ∈ ab_tbl := ab_w3 170 rfl rfl
theorem wd_652 : Cond.selects RX0 yX0_leastOf yX0_leastOf ∈ ab_tbl := ab_w3 171 rfl rfl
theorem wd_653 : Cond.code yX0_leastOf cX0_leastOf 10 (some .int) ∈ ab_tbl := ab_w3 172 rfl rfl
theorem wd_654 : Cond.methodLink RX0 15 yX0_lostAt ∈ ab_tbl := ab_w3 173 rfl rfl
theorem wd_655 : Cond.instanceMethod yX0_lostAt ∈ ab_tbl := ab_w3 174 rfl rfl
theorem wd_656 : Cond.selects RX0 yX0_lostAt yX0_lostAt ∈ ab_tbl := ab_w3 175 rfl rfl
theorem wd_657 : Cond.code yX0_lostAt cX0_lostAt 7 (some .long) ∈ ab_tbl := ab_w3 176 rfl rfl
theorem wd_658 : Cond.constantLong RX1 115 (20) ∈ ab_tbl := ab_w3 177 rfl rfl
theorem wd_659 : Cond.methodLink RX11 110 yX7_clear ∈ ab_tbl := ab_w3 178 rfl rfl
theorem wd_660 : Cond.instanceMethod yX7_clear ∈ ab_tbl := ab_w3 179 rfl rfl
theorem wd_661 : Cond.selects RX7 yX7_clear yX7_clear ∈ ab_tbl := ab_w3 180 rfl rfl
theorem wd_662 : Cond.code yX7_clear cX7_clear 1 (none) ∈ ab_tbl := ab_w3 181 rfl rfl
theorem wd_663 : Cond.methodLink RL 61 yX11_fault ∈ ab_tbl := ab_w3 182 rfl rfl
theorem wd_664 : Cond.instanceMethod yX11_fault ∈ ab_tbl := ab_w3 183 rfl rfl
theorem wd_665 : Cond.selects RX11 yX11_fault yX11_fault ∈ ab_tbl := ab_w3 184 rfl rfl
theorem wd_666 : Cond.code yX11_fault cX11_fault 1 (some .int) ∈ ab_tbl := ab_w3 185 rfl rfl
theorem wd_667 : Cond.methodLink RL 65 yX11_count ∈ ab_tbl := ab_w3 186 rfl rfl
theorem wd_668 : Cond.instanceMethod yX11_count ∈ ab_tbl := ab_w3 187 rfl rfl
theorem wd_669 : Cond.selects RX11 yX11_count yX11_count ∈ ab_tbl := ab_w3 188 rfl rfl
theorem wd_670 : Cond.code yX11_count cX11_count 2 (some .int) ∈ ab_tbl := ab_w3 189 rfl rfl
theorem wd_671 : Cond.methodLink RL 70 yX11_signs ∈ ab_tbl := ab_w3 190 rfl rfl
theorem wd_672 : Cond.instanceMethod yX11_signs ∈ ab_tbl := ab_w3 191 rfl rfl
theorem wd_673 : Cond.selects RX11 yX11_signs yX11_signs ∈ ab_tbl := ab_w3 192 rfl rfl
theorem wd_674 : Cond.code yX11_signs cX11_signs 2 (some .int) ∈ ab_tbl := ab_w3 193 rfl rfl
theorem wd_675 : Cond.methodLink RX11 126 yX1_hasVoter ∈ ab_tbl := ab_w3 194 rfl rfl
theorem wd_676 : Cond.instanceMethod yX1_hasVoter ∈ ab_tbl := ab_w3 195 rfl rfl
theorem wd_677 : Cond.selects RX1 yX1_hasVoter yX1_hasVoter ∈ ab_tbl := ab_w3 196 rfl rfl
theorem wd_678 : Cond.code yX1_hasVoter cX1_hasVoter 2 (some .boolean) ∈ ab_tbl := ab_w3 197 rfl rfl
theorem wd_679 : Cond.methodLink RL 83 yX11_all ∈ ab_tbl := ab_w3 198 rfl rfl
theorem wd_680 : Cond.instanceMethod yX11_all ∈ ab_tbl := ab_w3 199 rfl rfl
theorem wd_681 : Cond.selects RX11 yX11_all yX11_all ∈ ab_tbl := ab_w3 200 rfl rfl
theorem wd_682 : Cond.code yX11_all cX11_all 1 (some .long) ∈ ab_tbl := ab_w3 201 rfl rfl
theorem wd_683 : Cond.methodLink RX11 156 yX1_isEmpty ∈ ab_tbl := ab_w3 202 rfl rfl
theorem wd_684 : Cond.methodLink RX11 160 yX11_power ∈ ab_tbl := ab_w3 203 rfl rfl
theorem wd_685 : Cond.static yX11_power ∈ ab_tbl := ab_w3 204 rfl rfl
theorem wd_686 : Cond.code yX11_power cX11_power 5 (some .long) ∈ ab_tbl := ab_w3 205 rfl rfl
theorem wd_687 : Cond.methodLink RL 87 yX11_vote ∈ ab_tbl := ab_w3 206 rfl rfl
theorem wd_688 : Cond.instanceMethod yX11_vote ∈ ab_tbl := ab_w3 207 rfl rfl
theorem wd_689 : Cond.selects RX11 yX11_vote yX11_vote ∈ ab_tbl := ab_w3 208 rfl rfl
theorem wd_690 : Cond.code yX11_vote cX11_vote 3 (some .int) ∈ ab_tbl := ab_w3 209 rfl rfl
theorem wd_691 : Cond.methodLink RX11 164 yX1_hasSign ∈ ab_tbl := ab_w3 210 rfl rfl
theorem wd_692 : Cond.instanceMethod yX1_hasSign ∈ ab_tbl := ab_w3 211 rfl rfl
theorem wd_693 : Cond.selects RX1 yX1_hasSign yX1_hasSign ∈ ab_tbl := ab_w3 212 rfl rfl
theorem wd_694 : Cond.code yX1_hasSign cX1_hasSign 3 (some .boolean) ∈ ab_tbl := ab_w3 213 rfl rfl
theorem wd_695 : Cond.methodLink RX1 66 yX1_hasVoter ∈ ab_tbl := ab_w3 214 rfl rfl
theorem wd_696 : Cond.methodLink RL 92 yX11_decided ∈ ab_tbl := ab_w3 215 rfl rfl
theorem wd_697 : Cond.instanceMethod yX11_decided ∈ ab_tbl := ab_w3 216 rfl rfl
theorem wd_698 : Cond.selects RX11 yX11_decided yX11_decided ∈ ab_tbl := ab_w3 217 rfl rfl
theorem wd_699 : Cond.code yX11_decided cX11_decided 2 (some .int) ∈ ab_tbl := ab_w3 218 rfl rfl
theorem wd_700 : Cond.methodLink RX11 141 yX1_hasSigns ∈ ab_tbl := ab_w3 219 rfl rfl
theorem wd_701 : Cond.instanceMethod yX1_hasSigns ∈ ab_tbl := ab_w3 220 rfl rfl
theorem wd_702 : Cond.selects RX1 yX1_hasSigns yX1_hasSigns ∈ ab_tbl := ab_w3 221 rfl rfl
theorem wd_703 : Cond.code yX1_hasSigns cX1_hasSigns 3 (some .boolean) ∈ ab_tbl := ab_w3 222 rfl rfl
theorem wd_704 : Cond.methodLink RX1 70 yX1_isEmpty ∈ ab_tbl := ab_w3 223 rfl rfl
theorem wd_705 : Cond.methodLink RX1 82 yX1_hasSign ∈ ab_tbl := ab_w3 224 rfl rfl
theorem wd_706 : Cond.methodLink RX11 171 yX1_decidesWithSigns ∈ ab_tbl := ab_w3 225 rfl rfl
theorem wd_707 : Cond.instanceMethod yX1_decidesWithSigns ∈ ab_tbl := ab_w3 226 rfl rfl
theorem wd_708 : Cond.selects RX1 yX1_decidesWithSigns yX1_decidesWithSigns ∈ ab_tbl := ab_w3 227 rfl rfl
theorem wd_709 : Cond.code yX1_decidesWithSigns cX1_decidesWithSigns 3 (some .int) ∈ ab_tbl := ab_w3 228 rfl rfl
theorem wd_710 : Cond.methodLink RX1 124 yX1_clearTally ∈ ab_tbl := ab_w3 229 rfl rfl
theorem wd_711 : Cond.instanceMethod yX1_clearTally ∈ ab_tbl := ab_w3 231 rfl rfl
theorem wd_712 : Cond.code yX1_clearTally cX1_clearTally 2 (none) ∈ ab_tbl := ab_w3 232 rfl rfl
theorem wd_713 : Cond.methodLink RX1 127 yX1_addVote ∈ ab_tbl := ab_w3 233 rfl rfl
theorem wd_714 : Cond.instanceMethod yX1_addVote ∈ ab_tbl := ab_w3 234 rfl rfl
theorem wd_715 : Cond.selects RX1 yX1_addVote yX1_addVote ∈ ab_tbl := ab_w3 235 rfl rfl
theorem wd_716 : Cond.code yX1_addVote cX1_addVote 4 (none) ∈ ab_tbl := ab_w3 236 rfl rfl
theorem wd_717 : Cond.methodLink RX1 131 yX1_decides ∈ ab_tbl := ab_w3 237 rfl rfl
theorem wd_718 : Cond.instanceMethod yX1_decides ∈ ab_tbl := ab_w3 238 rfl rfl
theorem wd_719 : Cond.selects RX1 yX1_decides yX1_decides ∈ ab_tbl := ab_w3 239 rfl rfl
theorem wd_720 : Cond.code yX1_decides cX1_decides 5 (some .int) ∈ ab_tbl := ab_w4 0 rfl rfl
theorem wd_721 : Cond.methodLink RL 96 yX11_right ∈ ab_tbl := ab_w4 1 rfl rfl
theorem wd_722 : Cond.instanceMethod yX11_right ∈ ab_tbl := ab_w4 2 rfl rfl
theorem wd_723 : Cond.selects RX11 yX11_right yX11_right ∈ ab_tbl := ab_w4 3 rfl rfl
theorem wd_724 : Cond.code yX11_right cX11_right 1 (some .long) ∈ ab_tbl := ab_w4 4 rfl rfl
theorem wd_725 : Cond.methodLink RX11 175 yX4_voting ∈ ab_tbl := ab_w4 5 rfl rfl
theorem wd_726 : Cond.instanceMethod yX4_voting ∈ ab_tbl := ab_w4 6 rfl rfl
theorem wd_727 : Cond.selects RX4 yX4_voting yX4_voting ∈ ab_tbl := ab_w4 7 rfl rfl
theorem wd_728 : Cond.code yX4_voting cX4_voting 5 (none) ∈ ab_tbl := ab_w4 8 rfl rfl
theorem wd_729 : Cond.methodLink RX4 56 yX4_addChoice ∈ ab_tbl := ab_w4 9 rfl rfl
theorem wd_730 : Cond.instanceMethod yX4_addChoice ∈ ab_tbl := ab_w4 11 rfl rfl
theorem wd_731 : Cond.code yX4_addChoice cX4_addChoice 6 (none) ∈ ab_tbl := ab_w4 12 rfl rfl
theorem wd_732 : Cond.methodLink RX4 60 yX4_openChoice ∈ ab_tbl := ab_w4 13 rfl rfl
theorem wd_733 : Cond.instanceMethod yX4_openChoice ∈ ab_tbl := ab_w4 15 rfl rfl
theorem wd_734 : Cond.code yX4_openChoice cX4_openChoice 6 (none) ∈ ab_tbl := ab_w4 16 rfl rfl
theorem wd_735 : Cond.methodLink RX11 179 yX4_sumUp ∈ ab_tbl := ab_w4 17 rfl rfl
theorem wd_736 : Cond.instanceMethod yX4_sumUp ∈ ab_tbl := ab_w4 18 rfl rfl
theorem wd_737 : Cond.selects RX4 yX4_sumUp yX4_sumUp ∈ ab_tbl := ab_w4 19 rfl rfl
theorem wd_738 : Cond.code yX4_sumUp cX4_sumUp 4 (none) ∈ ab_tbl := ab_w4 20 rfl rfl
theorem wd_739 : Cond.static yX11_empty ∈ ab_tbl := ab_w4 22 rfl rfl
theorem wd_740 : Cond.code yX11_empty cX11_empty 2 (none) ∈ ab_tbl := ab_w4 23 rfl rfl
theorem wd_741 : Cond.methodLink RX4 105 yX4_first ∈ ab_tbl := ab_w4 24 rfl rfl
theorem wd_742 : Cond.instanceMethod yX4_first ∈ ab_tbl := ab_w4 25 rfl rfl
theorem wd_743 : Cond.selects RX4 yX4_first yX4_first ∈ ab_tbl := ab_w4 26 rfl rfl
theorem wd_744 : Cond.code yX4_first cX4_first 3 (some .int) ∈ ab_tbl := ab_w4 27 rfl rfl
theorem wd_745 : Cond.methodLink RX4 70 yX4_fillFrom ∈ ab_tbl := ab_w4 28 rfl rfl
theorem wd_746 : Cond.instanceMethod yX4_fillFrom ∈ ab_tbl := ab_w4 30 rfl rfl
theorem wd_747 : Cond.code yX4_fillFrom cX4_fillFrom 6 (none) ∈ ab_tbl := ab_w4 31 rfl rfl
theorem wd_748 : Cond.methodLink RX4 109 yX4_decidesNow ∈ ab_tbl := ab_w4 32 rfl rfl
theorem wd_749 : Cond.instanceMethod yX4_decidesNow ∈ ab_tbl := ab_w4 34 rfl rfl
theorem wd_750 : Cond.code yX4_decidesNow cX4_decidesNow 1 (some .int) ∈ ab_tbl := ab_w4 35 rfl rfl
theorem wd_751 : Cond.methodLink RX4 87 yX4_takeTally ∈ ab_tbl := ab_w4 36 rfl rfl
theorem wd_752 : Cond.instanceMethod yX4_takeTally ∈ ab_tbl := ab_w4 38 rfl rfl
theorem wd_753 : Cond.code yX4_takeTally cX4_takeTally 2 (none) ∈ ab_tbl := ab_w4 39 rfl rfl
theorem wd_754 : Cond.methodLink RX4 93 yX1_decides ∈ ab_tbl := ab_w4 40 rfl rfl
theorem wd_755 : Cond.methodLink RX4 112 yX4_addRow ∈ ab_tbl := ab_w4 41 rfl rfl
theorem wd_756 : Cond.instanceMethod yX4_addRow ∈ ab_tbl := ab_w4 43 rfl rfl
theorem wd_757 : Cond.code yX4_addRow cX4_addRow 4 (none) ∈ ab_tbl := ab_w4 44 rfl rfl
theorem wd_758 : Cond.methodLink RX4 126 yX4_partsNow ∈ ab_tbl := ab_w4 45 rfl rfl
theorem wd_759 : Cond.instanceMethod yX4_partsNow ∈ ab_tbl := ab_w4 46 rfl rfl
theorem wd_760 : Cond.selects RX4 yX4_partsNow yX4_partsNow ∈ ab_tbl := ab_w4 47 rfl rfl
theorem wd_761 : Cond.code yX4_partsNow cX4_partsNow 2 (some .long) ∈ ab_tbl := ab_w4 48 rfl rfl
theorem wd_762 : Cond.methodLink RX4 116 yX4_step ∈ ab_tbl := ab_w4 49 rfl rfl
theorem wd_763 : Cond.instanceMethod yX4_step ∈ ab_tbl := ab_w4 50 rfl rfl
theorem wd_764 : Cond.selects RX4 yX4_step yX4_step ∈ ab_tbl := ab_w4 51 rfl rfl
theorem wd_765 : Cond.code yX4_step cX4_step 2 (none) ∈ ab_tbl := ab_w4 52 rfl rfl
theorem wd_766 : Cond.methodLink RX11 183 yX11_rightOf ∈ ab_tbl := ab_w4 53 rfl rfl
theorem wd_767 : Cond.static yX11_rightOf ∈ ab_tbl := ab_w4 54 rfl rfl
theorem wd_768 : Cond.code yX11_rightOf cX11_rightOf 1 (some .long) ∈ ab_tbl := ab_w4 55 rfl rfl
theorem wd_769 : Cond.methodLink RL 104 yX11_lost ∈ ab_tbl := ab_w4 56 rfl rfl
theorem wd_770 : Cond.instanceMethod yX11_lost ∈ ab_tbl := ab_w4 57 rfl rfl
theorem wd_771 : Cond.selects RX11 yX11_lost yX11_lost ∈ ab_tbl := ab_w4 58 rfl rfl
theorem wd_772 : Cond.code yX11_lost cX11_lost 1 (some .long) ∈ ab_tbl := ab_w4 59 rfl rfl
theorem wd_773 : Cond.methodLink RX11 187 yX11_lostWithout ∈ ab_tbl := ab_w4 60 rfl rfl
theorem wd_774 : Cond.instanceMethod yX11_lostWithout ∈ ab_tbl := ab_w4 62 rfl rfl
theorem wd_775 : Cond.code yX11_lostWithout cX11_lostWithout 3 (some .long) ∈ ab_tbl := ab_w4 63 rfl rfl
theorem wd_776 : Cond.methodLink RX11 325 yX4_silence ∈ ab_tbl := ab_w4 64 rfl rfl
theorem wd_777 : Cond.instanceMethod yX4_silence ∈ ab_tbl := ab_w4 65 rfl rfl
theorem wd_778 : Cond.selects RX4 yX4_silence yX4_silence ∈ ab_tbl := ab_w4 66 rfl rfl
theorem wd_779 : Cond.code yX4_silence cX4_silence 2 (none) ∈ ab_tbl := ab_w4 67 rfl rfl
theorem wd_780 : Cond.methodLink RX11 203 yX0_lostBy ∈ ab_tbl := ab_w4 68 rfl rfl
theorem wd_781 : Cond.instanceMethod yX0_lostBy ∈ ab_tbl := ab_w4 69 rfl rfl
theorem wd_782 : Cond.selects RX0 yX0_lostBy yX0_lostBy ∈ ab_tbl := ab_w4 70 rfl rfl
theorem wd_783 : Cond.code yX0_lostBy cX0_lostBy 5 (some .long) ∈ ab_tbl := ab_w4 71 rfl rfl
theorem wd_784 : Cond.methodLink RL 108 yX11_known ∈ ab_tbl := ab_w4 72 rfl rfl
theorem wd_785 : Cond.instanceMethod yX11_known ∈ ab_tbl := ab_w4 73 rfl rfl
theorem wd_786 : Cond.selects RX11 yX11_known yX11_known ∈ ab_tbl := ab_w4 74 rfl rfl
theorem wd_787 : Cond.code yX11_known cX11_known 2 (some .int) ∈ ab_tbl := ab_w4 75 rfl rfl
theorem wd_788 : Cond.methodLink RX11 190 yX1_knownBy ∈ ab_tbl := ab_w4 76 rfl rfl
theorem wd_789 : Cond.instanceMethod yX1_knownBy ∈ ab_tbl := ab_w4 77 rfl rfl
theorem wd_790 : Cond.selects RX1 yX1_knownBy yX1_knownBy ∈ ab_tbl := ab_w4 78 rfl rfl
theorem wd_791 : Cond.code yX1_knownBy cX1_knownBy 3 (some .int) ∈ ab_tbl := ab_w4 79 rfl rfl
theorem wd_792 : Cond.methodLink RX1 120 yX1_partsOf ∈ ab_tbl := ab_w4 80 rfl rfl
theorem wd_793 : Cond.instanceMethod yX1_partsOf ∈ ab_tbl := ab_w4 81 rfl rfl
theorem wd_794 : Cond.selects RX1 yX1_partsOf yX1_partsOf ∈ ab_tbl := ab_w4 82 rfl rfl
theorem wd_795 : Cond.code yX1_partsOf cX1_partsOf 6 (some .long) ∈ ab_tbl := ab_w4 83 rfl rfl
theorem wd_796 : Cond.methodLink RL 122 yX11_reply ∈ ab_tbl := ab_w4 84 rfl rfl
theorem wd_797 : Cond.instanceMethod yX11_reply ∈ ab_tbl := ab_w4 85 rfl rfl
theorem wd_798 : Cond.selects RX11 yX11_reply yX11_reply ∈ ab_tbl := ab_w4 86 rfl rfl
theorem wd_799 : Cond.code yX11_reply cX11_reply 3 (some .int) ∈ ab_tbl := ab_w4 87 rfl rfl
theorem wd_800 : Cond.methodLink RX11 215 yX3_hearOthers ∈ ab_tbl := ab_w4 88 rfl rfl
theorem wd_801 : Cond.instanceMethod yX3_hearOthers ∈ ab_tbl := ab_w4 89 rfl rfl
theorem wd_802 : Cond.selects RX3 yX3_hearOthers yX3_hearOthers ∈ ab_tbl := ab_w4 90 rfl rfl
theorem wd_803 : Cond.code yX3_hearOthers cX3_hearOthers 7 (none) ∈ ab_tbl := ab_w4 91 rfl rfl
theorem wd_804 : Cond.methodLink RX3 66 yX4_voting ∈ ab_tbl := ab_w4 93 rfl rfl
theorem wd_805 : Cond.methodLink RX3 99 yX4_leaveOut ∈ ab_tbl := ab_w4 94 rfl rfl
theorem wd_806 : Cond.instanceMethod yX4_leaveOut ∈ ab_tbl := ab_w4 95 rfl rfl
theorem wd_807 : Cond.selects RX4 yX4_leaveOut yX4_leaveOut ∈ ab_tbl := ab_w4 96 rfl rfl
theorem wd_808 : Cond.code yX4_leaveOut cX4_leaveOut 2 (none) ∈ ab_tbl := ab_w4 97 rfl rfl
theorem wd_809 : Cond.methodLink RX3 76 yX4_first ∈ ab_tbl := ab_w4 98 rfl rfl
theorem wd_810 : Cond.methodLink RX3 103 yX3_addLosing ∈ ab_tbl := ab_w4 99 rfl rfl
theorem wd_811 : Cond.instanceMethod yX3_addLosing ∈ ab_tbl := ab_w4 101 rfl rfl
theorem wd_812 : Cond.code yX3_addLosing cX3_addLosing 6 (none) ∈ ab_tbl := ab_w4 102 rfl rfl
theorem wd_813 : Cond.methodLink RX3 107 yX3_voteAt ∈ ab_tbl := ab_w4 103 rfl rfl
theorem wd_814 : Cond.instanceMethod yX3_voteAt ∈ ab_tbl := ab_w4 105 rfl rfl
theorem wd_815 : Cond.code yX3_voteAt cX3_voteAt 2 (some .int) ∈ ab_tbl := ab_w4 106 rfl rfl
theorem wd_816 : Cond.methodLink RX3 91 yX4_decidesIf ∈ ab_tbl := ab_w4 107 rfl rfl
theorem wd_817 : Cond.instanceMethod yX4_decidesIf ∈ ab_tbl := ab_w4 108 rfl rfl
theorem wd_818 : Cond.selects RX4 yX4_decidesIf yX4_decidesIf ∈ ab_tbl := ab_w4 109 rfl rfl
theorem wd_819 : Cond.code yX4_decidesIf cX4_decidesIf 4 (some .int) ∈ ab_tbl := ab_w4 110 rfl rfl
theorem wd_820 : Cond.methodLink RX4 97 yX1_addVote ∈ ab_tbl := ab_w4 111 rfl rfl
theorem wd_821 : Cond.methodLink RX3 84 yX4_partsNow ∈ ab_tbl := ab_w4 112 rfl rfl
theorem wd_822 : Cond.methodLink RX3 88 yX4_step ∈ ab_tbl := ab_w4 113 rfl rfl
theorem wd_823 : Cond.methodLink RX11 219 yX3_best ∈ ab_tbl := ab_w4 114 rfl rfl
theorem wd_824 : Cond.instanceMethod yX3_best ∈ ab_tbl := ab_w4 115 rfl rfl
theorem wd_825 : Cond.selects RX3 yX3_best yX3_best ∈ ab_tbl := ab_w4 116 rfl rfl
theorem wd_826 : Cond.code yX3_best cX3_best 11 (some .int) ∈ ab_tbl := ab_w4 117 rfl rfl
theorem wd_827 : Cond.methodLink RX3 129 yX1_hasTruth ∈ ab_tbl := ab_w4 118 rfl rfl
theorem wd_828 : Cond.instanceMethod yX1_hasTruth ∈ ab_tbl := ab_w4 119 rfl rfl
theorem wd_829 : Cond.selects RX1 yX1_hasTruth yX1_hasTruth ∈ ab_tbl := ab_w4 120 rfl rfl
theorem wd_830 : Cond.code yX1_hasTruth cX1_hasTruth 2 (some .boolean) ∈ ab_tbl := ab_w4 121 rfl rfl
theorem wd_831 : Cond.methodLink RX3 132 yX3_lostBy ∈ ab_tbl := ab_w4 122 rfl rfl
theorem wd_832 : Cond.instanceMethod yX3_lostBy ∈ ab_tbl := ab_w4 124 rfl rfl
theorem wd_833 : Cond.code yX3_lostBy cX3_lostBy 8 (some .long) ∈ ab_tbl := ab_w4 125 rfl rfl
theorem wd_834 : Cond.methodLink RL 126 yX11_fit ∈ ab_tbl := ab_w4 126 rfl rfl
theorem wd_835 : Cond.instanceMethod yX11_fit ∈ ab_tbl := ab_w4 127 rfl rfl
theorem wd_836 : Cond.selects RX11 yX11_fit yX11_fit ∈ ab_tbl := ab_w4 128 rfl rfl
theorem wd_837 : Cond.code yX11_fit cX11_fit 1 (some .int) ∈ ab_tbl := ab_w4 129 rfl rfl
theorem wd_838 : Cond.methodLink RX11 223 yX3_isFit ∈ ab_tbl := ab_w4 130 rfl rfl
theorem wd_839 : Cond.instanceMethod yX3_isFit ∈ ab_tbl := ab_w4 131 rfl rfl
theorem wd_840 : Cond.selects RX3 yX3_isFit yX3_isFit ∈ ab_tbl := ab_w4 132 rfl rfl
theorem wd_841 : Cond.code yX3_isFit cX3_isFit 6 (some .boolean) ∈ ab_tbl := ab_w4 133 rfl rfl
theorem wd_842 : Cond.methodLink RX3 139 yX3_hearOthers ∈ ab_tbl := ab_w4 134 rfl rfl
theorem wd_843 : Cond.methodLink RX3 146 yX3_best ∈ ab_tbl := ab_w4 135 rfl rfl
theorem wd_844 : Cond.methodLink RL 130 yX11_settle ∈ ab_tbl := ab_w4 136 rfl rfl
theorem wd_845 : Cond.instanceMethod yX11_settle ∈ ab_tbl := ab_w4 137 rfl rfl
theorem wd_846 : Cond.selects RX11 yX11_settle yX11_settle ∈ ab_tbl := ab_w4 138 rfl rfl
theorem wd_847 : Cond.code yX11_settle cX11_settle 1 (some .int) ∈ ab_tbl := ab_w4 139 rfl rfl
theorem wd_848 : Cond.methodLink RX11 227 yX3_settleVotes ∈ ab_tbl := ab_w4 140 rfl rfl
theorem wd_849 : Cond.instanceMethod yX3_settleVotes ∈ ab_tbl := ab_w4 141 rfl rfl
theorem wd_850 : Cond.selects RX3 yX3_settleVotes yX3_settleVotes ∈ ab_tbl := ab_w4 142 rfl rfl
theorem wd_851 : Cond.code yX3_settleVotes cX3_settleVotes 3 (some .int) ∈ ab_tbl := ab_w4 143 rfl rfl
theorem wd_852 : Cond.methodLink RX3 150 yX3_changesInRound ∈ ab_tbl := ab_w4 144 rfl rfl
theorem wd_853 : Cond.instanceMethod yX3_changesInRound ∈ ab_tbl := ab_w4 146 rfl rfl
theorem wd_854 : Cond.code yX3_changesInRound cX3_changesInRound 6 (some .boolean) ∈ ab_tbl := ab_w4 147 rfl rfl
theorem wd_855 : Cond.methodLink RX3 154 yX3_keepVotes ∈ ab_tbl := ab_w4 148 rfl rfl
theorem wd_856 : Cond.instanceMethod yX3_keepVotes ∈ ab_tbl := ab_w4 150 rfl rfl
theorem wd_857 : Cond.code yX3_keepVotes cX3_keepVotes 5 (none) ∈ ab_tbl := ab_w4 151 rfl rfl
theorem wd_858 : Cond.methodLink RX3 170 yX1_hasSign ∈ ab_tbl := ab_w4 152 rfl rfl
theorem wd_859 : Cond.methodLink RX3 157 yX3_countTrial ∈ ab_tbl := ab_w4 153 rfl rfl
theorem wd_860 : Cond.instanceMethod yX3_countTrial ∈ ab_tbl := ab_w4 155 rfl rfl
theorem wd_861 : Cond.code yX3_countTrial cX3_countTrial 2 (none) ∈ ab_tbl := ab_w4 156 rfl rfl
theorem wd_862 : Cond.methodLink RX3 174 yX4_sumUp ∈ ab_tbl := ab_w4 157 rfl rfl
theorem wd_863 : Cond.methodLink RX3 168 yX0_lostBy ∈ ab_tbl := ab_w4 159 rfl rfl
theorem wd_864 : Cond.methodLink RL 134 yX11_settled ∈ ab_tbl := ab_w4 160 rfl rfl
theorem wd_865 : Cond.instanceMethod yX11_settled ∈ ab_tbl := ab_w4 161 rfl rfl
theorem wd_866 : Cond.selects RX11 yX11_settled yX11_settled ∈ ab_tbl := ab_w4 162 rfl rfl
theorem wd_867 : Cond.code yX11_settled cX11_settled 3 (some .int) ∈ ab_tbl := ab_w4 163 rfl rfl
theorem wd_868 : Cond.methodLink RX11 230 yX11_inTable ∈ ab_tbl := ab_w4 164 rfl rfl
theorem wd_869 : Cond.static yX11_inTable ∈ ab_tbl := ab_w4 165 rfl rfl
theorem wd_870 : Cond.code yX11_inTable cX11_inTable 2 (some .boolean) ∈ ab_tbl := ab_w4 166 rfl rfl
theorem wd_871 : Cond.methodLink RL 138 yX11_settles ∈ ab_tbl := ab_w4 167 rfl rfl
theorem wd_872 : Cond.instanceMethod yX11_settles ∈ ab_tbl := ab_w4 168 rfl rfl
theorem wd_873 : Cond.selects RX11 yX11_settles yX11_settles ∈ ab_tbl := ab_w4 169 rfl rfl
theorem wd_874 : Cond.code yX11_settles cX11_settles 2 (some .long) ∈ ab_tbl := ab_w4 170 rfl rfl
theorem wd_875 : Cond.constantLong RX11 243 (-1) ∈ ab_tbl := ab_w4 171 rfl rfl
theorem wd_876 : Cond.methodLink RL 142 yX11_inTurns ∈ ab_tbl := ab_w4 172 rfl rfl
theorem wd_877 : Cond.instanceMethod yX11_inTurns ∈ ab_tbl := ab_w4 173 rfl rfl
theorem wd_878 : Cond.selects RX11 yX11_inTurns yX11_inTurns ∈ ab_tbl := ab_w4 174 rfl rfl
theorem wd_879 : Cond.code yX11_inTurns cX11_inTurns 3 (some .long) ∈ ab_tbl := ab_w4 175 rfl rfl
theorem wd_880 : Cond.methodLink RX11 245 yX1_hasOrder ∈ ab_tbl := ab_w4 176 rfl rfl
theorem wd_881 : Cond.instanceMethod yX1_hasOrder ∈ ab_tbl := ab_w4 177 rfl rfl
theorem wd_882 : Cond.selects RX1 yX1_hasOrder yX1_hasOrder ∈ ab_tbl := ab_w4 178 rfl rfl
theorem wd_883 : Cond.code yX1_hasOrder cX1_hasOrder 5 (some .boolean) ∈ ab_tbl := ab_w4 179 rfl rfl
theorem wd_884 : Cond.methodLink RX11 248 yX8_speakAll ∈ ab_tbl := ab_w4 180 rfl rfl
theorem wd_885 : Cond.instanceMethod yX8_speakAll ∈ ab_tbl := ab_w4 181 rfl rfl
theorem wd_886 : Cond.selects RX8 yX8_speakAll yX8_speakAll ∈ ab_tbl := ab_w4 182 rfl rfl
theorem wd_887 : Cond.code yX8_speakAll cX8_speakAll 4 (none) ∈ ab_tbl := ab_w4 183 rfl rfl
theorem wd_888 : Cond.methodLink RX8 46 yX8_speakInOrder ∈ ab_tbl := ab_w4 184 rfl rfl
theorem wd_889 : Cond.instanceMethod yX8_speakInOrder ∈ ab_tbl := ab_w4 186 rfl rfl
theorem wd_890 : Cond.code yX8_speakInOrder cX8_speakInOrder 1 (none) ∈ ab_tbl := ab_w4 187 rfl rfl
theorem wd_891 : Cond.methodLink RX8 60 yX8_openTalk ∈ ab_tbl := ab_w4 189 rfl rfl
theorem wd_892 : Cond.instanceMethod yX8_openTalk ∈ ab_tbl := ab_w4 191 rfl rfl
theorem wd_893 : Cond.code yX8_openTalk cX8_openTalk 2 (none) ∈ ab_tbl := ab_w4 192 rfl rfl
theorem wd_894 : Cond.methodLink RX8 63 yX8_speak ∈ ab_tbl := ab_w4 193 rfl rfl
theorem wd_895 : Cond.instanceMethod yX8_speak ∈ ab_tbl := ab_w4 195 rfl rfl
theorem wd_896 : Cond.code yX8_speak cX8_speak 6 (none) ∈ ab_tbl := ab_w4 196 rfl rfl
theorem wd_897 : Cond.methodLink RX8 70 yX8_endTalk ∈ ab_tbl := ab_w4 197 rfl rfl
theorem wd_898 : Cond.instanceMethod yX8_endTalk ∈ ab_tbl := ab_w4 199 rfl rfl
theorem wd_899 : Cond.code yX8_endTalk cX8_endTalk 7 (none) ∈ ab_tbl := ab_w4 200 rfl rfl
theorem wd_900 : Cond.methodLink RX8 74 yX8_ponder ∈ ab_tbl := ab_w4 201 rfl rfl
theorem wd_901 : Cond.instanceMethod yX8_ponder ∈ ab_tbl := ab_w4 203 rfl rfl
theorem wd_902 : Cond.code yX8_ponder cX8_ponder 5 (none) ∈ ab_tbl := ab_w4 204 rfl rfl
theorem wd_903 : Cond.methodLink RX8 105 yX0_leastOf ∈ ab_tbl := ab_w4 205 rfl rfl
theorem wd_904 : Cond.methodLink RX8 78 yX8_cliffAt ∈ ab_tbl := ab_w4 206 rfl rfl
theorem wd_905 : Cond.instanceMethod yX8_cliffAt ∈ ab_tbl := ab_w4 208 rfl rfl
theorem wd_906 : Cond.code yX8_cliffAt cX8_cliffAt 3 (some .int) ∈ ab_tbl := ab_w4 209 rfl rfl
theorem wd_907 : Cond.methodLink RX8 111 yX8_follows ∈ ab_tbl := ab_w4 210 rfl rfl
theorem wd_908 : Cond.instanceMethod yX8_follows ∈ ab_tbl := ab_w4 212 rfl rfl
theorem wd_909 : Cond.code yX8_follows cX8_follows 6 (some .boolean) ∈ ab_tbl := ab_w4 213 rfl rfl
theorem wd_910 : Cond.methodLink RX8 115 yX8_hasCase ∈ ab_tbl := ab_w4 214 rfl rfl
theorem wd_911 : Cond.instanceMethod yX8_hasCase ∈ ab_tbl := ab_w4 216 rfl rfl
theorem wd_912 : Cond.code yX8_hasCase cX8_hasCase 5 (some .boolean) ∈ ab_tbl := ab_w4 217 rfl rfl
theorem wd_913 : Cond.methodLink RX8 85 yX8_hear ∈ ab_tbl := ab_w4 218 rfl rfl
theorem wd_914 : Cond.instanceMethod yX8_hear ∈ ab_tbl := ab_w4 220 rfl rfl
theorem wd_915 : Cond.code yX8_hear cX8_hear 9 (some .boolean) ∈ ab_tbl := ab_w4 221 rfl rfl
theorem wd_916 : Cond.methodLink RL 146 yX11_herd ∈ ab_tbl := ab_w4 222 rfl rfl
theorem wd_917 : Cond.instanceMethod yX11_herd ∈ ab_tbl := ab_w4 223 rfl rfl
theorem wd_918 : Cond.selects RX11 yX11_herd yX11_herd ∈ ab_tbl := ab_w4 224 rfl rfl
theorem wd_919 : Cond.code yX11_herd cX11_herd 2 (some .long) ∈ ab_tbl := ab_w4 225 rfl rfl
theorem wd_920 : Cond.methodLink RX11 252 yX8_isSilent ∈ ab_tbl := ab_w4 226 rfl rfl
theorem wd_921 : Cond.instanceMethod yX8_isSilent ∈ ab_tbl := ab_w4 227 rfl rfl
theorem wd_922 : Cond.selects RX8 yX8_isSilent yX8_isSilent ∈ ab_tbl := ab_w4 228 rfl rfl
theorem wd_923 : Cond.code yX8_isSilent cX8_isSilent 1 (some .boolean) ∈ ab_tbl := ab_w4 229 rfl rfl
theorem wd_924 : Cond.methodLink RX8 32 yX1_isEmpty ∈ ab_tbl := ab_w4 230 rfl rfl
theorem wd_925 : Cond.methodLink RL 150 yX11_says ∈ ab_tbl := ab_w4 231 rfl rfl
theorem wd_926 : Cond.instanceMethod yX11_says ∈ ab_tbl := ab_w4 232 rfl rfl
theorem wd_927 : Cond.selects RX11 yX11_says yX11_says ∈ ab_tbl := ab_w4 233 rfl rfl
theorem wd_928 : Cond.code yX11_says cX11_says 2 (some .int) ∈ ab_tbl := ab_w4 234 rfl rfl
theorem wd_929 : Cond.methodLink RX11 261 yX8_hasSigns ∈ ab_tbl := ab_w4 235 rfl rfl
theorem wd_930 : Cond.instanceMethod yX8_hasSigns ∈ ab_tbl := ab_w4 236 rfl rfl
theorem wd_931 : Cond.selects RX8 yX8_hasSigns yX8_hasSigns ∈ ab_tbl := ab_w4 237 rfl rfl
theorem wd_932 : Cond.code yX8_hasSigns cX8_hasSigns 2 (some .boolean) ∈ ab_tbl := ab_w4 238 rfl rfl
theorem wd_933 : Cond.methodLink RX8 38 yX1_hasSigns ∈ ab_tbl := ab_w4 239 rfl rfl
theorem wd_934 : Cond.methodLink RX11 262 yX8_said ∈ ab_tbl := ab_w5 0 rfl rfl
theorem wd_935 : Cond.instanceMethod yX8_said ∈ ab_tbl := ab_w5 1 rfl rfl
theorem wd_936 : Cond.selects RX8 yX8_said yX8_said ∈ ab_tbl := ab_w5 2 rfl rfl
theorem wd_937 : Cond.code yX8_said cX8_said 4 (some .int) ∈ ab_tbl := ab_w5 3 rfl rfl
theorem wd_938 : Cond.methodLink RX8 119 yX8_sayWith ∈ ab_tbl := ab_w5 4 rfl rfl
theorem wd_939 : Cond.instanceMethod yX8_sayWith ∈ ab_tbl := ab_w5 6 rfl rfl
theorem wd_940 : Cond.code yX8_sayWith cX8_sayWith 4 (some .int) ∈ ab_tbl := ab_w5 7 rfl rfl
theorem wd_941 : Cond.methodLink RL 154 yX11_cliff ∈ ab_tbl := ab_w5 8 rfl rfl
theorem wd_942 : Cond.instanceMethod yX11_cliff ∈ ab_tbl := ab_w5 9 rfl rfl
theorem wd_943 : Cond.selects RX11 yX11_cliff yX11_cliff ∈ ab_tbl := ab_w5 10 rfl rfl
theorem wd_944 : Cond.code yX11_cliff cX11_cliff 2 (some .int) ∈ ab_tbl := ab_w5 11 rfl rfl
theorem wd_945 : Cond.methodLink RX11 265 yX8_cliffWith ∈ ab_tbl := ab_w5 12 rfl rfl
theorem wd_946 : Cond.instanceMethod yX8_cliffWith ∈ ab_tbl := ab_w5 13 rfl rfl
theorem wd_947 : Cond.selects RX8 yX8_cliffWith yX8_cliffWith ∈ ab_tbl := ab_w5 14 rfl rfl
theorem wd_948 : Cond.code yX8_cliffWith cX8_cliffWith 4 (some .int) ∈ ab_tbl := ab_w5 15 rfl rfl
theorem wd_949 : Cond.methodLink RL 158 yX11_bestOrder ∈ ab_tbl := ab_w5 16 rfl rfl
theorem wd_950 : Cond.instanceMethod yX11_bestOrder ∈ ab_tbl := ab_w5 17 rfl rfl
theorem wd_951 : Cond.selects RX11 yX11_bestOrder yX11_bestOrder ∈ ab_tbl := ab_w5 18 rfl rfl
theorem wd_952 : Cond.code yX11_bestOrder cX11_bestOrder 1 (some .int) ∈ ab_tbl := ab_w5 19 rfl rfl
theorem wd_953 : Cond.methodLink RX11 268 yX8_tryOrders ∈ ab_tbl := ab_w5 20 rfl rfl
theorem wd_954 : Cond.instanceMethod yX8_tryOrders ∈ ab_tbl := ab_w5 21 rfl rfl
theorem wd_955 : Cond.selects RX8 yX8_tryOrders yX8_tryOrders ∈ ab_tbl := ab_w5 22 rfl rfl
theorem wd_956 : Cond.code yX8_tryOrders cX8_tryOrders 9 (some .int) ∈ ab_tbl := ab_w5 23 rfl rfl
theorem wd_957 : Cond.constantLong RX8 123 (1152921504606846976) ∈ ab_tbl := ab_w5 24 rfl rfl
theorem wd_958 : Cond.methodLink RX8 128 yX0_lostBy ∈ ab_tbl := ab_w5 25 rfl rfl
theorem wd_959 : Cond.methodLink RX8 132 yX8_orderByTen ∈ ab_tbl := ab_w5 26 rfl rfl
theorem wd_960 : Cond.instanceMethod yX8_orderByTen ∈ ab_tbl := ab_w5 28 rfl rfl
theorem wd_961 : Cond.code yX8_orderByTen cX8_orderByTen 3 (some .int) ∈ ab_tbl := ab_w5 29 rfl rfl
theorem wd_962 : Cond.methodLink RX8 136 yX8_nextOrder ∈ ab_tbl := ab_w5 30 rfl rfl
theorem wd_963 : Cond.instanceMethod yX8_nextOrder ∈ ab_tbl := ab_w5 32 rfl rfl
theorem wd_964 : Cond.code yX8_nextOrder cX8_nextOrder 5 (some .boolean) ∈ ab_tbl := ab_w5 33 rfl rfl
theorem wd_965 : Cond.methodLink RX8 139 yX8_swap ∈ ab_tbl := ab_w5 34 rfl rfl
theorem wd_966 : Cond.instanceMethod yX8_swap ∈ ab_tbl := ab_w5 36 rfl rfl
theorem wd_967 : Cond.code yX8_swap cX8_swap 4 (none) ∈ ab_tbl := ab_w5 37 rfl rfl
theorem wd_968 : Cond.methodLink RL 166 yX11_bar ∈ ab_tbl := ab_w5 38 rfl rfl
theorem wd_969 : Cond.instanceMethod yX11_bar ∈ ab_tbl := ab_w5 39 rfl rfl
theorem wd_970 : Cond.selects RX11 yX11_bar yX11_bar ∈ ab_tbl := ab_w5 40 rfl rfl
theorem wd_971 : Cond.code yX11_bar cX11_bar 3 (some .int) ∈ ab_tbl := ab_w5 41 rfl rfl
theorem wd_972 : Cond.methodLink RX11 138 yX1_hasTruth ∈ ab_tbl := ab_w5 42 rfl rfl
theorem wd_973 : Cond.methodLink RX11 271 yX5_bestBar ∈ ab_tbl := ab_w5 43 rfl rfl
theorem wd_974 : Cond.instanceMethod yX5_bestBar ∈ ab_tbl := ab_w5 44 rfl rfl
theorem wd_975 : Cond.selects RX5 yX5_bestBar yX5_bestBar ∈ ab_tbl := ab_w5 45 rfl rfl
theorem wd_976 : Cond.code yX5_bestBar cX5_bestBar 8 (some .int) ∈ ab_tbl := ab_w5 46 rfl rfl
theorem wd_977 : Cond.methodLink RX5 44 yX5_sortByWeights ∈ ab_tbl := ab_w5 47 rfl rfl
theorem wd_978 : Cond.instanceMethod yX5_sortByWeights ∈ ab_tbl := ab_w5 49 rfl rfl
theorem wd_979 : Cond.code yX5_sortByWeights cX5_sortByWeights 7 (none) ∈ ab_tbl := ab_w5 50 rfl rfl
theorem wd_980 : Cond.methodLink RX5 57 yX4_voting ∈ ab_tbl := ab_w5 52 rfl rfl
theorem wd_981 : Cond.methodLink RX5 63 yX4_first ∈ ab_tbl := ab_w5 53 rfl rfl
theorem wd_982 : Cond.methodLink RX5 67 yX4_weightNow ∈ ab_tbl := ab_w5 54 rfl rfl
theorem wd_983 : Cond.instanceMethod yX4_weightNow ∈ ab_tbl := ab_w5 55 rfl rfl
theorem wd_984 : Cond.selects RX4 yX4_weightNow yX4_weightNow ∈ ab_tbl := ab_w5 56 rfl rfl
theorem wd_985 : Cond.code yX4_weightNow cX4_weightNow 2 (some .int) ∈ ab_tbl := ab_w5 57 rfl rfl
theorem wd_986 : Cond.methodLink RX5 71 yX4_lostNow ∈ ab_tbl := ab_w5 58 rfl rfl
theorem wd_987 : Cond.instanceMethod yX4_lostNow ∈ ab_tbl := ab_w5 59 rfl rfl
theorem wd_988 : Cond.selects RX4 yX4_lostNow yX4_lostNow ∈ ab_tbl := ab_w5 60 rfl rfl
theorem wd_989 : Cond.code yX4_lostNow cX4_lostNow 2 (some .long) ∈ ab_tbl := ab_w5 61 rfl rfl
theorem wd_990 : Cond.methodLink RX4 81 yX0_lostAt ∈ ab_tbl := ab_w5 62 rfl rfl
theorem wd_991 : Cond.methodLink RX5 75 yX4_step ∈ ab_tbl := ab_w5 63 rfl rfl
theorem wd_992 : Cond.methodLink RL 170 yX11_barLost ∈ ab_tbl := ab_w5 64 rfl rfl
theorem wd_993 : Cond.instanceMethod yX11_barLost ∈ ab_tbl := ab_w5 65 rfl rfl
theorem wd_994 : Cond.selects RX11 yX11_barLost yX11_barLost ∈ ab_tbl := ab_w5 66 rfl rfl
theorem wd_995 : Cond.code yX11_barLost cX11_barLost 1 (some .long) ∈ ab_tbl := ab_w5 67 rfl rfl
theorem wd_996 : Cond.methodLink RL 174 yX11_silent ∈ ab_tbl := ab_w5 68 rfl rfl
theorem wd_997 : Cond.instanceMethod yX11_silent ∈ ab_tbl := ab_w5 69 rfl rfl
theorem wd_998 : Cond.selects RX11 yX11_silent yX11_silent ∈ ab_tbl := ab_w5 70 rfl rfl
theorem wd_999 : Cond.code yX11_silent cX11_silent 7 (some .int) ∈ ab_tbl := ab_w5 71 rfl rfl
theorem wd_1000 : Cond.methodLink RX11 278 yX11_lost ∈ ab_tbl := ab_w5 72 rfl rfl
theorem wd_1001 : Cond.methodLink RL 178 yX11_helps ∈ ab_tbl := ab_w5 73 rfl rfl
theorem wd_1002 : Cond.instanceMethod yX11_helps ∈ ab_tbl := ab_w5 74 rfl rfl
theorem wd_1003 : Cond.selects RX11 yX11_helps yX11_helps ∈ ab_tbl := ab_w5 75 rfl rfl
theorem wd_1004 : Cond.code yX11_helps cX11_helps 5 (some .int) ∈ ab_tbl := ab_w5 76 rfl rfl
theorem wd_1005 : Cond.methodLink RL 182 yX11_believed ∈ ab_tbl := ab_w5 77 rfl rfl
theorem wd_1006 : Cond.instanceMethod yX11_believed ∈ ab_tbl := ab_w5 78 rfl rfl
theorem wd_1007 : Cond.selects RX11 yX11_believed yX11_believed ∈ ab_tbl := ab_w5 79 rfl rfl
theorem wd_1008 : Cond.code yX11_believed cX11_believed 4 (some .int) ∈ ab_tbl := ab_w5 80 rfl rfl
theorem wd_1009 : Cond.methodLink RX11 282 yX10_lastPart ∈ ab_tbl := ab_w5 81 rfl rfl
theorem wd_1010 : Cond.static yX10_lastPart ∈ ab_tbl := ab_w5 82 rfl rfl
theorem wd_1011 : Cond.code yX10_lastPart cX10_lastPart 1 (some .int) ∈ ab_tbl := ab_w5 83 rfl rfl
theorem wd_1012 : Cond.methodLink RX11 286 yX10_areBelieved ∈ ab_tbl := ab_w5 84 rfl rfl
theorem wd_1013 : Cond.instanceMethod yX10_areBelieved ∈ ab_tbl := ab_w5 85 rfl rfl
theorem wd_1014 : Cond.selects RX10 yX10_areBelieved yX10_areBelieved ∈ ab_tbl := ab_w5 86 rfl rfl
theorem wd_1015 : Cond.code yX10_areBelieved cX10_areBelieved 7 (some .boolean) ∈ ab_tbl := ab_w5 87 rfl rfl
theorem wd_1016 : Cond.fieldLink RX10 45 RX10 "WORD_OF" "[I" ∈ ab_tbl := ab_w5 88 rfl rfl
theorem wd_1017 : Cond.methodLink RX10 48 yJ9_max_7cf53 ∈ ab_tbl := ab_w5 90 rfl rfl
theorem wd_1018 : Cond.static yJ9_max_7cf53 ∈ ab_tbl := ab_w5 91 rfl rfl
theorem wd_1019 : Cond.code yJ9_max_7cf53 cJ9_max_7cf53 2 (some .int) ∈ ab_tbl := ab_w5 92 rfl rfl
theorem wd_1020 : Cond.methodLink RX10 54 yX10_hearWord ∈ ab_tbl := ab_w5 93 rfl rfl
theorem wd_1021 : Cond.instanceMethod yX10_hearWord ∈ ab_tbl := ab_w5 95 rfl rfl
theorem wd_1022 : Cond.code yX10_hearWord cX10_hearWord 4 (none) ∈ ab_tbl := ab_w5 96 rfl rfl
theorem wd_1023 : Cond.methodLink RX10 65 yX10_likelyWord ∈ ab_tbl := ab_w5 97 rfl rfl
theorem wd_1024 : Cond.instanceMethod yX10_likelyWord ∈ ab_tbl := ab_w5 99 rfl rfl
theorem wd_1025 : Cond.code yX10_likelyWord cX10_likelyWord 5 (some .int) ∈ ab_tbl := ab_w5 100 rfl rfl
theorem wd_1026 : Cond.methodLink RX10 78 yX0_leastOf ∈ ab_tbl := ab_w5 101 rfl rfl
theorem wd_1027 : Cond.methodLink RX10 58 yX10_liesWith ∈ ab_tbl := ab_w5 102 rfl rfl
theorem wd_1028 : Cond.instanceMethod yX10_liesWith ∈ ab_tbl := ab_w5 104 rfl rfl
theorem wd_1029 : Cond.code yX10_liesWith cX10_liesWith 6 (some .boolean) ∈ ab_tbl := ab_w5 105 rfl rfl
theorem wd_1030 : Cond.methodLink RX10 84 yX10_lostBy ∈ ab_tbl := ab_w5 106 rfl rfl
theorem wd_1031 : Cond.instanceMethod yX10_lostBy ∈ ab_tbl := ab_w5 108 rfl rfl
theorem wd_1032 : Cond.code yX10_lostBy cX10_lostBy 8 (some .long) ∈ ab_tbl := ab_w5 109 rfl rfl
theorem wd_1033 : Cond.methodLink RX10 88 yX0_lostAt ∈ ab_tbl := ab_w5 110 rfl rfl
theorem wd_1034 : Cond.methodLink RL 193 yX11_fits ∈ ab_tbl := ab_w5 111 rfl rfl
theorem wd_1035 : Cond.instanceMethod yX11_fits ∈ ab_tbl := ab_w5 112 rfl rfl
theorem wd_1036 : Cond.selects RX11 yX11_fits yX11_fits ∈ ab_tbl := ab_w5 113 rfl rfl
theorem wd_1037 : Cond.code yX11_fits cX11_fits 1 (some .int) ∈ ab_tbl := ab_w5 114 rfl rfl
theorem wd_1038 : Cond.methodLink RX11 303 yX1_signsInAll ∈ ab_tbl := ab_w5 115 rfl rfl
theorem wd_1039 : Cond.instanceMethod yX1_signsInAll ∈ ab_tbl := ab_w5 116 rfl rfl
theorem wd_1040 : Cond.selects RX1 yX1_signsInAll yX1_signsInAll ∈ ab_tbl := ab_w5 117 rfl rfl
theorem wd_1041 : Cond.code yX1_signsInAll cX1_signsInAll 3 (some .int) ∈ ab_tbl := ab_w5 118 rfl rfl
theorem wd_1042 : Cond.methodLink RX11 307 yX3_countFits ∈ ab_tbl := ab_w5 119 rfl rfl
theorem wd_1043 : Cond.instanceMethod yX3_countFits ∈ ab_tbl := ab_w5 120 rfl rfl
theorem wd_1044 : Cond.selects RX3 yX3_countFits yX3_countFits ∈ ab_tbl := ab_w5 121 rfl rfl
theorem wd_1045 : Cond.code yX3_countFits cX3_countFits 10 (some .int) ∈ ab_tbl := ab_w5 122 rfl rfl
theorem wd_1046 : Cond.methodLink RX3 177 yX3_layPlaces ∈ ab_tbl := ab_w5 123 rfl rfl
theorem wd_1047 : Cond.instanceMethod yX3_layPlaces ∈ ab_tbl := ab_w5 125 rfl rfl
theorem wd_1048 : Cond.code yX3_layPlaces cX3_layPlaces 4 (some .int) ∈ ab_tbl := ab_w5 126 rfl rfl
theorem wd_1049 : Cond.methodLink RX3 197 yJ9_min_7cf53 ∈ ab_tbl := ab_w5 127 rfl rfl
theorem wd_1050 : Cond.methodLink RX3 180 yX3_noteReplies ∈ ab_tbl := ab_w5 128 rfl rfl
theorem wd_1051 : Cond.instanceMethod yX3_noteReplies ∈ ab_tbl := ab_w5 130 rfl rfl
theorem wd_1052 : Cond.code yX3_noteReplies cX3_noteReplies 4 (none) ∈ ab_tbl := ab_w5 131 rfl rfl
theorem wd_1053 : Cond.methodLink RX3 183 yX3_areNoted ∈ ab_tbl := ab_w5 132 rfl rfl
theorem wd_1054 : Cond.instanceMethod yX3_areNoted ∈ ab_tbl := ab_w5 134 rfl rfl
theorem wd_1055 : Cond.code yX3_areNoted cX3_areNoted 5 (some .boolean) ∈ ab_tbl := ab_w5 135 rfl rfl
theorem wd_1056 : Cond.methodLink RX3 186 yX3_isFit ∈ ab_tbl := ab_w5 136 rfl rfl
theorem wd_1057 : Cond.methodLink RX3 190 yX3_nextTable ∈ ab_tbl := ab_w5 137 rfl rfl
theorem wd_1058 : Cond.instanceMethod yX3_nextTable ∈ ab_tbl := ab_w5 139 rfl rfl
theorem wd_1059 : Cond.code yX3_nextTable cX3_nextTable 4 (some .boolean) ∈ ab_tbl := ab_w5 140 rfl rfl
theorem wd_1060 : Cond.methodLink RL 197 yX11_fitAt ∈ ab_tbl := ab_w5 141 rfl rfl
theorem wd_1061 : Cond.instanceMethod yX11_fitAt ∈ ab_tbl := ab_w5 142 rfl rfl
theorem wd_1062 : Cond.selects RX11 yX11_fitAt yX11_fitAt ∈ ab_tbl := ab_w5 143 rfl rfl
theorem wd_1063 : Cond.code yX11_fitAt cX11_fitAt 3 (some .int) ∈ ab_tbl := ab_w5 144 rfl rfl
theorem wd_1064 : Cond.methodLink RL 201 yX11_weighed ∈ ab_tbl := ab_w5 145 rfl rfl
theorem wd_1065 : Cond.instanceMethod yX11_weighed ∈ ab_tbl := ab_w5 146 rfl rfl
theorem wd_1066 : Cond.selects RX11 yX11_weighed yX11_weighed ∈ ab_tbl := ab_w5 147 rfl rfl
theorem wd_1067 : Cond.code yX11_weighed cX11_weighed 1 (some .long) ∈ ab_tbl := ab_w5 148 rfl rfl
theorem wd_1068 : Cond.methodLink RX11 313 yX5_weighAll ∈ ab_tbl := ab_w5 149 rfl rfl
theorem wd_1069 : Cond.instanceMethod yX5_weighAll ∈ ab_tbl := ab_w5 150 rfl rfl
theorem wd_1070 : Cond.selects RX5 yX5_weighAll yX5_weighAll ∈ ab_tbl := ab_w5 151 rfl rfl
theorem wd_1071 : Cond.code yX5_weighAll cX5_weighAll 4 (some .long) ∈ ab_tbl := ab_w5 152 rfl rfl
theorem wd_1072 : Cond.methodLink RX5 78 yX5_sortByVoters ∈ ab_tbl := ab_w5 153 rfl rfl
theorem wd_1073 : Cond.instanceMethod yX5_sortByVoters ∈ ab_tbl := ab_w5 155 rfl rfl
theorem wd_1074 : Cond.code yX5_sortByVoters cX5_sortByVoters 7 (none) ∈ ab_tbl := ab_w5 156 rfl rfl
theorem wd_1075 : Cond.methodLink RX5 104 yX4_votersFor ∈ ab_tbl := ab_w5 157 rfl rfl
theorem wd_1076 : Cond.instanceMethod yX4_votersFor ∈ ab_tbl := ab_w5 158 rfl rfl
theorem wd_1077 : Cond.selects RX4 yX4_votersFor yX4_votersFor ∈ ab_tbl := ab_w5 159 rfl rfl
theorem wd_1078 : Cond.code yX4_votersFor cX4_votersFor 4 (some .int) ∈ ab_tbl := ab_w5 160 rfl rfl
theorem wd_1079 : Cond.constantLong RX5 82 (1152921504606846976) ∈ ab_tbl := ab_w5 161 rfl rfl
theorem wd_1080 : Cond.methodLink RX5 91 yX5_takeWeights ∈ ab_tbl := ab_w5 162 rfl rfl
theorem wd_1081 : Cond.instanceMethod yX5_takeWeights ∈ ab_tbl := ab_w5 164 rfl rfl
theorem wd_1082 : Cond.code yX5_takeWeights cX5_takeWeights 5 (none) ∈ ab_tbl := ab_w5 165 rfl rfl
theorem wd_1083 : Cond.methodLink RX5 95 yX5_addWeights ∈ ab_tbl := ab_w5 166 rfl rfl
theorem wd_1084 : Cond.instanceMethod yX5_addWeights ∈ ab_tbl := ab_w5 168 rfl rfl
theorem wd_1085 : Cond.code yX5_addWeights cX5_addWeights 8 (none) ∈ ab_tbl := ab_w5 169 rfl rfl
theorem wd_1086 : Cond.methodLink RX5 98 yX5_tryNeeds ∈ ab_tbl := ab_w5 170 rfl rfl
theorem wd_1087 : Cond.instanceMethod yX5_tryNeeds ∈ ab_tbl := ab_w5 172 rfl rfl
theorem wd_1088 : Cond.code yX5_tryNeeds cX5_tryNeeds 5 (none) ∈ ab_tbl := ab_w5 173 rfl rfl
theorem wd_1089 : Cond.methodLink RX5 107 yX5_lostByNeed ∈ ab_tbl := ab_w5 174 rfl rfl
theorem wd_1090 : Cond.instanceMethod yX5_lostByNeed ∈ ab_tbl := ab_w5 176 rfl rfl
theorem wd_1091 : Cond.code yX5_lostByNeed cX5_lostByNeed 6 (some .long) ∈ ab_tbl := ab_w5 177 rfl rfl
theorem wd_1092 : Cond.methodLink RX5 111 yX5_keepNeed ∈ ab_tbl := ab_w5 178 rfl rfl
theorem wd_1093 : Cond.instanceMethod yX5_keepNeed ∈ ab_tbl := ab_w5 180 rfl rfl
theorem wd_1094 : Cond.code yX5_keepNeed cX5_keepNeed 6 (none) ∈ ab_tbl := ab_w5 181 rfl rfl
theorem wd_1095 : Cond.methodLink RL 205 yX11_weighedAt ∈ ab_tbl := ab_w5 182 rfl rfl
theorem wd_1096 : Cond.instanceMethod yX11_weighedAt ∈ ab_tbl := ab_w5 183 rfl rfl
theorem wd_1097 : Cond.selects RX11 yX11_weighedAt yX11_weighedAt ∈ ab_tbl := ab_w5 184 rfl rfl
theorem wd_1098 : Cond.code yX11_weighedAt cX11_weighedAt 2 (some .int) ∈ ab_tbl := ab_w5 185 rfl rfl
theorem wd_1099 : Cond.methodLink RL 209 yX11_guess ∈ ab_tbl := ab_w5 186 rfl rfl
theorem wd_1100 : Cond.instanceMethod yX11_guess ∈ ab_tbl := ab_w5 187 rfl rfl
theorem wd_1101 : Cond.selects RX11 yX11_guess yX11_guess ∈ ab_tbl := ab_w5 188 rfl rfl
theorem wd_1102 : Cond.code yX11_guess cX11_guess 2 (some .int) ∈ ab_tbl := ab_w5 189 rfl rfl
theorem wd_1103 : Cond.methodLink RX11 290 yX1_hasVotes ∈ ab_tbl := ab_w5 190 rfl rfl
theorem wd_1104 : Cond.instanceMethod yX1_hasVotes ∈ ab_tbl := ab_w5 191 rfl rfl
theorem wd_1105 : Cond.selects RX1 yX1_hasVotes yX1_hasVotes ∈ ab_tbl := ab_w5 192 rfl rfl
theorem wd_1106 : Cond.code yX1_hasVotes cX1_hasVotes 3 (some .boolean) ∈ ab_tbl := ab_w5 193 rfl rfl
theorem wd_1107 : Cond.methodLink RX1 86 yX1_hasTruth ∈ ab_tbl := ab_w5 194 rfl rfl
theorem wd_1108 : Cond.methodLink RX11 293 yX4_votingAs ∈ ab_tbl := ab_w5 195 rfl rfl
theorem wd_1109 : Cond.instanceMethod yX4_votingAs ∈ ab_tbl := ab_w5 196 rfl rfl
theorem wd_1110 : Cond.selects RX4 yX4_votingAs yX4_votingAs ∈ ab_tbl := ab_w5 197 rfl rfl
theorem wd_1111 : Cond.code yX4_votingAs cX4_votingAs 5 (none) ∈ ab_tbl := ab_w5 198 rfl rfl
theorem wd_1112 : Cond.methodLink RX11 320 yX4_likeliest ∈ ab_tbl := ab_w5 199 rfl rfl
theorem wd_1113 : Cond.instanceMethod yX4_likeliest ∈ ab_tbl := ab_w5 200 rfl rfl
theorem wd_1114 : Cond.selects RX4 yX4_likeliest yX4_likeliest ∈ ab_tbl := ab_w5 201 rfl rfl
theorem wd_1115 : Cond.code yX4_likeliest cX4_likeliest 5 (some .int) ∈ ab_tbl := ab_w5 202 rfl rfl
theorem wd_1116 : Cond.methodLink RL 216 yX11_run ∈ ab_tbl := ab_w5 203 rfl rfl
theorem wd_1117 : Cond.instanceMethod yX11_run ∈ ab_tbl := ab_w5 204 rfl rfl
theorem wd_1118 : Cond.selects RX11 yX11_run yX11_run ∈ ab_tbl := ab_w5 205 rfl rfl
theorem wd_1119 : Cond.code yX11_run cX11_run 3 (some .int) ∈ ab_tbl := ab_w5 206 rfl rfl
theorem wd_1120 : Cond.methodLink RX11 323 yX6_rightOf ∈ ab_tbl := ab_w5 207 rfl rfl
theorem wd_1121 : Cond.instanceMethod yX6_rightOf ∈ ab_tbl := ab_w5 208 rfl rfl
theorem wd_1122 : Cond.selects RX6 yX6_rightOf yX6_rightOf ∈ ab_tbl := ab_w5 209 rfl rfl
theorem wd_1123 : Cond.code yX6_rightOf cX6_rightOf 8 (some .int) ∈ ab_tbl := ab_w5 210 rfl rfl
theorem wd_1124 : Cond.methodLink RX6 27 yX6_draw ∈ ab_tbl := ab_w5 211 rfl rfl
theorem wd_1125 : Cond.instanceMethod yX6_draw ∈ ab_tbl := ab_w5 213 rfl rfl
theorem wd_1126 : Cond.code yX6_draw cX6_draw 7 (some .int) ∈ ab_tbl := ab_w5 214 rfl rfl
theorem wd_1127 : Cond.constant RX6 49 (1103515245) ∈ ab_tbl := ab_w5 215 rfl rfl
theorem wd_1128 : Cond.methodLink RX6 45 yX1_decidesWithSigns ∈ ab_tbl := ab_w5 216 rfl rfl
theorem wd_1129 : Cond.methodLink RL 74 yL_parts ∈ ab_tbl := ab_w5 217 rfl rfl
theorem wd_1130 : Cond.static yL_parts ∈ ab_tbl := ab_w5 218 rfl rfl
theorem wd_1131 : Cond.classLink RL 13 "java/util/NoSuchElementException" ∈ ab_tbl := ab_w5 220 rfl rfl
theorem wd_1132 : Cond.methodLink RL 7 yX11_parts ∈ ab_tbl := ab_w5 221 rfl rfl
theorem wd_1133 : Cond.instanceMethod yX11_parts ∈ ab_tbl := ab_w5 222 rfl rfl
theorem wd_1134 : Cond.selects RX11 yX11_parts yX11_parts ∈ ab_tbl := ab_w5 223 rfl rfl
theorem wd_1135 : Cond.code yX11_parts cX11_parts 4 (some .long) ∈ ab_tbl := ab_w5 224 rfl rfl
theorem wd_1136 : Cond.classLink RX11 145 "java/util/NoSuchElementException" ∈ ab_tbl := ab_w5 225 rfl rfl
theorem wd_1137 : Cond.instantiable "java/util/NoSuchElementException" 6 ∈ ab_tbl := ab_w5 226 rfl rfl
theorem wd_1138 : Cond.selects "java/util/NoSuchElementException" ⟨"java/lang/Throwable", "fillInStackTrace", "(I)Ljava/lang/Throwable;"⟩ ⟨"java/lang/Throwable", "fillInStackTrace", "(I)Ljava/lang/Throwable;"⟩ ∈ ab_tbl := ab_w5 234 rfl rfl
theorem wd_1139 : Cond.selects "java/util/NoSuchElementException" ⟨"java/lang/Throwable", "fillInStackTrace", "()Ljava/lang/Throwable;"⟩ ⟨"java/lang/Throwable", "fillInStackTrace", "()Ljava/lang/Throwable;"⟩ ∈ ab_tbl := ab_w5 235 rfl rfl
theorem wd_1140 : Cond.lays "java/util/NoSuchElementException" "java/lang/Throwable" "cause" "Ljava/lang/Throwable;" ∈ ab_tbl := ab_w5 236 rfl rfl
theorem wd_1141 : Cond.lays "java/lang/Throwable" "java/lang/Throwable" "cause" "Ljava/lang/Throwable;" ∈ ab_tbl := ab_w5 237 rfl rfl
theorem wd_1142 : Cond.lays "java/util/NoSuchElementException" "java/lang/Throwable" "stackTrace" "[Ljava/lang/StackTraceElement;" ∈ ab_tbl := ab_w5 238 rfl rfl
theorem wd_1143 : Cond.lays "java/lang/Throwable" "java/lang/Throwable" "stackTrace" "[Ljava/lang/StackTraceElement;" ∈ ab_tbl := ab_w5 239 rfl rfl
theorem wd_1144 : Cond.lays "java/util/NoSuchElementException" "java/lang/Throwable" "suppressedExceptions" "Ljava/util/List;" ∈ ab_tbl := ab_w6 0 rfl rfl
theorem wd_1145 : Cond.lays "java/lang/Throwable" "java/lang/Throwable" "suppressedExceptions" "Ljava/util/List;" ∈ ab_tbl := ab_w6 1 rfl rfl
theorem wd_1146 : Cond.lays "java/util/NoSuchElementException" "java/lang/Throwable" "detailMessage" "Ljava/lang/String;" ∈ ab_tbl := ab_w6 2 rfl rfl
theorem wd_1147 : Cond.lays "java/lang/Throwable" "java/lang/Throwable" "detailMessage" "Ljava/lang/String;" ∈ ab_tbl := ab_w6 3 rfl rfl
theorem wd_1148 : Cond.lays "java/util/NoSuchElementException" "java/lang/Throwable" "backtrace" "Ljava/lang/Object;" ∈ ab_tbl := ab_w6 4 rfl rfl
theorem wd_1149 : Cond.lays "java/lang/Throwable" "java/lang/Throwable" "backtrace" "Ljava/lang/Object;" ∈ ab_tbl := ab_w6 5 rfl rfl
theorem wd_1150 : Cond.fieldLink "java/lang/Throwable" 198 "java/lang/Throwable" "backtrace" "Ljava/lang/Object;" ∈ ab_tbl := ab_w6 6 rfl rfl
theorem wd_1151 : Cond.instanceMethod ⟨"java/lang/Throwable", "<init>", "()V"⟩ ∈ ab_tbl := ab_w6 8 rfl rfl
theorem wd_1152 : Cond.code ⟨"java/lang/Throwable", "<init>", "()V"⟩ prog_19_method_1_code 1 (none) ∈ ab_tbl := ab_w6 9 rfl rfl
theorem wd_1153 : Cond.methodLink "java/lang/Throwable" 1 objectInit ∈ ab_tbl := ab_w6 10 rfl rfl
theorem wd_1154 : Cond.fieldLink "java/lang/Throwable" 13 "java/lang/Throwable" "UNASSIGNED_STACK" "[Ljava/lang/StackTraceElement;" ∈ ab_tbl := ab_w6 11 rfl rfl
theorem wd_1155 : Cond.fieldLink "java/lang/Throwable" 20 "java/lang/Throwable" "SUPPRESSED_SENTINEL" "Ljava/util/List;" ∈ ab_tbl := ab_w6 13 rfl rfl
theorem wd_1156 : Cond.methodLink "java/lang/Throwable" 27 ⟨"java/lang/Throwable", "fillInStackTrace", "()Ljava/lang/Throwable;"⟩ ∈ ab_tbl := ab_w6 15 rfl rfl
theorem wd_1157 : Cond.instanceMethod ⟨"java/lang/Throwable", "fillInStackTrace", "()Ljava/lang/Throwable;"⟩ ∈ ab_tbl := ab_w6 16 rfl rfl
theorem wd_1158 : Cond.methodLink "java/lang/Throwable" 202 ⟨"java/lang/Throwable", "fillInStackTrace", "(I)Ljava/lang/Throwable;"⟩ ∈ ab_tbl := ab_w6 19 rfl rfl
theorem wd_1159 : Cond.instanceMethod ⟨"java/lang/Throwable", "fillInStackTrace", "(I)Ljava/lang/Throwable;"⟩ ∈ ab_tbl := ab_w6 21 rfl rfl
theorem wd_1160 : Cond.instantiable "java/lang/Throwable" 6 ∈ ab_tbl := ab_w6 22 rfl rfl
theorem wd_1161 : Cond.methodLink RX11 147 ⟨"java/util/NoSuchElementException", "<init>", "()V"⟩ ∈ ab_tbl := ab_w6 24 rfl rfl
theorem wd_1162 : Cond.instanceMethod ⟨"java/util/NoSuchElementException", "<init>", "()V"⟩ ∈ ab_tbl := ab_w6 25 rfl rfl
theorem wd_1163 : Cond.code ⟨"java/util/NoSuchElementException", "<init>", "()V"⟩ prog_20_method_1_code 1 (none) ∈ ab_tbl := ab_w6 26 rfl rfl
theorem wd_1164 : Cond.methodLink "java/util/NoSuchElementException" 1 ⟨"java/lang/RuntimeException", "<init>", "()V"⟩ ∈ ab_tbl := ab_w6 27 rfl rfl
theorem wd_1165 : Cond.instanceMethod ⟨"java/lang/RuntimeException", "<init>", "()V"⟩ ∈ ab_tbl := ab_w6 28 rfl rfl
theorem wd_1166 : Cond.code ⟨"java/lang/RuntimeException", "<init>", "()V"⟩ prog_18_method_1_code 1 (none) ∈ ab_tbl := ab_w6 29 rfl rfl
theorem wd_1167 : Cond.methodLink "java/lang/RuntimeException" 1 ⟨"java/lang/Exception", "<init>", "()V"⟩ ∈ ab_tbl := ab_w6 30 rfl rfl
theorem wd_1168 : Cond.instanceMethod ⟨"java/lang/Exception", "<init>", "()V"⟩ ∈ ab_tbl := ab_w6 31 rfl rfl
theorem wd_1169 : Cond.code ⟨"java/lang/Exception", "<init>", "()V"⟩ prog_16_method_1_code 1 (none) ∈ ab_tbl := ab_w6 32 rfl rfl
theorem wd_1170 : Cond.methodLink "java/lang/Exception" 1 ⟨"java/lang/Throwable", "<init>", "()V"⟩ ∈ ab_tbl := ab_w6 33 rfl rfl
theorem wd_1171 : Cond.fieldLink "java/lang/Throwable" 198 "java/lang/Throwable" "backtrace" "Ljava/lang/Object;" ∈ ab_tbl := ab_w6 34 rfl rfl
theorem wd_1172 : Cond.fieldLink "java/lang/Throwable" 7 "java/lang/Throwable" "cause" "Ljava/lang/Throwable;" ∈ ab_tbl := ab_w6 35 rfl rfl
theorem wd_1173 : Cond.fieldLink "java/lang/Throwable" 17 "java/lang/Throwable" "stackTrace" "[Ljava/lang/StackTraceElement;" ∈ ab_tbl := ab_w6 36 rfl rfl
theorem wd_1174 : Cond.fieldLink "java/lang/Throwable" 24 "java/lang/Throwable" "suppressedExceptions" "Ljava/util/List;" ∈ ab_tbl := ab_w6 37 rfl rfl
theorem wd_1175 : Cond.lays "java/util/NoSuchElementException" "java/lang/Throwable" "depth" "I" ∈ ab_tbl := ab_w6 42 rfl rfl
theorem wd_1176 : Cond.methodLink RX11 152 yX1_partsOf ∈ ab_tbl := ab_w6 46 rfl rfl
theorem wd_1177 : Cond.methodLink RL 100 yL_comes ∈ ab_tbl := ab_w6 47 rfl rfl
theorem wd_1178 : Cond.static yL_comes ∈ ab_tbl := ab_w6 48 rfl rfl
theorem wd_1179 : Cond.methodLink RL 15 yX11_comes ∈ ab_tbl := ab_w6 50 rfl rfl
theorem wd_1180 : Cond.instanceMethod yX11_comes ∈ ab_tbl := ab_w6 51 rfl rfl
theorem wd_1181 : Cond.selects RX11 yX11_comes yX11_comes ∈ ab_tbl := ab_w6 52 rfl rfl
theorem wd_1182 : Cond.code yX11_comes cX11_comes 3 (some .long) ∈ ab_tbl := ab_w6 53 rfl rfl
theorem wd_1183 : Cond.methodLink RL 112 yL_knows ∈ ab_tbl := ab_w6 54 rfl rfl
theorem wd_1184 : Cond.static yL_knows ∈ ab_tbl := ab_w6 55 rfl rfl
theorem wd_1185 : Cond.methodLink RL 19 yX11_knows ∈ ab_tbl := ab_w6 57 rfl rfl
theorem wd_1186 : Cond.instanceMethod yX11_knows ∈ ab_tbl := ab_w6 58 rfl rfl
theorem wd_1187 : Cond.selects RX11 yX11_knows yX11_knows ∈ ab_tbl := ab_w6 59 rfl rfl
theorem wd_1188 : Cond.code yX11_knows cX11_knows 2 (some .long) ∈ ab_tbl := ab_w6 60 rfl rfl
theorem wd_1189 : Cond.methodLink RX11 193 yX4_seeing ∈ ab_tbl := ab_w6 61 rfl rfl
theorem wd_1190 : Cond.instanceMethod yX4_seeing ∈ ab_tbl := ab_w6 62 rfl rfl
theorem wd_1191 : Cond.selects RX4 yX4_seeing yX4_seeing ∈ ab_tbl := ab_w6 63 rfl rfl
theorem wd_1192 : Cond.code yX4_seeing cX4_seeing 4 (none) ∈ ab_tbl := ab_w6 64 rfl rfl
theorem wd_1193 : Cond.methodLink RX11 196 yX4_sumUpBest ∈ ab_tbl := ab_w6 65 rfl rfl
theorem wd_1194 : Cond.instanceMethod yX4_sumUpBest ∈ ab_tbl := ab_w6 66 rfl rfl
theorem wd_1195 : Cond.selects RX4 yX4_sumUpBest yX4_sumUpBest ∈ ab_tbl := ab_w6 67 rfl rfl
theorem wd_1196 : Cond.code yX4_sumUpBest cX4_sumUpBest 4 (none) ∈ ab_tbl := ab_w6 68 rfl rfl
theorem wd_1197 : Cond.methodLink RX4 122 yX0_leastOf ∈ ab_tbl := ab_w6 69 rfl rfl
theorem wd_1198 : Cond.methodLink RL 115 yL_turns ∈ ab_tbl := ab_w6 70 rfl rfl
theorem wd_1199 : Cond.static yL_turns ∈ ab_tbl := ab_w6 71 rfl rfl
theorem wd_1200 : Cond.methodLink RL 22 yX11_turns ∈ ab_tbl := ab_w6 73 rfl rfl
theorem wd_1201 : Cond.instanceMethod yX11_turns ∈ ab_tbl := ab_w6 74 rfl rfl
theorem wd_1202 : Cond.selects RX11 yX11_turns yX11_turns ∈ ab_tbl := ab_w6 75 rfl rfl
theorem wd_1203 : Cond.code yX11_turns cX11_turns 3 (some .long) ∈ ab_tbl := ab_w6 76 rfl rfl
theorem wd_1204 : Cond.methodLink RX11 208 yX3_countTurns ∈ ab_tbl := ab_w6 77 rfl rfl
theorem wd_1205 : Cond.instanceMethod yX3_countTurns ∈ ab_tbl := ab_w6 78 rfl rfl
theorem wd_1206 : Cond.selects RX3 yX3_countTurns yX3_countTurns ∈ ab_tbl := ab_w6 79 rfl rfl
theorem wd_1207 : Cond.code yX3_countTurns cX3_countTurns 7 (none) ∈ ab_tbl := ab_w6 80 rfl rfl
theorem wd_1208 : Cond.methodLink RX3 72 yX4_pin ∈ ab_tbl := ab_w6 81 rfl rfl
theorem wd_1209 : Cond.instanceMethod yX4_pin ∈ ab_tbl := ab_w6 82 rfl rfl
theorem wd_1210 : Cond.selects RX4 yX4_pin yX4_pin ∈ ab_tbl := ab_w6 83 rfl rfl
theorem wd_1211 : Cond.code yX4_pin cX4_pin 4 (none) ∈ ab_tbl := ab_w6 84 rfl rfl
theorem wd_1212 : Cond.methodLink RX3 80 yX3_turnsNow ∈ ab_tbl := ab_w6 85 rfl rfl
theorem wd_1213 : Cond.instanceMethod yX3_turnsNow ∈ ab_tbl := ab_w6 87 rfl rfl
theorem wd_1214 : Cond.code yX3_turnsNow cX3_turnsNow 4 (some .boolean) ∈ ab_tbl := ab_w6 88 rfl rfl
theorem wd_1215 : Cond.methodLink RL 118 yL_think ∈ ab_tbl := ab_w6 89 rfl rfl
theorem wd_1216 : Cond.static yL_think ∈ ab_tbl := ab_w6 90 rfl rfl
theorem wd_1217 : Cond.methodLink RL 25 yX11_think ∈ ab_tbl := ab_w6 92 rfl rfl
theorem wd_1218 : Cond.instanceMethod yX11_think ∈ ab_tbl := ab_w6 93 rfl rfl
theorem wd_1219 : Cond.selects RX11 yX11_think yX11_think ∈ ab_tbl := ab_w6 94 rfl rfl
theorem wd_1220 : Cond.code yX11_think cX11_think 4 (some .long) ∈ ab_tbl := ab_w6 95 rfl rfl
theorem wd_1221 : Cond.methodLink RL 162 yL_bestRule ∈ ab_tbl := ab_w6 96 rfl rfl
theorem wd_1222 : Cond.static yL_bestRule ∈ ab_tbl := ab_w6 97 rfl rfl
theorem wd_1223 : Cond.methodLink RL 29 yX11_bestRule ∈ ab_tbl := ab_w6 99 rfl rfl
theorem wd_1224 : Cond.instanceMethod yX11_bestRule ∈ ab_tbl := ab_w6 100 rfl rfl
theorem wd_1225 : Cond.selects RX11 yX11_bestRule yX11_bestRule ∈ ab_tbl := ab_w6 101 rfl rfl
theorem wd_1226 : Cond.code yX11_bestRule cX11_bestRule 1 (some .long) ∈ ab_tbl := ab_w6 102 rfl rfl
theorem wd_1227 : Cond.methodLink RL 187 yL_minutes ∈ ab_tbl := ab_w6 103 rfl rfl
theorem wd_1228 : Cond.static yL_minutes ∈ ab_tbl := ab_w6 104 rfl rfl
theorem wd_1229 : Cond.methodLink RL 33 yX11_minutes ∈ ab_tbl := ab_w6 106 rfl rfl
theorem wd_1230 : Cond.instanceMethod yX11_minutes ∈ ab_tbl := ab_w6 107 rfl rfl
theorem wd_1231 : Cond.selects RX11 yX11_minutes yX11_minutes ∈ ab_tbl := ab_w6 108 rfl rfl
theorem wd_1232 : Cond.code yX11_minutes cX11_minutes 5 (some .long) ∈ ab_tbl := ab_w6 109 rfl rfl
theorem wd_1233 : Cond.methodLink RX11 296 yX4_pin ∈ ab_tbl := ab_w6 110 rfl rfl
theorem wd_1234 : Cond.methodLink RX11 300 yX11_sumOf ∈ ab_tbl := ab_w6 111 rfl rfl
theorem wd_1235 : Cond.static yX11_sumOf ∈ ab_tbl := ab_w6 112 rfl rfl
theorem wd_1236 : Cond.code yX11_sumOf cX11_sumOf 4 (some .long) ∈ ab_tbl := ab_w6 113 rfl rfl
theorem wd_1237 : Cond.methodLink RL 190 yL_shut ∈ ab_tbl := ab_w6 114 rfl rfl
theorem wd_1238 : Cond.static yL_shut ∈ ab_tbl := ab_w6 115 rfl rfl
theorem wd_1239 : Cond.methodLink RL 36 yX11_shut ∈ ab_tbl := ab_w6 117 rfl rfl
theorem wd_1240 : Cond.instanceMethod yX11_shut ∈ ab_tbl := ab_w6 118 rfl rfl
theorem wd_1241 : Cond.selects RX11 yX11_shut yX11_shut ∈ ab_tbl := ab_w6 119 rfl rfl
theorem wd_1242 : Cond.code yX11_shut cX11_shut 4 (some .long) ∈ ab_tbl := ab_w6 120 rfl rfl
theorem wd_1243 : Cond.methodLink RL 213 yL_many ∈ ab_tbl := ab_w6 121 rfl rfl
theorem wd_1244 : Cond.static yL_many ∈ ab_tbl := ab_w6 122 rfl rfl
theorem wd_1245 : Cond.methodLink RL 39 yX11_many ∈ ab_tbl := ab_w6 124 rfl rfl
theorem wd_1246 : Cond.instanceMethod yX11_many ∈ ab_tbl := ab_w6 125 rfl rfl
theorem wd_1247 : Cond.selects RX11 yX11_many yX11_many ∈ ab_tbl := ab_w6 126 rfl rfl
theorem wd_1248 : Cond.code yX11_many cX11_many 8 (some .long) ∈ ab_tbl := ab_w6 127 rfl rfl
theorem wd_1249 : Cond.classLink RL 43 RX12 ∈ ab_tbl := ab_w6 128 rfl rfl
theorem wd_1250 : Cond.instantiable RX12 70 ∈ ab_tbl := ab_w6 129 rfl rfl
theorem wd_1251 : Cond.methodLink RL 45 yX12_init ∈ ab_tbl := ab_w6 130 rfl rfl
theorem wd_1252 : Cond.instanceMethod yX12_init ∈ ab_tbl := ab_w6 131 rfl rfl
theorem wd_1253 : Cond.code yX12_init cX12_init 1 (none) ∈ ab_tbl := ab_w6 132 rfl rfl
theorem wd_1254 : Cond.methodLink RX12 1 objectInit ∈ ab_tbl := ab_w6 133 rfl rfl
theorem wd_1255 : Cond.constant RX12 98 (45927) ∈ ab_tbl := ab_w6 134 rfl rfl
theorem wd_1256 : Cond.constant RX12 118 (49152) ∈ ab_tbl := ab_w6 135 rfl rfl
theorem wd_1257 : Cond.constantLong RX12 128 (-1) ∈ ab_tbl := ab_w6 136 rfl rfl
theorem wd_1258 : Cond.fieldLink RX12 149 RX12 "thrown" "I" ∈ ab_tbl := ab_w6 137 rfl rfl
theorem wd_1259 : Cond.fieldLink RX12 7 RX12 "tape" "[I" ∈ ab_tbl := ab_w6 138 rfl rfl
theorem wd_1260 : Cond.fieldLink RX12 153 RX12 "taped" "I" ∈ ab_tbl := ab_w6 139 rfl rfl
theorem wd_1261 : Cond.fieldLink RX12 160 RX12 "size" "I" ∈ ab_tbl := ab_w6 140 rfl rfl
theorem wd_1262 : Cond.fieldLink RX12 163 RX12 "to" "I" ∈ ab_tbl := ab_w6 141 rfl rfl
theorem wd_1263 : Cond.fieldLink RX12 166 RX12 "from" "I" ∈ ab_tbl := ab_w6 142 rfl rfl
theorem wd_1264 : Cond.fieldLink RX12 169 RX12 "kind" "I" ∈ ab_tbl := ab_w6 143 rfl rfl
theorem wd_1265 : Cond.fieldLink RX12 182 RX12 "number" "I" ∈ ab_tbl := ab_w6 144 rfl rfl
theorem wd_1266 : Cond.fieldLink RX12 197 RX12 "fault" "I" ∈ ab_tbl := ab_w6 145 rfl rfl
theorem wd_1267 : Cond.fieldLink RX12 200 RX12 "place" "I" ∈ ab_tbl := ab_w6 146 rfl rfl
theorem wd_1268 : Cond.fieldLink RX12 179 RX12 "word" "J" ∈ ab_tbl := ab_w6 147 rfl rfl
theorem wd_1269 : Cond.fieldLink RX12 13 RX12 "truthName" "[J" ∈ ab_tbl := ab_w6 148 rfl rfl
theorem wd_1270 : Cond.fieldLink RX12 17 RX12 "voterName" "[J" ∈ ab_tbl := ab_w6 149 rfl rfl
theorem wd_1271 : Cond.fieldLink RX12 20 RX12 "truthsOf" "[I" ∈ ab_tbl := ab_w6 150 rfl rfl
theorem wd_1272 : Cond.fieldLink RX12 23 RX12 "votersOf" "[I" ∈ ab_tbl := ab_w6 151 rfl rfl
theorem wd_1273 : Cond.fieldLink RX12 26 RX12 "chance" "[I" ∈ ab_tbl := ab_w6 152 rfl rfl
theorem wd_1274 : Cond.fieldLink RX12 29 RX12 "signsOf" "[I" ∈ ab_tbl := ab_w6 153 rfl rfl
theorem wd_1275 : Cond.fieldLink RX12 32 RX12 "likely" "[I" ∈ ab_tbl := ab_w6 154 rfl rfl
theorem wd_1276 : Cond.fieldLink RX12 35 RX12 "loss" "[I" ∈ ab_tbl := ab_w6 155 rfl rfl
theorem wd_1277 : Cond.fieldLink RX12 38 RX12 "way" "[I" ∈ ab_tbl := ab_w6 156 rfl rfl
theorem wd_1278 : Cond.fieldLink RX12 41 RX12 "shy" "[I" ∈ ab_tbl := ab_w6 157 rfl rfl
theorem wd_1279 : Cond.fieldLink RX12 44 RX12 "set" "[I" ∈ ab_tbl := ab_w6 158 rfl rfl
theorem wd_1280 : Cond.fieldLink RX12 47 RX12 "weight" "[I" ∈ ab_tbl := ab_w6 159 rfl rfl
theorem wd_1281 : Cond.fieldLink RX12 50 RX12 "need" "[I" ∈ ab_tbl := ab_w6 160 rfl rfl
theorem wd_1282 : Cond.fieldLink RX12 53 RX12 "needFor" "[I" ∈ ab_tbl := ab_w6 161 rfl rfl
theorem wd_1283 : Cond.fieldLink RX12 56 RX12 "needElse" "[I" ∈ ab_tbl := ab_w6 162 rfl rfl
theorem wd_1284 : Cond.fieldLink RX12 59 RX12 "chairOf" "[I" ∈ ab_tbl := ab_w6 163 rfl rfl
theorem wd_1285 : Cond.fieldLink RX12 251 RX12 "lines" "I" ∈ ab_tbl := ab_w6 164 rfl rfl
theorem wd_1286 : Cond.fieldLink RX12 238 RX12 "told" "I" ∈ ab_tbl := ab_w6 165 rfl rfl
theorem wd_1287 : Cond.fieldLink RX12 303 RX12 "truths" "I" ∈ ab_tbl := ab_w6 166 rfl rfl
theorem wd_1288 : Cond.fieldLink RX12 306 RX12 "voters" "I" ∈ ab_tbl := ab_w6 167 rfl rfl
theorem wd_1289 : Cond.fieldLink RX12 309 RX12 "rows" "I" ∈ ab_tbl := ab_w6 168 rfl rfl
theorem wd_1290 : Cond.fieldLink RX12 62 RX12 "radix" "[I" ∈ ab_tbl := ab_w6 169 rfl rfl
theorem wd_1291 : Cond.fieldLink RX12 65 RX12 "part" "[J" ∈ ab_tbl := ab_w6 170 rfl rfl
theorem wd_1292 : Cond.fieldLink RX12 68 RX12 "vote" "[I" ∈ ab_tbl := ab_w6 171 rfl rfl
theorem wd_1293 : Cond.fieldLink RX12 71 RX12 "ballot" "[I" ∈ ab_tbl := ab_w6 172 rfl rfl
theorem wd_1294 : Cond.fieldLink RX12 74 RX12 "tally" "[I" ∈ ab_tbl := ab_w6 173 rfl rfl
theorem wd_1295 : Cond.fieldLink RX12 77 RX12 "loses" "[J" ∈ ab_tbl := ab_w6 174 rfl rfl
theorem wd_1296 : Cond.fieldLink RX12 80 RX12 "settledVote" "[I" ∈ ab_tbl := ab_w6 175 rfl rfl
theorem wd_1297 : Cond.fieldLink RX12 83 RX12 "settledSigns" "[I" ∈ ab_tbl := ab_w6 176 rfl rfl
theorem wd_1298 : Cond.fieldLink RX12 86 RX12 "replies" "[I" ∈ ab_tbl := ab_w6 177 rfl rfl
theorem wd_1299 : Cond.fieldLink RX12 390 RX12 "settledVoters" "I" ∈ ab_tbl := ab_w6 178 rfl rfl
theorem wd_1300 : Cond.fieldLink RX12 393 RX12 "settledRight" "J" ∈ ab_tbl := ab_w6 179 rfl rfl
theorem wd_1301 : Cond.fieldLink RX12 396 RX12 "settledLost" "J" ∈ ab_tbl := ab_w6 180 rfl rfl
theorem wd_1302 : Cond.fieldLink RX12 89 RX12 "turnOf" "[I" ∈ ab_tbl := ab_w6 181 rfl rfl
theorem wd_1303 : Cond.fieldLink RX12 92 RX12 "history" "[I" ∈ ab_tbl := ab_w6 182 rfl rfl
theorem wd_1304 : Cond.fieldLink RX12 95 RX12 "said" "[I" ∈ ab_tbl := ab_w6 183 rfl rfl
theorem wd_1305 : Cond.fieldLink RX12 99 RX12 "says" "[I" ∈ ab_tbl := ab_w6 184 rfl rfl
theorem wd_1306 : Cond.fieldLink RX12 102 RX12 "sums" "[J" ∈ ab_tbl := ab_w6 185 rfl rfl
theorem wd_1307 : Cond.fieldLink RX12 105 RX12 "has" "[Z" ∈ ab_tbl := ab_w6 186 rfl rfl
theorem wd_1308 : Cond.fieldLink RX12 399 RX12 "turnMany" "I" ∈ ab_tbl := ab_w6 187 rfl rfl
theorem wd_1309 : Cond.fieldLink RX12 109 RX12 "toldOrder" "[I" ∈ ab_tbl := ab_w6 188 rfl rfl
theorem wd_1310 : Cond.fieldLink RX12 405 RX12 "toldMany" "I" ∈ ab_tbl := ab_w6 189 rfl rfl
theorem wd_1311 : Cond.fieldLink RX12 411 RX12 "herds" "J" ∈ ab_tbl := ab_w6 190 rfl rfl
theorem wd_1312 : Cond.fieldLink RX12 414 RX12 "astray" "J" ∈ ab_tbl := ab_w6 191 rfl rfl
theorem wd_1313 : Cond.fieldLink RX12 417 RX12 "turnsRight" "J" ∈ ab_tbl := ab_w6 192 rfl rfl
theorem wd_1314 : Cond.fieldLink RX12 112 RX12 "toldSays" "[I" ∈ ab_tbl := ab_w6 193 rfl rfl
theorem wd_1315 : Cond.fieldLink RX12 115 RX12 "toldSigns" "[I" ∈ ab_tbl := ab_w6 194 rfl rfl
theorem wd_1316 : Cond.fieldLink RX12 119 RX12 "byVotes" "[J" ∈ ab_tbl := ab_w6 195 rfl rfl
theorem wd_1317 : Cond.fieldLink RX12 122 RX12 "isVoted" "[Z" ∈ ab_tbl := ab_w6 196 rfl rfl
theorem wd_1318 : Cond.fieldLink RX12 125 RX12 "byWeight" "[J" ∈ ab_tbl := ab_w6 197 rfl rfl
theorem wd_1319 : Cond.fieldLink RX12 130 RX12 "barLost" "J" ∈ ab_tbl := ab_w6 198 rfl rfl
theorem wd_1320 : Cond.fieldLink RX12 134 RX12 "weighs" "[I" ∈ ab_tbl := ab_w6 199 rfl rfl
theorem wd_1321 : Cond.fieldLink RX12 137 RX12 "weighedAt" "[I" ∈ ab_tbl := ab_w6 200 rfl rfl
theorem wd_1322 : Cond.fieldLink RX12 452 RX12 "weighedVoters" "I" ∈ ab_tbl := ab_w6 201 rfl rfl
theorem wd_1323 : Cond.fieldLink RX12 140 RX12 "heard" "[I" ∈ ab_tbl := ab_w6 202 rfl rfl
theorem wd_1324 : Cond.fieldLink RX12 143 RX12 "fitVote" "[I" ∈ ab_tbl := ab_w6 203 rfl rfl
theorem wd_1325 : Cond.fieldLink RX12 146 RX12 "fitSigns" "[I" ∈ ab_tbl := ab_w6 204 rfl rfl
theorem wd_1326 : Cond.fieldLink RX12 479 RX12 "fitVoters" "I" ∈ ab_tbl := ab_w6 205 rfl rfl
theorem wd_1327 : Cond.fieldLink RX12 482 RX12 "seed" "I" ∈ ab_tbl := ab_w6 206 rfl rfl
theorem wd_1328 : Cond.lays RX12 RX12 "thrown" "I" ∈ ab_tbl := ab_w6 207 rfl rfl
theorem wd_1329 : Cond.laysFinal RX12 RX12 "tape" "[I" ∈ ab_tbl := ab_w6 209 rfl rfl
theorem wd_1330 : Cond.lays RX12 RX12 "taped" "I" ∈ ab_tbl := ab_w6 211 rfl rfl
theorem wd_1331 : Cond.lays RX12 RX12 "size" "I" ∈ ab_tbl := ab_w6 213 rfl rfl
theorem wd_1332 : Cond.lays RX12 RX12 "to" "I" ∈ ab_tbl := ab_w6 215 rfl rfl
theorem wd_1333 : Cond.lays RX12 RX12 "from" "I" ∈ ab_tbl := ab_w6 217 rfl rfl
theorem wd_1334 : Cond.lays RX12 RX12 "kind" "I" ∈ ab_tbl := ab_w6 219 rfl rfl
theorem wd_1335 : Cond.lays RX12 RX12 "number" "I" ∈ ab_tbl := ab_w6 221 rfl rfl
theorem wd_1336 : Cond.lays RX12 RX12 "fault" "I" ∈ ab_tbl := ab_w6 223 rfl rfl
theorem wd_1337 : Cond.lays RX12 RX12 "place" "I" ∈ ab_tbl := ab_w6 225 rfl rfl
theorem wd_1338 : Cond.lays RX12 RX12 "word" "J" ∈ ab_tbl := ab_w6 227 rfl rfl
theorem wd_1339 : Cond.laysFinal RX12 RX12 "truthName" "[J" ∈ ab_tbl := ab_w6 229 rfl rfl
theorem wd_1340 : Cond.laysFinal RX12 RX12 "voterName" "[J" ∈ ab_tbl := ab_w6 231 rfl rfl
theorem wd_1341 : Cond.laysFinal RX12 RX12 "truthsOf" "[I" ∈ ab_tbl := ab_w6 233 rfl rfl
theorem wd_1342 : Cond.laysFinal RX12 RX12 "votersOf" "[I" ∈ ab_tbl := ab_w6 235 rfl rfl
theorem wd_1343 : Cond.laysFinal RX12 RX12 "chance" "[I" ∈ ab_tbl := ab_w6 237 rfl rfl
theorem wd_1344 : Cond.laysFinal RX12 RX12 "signsOf" "[I" ∈ ab_tbl := ab_w6 239 rfl rfl
theorem wd_1345 : Cond.laysFinal RX12 RX12 "likely" "[I" ∈ ab_tbl := ab_w7 1 rfl rfl
theorem wd_1346 : Cond.laysFinal RX12 RX12 "loss" "[I" ∈ ab_tbl := ab_w7 3 rfl rfl
theorem wd_1347 : Cond.laysFinal RX12 RX12 "way" "[I" ∈ ab_tbl := ab_w7 5 rfl rfl
theorem wd_1348 : Cond.laysFinal RX12 RX12 "shy" "[I" ∈ ab_tbl := ab_w7 7 rfl rfl
theorem wd_1349 : Cond.laysFinal RX12 RX12 "set" "[I" ∈ ab_tbl := ab_w7 9 rfl rfl
theorem wd_1350 : Cond.laysFinal RX12 RX12 "weight" "[I" ∈ ab_tbl := ab_w7 11 rfl rfl
theorem wd_1351 : Cond.laysFinal RX12 RX12 "need" "[I" ∈ ab_tbl := ab_w7 13 rfl rfl
theorem wd_1352 : Cond.laysFinal RX12 RX12 "needFor" "[I" ∈ ab_tbl := ab_w7 15 rfl rfl
theorem wd_1353 : Cond.laysFinal RX12 RX12 "needElse" "[I" ∈ ab_tbl := ab_w7 17 rfl rfl
theorem wd_1354 : Cond.laysFinal RX12 RX12 "chairOf" "[I" ∈ ab_tbl := ab_w7 19 rfl rfl
theorem wd_1355 : Cond.lays RX12 RX12 "lines" "I" ∈ ab_tbl := ab_w7 21 rfl rfl
theorem wd_1356 : Cond.lays RX12 RX12 "told" "I" ∈ ab_tbl := ab_w7 23 rfl rfl
theorem wd_1357 : Cond.lays RX12 RX12 "truths" "I" ∈ ab_tbl := ab_w7 25 rfl rfl
theorem wd_1358 : Cond.lays RX12 RX12 "voters" "I" ∈ ab_tbl := ab_w7 27 rfl rfl
theorem wd_1359 : Cond.lays RX12 RX12 "rows" "I" ∈ ab_tbl := ab_w7 29 rfl rfl
theorem wd_1360 : Cond.laysFinal RX12 RX12 "radix" "[I" ∈ ab_tbl := ab_w7 31 rfl rfl
theorem wd_1361 : Cond.laysFinal RX12 RX12 "part" "[J" ∈ ab_tbl := ab_w7 33 rfl rfl
theorem wd_1362 : Cond.laysFinal RX12 RX12 "vote" "[I" ∈ ab_tbl := ab_w7 35 rfl rfl
theorem wd_1363 : Cond.laysFinal RX12 RX12 "ballot" "[I" ∈ ab_tbl := ab_w7 37 rfl rfl
theorem wd_1364 : Cond.laysFinal RX12 RX12 "tally" "[I" ∈ ab_tbl := ab_w7 39 rfl rfl
theorem wd_1365 : Cond.laysFinal RX12 RX12 "loses" "[J" ∈ ab_tbl := ab_w7 41 rfl rfl
theorem wd_1366 : Cond.laysFinal RX12 RX12 "settledVote" "[I" ∈ ab_tbl := ab_w7 43 rfl rfl
theorem wd_1367 : Cond.laysFinal RX12 RX12 "settledSigns" "[I" ∈ ab_tbl := ab_w7 45 rfl rfl
theorem wd_1368 : Cond.laysFinal RX12 RX12 "replies" "[I" ∈ ab_tbl := ab_w7 47 rfl rfl
theorem wd_1369 : Cond.lays RX12 RX12 "settledVoters" "I" ∈ ab_tbl := ab_w7 49 rfl rfl
theorem wd_1370 : Cond.lays RX12 RX12 "settledRight" "J" ∈ ab_tbl := ab_w7 51 rfl rfl
theorem wd_1371 : Cond.lays RX12 RX12 "settledLost" "J" ∈ ab_tbl := ab_w7 53 rfl rfl
theorem wd_1372 : Cond.laysFinal RX12 RX12 "turnOf" "[I" ∈ ab_tbl := ab_w7 55 rfl rfl
theorem wd_1373 : Cond.laysFinal RX12 RX12 "history" "[I" ∈ ab_tbl := ab_w7 57 rfl rfl
theorem wd_1374 : Cond.laysFinal RX12 RX12 "said" "[I" ∈ ab_tbl := ab_w7 59 rfl rfl
theorem wd_1375 : Cond.laysFinal RX12 RX12 "says" "[I" ∈ ab_tbl := ab_w7 61 rfl rfl
theorem wd_1376 : Cond.laysFinal RX12 RX12 "sums" "[J" ∈ ab_tbl := ab_w7 63 rfl rfl
theorem wd_1377 : Cond.laysFinal RX12 RX12 "has" "[Z" ∈ ab_tbl := ab_w7 65 rfl rfl
theorem wd_1378 : Cond.lays RX12 RX12 "turnMany" "I" ∈ ab_tbl := ab_w7 67 rfl rfl
theorem wd_1379 : Cond.laysFinal RX12 RX12 "toldOrder" "[I" ∈ ab_tbl := ab_w7 69 rfl rfl
theorem wd_1380 : Cond.lays RX12 RX12 "toldMany" "I" ∈ ab_tbl := ab_w7 71 rfl rfl
theorem wd_1381 : Cond.lays RX12 RX12 "herds" "J" ∈ ab_tbl := ab_w7 73 rfl rfl
theorem wd_1382 : Cond.lays RX12 RX12 "astray" "J" ∈ ab_tbl := ab_w7 75 rfl rfl
theorem wd_1383 : Cond.lays RX12 RX12 "turnsRight" "J" ∈ ab_tbl := ab_w7 77 rfl rfl
theorem wd_1384 : Cond.laysFinal RX12 RX12 "toldSays" "[I" ∈ ab_tbl := ab_w7 79 rfl rfl
theorem wd_1385 : Cond.laysFinal RX12 RX12 "toldSigns" "[I" ∈ ab_tbl := ab_w7 81 rfl rfl
theorem wd_1386 : Cond.laysFinal RX12 RX12 "byVotes" "[J" ∈ ab_tbl := ab_w7 83 rfl rfl
theorem wd_1387 : Cond.laysFinal RX12 RX12 "isVoted" "[Z" ∈ ab_tbl := ab_w7 85 rfl rfl
theorem wd_1388 : Cond.laysFinal RX12 RX12 "byWeight" "[J" ∈ ab_tbl := ab_w7 87 rfl rfl
theorem wd_1389 : Cond.lays RX12 RX12 "barLost" "J" ∈ ab_tbl := ab_w7 89 rfl rfl
theorem wd_1390 : Cond.laysFinal RX12 RX12 "weighs" "[I" ∈ ab_tbl := ab_w7 91 rfl rfl
theorem wd_1391 : Cond.laysFinal RX12 RX12 "weighedAt" "[I" ∈ ab_tbl := ab_w7 93 rfl rfl
theorem wd_1392 : Cond.lays RX12 RX12 "weighedVoters" "I" ∈ ab_tbl := ab_w7 95 rfl rfl
theorem wd_1393 : Cond.laysFinal RX12 RX12 "heard" "[I" ∈ ab_tbl := ab_w7 97 rfl rfl
theorem wd_1394 : Cond.laysFinal RX12 RX12 "fitVote" "[I" ∈ ab_tbl := ab_w7 99 rfl rfl
theorem wd_1395 : Cond.laysFinal RX12 RX12 "fitSigns" "[I" ∈ ab_tbl := ab_w7 101 rfl rfl
theorem wd_1396 : Cond.lays RX12 RX12 "fitVoters" "I" ∈ ab_tbl := ab_w7 103 rfl rfl
theorem wd_1397 : Cond.lays RX12 RX12 "seed" "I" ∈ ab_tbl := ab_w7 105 rfl rfl
theorem wd_1398 : Cond.arrayClass .boolean ∈ ab_tbl := ab_w7 108 rfl rfl
theorem wd_1399 : Cond.methodLink RL 80 yX12_thrown ∈ ab_tbl := ab_w7 109 rfl rfl
theorem wd_1400 : Cond.instanceMethod yX12_thrown ∈ ab_tbl := ab_w7 110 rfl rfl
theorem wd_1401 : Cond.selects RX12 yX12_thrown yX12_thrown ∈ ab_tbl := ab_w7 111 rfl rfl
theorem wd_1402 : Cond.code yX12_thrown cX12_thrown 1 (some .int) ∈ ab_tbl := ab_w7 112 rfl rfl
theorem wd_1403 : Cond.methodLink RL 50 yX12_feed ∈ ab_tbl := ab_w7 113 rfl rfl
theorem wd_1404 : Cond.instanceMethod yX12_feed ∈ ab_tbl := ab_w7 114 rfl rfl
theorem wd_1405 : Cond.selects RX12 yX12_feed yX12_feed ∈ ab_tbl := ab_w7 115 rfl rfl
theorem wd_1406 : Cond.code yX12_feed cX12_feed 6 (some .int) ∈ ab_tbl := ab_w7 116 rfl rfl
theorem wd_1407 : Cond.methodLink RX12 156 yX12_come ∈ ab_tbl := ab_w7 117 rfl rfl
theorem wd_1408 : Cond.instanceMethod yX12_come ∈ ab_tbl := ab_w7 119 rfl rfl
theorem wd_1409 : Cond.code yX12_come cX12_come 3 (none) ∈ ab_tbl := ab_w7 120 rfl rfl
theorem wd_1410 : Cond.methodLink RL 55 yX12_end ∈ ab_tbl := ab_w7 121 rfl rfl
theorem wd_1411 : Cond.instanceMethod yX12_end ∈ ab_tbl := ab_w7 122 rfl rfl
theorem wd_1412 : Cond.selects RX12 yX12_end yX12_end ∈ ab_tbl := ab_w7 123 rfl rfl
theorem wd_1413 : Cond.code yX12_end cX12_end 2 (some .boolean) ∈ ab_tbl := ab_w7 124 rfl rfl
theorem wd_1414 : Cond.methodLink RL 60 yX12_matter ∈ ab_tbl := ab_w7 125 rfl rfl
theorem wd_1415 : Cond.instanceMethod yX12_matter ∈ ab_tbl := ab_w7 126 rfl rfl
theorem wd_1416 : Cond.selects RX12 yX12_matter yX12_matter ∈ ab_tbl := ab_w7 127 rfl rfl
theorem wd_1417 : Cond.code yX12_matter cX12_matter 2 (some .int) ∈ ab_tbl := ab_w7 128 rfl rfl
theorem wd_1418 : Cond.methodLink RX12 288 yX12_take ∈ ab_tbl := ab_w7 129 rfl rfl
theorem wd_1419 : Cond.instanceMethod yX12_take ∈ ab_tbl := ab_w7 131 rfl rfl
theorem wd_1420 : Cond.code yX12_take cX12_take 2 (some .int) ∈ ab_tbl := ab_w7 132 rfl rfl
theorem wd_1421 : Cond.methodLink RX12 210 yX12_go ∈ ab_tbl := ab_w7 133 rfl rfl
theorem wd_1422 : Cond.instanceMethod yX12_go ∈ ab_tbl := ab_w7 135 rfl rfl
theorem wd_1423 : Cond.code yX12_go cX12_go 5 (none) ∈ ab_tbl := ab_w7 136 rfl rfl
theorem wd_1424 : Cond.methodLink RX12 172 yX12_isLetter ∈ ab_tbl := ab_w7 137 rfl rfl
theorem wd_1425 : Cond.static yX12_isLetter ∈ ab_tbl := ab_w7 138 rfl rfl
theorem wd_1426 : Cond.code yX12_isLetter cX12_isLetter 1 (some .boolean) ∈ ab_tbl := ab_w7 139 rfl rfl
theorem wd_1427 : Cond.methodLink RX12 176 yX12_isDigit ∈ ab_tbl := ab_w7 140 rfl rfl
theorem wd_1428 : Cond.static yX12_isDigit ∈ ab_tbl := ab_w7 141 rfl rfl
theorem wd_1429 : Cond.code yX12_isDigit cX12_isDigit 1 (some .boolean) ∈ ab_tbl := ab_w7 142 rfl rfl
theorem wd_1430 : Cond.methodLink RX12 185 yX12_byteAt ∈ ab_tbl := ab_w7 143 rfl rfl
theorem wd_1431 : Cond.instanceMethod yX12_byteAt ∈ ab_tbl := ab_w7 145 rfl rfl
theorem wd_1432 : Cond.code yX12_byteAt cX12_byteAt 2 (some .int) ∈ ab_tbl := ab_w7 146 rfl rfl
theorem wd_1433 : Cond.constantLong RX12 189 (27) ∈ ab_tbl := ab_w7 147 rfl rfl
theorem wd_1434 : Cond.constantLong RX12 191 (96) ∈ ab_tbl := ab_w7 148 rfl rfl
theorem wd_1435 : Cond.methodLink RX12 291 yX12_readLine ∈ ab_tbl := ab_w7 149 rfl rfl
theorem wd_1436 : Cond.instanceMethod yX12_readLine ∈ ab_tbl := ab_w7 151 rfl rfl
theorem wd_1437 : Cond.code yX12_readLine cX12_readLine 4 (some .boolean) ∈ ab_tbl := ab_w7 152 rfl rfl
theorem wd_1438 : Cond.methodLink RX12 217 yX12_lineAtHand ∈ ab_tbl := ab_w7 153 rfl rfl
theorem wd_1439 : Cond.instanceMethod yX12_lineAtHand ∈ ab_tbl := ab_w7 155 rfl rfl
theorem wd_1440 : Cond.code yX12_lineAtHand cX12_lineAtHand 1 (some .int) ∈ ab_tbl := ab_w7 156 rfl rfl
theorem wd_1441 : Cond.methodLink RX12 193 yX12_spelt ∈ ab_tbl := ab_w7 157 rfl rfl
theorem wd_1442 : Cond.static yX12_spelt ∈ ab_tbl := ab_w7 158 rfl rfl
theorem wd_1443 : Cond.code yX12_spelt cX12_spelt 7 (some .long) ∈ ab_tbl := ab_w7 159 rfl rfl
theorem wd_1444 : Cond.methodLink RX12 203 yX12_isKey ∈ ab_tbl := ab_w7 160 rfl rfl
theorem wd_1445 : Cond.instanceMethod yX12_isKey ∈ ab_tbl := ab_w7 162 rfl rfl
theorem wd_1446 : Cond.code yX12_isKey cX12_isKey 3 (some .boolean) ∈ ab_tbl := ab_w7 163 rfl rfl
theorem wd_1447 : Cond.methodLink RX12 213 yX12_six ∈ ab_tbl := ab_w7 164 rfl rfl
theorem wd_1448 : Cond.static yX12_six ∈ ab_tbl := ab_w7 165 rfl rfl
theorem wd_1449 : Cond.code yX12_six cX12_six 6 (some .long) ∈ ab_tbl := ab_w7 166 rfl rfl
theorem wd_1450 : Cond.methodLink RX12 207 yX12_bad ∈ ab_tbl := ab_w7 167 rfl rfl
theorem wd_1451 : Cond.instanceMethod yX12_bad ∈ ab_tbl := ab_w7 169 rfl rfl
theorem wd_1452 : Cond.code yX12_bad cX12_bad 2 (some .boolean) ∈ ab_tbl := ab_w7 170 rfl rfl
theorem wd_1453 : Cond.methodLink RX12 270 yX12_areTruths ∈ ab_tbl := ab_w7 171 rfl rfl
theorem wd_1454 : Cond.instanceMethod yX12_areTruths ∈ ab_tbl := ab_w7 173 rfl rfl
theorem wd_1455 : Cond.code yX12_areTruths cX12_areTruths 3 (some .boolean) ∈ ab_tbl := ab_w7 174 rfl rfl
theorem wd_1456 : Cond.methodLink RX12 273 yX12_readTruthLine ∈ ab_tbl := ab_w7 175 rfl rfl
theorem wd_1457 : Cond.instanceMethod yX12_readTruthLine ∈ ab_tbl := ab_w7 177 rfl rfl
theorem wd_1458 : Cond.code yX12_readTruthLine cX12_readTruthLine 1 (some .boolean) ∈ ab_tbl := ab_w7 178 rfl rfl
theorem wd_1459 : Cond.methodLink RX12 254 yX12_readNew ∈ ab_tbl := ab_w7 179 rfl rfl
theorem wd_1460 : Cond.instanceMethod yX12_readNew ∈ ab_tbl := ab_w7 181 rfl rfl
theorem wd_1461 : Cond.code yX12_readNew cX12_readNew 1 (some .boolean) ∈ ab_tbl := ab_w7 182 rfl rfl
theorem wd_1462 : Cond.methodLink RX12 241 yX12_isName ∈ ab_tbl := ab_w7 183 rfl rfl
theorem wd_1463 : Cond.instanceMethod yX12_isName ∈ ab_tbl := ab_w7 185 rfl rfl
theorem wd_1464 : Cond.code yX12_isName cX12_isName 1 (some .boolean) ∈ ab_tbl := ab_w7 186 rfl rfl
theorem wd_1465 : Cond.methodLink RX12 221 yX12_wayAtHand ∈ ab_tbl := ab_w7 187 rfl rfl
theorem wd_1466 : Cond.instanceMethod yX12_wayAtHand ∈ ab_tbl := ab_w7 189 rfl rfl
theorem wd_1467 : Cond.code yX12_wayAtHand cX12_wayAtHand 1 (some .int) ∈ ab_tbl := ab_w7 190 rfl rfl
theorem wd_1468 : Cond.methodLink RX12 224 yX12_none ∈ ab_tbl := ab_w7 191 rfl rfl
theorem wd_1469 : Cond.static yX12_none ∈ ab_tbl := ab_w7 192 rfl rfl
theorem wd_1470 : Cond.code yX12_none cX12_none 0 (some .long) ∈ ab_tbl := ab_w7 193 rfl rfl
theorem wd_1471 : Cond.methodLink RX12 228 yX12_chair ∈ ab_tbl := ab_w7 194 rfl rfl
theorem wd_1472 : Cond.static yX12_chair ∈ ab_tbl := ab_w7 195 rfl rfl
theorem wd_1473 : Cond.code yX12_chair cX12_chair 0 (some .long) ∈ ab_tbl := ab_w7 196 rfl rfl
theorem wd_1474 : Cond.methodLink RX12 231 yX12_other ∈ ab_tbl := ab_w7 197 rfl rfl
theorem wd_1475 : Cond.static yX12_other ∈ ab_tbl := ab_w7 198 rfl rfl
theorem wd_1476 : Cond.code yX12_other cX12_other 0 (some .long) ∈ ab_tbl := ab_w7 199 rfl rfl
theorem wd_1477 : Cond.methodLink RX12 245 yX12_findTruth ∈ ab_tbl := ab_w7 200 rfl rfl
theorem wd_1478 : Cond.instanceMethod yX12_findTruth ∈ ab_tbl := ab_w7 202 rfl rfl
theorem wd_1479 : Cond.code yX12_findTruth cX12_findTruth 2 (some .int) ∈ ab_tbl := ab_w7 203 rfl rfl
theorem wd_1480 : Cond.methodLink RX12 248 yX12_findVoter ∈ ab_tbl := ab_w7 204 rfl rfl
theorem wd_1481 : Cond.instanceMethod yX12_findVoter ∈ ab_tbl := ab_w7 206 rfl rfl
theorem wd_1482 : Cond.code yX12_findVoter cX12_findVoter 2 (some .int) ∈ ab_tbl := ab_w7 207 rfl rfl
theorem wd_1483 : Cond.methodLink RX12 257 yX12_readNumber ∈ ab_tbl := ab_w7 208 rfl rfl
theorem wd_1484 : Cond.instanceMethod yX12_readNumber ∈ ab_tbl := ab_w7 210 rfl rfl
theorem wd_1485 : Cond.code yX12_readNumber cX12_readNumber 3 (some .boolean) ∈ ab_tbl := ab_w7 211 rfl rfl
theorem wd_1486 : Cond.methodLink RX12 234 yX12_isIn ∈ ab_tbl := ab_w7 212 rfl rfl
theorem wd_1487 : Cond.static yX12_isIn ∈ ab_tbl := ab_w7 213 rfl rfl
theorem wd_1488 : Cond.code yX12_isIn cX12_isIn 3 (some .boolean) ∈ ab_tbl := ab_w7 214 rfl rfl
theorem wd_1489 : Cond.methodLink RX12 276 yX12_readVoterLine ∈ ab_tbl := ab_w7 215 rfl rfl
theorem wd_1490 : Cond.instanceMethod yX12_readVoterLine ∈ ab_tbl := ab_w7 217 rfl rfl
theorem wd_1491 : Cond.code yX12_readVoterLine cX12_readVoterLine 5 (some .boolean) ∈ ab_tbl := ab_w7 218 rfl rfl
theorem wd_1492 : Cond.methodLink RX12 261 yX12_readKey ∈ ab_tbl := ab_w7 219 rfl rfl
theorem wd_1493 : Cond.instanceMethod yX12_readKey ∈ ab_tbl := ab_w7 221 rfl rfl
theorem wd_1494 : Cond.code yX12_readKey cX12_readKey 3 (some .boolean) ∈ ab_tbl := ab_w7 222 rfl rfl
theorem wd_1495 : Cond.methodLink RX12 279 yX12_readLoss ∈ ab_tbl := ab_w7 223 rfl rfl
theorem wd_1496 : Cond.instanceMethod yX12_readLoss ∈ ab_tbl := ab_w7 225 rfl rfl
theorem wd_1497 : Cond.code yX12_readLoss cX12_readLoss 4 (some .boolean) ∈ ab_tbl := ab_w7 226 rfl rfl
theorem wd_1498 : Cond.methodLink RX12 264 yX12_readTruth ∈ ab_tbl := ab_w7 227 rfl rfl
theorem wd_1499 : Cond.instanceMethod yX12_readTruth ∈ ab_tbl := ab_w7 229 rfl rfl
theorem wd_1500 : Cond.code yX12_readTruth cX12_readTruth 1 (some .boolean) ∈ ab_tbl := ab_w7 230 rfl rfl
theorem wd_1501 : Cond.methodLink RX12 282 yX12_readWay ∈ ab_tbl := ab_w7 231 rfl rfl
theorem wd_1502 : Cond.instanceMethod yX12_readWay ∈ ab_tbl := ab_w7 233 rfl rfl
theorem wd_1503 : Cond.code yX12_readWay cX12_readWay 4 (some .boolean) ∈ ab_tbl := ab_w7 234 rfl rfl
theorem wd_1504 : Cond.methodLink RX12 267 yX12_readVoter ∈ ab_tbl := ab_w7 235 rfl rfl
theorem wd_1505 : Cond.instanceMethod yX12_readVoter ∈ ab_tbl := ab_w7 237 rfl rfl
theorem wd_1506 : Cond.code yX12_readVoter cX12_readVoter 1 (some .boolean) ∈ ab_tbl := ab_w7 238 rfl rfl
theorem wd_1507 : Cond.methodLink RX12 285 yX12_readRule ∈ ab_tbl := ab_w7 239 rfl rfl
theorem wd_1508 : Cond.instanceMethod yX12_readRule ∈ ab_tbl := ab_w8 1 rfl rfl
theorem wd_1509 : Cond.code yX12_readRule cX12_readRule 2 (some .boolean) ∈ ab_tbl := ab_w8 2 rfl rfl
theorem wd_1510 : Cond.methodLink RX12 294 yX12_keep ∈ ab_tbl := ab_w8 3 rfl rfl
theorem wd_1511 : Cond.instanceMethod yX12_keep ∈ ab_tbl := ab_w8 5 rfl rfl
theorem wd_1512 : Cond.code yX12_keep cX12_keep 2 (none) ∈ ab_tbl := ab_w8 6 rfl rfl
theorem wd_1513 : Cond.methodLink RX12 297 yX12_layRows ∈ ab_tbl := ab_w8 7 rfl rfl
theorem wd_1514 : Cond.instanceMethod yX12_layRows ∈ ab_tbl := ab_w8 9 rfl rfl
theorem wd_1515 : Cond.code yX12_layRows cX12_layRows 6 (none) ∈ ab_tbl := ab_w8 10 rfl rfl
theorem wd_1516 : Cond.methodLink RX12 312 yX12_sign ∈ ab_tbl := ab_w8 11 rfl rfl
theorem wd_1517 : Cond.instanceMethod yX12_sign ∈ ab_tbl := ab_w8 13 rfl rfl
theorem wd_1518 : Cond.code yX12_sign cX12_sign 3 (some .int) ∈ ab_tbl := ab_w8 14 rfl rfl
theorem wd_1519 : Cond.methodLink RX12 300 yX12_layVotes ∈ ab_tbl := ab_w8 15 rfl rfl
theorem wd_1520 : Cond.instanceMethod yX12_layVotes ∈ ab_tbl := ab_w8 17 rfl rfl
theorem wd_1521 : Cond.code yX12_layVotes cX12_layVotes 3 (none) ∈ ab_tbl := ab_w8 18 rfl rfl
theorem wd_1522 : Cond.methodLink RX12 347 yX12_told ∈ ab_tbl := ab_w8 19 rfl rfl
theorem wd_1523 : Cond.instanceMethod yX12_told ∈ ab_tbl := ab_w8 21 rfl rfl
theorem wd_1524 : Cond.code yX12_told cX12_told 7 (some .int) ∈ ab_tbl := ab_w8 22 rfl rfl
theorem wd_1525 : Cond.methodLink RX12 344 yX12_honest ∈ ab_tbl := ab_w8 23 rfl rfl
theorem wd_1526 : Cond.instanceMethod yX12_honest ∈ ab_tbl := ab_w8 25 rfl rfl
theorem wd_1527 : Cond.code yX12_honest cX12_honest 3 (some .int) ∈ ab_tbl := ab_w8 26 rfl rfl
theorem wd_1528 : Cond.methodLink RX12 337 yX12_losing ∈ ab_tbl := ab_w8 27 rfl rfl
theorem wd_1529 : Cond.instanceMethod yX12_losing ∈ ab_tbl := ab_w8 29 rfl rfl
theorem wd_1530 : Cond.code yX12_losing cX12_losing 7 (some .long) ∈ ab_tbl := ab_w8 30 rfl rfl
theorem wd_1531 : Cond.methodLink RX12 330 yX12_weightOf ∈ ab_tbl := ab_w8 31 rfl rfl
theorem wd_1532 : Cond.instanceMethod yX12_weightOf ∈ ab_tbl := ab_w8 33 rfl rfl
theorem wd_1533 : Cond.code yX12_weightOf cX12_weightOf 4 (some .long) ∈ ab_tbl := ab_w8 34 rfl rfl
theorem wd_1534 : Cond.methodLink RX12 334 yX12_loss ∈ ab_tbl := ab_w8 35 rfl rfl
theorem wd_1535 : Cond.instanceMethod yX12_loss ∈ ab_tbl := ab_w8 37 rfl rfl
theorem wd_1536 : Cond.code yX12_loss cX12_loss 6 (some .int) ∈ ab_tbl := ab_w8 38 rfl rfl
theorem wd_1537 : Cond.methodLink RX12 340 yX12_least ∈ ab_tbl := ab_w8 39 rfl rfl
theorem wd_1538 : Cond.instanceMethod yX12_least ∈ ab_tbl := ab_w8 41 rfl rfl
theorem wd_1539 : Cond.code yX12_least cX12_least 8 (some .int) ∈ ab_tbl := ab_w8 42 rfl rfl
theorem wd_1540 : Cond.constantLong RX12 328 (20) ∈ ab_tbl := ab_w8 43 rfl rfl
theorem wd_1541 : Cond.methodLink RL 64 yX12_fault ∈ ab_tbl := ab_w8 44 rfl rfl
theorem wd_1542 : Cond.instanceMethod yX12_fault ∈ ab_tbl := ab_w8 45 rfl rfl
theorem wd_1543 : Cond.selects RX12 yX12_fault yX12_fault ∈ ab_tbl := ab_w8 46 rfl rfl
theorem wd_1544 : Cond.code yX12_fault cX12_fault 1 (some .int) ∈ ab_tbl := ab_w8 47 rfl rfl
theorem wd_1545 : Cond.methodLink RL 69 yX12_count ∈ ab_tbl := ab_w8 48 rfl rfl
theorem wd_1546 : Cond.instanceMethod yX12_count ∈ ab_tbl := ab_w8 49 rfl rfl
theorem wd_1547 : Cond.selects RX12 yX12_count yX12_count ∈ ab_tbl := ab_w8 50 rfl rfl
theorem wd_1548 : Cond.code yX12_count cX12_count 2 (some .int) ∈ ab_tbl := ab_w8 51 rfl rfl
theorem wd_1549 : Cond.methodLink RL 73 yX12_signs ∈ ab_tbl := ab_w8 52 rfl rfl
theorem wd_1550 : Cond.instanceMethod yX12_signs ∈ ab_tbl := ab_w8 53 rfl rfl
theorem wd_1551 : Cond.selects RX12 yX12_signs yX12_signs ∈ ab_tbl := ab_w8 54 rfl rfl
theorem wd_1552 : Cond.code yX12_signs cX12_signs 2 (some .int) ∈ ab_tbl := ab_w8 55 rfl rfl
theorem wd_1553 : Cond.methodLink RX12 316 yX12_isVoter ∈ ab_tbl := ab_w8 56 rfl rfl
theorem wd_1554 : Cond.instanceMethod yX12_isVoter ∈ ab_tbl := ab_w8 58 rfl rfl
theorem wd_1555 : Cond.code yX12_isVoter cX12_isVoter 2 (some .boolean) ∈ ab_tbl := ab_w8 59 rfl rfl
theorem wd_1556 : Cond.methodLink RL 79 yX12_parts ∈ ab_tbl := ab_w8 60 rfl rfl
theorem wd_1557 : Cond.instanceMethod yX12_parts ∈ ab_tbl := ab_w8 61 rfl rfl
theorem wd_1558 : Cond.selects RX12 yX12_parts yX12_parts ∈ ab_tbl := ab_w8 62 rfl rfl
theorem wd_1559 : Cond.code yX12_parts cX12_parts 3 (some .long) ∈ ab_tbl := ab_w8 63 rfl rfl
theorem wd_1560 : Cond.methodLink RX12 319 yX12_rowTold ∈ ab_tbl := ab_w8 64 rfl rfl
theorem wd_1561 : Cond.instanceMethod yX12_rowTold ∈ ab_tbl := ab_w8 66 rfl rfl
theorem wd_1562 : Cond.code yX12_rowTold cX12_rowTold 3 (some .int) ∈ ab_tbl := ab_w8 67 rfl rfl
theorem wd_1563 : Cond.methodLink RX12 322 yX12_isTruth ∈ ab_tbl := ab_w8 68 rfl rfl
theorem wd_1564 : Cond.instanceMethod yX12_isTruth ∈ ab_tbl := ab_w8 70 rfl rfl
theorem wd_1565 : Cond.code yX12_isTruth cX12_isTruth 2 (some .boolean) ∈ ab_tbl := ab_w8 71 rfl rfl
theorem wd_1566 : Cond.methodLink RX12 325 yX12_refuse ∈ ab_tbl := ab_w8 72 rfl rfl
theorem wd_1567 : Cond.instanceMethod yX12_refuse ∈ ab_tbl := ab_w8 74 rfl rfl
theorem wd_1568 : Cond.code yX12_refuse cX12_refuse 1 (some .long) ∈ ab_tbl := ab_w8 75 rfl rfl
theorem wd_1569 : Cond.methodLink RL 86 yX12_all ∈ ab_tbl := ab_w8 76 rfl rfl
theorem wd_1570 : Cond.instanceMethod yX12_all ∈ ab_tbl := ab_w8 77 rfl rfl
theorem wd_1571 : Cond.selects RX12 yX12_all yX12_all ∈ ab_tbl := ab_w8 78 rfl rfl
theorem wd_1572 : Cond.code yX12_all cX12_all 4 (some .long) ∈ ab_tbl := ab_w8 79 rfl rfl
theorem wd_1573 : Cond.methodLink RL 91 yX12_vote ∈ ab_tbl := ab_w8 80 rfl rfl
theorem wd_1574 : Cond.instanceMethod yX12_vote ∈ ab_tbl := ab_w8 81 rfl rfl
theorem wd_1575 : Cond.selects RX12 yX12_vote yX12_vote ∈ ab_tbl := ab_w8 82 rfl rfl
theorem wd_1576 : Cond.code yX12_vote cX12_vote 3 (some .int) ∈ ab_tbl := ab_w8 83 rfl rfl
theorem wd_1577 : Cond.methodLink RX12 349 yX12_isSign ∈ ab_tbl := ab_w8 84 rfl rfl
theorem wd_1578 : Cond.instanceMethod yX12_isSign ∈ ab_tbl := ab_w8 86 rfl rfl
theorem wd_1579 : Cond.code yX12_isSign cX12_isSign 3 (some .boolean) ∈ ab_tbl := ab_w8 87 rfl rfl
theorem wd_1580 : Cond.methodLink RL 95 yX12_decided ∈ ab_tbl := ab_w8 88 rfl rfl
theorem wd_1581 : Cond.instanceMethod yX12_decided ∈ ab_tbl := ab_w8 89 rfl rfl
theorem wd_1582 : Cond.selects RX12 yX12_decided yX12_decided ∈ ab_tbl := ab_w8 90 rfl rfl
theorem wd_1583 : Cond.code yX12_decided cX12_decided 2 (some .int) ∈ ab_tbl := ab_w8 91 rfl rfl
theorem wd_1584 : Cond.methodLink RX12 355 yX12_decideRow ∈ ab_tbl := ab_w8 92 rfl rfl
theorem wd_1585 : Cond.instanceMethod yX12_decideRow ∈ ab_tbl := ab_w8 94 rfl rfl
theorem wd_1586 : Cond.code yX12_decideRow cX12_decideRow 4 (some .int) ∈ ab_tbl := ab_w8 95 rfl rfl
theorem wd_1587 : Cond.methodLink RX12 352 yX12_decide ∈ ab_tbl := ab_w8 96 rfl rfl
theorem wd_1588 : Cond.instanceMethod yX12_decide ∈ ab_tbl := ab_w8 98 rfl rfl
theorem wd_1589 : Cond.code yX12_decide cX12_decide 3 (some .int) ∈ ab_tbl := ab_w8 99 rfl rfl
theorem wd_1590 : Cond.methodLink RL 99 yX12_right ∈ ab_tbl := ab_w8 100 rfl rfl
theorem wd_1591 : Cond.instanceMethod yX12_right ∈ ab_tbl := ab_w8 101 rfl rfl
theorem wd_1592 : Cond.selects RX12 yX12_right yX12_right ∈ ab_tbl := ab_w8 102 rfl rfl
theorem wd_1593 : Cond.code yX12_right cX12_right 1 (some .long) ∈ ab_tbl := ab_w8 103 rfl rfl
theorem wd_1594 : Cond.methodLink RX12 358 yX12_rightBy ∈ ab_tbl := ab_w8 104 rfl rfl
theorem wd_1595 : Cond.instanceMethod yX12_rightBy ∈ ab_tbl := ab_w8 106 rfl rfl
theorem wd_1596 : Cond.code yX12_rightBy cX12_rightBy 5 (some .long) ∈ ab_tbl := ab_w8 107 rfl rfl
theorem wd_1597 : Cond.methodLink RL 107 yX12_lost ∈ ab_tbl := ab_w8 108 rfl rfl
theorem wd_1598 : Cond.instanceMethod yX12_lost ∈ ab_tbl := ab_w8 109 rfl rfl
theorem wd_1599 : Cond.selects RX12 yX12_lost yX12_lost ∈ ab_tbl := ab_w8 110 rfl rfl
theorem wd_1600 : Cond.code yX12_lost cX12_lost 1 (some .long) ∈ ab_tbl := ab_w8 111 rfl rfl
theorem wd_1601 : Cond.methodLink RX12 362 yX12_lostBy ∈ ab_tbl := ab_w8 112 rfl rfl
theorem wd_1602 : Cond.instanceMethod yX12_lostBy ∈ ab_tbl := ab_w8 114 rfl rfl
theorem wd_1603 : Cond.code yX12_lostBy cX12_lostBy 7 (some .long) ∈ ab_tbl := ab_w8 115 rfl rfl
theorem wd_1604 : Cond.methodLink RL 103 yX12_comes ∈ ab_tbl := ab_w8 116 rfl rfl
theorem wd_1605 : Cond.instanceMethod yX12_comes ∈ ab_tbl := ab_w8 117 rfl rfl
theorem wd_1606 : Cond.selects RX12 yX12_comes yX12_comes ∈ ab_tbl := ab_w8 118 rfl rfl
theorem wd_1607 : Cond.code yX12_comes cX12_comes 6 (some .long) ∈ ab_tbl := ab_w8 119 rfl rfl
theorem wd_1608 : Cond.methodLink RL 111 yX12_known ∈ ab_tbl := ab_w8 120 rfl rfl
theorem wd_1609 : Cond.instanceMethod yX12_known ∈ ab_tbl := ab_w8 121 rfl rfl
theorem wd_1610 : Cond.selects RX12 yX12_known yX12_known ∈ ab_tbl := ab_w8 122 rfl rfl
theorem wd_1611 : Cond.code yX12_known cX12_known 2 (some .int) ∈ ab_tbl := ab_w8 123 rfl rfl
theorem wd_1612 : Cond.methodLink RX12 369 yX12_knownAt ∈ ab_tbl := ab_w8 124 rfl rfl
theorem wd_1613 : Cond.instanceMethod yX12_knownAt ∈ ab_tbl := ab_w8 126 rfl rfl
theorem wd_1614 : Cond.code yX12_knownAt cX12_knownAt 2 (some .int) ∈ ab_tbl := ab_w8 127 rfl rfl
theorem wd_1615 : Cond.methodLink RX12 365 yX12_commonly ∈ ab_tbl := ab_w8 128 rfl rfl
theorem wd_1616 : Cond.instanceMethod yX12_commonly ∈ ab_tbl := ab_w8 130 rfl rfl
theorem wd_1617 : Cond.code yX12_commonly cX12_commonly 6 (some .long) ∈ ab_tbl := ab_w8 131 rfl rfl
theorem wd_1618 : Cond.methodLink RL 114 yX12_knows ∈ ab_tbl := ab_w8 132 rfl rfl
theorem wd_1619 : Cond.instanceMethod yX12_knows ∈ ab_tbl := ab_w8 133 rfl rfl
theorem wd_1620 : Cond.selects RX12 yX12_knows yX12_knows ∈ ab_tbl := ab_w8 134 rfl rfl
theorem wd_1621 : Cond.code yX12_knows cX12_knows 5 (some .long) ∈ ab_tbl := ab_w8 135 rfl rfl
theorem wd_1622 : Cond.methodLink RL 117 yX12_turns ∈ ab_tbl := ab_w8 136 rfl rfl
theorem wd_1623 : Cond.instanceMethod yX12_turns ∈ ab_tbl := ab_w8 137 rfl rfl
theorem wd_1624 : Cond.selects RX12 yX12_turns yX12_turns ∈ ab_tbl := ab_w8 138 rfl rfl
theorem wd_1625 : Cond.code yX12_turns cX12_turns 6 (some .long) ∈ ab_tbl := ab_w8 139 rfl rfl
theorem wd_1626 : Cond.methodLink RX12 378 yX12_turned ∈ ab_tbl := ab_w8 140 rfl rfl
theorem wd_1627 : Cond.instanceMethod yX12_turned ∈ ab_tbl := ab_w8 142 rfl rfl
theorem wd_1628 : Cond.code yX12_turned cX12_turned 7 (some .long) ∈ ab_tbl := ab_w8 143 rfl rfl
theorem wd_1629 : Cond.methodLink RX12 375 yX12_isTurned ∈ ab_tbl := ab_w8 144 rfl rfl
theorem wd_1630 : Cond.instanceMethod yX12_isTurned ∈ ab_tbl := ab_w8 146 rfl rfl
theorem wd_1631 : Cond.code yX12_isTurned cX12_isTurned 5 (some .boolean) ∈ ab_tbl := ab_w8 147 rfl rfl
theorem wd_1632 : Cond.methodLink RX12 372 yX12_decideWith ∈ ab_tbl := ab_w8 148 rfl rfl
theorem wd_1633 : Cond.instanceMethod yX12_decideWith ∈ ab_tbl := ab_w8 150 rfl rfl
theorem wd_1634 : Cond.code yX12_decideWith cX12_decideWith 5 (some .int) ∈ ab_tbl := ab_w8 151 rfl rfl
theorem wd_1635 : Cond.methodLink RL 121 yX12_think ∈ ab_tbl := ab_w8 152 rfl rfl
theorem wd_1636 : Cond.instanceMethod yX12_think ∈ ab_tbl := ab_w8 153 rfl rfl
theorem wd_1637 : Cond.selects RX12 yX12_think yX12_think ∈ ab_tbl := ab_w8 154 rfl rfl
theorem wd_1638 : Cond.code yX12_think cX12_think 4 (some .long) ∈ ab_tbl := ab_w8 155 rfl rfl
theorem wd_1639 : Cond.methodLink RL 125 yX12_reply ∈ ab_tbl := ab_w8 156 rfl rfl
theorem wd_1640 : Cond.instanceMethod yX12_reply ∈ ab_tbl := ab_w8 157 rfl rfl
theorem wd_1641 : Cond.selects RX12 yX12_reply yX12_reply ∈ ab_tbl := ab_w8 158 rfl rfl
theorem wd_1642 : Cond.code yX12_reply cX12_reply 3 (some .int) ∈ ab_tbl := ab_w8 159 rfl rfl
theorem wd_1643 : Cond.methodLink RX12 381 yX12_replyBy ∈ ab_tbl := ab_w8 160 rfl rfl
theorem wd_1644 : Cond.instanceMethod yX12_replyBy ∈ ab_tbl := ab_w8 162 rfl rfl
theorem wd_1645 : Cond.code yX12_replyBy cX12_replyBy 8 (some .int) ∈ ab_tbl := ab_w8 163 rfl rfl
theorem wd_1646 : Cond.methodLink RL 129 yX12_fit ∈ ab_tbl := ab_w8 164 rfl rfl
theorem wd_1647 : Cond.instanceMethod yX12_fit ∈ ab_tbl := ab_w8 165 rfl rfl
theorem wd_1648 : Cond.selects RX12 yX12_fit yX12_fit ∈ ab_tbl := ab_w8 166 rfl rfl
theorem wd_1649 : Cond.code yX12_fit cX12_fit 1 (some .int) ∈ ab_tbl := ab_w8 167 rfl rfl
theorem wd_1650 : Cond.methodLink RX12 384 yX12_isFitBy ∈ ab_tbl := ab_w8 168 rfl rfl
theorem wd_1651 : Cond.instanceMethod yX12_isFitBy ∈ ab_tbl := ab_w8 170 rfl rfl
theorem wd_1652 : Cond.code yX12_isFitBy cX12_isFitBy 4 (some .boolean) ∈ ab_tbl := ab_w8 171 rfl rfl
theorem wd_1653 : Cond.methodLink RL 133 yX12_settle ∈ ab_tbl := ab_w8 172 rfl rfl
theorem wd_1654 : Cond.instanceMethod yX12_settle ∈ ab_tbl := ab_w8 173 rfl rfl
theorem wd_1655 : Cond.selects RX12 yX12_settle yX12_settle ∈ ab_tbl := ab_w8 174 rfl rfl
theorem wd_1656 : Cond.code yX12_settle cX12_settle 5 (some .int) ∈ ab_tbl := ab_w8 175 rfl rfl
theorem wd_1657 : Cond.methodLink RX12 387 yX12_tryTold ∈ ab_tbl := ab_w8 176 rfl rfl
theorem wd_1658 : Cond.instanceMethod yX12_tryTold ∈ ab_tbl := ab_w8 178 rfl rfl
theorem wd_1659 : Cond.code yX12_tryTold cX12_tryTold 2 (none) ∈ ab_tbl := ab_w8 179 rfl rfl
theorem wd_1660 : Cond.methodLink RL 137 yX12_settled ∈ ab_tbl := ab_w8 180 rfl rfl
theorem wd_1661 : Cond.instanceMethod yX12_settled ∈ ab_tbl := ab_w8 181 rfl rfl
theorem wd_1662 : Cond.selects RX12 yX12_settled yX12_settled ∈ ab_tbl := ab_w8 182 rfl rfl
theorem wd_1663 : Cond.code yX12_settled cX12_settled 3 (some .int) ∈ ab_tbl := ab_w8 183 rfl rfl
theorem wd_1664 : Cond.methodLink RL 141 yX12_settles ∈ ab_tbl := ab_w8 184 rfl rfl
theorem wd_1665 : Cond.instanceMethod yX12_settles ∈ ab_tbl := ab_w8 185 rfl rfl
theorem wd_1666 : Cond.selects RX12 yX12_settles yX12_settles ∈ ab_tbl := ab_w8 186 rfl rfl
theorem wd_1667 : Cond.code yX12_settles cX12_settles 2 (some .long) ∈ ab_tbl := ab_w8 187 rfl rfl
theorem wd_1668 : Cond.methodLink RL 145 yX12_inTurns ∈ ab_tbl := ab_w8 188 rfl rfl
theorem wd_1669 : Cond.instanceMethod yX12_inTurns ∈ ab_tbl := ab_w8 189 rfl rfl
theorem wd_1670 : Cond.selects RX12 yX12_inTurns yX12_inTurns ∈ ab_tbl := ab_w8 190 rfl rfl
theorem wd_1671 : Cond.code yX12_inTurns cX12_inTurns 8 (some .long) ∈ ab_tbl := ab_w8 191 rfl rfl
theorem wd_1672 : Cond.methodLink RX12 408 yX12_speak ∈ ab_tbl := ab_w8 192 rfl rfl
theorem wd_1673 : Cond.instanceMethod yX12_speak ∈ ab_tbl := ab_w8 194 rfl rfl
theorem wd_1674 : Cond.code yX12_speak cX12_speak 10 (none) ∈ ab_tbl := ab_w8 195 rfl rfl
theorem wd_1675 : Cond.methodLink RX12 402 yX12_speakRow ∈ ab_tbl := ab_w8 196 rfl rfl
theorem wd_1676 : Cond.instanceMethod yX12_speakRow ∈ ab_tbl := ab_w8 198 rfl rfl
theorem wd_1677 : Cond.code yX12_speakRow cX12_speakRow 5 (some .int) ∈ ab_tbl := ab_w8 199 rfl rfl
theorem wd_1678 : Cond.methodLink RX12 420 yX12_cliffOfSaid ∈ ab_tbl := ab_w8 200 rfl rfl
theorem wd_1679 : Cond.instanceMethod yX12_cliffOfSaid ∈ ab_tbl := ab_w8 202 rfl rfl
theorem wd_1680 : Cond.code yX12_cliffOfSaid cX12_cliffOfSaid 3 (some .int) ∈ ab_tbl := ab_w8 203 rfl rfl
theorem wd_1681 : Cond.methodLink RX12 423 yX12_lostInTurns ∈ ab_tbl := ab_w8 204 rfl rfl
theorem wd_1682 : Cond.instanceMethod yX12_lostInTurns ∈ ab_tbl := ab_w8 206 rfl rfl
theorem wd_1683 : Cond.code yX12_lostInTurns cX12_lostInTurns 4 (some .long) ∈ ab_tbl := ab_w8 207 rfl rfl
theorem wd_1684 : Cond.methodLink RL 149 yX12_herd ∈ ab_tbl := ab_w8 208 rfl rfl
theorem wd_1685 : Cond.instanceMethod yX12_herd ∈ ab_tbl := ab_w8 209 rfl rfl
theorem wd_1686 : Cond.selects RX12 yX12_herd yX12_herd ∈ ab_tbl := ab_w8 210 rfl rfl
theorem wd_1687 : Cond.code yX12_herd cX12_herd 2 (some .long) ∈ ab_tbl := ab_w8 211 rfl rfl
theorem wd_1688 : Cond.methodLink RL 153 yX12_says ∈ ab_tbl := ab_w8 212 rfl rfl
theorem wd_1689 : Cond.instanceMethod yX12_says ∈ ab_tbl := ab_w8 213 rfl rfl
theorem wd_1690 : Cond.selects RX12 yX12_says yX12_says ∈ ab_tbl := ab_w8 214 rfl rfl
theorem wd_1691 : Cond.code yX12_says cX12_says 3 (some .int) ∈ ab_tbl := ab_w8 215 rfl rfl
theorem wd_1692 : Cond.methodLink RX12 426 yX12_speakTold ∈ ab_tbl := ab_w8 216 rfl rfl
theorem wd_1693 : Cond.instanceMethod yX12_speakTold ∈ ab_tbl := ab_w8 218 rfl rfl
theorem wd_1694 : Cond.code yX12_speakTold cX12_speakTold 4 (some .boolean) ∈ ab_tbl := ab_w8 219 rfl rfl
theorem wd_1695 : Cond.methodLink RL 157 yX12_cliff ∈ ab_tbl := ab_w8 220 rfl rfl
theorem wd_1696 : Cond.instanceMethod yX12_cliff ∈ ab_tbl := ab_w8 221 rfl rfl
theorem wd_1697 : Cond.selects RX12 yX12_cliff yX12_cliff ∈ ab_tbl := ab_w8 222 rfl rfl
theorem wd_1698 : Cond.code yX12_cliff cX12_cliff 1 (some .int) ∈ ab_tbl := ab_w8 223 rfl rfl
theorem wd_1699 : Cond.methodLink RL 161 yX12_bestOrder ∈ ab_tbl := ab_w8 224 rfl rfl
theorem wd_1700 : Cond.instanceMethod yX12_bestOrder ∈ ab_tbl := ab_w8 225 rfl rfl
theorem wd_1701 : Cond.selects RX12 yX12_bestOrder yX12_bestOrder ∈ ab_tbl := ab_w8 226 rfl rfl
theorem wd_1702 : Cond.code yX12_bestOrder cX12_bestOrder 8 (some .int) ∈ ab_tbl := ab_w8 227 rfl rfl
theorem wd_1703 : Cond.constantLong RX12 429 (1000000000000000000) ∈ ab_tbl := ab_w8 228 rfl rfl
theorem wd_1704 : Cond.methodLink RX12 431 yX12_goOn ∈ ab_tbl := ab_w8 229 rfl rfl
theorem wd_1705 : Cond.instanceMethod yX12_goOn ∈ ab_tbl := ab_w8 231 rfl rfl
theorem wd_1706 : Cond.code yX12_goOn cX12_goOn 5 (some .boolean) ∈ ab_tbl := ab_w8 232 rfl rfl
theorem wd_1707 : Cond.methodLink RX12 434 yX12_exchange ∈ ab_tbl := ab_w8 233 rfl rfl
theorem wd_1708 : Cond.instanceMethod yX12_exchange ∈ ab_tbl := ab_w8 235 rfl rfl
theorem wd_1709 : Cond.code yX12_exchange cX12_exchange 4 (none) ∈ ab_tbl := ab_w8 236 rfl rfl
theorem wd_1710 : Cond.methodLink RL 165 yX12_bestRule ∈ ab_tbl := ab_w8 237 rfl rfl
theorem wd_1711 : Cond.instanceMethod yX12_bestRule ∈ ab_tbl := ab_w8 238 rfl rfl
theorem wd_1712 : Cond.selects RX12 yX12_bestRule yX12_bestRule ∈ ab_tbl := ab_w8 239 rfl rfl
theorem wd_1713 : Cond.code yX12_bestRule cX12_bestRule 4 (some .long) ∈ ab_tbl := ab_w9 0 rfl rfl
theorem wd_1714 : Cond.methodLink RX12 441 yX12_layByVotes ∈ ab_tbl := ab_w9 1 rfl rfl
theorem wd_1715 : Cond.instanceMethod yX12_layByVotes ∈ ab_tbl := ab_w9 3 rfl rfl
theorem wd_1716 : Cond.code yX12_layByVotes cX12_layByVotes 4 (none) ∈ ab_tbl := ab_w9 4 rfl rfl
theorem wd_1717 : Cond.methodLink RX12 438 yX12_votesOf ∈ ab_tbl := ab_w9 5 rfl rfl
theorem wd_1718 : Cond.instanceMethod yX12_votesOf ∈ ab_tbl := ab_w9 7 rfl rfl
theorem wd_1719 : Cond.code yX12_votesOf cX12_votesOf 5 (some .int) ∈ ab_tbl := ab_w9 8 rfl rfl
theorem wd_1720 : Cond.methodLink RL 169 yX12_bar ∈ ab_tbl := ab_w9 9 rfl rfl
theorem wd_1721 : Cond.instanceMethod yX12_bar ∈ ab_tbl := ab_w9 10 rfl rfl
theorem wd_1722 : Cond.selects RX12 yX12_bar yX12_bar ∈ ab_tbl := ab_w9 11 rfl rfl
theorem wd_1723 : Cond.code yX12_bar cX12_bar 7 (some .int) ∈ ab_tbl := ab_w9 12 rfl rfl
theorem wd_1724 : Cond.methodLink RX12 444 yX12_layByWeight ∈ ab_tbl := ab_w9 13 rfl rfl
theorem wd_1725 : Cond.instanceMethod yX12_layByWeight ∈ ab_tbl := ab_w9 15 rfl rfl
theorem wd_1726 : Cond.code yX12_layByWeight cX12_layByWeight 7 (none) ∈ ab_tbl := ab_w9 16 rfl rfl
theorem wd_1727 : Cond.methodLink RX12 448 yX12_lostByNeed ∈ ab_tbl := ab_w9 17 rfl rfl
theorem wd_1728 : Cond.instanceMethod yX12_lostByNeed ∈ ab_tbl := ab_w9 19 rfl rfl
theorem wd_1729 : Cond.code yX12_lostByNeed cX12_lostByNeed 8 (some .long) ∈ ab_tbl := ab_w9 20 rfl rfl
theorem wd_1730 : Cond.methodLink RL 173 yX12_barLost ∈ ab_tbl := ab_w9 21 rfl rfl
theorem wd_1731 : Cond.instanceMethod yX12_barLost ∈ ab_tbl := ab_w9 22 rfl rfl
theorem wd_1732 : Cond.selects RX12 yX12_barLost yX12_barLost ∈ ab_tbl := ab_w9 23 rfl rfl
theorem wd_1733 : Cond.code yX12_barLost cX12_barLost 1 (some .long) ∈ ab_tbl := ab_w9 24 rfl rfl
theorem wd_1734 : Cond.methodLink RL 204 yX12_weighed ∈ ab_tbl := ab_w9 25 rfl rfl
theorem wd_1735 : Cond.instanceMethod yX12_weighed ∈ ab_tbl := ab_w9 26 rfl rfl
theorem wd_1736 : Cond.selects RX12 yX12_weighed yX12_weighed ∈ ab_tbl := ab_w9 27 rfl rfl
theorem wd_1737 : Cond.code yX12_weighed cX12_weighed 13 (some .long) ∈ ab_tbl := ab_w9 28 rfl rfl
theorem wd_1738 : Cond.methodLink RL 208 yX12_weighedAt ∈ ab_tbl := ab_w9 29 rfl rfl
theorem wd_1739 : Cond.instanceMethod yX12_weighedAt ∈ ab_tbl := ab_w9 30 rfl rfl
theorem wd_1740 : Cond.selects RX12 yX12_weighedAt yX12_weighedAt ∈ ab_tbl := ab_w9 31 rfl rfl
theorem wd_1741 : Cond.code yX12_weighedAt cX12_weighedAt 2 (some .int) ∈ ab_tbl := ab_w9 32 rfl rfl
theorem wd_1742 : Cond.methodLink RL 177 yX12_silent ∈ ab_tbl := ab_w9 33 rfl rfl
theorem wd_1743 : Cond.instanceMethod yX12_silent ∈ ab_tbl := ab_w9 34 rfl rfl
theorem wd_1744 : Cond.selects RX12 yX12_silent yX12_silent ∈ ab_tbl := ab_w9 35 rfl rfl
theorem wd_1745 : Cond.code yX12_silent cX12_silent 7 (some .int) ∈ ab_tbl := ab_w9 36 rfl rfl
theorem wd_1746 : Cond.methodLink RX12 458 yX12_lostWithout ∈ ab_tbl := ab_w9 37 rfl rfl
theorem wd_1747 : Cond.instanceMethod yX12_lostWithout ∈ ab_tbl := ab_w9 39 rfl rfl
theorem wd_1748 : Cond.code yX12_lostWithout cX12_lostWithout 3 (some .long) ∈ ab_tbl := ab_w9 40 rfl rfl
theorem wd_1749 : Cond.methodLink RX12 455 yX12_silence ∈ ab_tbl := ab_w9 41 rfl rfl
theorem wd_1750 : Cond.instanceMethod yX12_silence ∈ ab_tbl := ab_w9 43 rfl rfl
theorem wd_1751 : Cond.code yX12_silence cX12_silence 3 (none) ∈ ab_tbl := ab_w9 44 rfl rfl
theorem wd_1752 : Cond.methodLink RL 181 yX12_helps ∈ ab_tbl := ab_w9 45 rfl rfl
theorem wd_1753 : Cond.instanceMethod yX12_helps ∈ ab_tbl := ab_w9 46 rfl rfl
theorem wd_1754 : Cond.selects RX12 yX12_helps yX12_helps ∈ ab_tbl := ab_w9 47 rfl rfl
theorem wd_1755 : Cond.code yX12_helps cX12_helps 4 (some .int) ∈ ab_tbl := ab_w9 48 rfl rfl
theorem wd_1756 : Cond.methodLink RL 186 yX12_believed ∈ ab_tbl := ab_w9 49 rfl rfl
theorem wd_1757 : Cond.instanceMethod yX12_believed ∈ ab_tbl := ab_w9 50 rfl rfl
theorem wd_1758 : Cond.selects RX12 yX12_believed yX12_believed ∈ ab_tbl := ab_w9 51 rfl rfl
theorem wd_1759 : Cond.code yX12_believed cX12_believed 10 (some .int) ∈ ab_tbl := ab_w9 52 rfl rfl
theorem wd_1760 : Cond.methodLink RX12 461 yX12_wordOf ∈ ab_tbl := ab_w9 53 rfl rfl
theorem wd_1761 : Cond.static yX12_wordOf ∈ ab_tbl := ab_w9 54 rfl rfl
theorem wd_1762 : Cond.code yX12_wordOf cX12_wordOf 3 (some .int) ∈ ab_tbl := ab_w9 55 rfl rfl
theorem wd_1763 : Cond.methodLink RX12 464 yX12_both ∈ ab_tbl := ab_w9 56 rfl rfl
theorem wd_1764 : Cond.instanceMethod yX12_both ∈ ab_tbl := ab_w9 58 rfl rfl
theorem wd_1765 : Cond.code yX12_both cX12_both 6 (some .long) ∈ ab_tbl := ab_w9 59 rfl rfl
theorem wd_1766 : Cond.methodLink RX12 467 yX12_lostByWord ∈ ab_tbl := ab_w9 60 rfl rfl
theorem wd_1767 : Cond.instanceMethod yX12_lostByWord ∈ ab_tbl := ab_w9 62 rfl rfl
theorem wd_1768 : Cond.code yX12_lostByWord cX12_lostByWord 9 (some .long) ∈ ab_tbl := ab_w9 63 rfl rfl
theorem wd_1769 : Cond.methodLink RL 189 yX12_minutes ∈ ab_tbl := ab_w9 64 rfl rfl
theorem wd_1770 : Cond.instanceMethod yX12_minutes ∈ ab_tbl := ab_w9 65 rfl rfl
theorem wd_1771 : Cond.selects RX12 yX12_minutes yX12_minutes ∈ ab_tbl := ab_w9 66 rfl rfl
theorem wd_1772 : Cond.code yX12_minutes cX12_minutes 6 (some .long) ∈ ab_tbl := ab_w9 67 rfl rfl
theorem wd_1773 : Cond.methodLink RX12 470 yX12_areVotesTold ∈ ab_tbl := ab_w9 68 rfl rfl
theorem wd_1774 : Cond.instanceMethod yX12_areVotesTold ∈ ab_tbl := ab_w9 70 rfl rfl
theorem wd_1775 : Cond.code yX12_areVotesTold cX12_areVotesTold 2 (some .boolean) ∈ ab_tbl := ab_w9 71 rfl rfl
theorem wd_1776 : Cond.methodLink RX12 473 yX12_votesAsTold ∈ ab_tbl := ab_w9 72 rfl rfl
theorem wd_1777 : Cond.instanceMethod yX12_votesAsTold ∈ ab_tbl := ab_w9 74 rfl rfl
theorem wd_1778 : Cond.code yX12_votesAsTold cX12_votesAsTold 3 (some .boolean) ∈ ab_tbl := ab_w9 75 rfl rfl
theorem wd_1779 : Cond.methodLink RX12 476 yX12_allOf ∈ ab_tbl := ab_w9 76 rfl rfl
theorem wd_1780 : Cond.instanceMethod yX12_allOf ∈ ab_tbl := ab_w9 78 rfl rfl
theorem wd_1781 : Cond.code yX12_allOf cX12_allOf 5 (some .long) ∈ ab_tbl := ab_w9 79 rfl rfl
theorem wd_1782 : Cond.methodLink RL 192 yX12_shut ∈ ab_tbl := ab_w9 80 rfl rfl
theorem wd_1783 : Cond.instanceMethod yX12_shut ∈ ab_tbl := ab_w9 81 rfl rfl
theorem wd_1784 : Cond.selects RX12 yX12_shut yX12_shut ∈ ab_tbl := ab_w9 82 rfl rfl
theorem wd_1785 : Cond.code yX12_shut cX12_shut 7 (some .long) ∈ ab_tbl := ab_w9 83 rfl rfl
theorem wd_1786 : Cond.methodLink RL 212 yX12_guess ∈ ab_tbl := ab_w9 84 rfl rfl
theorem wd_1787 : Cond.instanceMethod yX12_guess ∈ ab_tbl := ab_w9 85 rfl rfl
theorem wd_1788 : Cond.selects RX12 yX12_guess yX12_guess ∈ ab_tbl := ab_w9 86 rfl rfl
theorem wd_1789 : Cond.code yX12_guess cX12_guess 4 (some .int) ∈ ab_tbl := ab_w9 87 rfl rfl
theorem wd_1790 : Cond.methodLink RL 196 yX12_fits ∈ ab_tbl := ab_w9 88 rfl rfl
theorem wd_1791 : Cond.instanceMethod yX12_fits ∈ ab_tbl := ab_w9 89 rfl rfl
theorem wd_1792 : Cond.selects RX12 yX12_fits yX12_fits ∈ ab_tbl := ab_w9 90 rfl rfl
theorem wd_1793 : Cond.code yX12_fits cX12_fits 11 (some .int) ∈ ab_tbl := ab_w9 91 rfl rfl
theorem wd_1794 : Cond.methodLink RL 200 yX12_fitAt ∈ ab_tbl := ab_w9 92 rfl rfl
theorem wd_1795 : Cond.instanceMethod yX12_fitAt ∈ ab_tbl := ab_w9 93 rfl rfl
theorem wd_1796 : Cond.selects RX12 yX12_fitAt yX12_fitAt ∈ ab_tbl := ab_w9 94 rfl rfl
theorem wd_1797 : Cond.code yX12_fitAt cX12_fitAt 3 (some .int) ∈ ab_tbl := ab_w9 95 rfl rfl
theorem wd_1798 : Cond.methodLink RL 215 yX12_many ∈ ab_tbl := ab_w9 96 rfl rfl
theorem wd_1799 : Cond.instanceMethod yX12_many ∈ ab_tbl := ab_w9 97 rfl rfl
theorem wd_1800 : Cond.selects RX12 yX12_many yX12_many ∈ ab_tbl := ab_w9 98 rfl rfl
theorem wd_1801 : Cond.code yX12_many cX12_many 9 (some .long) ∈ ab_tbl := ab_w9 99 rfl rfl
theorem wd_1802 : Cond.methodLink RL 219 yX12_run ∈ ab_tbl := ab_w9 100 rfl rfl
theorem wd_1803 : Cond.instanceMethod yX12_run ∈ ab_tbl := ab_w9 101 rfl rfl
theorem wd_1804 : Cond.selects RX12 yX12_run yX12_run ∈ ab_tbl := ab_w9 102 rfl rfl
theorem wd_1805 : Cond.code yX12_run cX12_run 9 (some .int) ∈ ab_tbl := ab_w9 103 rfl rfl
theorem wd_1806 : Cond.methodLink RX12 486 yX12_draw ∈ ab_tbl := ab_w9 104 rfl rfl
theorem wd_1807 : Cond.instanceMethod yX12_draw ∈ ab_tbl := ab_w9 106 rfl rfl
theorem wd_1808 : Cond.code yX12_draw cX12_draw 1 (some .int) ∈ ab_tbl := ab_w9 107 rfl rfl
theorem wd_1809 : Cond.constant RX12 485 (1103515245) ∈ ab_tbl := ab_w9 108 rfl rfl
theorem cu_0 : ∀ w ∈ u_ws RX0 TX0 1, w ∈ ab_tbl := by
  intro w hw
  obtain ⟨k, hk, rfl⟩ := List.mem_map.mp hw
  have hk2 := List.mem_range.mp hk
  match k, hk2 with
  | 0, _ => exact wd_197
  | n + 1, h => exact absurd h (by omega)
theorem cf_0 : ∀ k, k < 1 → (TX0 k).1 = RX0 ∧ ((ab_fc 0 k = 0 ∧ tyX0 k = .int ∧ (TX0 k).2.2.2 = false) ∨ (ab_fc 0 k = 1 ∧ tyX0 k = .boolean ∧ (TX0 k).2.2.2 = false) ∨ (ab_fc 0 k = 2 ∧ tyX0 k = .long ∧ (TX0 k).2.2.2 = false) ∨ (ab_fc 0 k = 3 ∧ (∃ D, tyX0 k = .object D) ∧ (TX0 k).2.2.2 = false) ∨ (ab_fc 0 k = 4 ∧ ((∃ D, tyX0 k = .object D) ∨ ∃ D, tyX0 k = .array D) ∧ (TX0 k).2.2.2 = true)) := by
  intro k hk
  match k, hk with
  | 0, _ => exact ⟨rfl, Or.inr (Or.inr (Or.inr (Or.inr ⟨rfl, Or.inr ⟨_, rfl⟩, rfl⟩)))⟩
  | n + 1, h => exact absurd h (by omega)
theorem ck_0 : ab_ck 0 RX0 TX0 1 tyX0 := ⟨rfl, cu_0, tyX0_ok, nmX0, cf_0⟩
theorem cu_1 : ∀ w ∈ u_ws RX1 TX1 12, w ∈ ab_tbl := by
  intro w hw
  obtain ⟨k, hk, rfl⟩ := List.mem_map.mp hw
  have hk2 := List.mem_range.mp hk
  match k, hk2 with
  | 0, _ => exact wd_303
  | 1, _ => exact wd_304
  | 2, _ => exact wd_305
  | 3, _ => exact wd_306
  | 4, _ => exact wd_307
  | 5, _ => exact wd_308
  | 6, _ => exact wd_309
  | 7, _ => exact wd_310
  | 8, _ => exact wd_311
  | 9, _ => exact wd_312
  | 10, _ => exact wd_313
  | 11, _ => exact wd_314
  | n + 12, h => exact absurd h (by omega)
theorem cf_1 : ∀ k, k < 12 → (TX1 k).1 = RX1 ∧ ((ab_fc 1 k = 0 ∧ tyX1 k = .int ∧ (TX1 k).2.2.2 = false) ∨ (ab_fc 1 k = 1 ∧ tyX1 k = .boolean ∧ (TX1 k).2.2.2 = false) ∨ (ab_fc 1 k = 2 ∧ tyX1 k = .long ∧ (TX1 k).2.2.2 = false) ∨ (ab_fc 1 k = 3 ∧ (∃ D, tyX1 k = .object D) ∧ (TX1 k).2.2.2 = false) ∨ (ab_fc 1 k = 4 ∧ ((∃ D, tyX1 k = .object D) ∨ ∃ D, tyX1 k = .array D) ∧ (TX1 k).2.2.2 = true)) := by
  intro k hk
  match k, hk with
  | 0, _ => exact ⟨rfl, Or.inl ⟨rfl, rfl, rfl⟩⟩
  | 1, _ => exact ⟨rfl, Or.inl ⟨rfl, rfl, rfl⟩⟩
  | 2, _ => exact ⟨rfl, Or.inl ⟨rfl, rfl, rfl⟩⟩
  | 3, _ => exact ⟨rfl, Or.inl ⟨rfl, rfl, rfl⟩⟩
  | 4, _ => exact ⟨rfl, Or.inl ⟨rfl, rfl, rfl⟩⟩
  | 5, _ => exact ⟨rfl, Or.inl ⟨rfl, rfl, rfl⟩⟩
  | 6, _ => exact ⟨rfl, Or.inr (Or.inr (Or.inr (Or.inr ⟨rfl, Or.inr ⟨_, rfl⟩, rfl⟩)))⟩
  | 7, _ => exact ⟨rfl, Or.inr (Or.inr (Or.inr (Or.inr ⟨rfl, Or.inl ⟨_, rfl⟩, rfl⟩)))⟩
  | 8, _ => exact ⟨rfl, Or.inr (Or.inr (Or.inr (Or.inr ⟨rfl, Or.inr ⟨_, rfl⟩, rfl⟩)))⟩
  | 9, _ => exact ⟨rfl, Or.inr (Or.inr (Or.inr (Or.inr ⟨rfl, Or.inr ⟨_, rfl⟩, rfl⟩)))⟩
  | 10, _ => exact ⟨rfl, Or.inr (Or.inr (Or.inr (Or.inr ⟨rfl, Or.inr ⟨_, rfl⟩, rfl⟩)))⟩
  | 11, _ => exact ⟨rfl, Or.inr (Or.inr (Or.inr (Or.inr ⟨rfl, Or.inr ⟨_, rfl⟩, rfl⟩)))⟩
  | n + 12, h => exact absurd h (by omega)
theorem ck_1 : ab_ck 1 RX1 TX1 12 tyX1 := ⟨rfl, cu_1, tyX1_ok, nmX1, cf_1⟩
theorem cu_2 : ∀ w ∈ u_ws RX2 TX2 14, w ∈ ab_tbl := by
  intro w hw
  obtain ⟨k, hk, rfl⟩ := List.mem_map.mp hw
  have hk2 := List.mem_range.mp hk
  match k, hk2 with
  | 0, _ => exact wd_337
  | 1, _ => exact wd_338
  | 2, _ => exact wd_339
  | 3, _ => exact wd_340
  | 4, _ => exact wd_341
  | 5, _ => exact wd_342
  | 6, _ => exact wd_343
  | 7, _ => exact wd_344
  | 8, _ => exact wd_345
  | 9, _ => exact wd_346
  | 10, _ => exact wd_347
  | 11, _ => exact wd_348
  | 12, _ => exact wd_349
  | 13, _ => exact wd_350
  | n + 14, h => exact absurd h (by omega)
theorem cf_2 : ∀ k, k < 14 → (TX2 k).1 = RX2 ∧ ((ab_fc 2 k = 0 ∧ tyX2 k = .int ∧ (TX2 k).2.2.2 = false) ∨ (ab_fc 2 k = 1 ∧ tyX2 k = .boolean ∧ (TX2 k).2.2.2 = false) ∨ (ab_fc 2 k = 2 ∧ tyX2 k = .long ∧ (TX2 k).2.2.2 = false) ∨ (ab_fc 2 k = 3 ∧ (∃ D, tyX2 k = .object D) ∧ (TX2 k).2.2.2 = false) ∨ (ab_fc 2 k = 4 ∧ ((∃ D, tyX2 k = .object D) ∨ ∃ D, tyX2 k = .array D) ∧ (TX2 k).2.2.2 = true)) := by
  intro k hk
  match k, hk with
  | 0, _ => exact ⟨rfl, Or.inl ⟨rfl, rfl, rfl⟩⟩
  | 1, _ => exact ⟨rfl, Or.inr (Or.inr (Or.inr (Or.inr ⟨rfl, Or.inl ⟨_, rfl⟩, rfl⟩)))⟩
  | 2, _ => exact ⟨rfl, Or.inr (Or.inr (Or.inr (Or.inl ⟨rfl, ⟨_, rfl⟩, rfl⟩)))⟩
  | 3, _ => exact ⟨rfl, Or.inr (Or.inl ⟨rfl, rfl, rfl⟩)⟩
  | 4, _ => exact ⟨rfl, Or.inl ⟨rfl, rfl, rfl⟩⟩
  | 5, _ => exact ⟨rfl, Or.inl ⟨rfl, rfl, rfl⟩⟩
  | 6, _ => exact ⟨rfl, Or.inl ⟨rfl, rfl, rfl⟩⟩
  | 7, _ => exact ⟨rfl, Or.inr (Or.inr (Or.inl ⟨rfl, rfl, rfl⟩))⟩
  | 8, _ => exact ⟨rfl, Or.inl ⟨rfl, rfl, rfl⟩⟩
  | 9, _ => exact ⟨rfl, Or.inl ⟨rfl, rfl, rfl⟩⟩
  | 10, _ => exact ⟨rfl, Or.inl ⟨rfl, rfl, rfl⟩⟩
  | 11, _ => exact ⟨rfl, Or.inl ⟨rfl, rfl, rfl⟩⟩
  | 12, _ => exact ⟨rfl, Or.inr (Or.inr (Or.inr (Or.inr ⟨rfl, Or.inr ⟨_, rfl⟩, rfl⟩)))⟩
  | 13, _ => exact ⟨rfl, Or.inr (Or.inr (Or.inr (Or.inr ⟨rfl, Or.inr ⟨_, rfl⟩, rfl⟩)))⟩
  | n + 14, h => exact absurd h (by omega)
theorem ck_2 : ab_ck 2 RX2 TX2 14 tyX2 := ⟨rfl, cu_2, tyX2_ok, nmX2, cf_2⟩
theorem cu_3 : ∀ w ∈ u_ws RX3 TX3 14, w ∈ ab_tbl := by
  intro w hw
  obtain ⟨k, hk, rfl⟩ := List.mem_map.mp hw
  have hk2 := List.mem_range.mp hk
  match k, hk2 with
  | 0, _ => exact wd_401
  | 1, _ => exact wd_402
  | 2, _ => exact wd_403
  | 3, _ => exact wd_404
  | 4, _ => exact wd_405
  | 5, _ => exact wd_406
  | 6, _ => exact wd_407
  | 7, _ => exact wd_408
  | 8, _ => exact wd_409
  | 9, _ => exact wd_410
  | 10, _ => exact wd_411
  | 11, _ => exact wd_412
  | 12, _ => exact wd_413
  | 13, _ => exact wd_414
  | n + 14, h => exact absurd h (by omega)
theorem cf_3 : ∀ k, k < 14 → (TX3 k).1 = RX3 ∧ ((ab_fc 3 k = 0 ∧ tyX3 k = .int ∧ (TX3 k).2.2.2 = false) ∨ (ab_fc 3 k = 1 ∧ tyX3 k = .boolean ∧ (TX3 k).2.2.2 = false) ∨ (ab_fc 3 k = 2 ∧ tyX3 k = .long ∧ (TX3 k).2.2.2 = false) ∨ (ab_fc 3 k = 3 ∧ (∃ D, tyX3 k = .object D) ∧ (TX3 k).2.2.2 = false) ∨ (ab_fc 3 k = 4 ∧ ((∃ D, tyX3 k = .object D) ∨ ∃ D, tyX3 k = .array D) ∧ (TX3 k).2.2.2 = true)) := by
  intro k hk
  match k, hk with
  | 0, _ => exact ⟨rfl, Or.inr (Or.inr (Or.inr (Or.inr ⟨rfl, Or.inl ⟨_, rfl⟩, rfl⟩)))⟩
  | 1, _ => exact ⟨rfl, Or.inr (Or.inr (Or.inr (Or.inl ⟨rfl, ⟨_, rfl⟩, rfl⟩)))⟩
  | 2, _ => exact ⟨rfl, Or.inr (Or.inr (Or.inr (Or.inr ⟨rfl, Or.inr ⟨_, rfl⟩, rfl⟩)))⟩
  | 3, _ => exact ⟨rfl, Or.inr (Or.inr (Or.inr (Or.inr ⟨rfl, Or.inr ⟨_, rfl⟩, rfl⟩)))⟩
  | 4, _ => exact ⟨rfl, Or.inr (Or.inr (Or.inr (Or.inr ⟨rfl, Or.inr ⟨_, rfl⟩, rfl⟩)))⟩
  | 5, _ => exact ⟨rfl, Or.inr (Or.inr (Or.inr (Or.inr ⟨rfl, Or.inr ⟨_, rfl⟩, rfl⟩)))⟩
  | 6, _ => exact ⟨rfl, Or.inr (Or.inr (Or.inr (Or.inr ⟨rfl, Or.inr ⟨_, rfl⟩, rfl⟩)))⟩
  | 7, _ => exact ⟨rfl, Or.inr (Or.inr (Or.inl ⟨rfl, rfl, rfl⟩))⟩
  | 8, _ => exact ⟨rfl, Or.inr (Or.inr (Or.inl ⟨rfl, rfl, rfl⟩))⟩
  | 9, _ => exact ⟨rfl, Or.inr (Or.inr (Or.inr (Or.inr ⟨rfl, Or.inr ⟨_, rfl⟩, rfl⟩)))⟩
  | 10, _ => exact ⟨rfl, Or.inr (Or.inr (Or.inr (Or.inr ⟨rfl, Or.inr ⟨_, rfl⟩, rfl⟩)))⟩
  | 11, _ => exact ⟨rfl, Or.inr (Or.inr (Or.inr (Or.inr ⟨rfl, Or.inr ⟨_, rfl⟩, rfl⟩)))⟩
  | 12, _ => exact ⟨rfl, Or.inl ⟨rfl, rfl, rfl⟩⟩
  | 13, _ => exact ⟨rfl, Or.inr (Or.inr (Or.inr (Or.inr ⟨rfl, Or.inr ⟨_, rfl⟩, rfl⟩)))⟩
  | n + 14, h => exact absurd h (by omega)
theorem ck_3 : ab_ck 3 RX3 TX3 14 tyX3 := ⟨rfl, cu_3, tyX3_ok, nmX3, cf_3⟩
theorem cu_4 : ∀ w ∈ u_ws RX4 TX4 9, w ∈ ab_tbl := by
  intro w hw
  obtain ⟨k, hk, rfl⟩ := List.mem_map.mp hw
  have hk2 := List.mem_range.mp hk
  match k, hk2 with
  | 0, _ => exact wd_366
  | 1, _ => exact wd_367
  | 2, _ => exact wd_368
  | 3, _ => exact wd_369
  | 4, _ => exact wd_370
  | 5, _ => exact wd_371
  | 6, _ => exact wd_372
  | 7, _ => exact wd_373
  | 8, _ => exact wd_374
  | n + 9, h => exact absurd h (by omega)
theorem cf_4 : ∀ k, k < 9 → (TX4 k).1 = RX4 ∧ ((ab_fc 4 k = 0 ∧ tyX4 k = .int ∧ (TX4 k).2.2.2 = false) ∨ (ab_fc 4 k = 1 ∧ tyX4 k = .boolean ∧ (TX4 k).2.2.2 = false) ∨ (ab_fc 4 k = 2 ∧ tyX4 k = .long ∧ (TX4 k).2.2.2 = false) ∨ (ab_fc 4 k = 3 ∧ (∃ D, tyX4 k = .object D) ∧ (TX4 k).2.2.2 = false) ∨ (ab_fc 4 k = 4 ∧ ((∃ D, tyX4 k = .object D) ∨ ∃ D, tyX4 k = .array D) ∧ (TX4 k).2.2.2 = true)) := by
  intro k hk
  match k, hk with
  | 0, _ => exact ⟨rfl, Or.inr (Or.inr (Or.inr (Or.inl ⟨rfl, ⟨_, rfl⟩, rfl⟩)))⟩
  | 1, _ => exact ⟨rfl, Or.inr (Or.inr (Or.inr (Or.inr ⟨rfl, Or.inr ⟨_, rfl⟩, rfl⟩)))⟩
  | 2, _ => exact ⟨rfl, Or.inr (Or.inr (Or.inr (Or.inr ⟨rfl, Or.inr ⟨_, rfl⟩, rfl⟩)))⟩
  | 3, _ => exact ⟨rfl, Or.inr (Or.inr (Or.inr (Or.inr ⟨rfl, Or.inr ⟨_, rfl⟩, rfl⟩)))⟩
  | 4, _ => exact ⟨rfl, Or.inr (Or.inr (Or.inr (Or.inr ⟨rfl, Or.inr ⟨_, rfl⟩, rfl⟩)))⟩
  | 5, _ => exact ⟨rfl, Or.inr (Or.inr (Or.inr (Or.inr ⟨rfl, Or.inr ⟨_, rfl⟩, rfl⟩)))⟩
  | 6, _ => exact ⟨rfl, Or.inr (Or.inr (Or.inr (Or.inr ⟨rfl, Or.inr ⟨_, rfl⟩, rfl⟩)))⟩
  | 7, _ => exact ⟨rfl, Or.inr (Or.inr (Or.inr (Or.inr ⟨rfl, Or.inr ⟨_, rfl⟩, rfl⟩)))⟩
  | 8, _ => exact ⟨rfl, Or.inr (Or.inr (Or.inr (Or.inr ⟨rfl, Or.inr ⟨_, rfl⟩, rfl⟩)))⟩
  | n + 9, h => exact absurd h (by omega)
theorem ck_4 : ab_ck 4 RX4 TX4 9 tyX4 := ⟨rfl, cu_4, tyX4_ok, nmX4, cf_4⟩
theorem cu_5 : ∀ w ∈ u_ws RX5 TX5 10, w ∈ ab_tbl := by
  intro w hw
  obtain ⟨k, hk, rfl⟩ := List.mem_map.mp hw
  have hk2 := List.mem_range.mp hk
  match k, hk2 with
  | 0, _ => exact wd_460
  | 1, _ => exact wd_461
  | 2, _ => exact wd_462
  | 3, _ => exact wd_463
  | 4, _ => exact wd_464
  | 5, _ => exact wd_465
  | 6, _ => exact wd_466
  | 7, _ => exact wd_467
  | 8, _ => exact wd_468
  | 9, _ => exact wd_469
  | n + 10, h => exact absurd h (by omega)
theorem cf_5 : ∀ k, k < 10 → (TX5 k).1 = RX5 ∧ ((ab_fc 5 k = 0 ∧ tyX5 k = .int ∧ (TX5 k).2.2.2 = false) ∨ (ab_fc 5 k = 1 ∧ tyX5 k = .boolean ∧ (TX5 k).2.2.2 = false) ∨ (ab_fc 5 k = 2 ∧ tyX5 k = .long ∧ (TX5 k).2.2.2 = false) ∨ (ab_fc 5 k = 3 ∧ (∃ D, tyX5 k = .object D) ∧ (TX5 k).2.2.2 = false) ∨ (ab_fc 5 k = 4 ∧ ((∃ D, tyX5 k = .object D) ∨ ∃ D, tyX5 k = .array D) ∧ (TX5 k).2.2.2 = true)) := by
  intro k hk
  match k, hk with
  | 0, _ => exact ⟨rfl, Or.inr (Or.inr (Or.inr (Or.inr ⟨rfl, Or.inl ⟨_, rfl⟩, rfl⟩)))⟩
  | 1, _ => exact ⟨rfl, Or.inr (Or.inr (Or.inr (Or.inr ⟨rfl, Or.inr ⟨_, rfl⟩, rfl⟩)))⟩
  | 2, _ => exact ⟨rfl, Or.inr (Or.inr (Or.inr (Or.inr ⟨rfl, Or.inr ⟨_, rfl⟩, rfl⟩)))⟩
  | 3, _ => exact ⟨rfl, Or.inr (Or.inr (Or.inl ⟨rfl, rfl, rfl⟩))⟩
  | 4, _ => exact ⟨rfl, Or.inr (Or.inr (Or.inr (Or.inr ⟨rfl, Or.inr ⟨_, rfl⟩, rfl⟩)))⟩
  | 5, _ => exact ⟨rfl, Or.inr (Or.inr (Or.inr (Or.inr ⟨rfl, Or.inr ⟨_, rfl⟩, rfl⟩)))⟩
  | 6, _ => exact ⟨rfl, Or.inr (Or.inr (Or.inr (Or.inr ⟨rfl, Or.inr ⟨_, rfl⟩, rfl⟩)))⟩
  | 7, _ => exact ⟨rfl, Or.inr (Or.inr (Or.inr (Or.inr ⟨rfl, Or.inr ⟨_, rfl⟩, rfl⟩)))⟩
  | 8, _ => exact ⟨rfl, Or.inr (Or.inr (Or.inl ⟨rfl, rfl, rfl⟩))⟩
  | 9, _ => exact ⟨rfl, Or.inr (Or.inr (Or.inr (Or.inr ⟨rfl, Or.inr ⟨_, rfl⟩, rfl⟩)))⟩
  | n + 10, h => exact absurd h (by omega)
theorem ck_5 : ab_ck 5 RX5 TX5 10 tyX5 := ⟨rfl, cu_5, tyX5_ok, nmX5, cf_5⟩
theorem cu_6 : ∀ w ∈ u_ws RX6 TX6 2, w ∈ ab_tbl := by
  intro w hw
  obtain ⟨k, hk, rfl⟩ := List.mem_map.mp hw
  have hk2 := List.mem_range.mp hk
  match k, hk2 with
  | 0, _ => exact wd_496
  | 1, _ => exact wd_497
  | n + 2, h => exact absurd h (by omega)
theorem cf_6 : ∀ k, k < 2 → (TX6 k).1 = RX6 ∧ ((ab_fc 6 k = 0 ∧ tyX6 k = .int ∧ (TX6 k).2.2.2 = false) ∨ (ab_fc 6 k = 1 ∧ tyX6 k = .boolean ∧ (TX6 k).2.2.2 = false) ∨ (ab_fc 6 k = 2 ∧ tyX6 k = .long ∧ (TX6 k).2.2.2 = false) ∨ (ab_fc 6 k = 3 ∧ (∃ D, tyX6 k = .object D) ∧ (TX6 k).2.2.2 = false) ∨ (ab_fc 6 k = 4 ∧ ((∃ D, tyX6 k = .object D) ∨ ∃ D, tyX6 k = .array D) ∧ (TX6 k).2.2.2 = true)) := by
  intro k hk
  match k, hk with
  | 0, _ => exact ⟨rfl, Or.inl ⟨rfl, rfl, rfl⟩⟩
  | 1, _ => exact ⟨rfl, Or.inr (Or.inr (Or.inr (Or.inr ⟨rfl, Or.inr ⟨_, rfl⟩, rfl⟩)))⟩
  | n + 2, h => exact absurd h (by omega)
theorem ck_6 : ab_ck 6 RX6 TX6 2 tyX6 := ⟨rfl, cu_6, tyX6_ok, nmX6, cf_6⟩
theorem cu_7 : ∀ w ∈ u_ws RX7 TX7 2, w ∈ ab_tbl := by
  intro w hw
  obtain ⟨k, hk, rfl⟩ := List.mem_map.mp hw
  have hk2 := List.mem_range.mp hk
  match k, hk2 with
  | 0, _ => exact wd_178
  | 1, _ => exact wd_179
  | n + 2, h => exact absurd h (by omega)
theorem cf_7 : ∀ k, k < 2 → (TX7 k).1 = RX7 ∧ ((ab_fc 7 k = 0 ∧ tyX7 k = .int ∧ (TX7 k).2.2.2 = false) ∨ (ab_fc 7 k = 1 ∧ tyX7 k = .boolean ∧ (TX7 k).2.2.2 = false) ∨ (ab_fc 7 k = 2 ∧ tyX7 k = .long ∧ (TX7 k).2.2.2 = false) ∨ (ab_fc 7 k = 3 ∧ (∃ D, tyX7 k = .object D) ∧ (TX7 k).2.2.2 = false) ∨ (ab_fc 7 k = 4 ∧ ((∃ D, tyX7 k = .object D) ∨ ∃ D, tyX7 k = .array D) ∧ (TX7 k).2.2.2 = true)) := by
  intro k hk
  match k, hk with
  | 0, _ => exact ⟨rfl, Or.inr (Or.inr (Or.inr (Or.inr ⟨rfl, Or.inr ⟨_, rfl⟩, rfl⟩)))⟩
  | 1, _ => exact ⟨rfl, Or.inl ⟨rfl, rfl, rfl⟩⟩
  | n + 2, h => exact absurd h (by omega)
theorem ck_7 : ab_ck 7 RX7 TX7 2 tyX7 := ⟨rfl, cu_7, tyX7_ok, nmX7, cf_7⟩
theorem cu_8 : ∀ w ∈ u_ws RX8 TX8 8, w ∈ ab_tbl := by
  intro w hw
  obtain ⟨k, hk, rfl⟩ := List.mem_map.mp hw
  have hk2 := List.mem_range.mp hk
  match k, hk2 with
  | 0, _ => exact wd_433
  | 1, _ => exact wd_434
  | 2, _ => exact wd_435
  | 3, _ => exact wd_436
  | 4, _ => exact wd_437
  | 5, _ => exact wd_438
  | 6, _ => exact wd_439
  | 7, _ => exact wd_440
  | n + 8, h => exact absurd h (by omega)
theorem cf_8 : ∀ k, k < 8 → (TX8 k).1 = RX8 ∧ ((ab_fc 8 k = 0 ∧ tyX8 k = .int ∧ (TX8 k).2.2.2 = false) ∨ (ab_fc 8 k = 1 ∧ tyX8 k = .boolean ∧ (TX8 k).2.2.2 = false) ∨ (ab_fc 8 k = 2 ∧ tyX8 k = .long ∧ (TX8 k).2.2.2 = false) ∨ (ab_fc 8 k = 3 ∧ (∃ D, tyX8 k = .object D) ∧ (TX8 k).2.2.2 = false) ∨ (ab_fc 8 k = 4 ∧ ((∃ D, tyX8 k = .object D) ∨ ∃ D, tyX8 k = .array D) ∧ (TX8 k).2.2.2 = true)) := by
  intro k hk
  match k, hk with
  | 0, _ => exact ⟨rfl, Or.inr (Or.inr (Or.inr (Or.inl ⟨rfl, ⟨_, rfl⟩, rfl⟩)))⟩
  | 1, _ => exact ⟨rfl, Or.inr (Or.inr (Or.inr (Or.inr ⟨rfl, Or.inr ⟨_, rfl⟩, rfl⟩)))⟩
  | 2, _ => exact ⟨rfl, Or.inr (Or.inr (Or.inr (Or.inr ⟨rfl, Or.inr ⟨_, rfl⟩, rfl⟩)))⟩
  | 3, _ => exact ⟨rfl, Or.inr (Or.inr (Or.inr (Or.inr ⟨rfl, Or.inr ⟨_, rfl⟩, rfl⟩)))⟩
  | 4, _ => exact ⟨rfl, Or.inr (Or.inr (Or.inr (Or.inr ⟨rfl, Or.inr ⟨_, rfl⟩, rfl⟩)))⟩
  | 5, _ => exact ⟨rfl, Or.inr (Or.inr (Or.inr (Or.inr ⟨rfl, Or.inr ⟨_, rfl⟩, rfl⟩)))⟩
  | 6, _ => exact ⟨rfl, Or.inr (Or.inr (Or.inl ⟨rfl, rfl, rfl⟩))⟩
  | 7, _ => exact ⟨rfl, Or.inr (Or.inr (Or.inl ⟨rfl, rfl, rfl⟩))⟩
  | n + 8, h => exact absurd h (by omega)
theorem ck_8 : ab_ck 8 RX8 TX8 8 tyX8 := ⟨rfl, cu_8, tyX8_ok, nmX8, cf_8⟩
theorem cu_9 : ∀ w ∈ u_ws RX9 TX9 8, w ∈ ab_tbl := by
  intro w hw
  obtain ⟨k, hk, rfl⟩ := List.mem_map.mp hw
  have hk2 := List.mem_range.mp hk
  match k, hk2 with
  | 0, _ => exact wd_242
  | 1, _ => exact wd_243
  | 2, _ => exact wd_244
  | 3, _ => exact wd_245
  | 4, _ => exact wd_246
  | 5, _ => exact wd_247
  | 6, _ => exact wd_248
  | 7, _ => exact wd_249
  | n + 8, h => exact absurd h (by omega)
theorem cf_9 : ∀ k, k < 8 → (TX9 k).1 = RX9 ∧ ((ab_fc 9 k = 0 ∧ tyX9 k = .int ∧ (TX9 k).2.2.2 = false) ∨ (ab_fc 9 k = 1 ∧ tyX9 k = .boolean ∧ (TX9 k).2.2.2 = false) ∨ (ab_fc 9 k = 2 ∧ tyX9 k = .long ∧ (TX9 k).2.2.2 = false) ∨ (ab_fc 9 k = 3 ∧ (∃ D, tyX9 k = .object D) ∧ (TX9 k).2.2.2 = false) ∨ (ab_fc 9 k = 4 ∧ ((∃ D, tyX9 k = .object D) ∨ ∃ D, tyX9 k = .array D) ∧ (TX9 k).2.2.2 = true)) := by
  intro k hk
  match k, hk with
  | 0, _ => exact ⟨rfl, Or.inl ⟨rfl, rfl, rfl⟩⟩
  | 1, _ => exact ⟨rfl, Or.inl ⟨rfl, rfl, rfl⟩⟩
  | 2, _ => exact ⟨rfl, Or.inl ⟨rfl, rfl, rfl⟩⟩
  | 3, _ => exact ⟨rfl, Or.inl ⟨rfl, rfl, rfl⟩⟩
  | 4, _ => exact ⟨rfl, Or.inr (Or.inr (Or.inr (Or.inr ⟨rfl, Or.inr ⟨_, rfl⟩, rfl⟩)))⟩
  | 5, _ => exact ⟨rfl, Or.inr (Or.inr (Or.inr (Or.inr ⟨rfl, Or.inr ⟨_, rfl⟩, rfl⟩)))⟩
  | 6, _ => exact ⟨rfl, Or.inr (Or.inr (Or.inr (Or.inr ⟨rfl, Or.inl ⟨_, rfl⟩, rfl⟩)))⟩
  | 7, _ => exact ⟨rfl, Or.inr (Or.inr (Or.inr (Or.inr ⟨rfl, Or.inr ⟨_, rfl⟩, rfl⟩)))⟩
  | n + 8, h => exact absurd h (by omega)
theorem ck_9 : ab_ck 9 RX9 TX9 8 tyX9 := ⟨rfl, cu_9, tyX9_ok, nmX9, cf_9⟩
theorem cu_10 : ∀ w ∈ u_ws RX10 TX10 6, w ∈ ab_tbl := by
  intro w hw
  obtain ⟨k, hk, rfl⟩ := List.mem_map.mp hw
  have hk2 := List.mem_range.mp hk
  match k, hk2 with
  | 0, _ => exact wd_482
  | 1, _ => exact wd_483
  | 2, _ => exact wd_484
  | 3, _ => exact wd_485
  | 4, _ => exact wd_486
  | 5, _ => exact wd_487
  | n + 6, h => exact absurd h (by omega)
theorem cf_10 : ∀ k, k < 6 → (TX10 k).1 = RX10 ∧ ((ab_fc 10 k = 0 ∧ tyX10 k = .int ∧ (TX10 k).2.2.2 = false) ∨ (ab_fc 10 k = 1 ∧ tyX10 k = .boolean ∧ (TX10 k).2.2.2 = false) ∨ (ab_fc 10 k = 2 ∧ tyX10 k = .long ∧ (TX10 k).2.2.2 = false) ∨ (ab_fc 10 k = 3 ∧ (∃ D, tyX10 k = .object D) ∧ (TX10 k).2.2.2 = false) ∨ (ab_fc 10 k = 4 ∧ ((∃ D, tyX10 k = .object D) ∨ ∃ D, tyX10 k = .array D) ∧ (TX10 k).2.2.2 = true)) := by
  intro k hk
  match k, hk with
  | 0, _ => exact ⟨rfl, Or.inr (Or.inr (Or.inr (Or.inl ⟨rfl, ⟨_, rfl⟩, rfl⟩)))⟩
  | 1, _ => exact ⟨rfl, Or.inr (Or.inr (Or.inr (Or.inl ⟨rfl, ⟨_, rfl⟩, rfl⟩)))⟩
  | 2, _ => exact ⟨rfl, Or.inr (Or.inr (Or.inr (Or.inl ⟨rfl, ⟨_, rfl⟩, rfl⟩)))⟩
  | 3, _ => exact ⟨rfl, Or.inl ⟨rfl, rfl, rfl⟩⟩
  | 4, _ => exact ⟨rfl, Or.inr (Or.inr (Or.inr (Or.inr ⟨rfl, Or.inr ⟨_, rfl⟩, rfl⟩)))⟩
  | 5, _ => exact ⟨rfl, Or.inr (Or.inr (Or.inr (Or.inr ⟨rfl, Or.inr ⟨_, rfl⟩, rfl⟩)))⟩
  | n + 6, h => exact absurd h (by omega)
theorem ck_10 : ab_ck 10 RX10 TX10 6 tyX10 := ⟨rfl, cu_10, tyX10_ok, nmX10, cf_10⟩
theorem cu_11 : ∀ w ∈ u_ws RX11 TX11 12, w ∈ ab_tbl := by
  intro w hw
  obtain ⟨k, hk, rfl⟩ := List.mem_map.mp hw
  have hk2 := List.mem_range.mp hk
  match k, hk2 with
  | 0, _ => exact wd_510
  | 1, _ => exact wd_511
  | 2, _ => exact wd_512
  | 3, _ => exact wd_513
  | 4, _ => exact wd_514
  | 5, _ => exact wd_515
  | 6, _ => exact wd_516
  | 7, _ => exact wd_517
  | 8, _ => exact wd_518
  | 9, _ => exact wd_519
  | 10, _ => exact wd_520
  | 11, _ => exact wd_521
  | n + 12, h => exact absurd h (by omega)
theorem cf_11 : ∀ k, k < 12 → (TX11 k).1 = RX11 ∧ ((ab_fc 11 k = 0 ∧ tyX11 k = .int ∧ (TX11 k).2.2.2 = false) ∨ (ab_fc 11 k = 1 ∧ tyX11 k = .boolean ∧ (TX11 k).2.2.2 = false) ∨ (ab_fc 11 k = 2 ∧ tyX11 k = .long ∧ (TX11 k).2.2.2 = false) ∨ (ab_fc 11 k = 3 ∧ (∃ D, tyX11 k = .object D) ∧ (TX11 k).2.2.2 = false) ∨ (ab_fc 11 k = 4 ∧ ((∃ D, tyX11 k = .object D) ∨ ∃ D, tyX11 k = .array D) ∧ (TX11 k).2.2.2 = true)) := by
  intro k hk
  match k, hk with
  | 0, _ => exact ⟨rfl, Or.inr (Or.inr (Or.inr (Or.inr ⟨rfl, Or.inl ⟨_, rfl⟩, rfl⟩)))⟩
  | 1, _ => exact ⟨rfl, Or.inr (Or.inr (Or.inr (Or.inr ⟨rfl, Or.inr ⟨_, rfl⟩, rfl⟩)))⟩
  | 2, _ => exact ⟨rfl, Or.inr (Or.inr (Or.inr (Or.inr ⟨rfl, Or.inl ⟨_, rfl⟩, rfl⟩)))⟩
  | 3, _ => exact ⟨rfl, Or.inr (Or.inr (Or.inr (Or.inr ⟨rfl, Or.inl ⟨_, rfl⟩, rfl⟩)))⟩
  | 4, _ => exact ⟨rfl, Or.inr (Or.inr (Or.inr (Or.inr ⟨rfl, Or.inl ⟨_, rfl⟩, rfl⟩)))⟩
  | 5, _ => exact ⟨rfl, Or.inr (Or.inr (Or.inr (Or.inr ⟨rfl, Or.inl ⟨_, rfl⟩, rfl⟩)))⟩
  | 6, _ => exact ⟨rfl, Or.inr (Or.inr (Or.inr (Or.inr ⟨rfl, Or.inl ⟨_, rfl⟩, rfl⟩)))⟩
  | 7, _ => exact ⟨rfl, Or.inr (Or.inr (Or.inr (Or.inr ⟨rfl, Or.inl ⟨_, rfl⟩, rfl⟩)))⟩
  | 8, _ => exact ⟨rfl, Or.inr (Or.inr (Or.inr (Or.inr ⟨rfl, Or.inl ⟨_, rfl⟩, rfl⟩)))⟩
  | 9, _ => exact ⟨rfl, Or.inr (Or.inr (Or.inr (Or.inr ⟨rfl, Or.inl ⟨_, rfl⟩, rfl⟩)))⟩
  | 10, _ => exact ⟨rfl, Or.inr (Or.inr (Or.inr (Or.inr ⟨rfl, Or.inr ⟨_, rfl⟩, rfl⟩)))⟩
  | 11, _ => exact ⟨rfl, Or.inr (Or.inr (Or.inr (Or.inl ⟨rfl, ⟨_, rfl⟩, rfl⟩)))⟩
  | n + 12, h => exact absurd h (by omega)
theorem ck_11 : ab_ck 11 RX11 TX11 12 tyX11 := ⟨rfl, cu_11, tyX11_ok, nmX11, cf_11⟩
theorem cu_12 : ∀ w ∈ u_ws RX12 TX12 70, w ∈ ab_tbl := by
  intro w hw
  obtain ⟨k, hk, rfl⟩ := List.mem_map.mp hw
  have hk2 := List.mem_range.mp hk
  match k, hk2 with
  | 0, _ => exact wd_1328
  | 1, _ => exact wd_1329
  | 2, _ => exact wd_1330
  | 3, _ => exact wd_1331
  | 4, _ => exact wd_1332
  | 5, _ => exact wd_1333
  | 6, _ => exact wd_1334
  | 7, _ => exact wd_1335
  | 8, _ => exact wd_1336
  | 9, _ => exact wd_1337
  | 10, _ => exact wd_1338
  | 11, _ => exact wd_1339
  | 12, _ => exact wd_1340
  | 13, _ => exact wd_1341
  | 14, _ => exact wd_1342
  | 15, _ => exact wd_1343
  | 16, _ => exact wd_1344
  | 17, _ => exact wd_1345
  | 18, _ => exact wd_1346
  | 19, _ => exact wd_1347
  | 20, _ => exact wd_1348
  | 21, _ => exact wd_1349
  | 22, _ => exact wd_1350
  | 23, _ => exact wd_1351
  | 24, _ => exact wd_1352
  | 25, _ => exact wd_1353
  | 26, _ => exact wd_1354
  | 27, _ => exact wd_1355
  | 28, _ => exact wd_1356
  | 29, _ => exact wd_1357
  | 30, _ => exact wd_1358
  | 31, _ => exact wd_1359
  | 32, _ => exact wd_1360
  | 33, _ => exact wd_1361
  | 34, _ => exact wd_1362
  | 35, _ => exact wd_1363
  | 36, _ => exact wd_1364
  | 37, _ => exact wd_1365
  | 38, _ => exact wd_1366
  | 39, _ => exact wd_1367
  | 40, _ => exact wd_1368
  | 41, _ => exact wd_1369
  | 42, _ => exact wd_1370
  | 43, _ => exact wd_1371
  | 44, _ => exact wd_1372
  | 45, _ => exact wd_1373
  | 46, _ => exact wd_1374
  | 47, _ => exact wd_1375
  | 48, _ => exact wd_1376
  | 49, _ => exact wd_1377
  | 50, _ => exact wd_1378
  | 51, _ => exact wd_1379
  | 52, _ => exact wd_1380
  | 53, _ => exact wd_1381
  | 54, _ => exact wd_1382
  | 55, _ => exact wd_1383
  | 56, _ => exact wd_1384
  | 57, _ => exact wd_1385
  | 58, _ => exact wd_1386
  | 59, _ => exact wd_1387
  | 60, _ => exact wd_1388
  | 61, _ => exact wd_1389
  | 62, _ => exact wd_1390
  | 63, _ => exact wd_1391
  | 64, _ => exact wd_1392
  | 65, _ => exact wd_1393
  | 66, _ => exact wd_1394
  | 67, _ => exact wd_1395
  | 68, _ => exact wd_1396
  | 69, _ => exact wd_1397
  | n + 70, h => exact absurd h (by omega)
theorem cf_12 : ∀ k, k < 70 → (TX12 k).1 = RX12 ∧ ((ab_fc 12 k = 0 ∧ tyX12 k = .int ∧ (TX12 k).2.2.2 = false) ∨ (ab_fc 12 k = 1 ∧ tyX12 k = .boolean ∧ (TX12 k).2.2.2 = false) ∨ (ab_fc 12 k = 2 ∧ tyX12 k = .long ∧ (TX12 k).2.2.2 = false) ∨ (ab_fc 12 k = 3 ∧ (∃ D, tyX12 k = .object D) ∧ (TX12 k).2.2.2 = false) ∨ (ab_fc 12 k = 4 ∧ ((∃ D, tyX12 k = .object D) ∨ ∃ D, tyX12 k = .array D) ∧ (TX12 k).2.2.2 = true)) := by
  intro k hk
  match k, hk with
  | 0, _ => exact ⟨rfl, Or.inl ⟨rfl, rfl, rfl⟩⟩
  | 1, _ => exact ⟨rfl, Or.inr (Or.inr (Or.inr (Or.inr ⟨rfl, Or.inr ⟨_, rfl⟩, rfl⟩)))⟩
  | 2, _ => exact ⟨rfl, Or.inl ⟨rfl, rfl, rfl⟩⟩
  | 3, _ => exact ⟨rfl, Or.inl ⟨rfl, rfl, rfl⟩⟩
  | 4, _ => exact ⟨rfl, Or.inl ⟨rfl, rfl, rfl⟩⟩
  | 5, _ => exact ⟨rfl, Or.inl ⟨rfl, rfl, rfl⟩⟩
  | 6, _ => exact ⟨rfl, Or.inl ⟨rfl, rfl, rfl⟩⟩
  | 7, _ => exact ⟨rfl, Or.inl ⟨rfl, rfl, rfl⟩⟩
  | 8, _ => exact ⟨rfl, Or.inl ⟨rfl, rfl, rfl⟩⟩
  | 9, _ => exact ⟨rfl, Or.inl ⟨rfl, rfl, rfl⟩⟩
  | 10, _ => exact ⟨rfl, Or.inr (Or.inr (Or.inl ⟨rfl, rfl, rfl⟩))⟩
  | 11, _ => exact ⟨rfl, Or.inr (Or.inr (Or.inr (Or.inr ⟨rfl, Or.inr ⟨_, rfl⟩, rfl⟩)))⟩
  | 12, _ => exact ⟨rfl, Or.inr (Or.inr (Or.inr (Or.inr ⟨rfl, Or.inr ⟨_, rfl⟩, rfl⟩)))⟩
  | 13, _ => exact ⟨rfl, Or.inr (Or.inr (Or.inr (Or.inr ⟨rfl, Or.inr ⟨_, rfl⟩, rfl⟩)))⟩
  | 14, _ => exact ⟨rfl, Or.inr (Or.inr (Or.inr (Or.inr ⟨rfl, Or.inr ⟨_, rfl⟩, rfl⟩)))⟩
  | 15, _ => exact ⟨rfl, Or.inr (Or.inr (Or.inr (Or.inr ⟨rfl, Or.inr ⟨_, rfl⟩, rfl⟩)))⟩
  | 16, _ => exact ⟨rfl, Or.inr (Or.inr (Or.inr (Or.inr ⟨rfl, Or.inr ⟨_, rfl⟩, rfl⟩)))⟩
  | 17, _ => exact ⟨rfl, Or.inr (Or.inr (Or.inr (Or.inr ⟨rfl, Or.inr ⟨_, rfl⟩, rfl⟩)))⟩
  | 18, _ => exact ⟨rfl, Or.inr (Or.inr (Or.inr (Or.inr ⟨rfl, Or.inr ⟨_, rfl⟩, rfl⟩)))⟩
  | 19, _ => exact ⟨rfl, Or.inr (Or.inr (Or.inr (Or.inr ⟨rfl, Or.inr ⟨_, rfl⟩, rfl⟩)))⟩
  | 20, _ => exact ⟨rfl, Or.inr (Or.inr (Or.inr (Or.inr ⟨rfl, Or.inr ⟨_, rfl⟩, rfl⟩)))⟩
  | 21, _ => exact ⟨rfl, Or.inr (Or.inr (Or.inr (Or.inr ⟨rfl, Or.inr ⟨_, rfl⟩, rfl⟩)))⟩
  | 22, _ => exact ⟨rfl, Or.inr (Or.inr (Or.inr (Or.inr ⟨rfl, Or.inr ⟨_, rfl⟩, rfl⟩)))⟩
  | 23, _ => exact ⟨rfl, Or.inr (Or.inr (Or.inr (Or.inr ⟨rfl, Or.inr ⟨_, rfl⟩, rfl⟩)))⟩
  | 24, _ => exact ⟨rfl, Or.inr (Or.inr (Or.inr (Or.inr ⟨rfl, Or.inr ⟨_, rfl⟩, rfl⟩)))⟩
  | 25, _ => exact ⟨rfl, Or.inr (Or.inr (Or.inr (Or.inr ⟨rfl, Or.inr ⟨_, rfl⟩, rfl⟩)))⟩
  | 26, _ => exact ⟨rfl, Or.inr (Or.inr (Or.inr (Or.inr ⟨rfl, Or.inr ⟨_, rfl⟩, rfl⟩)))⟩
  | 27, _ => exact ⟨rfl, Or.inl ⟨rfl, rfl, rfl⟩⟩
  | 28, _ => exact ⟨rfl, Or.inl ⟨rfl, rfl, rfl⟩⟩
  | 29, _ => exact ⟨rfl, Or.inl ⟨rfl, rfl, rfl⟩⟩
  | 30, _ => exact ⟨rfl, Or.inl ⟨rfl, rfl, rfl⟩⟩
  | 31, _ => exact ⟨rfl, Or.inl ⟨rfl, rfl, rfl⟩⟩
  | 32, _ => exact ⟨rfl, Or.inr (Or.inr (Or.inr (Or.inr ⟨rfl, Or.inr ⟨_, rfl⟩, rfl⟩)))⟩
  | 33, _ => exact ⟨rfl, Or.inr (Or.inr (Or.inr (Or.inr ⟨rfl, Or.inr ⟨_, rfl⟩, rfl⟩)))⟩
  | 34, _ => exact ⟨rfl, Or.inr (Or.inr (Or.inr (Or.inr ⟨rfl, Or.inr ⟨_, rfl⟩, rfl⟩)))⟩
  | 35, _ => exact ⟨rfl, Or.inr (Or.inr (Or.inr (Or.inr ⟨rfl, Or.inr ⟨_, rfl⟩, rfl⟩)))⟩
  | 36, _ => exact ⟨rfl, Or.inr (Or.inr (Or.inr (Or.inr ⟨rfl, Or.inr ⟨_, rfl⟩, rfl⟩)))⟩
  | 37, _ => exact ⟨rfl, Or.inr (Or.inr (Or.inr (Or.inr ⟨rfl, Or.inr ⟨_, rfl⟩, rfl⟩)))⟩
  | 38, _ => exact ⟨rfl, Or.inr (Or.inr (Or.inr (Or.inr ⟨rfl, Or.inr ⟨_, rfl⟩, rfl⟩)))⟩
  | 39, _ => exact ⟨rfl, Or.inr (Or.inr (Or.inr (Or.inr ⟨rfl, Or.inr ⟨_, rfl⟩, rfl⟩)))⟩
  | 40, _ => exact ⟨rfl, Or.inr (Or.inr (Or.inr (Or.inr ⟨rfl, Or.inr ⟨_, rfl⟩, rfl⟩)))⟩
  | 41, _ => exact ⟨rfl, Or.inl ⟨rfl, rfl, rfl⟩⟩
  | 42, _ => exact ⟨rfl, Or.inr (Or.inr (Or.inl ⟨rfl, rfl, rfl⟩))⟩
  | 43, _ => exact ⟨rfl, Or.inr (Or.inr (Or.inl ⟨rfl, rfl, rfl⟩))⟩
  | 44, _ => exact ⟨rfl, Or.inr (Or.inr (Or.inr (Or.inr ⟨rfl, Or.inr ⟨_, rfl⟩, rfl⟩)))⟩
  | 45, _ => exact ⟨rfl, Or.inr (Or.inr (Or.inr (Or.inr ⟨rfl, Or.inr ⟨_, rfl⟩, rfl⟩)))⟩
  | 46, _ => exact ⟨rfl, Or.inr (Or.inr (Or.inr (Or.inr ⟨rfl, Or.inr ⟨_, rfl⟩, rfl⟩)))⟩
  | 47, _ => exact ⟨rfl, Or.inr (Or.inr (Or.inr (Or.inr ⟨rfl, Or.inr ⟨_, rfl⟩, rfl⟩)))⟩
  | 48, _ => exact ⟨rfl, Or.inr (Or.inr (Or.inr (Or.inr ⟨rfl, Or.inr ⟨_, rfl⟩, rfl⟩)))⟩
  | 49, _ => exact ⟨rfl, Or.inr (Or.inr (Or.inr (Or.inr ⟨rfl, Or.inr ⟨_, rfl⟩, rfl⟩)))⟩
  | 50, _ => exact ⟨rfl, Or.inl ⟨rfl, rfl, rfl⟩⟩
  | 51, _ => exact ⟨rfl, Or.inr (Or.inr (Or.inr (Or.inr ⟨rfl, Or.inr ⟨_, rfl⟩, rfl⟩)))⟩
  | 52, _ => exact ⟨rfl, Or.inl ⟨rfl, rfl, rfl⟩⟩
  | 53, _ => exact ⟨rfl, Or.inr (Or.inr (Or.inl ⟨rfl, rfl, rfl⟩))⟩
  | 54, _ => exact ⟨rfl, Or.inr (Or.inr (Or.inl ⟨rfl, rfl, rfl⟩))⟩
  | 55, _ => exact ⟨rfl, Or.inr (Or.inr (Or.inl ⟨rfl, rfl, rfl⟩))⟩
  | 56, _ => exact ⟨rfl, Or.inr (Or.inr (Or.inr (Or.inr ⟨rfl, Or.inr ⟨_, rfl⟩, rfl⟩)))⟩
  | 57, _ => exact ⟨rfl, Or.inr (Or.inr (Or.inr (Or.inr ⟨rfl, Or.inr ⟨_, rfl⟩, rfl⟩)))⟩
  | 58, _ => exact ⟨rfl, Or.inr (Or.inr (Or.inr (Or.inr ⟨rfl, Or.inr ⟨_, rfl⟩, rfl⟩)))⟩
  | 59, _ => exact ⟨rfl, Or.inr (Or.inr (Or.inr (Or.inr ⟨rfl, Or.inr ⟨_, rfl⟩, rfl⟩)))⟩
  | 60, _ => exact ⟨rfl, Or.inr (Or.inr (Or.inr (Or.inr ⟨rfl, Or.inr ⟨_, rfl⟩, rfl⟩)))⟩
  | 61, _ => exact ⟨rfl, Or.inr (Or.inr (Or.inl ⟨rfl, rfl, rfl⟩))⟩
  | 62, _ => exact ⟨rfl, Or.inr (Or.inr (Or.inr (Or.inr ⟨rfl, Or.inr ⟨_, rfl⟩, rfl⟩)))⟩
  | 63, _ => exact ⟨rfl, Or.inr (Or.inr (Or.inr (Or.inr ⟨rfl, Or.inr ⟨_, rfl⟩, rfl⟩)))⟩
  | 64, _ => exact ⟨rfl, Or.inl ⟨rfl, rfl, rfl⟩⟩
  | 65, _ => exact ⟨rfl, Or.inr (Or.inr (Or.inr (Or.inr ⟨rfl, Or.inr ⟨_, rfl⟩, rfl⟩)))⟩
  | 66, _ => exact ⟨rfl, Or.inr (Or.inr (Or.inr (Or.inr ⟨rfl, Or.inr ⟨_, rfl⟩, rfl⟩)))⟩
  | 67, _ => exact ⟨rfl, Or.inr (Or.inr (Or.inr (Or.inr ⟨rfl, Or.inr ⟨_, rfl⟩, rfl⟩)))⟩
  | 68, _ => exact ⟨rfl, Or.inl ⟨rfl, rfl, rfl⟩⟩
  | 69, _ => exact ⟨rfl, Or.inl ⟨rfl, rfl, rfl⟩⟩
  | n + 70, h => exact absurd h (by omega)
theorem ck_12 : ab_ck 12 RX12 TX12 70 tyX12 := ⟨rfl, cu_12, tyX12_ok, nmX12, cf_12⟩
theorem fl_X11_10 : ab_fl RX11 10 11 0 := ⟨RX11, TX11, 12, tyX11, ck_11, by decide, wd_498⟩
theorem fl_X11_18 : ab_fl RX11 18 11 1 := ⟨RX11, TX11, 12, tyX11, ck_11, by decide, wd_499⟩
theorem fl_X11_23 : ab_fl RX11 23 11 11 := ⟨RX11, TX11, 12, tyX11, ck_11, by decide, wd_509⟩
theorem fl_X11_32 : ab_fl RX11 32 11 2 := ⟨RX11, TX11, 12, tyX11, ck_11, by decide, wd_500⟩
theorem fl_X11_41 : ab_fl RX11 41 11 3 := ⟨RX11, TX11, 12, tyX11, ck_11, by decide, wd_501⟩
theorem fl_X11_50 : ab_fl RX11 50 11 4 := ⟨RX11, TX11, 12, tyX11, ck_11, by decide, wd_502⟩
theorem fl_X11_57 : ab_fl RX11 57 11 5 := ⟨RX11, TX11, 12, tyX11, ck_11, by decide, wd_503⟩
theorem fl_X11_61 : ab_fl RX11 61 11 6 := ⟨RX11, TX11, 12, tyX11, ck_11, by decide, wd_504⟩
theorem fl_X11_69 : ab_fl RX11 69 11 7 := ⟨RX11, TX11, 12, tyX11, ck_11, by decide, wd_505⟩
theorem fl_X11_76 : ab_fl RX11 76 11 8 := ⟨RX11, TX11, 12, tyX11, ck_11, by decide, wd_506⟩
theorem fl_X11_83 : ab_fl RX11 83 11 9 := ⟨RX11, TX11, 12, tyX11, ck_11, by decide, wd_507⟩
theorem fl_X11_87 : ab_fl RX11 87 11 10 := ⟨RX11, TX11, 12, tyX11, ck_11, by decide, wd_508⟩
theorem fl_X11_113 : ab_fl RX11 113 2 0 := ⟨RX2, TX2, 14, tyX2, ck_2, by decide, wd_323⟩
theorem fl_X11_117 : ab_fl RX11 117 1 0 := ⟨RX1, TX1, 12, tyX1, ck_1, by decide, wd_255⟩
theorem fl_X11_120 : ab_fl RX11 120 1 1 := ⟨RX1, TX1, 12, tyX1, ck_1, by decide, wd_264⟩
theorem fl_X11_123 : ab_fl RX11 123 7 1 := ⟨RX7, TX7, 2, tyX7, ck_7, by decide, wd_176⟩
theorem fl_X11_129 : ab_fl RX11 129 1 8 := ⟨RX1, TX1, 12, tyX1, ck_1, by decide, wd_293⟩
theorem fl_X11_133 : ab_fl RX11 133 9 0 := ⟨RX9, TX9, 8, tyX9, ck_9, by decide, wd_211⟩
theorem fl_X11_148 : ab_fl RX11 148 7 0 := ⟨RX7, TX7, 2, tyX7, ck_7, by decide, wd_173⟩
theorem fl_X11_168 : ab_fl RX11 168 1 9 := ⟨RX1, TX1, 12, tyX1, ck_1, by decide, wd_300⟩
theorem fl_X11_199 : ab_fl RX11 199 1 7 := ⟨RX1, TX1, 12, tyX1, ck_1, by decide, wd_286⟩
theorem fl_X11_212 : ab_fl RX11 212 3 3 := ⟨RX3, TX3, 14, tyX3, ck_3, by decide, wd_386⟩
theorem fl_X11_233 : ab_fl RX11 233 3 6 := ⟨RX3, TX3, 14, tyX3, ck_3, by decide, wd_390⟩
theorem fl_X11_236 : ab_fl RX11 236 3 7 := ⟨RX3, TX3, 14, tyX3, ck_3, by decide, wd_392⟩
theorem fl_X11_240 : ab_fl RX11 240 3 8 := ⟨RX3, TX3, 14, tyX3, ck_3, by decide, wd_394⟩
theorem fl_X11_251 : ab_fl RX11 251 8 5 := ⟨RX8, TX8, 8, tyX8, ck_8, by decide, wd_428⟩
theorem fl_X11_255 : ab_fl RX11 255 8 6 := ⟨RX8, TX8, 8, tyX8, ck_8, by decide, wd_430⟩
theorem fl_X11_258 : ab_fl RX11 258 8 7 := ⟨RX8, TX8, 8, tyX8, ck_8, by decide, wd_432⟩
theorem fl_X11_275 : ab_fl RX11 275 5 3 := ⟨RX5, TX5, 10, tyX5, ck_5, by decide, wd_452⟩
theorem fl_X11_310 : ab_fl RX11 310 3 9 := ⟨RX3, TX3, 14, tyX3, ck_3, by decide, wd_396⟩
theorem fl_X11_317 : ab_fl RX11 317 5 9 := ⟨RX5, TX5, 10, tyX5, ck_5, by decide, wd_459⟩
theorem fl_X11_329 : ab_fl RX11 329 8 0 := ⟨RX8, TX8, 8, tyX8, ck_8, by decide, wd_422⟩
theorem fl_X0_9 : ab_fl RX0 9 0 0 := ⟨RX0, TX0, 1, tyX0, ck_0, by decide, wd_193⟩
theorem fl_X1_9 : ab_fl RX1 9 1 5 := ⟨RX1, TX1, 12, tyX1, ck_1, by decide, wd_273⟩
theorem fl_X1_15 : ab_fl RX1 15 1 6 := ⟨RX1, TX1, 12, tyX1, ck_1, by decide, wd_276⟩
theorem fl_X1_22 : ab_fl RX1 22 1 7 := ⟨RX1, TX1, 12, tyX1, ck_1, by decide, wd_282⟩
theorem fl_X1_28 : ab_fl RX1 28 1 8 := ⟨RX1, TX1, 12, tyX1, ck_1, by decide, wd_289⟩
theorem fl_X1_33 : ab_fl RX1 33 1 9 := ⟨RX1, TX1, 12, tyX1, ck_1, by decide, wd_296⟩
theorem fl_X1_36 : ab_fl RX1 36 1 10 := ⟨RX1, TX1, 12, tyX1, ck_1, by decide, wd_301⟩
theorem fl_X1_39 : ab_fl RX1 39 1 11 := ⟨RX1, TX1, 12, tyX1, ck_1, by decide, wd_302⟩
theorem fl_X1_43 : ab_fl RX1 43 1 0 := ⟨RX1, TX1, 12, tyX1, ck_1, by decide, wd_250⟩
theorem fl_X1_46 : ab_fl RX1 46 1 1 := ⟨RX1, TX1, 12, tyX1, ck_1, by decide, wd_259⟩
theorem fl_X1_49 : ab_fl RX1 49 1 2 := ⟨RX1, TX1, 12, tyX1, ck_1, by decide, wd_267⟩
theorem fl_X1_59 : ab_fl RX1 59 9 0 := ⟨RX9, TX9, 8, tyX9, ck_9, by decide, wd_210⟩
theorem fl_X1_74 : ab_fl RX1 74 7 1 := ⟨RX7, TX7, 2, tyX7, ck_7, by decide, wd_177⟩
theorem fl_X1_79 : ab_fl RX1 79 7 0 := ⟨RX7, TX7, 2, tyX7, ck_7, by decide, wd_172⟩
theorem fl_X1_89 : ab_fl RX1 89 9 2 := ⟨RX9, TX9, 8, tyX9, ck_9, by decide, wd_220⟩
theorem fl_X1_99 : ab_fl RX1 99 9 7 := ⟨RX9, TX9, 8, tyX9, ck_9, by decide, wd_240⟩
theorem fl_X1_105 : ab_fl RX1 105 9 4 := ⟨RX9, TX9, 8, tyX9, ck_9, by decide, wd_231⟩
theorem fl_X1_108 : ab_fl RX1 108 9 6 := ⟨RX9, TX9, 8, tyX9, ck_9, by decide, wd_238⟩
theorem fl_X1_117 : ab_fl RX1 117 9 3 := ⟨RX9, TX9, 8, tyX9, ck_9, by decide, wd_223⟩
theorem fl_X1_135 : ab_fl RX1 135 9 1 := ⟨RX9, TX9, 8, tyX9, ck_9, by decide, wd_218⟩
theorem fl_X1_138 : ab_fl RX1 138 1 3 := ⟨RX1, TX1, 12, tyX1, ck_1, by decide, wd_270⟩
theorem fl_X1_141 : ab_fl RX1 141 1 4 := ⟨RX1, TX1, 12, tyX1, ck_1, by decide, wd_272⟩
theorem fl_X2_9 : ab_fl RX2 9 2 1 := ⟨RX2, TX2, 14, tyX2, ck_2, by decide, wd_324⟩
theorem fl_X2_15 : ab_fl RX2 15 2 2 := ⟨RX2, TX2, 14, tyX2, ck_2, by decide, wd_325⟩
theorem fl_X2_19 : ab_fl RX2 19 2 12 := ⟨RX2, TX2, 14, tyX2, ck_2, by decide, wd_335⟩
theorem fl_X2_23 : ab_fl RX2 23 2 13 := ⟨RX2, TX2, 14, tyX2, ck_2, by decide, wd_336⟩
theorem fl_X2_31 : ab_fl RX2 31 2 3 := ⟨RX2, TX2, 14, tyX2, ck_2, by decide, wd_326⟩
theorem fl_X2_35 : ab_fl RX2 35 2 5 := ⟨RX2, TX2, 14, tyX2, ck_2, by decide, wd_328⟩
theorem fl_X2_39 : ab_fl RX2 39 2 0 := ⟨RX2, TX2, 14, tyX2, ck_2, by decide, wd_322⟩
theorem fl_X2_45 : ab_fl RX2 45 2 6 := ⟨RX2, TX2, 14, tyX2, ck_2, by decide, wd_329⟩
theorem fl_X2_55 : ab_fl RX2 55 7 1 := ⟨RX7, TX7, 2, tyX7, ck_7, by decide, wd_175⟩
theorem fl_X2_64 : ab_fl RX2 64 2 4 := ⟨RX2, TX2, 14, tyX2, ck_2, by decide, wd_327⟩
theorem fl_X2_67 : ab_fl RX2 67 7 0 := ⟨RX7, TX7, 2, tyX7, ck_7, by decide, wd_171⟩
theorem fl_X2_74 : ab_fl RX2 74 2 8 := ⟨RX2, TX2, 14, tyX2, ck_2, by decide, wd_331⟩
theorem fl_X2_86 : ab_fl RX2 86 2 7 := ⟨RX2, TX2, 14, tyX2, ck_2, by decide, wd_330⟩
theorem fl_X2_90 : ab_fl RX2 90 2 9 := ⟨RX2, TX2, 14, tyX2, ck_2, by decide, wd_332⟩
theorem fl_X2_120 : ab_fl RX2 120 1 0 := ⟨RX1, TX1, 12, tyX1, ck_1, by decide, wd_257⟩
theorem fl_X2_123 : ab_fl RX2 123 1 6 := ⟨RX1, TX1, 12, tyX1, ck_1, by decide, wd_280⟩
theorem fl_X2_136 : ab_fl RX2 136 1 1 := ⟨RX1, TX1, 12, tyX1, ck_1, by decide, wd_266⟩
theorem fl_X2_142 : ab_fl RX2 142 1 8 := ⟨RX1, TX1, 12, tyX1, ck_1, by decide, wd_295⟩
theorem fl_X2_151 : ab_fl RX2 151 9 0 := ⟨RX9, TX9, 8, tyX9, ck_9, by decide, wd_214⟩
theorem fl_X2_154 : ab_fl RX2 154 9 4 := ⟨RX9, TX9, 8, tyX9, ck_9, by decide, wd_230⟩
theorem fl_X2_157 : ab_fl RX2 157 1 7 := ⟨RX1, TX1, 12, tyX1, ck_1, by decide, wd_284⟩
theorem fl_X2_161 : ab_fl RX2 161 0 0 := ⟨RX0, TX0, 1, tyX0, ck_0, by decide, wd_196⟩
theorem fl_X2_166 : ab_fl RX2 166 2 11 := ⟨RX2, TX2, 14, tyX2, ck_2, by decide, wd_334⟩
theorem fl_X2_168 : ab_fl RX2 168 9 5 := ⟨RX9, TX9, 8, tyX9, ck_9, by decide, wd_233⟩
theorem fl_X2_171 : ab_fl RX2 171 2 10 := ⟨RX2, TX2, 14, tyX2, ck_2, by decide, wd_333⟩
theorem fl_X2_174 : ab_fl RX2 174 9 2 := ⟨RX9, TX9, 8, tyX9, ck_9, by decide, wd_221⟩
theorem fl_X2_177 : ab_fl RX2 177 9 3 := ⟨RX9, TX9, 8, tyX9, ck_9, by decide, wd_222⟩
theorem fl_X2_184 : ab_fl RX2 184 9 7 := ⟨RX9, TX9, 8, tyX9, ck_9, by decide, wd_241⟩
theorem fl_X2_190 : ab_fl RX2 190 9 1 := ⟨RX9, TX9, 8, tyX9, ck_9, by decide, wd_217⟩
theorem fl_X2_193 : ab_fl RX2 193 1 2 := ⟨RX1, TX1, 12, tyX1, ck_1, by decide, wd_268⟩
theorem fl_X2_196 : ab_fl RX2 196 1 5 := ⟨RX1, TX1, 12, tyX1, ck_1, by decide, wd_274⟩
theorem fl_X2_199 : ab_fl RX2 199 1 3 := ⟨RX1, TX1, 12, tyX1, ck_1, by decide, wd_269⟩
theorem fl_X2_202 : ab_fl RX2 202 1 4 := ⟨RX1, TX1, 12, tyX1, ck_1, by decide, wd_271⟩
theorem fl_X3_9 : ab_fl RX3 9 3 0 := ⟨RX3, TX3, 14, tyX3, ck_3, by decide, wd_382⟩
theorem fl_X3_15 : ab_fl RX3 15 3 1 := ⟨RX3, TX3, 14, tyX3, ck_3, by decide, wd_383⟩
theorem fl_X3_19 : ab_fl RX3 19 3 2 := ⟨RX3, TX3, 14, tyX3, ck_3, by decide, wd_384⟩
theorem fl_X3_23 : ab_fl RX3 23 3 3 := ⟨RX3, TX3, 14, tyX3, ck_3, by decide, wd_385⟩
theorem fl_X3_26 : ab_fl RX3 26 3 4 := ⟨RX3, TX3, 14, tyX3, ck_3, by decide, wd_387⟩
theorem fl_X3_29 : ab_fl RX3 29 3 5 := ⟨RX3, TX3, 14, tyX3, ck_3, by decide, wd_388⟩
theorem fl_X3_33 : ab_fl RX3 33 3 6 := ⟨RX3, TX3, 14, tyX3, ck_3, by decide, wd_389⟩
theorem fl_X3_36 : ab_fl RX3 36 3 9 := ⟨RX3, TX3, 14, tyX3, ck_3, by decide, wd_395⟩
theorem fl_X3_41 : ab_fl RX3 41 3 7 := ⟨RX3, TX3, 14, tyX3, ck_3, by decide, wd_391⟩
theorem fl_X3_45 : ab_fl RX3 45 3 8 := ⟨RX3, TX3, 14, tyX3, ck_3, by decide, wd_393⟩
theorem fl_X3_48 : ab_fl RX3 48 3 10 := ⟨RX3, TX3, 14, tyX3, ck_3, by decide, wd_397⟩
theorem fl_X3_51 : ab_fl RX3 51 3 11 := ⟨RX3, TX3, 14, tyX3, ck_3, by decide, wd_398⟩
theorem fl_X3_54 : ab_fl RX3 54 3 13 := ⟨RX3, TX3, 14, tyX3, ck_3, by decide, wd_400⟩
theorem fl_X3_61 : ab_fl RX3 61 1 9 := ⟨RX1, TX1, 12, tyX1, ck_1, by decide, wd_297⟩
theorem fl_X3_95 : ab_fl RX3 95 1 0 := ⟨RX1, TX1, 12, tyX1, ck_1, by decide, wd_252⟩
theorem fl_X3_111 : ab_fl RX3 111 1 8 := ⟨RX1, TX1, 12, tyX1, ck_1, by decide, wd_292⟩
theorem fl_X3_115 : ab_fl RX3 115 9 6 := ⟨RX9, TX9, 8, tyX9, ck_9, by decide, wd_236⟩
theorem fl_X3_121 : ab_fl RX3 121 0 0 := ⟨RX0, TX0, 1, tyX0, ck_0, by decide, wd_195⟩
theorem fl_X3_126 : ab_fl RX3 126 9 4 := ⟨RX9, TX9, 8, tyX9, ck_9, by decide, wd_228⟩
theorem fl_X3_136 : ab_fl RX3 136 1 1 := ⟨RX1, TX1, 12, tyX1, ck_1, by decide, wd_265⟩
theorem fl_X3_143 : ab_fl RX3 143 9 0 := ⟨RX9, TX9, 8, tyX9, ck_9, by decide, wd_213⟩
theorem fl_X3_165 : ab_fl RX3 165 1 7 := ⟨RX1, TX1, 12, tyX1, ck_1, by decide, wd_283⟩
theorem fl_X3_194 : ab_fl RX3 194 3 12 := ⟨RX3, TX3, 14, tyX3, ck_3, by decide, wd_399⟩
theorem fl_X4_9 : ab_fl RX4 9 4 0 := ⟨RX4, TX4, 9, tyX4, ck_4, by decide, wd_357⟩
theorem fl_X4_15 : ab_fl RX4 15 4 1 := ⟨RX4, TX4, 9, tyX4, ck_4, by decide, wd_358⟩
theorem fl_X4_19 : ab_fl RX4 19 4 2 := ⟨RX4, TX4, 9, tyX4, ck_4, by decide, wd_359⟩
theorem fl_X4_22 : ab_fl RX4 22 4 3 := ⟨RX4, TX4, 9, tyX4, ck_4, by decide, wd_360⟩
theorem fl_X4_25 : ab_fl RX4 25 4 4 := ⟨RX4, TX4, 9, tyX4, ck_4, by decide, wd_361⟩
theorem fl_X4_28 : ab_fl RX4 28 4 5 := ⟨RX4, TX4, 9, tyX4, ck_4, by decide, wd_362⟩
theorem fl_X4_32 : ab_fl RX4 32 4 6 := ⟨RX4, TX4, 9, tyX4, ck_4, by decide, wd_363⟩
theorem fl_X4_35 : ab_fl RX4 35 4 7 := ⟨RX4, TX4, 9, tyX4, ck_4, by decide, wd_364⟩
theorem fl_X4_38 : ab_fl RX4 38 4 8 := ⟨RX4, TX4, 9, tyX4, ck_4, by decide, wd_365⟩
theorem fl_X4_41 : ab_fl RX4 41 1 1 := ⟨RX1, TX1, 12, tyX1, ck_1, by decide, wd_260⟩
theorem fl_X4_47 : ab_fl RX4 47 1 8 := ⟨RX1, TX1, 12, tyX1, ck_1, by decide, wd_290⟩
theorem fl_X4_51 : ab_fl RX4 51 9 0 := ⟨RX9, TX9, 8, tyX9, ck_9, by decide, wd_207⟩
theorem fl_X4_63 : ab_fl RX4 63 1 9 := ⟨RX1, TX1, 12, tyX1, ck_1, by decide, wd_299⟩
theorem fl_X4_66 : ab_fl RX4 66 9 4 := ⟨RX9, TX9, 8, tyX9, ck_9, by decide, wd_227⟩
theorem fl_X4_67 : ab_fl RX4 67 1 6 := ⟨RX1, TX1, 12, tyX1, ck_1, by decide, wd_281⟩
theorem fl_X4_74 : ab_fl RX4 74 9 1 := ⟨RX9, TX9, 8, tyX9, ck_9, by decide, wd_216⟩
theorem fl_X4_77 : ab_fl RX4 77 1 7 := ⟨RX1, TX1, 12, tyX1, ck_1, by decide, wd_285⟩
theorem fl_X4_90 : ab_fl RX4 90 1 5 := ⟨RX1, TX1, 12, tyX1, ck_1, by decide, wd_275⟩
theorem fl_X4_119 : ab_fl RX4 119 1 0 := ⟨RX1, TX1, 12, tyX1, ck_1, by decide, wd_258⟩
theorem fl_X5_9 : ab_fl RX5 9 5 0 := ⟨RX5, TX5, 10, tyX5, ck_5, by decide, wd_448⟩
theorem fl_X5_15 : ab_fl RX5 15 5 1 := ⟨RX5, TX5, 10, tyX5, ck_5, by decide, wd_449⟩
theorem fl_X5_19 : ab_fl RX5 19 5 2 := ⟨RX5, TX5, 10, tyX5, ck_5, by decide, wd_450⟩
theorem fl_X5_24 : ab_fl RX5 24 5 3 := ⟨RX5, TX5, 10, tyX5, ck_5, by decide, wd_451⟩
theorem fl_X5_28 : ab_fl RX5 28 5 4 := ⟨RX5, TX5, 10, tyX5, ck_5, by decide, wd_453⟩
theorem fl_X5_31 : ab_fl RX5 31 5 5 := ⟨RX5, TX5, 10, tyX5, ck_5, by decide, wd_454⟩
theorem fl_X5_35 : ab_fl RX5 35 5 6 := ⟨RX5, TX5, 10, tyX5, ck_5, by decide, wd_455⟩
theorem fl_X5_38 : ab_fl RX5 38 5 7 := ⟨RX5, TX5, 10, tyX5, ck_5, by decide, wd_456⟩
theorem fl_X5_41 : ab_fl RX5 41 5 9 := ⟨RX5, TX5, 10, tyX5, ck_5, by decide, wd_458⟩
theorem fl_X5_52 : ab_fl RX5 52 1 9 := ⟨RX1, TX1, 12, tyX1, ck_1, by decide, wd_298⟩
theorem fl_X5_84 : ab_fl RX5 84 5 8 := ⟨RX5, TX5, 10, tyX5, ck_5, by decide, wd_457⟩
theorem fl_X5_87 : ab_fl RX5 87 1 1 := ⟨RX1, TX1, 12, tyX1, ck_1, by decide, wd_263⟩
theorem fl_X5_101 : ab_fl RX5 101 1 0 := ⟨RX1, TX1, 12, tyX1, ck_1, by decide, wd_254⟩
theorem fl_X6_9 : ab_fl RX6 9 6 1 := ⟨RX6, TX6, 2, tyX6, ck_6, by decide, wd_495⟩
theorem fl_X6_15 : ab_fl RX6 15 6 0 := ⟨RX6, TX6, 2, tyX6, ck_6, by decide, wd_494⟩
theorem fl_X6_19 : ab_fl RX6 19 1 6 := ⟨RX1, TX1, 12, tyX1, ck_1, by decide, wd_277⟩
theorem fl_X6_24 : ab_fl RX6 24 1 0 := ⟨RX1, TX1, 12, tyX1, ck_1, by decide, wd_251⟩
theorem fl_X6_31 : ab_fl RX6 31 1 1 := ⟨RX1, TX1, 12, tyX1, ck_1, by decide, wd_261⟩
theorem fl_X6_34 : ab_fl RX6 34 1 8 := ⟨RX1, TX1, 12, tyX1, ck_1, by decide, wd_291⟩
theorem fl_X6_38 : ab_fl RX6 38 9 4 := ⟨RX9, TX9, 8, tyX9, ck_9, by decide, wd_225⟩
theorem fl_X6_43 : ab_fl RX6 43 9 0 := ⟨RX9, TX9, 8, tyX9, ck_9, by decide, wd_208⟩
theorem fl_X7_11 : ab_fl RX7 11 7 0 := ⟨RX7, TX7, 2, tyX7, ck_7, by decide, wd_170⟩
theorem fl_X7_15 : ab_fl RX7 15 7 1 := ⟨RX7, TX7, 2, tyX7, ck_7, by decide, wd_174⟩
theorem fl_X8_9 : ab_fl RX8 9 8 0 := ⟨RX8, TX8, 8, tyX8, ck_8, by decide, wd_421⟩
theorem fl_X8_15 : ab_fl RX8 15 8 1 := ⟨RX8, TX8, 8, tyX8, ck_8, by decide, wd_423⟩
theorem fl_X8_19 : ab_fl RX8 19 8 2 := ⟨RX8, TX8, 8, tyX8, ck_8, by decide, wd_424⟩
theorem fl_X8_22 : ab_fl RX8 22 8 3 := ⟨RX8, TX8, 8, tyX8, ck_8, by decide, wd_425⟩
theorem fl_X8_26 : ab_fl RX8 26 8 4 := ⟨RX8, TX8, 8, tyX8, ck_8, by decide, wd_426⟩
theorem fl_X8_29 : ab_fl RX8 29 8 5 := ⟨RX8, TX8, 8, tyX8, ck_8, by decide, wd_427⟩
theorem fl_X8_42 : ab_fl RX8 42 1 1 := ⟨RX1, TX1, 12, tyX1, ck_1, by decide, wd_262⟩
theorem fl_X8_53 : ab_fl RX8 53 8 6 := ⟨RX8, TX8, 8, tyX8, ck_8, by decide, wd_429⟩
theorem fl_X8_57 : ab_fl RX8 57 8 7 := ⟨RX8, TX8, 8, tyX8, ck_8, by decide, wd_431⟩
theorem fl_X8_67 : ab_fl RX8 67 1 6 := ⟨RX1, TX1, 12, tyX1, ck_1, by decide, wd_279⟩
theorem fl_X8_82 : ab_fl RX8 82 1 0 := ⟨RX1, TX1, 12, tyX1, ck_1, by decide, wd_256⟩
theorem fl_X8_89 : ab_fl RX8 89 1 8 := ⟨RX1, TX1, 12, tyX1, ck_1, by decide, wd_294⟩
theorem fl_X8_93 : ab_fl RX8 93 9 0 := ⟨RX9, TX9, 8, tyX9, ck_9, by decide, wd_212⟩
theorem fl_X8_98 : ab_fl RX8 98 9 4 := ⟨RX9, TX9, 8, tyX9, ck_9, by decide, wd_229⟩
theorem fl_X8_101 : ab_fl RX8 101 9 6 := ⟨RX9, TX9, 8, tyX9, ck_9, by decide, wd_237⟩
theorem fl_X8_125 : ab_fl RX8 125 1 7 := ⟨RX1, TX1, 12, tyX1, ck_1, by decide, wd_287⟩
theorem fl_X9_9 : ab_fl RX9 9 9 4 := ⟨RX9, TX9, 8, tyX9, ck_9, by decide, wd_224⟩
theorem fl_X9_15 : ab_fl RX9 15 9 5 := ⟨RX9, TX9, 8, tyX9, ck_9, by decide, wd_232⟩
theorem fl_X9_21 : ab_fl RX9 21 9 6 := ⟨RX9, TX9, 8, tyX9, ck_9, by decide, wd_234⟩
theorem fl_X9_25 : ab_fl RX9 25 9 7 := ⟨RX9, TX9, 8, tyX9, ck_9, by decide, wd_239⟩
theorem fl_X9_28 : ab_fl RX9 28 9 0 := ⟨RX9, TX9, 8, tyX9, ck_9, by decide, wd_206⟩
theorem fl_X9_32 : ab_fl RX9 32 9 1 := ⟨RX9, TX9, 8, tyX9, ck_9, by decide, wd_215⟩
theorem fl_X9_35 : ab_fl RX9 35 9 2 := ⟨RX9, TX9, 8, tyX9, ck_9, by decide, wd_219⟩
theorem fl_X9_38 : ab_fl RX9 38 0 0 := ⟨RX0, TX0, 1, tyX0, ck_0, by decide, wd_194⟩
theorem fl_X10_9 : ab_fl RX10 9 10 0 := ⟨RX10, TX10, 6, tyX10, ck_10, by decide, wd_476⟩
theorem fl_X10_15 : ab_fl RX10 15 1 8 := ⟨RX1, TX1, 12, tyX1, ck_1, by decide, wd_288⟩
theorem fl_X10_21 : ab_fl RX10 21 10 1 := ⟨RX10, TX10, 6, tyX10, ck_10, by decide, wd_477⟩
theorem fl_X10_25 : ab_fl RX10 25 10 2 := ⟨RX10, TX10, 6, tyX10, ck_10, by decide, wd_478⟩
theorem fl_X10_28 : ab_fl RX10 28 10 4 := ⟨RX10, TX10, 6, tyX10, ck_10, by decide, wd_480⟩
theorem fl_X10_32 : ab_fl RX10 32 10 5 := ⟨RX10, TX10, 6, tyX10, ck_10, by decide, wd_481⟩
theorem fl_X10_36 : ab_fl RX10 36 9 0 := ⟨RX9, TX9, 8, tyX9, ck_9, by decide, wd_209⟩
theorem fl_X10_42 : ab_fl RX10 42 10 3 := ⟨RX10, TX10, 6, tyX10, ck_10, by decide, wd_479⟩
theorem fl_X10_62 : ab_fl RX10 62 1 6 := ⟨RX1, TX1, 12, tyX1, ck_1, by decide, wd_278⟩
theorem fl_X10_68 : ab_fl RX10 68 9 4 := ⟨RX9, TX9, 8, tyX9, ck_9, by decide, wd_226⟩
theorem fl_X10_71 : ab_fl RX10 71 9 6 := ⟨RX9, TX9, 8, tyX9, ck_9, by decide, wd_235⟩
theorem fl_X10_75 : ab_fl RX10 75 1 0 := ⟨RX1, TX1, 12, tyX1, ck_1, by decide, wd_253⟩
theorem fl_X12_7 : ab_fl RX12 7 12 1 := ⟨RX12, TX12, 70, tyX12, ck_12, by decide, wd_1259⟩
theorem fl_X12_13 : ab_fl RX12 13 12 11 := ⟨RX12, TX12, 70, tyX12, ck_12, by decide, wd_1269⟩
theorem fl_X12_17 : ab_fl RX12 17 12 12 := ⟨RX12, TX12, 70, tyX12, ck_12, by decide, wd_1270⟩
theorem fl_X12_20 : ab_fl RX12 20 12 13 := ⟨RX12, TX12, 70, tyX12, ck_12, by decide, wd_1271⟩
theorem fl_X12_23 : ab_fl RX12 23 12 14 := ⟨RX12, TX12, 70, tyX12, ck_12, by decide, wd_1272⟩
theorem fl_X12_26 : ab_fl RX12 26 12 15 := ⟨RX12, TX12, 70, tyX12, ck_12, by decide, wd_1273⟩
theorem fl_X12_29 : ab_fl RX12 29 12 16 := ⟨RX12, TX12, 70, tyX12, ck_12, by decide, wd_1274⟩
theorem fl_X12_32 : ab_fl RX12 32 12 17 := ⟨RX12, TX12, 70, tyX12, ck_12, by decide, wd_1275⟩
theorem fl_X12_35 : ab_fl RX12 35 12 18 := ⟨RX12, TX12, 70, tyX12, ck_12, by decide, wd_1276⟩
theorem fl_X12_38 : ab_fl RX12 38 12 19 := ⟨RX12, TX12, 70, tyX12, ck_12, by decide, wd_1277⟩
theorem fl_X12_41 : ab_fl RX12 41 12 20 := ⟨RX12, TX12, 70, tyX12, ck_12, by decide, wd_1278⟩
theorem fl_X12_44 : ab_fl RX12 44 12 21 := ⟨RX12, TX12, 70, tyX12, ck_12, by decide, wd_1279⟩
theorem fl_X12_47 : ab_fl RX12 47 12 22 := ⟨RX12, TX12, 70, tyX12, ck_12, by decide, wd_1280⟩
theorem fl_X12_50 : ab_fl RX12 50 12 23 := ⟨RX12, TX12, 70, tyX12, ck_12, by decide, wd_1281⟩
theorem fl_X12_53 : ab_fl RX12 53 12 24 := ⟨RX12, TX12, 70, tyX12, ck_12, by decide, wd_1282⟩
theorem fl_X12_56 : ab_fl RX12 56 12 25 := ⟨RX12, TX12, 70, tyX12, ck_12, by decide, wd_1283⟩
theorem fl_X12_59 : ab_fl RX12 59 12 26 := ⟨RX12, TX12, 70, tyX12, ck_12, by decide, wd_1284⟩
theorem fl_X12_62 : ab_fl RX12 62 12 32 := ⟨RX12, TX12, 70, tyX12, ck_12, by decide, wd_1290⟩
theorem fl_X12_65 : ab_fl RX12 65 12 33 := ⟨RX12, TX12, 70, tyX12, ck_12, by decide, wd_1291⟩
theorem fl_X12_68 : ab_fl RX12 68 12 34 := ⟨RX12, TX12, 70, tyX12, ck_12, by decide, wd_1292⟩
theorem fl_X12_71 : ab_fl RX12 71 12 35 := ⟨RX12, TX12, 70, tyX12, ck_12, by decide, wd_1293⟩
theorem fl_X12_74 : ab_fl RX12 74 12 36 := ⟨RX12, TX12, 70, tyX12, ck_12, by decide, wd_1294⟩
theorem fl_X12_77 : ab_fl RX12 77 12 37 := ⟨RX12, TX12, 70, tyX12, ck_12, by decide, wd_1295⟩
theorem fl_X12_80 : ab_fl RX12 80 12 38 := ⟨RX12, TX12, 70, tyX12, ck_12, by decide, wd_1296⟩
theorem fl_X12_83 : ab_fl RX12 83 12 39 := ⟨RX12, TX12, 70, tyX12, ck_12, by decide, wd_1297⟩
theorem fl_X12_86 : ab_fl RX12 86 12 40 := ⟨RX12, TX12, 70, tyX12, ck_12, by decide, wd_1298⟩
theorem fl_X12_89 : ab_fl RX12 89 12 44 := ⟨RX12, TX12, 70, tyX12, ck_12, by decide, wd_1302⟩
theorem fl_X12_92 : ab_fl RX12 92 12 45 := ⟨RX12, TX12, 70, tyX12, ck_12, by decide, wd_1303⟩
theorem fl_X12_95 : ab_fl RX12 95 12 46 := ⟨RX12, TX12, 70, tyX12, ck_12, by decide, wd_1304⟩
theorem fl_X12_99 : ab_fl RX12 99 12 47 := ⟨RX12, TX12, 70, tyX12, ck_12, by decide, wd_1305⟩
theorem fl_X12_102 : ab_fl RX12 102 12 48 := ⟨RX12, TX12, 70, tyX12, ck_12, by decide, wd_1306⟩
theorem fl_X12_105 : ab_fl RX12 105 12 49 := ⟨RX12, TX12, 70, tyX12, ck_12, by decide, wd_1307⟩
theorem fl_X12_109 : ab_fl RX12 109 12 51 := ⟨RX12, TX12, 70, tyX12, ck_12, by decide, wd_1309⟩
theorem fl_X12_112 : ab_fl RX12 112 12 56 := ⟨RX12, TX12, 70, tyX12, ck_12, by decide, wd_1314⟩
theorem fl_X12_115 : ab_fl RX12 115 12 57 := ⟨RX12, TX12, 70, tyX12, ck_12, by decide, wd_1315⟩
theorem fl_X12_119 : ab_fl RX12 119 12 58 := ⟨RX12, TX12, 70, tyX12, ck_12, by decide, wd_1316⟩
theorem fl_X12_122 : ab_fl RX12 122 12 59 := ⟨RX12, TX12, 70, tyX12, ck_12, by decide, wd_1317⟩
theorem fl_X12_125 : ab_fl RX12 125 12 60 := ⟨RX12, TX12, 70, tyX12, ck_12, by decide, wd_1318⟩
theorem fl_X12_130 : ab_fl RX12 130 12 61 := ⟨RX12, TX12, 70, tyX12, ck_12, by decide, wd_1319⟩
theorem fl_X12_134 : ab_fl RX12 134 12 62 := ⟨RX12, TX12, 70, tyX12, ck_12, by decide, wd_1320⟩
theorem fl_X12_137 : ab_fl RX12 137 12 63 := ⟨RX12, TX12, 70, tyX12, ck_12, by decide, wd_1321⟩
theorem fl_X12_140 : ab_fl RX12 140 12 65 := ⟨RX12, TX12, 70, tyX12, ck_12, by decide, wd_1323⟩
theorem fl_X12_143 : ab_fl RX12 143 12 66 := ⟨RX12, TX12, 70, tyX12, ck_12, by decide, wd_1324⟩
theorem fl_X12_146 : ab_fl RX12 146 12 67 := ⟨RX12, TX12, 70, tyX12, ck_12, by decide, wd_1325⟩
theorem fl_X12_149 : ab_fl RX12 149 12 0 := ⟨RX12, TX12, 70, tyX12, ck_12, by decide, wd_1258⟩
theorem fl_X12_153 : ab_fl RX12 153 12 2 := ⟨RX12, TX12, 70, tyX12, ck_12, by decide, wd_1260⟩
theorem fl_X12_160 : ab_fl RX12 160 12 3 := ⟨RX12, TX12, 70, tyX12, ck_12, by decide, wd_1261⟩
theorem fl_X12_163 : ab_fl RX12 163 12 4 := ⟨RX12, TX12, 70, tyX12, ck_12, by decide, wd_1262⟩
theorem fl_X12_166 : ab_fl RX12 166 12 5 := ⟨RX12, TX12, 70, tyX12, ck_12, by decide, wd_1263⟩
theorem fl_X12_169 : ab_fl RX12 169 12 6 := ⟨RX12, TX12, 70, tyX12, ck_12, by decide, wd_1264⟩
theorem fl_X12_179 : ab_fl RX12 179 12 10 := ⟨RX12, TX12, 70, tyX12, ck_12, by decide, wd_1268⟩
theorem fl_X12_182 : ab_fl RX12 182 12 7 := ⟨RX12, TX12, 70, tyX12, ck_12, by decide, wd_1265⟩
theorem fl_X12_197 : ab_fl RX12 197 12 8 := ⟨RX12, TX12, 70, tyX12, ck_12, by decide, wd_1266⟩
theorem fl_X12_200 : ab_fl RX12 200 12 9 := ⟨RX12, TX12, 70, tyX12, ck_12, by decide, wd_1267⟩
theorem fl_X12_238 : ab_fl RX12 238 12 28 := ⟨RX12, TX12, 70, tyX12, ck_12, by decide, wd_1286⟩
theorem fl_X12_251 : ab_fl RX12 251 12 27 := ⟨RX12, TX12, 70, tyX12, ck_12, by decide, wd_1285⟩
theorem fl_X12_303 : ab_fl RX12 303 12 29 := ⟨RX12, TX12, 70, tyX12, ck_12, by decide, wd_1287⟩
theorem fl_X12_306 : ab_fl RX12 306 12 30 := ⟨RX12, TX12, 70, tyX12, ck_12, by decide, wd_1288⟩
theorem fl_X12_309 : ab_fl RX12 309 12 31 := ⟨RX12, TX12, 70, tyX12, ck_12, by decide, wd_1289⟩
theorem fl_X12_390 : ab_fl RX12 390 12 41 := ⟨RX12, TX12, 70, tyX12, ck_12, by decide, wd_1299⟩
theorem fl_X12_393 : ab_fl RX12 393 12 42 := ⟨RX12, TX12, 70, tyX12, ck_12, by decide, wd_1300⟩
theorem fl_X12_396 : ab_fl RX12 396 12 43 := ⟨RX12, TX12, 70, tyX12, ck_12, by decide, wd_1301⟩
theorem fl_X12_399 : ab_fl RX12 399 12 50 := ⟨RX12, TX12, 70, tyX12, ck_12, by decide, wd_1308⟩
theorem fl_X12_405 : ab_fl RX12 405 12 52 := ⟨RX12, TX12, 70, tyX12, ck_12, by decide, wd_1310⟩
theorem fl_X12_411 : ab_fl RX12 411 12 53 := ⟨RX12, TX12, 70, tyX12, ck_12, by decide, wd_1311⟩
theorem fl_X12_414 : ab_fl RX12 414 12 54 := ⟨RX12, TX12, 70, tyX12, ck_12, by decide, wd_1312⟩
theorem fl_X12_417 : ab_fl RX12 417 12 55 := ⟨RX12, TX12, 70, tyX12, ck_12, by decide, wd_1313⟩
theorem fl_X12_452 : ab_fl RX12 452 12 64 := ⟨RX12, TX12, 70, tyX12, ck_12, by decide, wd_1322⟩
theorem fl_X12_479 : ab_fl RX12 479 12 68 := ⟨RX12, TX12, 70, tyX12, ck_12, by decide, wd_1326⟩
theorem fl_X12_482 : ab_fl RX12 482 12 69 := ⟨RX12, TX12, 70, tyX12, ck_12, by decide, wd_1327⟩
abbrev MX11_feed : ab_M := (yX11_feed, cX11_feed, 6, some .int, 0, 0)
abbrev MX7_take : ab_M := (yX7_take, cX7_take, 6, some .int, 0, 0)
abbrev MX7_add : ab_M := (yX7_add, cX7_add, 3, none, 0, 0)
abbrev MX11_end : ab_M := (yX11_end, cX11_end, 2, some .boolean, 0, 0)
abbrev MX7_cut : ab_M := (yX7_cut, cX7_cut, 2, some .boolean, 0, 0)
abbrev MX11_matter : ab_M := (yX11_matter, cX11_matter, 3, some .int, 0, 0)
abbrev MX11_spareMatter : ab_M := (yX11_spareMatter, cX11_spareMatter, 2, some (.object "LongTable$Matter"), 0, 0)
abbrev MX2_read : ab_M := (yX2_read, cX2_read, 3, some .int, 0, 0)
abbrev MX1_begin : ab_M := (yX1_begin, cX1_begin, 2, none, 0, 0)
abbrev MX0_becomePlain : ab_M := (yX0_becomePlain, cX0_becomePlain, 3, none, 0, 0)
abbrev MX2_next : ab_M := (yX2_next, cX2_next, 2, none, 0, 0)
abbrev MX2_isBlank : ab_M := (yX2_isBlank, cX2_isBlank, 1, some .boolean, 0, 0)
abbrev MX2_nextRun : ab_M := (yX2_nextRun, cX2_nextRun, 4, none, 0, 0)
abbrev MX2_readLine : ab_M := (yX2_readLine, cX2_readLine, 1, some .boolean, 0, 0)
abbrev MX2_fail : ab_M := (yX2_fail, cX2_fail, 2, some .boolean, 0, 0)
abbrev MX2_readTruth : ab_M := (yX2_readTruth, cX2_readTruth, 1, some .boolean, 0, 0)
abbrev MX2_someName : ab_M := (yX2_someName, cX2_someName, 2, some .boolean, 0, 0)
abbrev MX2_isName : ab_M := (yX2_isName, cX2_isName, 4, some .boolean, 0, 0)
abbrev MX2_someNumber : ab_M := (yX2_someNumber, cX2_someNumber, 3, some .boolean, 0, 0)
abbrev MX2_stop : ab_M := (yX2_stop, cX2_stop, 1, some .boolean, 0, 0)
abbrev MX2_truthsStand : ab_M := (yX2_truthsStand, cX2_truthsStand, 3, some .boolean, 0, 0)
abbrev MX2_readVoter : ab_M := (yX2_readVoter, cX2_readVoter, 5, some .boolean, 0, 0)
abbrev MX2_someKeyword : ab_M := (yX2_someKeyword, cX2_someKeyword, 2, some .boolean, 0, 0)
abbrev MX9_begin : ab_M := (yX9_begin, cX9_begin, 3, none, 0, 0)
abbrev MX2_readLoss : ab_M := (yX2_readLoss, cX2_readLoss, 4, some .boolean, 0, 0)
abbrev MX2_readWay : ab_M := (yX2_readWay, cX2_readWay, 2, some .boolean, 0, 0)
abbrev MX2_readSet : ab_M := (yX2_readSet, cX2_readSet, 3, some .boolean, 0, 0)
abbrev MX2_readWeight : ab_M := (yX2_readWeight, cX2_readWeight, 1, some .boolean, 0, 0)
abbrev MX2_readNeed : ab_M := (yX2_readNeed, cX2_readNeed, 1, some .boolean, 0, 0)
abbrev MX2_readMost : ab_M := (yX2_readMost, cX2_readMost, 1, some .boolean, 0, 0)
abbrev MX1_isEmpty : ab_M := (yX1_isEmpty, cX1_isEmpty, 1, some .boolean, 0, 0)
abbrev MX1_finish : ab_M := (yX1_finish, cX1_finish, 3, none, 0, 0)
abbrev MX9_fillLosses : ab_M := (yX9_fillLosses, cX9_fillLosses, 3, none, 0, 0)
abbrev MX1_voteOf : ab_M := (yX1_voteOf, cX1_voteOf, 3, some .int, 0, 0)
abbrev MX9_likeliest : ab_M := (yX9_likeliest, cX9_likeliest, 5, some .int, 0, 0)
abbrev MX1_shyVote : ab_M := (yX1_shyVote, cX1_shyVote, 6, some .int, 0, 0)
abbrev MX1_honestVote : ab_M := (yX1_honestVote, cX1_honestVote, 4, some .int, 0, 0)
abbrev MX0_leastOf : ab_M := (yX0_leastOf, cX0_leastOf, 10, some .int, 0, 0)
abbrev MX0_lostAt : ab_M := (yX0_lostAt, cX0_lostAt, 7, some .long, 0, 0)
abbrev MX7_clear : ab_M := (yX7_clear, cX7_clear, 1, none, 0, 0)
abbrev MX11_fault : ab_M := (yX11_fault, cX11_fault, 1, some .int, 0, 0)
abbrev MX11_count : ab_M := (yX11_count, cX11_count, 2, some .int, 0, 0)
abbrev MX11_signs : ab_M := (yX11_signs, cX11_signs, 2, some .int, 0, 0)
abbrev MX1_hasVoter : ab_M := (yX1_hasVoter, cX1_hasVoter, 2, some .boolean, 0, 0)
abbrev MX11_all : ab_M := (yX11_all, cX11_all, 1, some .long, 0, 0)
abbrev MX11_power : ab_M := (yX11_power, cX11_power, 5, some .long, 0, 0)
abbrev MX11_vote : ab_M := (yX11_vote, cX11_vote, 3, some .int, 0, 0)
abbrev MX1_hasSign : ab_M := (yX1_hasSign, cX1_hasSign, 3, some .boolean, 0, 0)
abbrev MX11_decided : ab_M := (yX11_decided, cX11_decided, 2, some .int, 0, 0)
abbrev MX1_hasSigns : ab_M := (yX1_hasSigns, cX1_hasSigns, 3, some .boolean, 0, 0)
abbrev MX1_decidesWithSigns : ab_M := (yX1_decidesWithSigns, cX1_decidesWithSigns, 3, some .int, 0, 0)
abbrev MX1_clearTally : ab_M := (yX1_clearTally, cX1_clearTally, 2, none, 0, 0)
abbrev MX1_addVote : ab_M := (yX1_addVote, cX1_addVote, 4, none, 0, 0)
abbrev MX1_decides : ab_M := (yX1_decides, cX1_decides, 5, some .int, 0, 0)
abbrev MX11_right : ab_M := (yX11_right, cX11_right, 1, some .long, 0, 0)
abbrev MX4_voting : ab_M := (yX4_voting, cX4_voting, 5, none, 0, 0)
abbrev MX4_addChoice : ab_M := (yX4_addChoice, cX4_addChoice, 6, none, 0, 0)
abbrev MX4_openChoice : ab_M := (yX4_openChoice, cX4_openChoice, 6, none, 0, 0)
abbrev MX4_sumUp : ab_M := (yX4_sumUp, cX4_sumUp, 4, none, 0, 0)
abbrev MX11_empty : ab_M := (yX11_empty, cX11_empty, 2, none, 0, 0)
abbrev MX4_first : ab_M := (yX4_first, cX4_first, 3, some .int, 0, 0)
abbrev MX4_fillFrom : ab_M := (yX4_fillFrom, cX4_fillFrom, 6, none, 0, 0)
abbrev MX4_decidesNow : ab_M := (yX4_decidesNow, cX4_decidesNow, 1, some .int, 0, 0)
abbrev MX4_takeTally : ab_M := (yX4_takeTally, cX4_takeTally, 2, none, 0, 0)
abbrev MX4_addRow : ab_M := (yX4_addRow, cX4_addRow, 4, none, 0, 0)
abbrev MX4_partsNow : ab_M := (yX4_partsNow, cX4_partsNow, 2, some .long, 0, 0)
abbrev MX4_step : ab_M := (yX4_step, cX4_step, 2, none, 0, 0)
abbrev MX11_rightOf : ab_M := (yX11_rightOf, cX11_rightOf, 1, some .long, 0, 0)
abbrev MX11_lost : ab_M := (yX11_lost, cX11_lost, 1, some .long, 0, 0)
abbrev MX11_lostWithout : ab_M := (yX11_lostWithout, cX11_lostWithout, 3, some .long, 0, 0)
abbrev MX4_silence : ab_M := (yX4_silence, cX4_silence, 2, none, 0, 0)
abbrev MX0_lostBy : ab_M := (yX0_lostBy, cX0_lostBy, 5, some .long, 0, 0)
abbrev MX11_known : ab_M := (yX11_known, cX11_known, 2, some .int, 0, 0)
abbrev MX1_knownBy : ab_M := (yX1_knownBy, cX1_knownBy, 3, some .int, 0, 0)
abbrev MX1_partsOf : ab_M := (yX1_partsOf, cX1_partsOf, 6, some .long, 0, 0)
abbrev MX11_reply : ab_M := (yX11_reply, cX11_reply, 3, some .int, 0, 0)
abbrev MX3_hearOthers : ab_M := (yX3_hearOthers, cX3_hearOthers, 7, none, 0, 0)
abbrev MX4_leaveOut : ab_M := (yX4_leaveOut, cX4_leaveOut, 2, none, 0, 0)
abbrev MX3_addLosing : ab_M := (yX3_addLosing, cX3_addLosing, 6, none, 0, 0)
abbrev MX3_voteAt : ab_M := (yX3_voteAt, cX3_voteAt, 2, some .int, 0, 0)
abbrev MX4_decidesIf : ab_M := (yX4_decidesIf, cX4_decidesIf, 4, some .int, 0, 0)
abbrev MX3_best : ab_M := (yX3_best, cX3_best, 11, some .int, 0, 0)
abbrev MX1_hasTruth : ab_M := (yX1_hasTruth, cX1_hasTruth, 2, some .boolean, 0, 0)
abbrev MX3_lostBy : ab_M := (yX3_lostBy, cX3_lostBy, 8, some .long, 0, 0)
abbrev MX11_fit : ab_M := (yX11_fit, cX11_fit, 1, some .int, 0, 0)
abbrev MX3_isFit : ab_M := (yX3_isFit, cX3_isFit, 6, some .boolean, 0, 0)
abbrev MX11_settle : ab_M := (yX11_settle, cX11_settle, 1, some .int, 0, 0)
abbrev MX3_settleVotes : ab_M := (yX3_settleVotes, cX3_settleVotes, 3, some .int, 0, 0)
abbrev MX3_changesInRound : ab_M := (yX3_changesInRound, cX3_changesInRound, 6, some .boolean, 0, 0)
abbrev MX3_keepVotes : ab_M := (yX3_keepVotes, cX3_keepVotes, 5, none, 0, 0)
abbrev MX3_countTrial : ab_M := (yX3_countTrial, cX3_countTrial, 2, none, 0, 0)
abbrev MX11_settled : ab_M := (yX11_settled, cX11_settled, 3, some .int, 0, 0)
abbrev MX11_inTable : ab_M := (yX11_inTable, cX11_inTable, 2, some .boolean, 0, 0)
abbrev MX11_settles : ab_M := (yX11_settles, cX11_settles, 2, some .long, 0, 0)
abbrev MX11_inTurns : ab_M := (yX11_inTurns, cX11_inTurns, 3, some .long, 0, 0)
abbrev MX1_hasOrder : ab_M := (yX1_hasOrder, cX1_hasOrder, 5, some .boolean, 0, 0)
abbrev MX8_speakAll : ab_M := (yX8_speakAll, cX8_speakAll, 4, none, 0, 0)
abbrev MX8_speakInOrder : ab_M := (yX8_speakInOrder, cX8_speakInOrder, 1, none, 0, 0)
abbrev MX8_openTalk : ab_M := (yX8_openTalk, cX8_openTalk, 2, none, 0, 0)
abbrev MX8_speak : ab_M := (yX8_speak, cX8_speak, 6, none, 0, 0)
abbrev MX8_endTalk : ab_M := (yX8_endTalk, cX8_endTalk, 7, none, 0, 0)
abbrev MX8_ponder : ab_M := (yX8_ponder, cX8_ponder, 5, none, 0, 0)
abbrev MX8_cliffAt : ab_M := (yX8_cliffAt, cX8_cliffAt, 3, some .int, 0, 0)
abbrev MX8_follows : ab_M := (yX8_follows, cX8_follows, 6, some .boolean, 0, 0)
abbrev MX8_hasCase : ab_M := (yX8_hasCase, cX8_hasCase, 5, some .boolean, 0, 0)
abbrev MX8_hear : ab_M := (yX8_hear, cX8_hear, 9, some .boolean, 0, 0)
abbrev MX11_herd : ab_M := (yX11_herd, cX11_herd, 2, some .long, 0, 0)
abbrev MX8_isSilent : ab_M := (yX8_isSilent, cX8_isSilent, 1, some .boolean, 0, 0)
abbrev MX11_says : ab_M := (yX11_says, cX11_says, 2, some .int, 0, 0)
abbrev MX8_hasSigns : ab_M := (yX8_hasSigns, cX8_hasSigns, 2, some .boolean, 0, 0)
abbrev MX8_said : ab_M := (yX8_said, cX8_said, 4, some .int, 0, 0)
abbrev MX8_sayWith : ab_M := (yX8_sayWith, cX8_sayWith, 4, some .int, 0, 0)
abbrev MX11_cliff : ab_M := (yX11_cliff, cX11_cliff, 2, some .int, 0, 0)
abbrev MX8_cliffWith : ab_M := (yX8_cliffWith, cX8_cliffWith, 4, some .int, 0, 0)
abbrev MX11_bestOrder : ab_M := (yX11_bestOrder, cX11_bestOrder, 1, some .int, 0, 0)
abbrev MX8_tryOrders : ab_M := (yX8_tryOrders, cX8_tryOrders, 9, some .int, 0, 0)
abbrev MX8_orderByTen : ab_M := (yX8_orderByTen, cX8_orderByTen, 3, some .int, 0, 0)
abbrev MX8_nextOrder : ab_M := (yX8_nextOrder, cX8_nextOrder, 5, some .boolean, 0, 0)
abbrev MX8_swap : ab_M := (yX8_swap, cX8_swap, 4, none, 0, 0)
abbrev MX11_bar : ab_M := (yX11_bar, cX11_bar, 3, some .int, 0, 0)
abbrev MX5_bestBar : ab_M := (yX5_bestBar, cX5_bestBar, 8, some .int, 0, 0)
abbrev MX5_sortByWeights : ab_M := (yX5_sortByWeights, cX5_sortByWeights, 7, none, 0, 0)
abbrev MX4_weightNow : ab_M := (yX4_weightNow, cX4_weightNow, 2, some .int, 0, 0)
abbrev MX4_lostNow : ab_M := (yX4_lostNow, cX4_lostNow, 2, some .long, 0, 0)
abbrev MX11_barLost : ab_M := (yX11_barLost, cX11_barLost, 1, some .long, 0, 0)
abbrev MX11_silent : ab_M := (yX11_silent, cX11_silent, 7, some .int, 0, 0)
abbrev MX11_helps : ab_M := (yX11_helps, cX11_helps, 5, some .int, 0, 0)
abbrev MX11_believed : ab_M := (yX11_believed, cX11_believed, 4, some .int, 0, 0)
abbrev MX10_lastPart : ab_M := (yX10_lastPart, cX10_lastPart, 1, some .int, 0, 0)
abbrev MX10_areBelieved : ab_M := (yX10_areBelieved, cX10_areBelieved, 7, some .boolean, 0, 0)
abbrev MX10_hearWord : ab_M := (yX10_hearWord, cX10_hearWord, 4, none, 0, 0)
abbrev MX10_likelyWord : ab_M := (yX10_likelyWord, cX10_likelyWord, 5, some .int, 0, 0)
abbrev MX10_liesWith : ab_M := (yX10_liesWith, cX10_liesWith, 6, some .boolean, 0, 0)
abbrev MX10_lostBy : ab_M := (yX10_lostBy, cX10_lostBy, 8, some .long, 0, 0)
abbrev MX11_fits : ab_M := (yX11_fits, cX11_fits, 1, some .int, 0, 0)
abbrev MX1_signsInAll : ab_M := (yX1_signsInAll, cX1_signsInAll, 3, some .int, 0, 0)
abbrev MX3_countFits : ab_M := (yX3_countFits, cX3_countFits, 10, some .int, 0, 0)
abbrev MX3_layPlaces : ab_M := (yX3_layPlaces, cX3_layPlaces, 4, some .int, 0, 0)
abbrev MX3_noteReplies : ab_M := (yX3_noteReplies, cX3_noteReplies, 4, none, 0, 0)
abbrev MX3_areNoted : ab_M := (yX3_areNoted, cX3_areNoted, 5, some .boolean, 0, 0)
abbrev MX3_nextTable : ab_M := (yX3_nextTable, cX3_nextTable, 4, some .boolean, 0, 0)
abbrev MX11_fitAt : ab_M := (yX11_fitAt, cX11_fitAt, 3, some .int, 0, 0)
abbrev MX11_weighed : ab_M := (yX11_weighed, cX11_weighed, 1, some .long, 0, 0)
abbrev MX5_weighAll : ab_M := (yX5_weighAll, cX5_weighAll, 4, some .long, 0, 0)
abbrev MX5_sortByVoters : ab_M := (yX5_sortByVoters, cX5_sortByVoters, 7, none, 0, 0)
abbrev MX4_votersFor : ab_M := (yX4_votersFor, cX4_votersFor, 4, some .int, 0, 0)
abbrev MX5_takeWeights : ab_M := (yX5_takeWeights, cX5_takeWeights, 5, none, 0, 0)
abbrev MX5_addWeights : ab_M := (yX5_addWeights, cX5_addWeights, 8, none, 0, 0)
abbrev MX5_tryNeeds : ab_M := (yX5_tryNeeds, cX5_tryNeeds, 5, none, 0, 0)
abbrev MX5_lostByNeed : ab_M := (yX5_lostByNeed, cX5_lostByNeed, 6, some .long, 0, 0)
abbrev MX5_keepNeed : ab_M := (yX5_keepNeed, cX5_keepNeed, 6, none, 0, 0)
abbrev MX11_weighedAt : ab_M := (yX11_weighedAt, cX11_weighedAt, 2, some .int, 0, 0)
abbrev MX11_guess : ab_M := (yX11_guess, cX11_guess, 2, some .int, 0, 0)
abbrev MX1_hasVotes : ab_M := (yX1_hasVotes, cX1_hasVotes, 3, some .boolean, 0, 0)
abbrev MX4_votingAs : ab_M := (yX4_votingAs, cX4_votingAs, 5, none, 0, 0)
abbrev MX4_likeliest : ab_M := (yX4_likeliest, cX4_likeliest, 5, some .int, 0, 0)
abbrev MX11_run : ab_M := (yX11_run, cX11_run, 3, some .int, 0, 0)
abbrev MX6_rightOf : ab_M := (yX6_rightOf, cX6_rightOf, 8, some .int, 0, 0)
abbrev MX6_draw : ab_M := (yX6_draw, cX6_draw, 7, some .int, 0, 0)
abbrev ML_parts : ab_M := (yL_parts, cL_parts, 4, some .int, 1, 6)
abbrev MX11_parts : ab_M := (yX11_parts, cX11_parts, 4, some .long, 1, 6)
abbrev ML_comes : ab_M := (yL_comes, cL_comes, 5, some .int, 1, 6)
abbrev MX11_comes : ab_M := (yX11_comes, cX11_comes, 3, some .long, 1, 6)
abbrev ML_knows : ab_M := (yL_knows, cL_knows, 4, some .int, 1, 6)
abbrev MX11_knows : ab_M := (yX11_knows, cX11_knows, 2, some .long, 1, 6)
abbrev MX4_seeing : ab_M := (yX4_seeing, cX4_seeing, 4, none, 0, 0)
abbrev MX4_sumUpBest : ab_M := (yX4_sumUpBest, cX4_sumUpBest, 4, none, 0, 0)
abbrev ML_turns : ab_M := (yL_turns, cL_turns, 5, some .int, 1, 6)
abbrev MX11_turns : ab_M := (yX11_turns, cX11_turns, 3, some .long, 1, 6)
abbrev MX3_countTurns : ab_M := (yX3_countTurns, cX3_countTurns, 7, none, 0, 0)
abbrev MX4_pin : ab_M := (yX4_pin, cX4_pin, 4, none, 0, 0)
abbrev MX3_turnsNow : ab_M := (yX3_turnsNow, cX3_turnsNow, 4, some .boolean, 0, 0)
abbrev ML_think : ab_M := (yL_think, cL_think, 6, some .int, 1, 6)
abbrev MX11_think : ab_M := (yX11_think, cX11_think, 4, some .long, 1, 6)
abbrev ML_bestRule : ab_M := (yL_bestRule, cL_bestRule, 3, some .int, 1, 6)
abbrev MX11_bestRule : ab_M := (yX11_bestRule, cX11_bestRule, 1, some .long, 1, 6)
abbrev ML_minutes : ab_M := (yL_minutes, cL_minutes, 5, some .int, 1, 6)
abbrev MX11_minutes : ab_M := (yX11_minutes, cX11_minutes, 5, some .long, 1, 6)
abbrev MX11_sumOf : ab_M := (yX11_sumOf, cX11_sumOf, 4, some .long, 0, 0)
abbrev ML_shut : ab_M := (yL_shut, cL_shut, 6, some .int, 1, 6)
abbrev MX11_shut : ab_M := (yX11_shut, cX11_shut, 4, some .long, 1, 6)
abbrev ML_many : ab_M := (yL_many, cL_many, 5, some .int, 1, 6)
abbrev MX11_many : ab_M := (yX11_many, cX11_many, 8, some .long, 1, 6)
abbrev MX12_thrown : ab_M := (yX12_thrown, cX12_thrown, 1, some .int, 0, 0)
abbrev MX12_feed : ab_M := (yX12_feed, cX12_feed, 6, some .int, 0, 0)
abbrev MX12_come : ab_M := (yX12_come, cX12_come, 3, none, 0, 0)
abbrev MX12_end : ab_M := (yX12_end, cX12_end, 2, some .boolean, 0, 0)
abbrev MX12_matter : ab_M := (yX12_matter, cX12_matter, 2, some .int, 0, 0)
abbrev MX12_take : ab_M := (yX12_take, cX12_take, 2, some .int, 0, 0)
abbrev MX12_go : ab_M := (yX12_go, cX12_go, 5, none, 0, 0)
abbrev MX12_isLetter : ab_M := (yX12_isLetter, cX12_isLetter, 1, some .boolean, 0, 0)
abbrev MX12_isDigit : ab_M := (yX12_isDigit, cX12_isDigit, 1, some .boolean, 0, 0)
abbrev MX12_byteAt : ab_M := (yX12_byteAt, cX12_byteAt, 2, some .int, 0, 0)
abbrev MX12_readLine : ab_M := (yX12_readLine, cX12_readLine, 4, some .boolean, 0, 0)
abbrev MX12_lineAtHand : ab_M := (yX12_lineAtHand, cX12_lineAtHand, 1, some .int, 0, 0)
abbrev MX12_spelt : ab_M := (yX12_spelt, cX12_spelt, 7, some .long, 0, 0)
abbrev MX12_isKey : ab_M := (yX12_isKey, cX12_isKey, 3, some .boolean, 0, 0)
abbrev MX12_six : ab_M := (yX12_six, cX12_six, 6, some .long, 0, 0)
abbrev MX12_bad : ab_M := (yX12_bad, cX12_bad, 2, some .boolean, 0, 0)
abbrev MX12_areTruths : ab_M := (yX12_areTruths, cX12_areTruths, 3, some .boolean, 0, 0)
abbrev MX12_readTruthLine : ab_M := (yX12_readTruthLine, cX12_readTruthLine, 1, some .boolean, 0, 0)
abbrev MX12_readNew : ab_M := (yX12_readNew, cX12_readNew, 1, some .boolean, 0, 0)
abbrev MX12_isName : ab_M := (yX12_isName, cX12_isName, 1, some .boolean, 0, 0)
abbrev MX12_wayAtHand : ab_M := (yX12_wayAtHand, cX12_wayAtHand, 1, some .int, 0, 0)
abbrev MX12_none : ab_M := (yX12_none, cX12_none, 0, some .long, 0, 0)
abbrev MX12_chair : ab_M := (yX12_chair, cX12_chair, 0, some .long, 0, 0)
abbrev MX12_other : ab_M := (yX12_other, cX12_other, 0, some .long, 0, 0)
abbrev MX12_findTruth : ab_M := (yX12_findTruth, cX12_findTruth, 2, some .int, 0, 0)
abbrev MX12_findVoter : ab_M := (yX12_findVoter, cX12_findVoter, 2, some .int, 0, 0)
abbrev MX12_readNumber : ab_M := (yX12_readNumber, cX12_readNumber, 3, some .boolean, 0, 0)
abbrev MX12_isIn : ab_M := (yX12_isIn, cX12_isIn, 3, some .boolean, 0, 0)
abbrev MX12_readVoterLine : ab_M := (yX12_readVoterLine, cX12_readVoterLine, 5, some .boolean, 0, 0)
abbrev MX12_readKey : ab_M := (yX12_readKey, cX12_readKey, 3, some .boolean, 0, 0)
abbrev MX12_readLoss : ab_M := (yX12_readLoss, cX12_readLoss, 4, some .boolean, 0, 0)
abbrev MX12_readTruth : ab_M := (yX12_readTruth, cX12_readTruth, 1, some .boolean, 0, 0)
abbrev MX12_readWay : ab_M := (yX12_readWay, cX12_readWay, 4, some .boolean, 0, 0)
abbrev MX12_readVoter : ab_M := (yX12_readVoter, cX12_readVoter, 1, some .boolean, 0, 0)
abbrev MX12_readRule : ab_M := (yX12_readRule, cX12_readRule, 2, some .boolean, 0, 0)
abbrev MX12_keep : ab_M := (yX12_keep, cX12_keep, 2, none, 0, 0)
abbrev MX12_layRows : ab_M := (yX12_layRows, cX12_layRows, 6, none, 0, 0)
abbrev MX12_sign : ab_M := (yX12_sign, cX12_sign, 3, some .int, 0, 0)
abbrev MX12_layVotes : ab_M := (yX12_layVotes, cX12_layVotes, 3, none, 0, 0)
abbrev MX12_told : ab_M := (yX12_told, cX12_told, 7, some .int, 0, 0)
abbrev MX12_honest : ab_M := (yX12_honest, cX12_honest, 3, some .int, 0, 0)
abbrev MX12_losing : ab_M := (yX12_losing, cX12_losing, 7, some .long, 0, 0)
abbrev MX12_weightOf : ab_M := (yX12_weightOf, cX12_weightOf, 4, some .long, 0, 0)
abbrev MX12_loss : ab_M := (yX12_loss, cX12_loss, 6, some .int, 0, 0)
abbrev MX12_least : ab_M := (yX12_least, cX12_least, 8, some .int, 0, 0)
abbrev MX12_fault : ab_M := (yX12_fault, cX12_fault, 1, some .int, 0, 0)
abbrev MX12_count : ab_M := (yX12_count, cX12_count, 2, some .int, 0, 0)
abbrev MX12_signs : ab_M := (yX12_signs, cX12_signs, 2, some .int, 0, 0)
abbrev MX12_isVoter : ab_M := (yX12_isVoter, cX12_isVoter, 2, some .boolean, 0, 0)
abbrev MX12_parts : ab_M := (yX12_parts, cX12_parts, 3, some .long, 0, 0)
abbrev MX12_rowTold : ab_M := (yX12_rowTold, cX12_rowTold, 3, some .int, 0, 0)
abbrev MX12_isTruth : ab_M := (yX12_isTruth, cX12_isTruth, 2, some .boolean, 0, 0)
abbrev MX12_refuse : ab_M := (yX12_refuse, cX12_refuse, 1, some .long, 0, 0)
abbrev MX12_all : ab_M := (yX12_all, cX12_all, 4, some .long, 0, 0)
abbrev MX12_vote : ab_M := (yX12_vote, cX12_vote, 3, some .int, 0, 0)
abbrev MX12_isSign : ab_M := (yX12_isSign, cX12_isSign, 3, some .boolean, 0, 0)
abbrev MX12_decided : ab_M := (yX12_decided, cX12_decided, 2, some .int, 0, 0)
abbrev MX12_decideRow : ab_M := (yX12_decideRow, cX12_decideRow, 4, some .int, 0, 0)
abbrev MX12_decide : ab_M := (yX12_decide, cX12_decide, 3, some .int, 0, 0)
abbrev MX12_right : ab_M := (yX12_right, cX12_right, 1, some .long, 0, 0)
abbrev MX12_rightBy : ab_M := (yX12_rightBy, cX12_rightBy, 5, some .long, 0, 0)
abbrev MX12_lost : ab_M := (yX12_lost, cX12_lost, 1, some .long, 0, 0)
abbrev MX12_lostBy : ab_M := (yX12_lostBy, cX12_lostBy, 7, some .long, 0, 0)
abbrev MX12_comes : ab_M := (yX12_comes, cX12_comes, 6, some .long, 0, 0)
abbrev MX12_known : ab_M := (yX12_known, cX12_known, 2, some .int, 0, 0)
abbrev MX12_knownAt : ab_M := (yX12_knownAt, cX12_knownAt, 2, some .int, 0, 0)
abbrev MX12_commonly : ab_M := (yX12_commonly, cX12_commonly, 6, some .long, 0, 0)
abbrev MX12_knows : ab_M := (yX12_knows, cX12_knows, 5, some .long, 0, 0)
abbrev MX12_turns : ab_M := (yX12_turns, cX12_turns, 6, some .long, 0, 0)
abbrev MX12_turned : ab_M := (yX12_turned, cX12_turned, 7, some .long, 0, 0)
abbrev MX12_isTurned : ab_M := (yX12_isTurned, cX12_isTurned, 5, some .boolean, 0, 0)
abbrev MX12_decideWith : ab_M := (yX12_decideWith, cX12_decideWith, 5, some .int, 0, 0)
abbrev MX12_think : ab_M := (yX12_think, cX12_think, 4, some .long, 0, 0)
abbrev MX12_reply : ab_M := (yX12_reply, cX12_reply, 3, some .int, 0, 0)
abbrev MX12_replyBy : ab_M := (yX12_replyBy, cX12_replyBy, 8, some .int, 0, 0)
abbrev MX12_fit : ab_M := (yX12_fit, cX12_fit, 1, some .int, 0, 0)
abbrev MX12_isFitBy : ab_M := (yX12_isFitBy, cX12_isFitBy, 4, some .boolean, 0, 0)
abbrev MX12_settle : ab_M := (yX12_settle, cX12_settle, 5, some .int, 0, 0)
abbrev MX12_tryTold : ab_M := (yX12_tryTold, cX12_tryTold, 2, none, 0, 0)
abbrev MX12_settled : ab_M := (yX12_settled, cX12_settled, 3, some .int, 0, 0)
abbrev MX12_settles : ab_M := (yX12_settles, cX12_settles, 2, some .long, 0, 0)
abbrev MX12_inTurns : ab_M := (yX12_inTurns, cX12_inTurns, 8, some .long, 0, 0)
abbrev MX12_speak : ab_M := (yX12_speak, cX12_speak, 10, none, 0, 0)
abbrev MX12_speakRow : ab_M := (yX12_speakRow, cX12_speakRow, 5, some .int, 0, 0)
abbrev MX12_cliffOfSaid : ab_M := (yX12_cliffOfSaid, cX12_cliffOfSaid, 3, some .int, 0, 0)
abbrev MX12_lostInTurns : ab_M := (yX12_lostInTurns, cX12_lostInTurns, 4, some .long, 0, 0)
abbrev MX12_herd : ab_M := (yX12_herd, cX12_herd, 2, some .long, 0, 0)
abbrev MX12_says : ab_M := (yX12_says, cX12_says, 3, some .int, 0, 0)
abbrev MX12_speakTold : ab_M := (yX12_speakTold, cX12_speakTold, 4, some .boolean, 0, 0)
abbrev MX12_cliff : ab_M := (yX12_cliff, cX12_cliff, 1, some .int, 0, 0)
abbrev MX12_bestOrder : ab_M := (yX12_bestOrder, cX12_bestOrder, 8, some .int, 0, 0)
abbrev MX12_goOn : ab_M := (yX12_goOn, cX12_goOn, 5, some .boolean, 0, 0)
abbrev MX12_exchange : ab_M := (yX12_exchange, cX12_exchange, 4, none, 0, 0)
abbrev MX12_bestRule : ab_M := (yX12_bestRule, cX12_bestRule, 4, some .long, 0, 0)
abbrev MX12_layByVotes : ab_M := (yX12_layByVotes, cX12_layByVotes, 4, none, 0, 0)
abbrev MX12_votesOf : ab_M := (yX12_votesOf, cX12_votesOf, 5, some .int, 0, 0)
abbrev MX12_bar : ab_M := (yX12_bar, cX12_bar, 7, some .int, 0, 0)
abbrev MX12_layByWeight : ab_M := (yX12_layByWeight, cX12_layByWeight, 7, none, 0, 0)
abbrev MX12_lostByNeed : ab_M := (yX12_lostByNeed, cX12_lostByNeed, 8, some .long, 0, 0)
abbrev MX12_barLost : ab_M := (yX12_barLost, cX12_barLost, 1, some .long, 0, 0)
abbrev MX12_weighed : ab_M := (yX12_weighed, cX12_weighed, 13, some .long, 0, 0)
abbrev MX12_weighedAt : ab_M := (yX12_weighedAt, cX12_weighedAt, 2, some .int, 0, 0)
abbrev MX12_silent : ab_M := (yX12_silent, cX12_silent, 7, some .int, 0, 0)
abbrev MX12_lostWithout : ab_M := (yX12_lostWithout, cX12_lostWithout, 3, some .long, 0, 0)
abbrev MX12_silence : ab_M := (yX12_silence, cX12_silence, 3, none, 0, 0)
abbrev MX12_helps : ab_M := (yX12_helps, cX12_helps, 4, some .int, 0, 0)
abbrev MX12_believed : ab_M := (yX12_believed, cX12_believed, 10, some .int, 0, 0)
abbrev MX12_wordOf : ab_M := (yX12_wordOf, cX12_wordOf, 3, some .int, 0, 0)
abbrev MX12_both : ab_M := (yX12_both, cX12_both, 6, some .long, 0, 0)
abbrev MX12_lostByWord : ab_M := (yX12_lostByWord, cX12_lostByWord, 9, some .long, 0, 0)
abbrev MX12_minutes : ab_M := (yX12_minutes, cX12_minutes, 6, some .long, 0, 0)
abbrev MX12_areVotesTold : ab_M := (yX12_areVotesTold, cX12_areVotesTold, 2, some .boolean, 0, 0)
abbrev MX12_votesAsTold : ab_M := (yX12_votesAsTold, cX12_votesAsTold, 3, some .boolean, 0, 0)
abbrev MX12_allOf : ab_M := (yX12_allOf, cX12_allOf, 5, some .long, 0, 0)
abbrev MX12_shut : ab_M := (yX12_shut, cX12_shut, 7, some .long, 0, 0)
abbrev MX12_guess : ab_M := (yX12_guess, cX12_guess, 4, some .int, 0, 0)
abbrev MX12_fits : ab_M := (yX12_fits, cX12_fits, 11, some .int, 0, 0)
abbrev MX12_fitAt : ab_M := (yX12_fitAt, cX12_fitAt, 3, some .int, 0, 0)
abbrev MX12_many : ab_M := (yX12_many, cX12_many, 9, some .long, 0, 0)
abbrev MX12_run : ab_M := (yX12_run, cX12_run, 9, some .int, 0, 0)
abbrev MX12_draw : ab_M := (yX12_draw, cX12_draw, 1, some .int, 0, 0)
theorem cn_RX11 : RX11 ≠ "java/lang/invoke/MethodHandle" ∧ RX11 ≠ "java/lang/invoke/VarHandle" ∧ plainName RX11 = true ∧ RX11 ≠ RL := by decide +kernel
theorem cn_RX0 : RX0 ≠ "java/lang/invoke/MethodHandle" ∧ RX0 ≠ "java/lang/invoke/VarHandle" ∧ plainName RX0 = true ∧ RX0 ≠ RL := by decide +kernel
theorem cn_RX1 : RX1 ≠ "java/lang/invoke/MethodHandle" ∧ RX1 ≠ "java/lang/invoke/VarHandle" ∧ plainName RX1 = true ∧ RX1 ≠ RL := by decide +kernel
theorem cn_RX2 : RX2 ≠ "java/lang/invoke/MethodHandle" ∧ RX2 ≠ "java/lang/invoke/VarHandle" ∧ plainName RX2 = true ∧ RX2 ≠ RL := by decide +kernel
theorem cn_RX3 : RX3 ≠ "java/lang/invoke/MethodHandle" ∧ RX3 ≠ "java/lang/invoke/VarHandle" ∧ plainName RX3 = true ∧ RX3 ≠ RL := by decide +kernel
theorem cn_RX4 : RX4 ≠ "java/lang/invoke/MethodHandle" ∧ RX4 ≠ "java/lang/invoke/VarHandle" ∧ plainName RX4 = true ∧ RX4 ≠ RL := by decide +kernel
theorem cn_RX5 : RX5 ≠ "java/lang/invoke/MethodHandle" ∧ RX5 ≠ "java/lang/invoke/VarHandle" ∧ plainName RX5 = true ∧ RX5 ≠ RL := by decide +kernel
theorem cn_RX6 : RX6 ≠ "java/lang/invoke/MethodHandle" ∧ RX6 ≠ "java/lang/invoke/VarHandle" ∧ plainName RX6 = true ∧ RX6 ≠ RL := by decide +kernel
theorem cn_RX7 : RX7 ≠ "java/lang/invoke/MethodHandle" ∧ RX7 ≠ "java/lang/invoke/VarHandle" ∧ plainName RX7 = true ∧ RX7 ≠ RL := by decide +kernel
theorem cn_RX8 : RX8 ≠ "java/lang/invoke/MethodHandle" ∧ RX8 ≠ "java/lang/invoke/VarHandle" ∧ plainName RX8 = true ∧ RX8 ≠ RL := by decide +kernel
theorem cn_RX9 : RX9 ≠ "java/lang/invoke/MethodHandle" ∧ RX9 ≠ "java/lang/invoke/VarHandle" ∧ plainName RX9 = true ∧ RX9 ≠ RL := by decide +kernel
theorem cn_RX10 : RX10 ≠ "java/lang/invoke/MethodHandle" ∧ RX10 ≠ "java/lang/invoke/VarHandle" ∧ plainName RX10 = true ∧ RX10 ≠ RL := by decide +kernel
theorem cn_RX12 : RX12 ≠ "java/lang/invoke/MethodHandle" ∧ RX12 ≠ "java/lang/invoke/VarHandle" ∧ plainName RX12 = true ∧ RX12 ≠ RL := by decide +kernel
theorem pd_0 : (parseMethodDescriptor "()I").map (fun z => z.parameters.length) = some 0 := by decide +kernel
theorem pd_1 : (parseMethodDescriptor "()J").map (fun z => z.parameters.length) = some 0 := by decide +kernel
theorem pd_2 : (parseMethodDescriptor "()LLongTable$Matter;").map (fun z => z.parameters.length) = some 0 := by decide +kernel
theorem pd_3 : (parseMethodDescriptor "()V").map (fun z => z.parameters.length) = some 0 := by decide +kernel
theorem pd_4 : (parseMethodDescriptor "()Z").map (fun z => z.parameters.length) = some 0 := by decide +kernel
theorem pd_5 : (parseMethodDescriptor "(I)I").map (fun z => z.parameters.length) = some 1 := by decide +kernel
theorem pd_6 : (parseMethodDescriptor "(I)J").map (fun z => z.parameters.length) = some 1 := by decide +kernel
theorem pd_7 : (parseMethodDescriptor "(I)V").map (fun z => z.parameters.length) = some 1 := by decide +kernel
theorem pd_8 : (parseMethodDescriptor "(I)Z").map (fun z => z.parameters.length) = some 1 := by decide +kernel
theorem pd_9 : (parseMethodDescriptor "(II)I").map (fun z => z.parameters.length) = some 2 := by decide +kernel
theorem pd_10 : (parseMethodDescriptor "(II)J").map (fun z => z.parameters.length) = some 2 := by decide +kernel
theorem pd_11 : (parseMethodDescriptor "(II)V").map (fun z => z.parameters.length) = some 2 := by decide +kernel
theorem pd_12 : (parseMethodDescriptor "(II)Z").map (fun z => z.parameters.length) = some 2 := by decide +kernel
theorem pd_13 : (parseMethodDescriptor "(III)I").map (fun z => z.parameters.length) = some 3 := by decide +kernel
theorem pd_14 : (parseMethodDescriptor "(III)J").map (fun z => z.parameters.length) = some 3 := by decide +kernel
theorem pd_15 : (parseMethodDescriptor "(III)V").map (fun z => z.parameters.length) = some 3 := by decide +kernel
theorem pd_16 : (parseMethodDescriptor "(III)Z").map (fun z => z.parameters.length) = some 3 := by decide +kernel
theorem pd_17 : (parseMethodDescriptor "(IIII)J").map (fun z => z.parameters.length) = some 4 := by decide +kernel
theorem pd_18 : (parseMethodDescriptor "(IIII)V").map (fun z => z.parameters.length) = some 4 := by decide +kernel
theorem pd_19 : (parseMethodDescriptor "(IIIII)I").map (fun z => z.parameters.length) = some 5 := by decide +kernel
theorem pd_20 : (parseMethodDescriptor "(IIIII)J").map (fun z => z.parameters.length) = some 5 := by decide +kernel
theorem pd_21 : (parseMethodDescriptor "(IIIIII)J").map (fun z => z.parameters.length) = some 6 := by decide +kernel
theorem pd_22 : (parseMethodDescriptor "(ILLongTable$Voter;I)Z").map (fun z => z.parameters.length) = some 3 := by decide +kernel
theorem pd_23 : (parseMethodDescriptor "(I[I)I").map (fun z => z.parameters.length) = some 2 := by decide +kernel
theorem pd_24 : (parseMethodDescriptor "(I[I)J").map (fun z => z.parameters.length) = some 2 := by decide +kernel
theorem pd_25 : (parseMethodDescriptor "(I[II)V").map (fun z => z.parameters.length) = some 3 := by decide +kernel
theorem pd_26 : (parseMethodDescriptor "(I[JI)I").map (fun z => z.parameters.length) = some 3 := by decide +kernel
theorem pd_27 : (parseMethodDescriptor "(I[JI)J").map (fun z => z.parameters.length) = some 3 := by decide +kernel
theorem pd_28 : (parseMethodDescriptor "(J)Z").map (fun z => z.parameters.length) = some 1 := by decide +kernel
theorem pd_29 : (parseMethodDescriptor "(JJJ)I").map (fun z => z.parameters.length) = some 3 := by decide +kernel
theorem pd_30 : (parseMethodDescriptor "(LLongTable$Losses;)V").map (fun z => z.parameters.length) = some 1 := by decide +kernel
theorem pd_31 : (parseMethodDescriptor "(LLongTable$Matter;)I").map (fun z => z.parameters.length) = some 1 := by decide +kernel
theorem pd_32 : (parseMethodDescriptor "(LLongTable$Matter;)J").map (fun z => z.parameters.length) = some 1 := by decide +kernel
theorem pd_33 : (parseMethodDescriptor "(LLongTable$Matter;)V").map (fun z => z.parameters.length) = some 1 := by decide +kernel
theorem pd_34 : (parseMethodDescriptor "(LLongTable$Matter;)Z").map (fun z => z.parameters.length) = some 1 := by decide +kernel
theorem pd_35 : (parseMethodDescriptor "(LLongTable$Matter;II)I").map (fun z => z.parameters.length) = some 3 := by decide +kernel
theorem pd_36 : (parseMethodDescriptor "(LLongTable$Matter;II)V").map (fun z => z.parameters.length) = some 3 := by decide +kernel
theorem pd_37 : (parseMethodDescriptor "(LLongTable$Matter;III)Z").map (fun z => z.parameters.length) = some 4 := by decide +kernel
theorem pd_38 : (parseMethodDescriptor "(LLongTable$Matter;[I)V").map (fun z => z.parameters.length) = some 2 := by decide +kernel
theorem pd_39 : (parseMethodDescriptor "(LLongTable$Matter;[I)Z").map (fun z => z.parameters.length) = some 2 := by decide +kernel
theorem pd_40 : (parseMethodDescriptor "(LLongTable$Matter;[II)V").map (fun z => z.parameters.length) = some 3 := by decide +kernel
theorem pd_41 : (parseMethodDescriptor "(LLongTable$Tape;)Z").map (fun z => z.parameters.length) = some 1 := by decide +kernel
theorem pd_42 : (parseMethodDescriptor "(LLongTable$Voter;)Z").map (fun z => z.parameters.length) = some 1 := by decide +kernel
theorem pd_43 : (parseMethodDescriptor "(LLongTable$Voter;I)I").map (fun z => z.parameters.length) = some 2 := by decide +kernel
theorem pd_44 : (parseMethodDescriptor "(LLongTable;III[J)I").map (fun z => z.parameters.length) = some 5 := by decide +kernel
theorem pd_45 : (parseMethodDescriptor "(LLongTable;II[J)I").map (fun z => z.parameters.length) = some 4 := by decide +kernel
theorem pd_46 : (parseMethodDescriptor "(LLongTable;I[J)I").map (fun z => z.parameters.length) = some 3 := by decide +kernel
theorem pd_47 : (parseMethodDescriptor "(LLongTable;[J)I").map (fun z => z.parameters.length) = some 2 := by decide +kernel
theorem pd_48 : (parseMethodDescriptor "([I)I").map (fun z => z.parameters.length) = some 1 := by decide +kernel
theorem pd_49 : (parseMethodDescriptor "([II)I").map (fun z => z.parameters.length) = some 2 := by decide +kernel
theorem pd_50 : (parseMethodDescriptor "([III)I").map (fun z => z.parameters.length) = some 3 := by decide +kernel
theorem pd_51 : (parseMethodDescriptor "([III)V").map (fun z => z.parameters.length) = some 3 := by decide +kernel
theorem pd_52 : (parseMethodDescriptor "([J)J").map (fun z => z.parameters.length) = some 1 := by decide +kernel
theorem pd_53 : (parseMethodDescriptor "([J)V").map (fun z => z.parameters.length) = some 1 := by decide +kernel
theorem pd_54 : (parseMethodDescriptor "([JI)V").map (fun z => z.parameters.length) = some 2 := by decide +kernel
theorem okMX11_feed : ab_okV MX11_feed 5 := ⟨⟨wd_138, wd_525, ⟨cn_RX11.1, cn_RX11.2.1, pd_19⟩, Nat.le_of_ble_eq_true rfl, cn_RX11.2.2.1, if_neg fun q => cn_RX11.2.2.2 q.1⟩, wd_523, wd_524⟩
theorem okMX7_take : ab_okV MX7_take 5 := ⟨⟨wd_139, wd_529, ⟨cn_RX7.1, cn_RX7.2.1, pd_19⟩, Nat.le_of_ble_eq_true rfl, cn_RX7.2.2.1, if_neg fun q => cn_RX7.2.2.2 q.1⟩, wd_527, wd_528⟩
theorem okMX7_add : ab_okV MX7_add 1 := ⟨⟨wd_139, wd_532, ⟨cn_RX7.1, cn_RX7.2.1, pd_7⟩, Nat.le_of_ble_eq_true rfl, cn_RX7.2.2.1, if_neg fun q => cn_RX7.2.2.2 q.1⟩, wd_531, wd_0⟩
theorem okMX11_end : ab_okV MX11_end 1 := ⟨⟨wd_138, wd_536, ⟨cn_RX11.1, cn_RX11.2.1, pd_8⟩, Nat.le_of_ble_eq_true rfl, cn_RX11.2.2.1, if_neg fun q => cn_RX11.2.2.2 q.1⟩, wd_534, wd_535⟩
theorem okMX7_cut : ab_okV MX7_cut 1 := ⟨⟨wd_139, wd_540, ⟨cn_RX7.1, cn_RX7.2.1, pd_8⟩, Nat.le_of_ble_eq_true rfl, cn_RX7.2.2.1, if_neg fun q => cn_RX7.2.2.2 q.1⟩, wd_538, wd_539⟩
theorem okMX11_matter : ab_okV MX11_matter 0 := ⟨⟨wd_138, wd_544, ⟨cn_RX11.1, cn_RX11.2.1, pd_0⟩, Nat.le_of_ble_eq_true rfl, cn_RX11.2.2.1, if_neg fun q => cn_RX11.2.2.2 q.1⟩, wd_542, wd_543⟩
theorem okMX11_spareMatter : ab_okV MX11_spareMatter 0 := ⟨⟨wd_138, wd_547, ⟨cn_RX11.1, cn_RX11.2.1, pd_2⟩, Nat.le_of_ble_eq_true rfl, cn_RX11.2.2.1, if_neg fun q => cn_RX11.2.2.2 q.1⟩, wd_546, wd_1⟩
theorem okMX2_read : ab_okV MX2_read 1 := ⟨⟨wd_143, wd_551, ⟨cn_RX2.1, cn_RX2.2.1, pd_31⟩, Nat.le_of_ble_eq_true rfl, cn_RX2.2.2.1, if_neg fun q => cn_RX2.2.2.2 q.1⟩, wd_549, wd_550⟩
theorem okMX1_begin : ab_okV MX1_begin 0 := ⟨⟨wd_140, wd_555, ⟨cn_RX1.1, cn_RX1.2.1, pd_3⟩, Nat.le_of_ble_eq_true rfl, cn_RX1.2.2.1, if_neg fun q => cn_RX1.2.2.2 q.1⟩, wd_553, wd_554⟩
theorem okMX0_becomePlain : ab_okV MX0_becomePlain 0 := ⟨⟨wd_141, wd_559, ⟨cn_RX0.1, cn_RX0.2.1, pd_3⟩, Nat.le_of_ble_eq_true rfl, cn_RX0.2.2.1, if_neg fun q => cn_RX0.2.2.2 q.1⟩, wd_557, wd_558⟩
theorem okMX2_next : ab_okV MX2_next 0 := ⟨⟨wd_143, wd_562, ⟨cn_RX2.1, cn_RX2.2.1, pd_3⟩, Nat.le_of_ble_eq_true rfl, cn_RX2.2.2.1, if_neg fun q => cn_RX2.2.2.2 q.1⟩, wd_561, wd_2⟩
theorem okMX2_isBlank : ab_okS MX2_isBlank 1 := ⟨⟨wd_143, wd_565, ⟨cn_RX2.1, cn_RX2.2.1, pd_8⟩, Nat.le_of_ble_eq_true rfl, cn_RX2.2.2.1, if_neg fun q => cn_RX2.2.2.2 q.1⟩, wd_564⟩
theorem okMX2_nextRun : ab_okV MX2_nextRun 0 := ⟨⟨wd_143, wd_571, ⟨cn_RX2.1, cn_RX2.2.1, pd_3⟩, Nat.le_of_ble_eq_true rfl, cn_RX2.2.2.1, if_neg fun q => cn_RX2.2.2.2 q.1⟩, wd_570, wd_3⟩
theorem okMX2_readLine : ab_okV MX2_readLine 0 := ⟨⟨wd_143, wd_575, ⟨cn_RX2.1, cn_RX2.2.1, pd_4⟩, Nat.le_of_ble_eq_true rfl, cn_RX2.2.2.1, if_neg fun q => cn_RX2.2.2.2 q.1⟩, wd_574, wd_4⟩
theorem okMX2_fail : ab_okV MX2_fail 1 := ⟨⟨wd_143, wd_578, ⟨cn_RX2.1, cn_RX2.2.1, pd_8⟩, Nat.le_of_ble_eq_true rfl, cn_RX2.2.2.1, if_neg fun q => cn_RX2.2.2.2 q.1⟩, wd_577, wd_5⟩
theorem okMX2_readTruth : ab_okV MX2_readTruth 0 := ⟨⟨wd_143, wd_581, ⟨cn_RX2.1, cn_RX2.2.1, pd_4⟩, Nat.le_of_ble_eq_true rfl, cn_RX2.2.2.1, if_neg fun q => cn_RX2.2.2.2 q.1⟩, wd_580, wd_6⟩
theorem okMX2_someName : ab_okV MX2_someName 1 := ⟨⟨wd_143, wd_584, ⟨cn_RX2.1, cn_RX2.2.1, pd_8⟩, Nat.le_of_ble_eq_true rfl, cn_RX2.2.2.1, if_neg fun q => cn_RX2.2.2.2 q.1⟩, wd_583, wd_7⟩
theorem okMX2_isName : ab_okV MX2_isName 1 := ⟨⟨wd_143, wd_587, ⟨cn_RX2.1, cn_RX2.2.1, pd_8⟩, Nat.le_of_ble_eq_true rfl, cn_RX2.2.2.1, if_neg fun q => cn_RX2.2.2.2 q.1⟩, wd_586, wd_8⟩
theorem okMX2_someNumber : ab_okV MX2_someNumber 2 := ⟨⟨wd_143, wd_590, ⟨cn_RX2.1, cn_RX2.2.1, pd_12⟩, Nat.le_of_ble_eq_true rfl, cn_RX2.2.2.1, if_neg fun q => cn_RX2.2.2.2 q.1⟩, wd_589, wd_9⟩
theorem okMX2_stop : ab_okV MX2_stop 0 := ⟨⟨wd_143, wd_593, ⟨cn_RX2.1, cn_RX2.2.1, pd_4⟩, Nat.le_of_ble_eq_true rfl, cn_RX2.2.2.1, if_neg fun q => cn_RX2.2.2.2 q.1⟩, wd_592, wd_10⟩
theorem okMX2_truthsStand : ab_okV MX2_truthsStand 0 := ⟨⟨wd_143, wd_596, ⟨cn_RX2.1, cn_RX2.2.1, pd_4⟩, Nat.le_of_ble_eq_true rfl, cn_RX2.2.2.1, if_neg fun q => cn_RX2.2.2.2 q.1⟩, wd_595, wd_11⟩
theorem okMX2_readVoter : ab_okV MX2_readVoter 0 := ⟨⟨wd_143, wd_599, ⟨cn_RX2.1, cn_RX2.2.1, pd_4⟩, Nat.le_of_ble_eq_true rfl, cn_RX2.2.2.1, if_neg fun q => cn_RX2.2.2.2 q.1⟩, wd_598, wd_12⟩
theorem okMX2_someKeyword : ab_okV MX2_someKeyword 1 := ⟨⟨wd_143, wd_602, ⟨cn_RX2.1, cn_RX2.2.1, pd_8⟩, Nat.le_of_ble_eq_true rfl, cn_RX2.2.2.1, if_neg fun q => cn_RX2.2.2.2 q.1⟩, wd_601, wd_13⟩
theorem okMX9_begin : ab_okV MX9_begin 1 := ⟨⟨wd_142, wd_606, ⟨cn_RX9.1, cn_RX9.2.1, pd_7⟩, Nat.le_of_ble_eq_true rfl, cn_RX9.2.2.1, if_neg fun q => cn_RX9.2.2.2 q.1⟩, wd_604, wd_605⟩
theorem okMX2_readLoss : ab_okV MX2_readLoss 0 := ⟨⟨wd_143, wd_609, ⟨cn_RX2.1, cn_RX2.2.1, pd_4⟩, Nat.le_of_ble_eq_true rfl, cn_RX2.2.2.1, if_neg fun q => cn_RX2.2.2.2 q.1⟩, wd_608, wd_14⟩
theorem okMX2_readWay : ab_okV MX2_readWay 0 := ⟨⟨wd_143, wd_612, ⟨cn_RX2.1, cn_RX2.2.1, pd_4⟩, Nat.le_of_ble_eq_true rfl, cn_RX2.2.2.1, if_neg fun q => cn_RX2.2.2.2 q.1⟩, wd_611, wd_15⟩
theorem okMX2_readSet : ab_okV MX2_readSet 1 := ⟨⟨wd_143, wd_615, ⟨cn_RX2.1, cn_RX2.2.1, pd_42⟩, Nat.le_of_ble_eq_true rfl, cn_RX2.2.2.1, if_neg fun q => cn_RX2.2.2.2 q.1⟩, wd_614, wd_16⟩
theorem okMX2_readWeight : ab_okV MX2_readWeight 0 := ⟨⟨wd_143, wd_618, ⟨cn_RX2.1, cn_RX2.2.1, pd_4⟩, Nat.le_of_ble_eq_true rfl, cn_RX2.2.2.1, if_neg fun q => cn_RX2.2.2.2 q.1⟩, wd_617, wd_17⟩
theorem okMX2_readNeed : ab_okV MX2_readNeed 0 := ⟨⟨wd_143, wd_621, ⟨cn_RX2.1, cn_RX2.2.1, pd_4⟩, Nat.le_of_ble_eq_true rfl, cn_RX2.2.2.1, if_neg fun q => cn_RX2.2.2.2 q.1⟩, wd_620, wd_18⟩
theorem okMX2_readMost : ab_okV MX2_readMost 0 := ⟨⟨wd_143, wd_624, ⟨cn_RX2.1, cn_RX2.2.1, pd_4⟩, Nat.le_of_ble_eq_true rfl, cn_RX2.2.2.1, if_neg fun q => cn_RX2.2.2.2 q.1⟩, wd_623, wd_19⟩
theorem okMX1_isEmpty : ab_okV MX1_isEmpty 0 := ⟨⟨wd_140, wd_628, ⟨cn_RX1.1, cn_RX1.2.1, pd_4⟩, Nat.le_of_ble_eq_true rfl, cn_RX1.2.2.1, if_neg fun q => cn_RX1.2.2.2 q.1⟩, wd_626, wd_627⟩
theorem okMX1_finish : ab_okV MX1_finish 0 := ⟨⟨wd_140, wd_632, ⟨cn_RX1.1, cn_RX1.2.1, pd_3⟩, Nat.le_of_ble_eq_true rfl, cn_RX1.2.2.1, if_neg fun q => cn_RX1.2.2.2 q.1⟩, wd_630, wd_631⟩
theorem okMX9_fillLosses : ab_okV MX9_fillLosses 1 := ⟨⟨wd_142, wd_636, ⟨cn_RX9.1, cn_RX9.2.1, pd_30⟩, Nat.le_of_ble_eq_true rfl, cn_RX9.2.2.1, if_neg fun q => cn_RX9.2.2.2 q.1⟩, wd_634, wd_635⟩
theorem okMX1_voteOf : ab_okV MX1_voteOf 2 := ⟨⟨wd_140, wd_639, ⟨cn_RX1.1, cn_RX1.2.1, pd_43⟩, Nat.le_of_ble_eq_true rfl, cn_RX1.2.2.1, if_neg fun q => cn_RX1.2.2.2 q.1⟩, wd_638, wd_20⟩
theorem okMX9_likeliest : ab_okV MX9_likeliest 2 := ⟨⟨wd_142, wd_643, ⟨cn_RX9.1, cn_RX9.2.1, pd_9⟩, Nat.le_of_ble_eq_true rfl, cn_RX9.2.2.1, if_neg fun q => cn_RX9.2.2.2 q.1⟩, wd_641, wd_642⟩
theorem okMX1_shyVote : ab_okV MX1_shyVote 2 := ⟨⟨wd_140, wd_646, ⟨cn_RX1.1, cn_RX1.2.1, pd_43⟩, Nat.le_of_ble_eq_true rfl, cn_RX1.2.2.1, if_neg fun q => cn_RX1.2.2.2 q.1⟩, wd_645, wd_21⟩
theorem okMX1_honestVote : ab_okV MX1_honestVote 2 := ⟨⟨wd_140, wd_649, ⟨cn_RX1.1, cn_RX1.2.1, pd_43⟩, Nat.le_of_ble_eq_true rfl, cn_RX1.2.2.1, if_neg fun q => cn_RX1.2.2.2 q.1⟩, wd_648, wd_22⟩
theorem okMX0_leastOf : ab_okV MX0_leastOf 3 := ⟨⟨wd_141, wd_653, ⟨cn_RX0.1, cn_RX0.2.1, pd_26⟩, Nat.le_of_ble_eq_true rfl, cn_RX0.2.2.1, if_neg fun q => cn_RX0.2.2.2 q.1⟩, wd_651, wd_652⟩
theorem okMX0_lostAt : ab_okV MX0_lostAt 3 := ⟨⟨wd_141, wd_657, ⟨cn_RX0.1, cn_RX0.2.1, pd_27⟩, Nat.le_of_ble_eq_true rfl, cn_RX0.2.2.1, if_neg fun q => cn_RX0.2.2.2 q.1⟩, wd_655, wd_656⟩
theorem okMX7_clear : ab_okV MX7_clear 0 := ⟨⟨wd_139, wd_662, ⟨cn_RX7.1, cn_RX7.2.1, pd_3⟩, Nat.le_of_ble_eq_true rfl, cn_RX7.2.2.1, if_neg fun q => cn_RX7.2.2.2 q.1⟩, wd_660, wd_661⟩
theorem okMX11_fault : ab_okV MX11_fault 0 := ⟨⟨wd_138, wd_666, ⟨cn_RX11.1, cn_RX11.2.1, pd_0⟩, Nat.le_of_ble_eq_true rfl, cn_RX11.2.2.1, if_neg fun q => cn_RX11.2.2.2 q.1⟩, wd_664, wd_665⟩
theorem okMX11_count : ab_okV MX11_count 1 := ⟨⟨wd_138, wd_670, ⟨cn_RX11.1, cn_RX11.2.1, pd_5⟩, Nat.le_of_ble_eq_true rfl, cn_RX11.2.2.1, if_neg fun q => cn_RX11.2.2.2 q.1⟩, wd_668, wd_669⟩
theorem okMX11_signs : ab_okV MX11_signs 1 := ⟨⟨wd_138, wd_674, ⟨cn_RX11.1, cn_RX11.2.1, pd_5⟩, Nat.le_of_ble_eq_true rfl, cn_RX11.2.2.1, if_neg fun q => cn_RX11.2.2.2 q.1⟩, wd_672, wd_673⟩
theorem okMX1_hasVoter : ab_okV MX1_hasVoter 1 := ⟨⟨wd_140, wd_678, ⟨cn_RX1.1, cn_RX1.2.1, pd_8⟩, Nat.le_of_ble_eq_true rfl, cn_RX1.2.2.1, if_neg fun q => cn_RX1.2.2.2 q.1⟩, wd_676, wd_677⟩
theorem okMX11_all : ab_okV MX11_all 0 := ⟨⟨wd_138, wd_682, ⟨cn_RX11.1, cn_RX11.2.1, pd_1⟩, Nat.le_of_ble_eq_true rfl, cn_RX11.2.2.1, if_neg fun q => cn_RX11.2.2.2 q.1⟩, wd_680, wd_681⟩
theorem okMX11_power : ab_okS MX11_power 2 := ⟨⟨wd_138, wd_686, ⟨cn_RX11.1, cn_RX11.2.1, pd_10⟩, Nat.le_of_ble_eq_true rfl, cn_RX11.2.2.1, if_neg fun q => cn_RX11.2.2.2 q.1⟩, wd_685⟩
theorem okMX11_vote : ab_okV MX11_vote 2 := ⟨⟨wd_138, wd_690, ⟨cn_RX11.1, cn_RX11.2.1, pd_9⟩, Nat.le_of_ble_eq_true rfl, cn_RX11.2.2.1, if_neg fun q => cn_RX11.2.2.2 q.1⟩, wd_688, wd_689⟩
theorem okMX1_hasSign : ab_okV MX1_hasSign 2 := ⟨⟨wd_140, wd_694, ⟨cn_RX1.1, cn_RX1.2.1, pd_12⟩, Nat.le_of_ble_eq_true rfl, cn_RX1.2.2.1, if_neg fun q => cn_RX1.2.2.2 q.1⟩, wd_692, wd_693⟩
theorem okMX11_decided : ab_okV MX11_decided 0 := ⟨⟨wd_138, wd_699, ⟨cn_RX11.1, cn_RX11.2.1, pd_0⟩, Nat.le_of_ble_eq_true rfl, cn_RX11.2.2.1, if_neg fun q => cn_RX11.2.2.2 q.1⟩, wd_697, wd_698⟩
theorem okMX1_hasSigns : ab_okV MX1_hasSigns 1 := ⟨⟨wd_140, wd_703, ⟨cn_RX1.1, cn_RX1.2.1, pd_41⟩, Nat.le_of_ble_eq_true rfl, cn_RX1.2.2.1, if_neg fun q => cn_RX1.2.2.2 q.1⟩, wd_701, wd_702⟩
theorem okMX1_decidesWithSigns : ab_okV MX1_decidesWithSigns 1 := ⟨⟨wd_140, wd_709, ⟨cn_RX1.1, cn_RX1.2.1, pd_48⟩, Nat.le_of_ble_eq_true rfl, cn_RX1.2.2.1, if_neg fun q => cn_RX1.2.2.2 q.1⟩, wd_707, wd_708⟩
theorem okMX1_clearTally : ab_okV MX1_clearTally 0 := ⟨⟨wd_140, wd_712, ⟨cn_RX1.1, cn_RX1.2.1, pd_3⟩, Nat.le_of_ble_eq_true rfl, cn_RX1.2.2.1, if_neg fun q => cn_RX1.2.2.2 q.1⟩, wd_711, wd_23⟩
theorem okMX1_addVote : ab_okV MX1_addVote 3 := ⟨⟨wd_140, wd_716, ⟨cn_RX1.1, cn_RX1.2.1, pd_51⟩, Nat.le_of_ble_eq_true rfl, cn_RX1.2.2.1, if_neg fun q => cn_RX1.2.2.2 q.1⟩, wd_714, wd_715⟩
theorem okMX1_decides : ab_okV MX1_decides 2 := ⟨⟨wd_140, wd_720, ⟨cn_RX1.1, cn_RX1.2.1, pd_49⟩, Nat.le_of_ble_eq_true rfl, cn_RX1.2.2.1, if_neg fun q => cn_RX1.2.2.2 q.1⟩, wd_718, wd_719⟩
theorem okMX11_right : ab_okV MX11_right 0 := ⟨⟨wd_138, wd_724, ⟨cn_RX11.1, cn_RX11.2.1, pd_1⟩, Nat.le_of_ble_eq_true rfl, cn_RX11.2.2.1, if_neg fun q => cn_RX11.2.2.2 q.1⟩, wd_722, wd_723⟩
theorem okMX4_voting : ab_okV MX4_voting 2 := ⟨⟨wd_144, wd_728, ⟨cn_RX4.1, cn_RX4.2.1, pd_38⟩, Nat.le_of_ble_eq_true rfl, cn_RX4.2.2.1, if_neg fun q => cn_RX4.2.2.2 q.1⟩, wd_726, wd_727⟩
theorem okMX4_addChoice : ab_okV MX4_addChoice 3 := ⟨⟨wd_144, wd_731, ⟨cn_RX4.1, cn_RX4.2.1, pd_15⟩, Nat.le_of_ble_eq_true rfl, cn_RX4.2.2.1, if_neg fun q => cn_RX4.2.2.2 q.1⟩, wd_730, wd_24⟩
theorem okMX4_openChoice : ab_okV MX4_openChoice 3 := ⟨⟨wd_144, wd_734, ⟨cn_RX4.1, cn_RX4.2.1, pd_15⟩, Nat.le_of_ble_eq_true rfl, cn_RX4.2.2.1, if_neg fun q => cn_RX4.2.2.2 q.1⟩, wd_733, wd_25⟩
theorem okMX4_sumUp : ab_okV MX4_sumUp 1 := ⟨⟨wd_144, wd_738, ⟨cn_RX4.1, cn_RX4.2.1, pd_53⟩, Nat.le_of_ble_eq_true rfl, cn_RX4.2.2.1, if_neg fun q => cn_RX4.2.2.2 q.1⟩, wd_736, wd_737⟩
theorem okMX11_empty : ab_okS MX11_empty 1 := ⟨⟨wd_138, wd_740, ⟨cn_RX11.1, cn_RX11.2.1, pd_53⟩, Nat.le_of_ble_eq_true rfl, cn_RX11.2.2.1, if_neg fun q => cn_RX11.2.2.2 q.1⟩, wd_739⟩
theorem okMX4_first : ab_okV MX4_first 0 := ⟨⟨wd_144, wd_744, ⟨cn_RX4.1, cn_RX4.2.1, pd_0⟩, Nat.le_of_ble_eq_true rfl, cn_RX4.2.2.1, if_neg fun q => cn_RX4.2.2.2 q.1⟩, wd_742, wd_743⟩
theorem okMX4_fillFrom : ab_okV MX4_fillFrom 1 := ⟨⟨wd_144, wd_747, ⟨cn_RX4.1, cn_RX4.2.1, pd_7⟩, Nat.le_of_ble_eq_true rfl, cn_RX4.2.2.1, if_neg fun q => cn_RX4.2.2.2 q.1⟩, wd_746, wd_26⟩
theorem okMX4_decidesNow : ab_okV MX4_decidesNow 0 := ⟨⟨wd_144, wd_750, ⟨cn_RX4.1, cn_RX4.2.1, pd_0⟩, Nat.le_of_ble_eq_true rfl, cn_RX4.2.2.1, if_neg fun q => cn_RX4.2.2.2 q.1⟩, wd_749, wd_27⟩
theorem okMX4_takeTally : ab_okV MX4_takeTally 0 := ⟨⟨wd_144, wd_753, ⟨cn_RX4.1, cn_RX4.2.1, pd_3⟩, Nat.le_of_ble_eq_true rfl, cn_RX4.2.2.1, if_neg fun q => cn_RX4.2.2.2 q.1⟩, wd_752, wd_28⟩
theorem okMX4_addRow : ab_okV MX4_addRow 2 := ⟨⟨wd_144, wd_757, ⟨cn_RX4.1, cn_RX4.2.1, pd_54⟩, Nat.le_of_ble_eq_true rfl, cn_RX4.2.2.1, if_neg fun q => cn_RX4.2.2.2 q.1⟩, wd_756, wd_29⟩
theorem okMX4_partsNow : ab_okV MX4_partsNow 1 := ⟨⟨wd_144, wd_761, ⟨cn_RX4.1, cn_RX4.2.1, pd_6⟩, Nat.le_of_ble_eq_true rfl, cn_RX4.2.2.1, if_neg fun q => cn_RX4.2.2.2 q.1⟩, wd_759, wd_760⟩
theorem okMX4_step : ab_okV MX4_step 0 := ⟨⟨wd_144, wd_765, ⟨cn_RX4.1, cn_RX4.2.1, pd_3⟩, Nat.le_of_ble_eq_true rfl, cn_RX4.2.2.1, if_neg fun q => cn_RX4.2.2.2 q.1⟩, wd_763, wd_764⟩
theorem okMX11_rightOf : ab_okS MX11_rightOf 1 := ⟨⟨wd_138, wd_768, ⟨cn_RX11.1, cn_RX11.2.1, pd_52⟩, Nat.le_of_ble_eq_true rfl, cn_RX11.2.2.1, if_neg fun q => cn_RX11.2.2.2 q.1⟩, wd_767⟩
theorem okMX11_lost : ab_okV MX11_lost 0 := ⟨⟨wd_138, wd_772, ⟨cn_RX11.1, cn_RX11.2.1, pd_1⟩, Nat.le_of_ble_eq_true rfl, cn_RX11.2.2.1, if_neg fun q => cn_RX11.2.2.2 q.1⟩, wd_770, wd_771⟩
theorem okMX11_lostWithout : ab_okV MX11_lostWithout 2 := ⟨⟨wd_138, wd_775, ⟨cn_RX11.1, cn_RX11.2.1, pd_10⟩, Nat.le_of_ble_eq_true rfl, cn_RX11.2.2.1, if_neg fun q => cn_RX11.2.2.2 q.1⟩, wd_774, wd_30⟩
theorem okMX4_silence : ab_okV MX4_silence 1 := ⟨⟨wd_144, wd_779, ⟨cn_RX4.1, cn_RX4.2.1, pd_7⟩, Nat.le_of_ble_eq_true rfl, cn_RX4.2.2.1, if_neg fun q => cn_RX4.2.2.2 q.1⟩, wd_777, wd_778⟩
theorem okMX0_lostBy : ab_okV MX0_lostBy 1 := ⟨⟨wd_141, wd_783, ⟨cn_RX0.1, cn_RX0.2.1, pd_52⟩, Nat.le_of_ble_eq_true rfl, cn_RX0.2.2.1, if_neg fun q => cn_RX0.2.2.2 q.1⟩, wd_781, wd_782⟩
theorem okMX11_known : ab_okV MX11_known 0 := ⟨⟨wd_138, wd_787, ⟨cn_RX11.1, cn_RX11.2.1, pd_0⟩, Nat.le_of_ble_eq_true rfl, cn_RX11.2.2.1, if_neg fun q => cn_RX11.2.2.2 q.1⟩, wd_785, wd_786⟩
theorem okMX1_knownBy : ab_okV MX1_knownBy 1 := ⟨⟨wd_140, wd_791, ⟨cn_RX1.1, cn_RX1.2.1, pd_48⟩, Nat.le_of_ble_eq_true rfl, cn_RX1.2.2.1, if_neg fun q => cn_RX1.2.2.2 q.1⟩, wd_789, wd_790⟩
theorem okMX1_partsOf : ab_okV MX1_partsOf 2 := ⟨⟨wd_140, wd_795, ⟨cn_RX1.1, cn_RX1.2.1, pd_24⟩, Nat.le_of_ble_eq_true rfl, cn_RX1.2.2.1, if_neg fun q => cn_RX1.2.2.2 q.1⟩, wd_793, wd_794⟩
theorem okMX11_reply : ab_okV MX11_reply 2 := ⟨⟨wd_138, wd_799, ⟨cn_RX11.1, cn_RX11.2.1, pd_9⟩, Nat.le_of_ble_eq_true rfl, cn_RX11.2.2.1, if_neg fun q => cn_RX11.2.2.2 q.1⟩, wd_797, wd_798⟩
theorem okMX3_hearOthers : ab_okV MX3_hearOthers 3 := ⟨⟨wd_145, wd_803, ⟨cn_RX3.1, cn_RX3.2.1, pd_40⟩, Nat.le_of_ble_eq_true rfl, cn_RX3.2.2.1, if_neg fun q => cn_RX3.2.2.2 q.1⟩, wd_801, wd_802⟩
theorem okMX4_leaveOut : ab_okV MX4_leaveOut 1 := ⟨⟨wd_144, wd_808, ⟨cn_RX4.1, cn_RX4.2.1, pd_7⟩, Nat.le_of_ble_eq_true rfl, cn_RX4.2.2.1, if_neg fun q => cn_RX4.2.2.2 q.1⟩, wd_806, wd_807⟩
theorem okMX3_addLosing : ab_okV MX3_addLosing 2 := ⟨⟨wd_145, wd_812, ⟨cn_RX3.1, cn_RX3.2.1, pd_11⟩, Nat.le_of_ble_eq_true rfl, cn_RX3.2.2.1, if_neg fun q => cn_RX3.2.2.2 q.1⟩, wd_811, wd_31⟩
theorem okMX3_voteAt : ab_okV MX3_voteAt 1 := ⟨⟨wd_145, wd_815, ⟨cn_RX3.1, cn_RX3.2.1, pd_5⟩, Nat.le_of_ble_eq_true rfl, cn_RX3.2.2.1, if_neg fun q => cn_RX3.2.2.2 q.1⟩, wd_814, wd_32⟩
theorem okMX4_decidesIf : ab_okV MX4_decidesIf 2 := ⟨⟨wd_144, wd_819, ⟨cn_RX4.1, cn_RX4.2.1, pd_9⟩, Nat.le_of_ble_eq_true rfl, cn_RX4.2.2.1, if_neg fun q => cn_RX4.2.2.2 q.1⟩, wd_817, wd_818⟩
theorem okMX3_best : ab_okV MX3_best 3 := ⟨⟨wd_145, wd_826, ⟨cn_RX3.1, cn_RX3.2.1, pd_13⟩, Nat.le_of_ble_eq_true rfl, cn_RX3.2.2.1, if_neg fun q => cn_RX3.2.2.2 q.1⟩, wd_824, wd_825⟩
theorem okMX1_hasTruth : ab_okV MX1_hasTruth 1 := ⟨⟨wd_140, wd_830, ⟨cn_RX1.1, cn_RX1.2.1, pd_8⟩, Nat.le_of_ble_eq_true rfl, cn_RX1.2.2.1, if_neg fun q => cn_RX1.2.2.2 q.1⟩, wd_828, wd_829⟩
theorem okMX3_lostBy : ab_okV MX3_lostBy 3 := ⟨⟨wd_145, wd_833, ⟨cn_RX3.1, cn_RX3.2.1, pd_14⟩, Nat.le_of_ble_eq_true rfl, cn_RX3.2.2.1, if_neg fun q => cn_RX3.2.2.2 q.1⟩, wd_832, wd_33⟩
theorem okMX11_fit : ab_okV MX11_fit 0 := ⟨⟨wd_138, wd_837, ⟨cn_RX11.1, cn_RX11.2.1, pd_0⟩, Nat.le_of_ble_eq_true rfl, cn_RX11.2.2.1, if_neg fun q => cn_RX11.2.2.2 q.1⟩, wd_835, wd_836⟩
theorem okMX3_isFit : ab_okV MX3_isFit 2 := ⟨⟨wd_145, wd_841, ⟨cn_RX3.1, cn_RX3.2.1, pd_39⟩, Nat.le_of_ble_eq_true rfl, cn_RX3.2.2.1, if_neg fun q => cn_RX3.2.2.2 q.1⟩, wd_839, wd_840⟩
theorem okMX11_settle : ab_okV MX11_settle 0 := ⟨⟨wd_138, wd_847, ⟨cn_RX11.1, cn_RX11.2.1, pd_0⟩, Nat.le_of_ble_eq_true rfl, cn_RX11.2.2.1, if_neg fun q => cn_RX11.2.2.2 q.1⟩, wd_845, wd_846⟩
theorem okMX3_settleVotes : ab_okV MX3_settleVotes 1 := ⟨⟨wd_145, wd_851, ⟨cn_RX3.1, cn_RX3.2.1, pd_31⟩, Nat.le_of_ble_eq_true rfl, cn_RX3.2.2.1, if_neg fun q => cn_RX3.2.2.2 q.1⟩, wd_849, wd_850⟩
theorem okMX3_changesInRound : ab_okV MX3_changesInRound 1 := ⟨⟨wd_145, wd_854, ⟨cn_RX3.1, cn_RX3.2.1, pd_34⟩, Nat.le_of_ble_eq_true rfl, cn_RX3.2.2.1, if_neg fun q => cn_RX3.2.2.2 q.1⟩, wd_853, wd_34⟩
theorem okMX3_keepVotes : ab_okV MX3_keepVotes 2 := ⟨⟨wd_145, wd_857, ⟨cn_RX3.1, cn_RX3.2.1, pd_38⟩, Nat.le_of_ble_eq_true rfl, cn_RX3.2.2.1, if_neg fun q => cn_RX3.2.2.2 q.1⟩, wd_856, wd_35⟩
theorem okMX3_countTrial : ab_okV MX3_countTrial 1 := ⟨⟨wd_145, wd_861, ⟨cn_RX3.1, cn_RX3.2.1, pd_33⟩, Nat.le_of_ble_eq_true rfl, cn_RX3.2.2.1, if_neg fun q => cn_RX3.2.2.2 q.1⟩, wd_860, wd_36⟩
theorem okMX11_settled : ab_okV MX11_settled 2 := ⟨⟨wd_138, wd_867, ⟨cn_RX11.1, cn_RX11.2.1, pd_9⟩, Nat.le_of_ble_eq_true rfl, cn_RX11.2.2.1, if_neg fun q => cn_RX11.2.2.2 q.1⟩, wd_865, wd_866⟩
theorem okMX11_inTable : ab_okS MX11_inTable 2 := ⟨⟨wd_138, wd_870, ⟨cn_RX11.1, cn_RX11.2.1, pd_12⟩, Nat.le_of_ble_eq_true rfl, cn_RX11.2.2.1, if_neg fun q => cn_RX11.2.2.2 q.1⟩, wd_869⟩
theorem okMX11_settles : ab_okV MX11_settles 1 := ⟨⟨wd_138, wd_874, ⟨cn_RX11.1, cn_RX11.2.1, pd_6⟩, Nat.le_of_ble_eq_true rfl, cn_RX11.2.2.1, if_neg fun q => cn_RX11.2.2.2 q.1⟩, wd_872, wd_873⟩
theorem okMX11_inTurns : ab_okV MX11_inTurns 0 := ⟨⟨wd_138, wd_879, ⟨cn_RX11.1, cn_RX11.2.1, pd_1⟩, Nat.le_of_ble_eq_true rfl, cn_RX11.2.2.1, if_neg fun q => cn_RX11.2.2.2 q.1⟩, wd_877, wd_878⟩
theorem okMX1_hasOrder : ab_okV MX1_hasOrder 1 := ⟨⟨wd_140, wd_883, ⟨cn_RX1.1, cn_RX1.2.1, pd_41⟩, Nat.le_of_ble_eq_true rfl, cn_RX1.2.2.1, if_neg fun q => cn_RX1.2.2.2 q.1⟩, wd_881, wd_882⟩
theorem okMX8_speakAll : ab_okV MX8_speakAll 2 := ⟨⟨wd_146, wd_887, ⟨cn_RX8.1, cn_RX8.2.1, pd_38⟩, Nat.le_of_ble_eq_true rfl, cn_RX8.2.2.1, if_neg fun q => cn_RX8.2.2.2 q.1⟩, wd_885, wd_886⟩
theorem okMX8_speakInOrder : ab_okV MX8_speakInOrder 0 := ⟨⟨wd_146, wd_890, ⟨cn_RX8.1, cn_RX8.2.1, pd_3⟩, Nat.le_of_ble_eq_true rfl, cn_RX8.2.2.1, if_neg fun q => cn_RX8.2.2.2 q.1⟩, wd_889, wd_37⟩
theorem okMX8_openTalk : ab_okV MX8_openTalk 0 := ⟨⟨wd_146, wd_893, ⟨cn_RX8.1, cn_RX8.2.1, pd_3⟩, Nat.le_of_ble_eq_true rfl, cn_RX8.2.2.1, if_neg fun q => cn_RX8.2.2.2 q.1⟩, wd_892, wd_38⟩
theorem okMX8_speak : ab_okV MX8_speak 3 := ⟨⟨wd_146, wd_896, ⟨cn_RX8.1, cn_RX8.2.1, pd_15⟩, Nat.le_of_ble_eq_true rfl, cn_RX8.2.2.1, if_neg fun q => cn_RX8.2.2.2 q.1⟩, wd_895, wd_39⟩
theorem okMX8_endTalk : ab_okV MX8_endTalk 2 := ⟨⟨wd_146, wd_899, ⟨cn_RX8.1, cn_RX8.2.1, pd_11⟩, Nat.le_of_ble_eq_true rfl, cn_RX8.2.2.1, if_neg fun q => cn_RX8.2.2.2 q.1⟩, wd_898, wd_40⟩
theorem okMX8_ponder : ab_okV MX8_ponder 1 := ⟨⟨wd_146, wd_902, ⟨cn_RX8.1, cn_RX8.2.1, pd_7⟩, Nat.le_of_ble_eq_true rfl, cn_RX8.2.2.1, if_neg fun q => cn_RX8.2.2.2 q.1⟩, wd_901, wd_41⟩
theorem okMX8_cliffAt : ab_okV MX8_cliffAt 2 := ⟨⟨wd_146, wd_906, ⟨cn_RX8.1, cn_RX8.2.1, pd_9⟩, Nat.le_of_ble_eq_true rfl, cn_RX8.2.2.1, if_neg fun q => cn_RX8.2.2.2 q.1⟩, wd_905, wd_42⟩
theorem okMX8_follows : ab_okV MX8_follows 1 := ⟨⟨wd_146, wd_909, ⟨cn_RX8.1, cn_RX8.2.1, pd_8⟩, Nat.le_of_ble_eq_true rfl, cn_RX8.2.2.1, if_neg fun q => cn_RX8.2.2.2 q.1⟩, wd_908, wd_43⟩
theorem okMX8_hasCase : ab_okV MX8_hasCase 3 := ⟨⟨wd_146, wd_912, ⟨cn_RX8.1, cn_RX8.2.1, pd_22⟩, Nat.le_of_ble_eq_true rfl, cn_RX8.2.2.1, if_neg fun q => cn_RX8.2.2.2 q.1⟩, wd_911, wd_44⟩
theorem okMX8_hear : ab_okV MX8_hear 2 := ⟨⟨wd_146, wd_915, ⟨cn_RX8.1, cn_RX8.2.1, pd_12⟩, Nat.le_of_ble_eq_true rfl, cn_RX8.2.2.1, if_neg fun q => cn_RX8.2.2.2 q.1⟩, wd_914, wd_45⟩
theorem okMX11_herd : ab_okV MX11_herd 1 := ⟨⟨wd_138, wd_919, ⟨cn_RX11.1, cn_RX11.2.1, pd_6⟩, Nat.le_of_ble_eq_true rfl, cn_RX11.2.2.1, if_neg fun q => cn_RX11.2.2.2 q.1⟩, wd_917, wd_918⟩
theorem okMX8_isSilent : ab_okV MX8_isSilent 0 := ⟨⟨wd_146, wd_923, ⟨cn_RX8.1, cn_RX8.2.1, pd_4⟩, Nat.le_of_ble_eq_true rfl, cn_RX8.2.2.1, if_neg fun q => cn_RX8.2.2.2 q.1⟩, wd_921, wd_922⟩
theorem okMX11_says : ab_okV MX11_says 0 := ⟨⟨wd_138, wd_928, ⟨cn_RX11.1, cn_RX11.2.1, pd_0⟩, Nat.le_of_ble_eq_true rfl, cn_RX11.2.2.1, if_neg fun q => cn_RX11.2.2.2 q.1⟩, wd_926, wd_927⟩
theorem okMX8_hasSigns : ab_okV MX8_hasSigns 1 := ⟨⟨wd_146, wd_932, ⟨cn_RX8.1, cn_RX8.2.1, pd_41⟩, Nat.le_of_ble_eq_true rfl, cn_RX8.2.2.1, if_neg fun q => cn_RX8.2.2.2 q.1⟩, wd_930, wd_931⟩
theorem okMX8_said : ab_okV MX8_said 1 := ⟨⟨wd_146, wd_937, ⟨cn_RX8.1, cn_RX8.2.1, pd_48⟩, Nat.le_of_ble_eq_true rfl, cn_RX8.2.2.1, if_neg fun q => cn_RX8.2.2.2 q.1⟩, wd_935, wd_936⟩
theorem okMX8_sayWith : ab_okV MX8_sayWith 2 := ⟨⟨wd_146, wd_940, ⟨cn_RX8.1, cn_RX8.2.1, pd_23⟩, Nat.le_of_ble_eq_true rfl, cn_RX8.2.2.1, if_neg fun q => cn_RX8.2.2.2 q.1⟩, wd_939, wd_46⟩
theorem okMX11_cliff : ab_okV MX11_cliff 0 := ⟨⟨wd_138, wd_944, ⟨cn_RX11.1, cn_RX11.2.1, pd_0⟩, Nat.le_of_ble_eq_true rfl, cn_RX11.2.2.1, if_neg fun q => cn_RX11.2.2.2 q.1⟩, wd_942, wd_943⟩
theorem okMX8_cliffWith : ab_okV MX8_cliffWith 1 := ⟨⟨wd_146, wd_948, ⟨cn_RX8.1, cn_RX8.2.1, pd_48⟩, Nat.le_of_ble_eq_true rfl, cn_RX8.2.2.1, if_neg fun q => cn_RX8.2.2.2 q.1⟩, wd_946, wd_947⟩
theorem okMX11_bestOrder : ab_okV MX11_bestOrder 0 := ⟨⟨wd_138, wd_952, ⟨cn_RX11.1, cn_RX11.2.1, pd_0⟩, Nat.le_of_ble_eq_true rfl, cn_RX11.2.2.1, if_neg fun q => cn_RX11.2.2.2 q.1⟩, wd_950, wd_951⟩
theorem okMX8_tryOrders : ab_okV MX8_tryOrders 1 := ⟨⟨wd_146, wd_956, ⟨cn_RX8.1, cn_RX8.2.1, pd_31⟩, Nat.le_of_ble_eq_true rfl, cn_RX8.2.2.1, if_neg fun q => cn_RX8.2.2.2 q.1⟩, wd_954, wd_955⟩
theorem okMX8_orderByTen : ab_okV MX8_orderByTen 0 := ⟨⟨wd_146, wd_961, ⟨cn_RX8.1, cn_RX8.2.1, pd_0⟩, Nat.le_of_ble_eq_true rfl, cn_RX8.2.2.1, if_neg fun q => cn_RX8.2.2.2 q.1⟩, wd_960, wd_47⟩
theorem okMX8_nextOrder : ab_okV MX8_nextOrder 0 := ⟨⟨wd_146, wd_964, ⟨cn_RX8.1, cn_RX8.2.1, pd_4⟩, Nat.le_of_ble_eq_true rfl, cn_RX8.2.2.1, if_neg fun q => cn_RX8.2.2.2 q.1⟩, wd_963, wd_48⟩
theorem okMX8_swap : ab_okV MX8_swap 2 := ⟨⟨wd_146, wd_967, ⟨cn_RX8.1, cn_RX8.2.1, pd_11⟩, Nat.le_of_ble_eq_true rfl, cn_RX8.2.2.1, if_neg fun q => cn_RX8.2.2.2 q.1⟩, wd_966, wd_49⟩
theorem okMX11_bar : ab_okV MX11_bar 2 := ⟨⟨wd_138, wd_971, ⟨cn_RX11.1, cn_RX11.2.1, pd_9⟩, Nat.le_of_ble_eq_true rfl, cn_RX11.2.2.1, if_neg fun q => cn_RX11.2.2.2 q.1⟩, wd_969, wd_970⟩
theorem okMX5_bestBar : ab_okV MX5_bestBar 3 := ⟨⟨wd_147, wd_976, ⟨cn_RX5.1, cn_RX5.2.1, pd_35⟩, Nat.le_of_ble_eq_true rfl, cn_RX5.2.2.1, if_neg fun q => cn_RX5.2.2.2 q.1⟩, wd_974, wd_975⟩
theorem okMX5_sortByWeights : ab_okV MX5_sortByWeights 3 := ⟨⟨wd_147, wd_979, ⟨cn_RX5.1, cn_RX5.2.1, pd_36⟩, Nat.le_of_ble_eq_true rfl, cn_RX5.2.2.1, if_neg fun q => cn_RX5.2.2.2 q.1⟩, wd_978, wd_50⟩
theorem okMX4_weightNow : ab_okV MX4_weightNow 1 := ⟨⟨wd_144, wd_985, ⟨cn_RX4.1, cn_RX4.2.1, pd_5⟩, Nat.le_of_ble_eq_true rfl, cn_RX4.2.2.1, if_neg fun q => cn_RX4.2.2.2 q.1⟩, wd_983, wd_984⟩
theorem okMX4_lostNow : ab_okV MX4_lostNow 1 := ⟨⟨wd_144, wd_989, ⟨cn_RX4.1, cn_RX4.2.1, pd_6⟩, Nat.le_of_ble_eq_true rfl, cn_RX4.2.2.1, if_neg fun q => cn_RX4.2.2.2 q.1⟩, wd_987, wd_988⟩
theorem okMX11_barLost : ab_okV MX11_barLost 0 := ⟨⟨wd_138, wd_995, ⟨cn_RX11.1, cn_RX11.2.1, pd_1⟩, Nat.le_of_ble_eq_true rfl, cn_RX11.2.2.1, if_neg fun q => cn_RX11.2.2.2 q.1⟩, wd_993, wd_994⟩
theorem okMX11_silent : ab_okV MX11_silent 0 := ⟨⟨wd_138, wd_999, ⟨cn_RX11.1, cn_RX11.2.1, pd_0⟩, Nat.le_of_ble_eq_true rfl, cn_RX11.2.2.1, if_neg fun q => cn_RX11.2.2.2 q.1⟩, wd_997, wd_998⟩
theorem okMX11_helps : ab_okV MX11_helps 2 := ⟨⟨wd_138, wd_1004, ⟨cn_RX11.1, cn_RX11.2.1, pd_9⟩, Nat.le_of_ble_eq_true rfl, cn_RX11.2.2.1, if_neg fun q => cn_RX11.2.2.2 q.1⟩, wd_1002, wd_1003⟩
theorem okMX11_believed : ab_okV MX11_believed 3 := ⟨⟨wd_138, wd_1008, ⟨cn_RX11.1, cn_RX11.2.1, pd_13⟩, Nat.le_of_ble_eq_true rfl, cn_RX11.2.2.1, if_neg fun q => cn_RX11.2.2.2 q.1⟩, wd_1006, wd_1007⟩
theorem okMX10_lastPart : ab_okS MX10_lastPart 1 := ⟨⟨wd_148, wd_1011, ⟨cn_RX10.1, cn_RX10.2.1, pd_5⟩, Nat.le_of_ble_eq_true rfl, cn_RX10.2.2.1, if_neg fun q => cn_RX10.2.2.2 q.1⟩, wd_1010⟩
theorem okMX10_areBelieved : ab_okV MX10_areBelieved 4 := ⟨⟨wd_148, wd_1015, ⟨cn_RX10.1, cn_RX10.2.1, pd_37⟩, Nat.le_of_ble_eq_true rfl, cn_RX10.2.2.1, if_neg fun q => cn_RX10.2.2.2 q.1⟩, wd_1013, wd_1014⟩
theorem okMX10_hearWord : ab_okV MX10_hearWord 1 := ⟨⟨wd_148, wd_1022, ⟨cn_RX10.1, cn_RX10.2.1, pd_7⟩, Nat.le_of_ble_eq_true rfl, cn_RX10.2.2.1, if_neg fun q => cn_RX10.2.2.2 q.1⟩, wd_1021, wd_51⟩
theorem okMX10_likelyWord : ab_okV MX10_likelyWord 2 := ⟨⟨wd_148, wd_1025, ⟨cn_RX10.1, cn_RX10.2.1, pd_9⟩, Nat.le_of_ble_eq_true rfl, cn_RX10.2.2.1, if_neg fun q => cn_RX10.2.2.2 q.1⟩, wd_1024, wd_52⟩
theorem okMX10_liesWith : ab_okV MX10_liesWith 2 := ⟨⟨wd_148, wd_1029, ⟨cn_RX10.1, cn_RX10.2.1, pd_12⟩, Nat.le_of_ble_eq_true rfl, cn_RX10.2.2.1, if_neg fun q => cn_RX10.2.2.2 q.1⟩, wd_1028, wd_53⟩
theorem okMX10_lostBy : ab_okV MX10_lostBy 2 := ⟨⟨wd_148, wd_1032, ⟨cn_RX10.1, cn_RX10.2.1, pd_10⟩, Nat.le_of_ble_eq_true rfl, cn_RX10.2.2.1, if_neg fun q => cn_RX10.2.2.2 q.1⟩, wd_1031, wd_54⟩
theorem okMX11_fits : ab_okV MX11_fits 0 := ⟨⟨wd_138, wd_1037, ⟨cn_RX11.1, cn_RX11.2.1, pd_0⟩, Nat.le_of_ble_eq_true rfl, cn_RX11.2.2.1, if_neg fun q => cn_RX11.2.2.2 q.1⟩, wd_1035, wd_1036⟩
theorem okMX1_signsInAll : ab_okV MX1_signsInAll 0 := ⟨⟨wd_140, wd_1041, ⟨cn_RX1.1, cn_RX1.2.1, pd_0⟩, Nat.le_of_ble_eq_true rfl, cn_RX1.2.2.1, if_neg fun q => cn_RX1.2.2.2 q.1⟩, wd_1039, wd_1040⟩
theorem okMX3_countFits : ab_okV MX3_countFits 1 := ⟨⟨wd_145, wd_1045, ⟨cn_RX3.1, cn_RX3.2.1, pd_31⟩, Nat.le_of_ble_eq_true rfl, cn_RX3.2.2.1, if_neg fun q => cn_RX3.2.2.2 q.1⟩, wd_1043, wd_1044⟩
theorem okMX3_layPlaces : ab_okV MX3_layPlaces 0 := ⟨⟨wd_145, wd_1048, ⟨cn_RX3.1, cn_RX3.2.1, pd_0⟩, Nat.le_of_ble_eq_true rfl, cn_RX3.2.2.1, if_neg fun q => cn_RX3.2.2.2 q.1⟩, wd_1047, wd_55⟩
theorem okMX3_noteReplies : ab_okV MX3_noteReplies 1 := ⟨⟨wd_145, wd_1052, ⟨cn_RX3.1, cn_RX3.2.1, pd_7⟩, Nat.le_of_ble_eq_true rfl, cn_RX3.2.2.1, if_neg fun q => cn_RX3.2.2.2 q.1⟩, wd_1051, wd_56⟩
theorem okMX3_areNoted : ab_okV MX3_areNoted 1 := ⟨⟨wd_145, wd_1055, ⟨cn_RX3.1, cn_RX3.2.1, pd_8⟩, Nat.le_of_ble_eq_true rfl, cn_RX3.2.2.1, if_neg fun q => cn_RX3.2.2.2 q.1⟩, wd_1054, wd_57⟩
theorem okMX3_nextTable : ab_okV MX3_nextTable 0 := ⟨⟨wd_145, wd_1059, ⟨cn_RX3.1, cn_RX3.2.1, pd_4⟩, Nat.le_of_ble_eq_true rfl, cn_RX3.2.2.1, if_neg fun q => cn_RX3.2.2.2 q.1⟩, wd_1058, wd_58⟩
theorem okMX11_fitAt : ab_okV MX11_fitAt 2 := ⟨⟨wd_138, wd_1063, ⟨cn_RX11.1, cn_RX11.2.1, pd_9⟩, Nat.le_of_ble_eq_true rfl, cn_RX11.2.2.1, if_neg fun q => cn_RX11.2.2.2 q.1⟩, wd_1061, wd_1062⟩
theorem okMX11_weighed : ab_okV MX11_weighed 0 := ⟨⟨wd_138, wd_1067, ⟨cn_RX11.1, cn_RX11.2.1, pd_1⟩, Nat.le_of_ble_eq_true rfl, cn_RX11.2.2.1, if_neg fun q => cn_RX11.2.2.2 q.1⟩, wd_1065, wd_1066⟩
theorem okMX5_weighAll : ab_okV MX5_weighAll 1 := ⟨⟨wd_147, wd_1071, ⟨cn_RX5.1, cn_RX5.2.1, pd_32⟩, Nat.le_of_ble_eq_true rfl, cn_RX5.2.2.1, if_neg fun q => cn_RX5.2.2.2 q.1⟩, wd_1069, wd_1070⟩
theorem okMX5_sortByVoters : ab_okV MX5_sortByVoters 1 := ⟨⟨wd_147, wd_1074, ⟨cn_RX5.1, cn_RX5.2.1, pd_33⟩, Nat.le_of_ble_eq_true rfl, cn_RX5.2.2.1, if_neg fun q => cn_RX5.2.2.2 q.1⟩, wd_1073, wd_59⟩
theorem okMX4_votersFor : ab_okV MX4_votersFor 1 := ⟨⟨wd_144, wd_1078, ⟨cn_RX4.1, cn_RX4.2.1, pd_5⟩, Nat.le_of_ble_eq_true rfl, cn_RX4.2.2.1, if_neg fun q => cn_RX4.2.2.2 q.1⟩, wd_1076, wd_1077⟩
theorem okMX5_takeWeights : ab_okV MX5_takeWeights 2 := ⟨⟨wd_147, wd_1082, ⟨cn_RX5.1, cn_RX5.2.1, pd_11⟩, Nat.le_of_ble_eq_true rfl, cn_RX5.2.2.1, if_neg fun q => cn_RX5.2.2.2 q.1⟩, wd_1081, wd_60⟩
theorem okMX5_addWeights : ab_okV MX5_addWeights 1 := ⟨⟨wd_147, wd_1085, ⟨cn_RX5.1, cn_RX5.2.1, pd_33⟩, Nat.le_of_ble_eq_true rfl, cn_RX5.2.2.1, if_neg fun q => cn_RX5.2.2.2 q.1⟩, wd_1084, wd_61⟩
theorem okMX5_tryNeeds : ab_okV MX5_tryNeeds 1 := ⟨⟨wd_147, wd_1088, ⟨cn_RX5.1, cn_RX5.2.1, pd_33⟩, Nat.le_of_ble_eq_true rfl, cn_RX5.2.2.1, if_neg fun q => cn_RX5.2.2.2 q.1⟩, wd_1087, wd_62⟩
theorem okMX5_lostByNeed : ab_okV MX5_lostByNeed 3 := ⟨⟨wd_147, wd_1091, ⟨cn_RX5.1, cn_RX5.2.1, pd_14⟩, Nat.le_of_ble_eq_true rfl, cn_RX5.2.2.1, if_neg fun q => cn_RX5.2.2.2 q.1⟩, wd_1090, wd_63⟩
theorem okMX5_keepNeed : ab_okV MX5_keepNeed 4 := ⟨⟨wd_147, wd_1094, ⟨cn_RX5.1, cn_RX5.2.1, pd_18⟩, Nat.le_of_ble_eq_true rfl, cn_RX5.2.2.1, if_neg fun q => cn_RX5.2.2.2 q.1⟩, wd_1093, wd_64⟩
theorem okMX11_weighedAt : ab_okV MX11_weighedAt 1 := ⟨⟨wd_138, wd_1098, ⟨cn_RX11.1, cn_RX11.2.1, pd_5⟩, Nat.le_of_ble_eq_true rfl, cn_RX11.2.2.1, if_neg fun q => cn_RX11.2.2.2 q.1⟩, wd_1096, wd_1097⟩
theorem okMX11_guess : ab_okV MX11_guess 0 := ⟨⟨wd_138, wd_1102, ⟨cn_RX11.1, cn_RX11.2.1, pd_0⟩, Nat.le_of_ble_eq_true rfl, cn_RX11.2.2.1, if_neg fun q => cn_RX11.2.2.2 q.1⟩, wd_1100, wd_1101⟩
theorem okMX1_hasVotes : ab_okV MX1_hasVotes 1 := ⟨⟨wd_140, wd_1106, ⟨cn_RX1.1, cn_RX1.2.1, pd_41⟩, Nat.le_of_ble_eq_true rfl, cn_RX1.2.2.1, if_neg fun q => cn_RX1.2.2.2 q.1⟩, wd_1104, wd_1105⟩
theorem okMX4_votingAs : ab_okV MX4_votingAs 2 := ⟨⟨wd_144, wd_1111, ⟨cn_RX4.1, cn_RX4.2.1, pd_38⟩, Nat.le_of_ble_eq_true rfl, cn_RX4.2.2.1, if_neg fun q => cn_RX4.2.2.2 q.1⟩, wd_1109, wd_1110⟩
theorem okMX4_likeliest : ab_okV MX4_likeliest 0 := ⟨⟨wd_144, wd_1115, ⟨cn_RX4.1, cn_RX4.2.1, pd_0⟩, Nat.le_of_ble_eq_true rfl, cn_RX4.2.2.1, if_neg fun q => cn_RX4.2.2.2 q.1⟩, wd_1113, wd_1114⟩
theorem okMX11_run : ab_okV MX11_run 2 := ⟨⟨wd_138, wd_1119, ⟨cn_RX11.1, cn_RX11.2.1, pd_9⟩, Nat.le_of_ble_eq_true rfl, cn_RX11.2.2.1, if_neg fun q => cn_RX11.2.2.2 q.1⟩, wd_1117, wd_1118⟩
theorem okMX6_rightOf : ab_okV MX6_rightOf 3 := ⟨⟨wd_149, wd_1123, ⟨cn_RX6.1, cn_RX6.2.1, pd_35⟩, Nat.le_of_ble_eq_true rfl, cn_RX6.2.2.1, if_neg fun q => cn_RX6.2.2.2 q.1⟩, wd_1121, wd_1122⟩
theorem okMX6_draw : ab_okV MX6_draw 3 := ⟨⟨wd_149, wd_1126, ⟨cn_RX6.1, cn_RX6.2.1, pd_50⟩, Nat.le_of_ble_eq_true rfl, cn_RX6.2.2.1, if_neg fun q => cn_RX6.2.2.2 q.1⟩, wd_1125, wd_65⟩
theorem okMX11_parts : ab_okV MX11_parts 1 := ⟨⟨wd_138, wd_1135, ⟨cn_RX11.1, cn_RX11.2.1, pd_6⟩, Nat.le_of_ble_eq_true rfl, cn_RX11.2.2.1, if_neg fun q => cn_RX11.2.2.2 q.1⟩, wd_1133, wd_1134⟩
theorem okMX11_comes : ab_okV MX11_comes 2 := ⟨⟨wd_138, wd_1182, ⟨cn_RX11.1, cn_RX11.2.1, pd_10⟩, Nat.le_of_ble_eq_true rfl, cn_RX11.2.2.1, if_neg fun q => cn_RX11.2.2.2 q.1⟩, wd_1180, wd_1181⟩
theorem okMX11_knows : ab_okV MX11_knows 1 := ⟨⟨wd_138, wd_1188, ⟨cn_RX11.1, cn_RX11.2.1, pd_6⟩, Nat.le_of_ble_eq_true rfl, cn_RX11.2.2.1, if_neg fun q => cn_RX11.2.2.2 q.1⟩, wd_1186, wd_1187⟩
theorem okMX4_seeing : ab_okV MX4_seeing 1 := ⟨⟨wd_144, wd_1192, ⟨cn_RX4.1, cn_RX4.2.1, pd_33⟩, Nat.le_of_ble_eq_true rfl, cn_RX4.2.2.1, if_neg fun q => cn_RX4.2.2.2 q.1⟩, wd_1190, wd_1191⟩
theorem okMX4_sumUpBest : ab_okV MX4_sumUpBest 1 := ⟨⟨wd_144, wd_1196, ⟨cn_RX4.1, cn_RX4.2.1, pd_53⟩, Nat.le_of_ble_eq_true rfl, cn_RX4.2.2.1, if_neg fun q => cn_RX4.2.2.2 q.1⟩, wd_1194, wd_1195⟩
theorem okMX11_turns : ab_okV MX11_turns 2 := ⟨⟨wd_138, wd_1203, ⟨cn_RX11.1, cn_RX11.2.1, pd_10⟩, Nat.le_of_ble_eq_true rfl, cn_RX11.2.2.1, if_neg fun q => cn_RX11.2.2.2 q.1⟩, wd_1201, wd_1202⟩
theorem okMX3_countTurns : ab_okV MX3_countTurns 3 := ⟨⟨wd_145, wd_1207, ⟨cn_RX3.1, cn_RX3.2.1, pd_36⟩, Nat.le_of_ble_eq_true rfl, cn_RX3.2.2.1, if_neg fun q => cn_RX3.2.2.2 q.1⟩, wd_1205, wd_1206⟩
theorem okMX4_pin : ab_okV MX4_pin 3 := ⟨⟨wd_144, wd_1211, ⟨cn_RX4.1, cn_RX4.2.1, pd_15⟩, Nat.le_of_ble_eq_true rfl, cn_RX4.2.2.1, if_neg fun q => cn_RX4.2.2.2 q.1⟩, wd_1209, wd_1210⟩
theorem okMX3_turnsNow : ab_okV MX3_turnsNow 1 := ⟨⟨wd_145, wd_1214, ⟨cn_RX3.1, cn_RX3.2.1, pd_8⟩, Nat.le_of_ble_eq_true rfl, cn_RX3.2.2.1, if_neg fun q => cn_RX3.2.2.2 q.1⟩, wd_1213, wd_67⟩
theorem okMX11_think : ab_okV MX11_think 3 := ⟨⟨wd_138, wd_1220, ⟨cn_RX11.1, cn_RX11.2.1, pd_14⟩, Nat.le_of_ble_eq_true rfl, cn_RX11.2.2.1, if_neg fun q => cn_RX11.2.2.2 q.1⟩, wd_1218, wd_1219⟩
theorem okMX11_bestRule : ab_okV MX11_bestRule 0 := ⟨⟨wd_138, wd_1226, ⟨cn_RX11.1, cn_RX11.2.1, pd_1⟩, Nat.le_of_ble_eq_true rfl, cn_RX11.2.2.1, if_neg fun q => cn_RX11.2.2.2 q.1⟩, wd_1224, wd_1225⟩
theorem okMX11_minutes : ab_okV MX11_minutes 2 := ⟨⟨wd_138, wd_1232, ⟨cn_RX11.1, cn_RX11.2.1, pd_10⟩, Nat.le_of_ble_eq_true rfl, cn_RX11.2.2.1, if_neg fun q => cn_RX11.2.2.2 q.1⟩, wd_1230, wd_1231⟩
theorem okMX11_sumOf : ab_okS MX11_sumOf 1 := ⟨⟨wd_138, wd_1236, ⟨cn_RX11.1, cn_RX11.2.1, pd_52⟩, Nat.le_of_ble_eq_true rfl, cn_RX11.2.2.1, if_neg fun q => cn_RX11.2.2.2 q.1⟩, wd_1235⟩
theorem okMX11_shut : ab_okV MX11_shut 3 := ⟨⟨wd_138, wd_1242, ⟨cn_RX11.1, cn_RX11.2.1, pd_14⟩, Nat.le_of_ble_eq_true rfl, cn_RX11.2.2.1, if_neg fun q => cn_RX11.2.2.2 q.1⟩, wd_1240, wd_1241⟩
theorem okMX11_many : ab_okV MX11_many 2 := ⟨⟨wd_138, wd_1248, ⟨cn_RX11.1, cn_RX11.2.1, pd_10⟩, Nat.le_of_ble_eq_true rfl, cn_RX11.2.2.1, if_neg fun q => cn_RX11.2.2.2 q.1⟩, wd_1246, wd_1247⟩
theorem okMX12_thrown : ab_okV MX12_thrown 0 := ⟨⟨wd_150, wd_1402, ⟨cn_RX12.1, cn_RX12.2.1, pd_0⟩, Nat.le_of_ble_eq_true rfl, cn_RX12.2.2.1, if_neg fun q => cn_RX12.2.2.2 q.1⟩, wd_1400, wd_1401⟩
theorem okMX12_feed : ab_okV MX12_feed 5 := ⟨⟨wd_150, wd_1406, ⟨cn_RX12.1, cn_RX12.2.1, pd_19⟩, Nat.le_of_ble_eq_true rfl, cn_RX12.2.2.1, if_neg fun q => cn_RX12.2.2.2 q.1⟩, wd_1404, wd_1405⟩
theorem okMX12_come : ab_okV MX12_come 1 := ⟨⟨wd_150, wd_1409, ⟨cn_RX12.1, cn_RX12.2.1, pd_7⟩, Nat.le_of_ble_eq_true rfl, cn_RX12.2.2.1, if_neg fun q => cn_RX12.2.2.2 q.1⟩, wd_1408, wd_68⟩
theorem okMX12_end : ab_okV MX12_end 1 := ⟨⟨wd_150, wd_1413, ⟨cn_RX12.1, cn_RX12.2.1, pd_8⟩, Nat.le_of_ble_eq_true rfl, cn_RX12.2.2.1, if_neg fun q => cn_RX12.2.2.2 q.1⟩, wd_1411, wd_1412⟩
theorem okMX12_matter : ab_okV MX12_matter 0 := ⟨⟨wd_150, wd_1417, ⟨cn_RX12.1, cn_RX12.2.1, pd_0⟩, Nat.le_of_ble_eq_true rfl, cn_RX12.2.2.1, if_neg fun q => cn_RX12.2.2.2 q.1⟩, wd_1415, wd_1416⟩
theorem okMX12_take : ab_okV MX12_take 0 := ⟨⟨wd_150, wd_1420, ⟨cn_RX12.1, cn_RX12.2.1, pd_0⟩, Nat.le_of_ble_eq_true rfl, cn_RX12.2.2.1, if_neg fun q => cn_RX12.2.2.2 q.1⟩, wd_1419, wd_69⟩
theorem okMX12_go : ab_okV MX12_go 0 := ⟨⟨wd_150, wd_1423, ⟨cn_RX12.1, cn_RX12.2.1, pd_3⟩, Nat.le_of_ble_eq_true rfl, cn_RX12.2.2.1, if_neg fun q => cn_RX12.2.2.2 q.1⟩, wd_1422, wd_70⟩
theorem okMX12_isLetter : ab_okS MX12_isLetter 1 := ⟨⟨wd_150, wd_1426, ⟨cn_RX12.1, cn_RX12.2.1, pd_8⟩, Nat.le_of_ble_eq_true rfl, cn_RX12.2.2.1, if_neg fun q => cn_RX12.2.2.2 q.1⟩, wd_1425⟩
theorem okMX12_isDigit : ab_okS MX12_isDigit 1 := ⟨⟨wd_150, wd_1429, ⟨cn_RX12.1, cn_RX12.2.1, pd_8⟩, Nat.le_of_ble_eq_true rfl, cn_RX12.2.2.1, if_neg fun q => cn_RX12.2.2.2 q.1⟩, wd_1428⟩
theorem okMX12_byteAt : ab_okV MX12_byteAt 1 := ⟨⟨wd_150, wd_1432, ⟨cn_RX12.1, cn_RX12.2.1, pd_5⟩, Nat.le_of_ble_eq_true rfl, cn_RX12.2.2.1, if_neg fun q => cn_RX12.2.2.2 q.1⟩, wd_1431, wd_71⟩
theorem okMX12_readLine : ab_okV MX12_readLine 0 := ⟨⟨wd_150, wd_1437, ⟨cn_RX12.1, cn_RX12.2.1, pd_4⟩, Nat.le_of_ble_eq_true rfl, cn_RX12.2.2.1, if_neg fun q => cn_RX12.2.2.2 q.1⟩, wd_1436, wd_72⟩
theorem okMX12_lineAtHand : ab_okV MX12_lineAtHand 0 := ⟨⟨wd_150, wd_1440, ⟨cn_RX12.1, cn_RX12.2.1, pd_0⟩, Nat.le_of_ble_eq_true rfl, cn_RX12.2.2.1, if_neg fun q => cn_RX12.2.2.2 q.1⟩, wd_1439, wd_73⟩
theorem okMX12_spelt : ab_okS MX12_spelt 5 := ⟨⟨wd_150, wd_1443, ⟨cn_RX12.1, cn_RX12.2.1, pd_20⟩, Nat.le_of_ble_eq_true rfl, cn_RX12.2.2.1, if_neg fun q => cn_RX12.2.2.2 q.1⟩, wd_1442⟩
theorem okMX12_isKey : ab_okV MX12_isKey 1 := ⟨⟨wd_150, wd_1446, ⟨cn_RX12.1, cn_RX12.2.1, pd_28⟩, Nat.le_of_ble_eq_true rfl, cn_RX12.2.2.1, if_neg fun q => cn_RX12.2.2.2 q.1⟩, wd_1445, wd_74⟩
theorem okMX12_six : ab_okS MX12_six 6 := ⟨⟨wd_150, wd_1449, ⟨cn_RX12.1, cn_RX12.2.1, pd_21⟩, Nat.le_of_ble_eq_true rfl, cn_RX12.2.2.1, if_neg fun q => cn_RX12.2.2.2 q.1⟩, wd_1448⟩
theorem okMX12_bad : ab_okV MX12_bad 1 := ⟨⟨wd_150, wd_1452, ⟨cn_RX12.1, cn_RX12.2.1, pd_8⟩, Nat.le_of_ble_eq_true rfl, cn_RX12.2.2.1, if_neg fun q => cn_RX12.2.2.2 q.1⟩, wd_1451, wd_75⟩
theorem okMX12_areTruths : ab_okV MX12_areTruths 0 := ⟨⟨wd_150, wd_1455, ⟨cn_RX12.1, cn_RX12.2.1, pd_4⟩, Nat.le_of_ble_eq_true rfl, cn_RX12.2.2.1, if_neg fun q => cn_RX12.2.2.2 q.1⟩, wd_1454, wd_76⟩
theorem okMX12_readTruthLine : ab_okV MX12_readTruthLine 0 := ⟨⟨wd_150, wd_1458, ⟨cn_RX12.1, cn_RX12.2.1, pd_4⟩, Nat.le_of_ble_eq_true rfl, cn_RX12.2.2.1, if_neg fun q => cn_RX12.2.2.2 q.1⟩, wd_1457, wd_77⟩
theorem okMX12_readNew : ab_okV MX12_readNew 0 := ⟨⟨wd_150, wd_1461, ⟨cn_RX12.1, cn_RX12.2.1, pd_4⟩, Nat.le_of_ble_eq_true rfl, cn_RX12.2.2.1, if_neg fun q => cn_RX12.2.2.2 q.1⟩, wd_1460, wd_78⟩
theorem okMX12_isName : ab_okV MX12_isName 0 := ⟨⟨wd_150, wd_1464, ⟨cn_RX12.1, cn_RX12.2.1, pd_4⟩, Nat.le_of_ble_eq_true rfl, cn_RX12.2.2.1, if_neg fun q => cn_RX12.2.2.2 q.1⟩, wd_1463, wd_79⟩
theorem okMX12_wayAtHand : ab_okV MX12_wayAtHand 0 := ⟨⟨wd_150, wd_1467, ⟨cn_RX12.1, cn_RX12.2.1, pd_0⟩, Nat.le_of_ble_eq_true rfl, cn_RX12.2.2.1, if_neg fun q => cn_RX12.2.2.2 q.1⟩, wd_1466, wd_80⟩
theorem okMX12_none : ab_okS MX12_none 0 := ⟨⟨wd_150, wd_1470, ⟨cn_RX12.1, cn_RX12.2.1, pd_1⟩, Nat.le_of_ble_eq_true rfl, cn_RX12.2.2.1, if_neg fun q => cn_RX12.2.2.2 q.1⟩, wd_1469⟩
theorem okMX12_chair : ab_okS MX12_chair 0 := ⟨⟨wd_150, wd_1473, ⟨cn_RX12.1, cn_RX12.2.1, pd_1⟩, Nat.le_of_ble_eq_true rfl, cn_RX12.2.2.1, if_neg fun q => cn_RX12.2.2.2 q.1⟩, wd_1472⟩
theorem okMX12_other : ab_okS MX12_other 0 := ⟨⟨wd_150, wd_1476, ⟨cn_RX12.1, cn_RX12.2.1, pd_1⟩, Nat.le_of_ble_eq_true rfl, cn_RX12.2.2.1, if_neg fun q => cn_RX12.2.2.2 q.1⟩, wd_1475⟩
theorem okMX12_findTruth : ab_okV MX12_findTruth 0 := ⟨⟨wd_150, wd_1479, ⟨cn_RX12.1, cn_RX12.2.1, pd_0⟩, Nat.le_of_ble_eq_true rfl, cn_RX12.2.2.1, if_neg fun q => cn_RX12.2.2.2 q.1⟩, wd_1478, wd_81⟩
theorem okMX12_findVoter : ab_okV MX12_findVoter 0 := ⟨⟨wd_150, wd_1482, ⟨cn_RX12.1, cn_RX12.2.1, pd_0⟩, Nat.le_of_ble_eq_true rfl, cn_RX12.2.2.1, if_neg fun q => cn_RX12.2.2.2 q.1⟩, wd_1481, wd_82⟩
theorem okMX12_readNumber : ab_okV MX12_readNumber 2 := ⟨⟨wd_150, wd_1485, ⟨cn_RX12.1, cn_RX12.2.1, pd_12⟩, Nat.le_of_ble_eq_true rfl, cn_RX12.2.2.1, if_neg fun q => cn_RX12.2.2.2 q.1⟩, wd_1484, wd_83⟩
theorem okMX12_isIn : ab_okS MX12_isIn 3 := ⟨⟨wd_150, wd_1488, ⟨cn_RX12.1, cn_RX12.2.1, pd_16⟩, Nat.le_of_ble_eq_true rfl, cn_RX12.2.2.1, if_neg fun q => cn_RX12.2.2.2 q.1⟩, wd_1487⟩
theorem okMX12_readVoterLine : ab_okV MX12_readVoterLine 0 := ⟨⟨wd_150, wd_1491, ⟨cn_RX12.1, cn_RX12.2.1, pd_4⟩, Nat.le_of_ble_eq_true rfl, cn_RX12.2.2.1, if_neg fun q => cn_RX12.2.2.2 q.1⟩, wd_1490, wd_84⟩
theorem okMX12_readKey : ab_okV MX12_readKey 1 := ⟨⟨wd_150, wd_1494, ⟨cn_RX12.1, cn_RX12.2.1, pd_28⟩, Nat.le_of_ble_eq_true rfl, cn_RX12.2.2.1, if_neg fun q => cn_RX12.2.2.2 q.1⟩, wd_1493, wd_85⟩
theorem okMX12_readLoss : ab_okV MX12_readLoss 0 := ⟨⟨wd_150, wd_1497, ⟨cn_RX12.1, cn_RX12.2.1, pd_4⟩, Nat.le_of_ble_eq_true rfl, cn_RX12.2.2.1, if_neg fun q => cn_RX12.2.2.2 q.1⟩, wd_1496, wd_86⟩
theorem okMX12_readTruth : ab_okV MX12_readTruth 0 := ⟨⟨wd_150, wd_1500, ⟨cn_RX12.1, cn_RX12.2.1, pd_4⟩, Nat.le_of_ble_eq_true rfl, cn_RX12.2.2.1, if_neg fun q => cn_RX12.2.2.2 q.1⟩, wd_1499, wd_87⟩
theorem okMX12_readWay : ab_okV MX12_readWay 0 := ⟨⟨wd_150, wd_1503, ⟨cn_RX12.1, cn_RX12.2.1, pd_4⟩, Nat.le_of_ble_eq_true rfl, cn_RX12.2.2.1, if_neg fun q => cn_RX12.2.2.2 q.1⟩, wd_1502, wd_88⟩
theorem okMX12_readVoter : ab_okV MX12_readVoter 0 := ⟨⟨wd_150, wd_1506, ⟨cn_RX12.1, cn_RX12.2.1, pd_4⟩, Nat.le_of_ble_eq_true rfl, cn_RX12.2.2.1, if_neg fun q => cn_RX12.2.2.2 q.1⟩, wd_1505, wd_89⟩
theorem okMX12_readRule : ab_okV MX12_readRule 0 := ⟨⟨wd_150, wd_1509, ⟨cn_RX12.1, cn_RX12.2.1, pd_4⟩, Nat.le_of_ble_eq_true rfl, cn_RX12.2.2.1, if_neg fun q => cn_RX12.2.2.2 q.1⟩, wd_1508, wd_90⟩
theorem okMX12_keep : ab_okV MX12_keep 0 := ⟨⟨wd_150, wd_1512, ⟨cn_RX12.1, cn_RX12.2.1, pd_3⟩, Nat.le_of_ble_eq_true rfl, cn_RX12.2.2.1, if_neg fun q => cn_RX12.2.2.2 q.1⟩, wd_1511, wd_91⟩
theorem okMX12_layRows : ab_okV MX12_layRows 0 := ⟨⟨wd_150, wd_1515, ⟨cn_RX12.1, cn_RX12.2.1, pd_3⟩, Nat.le_of_ble_eq_true rfl, cn_RX12.2.2.1, if_neg fun q => cn_RX12.2.2.2 q.1⟩, wd_1514, wd_92⟩
theorem okMX12_sign : ab_okV MX12_sign 2 := ⟨⟨wd_150, wd_1518, ⟨cn_RX12.1, cn_RX12.2.1, pd_9⟩, Nat.le_of_ble_eq_true rfl, cn_RX12.2.2.1, if_neg fun q => cn_RX12.2.2.2 q.1⟩, wd_1517, wd_93⟩
theorem okMX12_layVotes : ab_okV MX12_layVotes 0 := ⟨⟨wd_150, wd_1521, ⟨cn_RX12.1, cn_RX12.2.1, pd_3⟩, Nat.le_of_ble_eq_true rfl, cn_RX12.2.2.1, if_neg fun q => cn_RX12.2.2.2 q.1⟩, wd_1520, wd_94⟩
theorem okMX12_told : ab_okV MX12_told 2 := ⟨⟨wd_150, wd_1524, ⟨cn_RX12.1, cn_RX12.2.1, pd_9⟩, Nat.le_of_ble_eq_true rfl, cn_RX12.2.2.1, if_neg fun q => cn_RX12.2.2.2 q.1⟩, wd_1523, wd_95⟩
theorem okMX12_honest : ab_okV MX12_honest 2 := ⟨⟨wd_150, wd_1527, ⟨cn_RX12.1, cn_RX12.2.1, pd_9⟩, Nat.le_of_ble_eq_true rfl, cn_RX12.2.2.1, if_neg fun q => cn_RX12.2.2.2 q.1⟩, wd_1526, wd_96⟩
theorem okMX12_losing : ab_okV MX12_losing 3 := ⟨⟨wd_150, wd_1530, ⟨cn_RX12.1, cn_RX12.2.1, pd_14⟩, Nat.le_of_ble_eq_true rfl, cn_RX12.2.2.1, if_neg fun q => cn_RX12.2.2.2 q.1⟩, wd_1529, wd_97⟩
theorem okMX12_weightOf : ab_okV MX12_weightOf 3 := ⟨⟨wd_150, wd_1533, ⟨cn_RX12.1, cn_RX12.2.1, pd_14⟩, Nat.le_of_ble_eq_true rfl, cn_RX12.2.2.1, if_neg fun q => cn_RX12.2.2.2 q.1⟩, wd_1532, wd_98⟩
theorem okMX12_loss : ab_okV MX12_loss 3 := ⟨⟨wd_150, wd_1536, ⟨cn_RX12.1, cn_RX12.2.1, pd_13⟩, Nat.le_of_ble_eq_true rfl, cn_RX12.2.2.1, if_neg fun q => cn_RX12.2.2.2 q.1⟩, wd_1535, wd_99⟩
theorem okMX12_least : ab_okV MX12_least 3 := ⟨⟨wd_150, wd_1539, ⟨cn_RX12.1, cn_RX12.2.1, pd_29⟩, Nat.le_of_ble_eq_true rfl, cn_RX12.2.2.1, if_neg fun q => cn_RX12.2.2.2 q.1⟩, wd_1538, wd_100⟩
theorem okMX12_fault : ab_okV MX12_fault 0 := ⟨⟨wd_150, wd_1544, ⟨cn_RX12.1, cn_RX12.2.1, pd_0⟩, Nat.le_of_ble_eq_true rfl, cn_RX12.2.2.1, if_neg fun q => cn_RX12.2.2.2 q.1⟩, wd_1542, wd_1543⟩
theorem okMX12_count : ab_okV MX12_count 1 := ⟨⟨wd_150, wd_1548, ⟨cn_RX12.1, cn_RX12.2.1, pd_5⟩, Nat.le_of_ble_eq_true rfl, cn_RX12.2.2.1, if_neg fun q => cn_RX12.2.2.2 q.1⟩, wd_1546, wd_1547⟩
theorem okMX12_signs : ab_okV MX12_signs 1 := ⟨⟨wd_150, wd_1552, ⟨cn_RX12.1, cn_RX12.2.1, pd_5⟩, Nat.le_of_ble_eq_true rfl, cn_RX12.2.2.1, if_neg fun q => cn_RX12.2.2.2 q.1⟩, wd_1550, wd_1551⟩
theorem okMX12_isVoter : ab_okV MX12_isVoter 1 := ⟨⟨wd_150, wd_1555, ⟨cn_RX12.1, cn_RX12.2.1, pd_8⟩, Nat.le_of_ble_eq_true rfl, cn_RX12.2.2.1, if_neg fun q => cn_RX12.2.2.2 q.1⟩, wd_1554, wd_101⟩
theorem okMX12_parts : ab_okV MX12_parts 1 := ⟨⟨wd_150, wd_1559, ⟨cn_RX12.1, cn_RX12.2.1, pd_6⟩, Nat.le_of_ble_eq_true rfl, cn_RX12.2.2.1, if_neg fun q => cn_RX12.2.2.2 q.1⟩, wd_1557, wd_1558⟩
theorem okMX12_rowTold : ab_okV MX12_rowTold 0 := ⟨⟨wd_150, wd_1562, ⟨cn_RX12.1, cn_RX12.2.1, pd_0⟩, Nat.le_of_ble_eq_true rfl, cn_RX12.2.2.1, if_neg fun q => cn_RX12.2.2.2 q.1⟩, wd_1561, wd_102⟩
theorem okMX12_isTruth : ab_okV MX12_isTruth 1 := ⟨⟨wd_150, wd_1565, ⟨cn_RX12.1, cn_RX12.2.1, pd_8⟩, Nat.le_of_ble_eq_true rfl, cn_RX12.2.2.1, if_neg fun q => cn_RX12.2.2.2 q.1⟩, wd_1564, wd_103⟩
theorem okMX12_refuse : ab_okV MX12_refuse 0 := ⟨⟨wd_150, wd_1568, ⟨cn_RX12.1, cn_RX12.2.1, pd_1⟩, Nat.le_of_ble_eq_true rfl, cn_RX12.2.2.1, if_neg fun q => cn_RX12.2.2.2 q.1⟩, wd_1567, wd_104⟩
theorem okMX12_all : ab_okV MX12_all 0 := ⟨⟨wd_150, wd_1572, ⟨cn_RX12.1, cn_RX12.2.1, pd_1⟩, Nat.le_of_ble_eq_true rfl, cn_RX12.2.2.1, if_neg fun q => cn_RX12.2.2.2 q.1⟩, wd_1570, wd_1571⟩
theorem okMX12_vote : ab_okV MX12_vote 2 := ⟨⟨wd_150, wd_1576, ⟨cn_RX12.1, cn_RX12.2.1, pd_9⟩, Nat.le_of_ble_eq_true rfl, cn_RX12.2.2.1, if_neg fun q => cn_RX12.2.2.2 q.1⟩, wd_1574, wd_1575⟩
theorem okMX12_isSign : ab_okV MX12_isSign 2 := ⟨⟨wd_150, wd_1579, ⟨cn_RX12.1, cn_RX12.2.1, pd_12⟩, Nat.le_of_ble_eq_true rfl, cn_RX12.2.2.1, if_neg fun q => cn_RX12.2.2.2 q.1⟩, wd_1578, wd_105⟩
theorem okMX12_decided : ab_okV MX12_decided 0 := ⟨⟨wd_150, wd_1583, ⟨cn_RX12.1, cn_RX12.2.1, pd_0⟩, Nat.le_of_ble_eq_true rfl, cn_RX12.2.2.1, if_neg fun q => cn_RX12.2.2.2 q.1⟩, wd_1581, wd_1582⟩
theorem okMX12_decideRow : ab_okV MX12_decideRow 2 := ⟨⟨wd_150, wd_1586, ⟨cn_RX12.1, cn_RX12.2.1, pd_9⟩, Nat.le_of_ble_eq_true rfl, cn_RX12.2.2.1, if_neg fun q => cn_RX12.2.2.2 q.1⟩, wd_1585, wd_106⟩
theorem okMX12_decide : ab_okV MX12_decide 0 := ⟨⟨wd_150, wd_1589, ⟨cn_RX12.1, cn_RX12.2.1, pd_0⟩, Nat.le_of_ble_eq_true rfl, cn_RX12.2.2.1, if_neg fun q => cn_RX12.2.2.2 q.1⟩, wd_1588, wd_107⟩
theorem okMX12_right : ab_okV MX12_right 0 := ⟨⟨wd_150, wd_1593, ⟨cn_RX12.1, cn_RX12.2.1, pd_1⟩, Nat.le_of_ble_eq_true rfl, cn_RX12.2.2.1, if_neg fun q => cn_RX12.2.2.2 q.1⟩, wd_1591, wd_1592⟩
theorem okMX12_rightBy : ab_okV MX12_rightBy 1 := ⟨⟨wd_150, wd_1596, ⟨cn_RX12.1, cn_RX12.2.1, pd_6⟩, Nat.le_of_ble_eq_true rfl, cn_RX12.2.2.1, if_neg fun q => cn_RX12.2.2.2 q.1⟩, wd_1595, wd_108⟩
theorem okMX12_lost : ab_okV MX12_lost 0 := ⟨⟨wd_150, wd_1600, ⟨cn_RX12.1, cn_RX12.2.1, pd_1⟩, Nat.le_of_ble_eq_true rfl, cn_RX12.2.2.1, if_neg fun q => cn_RX12.2.2.2 q.1⟩, wd_1598, wd_1599⟩
theorem okMX12_lostBy : ab_okV MX12_lostBy 1 := ⟨⟨wd_150, wd_1603, ⟨cn_RX12.1, cn_RX12.2.1, pd_6⟩, Nat.le_of_ble_eq_true rfl, cn_RX12.2.2.1, if_neg fun q => cn_RX12.2.2.2 q.1⟩, wd_1602, wd_109⟩
theorem okMX12_comes : ab_okV MX12_comes 2 := ⟨⟨wd_150, wd_1607, ⟨cn_RX12.1, cn_RX12.2.1, pd_10⟩, Nat.le_of_ble_eq_true rfl, cn_RX12.2.2.1, if_neg fun q => cn_RX12.2.2.2 q.1⟩, wd_1605, wd_1606⟩
theorem okMX12_known : ab_okV MX12_known 0 := ⟨⟨wd_150, wd_1611, ⟨cn_RX12.1, cn_RX12.2.1, pd_0⟩, Nat.le_of_ble_eq_true rfl, cn_RX12.2.2.1, if_neg fun q => cn_RX12.2.2.2 q.1⟩, wd_1609, wd_1610⟩
theorem okMX12_knownAt : ab_okV MX12_knownAt 1 := ⟨⟨wd_150, wd_1614, ⟨cn_RX12.1, cn_RX12.2.1, pd_5⟩, Nat.le_of_ble_eq_true rfl, cn_RX12.2.2.1, if_neg fun q => cn_RX12.2.2.2 q.1⟩, wd_1613, wd_110⟩
theorem okMX12_commonly : ab_okV MX12_commonly 2 := ⟨⟨wd_150, wd_1617, ⟨cn_RX12.1, cn_RX12.2.1, pd_10⟩, Nat.le_of_ble_eq_true rfl, cn_RX12.2.2.1, if_neg fun q => cn_RX12.2.2.2 q.1⟩, wd_1616, wd_111⟩
theorem okMX12_knows : ab_okV MX12_knows 1 := ⟨⟨wd_150, wd_1621, ⟨cn_RX12.1, cn_RX12.2.1, pd_6⟩, Nat.le_of_ble_eq_true rfl, cn_RX12.2.2.1, if_neg fun q => cn_RX12.2.2.2 q.1⟩, wd_1619, wd_1620⟩
theorem okMX12_turns : ab_okV MX12_turns 2 := ⟨⟨wd_150, wd_1625, ⟨cn_RX12.1, cn_RX12.2.1, pd_10⟩, Nat.le_of_ble_eq_true rfl, cn_RX12.2.2.1, if_neg fun q => cn_RX12.2.2.2 q.1⟩, wd_1623, wd_1624⟩
theorem okMX12_turned : ab_okV MX12_turned 3 := ⟨⟨wd_150, wd_1628, ⟨cn_RX12.1, cn_RX12.2.1, pd_14⟩, Nat.le_of_ble_eq_true rfl, cn_RX12.2.2.1, if_neg fun q => cn_RX12.2.2.2 q.1⟩, wd_1627, wd_112⟩
theorem okMX12_isTurned : ab_okV MX12_isTurned 2 := ⟨⟨wd_150, wd_1631, ⟨cn_RX12.1, cn_RX12.2.1, pd_12⟩, Nat.le_of_ble_eq_true rfl, cn_RX12.2.2.1, if_neg fun q => cn_RX12.2.2.2 q.1⟩, wd_1630, wd_113⟩
theorem okMX12_decideWith : ab_okV MX12_decideWith 2 := ⟨⟨wd_150, wd_1634, ⟨cn_RX12.1, cn_RX12.2.1, pd_9⟩, Nat.le_of_ble_eq_true rfl, cn_RX12.2.2.1, if_neg fun q => cn_RX12.2.2.2 q.1⟩, wd_1633, wd_114⟩
theorem okMX12_think : ab_okV MX12_think 3 := ⟨⟨wd_150, wd_1638, ⟨cn_RX12.1, cn_RX12.2.1, pd_14⟩, Nat.le_of_ble_eq_true rfl, cn_RX12.2.2.1, if_neg fun q => cn_RX12.2.2.2 q.1⟩, wd_1636, wd_1637⟩
theorem okMX12_reply : ab_okV MX12_reply 2 := ⟨⟨wd_150, wd_1642, ⟨cn_RX12.1, cn_RX12.2.1, pd_9⟩, Nat.le_of_ble_eq_true rfl, cn_RX12.2.2.1, if_neg fun q => cn_RX12.2.2.2 q.1⟩, wd_1640, wd_1641⟩
theorem okMX12_replyBy : ab_okV MX12_replyBy 3 := ⟨⟨wd_150, wd_1645, ⟨cn_RX12.1, cn_RX12.2.1, pd_13⟩, Nat.le_of_ble_eq_true rfl, cn_RX12.2.2.1, if_neg fun q => cn_RX12.2.2.2 q.1⟩, wd_1644, wd_115⟩
theorem okMX12_fit : ab_okV MX12_fit 0 := ⟨⟨wd_150, wd_1649, ⟨cn_RX12.1, cn_RX12.2.1, pd_0⟩, Nat.le_of_ble_eq_true rfl, cn_RX12.2.2.1, if_neg fun q => cn_RX12.2.2.2 q.1⟩, wd_1647, wd_1648⟩
theorem okMX12_isFitBy : ab_okV MX12_isFitBy 1 := ⟨⟨wd_150, wd_1652, ⟨cn_RX12.1, cn_RX12.2.1, pd_8⟩, Nat.le_of_ble_eq_true rfl, cn_RX12.2.2.1, if_neg fun q => cn_RX12.2.2.2 q.1⟩, wd_1651, wd_116⟩
theorem okMX12_settle : ab_okV MX12_settle 0 := ⟨⟨wd_150, wd_1656, ⟨cn_RX12.1, cn_RX12.2.1, pd_0⟩, Nat.le_of_ble_eq_true rfl, cn_RX12.2.2.1, if_neg fun q => cn_RX12.2.2.2 q.1⟩, wd_1654, wd_1655⟩
theorem okMX12_tryTold : ab_okV MX12_tryTold 0 := ⟨⟨wd_150, wd_1659, ⟨cn_RX12.1, cn_RX12.2.1, pd_3⟩, Nat.le_of_ble_eq_true rfl, cn_RX12.2.2.1, if_neg fun q => cn_RX12.2.2.2 q.1⟩, wd_1658, wd_117⟩
theorem okMX12_settled : ab_okV MX12_settled 2 := ⟨⟨wd_150, wd_1663, ⟨cn_RX12.1, cn_RX12.2.1, pd_9⟩, Nat.le_of_ble_eq_true rfl, cn_RX12.2.2.1, if_neg fun q => cn_RX12.2.2.2 q.1⟩, wd_1661, wd_1662⟩
theorem okMX12_settles : ab_okV MX12_settles 1 := ⟨⟨wd_150, wd_1667, ⟨cn_RX12.1, cn_RX12.2.1, pd_6⟩, Nat.le_of_ble_eq_true rfl, cn_RX12.2.2.1, if_neg fun q => cn_RX12.2.2.2 q.1⟩, wd_1665, wd_1666⟩
theorem okMX12_inTurns : ab_okV MX12_inTurns 0 := ⟨⟨wd_150, wd_1671, ⟨cn_RX12.1, cn_RX12.2.1, pd_1⟩, Nat.le_of_ble_eq_true rfl, cn_RX12.2.2.1, if_neg fun q => cn_RX12.2.2.2 q.1⟩, wd_1669, wd_1670⟩
theorem okMX12_speak : ab_okV MX12_speak 0 := ⟨⟨wd_150, wd_1674, ⟨cn_RX12.1, cn_RX12.2.1, pd_3⟩, Nat.le_of_ble_eq_true rfl, cn_RX12.2.2.1, if_neg fun q => cn_RX12.2.2.2 q.1⟩, wd_1673, wd_118⟩
theorem okMX12_speakRow : ab_okV MX12_speakRow 1 := ⟨⟨wd_150, wd_1677, ⟨cn_RX12.1, cn_RX12.2.1, pd_5⟩, Nat.le_of_ble_eq_true rfl, cn_RX12.2.2.1, if_neg fun q => cn_RX12.2.2.2 q.1⟩, wd_1676, wd_119⟩
theorem okMX12_cliffOfSaid : ab_okV MX12_cliffOfSaid 1 := ⟨⟨wd_150, wd_1680, ⟨cn_RX12.1, cn_RX12.2.1, pd_5⟩, Nat.le_of_ble_eq_true rfl, cn_RX12.2.2.1, if_neg fun q => cn_RX12.2.2.2 q.1⟩, wd_1679, wd_120⟩
theorem okMX12_lostInTurns : ab_okV MX12_lostInTurns 0 := ⟨⟨wd_150, wd_1683, ⟨cn_RX12.1, cn_RX12.2.1, pd_1⟩, Nat.le_of_ble_eq_true rfl, cn_RX12.2.2.1, if_neg fun q => cn_RX12.2.2.2 q.1⟩, wd_1682, wd_121⟩
theorem okMX12_herd : ab_okV MX12_herd 1 := ⟨⟨wd_150, wd_1687, ⟨cn_RX12.1, cn_RX12.2.1, pd_6⟩, Nat.le_of_ble_eq_true rfl, cn_RX12.2.2.1, if_neg fun q => cn_RX12.2.2.2 q.1⟩, wd_1685, wd_1686⟩
theorem okMX12_says : ab_okV MX12_says 0 := ⟨⟨wd_150, wd_1691, ⟨cn_RX12.1, cn_RX12.2.1, pd_0⟩, Nat.le_of_ble_eq_true rfl, cn_RX12.2.2.1, if_neg fun q => cn_RX12.2.2.2 q.1⟩, wd_1689, wd_1690⟩
theorem okMX12_speakTold : ab_okV MX12_speakTold 0 := ⟨⟨wd_150, wd_1694, ⟨cn_RX12.1, cn_RX12.2.1, pd_4⟩, Nat.le_of_ble_eq_true rfl, cn_RX12.2.2.1, if_neg fun q => cn_RX12.2.2.2 q.1⟩, wd_1693, wd_122⟩
theorem okMX12_cliff : ab_okV MX12_cliff 0 := ⟨⟨wd_150, wd_1698, ⟨cn_RX12.1, cn_RX12.2.1, pd_0⟩, Nat.le_of_ble_eq_true rfl, cn_RX12.2.2.1, if_neg fun q => cn_RX12.2.2.2 q.1⟩, wd_1696, wd_1697⟩
theorem okMX12_bestOrder : ab_okV MX12_bestOrder 0 := ⟨⟨wd_150, wd_1702, ⟨cn_RX12.1, cn_RX12.2.1, pd_0⟩, Nat.le_of_ble_eq_true rfl, cn_RX12.2.2.1, if_neg fun q => cn_RX12.2.2.2 q.1⟩, wd_1700, wd_1701⟩
theorem okMX12_goOn : ab_okV MX12_goOn 0 := ⟨⟨wd_150, wd_1706, ⟨cn_RX12.1, cn_RX12.2.1, pd_4⟩, Nat.le_of_ble_eq_true rfl, cn_RX12.2.2.1, if_neg fun q => cn_RX12.2.2.2 q.1⟩, wd_1705, wd_123⟩
theorem okMX12_exchange : ab_okV MX12_exchange 2 := ⟨⟨wd_150, wd_1709, ⟨cn_RX12.1, cn_RX12.2.1, pd_11⟩, Nat.le_of_ble_eq_true rfl, cn_RX12.2.2.1, if_neg fun q => cn_RX12.2.2.2 q.1⟩, wd_1708, wd_124⟩
theorem okMX12_bestRule : ab_okV MX12_bestRule 0 := ⟨⟨wd_150, wd_1713, ⟨cn_RX12.1, cn_RX12.2.1, pd_1⟩, Nat.le_of_ble_eq_true rfl, cn_RX12.2.2.1, if_neg fun q => cn_RX12.2.2.2 q.1⟩, wd_1711, wd_1712⟩
theorem okMX12_layByVotes : ab_okV MX12_layByVotes 0 := ⟨⟨wd_150, wd_1716, ⟨cn_RX12.1, cn_RX12.2.1, pd_3⟩, Nat.le_of_ble_eq_true rfl, cn_RX12.2.2.1, if_neg fun q => cn_RX12.2.2.2 q.1⟩, wd_1715, wd_125⟩
theorem okMX12_votesOf : ab_okV MX12_votesOf 1 := ⟨⟨wd_150, wd_1719, ⟨cn_RX12.1, cn_RX12.2.1, pd_5⟩, Nat.le_of_ble_eq_true rfl, cn_RX12.2.2.1, if_neg fun q => cn_RX12.2.2.2 q.1⟩, wd_1718, wd_126⟩
theorem okMX12_bar : ab_okV MX12_bar 2 := ⟨⟨wd_150, wd_1723, ⟨cn_RX12.1, cn_RX12.2.1, pd_9⟩, Nat.le_of_ble_eq_true rfl, cn_RX12.2.2.1, if_neg fun q => cn_RX12.2.2.2 q.1⟩, wd_1721, wd_1722⟩
theorem okMX12_layByWeight : ab_okV MX12_layByWeight 3 := ⟨⟨wd_150, wd_1726, ⟨cn_RX12.1, cn_RX12.2.1, pd_25⟩, Nat.le_of_ble_eq_true rfl, cn_RX12.2.2.1, if_neg fun q => cn_RX12.2.2.2 q.1⟩, wd_1725, wd_127⟩
theorem okMX12_lostByNeed : ab_okV MX12_lostByNeed 4 := ⟨⟨wd_150, wd_1729, ⟨cn_RX12.1, cn_RX12.2.1, pd_17⟩, Nat.le_of_ble_eq_true rfl, cn_RX12.2.2.1, if_neg fun q => cn_RX12.2.2.2 q.1⟩, wd_1728, wd_128⟩
theorem okMX12_barLost : ab_okV MX12_barLost 0 := ⟨⟨wd_150, wd_1733, ⟨cn_RX12.1, cn_RX12.2.1, pd_1⟩, Nat.le_of_ble_eq_true rfl, cn_RX12.2.2.1, if_neg fun q => cn_RX12.2.2.2 q.1⟩, wd_1731, wd_1732⟩
theorem okMX12_weighed : ab_okV MX12_weighed 0 := ⟨⟨wd_150, wd_1737, ⟨cn_RX12.1, cn_RX12.2.1, pd_1⟩, Nat.le_of_ble_eq_true rfl, cn_RX12.2.2.1, if_neg fun q => cn_RX12.2.2.2 q.1⟩, wd_1735, wd_1736⟩
theorem okMX12_weighedAt : ab_okV MX12_weighedAt 1 := ⟨⟨wd_150, wd_1741, ⟨cn_RX12.1, cn_RX12.2.1, pd_5⟩, Nat.le_of_ble_eq_true rfl, cn_RX12.2.2.1, if_neg fun q => cn_RX12.2.2.2 q.1⟩, wd_1739, wd_1740⟩
theorem okMX12_silent : ab_okV MX12_silent 0 := ⟨⟨wd_150, wd_1745, ⟨cn_RX12.1, cn_RX12.2.1, pd_0⟩, Nat.le_of_ble_eq_true rfl, cn_RX12.2.2.1, if_neg fun q => cn_RX12.2.2.2 q.1⟩, wd_1743, wd_1744⟩
theorem okMX12_lostWithout : ab_okV MX12_lostWithout 2 := ⟨⟨wd_150, wd_1748, ⟨cn_RX12.1, cn_RX12.2.1, pd_10⟩, Nat.le_of_ble_eq_true rfl, cn_RX12.2.2.1, if_neg fun q => cn_RX12.2.2.2 q.1⟩, wd_1747, wd_129⟩
theorem okMX12_silence : ab_okV MX12_silence 1 := ⟨⟨wd_150, wd_1751, ⟨cn_RX12.1, cn_RX12.2.1, pd_7⟩, Nat.le_of_ble_eq_true rfl, cn_RX12.2.2.1, if_neg fun q => cn_RX12.2.2.2 q.1⟩, wd_1750, wd_130⟩
theorem okMX12_helps : ab_okV MX12_helps 2 := ⟨⟨wd_150, wd_1755, ⟨cn_RX12.1, cn_RX12.2.1, pd_9⟩, Nat.le_of_ble_eq_true rfl, cn_RX12.2.2.1, if_neg fun q => cn_RX12.2.2.2 q.1⟩, wd_1753, wd_1754⟩
theorem okMX12_believed : ab_okV MX12_believed 3 := ⟨⟨wd_150, wd_1759, ⟨cn_RX12.1, cn_RX12.2.1, pd_13⟩, Nat.le_of_ble_eq_true rfl, cn_RX12.2.2.1, if_neg fun q => cn_RX12.2.2.2 q.1⟩, wd_1757, wd_1758⟩
theorem okMX12_wordOf : ab_okS MX12_wordOf 3 := ⟨⟨wd_150, wd_1762, ⟨cn_RX12.1, cn_RX12.2.1, pd_13⟩, Nat.le_of_ble_eq_true rfl, cn_RX12.2.2.1, if_neg fun q => cn_RX12.2.2.2 q.1⟩, wd_1761⟩
theorem okMX12_both : ab_okV MX12_both 5 := ⟨⟨wd_150, wd_1765, ⟨cn_RX12.1, cn_RX12.2.1, pd_20⟩, Nat.le_of_ble_eq_true rfl, cn_RX12.2.2.1, if_neg fun q => cn_RX12.2.2.2 q.1⟩, wd_1764, wd_131⟩
theorem okMX12_lostByWord : ab_okV MX12_lostByWord 4 := ⟨⟨wd_150, wd_1768, ⟨cn_RX12.1, cn_RX12.2.1, pd_17⟩, Nat.le_of_ble_eq_true rfl, cn_RX12.2.2.1, if_neg fun q => cn_RX12.2.2.2 q.1⟩, wd_1767, wd_132⟩
theorem okMX12_minutes : ab_okV MX12_minutes 2 := ⟨⟨wd_150, wd_1772, ⟨cn_RX12.1, cn_RX12.2.1, pd_10⟩, Nat.le_of_ble_eq_true rfl, cn_RX12.2.2.1, if_neg fun q => cn_RX12.2.2.2 q.1⟩, wd_1770, wd_1771⟩
theorem okMX12_areVotesTold : ab_okV MX12_areVotesTold 0 := ⟨⟨wd_150, wd_1775, ⟨cn_RX12.1, cn_RX12.2.1, pd_4⟩, Nat.le_of_ble_eq_true rfl, cn_RX12.2.2.1, if_neg fun q => cn_RX12.2.2.2 q.1⟩, wd_1774, wd_133⟩
theorem okMX12_votesAsTold : ab_okV MX12_votesAsTold 1 := ⟨⟨wd_150, wd_1778, ⟨cn_RX12.1, cn_RX12.2.1, pd_8⟩, Nat.le_of_ble_eq_true rfl, cn_RX12.2.2.1, if_neg fun q => cn_RX12.2.2.2 q.1⟩, wd_1777, wd_134⟩
theorem okMX12_allOf : ab_okV MX12_allOf 1 := ⟨⟨wd_150, wd_1781, ⟨cn_RX12.1, cn_RX12.2.1, pd_6⟩, Nat.le_of_ble_eq_true rfl, cn_RX12.2.2.1, if_neg fun q => cn_RX12.2.2.2 q.1⟩, wd_1780, wd_135⟩
theorem okMX12_shut : ab_okV MX12_shut 3 := ⟨⟨wd_150, wd_1785, ⟨cn_RX12.1, cn_RX12.2.1, pd_14⟩, Nat.le_of_ble_eq_true rfl, cn_RX12.2.2.1, if_neg fun q => cn_RX12.2.2.2 q.1⟩, wd_1783, wd_1784⟩
theorem okMX12_guess : ab_okV MX12_guess 0 := ⟨⟨wd_150, wd_1789, ⟨cn_RX12.1, cn_RX12.2.1, pd_0⟩, Nat.le_of_ble_eq_true rfl, cn_RX12.2.2.1, if_neg fun q => cn_RX12.2.2.2 q.1⟩, wd_1787, wd_1788⟩
theorem okMX12_fits : ab_okV MX12_fits 0 := ⟨⟨wd_150, wd_1793, ⟨cn_RX12.1, cn_RX12.2.1, pd_0⟩, Nat.le_of_ble_eq_true rfl, cn_RX12.2.2.1, if_neg fun q => cn_RX12.2.2.2 q.1⟩, wd_1791, wd_1792⟩
theorem okMX12_fitAt : ab_okV MX12_fitAt 2 := ⟨⟨wd_150, wd_1797, ⟨cn_RX12.1, cn_RX12.2.1, pd_9⟩, Nat.le_of_ble_eq_true rfl, cn_RX12.2.2.1, if_neg fun q => cn_RX12.2.2.2 q.1⟩, wd_1795, wd_1796⟩
theorem okMX12_many : ab_okV MX12_many 2 := ⟨⟨wd_150, wd_1801, ⟨cn_RX12.1, cn_RX12.2.1, pd_10⟩, Nat.le_of_ble_eq_true rfl, cn_RX12.2.2.1, if_neg fun q => cn_RX12.2.2.2 q.1⟩, wd_1799, wd_1800⟩
theorem okMX12_run : ab_okV MX12_run 2 := ⟨⟨wd_150, wd_1805, ⟨cn_RX12.1, cn_RX12.2.1, pd_9⟩, Nat.le_of_ble_eq_true rfl, cn_RX12.2.2.1, if_neg fun q => cn_RX12.2.2.2 q.1⟩, wd_1803, wd_1804⟩
theorem okMX12_draw : ab_okV MX12_draw 0 := ⟨⟨wd_150, wd_1808, ⟨cn_RX12.1, cn_RX12.2.1, pd_0⟩, Nat.le_of_ble_eq_true rfl, cn_RX12.2.2.1, if_neg fun q => cn_RX12.2.2.2 q.1⟩, wd_1807, wd_136⟩
