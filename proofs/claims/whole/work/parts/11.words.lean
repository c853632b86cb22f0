theorem tbm {w : Cond} (h : w ∈ lw_tbl) (hg : goodWord w = true) : w ∈ TB := List.mem_filter.mpr ⟨h, hg⟩
theorem tb0 {w : Cond} (i : Nat) (h : (k2_sels lw_privs)[i]? = some w) (hg : goodWord w = true) : w ∈ TB := tbm (List.mem_append_left _ (List.mem_of_getElem? h)) hg
theorem tb1 {w : Cond} (i : Nat) (h : tables_1_1[i]? = some w) (hg : goodWord w = true) : w ∈ TB := tbm (List.mem_append_right _ (List.mem_append_left _ (List.mem_of_getElem? h))) hg
theorem tb2 {w : Cond} (i : Nat) (h : tables_1_2[i]? = some w) (hg : goodWord w = true) : w ∈ TB := tbm (List.mem_append_right _ (List.mem_append_right _ (List.mem_append_left _ (List.mem_of_getElem? h)))) hg
theorem tb3 {w : Cond} (i : Nat) (h : tables_1_3[i]? = some w) (hg : goodWord w = true) : w ∈ TB := tbm (List.mem_append_right _ (List.mem_append_right _ (List.mem_append_right _ (List.mem_append_left _ (List.mem_of_getElem? h))))) hg
theorem tb4 {w : Cond} (i : Nat) (h : tables_1_4[i]? = some w) (hg : goodWord w = true) : w ∈ TB := tbm (List.mem_append_right _ (List.mem_append_right _ (List.mem_append_right _ (List.mem_append_right _ (List.mem_append_left _ (List.mem_of_getElem? h)))))) hg
theorem tb5 {w : Cond} (i : Nat) (h : tables_1_5[i]? = some w) (hg : goodWord w = true) : w ∈ TB := tbm (List.mem_append_right _ (List.mem_append_right _ (List.mem_append_right _ (List.mem_append_right _ (List.mem_append_right _ (List.mem_append_left _ (List.mem_of_getElem? h))))))) hg
theorem tb6 {w : Cond} (i : Nat) (h : tables_1_6[i]? = some w) (hg : goodWord w = true) : w ∈ TB := tbm (List.mem_append_right _ (List.mem_append_right _ (List.mem_append_right _ (List.mem_append_right _ (List.mem_append_right _ (List.mem_append_right _ (List.mem_append_left _ (List.mem_of_getElem? h)))))))) hg
theorem tb7 {w : Cond} (i : Nat) (h : tables_1_7[i]? = some w) (hg : goodWord w = true) : w ∈ TB := tbm (List.mem_append_right _ (List.mem_append_right _ (List.mem_append_right _ (List.mem_append_right _ (List.mem_append_right _ (List.mem_append_right _ (List.mem_append_right _ (List.mem_of_getElem? h)))))))) hg
theorem w_0 : (Cond.selects "RightKeys$Laws" ⟨"RightKeys$Laws", "putDefault", "(III)V"⟩ ⟨"RightKeys$Laws", "putDefault", "(III)V"⟩) ∈ TB := tb0 0 rfl rfl
theorem w_1 : (Cond.selects "RightKeys" ⟨"RightKeys", "putBytes", "(I)V"⟩ ⟨"RightKeys", "putBytes", "(I)V"⟩) ∈ TB := tb0 1 rfl rfl
theorem w_2 : (Cond.selects "RightKeys$Tokens" ⟨"RightKeys$Tokens", "put", "(IIJ)V"⟩ ⟨"RightKeys$Tokens", "put", "(IIJ)V"⟩) ∈ TB := tb0 2 rfl rfl
theorem w_3 : (Cond.selects "RightKeys$Reader" ⟨"RightKeys$Reader", "kindHere", "()I"⟩ ⟨"RightKeys$Reader", "kindHere", "()I"⟩) ∈ TB := tb0 3 rfl rfl
theorem w_4 : (Cond.selects "RightKeys$Reader" ⟨"RightKeys$Reader", "readTell", "()Z"⟩ ⟨"RightKeys$Reader", "readTell", "()Z"⟩) ∈ TB := tb0 4 rfl rfl
theorem w_5 : (Cond.selects "RightKeys$Reader" ⟨"RightKeys$Reader", "readHouse", "()Z"⟩ ⟨"RightKeys$Reader", "readHouse", "()Z"⟩) ∈ TB := tb0 5 rfl rfl
theorem w_6 : (Cond.selects "RightKeys$Reader" ⟨"RightKeys$Reader", "stop", "(I)Z"⟩ ⟨"RightKeys$Reader", "stop", "(I)Z"⟩) ∈ TB := tb0 6 rfl rfl
theorem w_7 : (Cond.selects "RightKeys$Reader" ⟨"RightKeys$Reader", "take", "(I)Z"⟩ ⟨"RightKeys$Reader", "take", "(I)Z"⟩) ∈ TB := tb0 7 rfl rfl
theorem w_8 : (Cond.selects "RightKeys$Reader" ⟨"RightKeys$Reader", "valueHere", "()J"⟩ ⟨"RightKeys$Reader", "valueHere", "()J"⟩) ∈ TB := tb0 8 rfl rfl
theorem w_9 : (Cond.selects "RightKeys$Reader" ⟨"RightKeys$Reader", "note", "(I)V"⟩ ⟨"RightKeys$Reader", "note", "(I)V"⟩) ∈ TB := tb0 9 rfl rfl
theorem w_10 : (Cond.selects "RightKeys$Reader" ⟨"RightKeys$Reader", "intHere", "(I)I"⟩ ⟨"RightKeys$Reader", "intHere", "(I)I"⟩) ∈ TB := tb0 10 rfl rfl
theorem w_11 : (Cond.selects "RightKeys$Reader" ⟨"RightKeys$Reader", "readSpare", "()Z"⟩ ⟨"RightKeys$Reader", "readSpare", "()Z"⟩) ∈ TB := tb0 11 rfl rfl
theorem w_12 : (Cond.selects "RightKeys$Reader" ⟨"RightKeys$Reader", "houseHere", "()I"⟩ ⟨"RightKeys$Reader", "houseHere", "()I"⟩) ∈ TB := tb0 12 rfl rfl
theorem w_13 : (Cond.selects "RightKeys$Reader" ⟨"RightKeys$Reader", "readBoth", "()Z"⟩ ⟨"RightKeys$Reader", "readBoth", "()Z"⟩) ∈ TB := tb0 13 rfl rfl
theorem w_14 : (Cond.selects "RightKeys$Reader" ⟨"RightKeys$Reader", "readLaw", "(I)Z"⟩ ⟨"RightKeys$Reader", "readLaw", "(I)Z"⟩) ∈ TB := tb0 14 rfl rfl
theorem w_15 : (Cond.selects "RightKeys$Reader" ⟨"RightKeys$Reader", "readIf", "()Z"⟩ ⟨"RightKeys$Reader", "readIf", "()Z"⟩) ∈ TB := tb0 15 rfl rfl
theorem w_16 : (Cond.selects "RightKeys$Reader" ⟨"RightKeys$Reader", "readSum", "(I)Z"⟩ ⟨"RightKeys$Reader", "readSum", "(I)Z"⟩) ∈ TB := tb0 16 rfl rfl
theorem w_17 : (Cond.selects "RightKeys$Reader" ⟨"RightKeys$Reader", "readProduct", "(I)Z"⟩ ⟨"RightKeys$Reader", "readProduct", "(I)Z"⟩) ∈ TB := tb0 17 rfl rfl
theorem w_18 : (Cond.selects "RightKeys$Reader" ⟨"RightKeys$Reader", "readUnit", "(I)Z"⟩ ⟨"RightKeys$Reader", "readUnit", "(I)Z"⟩) ∈ TB := tb0 18 rfl rfl
theorem w_19 : (Cond.selects "RightKeys$Reader" ⟨"RightKeys$Reader", "readSeed", "()Z"⟩ ⟨"RightKeys$Reader", "readSeed", "()Z"⟩) ∈ TB := tb0 19 rfl rfl
theorem w_20 : (Cond.selects "RightKeys" ⟨"RightKeys", "takeDraft", "()V"⟩ ⟨"RightKeys", "takeDraft", "()V"⟩) ∈ TB := tb0 20 rfl rfl
theorem w_21 : (Cond.selects "RightKeys" ⟨"RightKeys", "isHouse", "(I)Z"⟩ ⟨"RightKeys", "isHouse", "(I)Z"⟩) ∈ TB := tb0 21 rfl rfl
theorem w_22 : (Cond.selects "RightKeys$Ring" ⟨"RightKeys$Ring", "setVariables", "(IIIII)V"⟩ ⟨"RightKeys$Ring", "setVariables", "(IIIII)V"⟩) ∈ TB := tb0 22 rfl rfl
theorem w_23 : (Cond.selects "RightKeys" ⟨"RightKeys", "isSpare", "(I)Z"⟩ ⟨"RightKeys", "isSpare", "(I)Z"⟩) ∈ TB := tb0 23 rfl rfl
theorem w_24 : (Cond.selects "RightKeys$Ring" ⟨"RightKeys$Ring", "leftOf", "(I)I"⟩ ⟨"RightKeys$Ring", "leftOf", "(I)I"⟩) ∈ TB := tb0 24 rfl rfl
theorem w_25 : (Cond.selects "RightKeys$Ring" ⟨"RightKeys$Ring", "rightOf", "(I)I"⟩ ⟨"RightKeys$Ring", "rightOf", "(I)I"⟩) ∈ TB := tb0 25 rfl rfl
theorem w_26 : (Cond.selects "RightKeys$Ring" ⟨"RightKeys$Ring", "hasOwnSpare", "(I)Z"⟩ ⟨"RightKeys$Ring", "hasOwnSpare", "(I)Z"⟩) ∈ TB := tb0 26 rfl rfl
theorem w_27 : (Cond.selects "RightKeys$Ring" ⟨"RightKeys$Ring", "isOut", "(I)Z"⟩ ⟨"RightKeys$Ring", "isOut", "(I)Z"⟩) ∈ TB := tb0 27 rfl rfl
theorem w_28 : (Cond.selects "RightKeys" ⟨"RightKeys", "allHouses", "()I"⟩ ⟨"RightKeys", "allHouses", "()I"⟩) ∈ TB := tb0 28 rfl rfl
theorem w_29 : (Cond.selects "RightKeys" ⟨"RightKeys", "remember", "()V"⟩ ⟨"RightKeys", "remember", "()V"⟩) ∈ TB := tb0 29 rfl rfl
theorem w_30 : (Cond.selects "RightKeys$Ring" ⟨"RightKeys$Ring", "passSparesOn", "()V"⟩ ⟨"RightKeys$Ring", "passSparesOn", "()V"⟩) ∈ TB := tb0 30 rfl rfl
theorem w_31 : (Cond.selects "RightKeys$Ring" ⟨"RightKeys$Ring", "letPeopleGo", "()I"⟩ ⟨"RightKeys$Ring", "letPeopleGo", "()I"⟩) ∈ TB := tb0 31 rfl rfl
theorem w_32 : (Cond.selects "RightKeys$Ring" ⟨"RightKeys$Ring", "letPeopleCome", "(I)V"⟩ ⟨"RightKeys$Ring", "letPeopleCome", "(I)V"⟩) ∈ TB := tb0 32 rfl rfl
theorem w_33 : (Cond.selects "RightKeys$Ring" ⟨"RightKeys$Ring", "isLate", "(I)Z"⟩ ⟨"RightKeys$Ring", "isLate", "(I)Z"⟩) ∈ TB := tb0 33 rfl rfl
theorem w_34 : (Cond.selects "RightKeys$Ring" ⟨"RightKeys$Ring", "letInIfCan", "(I)Z"⟩ ⟨"RightKeys$Ring", "letInIfCan", "(I)Z"⟩) ∈ TB := tb0 34 rfl rfl
theorem w_35 : (Cond.selects "RightKeys$Ring" ⟨"RightKeys$Ring", "letPeopleWait", "()V"⟩ ⟨"RightKeys$Ring", "letPeopleWait", "()V"⟩) ∈ TB := tb0 35 rfl rfl
theorem w_36 : (Cond.selects "RightKeys$Ring" ⟨"RightKeys$Ring", "quarrelOf", "(I)I"⟩ ⟨"RightKeys$Ring", "quarrelOf", "(I)I"⟩) ∈ TB := tb0 36 rfl rfl
theorem w_37 : (Cond.selects "RightKeys" ⟨"RightKeys", "startTrial", "()V"⟩ ⟨"RightKeys", "startTrial", "()V"⟩) ∈ TB := tb0 37 rfl rfl
theorem w_38 : (Cond.selects "RightKeys$Watch" ⟨"RightKeys$Watch", "note", "(II)V"⟩ ⟨"RightKeys$Watch", "note", "(II)V"⟩) ∈ TB := tb0 38 rfl rfl
theorem w_39 : (Cond.selects "RightKeys" ⟨"RightKeys", "tryHours", "(II)V"⟩ ⟨"RightKeys", "tryHours", "(II)V"⟩) ∈ TB := tb0 39 rfl rfl
theorem w_40 : (Cond.selects "RightKeys" ⟨"RightKeys", "agrees", "(II)Z"⟩ ⟨"RightKeys", "agrees", "(II)Z"⟩) ∈ TB := tb0 40 rfl rfl
theorem w_41 : (Cond.selects "RightKeys" ⟨"RightKeys", "bestToAsk", "(I)I"⟩ ⟨"RightKeys", "bestToAsk", "(I)I"⟩) ∈ TB := tb0 41 rfl rfl
theorem w_42 : (Cond.selects "RightKeys" ⟨"RightKeys", "countStood", "(II)I"⟩ ⟨"RightKeys", "countStood", "(II)I"⟩) ∈ TB := tb0 42 rfl rfl
theorem w_43 : (Cond.selects "RightKeysModel" ⟨"RightKeysModel", "plain", "(I)V"⟩ ⟨"RightKeysModel", "plain", "(I)V"⟩) ∈ TB := tb0 43 rfl rfl
theorem w_44 : (Cond.selects "RightKeysModel" ⟨"RightKeysModel", "begins", "()V"⟩ ⟨"RightKeysModel", "begins", "()V"⟩) ∈ TB := tb0 44 rfl rfl
theorem w_45 : (Cond.selects "RightKeysModel" ⟨"RightKeysModel", "keepsRow", "()V"⟩ ⟨"RightKeysModel", "keepsRow", "()V"⟩) ∈ TB := tb0 45 rfl rfl
theorem w_46 : (Cond.selects "RightKeysModel" ⟨"RightKeysModel", "put", "(I)V"⟩ ⟨"RightKeysModel", "put", "(I)V"⟩) ∈ TB := tb0 46 rfl rfl
theorem w_47 : (Cond.selects "RightKeysModel" ⟨"RightKeysModel", "cut", "()V"⟩ ⟨"RightKeysModel", "cut", "()V"⟩) ∈ TB := tb0 47 rfl rfl
theorem w_48 : (Cond.selects "RightKeysModel" ⟨"RightKeysModel", "byteAt", "(I)I"⟩ ⟨"RightKeysModel", "byteAt", "(I)I"⟩) ∈ TB := tb0 48 rfl rfl
theorem w_49 : (Cond.selects "RightKeysModel" ⟨"RightKeysModel", "token", "(IIIJ)V"⟩ ⟨"RightKeysModel", "token", "(IIIJ)V"⟩) ∈ TB := tb0 49 rfl rfl
theorem w_50 : (Cond.selects "RightKeysModel" ⟨"RightKeysModel", "sign", "(III)I"⟩ ⟨"RightKeysModel", "sign", "(III)I"⟩) ∈ TB := tb0 50 rfl rfl
theorem w_51 : (Cond.selects "RightKeysModel" ⟨"RightKeysModel", "is", "(I)Z"⟩ ⟨"RightKeysModel", "is", "(I)Z"⟩) ∈ TB := tb0 51 rfl rfl
theorem w_52 : (Cond.selects "RightKeysModel" ⟨"RightKeysModel", "tellOne", "()V"⟩ ⟨"RightKeysModel", "tellOne", "()V"⟩) ∈ TB := tb0 52 rfl rfl
theorem w_53 : (Cond.selects "RightKeysModel" ⟨"RightKeysModel", "roomFor", "(II)V"⟩ ⟨"RightKeysModel", "roomFor", "(II)V"⟩) ∈ TB := tb0 53 rfl rfl
theorem w_54 : (Cond.selects "RightKeysModel" ⟨"RightKeysModel", "fail", "(I)V"⟩ ⟨"RightKeysModel", "fail", "(I)V"⟩) ∈ TB := tb0 54 rfl rfl
theorem w_55 : (Cond.selects "RightKeysModel" ⟨"RightKeysModel", "goesOn", "()V"⟩ ⟨"RightKeysModel", "goesOn", "()V"⟩) ∈ TB := tb0 55 rfl rfl
theorem w_56 : (Cond.selects "RightKeysModel" ⟨"RightKeysModel", "tellHouse", "()V"⟩ ⟨"RightKeysModel", "tellHouse", "()V"⟩) ∈ TB := tb0 56 rfl rfl
theorem w_57 : (Cond.selects "RightKeysModel" ⟨"RightKeysModel", "must", "(I)V"⟩ ⟨"RightKeysModel", "must", "(I)V"⟩) ∈ TB := tb0 57 rfl rfl
theorem w_58 : (Cond.selects "RightKeysModel" ⟨"RightKeysModel", "wrong", "(II)V"⟩ ⟨"RightKeysModel", "wrong", "(II)V"⟩) ∈ TB := tb0 58 rfl rfl
theorem w_59 : (Cond.selects "RightKeysModel" ⟨"RightKeysModel", "bounded", "(II)I"⟩ ⟨"RightKeysModel", "bounded", "(II)I"⟩) ∈ TB := tb0 59 rfl rfl
theorem w_60 : (Cond.selects "RightKeysModel" ⟨"RightKeysModel", "tellSpare", "()V"⟩ ⟨"RightKeysModel", "tellSpare", "()V"⟩) ∈ TB := tb0 60 rfl rfl
theorem w_61 : (Cond.selects "RightKeysModel" ⟨"RightKeysModel", "known", "()I"⟩ ⟨"RightKeysModel", "known", "()I"⟩) ∈ TB := tb0 61 rfl rfl
theorem w_62 : (Cond.selects "RightKeysModel" ⟨"RightKeysModel", "tellLaw", "(I)V"⟩ ⟨"RightKeysModel", "tellLaw", "(I)V"⟩) ∈ TB := tb0 62 rfl rfl
theorem w_63 : (Cond.selects "RightKeysModel" ⟨"RightKeysModel", "expression", "()V"⟩ ⟨"RightKeysModel", "expression", "()V"⟩) ∈ TB := tb0 63 rfl rfl
theorem w_64 : (Cond.selects "RightKeysModel" ⟨"RightKeysModel", "unit", "()V"⟩ ⟨"RightKeysModel", "unit", "()V"⟩) ∈ TB := tb0 64 rfl rfl
theorem w_65 : (Cond.selects "RightKeysModel" ⟨"RightKeysModel", "emit", "(II)V"⟩ ⟨"RightKeysModel", "emit", "(II)V"⟩) ∈ TB := tb0 65 rfl rfl
theorem w_66 : (Cond.selects "RightKeysModel" ⟨"RightKeysModel", "comesOut", "(Z)V"⟩ ⟨"RightKeysModel", "comesOut", "(Z)V"⟩) ∈ TB := tb0 66 rfl rfl
theorem w_67 : (Cond.selects "RightKeysModel" ⟨"RightKeysModel", "term", "()V"⟩ ⟨"RightKeysModel", "term", "()V"⟩) ∈ TB := tb0 67 rfl rfl
theorem w_68 : (Cond.selects "RightKeysModel" ⟨"RightKeysModel", "isHouse", "(I)Z"⟩ ⟨"RightKeysModel", "isHouse", "(I)Z"⟩) ∈ TB := tb0 68 rfl rfl
theorem w_69 : (Cond.selects "RightKeysModel" ⟨"RightKeysModel", "copies", "()V"⟩ ⟨"RightKeysModel", "copies", "()V"⟩) ∈ TB := tb0 69 rfl rfl
theorem w_70 : (Cond.selects "RightKeysModel" ⟨"RightKeysModel", "rentOf", "(I)I"⟩ ⟨"RightKeysModel", "rentOf", "(I)I"⟩) ∈ TB := tb0 70 rfl rfl
theorem w_71 : (Cond.selects "RightKeysModel" ⟨"RightKeysModel", "looks", "(II)V"⟩ ⟨"RightKeysModel", "looks", "(II)V"⟩) ∈ TB := tb0 71 rfl rfl
theorem w_72 : (Cond.selects "RightKeysModel" ⟨"RightKeysModel", "soBits", "(I)I"⟩ ⟨"RightKeysModel", "soBits", "(I)I"⟩) ∈ TB := tb0 72 rfl rfl
theorem w_73 : (Cond.selects "RightKeysModel" ⟨"RightKeysModel", "keysIn", "(I)I"⟩ ⟨"RightKeysModel", "keysIn", "(I)I"⟩) ∈ TB := tb0 73 rfl rfl
theorem w_74 : (Cond.selects "RightKeysModel" ⟨"RightKeysModel", "lawTells", "(II)I"⟩ ⟨"RightKeysModel", "lawTells", "(II)I"⟩) ∈ TB := tb0 74 rfl rfl
theorem w_75 : (Cond.selects "RightKeysModel" ⟨"RightKeysModel", "termOf", "(II)I"⟩ ⟨"RightKeysModel", "termOf", "(II)I"⟩) ∈ TB := tb0 75 rfl rfl
theorem w_76 : (Cond.selects "RightKeysModel" ⟨"RightKeysModel", "isSpare", "(I)Z"⟩ ⟨"RightKeysModel", "isSpare", "(I)Z"⟩) ∈ TB := tb0 76 rfl rfl
theorem w_77 : (Cond.selects "RightKeysModel" ⟨"RightKeysModel", "doesLet", "(II)Z"⟩ ⟨"RightKeysModel", "doesLet", "(II)Z"⟩) ∈ TB := tb0 77 rfl rfl
theorem w_78 : (Cond.selects "RightKeysModel" ⟨"RightKeysModel", "records", "()V"⟩ ⟨"RightKeysModel", "records", "()V"⟩) ∈ TB := tb0 78 rfl rfl
theorem w_79 : (Cond.selects "RightKeysModel" ⟨"RightKeysModel", "canChange", "(II)Z"⟩ ⟨"RightKeysModel", "canChange", "(II)Z"⟩) ∈ TB := tb0 79 rfl rfl
theorem w_80 : (Cond.selects "RightKeysModel" ⟨"RightKeysModel", "changes", "(II)V"⟩ ⟨"RightKeysModel", "changes", "(II)V"⟩) ∈ TB := tb0 80 rfl rfl
theorem w_81 : (Cond.selects "RightKeysModel" ⟨"RightKeysModel", "goes", "(I)V"⟩ ⟨"RightKeysModel", "goes", "(I)V"⟩) ∈ TB := tb0 81 rfl rfl
theorem w_82 : (Cond.selects "RightKeysModel" ⟨"RightKeysModel", "hourGoes", "()V"⟩ ⟨"RightKeysModel", "hourGoes", "()V"⟩) ∈ TB := tb0 82 rfl rfl
theorem w_83 : (Cond.selects "RightKeysModel" ⟨"RightKeysModel", "sparesGo", "()V"⟩ ⟨"RightKeysModel", "sparesGo", "()V"⟩) ∈ TB := tb0 83 rfl rfl
theorem w_84 : (Cond.selects "RightKeysModel" ⟨"RightKeysModel", "rightOf", "(I)I"⟩ ⟨"RightKeysModel", "rightOf", "(I)I"⟩) ∈ TB := tb0 84 rfl rfl
theorem w_85 : (Cond.selects "RightKeysModel" ⟨"RightKeysModel", "theyGo", "(I)V"⟩ ⟨"RightKeysModel", "theyGo", "(I)V"⟩) ∈ TB := tb0 85 rfl rfl
theorem w_86 : (Cond.selects "RightKeysModel" ⟨"RightKeysModel", "theyCome", "(I)V"⟩ ⟨"RightKeysModel", "theyCome", "(I)V"⟩) ∈ TB := tb0 86 rfl rfl
theorem w_87 : (Cond.selects "RightKeysModel" ⟨"RightKeysModel", "lotOf", "(I)I"⟩ ⟨"RightKeysModel", "lotOf", "(I)I"⟩) ∈ TB := tb0 87 rfl rfl
theorem w_88 : (Cond.selects "RightKeysModel" ⟨"RightKeysModel", "lateOf", "(I)I"⟩ ⟨"RightKeysModel", "lateOf", "(I)I"⟩) ∈ TB := tb0 88 rfl rfl
theorem w_89 : (Cond.selects "RightKeysModel" ⟨"RightKeysModel", "lettersIn", "()V"⟩ ⟨"RightKeysModel", "lettersIn", "()V"⟩) ∈ TB := tb0 89 rfl rfl
theorem w_90 : (Cond.selects "RightKeysModel" ⟨"RightKeysModel", "comesIn", "(I)Z"⟩ ⟨"RightKeysModel", "comesIn", "(I)Z"⟩) ∈ TB := tb0 90 rfl rfl
theorem w_91 : (Cond.selects "RightKeysModel" ⟨"RightKeysModel", "letterOf", "(I)I"⟩ ⟨"RightKeysModel", "letterOf", "(I)I"⟩) ∈ TB := tb0 91 rfl rfl
theorem w_92 : (Cond.selects "RightKeysModel" ⟨"RightKeysModel", "canOwn", "(I)Z"⟩ ⟨"RightKeysModel", "canOwn", "(I)Z"⟩) ∈ TB := tb0 92 rfl rfl
theorem w_93 : (Cond.selects "RightKeysModel" ⟨"RightKeysModel", "isAlone", "()Z"⟩ ⟨"RightKeysModel", "isAlone", "()Z"⟩) ∈ TB := tb0 93 rfl rfl
theorem w_94 : (Cond.selects "RightKeysModel" ⟨"RightKeysModel", "hasSpare", "(I)Z"⟩ ⟨"RightKeysModel", "hasSpare", "(I)Z"⟩) ∈ TB := tb0 94 rfl rfl
theorem w_95 : (Cond.selects "RightKeysModel" ⟨"RightKeysModel", "canLeft", "(I)Z"⟩ ⟨"RightKeysModel", "canLeft", "(I)Z"⟩) ∈ TB := tb0 95 rfl rfl
theorem w_96 : (Cond.selects "RightKeysModel" ⟨"RightKeysModel", "leftOf", "(I)I"⟩ ⟨"RightKeysModel", "leftOf", "(I)I"⟩) ∈ TB := tb0 96 rfl rfl
theorem w_97 : (Cond.selects "RightKeysModel" ⟨"RightKeysModel", "canRight", "(I)Z"⟩ ⟨"RightKeysModel", "canRight", "(I)Z"⟩) ∈ TB := tb0 97 rfl rfl
theorem w_98 : (Cond.selects "RightKeysModel" ⟨"RightKeysModel", "theyWait", "()V"⟩ ⟨"RightKeysModel", "theyWait", "()V"⟩) ∈ TB := tb0 98 rfl rfl
theorem w_99 : (Cond.selects "RightKeysModel" ⟨"RightKeysModel", "quarrelOf", "(I)I"⟩ ⟨"RightKeysModel", "quarrelOf", "(I)I"⟩) ∈ TB := tb0 99 rfl rfl
theorem w_100 : (Cond.selects "RightKeysModel" ⟨"RightKeysModel", "copiesStill", "()V"⟩ ⟨"RightKeysModel", "copiesStill", "()V"⟩) ∈ TB := tb0 100 rfl rfl
theorem w_101 : (Cond.selects "RightKeysModel" ⟨"RightKeysModel", "standsFor", "(I)V"⟩ ⟨"RightKeysModel", "standsFor", "(I)V"⟩) ∈ TB := tb0 101 rfl rfl
theorem w_102 : (Cond.selects "RightKeysModel" ⟨"RightKeysModel", "keptBits", "()I"⟩ ⟨"RightKeysModel", "keptBits", "()I"⟩) ∈ TB := tb0 102 rfl rfl
theorem w_103 : (Cond.selects "RightKeysModel" ⟨"RightKeysModel", "isEnough", "(I)Z"⟩ ⟨"RightKeysModel", "isEnough", "(I)Z"⟩) ∈ TB := tb0 103 rfl rfl
theorem w_104 : (Cond.selects "RightKeysModel" ⟨"RightKeysModel", "daysTo", "(II)I"⟩ ⟨"RightKeysModel", "daysTo", "(II)I"⟩) ∈ TB := tb0 104 rfl rfl
theorem w_105 : (Cond.selects "RightKeysModel" ⟨"RightKeysModel", "rentsAll", "()I"⟩ ⟨"RightKeysModel", "rentsAll", "()I"⟩) ∈ TB := tb0 105 rfl rfl
theorem w_106 : (Cond.selects "RightKeysModel" ⟨"RightKeysModel", "stoodWithout", "(I)I"⟩ ⟨"RightKeysModel", "stoodWithout", "(I)I"⟩) ∈ TB := tb0 106 rfl rfl
theorem w_107 : (Cond.selects "RightKeysModel" ⟨"RightKeysModel", "oversleptBits", "(I)I"⟩ ⟨"RightKeysModel", "oversleptBits", "(I)I"⟩) ∈ TB := tb0 107 rfl rfl
theorem w_108 : (Jvm.Cond.initialized "RightKeysLaw") ∈ TB := tb1 0 rfl rfl
theorem w_109 : (Jvm.Cond.initialized "RightKeys") ∈ TB := tb1 1 rfl rfl
theorem w_110 : (Jvm.Cond.initialized "RightKeys$Text") ∈ TB := tb1 2 rfl rfl
theorem w_111 : (Jvm.Cond.initialized "RightKeys$Laws") ∈ TB := tb1 3 rfl rfl
theorem w_112 : (Jvm.Cond.initialized "RightKeys$Reader") ∈ TB := tb1 4 rfl rfl
theorem w_113 : (Jvm.Cond.initialized "RightKeys$Tokens") ∈ TB := tb1 5 rfl rfl
theorem w_114 : (Jvm.Cond.initialized "RightKeys$Ring") ∈ TB := tb1 6 rfl rfl
theorem w_115 : (Jvm.Cond.initialized "RightKeys$Watch") ∈ TB := tb1 7 rfl rfl
theorem w_116 : (Jvm.Cond.initialized "RightKeysModel") ∈ TB := tb1 8 rfl rfl
theorem w_117 : (Jvm.Cond.initialized "java/lang/String") ∈ TB := tb1 9 rfl rfl
theorem w_118 : (Jvm.Cond.initialized "java/lang/StringLatin1") ∈ TB := tb1 10 rfl rfl
theorem w_119 : (Jvm.Cond.initialized "jdk/internal/util/Preconditions") ∈ TB := tb1 11 rfl rfl
theorem w_120 : (Jvm.Cond.initialized "java/lang/StringUTF16") ∈ TB := tb1 12 rfl rfl
theorem w_121 : (Jvm.Cond.initialized "java/lang/Math") ∈ TB := tb1 13 rfl rfl
theorem w_122 : (Jvm.Cond.initialized "java/lang/System") ∈ TB := tb1 14 rfl rfl
theorem w_123 : (Jvm.Cond.initialized "java/util/Arrays") ∈ TB := tb1 15 rfl rfl
theorem w_124 : (Jvm.Cond.initialized "java/lang/Integer") ∈ TB := tb1 16 rfl rfl
theorem w_125 : (Jvm.Cond.classLink "RightKeysLaw" (7 : Nat) "RightKeys") ∈ TB := tb1 17 rfl rfl
theorem w_126 : (Jvm.Cond.instantiable "RightKeys" (18 : Nat)) ∈ TB := tb1 18 rfl rfl
theorem w_127 : (Jvm.Cond.methodLink "RightKeysLaw" (9 : Nat) ({ cls := "RightKeys", name := "<init>", desc := "()V" } : Jvm.MethodName)) ∈ TB := tb1 19 rfl rfl
theorem w_128 : (Jvm.Cond.instanceMethod ({ cls := "RightKeys", name := "<init>", desc := "()V" } : Jvm.MethodName)) ∈ TB := tb1 20 rfl rfl
theorem w_129 : (Jvm.Cond.code ({ cls := "RightKeys", name := "<init>", desc := "()V" } : Jvm.MethodName) prog_1_method_1_code (2 : Nat) (Option.none : Option Jvm.ClassFile.FieldType)) ∈ TB := tb1 21 rfl rfl
theorem w_130 : (Jvm.Cond.methodLink "RightKeys" (1 : Nat) ({ cls := "java/lang/Object", name := "<init>", desc := "()V" } : Jvm.MethodName)) ∈ TB := tb1 22 rfl rfl
theorem w_131 : (Jvm.Cond.instanceMethod ({ cls := "java/lang/Object", name := "<init>", desc := "()V" } : Jvm.MethodName)) ∈ TB := tb1 23 rfl rfl
theorem w_132 : (Jvm.Cond.code ({ cls := "java/lang/Object", name := "<init>", desc := "()V" } : Jvm.MethodName) object_method_1_code (1 : Nat) (Option.none : Option Jvm.ClassFile.FieldType)) ∈ TB := tb1 24 rfl rfl
theorem w_133 : (Jvm.Cond.classLink "RightKeys" (20 : Nat) "RightKeys$Text") ∈ TB := tb1 25 rfl rfl
theorem w_134 : (Jvm.Cond.instantiable "RightKeys$Text" (11 : Nat)) ∈ TB := tb1 26 rfl rfl
theorem w_136 : (Jvm.Cond.instanceMethod ({ cls := "RightKeys$Text", name := "<init>", desc := "()V" } : Jvm.MethodName)) ∈ TB := tb1 28 rfl rfl
theorem w_137 : (Jvm.Cond.code ({ cls := "RightKeys$Text", name := "<init>", desc := "()V" } : Jvm.MethodName) prog_5_method_1_code (1 : Nat) (Option.none : Option Jvm.ClassFile.FieldType)) ∈ TB := tb1 29 rfl rfl
theorem w_138 : (Jvm.Cond.methodLink "RightKeys$Text" (3 : Nat) ({ cls := "java/lang/Object", name := "<init>", desc := "()V" } : Jvm.MethodName)) ∈ TB := tb1 30 rfl rfl
theorem w_139 : (Jvm.Cond.classLink "RightKeys$Text" (44 : Nat) "RightKeys$Laws") ∈ TB := tb1 31 rfl rfl
theorem w_140 : (Jvm.Cond.instantiable "RightKeys$Laws" (5 : Nat)) ∈ TB := tb1 32 rfl rfl
theorem w_141 : (Jvm.Cond.methodLink "RightKeys$Text" (46 : Nat) ({ cls := "RightKeys$Laws", name := "<init>", desc := "()V" } : Jvm.MethodName)) ∈ TB := tb1 33 rfl rfl
theorem w_142 : (Jvm.Cond.instanceMethod ({ cls := "RightKeys$Laws", name := "<init>", desc := "()V" } : Jvm.MethodName)) ∈ TB := tb1 34 rfl rfl
theorem w_143 : (Jvm.Cond.code ({ cls := "RightKeys$Laws", name := "<init>", desc := "()V" } : Jvm.MethodName) prog_2_method_1_code (1 : Nat) (Option.none : Option Jvm.ClassFile.FieldType)) ∈ TB := tb1 35 rfl rfl
theorem w_144 : (Jvm.Cond.methodLink "RightKeys$Laws" (3 : Nat) ({ cls := "java/lang/Object", name := "<init>", desc := "()V" } : Jvm.MethodName)) ∈ TB := tb1 36 rfl rfl
theorem w_145 : (Jvm.Cond.methodLink "RightKeys$Laws" (28 : Nat) ({ cls := "RightKeys$Laws", name := "clear", desc := "()V" } : Jvm.MethodName)) ∈ TB := tb1 37 rfl rfl
theorem w_146 : (Jvm.Cond.instanceMethod ({ cls := "RightKeys$Laws", name := "clear", desc := "()V" } : Jvm.MethodName)) ∈ TB := tb1 38 rfl rfl
theorem w_147 : (Jvm.Cond.selects "RightKeys$Laws" ({ cls := "RightKeys$Laws", name := "clear", desc := "()V" } : Jvm.MethodName) ({ cls := "RightKeys$Laws", name := "clear", desc := "()V" } : Jvm.MethodName)) ∈ TB := tb1 39 rfl rfl
theorem w_148 : (Jvm.Cond.code ({ cls := "RightKeys$Laws", name := "clear", desc := "()V" } : Jvm.MethodName) prog_2_method_2_code (1 : Nat) (Option.none : Option Jvm.ClassFile.FieldType)) ∈ TB := tb1 40 rfl rfl
theorem w_149 : (Jvm.Cond.methodLink "RightKeys$Laws" (31 : Nat) ({ cls := "RightKeys$Laws", name := "putDefault", desc := "(III)V" } : Jvm.MethodName)) ∈ TB := tb1 41 rfl rfl
theorem w_151 : (Jvm.Cond.instanceMethod ({ cls := "RightKeys$Laws", name := "putDefault", desc := "(III)V" } : Jvm.MethodName)) ∈ TB := tb1 43 rfl rfl
theorem w_152 : (Jvm.Cond.code ({ cls := "RightKeys$Laws", name := "putDefault", desc := "(III)V" } : Jvm.MethodName) prog_2_method_3_code (4 : Nat) (Option.none : Option Jvm.ClassFile.FieldType)) ∈ TB := tb1 44 rfl rfl
theorem w_153 : (Jvm.Cond.methodLink "RightKeys$Laws" (35 : Nat) ({ cls := "RightKeys$Laws", name := "put", desc := "(II)I" } : Jvm.MethodName)) ∈ TB := tb1 45 rfl rfl
theorem w_154 : (Jvm.Cond.instanceMethod ({ cls := "RightKeys$Laws", name := "put", desc := "(II)I" } : Jvm.MethodName)) ∈ TB := tb1 46 rfl rfl
theorem w_155 : (Jvm.Cond.selects "RightKeys$Laws" ({ cls := "RightKeys$Laws", name := "put", desc := "(II)I" } : Jvm.MethodName) ({ cls := "RightKeys$Laws", name := "put", desc := "(II)I" } : Jvm.MethodName)) ∈ TB := tb1 47 rfl rfl
theorem w_156 : (Jvm.Cond.code ({ cls := "RightKeys$Laws", name := "put", desc := "(II)I" } : Jvm.MethodName) prog_2_method_4_code (4 : Nat) (Option.some Jvm.ClassFile.FieldType.int)) ∈ TB := tb1 48 rfl rfl
theorem w_157 : (Jvm.Cond.fieldLink "RightKeys$Laws" (11 : Nat) "RightKeys$Laws" "code" "[I") ∈ TB := tb1 49 rfl rfl
theorem w_158 : (Jvm.Cond.fieldLink "RightKeys$Laws" (15 : Nat) "RightKeys$Laws" "size" "I") ∈ TB := tb1 50 rfl rfl
theorem w_159 : (Jvm.Cond.fieldLink "RightKeys$Reader" (141 : Nat) "RightKeys$Laws" "size" "I") ∈ TB := tb1 51 rfl rfl
theorem w_160 : (Jvm.Cond.fieldLink "RightKeys$Laws" (19 : Nat) "RightKeys$Laws" "start" "[I") ∈ TB := tb1 52 rfl rfl
theorem w_161 : (Jvm.Cond.fieldLink "RightKeys$Reader" (136 : Nat) "RightKeys$Laws" "start" "[I") ∈ TB := tb1 53 rfl rfl
theorem w_162 : (Jvm.Cond.fieldLink "RightKeys$Laws" (22 : Nat) "RightKeys$Laws" "variables" "[I") ∈ TB := tb1 54 rfl rfl
theorem w_163 : (Jvm.Cond.fieldLink "RightKeys$Ring" (181 : Nat) "RightKeys$Laws" "variables" "[I") ∈ TB := tb1 55 rfl rfl
theorem w_164 : (Jvm.Cond.fieldLink "RightKeys$Laws" (25 : Nat) "RightKeys$Laws" "stack" "[I") ∈ TB := tb1 56 rfl rfl
theorem w_176 : (Jvm.Cond.arrayClass Jvm.ClassFile.FieldType.byte) ∈ TB := tb1 68 rfl rfl
theorem w_177 : (Jvm.Cond.arrayClass Jvm.ClassFile.FieldType.long) ∈ TB := tb1 69 rfl rfl
theorem w_178 : (Jvm.Cond.arrayClass Jvm.ClassFile.FieldType.int) ∈ TB := tb1 70 rfl rfl
theorem w_179 : (Jvm.Cond.fieldLink "RightKeys$Text" (9 : Nat) "RightKeys$Text" "houses" "I") ∈ TB := tb1 71 rfl rfl
theorem w_180 : (Jvm.Cond.fieldLink "RightKeys$Ring" (75 : Nat) "RightKeys$Text" "houses" "I") ∈ TB := tb1 72 rfl rfl
theorem w_181 : (Jvm.Cond.fieldLink "RightKeys$Reader" (74 : Nat) "RightKeys$Text" "houses" "I") ∈ TB := tb1 73 rfl rfl
theorem w_182 : (Jvm.Cond.fieldLink "RightKeys" (163 : Nat) "RightKeys$Text" "houses" "I") ∈ TB := tb1 74 rfl rfl
theorem w_183 : (Jvm.Cond.fieldLink "RightKeys$Text" (15 : Nat) "RightKeys$Text" "spares" "I") ∈ TB := tb1 75 rfl rfl
theorem w_184 : (Jvm.Cond.fieldLink "RightKeys$Reader" (110 : Nat) "RightKeys$Text" "spares" "I") ∈ TB := tb1 76 rfl rfl
theorem w_185 : (Jvm.Cond.fieldLink "RightKeys$Ring" (114 : Nat) "RightKeys$Text" "spares" "I") ∈ TB := tb1 77 rfl rfl
theorem w_186 : (Jvm.Cond.fieldLink "RightKeys" (166 : Nat) "RightKeys$Text" "spares" "I") ∈ TB := tb1 78 rfl rfl
theorem w_187 : (Jvm.Cond.fieldLink "RightKeys$Text" (18 : Nat) "RightKeys$Text" "both" "I") ∈ TB := tb1 79 rfl rfl
theorem w_188 : (Jvm.Cond.fieldLink "RightKeys$Reader" (122 : Nat) "RightKeys$Text" "both" "I") ∈ TB := tb1 80 rfl rfl
theorem w_189 : (Jvm.Cond.fieldLink "RightKeys" (129 : Nat) "RightKeys$Text" "both" "I") ∈ TB := tb1 81 rfl rfl
theorem w_190 : (Jvm.Cond.fieldLink "RightKeys$Ring" (171 : Nat) "RightKeys$Text" "both" "I") ∈ TB := tb1 82 rfl rfl
theorem w_191 : (Jvm.Cond.fieldLink "RightKeys$Text" (21 : Nat) "RightKeys$Text" "seed" "I") ∈ TB := tb1 83 rfl rfl
theorem w_192 : (Jvm.Cond.fieldLink "RightKeys$Ring" (80 : Nat) "RightKeys$Text" "seed" "I") ∈ TB := tb1 84 rfl rfl
theorem w_193 : (Jvm.Cond.fieldLink "RightKeys$Reader" (129 : Nat) "RightKeys$Text" "seed" "I") ∈ TB := tb1 85 rfl rfl
theorem w_194 : (Jvm.Cond.fieldLink "RightKeys" (283 : Nat) "RightKeys$Text" "seed" "I") ∈ TB := tb1 86 rfl rfl
theorem w_195 : (Jvm.Cond.fieldLink "RightKeys$Text" (24 : Nat) "RightKeys$Text" "name" "[J") ∈ TB := tb1 87 rfl rfl
theorem w_196 : (Jvm.Cond.fieldLink "RightKeys$Reader" (80 : Nat) "RightKeys$Text" "name" "[J") ∈ TB := tb1 88 rfl rfl
theorem w_197 : (Jvm.Cond.fieldLink "RightKeys$Text" (28 : Nat) "RightKeys$Text" "go" "[I") ∈ TB := tb1 89 rfl rfl
theorem w_198 : (Jvm.Cond.fieldLink "RightKeys$Ring" (81 : Nat) "RightKeys$Text" "go" "[I") ∈ TB := tb1 90 rfl rfl
theorem w_199 : (Jvm.Cond.fieldLink "RightKeys$Reader" (96 : Nat) "RightKeys$Text" "go" "[I") ∈ TB := tb1 91 rfl rfl
theorem w_200 : (Jvm.Cond.fieldLink "RightKeys$Text" (32 : Nat) "RightKeys$Text" "come" "[I") ∈ TB := tb1 92 rfl rfl
theorem w_201 : (Jvm.Cond.fieldLink "RightKeys$Ring" (88 : Nat) "RightKeys$Text" "come" "[I") ∈ TB := tb1 93 rfl rfl
theorem w_202 : (Jvm.Cond.fieldLink "RightKeys$Reader" (104 : Nat) "RightKeys$Text" "come" "[I") ∈ TB := tb1 94 rfl rfl
theorem w_203 : (Jvm.Cond.fieldLink "RightKeys$Text" (35 : Nat) "RightKeys$Text" "temper" "[I") ∈ TB := tb1 95 rfl rfl
theorem w_204 : (Jvm.Cond.fieldLink "RightKeys$Ring" (89 : Nat) "RightKeys$Text" "temper" "[I") ∈ TB := tb1 96 rfl rfl
theorem w_205 : (Jvm.Cond.fieldLink "RightKeys$Reader" (107 : Nat) "RightKeys$Text" "temper" "[I") ∈ TB := tb1 97 rfl rfl
theorem w_206 : (Jvm.Cond.fieldLink "RightKeys$Text" (38 : Nat) "RightKeys$Text" "door" "[I") ∈ TB := tb1 98 rfl rfl
theorem w_207 : (Jvm.Cond.fieldLink "RightKeys$Reader" (113 : Nat) "RightKeys$Text" "door" "[I") ∈ TB := tb1 99 rfl rfl
theorem w_208 : (Jvm.Cond.fieldLink "RightKeys" (144 : Nat) "RightKeys$Text" "door" "[I") ∈ TB := tb1 100 rfl rfl
theorem w_209 : (Jvm.Cond.fieldLink "RightKeys$Ring" (193 : Nat) "RightKeys$Text" "door" "[I") ∈ TB := tb1 101 rfl rfl
theorem w_210 : (Jvm.Cond.fieldLink "RightKeys$Text" (41 : Nat) "RightKeys$Text" "box" "[I") ∈ TB := tb1 102 rfl rfl
theorem w_211 : (Jvm.Cond.fieldLink "RightKeys$Ring" (96 : Nat) "RightKeys$Text" "box" "[I") ∈ TB := tb1 103 rfl rfl
theorem w_212 : (Jvm.Cond.fieldLink "RightKeys$Reader" (119 : Nat) "RightKeys$Text" "box" "[I") ∈ TB := tb1 104 rfl rfl
theorem w_213 : (Jvm.Cond.fieldLink "RightKeys$Text" (47 : Nat) "RightKeys$Text" "laws" "LRightKeys$Laws;") ∈ TB := tb1 105 rfl rfl
theorem w_214 : (Jvm.Cond.fieldLink "RightKeys$Ring" (133 : Nat) "RightKeys$Text" "laws" "LRightKeys$Laws;") ∈ TB := tb1 106 rfl rfl
theorem w_215 : (Jvm.Cond.fieldLink "RightKeys$Reader" (132 : Nat) "RightKeys$Text" "laws" "LRightKeys$Laws;") ∈ TB := tb1 107 rfl rfl
theorem w_239 : (Jvm.Cond.classLink "RightKeys" (30 : Nat) "RightKeys$Reader") ∈ TB := tb1 131 rfl rfl
theorem w_240 : (Jvm.Cond.instantiable "RightKeys$Reader" (7 : Nat)) ∈ TB := tb1 132 rfl rfl
theorem w_241 : (Jvm.Cond.methodLink "RightKeys" (32 : Nat) ({ cls := "RightKeys$Reader", name := "<init>", desc := "(LRightKeys$Text;)V" } : Jvm.MethodName)) ∈ TB := tb1 133 rfl rfl
theorem w_242 : (Jvm.Cond.instanceMethod ({ cls := "RightKeys$Reader", name := "<init>", desc := "(LRightKeys$Text;)V" } : Jvm.MethodName)) ∈ TB := tb1 134 rfl rfl
theorem w_243 : (Jvm.Cond.code ({ cls := "RightKeys$Reader", name := "<init>", desc := "(LRightKeys$Text;)V" } : Jvm.MethodName) prog_3_method_1_code (2 : Nat) (Option.none : Option Jvm.ClassFile.FieldType)) ∈ TB := tb1 135 rfl rfl
theorem w_244 : (Jvm.Cond.methodLink "RightKeys$Reader" (3 : Nat) ({ cls := "java/lang/Object", name := "<init>", desc := "()V" } : Jvm.MethodName)) ∈ TB := tb1 136 rfl rfl
theorem w_245 : (Jvm.Cond.classLink "RightKeys$Reader" (9 : Nat) "RightKeys$Tokens") ∈ TB := tb1 137 rfl rfl
theorem w_246 : (Jvm.Cond.instantiable "RightKeys$Tokens" (4 : Nat)) ∈ TB := tb1 138 rfl rfl
theorem w_248 : (Jvm.Cond.instanceMethod ({ cls := "RightKeys$Tokens", name := "<init>", desc := "()V" } : Jvm.MethodName)) ∈ TB := tb1 140 rfl rfl
theorem w_249 : (Jvm.Cond.code ({ cls := "RightKeys$Tokens", name := "<init>", desc := "()V" } : Jvm.MethodName) prog_6_method_1_code (1 : Nat) (Option.none : Option Jvm.ClassFile.FieldType)) ∈ TB := tb1 141 rfl rfl
theorem w_250 : (Jvm.Cond.methodLink "RightKeys$Tokens" (3 : Nat) ({ cls := "java/lang/Object", name := "<init>", desc := "()V" } : Jvm.MethodName)) ∈ TB := tb1 142 rfl rfl
theorem w_251 : (Jvm.Cond.fieldLink "RightKeys$Tokens" (11 : Nat) "RightKeys$Tokens" "kind" "[I") ∈ TB := tb1 143 rfl rfl
theorem w_252 : (Jvm.Cond.fieldLink "RightKeys$Reader" (163 : Nat) "RightKeys$Tokens" "kind" "[I") ∈ TB := tb1 144 rfl rfl
theorem w_253 : (Jvm.Cond.fieldLink "RightKeys$Tokens" (15 : Nat) "RightKeys$Tokens" "start" "[I") ∈ TB := tb1 145 rfl rfl
theorem w_254 : (Jvm.Cond.fieldLink "RightKeys$Reader" (169 : Nat) "RightKeys$Tokens" "start" "[I") ∈ TB := tb1 146 rfl rfl
theorem w_255 : (Jvm.Cond.fieldLink "RightKeys$Tokens" (18 : Nat) "RightKeys$Tokens" "value" "[J") ∈ TB := tb1 147 rfl rfl
theorem w_256 : (Jvm.Cond.fieldLink "RightKeys$Reader" (166 : Nat) "RightKeys$Tokens" "value" "[J") ∈ TB := tb1 148 rfl rfl
theorem w_257 : (Jvm.Cond.fieldLink "RightKeys$Tokens" (22 : Nat) "RightKeys$Tokens" "size" "I") ∈ TB := tb1 149 rfl rfl
theorem w_258 : (Jvm.Cond.fieldLink "RightKeys$Reader" (162 : Nat) "RightKeys$Tokens" "size" "I") ∈ TB := tb1 150 rfl rfl
theorem w_268 : (Jvm.Cond.fieldLink "RightKeys$Reader" (12 : Nat) "RightKeys$Reader" "tokens" "LRightKeys$Tokens;") ∈ TB := tb1 160 rfl rfl
theorem w_269 : (Jvm.Cond.fieldLink "RightKeys$Reader" (18 : Nat) "RightKeys$Reader" "at" "I") ∈ TB := tb1 161 rfl rfl
theorem w_270 : (Jvm.Cond.fieldLink "RightKeys$Reader" (34 : Nat) "RightKeys$Reader" "text" "LRightKeys$Text;") ∈ TB := tb1 162 rfl rfl
theorem w_271 : (Jvm.Cond.fieldLink "RightKeys$Reader" (22 : Nat) "RightKeys$Reader" "fault" "I") ∈ TB := tb1 163 rfl rfl
theorem w_272 : (Jvm.Cond.fieldLink "RightKeys$Reader" (25 : Nat) "RightKeys$Reader" "place" "I") ∈ TB := tb1 164 rfl rfl
theorem w_273 : (Jvm.Cond.fieldLink "RightKeys" (93 : Nat) "RightKeys$Reader" "place" "I") ∈ TB := tb1 165 rfl rfl
theorem w_274 : (Jvm.Cond.fieldLink "RightKeys$Reader" (28 : Nat) "RightKeys$Reader" "laterFault" "I") ∈ TB := tb1 166 rfl rfl
theorem w_275 : (Jvm.Cond.fieldLink "RightKeys$Reader" (31 : Nat) "RightKeys$Reader" "laterPlace" "I") ∈ TB := tb1 167 rfl rfl
theorem w_291 : (Jvm.Cond.classLink "RightKeys" (39 : Nat) "RightKeys$Ring") ∈ TB := tb1 183 rfl rfl
theorem w_292 : (Jvm.Cond.instantiable "RightKeys$Ring" (20 : Nat)) ∈ TB := tb1 184 rfl rfl
theorem w_293 : (Jvm.Cond.methodLink "RightKeys" (41 : Nat) ({ cls := "RightKeys$Ring", name := "<init>", desc := "(LRightKeys$Text;)V" } : Jvm.MethodName)) ∈ TB := tb1 185 rfl rfl
theorem w_294 : (Jvm.Cond.instanceMethod ({ cls := "RightKeys$Ring", name := "<init>", desc := "(LRightKeys$Text;)V" } : Jvm.MethodName)) ∈ TB := tb1 186 rfl rfl
theorem w_295 : (Jvm.Cond.code ({ cls := "RightKeys$Ring", name := "<init>", desc := "(LRightKeys$Text;)V" } : Jvm.MethodName) prog_4_method_1_code (2 : Nat) (Option.none : Option Jvm.ClassFile.FieldType)) ∈ TB := tb1 187 rfl rfl
theorem w_296 : (Jvm.Cond.methodLink "RightKeys$Ring" (3 : Nat) ({ cls := "java/lang/Object", name := "<init>", desc := "()V" } : Jvm.MethodName)) ∈ TB := tb1 188 rfl rfl
theorem w_297 : (Jvm.Cond.fieldLink "RightKeys$Ring" (71 : Nat) "RightKeys$Ring" "text" "LRightKeys$Text;") ∈ TB := tb1 189 rfl rfl
theorem w_298 : (Jvm.Cond.fieldLink "RightKeys$Ring" (9 : Nat) "RightKeys$Ring" "hour" "I") ∈ TB := tb1 190 rfl rfl
theorem w_299 : (Jvm.Cond.fieldLink "RightKeys" (169 : Nat) "RightKeys$Ring" "hour" "I") ∈ TB := tb1 191 rfl rfl
theorem w_300 : (Jvm.Cond.fieldLink "RightKeys$Ring" (15 : Nat) "RightKeys$Ring" "in" "I") ∈ TB := tb1 192 rfl rfl
theorem w_301 : (Jvm.Cond.fieldLink "RightKeys" (172 : Nat) "RightKeys$Ring" "in" "I") ∈ TB := tb1 193 rfl rfl
theorem w_302 : (Jvm.Cond.fieldLink "RightKeys$Ring" (18 : Nat) "RightKeys$Ring" "outside" "I") ∈ TB := tb1 194 rfl rfl
theorem w_303 : (Jvm.Cond.fieldLink "RightKeys$Watch" (39 : Nat) "RightKeys$Ring" "outside" "I") ∈ TB := tb1 195 rfl rfl
theorem w_304 : (Jvm.Cond.fieldLink "RightKeys" (179 : Nat) "RightKeys$Ring" "outside" "I") ∈ TB := tb1 196 rfl rfl
theorem w_305 : (Jvm.Cond.fieldLink "RightKeys$Ring" (21 : Nat) "RightKeys$Ring" "kept" "I") ∈ TB := tb1 197 rfl rfl
theorem w_306 : (Jvm.Cond.fieldLink "RightKeys" (122 : Nat) "RightKeys$Ring" "kept" "I") ∈ TB := tb1 198 rfl rfl
theorem w_307 : (Jvm.Cond.fieldLink "RightKeys$Ring" (24 : Nat) "RightKeys$Ring" "late" "I") ∈ TB := tb1 199 rfl rfl
theorem w_308 : (Jvm.Cond.fieldLink "RightKeys" (135 : Nat) "RightKeys$Ring" "late" "I") ∈ TB := tb1 200 rfl rfl
theorem w_309 : (Jvm.Cond.fieldLink "RightKeys$Ring" (27 : Nat) "RightKeys$Ring" "gone" "I") ∈ TB := tb1 201 rfl rfl
theorem w_310 : (Jvm.Cond.fieldLink "RightKeys$Ring" (30 : Nat) "RightKeys$Ring" "punctual" "Z") ∈ TB := tb1 202 rfl rfl
theorem w_311 : (Jvm.Cond.fieldLink "RightKeys" (273 : Nat) "RightKeys$Ring" "punctual" "Z") ∈ TB := tb1 203 rfl rfl
theorem w_312 : (Jvm.Cond.fieldLink "RightKeys$Ring" (34 : Nat) "RightKeys$Ring" "seed" "I") ∈ TB := tb1 204 rfl rfl
theorem w_313 : (Jvm.Cond.fieldLink "RightKeys" (289 : Nat) "RightKeys$Ring" "seed" "I") ∈ TB := tb1 205 rfl rfl
theorem w_314 : (Jvm.Cond.fieldLink "RightKeys$Ring" (37 : Nat) "RightKeys$Ring" "quarrels" "I") ∈ TB := tb1 206 rfl rfl
theorem w_315 : (Jvm.Cond.fieldLink "RightKeys" (182 : Nat) "RightKeys$Ring" "quarrels" "I") ∈ TB := tb1 207 rfl rfl
theorem w_316 : (Jvm.Cond.fieldLink "RightKeys$Ring" (40 : Nat) "RightKeys$Ring" "letIns" "I") ∈ TB := tb1 208 rfl rfl
theorem w_317 : (Jvm.Cond.fieldLink "RightKeys" (190 : Nat) "RightKeys$Ring" "letIns" "I") ∈ TB := tb1 209 rfl rfl
theorem w_318 : (Jvm.Cond.fieldLink "RightKeys$Ring" (43 : Nat) "RightKeys$Ring" "spareIns" "I") ∈ TB := tb1 210 rfl rfl
theorem w_319 : (Jvm.Cond.fieldLink "RightKeys" (193 : Nat) "RightKeys$Ring" "spareIns" "I") ∈ TB := tb1 211 rfl rfl
theorem w_320 : (Jvm.Cond.fieldLink "RightKeys$Ring" (46 : Nat) "RightKeys$Ring" "go" "[I") ∈ TB := tb1 212 rfl rfl
theorem w_321 : (Jvm.Cond.fieldLink "RightKeys" (106 : Nat) "RightKeys$Ring" "go" "[I") ∈ TB := tb1 213 rfl rfl
theorem w_322 : (Jvm.Cond.fieldLink "RightKeys$Ring" (50 : Nat) "RightKeys$Ring" "come" "[I") ∈ TB := tb1 214 rfl rfl
theorem w_323 : (Jvm.Cond.fieldLink "RightKeys" (109 : Nat) "RightKeys$Ring" "come" "[I") ∈ TB := tb1 215 rfl rfl
theorem w_324 : (Jvm.Cond.fieldLink "RightKeys$Ring" (53 : Nat) "RightKeys$Ring" "temper" "[I") ∈ TB := tb1 216 rfl rfl
theorem w_325 : (Jvm.Cond.fieldLink "RightKeys" (112 : Nat) "RightKeys$Ring" "temper" "[I") ∈ TB := tb1 217 rfl rfl
theorem w_326 : (Jvm.Cond.fieldLink "RightKeys$Ring" (56 : Nat) "RightKeys$Ring" "who" "[I") ∈ TB := tb1 218 rfl rfl
theorem w_327 : (Jvm.Cond.fieldLink "RightKeys" (132 : Nat) "RightKeys$Ring" "who" "[I") ∈ TB := tb1 219 rfl rfl
theorem w_328 : (Jvm.Cond.fieldLink "RightKeys$Ring" (59 : Nat) "RightKeys$Ring" "waited" "[I") ∈ TB := tb1 220 rfl rfl
theorem w_329 : (Jvm.Cond.fieldLink "RightKeys" (119 : Nat) "RightKeys$Ring" "waited" "[I") ∈ TB := tb1 221 rfl rfl
theorem w_330 : (Jvm.Cond.fieldLink "RightKeys$Ring" (62 : Nat) "RightKeys$Ring" "opener" "[I") ∈ TB := tb1 222 rfl rfl
theorem w_331 : (Jvm.Cond.fieldLink "RightKeys" (160 : Nat) "RightKeys$Ring" "opener" "[I") ∈ TB := tb1 223 rfl rfl
theorem w_332 : (Jvm.Cond.fieldLink "RightKeys$Ring" (65 : Nat) "RightKeys$Ring" "box" "[I") ∈ TB := tb1 224 rfl rfl
theorem w_333 : (Jvm.Cond.fieldLink "RightKeys" (147 : Nat) "RightKeys$Ring" "box" "[I") ∈ TB := tb1 225 rfl rfl
theorem w_334 : (Jvm.Cond.fieldLink "RightKeys$Ring" (68 : Nat) "RightKeys$Ring" "goal" "[I") ∈ TB := tb1 226 rfl rfl
theorem w_335 : (Jvm.Cond.fieldLink "RightKeys" (150 : Nat) "RightKeys$Ring" "goal" "[I") ∈ TB := tb1 227 rfl rfl
theorem w_377 : (Jvm.Cond.classLink "RightKeys" (49 : Nat) "RightKeys$Watch") ∈ TB := tb2 29 rfl rfl
theorem w_378 : (Jvm.Cond.instantiable "RightKeys$Watch" (5 : Nat)) ∈ TB := tb2 30 rfl rfl
theorem w_380 : (Jvm.Cond.instanceMethod ({ cls := "RightKeys$Watch", name := "<init>", desc := "()V" } : Jvm.MethodName)) ∈ TB := tb2 32 rfl rfl
theorem w_381 : (Jvm.Cond.code ({ cls := "RightKeys$Watch", name := "<init>", desc := "()V" } : Jvm.MethodName) prog_7_method_1_code (1 : Nat) (Option.none : Option Jvm.ClassFile.FieldType)) ∈ TB := tb2 33 rfl rfl
theorem w_382 : (Jvm.Cond.methodLink "RightKeys$Watch" (3 : Nat) ({ cls := "java/lang/Object", name := "<init>", desc := "()V" } : Jvm.MethodName)) ∈ TB := tb2 34 rfl rfl
theorem w_383 : (Jvm.Cond.fieldLink "RightKeys$Watch" (9 : Nat) "RightKeys$Watch" "each" "[I") ∈ TB := tb2 35 rfl rfl
theorem w_384 : (Jvm.Cond.fieldLink "RightKeys" (240 : Nat) "RightKeys$Watch" "each" "[I") ∈ TB := tb2 36 rfl rfl
theorem w_385 : (Jvm.Cond.fieldLink "RightKeys$Watch" (15 : Nat) "RightKeys$Watch" "all" "I") ∈ TB := tb2 37 rfl rfl
theorem w_386 : (Jvm.Cond.fieldLink "RightKeys" (237 : Nat) "RightKeys$Watch" "all" "I") ∈ TB := tb2 38 rfl rfl
theorem w_387 : (Jvm.Cond.fieldLink "RightKeys$Watch" (19 : Nat) "RightKeys$Watch" "peak" "I") ∈ TB := tb2 39 rfl rfl
theorem w_388 : (Jvm.Cond.fieldLink "RightKeys" (263 : Nat) "RightKeys$Watch" "peak" "I") ∈ TB := tb2 40 rfl rfl
theorem w_389 : (Jvm.Cond.fieldLink "RightKeys$Watch" (22 : Nat) "RightKeys$Watch" "peakHour" "I") ∈ TB := tb2 41 rfl rfl
theorem w_390 : (Jvm.Cond.fieldLink "RightKeys" (260 : Nat) "RightKeys$Watch" "peakHour" "I") ∈ TB := tb2 42 rfl rfl
theorem w_391 : (Jvm.Cond.fieldLink "RightKeys$Watch" (25 : Nat) "RightKeys$Watch" "ever" "I") ∈ TB := tb2 43 rfl rfl
theorem w_392 : (Jvm.Cond.fieldLink "RightKeys" (267 : Nat) "RightKeys$Watch" "ever" "I") ∈ TB := tb2 44 rfl rfl
theorem w_405 : (Jvm.Cond.fieldLink "RightKeys" (9 : Nat) "RightKeys" "tape" "[B") ∈ TB := tb2 57 rfl rfl
theorem w_406 : (Jvm.Cond.fieldLink "RightKeys" (13 : Nat) "RightKeys" "tapeLength" "I") ∈ TB := tb2 58 rfl rfl
theorem w_407 : (Jvm.Cond.fieldLink "RightKeys" (17 : Nat) "RightKeys" "faultPlace" "I") ∈ TB := tb2 59 rfl rfl
theorem w_408 : (Jvm.Cond.fieldLink "RightKeys" (23 : Nat) "RightKeys" "text" "LRightKeys$Text;") ∈ TB := tb2 60 rfl rfl
theorem w_409 : (Jvm.Cond.fieldLink "RightKeys" (27 : Nat) "RightKeys" "draft" "LRightKeys$Text;") ∈ TB := tb2 61 rfl rfl
theorem w_410 : (Jvm.Cond.fieldLink "RightKeys" (35 : Nat) "RightKeys" "reader" "LRightKeys$Reader;") ∈ TB := tb2 62 rfl rfl
theorem w_411 : (Jvm.Cond.fieldLink "RightKeys" (42 : Nat) "RightKeys" "now" "LRightKeys$Ring;") ∈ TB := tb2 63 rfl rfl
theorem w_412 : (Jvm.Cond.fieldLink "RightKeys" (46 : Nat) "RightKeys" "trial" "LRightKeys$Ring;") ∈ TB := tb2 64 rfl rfl
theorem w_413 : (Jvm.Cond.fieldLink "RightKeys" (52 : Nat) "RightKeys" "watch" "LRightKeys$Watch;") ∈ TB := tb2 65 rfl rfl
theorem w_414 : (Jvm.Cond.fieldLink "RightKeys" (56 : Nat) "RightKeys" "past" "[LRightKeys$Ring;") ∈ TB := tb2 66 rfl rfl
theorem w_415 : (Jvm.Cond.fieldLink "RightKeys" (60 : Nat) "RightKeys" "pastNext" "I") ∈ TB := tb2 67 rfl rfl
theorem w_416 : (Jvm.Cond.fieldLink "RightKeys" (63 : Nat) "RightKeys" "pastCount" "I") ∈ TB := tb2 68 rfl rfl
theorem w_417 : (Jvm.Cond.fieldLink "RightKeys" (66 : Nat) "RightKeys" "slots" "[LRightKeys$Ring;") ∈ TB := tb2 69 rfl rfl
theorem w_418 : (Jvm.Cond.fieldLink "RightKeys" (69 : Nat) "RightKeys" "heldSlots" "I") ∈ TB := tb2 70 rfl rfl
theorem w_419 : (Jvm.Cond.fieldLink "RightKeys" (72 : Nat) "RightKeys" "toldHouses" "[I") ∈ TB := tb2 71 rfl rfl
theorem w_420 : (Jvm.Cond.fieldLink "RightKeys" (76 : Nat) "RightKeys" "toldStood" "I") ∈ TB := tb2 72 rfl rfl
theorem w_421 : (Jvm.Cond.fieldLink "RightKeys" (79 : Nat) "RightKeys" "toldCount" "I") ∈ TB := tb2 73 rfl rfl
theorem w_422 : (Jvm.Cond.fieldLink "RightKeys" (82 : Nat) "RightKeys" "stoodWithout" "[I") ∈ TB := tb2 74 rfl rfl
theorem w_460 : (Jvm.Cond.methodLink "RightKeysLaw" (13 : Nat) ({ cls := "RightKeys", name := "feed", desc := "(IIIII)I" } : Jvm.MethodName)) ∈ TB := tb2 112 rfl rfl
theorem w_461 : (Jvm.Cond.instanceMethod ({ cls := "RightKeys", name := "feed", desc := "(IIIII)I" } : Jvm.MethodName)) ∈ TB := tb2 113 rfl rfl
theorem w_462 : (Jvm.Cond.selects "RightKeys" ({ cls := "RightKeys", name := "feed", desc := "(IIIII)I" } : Jvm.MethodName) ({ cls := "RightKeys", name := "feed", desc := "(IIIII)I" } : Jvm.MethodName)) ∈ TB := tb2 114 rfl rfl
theorem w_463 : (Jvm.Cond.code ({ cls := "RightKeys", name := "feed", desc := "(IIIII)I" } : Jvm.MethodName) prog_1_method_2_code (6 : Nat) (Option.some Jvm.ClassFile.FieldType.int)) ∈ TB := tb2 115 rfl rfl
theorem w_464 : (Jvm.Cond.methodLink "RightKeys" (85 : Nat) ({ cls := "RightKeys", name := "putBytes", desc := "(I)V" } : Jvm.MethodName)) ∈ TB := tb2 116 rfl rfl
theorem w_466 : (Jvm.Cond.instanceMethod ({ cls := "RightKeys", name := "putBytes", desc := "(I)V" } : Jvm.MethodName)) ∈ TB := tb2 118 rfl rfl
theorem w_467 : (Jvm.Cond.code ({ cls := "RightKeys", name := "putBytes", desc := "(I)V" } : Jvm.MethodName) prog_1_method_3_code (3 : Nat) (Option.none : Option Jvm.ClassFile.FieldType)) ∈ TB := tb2 119 rfl rfl
theorem w_468 : (Jvm.Cond.methodLink "RightKeysLaw" (18 : Nat) ({ cls := "RightKeys", name := "back", desc := "(I)I" } : Jvm.MethodName)) ∈ TB := tb2 120 rfl rfl
theorem w_469 : (Jvm.Cond.instanceMethod ({ cls := "RightKeys", name := "back", desc := "(I)I" } : Jvm.MethodName)) ∈ TB := tb2 121 rfl rfl
theorem w_470 : (Jvm.Cond.selects "RightKeys" ({ cls := "RightKeys", name := "back", desc := "(I)I" } : Jvm.MethodName) ({ cls := "RightKeys", name := "back", desc := "(I)I" } : Jvm.MethodName)) ∈ TB := tb2 122 rfl rfl
theorem w_471 : (Jvm.Cond.code ({ cls := "RightKeys", name := "back", desc := "(I)I" } : Jvm.MethodName) prog_1_method_4_code (2 : Nat) (Option.some Jvm.ClassFile.FieldType.int)) ∈ TB := tb2 123 rfl rfl
theorem w_472 : (Jvm.Cond.methodLink "RightKeysLaw" (23 : Nat) ({ cls := "RightKeys", name := "read", desc := "()I" } : Jvm.MethodName)) ∈ TB := tb2 124 rfl rfl
theorem w_473 : (Jvm.Cond.instanceMethod ({ cls := "RightKeys", name := "read", desc := "()I" } : Jvm.MethodName)) ∈ TB := tb2 125 rfl rfl
theorem w_474 : (Jvm.Cond.selects "RightKeys" ({ cls := "RightKeys", name := "read", desc := "()I" } : Jvm.MethodName) ({ cls := "RightKeys", name := "read", desc := "()I" } : Jvm.MethodName)) ∈ TB := tb2 126 rfl rfl
theorem w_475 : (Jvm.Cond.code ({ cls := "RightKeys", name := "read", desc := "()I" } : Jvm.MethodName) prog_1_method_5_code (2 : Nat) (Option.some Jvm.ClassFile.FieldType.int)) ∈ TB := tb2 127 rfl rfl
theorem w_476 : (Jvm.Cond.methodLink "RightKeys" (89 : Nat) ({ cls := "RightKeys$Reader", name := "readText", desc := "([BILRightKeys$Text;)I" } : Jvm.MethodName)) ∈ TB := tb2 128 rfl rfl
theorem w_477 : (Jvm.Cond.instanceMethod ({ cls := "RightKeys$Reader", name := "readText", desc := "([BILRightKeys$Text;)I" } : Jvm.MethodName)) ∈ TB := tb2 129 rfl rfl
theorem w_478 : (Jvm.Cond.selects "RightKeys$Reader" ({ cls := "RightKeys$Reader", name := "readText", desc := "([BILRightKeys$Text;)I" } : Jvm.MethodName) ({ cls := "RightKeys$Reader", name := "readText", desc := "([BILRightKeys$Text;)I" } : Jvm.MethodName)) ∈ TB := tb2 130 rfl rfl
theorem w_479 : (Jvm.Cond.code ({ cls := "RightKeys$Reader", name := "readText", desc := "([BILRightKeys$Text;)I" } : Jvm.MethodName) prog_3_method_2_code (6 : Nat) (Option.some Jvm.ClassFile.FieldType.int)) ∈ TB := tb2 131 rfl rfl
theorem w_480 : (Jvm.Cond.methodLink "RightKeys$Reader" (38 : Nat) ({ cls := "RightKeys$Tokens", name := "scan", desc := "([BI)V" } : Jvm.MethodName)) ∈ TB := tb2 132 rfl rfl
theorem w_481 : (Jvm.Cond.instanceMethod ({ cls := "RightKeys$Tokens", name := "scan", desc := "([BI)V" } : Jvm.MethodName)) ∈ TB := tb2 133 rfl rfl
theorem w_482 : (Jvm.Cond.selects "RightKeys$Tokens" ({ cls := "RightKeys$Tokens", name := "scan", desc := "([BI)V" } : Jvm.MethodName) ({ cls := "RightKeys$Tokens", name := "scan", desc := "([BI)V" } : Jvm.MethodName)) ∈ TB := tb2 134 rfl rfl
theorem w_483 : (Jvm.Cond.code ({ cls := "RightKeys$Tokens", name := "scan", desc := "([BI)V" } : Jvm.MethodName) prog_6_method_2_code (5 : Nat) (Option.none : Option Jvm.ClassFile.FieldType)) ∈ TB := tb2 135 rfl rfl
theorem w_484 : (Jvm.Cond.methodLink "RightKeys$Tokens" (26 : Nat) ({ cls := "RightKeys$Tokens", name := "isBlank", desc := "(I)Z" } : Jvm.MethodName)) ∈ TB := tb2 136 rfl rfl
theorem w_485 : (Jvm.Cond.static ({ cls := "RightKeys$Tokens", name := "isBlank", desc := "(I)Z" } : Jvm.MethodName)) ∈ TB := tb2 137 rfl rfl
theorem w_486 : (Jvm.Cond.code ({ cls := "RightKeys$Tokens", name := "isBlank", desc := "(I)Z" } : Jvm.MethodName) prog_6_method_9_code (1 : Nat) (Option.some Jvm.ClassFile.FieldType.boolean)) ∈ TB := tb2 138 rfl rfl
theorem w_487 : (Jvm.Cond.methodLink "RightKeys$Tokens" (30 : Nat) ({ cls := "RightKeys$Tokens", name := "runEnd", desc := "([BII)I" } : Jvm.MethodName)) ∈ TB := tb2 139 rfl rfl
theorem w_488 : (Jvm.Cond.static ({ cls := "RightKeys$Tokens", name := "runEnd", desc := "([BII)I" } : Jvm.MethodName)) ∈ TB := tb2 140 rfl rfl
theorem w_489 : (Jvm.Cond.code ({ cls := "RightKeys$Tokens", name := "runEnd", desc := "([BII)I" } : Jvm.MethodName) prog_6_method_4_code (4 : Nat) (Option.some Jvm.ClassFile.FieldType.int)) ∈ TB := tb2 141 rfl rfl
theorem w_490 : (Jvm.Cond.methodLink "RightKeys$Tokens" (45 : Nat) ({ cls := "RightKeys$Tokens", name := "isLetter", desc := "(I)Z" } : Jvm.MethodName)) ∈ TB := tb2 142 rfl rfl
theorem w_491 : (Jvm.Cond.static ({ cls := "RightKeys$Tokens", name := "isLetter", desc := "(I)Z" } : Jvm.MethodName)) ∈ TB := tb2 143 rfl rfl
theorem w_492 : (Jvm.Cond.code ({ cls := "RightKeys$Tokens", name := "isLetter", desc := "(I)Z" } : Jvm.MethodName) prog_6_method_10_code (1 : Nat) (Option.some Jvm.ClassFile.FieldType.boolean)) ∈ TB := tb2 144 rfl rfl
theorem w_493 : (Jvm.Cond.methodLink "RightKeys$Tokens" (48 : Nat) ({ cls := "RightKeys$Tokens", name := "isDigit", desc := "(I)Z" } : Jvm.MethodName)) ∈ TB := tb2 145 rfl rfl
theorem w_494 : (Jvm.Cond.static ({ cls := "RightKeys$Tokens", name := "isDigit", desc := "(I)Z" } : Jvm.MethodName)) ∈ TB := tb2 146 rfl rfl
theorem w_495 : (Jvm.Cond.code ({ cls := "RightKeys$Tokens", name := "isDigit", desc := "(I)Z" } : Jvm.MethodName) prog_6_method_11_code (1 : Nat) (Option.some Jvm.ClassFile.FieldType.boolean)) ∈ TB := tb2 147 rfl rfl
theorem w_496 : (Jvm.Cond.methodLink "RightKeys$Tokens" (34 : Nat) ({ cls := "RightKeys$Tokens", name := "kindOf", desc := "([BII)I" } : Jvm.MethodName)) ∈ TB := tb2 148 rfl rfl
theorem w_497 : (Jvm.Cond.static ({ cls := "RightKeys$Tokens", name := "kindOf", desc := "([BII)I" } : Jvm.MethodName)) ∈ TB := tb2 149 rfl rfl
theorem w_498 : (Jvm.Cond.code ({ cls := "RightKeys$Tokens", name := "kindOf", desc := "([BII)I" } : Jvm.MethodName) prog_6_method_5_code (4 : Nat) (Option.some Jvm.ClassFile.FieldType.int)) ∈ TB := tb2 150 rfl rfl
theorem w_499 : (Jvm.Cond.methodLink "RightKeys$Tokens" (51 : Nat) ({ cls := "RightKeys$Tokens", name := "wordOf", desc := "([BII)I" } : Jvm.MethodName)) ∈ TB := tb2 151 rfl rfl
theorem w_500 : (Jvm.Cond.static ({ cls := "RightKeys$Tokens", name := "wordOf", desc := "([BII)I" } : Jvm.MethodName)) ∈ TB := tb2 152 rfl rfl
theorem w_501 : (Jvm.Cond.code ({ cls := "RightKeys$Tokens", name := "wordOf", desc := "([BII)I" } : Jvm.MethodName) prog_6_method_6_code (4 : Nat) (Option.some Jvm.ClassFile.FieldType.int)) ∈ TB := tb2 153 rfl rfl
theorem w_502 : (Jvm.Cond.methodLink "RightKeys$Tokens" (66 : Nat) ({ cls := "RightKeys$Tokens", name := "isWord", desc := "([BIII)Z" } : Jvm.MethodName)) ∈ TB := tb2 154 rfl rfl
theorem w_503 : (Jvm.Cond.static ({ cls := "RightKeys$Tokens", name := "isWord", desc := "([BIII)Z" } : Jvm.MethodName)) ∈ TB := tb2 155 rfl rfl
theorem w_504 : (Jvm.Cond.code ({ cls := "RightKeys$Tokens", name := "isWord", desc := "([BIII)Z" } : Jvm.MethodName) prog_6_method_7_code (6 : Nat) (Option.some Jvm.ClassFile.FieldType.boolean)) ∈ TB := tb2 156 rfl rfl
theorem w_506 : (Jvm.Cond.methodLink "RightKeys$Tokens" (62 : Nat) ({ cls := "java/lang/String", name := "charAt", desc := "(I)C" } : Jvm.MethodName)) ∈ TB := tb2 158 rfl rfl
theorem w_507 : (Jvm.Cond.instanceMethod ({ cls := "java/lang/String", name := "charAt", desc := "(I)C" } : Jvm.MethodName)) ∈ TB := tb2 159 rfl rfl
theorem w_508 : (Jvm.Cond.selects "java/lang/String" ({ cls := "java/lang/String", name := "charAt", desc := "(I)C" } : Jvm.MethodName) ({ cls := "java/lang/String", name := "charAt", desc := "(I)C" } : Jvm.MethodName)) ∈ TB := tb2 160 rfl rfl
theorem w_509 : (Jvm.Cond.code ({ cls := "java/lang/String", name := "charAt", desc := "(I)C" } : Jvm.MethodName) prog_12_method_56_code (2 : Nat) (Option.some Jvm.ClassFile.FieldType.char)) ∈ TB := tb2 161 rfl rfl
theorem w_510 : (Jvm.Cond.methodLink "java/lang/String" (492 : Nat) ({ cls := "java/lang/String", name := "isLatin1", desc := "()Z" } : Jvm.MethodName)) ∈ TB := tb2 162 rfl rfl
theorem w_511 : (Jvm.Cond.instanceMethod ({ cls := "java/lang/String", name := "isLatin1", desc := "()Z" } : Jvm.MethodName)) ∈ TB := tb2 163 rfl rfl
theorem w_512 : (Jvm.Cond.selects "java/lang/String" ({ cls := "java/lang/String", name := "isLatin1", desc := "()Z" } : Jvm.MethodName) ({ cls := "java/lang/String", name := "isLatin1", desc := "()Z" } : Jvm.MethodName)) ∈ TB := tb2 164 rfl rfl
theorem w_513 : (Jvm.Cond.code ({ cls := "java/lang/String", name := "isLatin1", desc := "()Z" } : Jvm.MethodName) prog_12_method_154_code (1 : Nat) (Option.some Jvm.ClassFile.FieldType.boolean)) ∈ TB := tb2 165 rfl rfl
theorem w_514 : (Jvm.Cond.fieldLink "java/lang/String" (38 : Nat) "java/lang/String" "COMPACT_STRINGS" "Z") ∈ TB := tb2 166 rfl rfl
theorem w_516 : (Jvm.Cond.methodLink "java/lang/String" (495 : Nat) ({ cls := "java/lang/StringLatin1", name := "charAt", desc := "([BI)C" } : Jvm.MethodName)) ∈ TB := tb2 168 rfl rfl
theorem w_517 : (Jvm.Cond.static ({ cls := "java/lang/StringLatin1", name := "charAt", desc := "([BI)C" } : Jvm.MethodName)) ∈ TB := tb2 169 rfl rfl
theorem w_518 : (Jvm.Cond.code ({ cls := "java/lang/StringLatin1", name := "charAt", desc := "([BI)C" } : Jvm.MethodName) prog_13_method_2_code (2 : Nat) (Option.some Jvm.ClassFile.FieldType.char)) ∈ TB := tb2 170 rfl rfl
theorem w_519 : (Jvm.Cond.methodLink "java/lang/StringLatin1" (9 : Nat) ({ cls := "java/lang/String", name := "checkIndex", desc := "(II)V" } : Jvm.MethodName)) ∈ TB := tb2 171 rfl rfl
theorem w_520 : (Jvm.Cond.static ({ cls := "java/lang/String", name := "checkIndex", desc := "(II)V" } : Jvm.MethodName)) ∈ TB := tb2 172 rfl rfl
theorem w_521 : (Jvm.Cond.code ({ cls := "java/lang/String", name := "checkIndex", desc := "(II)V" } : Jvm.MethodName) prog_12_method_155_code (2 : Nat) (Option.none : Option Jvm.ClassFile.FieldType)) ∈ TB := tb2 173 rfl rfl
theorem w_522 : (Jvm.Cond.fieldLink "java/lang/String" (1053 : Nat) "jdk/internal/util/Preconditions" "SIOOBE_FORMATTER" "Ljava/util/function/BiFunction;") ∈ TB := tb2 174 rfl rfl
theorem w_524 : (Jvm.Cond.methodLink "java/lang/String" (1059 : Nat) ({ cls := "jdk/internal/util/Preconditions", name := "checkIndex", desc := "(IILjava/util/function/BiFunction;)I" } : Jvm.MethodName)) ∈ TB := tb2 176 rfl rfl
theorem w_525 : (Jvm.Cond.static ({ cls := "jdk/internal/util/Preconditions", name := "checkIndex", desc := "(IILjava/util/function/BiFunction;)I" } : Jvm.MethodName)) ∈ TB := tb2 177 rfl rfl
theorem w_526 : (Jvm.Cond.code ({ cls := "jdk/internal/util/Preconditions", name := "checkIndex", desc := "(IILjava/util/function/BiFunction;)I" } : Jvm.MethodName) prog_17_method_11_code (3 : Nat) (Option.some Jvm.ClassFile.FieldType.int)) ∈ TB := tb2 178 rfl rfl
theorem w_527 : (Jvm.Cond.methodLink "java/lang/String" (498 : Nat) ({ cls := "java/lang/StringUTF16", name := "charAt", desc := "([BI)C" } : Jvm.MethodName)) ∈ TB := tb2 179 rfl rfl
theorem w_528 : (Jvm.Cond.static ({ cls := "java/lang/StringUTF16", name := "charAt", desc := "([BI)C" } : Jvm.MethodName)) ∈ TB := tb2 180 rfl rfl
theorem w_529 : (Jvm.Cond.code ({ cls := "java/lang/StringUTF16", name := "charAt", desc := "([BI)C" } : Jvm.MethodName) prog_14_method_83_code (2 : Nat) (Option.some Jvm.ClassFile.FieldType.char)) ∈ TB := tb2 181 rfl rfl
theorem w_530 : (Jvm.Cond.methodLink "java/lang/StringUTF16" (67 : Nat) ({ cls := "java/lang/StringUTF16", name := "checkIndex", desc := "(I[B)V" } : Jvm.MethodName)) ∈ TB := tb2 182 rfl rfl
theorem w_531 : (Jvm.Cond.static ({ cls := "java/lang/StringUTF16", name := "checkIndex", desc := "(I[B)V" } : Jvm.MethodName)) ∈ TB := tb2 183 rfl rfl
theorem w_532 : (Jvm.Cond.code ({ cls := "java/lang/StringUTF16", name := "checkIndex", desc := "(I[B)V" } : Jvm.MethodName) prog_14_method_91_code (2 : Nat) (Option.none : Option Jvm.ClassFile.FieldType)) ∈ TB := tb2 184 rfl rfl
theorem w_533 : (Jvm.Cond.methodLink "java/lang/StringUTF16" (48 : Nat) ({ cls := "java/lang/StringUTF16", name := "length", desc := "([B)I" } : Jvm.MethodName)) ∈ TB := tb2 185 rfl rfl
theorem w_534 : (Jvm.Cond.static ({ cls := "java/lang/StringUTF16", name := "length", desc := "([B)I" } : Jvm.MethodName)) ∈ TB := tb2 186 rfl rfl
theorem w_535 : (Jvm.Cond.code ({ cls := "java/lang/StringUTF16", name := "length", desc := "([B)I" } : Jvm.MethodName) prog_14_method_6_code (1 : Nat) (Option.some Jvm.ClassFile.FieldType.int)) ∈ TB := tb2 187 rfl rfl
theorem w_536 : (Jvm.Cond.methodLink "java/lang/StringUTF16" (414 : Nat) ({ cls := "java/lang/String", name := "checkIndex", desc := "(II)V" } : Jvm.MethodName)) ∈ TB := tb2 188 rfl rfl
theorem w_537 : (Jvm.Cond.methodLink "java/lang/StringUTF16" (71 : Nat) ({ cls := "java/lang/StringUTF16", name := "getChar", desc := "([BI)C" } : Jvm.MethodName)) ∈ TB := tb2 189 rfl rfl
theorem w_538 : (Jvm.Cond.static ({ cls := "java/lang/StringUTF16", name := "getChar", desc := "([BI)C" } : Jvm.MethodName)) ∈ TB := tb2 190 rfl rfl
theorem w_539 : (Jvm.Cond.code ({ cls := "java/lang/StringUTF16", name := "getChar", desc := "([BI)C" } : Jvm.MethodName) prog_14_method_5_code (2 : Nat) (Option.some Jvm.ClassFile.FieldType.char)) ∈ TB := tb2 191 rfl rfl
theorem w_540 : (Jvm.Cond.fieldLink "java/lang/StringUTF16" (44 : Nat) "java/lang/StringUTF16" "$assertionsDisabled" "Z") ∈ TB := tb2 192 rfl rfl
theorem w_542 : (Jvm.Cond.fieldLink "java/lang/StringUTF16" (59 : Nat) "java/lang/StringUTF16" "HI_BYTE_SHIFT" "I") ∈ TB := tb2 194 rfl rfl
theorem w_544 : (Jvm.Cond.fieldLink "java/lang/StringUTF16" (63 : Nat) "java/lang/StringUTF16" "LO_BYTE_SHIFT" "I") ∈ TB := tb2 196 rfl rfl
theorem w_547 : (Jvm.Cond.methodLink "RightKeys$Tokens" (56 : Nat) ({ cls := "java/lang/String", name := "length", desc := "()I" } : Jvm.MethodName)) ∈ TB := tb2 199 rfl rfl
theorem w_548 : (Jvm.Cond.instanceMethod ({ cls := "java/lang/String", name := "length", desc := "()I" } : Jvm.MethodName)) ∈ TB := tb2 200 rfl rfl
theorem w_549 : (Jvm.Cond.selects "java/lang/String" ({ cls := "java/lang/String", name := "length", desc := "()I" } : Jvm.MethodName) ({ cls := "java/lang/String", name := "length", desc := "()I" } : Jvm.MethodName)) ∈ TB := tb2 201 rfl rfl
theorem w_550 : (Jvm.Cond.code ({ cls := "java/lang/String", name := "length", desc := "()I" } : Jvm.MethodName) prog_12_method_54_code (1 : Nat) (Option.some Jvm.ClassFile.FieldType.int)) ∈ TB := tb2 202 rfl rfl
theorem w_551 : (Jvm.Cond.methodLink "java/lang/String" (335 : Nat) ({ cls := "java/lang/String", name := "coder", desc := "()B" } : Jvm.MethodName)) ∈ TB := tb2 203 rfl rfl
theorem w_552 : (Jvm.Cond.instanceMethod ({ cls := "java/lang/String", name := "coder", desc := "()B" } : Jvm.MethodName)) ∈ TB := tb2 204 rfl rfl
theorem w_553 : (Jvm.Cond.selects "java/lang/String" ({ cls := "java/lang/String", name := "coder", desc := "()B" } : Jvm.MethodName) ({ cls := "java/lang/String", name := "coder", desc := "()B" } : Jvm.MethodName)) ∈ TB := tb2 205 rfl rfl
theorem w_554 : (Jvm.Cond.code ({ cls := "java/lang/String", name := "coder", desc := "()B" } : Jvm.MethodName) prog_12_method_152_code (1 : Nat) (Option.some Jvm.ClassFile.FieldType.byte)) ∈ TB := tb2 206 rfl rfl
theorem w_555 : (Jvm.Cond.methodLink "RightKeys$Tokens" (37 : Nat) ({ cls := "RightKeys$Tokens", name := "valueOf", desc := "([BII)J" } : Jvm.MethodName)) ∈ TB := tb2 207 rfl rfl
theorem w_556 : (Jvm.Cond.static ({ cls := "RightKeys$Tokens", name := "valueOf", desc := "([BII)J" } : Jvm.MethodName)) ∈ TB := tb2 208 rfl rfl
theorem w_557 : (Jvm.Cond.code ({ cls := "RightKeys$Tokens", name := "valueOf", desc := "([BII)J" } : Jvm.MethodName) prog_6_method_8_code (8 : Nat) (Option.some Jvm.ClassFile.FieldType.long)) ∈ TB := tb2 209 rfl rfl
theorem w_558 : (Jvm.Cond.methodLink "RightKeys$Tokens" (72 : Nat) ({ cls := "java/lang/Math", name := "min", desc := "(II)I" } : Jvm.MethodName)) ∈ TB := tb2 210 rfl rfl
theorem w_559 : (Jvm.Cond.static ({ cls := "java/lang/Math", name := "min", desc := "(II)I" } : Jvm.MethodName)) ∈ TB := tb2 211 rfl rfl
theorem w_560 : (Jvm.Cond.code ({ cls := "java/lang/Math", name := "min", desc := "(II)I" } : Jvm.MethodName) prog_11_method_69_code (2 : Nat) (Option.some Jvm.ClassFile.FieldType.int)) ∈ TB := tb2 212 rfl rfl
theorem w_561 : (Jvm.Cond.constantLong "RightKeys$Tokens" (78 : Nat) (27 : Int64)) ∈ TB := tb2 213 rfl rfl
theorem w_562 : (Jvm.Cond.constantLong "RightKeys$Tokens" (80 : Nat) (10 : Int64)) ∈ TB := tb2 214 rfl rfl
theorem w_563 : (Jvm.Cond.methodLink "RightKeys$Tokens" (41 : Nat) ({ cls := "RightKeys$Tokens", name := "put", desc := "(IIJ)V" } : Jvm.MethodName)) ∈ TB := tb2 215 rfl rfl
theorem w_565 : (Jvm.Cond.instanceMethod ({ cls := "RightKeys$Tokens", name := "put", desc := "(IIJ)V" } : Jvm.MethodName)) ∈ TB := tb2 217 rfl rfl
theorem w_566 : (Jvm.Cond.code ({ cls := "RightKeys$Tokens", name := "put", desc := "(IIJ)V" } : Jvm.MethodName) prog_6_method_3_code (5 : Nat) (Option.none : Option Jvm.ClassFile.FieldType)) ∈ TB := tb2 218 rfl rfl
theorem w_567 : (Jvm.Cond.methodLink "RightKeys$Reader" (42 : Nat) ({ cls := "RightKeys$Text", name := "clear", desc := "()V" } : Jvm.MethodName)) ∈ TB := tb2 219 rfl rfl
theorem w_568 : (Jvm.Cond.instanceMethod ({ cls := "RightKeys$Text", name := "clear", desc := "()V" } : Jvm.MethodName)) ∈ TB := tb2 220 rfl rfl
theorem w_569 : (Jvm.Cond.selects "RightKeys$Text" ({ cls := "RightKeys$Text", name := "clear", desc := "()V" } : Jvm.MethodName) ({ cls := "RightKeys$Text", name := "clear", desc := "()V" } : Jvm.MethodName)) ∈ TB := tb2 221 rfl rfl
theorem w_570 : (Jvm.Cond.code ({ cls := "RightKeys$Text", name := "clear", desc := "()V" } : Jvm.MethodName) prog_5_method_2_code (1 : Nat) (Option.none : Option Jvm.ClassFile.FieldType)) ∈ TB := tb2 222 rfl rfl
theorem w_571 : (Jvm.Cond.methodLink "RightKeys$Text" (51 : Nat) ({ cls := "RightKeys$Laws", name := "clear", desc := "()V" } : Jvm.MethodName)) ∈ TB := tb2 223 rfl rfl
theorem w_572 : (Jvm.Cond.methodLink "RightKeys$Reader" (47 : Nat) ({ cls := "RightKeys$Reader", name := "kindHere", desc := "()I" } : Jvm.MethodName)) ∈ TB := tb2 224 rfl rfl
theorem w_574 : (Jvm.Cond.instanceMethod ({ cls := "RightKeys$Reader", name := "kindHere", desc := "()I" } : Jvm.MethodName)) ∈ TB := tb2 226 rfl rfl
theorem w_575 : (Jvm.Cond.code ({ cls := "RightKeys$Reader", name := "kindHere", desc := "()I" } : Jvm.MethodName) prog_3_method_13_code (1 : Nat) (Option.some Jvm.ClassFile.FieldType.int)) ∈ TB := tb2 227 rfl rfl
theorem w_576 : (Jvm.Cond.methodLink "RightKeys$Reader" (51 : Nat) ({ cls := "RightKeys$Reader", name := "readTell", desc := "()Z" } : Jvm.MethodName)) ∈ TB := tb2 228 rfl rfl
theorem w_578 : (Jvm.Cond.instanceMethod ({ cls := "RightKeys$Reader", name := "readTell", desc := "()Z" } : Jvm.MethodName)) ∈ TB := tb2 230 rfl rfl
theorem w_579 : (Jvm.Cond.code ({ cls := "RightKeys$Reader", name := "readTell", desc := "()Z" } : Jvm.MethodName) prog_3_method_3_code (2 : Nat) (Option.some Jvm.ClassFile.FieldType.boolean)) ∈ TB := tb2 231 rfl rfl
theorem w_580 : (Jvm.Cond.methodLink "RightKeys$Reader" (55 : Nat) ({ cls := "RightKeys$Reader", name := "readHouse", desc := "()Z" } : Jvm.MethodName)) ∈ TB := tb2 232 rfl rfl
theorem w_582 : (Jvm.Cond.instanceMethod ({ cls := "RightKeys$Reader", name := "readHouse", desc := "()Z" } : Jvm.MethodName)) ∈ TB := tb2 234 rfl rfl
theorem w_583 : (Jvm.Cond.code ({ cls := "RightKeys$Reader", name := "readHouse", desc := "()Z" } : Jvm.MethodName) prog_3_method_4_code (2 : Nat) (Option.some Jvm.ClassFile.FieldType.boolean)) ∈ TB := tb2 235 rfl rfl
theorem w_584 : (Jvm.Cond.methodLink "RightKeys$Reader" (71 : Nat) ({ cls := "RightKeys$Reader", name := "stop", desc := "(I)Z" } : Jvm.MethodName)) ∈ TB := tb2 236 rfl rfl
theorem w_586 : (Jvm.Cond.instanceMethod ({ cls := "RightKeys$Reader", name := "stop", desc := "(I)Z" } : Jvm.MethodName)) ∈ TB := tb2 238 rfl rfl
theorem w_587 : (Jvm.Cond.code ({ cls := "RightKeys$Reader", name := "stop", desc := "(I)Z" } : Jvm.MethodName) prog_3_method_18_code (2 : Nat) (Option.some Jvm.ClassFile.FieldType.boolean)) ∈ TB := tb2 239 rfl rfl
theorem w_588 : (Jvm.Cond.methodLink "RightKeys$Reader" (77 : Nat) ({ cls := "RightKeys$Reader", name := "take", desc := "(I)Z" } : Jvm.MethodName)) ∈ TB := tb3 0 rfl rfl
theorem w_590 : (Jvm.Cond.instanceMethod ({ cls := "RightKeys$Reader", name := "take", desc := "(I)Z" } : Jvm.MethodName)) ∈ TB := tb3 2 rfl rfl
theorem w_591 : (Jvm.Cond.code ({ cls := "RightKeys$Reader", name := "take", desc := "(I)Z" } : Jvm.MethodName) prog_3_method_17_code (2 : Nat) (Option.some Jvm.ClassFile.FieldType.boolean)) ∈ TB := tb3 3 rfl rfl
theorem w_592 : (Jvm.Cond.methodLink "RightKeys$Reader" (84 : Nat) ({ cls := "RightKeys$Reader", name := "valueHere", desc := "()J" } : Jvm.MethodName)) ∈ TB := tb3 4 rfl rfl
theorem w_594 : (Jvm.Cond.instanceMethod ({ cls := "RightKeys$Reader", name := "valueHere", desc := "()J" } : Jvm.MethodName)) ∈ TB := tb3 6 rfl rfl
theorem w_595 : (Jvm.Cond.code ({ cls := "RightKeys$Reader", name := "valueHere", desc := "()J" } : Jvm.MethodName) prog_3_method_14_code (1 : Nat) (Option.some Jvm.ClassFile.FieldType.long)) ∈ TB := tb3 7 rfl rfl
theorem w_596 : (Jvm.Cond.methodLink "RightKeys$Reader" (88 : Nat) ({ cls := "RightKeys$Text", name := "houseNamed", desc := "(J)I" } : Jvm.MethodName)) ∈ TB := tb3 8 rfl rfl
theorem w_597 : (Jvm.Cond.instanceMethod ({ cls := "RightKeys$Text", name := "houseNamed", desc := "(J)I" } : Jvm.MethodName)) ∈ TB := tb3 9 rfl rfl
theorem w_598 : (Jvm.Cond.selects "RightKeys$Text" ({ cls := "RightKeys$Text", name := "houseNamed", desc := "(J)I" } : Jvm.MethodName) ({ cls := "RightKeys$Text", name := "houseNamed", desc := "(J)I" } : Jvm.MethodName)) ∈ TB := tb3 10 rfl rfl
theorem w_599 : (Jvm.Cond.code ({ cls := "RightKeys$Text", name := "houseNamed", desc := "(J)I" } : Jvm.MethodName) prog_5_method_3_code (4 : Nat) (Option.some Jvm.ClassFile.FieldType.int)) ∈ TB := tb3 11 rfl rfl
theorem w_600 : (Jvm.Cond.methodLink "RightKeys$Reader" (92 : Nat) ({ cls := "RightKeys$Reader", name := "note", desc := "(I)V" } : Jvm.MethodName)) ∈ TB := tb3 12 rfl rfl
theorem w_602 : (Jvm.Cond.instanceMethod ({ cls := "RightKeys$Reader", name := "note", desc := "(I)V" } : Jvm.MethodName)) ∈ TB := tb3 14 rfl rfl
theorem w_603 : (Jvm.Cond.code ({ cls := "RightKeys$Reader", name := "note", desc := "(I)V" } : Jvm.MethodName) prog_3_method_19_code (2 : Nat) (Option.none : Option Jvm.ClassFile.FieldType)) ∈ TB := tb3 15 rfl rfl
theorem w_604 : (Jvm.Cond.methodLink "RightKeys$Reader" (100 : Nat) ({ cls := "RightKeys$Reader", name := "intHere", desc := "(I)I" } : Jvm.MethodName)) ∈ TB := tb3 16 rfl rfl
theorem w_606 : (Jvm.Cond.instanceMethod ({ cls := "RightKeys$Reader", name := "intHere", desc := "(I)I" } : Jvm.MethodName)) ∈ TB := tb3 18 rfl rfl
theorem w_607 : (Jvm.Cond.code ({ cls := "RightKeys$Reader", name := "intHere", desc := "(I)I" } : Jvm.MethodName) prog_3_method_15_code (2 : Nat) (Option.some Jvm.ClassFile.FieldType.int)) ∈ TB := tb3 19 rfl rfl
theorem w_608 : (Jvm.Cond.methodLink "RightKeys$Reader" (58 : Nat) ({ cls := "RightKeys$Reader", name := "readSpare", desc := "()Z" } : Jvm.MethodName)) ∈ TB := tb3 20 rfl rfl
theorem w_610 : (Jvm.Cond.instanceMethod ({ cls := "RightKeys$Reader", name := "readSpare", desc := "()Z" } : Jvm.MethodName)) ∈ TB := tb3 22 rfl rfl
theorem w_611 : (Jvm.Cond.code ({ cls := "RightKeys$Reader", name := "readSpare", desc := "()Z" } : Jvm.MethodName) prog_3_method_5_code (2 : Nat) (Option.some Jvm.ClassFile.FieldType.boolean)) ∈ TB := tb3 23 rfl rfl
theorem w_612 : (Jvm.Cond.methodLink "RightKeys$Reader" (116 : Nat) ({ cls := "RightKeys$Reader", name := "houseHere", desc := "()I" } : Jvm.MethodName)) ∈ TB := tb3 24 rfl rfl
theorem w_614 : (Jvm.Cond.instanceMethod ({ cls := "RightKeys$Reader", name := "houseHere", desc := "()I" } : Jvm.MethodName)) ∈ TB := tb3 26 rfl rfl
theorem w_615 : (Jvm.Cond.code ({ cls := "RightKeys$Reader", name := "houseHere", desc := "()I" } : Jvm.MethodName) prog_3_method_16_code (2 : Nat) (Option.some Jvm.ClassFile.FieldType.int)) ∈ TB := tb3 27 rfl rfl
theorem w_616 : (Jvm.Cond.methodLink "RightKeys$Reader" (61 : Nat) ({ cls := "RightKeys$Reader", name := "readBoth", desc := "()Z" } : Jvm.MethodName)) ∈ TB := tb3 28 rfl rfl
theorem w_618 : (Jvm.Cond.instanceMethod ({ cls := "RightKeys$Reader", name := "readBoth", desc := "()Z" } : Jvm.MethodName)) ∈ TB := tb3 30 rfl rfl
theorem w_619 : (Jvm.Cond.code ({ cls := "RightKeys$Reader", name := "readBoth", desc := "()Z" } : Jvm.MethodName) prog_3_method_6_code (2 : Nat) (Option.some Jvm.ClassFile.FieldType.boolean)) ∈ TB := tb3 31 rfl rfl
theorem w_621 : (Jvm.Cond.static ({ cls := "RightKeys", name := "bit", desc := "(II)I" } : Jvm.MethodName)) ∈ TB := tb3 33 rfl rfl
theorem w_622 : (Jvm.Cond.code ({ cls := "RightKeys", name := "bit", desc := "(II)I" } : Jvm.MethodName) prog_1_method_53_code (2 : Nat) (Option.some Jvm.ClassFile.FieldType.int)) ∈ TB := tb3 34 rfl rfl
theorem w_623 : (Jvm.Cond.methodLink "RightKeys$Reader" (64 : Nat) ({ cls := "RightKeys$Reader", name := "readLaw", desc := "(I)Z" } : Jvm.MethodName)) ∈ TB := tb3 35 rfl rfl
theorem w_625 : (Jvm.Cond.instanceMethod ({ cls := "RightKeys$Reader", name := "readLaw", desc := "(I)Z" } : Jvm.MethodName)) ∈ TB := tb3 37 rfl rfl
theorem w_626 : (Jvm.Cond.code ({ cls := "RightKeys$Reader", name := "readLaw", desc := "(I)Z" } : Jvm.MethodName) prog_3_method_8_code (3 : Nat) (Option.some Jvm.ClassFile.FieldType.boolean)) ∈ TB := tb3 38 rfl rfl
theorem w_627 : (Jvm.Cond.methodLink "RightKeys$Reader" (144 : Nat) ({ cls := "RightKeys$Reader", name := "readIf", desc := "()Z" } : Jvm.MethodName)) ∈ TB := tb3 39 rfl rfl
theorem w_629 : (Jvm.Cond.instanceMethod ({ cls := "RightKeys$Reader", name := "readIf", desc := "()Z" } : Jvm.MethodName)) ∈ TB := tb3 41 rfl rfl
theorem w_630 : (Jvm.Cond.code ({ cls := "RightKeys$Reader", name := "readIf", desc := "()Z" } : Jvm.MethodName) prog_3_method_9_code (2 : Nat) (Option.some Jvm.ClassFile.FieldType.boolean)) ∈ TB := tb3 42 rfl rfl
theorem w_631 : (Jvm.Cond.methodLink "RightKeys$Reader" (147 : Nat) ({ cls := "RightKeys$Reader", name := "readSum", desc := "(I)Z" } : Jvm.MethodName)) ∈ TB := tb3 43 rfl rfl
theorem w_633 : (Jvm.Cond.instanceMethod ({ cls := "RightKeys$Reader", name := "readSum", desc := "(I)Z" } : Jvm.MethodName)) ∈ TB := tb3 45 rfl rfl
theorem w_634 : (Jvm.Cond.code ({ cls := "RightKeys$Reader", name := "readSum", desc := "(I)Z" } : Jvm.MethodName) prog_3_method_10_code (4 : Nat) (Option.some Jvm.ClassFile.FieldType.boolean)) ∈ TB := tb3 46 rfl rfl
theorem w_635 : (Jvm.Cond.methodLink "RightKeys$Reader" (156 : Nat) ({ cls := "RightKeys$Reader", name := "readProduct", desc := "(I)Z" } : Jvm.MethodName)) ∈ TB := tb3 47 rfl rfl
theorem w_637 : (Jvm.Cond.instanceMethod ({ cls := "RightKeys$Reader", name := "readProduct", desc := "(I)Z" } : Jvm.MethodName)) ∈ TB := tb3 49 rfl rfl
theorem w_638 : (Jvm.Cond.code ({ cls := "RightKeys$Reader", name := "readProduct", desc := "(I)Z" } : Jvm.MethodName) prog_3_method_11_code (4 : Nat) (Option.some Jvm.ClassFile.FieldType.boolean)) ∈ TB := tb3 50 rfl rfl
theorem w_639 : (Jvm.Cond.methodLink "RightKeys$Reader" (159 : Nat) ({ cls := "RightKeys$Reader", name := "readUnit", desc := "(I)Z" } : Jvm.MethodName)) ∈ TB := tb3 51 rfl rfl
theorem w_641 : (Jvm.Cond.instanceMethod ({ cls := "RightKeys$Reader", name := "readUnit", desc := "(I)Z" } : Jvm.MethodName)) ∈ TB := tb3 53 rfl rfl
theorem w_642 : (Jvm.Cond.code ({ cls := "RightKeys$Reader", name := "readUnit", desc := "(I)Z" } : Jvm.MethodName) prog_3_method_12_code (3 : Nat) (Option.some Jvm.ClassFile.FieldType.boolean)) ∈ TB := tb3 54 rfl rfl
theorem w_643 : (Jvm.Cond.methodLink "RightKeys$Reader" (150 : Nat) ({ cls := "RightKeys$Laws", name := "put", desc := "(II)I" } : Jvm.MethodName)) ∈ TB := tb3 55 rfl rfl
theorem w_644 : (Jvm.Cond.methodLink "RightKeys$Reader" (153 : Nat) ({ cls := "RightKeys$Laws", name := "jumpToHere", desc := "(I)V" } : Jvm.MethodName)) ∈ TB := tb3 56 rfl rfl
theorem w_645 : (Jvm.Cond.instanceMethod ({ cls := "RightKeys$Laws", name := "jumpToHere", desc := "(I)V" } : Jvm.MethodName)) ∈ TB := tb3 57 rfl rfl
theorem w_646 : (Jvm.Cond.selects "RightKeys$Laws" ({ cls := "RightKeys$Laws", name := "jumpToHere", desc := "(I)V" } : Jvm.MethodName) ({ cls := "RightKeys$Laws", name := "jumpToHere", desc := "(I)V" } : Jvm.MethodName)) ∈ TB := tb3 58 rfl rfl
theorem w_647 : (Jvm.Cond.code ({ cls := "RightKeys$Laws", name := "jumpToHere", desc := "(I)V" } : Jvm.MethodName) prog_2_method_5_code (2 : Nat) (Option.none : Option Jvm.ClassFile.FieldType)) ∈ TB := tb3 59 rfl rfl
theorem w_648 : (Jvm.Cond.methodLink "RightKeys$Reader" (68 : Nat) ({ cls := "RightKeys$Reader", name := "readSeed", desc := "()Z" } : Jvm.MethodName)) ∈ TB := tb3 60 rfl rfl
theorem w_650 : (Jvm.Cond.instanceMethod ({ cls := "RightKeys$Reader", name := "readSeed", desc := "()Z" } : Jvm.MethodName)) ∈ TB := tb3 62 rfl rfl
theorem w_651 : (Jvm.Cond.code ({ cls := "RightKeys$Reader", name := "readSeed", desc := "()Z" } : Jvm.MethodName) prog_3_method_7_code (1 : Nat) (Option.some Jvm.ClassFile.FieldType.boolean)) ∈ TB := tb3 63 rfl rfl
theorem w_652 : (Jvm.Cond.methodLink "RightKeys" (96 : Nat) ({ cls := "RightKeys", name := "takeDraft", desc := "()V" } : Jvm.MethodName)) ∈ TB := tb3 64 rfl rfl
theorem w_654 : (Jvm.Cond.instanceMethod ({ cls := "RightKeys", name := "takeDraft", desc := "()V" } : Jvm.MethodName)) ∈ TB := tb3 66 rfl rfl
theorem w_655 : (Jvm.Cond.code ({ cls := "RightKeys", name := "takeDraft", desc := "()V" } : Jvm.MethodName) prog_1_method_6_code (2 : Nat) (Option.none : Option Jvm.ClassFile.FieldType)) ∈ TB := tb3 67 rfl rfl
theorem w_656 : (Jvm.Cond.methodLink "RightKeys" (99 : Nat) ({ cls := "RightKeys$Ring", name := "begin", desc := "(LRightKeys$Text;)V" } : Jvm.MethodName)) ∈ TB := tb3 68 rfl rfl
theorem w_657 : (Jvm.Cond.instanceMethod ({ cls := "RightKeys$Ring", name := "begin", desc := "(LRightKeys$Text;)V" } : Jvm.MethodName)) ∈ TB := tb3 69 rfl rfl
theorem w_658 : (Jvm.Cond.selects "RightKeys$Ring" ({ cls := "RightKeys$Ring", name := "begin", desc := "(LRightKeys$Text;)V" } : Jvm.MethodName) ({ cls := "RightKeys$Ring", name := "begin", desc := "(LRightKeys$Text;)V" } : Jvm.MethodName)) ∈ TB := tb3 70 rfl rfl
theorem w_659 : (Jvm.Cond.code ({ cls := "RightKeys$Ring", name := "begin", desc := "(LRightKeys$Text;)V" } : Jvm.MethodName) prog_4_method_2_code (3 : Nat) (Option.none : Option Jvm.ClassFile.FieldType)) ∈ TB := tb3 71 rfl rfl
theorem w_660 : (Jvm.Cond.methodLink "RightKeys$Ring" (82 : Nat) ({ cls := "java/lang/System", name := "arraycopy", desc := "(Ljava/lang/Object;ILjava/lang/Object;II)V" } : Jvm.MethodName)) ∈ TB := tb3 72 rfl rfl
theorem w_661 : (Jvm.Cond.static ({ cls := "java/lang/System", name := "arraycopy", desc := "(Ljava/lang/Object;ILjava/lang/Object;II)V" } : Jvm.MethodName)) ∈ TB := tb3 73 rfl rfl
theorem w_662 : (Jvm.Cond.native ({ cls := "java/lang/System", name := "arraycopy", desc := "(Ljava/lang/Object;ILjava/lang/Object;II)V" } : Jvm.MethodName)) ∈ TB := tb3 74 rfl rfl
theorem w_663 : (Jvm.Cond.methodLink "RightKeys$Ring" (90 : Nat) ({ cls := "java/util/Arrays", name := "fill", desc := "([II)V" } : Jvm.MethodName)) ∈ TB := tb3 75 rfl rfl
theorem w_664 : (Jvm.Cond.static ({ cls := "java/util/Arrays", name := "fill", desc := "([II)V" } : Jvm.MethodName)) ∈ TB := tb3 76 rfl rfl
theorem w_665 : (Jvm.Cond.code ({ cls := "java/util/Arrays", name := "fill", desc := "([II)V" } : Jvm.MethodName) prog_16_method_103_code (4 : Nat) (Option.none : Option Jvm.ClassFile.FieldType)) ∈ TB := tb3 77 rfl rfl
theorem w_666 : (Jvm.Cond.methodLink "RightKeysLaw" (28 : Nat) ({ cls := "RightKeys", name := "place", desc := "()I" } : Jvm.MethodName)) ∈ TB := tb3 78 rfl rfl
theorem w_667 : (Jvm.Cond.instanceMethod ({ cls := "RightKeys", name := "place", desc := "()I" } : Jvm.MethodName)) ∈ TB := tb3 79 rfl rfl
theorem w_668 : (Jvm.Cond.selects "RightKeys" ({ cls := "RightKeys", name := "place", desc := "()I" } : Jvm.MethodName) ({ cls := "RightKeys", name := "place", desc := "()I" } : Jvm.MethodName)) ∈ TB := tb3 80 rfl rfl
theorem w_669 : (Jvm.Cond.code ({ cls := "RightKeys", name := "place", desc := "()I" } : Jvm.MethodName) prog_1_method_7_code (1 : Nat) (Option.some Jvm.ClassFile.FieldType.int)) ∈ TB := tb3 81 rfl rfl
theorem w_670 : (Jvm.Cond.methodLink "RightKeysLaw" (32 : Nat) ({ cls := "RightKeys", name := "house", desc := "(II)I" } : Jvm.MethodName)) ∈ TB := tb3 82 rfl rfl
theorem w_671 : (Jvm.Cond.instanceMethod ({ cls := "RightKeys", name := "house", desc := "(II)I" } : Jvm.MethodName)) ∈ TB := tb3 83 rfl rfl
theorem w_672 : (Jvm.Cond.selects "RightKeys" ({ cls := "RightKeys", name := "house", desc := "(II)I" } : Jvm.MethodName) ({ cls := "RightKeys", name := "house", desc := "(II)I" } : Jvm.MethodName)) ∈ TB := tb3 84 rfl rfl
theorem w_673 : (Jvm.Cond.code ({ cls := "RightKeys", name := "house", desc := "(II)I" } : Jvm.MethodName) prog_1_method_8_code (3 : Nat) (Option.some Jvm.ClassFile.FieldType.int)) ∈ TB := tb3 85 rfl rfl
theorem w_674 : (Jvm.Cond.methodLink "RightKeys" (102 : Nat) ({ cls := "RightKeys", name := "isHouse", desc := "(I)Z" } : Jvm.MethodName)) ∈ TB := tb3 86 rfl rfl
theorem w_676 : (Jvm.Cond.instanceMethod ({ cls := "RightKeys", name := "isHouse", desc := "(I)Z" } : Jvm.MethodName)) ∈ TB := tb3 88 rfl rfl
theorem w_677 : (Jvm.Cond.code ({ cls := "RightKeys", name := "isHouse", desc := "(I)Z" } : Jvm.MethodName) prog_1_method_46_code (2 : Nat) (Option.some Jvm.ClassFile.FieldType.boolean)) ∈ TB := tb3 89 rfl rfl
theorem w_678 : (Jvm.Cond.methodLink "RightKeys" (115 : Nat) ({ cls := "RightKeys$Ring", name := "whereIs", desc := "(I)I" } : Jvm.MethodName)) ∈ TB := tb3 90 rfl rfl
theorem w_679 : (Jvm.Cond.instanceMethod ({ cls := "RightKeys$Ring", name := "whereIs", desc := "(I)I" } : Jvm.MethodName)) ∈ TB := tb3 91 rfl rfl
theorem w_680 : (Jvm.Cond.selects "RightKeys$Ring" ({ cls := "RightKeys$Ring", name := "whereIs", desc := "(I)I" } : Jvm.MethodName) ({ cls := "RightKeys$Ring", name := "whereIs", desc := "(I)I" } : Jvm.MethodName)) ∈ TB := tb3 92 rfl rfl
theorem w_681 : (Jvm.Cond.code ({ cls := "RightKeys$Ring", name := "whereIs", desc := "(I)I" } : Jvm.MethodName) prog_4_method_21_code (2 : Nat) (Option.some Jvm.ClassFile.FieldType.int)) ∈ TB := tb3 93 rfl rfl
theorem w_683 : (Jvm.Cond.methodLink "RightKeys" (125 : Nat) ({ cls := "RightKeys", name := "bit", desc := "(II)I" } : Jvm.MethodName)) ∈ TB := tb3 95 rfl rfl
theorem w_684 : (Jvm.Cond.methodLink "RightKeys" (138 : Nat) ({ cls := "RightKeys$Ring", name := "rentOf", desc := "(I)I" } : Jvm.MethodName)) ∈ TB := tb3 96 rfl rfl
theorem w_685 : (Jvm.Cond.instanceMethod ({ cls := "RightKeys$Ring", name := "rentOf", desc := "(I)I" } : Jvm.MethodName)) ∈ TB := tb3 97 rfl rfl
theorem w_686 : (Jvm.Cond.selects "RightKeys$Ring" ({ cls := "RightKeys$Ring", name := "rentOf", desc := "(I)I" } : Jvm.MethodName) ({ cls := "RightKeys$Ring", name := "rentOf", desc := "(I)I" } : Jvm.MethodName)) ∈ TB := tb3 98 rfl rfl
theorem w_687 : (Jvm.Cond.code ({ cls := "RightKeys$Ring", name := "rentOf", desc := "(I)I" } : Jvm.MethodName) prog_4_method_29_code (4 : Nat) (Option.some Jvm.ClassFile.FieldType.int)) ∈ TB := tb3 99 rfl rfl
theorem w_688 : (Jvm.Cond.methodLink "RightKeys$Ring" (129 : Nat) ({ cls := "RightKeys$Ring", name := "setVariables", desc := "(IIIII)V" } : Jvm.MethodName)) ∈ TB := tb3 100 rfl rfl
theorem w_690 : (Jvm.Cond.instanceMethod ({ cls := "RightKeys$Ring", name := "setVariables", desc := "(IIIII)V" } : Jvm.MethodName)) ∈ TB := tb3 102 rfl rfl
theorem w_691 : (Jvm.Cond.code ({ cls := "RightKeys$Ring", name := "setVariables", desc := "(IIIII)V" } : Jvm.MethodName) prog_4_method_15_code (7 : Nat) (Option.none : Option Jvm.ClassFile.FieldType)) ∈ TB := tb3 103 rfl rfl
theorem w_692 : (Jvm.Cond.methodLink "RightKeys$Ring" (184 : Nat) ({ cls := "java/lang/Integer", name := "bitCount", desc := "(I)I" } : Jvm.MethodName)) ∈ TB := tb3 104 rfl rfl
theorem w_693 : (Jvm.Cond.static ({ cls := "java/lang/Integer", name := "bitCount", desc := "(I)I" } : Jvm.MethodName)) ∈ TB := tb3 105 rfl rfl
theorem w_694 : (Jvm.Cond.code ({ cls := "java/lang/Integer", name := "bitCount", desc := "(I)I" } : Jvm.MethodName) prog_10_method_49_code (1 : Nat) (Option.some Jvm.ClassFile.FieldType.int)) ∈ TB := tb3 106 rfl rfl
theorem w_695 : (Jvm.Cond.constant "java/lang/Integer" (265 : Nat) (1431655765 : Int32)) ∈ TB := tb3 107 rfl rfl
theorem w_696 : (Jvm.Cond.constant "java/lang/Integer" (266 : Nat) (858993459 : Int32)) ∈ TB := tb3 108 rfl rfl
theorem w_697 : (Jvm.Cond.constant "java/lang/Integer" (267 : Nat) (252645135 : Int32)) ∈ TB := tb3 109 rfl rfl
theorem w_698 : (Jvm.Cond.methodLink "RightKeys$Ring" (137 : Nat) ({ cls := "RightKeys$Laws", name := "valueOf", desc := "(I)I" } : Jvm.MethodName)) ∈ TB := tb3 110 rfl rfl
theorem w_699 : (Jvm.Cond.instanceMethod ({ cls := "RightKeys$Laws", name := "valueOf", desc := "(I)I" } : Jvm.MethodName)) ∈ TB := tb3 111 rfl rfl
theorem w_700 : (Jvm.Cond.selects "RightKeys$Laws" ({ cls := "RightKeys$Laws", name := "valueOf", desc := "(I)I" } : Jvm.MethodName) ({ cls := "RightKeys$Laws", name := "valueOf", desc := "(I)I" } : Jvm.MethodName)) ∈ TB := tb3 112 rfl rfl
theorem w_701 : (Jvm.Cond.code ({ cls := "RightKeys$Laws", name := "valueOf", desc := "(I)I" } : Jvm.MethodName) prog_2_method_6_code (6 : Nat) (Option.some Jvm.ClassFile.FieldType.int)) ∈ TB := tb3 113 rfl rfl
theorem w_702 : (Jvm.Cond.methodLink "RightKeys$Laws" (39 : Nat) ({ cls := "java/lang/Math", name := "max", desc := "(II)I" } : Jvm.MethodName)) ∈ TB := tb3 114 rfl rfl
theorem w_703 : (Jvm.Cond.static ({ cls := "java/lang/Math", name := "max", desc := "(II)I" } : Jvm.MethodName)) ∈ TB := tb3 115 rfl rfl
theorem w_704 : (Jvm.Cond.code ({ cls := "java/lang/Math", name := "max", desc := "(II)I" } : Jvm.MethodName) prog_11_method_65_code (2 : Nat) (Option.some Jvm.ClassFile.FieldType.int)) ∈ TB := tb3 116 rfl rfl
theorem w_705 : (Jvm.Cond.methodLink "RightKeys$Laws" (44 : Nat) ({ cls := "RightKeys$Laws", name := "joined", desc := "(III)I" } : Jvm.MethodName)) ∈ TB := tb3 117 rfl rfl
theorem w_706 : (Jvm.Cond.static ({ cls := "RightKeys$Laws", name := "joined", desc := "(III)I" } : Jvm.MethodName)) ∈ TB := tb3 118 rfl rfl
theorem w_707 : (Jvm.Cond.code ({ cls := "RightKeys$Laws", name := "joined", desc := "(III)I" } : Jvm.MethodName) prog_2_method_7_code (3 : Nat) (Option.some Jvm.ClassFile.FieldType.int)) ∈ TB := tb3 119 rfl rfl
theorem w_708 : (Jvm.Cond.methodLink "RightKeys$Ring" (146 : Nat) ({ cls := "java/lang/Math", name := "min", desc := "(II)I" } : Jvm.MethodName)) ∈ TB := tb3 120 rfl rfl
theorem w_709 : (Jvm.Cond.methodLink "RightKeys$Ring" (151 : Nat) ({ cls := "java/lang/Math", name := "max", desc := "(II)I" } : Jvm.MethodName)) ∈ TB := tb3 121 rfl rfl
theorem w_710 : (Jvm.Cond.methodLink "RightKeysLaw" (37 : Nat) ({ cls := "RightKeys", name := "spare", desc := "(II)I" } : Jvm.MethodName)) ∈ TB := tb3 122 rfl rfl
theorem w_711 : (Jvm.Cond.instanceMethod ({ cls := "RightKeys", name := "spare", desc := "(II)I" } : Jvm.MethodName)) ∈ TB := tb3 123 rfl rfl
theorem w_712 : (Jvm.Cond.selects "RightKeys" ({ cls := "RightKeys", name := "spare", desc := "(II)I" } : Jvm.MethodName) ({ cls := "RightKeys", name := "spare", desc := "(II)I" } : Jvm.MethodName)) ∈ TB := tb3 124 rfl rfl
theorem w_713 : (Jvm.Cond.code ({ cls := "RightKeys", name := "spare", desc := "(II)I" } : Jvm.MethodName) prog_1_method_9_code (3 : Nat) (Option.some Jvm.ClassFile.FieldType.int)) ∈ TB := tb3 125 rfl rfl
theorem w_714 : (Jvm.Cond.methodLink "RightKeys" (141 : Nat) ({ cls := "RightKeys", name := "isSpare", desc := "(I)Z" } : Jvm.MethodName)) ∈ TB := tb3 126 rfl rfl
theorem w_716 : (Jvm.Cond.instanceMethod ({ cls := "RightKeys", name := "isSpare", desc := "(I)Z" } : Jvm.MethodName)) ∈ TB := tb3 128 rfl rfl
theorem w_717 : (Jvm.Cond.code ({ cls := "RightKeys", name := "isSpare", desc := "(I)Z" } : Jvm.MethodName) prog_1_method_47_code (2 : Nat) (Option.some Jvm.ClassFile.FieldType.boolean)) ∈ TB := tb3 129 rfl rfl
theorem w_718 : (Jvm.Cond.methodLink "RightKeysLaw" (41 : Nat) ({ cls := "RightKeys", name := "lets", desc := "(II)I" } : Jvm.MethodName)) ∈ TB := tb3 130 rfl rfl
theorem w_719 : (Jvm.Cond.instanceMethod ({ cls := "RightKeys", name := "lets", desc := "(II)I" } : Jvm.MethodName)) ∈ TB := tb3 131 rfl rfl
theorem w_720 : (Jvm.Cond.selects "RightKeys" ({ cls := "RightKeys", name := "lets", desc := "(II)I" } : Jvm.MethodName) ({ cls := "RightKeys", name := "lets", desc := "(II)I" } : Jvm.MethodName)) ∈ TB := tb3 132 rfl rfl
theorem w_721 : (Jvm.Cond.code ({ cls := "RightKeys", name := "lets", desc := "(II)I" } : Jvm.MethodName) prog_1_method_10_code (3 : Nat) (Option.some Jvm.ClassFile.FieldType.int)) ∈ TB := tb3 133 rfl rfl
theorem w_722 : (Jvm.Cond.methodLink "RightKeys" (153 : Nat) ({ cls := "RightKeys$Ring", name := "wouldLetIn", desc := "(II)Z" } : Jvm.MethodName)) ∈ TB := tb3 134 rfl rfl
theorem w_723 : (Jvm.Cond.instanceMethod ({ cls := "RightKeys$Ring", name := "wouldLetIn", desc := "(II)Z" } : Jvm.MethodName)) ∈ TB := tb3 135 rfl rfl
theorem w_724 : (Jvm.Cond.selects "RightKeys$Ring" ({ cls := "RightKeys$Ring", name := "wouldLetIn", desc := "(II)Z" } : Jvm.MethodName) ({ cls := "RightKeys$Ring", name := "wouldLetIn", desc := "(II)Z" } : Jvm.MethodName)) ∈ TB := tb3 136 rfl rfl
theorem w_725 : (Jvm.Cond.code ({ cls := "RightKeys$Ring", name := "wouldLetIn", desc := "(II)Z" } : Jvm.MethodName) prog_4_method_12_code (3 : Nat) (Option.some Jvm.ClassFile.FieldType.boolean)) ∈ TB := tb3 137 rfl rfl
theorem w_726 : (Jvm.Cond.methodLink "RightKeysLaw" (68 : Nat) ({ cls := "RightKeys", name := "openers", desc := "(I)I" } : Jvm.MethodName)) ∈ TB := tb3 138 rfl rfl
theorem w_727 : (Jvm.Cond.instanceMethod ({ cls := "RightKeys", name := "openers", desc := "(I)I" } : Jvm.MethodName)) ∈ TB := tb3 139 rfl rfl
theorem w_728 : (Jvm.Cond.selects "RightKeys" ({ cls := "RightKeys", name := "openers", desc := "(I)I" } : Jvm.MethodName) ({ cls := "RightKeys", name := "openers", desc := "(I)I" } : Jvm.MethodName)) ∈ TB := tb3 140 rfl rfl
theorem w_729 : (Jvm.Cond.code ({ cls := "RightKeys", name := "openers", desc := "(I)I" } : Jvm.MethodName) prog_1_method_11_code (2 : Nat) (Option.some Jvm.ClassFile.FieldType.int)) ∈ TB := tb3 141 rfl rfl
theorem w_730 : (Jvm.Cond.methodLink "RightKeys" (157 : Nat) ({ cls := "RightKeys$Ring", name := "openersOf", desc := "(I)I" } : Jvm.MethodName)) ∈ TB := tb3 142 rfl rfl
theorem w_731 : (Jvm.Cond.instanceMethod ({ cls := "RightKeys$Ring", name := "openersOf", desc := "(I)I" } : Jvm.MethodName)) ∈ TB := tb3 143 rfl rfl
theorem w_732 : (Jvm.Cond.selects "RightKeys$Ring" ({ cls := "RightKeys$Ring", name := "openersOf", desc := "(I)I" } : Jvm.MethodName) ({ cls := "RightKeys$Ring", name := "openersOf", desc := "(I)I" } : Jvm.MethodName)) ∈ TB := tb3 144 rfl rfl
theorem w_733 : (Jvm.Cond.code ({ cls := "RightKeys$Ring", name := "openersOf", desc := "(I)I" } : Jvm.MethodName) prog_4_method_26_code (5 : Nat) (Option.some Jvm.ClassFile.FieldType.int)) ∈ TB := tb3 145 rfl rfl
theorem w_734 : (Jvm.Cond.methodLink "RightKeys$Ring" (161 : Nat) ({ cls := "RightKeys$Ring", name := "leftOf", desc := "(I)I" } : Jvm.MethodName)) ∈ TB := tb3 146 rfl rfl
theorem w_736 : (Jvm.Cond.instanceMethod ({ cls := "RightKeys$Ring", name := "leftOf", desc := "(I)I" } : Jvm.MethodName)) ∈ TB := tb3 148 rfl rfl
theorem w_737 : (Jvm.Cond.code ({ cls := "RightKeys$Ring", name := "leftOf", desc := "(I)I" } : Jvm.MethodName) prog_4_method_23_code (2 : Nat) (Option.some Jvm.ClassFile.FieldType.int)) ∈ TB := tb3 149 rfl rfl
theorem w_738 : (Jvm.Cond.methodLink "RightKeys$Ring" (117 : Nat) ({ cls := "RightKeys$Ring", name := "rightOf", desc := "(I)I" } : Jvm.MethodName)) ∈ TB := tb3 150 rfl rfl
theorem w_740 : (Jvm.Cond.instanceMethod ({ cls := "RightKeys$Ring", name := "rightOf", desc := "(I)I" } : Jvm.MethodName)) ∈ TB := tb3 152 rfl rfl
theorem w_741 : (Jvm.Cond.code ({ cls := "RightKeys$Ring", name := "rightOf", desc := "(I)I" } : Jvm.MethodName) prog_4_method_24_code (2 : Nat) (Option.some Jvm.ClassFile.FieldType.int)) ∈ TB := tb3 153 rfl rfl
theorem w_742 : (Jvm.Cond.methodLink "RightKeys$Ring" (158 : Nat) ({ cls := "RightKeys$Ring", name := "hasOwnSpare", desc := "(I)Z" } : Jvm.MethodName)) ∈ TB := tb3 154 rfl rfl
theorem w_744 : (Jvm.Cond.instanceMethod ({ cls := "RightKeys$Ring", name := "hasOwnSpare", desc := "(I)Z" } : Jvm.MethodName)) ∈ TB := tb3 156 rfl rfl
theorem w_745 : (Jvm.Cond.code ({ cls := "RightKeys$Ring", name := "hasOwnSpare", desc := "(I)Z" } : Jvm.MethodName) prog_4_method_25_code (3 : Nat) (Option.some Jvm.ClassFile.FieldType.boolean)) ∈ TB := tb3 157 rfl rfl
theorem w_746 : (Jvm.Cond.methodLink "RightKeys$Ring" (164 : Nat) ({ cls := "RightKeys$Ring", name := "isOut", desc := "(I)Z" } : Jvm.MethodName)) ∈ TB := tb3 158 rfl rfl
theorem w_748 : (Jvm.Cond.instanceMethod ({ cls := "RightKeys$Ring", name := "isOut", desc := "(I)Z" } : Jvm.MethodName)) ∈ TB := tb3 160 rfl rfl
theorem w_749 : (Jvm.Cond.code ({ cls := "RightKeys$Ring", name := "isOut", desc := "(I)Z" } : Jvm.MethodName) prog_4_method_22_code (2 : Nat) (Option.some Jvm.ClassFile.FieldType.boolean)) ∈ TB := tb3 161 rfl rfl
theorem w_750 : (Jvm.Cond.methodLink "RightKeysLaw" (108 : Nat) ({ cls := "RightKeys", name := "by", desc := "(I)I" } : Jvm.MethodName)) ∈ TB := tb3 162 rfl rfl
theorem w_751 : (Jvm.Cond.instanceMethod ({ cls := "RightKeys", name := "by", desc := "(I)I" } : Jvm.MethodName)) ∈ TB := tb3 163 rfl rfl
theorem w_752 : (Jvm.Cond.selects "RightKeys" ({ cls := "RightKeys", name := "by", desc := "(I)I" } : Jvm.MethodName) ({ cls := "RightKeys", name := "by", desc := "(I)I" } : Jvm.MethodName)) ∈ TB := tb3 164 rfl rfl
theorem w_753 : (Jvm.Cond.code ({ cls := "RightKeys", name := "by", desc := "(I)I" } : Jvm.MethodName) prog_1_method_12_code (2 : Nat) (Option.some Jvm.ClassFile.FieldType.int)) ∈ TB := tb3 165 rfl rfl
theorem w_754 : (Jvm.Cond.methodLink "RightKeysLaw" (163 : Nat) ({ cls := "RightKeys", name := "count", desc := "(I)I" } : Jvm.MethodName)) ∈ TB := tb3 166 rfl rfl
theorem w_755 : (Jvm.Cond.instanceMethod ({ cls := "RightKeys", name := "count", desc := "(I)I" } : Jvm.MethodName)) ∈ TB := tb3 167 rfl rfl
theorem w_756 : (Jvm.Cond.selects "RightKeys" ({ cls := "RightKeys", name := "count", desc := "(I)I" } : Jvm.MethodName) ({ cls := "RightKeys", name := "count", desc := "(I)I" } : Jvm.MethodName)) ∈ TB := tb3 168 rfl rfl
theorem w_757 : (Jvm.Cond.code ({ cls := "RightKeys", name := "count", desc := "(I)I" } : Jvm.MethodName) prog_1_method_13_code (2 : Nat) (Option.some Jvm.ClassFile.FieldType.int)) ∈ TB := tb3 169 rfl rfl
theorem w_758 : (Jvm.Cond.methodLink "RightKeys" (175 : Nat) ({ cls := "RightKeys", name := "allHouses", desc := "()I" } : Jvm.MethodName)) ∈ TB := tb3 170 rfl rfl
theorem w_760 : (Jvm.Cond.instanceMethod ({ cls := "RightKeys", name := "allHouses", desc := "()I" } : Jvm.MethodName)) ∈ TB := tb3 172 rfl rfl
theorem w_761 : (Jvm.Cond.code ({ cls := "RightKeys", name := "allHouses", desc := "()I" } : Jvm.MethodName) prog_1_method_52_code (1 : Nat) (Option.some Jvm.ClassFile.FieldType.int)) ∈ TB := tb3 173 rfl rfl
theorem w_762 : (Jvm.Cond.methodLink "RightKeys" (185 : Nat) ({ cls := "java/lang/Integer", name := "bitCount", desc := "(I)I" } : Jvm.MethodName)) ∈ TB := tb3 174 rfl rfl
theorem w_763 : (Jvm.Cond.methodLink "RightKeys" (196 : Nat) ({ cls := "RightKeys$Ring", name := "sparesWithGoal", desc := "()I" } : Jvm.MethodName)) ∈ TB := tb3 175 rfl rfl
theorem w_764 : (Jvm.Cond.instanceMethod ({ cls := "RightKeys$Ring", name := "sparesWithGoal", desc := "()I" } : Jvm.MethodName)) ∈ TB := tb3 176 rfl rfl
theorem w_765 : (Jvm.Cond.selects "RightKeys$Ring" ({ cls := "RightKeys$Ring", name := "sparesWithGoal", desc := "()I" } : Jvm.MethodName) ({ cls := "RightKeys$Ring", name := "sparesWithGoal", desc := "()I" } : Jvm.MethodName)) ∈ TB := tb3 177 rfl rfl
theorem w_766 : (Jvm.Cond.code ({ cls := "RightKeys$Ring", name := "sparesWithGoal", desc := "()I" } : Jvm.MethodName) prog_4_method_28_code (3 : Nat) (Option.some Jvm.ClassFile.FieldType.int)) ∈ TB := tb3 178 rfl rfl
theorem w_767 : (Jvm.Cond.methodLink "RightKeys" (199 : Nat) ({ cls := "RightKeys$Ring", name := "rentOfAll", desc := "()I" } : Jvm.MethodName)) ∈ TB := tb3 179 rfl rfl
theorem w_768 : (Jvm.Cond.instanceMethod ({ cls := "RightKeys$Ring", name := "rentOfAll", desc := "()I" } : Jvm.MethodName)) ∈ TB := tb3 180 rfl rfl
theorem w_769 : (Jvm.Cond.selects "RightKeys$Ring" ({ cls := "RightKeys$Ring", name := "rentOfAll", desc := "()I" } : Jvm.MethodName) ({ cls := "RightKeys$Ring", name := "rentOfAll", desc := "()I" } : Jvm.MethodName)) ∈ TB := tb3 181 rfl rfl
theorem w_770 : (Jvm.Cond.code ({ cls := "RightKeys$Ring", name := "rentOfAll", desc := "()I" } : Jvm.MethodName) prog_4_method_30_code (3 : Nat) (Option.some Jvm.ClassFile.FieldType.int)) ∈ TB := tb3 182 rfl rfl
theorem w_771 : (Jvm.Cond.methodLink "RightKeys$Ring" (196 : Nat) ({ cls := "RightKeys$Ring", name := "rentOf", desc := "(I)I" } : Jvm.MethodName)) ∈ TB := tb3 183 rfl rfl
theorem w_772 : (Jvm.Cond.methodLink "RightKeysLaw" (45 : Nat) ({ cls := "RightKeys", name := "keep", desc := "(IZ)Z" } : Jvm.MethodName)) ∈ TB := tb3 184 rfl rfl
theorem w_773 : (Jvm.Cond.instanceMethod ({ cls := "RightKeys", name := "keep", desc := "(IZ)Z" } : Jvm.MethodName)) ∈ TB := tb3 185 rfl rfl
theorem w_774 : (Jvm.Cond.selects "RightKeys" ({ cls := "RightKeys", name := "keep", desc := "(IZ)Z" } : Jvm.MethodName) ({ cls := "RightKeys", name := "keep", desc := "(IZ)Z" } : Jvm.MethodName)) ∈ TB := tb3 186 rfl rfl
theorem w_775 : (Jvm.Cond.code ({ cls := "RightKeys", name := "keep", desc := "(IZ)Z" } : Jvm.MethodName) prog_1_method_14_code (3 : Nat) (Option.some Jvm.ClassFile.FieldType.boolean)) ∈ TB := tb3 187 rfl rfl
theorem w_776 : (Jvm.Cond.methodLink "RightKeys" (202 : Nat) ({ cls := "RightKeys", name := "remember", desc := "()V" } : Jvm.MethodName)) ∈ TB := tb3 188 rfl rfl
theorem w_778 : (Jvm.Cond.instanceMethod ({ cls := "RightKeys", name := "remember", desc := "()V" } : Jvm.MethodName)) ∈ TB := tb3 190 rfl rfl
theorem w_779 : (Jvm.Cond.code ({ cls := "RightKeys", name := "remember", desc := "()V" } : Jvm.MethodName) prog_1_method_18_code (1 : Nat) (Option.none : Option Jvm.ClassFile.FieldType)) ∈ TB := tb3 191 rfl rfl
theorem w_780 : (Jvm.Cond.methodLink "RightKeys" (215 : Nat) ({ cls := "RightKeys$Ring", name := "copyFrom", desc := "(LRightKeys$Ring;)V" } : Jvm.MethodName)) ∈ TB := tb3 192 rfl rfl
theorem w_781 : (Jvm.Cond.instanceMethod ({ cls := "RightKeys$Ring", name := "copyFrom", desc := "(LRightKeys$Ring;)V" } : Jvm.MethodName)) ∈ TB := tb3 193 rfl rfl
theorem w_782 : (Jvm.Cond.selects "RightKeys$Ring" ({ cls := "RightKeys$Ring", name := "copyFrom", desc := "(LRightKeys$Ring;)V" } : Jvm.MethodName) ({ cls := "RightKeys$Ring", name := "copyFrom", desc := "(LRightKeys$Ring;)V" } : Jvm.MethodName)) ∈ TB := tb3 194 rfl rfl
theorem w_783 : (Jvm.Cond.code ({ cls := "RightKeys$Ring", name := "copyFrom", desc := "(LRightKeys$Ring;)V" } : Jvm.MethodName) prog_4_method_3_code (2 : Nat) (Option.none : Option Jvm.ClassFile.FieldType)) ∈ TB := tb3 195 rfl rfl
theorem w_784 : (Jvm.Cond.methodLink "RightKeys" (219 : Nat) ({ cls := "java/lang/Math", name := "min", desc := "(II)I" } : Jvm.MethodName)) ∈ TB := tb3 196 rfl rfl
theorem w_785 : (Jvm.Cond.methodLink "RightKeysLaw" (50 : Nat) ({ cls := "RightKeys", name := "pass", desc := "(II)Z" } : Jvm.MethodName)) ∈ TB := tb3 197 rfl rfl
theorem w_786 : (Jvm.Cond.instanceMethod ({ cls := "RightKeys", name := "pass", desc := "(II)Z" } : Jvm.MethodName)) ∈ TB := tb3 198 rfl rfl
theorem w_787 : (Jvm.Cond.selects "RightKeys" ({ cls := "RightKeys", name := "pass", desc := "(II)Z" } : Jvm.MethodName) ({ cls := "RightKeys", name := "pass", desc := "(II)Z" } : Jvm.MethodName)) ∈ TB := tb3 199 rfl rfl
theorem w_788 : (Jvm.Cond.code ({ cls := "RightKeys", name := "pass", desc := "(II)Z" } : Jvm.MethodName) prog_1_method_15_code (4 : Nat) (Option.some Jvm.ClassFile.FieldType.boolean)) ∈ TB := tb3 200 rfl rfl
theorem w_789 : (Jvm.Cond.methodLink "RightKeysLaw" (55 : Nat) ({ cls := "RightKeys", name := "change", desc := "(II)Z" } : Jvm.MethodName)) ∈ TB := tb3 201 rfl rfl
theorem w_790 : (Jvm.Cond.instanceMethod ({ cls := "RightKeys", name := "change", desc := "(II)Z" } : Jvm.MethodName)) ∈ TB := tb3 202 rfl rfl
theorem w_791 : (Jvm.Cond.selects "RightKeys" ({ cls := "RightKeys", name := "change", desc := "(II)Z" } : Jvm.MethodName) ({ cls := "RightKeys", name := "change", desc := "(II)Z" } : Jvm.MethodName)) ∈ TB := tb3 203 rfl rfl
theorem w_792 : (Jvm.Cond.code ({ cls := "RightKeys", name := "change", desc := "(II)Z" } : Jvm.MethodName) prog_1_method_16_code (3 : Nat) (Option.some Jvm.ClassFile.FieldType.boolean)) ∈ TB := tb3 204 rfl rfl
theorem w_793 : (Jvm.Cond.methodLink "RightKeys" (205 : Nat) ({ cls := "RightKeys$Ring", name := "bothIn", desc := "(II)Z" } : Jvm.MethodName)) ∈ TB := tb3 205 rfl rfl
theorem w_794 : (Jvm.Cond.instanceMethod ({ cls := "RightKeys$Ring", name := "bothIn", desc := "(II)Z" } : Jvm.MethodName)) ∈ TB := tb3 206 rfl rfl
theorem w_795 : (Jvm.Cond.selects "RightKeys$Ring" ({ cls := "RightKeys$Ring", name := "bothIn", desc := "(II)Z" } : Jvm.MethodName) ({ cls := "RightKeys$Ring", name := "bothIn", desc := "(II)Z" } : Jvm.MethodName)) ∈ TB := tb3 207 rfl rfl
theorem w_796 : (Jvm.Cond.code ({ cls := "RightKeys$Ring", name := "bothIn", desc := "(II)Z" } : Jvm.MethodName) prog_4_method_16_code (3 : Nat) (Option.some Jvm.ClassFile.FieldType.boolean)) ∈ TB := tb3 208 rfl rfl
theorem w_797 : (Jvm.Cond.methodLink "RightKeys" (208 : Nat) ({ cls := "RightKeys$Ring", name := "swapPeople", desc := "(II)V" } : Jvm.MethodName)) ∈ TB := tb3 209 rfl rfl
theorem w_798 : (Jvm.Cond.instanceMethod ({ cls := "RightKeys$Ring", name := "swapPeople", desc := "(II)V" } : Jvm.MethodName)) ∈ TB := tb3 210 rfl rfl
theorem w_799 : (Jvm.Cond.selects "RightKeys$Ring" ({ cls := "RightKeys$Ring", name := "swapPeople", desc := "(II)V" } : Jvm.MethodName) ({ cls := "RightKeys$Ring", name := "swapPeople", desc := "(II)V" } : Jvm.MethodName)) ∈ TB := tb3 211 rfl rfl
theorem w_800 : (Jvm.Cond.code ({ cls := "RightKeys$Ring", name := "swapPeople", desc := "(II)V" } : Jvm.MethodName) prog_4_method_17_code (3 : Nat) (Option.none : Option Jvm.ClassFile.FieldType)) ∈ TB := tb3 212 rfl rfl
theorem w_801 : (Jvm.Cond.methodLink "RightKeys$Ring" (189 : Nat) ({ cls := "RightKeys$Ring", name := "swap", desc := "([III)V" } : Jvm.MethodName)) ∈ TB := tb3 213 rfl rfl
theorem w_802 : (Jvm.Cond.static ({ cls := "RightKeys$Ring", name := "swap", desc := "([III)V" } : Jvm.MethodName)) ∈ TB := tb3 214 rfl rfl
theorem w_803 : (Jvm.Cond.code ({ cls := "RightKeys$Ring", name := "swap", desc := "([III)V" } : Jvm.MethodName) prog_4_method_18_code (4 : Nat) (Option.none : Option Jvm.ClassFile.FieldType)) ∈ TB := tb3 215 rfl rfl
theorem w_804 : (Jvm.Cond.methodLink "RightKeysLaw" (59 : Nat) ({ cls := "RightKeys", name := "hours", desc := "(I)I" } : Jvm.MethodName)) ∈ TB := tb3 216 rfl rfl
theorem w_805 : (Jvm.Cond.instanceMethod ({ cls := "RightKeys", name := "hours", desc := "(I)I" } : Jvm.MethodName)) ∈ TB := tb3 217 rfl rfl
theorem w_806 : (Jvm.Cond.selects "RightKeys" ({ cls := "RightKeys", name := "hours", desc := "(I)I" } : Jvm.MethodName) ({ cls := "RightKeys", name := "hours", desc := "(I)I" } : Jvm.MethodName)) ∈ TB := tb3 218 rfl rfl
theorem w_807 : (Jvm.Cond.code ({ cls := "RightKeys", name := "hours", desc := "(I)I" } : Jvm.MethodName) prog_1_method_17_code (3 : Nat) (Option.some Jvm.ClassFile.FieldType.int)) ∈ TB := tb3 219 rfl rfl
theorem w_808 : (Jvm.Cond.methodLink "RightKeys" (212 : Nat) ({ cls := "RightKeys$Ring", name := "goThroughHour", desc := "()V" } : Jvm.MethodName)) ∈ TB := tb3 220 rfl rfl
theorem w_809 : (Jvm.Cond.instanceMethod ({ cls := "RightKeys$Ring", name := "goThroughHour", desc := "()V" } : Jvm.MethodName)) ∈ TB := tb3 221 rfl rfl
theorem w_810 : (Jvm.Cond.selects "RightKeys$Ring" ({ cls := "RightKeys$Ring", name := "goThroughHour", desc := "()V" } : Jvm.MethodName) ({ cls := "RightKeys$Ring", name := "goThroughHour", desc := "()V" } : Jvm.MethodName)) ∈ TB := tb3 222 rfl rfl
theorem w_811 : (Jvm.Cond.code ({ cls := "RightKeys$Ring", name := "goThroughHour", desc := "()V" } : Jvm.MethodName) prog_4_method_4_code (2 : Nat) (Option.none : Option Jvm.ClassFile.FieldType)) ∈ TB := tb3 223 rfl rfl
theorem w_812 : (Jvm.Cond.methodLink "RightKeys$Ring" (97 : Nat) ({ cls := "RightKeys$Ring", name := "passSparesOn", desc := "()V" } : Jvm.MethodName)) ∈ TB := tb3 224 rfl rfl
theorem w_814 : (Jvm.Cond.instanceMethod ({ cls := "RightKeys$Ring", name := "passSparesOn", desc := "()V" } : Jvm.MethodName)) ∈ TB := tb3 226 rfl rfl
theorem w_815 : (Jvm.Cond.code ({ cls := "RightKeys$Ring", name := "passSparesOn", desc := "()V" } : Jvm.MethodName) prog_4_method_5_code (2 : Nat) (Option.none : Option Jvm.ClassFile.FieldType)) ∈ TB := tb3 227 rfl rfl
theorem w_816 : (Jvm.Cond.methodLink "RightKeys$Ring" (100 : Nat) ({ cls := "RightKeys$Ring", name := "letPeopleGo", desc := "()I" } : Jvm.MethodName)) ∈ TB := tb3 228 rfl rfl
theorem w_818 : (Jvm.Cond.instanceMethod ({ cls := "RightKeys$Ring", name := "letPeopleGo", desc := "()I" } : Jvm.MethodName)) ∈ TB := tb3 230 rfl rfl
theorem w_819 : (Jvm.Cond.code ({ cls := "RightKeys$Ring", name := "letPeopleGo", desc := "()I" } : Jvm.MethodName) prog_4_method_6_code (5 : Nat) (Option.some Jvm.ClassFile.FieldType.int)) ∈ TB := tb3 231 rfl rfl
theorem w_820 : (Jvm.Cond.methodLink "RightKeys$Ring" (104 : Nat) ({ cls := "RightKeys$Ring", name := "letPeopleCome", desc := "(I)V" } : Jvm.MethodName)) ∈ TB := tb3 232 rfl rfl
theorem w_822 : (Jvm.Cond.instanceMethod ({ cls := "RightKeys$Ring", name := "letPeopleCome", desc := "(I)V" } : Jvm.MethodName)) ∈ TB := tb3 234 rfl rfl
theorem w_823 : (Jvm.Cond.code ({ cls := "RightKeys$Ring", name := "letPeopleCome", desc := "(I)V" } : Jvm.MethodName) prog_4_method_7_code (7 : Nat) (Option.none : Option Jvm.ClassFile.FieldType)) ∈ TB := tb3 235 rfl rfl
theorem w_824 : (Jvm.Cond.methodLink "RightKeys$Ring" (125 : Nat) ({ cls := "RightKeys$Ring", name := "isLate", desc := "(I)Z" } : Jvm.MethodName)) ∈ TB := tb3 236 rfl rfl
theorem w_826 : (Jvm.Cond.instanceMethod ({ cls := "RightKeys$Ring", name := "isLate", desc := "(I)Z" } : Jvm.MethodName)) ∈ TB := tb3 238 rfl rfl
theorem w_827 : (Jvm.Cond.code ({ cls := "RightKeys$Ring", name := "isLate", desc := "(I)Z" } : Jvm.MethodName) prog_4_method_8_code (3 : Nat) (Option.some Jvm.ClassFile.FieldType.boolean)) ∈ TB := tb3 239 rfl rfl
theorem w_828 : (Jvm.Cond.methodLink "RightKeys$Ring" (142 : Nat) ({ cls := "RightKeys$Ring", name := "lot", desc := "(III)I" } : Jvm.MethodName)) ∈ TB := tb4 0 rfl rfl
theorem w_829 : (Jvm.Cond.static ({ cls := "RightKeys$Ring", name := "lot", desc := "(III)I" } : Jvm.MethodName)) ∈ TB := tb4 1 rfl rfl
theorem w_830 : (Jvm.Cond.code ({ cls := "RightKeys$Ring", name := "lot", desc := "(III)I" } : Jvm.MethodName) prog_4_method_9_code (5 : Nat) (Option.some Jvm.ClassFile.FieldType.int)) ∈ TB := tb4 2 rfl rfl
theorem w_831 : (Jvm.Cond.constant "RightKeys$Ring" (154 : Nat) (1103515245 : Int32)) ∈ TB := tb4 3 rfl rfl
theorem w_832 : (Jvm.Cond.methodLink "RightKeys$Ring" (108 : Nat) ({ cls := "RightKeys$Ring", name := "letPeopleIn", desc := "()V" } : Jvm.MethodName)) ∈ TB := tb4 4 rfl rfl
theorem w_833 : (Jvm.Cond.instanceMethod ({ cls := "RightKeys$Ring", name := "letPeopleIn", desc := "()V" } : Jvm.MethodName)) ∈ TB := tb4 5 rfl rfl
theorem w_834 : (Jvm.Cond.selects "RightKeys$Ring" ({ cls := "RightKeys$Ring", name := "letPeopleIn", desc := "()V" } : Jvm.MethodName) ({ cls := "RightKeys$Ring", name := "letPeopleIn", desc := "()V" } : Jvm.MethodName)) ∈ TB := tb4 6 rfl rfl
theorem w_835 : (Jvm.Cond.code ({ cls := "RightKeys$Ring", name := "letPeopleIn", desc := "()V" } : Jvm.MethodName) prog_4_method_10_code (4 : Nat) (Option.none : Option Jvm.ClassFile.FieldType)) ∈ TB := tb4 7 rfl rfl
theorem w_836 : (Jvm.Cond.methodLink "RightKeys$Ring" (155 : Nat) ({ cls := "RightKeys$Ring", name := "letInIfCan", desc := "(I)Z" } : Jvm.MethodName)) ∈ TB := tb4 8 rfl rfl
theorem w_838 : (Jvm.Cond.instanceMethod ({ cls := "RightKeys$Ring", name := "letInIfCan", desc := "(I)Z" } : Jvm.MethodName)) ∈ TB := tb4 10 rfl rfl
theorem w_839 : (Jvm.Cond.code ({ cls := "RightKeys$Ring", name := "letInIfCan", desc := "(I)Z" } : Jvm.MethodName) prog_4_method_11_code (5 : Nat) (Option.some Jvm.ClassFile.FieldType.boolean)) ∈ TB := tb4 11 rfl rfl
theorem w_840 : (Jvm.Cond.methodLink "RightKeys$Ring" (167 : Nat) ({ cls := "RightKeys$Ring", name := "wouldLetIn", desc := "(II)Z" } : Jvm.MethodName)) ∈ TB := tb4 12 rfl rfl
theorem w_841 : (Jvm.Cond.methodLink "RightKeys$Ring" (174 : Nat) ({ cls := "RightKeys$Ring", name := "bringIn", desc := "(I)V" } : Jvm.MethodName)) ∈ TB := tb4 13 rfl rfl
theorem w_842 : (Jvm.Cond.instanceMethod ({ cls := "RightKeys$Ring", name := "bringIn", desc := "(I)V" } : Jvm.MethodName)) ∈ TB := tb4 14 rfl rfl
theorem w_843 : (Jvm.Cond.selects "RightKeys$Ring" ({ cls := "RightKeys$Ring", name := "bringIn", desc := "(I)V" } : Jvm.MethodName) ({ cls := "RightKeys$Ring", name := "bringIn", desc := "(I)V" } : Jvm.MethodName)) ∈ TB := tb4 15 rfl rfl
theorem w_844 : (Jvm.Cond.code ({ cls := "RightKeys$Ring", name := "bringIn", desc := "(I)V" } : Jvm.MethodName) prog_4_method_19_code (2 : Nat) (Option.none : Option Jvm.ClassFile.FieldType)) ∈ TB := tb4 16 rfl rfl
theorem w_845 : (Jvm.Cond.methodLink "RightKeys$Ring" (111 : Nat) ({ cls := "RightKeys$Ring", name := "letPeopleWait", desc := "()V" } : Jvm.MethodName)) ∈ TB := tb4 17 rfl rfl
theorem w_847 : (Jvm.Cond.instanceMethod ({ cls := "RightKeys$Ring", name := "letPeopleWait", desc := "()V" } : Jvm.MethodName)) ∈ TB := tb4 19 rfl rfl
theorem w_848 : (Jvm.Cond.code ({ cls := "RightKeys$Ring", name := "letPeopleWait", desc := "()V" } : Jvm.MethodName) prog_4_method_13_code (2 : Nat) (Option.none : Option Jvm.ClassFile.FieldType)) ∈ TB := tb4 20 rfl rfl
theorem w_849 : (Jvm.Cond.constant "RightKeys$Ring" (177 : Nat) (99999 : Int32)) ∈ TB := tb4 21 rfl rfl
theorem w_850 : (Jvm.Cond.methodLink "RightKeys$Ring" (178 : Nat) ({ cls := "RightKeys$Ring", name := "quarrelOf", desc := "(I)I" } : Jvm.MethodName)) ∈ TB := tb4 22 rfl rfl
theorem w_852 : (Jvm.Cond.instanceMethod ({ cls := "RightKeys$Ring", name := "quarrelOf", desc := "(I)I" } : Jvm.MethodName)) ∈ TB := tb4 24 rfl rfl
theorem w_853 : (Jvm.Cond.code ({ cls := "RightKeys$Ring", name := "quarrelOf", desc := "(I)I" } : Jvm.MethodName) prog_4_method_14_code (2 : Nat) (Option.some Jvm.ClassFile.FieldType.int)) ∈ TB := tb4 25 rfl rfl
theorem w_854 : (Jvm.Cond.methodLink "RightKeysLaw" (63 : Nat) ({ cls := "RightKeys", name := "undo", desc := "()Z" } : Jvm.MethodName)) ∈ TB := tb4 26 rfl rfl
theorem w_855 : (Jvm.Cond.instanceMethod ({ cls := "RightKeys", name := "undo", desc := "()Z" } : Jvm.MethodName)) ∈ TB := tb4 27 rfl rfl
theorem w_856 : (Jvm.Cond.selects "RightKeys" ({ cls := "RightKeys", name := "undo", desc := "()Z" } : Jvm.MethodName) ({ cls := "RightKeys", name := "undo", desc := "()Z" } : Jvm.MethodName)) ∈ TB := tb4 28 rfl rfl
theorem w_857 : (Jvm.Cond.code ({ cls := "RightKeys", name := "undo", desc := "()Z" } : Jvm.MethodName) prog_1_method_19_code (1 : Nat) (Option.some Jvm.ClassFile.FieldType.boolean)) ∈ TB := tb4 29 rfl rfl
theorem w_858 : (Jvm.Cond.methodLink "RightKeysLaw" (154 : Nat) ({ cls := "RightKeys", name := "hold", desc := "(I)Z" } : Jvm.MethodName)) ∈ TB := tb4 30 rfl rfl
theorem w_859 : (Jvm.Cond.instanceMethod ({ cls := "RightKeys", name := "hold", desc := "(I)Z" } : Jvm.MethodName)) ∈ TB := tb4 31 rfl rfl
theorem w_860 : (Jvm.Cond.selects "RightKeys" ({ cls := "RightKeys", name := "hold", desc := "(I)Z" } : Jvm.MethodName) ({ cls := "RightKeys", name := "hold", desc := "(I)Z" } : Jvm.MethodName)) ∈ TB := tb4 32 rfl rfl
theorem w_861 : (Jvm.Cond.code ({ cls := "RightKeys", name := "hold", desc := "(I)Z" } : Jvm.MethodName) prog_1_method_20_code (2 : Nat) (Option.some Jvm.ClassFile.FieldType.boolean)) ∈ TB := tb4 33 rfl rfl
theorem w_862 : (Jvm.Cond.methodLink "RightKeys" (224 : Nat) ({ cls := "RightKeys", name := "isSlot", desc := "(I)Z" } : Jvm.MethodName)) ∈ TB := tb4 34 rfl rfl
theorem w_863 : (Jvm.Cond.static ({ cls := "RightKeys", name := "isSlot", desc := "(I)Z" } : Jvm.MethodName)) ∈ TB := tb4 35 rfl rfl
theorem w_864 : (Jvm.Cond.code ({ cls := "RightKeys", name := "isSlot", desc := "(I)Z" } : Jvm.MethodName) prog_1_method_48_code (1 : Nat) (Option.some Jvm.ClassFile.FieldType.boolean)) ∈ TB := tb4 36 rfl rfl
theorem w_865 : (Jvm.Cond.methodLink "RightKeysLaw" (159 : Nat) ({ cls := "RightKeys", name := "restore", desc := "(I)Z" } : Jvm.MethodName)) ∈ TB := tb4 37 rfl rfl
theorem w_866 : (Jvm.Cond.instanceMethod ({ cls := "RightKeys", name := "restore", desc := "(I)Z" } : Jvm.MethodName)) ∈ TB := tb4 38 rfl rfl
theorem w_867 : (Jvm.Cond.selects "RightKeys" ({ cls := "RightKeys", name := "restore", desc := "(I)Z" } : Jvm.MethodName) ({ cls := "RightKeys", name := "restore", desc := "(I)Z" } : Jvm.MethodName)) ∈ TB := tb4 39 rfl rfl
theorem w_868 : (Jvm.Cond.code ({ cls := "RightKeys", name := "restore", desc := "(I)Z" } : Jvm.MethodName) prog_1_method_21_code (2 : Nat) (Option.some Jvm.ClassFile.FieldType.boolean)) ∈ TB := tb4 40 rfl rfl
theorem w_869 : (Jvm.Cond.methodLink "RightKeysLaw" (72 : Nat) ({ cls := "RightKeys", name := "stand", desc := "(II)I" } : Jvm.MethodName)) ∈ TB := tb4 41 rfl rfl
theorem w_870 : (Jvm.Cond.instanceMethod ({ cls := "RightKeys", name := "stand", desc := "(II)I" } : Jvm.MethodName)) ∈ TB := tb4 42 rfl rfl
theorem w_871 : (Jvm.Cond.selects "RightKeys" ({ cls := "RightKeys", name := "stand", desc := "(II)I" } : Jvm.MethodName) ({ cls := "RightKeys", name := "stand", desc := "(II)I" } : Jvm.MethodName)) ∈ TB := tb4 43 rfl rfl
theorem w_872 : (Jvm.Cond.code ({ cls := "RightKeys", name := "stand", desc := "(II)I" } : Jvm.MethodName) prog_1_method_22_code (3 : Nat) (Option.some Jvm.ClassFile.FieldType.int)) ∈ TB := tb4 44 rfl rfl
theorem w_873 : (Jvm.Cond.methodLink "RightKeys" (227 : Nat) ({ cls := "RightKeys", name := "isSpan", desc := "(I)Z" } : Jvm.MethodName)) ∈ TB := tb4 45 rfl rfl
theorem w_874 : (Jvm.Cond.static ({ cls := "RightKeys", name := "isSpan", desc := "(I)Z" } : Jvm.MethodName)) ∈ TB := tb4 46 rfl rfl
theorem w_875 : (Jvm.Cond.code ({ cls := "RightKeys", name := "isSpan", desc := "(I)Z" } : Jvm.MethodName) prog_1_method_49_code (1 : Nat) (Option.some Jvm.ClassFile.FieldType.boolean)) ∈ TB := tb4 47 rfl rfl
theorem w_876 : (Jvm.Cond.methodLink "RightKeys" (230 : Nat) ({ cls := "RightKeys", name := "startTrial", desc := "()V" } : Jvm.MethodName)) ∈ TB := tb4 48 rfl rfl
theorem w_878 : (Jvm.Cond.instanceMethod ({ cls := "RightKeys", name := "startTrial", desc := "()V" } : Jvm.MethodName)) ∈ TB := tb4 50 rfl rfl
theorem w_879 : (Jvm.Cond.code ({ cls := "RightKeys", name := "startTrial", desc := "()V" } : Jvm.MethodName) prog_1_method_32_code (1 : Nat) (Option.none : Option Jvm.ClassFile.FieldType)) ∈ TB := tb4 51 rfl rfl
theorem w_880 : (Jvm.Cond.methodLink "RightKeys" (233 : Nat) ({ cls := "RightKeys$Watch", name := "follow", desc := "(LRightKeys$Ring;I)V" } : Jvm.MethodName)) ∈ TB := tb4 52 rfl rfl
theorem w_881 : (Jvm.Cond.instanceMethod ({ cls := "RightKeys$Watch", name := "follow", desc := "(LRightKeys$Ring;I)V" } : Jvm.MethodName)) ∈ TB := tb4 53 rfl rfl
theorem w_882 : (Jvm.Cond.selects "RightKeys$Watch" ({ cls := "RightKeys$Watch", name := "follow", desc := "(LRightKeys$Ring;I)V" } : Jvm.MethodName) ({ cls := "RightKeys$Watch", name := "follow", desc := "(LRightKeys$Ring;I)V" } : Jvm.MethodName)) ∈ TB := tb4 54 rfl rfl
theorem w_883 : (Jvm.Cond.code ({ cls := "RightKeys$Watch", name := "follow", desc := "(LRightKeys$Ring;I)V" } : Jvm.MethodName) prog_7_method_2_code (4 : Nat) (Option.none : Option Jvm.ClassFile.FieldType)) ∈ TB := tb4 55 rfl rfl
theorem w_884 : (Jvm.Cond.methodLink "RightKeys$Watch" (28 : Nat) ({ cls := "java/util/Arrays", name := "fill", desc := "([II)V" } : Jvm.MethodName)) ∈ TB := tb4 56 rfl rfl
theorem w_885 : (Jvm.Cond.methodLink "RightKeys$Watch" (34 : Nat) ({ cls := "RightKeys$Ring", name := "goThroughHour", desc := "()V" } : Jvm.MethodName)) ∈ TB := tb4 57 rfl rfl
theorem w_886 : (Jvm.Cond.methodLink "RightKeys$Watch" (42 : Nat) ({ cls := "RightKeys$Watch", name := "note", desc := "(II)V" } : Jvm.MethodName)) ∈ TB := tb4 58 rfl rfl
theorem w_888 : (Jvm.Cond.instanceMethod ({ cls := "RightKeys$Watch", name := "note", desc := "(II)V" } : Jvm.MethodName)) ∈ TB := tb4 60 rfl rfl
theorem w_889 : (Jvm.Cond.code ({ cls := "RightKeys$Watch", name := "note", desc := "(II)V" } : Jvm.MethodName) prog_7_method_3_code (5 : Nat) (Option.none : Option Jvm.ClassFile.FieldType)) ∈ TB := tb4 61 rfl rfl
theorem w_890 : (Jvm.Cond.methodLink "RightKeys$Watch" (46 : Nat) ({ cls := "java/lang/Integer", name := "bitCount", desc := "(I)I" } : Jvm.MethodName)) ∈ TB := tb4 62 rfl rfl
theorem w_892 : (Jvm.Cond.methodLink "RightKeysLaw" (76 : Nat) ({ cls := "RightKeys", name := "firstStand", desc := "(I)I" } : Jvm.MethodName)) ∈ TB := tb4 64 rfl rfl
theorem w_893 : (Jvm.Cond.instanceMethod ({ cls := "RightKeys", name := "firstStand", desc := "(I)I" } : Jvm.MethodName)) ∈ TB := tb4 65 rfl rfl
theorem w_894 : (Jvm.Cond.selects "RightKeys" ({ cls := "RightKeys", name := "firstStand", desc := "(I)I" } : Jvm.MethodName) ({ cls := "RightKeys", name := "firstStand", desc := "(I)I" } : Jvm.MethodName)) ∈ TB := tb4 66 rfl rfl
theorem w_895 : (Jvm.Cond.code ({ cls := "RightKeys", name := "firstStand", desc := "(I)I" } : Jvm.MethodName) prog_1_method_23_code (2 : Nat) (Option.some Jvm.ClassFile.FieldType.int)) ∈ TB := tb4 67 rfl rfl
theorem w_896 : (Jvm.Cond.methodLink "RightKeys" (243 : Nat) ({ cls := "RightKeys$Watch", name := "firstHour", desc := "(LRightKeys$Ring;I)I" } : Jvm.MethodName)) ∈ TB := tb4 68 rfl rfl
theorem w_897 : (Jvm.Cond.instanceMethod ({ cls := "RightKeys$Watch", name := "firstHour", desc := "(LRightKeys$Ring;I)I" } : Jvm.MethodName)) ∈ TB := tb4 69 rfl rfl
theorem w_898 : (Jvm.Cond.selects "RightKeys$Watch" ({ cls := "RightKeys$Watch", name := "firstHour", desc := "(LRightKeys$Ring;I)I" } : Jvm.MethodName) ({ cls := "RightKeys$Watch", name := "firstHour", desc := "(LRightKeys$Ring;I)I" } : Jvm.MethodName)) ∈ TB := tb4 70 rfl rfl
theorem w_899 : (Jvm.Cond.code ({ cls := "RightKeys$Watch", name := "firstHour", desc := "(LRightKeys$Ring;I)I" } : Jvm.MethodName) prog_7_method_4_code (4 : Nat) (Option.some Jvm.ClassFile.FieldType.int)) ∈ TB := tb4 71 rfl rfl
theorem w_900 : (Jvm.Cond.methodLink "RightKeysLaw" (80 : Nat) ({ cls := "RightKeys", name := "stay", desc := "(I)I" } : Jvm.MethodName)) ∈ TB := tb4 72 rfl rfl
theorem w_901 : (Jvm.Cond.instanceMethod ({ cls := "RightKeys", name := "stay", desc := "(I)I" } : Jvm.MethodName)) ∈ TB := tb4 73 rfl rfl
theorem w_902 : (Jvm.Cond.selects "RightKeys" ({ cls := "RightKeys", name := "stay", desc := "(I)I" } : Jvm.MethodName) ({ cls := "RightKeys", name := "stay", desc := "(I)I" } : Jvm.MethodName)) ∈ TB := tb4 74 rfl rfl
theorem w_903 : (Jvm.Cond.code ({ cls := "RightKeys", name := "stay", desc := "(I)I" } : Jvm.MethodName) prog_1_method_24_code (5 : Nat) (Option.some Jvm.ClassFile.FieldType.int)) ∈ TB := tb4 75 rfl rfl
theorem w_904 : (Jvm.Cond.methodLink "RightKeys" (247 : Nat) ({ cls := "RightKeys", name := "isEither", desc := "(I)Z" } : Jvm.MethodName)) ∈ TB := tb4 76 rfl rfl
theorem w_905 : (Jvm.Cond.static ({ cls := "RightKeys", name := "isEither", desc := "(I)Z" } : Jvm.MethodName)) ∈ TB := tb4 77 rfl rfl
theorem w_906 : (Jvm.Cond.code ({ cls := "RightKeys", name := "isEither", desc := "(I)Z" } : Jvm.MethodName) prog_1_method_51_code (1 : Nat) (Option.some Jvm.ClassFile.FieldType.boolean)) ∈ TB := tb4 78 rfl rfl
theorem w_907 : (Jvm.Cond.methodLink "RightKeysLaw" (84 : Nat) ({ cls := "RightKeys", name := "shift", desc := "(II)I" } : Jvm.MethodName)) ∈ TB := tb4 79 rfl rfl
theorem w_908 : (Jvm.Cond.instanceMethod ({ cls := "RightKeys", name := "shift", desc := "(II)I" } : Jvm.MethodName)) ∈ TB := tb4 80 rfl rfl
theorem w_909 : (Jvm.Cond.selects "RightKeys" ({ cls := "RightKeys", name := "shift", desc := "(II)I" } : Jvm.MethodName) ({ cls := "RightKeys", name := "shift", desc := "(II)I" } : Jvm.MethodName)) ∈ TB := tb4 81 rfl rfl
theorem w_910 : (Jvm.Cond.code ({ cls := "RightKeys", name := "shift", desc := "(II)I" } : Jvm.MethodName) prog_1_method_25_code (9 : Nat) (Option.some Jvm.ClassFile.FieldType.int)) ∈ TB := tb4 82 rfl rfl
theorem w_911 : (Jvm.Cond.constant "RightKeys" (250 : Nat) (1000000 : Int32)) ∈ TB := tb4 83 rfl rfl
theorem w_912 : (Jvm.Cond.methodLink "RightKeys" (251 : Nat) ({ cls := "java/lang/Math", name := "abs", desc := "(I)I" } : Jvm.MethodName)) ∈ TB := tb4 84 rfl rfl
theorem w_913 : (Jvm.Cond.static ({ cls := "java/lang/Math", name := "abs", desc := "(I)I" } : Jvm.MethodName)) ∈ TB := tb4 85 rfl rfl
theorem w_914 : (Jvm.Cond.code ({ cls := "java/lang/Math", name := "abs", desc := "(I)I" } : Jvm.MethodName) prog_11_method_59_code (1 : Nat) (Option.some Jvm.ClassFile.FieldType.int)) ∈ TB := tb4 86 rfl rfl
theorem w_915 : (Jvm.Cond.methodLink "RightKeysLaw" (88 : Nat) ({ cls := "RightKeys", name := "changeBest", desc := "(I)I" } : Jvm.MethodName)) ∈ TB := tb4 87 rfl rfl
theorem w_916 : (Jvm.Cond.instanceMethod ({ cls := "RightKeys", name := "changeBest", desc := "(I)I" } : Jvm.MethodName)) ∈ TB := tb4 88 rfl rfl
theorem w_917 : (Jvm.Cond.selects "RightKeys" ({ cls := "RightKeys", name := "changeBest", desc := "(I)I" } : Jvm.MethodName) ({ cls := "RightKeys", name := "changeBest", desc := "(I)I" } : Jvm.MethodName)) ∈ TB := tb4 89 rfl rfl
theorem w_918 : (Jvm.Cond.code ({ cls := "RightKeys", name := "changeBest", desc := "(I)I" } : Jvm.MethodName) prog_1_method_26_code (6 : Nat) (Option.some Jvm.ClassFile.FieldType.int)) ∈ TB := tb4 90 rfl rfl
theorem w_919 : (Jvm.Cond.methodLink "RightKeysLaw" (92 : Nat) ({ cls := "RightKeys", name := "frees", desc := "(I)I" } : Jvm.MethodName)) ∈ TB := tb4 91 rfl rfl
theorem w_920 : (Jvm.Cond.instanceMethod ({ cls := "RightKeys", name := "frees", desc := "(I)I" } : Jvm.MethodName)) ∈ TB := tb4 92 rfl rfl
theorem w_921 : (Jvm.Cond.selects "RightKeys" ({ cls := "RightKeys", name := "frees", desc := "(I)I" } : Jvm.MethodName) ({ cls := "RightKeys", name := "frees", desc := "(I)I" } : Jvm.MethodName)) ∈ TB := tb4 93 rfl rfl
theorem w_922 : (Jvm.Cond.code ({ cls := "RightKeys", name := "frees", desc := "(I)I" } : Jvm.MethodName) prog_1_method_27_code (3 : Nat) (Option.some Jvm.ClassFile.FieldType.int)) ∈ TB := tb4 94 rfl rfl
theorem w_923 : (Jvm.Cond.methodLink "RightKeys" (254 : Nat) ({ cls := "RightKeys$Ring", name := "bringIn", desc := "(I)V" } : Jvm.MethodName)) ∈ TB := tb4 95 rfl rfl
theorem w_924 : (Jvm.Cond.methodLink "RightKeys" (257 : Nat) ({ cls := "RightKeys$Ring", name := "letPeopleIn", desc := "()V" } : Jvm.MethodName)) ∈ TB := tb4 96 rfl rfl
theorem w_925 : (Jvm.Cond.methodLink "RightKeysLaw" (96 : Nat) ({ cls := "RightKeys", name := "worst", desc := "(II)I" } : Jvm.MethodName)) ∈ TB := tb4 97 rfl rfl
theorem w_926 : (Jvm.Cond.instanceMethod ({ cls := "RightKeys", name := "worst", desc := "(II)I" } : Jvm.MethodName)) ∈ TB := tb4 98 rfl rfl
theorem w_927 : (Jvm.Cond.selects "RightKeys" ({ cls := "RightKeys", name := "worst", desc := "(II)I" } : Jvm.MethodName) ({ cls := "RightKeys", name := "worst", desc := "(II)I" } : Jvm.MethodName)) ∈ TB := tb4 99 rfl rfl
theorem w_928 : (Jvm.Cond.code ({ cls := "RightKeys", name := "worst", desc := "(II)I" } : Jvm.MethodName) prog_1_method_28_code (5 : Nat) (Option.some Jvm.ClassFile.FieldType.int)) ∈ TB := tb4 100 rfl rfl
theorem w_929 : (Jvm.Cond.methodLink "RightKeysLaw" (100 : Nat) ({ cls := "RightKeys", name := "peak", desc := "(II)I" } : Jvm.MethodName)) ∈ TB := tb4 101 rfl rfl
theorem w_930 : (Jvm.Cond.instanceMethod ({ cls := "RightKeys", name := "peak", desc := "(II)I" } : Jvm.MethodName)) ∈ TB := tb4 102 rfl rfl
theorem w_931 : (Jvm.Cond.selects "RightKeys" ({ cls := "RightKeys", name := "peak", desc := "(II)I" } : Jvm.MethodName) ({ cls := "RightKeys", name := "peak", desc := "(II)I" } : Jvm.MethodName)) ∈ TB := tb4 103 rfl rfl
theorem w_932 : (Jvm.Cond.code ({ cls := "RightKeys", name := "peak", desc := "(II)I" } : Jvm.MethodName) prog_1_method_29_code (3 : Nat) (Option.some Jvm.ClassFile.FieldType.int)) ∈ TB := tb4 104 rfl rfl
theorem w_933 : (Jvm.Cond.methodLink "RightKeysLaw" (104 : Nat) ({ cls := "RightKeys", name := "gain", desc := "(I)I" } : Jvm.MethodName)) ∈ TB := tb4 105 rfl rfl
theorem w_934 : (Jvm.Cond.instanceMethod ({ cls := "RightKeys", name := "gain", desc := "(I)I" } : Jvm.MethodName)) ∈ TB := tb4 106 rfl rfl
theorem w_935 : (Jvm.Cond.selects "RightKeys" ({ cls := "RightKeys", name := "gain", desc := "(I)I" } : Jvm.MethodName) ({ cls := "RightKeys", name := "gain", desc := "(I)I" } : Jvm.MethodName)) ∈ TB := tb4 107 rfl rfl
theorem w_936 : (Jvm.Cond.code ({ cls := "RightKeys", name := "gain", desc := "(I)I" } : Jvm.MethodName) prog_1_method_30_code (3 : Nat) (Option.some Jvm.ClassFile.FieldType.int)) ∈ TB := tb4 108 rfl rfl
theorem w_937 : (Jvm.Cond.constant "RightKeys" (266 : Nat) (-100000 : Int32)) ∈ TB := tb4 109 rfl rfl
theorem w_938 : (Jvm.Cond.methodLink "RightKeysLaw" (124 : Nat) ({ cls := "RightKeys", name := "shut", desc := "(I)I" } : Jvm.MethodName)) ∈ TB := tb4 110 rfl rfl
theorem w_939 : (Jvm.Cond.instanceMethod ({ cls := "RightKeys", name := "shut", desc := "(I)I" } : Jvm.MethodName)) ∈ TB := tb4 111 rfl rfl
theorem w_940 : (Jvm.Cond.selects "RightKeys" ({ cls := "RightKeys", name := "shut", desc := "(I)I" } : Jvm.MethodName) ({ cls := "RightKeys", name := "shut", desc := "(I)I" } : Jvm.MethodName)) ∈ TB := tb4 112 rfl rfl
theorem w_941 : (Jvm.Cond.code ({ cls := "RightKeys", name := "shut", desc := "(I)I" } : Jvm.MethodName) prog_1_method_31_code (3 : Nat) (Option.some Jvm.ClassFile.FieldType.int)) ∈ TB := tb4 113 rfl rfl
theorem w_942 : (Jvm.Cond.methodLink "RightKeys" (270 : Nat) ({ cls := "RightKeys$Ring", name := "sendAway", desc := "(I)V" } : Jvm.MethodName)) ∈ TB := tb4 114 rfl rfl
theorem w_943 : (Jvm.Cond.instanceMethod ({ cls := "RightKeys$Ring", name := "sendAway", desc := "(I)V" } : Jvm.MethodName)) ∈ TB := tb4 115 rfl rfl
theorem w_944 : (Jvm.Cond.selects "RightKeys$Ring" ({ cls := "RightKeys$Ring", name := "sendAway", desc := "(I)V" } : Jvm.MethodName) ({ cls := "RightKeys$Ring", name := "sendAway", desc := "(I)V" } : Jvm.MethodName)) ∈ TB := tb4 116 rfl rfl
theorem w_945 : (Jvm.Cond.code ({ cls := "RightKeys$Ring", name := "sendAway", desc := "(I)V" } : Jvm.MethodName) prog_4_method_20_code (2 : Nat) (Option.none : Option Jvm.ClassFile.FieldType)) ∈ TB := tb4 117 rfl rfl
theorem w_946 : (Jvm.Cond.methodLink "RightKeysLaw" (112 : Nat) ({ cls := "RightKeys", name := "days", desc := "(II)I" } : Jvm.MethodName)) ∈ TB := tb4 118 rfl rfl
theorem w_947 : (Jvm.Cond.instanceMethod ({ cls := "RightKeys", name := "days", desc := "(II)I" } : Jvm.MethodName)) ∈ TB := tb4 119 rfl rfl
theorem w_948 : (Jvm.Cond.selects "RightKeys" ({ cls := "RightKeys", name := "days", desc := "(II)I" } : Jvm.MethodName) ({ cls := "RightKeys", name := "days", desc := "(II)I" } : Jvm.MethodName)) ∈ TB := tb4 120 rfl rfl
theorem w_949 : (Jvm.Cond.code ({ cls := "RightKeys", name := "days", desc := "(II)I" } : Jvm.MethodName) prog_1_method_33_code (3 : Nat) (Option.some Jvm.ClassFile.FieldType.int)) ∈ TB := tb4 121 rfl rfl
theorem w_950 : (Jvm.Cond.methodLink "RightKeys" (277 : Nat) ({ cls := "RightKeys$Ring", name := "waysOf", desc := "(II)I" } : Jvm.MethodName)) ∈ TB := tb4 122 rfl rfl
theorem w_951 : (Jvm.Cond.instanceMethod ({ cls := "RightKeys$Ring", name := "waysOf", desc := "(II)I" } : Jvm.MethodName)) ∈ TB := tb4 123 rfl rfl
theorem w_952 : (Jvm.Cond.selects "RightKeys$Ring" ({ cls := "RightKeys$Ring", name := "waysOf", desc := "(II)I" } : Jvm.MethodName) ({ cls := "RightKeys$Ring", name := "waysOf", desc := "(II)I" } : Jvm.MethodName)) ∈ TB := tb4 124 rfl rfl
theorem w_953 : (Jvm.Cond.code ({ cls := "RightKeys$Ring", name := "waysOf", desc := "(II)I" } : Jvm.MethodName) prog_4_method_27_code (4 : Nat) (Option.some Jvm.ClassFile.FieldType.int)) ∈ TB := tb4 125 rfl rfl
theorem w_954 : (Jvm.Cond.methodLink "RightKeysLaw" (116 : Nat) ({ cls := "RightKeys", name := "soonest", desc := "(II)I" } : Jvm.MethodName)) ∈ TB := tb4 126 rfl rfl
theorem w_955 : (Jvm.Cond.instanceMethod ({ cls := "RightKeys", name := "soonest", desc := "(II)I" } : Jvm.MethodName)) ∈ TB := tb4 127 rfl rfl
theorem w_956 : (Jvm.Cond.selects "RightKeys" ({ cls := "RightKeys", name := "soonest", desc := "(II)I" } : Jvm.MethodName) ({ cls := "RightKeys", name := "soonest", desc := "(II)I" } : Jvm.MethodName)) ∈ TB := tb4 128 rfl rfl
theorem w_957 : (Jvm.Cond.code ({ cls := "RightKeys", name := "soonest", desc := "(II)I" } : Jvm.MethodName) prog_1_method_34_code (7 : Nat) (Option.some Jvm.ClassFile.FieldType.int)) ∈ TB := tb4 129 rfl rfl
theorem w_958 : (Jvm.Cond.methodLink "RightKeysLaw" (120 : Nat) ({ cls := "RightKeys", name := "rents", desc := "(I)I" } : Jvm.MethodName)) ∈ TB := tb4 130 rfl rfl
theorem w_959 : (Jvm.Cond.instanceMethod ({ cls := "RightKeys", name := "rents", desc := "(I)I" } : Jvm.MethodName)) ∈ TB := tb4 131 rfl rfl
theorem w_960 : (Jvm.Cond.selects "RightKeys" ({ cls := "RightKeys", name := "rents", desc := "(I)I" } : Jvm.MethodName) ({ cls := "RightKeys", name := "rents", desc := "(I)I" } : Jvm.MethodName)) ∈ TB := tb4 132 rfl rfl
theorem w_961 : (Jvm.Cond.code ({ cls := "RightKeys", name := "rents", desc := "(I)I" } : Jvm.MethodName) prog_1_method_35_code (2 : Nat) (Option.some Jvm.ClassFile.FieldType.int)) ∈ TB := tb4 133 rfl rfl
theorem w_962 : (Jvm.Cond.methodLink "RightKeys" (280 : Nat) ({ cls := "RightKeys", name := "isCount", desc := "(I)Z" } : Jvm.MethodName)) ∈ TB := tb4 134 rfl rfl
theorem w_963 : (Jvm.Cond.static ({ cls := "RightKeys", name := "isCount", desc := "(I)Z" } : Jvm.MethodName)) ∈ TB := tb4 135 rfl rfl
theorem w_964 : (Jvm.Cond.code ({ cls := "RightKeys", name := "isCount", desc := "(I)Z" } : Jvm.MethodName) prog_1_method_50_code (1 : Nat) (Option.some Jvm.ClassFile.FieldType.boolean)) ∈ TB := tb4 136 rfl rfl
theorem w_965 : (Jvm.Cond.methodLink "RightKeys" (286 : Nat) ({ cls := "RightKeys", name := "tryHours", desc := "(II)V" } : Jvm.MethodName)) ∈ TB := tb4 137 rfl rfl
theorem w_967 : (Jvm.Cond.instanceMethod ({ cls := "RightKeys", name := "tryHours", desc := "(II)V" } : Jvm.MethodName)) ∈ TB := tb4 139 rfl rfl
theorem w_968 : (Jvm.Cond.code ({ cls := "RightKeys", name := "tryHours", desc := "(II)V" } : Jvm.MethodName) prog_1_method_38_code (4 : Nat) (Option.none : Option Jvm.ClassFile.FieldType)) ∈ TB := tb4 140 rfl rfl
theorem w_969 : (Jvm.Cond.methodLink "RightKeysLaw" (128 : Nat) ({ cls := "RightKeys", name := "then", desc := "(III)I" } : Jvm.MethodName)) ∈ TB := tb4 141 rfl rfl
theorem w_970 : (Jvm.Cond.instanceMethod ({ cls := "RightKeys", name := "then", desc := "(III)I" } : Jvm.MethodName)) ∈ TB := tb4 142 rfl rfl
theorem w_971 : (Jvm.Cond.selects "RightKeys" ({ cls := "RightKeys", name := "then", desc := "(III)I" } : Jvm.MethodName) ({ cls := "RightKeys", name := "then", desc := "(III)I" } : Jvm.MethodName)) ∈ TB := tb4 143 rfl rfl
theorem w_972 : (Jvm.Cond.code ({ cls := "RightKeys", name := "then", desc := "(III)I" } : Jvm.MethodName) prog_1_method_36_code (4 : Nat) (Option.some Jvm.ClassFile.FieldType.int)) ∈ TB := tb4 144 rfl rfl
theorem w_973 : (Jvm.Cond.methodLink "RightKeysLaw" (133 : Nat) ({ cls := "RightKeys", name := "year", desc := "(II)I" } : Jvm.MethodName)) ∈ TB := tb4 145 rfl rfl
theorem w_974 : (Jvm.Cond.instanceMethod ({ cls := "RightKeys", name := "year", desc := "(II)I" } : Jvm.MethodName)) ∈ TB := tb4 146 rfl rfl
theorem w_975 : (Jvm.Cond.selects "RightKeys" ({ cls := "RightKeys", name := "year", desc := "(II)I" } : Jvm.MethodName) ({ cls := "RightKeys", name := "year", desc := "(II)I" } : Jvm.MethodName)) ∈ TB := tb4 147 rfl rfl
theorem w_976 : (Jvm.Cond.code ({ cls := "RightKeys", name := "year", desc := "(II)I" } : Jvm.MethodName) prog_1_method_37_code (5 : Nat) (Option.some Jvm.ClassFile.FieldType.int)) ∈ TB := tb4 148 rfl rfl
theorem w_977 : (Jvm.Cond.methodLink "RightKeysLaw" (137 : Nat) ({ cls := "RightKeys", name := "tell", desc := "(IZ)I" } : Jvm.MethodName)) ∈ TB := tb4 149 rfl rfl
theorem w_978 : (Jvm.Cond.instanceMethod ({ cls := "RightKeys", name := "tell", desc := "(IZ)I" } : Jvm.MethodName)) ∈ TB := tb4 150 rfl rfl
theorem w_979 : (Jvm.Cond.selects "RightKeys" ({ cls := "RightKeys", name := "tell", desc := "(IZ)I" } : Jvm.MethodName) ({ cls := "RightKeys", name := "tell", desc := "(IZ)I" } : Jvm.MethodName)) ∈ TB := tb4 151 rfl rfl
theorem w_980 : (Jvm.Cond.code ({ cls := "RightKeys", name := "tell", desc := "(IZ)I" } : Jvm.MethodName) prog_1_method_39_code (4 : Nat) (Option.some Jvm.ClassFile.FieldType.int)) ∈ TB := tb4 152 rfl rfl
theorem w_981 : (Jvm.Cond.methodLink "RightKeysLaw" (142 : Nat) ({ cls := "RightKeys", name := "forget", desc := "()I" } : Jvm.MethodName)) ∈ TB := tb4 153 rfl rfl
theorem w_982 : (Jvm.Cond.instanceMethod ({ cls := "RightKeys", name := "forget", desc := "()I" } : Jvm.MethodName)) ∈ TB := tb4 154 rfl rfl
theorem w_983 : (Jvm.Cond.selects "RightKeys" ({ cls := "RightKeys", name := "forget", desc := "()I" } : Jvm.MethodName) ({ cls := "RightKeys", name := "forget", desc := "()I" } : Jvm.MethodName)) ∈ TB := tb4 155 rfl rfl
theorem w_984 : (Jvm.Cond.code ({ cls := "RightKeys", name := "forget", desc := "()I" } : Jvm.MethodName) prog_1_method_40_code (2 : Nat) (Option.some Jvm.ClassFile.FieldType.int)) ∈ TB := tb4 156 rfl rfl
theorem w_985 : (Jvm.Cond.methodLink "RightKeysLaw" (146 : Nat) ({ cls := "RightKeys", name := "overslept", desc := "(II)I" } : Jvm.MethodName)) ∈ TB := tb4 157 rfl rfl
theorem w_986 : (Jvm.Cond.instanceMethod ({ cls := "RightKeys", name := "overslept", desc := "(II)I" } : Jvm.MethodName)) ∈ TB := tb4 158 rfl rfl
theorem w_987 : (Jvm.Cond.selects "RightKeys" ({ cls := "RightKeys", name := "overslept", desc := "(II)I" } : Jvm.MethodName) ({ cls := "RightKeys", name := "overslept", desc := "(II)I" } : Jvm.MethodName)) ∈ TB := tb4 159 rfl rfl
theorem w_988 : (Jvm.Cond.code ({ cls := "RightKeys", name := "overslept", desc := "(II)I" } : Jvm.MethodName) prog_1_method_41_code (5 : Nat) (Option.some Jvm.ClassFile.FieldType.int)) ∈ TB := tb4 160 rfl rfl
theorem w_989 : (Jvm.Cond.methodLink "RightKeys" (290 : Nat) ({ cls := "RightKeys", name := "agrees", desc := "(II)Z" } : Jvm.MethodName)) ∈ TB := tb4 161 rfl rfl
theorem w_991 : (Jvm.Cond.instanceMethod ({ cls := "RightKeys", name := "agrees", desc := "(II)Z" } : Jvm.MethodName)) ∈ TB := tb4 163 rfl rfl
theorem w_992 : (Jvm.Cond.code ({ cls := "RightKeys", name := "agrees", desc := "(II)Z" } : Jvm.MethodName) prog_1_method_44_code (4 : Nat) (Option.some Jvm.ClassFile.FieldType.boolean)) ∈ TB := tb4 164 rfl rfl
theorem w_993 : (Jvm.Cond.methodLink "RightKeysLaw" (150 : Nat) ({ cls := "RightKeys", name := "ask", desc := "(I)I" } : Jvm.MethodName)) ∈ TB := tb4 165 rfl rfl
theorem w_994 : (Jvm.Cond.instanceMethod ({ cls := "RightKeys", name := "ask", desc := "(I)I" } : Jvm.MethodName)) ∈ TB := tb4 166 rfl rfl
theorem w_995 : (Jvm.Cond.selects "RightKeys" ({ cls := "RightKeys", name := "ask", desc := "(I)I" } : Jvm.MethodName) ({ cls := "RightKeys", name := "ask", desc := "(I)I" } : Jvm.MethodName)) ∈ TB := tb4 167 rfl rfl
theorem w_996 : (Jvm.Cond.code ({ cls := "RightKeys", name := "ask", desc := "(I)I" } : Jvm.MethodName) prog_1_method_42_code (4 : Nat) (Option.some Jvm.ClassFile.FieldType.int)) ∈ TB := tb4 168 rfl rfl
theorem w_997 : (Jvm.Cond.methodLink "RightKeys" (293 : Nat) ({ cls := "RightKeys", name := "bestToAsk", desc := "(I)I" } : Jvm.MethodName)) ∈ TB := tb4 169 rfl rfl
theorem w_999 : (Jvm.Cond.instanceMethod ({ cls := "RightKeys", name := "bestToAsk", desc := "(I)I" } : Jvm.MethodName)) ∈ TB := tb4 171 rfl rfl
theorem w_1000 : (Jvm.Cond.code ({ cls := "RightKeys", name := "bestToAsk", desc := "(I)I" } : Jvm.MethodName) prog_1_method_43_code (8 : Nat) (Option.some Jvm.ClassFile.FieldType.int)) ∈ TB := tb4 172 rfl rfl
theorem w_1001 : (Jvm.Cond.methodLink "RightKeys" (296 : Nat) ({ cls := "RightKeys", name := "countStood", desc := "(II)I" } : Jvm.MethodName)) ∈ TB := tb4 173 rfl rfl
theorem w_1003 : (Jvm.Cond.instanceMethod ({ cls := "RightKeys", name := "countStood", desc := "(II)I" } : Jvm.MethodName)) ∈ TB := tb4 175 rfl rfl
theorem w_1004 : (Jvm.Cond.code ({ cls := "RightKeys", name := "countStood", desc := "(II)I" } : Jvm.MethodName) prog_1_method_45_code (5 : Nat) (Option.some Jvm.ClassFile.FieldType.int)) ∈ TB := tb4 176 rfl rfl
theorem w_1005 : (Jvm.Cond.methodLink "RightKeys" (299 : Nat) ({ cls := "java/lang/Math", name := "max", desc := "(II)I" } : Jvm.MethodName)) ∈ TB := tb4 177 rfl rfl
theorem w_1006 : (Jvm.Cond.classLink "RightKeysLaw" (10 : Nat) "RightKeysModel") ∈ TB := tb4 178 rfl rfl
theorem w_1007 : (Jvm.Cond.instantiable "RightKeysModel" (67 : Nat)) ∈ TB := tb4 179 rfl rfl
theorem w_1008 : (Jvm.Cond.methodLink "RightKeysLaw" (12 : Nat) ({ cls := "RightKeysModel", name := "<init>", desc := "()V" } : Jvm.MethodName)) ∈ TB := tb4 180 rfl rfl
theorem w_1009 : (Jvm.Cond.instanceMethod ({ cls := "RightKeysModel", name := "<init>", desc := "()V" } : Jvm.MethodName)) ∈ TB := tb4 181 rfl rfl
theorem w_1010 : (Jvm.Cond.code ({ cls := "RightKeysModel", name := "<init>", desc := "()V" } : Jvm.MethodName) prog_9_method_2_code (1 : Nat) (Option.none : Option Jvm.ClassFile.FieldType)) ∈ TB := tb4 182 rfl rfl
theorem w_1011 : (Jvm.Cond.methodLink "RightKeysModel" (7 : Nat) ({ cls := "java/lang/Object", name := "<init>", desc := "()V" } : Jvm.MethodName)) ∈ TB := tb4 183 rfl rfl
theorem w_1012 : (Jvm.Cond.methodLink "RightKeysModel" (137 : Nat) ({ cls := "RightKeysModel", name := "plain", desc := "(I)V" } : Jvm.MethodName)) ∈ TB := tb4 184 rfl rfl
theorem w_1014 : (Jvm.Cond.instanceMethod ({ cls := "RightKeysModel", name := "plain", desc := "(I)V" } : Jvm.MethodName)) ∈ TB := tb4 186 rfl rfl
theorem w_1015 : (Jvm.Cond.code ({ cls := "RightKeysModel", name := "plain", desc := "(I)V" } : Jvm.MethodName) prog_9_method_19_code (3 : Nat) (Option.none : Option Jvm.ClassFile.FieldType)) ∈ TB := tb4 187 rfl rfl
theorem w_1016 : (Jvm.Cond.methodLink "RightKeysModel" (141 : Nat) ({ cls := "RightKeysModel", name := "word", desc := "(IIIIIII)J" } : Jvm.MethodName)) ∈ TB := tb4 188 rfl rfl
theorem w_1017 : (Jvm.Cond.static ({ cls := "RightKeysModel", name := "word", desc := "(IIIIIII)J" } : Jvm.MethodName)) ∈ TB := tb4 189 rfl rfl
theorem w_1018 : (Jvm.Cond.code ({ cls := "RightKeysModel", name := "word", desc := "(IIIIIII)J" } : Jvm.MethodName) prog_9_method_10_code (7 : Nat) (Option.some Jvm.ClassFile.FieldType.long)) ∈ TB := tb4 190 rfl rfl
theorem w_1019 : (Jvm.Cond.methodLink "RightKeysModel" (162 : Nat) ({ cls := "RightKeysModel", name := "appends", desc := "(JI)J" } : Jvm.MethodName)) ∈ TB := tb4 191 rfl rfl
theorem w_1020 : (Jvm.Cond.static ({ cls := "RightKeysModel", name := "appends", desc := "(JI)J" } : Jvm.MethodName)) ∈ TB := tb4 192 rfl rfl
theorem w_1021 : (Jvm.Cond.code ({ cls := "RightKeysModel", name := "appends", desc := "(JI)J" } : Jvm.MethodName) prog_9_method_9_code (3 : Nat) (Option.some Jvm.ClassFile.FieldType.long)) ∈ TB := tb4 193 rfl rfl
theorem w_1022 : (Jvm.Cond.constantLong "RightKeysModel" (160 : Nat) (27 : Int64)) ∈ TB := tb4 194 rfl rfl
theorem w_1023 : (Jvm.Cond.methodLink "RightKeysModel" (145 : Nat) ({ cls := "RightKeysModel", name := "begins", desc := "()V" } : Jvm.MethodName)) ∈ TB := tb4 195 rfl rfl
theorem w_1025 : (Jvm.Cond.instanceMethod ({ cls := "RightKeysModel", name := "begins", desc := "()V" } : Jvm.MethodName)) ∈ TB := tb4 197 rfl rfl
theorem w_1026 : (Jvm.Cond.code ({ cls := "RightKeysModel", name := "begins", desc := "()V" } : Jvm.MethodName) prog_9_method_40_code (2 : Nat) (Option.none : Option Jvm.ClassFile.FieldType)) ∈ TB := tb4 198 rfl rfl
theorem w_1027 : (Jvm.Cond.methodLink "RightKeysModel" (148 : Nat) ({ cls := "RightKeysModel", name := "keepsRow", desc := "()V" } : Jvm.MethodName)) ∈ TB := tb4 199 rfl rfl
theorem w_1029 : (Jvm.Cond.instanceMethod ({ cls := "RightKeysModel", name := "keepsRow", desc := "()V" } : Jvm.MethodName)) ∈ TB := tb4 201 rfl rfl
theorem w_1030 : (Jvm.Cond.code ({ cls := "RightKeysModel", name := "keepsRow", desc := "()V" } : Jvm.MethodName) prog_9_method_41_code (2 : Nat) (Option.none : Option Jvm.ClassFile.FieldType)) ∈ TB := tb4 202 rfl rfl
theorem w_1031 : (Jvm.Cond.fieldLink "RightKeysModel" (13 : Nat) "RightKeysModel" "tape" "[B") ∈ TB := tb4 203 rfl rfl
theorem w_1032 : (Jvm.Cond.fieldLink "RightKeysModel" (151 : Nat) "RightKeysModel" "taped" "I") ∈ TB := tb4 204 rfl rfl
theorem w_1033 : (Jvm.Cond.fieldLink "RightKeysModel" (17 : Nat) "RightKeysModel" "text" "[B") ∈ TB := tb4 205 rfl rfl
theorem w_1034 : (Jvm.Cond.fieldLink "RightKeysModel" (157 : Nat) "RightKeysModel" "size" "I") ∈ TB := tb4 206 rfl rfl
theorem w_1035 : (Jvm.Cond.fieldLink "RightKeysModel" (20 : Nat) "RightKeysModel" "tKind" "[I") ∈ TB := tb4 207 rfl rfl
theorem w_1036 : (Jvm.Cond.fieldLink "RightKeysModel" (24 : Nat) "RightKeysModel" "tPlace" "[I") ∈ TB := tb4 208 rfl rfl
theorem w_1037 : (Jvm.Cond.fieldLink "RightKeysModel" (27 : Nat) "RightKeysModel" "tValue" "[I") ∈ TB := tb4 209 rfl rfl
theorem w_1038 : (Jvm.Cond.fieldLink "RightKeysModel" (30 : Nat) "RightKeysModel" "tName" "[J") ∈ TB := tb4 210 rfl rfl
theorem w_1039 : (Jvm.Cond.fieldLink "RightKeysModel" (34 : Nat) "RightKeysModel" "keys" "[J") ∈ TB := tb4 211 rfl rfl
theorem w_1040 : (Jvm.Cond.fieldLink "RightKeysModel" (166 : Nat) "RightKeysModel" "tokens" "I") ∈ TB := tb4 212 rfl rfl
theorem w_1041 : (Jvm.Cond.fieldLink "RightKeysModel" (191 : Nat) "RightKeysModel" "t" "I") ∈ TB := tb4 213 rfl rfl
theorem w_1042 : (Jvm.Cond.fieldLink "RightKeysModel" (215 : Nat) "RightKeysModel" "open" "I") ∈ TB := tb4 214 rfl rfl
theorem w_1043 : (Jvm.Cond.fieldLink "RightKeysModel" (188 : Nat) "RightKeysModel" "fault" "I") ∈ TB := tb4 215 rfl rfl
theorem w_1044 : (Jvm.Cond.fieldLink "RightKeysModel" (194 : Nat) "RightKeysModel" "faultPlace" "I") ∈ TB := tb4 216 rfl rfl
theorem w_1045 : (Jvm.Cond.fieldLink "RightKeysModel" (197 : Nat) "RightKeysModel" "worst" "I") ∈ TB := tb4 217 rfl rfl
theorem w_1046 : (Jvm.Cond.fieldLink "RightKeysModel" (200 : Nat) "RightKeysModel" "worstPlace" "I") ∈ TB := tb4 218 rfl rfl
theorem w_1047 : (Jvm.Cond.fieldLink "RightKeysModel" (37 : Nat) "RightKeysModel" "place" "I") ∈ TB := tb4 219 rfl rfl
theorem w_1048 : (Jvm.Cond.fieldLink "RightKeysModel" (218 : Nat) "RightKeysModel" "live" "I") ∈ TB := tb4 220 rfl rfl
theorem w_1049 : (Jvm.Cond.fieldLink "RightKeysModel" (221 : Nat) "RightKeysModel" "side" "I") ∈ TB := tb4 221 rfl rfl
theorem w_1050 : (Jvm.Cond.fieldLink "RightKeysModel" (224 : Nat) "RightKeysModel" "names" "I") ∈ TB := tb4 222 rfl rfl
theorem w_1051 : (Jvm.Cond.fieldLink "RightKeysModel" (40 : Nat) "RightKeysModel" "nameOf" "[J") ∈ TB := tb4 223 rfl rfl
theorem w_1052 : (Jvm.Cond.fieldLink "RightKeysModel" (43 : Nat) "RightKeysModel" "houses" "[I") ∈ TB := tb4 224 rfl rfl
theorem w_1053 : (Jvm.Cond.fieldLink "RightKeysModel" (46 : Nat) "RightKeysModel" "goTold" "[I") ∈ TB := tb4 225 rfl rfl
theorem w_1054 : (Jvm.Cond.fieldLink "RightKeysModel" (49 : Nat) "RightKeysModel" "comeTold" "[I") ∈ TB := tb4 226 rfl rfl
theorem w_1055 : (Jvm.Cond.fieldLink "RightKeysModel" (52 : Nat) "RightKeysModel" "temperTold" "[I") ∈ TB := tb4 227 rfl rfl
theorem w_1056 : (Jvm.Cond.fieldLink "RightKeysModel" (55 : Nat) "RightKeysModel" "hasBoth" "[Z") ∈ TB := tb4 228 rfl rfl
theorem w_1057 : (Jvm.Cond.fieldLink "RightKeysModel" (59 : Nat) "RightKeysModel" "spares" "[I") ∈ TB := tb4 229 rfl rfl
theorem w_1058 : (Jvm.Cond.fieldLink "RightKeysModel" (62 : Nat) "RightKeysModel" "doorOf" "[I") ∈ TB := tb4 230 rfl rfl
theorem w_1059 : (Jvm.Cond.fieldLink "RightKeysModel" (65 : Nat) "RightKeysModel" "boxTold" "[I") ∈ TB := tb4 231 rfl rfl
theorem w_1060 : (Jvm.Cond.fieldLink "RightKeysModel" (68 : Nat) "RightKeysModel" "seed" "[I") ∈ TB := tb4 232 rfl rfl
theorem w_1061 : (Jvm.Cond.fieldLink "RightKeysModel" (71 : Nat) "RightKeysModel" "lawFirst" "[I") ∈ TB := tb4 233 rfl rfl
theorem w_1062 : (Jvm.Cond.fieldLink "RightKeysModel" (74 : Nat) "RightKeysModel" "lawLast" "[I") ∈ TB := tb4 234 rfl rfl
theorem w_1063 : (Jvm.Cond.fieldLink "RightKeysModel" (227 : Nat) "RightKeysModel" "branches" "I") ∈ TB := tb4 235 rfl rfl
theorem w_1064 : (Jvm.Cond.fieldLink "RightKeysModel" (77 : Nat) "RightKeysModel" "hasTest" "[Z") ∈ TB := tb4 236 rfl rfl
theorem w_1065 : (Jvm.Cond.fieldLink "RightKeysModel" (80 : Nat) "RightKeysModel" "testFrom" "[I") ∈ TB := tb4 237 rfl rfl
theorem w_1066 : (Jvm.Cond.fieldLink "RightKeysModel" (83 : Nat) "RightKeysModel" "testMid" "[I") ∈ TB := tb4 238 rfl rfl
theorem w_1067 : (Jvm.Cond.fieldLink "RightKeysModel" (86 : Nat) "RightKeysModel" "testTo" "[I") ∈ TB := tb4 239 rfl rfl
theorem w_1068 : (Jvm.Cond.fieldLink "RightKeysModel" (89 : Nat) "RightKeysModel" "termTo" "[I") ∈ TB := tb5 0 rfl rfl
theorem w_1069 : (Jvm.Cond.fieldLink "RightKeysModel" (230 : Nat) "RightKeysModel" "codes" "I") ∈ TB := tb5 1 rfl rfl
theorem w_1070 : (Jvm.Cond.fieldLink "RightKeysModel" (92 : Nat) "RightKeysModel" "code" "[I") ∈ TB := tb5 2 rfl rfl
theorem w_1071 : (Jvm.Cond.fieldLink "RightKeysModel" (95 : Nat) "RightKeysModel" "codeInt" "[I") ∈ TB := tb5 3 rfl rfl
theorem w_1072 : (Jvm.Cond.fieldLink "RightKeysModel" (98 : Nat) "RightKeysModel" "waits" "[I") ∈ TB := tb5 4 rfl rfl
theorem w_1073 : (Jvm.Cond.fieldLink "RightKeysModel" (275 : Nat) "RightKeysModel" "waiting" "I") ∈ TB := tb5 5 rfl rfl
theorem w_1074 : (Jvm.Cond.fieldLink "RightKeysModel" (101 : Nat) "RightKeysModel" "variables" "[I") ∈ TB := tb5 6 rfl rfl
theorem w_1075 : (Jvm.Cond.fieldLink "RightKeysModel" (104 : Nat) "RightKeysModel" "pile" "[I") ∈ TB := tb5 7 rfl rfl
theorem w_1076 : (Jvm.Cond.fieldLink "RightKeysModel" (288 : Nat) "RightKeysModel" "isBroken" "Z") ∈ TB := tb5 8 rfl rfl
theorem w_1077 : (Jvm.Cond.fieldLink "RightKeysModel" (107 : Nat) "RightKeysModel" "now" "[I") ∈ TB := tb5 9 rfl rfl
theorem w_1078 : (Jvm.Cond.fieldLink "RightKeysModel" (110 : Nat) "RightKeysModel" "row" "[I") ∈ TB := tb5 10 rfl rfl
theorem w_1079 : (Jvm.Cond.fieldLink "RightKeysModel" (296 : Nat) "RightKeysModel" "lots" "I") ∈ TB := tb5 11 rfl rfl
theorem w_1080 : (Jvm.Cond.fieldLink "RightKeysModel" (299 : Nat) "RightKeysModel" "isStill" "Z") ∈ TB := tb5 12 rfl rfl
theorem w_1081 : (Jvm.Cond.fieldLink "RightKeysModel" (302 : Nat) "RightKeysModel" "lost" "I") ∈ TB := tb5 13 rfl rfl
theorem w_1082 : (Jvm.Cond.fieldLink "RightKeysModel" (113 : Nat) "RightKeysModel" "wentNow" "[Z") ∈ TB := tb5 14 rfl rfl
theorem w_1083 : (Jvm.Cond.fieldLink "RightKeysModel" (236 : Nat) "RightKeysModel" "undos" "I") ∈ TB := tb5 15 rfl rfl
theorem w_1084 : (Jvm.Cond.fieldLink "RightKeysModel" (116 : Nat) "RightKeysModel" "history" "[I") ∈ TB := tb5 16 rfl rfl
theorem w_1085 : (Jvm.Cond.fieldLink "RightKeysModel" (119 : Nat) "RightKeysModel" "standOf" "[I") ∈ TB := tb5 17 rfl rfl
theorem w_1086 : (Jvm.Cond.fieldLink "RightKeysModel" (417 : Nat) "RightKeysModel" "standAll" "I") ∈ TB := tb5 18 rfl rfl
theorem w_1087 : (Jvm.Cond.fieldLink "RightKeysModel" (420 : Nat) "RightKeysModel" "standFirst" "I") ∈ TB := tb5 19 rfl rfl
theorem w_1088 : (Jvm.Cond.fieldLink "RightKeysModel" (423 : Nat) "RightKeysModel" "stoodBits" "I") ∈ TB := tb5 20 rfl rfl
theorem w_1089 : (Jvm.Cond.fieldLink "RightKeysModel" (426 : Nat) "RightKeysModel" "peakHour" "I") ∈ TB := tb5 21 rfl rfl
theorem w_1090 : (Jvm.Cond.fieldLink "RightKeysModel" (429 : Nat) "RightKeysModel" "peakMany" "I") ∈ TB := tb5 22 rfl rfl
theorem w_1091 : (Jvm.Cond.fieldLink "RightKeysModel" (239 : Nat) "RightKeysModel" "tolds" "I") ∈ TB := tb5 23 rfl rfl
theorem w_1092 : (Jvm.Cond.fieldLink "RightKeysModel" (122 : Nat) "RightKeysModel" "toldHouse" "[I") ∈ TB := tb5 24 rfl rfl
theorem w_1093 : (Jvm.Cond.fieldLink "RightKeysModel" (125 : Nat) "RightKeysModel" "toldStood" "[I") ∈ TB := tb5 25 rfl rfl
theorem w_1094 : (Jvm.Cond.fieldLink "RightKeysModel" (128 : Nat) "RightKeysModel" "stoodBy" "[I") ∈ TB := tb5 26 rfl rfl
theorem w_1095 : (Jvm.Cond.fieldLink "RightKeysModel" (131 : Nat) "RightKeysModel" "isHeld" "[Z") ∈ TB := tb5 27 rfl rfl
theorem w_1096 : (Jvm.Cond.fieldLink "RightKeysModel" (134 : Nat) "RightKeysModel" "heldRows" "[I") ∈ TB := tb5 28 rfl rfl
theorem w_1232 : (Jvm.Cond.arrayClass Jvm.ClassFile.FieldType.boolean) ∈ TB := tb5 164 rfl rfl
theorem w_1233 : (Jvm.Cond.methodLink "RightKeysLaw" (17 : Nat) ({ cls := "RightKeysModel", name := "feed", desc := "(IIIII)I" } : Jvm.MethodName)) ∈ TB := tb5 165 rfl rfl
theorem w_1234 : (Jvm.Cond.instanceMethod ({ cls := "RightKeysModel", name := "feed", desc := "(IIIII)I" } : Jvm.MethodName)) ∈ TB := tb5 166 rfl rfl
theorem w_1235 : (Jvm.Cond.selects "RightKeysModel" ({ cls := "RightKeysModel", name := "feed", desc := "(IIIII)I" } : Jvm.MethodName) ({ cls := "RightKeysModel", name := "feed", desc := "(IIIII)I" } : Jvm.MethodName)) ∈ TB := tb5 167 rfl rfl
theorem w_1236 : (Jvm.Cond.code ({ cls := "RightKeysModel", name := "feed", desc := "(IIIII)I" } : Jvm.MethodName) prog_9_method_3_code (6 : Nat) (Option.some Jvm.ClassFile.FieldType.int)) ∈ TB := tb5 168 rfl rfl
theorem w_1237 : (Jvm.Cond.methodLink "RightKeysModel" (154 : Nat) ({ cls := "RightKeysModel", name := "put", desc := "(I)V" } : Jvm.MethodName)) ∈ TB := tb5 169 rfl rfl
theorem w_1239 : (Jvm.Cond.instanceMethod ({ cls := "RightKeysModel", name := "put", desc := "(I)V" } : Jvm.MethodName)) ∈ TB := tb5 171 rfl rfl
theorem w_1240 : (Jvm.Cond.code ({ cls := "RightKeysModel", name := "put", desc := "(I)V" } : Jvm.MethodName) prog_9_method_4_code (3 : Nat) (Option.none : Option Jvm.ClassFile.FieldType)) ∈ TB := tb5 172 rfl rfl
theorem w_1241 : (Jvm.Cond.methodLink "RightKeysLaw" (22 : Nat) ({ cls := "RightKeysModel", name := "back", desc := "(I)I" } : Jvm.MethodName)) ∈ TB := tb5 173 rfl rfl
theorem w_1242 : (Jvm.Cond.instanceMethod ({ cls := "RightKeysModel", name := "back", desc := "(I)I" } : Jvm.MethodName)) ∈ TB := tb5 174 rfl rfl
theorem w_1243 : (Jvm.Cond.selects "RightKeysModel" ({ cls := "RightKeysModel", name := "back", desc := "(I)I" } : Jvm.MethodName) ({ cls := "RightKeysModel", name := "back", desc := "(I)I" } : Jvm.MethodName)) ∈ TB := tb5 175 rfl rfl
theorem w_1244 : (Jvm.Cond.code ({ cls := "RightKeysModel", name := "back", desc := "(I)I" } : Jvm.MethodName) prog_9_method_5_code (2 : Nat) (Option.some Jvm.ClassFile.FieldType.int)) ∈ TB := tb5 176 rfl rfl
theorem w_1245 : (Jvm.Cond.methodLink "RightKeysLaw" (27 : Nat) ({ cls := "RightKeysModel", name := "read", desc := "()I" } : Jvm.MethodName)) ∈ TB := tb5 177 rfl rfl
theorem w_1246 : (Jvm.Cond.instanceMethod ({ cls := "RightKeysModel", name := "read", desc := "()I" } : Jvm.MethodName)) ∈ TB := tb5 178 rfl rfl
theorem w_1247 : (Jvm.Cond.selects "RightKeysModel" ({ cls := "RightKeysModel", name := "read", desc := "()I" } : Jvm.MethodName) ({ cls := "RightKeysModel", name := "read", desc := "()I" } : Jvm.MethodName)) ∈ TB := tb5 179 rfl rfl
theorem w_1248 : (Jvm.Cond.code ({ cls := "RightKeysModel", name := "read", desc := "()I" } : Jvm.MethodName) prog_9_method_20_code (2 : Nat) (Option.some Jvm.ClassFile.FieldType.int)) ∈ TB := tb5 180 rfl rfl
theorem w_1249 : (Jvm.Cond.methodLink "RightKeysModel" (212 : Nat) ({ cls := "RightKeysModel", name := "cut", desc := "()V" } : Jvm.MethodName)) ∈ TB := tb5 181 rfl rfl
theorem w_1251 : (Jvm.Cond.instanceMethod ({ cls := "RightKeysModel", name := "cut", desc := "()V" } : Jvm.MethodName)) ∈ TB := tb5 183 rfl rfl
theorem w_1252 : (Jvm.Cond.code ({ cls := "RightKeysModel", name := "cut", desc := "()V" } : Jvm.MethodName) prog_9_method_12_code (8 : Nat) (Option.none : Option Jvm.ClassFile.FieldType)) ∈ TB := tb5 184 rfl rfl
theorem w_1253 : (Jvm.Cond.methodLink "RightKeysModel" (169 : Nat) ({ cls := "RightKeysModel", name := "byteAt", desc := "(I)I" } : Jvm.MethodName)) ∈ TB := tb5 185 rfl rfl
theorem w_1255 : (Jvm.Cond.instanceMethod ({ cls := "RightKeysModel", name := "byteAt", desc := "(I)I" } : Jvm.MethodName)) ∈ TB := tb5 187 rfl rfl
theorem w_1256 : (Jvm.Cond.code ({ cls := "RightKeysModel", name := "byteAt", desc := "(I)I" } : Jvm.MethodName) prog_9_method_6_code (2 : Nat) (Option.some Jvm.ClassFile.FieldType.int)) ∈ TB := tb5 188 rfl rfl
theorem w_1257 : (Jvm.Cond.methodLink "RightKeysModel" (173 : Nat) ({ cls := "RightKeysModel", name := "token", desc := "(IIIJ)V" } : Jvm.MethodName)) ∈ TB := tb5 189 rfl rfl
theorem w_1259 : (Jvm.Cond.instanceMethod ({ cls := "RightKeysModel", name := "token", desc := "(IIIJ)V" } : Jvm.MethodName)) ∈ TB := tb5 191 rfl rfl
theorem w_1260 : (Jvm.Cond.code ({ cls := "RightKeysModel", name := "token", desc := "(IIIJ)V" } : Jvm.MethodName) prog_9_method_11_code (6 : Nat) (Option.none : Option Jvm.ClassFile.FieldType)) ∈ TB := tb5 192 rfl rfl
theorem w_1261 : (Jvm.Cond.methodLink "RightKeysModel" (177 : Nat) ({ cls := "RightKeysModel", name := "isLetter", desc := "(I)Z" } : Jvm.MethodName)) ∈ TB := tb5 193 rfl rfl
theorem w_1262 : (Jvm.Cond.static ({ cls := "RightKeysModel", name := "isLetter", desc := "(I)Z" } : Jvm.MethodName)) ∈ TB := tb5 194 rfl rfl
theorem w_1263 : (Jvm.Cond.code ({ cls := "RightKeysModel", name := "isLetter", desc := "(I)Z" } : Jvm.MethodName) prog_9_method_8_code (1 : Nat) (Option.some Jvm.ClassFile.FieldType.boolean)) ∈ TB := tb5 195 rfl rfl
theorem w_1264 : (Jvm.Cond.methodLink "RightKeysModel" (181 : Nat) ({ cls := "RightKeysModel", name := "isDigit", desc := "(I)Z" } : Jvm.MethodName)) ∈ TB := tb5 196 rfl rfl
theorem w_1265 : (Jvm.Cond.static ({ cls := "RightKeysModel", name := "isDigit", desc := "(I)Z" } : Jvm.MethodName)) ∈ TB := tb5 197 rfl rfl
theorem w_1266 : (Jvm.Cond.code ({ cls := "RightKeysModel", name := "isDigit", desc := "(I)Z" } : Jvm.MethodName) prog_9_method_7_code (1 : Nat) (Option.some Jvm.ClassFile.FieldType.boolean)) ∈ TB := tb5 198 rfl rfl
theorem w_1267 : (Jvm.Cond.methodLink "RightKeysModel" (184 : Nat) ({ cls := "RightKeysModel", name := "sign", desc := "(III)I" } : Jvm.MethodName)) ∈ TB := tb5 199 rfl rfl
theorem w_1269 : (Jvm.Cond.instanceMethod ({ cls := "RightKeysModel", name := "sign", desc := "(III)I" } : Jvm.MethodName)) ∈ TB := tb5 201 rfl rfl
theorem w_1270 : (Jvm.Cond.code ({ cls := "RightKeysModel", name := "sign", desc := "(III)I" } : Jvm.MethodName) prog_9_method_13_code (5 : Nat) (Option.some Jvm.ClassFile.FieldType.int)) ∈ TB := tb5 202 rfl rfl
theorem w_1271 : (Jvm.Cond.methodLink "RightKeysModel" (206 : Nat) ({ cls := "RightKeysModel", name := "is", desc := "(I)Z" } : Jvm.MethodName)) ∈ TB := tb5 203 rfl rfl
theorem w_1273 : (Jvm.Cond.instanceMethod ({ cls := "RightKeysModel", name := "is", desc := "(I)Z" } : Jvm.MethodName)) ∈ TB := tb5 205 rfl rfl
theorem w_1274 : (Jvm.Cond.code ({ cls := "RightKeysModel", name := "is", desc := "(I)Z" } : Jvm.MethodName) prog_9_method_14_code (2 : Nat) (Option.some Jvm.ClassFile.FieldType.boolean)) ∈ TB := tb5 206 rfl rfl
theorem w_1275 : (Jvm.Cond.methodLink "RightKeysModel" (233 : Nat) ({ cls := "RightKeysModel", name := "tellOne", desc := "()V" } : Jvm.MethodName)) ∈ TB := tb5 207 rfl rfl
theorem w_1277 : (Jvm.Cond.instanceMethod ({ cls := "RightKeysModel", name := "tellOne", desc := "()V" } : Jvm.MethodName)) ∈ TB := tb5 209 rfl rfl
theorem w_1278 : (Jvm.Cond.code ({ cls := "RightKeysModel", name := "tellOne", desc := "()V" } : Jvm.MethodName) prog_9_method_23_code (3 : Nat) (Option.none : Option Jvm.ClassFile.FieldType)) ∈ TB := tb5 210 rfl rfl
theorem w_1279 : (Jvm.Cond.methodLink "RightKeysModel" (242 : Nat) ({ cls := "RightKeysModel", name := "roomFor", desc := "(II)V" } : Jvm.MethodName)) ∈ TB := tb5 211 rfl rfl
theorem w_1281 : (Jvm.Cond.instanceMethod ({ cls := "RightKeysModel", name := "roomFor", desc := "(II)V" } : Jvm.MethodName)) ∈ TB := tb5 213 rfl rfl
theorem w_1282 : (Jvm.Cond.code ({ cls := "RightKeysModel", name := "roomFor", desc := "(II)V" } : Jvm.MethodName) prog_9_method_22_code (3 : Nat) (Option.none : Option Jvm.ClassFile.FieldType)) ∈ TB := tb5 214 rfl rfl
theorem w_1283 : (Jvm.Cond.methodLink "RightKeysModel" (203 : Nat) ({ cls := "RightKeysModel", name := "fail", desc := "(I)V" } : Jvm.MethodName)) ∈ TB := tb5 215 rfl rfl
theorem w_1285 : (Jvm.Cond.instanceMethod ({ cls := "RightKeysModel", name := "fail", desc := "(I)V" } : Jvm.MethodName)) ∈ TB := tb5 217 rfl rfl
theorem w_1286 : (Jvm.Cond.code ({ cls := "RightKeysModel", name := "fail", desc := "(I)V" } : Jvm.MethodName) prog_9_method_15_code (2 : Nat) (Option.none : Option Jvm.ClassFile.FieldType)) ∈ TB := tb5 218 rfl rfl
theorem w_1287 : (Jvm.Cond.methodLink "RightKeysModel" (209 : Nat) ({ cls := "RightKeysModel", name := "goesOn", desc := "()V" } : Jvm.MethodName)) ∈ TB := tb5 219 rfl rfl
theorem w_1289 : (Jvm.Cond.instanceMethod ({ cls := "RightKeysModel", name := "goesOn", desc := "()V" } : Jvm.MethodName)) ∈ TB := tb5 221 rfl rfl
theorem w_1290 : (Jvm.Cond.code ({ cls := "RightKeysModel", name := "goesOn", desc := "()V" } : Jvm.MethodName) prog_9_method_17_code (1 : Nat) (Option.none : Option Jvm.ClassFile.FieldType)) ∈ TB := tb5 222 rfl rfl
theorem w_1291 : (Jvm.Cond.methodLink "RightKeysModel" (246 : Nat) ({ cls := "RightKeysModel", name := "tellHouse", desc := "()V" } : Jvm.MethodName)) ∈ TB := tb5 223 rfl rfl
theorem w_1293 : (Jvm.Cond.instanceMethod ({ cls := "RightKeysModel", name := "tellHouse", desc := "()V" } : Jvm.MethodName)) ∈ TB := tb5 225 rfl rfl
theorem w_1294 : (Jvm.Cond.code ({ cls := "RightKeysModel", name := "tellHouse", desc := "()V" } : Jvm.MethodName) prog_9_method_26_code (4 : Nat) (Option.none : Option Jvm.ClassFile.FieldType)) ∈ TB := tb5 226 rfl rfl
theorem w_1295 : (Jvm.Cond.methodLink "RightKeysModel" (259 : Nat) ({ cls := "RightKeysModel", name := "must", desc := "(I)V" } : Jvm.MethodName)) ∈ TB := tb5 227 rfl rfl
theorem w_1297 : (Jvm.Cond.instanceMethod ({ cls := "RightKeysModel", name := "must", desc := "(I)V" } : Jvm.MethodName)) ∈ TB := tb5 229 rfl rfl
theorem w_1298 : (Jvm.Cond.code ({ cls := "RightKeysModel", name := "must", desc := "(I)V" } : Jvm.MethodName) prog_9_method_18_code (2 : Nat) (Option.none : Option Jvm.ClassFile.FieldType)) ∈ TB := tb5 230 rfl rfl
theorem w_1299 : (Jvm.Cond.methodLink "RightKeysModel" (256 : Nat) ({ cls := "RightKeysModel", name := "wrong", desc := "(II)V" } : Jvm.MethodName)) ∈ TB := tb5 231 rfl rfl
theorem w_1301 : (Jvm.Cond.instanceMethod ({ cls := "RightKeysModel", name := "wrong", desc := "(II)V" } : Jvm.MethodName)) ∈ TB := tb5 233 rfl rfl
theorem w_1302 : (Jvm.Cond.code ({ cls := "RightKeysModel", name := "wrong", desc := "(II)V" } : Jvm.MethodName) prog_9_method_16_code (4 : Nat) (Option.none : Option Jvm.ClassFile.FieldType)) ∈ TB := tb5 234 rfl rfl
theorem w_1303 : (Jvm.Cond.methodLink "RightKeysModel" (262 : Nat) ({ cls := "RightKeysModel", name := "bounded", desc := "(II)I" } : Jvm.MethodName)) ∈ TB := tb5 235 rfl rfl
theorem w_1305 : (Jvm.Cond.instanceMethod ({ cls := "RightKeysModel", name := "bounded", desc := "(II)I" } : Jvm.MethodName)) ∈ TB := tb5 237 rfl rfl
theorem w_1306 : (Jvm.Cond.code ({ cls := "RightKeysModel", name := "bounded", desc := "(II)I" } : Jvm.MethodName) prog_9_method_25_code (4 : Nat) (Option.some Jvm.ClassFile.FieldType.int)) ∈ TB := tb5 238 rfl rfl
theorem w_1307 : (Jvm.Cond.methodLink "RightKeysModel" (249 : Nat) ({ cls := "RightKeysModel", name := "tellSpare", desc := "()V" } : Jvm.MethodName)) ∈ TB := tb5 239 rfl rfl
theorem w_1309 : (Jvm.Cond.instanceMethod ({ cls := "RightKeysModel", name := "tellSpare", desc := "()V" } : Jvm.MethodName)) ∈ TB := tb6 1 rfl rfl
theorem w_1310 : (Jvm.Cond.code ({ cls := "RightKeysModel", name := "tellSpare", desc := "()V" } : Jvm.MethodName) prog_9_method_27_code (2 : Nat) (Option.none : Option Jvm.ClassFile.FieldType)) ∈ TB := tb6 2 rfl rfl
theorem w_1311 : (Jvm.Cond.methodLink "RightKeysModel" (252 : Nat) ({ cls := "RightKeysModel", name := "known", desc := "()I" } : Jvm.MethodName)) ∈ TB := tb6 3 rfl rfl
theorem w_1313 : (Jvm.Cond.instanceMethod ({ cls := "RightKeysModel", name := "known", desc := "()I" } : Jvm.MethodName)) ∈ TB := tb6 5 rfl rfl
theorem w_1314 : (Jvm.Cond.code ({ cls := "RightKeysModel", name := "known", desc := "()I" } : Jvm.MethodName) prog_9_method_24_code (3 : Nat) (Option.some Jvm.ClassFile.FieldType.int)) ∈ TB := tb6 6 rfl rfl
theorem w_1315 : (Jvm.Cond.methodLink "RightKeysModel" (266 : Nat) ({ cls := "RightKeysModel", name := "tellLaw", desc := "(I)V" } : Jvm.MethodName)) ∈ TB := tb6 7 rfl rfl
theorem w_1317 : (Jvm.Cond.instanceMethod ({ cls := "RightKeysModel", name := "tellLaw", desc := "(I)V" } : Jvm.MethodName)) ∈ TB := tb6 9 rfl rfl
theorem w_1318 : (Jvm.Cond.code ({ cls := "RightKeysModel", name := "tellLaw", desc := "(I)V" } : Jvm.MethodName) prog_9_method_28_code (4 : Nat) (Option.none : Option Jvm.ClassFile.FieldType)) ∈ TB := tb6 10 rfl rfl
theorem w_1319 : (Jvm.Cond.methodLink "RightKeysModel" (269 : Nat) ({ cls := "RightKeysModel", name := "expression", desc := "()V" } : Jvm.MethodName)) ∈ TB := tb6 11 rfl rfl
theorem w_1321 : (Jvm.Cond.instanceMethod ({ cls := "RightKeysModel", name := "expression", desc := "()V" } : Jvm.MethodName)) ∈ TB := tb6 13 rfl rfl
theorem w_1322 : (Jvm.Cond.code ({ cls := "RightKeysModel", name := "expression", desc := "()V" } : Jvm.MethodName) prog_9_method_32_code (3 : Nat) (Option.none : Option Jvm.ClassFile.FieldType)) ∈ TB := tb6 14 rfl rfl
theorem w_1323 : (Jvm.Cond.methodLink "RightKeysModel" (281 : Nat) ({ cls := "RightKeysModel", name := "unit", desc := "()V" } : Jvm.MethodName)) ∈ TB := tb6 15 rfl rfl
theorem w_1325 : (Jvm.Cond.instanceMethod ({ cls := "RightKeysModel", name := "unit", desc := "()V" } : Jvm.MethodName)) ∈ TB := tb6 17 rfl rfl
theorem w_1326 : (Jvm.Cond.code ({ cls := "RightKeysModel", name := "unit", desc := "()V" } : Jvm.MethodName) prog_9_method_33_code (1 : Nat) (Option.none : Option Jvm.ClassFile.FieldType)) ∈ TB := tb6 18 rfl rfl
theorem w_1327 : (Jvm.Cond.methodLink "RightKeysModel" (278 : Nat) ({ cls := "RightKeysModel", name := "emit", desc := "(II)V" } : Jvm.MethodName)) ∈ TB := tb6 19 rfl rfl
theorem w_1329 : (Jvm.Cond.instanceMethod ({ cls := "RightKeysModel", name := "emit", desc := "(II)V" } : Jvm.MethodName)) ∈ TB := tb6 21 rfl rfl
theorem w_1330 : (Jvm.Cond.code ({ cls := "RightKeysModel", name := "emit", desc := "(II)V" } : Jvm.MethodName) prog_9_method_30_code (3 : Nat) (Option.none : Option Jvm.ClassFile.FieldType)) ∈ TB := tb6 22 rfl rfl
theorem w_1331 : (Jvm.Cond.methodLink "RightKeysModel" (284 : Nat) ({ cls := "RightKeysModel", name := "comesOut", desc := "(Z)V" } : Jvm.MethodName)) ∈ TB := tb6 23 rfl rfl
theorem w_1333 : (Jvm.Cond.instanceMethod ({ cls := "RightKeysModel", name := "comesOut", desc := "(Z)V" } : Jvm.MethodName)) ∈ TB := tb6 25 rfl rfl
theorem w_1334 : (Jvm.Cond.code ({ cls := "RightKeysModel", name := "comesOut", desc := "(Z)V" } : Jvm.MethodName) prog_9_method_31_code (3 : Nat) (Option.none : Option Jvm.ClassFile.FieldType)) ∈ TB := tb6 26 rfl rfl
theorem w_1335 : (Jvm.Cond.methodLink "RightKeysModel" (272 : Nat) ({ cls := "RightKeysModel", name := "term", desc := "()V" } : Jvm.MethodName)) ∈ TB := tb6 27 rfl rfl
theorem w_1337 : (Jvm.Cond.instanceMethod ({ cls := "RightKeysModel", name := "term", desc := "()V" } : Jvm.MethodName)) ∈ TB := tb6 29 rfl rfl
theorem w_1338 : (Jvm.Cond.code ({ cls := "RightKeysModel", name := "term", desc := "()V" } : Jvm.MethodName) prog_9_method_29_code (1 : Nat) (Option.none : Option Jvm.ClassFile.FieldType)) ∈ TB := tb6 30 rfl rfl
theorem w_1339 : (Jvm.Cond.methodLink "RightKeysLaw" (31 : Nat) ({ cls := "RightKeysModel", name := "place", desc := "()I" } : Jvm.MethodName)) ∈ TB := tb6 31 rfl rfl
theorem w_1340 : (Jvm.Cond.instanceMethod ({ cls := "RightKeysModel", name := "place", desc := "()I" } : Jvm.MethodName)) ∈ TB := tb6 32 rfl rfl
theorem w_1341 : (Jvm.Cond.selects "RightKeysModel" ({ cls := "RightKeysModel", name := "place", desc := "()I" } : Jvm.MethodName) ({ cls := "RightKeysModel", name := "place", desc := "()I" } : Jvm.MethodName)) ∈ TB := tb6 33 rfl rfl
theorem w_1342 : (Jvm.Cond.code ({ cls := "RightKeysModel", name := "place", desc := "()I" } : Jvm.MethodName) prog_9_method_21_code (1 : Nat) (Option.some Jvm.ClassFile.FieldType.int)) ∈ TB := tb6 34 rfl rfl
theorem w_1343 : (Jvm.Cond.methodLink "RightKeysLaw" (36 : Nat) ({ cls := "RightKeysModel", name := "house", desc := "(II)I" } : Jvm.MethodName)) ∈ TB := tb6 35 rfl rfl
theorem w_1344 : (Jvm.Cond.instanceMethod ({ cls := "RightKeysModel", name := "house", desc := "(II)I" } : Jvm.MethodName)) ∈ TB := tb6 36 rfl rfl
theorem w_1345 : (Jvm.Cond.selects "RightKeysModel" ({ cls := "RightKeysModel", name := "house", desc := "(II)I" } : Jvm.MethodName) ({ cls := "RightKeysModel", name := "house", desc := "(II)I" } : Jvm.MethodName)) ∈ TB := tb6 37 rfl rfl
theorem w_1346 : (Jvm.Cond.code ({ cls := "RightKeysModel", name := "house", desc := "(II)I" } : Jvm.MethodName) prog_9_method_70_code (3 : Nat) (Option.some Jvm.ClassFile.FieldType.int)) ∈ TB := tb6 38 rfl rfl
theorem w_1347 : (Jvm.Cond.methodLink "RightKeysModel" (393 : Nat) ({ cls := "RightKeysModel", name := "isHouse", desc := "(I)Z" } : Jvm.MethodName)) ∈ TB := tb6 39 rfl rfl
theorem w_1349 : (Jvm.Cond.instanceMethod ({ cls := "RightKeysModel", name := "isHouse", desc := "(I)Z" } : Jvm.MethodName)) ∈ TB := tb6 41 rfl rfl
theorem w_1350 : (Jvm.Cond.code ({ cls := "RightKeysModel", name := "isHouse", desc := "(I)Z" } : Jvm.MethodName) prog_9_method_38_code (2 : Nat) (Option.some Jvm.ClassFile.FieldType.boolean)) ∈ TB := tb6 42 rfl rfl
theorem w_1351 : (Jvm.Cond.methodLink "RightKeysModel" (292 : Nat) ({ cls := "RightKeysModel", name := "in", desc := "(III)Z" } : Jvm.MethodName)) ∈ TB := tb6 43 rfl rfl
theorem w_1352 : (Jvm.Cond.static ({ cls := "RightKeysModel", name := "in", desc := "(III)Z" } : Jvm.MethodName)) ∈ TB := tb6 44 rfl rfl
theorem w_1353 : (Jvm.Cond.code ({ cls := "RightKeysModel", name := "in", desc := "(III)Z" } : Jvm.MethodName) prog_9_method_35_code (3 : Nat) (Option.some Jvm.ClassFile.FieldType.boolean)) ∈ TB := tb6 45 rfl rfl
theorem w_1354 : (Jvm.Cond.methodLink "RightKeysModel" (305 : Nat) ({ cls := "RightKeysModel", name := "copies", desc := "()V" } : Jvm.MethodName)) ∈ TB := tb6 46 rfl rfl
theorem w_1356 : (Jvm.Cond.instanceMethod ({ cls := "RightKeysModel", name := "copies", desc := "()V" } : Jvm.MethodName)) ∈ TB := tb6 48 rfl rfl
theorem w_1357 : (Jvm.Cond.code ({ cls := "RightKeysModel", name := "copies", desc := "()V" } : Jvm.MethodName) prog_9_method_42_code (2 : Nat) (Option.none : Option Jvm.ClassFile.FieldType)) ∈ TB := tb6 49 rfl rfl
theorem w_1358 : (Jvm.Cond.methodLink "RightKeysModel" (396 : Nat) ({ cls := "RightKeysModel", name := "rentOf", desc := "(I)I" } : Jvm.MethodName)) ∈ TB := tb6 50 rfl rfl
theorem w_1360 : (Jvm.Cond.instanceMethod ({ cls := "RightKeysModel", name := "rentOf", desc := "(I)I" } : Jvm.MethodName)) ∈ TB := tb6 52 rfl rfl
theorem w_1361 : (Jvm.Cond.code ({ cls := "RightKeysModel", name := "rentOf", desc := "(I)I" } : Jvm.MethodName) prog_9_method_55_code (2 : Nat) (Option.some Jvm.ClassFile.FieldType.int)) ∈ TB := tb6 53 rfl rfl
theorem w_1362 : (Jvm.Cond.methodLink "RightKeysModel" (321 : Nat) ({ cls := "RightKeysModel", name := "looks", desc := "(II)V" } : Jvm.MethodName)) ∈ TB := tb6 54 rfl rfl
theorem w_1364 : (Jvm.Cond.instanceMethod ({ cls := "RightKeysModel", name := "looks", desc := "(II)V" } : Jvm.MethodName)) ∈ TB := tb6 56 rfl rfl
theorem w_1365 : (Jvm.Cond.code ({ cls := "RightKeysModel", name := "looks", desc := "(II)V" } : Jvm.MethodName) prog_9_method_51_code (4 : Nat) (Option.none : Option Jvm.ClassFile.FieldType)) ∈ TB := tb6 57 rfl rfl
theorem w_1366 : (Jvm.Cond.methodLink "RightKeysModel" (312 : Nat) ({ cls := "RightKeysModel", name := "soBits", desc := "(I)I" } : Jvm.MethodName)) ∈ TB := tb6 58 rfl rfl
theorem w_1368 : (Jvm.Cond.instanceMethod ({ cls := "RightKeysModel", name := "soBits", desc := "(I)I" } : Jvm.MethodName)) ∈ TB := tb6 60 rfl rfl
theorem w_1369 : (Jvm.Cond.code ({ cls := "RightKeysModel", name := "soBits", desc := "(I)I" } : Jvm.MethodName) prog_9_method_48_code (4 : Nat) (Option.some Jvm.ClassFile.FieldType.int)) ∈ TB := tb6 61 rfl rfl
theorem w_1370 : (Jvm.Cond.methodLink "RightKeysModel" (315 : Nat) ({ cls := "RightKeysModel", name := "bits", desc := "(I)I" } : Jvm.MethodName)) ∈ TB := tb6 62 rfl rfl
theorem w_1371 : (Jvm.Cond.static ({ cls := "RightKeysModel", name := "bits", desc := "(I)I" } : Jvm.MethodName)) ∈ TB := tb6 63 rfl rfl
theorem w_1372 : (Jvm.Cond.code ({ cls := "RightKeysModel", name := "bits", desc := "(I)I" } : Jvm.MethodName) prog_9_method_37_code (3 : Nat) (Option.some Jvm.ClassFile.FieldType.int)) ∈ TB := tb6 64 rfl rfl
theorem w_1373 : (Jvm.Cond.methodLink "RightKeysModel" (330 : Nat) ({ cls := "RightKeysModel", name := "keysIn", desc := "(I)I" } : Jvm.MethodName)) ∈ TB := tb6 65 rfl rfl
theorem w_1375 : (Jvm.Cond.instanceMethod ({ cls := "RightKeysModel", name := "keysIn", desc := "(I)I" } : Jvm.MethodName)) ∈ TB := tb6 67 rfl rfl
theorem w_1376 : (Jvm.Cond.code ({ cls := "RightKeysModel", name := "keysIn", desc := "(I)I" } : Jvm.MethodName) prog_9_method_49_code (4 : Nat) (Option.some Jvm.ClassFile.FieldType.int)) ∈ TB := tb6 68 rfl rfl
theorem w_1377 : (Jvm.Cond.methodLink "RightKeysModel" (324 : Nat) ({ cls := "RightKeysModel", name := "lawTells", desc := "(II)I" } : Jvm.MethodName)) ∈ TB := tb6 69 rfl rfl
theorem w_1379 : (Jvm.Cond.instanceMethod ({ cls := "RightKeysModel", name := "lawTells", desc := "(II)I" } : Jvm.MethodName)) ∈ TB := tb6 71 rfl rfl
theorem w_1380 : (Jvm.Cond.code ({ cls := "RightKeysModel", name := "lawTells", desc := "(II)I" } : Jvm.MethodName) prog_9_method_52_code (7 : Nat) (Option.some Jvm.ClassFile.FieldType.int)) ∈ TB := tb6 72 rfl rfl
theorem w_1381 : (Jvm.Cond.methodLink "RightKeysModel" (318 : Nat) ({ cls := "RightKeysModel", name := "termOf", desc := "(II)I" } : Jvm.MethodName)) ∈ TB := tb6 73 rfl rfl
theorem w_1383 : (Jvm.Cond.instanceMethod ({ cls := "RightKeysModel", name := "termOf", desc := "(II)I" } : Jvm.MethodName)) ∈ TB := tb6 75 rfl rfl
theorem w_1384 : (Jvm.Cond.code ({ cls := "RightKeysModel", name := "termOf", desc := "(II)I" } : Jvm.MethodName) prog_9_method_34_code (8 : Nat) (Option.some Jvm.ClassFile.FieldType.int)) ∈ TB := tb6 76 rfl rfl
theorem w_1385 : (Jvm.Cond.methodLink "RightKeysModel" (327 : Nat) ({ cls := "RightKeysModel", name := "within", desc := "(III)I" } : Jvm.MethodName)) ∈ TB := tb6 77 rfl rfl
theorem w_1386 : (Jvm.Cond.static ({ cls := "RightKeysModel", name := "within", desc := "(III)I" } : Jvm.MethodName)) ∈ TB := tb6 78 rfl rfl
theorem w_1387 : (Jvm.Cond.code ({ cls := "RightKeysModel", name := "within", desc := "(III)I" } : Jvm.MethodName) prog_9_method_36_code (3 : Nat) (Option.some Jvm.ClassFile.FieldType.int)) ∈ TB := tb6 79 rfl rfl
theorem w_1388 : (Jvm.Cond.methodLink "RightKeysLaw" (40 : Nat) ({ cls := "RightKeysModel", name := "spare", desc := "(II)I" } : Jvm.MethodName)) ∈ TB := tb6 80 rfl rfl
theorem w_1389 : (Jvm.Cond.instanceMethod ({ cls := "RightKeysModel", name := "spare", desc := "(II)I" } : Jvm.MethodName)) ∈ TB := tb6 81 rfl rfl
theorem w_1390 : (Jvm.Cond.selects "RightKeysModel" ({ cls := "RightKeysModel", name := "spare", desc := "(II)I" } : Jvm.MethodName) ({ cls := "RightKeysModel", name := "spare", desc := "(II)I" } : Jvm.MethodName)) ∈ TB := tb6 82 rfl rfl
theorem w_1391 : (Jvm.Cond.code ({ cls := "RightKeysModel", name := "spare", desc := "(II)I" } : Jvm.MethodName) prog_9_method_71_code (3 : Nat) (Option.some Jvm.ClassFile.FieldType.int)) ∈ TB := tb6 83 rfl rfl
theorem w_1392 : (Jvm.Cond.methodLink "RightKeysModel" (399 : Nat) ({ cls := "RightKeysModel", name := "isSpare", desc := "(I)Z" } : Jvm.MethodName)) ∈ TB := tb6 84 rfl rfl
theorem w_1394 : (Jvm.Cond.instanceMethod ({ cls := "RightKeysModel", name := "isSpare", desc := "(I)Z" } : Jvm.MethodName)) ∈ TB := tb6 86 rfl rfl
theorem w_1395 : (Jvm.Cond.code ({ cls := "RightKeysModel", name := "isSpare", desc := "(I)Z" } : Jvm.MethodName) prog_9_method_39_code (2 : Nat) (Option.some Jvm.ClassFile.FieldType.boolean)) ∈ TB := tb6 87 rfl rfl
theorem w_1396 : (Jvm.Cond.methodLink "RightKeysLaw" (44 : Nat) ({ cls := "RightKeysModel", name := "lets", desc := "(II)I" } : Jvm.MethodName)) ∈ TB := tb6 88 rfl rfl
theorem w_1397 : (Jvm.Cond.instanceMethod ({ cls := "RightKeysModel", name := "lets", desc := "(II)I" } : Jvm.MethodName)) ∈ TB := tb6 89 rfl rfl
theorem w_1398 : (Jvm.Cond.selects "RightKeysModel" ({ cls := "RightKeysModel", name := "lets", desc := "(II)I" } : Jvm.MethodName) ({ cls := "RightKeysModel", name := "lets", desc := "(II)I" } : Jvm.MethodName)) ∈ TB := tb6 90 rfl rfl
theorem w_1399 : (Jvm.Cond.code ({ cls := "RightKeysModel", name := "lets", desc := "(II)I" } : Jvm.MethodName) prog_9_method_72_code (3 : Nat) (Option.some Jvm.ClassFile.FieldType.int)) ∈ TB := tb6 91 rfl rfl
theorem w_1400 : (Jvm.Cond.methodLink "RightKeysModel" (352 : Nat) ({ cls := "RightKeysModel", name := "doesLet", desc := "(II)Z" } : Jvm.MethodName)) ∈ TB := tb6 92 rfl rfl
theorem w_1402 : (Jvm.Cond.instanceMethod ({ cls := "RightKeysModel", name := "doesLet", desc := "(II)Z" } : Jvm.MethodName)) ∈ TB := tb6 94 rfl rfl
theorem w_1403 : (Jvm.Cond.code ({ cls := "RightKeysModel", name := "doesLet", desc := "(II)Z" } : Jvm.MethodName) prog_9_method_53_code (3 : Nat) (Option.some Jvm.ClassFile.FieldType.boolean)) ∈ TB := tb6 95 rfl rfl
theorem w_1404 : (Jvm.Cond.methodLink "RightKeysLaw" (49 : Nat) ({ cls := "RightKeysModel", name := "keep", desc := "(IZ)Z" } : Jvm.MethodName)) ∈ TB := tb6 96 rfl rfl
theorem w_1405 : (Jvm.Cond.instanceMethod ({ cls := "RightKeysModel", name := "keep", desc := "(IZ)Z" } : Jvm.MethodName)) ∈ TB := tb6 97 rfl rfl
theorem w_1406 : (Jvm.Cond.selects "RightKeysModel" ({ cls := "RightKeysModel", name := "keep", desc := "(IZ)Z" } : Jvm.MethodName) ({ cls := "RightKeysModel", name := "keep", desc := "(IZ)Z" } : Jvm.MethodName)) ∈ TB := tb6 98 rfl rfl
theorem w_1407 : (Jvm.Cond.code ({ cls := "RightKeysModel", name := "keep", desc := "(IZ)Z" } : Jvm.MethodName) prog_9_method_74_code (3 : Nat) (Option.some Jvm.ClassFile.FieldType.boolean)) ∈ TB := tb6 99 rfl rfl
theorem w_1408 : (Jvm.Cond.methodLink "RightKeysModel" (402 : Nat) ({ cls := "RightKeysModel", name := "records", desc := "()V" } : Jvm.MethodName)) ∈ TB := tb6 100 rfl rfl
theorem w_1410 : (Jvm.Cond.instanceMethod ({ cls := "RightKeysModel", name := "records", desc := "()V" } : Jvm.MethodName)) ∈ TB := tb6 102 rfl rfl
theorem w_1411 : (Jvm.Cond.code ({ cls := "RightKeysModel", name := "records", desc := "()V" } : Jvm.MethodName) prog_9_method_73_code (2 : Nat) (Option.none : Option Jvm.ClassFile.FieldType)) ∈ TB := tb6 103 rfl rfl
theorem w_1412 : (Jvm.Cond.methodLink "RightKeysLaw" (54 : Nat) ({ cls := "RightKeysModel", name := "pass", desc := "(II)Z" } : Jvm.MethodName)) ∈ TB := tb6 104 rfl rfl
theorem w_1413 : (Jvm.Cond.instanceMethod ({ cls := "RightKeysModel", name := "pass", desc := "(II)Z" } : Jvm.MethodName)) ∈ TB := tb6 105 rfl rfl
theorem w_1414 : (Jvm.Cond.selects "RightKeysModel" ({ cls := "RightKeysModel", name := "pass", desc := "(II)Z" } : Jvm.MethodName) ({ cls := "RightKeysModel", name := "pass", desc := "(II)Z" } : Jvm.MethodName)) ∈ TB := tb6 106 rfl rfl
theorem w_1415 : (Jvm.Cond.code ({ cls := "RightKeysModel", name := "pass", desc := "(II)Z" } : Jvm.MethodName) prog_9_method_75_code (4 : Nat) (Option.some Jvm.ClassFile.FieldType.boolean)) ∈ TB := tb6 107 rfl rfl
theorem w_1416 : (Jvm.Cond.methodLink "RightKeysLaw" (58 : Nat) ({ cls := "RightKeysModel", name := "change", desc := "(II)Z" } : Jvm.MethodName)) ∈ TB := tb6 108 rfl rfl
theorem w_1417 : (Jvm.Cond.instanceMethod ({ cls := "RightKeysModel", name := "change", desc := "(II)Z" } : Jvm.MethodName)) ∈ TB := tb6 109 rfl rfl
theorem w_1418 : (Jvm.Cond.selects "RightKeysModel" ({ cls := "RightKeysModel", name := "change", desc := "(II)Z" } : Jvm.MethodName) ({ cls := "RightKeysModel", name := "change", desc := "(II)Z" } : Jvm.MethodName)) ∈ TB := tb6 110 rfl rfl
theorem w_1419 : (Jvm.Cond.code ({ cls := "RightKeysModel", name := "change", desc := "(II)Z" } : Jvm.MethodName) prog_9_method_78_code (3 : Nat) (Option.some Jvm.ClassFile.FieldType.boolean)) ∈ TB := tb6 111 rfl rfl
theorem w_1420 : (Jvm.Cond.methodLink "RightKeysModel" (405 : Nat) ({ cls := "RightKeysModel", name := "canChange", desc := "(II)Z" } : Jvm.MethodName)) ∈ TB := tb6 112 rfl rfl
theorem w_1422 : (Jvm.Cond.instanceMethod ({ cls := "RightKeysModel", name := "canChange", desc := "(II)Z" } : Jvm.MethodName)) ∈ TB := tb6 114 rfl rfl
theorem w_1423 : (Jvm.Cond.code ({ cls := "RightKeysModel", name := "canChange", desc := "(II)Z" } : Jvm.MethodName) prog_9_method_77_code (3 : Nat) (Option.some Jvm.ClassFile.FieldType.boolean)) ∈ TB := tb6 115 rfl rfl
theorem w_1424 : (Jvm.Cond.methodLink "RightKeysModel" (408 : Nat) ({ cls := "RightKeysModel", name := "changes", desc := "(II)V" } : Jvm.MethodName)) ∈ TB := tb6 116 rfl rfl
theorem w_1426 : (Jvm.Cond.instanceMethod ({ cls := "RightKeysModel", name := "changes", desc := "(II)V" } : Jvm.MethodName)) ∈ TB := tb6 118 rfl rfl
theorem w_1427 : (Jvm.Cond.code ({ cls := "RightKeysModel", name := "changes", desc := "(II)V" } : Jvm.MethodName) prog_9_method_76_code (5 : Nat) (Option.none : Option Jvm.ClassFile.FieldType)) ∈ TB := tb6 119 rfl rfl
theorem w_1428 : (Jvm.Cond.methodLink "RightKeysLaw" (62 : Nat) ({ cls := "RightKeysModel", name := "hours", desc := "(I)I" } : Jvm.MethodName)) ∈ TB := tb6 120 rfl rfl
theorem w_1429 : (Jvm.Cond.instanceMethod ({ cls := "RightKeysModel", name := "hours", desc := "(I)I" } : Jvm.MethodName)) ∈ TB := tb6 121 rfl rfl
theorem w_1430 : (Jvm.Cond.selects "RightKeysModel" ({ cls := "RightKeysModel", name := "hours", desc := "(I)I" } : Jvm.MethodName) ({ cls := "RightKeysModel", name := "hours", desc := "(I)I" } : Jvm.MethodName)) ∈ TB := tb6 122 rfl rfl
theorem w_1431 : (Jvm.Cond.code ({ cls := "RightKeysModel", name := "hours", desc := "(I)I" } : Jvm.MethodName) prog_9_method_81_code (2 : Nat) (Option.some Jvm.ClassFile.FieldType.int)) ∈ TB := tb6 123 rfl rfl
theorem w_1432 : (Jvm.Cond.methodLink "RightKeysModel" (411 : Nat) ({ cls := "RightKeysModel", name := "isLong", desc := "(I)Z" } : Jvm.MethodName)) ∈ TB := tb6 124 rfl rfl
theorem w_1433 : (Jvm.Cond.static ({ cls := "RightKeysModel", name := "isLong", desc := "(I)Z" } : Jvm.MethodName)) ∈ TB := tb6 125 rfl rfl
theorem w_1434 : (Jvm.Cond.code ({ cls := "RightKeysModel", name := "isLong", desc := "(I)Z" } : Jvm.MethodName) prog_9_method_79_code (1 : Nat) (Option.some Jvm.ClassFile.FieldType.boolean)) ∈ TB := tb6 126 rfl rfl
theorem w_1435 : (Jvm.Cond.methodLink "RightKeysModel" (414 : Nat) ({ cls := "RightKeysModel", name := "goes", desc := "(I)V" } : Jvm.MethodName)) ∈ TB := tb6 127 rfl rfl
theorem w_1437 : (Jvm.Cond.instanceMethod ({ cls := "RightKeysModel", name := "goes", desc := "(I)V" } : Jvm.MethodName)) ∈ TB := tb6 129 rfl rfl
theorem w_1438 : (Jvm.Cond.code ({ cls := "RightKeysModel", name := "goes", desc := "(I)V" } : Jvm.MethodName) prog_9_method_69_code (3 : Nat) (Option.none : Option Jvm.ClassFile.FieldType)) ∈ TB := tb6 130 rfl rfl
theorem w_1439 : (Jvm.Cond.methodLink "RightKeysModel" (390 : Nat) ({ cls := "RightKeysModel", name := "hourGoes", desc := "()V" } : Jvm.MethodName)) ∈ TB := tb6 131 rfl rfl
theorem w_1441 : (Jvm.Cond.instanceMethod ({ cls := "RightKeysModel", name := "hourGoes", desc := "()V" } : Jvm.MethodName)) ∈ TB := tb6 133 rfl rfl
theorem w_1442 : (Jvm.Cond.code ({ cls := "RightKeysModel", name := "hourGoes", desc := "()V" } : Jvm.MethodName) prog_9_method_68_code (2 : Nat) (Option.none : Option Jvm.ClassFile.FieldType)) ∈ TB := tb6 134 rfl rfl
theorem w_1443 : (Jvm.Cond.methodLink "RightKeysModel" (375 : Nat) ({ cls := "RightKeysModel", name := "sparesGo", desc := "()V" } : Jvm.MethodName)) ∈ TB := tb6 135 rfl rfl
theorem w_1445 : (Jvm.Cond.instanceMethod ({ cls := "RightKeysModel", name := "sparesGo", desc := "()V" } : Jvm.MethodName)) ∈ TB := tb6 137 rfl rfl
theorem w_1446 : (Jvm.Cond.code ({ cls := "RightKeysModel", name := "sparesGo", desc := "()V" } : Jvm.MethodName) prog_9_method_64_code (2 : Nat) (Option.none : Option Jvm.ClassFile.FieldType)) ∈ TB := tb6 138 rfl rfl
theorem w_1447 : (Jvm.Cond.methodLink "RightKeysModel" (343 : Nat) ({ cls := "RightKeysModel", name := "rightOf", desc := "(I)I" } : Jvm.MethodName)) ∈ TB := tb6 139 rfl rfl
theorem w_1449 : (Jvm.Cond.instanceMethod ({ cls := "RightKeysModel", name := "rightOf", desc := "(I)I" } : Jvm.MethodName)) ∈ TB := tb6 141 rfl rfl
theorem w_1450 : (Jvm.Cond.code ({ cls := "RightKeysModel", name := "rightOf", desc := "(I)I" } : Jvm.MethodName) prog_9_method_46_code (2 : Nat) (Option.some Jvm.ClassFile.FieldType.int)) ∈ TB := tb6 142 rfl rfl
theorem w_1451 : (Jvm.Cond.methodLink "RightKeysModel" (378 : Nat) ({ cls := "RightKeysModel", name := "theyGo", desc := "(I)V" } : Jvm.MethodName)) ∈ TB := tb6 143 rfl rfl
theorem w_1453 : (Jvm.Cond.instanceMethod ({ cls := "RightKeysModel", name := "theyGo", desc := "(I)V" } : Jvm.MethodName)) ∈ TB := tb6 145 rfl rfl
theorem w_1454 : (Jvm.Cond.code ({ cls := "RightKeysModel", name := "theyGo", desc := "(I)V" } : Jvm.MethodName) prog_9_method_65_code (3 : Nat) (Option.none : Option Jvm.ClassFile.FieldType)) ∈ TB := tb6 146 rfl rfl
theorem w_1455 : (Jvm.Cond.methodLink "RightKeysModel" (381 : Nat) ({ cls := "RightKeysModel", name := "theyCome", desc := "(I)V" } : Jvm.MethodName)) ∈ TB := tb6 147 rfl rfl
theorem w_1457 : (Jvm.Cond.instanceMethod ({ cls := "RightKeysModel", name := "theyCome", desc := "(I)V" } : Jvm.MethodName)) ∈ TB := tb6 149 rfl rfl
theorem w_1458 : (Jvm.Cond.code ({ cls := "RightKeysModel", name := "theyCome", desc := "(I)V" } : Jvm.MethodName) prog_9_method_66_code (4 : Nat) (Option.none : Option Jvm.ClassFile.FieldType)) ∈ TB := tb6 150 rfl rfl
theorem w_1459 : (Jvm.Cond.methodLink "RightKeysModel" (365 : Nat) ({ cls := "RightKeysModel", name := "lotOf", desc := "(I)I" } : Jvm.MethodName)) ∈ TB := tb6 151 rfl rfl
theorem w_1461 : (Jvm.Cond.instanceMethod ({ cls := "RightKeysModel", name := "lotOf", desc := "(I)I" } : Jvm.MethodName)) ∈ TB := tb6 153 rfl rfl
theorem w_1462 : (Jvm.Cond.code ({ cls := "RightKeysModel", name := "lotOf", desc := "(I)I" } : Jvm.MethodName) prog_9_method_45_code (2 : Nat) (Option.some Jvm.ClassFile.FieldType.int)) ∈ TB := tb6 154 rfl rfl
theorem w_1463 : (Jvm.Cond.methodLink "RightKeysModel" (309 : Nat) ({ cls := "RightKeysModel", name := "mixed", desc := "(II)I" } : Jvm.MethodName)) ∈ TB := tb6 155 rfl rfl
theorem w_1464 : (Jvm.Cond.static ({ cls := "RightKeysModel", name := "mixed", desc := "(II)I" } : Jvm.MethodName)) ∈ TB := tb6 156 rfl rfl
theorem w_1465 : (Jvm.Cond.code ({ cls := "RightKeysModel", name := "mixed", desc := "(II)I" } : Jvm.MethodName) prog_9_method_44_code (3 : Nat) (Option.some Jvm.ClassFile.FieldType.int)) ∈ TB := tb6 157 rfl rfl
theorem w_1466 : (Jvm.Cond.constant "RightKeysModel" (308 : Nat) (1103515245 : Int32)) ∈ TB := tb6 158 rfl rfl
theorem w_1467 : (Jvm.Cond.methodLink "RightKeysModel" (368 : Nat) ({ cls := "RightKeysModel", name := "lateOf", desc := "(I)I" } : Jvm.MethodName)) ∈ TB := tb6 159 rfl rfl
theorem w_1469 : (Jvm.Cond.instanceMethod ({ cls := "RightKeysModel", name := "lateOf", desc := "(I)I" } : Jvm.MethodName)) ∈ TB := tb6 161 rfl rfl
theorem w_1470 : (Jvm.Cond.code ({ cls := "RightKeysModel", name := "lateOf", desc := "(I)I" } : Jvm.MethodName) prog_9_method_56_code (2 : Nat) (Option.some Jvm.ClassFile.FieldType.int)) ∈ TB := tb6 162 rfl rfl
theorem w_1471 : (Jvm.Cond.methodLink "RightKeysModel" (384 : Nat) ({ cls := "RightKeysModel", name := "lettersIn", desc := "()V" } : Jvm.MethodName)) ∈ TB := tb6 163 rfl rfl
theorem w_1473 : (Jvm.Cond.instanceMethod ({ cls := "RightKeysModel", name := "lettersIn", desc := "()V" } : Jvm.MethodName)) ∈ TB := tb6 165 rfl rfl
theorem w_1474 : (Jvm.Cond.code ({ cls := "RightKeysModel", name := "lettersIn", desc := "()V" } : Jvm.MethodName) prog_9_method_63_code (3 : Nat) (Option.none : Option Jvm.ClassFile.FieldType)) ∈ TB := tb6 166 rfl rfl
theorem w_1475 : (Jvm.Cond.methodLink "RightKeysModel" (362 : Nat) ({ cls := "RightKeysModel", name := "comesIn", desc := "(I)Z" } : Jvm.MethodName)) ∈ TB := tb6 167 rfl rfl
theorem w_1477 : (Jvm.Cond.instanceMethod ({ cls := "RightKeysModel", name := "comesIn", desc := "(I)Z" } : Jvm.MethodName)) ∈ TB := tb6 169 rfl rfl
theorem w_1478 : (Jvm.Cond.code ({ cls := "RightKeysModel", name := "comesIn", desc := "(I)Z" } : Jvm.MethodName) prog_9_method_62_code (3 : Nat) (Option.some Jvm.ClassFile.FieldType.boolean)) ∈ TB := tb6 170 rfl rfl
theorem w_1479 : (Jvm.Cond.methodLink "RightKeysModel" (359 : Nat) ({ cls := "RightKeysModel", name := "letterOf", desc := "(I)I" } : Jvm.MethodName)) ∈ TB := tb6 171 rfl rfl
theorem w_1481 : (Jvm.Cond.instanceMethod ({ cls := "RightKeysModel", name := "letterOf", desc := "(I)I" } : Jvm.MethodName)) ∈ TB := tb6 173 rfl rfl
theorem w_1482 : (Jvm.Cond.code ({ cls := "RightKeysModel", name := "letterOf", desc := "(I)I" } : Jvm.MethodName) prog_9_method_61_code (2 : Nat) (Option.some Jvm.ClassFile.FieldType.int)) ∈ TB := tb6 174 rfl rfl
theorem w_1483 : (Jvm.Cond.methodLink "RightKeysModel" (346 : Nat) ({ cls := "RightKeysModel", name := "canOwn", desc := "(I)Z" } : Jvm.MethodName)) ∈ TB := tb6 175 rfl rfl
theorem w_1485 : (Jvm.Cond.instanceMethod ({ cls := "RightKeysModel", name := "canOwn", desc := "(I)Z" } : Jvm.MethodName)) ∈ TB := tb6 177 rfl rfl
theorem w_1486 : (Jvm.Cond.code ({ cls := "RightKeysModel", name := "canOwn", desc := "(I)Z" } : Jvm.MethodName) prog_9_method_58_code (2 : Nat) (Option.some Jvm.ClassFile.FieldType.boolean)) ∈ TB := tb6 178 rfl rfl
theorem w_1487 : (Jvm.Cond.methodLink "RightKeysModel" (333 : Nat) ({ cls := "RightKeysModel", name := "isAlone", desc := "()Z" } : Jvm.MethodName)) ∈ TB := tb6 179 rfl rfl
theorem w_1489 : (Jvm.Cond.instanceMethod ({ cls := "RightKeysModel", name := "isAlone", desc := "()Z" } : Jvm.MethodName)) ∈ TB := tb6 181 rfl rfl
theorem w_1490 : (Jvm.Cond.code ({ cls := "RightKeysModel", name := "isAlone", desc := "()Z" } : Jvm.MethodName) prog_9_method_57_code (1 : Nat) (Option.some Jvm.ClassFile.FieldType.boolean)) ∈ TB := tb6 182 rfl rfl
theorem w_1491 : (Jvm.Cond.methodLink "RightKeysModel" (337 : Nat) ({ cls := "RightKeysModel", name := "hasSpare", desc := "(I)Z" } : Jvm.MethodName)) ∈ TB := tb6 183 rfl rfl
theorem w_1493 : (Jvm.Cond.instanceMethod ({ cls := "RightKeysModel", name := "hasSpare", desc := "(I)Z" } : Jvm.MethodName)) ∈ TB := tb6 185 rfl rfl
theorem w_1494 : (Jvm.Cond.code ({ cls := "RightKeysModel", name := "hasSpare", desc := "(I)Z" } : Jvm.MethodName) prog_9_method_50_code (3 : Nat) (Option.some Jvm.ClassFile.FieldType.boolean)) ∈ TB := tb6 186 rfl rfl
theorem w_1495 : (Jvm.Cond.methodLink "RightKeysModel" (349 : Nat) ({ cls := "RightKeysModel", name := "canLeft", desc := "(I)Z" } : Jvm.MethodName)) ∈ TB := tb6 187 rfl rfl
theorem w_1497 : (Jvm.Cond.instanceMethod ({ cls := "RightKeysModel", name := "canLeft", desc := "(I)Z" } : Jvm.MethodName)) ∈ TB := tb6 189 rfl rfl
theorem w_1498 : (Jvm.Cond.code ({ cls := "RightKeysModel", name := "canLeft", desc := "(I)Z" } : Jvm.MethodName) prog_9_method_59_code (2 : Nat) (Option.some Jvm.ClassFile.FieldType.boolean)) ∈ TB := tb6 190 rfl rfl
theorem w_1499 : (Jvm.Cond.methodLink "RightKeysModel" (340 : Nat) ({ cls := "RightKeysModel", name := "leftOf", desc := "(I)I" } : Jvm.MethodName)) ∈ TB := tb6 191 rfl rfl
theorem w_1501 : (Jvm.Cond.instanceMethod ({ cls := "RightKeysModel", name := "leftOf", desc := "(I)I" } : Jvm.MethodName)) ∈ TB := tb6 193 rfl rfl
theorem w_1502 : (Jvm.Cond.code ({ cls := "RightKeysModel", name := "leftOf", desc := "(I)I" } : Jvm.MethodName) prog_9_method_47_code (2 : Nat) (Option.some Jvm.ClassFile.FieldType.int)) ∈ TB := tb6 194 rfl rfl
theorem w_1503 : (Jvm.Cond.methodLink "RightKeysModel" (356 : Nat) ({ cls := "RightKeysModel", name := "canRight", desc := "(I)Z" } : Jvm.MethodName)) ∈ TB := tb6 195 rfl rfl
theorem w_1505 : (Jvm.Cond.instanceMethod ({ cls := "RightKeysModel", name := "canRight", desc := "(I)Z" } : Jvm.MethodName)) ∈ TB := tb6 197 rfl rfl
theorem w_1506 : (Jvm.Cond.code ({ cls := "RightKeysModel", name := "canRight", desc := "(I)Z" } : Jvm.MethodName) prog_9_method_60_code (2 : Nat) (Option.some Jvm.ClassFile.FieldType.boolean)) ∈ TB := tb6 198 rfl rfl
theorem w_1507 : (Jvm.Cond.methodLink "RightKeysModel" (387 : Nat) ({ cls := "RightKeysModel", name := "theyWait", desc := "()V" } : Jvm.MethodName)) ∈ TB := tb6 199 rfl rfl
theorem w_1509 : (Jvm.Cond.instanceMethod ({ cls := "RightKeysModel", name := "theyWait", desc := "()V" } : Jvm.MethodName)) ∈ TB := tb6 201 rfl rfl
theorem w_1510 : (Jvm.Cond.code ({ cls := "RightKeysModel", name := "theyWait", desc := "()V" } : Jvm.MethodName) prog_9_method_67_code (2 : Nat) (Option.none : Option Jvm.ClassFile.FieldType)) ∈ TB := tb6 202 rfl rfl
theorem w_1511 : (Jvm.Cond.methodLink "RightKeysModel" (371 : Nat) ({ cls := "RightKeysModel", name := "quarrelOf", desc := "(I)I" } : Jvm.MethodName)) ∈ TB := tb6 203 rfl rfl
theorem w_1513 : (Jvm.Cond.instanceMethod ({ cls := "RightKeysModel", name := "quarrelOf", desc := "(I)I" } : Jvm.MethodName)) ∈ TB := tb6 205 rfl rfl
theorem w_1514 : (Jvm.Cond.code ({ cls := "RightKeysModel", name := "quarrelOf", desc := "(I)I" } : Jvm.MethodName) prog_9_method_54_code (2 : Nat) (Option.some Jvm.ClassFile.FieldType.int)) ∈ TB := tb6 206 rfl rfl
theorem w_1515 : (Jvm.Cond.constant "RightKeysModel" (374 : Nat) (99999 : Int32)) ∈ TB := tb6 207 rfl rfl
theorem w_1516 : (Jvm.Cond.methodLink "RightKeysLaw" (67 : Nat) ({ cls := "RightKeysModel", name := "undo", desc := "()Z" } : Jvm.MethodName)) ∈ TB := tb6 208 rfl rfl
theorem w_1517 : (Jvm.Cond.instanceMethod ({ cls := "RightKeysModel", name := "undo", desc := "()Z" } : Jvm.MethodName)) ∈ TB := tb6 209 rfl rfl
theorem w_1518 : (Jvm.Cond.selects "RightKeysModel" ({ cls := "RightKeysModel", name := "undo", desc := "()Z" } : Jvm.MethodName) ({ cls := "RightKeysModel", name := "undo", desc := "()Z" } : Jvm.MethodName)) ∈ TB := tb6 210 rfl rfl
theorem w_1519 : (Jvm.Cond.code ({ cls := "RightKeysModel", name := "undo", desc := "()Z" } : Jvm.MethodName) prog_9_method_82_code (2 : Nat) (Option.some Jvm.ClassFile.FieldType.boolean)) ∈ TB := tb6 211 rfl rfl
theorem w_1520 : (Jvm.Cond.methodLink "RightKeysLaw" (71 : Nat) ({ cls := "RightKeysModel", name := "openers", desc := "(I)I" } : Jvm.MethodName)) ∈ TB := tb6 212 rfl rfl
theorem w_1521 : (Jvm.Cond.instanceMethod ({ cls := "RightKeysModel", name := "openers", desc := "(I)I" } : Jvm.MethodName)) ∈ TB := tb6 213 rfl rfl
theorem w_1522 : (Jvm.Cond.selects "RightKeysModel" ({ cls := "RightKeysModel", name := "openers", desc := "(I)I" } : Jvm.MethodName) ({ cls := "RightKeysModel", name := "openers", desc := "(I)I" } : Jvm.MethodName)) ∈ TB := tb6 214 rfl rfl
theorem w_1523 : (Jvm.Cond.code ({ cls := "RightKeysModel", name := "openers", desc := "(I)I" } : Jvm.MethodName) prog_9_method_83_code (3 : Nat) (Option.some Jvm.ClassFile.FieldType.int)) ∈ TB := tb6 215 rfl rfl
theorem w_1524 : (Jvm.Cond.methodLink "RightKeysLaw" (75 : Nat) ({ cls := "RightKeysModel", name := "stand", desc := "(II)I" } : Jvm.MethodName)) ∈ TB := tb6 216 rfl rfl
theorem w_1525 : (Jvm.Cond.instanceMethod ({ cls := "RightKeysModel", name := "stand", desc := "(II)I" } : Jvm.MethodName)) ∈ TB := tb6 217 rfl rfl
theorem w_1526 : (Jvm.Cond.selects "RightKeysModel" ({ cls := "RightKeysModel", name := "stand", desc := "(II)I" } : Jvm.MethodName) ({ cls := "RightKeysModel", name := "stand", desc := "(II)I" } : Jvm.MethodName)) ∈ TB := tb6 218 rfl rfl
theorem w_1527 : (Jvm.Cond.code ({ cls := "RightKeysModel", name := "stand", desc := "(II)I" } : Jvm.MethodName) prog_9_method_85_code (3 : Nat) (Option.some Jvm.ClassFile.FieldType.int)) ∈ TB := tb6 219 rfl rfl
theorem w_1528 : (Jvm.Cond.methodLink "RightKeysModel" (432 : Nat) ({ cls := "RightKeysModel", name := "isSome", desc := "(I)Z" } : Jvm.MethodName)) ∈ TB := tb6 220 rfl rfl
theorem w_1529 : (Jvm.Cond.static ({ cls := "RightKeysModel", name := "isSome", desc := "(I)Z" } : Jvm.MethodName)) ∈ TB := tb6 221 rfl rfl
theorem w_1530 : (Jvm.Cond.code ({ cls := "RightKeysModel", name := "isSome", desc := "(I)Z" } : Jvm.MethodName) prog_9_method_80_code (1 : Nat) (Option.some Jvm.ClassFile.FieldType.boolean)) ∈ TB := tb6 222 rfl rfl
theorem w_1531 : (Jvm.Cond.methodLink "RightKeysModel" (435 : Nat) ({ cls := "RightKeysModel", name := "copiesStill", desc := "()V" } : Jvm.MethodName)) ∈ TB := tb6 223 rfl rfl
theorem w_1533 : (Jvm.Cond.instanceMethod ({ cls := "RightKeysModel", name := "copiesStill", desc := "()V" } : Jvm.MethodName)) ∈ TB := tb6 225 rfl rfl
theorem w_1534 : (Jvm.Cond.code ({ cls := "RightKeysModel", name := "copiesStill", desc := "()V" } : Jvm.MethodName) prog_9_method_43_code (1 : Nat) (Option.none : Option Jvm.ClassFile.FieldType)) ∈ TB := tb6 226 rfl rfl
theorem w_1535 : (Jvm.Cond.methodLink "RightKeysModel" (438 : Nat) ({ cls := "RightKeysModel", name := "standsFor", desc := "(I)V" } : Jvm.MethodName)) ∈ TB := tb6 227 rfl rfl
theorem w_1537 : (Jvm.Cond.instanceMethod ({ cls := "RightKeysModel", name := "standsFor", desc := "(I)V" } : Jvm.MethodName)) ∈ TB := tb6 229 rfl rfl
theorem w_1538 : (Jvm.Cond.code ({ cls := "RightKeysModel", name := "standsFor", desc := "(I)V" } : Jvm.MethodName) prog_9_method_84_code (5 : Nat) (Option.none : Option Jvm.ClassFile.FieldType)) ∈ TB := tb6 230 rfl rfl
theorem w_1539 : (Jvm.Cond.methodLink "RightKeysLaw" (79 : Nat) ({ cls := "RightKeysModel", name := "firstStand", desc := "(I)I" } : Jvm.MethodName)) ∈ TB := tb6 231 rfl rfl
theorem w_1540 : (Jvm.Cond.instanceMethod ({ cls := "RightKeysModel", name := "firstStand", desc := "(I)I" } : Jvm.MethodName)) ∈ TB := tb6 232 rfl rfl
theorem w_1541 : (Jvm.Cond.selects "RightKeysModel" ({ cls := "RightKeysModel", name := "firstStand", desc := "(I)I" } : Jvm.MethodName) ({ cls := "RightKeysModel", name := "firstStand", desc := "(I)I" } : Jvm.MethodName)) ∈ TB := tb6 233 rfl rfl
theorem w_1542 : (Jvm.Cond.code ({ cls := "RightKeysModel", name := "firstStand", desc := "(I)I" } : Jvm.MethodName) prog_9_method_86_code (2 : Nat) (Option.some Jvm.ClassFile.FieldType.int)) ∈ TB := tb6 234 rfl rfl
theorem w_1543 : (Jvm.Cond.methodLink "RightKeysLaw" (83 : Nat) ({ cls := "RightKeysModel", name := "stay", desc := "(I)I" } : Jvm.MethodName)) ∈ TB := tb6 235 rfl rfl
theorem w_1544 : (Jvm.Cond.instanceMethod ({ cls := "RightKeysModel", name := "stay", desc := "(I)I" } : Jvm.MethodName)) ∈ TB := tb6 236 rfl rfl
theorem w_1545 : (Jvm.Cond.selects "RightKeysModel" ({ cls := "RightKeysModel", name := "stay", desc := "(I)I" } : Jvm.MethodName) ({ cls := "RightKeysModel", name := "stay", desc := "(I)I" } : Jvm.MethodName)) ∈ TB := tb6 237 rfl rfl
theorem w_1546 : (Jvm.Cond.code ({ cls := "RightKeysModel", name := "stay", desc := "(I)I" } : Jvm.MethodName) prog_9_method_89_code (5 : Nat) (Option.some Jvm.ClassFile.FieldType.int)) ∈ TB := tb6 238 rfl rfl
theorem w_1547 : (Jvm.Cond.methodLink "RightKeysModel" (441 : Nat) ({ cls := "RightKeysModel", name := "keptBits", desc := "()I" } : Jvm.MethodName)) ∈ TB := tb6 239 rfl rfl
theorem w_1549 : (Jvm.Cond.instanceMethod ({ cls := "RightKeysModel", name := "keptBits", desc := "()I" } : Jvm.MethodName)) ∈ TB := tb7 1 rfl rfl
theorem w_1550 : (Jvm.Cond.code ({ cls := "RightKeysModel", name := "keptBits", desc := "()I" } : Jvm.MethodName) prog_9_method_87_code (3 : Nat) (Option.some Jvm.ClassFile.FieldType.int)) ∈ TB := tb7 2 rfl rfl
theorem w_1551 : (Jvm.Cond.methodLink "RightKeysModel" (444 : Nat) ({ cls := "RightKeysModel", name := "isEnough", desc := "(I)Z" } : Jvm.MethodName)) ∈ TB := tb7 3 rfl rfl
theorem w_1553 : (Jvm.Cond.instanceMethod ({ cls := "RightKeysModel", name := "isEnough", desc := "(I)Z" } : Jvm.MethodName)) ∈ TB := tb7 5 rfl rfl
theorem w_1554 : (Jvm.Cond.code ({ cls := "RightKeysModel", name := "isEnough", desc := "(I)Z" } : Jvm.MethodName) prog_9_method_88_code (3 : Nat) (Option.some Jvm.ClassFile.FieldType.boolean)) ∈ TB := tb7 6 rfl rfl
theorem w_1555 : (Jvm.Cond.methodLink "RightKeysLaw" (87 : Nat) ({ cls := "RightKeysModel", name := "shift", desc := "(II)I" } : Jvm.MethodName)) ∈ TB := tb7 7 rfl rfl
theorem w_1556 : (Jvm.Cond.instanceMethod ({ cls := "RightKeysModel", name := "shift", desc := "(II)I" } : Jvm.MethodName)) ∈ TB := tb7 8 rfl rfl
theorem w_1557 : (Jvm.Cond.selects "RightKeysModel" ({ cls := "RightKeysModel", name := "shift", desc := "(II)I" } : Jvm.MethodName) ({ cls := "RightKeysModel", name := "shift", desc := "(II)I" } : Jvm.MethodName)) ∈ TB := tb7 9 rfl rfl
theorem w_1558 : (Jvm.Cond.code ({ cls := "RightKeysModel", name := "shift", desc := "(II)I" } : Jvm.MethodName) prog_9_method_91_code (6 : Nat) (Option.some Jvm.ClassFile.FieldType.int)) ∈ TB := tb7 10 rfl rfl
theorem w_1559 : (Jvm.Cond.methodLink "RightKeysModel" (447 : Nat) ({ cls := "RightKeysModel", name := "roundOff", desc := "(II)I" } : Jvm.MethodName)) ∈ TB := tb7 11 rfl rfl
theorem w_1560 : (Jvm.Cond.static ({ cls := "RightKeysModel", name := "roundOff", desc := "(II)I" } : Jvm.MethodName)) ∈ TB := tb7 12 rfl rfl
theorem w_1561 : (Jvm.Cond.code ({ cls := "RightKeysModel", name := "roundOff", desc := "(II)I" } : Jvm.MethodName) prog_9_method_90_code (3 : Nat) (Option.some Jvm.ClassFile.FieldType.int)) ∈ TB := tb7 13 rfl rfl
theorem w_1562 : (Jvm.Cond.methodLink "RightKeysLaw" (91 : Nat) ({ cls := "RightKeysModel", name := "changeBest", desc := "(I)I" } : Jvm.MethodName)) ∈ TB := tb7 14 rfl rfl
theorem w_1563 : (Jvm.Cond.instanceMethod ({ cls := "RightKeysModel", name := "changeBest", desc := "(I)I" } : Jvm.MethodName)) ∈ TB := tb7 15 rfl rfl
theorem w_1564 : (Jvm.Cond.selects "RightKeysModel" ({ cls := "RightKeysModel", name := "changeBest", desc := "(I)I" } : Jvm.MethodName) ({ cls := "RightKeysModel", name := "changeBest", desc := "(I)I" } : Jvm.MethodName)) ∈ TB := tb7 16 rfl rfl
theorem w_1565 : (Jvm.Cond.code ({ cls := "RightKeysModel", name := "changeBest", desc := "(I)I" } : Jvm.MethodName) prog_9_method_92_code (6 : Nat) (Option.some Jvm.ClassFile.FieldType.int)) ∈ TB := tb7 17 rfl rfl
theorem w_1566 : (Jvm.Cond.methodLink "RightKeysLaw" (95 : Nat) ({ cls := "RightKeysModel", name := "frees", desc := "(I)I" } : Jvm.MethodName)) ∈ TB := tb7 18 rfl rfl
theorem w_1567 : (Jvm.Cond.instanceMethod ({ cls := "RightKeysModel", name := "frees", desc := "(I)I" } : Jvm.MethodName)) ∈ TB := tb7 19 rfl rfl
theorem w_1568 : (Jvm.Cond.selects "RightKeysModel" ({ cls := "RightKeysModel", name := "frees", desc := "(I)I" } : Jvm.MethodName) ({ cls := "RightKeysModel", name := "frees", desc := "(I)I" } : Jvm.MethodName)) ∈ TB := tb7 20 rfl rfl
theorem w_1569 : (Jvm.Cond.code ({ cls := "RightKeysModel", name := "frees", desc := "(I)I" } : Jvm.MethodName) prog_9_method_93_code (3 : Nat) (Option.some Jvm.ClassFile.FieldType.int)) ∈ TB := tb7 21 rfl rfl
theorem w_1570 : (Jvm.Cond.methodLink "RightKeysLaw" (99 : Nat) ({ cls := "RightKeysModel", name := "worst", desc := "(II)I" } : Jvm.MethodName)) ∈ TB := tb7 22 rfl rfl
theorem w_1571 : (Jvm.Cond.instanceMethod ({ cls := "RightKeysModel", name := "worst", desc := "(II)I" } : Jvm.MethodName)) ∈ TB := tb7 23 rfl rfl
theorem w_1572 : (Jvm.Cond.selects "RightKeysModel" ({ cls := "RightKeysModel", name := "worst", desc := "(II)I" } : Jvm.MethodName) ({ cls := "RightKeysModel", name := "worst", desc := "(II)I" } : Jvm.MethodName)) ∈ TB := tb7 24 rfl rfl
theorem w_1573 : (Jvm.Cond.code ({ cls := "RightKeysModel", name := "worst", desc := "(II)I" } : Jvm.MethodName) prog_9_method_94_code (5 : Nat) (Option.some Jvm.ClassFile.FieldType.int)) ∈ TB := tb7 25 rfl rfl
theorem w_1574 : (Jvm.Cond.methodLink "RightKeysLaw" (103 : Nat) ({ cls := "RightKeysModel", name := "peak", desc := "(II)I" } : Jvm.MethodName)) ∈ TB := tb7 26 rfl rfl
theorem w_1575 : (Jvm.Cond.instanceMethod ({ cls := "RightKeysModel", name := "peak", desc := "(II)I" } : Jvm.MethodName)) ∈ TB := tb7 27 rfl rfl
theorem w_1576 : (Jvm.Cond.selects "RightKeysModel" ({ cls := "RightKeysModel", name := "peak", desc := "(II)I" } : Jvm.MethodName) ({ cls := "RightKeysModel", name := "peak", desc := "(II)I" } : Jvm.MethodName)) ∈ TB := tb7 28 rfl rfl
theorem w_1577 : (Jvm.Cond.code ({ cls := "RightKeysModel", name := "peak", desc := "(II)I" } : Jvm.MethodName) prog_9_method_95_code (3 : Nat) (Option.some Jvm.ClassFile.FieldType.int)) ∈ TB := tb7 29 rfl rfl
theorem w_1578 : (Jvm.Cond.methodLink "RightKeysLaw" (107 : Nat) ({ cls := "RightKeysModel", name := "gain", desc := "(I)I" } : Jvm.MethodName)) ∈ TB := tb7 30 rfl rfl
theorem w_1579 : (Jvm.Cond.instanceMethod ({ cls := "RightKeysModel", name := "gain", desc := "(I)I" } : Jvm.MethodName)) ∈ TB := tb7 31 rfl rfl
theorem w_1580 : (Jvm.Cond.selects "RightKeysModel" ({ cls := "RightKeysModel", name := "gain", desc := "(I)I" } : Jvm.MethodName) ({ cls := "RightKeysModel", name := "gain", desc := "(I)I" } : Jvm.MethodName)) ∈ TB := tb7 32 rfl rfl
theorem w_1581 : (Jvm.Cond.code ({ cls := "RightKeysModel", name := "gain", desc := "(I)I" } : Jvm.MethodName) prog_9_method_96_code (3 : Nat) (Option.some Jvm.ClassFile.FieldType.int)) ∈ TB := tb7 33 rfl rfl
theorem w_1582 : (Jvm.Cond.constant "RightKeysModel" (450 : Nat) (-100000 : Int32)) ∈ TB := tb7 34 rfl rfl
theorem w_1583 : (Jvm.Cond.methodLink "RightKeysLaw" (111 : Nat) ({ cls := "RightKeysModel", name := "by", desc := "(I)I" } : Jvm.MethodName)) ∈ TB := tb7 35 rfl rfl
theorem w_1584 : (Jvm.Cond.instanceMethod ({ cls := "RightKeysModel", name := "by", desc := "(I)I" } : Jvm.MethodName)) ∈ TB := tb7 36 rfl rfl
theorem w_1585 : (Jvm.Cond.selects "RightKeysModel" ({ cls := "RightKeysModel", name := "by", desc := "(I)I" } : Jvm.MethodName) ({ cls := "RightKeysModel", name := "by", desc := "(I)I" } : Jvm.MethodName)) ∈ TB := tb7 37 rfl rfl
theorem w_1586 : (Jvm.Cond.code ({ cls := "RightKeysModel", name := "by", desc := "(I)I" } : Jvm.MethodName) prog_9_method_97_code (2 : Nat) (Option.some Jvm.ClassFile.FieldType.int)) ∈ TB := tb7 38 rfl rfl
theorem w_1587 : (Jvm.Cond.methodLink "RightKeysLaw" (115 : Nat) ({ cls := "RightKeysModel", name := "days", desc := "(II)I" } : Jvm.MethodName)) ∈ TB := tb7 39 rfl rfl
theorem w_1588 : (Jvm.Cond.instanceMethod ({ cls := "RightKeysModel", name := "days", desc := "(II)I" } : Jvm.MethodName)) ∈ TB := tb7 40 rfl rfl
theorem w_1589 : (Jvm.Cond.selects "RightKeysModel" ({ cls := "RightKeysModel", name := "days", desc := "(II)I" } : Jvm.MethodName) ({ cls := "RightKeysModel", name := "days", desc := "(II)I" } : Jvm.MethodName)) ∈ TB := tb7 41 rfl rfl
theorem w_1590 : (Jvm.Cond.code ({ cls := "RightKeysModel", name := "days", desc := "(II)I" } : Jvm.MethodName) prog_9_method_99_code (3 : Nat) (Option.some Jvm.ClassFile.FieldType.int)) ∈ TB := tb7 42 rfl rfl
theorem w_1591 : (Jvm.Cond.methodLink "RightKeysModel" (451 : Nat) ({ cls := "RightKeysModel", name := "daysTo", desc := "(II)I" } : Jvm.MethodName)) ∈ TB := tb7 43 rfl rfl
theorem w_1593 : (Jvm.Cond.instanceMethod ({ cls := "RightKeysModel", name := "daysTo", desc := "(II)I" } : Jvm.MethodName)) ∈ TB := tb7 45 rfl rfl
theorem w_1594 : (Jvm.Cond.code ({ cls := "RightKeysModel", name := "daysTo", desc := "(II)I" } : Jvm.MethodName) prog_9_method_98_code (3 : Nat) (Option.some Jvm.ClassFile.FieldType.int)) ∈ TB := tb7 46 rfl rfl
theorem w_1595 : (Jvm.Cond.methodLink "RightKeysLaw" (119 : Nat) ({ cls := "RightKeysModel", name := "soonest", desc := "(II)I" } : Jvm.MethodName)) ∈ TB := tb7 47 rfl rfl
theorem w_1596 : (Jvm.Cond.instanceMethod ({ cls := "RightKeysModel", name := "soonest", desc := "(II)I" } : Jvm.MethodName)) ∈ TB := tb7 48 rfl rfl
theorem w_1597 : (Jvm.Cond.selects "RightKeysModel" ({ cls := "RightKeysModel", name := "soonest", desc := "(II)I" } : Jvm.MethodName) ({ cls := "RightKeysModel", name := "soonest", desc := "(II)I" } : Jvm.MethodName)) ∈ TB := tb7 49 rfl rfl
theorem w_1598 : (Jvm.Cond.code ({ cls := "RightKeysModel", name := "soonest", desc := "(II)I" } : Jvm.MethodName) prog_9_method_100_code (5 : Nat) (Option.some Jvm.ClassFile.FieldType.int)) ∈ TB := tb7 50 rfl rfl
theorem w_1599 : (Jvm.Cond.methodLink "RightKeysLaw" (123 : Nat) ({ cls := "RightKeysModel", name := "rents", desc := "(I)I" } : Jvm.MethodName)) ∈ TB := tb7 51 rfl rfl
theorem w_1600 : (Jvm.Cond.instanceMethod ({ cls := "RightKeysModel", name := "rents", desc := "(I)I" } : Jvm.MethodName)) ∈ TB := tb7 52 rfl rfl
theorem w_1601 : (Jvm.Cond.selects "RightKeysModel" ({ cls := "RightKeysModel", name := "rents", desc := "(I)I" } : Jvm.MethodName) ({ cls := "RightKeysModel", name := "rents", desc := "(I)I" } : Jvm.MethodName)) ∈ TB := tb7 53 rfl rfl
theorem w_1602 : (Jvm.Cond.code ({ cls := "RightKeysModel", name := "rents", desc := "(I)I" } : Jvm.MethodName) prog_9_method_102_code (2 : Nat) (Option.some Jvm.ClassFile.FieldType.int)) ∈ TB := tb7 54 rfl rfl
theorem w_1603 : (Jvm.Cond.methodLink "RightKeysModel" (454 : Nat) ({ cls := "RightKeysModel", name := "rentsAll", desc := "()I" } : Jvm.MethodName)) ∈ TB := tb7 55 rfl rfl
theorem w_1605 : (Jvm.Cond.instanceMethod ({ cls := "RightKeysModel", name := "rentsAll", desc := "()I" } : Jvm.MethodName)) ∈ TB := tb7 57 rfl rfl
theorem w_1606 : (Jvm.Cond.code ({ cls := "RightKeysModel", name := "rentsAll", desc := "()I" } : Jvm.MethodName) prog_9_method_101_code (3 : Nat) (Option.some Jvm.ClassFile.FieldType.int)) ∈ TB := tb7 58 rfl rfl
theorem w_1607 : (Jvm.Cond.methodLink "RightKeysLaw" (127 : Nat) ({ cls := "RightKeysModel", name := "shut", desc := "(I)I" } : Jvm.MethodName)) ∈ TB := tb7 59 rfl rfl
theorem w_1608 : (Jvm.Cond.instanceMethod ({ cls := "RightKeysModel", name := "shut", desc := "(I)I" } : Jvm.MethodName)) ∈ TB := tb7 60 rfl rfl
theorem w_1609 : (Jvm.Cond.selects "RightKeysModel" ({ cls := "RightKeysModel", name := "shut", desc := "(I)I" } : Jvm.MethodName) ({ cls := "RightKeysModel", name := "shut", desc := "(I)I" } : Jvm.MethodName)) ∈ TB := tb7 61 rfl rfl
theorem w_1610 : (Jvm.Cond.code ({ cls := "RightKeysModel", name := "shut", desc := "(I)I" } : Jvm.MethodName) prog_9_method_104_code (3 : Nat) (Option.some Jvm.ClassFile.FieldType.int)) ∈ TB := tb7 62 rfl rfl
theorem w_1611 : (Jvm.Cond.methodLink "RightKeysModel" (457 : Nat) ({ cls := "RightKeysModel", name := "stoodWithout", desc := "(I)I" } : Jvm.MethodName)) ∈ TB := tb7 63 rfl rfl
theorem w_1613 : (Jvm.Cond.instanceMethod ({ cls := "RightKeysModel", name := "stoodWithout", desc := "(I)I" } : Jvm.MethodName)) ∈ TB := tb7 65 rfl rfl
theorem w_1614 : (Jvm.Cond.code ({ cls := "RightKeysModel", name := "stoodWithout", desc := "(I)I" } : Jvm.MethodName) prog_9_method_103_code (2 : Nat) (Option.some Jvm.ClassFile.FieldType.int)) ∈ TB := tb7 66 rfl rfl
theorem w_1615 : (Jvm.Cond.methodLink "RightKeysLaw" (132 : Nat) ({ cls := "RightKeysModel", name := "then", desc := "(III)I" } : Jvm.MethodName)) ∈ TB := tb7 67 rfl rfl
theorem w_1616 : (Jvm.Cond.instanceMethod ({ cls := "RightKeysModel", name := "then", desc := "(III)I" } : Jvm.MethodName)) ∈ TB := tb7 68 rfl rfl
theorem w_1617 : (Jvm.Cond.selects "RightKeysModel" ({ cls := "RightKeysModel", name := "then", desc := "(III)I" } : Jvm.MethodName) ({ cls := "RightKeysModel", name := "then", desc := "(III)I" } : Jvm.MethodName)) ∈ TB := tb7 69 rfl rfl
theorem w_1618 : (Jvm.Cond.code ({ cls := "RightKeysModel", name := "then", desc := "(III)I" } : Jvm.MethodName) prog_9_method_105_code (4 : Nat) (Option.some Jvm.ClassFile.FieldType.int)) ∈ TB := tb7 70 rfl rfl
theorem w_1619 : (Jvm.Cond.methodLink "RightKeysLaw" (136 : Nat) ({ cls := "RightKeysModel", name := "year", desc := "(II)I" } : Jvm.MethodName)) ∈ TB := tb7 71 rfl rfl
theorem w_1620 : (Jvm.Cond.instanceMethod ({ cls := "RightKeysModel", name := "year", desc := "(II)I" } : Jvm.MethodName)) ∈ TB := tb7 72 rfl rfl
theorem w_1621 : (Jvm.Cond.selects "RightKeysModel" ({ cls := "RightKeysModel", name := "year", desc := "(II)I" } : Jvm.MethodName) ({ cls := "RightKeysModel", name := "year", desc := "(II)I" } : Jvm.MethodName)) ∈ TB := tb7 73 rfl rfl
theorem w_1622 : (Jvm.Cond.code ({ cls := "RightKeysModel", name := "year", desc := "(II)I" } : Jvm.MethodName) prog_9_method_106_code (5 : Nat) (Option.some Jvm.ClassFile.FieldType.int)) ∈ TB := tb7 74 rfl rfl
theorem w_1623 : (Jvm.Cond.methodLink "RightKeysLaw" (141 : Nat) ({ cls := "RightKeysModel", name := "tell", desc := "(IZ)I" } : Jvm.MethodName)) ∈ TB := tb7 75 rfl rfl
theorem w_1624 : (Jvm.Cond.instanceMethod ({ cls := "RightKeysModel", name := "tell", desc := "(IZ)I" } : Jvm.MethodName)) ∈ TB := tb7 76 rfl rfl
theorem w_1625 : (Jvm.Cond.selects "RightKeysModel" ({ cls := "RightKeysModel", name := "tell", desc := "(IZ)I" } : Jvm.MethodName) ({ cls := "RightKeysModel", name := "tell", desc := "(IZ)I" } : Jvm.MethodName)) ∈ TB := tb7 77 rfl rfl
theorem w_1626 : (Jvm.Cond.code ({ cls := "RightKeysModel", name := "tell", desc := "(IZ)I" } : Jvm.MethodName) prog_9_method_107_code (3 : Nat) (Option.some Jvm.ClassFile.FieldType.int)) ∈ TB := tb7 78 rfl rfl
theorem w_1627 : (Jvm.Cond.methodLink "RightKeysLaw" (145 : Nat) ({ cls := "RightKeysModel", name := "forget", desc := "()I" } : Jvm.MethodName)) ∈ TB := tb7 79 rfl rfl
theorem w_1628 : (Jvm.Cond.instanceMethod ({ cls := "RightKeysModel", name := "forget", desc := "()I" } : Jvm.MethodName)) ∈ TB := tb7 80 rfl rfl
theorem w_1629 : (Jvm.Cond.selects "RightKeysModel" ({ cls := "RightKeysModel", name := "forget", desc := "()I" } : Jvm.MethodName) ({ cls := "RightKeysModel", name := "forget", desc := "()I" } : Jvm.MethodName)) ∈ TB := tb7 81 rfl rfl
theorem w_1630 : (Jvm.Cond.code ({ cls := "RightKeysModel", name := "forget", desc := "()I" } : Jvm.MethodName) prog_9_method_108_code (2 : Nat) (Option.some Jvm.ClassFile.FieldType.int)) ∈ TB := tb7 82 rfl rfl
theorem w_1631 : (Jvm.Cond.methodLink "RightKeysLaw" (149 : Nat) ({ cls := "RightKeysModel", name := "overslept", desc := "(II)I" } : Jvm.MethodName)) ∈ TB := tb7 83 rfl rfl
theorem w_1632 : (Jvm.Cond.instanceMethod ({ cls := "RightKeysModel", name := "overslept", desc := "(II)I" } : Jvm.MethodName)) ∈ TB := tb7 84 rfl rfl
theorem w_1633 : (Jvm.Cond.selects "RightKeysModel" ({ cls := "RightKeysModel", name := "overslept", desc := "(II)I" } : Jvm.MethodName) ({ cls := "RightKeysModel", name := "overslept", desc := "(II)I" } : Jvm.MethodName)) ∈ TB := tb7 85 rfl rfl
theorem w_1634 : (Jvm.Cond.code ({ cls := "RightKeysModel", name := "overslept", desc := "(II)I" } : Jvm.MethodName) prog_9_method_110_code (4 : Nat) (Option.some Jvm.ClassFile.FieldType.int)) ∈ TB := tb7 86 rfl rfl
theorem w_1635 : (Jvm.Cond.methodLink "RightKeysModel" (460 : Nat) ({ cls := "RightKeysModel", name := "oversleptBits", desc := "(I)I" } : Jvm.MethodName)) ∈ TB := tb7 87 rfl rfl
theorem w_1637 : (Jvm.Cond.instanceMethod ({ cls := "RightKeysModel", name := "oversleptBits", desc := "(I)I" } : Jvm.MethodName)) ∈ TB := tb7 89 rfl rfl
theorem w_1638 : (Jvm.Cond.code ({ cls := "RightKeysModel", name := "oversleptBits", desc := "(I)I" } : Jvm.MethodName) prog_9_method_109_code (6 : Nat) (Option.some Jvm.ClassFile.FieldType.int)) ∈ TB := tb7 90 rfl rfl
theorem w_1639 : (Jvm.Cond.methodLink "RightKeysLaw" (153 : Nat) ({ cls := "RightKeysModel", name := "ask", desc := "(I)I" } : Jvm.MethodName)) ∈ TB := tb7 91 rfl rfl
theorem w_1640 : (Jvm.Cond.instanceMethod ({ cls := "RightKeysModel", name := "ask", desc := "(I)I" } : Jvm.MethodName)) ∈ TB := tb7 92 rfl rfl
theorem w_1641 : (Jvm.Cond.selects "RightKeysModel" ({ cls := "RightKeysModel", name := "ask", desc := "(I)I" } : Jvm.MethodName) ({ cls := "RightKeysModel", name := "ask", desc := "(I)I" } : Jvm.MethodName)) ∈ TB := tb7 93 rfl rfl
theorem w_1642 : (Jvm.Cond.code ({ cls := "RightKeysModel", name := "ask", desc := "(I)I" } : Jvm.MethodName) prog_9_method_111_code (8 : Nat) (Option.some Jvm.ClassFile.FieldType.int)) ∈ TB := tb7 94 rfl rfl
theorem w_1643 : (Jvm.Cond.methodLink "RightKeysLaw" (158 : Nat) ({ cls := "RightKeysModel", name := "hold", desc := "(I)Z" } : Jvm.MethodName)) ∈ TB := tb7 95 rfl rfl
theorem w_1644 : (Jvm.Cond.instanceMethod ({ cls := "RightKeysModel", name := "hold", desc := "(I)Z" } : Jvm.MethodName)) ∈ TB := tb7 96 rfl rfl
theorem w_1645 : (Jvm.Cond.selects "RightKeysModel" ({ cls := "RightKeysModel", name := "hold", desc := "(I)Z" } : Jvm.MethodName) ({ cls := "RightKeysModel", name := "hold", desc := "(I)Z" } : Jvm.MethodName)) ∈ TB := tb7 97 rfl rfl
theorem w_1646 : (Jvm.Cond.code ({ cls := "RightKeysModel", name := "hold", desc := "(I)Z" } : Jvm.MethodName) prog_9_method_112_code (3 : Nat) (Option.some Jvm.ClassFile.FieldType.boolean)) ∈ TB := tb7 98 rfl rfl
theorem w_1647 : (Jvm.Cond.methodLink "RightKeysLaw" (162 : Nat) ({ cls := "RightKeysModel", name := "restore", desc := "(I)Z" } : Jvm.MethodName)) ∈ TB := tb7 99 rfl rfl
theorem w_1648 : (Jvm.Cond.instanceMethod ({ cls := "RightKeysModel", name := "restore", desc := "(I)Z" } : Jvm.MethodName)) ∈ TB := tb7 100 rfl rfl
theorem w_1649 : (Jvm.Cond.selects "RightKeysModel" ({ cls := "RightKeysModel", name := "restore", desc := "(I)Z" } : Jvm.MethodName) ({ cls := "RightKeysModel", name := "restore", desc := "(I)Z" } : Jvm.MethodName)) ∈ TB := tb7 101 rfl rfl
theorem w_1650 : (Jvm.Cond.code ({ cls := "RightKeysModel", name := "restore", desc := "(I)Z" } : Jvm.MethodName) prog_9_method_113_code (3 : Nat) (Option.some Jvm.ClassFile.FieldType.boolean)) ∈ TB := tb7 102 rfl rfl
theorem w_1651 : (Jvm.Cond.methodLink "RightKeysLaw" (166 : Nat) ({ cls := "RightKeysModel", name := "count", desc := "(I)I" } : Jvm.MethodName)) ∈ TB := tb7 103 rfl rfl
theorem w_1652 : (Jvm.Cond.instanceMethod ({ cls := "RightKeysModel", name := "count", desc := "(I)I" } : Jvm.MethodName)) ∈ TB := tb7 104 rfl rfl
theorem w_1653 : (Jvm.Cond.selects "RightKeysModel" ({ cls := "RightKeysModel", name := "count", desc := "(I)I" } : Jvm.MethodName) ({ cls := "RightKeysModel", name := "count", desc := "(I)I" } : Jvm.MethodName)) ∈ TB := tb7 105 rfl rfl
theorem w_1654 : (Jvm.Cond.code ({ cls := "RightKeysModel", name := "count", desc := "(I)I" } : Jvm.MethodName) prog_9_method_114_code (4 : Nat) (Option.some Jvm.ClassFile.FieldType.int)) ∈ TB := tb7 106 rfl rfl
theorem w_1655 : (Jvm.Cond.fieldLink "java/lang/String" (15 : Nat) "java/lang/String" "coder" "B") ∈ TB := tb7 107 rfl rfl
theorem w_1656 : (Jvm.Cond.fieldLink "java/lang/String" (9 : Nat) "java/lang/String" "value" "[B") ∈ TB := tb7 108 rfl rfl
theorem tbX0 : ∀ w ∈ u_ws RX0 TX0 5, w ∈ TB := tb_fs [165, 167, 169, 171, 173] (by decide +kernel) (by decide +kernel)
theorem tbX1 : ∀ w ∈ u_ws RX1 TX1 7, w ∈ TB := tb_fs [276, 278, 280, 282, 284, 286, 288] (by decide +kernel) (by decide +kernel)
theorem tbX2 : ∀ w ∈ u_ws RX2 TX2 20, w ∈ TB := tb_fs [336, 338, 340, 342, 344, 346, 348, 350, 352, 354, 356, 358, 360, 362, 364, 366, 368, 370, 372, 374] (by decide +kernel) (by decide +kernel)
theorem tbX3 : ∀ w ∈ u_ws RX3 TX3 11, w ∈ TB := tb_fs [216, 218, 220, 222, 224, 226, 228, 230, 232, 234, 236] (by decide +kernel) (by decide +kernel)
theorem tbX4 : ∀ w ∈ u_ws RX4 TX4 4, w ∈ TB := tb_fs [259, 261, 263, 265] (by decide +kernel) (by decide +kernel)
theorem tbX5 : ∀ w ∈ u_ws RX5 TX5 5, w ∈ TB := tb_fs [393, 395, 397, 399, 401] (by decide +kernel) (by decide +kernel)
theorem tbX6 : ∀ w ∈ u_ws RX6 TX6 18, w ∈ TB := tb_fs [423, 425, 427, 429, 431, 433, 435, 437, 439, 441, 443, 445, 447, 449, 451, 453, 455, 457] (by decide +kernel) (by decide +kernel)
theorem tbX7 : ∀ w ∈ u_ws RX7 TX7 67, w ∈ TB := tb_fs [1097, 1099, 1101, 1103, 1105, 1107, 1109, 1111, 1113, 1115, 1117, 1119, 1121, 1123, 1125, 1127, 1129, 1131, 1133, 1135, 1137, 1139, 1141, 1143, 1145, 1147, 1149, 1151, 1153, 1155, 1157, 1159, 1161, 1163, 1165, 1167, 1169, 1171, 1173, 1175, 1177, 1179, 1181, 1183, 1185, 1187, 1189, 1191, 1193, 1195, 1197, 1199, 1201, 1203, 1205, 1207, 1209, 1211, 1213, 1215, 1217, 1219, 1221, 1223, 1225, 1227, 1229] (by decide +kernel) (by decide +kernel)
