/-! THE WORDS that the program needs, each at its place -/
theorem mGi_1 {w : Cond} (j : Nat) (h : tables_1_1[j]? = some w) (hg : goodWord w = true) : w ∈ mGt := by
  have h := List.mem_of_getElem? h
  exact List.mem_filter.mpr ⟨List.mem_append_right _ (List.mem_append_left _ h), hg⟩
theorem mGi_2 {w : Cond} (j : Nat) (h : tables_1_2[j]? = some w) (hg : goodWord w = true) : w ∈ mGt := by
  have h := List.mem_of_getElem? h
  exact List.mem_filter.mpr ⟨List.mem_append_right _ (List.mem_append_right _ (List.mem_append_left _ h)), hg⟩
theorem mGi_3 {w : Cond} (j : Nat) (h : tables_1_3[j]? = some w) (hg : goodWord w = true) : w ∈ mGt := by
  have h := List.mem_of_getElem? h
  exact List.mem_filter.mpr ⟨List.mem_append_right _ (List.mem_append_right _ (List.mem_append_right _ (List.mem_append_left _ h))), hg⟩
theorem mGi_4 {w : Cond} (j : Nat) (h : tables_1_4[j]? = some w) (hg : goodWord w = true) : w ∈ mGt := by
  have h := List.mem_of_getElem? h
  exact List.mem_filter.mpr ⟨List.mem_append_right _ (List.mem_append_right _ (List.mem_append_right _ (List.mem_append_right _ (List.mem_append_left _ h)))), hg⟩
theorem mGi_5 {w : Cond} (j : Nat) (h : tables_1_5[j]? = some w) (hg : goodWord w = true) : w ∈ mGt := by
  have h := List.mem_of_getElem? h
  exact List.mem_filter.mpr ⟨List.mem_append_right _ (List.mem_append_right _ (List.mem_append_right _ (List.mem_append_right _ (List.mem_append_right _ (List.mem_append_left _ h))))), hg⟩
theorem mGi_6 {w : Cond} (j : Nat) (h : tables_1_6[j]? = some w) (hg : goodWord w = true) : w ∈ mGt := by
  have h := List.mem_of_getElem? h
  exact List.mem_filter.mpr ⟨List.mem_append_right _ (List.mem_append_right _ (List.mem_append_right _ (List.mem_append_right _ (List.mem_append_right _ (List.mem_append_right _ (List.mem_append_left _ h)))))), hg⟩
theorem mGi_7 {w : Cond} (j : Nat) (h : tables_1_7[j]? = some w) (hg : goodWord w = true) : w ∈ mGt := by
  have h := List.mem_of_getElem? h
  exact List.mem_filter.mpr ⟨List.mem_append_right _ (List.mem_append_right _ (List.mem_append_right _ (List.mem_append_right _ (List.mem_append_right _ (List.mem_append_right _ (List.mem_append_right _ (List.mem_append_left _ h))))))), hg⟩
theorem mGi_8 {w : Cond} (j : Nat) (h : tables_1_8[j]? = some w) (hg : goodWord w = true) : w ∈ mGt := by
  have h := List.mem_of_getElem? h
  exact List.mem_filter.mpr ⟨List.mem_append_right _ (List.mem_append_right _ (List.mem_append_right _ (List.mem_append_right _ (List.mem_append_right _ (List.mem_append_right _ (List.mem_append_right _ (List.mem_append_right _ (List.mem_append_left _ h)))))))), hg⟩
theorem mGi_9 {w : Cond} (j : Nat) (h : tables_1_9[j]? = some w) (hg : goodWord w = true) : w ∈ mGt := by
  have h := List.mem_of_getElem? h
  exact List.mem_filter.mpr ⟨List.mem_append_right _ (List.mem_append_right _ (List.mem_append_right _ (List.mem_append_right _ (List.mem_append_right _ (List.mem_append_right _ (List.mem_append_right _ (List.mem_append_right _ (List.mem_append_right _ (h))))))))), hg⟩
theorem mGs_1 {y : MethodName} (n j : Nat) (h : lw_privs_1[j]? = some (y, n)) : Cond.selects y.cls y y ∈ mGt := by
  have h := List.mem_of_getElem? h
  exact List.mem_filter.mpr ⟨List.mem_append_left _ (List.mem_map.mpr ⟨(y, n), List.mem_append_left _ h, rfl⟩), rfl⟩
theorem mGs_2 {y : MethodName} (n j : Nat) (h : lw_privs_2[j]? = some (y, n)) : Cond.selects y.cls y y ∈ mGt := by
  have h := List.mem_of_getElem? h
  exact List.mem_filter.mpr ⟨List.mem_append_left _ (List.mem_map.mpr ⟨(y, n), List.mem_append_right _ (List.mem_append_left _ h), rfl⟩), rfl⟩
theorem mGs_3 {y : MethodName} (n j : Nat) (h : lw_privs_3[j]? = some (y, n)) : Cond.selects y.cls y y ∈ mGt := by
  have h := List.mem_of_getElem? h
  exact List.mem_filter.mpr ⟨List.mem_append_left _ (List.mem_map.mpr ⟨(y, n), List.mem_append_right _ (List.mem_append_right _ (List.mem_append_left _ h)), rfl⟩), rfl⟩
theorem mGs_4 {y : MethodName} (n j : Nat) (h : lw_privs_4[j]? = some (y, n)) : Cond.selects y.cls y y ∈ mGt := by
  have h := List.mem_of_getElem? h
  exact List.mem_filter.mpr ⟨List.mem_append_left _ (List.mem_map.mpr ⟨(y, n), List.mem_append_right _ (List.mem_append_right _ (List.mem_append_right _ (List.mem_append_left _ h))), rfl⟩), rfl⟩
theorem mGs_5 {y : MethodName} (n j : Nat) (h : lw_privs_5[j]? = some (y, n)) : Cond.selects y.cls y y ∈ mGt := by
  have h := List.mem_of_getElem? h
  exact List.mem_filter.mpr ⟨List.mem_append_left _ (List.mem_map.mpr ⟨(y, n), List.mem_append_right _ (List.mem_append_right _ (List.mem_append_right _ (List.mem_append_right _ (List.mem_append_left _ h)))), rfl⟩), rfl⟩
theorem mGs_6 {y : MethodName} (n j : Nat) (h : lw_privs_6[j]? = some (y, n)) : Cond.selects y.cls y y ∈ mGt := by
  have h := List.mem_of_getElem? h
  exact List.mem_filter.mpr ⟨List.mem_append_left _ (List.mem_map.mpr ⟨(y, n), List.mem_append_right _ (List.mem_append_right _ (List.mem_append_right _ (List.mem_append_right _ (List.mem_append_right _ (List.mem_append_left _ h))))), rfl⟩), rfl⟩
theorem mGs_7 {y : MethodName} (n j : Nat) (h : lw_privs_7[j]? = some (y, n)) : Cond.selects y.cls y y ∈ mGt := by
  have h := List.mem_of_getElem? h
  exact List.mem_filter.mpr ⟨List.mem_append_left _ (List.mem_map.mpr ⟨(y, n), List.mem_append_right _ (List.mem_append_right _ (List.mem_append_right _ (List.mem_append_right _ (List.mem_append_right _ (List.mem_append_right _ (List.mem_append_left _ h)))))), rfl⟩), rfl⟩
theorem mGs_8 {y : MethodName} (n j : Nat) (h : lw_privs_8[j]? = some (y, n)) : Cond.selects y.cls y y ∈ mGt := by
  have h := List.mem_of_getElem? h
  exact List.mem_filter.mpr ⟨List.mem_append_left _ (List.mem_map.mpr ⟨(y, n), List.mem_append_right _ (List.mem_append_right _ (List.mem_append_right _ (List.mem_append_right _ (List.mem_append_right _ (List.mem_append_right _ (List.mem_append_right _ (h))))))), rfl⟩), rfl⟩
theorem w_0 : Cond.selects "MoonDials$Laws" ⟨"MoonDials$Laws", "putShort", "(III)V"⟩ ⟨"MoonDials$Laws", "putShort", "(III)V"⟩ ∈ mGt := mGs_1 (y := ⟨"MoonDials$Laws", "putShort", "(III)V"⟩) 7 0 rfl
theorem w_1 : Cond.selects "MoonDials$Tokens" ⟨"MoonDials$Tokens", "kindAt", "(LMoonDials$Tape;II)I"⟩ ⟨"MoonDials$Tokens", "kindAt", "(LMoonDials$Tape;II)I"⟩ ∈ mGt := mGs_1 (y := ⟨"MoonDials$Tokens", "kindAt", "(LMoonDials$Tape;II)I"⟩) 5 1 rfl
theorem w_2 : Cond.selects "MoonDials$Tokens" ⟨"MoonDials$Tokens", "wordKind", "(J)I"⟩ ⟨"MoonDials$Tokens", "wordKind", "(J)I"⟩ ∈ mGt := mGs_1 (y := ⟨"MoonDials$Tokens", "wordKind", "(J)I"⟩) 5 2 rfl
theorem w_3 : Cond.selects "MoonDials$Reader" ⟨"MoonDials$Reader", "readTell", "()V"⟩ ⟨"MoonDials$Reader", "readTell", "()V"⟩ ∈ mGt := mGs_1 (y := ⟨"MoonDials$Reader", "readTell", "()V"⟩) 12 3 rfl
theorem w_4 : Cond.selects "MoonDials$Reader" ⟨"MoonDials$Reader", "readHours", "()V"⟩ ⟨"MoonDials$Reader", "readHours", "()V"⟩ ∈ mGt := mGs_1 (y := ⟨"MoonDials$Reader", "readHours", "()V"⟩) 12 4 rfl
theorem w_5 : Cond.selects "MoonDials$Reader" ⟨"MoonDials$Reader", "take", "(I)Z"⟩ ⟨"MoonDials$Reader", "take", "(I)Z"⟩ ∈ mGt := mGs_1 (y := ⟨"MoonDials$Reader", "take", "(I)Z"⟩) 12 5 rfl
theorem w_6 : Cond.selects "MoonDials$Reader" ⟨"MoonDials$Reader", "failForm", "(I)V"⟩ ⟨"MoonDials$Reader", "failForm", "(I)V"⟩ ∈ mGt := mGs_1 (y := ⟨"MoonDials$Reader", "failForm", "(I)V"⟩) 12 6 rfl
theorem w_7 : Cond.selects "MoonDials$Reader" ⟨"MoonDials$Reader", "takeInt", "(II)I"⟩ ⟨"MoonDials$Reader", "takeInt", "(II)I"⟩ ∈ mGt := mGs_1 (y := ⟨"MoonDials$Reader", "takeInt", "(II)I"⟩) 12 7 rfl
theorem w_8 : Cond.selects "MoonDials$Reader" ⟨"MoonDials$Reader", "failSense", "(I)V"⟩ ⟨"MoonDials$Reader", "failSense", "(I)V"⟩ ∈ mGt := mGs_1 (y := ⟨"MoonDials$Reader", "failSense", "(I)V"⟩) 12 8 rfl
theorem w_9 : Cond.selects "MoonDials$Reader" ⟨"MoonDials$Reader", "readDial", "()V"⟩ ⟨"MoonDials$Reader", "readDial", "()V"⟩ ∈ mGt := mGs_1 (y := ⟨"MoonDials$Reader", "readDial", "()V"⟩) 12 9 rfl
theorem w_10 : Cond.selects "MoonDials$Reader" ⟨"MoonDials$Reader", "takeNewName", "()J"⟩ ⟨"MoonDials$Reader", "takeNewName", "()J"⟩ ∈ mGt := mGs_1 (y := ⟨"MoonDials$Reader", "takeNewName", "()J"⟩) 12 10 rfl
theorem w_11 : Cond.selects "MoonDials$Reader" ⟨"MoonDials$Reader", "readGoer", "()V"⟩ ⟨"MoonDials$Reader", "readGoer", "()V"⟩ ∈ mGt := mGs_1 (y := ⟨"MoonDials$Reader", "readGoer", "()V"⟩) 12 11 rfl
theorem w_12 : Cond.selects "MoonDials$Reader" ⟨"MoonDials$Reader", "takeDialName", "()I"⟩ ⟨"MoonDials$Reader", "takeDialName", "()I"⟩ ∈ mGt := mGs_1 (y := ⟨"MoonDials$Reader", "takeDialName", "()I"⟩) 12 12 rfl
theorem w_13 : Cond.selects "MoonDials$Reader" ⟨"MoonDials$Reader", "readLaw", "(I)V"⟩ ⟨"MoonDials$Reader", "readLaw", "(I)V"⟩ ∈ mGt := mGs_1 (y := ⟨"MoonDials$Reader", "readLaw", "(I)V"⟩) 12 13 rfl
theorem w_14 : Cond.selects "MoonDials$Reader" ⟨"MoonDials$Reader", "readSum", "()V"⟩ ⟨"MoonDials$Reader", "readSum", "()V"⟩ ∈ mGt := mGs_1 (y := ⟨"MoonDials$Reader", "readSum", "()V"⟩) 12 14 rfl
theorem w_15 : Cond.selects "MoonDials$Reader" ⟨"MoonDials$Reader", "readUnit", "()Z"⟩ ⟨"MoonDials$Reader", "readUnit", "()Z"⟩ ∈ mGt := mGs_1 (y := ⟨"MoonDials$Reader", "readUnit", "()Z"⟩) 12 15 rfl
theorem w_16 : Cond.selects "MoonDials$Reader" ⟨"MoonDials$Reader", "letWait", "(I)V"⟩ ⟨"MoonDials$Reader", "letWait", "(I)V"⟩ ∈ mGt := mGs_2 (y := ⟨"MoonDials$Reader", "letWait", "(I)V"⟩) 12 0 rfl
theorem w_17 : Cond.selects "MoonDials$Reader" ⟨"MoonDials$Reader", "readSign", "()Z"⟩ ⟨"MoonDials$Reader", "readSign", "()Z"⟩ ∈ mGt := mGs_2 (y := ⟨"MoonDials$Reader", "readSign", "()Z"⟩) 12 1 rfl
theorem w_18 : Cond.selects "MoonDials$Reader" ⟨"MoonDials$Reader", "putWaiting", "(I)V"⟩ ⟨"MoonDials$Reader", "putWaiting", "(I)V"⟩ ∈ mGt := mGs_2 (y := ⟨"MoonDials$Reader", "putWaiting", "(I)V"⟩) 12 2 rfl
theorem w_19 : Cond.selects "MoonDials" ⟨"MoonDials", "isDial", "(I)Z"⟩ ⟨"MoonDials", "isDial", "(I)Z"⟩ ∈ mGt := mGs_2 (y := ⟨"MoonDials", "isDial", "(I)Z"⟩) 15 3 rfl
theorem w_20 : Cond.selects "MoonDials$Walk" ⟨"MoonDials$Walk", "setVars", "(II)V"⟩ ⟨"MoonDials$Walk", "setVars", "(II)V"⟩ ∈ mGt := mGs_2 (y := ⟨"MoonDials$Walk", "setVars", "(II)V"⟩) 8 4 rfl
theorem w_21 : Cond.selects "MoonDials$Walk" ⟨"MoonDials$Walk", "which", "(I)I"⟩ ⟨"MoonDials$Walk", "which", "(I)I"⟩ ∈ mGt := mGs_2 (y := ⟨"MoonDials$Walk", "which", "(I)I"⟩) 8 5 rfl
theorem w_22 : Cond.selects "MoonDials" ⟨"MoonDials", "isHour", "(I)Z"⟩ ⟨"MoonDials", "isHour", "(I)Z"⟩ ∈ mGt := mGs_2 (y := ⟨"MoonDials", "isHour", "(I)Z"⟩) 15 6 rfl
theorem w_23 : Cond.selects "MoonDials" ⟨"MoonDials", "isGoer", "(I)Z"⟩ ⟨"MoonDials", "isGoer", "(I)Z"⟩ ∈ mGt := mGs_2 (y := ⟨"MoonDials", "isGoer", "(I)Z"⟩) 15 7 rfl
theorem w_24 : Cond.selects "MoonDials$Walk" ⟨"MoonDials$Walk", "dialOf", "(I)I"⟩ ⟨"MoonDials$Walk", "dialOf", "(I)I"⟩ ∈ mGt := mGs_2 (y := ⟨"MoonDials$Walk", "dialOf", "(I)I"⟩) 8 8 rfl
theorem w_25 : Cond.selects "MoonDials" ⟨"MoonDials", "areTwo", "(II)Z"⟩ ⟨"MoonDials", "areTwo", "(II)Z"⟩ ∈ mGt := mGs_2 (y := ⟨"MoonDials", "areTwo", "(II)Z"⟩) 15 9 rfl
theorem w_26 : Cond.selects "MoonDials" ⟨"MoonDials", "seeThisNight", "()V"⟩ ⟨"MoonDials", "seeThisNight", "()V"⟩ ∈ mGt := mGs_2 (y := ⟨"MoonDials", "seeThisNight", "()V"⟩) 15 10 rfl
theorem w_27 : Cond.selects "MoonDials$Walk" ⟨"MoonDials$Walk", "arc", "(II)I"⟩ ⟨"MoonDials$Walk", "arc", "(II)I"⟩ ∈ mGt := mGs_2 (y := ⟨"MoonDials$Walk", "arc", "(II)I"⟩) 8 11 rfl
theorem w_28 : Cond.selects "MoonDials" ⟨"MoonDials", "keepForUndo", "()V"⟩ ⟨"MoonDials", "keepForUndo", "()V"⟩ ∈ mGt := mGs_2 (y := ⟨"MoonDials", "keepForUndo", "()V"⟩) 15 12 rfl
theorem w_29 : Cond.selects "MoonDials" ⟨"MoonDials", "isSet", "(I)Z"⟩ ⟨"MoonDials", "isSet", "(I)Z"⟩ ∈ mGt := mGs_2 (y := ⟨"MoonDials", "isSet", "(I)Z"⟩) 15 13 rfl
theorem w_30 : Cond.selects "MoonDials$Meetings" ⟨"MoonDials$Meetings", "hoursOfAll", "(I)I"⟩ ⟨"MoonDials$Meetings", "hoursOfAll", "(I)I"⟩ ∈ mGt := mGs_2 (y := ⟨"MoonDials$Meetings", "hoursOfAll", "(I)I"⟩) 4 14 rfl
theorem w_31 : Cond.selects "MoonDials" ⟨"MoonDials", "outBehind", "(II)I"⟩ ⟨"MoonDials", "outBehind", "(II)I"⟩ ∈ mGt := mGs_2 (y := ⟨"MoonDials", "outBehind", "(II)I"⟩) 15 15 rfl
theorem w_32 : Cond.selects "MoonDials" ⟨"MoonDials", "allOutAsNow", "(I)Z"⟩ ⟨"MoonDials", "allOutAsNow", "(I)Z"⟩ ∈ mGt := mGs_3 (y := ⟨"MoonDials", "allOutAsNow", "(I)Z"⟩) 15 0 rfl
theorem w_33 : Cond.selects "MoonDials$Meetings" ⟨"MoonDials$Meetings", "meetsWith", "([IIIII)Z"⟩ ⟨"MoonDials$Meetings", "meetsWith", "([IIIII)Z"⟩ ∈ mGt := mGs_3 (y := ⟨"MoonDials$Meetings", "meetsWith", "([IIIII)Z"⟩) 4 1 rfl
theorem w_34 : Cond.selects "MoonDials$Meetings" ⟨"MoonDials$Meetings", "firstTwoSeen", "()I"⟩ ⟨"MoonDials$Meetings", "firstTwoSeen", "()I"⟩ ∈ mGt := mGs_3 (y := ⟨"MoonDials$Meetings", "firstTwoSeen", "()I"⟩) 4 2 rfl
theorem w_35 : Cond.selects "MoonDials$Tallies" ⟨"MoonDials$Tallies", "addShared", "(I)V"⟩ ⟨"MoonDials$Tallies", "addShared", "(I)V"⟩ ∈ mGt := mGs_3 (y := ⟨"MoonDials$Tallies", "addShared", "(I)V"⟩) 7 3 rfl
theorem w_36 : Cond.selects "MoonDials$Tallies" ⟨"MoonDials$Tallies", "isPeaceWithout", "(I)Z"⟩ ⟨"MoonDials$Tallies", "isPeaceWithout", "(I)Z"⟩ ∈ mGt := mGs_3 (y := ⟨"MoonDials$Tallies", "isPeaceWithout", "(I)Z"⟩) 7 4 rfl
theorem w_37 : Cond.selects "MoonDials$Game" ⟨"MoonDials$Game", "tryMove", "(II)I"⟩ ⟨"MoonDials$Game", "tryMove", "(II)I"⟩ ∈ mGt := mGs_3 (y := ⟨"MoonDials$Game", "tryMove", "(II)I"⟩) 6 5 rfl
theorem w_38 : Cond.selects "MoonDials$Riddle" ⟨"MoonDials$Riddle", "isSo", "(III)Z"⟩ ⟨"MoonDials$Riddle", "isSo", "(III)Z"⟩ ∈ mGt := mGs_3 (y := ⟨"MoonDials$Riddle", "isSo", "(III)Z"⟩) 7 6 rfl
theorem w_39 : Cond.selects "MoonDials$Riddle" ⟨"MoonDials$Riddle", "leftAtWorst", "(II)I"⟩ ⟨"MoonDials$Riddle", "leftAtWorst", "(II)I"⟩ ∈ mGt := mGs_3 (y := ⟨"MoonDials$Riddle", "leftAtWorst", "(II)I"⟩) 7 7 rfl
theorem w_40 : Cond.selects "MoonDials" ⟨"MoonDials", "pairHours", "()I"⟩ ⟨"MoonDials", "pairHours", "()I"⟩ ∈ mGt := mGs_3 (y := ⟨"MoonDials", "pairHours", "()I"⟩) 15 8 rfl
theorem w_41 : Cond.selects "MoonDials" ⟨"MoonDials", "rightDials", "()I"⟩ ⟨"MoonDials", "rightDials", "()I"⟩ ∈ mGt := mGs_3 (y := ⟨"MoonDials", "rightDials", "()I"⟩) 15 9 rfl
theorem w_42 : Cond.selects "MoonDials" ⟨"MoonDials", "pairsMet", "()I"⟩ ⟨"MoonDials", "pairsMet", "()I"⟩ ∈ mGt := mGs_3 (y := ⟨"MoonDials", "pairsMet", "()I"⟩) 15 10 rfl
theorem w_43 : Cond.selects "MoonDials" ⟨"MoonDials", "unusedDials", "()I"⟩ ⟨"MoonDials", "unusedDials", "()I"⟩ ∈ mGt := mGs_3 (y := ⟨"MoonDials", "unusedDials", "()I"⟩) 15 11 rfl
theorem w_44 : Cond.selects "MoonDials" ⟨"MoonDials", "lonelyGoers", "()I"⟩ ⟨"MoonDials", "lonelyGoers", "()I"⟩ ∈ mGt := mGs_3 (y := ⟨"MoonDials", "lonelyGoers", "()I"⟩) 15 12 rfl
theorem w_45 : Cond.selects "MoonDials" ⟨"MoonDials", "countOfNight", "(I)I"⟩ ⟨"MoonDials", "countOfNight", "(I)I"⟩ ∈ mGt := mGs_3 (y := ⟨"MoonDials", "countOfNight", "(I)I"⟩) 15 13 rfl
theorem w_46 : Cond.selects "MoonDials" ⟨"MoonDials", "whoComes", "()I"⟩ ⟨"MoonDials", "whoComes", "()I"⟩ ∈ mGt := mGs_3 (y := ⟨"MoonDials", "whoComes", "()I"⟩) 15 14 rfl
theorem w_47 : Cond.selects "MoonDials" ⟨"MoonDials", "darkDials", "()I"⟩ ⟨"MoonDials", "darkDials", "()I"⟩ ∈ mGt := mGs_3 (y := ⟨"MoonDials", "darkDials", "()I"⟩) 15 15 rfl
theorem w_48 : Cond.selects "MoonDialsModel" ⟨"MoonDialsModel", "plain", "(I)V"⟩ ⟨"MoonDialsModel", "plain", "(I)V"⟩ ∈ mGt := mGs_4 (y := ⟨"MoonDialsModel", "plain", "(I)V"⟩) 69 0 rfl
theorem w_49 : Cond.selects "MoonDialsModel" ⟨"MoonDialsModel", "begins", "()V"⟩ ⟨"MoonDialsModel", "begins", "()V"⟩ ∈ mGt := mGs_4 (y := ⟨"MoonDialsModel", "begins", "()V"⟩) 69 1 rfl
theorem w_50 : Cond.selects "MoonDialsModel" ⟨"MoonDialsModel", "hours", "()I"⟩ ⟨"MoonDialsModel", "hours", "()I"⟩ ∈ mGt := mGs_4 (y := ⟨"MoonDialsModel", "hours", "()I"⟩) 69 2 rfl
theorem w_51 : Cond.selects "MoonDialsModel" ⟨"MoonDialsModel", "keepsRow", "()V"⟩ ⟨"MoonDialsModel", "keepsRow", "()V"⟩ ∈ mGt := mGs_4 (y := ⟨"MoonDialsModel", "keepsRow", "()V"⟩) 69 3 rfl
theorem w_52 : Cond.selects "MoonDialsModel" ⟨"MoonDialsModel", "lays", "(I)V"⟩ ⟨"MoonDialsModel", "lays", "(I)V"⟩ ∈ mGt := mGs_4 (y := ⟨"MoonDialsModel", "lays", "(I)V"⟩) 69 4 rfl
theorem w_53 : Cond.selects "MoonDialsModel" ⟨"MoonDialsModel", "cut", "()V"⟩ ⟨"MoonDialsModel", "cut", "()V"⟩ ∈ mGt := mGs_4 (y := ⟨"MoonDialsModel", "cut", "()V"⟩) 69 5 rfl
theorem w_54 : Cond.selects "MoonDialsModel" ⟨"MoonDialsModel", "byteAt", "(I)I"⟩ ⟨"MoonDialsModel", "byteAt", "(I)I"⟩ ∈ mGt := mGs_4 (y := ⟨"MoonDialsModel", "byteAt", "(I)I"⟩) 69 6 rfl
theorem w_55 : Cond.selects "MoonDialsModel" ⟨"MoonDialsModel", "token", "(IIIJ)V"⟩ ⟨"MoonDialsModel", "token", "(IIIJ)V"⟩ ∈ mGt := mGs_4 (y := ⟨"MoonDialsModel", "token", "(IIIJ)V"⟩) 69 7 rfl
theorem w_56 : Cond.selects "MoonDialsModel" ⟨"MoonDialsModel", "sign", "(III)I"⟩ ⟨"MoonDialsModel", "sign", "(III)I"⟩ ∈ mGt := mGs_4 (y := ⟨"MoonDialsModel", "sign", "(III)I"⟩) 69 8 rfl
theorem w_57 : Cond.selects "MoonDialsModel" ⟨"MoonDialsModel", "is", "(I)Z"⟩ ⟨"MoonDialsModel", "is", "(I)Z"⟩ ∈ mGt := mGs_4 (y := ⟨"MoonDialsModel", "is", "(I)Z"⟩) 69 9 rfl
theorem w_58 : Cond.selects "MoonDialsModel" ⟨"MoonDialsModel", "tellOne", "()V"⟩ ⟨"MoonDialsModel", "tellOne", "()V"⟩ ∈ mGt := mGs_4 (y := ⟨"MoonDialsModel", "tellOne", "()V"⟩) 69 10 rfl
theorem w_59 : Cond.selects "MoonDialsModel" ⟨"MoonDialsModel", "goesOn", "()V"⟩ ⟨"MoonDialsModel", "goesOn", "()V"⟩ ∈ mGt := mGs_4 (y := ⟨"MoonDialsModel", "goesOn", "()V"⟩) 69 11 rfl
theorem w_60 : Cond.selects "MoonDialsModel" ⟨"MoonDialsModel", "fail", "(I)V"⟩ ⟨"MoonDialsModel", "fail", "(I)V"⟩ ∈ mGt := mGs_4 (y := ⟨"MoonDialsModel", "fail", "(I)V"⟩) 69 12 rfl
theorem w_61 : Cond.selects "MoonDialsModel" ⟨"MoonDialsModel", "bounded", "(II)I"⟩ ⟨"MoonDialsModel", "bounded", "(II)I"⟩ ∈ mGt := mGs_4 (y := ⟨"MoonDialsModel", "bounded", "(II)I"⟩) 69 13 rfl
theorem w_62 : Cond.selects "MoonDialsModel" ⟨"MoonDialsModel", "wrong", "(II)V"⟩ ⟨"MoonDialsModel", "wrong", "(II)V"⟩ ∈ mGt := mGs_4 (y := ⟨"MoonDialsModel", "wrong", "(II)V"⟩) 69 14 rfl
theorem w_63 : Cond.selects "MoonDialsModel" ⟨"MoonDialsModel", "must", "(I)V"⟩ ⟨"MoonDialsModel", "must", "(I)V"⟩ ∈ mGt := mGs_4 (y := ⟨"MoonDialsModel", "must", "(I)V"⟩) 69 15 rfl
theorem w_64 : Cond.selects "MoonDialsModel" ⟨"MoonDialsModel", "roomFor", "(II)V"⟩ ⟨"MoonDialsModel", "roomFor", "(II)V"⟩ ∈ mGt := mGs_5 (y := ⟨"MoonDialsModel", "roomFor", "(II)V"⟩) 69 0 rfl
theorem w_65 : Cond.selects "MoonDialsModel" ⟨"MoonDialsModel", "named", "()I"⟩ ⟨"MoonDialsModel", "named", "()I"⟩ ∈ mGt := mGs_5 (y := ⟨"MoonDialsModel", "named", "()I"⟩) 69 1 rfl
theorem w_66 : Cond.selects "MoonDialsModel" ⟨"MoonDialsModel", "endsName", "(II)V"⟩ ⟨"MoonDialsModel", "endsName", "(II)V"⟩ ∈ mGt := mGs_5 (y := ⟨"MoonDialsModel", "endsName", "(II)V"⟩) 69 2 rfl
theorem w_67 : Cond.selects "MoonDialsModel" ⟨"MoonDialsModel", "known", "()I"⟩ ⟨"MoonDialsModel", "known", "()I"⟩ ∈ mGt := mGs_5 (y := ⟨"MoonDialsModel", "known", "()I"⟩) 69 3 rfl
theorem w_68 : Cond.selects "MoonDialsModel" ⟨"MoonDialsModel", "tellLaw", "(I)V"⟩ ⟨"MoonDialsModel", "tellLaw", "(I)V"⟩ ∈ mGt := mGs_5 (y := ⟨"MoonDialsModel", "tellLaw", "(I)V"⟩) 69 4 rfl
theorem w_69 : Cond.selects "MoonDialsModel" ⟨"MoonDialsModel", "expression", "()V"⟩ ⟨"MoonDialsModel", "expression", "()V"⟩ ∈ mGt := mGs_5 (y := ⟨"MoonDialsModel", "expression", "()V"⟩) 69 5 rfl
theorem w_70 : Cond.selects "MoonDialsModel" ⟨"MoonDialsModel", "unit", "()V"⟩ ⟨"MoonDialsModel", "unit", "()V"⟩ ∈ mGt := mGs_5 (y := ⟨"MoonDialsModel", "unit", "()V"⟩) 69 6 rfl
theorem w_71 : Cond.selects "MoonDialsModel" ⟨"MoonDialsModel", "emit", "(II)V"⟩ ⟨"MoonDialsModel", "emit", "(II)V"⟩ ∈ mGt := mGs_5 (y := ⟨"MoonDialsModel", "emit", "(II)V"⟩) 69 7 rfl
theorem w_72 : Cond.selects "MoonDialsModel" ⟨"MoonDialsModel", "comesOut", "(Z)V"⟩ ⟨"MoonDialsModel", "comesOut", "(Z)V"⟩ ∈ mGt := mGs_5 (y := ⟨"MoonDialsModel", "comesOut", "(Z)V"⟩) 69 8 rfl
theorem w_73 : Cond.selects "MoonDialsModel" ⟨"MoonDialsModel", "term", "()V"⟩ ⟨"MoonDialsModel", "term", "()V"⟩ ∈ mGt := mGs_5 (y := ⟨"MoonDialsModel", "term", "()V"⟩) 69 9 rfl
theorem w_74 : Cond.selects "MoonDialsModel" ⟨"MoonDialsModel", "isDial", "(I)Z"⟩ ⟨"MoonDialsModel", "isDial", "(I)Z"⟩ ∈ mGt := mGs_5 (y := ⟨"MoonDialsModel", "isDial", "(I)Z"⟩) 69 10 rfl
theorem w_75 : Cond.selects "MoonDialsModel" ⟨"MoonDialsModel", "copies", "()V"⟩ ⟨"MoonDialsModel", "copies", "()V"⟩ ∈ mGt := mGs_5 (y := ⟨"MoonDialsModel", "copies", "()V"⟩) 69 11 rfl
theorem w_76 : Cond.selects "MoonDialsModel" ⟨"MoonDialsModel", "dimsOf", "(I)I"⟩ ⟨"MoonDialsModel", "dimsOf", "(I)I"⟩ ∈ mGt := mGs_5 (y := ⟨"MoonDialsModel", "dimsOf", "(I)I"⟩) 69 12 rfl
theorem w_77 : Cond.selects "MoonDialsModel" ⟨"MoonDialsModel", "looks", "(I)V"⟩ ⟨"MoonDialsModel", "looks", "(I)V"⟩ ∈ mGt := mGs_5 (y := ⟨"MoonDialsModel", "looks", "(I)V"⟩) 69 13 rfl
theorem w_78 : Cond.selects "MoonDialsModel" ⟨"MoonDialsModel", "lawTells", "(II)I"⟩ ⟨"MoonDialsModel", "lawTells", "(II)I"⟩ ∈ mGt := mGs_5 (y := ⟨"MoonDialsModel", "lawTells", "(II)I"⟩) 69 14 rfl
theorem w_79 : Cond.selects "MoonDialsModel" ⟨"MoonDialsModel", "termOf", "(II)I"⟩ ⟨"MoonDialsModel", "termOf", "(II)I"⟩ ∈ mGt := mGs_5 (y := ⟨"MoonDialsModel", "termOf", "(II)I"⟩) 69 15 rfl
theorem w_80 : Cond.selects "MoonDialsModel" ⟨"MoonDialsModel", "isDim", "(I)Z"⟩ ⟨"MoonDialsModel", "isDim", "(I)Z"⟩ ∈ mGt := mGs_6 (y := ⟨"MoonDialsModel", "isDim", "(I)Z"⟩) 69 0 rfl
theorem w_81 : Cond.selects "MoonDialsModel" ⟨"MoonDialsModel", "lotOf", "(II)I"⟩ ⟨"MoonDialsModel", "lotOf", "(II)I"⟩ ∈ mGt := mGs_6 (y := ⟨"MoonDialsModel", "lotOf", "(II)I"⟩) 69 1 rfl
theorem w_82 : Cond.selects "MoonDialsModel" ⟨"MoonDialsModel", "isHour", "(I)Z"⟩ ⟨"MoonDialsModel", "isHour", "(I)Z"⟩ ∈ mGt := mGs_6 (y := ⟨"MoonDialsModel", "isHour", "(I)Z"⟩) 69 2 rfl
theorem w_83 : Cond.selects "MoonDialsModel" ⟨"MoonDialsModel", "showsBy", "(II)I"⟩ ⟨"MoonDialsModel", "showsBy", "(II)I"⟩ ∈ mGt := mGs_6 (y := ⟨"MoonDialsModel", "showsBy", "(II)I"⟩) 69 3 rfl
theorem w_84 : Cond.selects "MoonDialsModel" ⟨"MoonDialsModel", "isGoer", "(I)Z"⟩ ⟨"MoonDialsModel", "isGoer", "(I)Z"⟩ ∈ mGt := mGs_6 (y := ⟨"MoonDialsModel", "isGoer", "(I)Z"⟩) 69 4 rfl
theorem w_85 : Cond.selects "MoonDialsModel" ⟨"MoonDialsModel", "fromAt", "(I)I"⟩ ⟨"MoonDialsModel", "fromAt", "(I)I"⟩ ∈ mGt := mGs_6 (y := ⟨"MoonDialsModel", "fromAt", "(I)I"⟩) 69 5 rfl
theorem w_86 : Cond.selects "MoonDialsModel" ⟨"MoonDialsModel", "doesCome", "(I)Z"⟩ ⟨"MoonDialsModel", "doesCome", "(I)Z"⟩ ∈ mGt := mGs_6 (y := ⟨"MoonDialsModel", "doesCome", "(I)Z"⟩) 69 6 rfl
theorem w_87 : Cond.selects "MoonDialsModel" ⟨"MoonDialsModel", "looksBy", "(I)V"⟩ ⟨"MoonDialsModel", "looksBy", "(I)V"⟩ ∈ mGt := mGs_6 (y := ⟨"MoonDialsModel", "looksBy", "(I)V"⟩) 69 7 rfl
theorem w_88 : Cond.selects "MoonDialsModel" ⟨"MoonDialsModel", "staysOf", "(I)I"⟩ ⟨"MoonDialsModel", "staysOf", "(I)I"⟩ ∈ mGt := mGs_6 (y := ⟨"MoonDialsModel", "staysOf", "(I)I"⟩) 69 8 rfl
theorem w_89 : Cond.selects "MoonDialsModel" ⟨"MoonDialsModel", "worthOf", "(I)I"⟩ ⟨"MoonDialsModel", "worthOf", "(I)I"⟩ ∈ mGt := mGs_6 (y := ⟨"MoonDialsModel", "worthOf", "(I)I"⟩) 69 9 rfl
theorem w_90 : Cond.selects "MoonDialsModel" ⟨"MoonDialsModel", "areTwo", "(II)Z"⟩ ⟨"MoonDialsModel", "areTwo", "(II)Z"⟩ ∈ mGt := mGs_6 (y := ⟨"MoonDialsModel", "areTwo", "(II)Z"⟩) 69 10 rfl
theorem w_91 : Cond.selects "MoonDialsModel" ⟨"MoonDialsModel", "copiesStill", "()V"⟩ ⟨"MoonDialsModel", "copiesStill", "()V"⟩ ∈ mGt := mGs_6 (y := ⟨"MoonDialsModel", "copiesStill", "()V"⟩) 69 11 rfl
theorem w_92 : Cond.selects "MoonDialsModel" ⟨"MoonDialsModel", "fillsThere", "()V"⟩ ⟨"MoonDialsModel", "fillsThere", "()V"⟩ ∈ mGt := mGs_6 (y := ⟨"MoonDialsModel", "fillsThere", "()V"⟩) 69 12 rfl
theorem w_93 : Cond.selects "MoonDialsModel" ⟨"MoonDialsModel", "hourBits", "(I)I"⟩ ⟨"MoonDialsModel", "hourBits", "(I)I"⟩ ∈ mGt := mGs_6 (y := ⟨"MoonDialsModel", "hourBits", "(I)I"⟩) 69 13 rfl
theorem w_94 : Cond.selects "MoonDialsModel" ⟨"MoonDialsModel", "outTonight", "(I)I"⟩ ⟨"MoonDialsModel", "outTonight", "(I)I"⟩ ∈ mGt := mGs_6 (y := ⟨"MoonDialsModel", "outTonight", "(I)I"⟩) 69 14 rfl
theorem w_95 : Cond.selects "MoonDialsModel" ⟨"MoonDialsModel", "thereAt", "(I)I"⟩ ⟨"MoonDialsModel", "thereAt", "(I)I"⟩ ∈ mGt := mGs_6 (y := ⟨"MoonDialsModel", "thereAt", "(I)I"⟩) 69 15 rfl
theorem w_96 : Cond.selects "MoonDialsModel" ⟨"MoonDialsModel", "does", "(II)Z"⟩ ⟨"MoonDialsModel", "does", "(II)Z"⟩ ∈ mGt := mGs_7 (y := ⟨"MoonDialsModel", "does", "(II)Z"⟩) 69 0 rfl
theorem w_97 : Cond.selects "MoonDialsModel" ⟨"MoonDialsModel", "records", "()V"⟩ ⟨"MoonDialsModel", "records", "()V"⟩ ∈ mGt := mGs_7 (y := ⟨"MoonDialsModel", "records", "()V"⟩) 69 1 rfl
theorem w_98 : Cond.selects "MoonDialsModel" ⟨"MoonDialsModel", "goes", "(I)V"⟩ ⟨"MoonDialsModel", "goes", "(I)V"⟩ ∈ mGt := mGs_7 (y := ⟨"MoonDialsModel", "goes", "(I)V"⟩) 69 2 rfl
theorem w_99 : Cond.selects "MoonDialsModel" ⟨"MoonDialsModel", "nightGoes", "()V"⟩ ⟨"MoonDialsModel", "nightGoes", "()V"⟩ ∈ mGt := mGs_7 (y := ⟨"MoonDialsModel", "nightGoes", "()V"⟩) 69 3 rfl
theorem w_100 : Cond.selects "MoonDialsModel" ⟨"MoonDialsModel", "othersBits", "(I)I"⟩ ⟨"MoonDialsModel", "othersBits", "(I)I"⟩ ∈ mGt := mGs_7 (y := ⟨"MoonDialsModel", "othersBits", "(I)I"⟩) 69 4 rfl
theorem w_101 : Cond.selects "MoonDialsModel" ⟨"MoonDialsModel", "isGroup", "(I)Z"⟩ ⟨"MoonDialsModel", "isGroup", "(I)Z"⟩ ∈ mGt := mGs_7 (y := ⟨"MoonDialsModel", "isGroup", "(I)Z"⟩) 69 5 rfl
theorem w_102 : Cond.selects "MoonDialsModel" ⟨"MoonDialsModel", "fillsStill", "(I)V"⟩ ⟨"MoonDialsModel", "fillsStill", "(I)V"⟩ ∈ mGt := mGs_7 (y := ⟨"MoonDialsModel", "fillsStill", "(I)V"⟩) 69 6 rfl
theorem w_103 : Cond.selects "MoonDialsModel" ⟨"MoonDialsModel", "fillsNights", "(I)V"⟩ ⟨"MoonDialsModel", "fillsNights", "(I)V"⟩ ∈ mGt := mGs_7 (y := ⟨"MoonDialsModel", "fillsNights", "(I)V"⟩) 69 7 rfl
theorem w_104 : Cond.selects "MoonDialsModel" ⟨"MoonDialsModel", "firstMeet", "(II)I"⟩ ⟨"MoonDialsModel", "firstMeet", "(II)I"⟩ ∈ mGt := mGs_7 (y := ⟨"MoonDialsModel", "firstMeet", "(II)I"⟩) 69 8 rfl
theorem w_105 : Cond.selects "MoonDialsModel" ⟨"MoonDialsModel", "allBits", "(II)I"⟩ ⟨"MoonDialsModel", "allBits", "(II)I"⟩ ∈ mGt := mGs_7 (y := ⟨"MoonDialsModel", "allBits", "(II)I"⟩) 69 9 rfl
theorem w_106 : Cond.selects "MoonDialsModel" ⟨"MoonDialsModel", "oftenBy", "(III)I"⟩ ⟨"MoonDialsModel", "oftenBy", "(III)I"⟩ ∈ mGt := mGs_7 (y := ⟨"MoonDialsModel", "oftenBy", "(III)I"⟩) 69 10 rfl
theorem w_107 : Cond.selects "MoonDialsModel" ⟨"MoonDialsModel", "othersBy", "(II)I"⟩ ⟨"MoonDialsModel", "othersBy", "(II)I"⟩ ∈ mGt := mGs_7 (y := ⟨"MoonDialsModel", "othersBy", "(II)I"⟩) 69 11 rfl
theorem w_108 : Cond.selects "MoonDialsModel" ⟨"MoonDialsModel", "isAsked", "(III)Z"⟩ ⟨"MoonDialsModel", "isAsked", "(III)Z"⟩ ∈ mGt := mGs_7 (y := ⟨"MoonDialsModel", "isAsked", "(III)Z"⟩) 69 12 rfl
theorem w_109 : Cond.selects "MoonDialsModel" ⟨"MoonDialsModel", "leastFor", "(IIII)I"⟩ ⟨"MoonDialsModel", "leastFor", "(IIII)I"⟩ ∈ mGt := mGs_7 (y := ⟨"MoonDialsModel", "leastFor", "(IIII)I"⟩) 69 13 rfl
theorem w_110 : Cond.selects "MoonDialsModel" ⟨"MoonDialsModel", "isSo", "(IIIII)Z"⟩ ⟨"MoonDialsModel", "isSo", "(IIIII)Z"⟩ ∈ mGt := mGs_7 (y := ⟨"MoonDialsModel", "isSo", "(IIIII)Z"⟩) 69 14 rfl
theorem w_111 : Cond.selects "MoonDialsModel" ⟨"MoonDialsModel", "areAny", "(II)Z"⟩ ⟨"MoonDialsModel", "areAny", "(II)Z"⟩ ∈ mGt := mGs_7 (y := ⟨"MoonDialsModel", "areAny", "(II)Z"⟩) 69 15 rfl
theorem w_112 : Cond.selects "MoonDialsModel" ⟨"MoonDialsModel", "manyBy", "(I)I"⟩ ⟨"MoonDialsModel", "manyBy", "(I)I"⟩ ∈ mGt := mGs_8 (y := ⟨"MoonDialsModel", "manyBy", "(I)I"⟩) 69 0 rfl
theorem w_113 : Cond.selects "MoonDialsModel" ⟨"MoonDialsModel", "fillsCouples", "(I)V"⟩ ⟨"MoonDialsModel", "fillsCouples", "(I)V"⟩ ∈ mGt := mGs_8 (y := ⟨"MoonDialsModel", "fillsCouples", "(I)V"⟩) 69 1 rfl
theorem w_114 : Cond.selects "MoonDialsModel" ⟨"MoonDialsModel", "couplesWith", "(III)I"⟩ ⟨"MoonDialsModel", "couplesWith", "(III)I"⟩ ∈ mGt := mGs_8 (y := ⟨"MoonDialsModel", "couplesWith", "(III)I"⟩) 69 2 rfl
theorem w_115 : Cond.selects "MoonDialsModel" ⟨"MoonDialsModel", "coupleOf", "(I)I"⟩ ⟨"MoonDialsModel", "coupleOf", "(I)I"⟩ ∈ mGt := mGs_8 (y := ⟨"MoonDialsModel", "coupleOf", "(I)I"⟩) 69 3 rfl
theorem w_116 : Cond.selects "MoonDialsModel" ⟨"MoonDialsModel", "spreads", "(III)V"⟩ ⟨"MoonDialsModel", "spreads", "(III)V"⟩ ∈ mGt := mGs_8 (y := ⟨"MoonDialsModel", "spreads", "(III)V"⟩) 69 4 rfl
theorem w_117 : Cond.selects "MoonDialsModel" ⟨"MoonDialsModel", "plays", "(III)I"⟩ ⟨"MoonDialsModel", "plays", "(III)I"⟩ ∈ mGt := mGs_8 (y := ⟨"MoonDialsModel", "plays", "(III)I"⟩) 69 5 rfl
theorem w_118 : Cond.selects "MoonDialsModel" ⟨"MoonDialsModel", "loads", "(I)V"⟩ ⟨"MoonDialsModel", "loads", "(I)V"⟩ ∈ mGt := mGs_8 (y := ⟨"MoonDialsModel", "loads", "(I)V"⟩) 69 6 rfl
theorem w_119 : Cond.selects "MoonDialsModel" ⟨"MoonDialsModel", "childOf", "(III)I"⟩ ⟨"MoonDialsModel", "childOf", "(III)I"⟩ ∈ mGt := mGs_8 (y := ⟨"MoonDialsModel", "childOf", "(III)I"⟩) 69 7 rfl
theorem w_120 : Cond.selects "MoonDialsModel" ⟨"MoonDialsModel", "bestAt", "(IIII)I"⟩ ⟨"MoonDialsModel", "bestAt", "(IIII)I"⟩ ∈ mGt := mGs_8 (y := ⟨"MoonDialsModel", "bestAt", "(IIII)I"⟩) 69 8 rfl
theorem w_121 : Cond.selects "MoonDialsModel" ⟨"MoonDialsModel", "gainBy", "(IIIII)I"⟩ ⟨"MoonDialsModel", "gainBy", "(IIIII)I"⟩ ∈ mGt := mGs_8 (y := ⟨"MoonDialsModel", "gainBy", "(IIIII)I"⟩) 69 9 rfl
theorem w_122 : Cond.selects "MoonDialsModel" ⟨"MoonDialsModel", "fitBits", "(II)I"⟩ ⟨"MoonDialsModel", "fitBits", "(II)I"⟩ ∈ mGt := mGs_8 (y := ⟨"MoonDialsModel", "fitBits", "(II)I"⟩) 69 10 rfl
theorem w_123 : Cond.selects "MoonDialsModel" ⟨"MoonDialsModel", "anyBits", "()I"⟩ ⟨"MoonDialsModel", "anyBits", "()I"⟩ ∈ mGt := mGs_8 (y := ⟨"MoonDialsModel", "anyBits", "()I"⟩) 69 11 rfl
theorem w_124 : Cond.selects "MoonDialsModel" ⟨"MoonDialsModel", "manyBits", "()I"⟩ ⟨"MoonDialsModel", "manyBits", "()I"⟩ ∈ mGt := mGs_8 (y := ⟨"MoonDialsModel", "manyBits", "()I"⟩) 69 12 rfl
theorem w_125 : Cond.selects "MoonDialsModel" ⟨"MoonDialsModel", "idleBits", "()I"⟩ ⟨"MoonDialsModel", "idleBits", "()I"⟩ ∈ mGt := mGs_8 (y := ⟨"MoonDialsModel", "idleBits", "()I"⟩) 69 13 rfl
theorem w_127 : (Jvm.Cond.initialized "MoonDials") ∈ mGt := mGi_1 1 rfl rfl
theorem w_128 : (Jvm.Cond.initialized "MoonDials$Tape") ∈ mGt := mGi_1 2 rfl rfl
theorem w_129 : (Jvm.Cond.initialized "MoonDials$Garden") ∈ mGt := mGi_1 3 rfl rfl
theorem w_130 : (Jvm.Cond.initialized "MoonDials$Laws") ∈ mGt := mGi_1 4 rfl rfl
theorem w_131 : (Jvm.Cond.initialized "MoonDials$Reader") ∈ mGt := mGi_1 5 rfl rfl
theorem w_132 : (Jvm.Cond.initialized "MoonDials$Tokens") ∈ mGt := mGi_1 6 rfl rfl
theorem w_137 : (Jvm.Cond.initialized "MoonDials$Shelf") ∈ mGt := mGi_1 11 rfl rfl
theorem w_138 : (Jvm.Cond.initialized "java/lang/Math") ∈ mGt := mGi_1 12 rfl rfl
theorem w_139 : (Jvm.Cond.initialized "MoonDials$Walk") ∈ mGt := mGi_1 13 rfl rfl
theorem w_140 : (Jvm.Cond.initialized "MoonDials$Meetings") ∈ mGt := mGi_1 14 rfl rfl
theorem w_141 : (Jvm.Cond.initialized "MoonDials$Tallies") ∈ mGt := mGi_1 15 rfl rfl
theorem w_142 : (Jvm.Cond.initialized "MoonDials$Game") ∈ mGt := mGi_1 16 rfl rfl
theorem w_143 : (Jvm.Cond.initialized "MoonDials$Riddle") ∈ mGt := mGi_1 17 rfl rfl
theorem w_144 : (Jvm.Cond.initialized "java/lang/System") ∈ mGt := mGi_1 18 rfl rfl
theorem w_145 : (Jvm.Cond.initialized "MoonDialsModel") ∈ mGt := mGi_1 19 rfl rfl
theorem w_147 : (Jvm.Cond.initialized "java/lang/Integer") ∈ mGt := mGi_1 21 rfl rfl
theorem w_148 : (Jvm.Cond.classLink "MoonDialsLaw" (7 : Nat) "MoonDials") ∈ mGt := mGi_1 22 rfl rfl
theorem w_149 : (Jvm.Cond.instantiable "MoonDials" (15 : Nat)) ∈ mGt := mGi_1 23 rfl rfl
theorem w_150 : (Jvm.Cond.methodLink "MoonDialsLaw" (9 : Nat) ({ cls := "MoonDials", name := "<init>", desc := "()V" } : Jvm.MethodName)) ∈ mGt := mGi_1 24 rfl rfl
theorem w_151 : (Jvm.Cond.instanceMethod ({ cls := "MoonDials", name := "<init>", desc := "()V" } : Jvm.MethodName)) ∈ mGt := mGi_1 25 rfl rfl
theorem w_152 : (Jvm.Cond.code ({ cls := "MoonDials", name := "<init>", desc := "()V" } : Jvm.MethodName) prog_1_method_1_code (1 : Nat) (Option.none : Option Jvm.ClassFile.FieldType)) ∈ mGt := mGi_1 26 rfl rfl
theorem w_153 : (Jvm.Cond.methodLink "MoonDials" (3 : Nat) ({ cls := "java/lang/Object", name := "<init>", desc := "()V" } : Jvm.MethodName)) ∈ mGt := mGi_1 27 rfl rfl
theorem w_154 : (Jvm.Cond.instanceMethod ({ cls := "java/lang/Object", name := "<init>", desc := "()V" } : Jvm.MethodName)) ∈ mGt := mGi_1 28 rfl rfl
theorem w_155 : (Jvm.Cond.code ({ cls := "java/lang/Object", name := "<init>", desc := "()V" } : Jvm.MethodName) object_method_1_code (1 : Nat) (Option.none : Option Jvm.ClassFile.FieldType)) ∈ mGt := mGi_1 29 rfl rfl
theorem w_156 : (Jvm.Cond.classLink "MoonDials" (9 : Nat) "MoonDials$Tape") ∈ mGt := mGi_1 30 rfl rfl
theorem w_157 : (Jvm.Cond.instantiable "MoonDials$Tape" (2 : Nat)) ∈ mGt := mGi_1 31 rfl rfl
theorem w_159 : (Jvm.Cond.instanceMethod ({ cls := "MoonDials$Tape", name := "<init>", desc := "()V" } : Jvm.MethodName)) ∈ mGt := mGi_1 33 rfl rfl
theorem w_160 : (Jvm.Cond.code ({ cls := "MoonDials$Tape", name := "<init>", desc := "()V" } : Jvm.MethodName) prog_10_method_1_code (1 : Nat) (Option.none : Option Jvm.ClassFile.FieldType)) ∈ mGt := mGi_1 34 rfl rfl
theorem w_161 : (Jvm.Cond.methodLink "MoonDials$Tape" (3 : Nat) ({ cls := "java/lang/Object", name := "<init>", desc := "()V" } : Jvm.MethodName)) ∈ mGt := mGi_1 35 rfl rfl
theorem w_162 : (Jvm.Cond.fieldLink "MoonDials$Tape" (9 : Nat) "MoonDials$Tape" "bytes" "[B") ∈ mGt := mGi_1 36 rfl rfl
theorem w_163 : (Jvm.Cond.fieldLink "MoonDials$Tape" (15 : Nat) "MoonDials$Tape" "size" "I") ∈ mGt := mGi_1 37 rfl rfl
theorem w_164 : (Jvm.Cond.fieldLink "MoonDials" (102 : Nat) "MoonDials$Tape" "size" "I") ∈ mGt := mGi_1 38 rfl rfl
theorem w_165 : (Jvm.Cond.fieldLink "MoonDials$Tokens" (86 : Nat) "MoonDials$Tape" "size" "I") ∈ mGt := mGi_1 39 rfl rfl
theorem w_166 : (Jvm.Cond.laysFinal "MoonDials$Tape" "MoonDials$Tape" "bytes" "[B") ∈ mGt := mGi_1 40 rfl rfl
theorem w_168 : (Jvm.Cond.lays "MoonDials$Tape" "MoonDials$Tape" "size" "I") ∈ mGt := mGi_1 42 rfl rfl
theorem w_171 : (Jvm.Cond.arrayClass Jvm.ClassFile.FieldType.byte) ∈ mGt := mGi_1 45 rfl rfl
theorem w_172 : (Jvm.Cond.classLink "MoonDials" (16 : Nat) "MoonDials$Garden") ∈ mGt := mGi_1 46 rfl rfl
theorem w_173 : (Jvm.Cond.instantiable "MoonDials$Garden" (10 : Nat)) ∈ mGt := mGi_1 47 rfl rfl
theorem w_175 : (Jvm.Cond.instanceMethod ({ cls := "MoonDials$Garden", name := "<init>", desc := "()V" } : Jvm.MethodName)) ∈ mGt := mGi_1 49 rfl rfl
theorem w_176 : (Jvm.Cond.code ({ cls := "MoonDials$Garden", name := "<init>", desc := "()V" } : Jvm.MethodName) prog_3_method_1_code (1 : Nat) (Option.none : Option Jvm.ClassFile.FieldType)) ∈ mGt := mGi_1 50 rfl rfl
theorem w_177 : (Jvm.Cond.methodLink "MoonDials$Garden" (3 : Nat) ({ cls := "java/lang/Object", name := "<init>", desc := "()V" } : Jvm.MethodName)) ∈ mGt := mGi_1 51 rfl rfl
theorem w_178 : (Jvm.Cond.classLink "MoonDials$Garden" (9 : Nat) "MoonDials$Laws") ∈ mGt := mGi_1 52 rfl rfl
theorem w_179 : (Jvm.Cond.instantiable "MoonDials$Laws" (7 : Nat)) ∈ mGt := mGi_1 53 rfl rfl
theorem w_180 : (Jvm.Cond.methodLink "MoonDials$Garden" (11 : Nat) ({ cls := "MoonDials$Laws", name := "<init>", desc := "()V" } : Jvm.MethodName)) ∈ mGt := mGi_1 54 rfl rfl
theorem w_181 : (Jvm.Cond.instanceMethod ({ cls := "MoonDials$Laws", name := "<init>", desc := "()V" } : Jvm.MethodName)) ∈ mGt := mGi_1 55 rfl rfl
theorem w_182 : (Jvm.Cond.code ({ cls := "MoonDials$Laws", name := "<init>", desc := "()V" } : Jvm.MethodName) prog_4_method_1_code (1 : Nat) (Option.none : Option Jvm.ClassFile.FieldType)) ∈ mGt := mGi_1 56 rfl rfl
theorem w_183 : (Jvm.Cond.methodLink "MoonDials$Laws" (3 : Nat) ({ cls := "java/lang/Object", name := "<init>", desc := "()V" } : Jvm.MethodName)) ∈ mGt := mGi_1 57 rfl rfl
theorem w_184 : (Jvm.Cond.methodLink "MoonDials$Laws" (24 : Nat) ({ cls := "MoonDials$Laws", name := "clear", desc := "()V" } : Jvm.MethodName)) ∈ mGt := mGi_1 58 rfl rfl
theorem w_185 : (Jvm.Cond.instanceMethod ({ cls := "MoonDials$Laws", name := "clear", desc := "()V" } : Jvm.MethodName)) ∈ mGt := mGi_1 59 rfl rfl
theorem w_186 : (Jvm.Cond.selects "MoonDials$Laws" ({ cls := "MoonDials$Laws", name := "clear", desc := "()V" } : Jvm.MethodName) ({ cls := "MoonDials$Laws", name := "clear", desc := "()V" } : Jvm.MethodName)) ∈ mGt := mGi_1 60 rfl rfl
theorem w_187 : (Jvm.Cond.code ({ cls := "MoonDials$Laws", name := "clear", desc := "()V" } : Jvm.MethodName) prog_4_method_2_code (1 : Nat) (Option.none : Option Jvm.ClassFile.FieldType)) ∈ mGt := mGi_1 61 rfl rfl
theorem w_188 : (Jvm.Cond.methodLink "MoonDials$Laws" (34 : Nat) ({ cls := "MoonDials$Laws", name := "putShort", desc := "(III)V" } : Jvm.MethodName)) ∈ mGt := mGi_1 62 rfl rfl
theorem w_190 : (Jvm.Cond.instanceMethod ({ cls := "MoonDials$Laws", name := "putShort", desc := "(III)V" } : Jvm.MethodName)) ∈ mGt := mGi_1 64 rfl rfl
theorem w_191 : (Jvm.Cond.code ({ cls := "MoonDials$Laws", name := "putShort", desc := "(III)V" } : Jvm.MethodName) prog_4_method_3_code (4 : Nat) (Option.none : Option Jvm.ClassFile.FieldType)) ∈ mGt := mGi_1 65 rfl rfl
theorem w_192 : (Jvm.Cond.methodLink "MoonDials$Laws" (38 : Nat) ({ cls := "MoonDials$Laws", name := "open", desc := "(I)V" } : Jvm.MethodName)) ∈ mGt := mGi_1 66 rfl rfl
theorem w_193 : (Jvm.Cond.instanceMethod ({ cls := "MoonDials$Laws", name := "open", desc := "(I)V" } : Jvm.MethodName)) ∈ mGt := mGi_1 67 rfl rfl
theorem w_194 : (Jvm.Cond.selects "MoonDials$Laws" ({ cls := "MoonDials$Laws", name := "open", desc := "(I)V" } : Jvm.MethodName) ({ cls := "MoonDials$Laws", name := "open", desc := "(I)V" } : Jvm.MethodName)) ∈ mGt := mGi_1 68 rfl rfl
theorem w_195 : (Jvm.Cond.code ({ cls := "MoonDials$Laws", name := "open", desc := "(I)V" } : Jvm.MethodName) prog_4_method_5_code (2 : Nat) (Option.none : Option Jvm.ClassFile.FieldType)) ∈ mGt := mGi_1 69 rfl rfl
theorem w_196 : (Jvm.Cond.methodLink "MoonDials$Laws" (42 : Nat) ({ cls := "MoonDials$Laws", name := "put", desc := "(II)I" } : Jvm.MethodName)) ∈ mGt := mGi_1 70 rfl rfl
theorem w_197 : (Jvm.Cond.instanceMethod ({ cls := "MoonDials$Laws", name := "put", desc := "(II)I" } : Jvm.MethodName)) ∈ mGt := mGi_1 71 rfl rfl
theorem w_198 : (Jvm.Cond.selects "MoonDials$Laws" ({ cls := "MoonDials$Laws", name := "put", desc := "(II)I" } : Jvm.MethodName) ({ cls := "MoonDials$Laws", name := "put", desc := "(II)I" } : Jvm.MethodName)) ∈ mGt := mGi_1 72 rfl rfl
theorem w_199 : (Jvm.Cond.code ({ cls := "MoonDials$Laws", name := "put", desc := "(II)I" } : Jvm.MethodName) prog_4_method_6_code (3 : Nat) (Option.some Jvm.ClassFile.FieldType.int)) ∈ mGt := mGi_1 73 rfl rfl
theorem w_200 : (Jvm.Cond.fieldLink "MoonDials$Laws" (9 : Nat) "MoonDials$Laws" "vars" "[I") ∈ mGt := mGi_1 74 rfl rfl
theorem w_201 : (Jvm.Cond.fieldLink "MoonDials$Walk" (116 : Nat) "MoonDials$Laws" "vars" "[I") ∈ mGt := mGi_1 75 rfl rfl
theorem w_202 : (Jvm.Cond.fieldLink "MoonDials$Laws" (15 : Nat) "MoonDials$Laws" "steps" "[I") ∈ mGt := mGi_1 76 rfl rfl
theorem w_203 : (Jvm.Cond.fieldLink "MoonDials$Laws" (18 : Nat) "MoonDials$Laws" "starts" "[I") ∈ mGt := mGi_1 77 rfl rfl
theorem w_204 : (Jvm.Cond.fieldLink "MoonDials$Laws" (21 : Nat) "MoonDials$Laws" "stack" "[I") ∈ mGt := mGi_1 78 rfl rfl
theorem w_205 : (Jvm.Cond.fieldLink "MoonDials$Laws" (27 : Nat) "MoonDials$Laws" "size" "I") ∈ mGt := mGi_1 79 rfl rfl
theorem w_206 : (Jvm.Cond.fieldLink "MoonDials$Laws" (31 : Nat) "MoonDials$Laws" "changing" "I") ∈ mGt := mGi_1 80 rfl rfl
theorem w_207 : (Jvm.Cond.fieldLink "MoonDials$Laws" (52 : Nat) "MoonDials$Laws" "opened" "I") ∈ mGt := mGi_1 81 rfl rfl
theorem w_208 : (Jvm.Cond.laysFinal "MoonDials$Laws" "MoonDials$Laws" "vars" "[I") ∈ mGt := mGi_1 82 rfl rfl
theorem w_210 : (Jvm.Cond.laysFinal "MoonDials$Laws" "MoonDials$Laws" "steps" "[I") ∈ mGt := mGi_1 84 rfl rfl
theorem w_212 : (Jvm.Cond.laysFinal "MoonDials$Laws" "MoonDials$Laws" "starts" "[I") ∈ mGt := mGi_1 86 rfl rfl
theorem w_214 : (Jvm.Cond.laysFinal "MoonDials$Laws" "MoonDials$Laws" "stack" "[I") ∈ mGt := mGi_1 88 rfl rfl
theorem w_216 : (Jvm.Cond.lays "MoonDials$Laws" "MoonDials$Laws" "size" "I") ∈ mGt := mGi_1 90 rfl rfl
theorem w_218 : (Jvm.Cond.lays "MoonDials$Laws" "MoonDials$Laws" "changing" "I") ∈ mGt := mGi_1 92 rfl rfl
theorem w_220 : (Jvm.Cond.lays "MoonDials$Laws" "MoonDials$Laws" "opened" "I") ∈ mGt := mGi_1 94 rfl rfl
theorem w_223 : (Jvm.Cond.arrayClass Jvm.ClassFile.FieldType.int) ∈ mGt := mGi_1 97 rfl rfl
theorem w_224 : (Jvm.Cond.fieldLink "MoonDials$Garden" (12 : Nat) "MoonDials$Garden" "laws" "LMoonDials$Laws;") ∈ mGt := mGi_1 98 rfl rfl
theorem w_225 : (Jvm.Cond.fieldLink "MoonDials$Walk" (38 : Nat) "MoonDials$Garden" "laws" "LMoonDials$Laws;") ∈ mGt := mGi_1 99 rfl rfl
theorem w_226 : (Jvm.Cond.fieldLink "MoonDials$Reader" (128 : Nat) "MoonDials$Garden" "laws" "LMoonDials$Laws;") ∈ mGt := mGi_1 100 rfl rfl
theorem w_227 : (Jvm.Cond.fieldLink "MoonDials$Garden" (18 : Nat) "MoonDials$Garden" "outs" "[I") ∈ mGt := mGi_1 101 rfl rfl
theorem w_228 : (Jvm.Cond.fieldLink "MoonDials$Reader" (106 : Nat) "MoonDials$Garden" "outs" "[I") ∈ mGt := mGi_1 102 rfl rfl
theorem w_229 : (Jvm.Cond.fieldLink "MoonDials$Garden" (22 : Nat) "MoonDials$Garden" "slips" "[I") ∈ mGt := mGi_1 103 rfl rfl
theorem w_230 : (Jvm.Cond.fieldLink "MoonDials$Reader" (109 : Nat) "MoonDials$Garden" "slips" "[I") ∈ mGt := mGi_1 104 rfl rfl
theorem w_231 : (Jvm.Cond.fieldLink "MoonDials$Garden" (25 : Nat) "MoonDials$Garden" "dialOf" "[I") ∈ mGt := mGi_1 105 rfl rfl
theorem w_232 : (Jvm.Cond.fieldLink "MoonDials$Reader" (115 : Nat) "MoonDials$Garden" "dialOf" "[I") ∈ mGt := mGi_1 106 rfl rfl
theorem w_233 : (Jvm.Cond.fieldLink "MoonDials$Garden" (28 : Nat) "MoonDials$Garden" "from" "[I") ∈ mGt := mGi_1 107 rfl rfl
theorem w_234 : (Jvm.Cond.fieldLink "MoonDials$Walk" (83 : Nat) "MoonDials$Garden" "from" "[I") ∈ mGt := mGi_1 108 rfl rfl
theorem w_235 : (Jvm.Cond.fieldLink "MoonDials$Reader" (122 : Nat) "MoonDials$Garden" "from" "[I") ∈ mGt := mGi_1 109 rfl rfl
theorem w_236 : (Jvm.Cond.fieldLink "MoonDials" (155 : Nat) "MoonDials$Garden" "from" "[I") ∈ mGt := mGi_1 110 rfl rfl
theorem w_237 : (Jvm.Cond.fieldLink "MoonDials$Garden" (31 : Nat) "MoonDials$Garden" "stay" "[I") ∈ mGt := mGi_1 111 rfl rfl
theorem w_238 : (Jvm.Cond.fieldLink "MoonDials$Reader" (125 : Nat) "MoonDials$Garden" "stay" "[I") ∈ mGt := mGi_1 112 rfl rfl
theorem w_239 : (Jvm.Cond.fieldLink "MoonDials" (158 : Nat) "MoonDials$Garden" "stay" "[I") ∈ mGt := mGi_1 113 rfl rfl
theorem w_240 : (Jvm.Cond.fieldLink "MoonDials$Walk" (123 : Nat) "MoonDials$Garden" "stay" "[I") ∈ mGt := mGi_1 114 rfl rfl
theorem w_241 : (Jvm.Cond.fieldLink "MoonDials$Garden" (34 : Nat) "MoonDials$Garden" "hours" "I") ∈ mGt := mGi_1 115 rfl rfl
theorem w_242 : (Jvm.Cond.fieldLink "MoonDials$Meetings" (36 : Nat) "MoonDials$Garden" "hours" "I") ∈ mGt := mGi_1 116 rfl rfl
theorem w_243 : (Jvm.Cond.fieldLink "MoonDials$Walk" (64 : Nat) "MoonDials$Garden" "hours" "I") ∈ mGt := mGi_1 117 rfl rfl
theorem w_244 : (Jvm.Cond.fieldLink "MoonDials$Game" (63 : Nat) "MoonDials$Garden" "hours" "I") ∈ mGt := mGi_1 118 rfl rfl
theorem w_245 : (Jvm.Cond.fieldLink "MoonDials$Reader" (96 : Nat) "MoonDials$Garden" "hours" "I") ∈ mGt := mGi_1 119 rfl rfl
theorem w_246 : (Jvm.Cond.fieldLink "MoonDials$Tallies" (87 : Nat) "MoonDials$Garden" "hours" "I") ∈ mGt := mGi_1 120 rfl rfl
theorem w_247 : (Jvm.Cond.fieldLink "MoonDials" (145 : Nat) "MoonDials$Garden" "hours" "I") ∈ mGt := mGi_1 121 rfl rfl
theorem w_248 : (Jvm.Cond.fieldLink "MoonDials$Garden" (38 : Nat) "MoonDials$Garden" "dials" "I") ∈ mGt := mGi_1 122 rfl rfl
theorem w_249 : (Jvm.Cond.fieldLink "MoonDials$Riddle" (37 : Nat) "MoonDials$Garden" "dials" "I") ∈ mGt := mGi_1 123 rfl rfl
theorem w_250 : (Jvm.Cond.fieldLink "MoonDials$Walk" (57 : Nat) "MoonDials$Garden" "dials" "I") ∈ mGt := mGi_1 124 rfl rfl
theorem w_251 : (Jvm.Cond.fieldLink "MoonDials$Reader" (99 : Nat) "MoonDials$Garden" "dials" "I") ∈ mGt := mGi_1 125 rfl rfl
theorem w_252 : (Jvm.Cond.fieldLink "MoonDials$Tallies" (68 : Nat) "MoonDials$Garden" "dials" "I") ∈ mGt := mGi_1 126 rfl rfl
theorem w_253 : (Jvm.Cond.fieldLink "MoonDials" (302 : Nat) "MoonDials$Garden" "dials" "I") ∈ mGt := mGi_1 127 rfl rfl
theorem w_254 : (Jvm.Cond.fieldLink "MoonDials$Garden" (41 : Nat) "MoonDials$Garden" "goers" "I") ∈ mGt := mGi_1 128 rfl rfl
theorem w_255 : (Jvm.Cond.fieldLink "MoonDials$Meetings" (42 : Nat) "MoonDials$Garden" "goers" "I") ∈ mGt := mGi_1 129 rfl rfl
theorem w_256 : (Jvm.Cond.fieldLink "MoonDials$Walk" (76 : Nat) "MoonDials$Garden" "goers" "I") ∈ mGt := mGi_1 130 rfl rfl
theorem w_257 : (Jvm.Cond.fieldLink "MoonDials$Reader" (112 : Nat) "MoonDials$Garden" "goers" "I") ∈ mGt := mGi_1 131 rfl rfl
theorem w_258 : (Jvm.Cond.fieldLink "MoonDials$Tallies" (93 : Nat) "MoonDials$Garden" "goers" "I") ∈ mGt := mGi_1 132 rfl rfl
theorem w_259 : (Jvm.Cond.fieldLink "MoonDials" (273 : Nat) "MoonDials$Garden" "goers" "I") ∈ mGt := mGi_1 133 rfl rfl
theorem w_260 : (Jvm.Cond.fieldLink "MoonDials$Garden" (44 : Nat) "MoonDials$Garden" "seed" "I") ∈ mGt := mGi_1 134 rfl rfl
theorem w_261 : (Jvm.Cond.fieldLink "MoonDials$Reader" (86 : Nat) "MoonDials$Garden" "seed" "I") ∈ mGt := mGi_1 135 rfl rfl
theorem w_262 : (Jvm.Cond.fieldLink "MoonDials" (135 : Nat) "MoonDials$Garden" "seed" "I") ∈ mGt := mGi_1 136 rfl rfl
theorem w_263 : (Jvm.Cond.laysFinal "MoonDials$Garden" "MoonDials$Garden" "laws" "LMoonDials$Laws;") ∈ mGt := mGi_1 137 rfl rfl
theorem w_265 : (Jvm.Cond.laysFinal "MoonDials$Garden" "MoonDials$Garden" "outs" "[I") ∈ mGt := mGi_1 139 rfl rfl
theorem w_267 : (Jvm.Cond.laysFinal "MoonDials$Garden" "MoonDials$Garden" "slips" "[I") ∈ mGt := mGi_1 141 rfl rfl
theorem w_269 : (Jvm.Cond.laysFinal "MoonDials$Garden" "MoonDials$Garden" "dialOf" "[I") ∈ mGt := mGi_1 143 rfl rfl
theorem w_271 : (Jvm.Cond.laysFinal "MoonDials$Garden" "MoonDials$Garden" "from" "[I") ∈ mGt := mGi_1 145 rfl rfl
theorem w_273 : (Jvm.Cond.laysFinal "MoonDials$Garden" "MoonDials$Garden" "stay" "[I") ∈ mGt := mGi_1 147 rfl rfl
theorem w_275 : (Jvm.Cond.lays "MoonDials$Garden" "MoonDials$Garden" "hours" "I") ∈ mGt := mGi_1 149 rfl rfl
theorem w_277 : (Jvm.Cond.lays "MoonDials$Garden" "MoonDials$Garden" "dials" "I") ∈ mGt := mGi_1 151 rfl rfl
theorem w_279 : (Jvm.Cond.lays "MoonDials$Garden" "MoonDials$Garden" "goers" "I") ∈ mGt := mGi_1 153 rfl rfl
theorem w_281 : (Jvm.Cond.lays "MoonDials$Garden" "MoonDials$Garden" "seed" "I") ∈ mGt := mGi_1 155 rfl rfl
theorem w_284 : (Jvm.Cond.classLink "MoonDials" (23 : Nat) "MoonDials$Reader") ∈ mGt := mGi_1 158 rfl rfl
theorem w_285 : (Jvm.Cond.instantiable "MoonDials$Reader" (12 : Nat)) ∈ mGt := mGi_1 159 rfl rfl
theorem w_287 : (Jvm.Cond.instanceMethod ({ cls := "MoonDials$Reader", name := "<init>", desc := "()V" } : Jvm.MethodName)) ∈ mGt := mGi_1 161 rfl rfl
theorem w_288 : (Jvm.Cond.code ({ cls := "MoonDials$Reader", name := "<init>", desc := "()V" } : Jvm.MethodName) prog_6_method_1_code (1 : Nat) (Option.none : Option Jvm.ClassFile.FieldType)) ∈ mGt := mGi_1 162 rfl rfl
theorem w_289 : (Jvm.Cond.methodLink "MoonDials$Reader" (3 : Nat) ({ cls := "java/lang/Object", name := "<init>", desc := "()V" } : Jvm.MethodName)) ∈ mGt := mGi_1 163 rfl rfl
theorem w_290 : (Jvm.Cond.classLink "MoonDials$Reader" (9 : Nat) "MoonDials$Garden") ∈ mGt := mGi_1 164 rfl rfl
theorem w_292 : (Jvm.Cond.classLink "MoonDials$Reader" (18 : Nat) "MoonDials$Tokens") ∈ mGt := mGi_1 166 rfl rfl
theorem w_293 : (Jvm.Cond.instantiable "MoonDials$Tokens" (5 : Nat)) ∈ mGt := mGi_1 167 rfl rfl
theorem w_294 : (Jvm.Cond.methodLink "MoonDials$Reader" (20 : Nat) ({ cls := "MoonDials$Tokens", name := "<init>", desc := "()V" } : Jvm.MethodName)) ∈ mGt := mGi_1 168 rfl rfl
theorem w_295 : (Jvm.Cond.instanceMethod ({ cls := "MoonDials$Tokens", name := "<init>", desc := "()V" } : Jvm.MethodName)) ∈ mGt := mGi_1 169 rfl rfl
theorem w_296 : (Jvm.Cond.code ({ cls := "MoonDials$Tokens", name := "<init>", desc := "()V" } : Jvm.MethodName) prog_11_method_1_code (6 : Nat) (Option.none : Option Jvm.ClassFile.FieldType)) ∈ mGt := mGi_1 170 rfl rfl
theorem w_297 : (Jvm.Cond.methodLink "MoonDials$Tokens" (3 : Nat) ({ cls := "java/lang/Object", name := "<init>", desc := "()V" } : Jvm.MethodName)) ∈ mGt := mGi_1 171 rfl rfl
theorem w_299 : (Jvm.Cond.methodLink "MoonDials$Tokens" (28 : Nat) ({ cls := "java/lang/String", name := "length", desc := "()I" } : Jvm.MethodName)) ∈ mGt := mGi_1 173 rfl rfl
theorem w_309 : (Jvm.Cond.methodLink "MoonDials$Tokens" (34 : Nat) ({ cls := "java/lang/String", name := "charAt", desc := "(I)C" } : Jvm.MethodName)) ∈ mGt := mGi_1 183 rfl rfl
theorem w_347 : (Jvm.Cond.methodLink "MoonDials$Tokens" (38 : Nat) ({ cls := "MoonDials$Tokens", name := "withLetter", desc := "(JI)J" } : Jvm.MethodName)) ∈ mGt := mGi_1 221 rfl rfl
theorem w_348 : (Jvm.Cond.static ({ cls := "MoonDials$Tokens", name := "withLetter", desc := "(JI)J" } : Jvm.MethodName)) ∈ mGt := mGi_1 222 rfl rfl
theorem w_349 : (Jvm.Cond.code ({ cls := "MoonDials$Tokens", name := "withLetter", desc := "(JI)J" } : Jvm.MethodName) prog_11_method_12_code (3 : Nat) (Option.some Jvm.ClassFile.FieldType.long)) ∈ mGt := mGi_1 223 rfl rfl
theorem w_350 : (Jvm.Cond.constantLong "MoonDials$Tokens" (92 : Nat) (32 : Int64)) ∈ mGt := mGi_1 224 rfl rfl
theorem w_351 : (Jvm.Cond.fieldLink "MoonDials$Tokens" (11 : Nat) "MoonDials$Tokens" "wordKeys" "[J") ∈ mGt := mGi_1 225 rfl rfl
theorem w_352 : (Jvm.Cond.fieldLink "MoonDials$Tokens" (15 : Nat) "MoonDials$Tokens" "kinds" "[B") ∈ mGt := mGi_1 226 rfl rfl
theorem w_353 : (Jvm.Cond.fieldLink "MoonDials$Tokens" (19 : Nat) "MoonDials$Tokens" "places" "[I") ∈ mGt := mGi_1 227 rfl rfl
theorem w_354 : (Jvm.Cond.fieldLink "MoonDials$Tokens" (23 : Nat) "MoonDials$Tokens" "values" "[J") ∈ mGt := mGi_1 228 rfl rfl
theorem w_355 : (Jvm.Cond.fieldLink "MoonDials$Tokens" (42 : Nat) "MoonDials$Tokens" "size" "I") ∈ mGt := mGi_1 229 rfl rfl
theorem w_356 : (Jvm.Cond.laysFinal "MoonDials$Tokens" "MoonDials$Tokens" "wordKeys" "[J") ∈ mGt := mGi_1 230 rfl rfl
theorem w_358 : (Jvm.Cond.laysFinal "MoonDials$Tokens" "MoonDials$Tokens" "kinds" "[B") ∈ mGt := mGi_1 232 rfl rfl
theorem w_360 : (Jvm.Cond.laysFinal "MoonDials$Tokens" "MoonDials$Tokens" "places" "[I") ∈ mGt := mGi_1 234 rfl rfl
theorem w_362 : (Jvm.Cond.laysFinal "MoonDials$Tokens" "MoonDials$Tokens" "values" "[J") ∈ mGt := mGi_1 236 rfl rfl
theorem w_364 : (Jvm.Cond.lays "MoonDials$Tokens" "MoonDials$Tokens" "size" "I") ∈ mGt := mGi_1 238 rfl rfl
theorem w_367 : (Jvm.Cond.arrayClass Jvm.ClassFile.FieldType.long) ∈ mGt := mGi_2 1 rfl rfl
theorem w_368 : (Jvm.Cond.fieldLink "MoonDials$Reader" (12 : Nat) "MoonDials$Reader" "draft" "LMoonDials$Garden;") ∈ mGt := mGi_2 2 rfl rfl
theorem w_369 : (Jvm.Cond.fieldLink "MoonDials" (115 : Nat) "MoonDials$Reader" "draft" "LMoonDials$Garden;") ∈ mGt := mGi_2 3 rfl rfl
theorem w_370 : (Jvm.Cond.fieldLink "MoonDials$Reader" (21 : Nat) "MoonDials$Reader" "tokens" "LMoonDials$Tokens;") ∈ mGt := mGi_2 4 rfl rfl
theorem w_371 : (Jvm.Cond.fieldLink "MoonDials$Reader" (25 : Nat) "MoonDials$Reader" "dialNames" "[J") ∈ mGt := mGi_2 5 rfl rfl
theorem w_372 : (Jvm.Cond.fieldLink "MoonDials$Reader" (29 : Nat) "MoonDials$Reader" "goerNames" "[J") ∈ mGt := mGi_2 6 rfl rfl
theorem w_373 : (Jvm.Cond.fieldLink "MoonDials$Reader" (32 : Nat) "MoonDials$Reader" "waiting" "[I") ∈ mGt := mGi_2 7 rfl rfl
theorem w_374 : (Jvm.Cond.fieldLink "MoonDials$Reader" (146 : Nat) "MoonDials$Reader" "waitingSize" "I") ∈ mGt := mGi_2 8 rfl rfl
theorem w_375 : (Jvm.Cond.fieldLink "MoonDials$Reader" (149 : Nat) "MoonDials$Reader" "depth" "I") ∈ mGt := mGi_2 9 rfl rfl
theorem w_376 : (Jvm.Cond.fieldLink "MoonDials$Reader" (152 : Nat) "MoonDials$Reader" "needsUnit" "Z") ∈ mGt := mGi_2 10 rfl rfl
theorem w_377 : (Jvm.Cond.fieldLink "MoonDials$Reader" (43 : Nat) "MoonDials$Reader" "at" "I") ∈ mGt := mGi_2 11 rfl rfl
theorem w_378 : (Jvm.Cond.fieldLink "MoonDials$Reader" (47 : Nat) "MoonDials$Reader" "formFault" "I") ∈ mGt := mGi_2 12 rfl rfl
theorem w_379 : (Jvm.Cond.fieldLink "MoonDials$Reader" (50 : Nat) "MoonDials$Reader" "senseFault" "I") ∈ mGt := mGi_2 13 rfl rfl
theorem w_380 : (Jvm.Cond.fieldLink "MoonDials$Reader" (66 : Nat) "MoonDials$Reader" "sensePlace" "I") ∈ mGt := mGi_2 14 rfl rfl
theorem w_381 : (Jvm.Cond.laysFinal "MoonDials$Reader" "MoonDials$Reader" "draft" "LMoonDials$Garden;") ∈ mGt := mGi_2 15 rfl rfl
theorem w_383 : (Jvm.Cond.laysFinal "MoonDials$Reader" "MoonDials$Reader" "tokens" "LMoonDials$Tokens;") ∈ mGt := mGi_2 17 rfl rfl
theorem w_385 : (Jvm.Cond.laysFinal "MoonDials$Reader" "MoonDials$Reader" "dialNames" "[J") ∈ mGt := mGi_2 19 rfl rfl
theorem w_387 : (Jvm.Cond.laysFinal "MoonDials$Reader" "MoonDials$Reader" "goerNames" "[J") ∈ mGt := mGi_2 21 rfl rfl
theorem w_389 : (Jvm.Cond.laysFinal "MoonDials$Reader" "MoonDials$Reader" "waiting" "[I") ∈ mGt := mGi_2 23 rfl rfl
theorem w_391 : (Jvm.Cond.lays "MoonDials$Reader" "MoonDials$Reader" "waitingSize" "I") ∈ mGt := mGi_2 25 rfl rfl
theorem w_393 : (Jvm.Cond.lays "MoonDials$Reader" "MoonDials$Reader" "depth" "I") ∈ mGt := mGi_2 27 rfl rfl
theorem w_395 : (Jvm.Cond.lays "MoonDials$Reader" "MoonDials$Reader" "needsUnit" "Z") ∈ mGt := mGi_2 29 rfl rfl
theorem w_397 : (Jvm.Cond.lays "MoonDials$Reader" "MoonDials$Reader" "at" "I") ∈ mGt := mGi_2 31 rfl rfl
theorem w_399 : (Jvm.Cond.lays "MoonDials$Reader" "MoonDials$Reader" "formFault" "I") ∈ mGt := mGi_2 33 rfl rfl
theorem w_401 : (Jvm.Cond.lays "MoonDials$Reader" "MoonDials$Reader" "senseFault" "I") ∈ mGt := mGi_2 35 rfl rfl
theorem w_403 : (Jvm.Cond.lays "MoonDials$Reader" "MoonDials$Reader" "sensePlace" "I") ∈ mGt := mGi_2 37 rfl rfl
theorem w_406 : (Jvm.Cond.classLink "MoonDials" (34 : Nat) "MoonDials$Shelf") ∈ mGt := mGi_2 40 rfl rfl
theorem w_407 : (Jvm.Cond.instantiable "MoonDials$Shelf" (2 : Nat)) ∈ mGt := mGi_2 41 rfl rfl
theorem w_408 : (Jvm.Cond.methodLink "MoonDials" (36 : Nat) ({ cls := "MoonDials$Shelf", name := "<init>", desc := "(I)V" } : Jvm.MethodName)) ∈ mGt := mGi_2 42 rfl rfl
theorem w_409 : (Jvm.Cond.instanceMethod ({ cls := "MoonDials$Shelf", name := "<init>", desc := "(I)V" } : Jvm.MethodName)) ∈ mGt := mGi_2 43 rfl rfl
theorem w_410 : (Jvm.Cond.code ({ cls := "MoonDials$Shelf", name := "<init>", desc := "(I)V" } : Jvm.MethodName) prog_8_method_1_code (2 : Nat) (Option.none : Option Jvm.ClassFile.FieldType)) ∈ mGt := mGi_2 44 rfl rfl
theorem w_411 : (Jvm.Cond.methodLink "MoonDials$Shelf" (3 : Nat) ({ cls := "java/lang/Object", name := "<init>", desc := "()V" } : Jvm.MethodName)) ∈ mGt := mGi_2 45 rfl rfl
theorem w_412 : (Jvm.Cond.methodLink "MoonDials$Shelf" (9 : Nat) ({ cls := "java/lang/Math", name := "max", desc := "(II)I" } : Jvm.MethodName)) ∈ mGt := mGi_2 46 rfl rfl
theorem w_413 : (Jvm.Cond.static ({ cls := "java/lang/Math", name := "max", desc := "(II)I" } : Jvm.MethodName)) ∈ mGt := mGi_2 47 rfl rfl
theorem w_414 : (Jvm.Cond.code ({ cls := "java/lang/Math", name := "max", desc := "(II)I" } : Jvm.MethodName) prog_17_method_65_code (2 : Nat) (Option.some Jvm.ClassFile.FieldType.int)) ∈ mGt := mGi_2 48 rfl rfl
theorem w_415 : (Jvm.Cond.fieldLink "MoonDials$Shelf" (21 : Nat) "MoonDials$Shelf" "rows" "[I") ∈ mGt := mGi_2 49 rfl rfl
theorem w_416 : (Jvm.Cond.fieldLink "MoonDials$Shelf" (15 : Nat) "MoonDials$Shelf" "places" "I") ∈ mGt := mGi_2 50 rfl rfl
theorem w_417 : (Jvm.Cond.laysFinal "MoonDials$Shelf" "MoonDials$Shelf" "rows" "[I") ∈ mGt := mGi_2 51 rfl rfl
theorem w_419 : (Jvm.Cond.laysFinal "MoonDials$Shelf" "MoonDials$Shelf" "places" "I") ∈ mGt := mGi_2 53 rfl rfl
theorem w_422 : (Jvm.Cond.classLink "MoonDials" (46 : Nat) "MoonDials$Walk") ∈ mGt := mGi_2 56 rfl rfl
theorem w_423 : (Jvm.Cond.instantiable "MoonDials$Walk" (8 : Nat)) ∈ mGt := mGi_2 57 rfl rfl
theorem w_424 : (Jvm.Cond.methodLink "MoonDials" (48 : Nat) ({ cls := "MoonDials$Walk", name := "<init>", desc := "(LMoonDials$Garden;)V" } : Jvm.MethodName)) ∈ mGt := mGi_2 58 rfl rfl
theorem w_425 : (Jvm.Cond.instanceMethod ({ cls := "MoonDials$Walk", name := "<init>", desc := "(LMoonDials$Garden;)V" } : Jvm.MethodName)) ∈ mGt := mGi_2 59 rfl rfl
theorem w_426 : (Jvm.Cond.code ({ cls := "MoonDials$Walk", name := "<init>", desc := "(LMoonDials$Garden;)V" } : Jvm.MethodName) prog_12_method_1_code (2 : Nat) (Option.none : Option Jvm.ClassFile.FieldType)) ∈ mGt := mGi_2 60 rfl rfl
theorem w_427 : (Jvm.Cond.methodLink "MoonDials$Walk" (3 : Nat) ({ cls := "java/lang/Object", name := "<init>", desc := "()V" } : Jvm.MethodName)) ∈ mGt := mGi_2 61 rfl rfl
theorem w_428 : (Jvm.Cond.fieldLink "MoonDials$Walk" (9 : Nat) "MoonDials$Walk" "row" "[I") ∈ mGt := mGi_2 62 rfl rfl
theorem w_429 : (Jvm.Cond.fieldLink "MoonDials$Riddle" (48 : Nat) "MoonDials$Walk" "row" "[I") ∈ mGt := mGi_2 63 rfl rfl
theorem w_430 : (Jvm.Cond.fieldLink "MoonDials$Game" (59 : Nat) "MoonDials$Walk" "row" "[I") ∈ mGt := mGi_2 64 rfl rfl
theorem w_431 : (Jvm.Cond.fieldLink "MoonDials$Meetings" (61 : Nat) "MoonDials$Walk" "row" "[I") ∈ mGt := mGi_2 65 rfl rfl
theorem w_432 : (Jvm.Cond.fieldLink "MoonDials$Tallies" (77 : Nat) "MoonDials$Walk" "row" "[I") ∈ mGt := mGi_2 66 rfl rfl
theorem w_433 : (Jvm.Cond.fieldLink "MoonDials" (191 : Nat) "MoonDials$Walk" "row" "[I") ∈ mGt := mGi_2 67 rfl rfl
theorem w_434 : (Jvm.Cond.fieldLink "MoonDials$Walk" (15 : Nat) "MoonDials$Walk" "there" "[I") ∈ mGt := mGi_2 68 rfl rfl
theorem w_435 : (Jvm.Cond.fieldLink "MoonDials$Meetings" (45 : Nat) "MoonDials$Walk" "there" "[I") ∈ mGt := mGi_2 69 rfl rfl
theorem w_436 : (Jvm.Cond.fieldLink "MoonDials$Riddle" (55 : Nat) "MoonDials$Walk" "there" "[I") ∈ mGt := mGi_2 70 rfl rfl
theorem w_437 : (Jvm.Cond.fieldLink "MoonDials$Tallies" (49 : Nat) "MoonDials$Walk" "there" "[I") ∈ mGt := mGi_2 71 rfl rfl
theorem w_438 : (Jvm.Cond.fieldLink "MoonDials$Walk" (50 : Nat) "MoonDials$Walk" "any" "I") ∈ mGt := mGi_2 72 rfl rfl
theorem w_439 : (Jvm.Cond.fieldLink "MoonDials" (329 : Nat) "MoonDials$Walk" "any" "I") ∈ mGt := mGi_2 73 rfl rfl
theorem w_440 : (Jvm.Cond.fieldLink "MoonDials$Walk" (54 : Nat) "MoonDials$Walk" "two" "I") ∈ mGt := mGi_2 74 rfl rfl
theorem w_441 : (Jvm.Cond.fieldLink "MoonDials$Tallies" (52 : Nat) "MoonDials$Walk" "two" "I") ∈ mGt := mGi_2 75 rfl rfl
theorem w_442 : (Jvm.Cond.fieldLink "MoonDials$Meetings" (67 : Nat) "MoonDials$Walk" "two" "I") ∈ mGt := mGi_2 76 rfl rfl
theorem w_443 : (Jvm.Cond.fieldLink "MoonDials" (335 : Nat) "MoonDials$Walk" "two" "I") ∈ mGt := mGi_2 77 rfl rfl
theorem w_444 : (Jvm.Cond.fieldLink "MoonDials$Walk" (24 : Nat) "MoonDials$Walk" "garden" "LMoonDials$Garden;") ∈ mGt := mGi_2 78 rfl rfl
theorem w_445 : (Jvm.Cond.fieldLink "MoonDials$Walk" (18 : Nat) "MoonDials$Walk" "shown" "[I") ∈ mGt := mGi_2 79 rfl rfl
theorem w_446 : (Jvm.Cond.fieldLink "MoonDials$Walk" (21 : Nat) "MoonDials$Walk" "lengths" "[I") ∈ mGt := mGi_2 80 rfl rfl
theorem w_447 : (Jvm.Cond.fieldLink "MoonDials$Walk" (34 : Nat) "MoonDials$Walk" "asked" "Z") ∈ mGt := mGi_2 81 rfl rfl
theorem w_448 : (Jvm.Cond.laysFinal "MoonDials$Walk" "MoonDials$Walk" "row" "[I") ∈ mGt := mGi_2 82 rfl rfl
theorem w_450 : (Jvm.Cond.laysFinal "MoonDials$Walk" "MoonDials$Walk" "there" "[I") ∈ mGt := mGi_2 84 rfl rfl
theorem w_452 : (Jvm.Cond.lays "MoonDials$Walk" "MoonDials$Walk" "any" "I") ∈ mGt := mGi_2 86 rfl rfl
theorem w_454 : (Jvm.Cond.lays "MoonDials$Walk" "MoonDials$Walk" "two" "I") ∈ mGt := mGi_2 88 rfl rfl
theorem w_456 : (Jvm.Cond.laysFinal "MoonDials$Walk" "MoonDials$Walk" "garden" "LMoonDials$Garden;") ∈ mGt := mGi_2 90 rfl rfl
theorem w_458 : (Jvm.Cond.laysFinal "MoonDials$Walk" "MoonDials$Walk" "shown" "[I") ∈ mGt := mGi_2 92 rfl rfl
theorem w_460 : (Jvm.Cond.laysFinal "MoonDials$Walk" "MoonDials$Walk" "lengths" "[I") ∈ mGt := mGi_2 94 rfl rfl
theorem w_462 : (Jvm.Cond.lays "MoonDials$Walk" "MoonDials$Walk" "asked" "Z") ∈ mGt := mGi_2 96 rfl rfl
theorem w_465 : (Jvm.Cond.classLink "MoonDials" (55 : Nat) "MoonDials$Meetings") ∈ mGt := mGi_2 99 rfl rfl
theorem w_466 : (Jvm.Cond.instantiable "MoonDials$Meetings" (4 : Nat)) ∈ mGt := mGi_2 100 rfl rfl
theorem w_467 : (Jvm.Cond.methodLink "MoonDials" (57 : Nat) ({ cls := "MoonDials$Meetings", name := "<init>", desc := "(LMoonDials$Garden;LMoonDials$Walk;)V" } : Jvm.MethodName)) ∈ mGt := mGi_2 101 rfl rfl
theorem w_468 : (Jvm.Cond.instanceMethod ({ cls := "MoonDials$Meetings", name := "<init>", desc := "(LMoonDials$Garden;LMoonDials$Walk;)V" } : Jvm.MethodName)) ∈ mGt := mGi_2 102 rfl rfl
theorem w_469 : (Jvm.Cond.code ({ cls := "MoonDials$Meetings", name := "<init>", desc := "(LMoonDials$Garden;LMoonDials$Walk;)V" } : Jvm.MethodName) prog_5_method_1_code (3 : Nat) (Option.none : Option Jvm.ClassFile.FieldType)) ∈ mGt := mGi_2 103 rfl rfl
theorem w_470 : (Jvm.Cond.methodLink "MoonDials$Meetings" (3 : Nat) ({ cls := "java/lang/Object", name := "<init>", desc := "()V" } : Jvm.MethodName)) ∈ mGt := mGi_2 104 rfl rfl
theorem w_471 : (Jvm.Cond.fieldLink "MoonDials$Meetings" (29 : Nat) "MoonDials$Meetings" "hours" "I") ∈ mGt := mGi_2 105 rfl rfl
theorem w_472 : (Jvm.Cond.fieldLink "MoonDials" (210 : Nat) "MoonDials$Meetings" "hours" "I") ∈ mGt := mGi_2 106 rfl rfl
theorem w_473 : (Jvm.Cond.fieldLink "MoonDials$Meetings" (74 : Nat) "MoonDials$Meetings" "firstTwo" "I") ∈ mGt := mGi_2 107 rfl rfl
theorem w_474 : (Jvm.Cond.fieldLink "MoonDials" (246 : Nat) "MoonDials$Meetings" "firstTwo" "I") ∈ mGt := mGi_2 108 rfl rfl
theorem w_475 : (Jvm.Cond.fieldLink "MoonDials$Meetings" (9 : Nat) "MoonDials$Meetings" "garden" "LMoonDials$Garden;") ∈ mGt := mGi_2 109 rfl rfl
theorem w_476 : (Jvm.Cond.fieldLink "MoonDials$Meetings" (15 : Nat) "MoonDials$Meetings" "walk" "LMoonDials$Walk;") ∈ mGt := mGi_2 110 rfl rfl
theorem w_477 : (Jvm.Cond.lays "MoonDials$Meetings" "MoonDials$Meetings" "hours" "I") ∈ mGt := mGi_2 111 rfl rfl
theorem w_479 : (Jvm.Cond.lays "MoonDials$Meetings" "MoonDials$Meetings" "firstTwo" "I") ∈ mGt := mGi_2 113 rfl rfl
theorem w_481 : (Jvm.Cond.laysFinal "MoonDials$Meetings" "MoonDials$Meetings" "garden" "LMoonDials$Garden;") ∈ mGt := mGi_2 115 rfl rfl
theorem w_483 : (Jvm.Cond.laysFinal "MoonDials$Meetings" "MoonDials$Meetings" "walk" "LMoonDials$Walk;") ∈ mGt := mGi_2 117 rfl rfl
theorem w_486 : (Jvm.Cond.classLink "MoonDials" (64 : Nat) "MoonDials$Tallies") ∈ mGt := mGi_2 120 rfl rfl
theorem w_487 : (Jvm.Cond.instantiable "MoonDials$Tallies" (7 : Nat)) ∈ mGt := mGi_2 121 rfl rfl
theorem w_488 : (Jvm.Cond.methodLink "MoonDials" (66 : Nat) ({ cls := "MoonDials$Tallies", name := "<init>", desc := "(LMoonDials$Garden;LMoonDials$Walk;)V" } : Jvm.MethodName)) ∈ mGt := mGi_2 122 rfl rfl
theorem w_489 : (Jvm.Cond.instanceMethod ({ cls := "MoonDials$Tallies", name := "<init>", desc := "(LMoonDials$Garden;LMoonDials$Walk;)V" } : Jvm.MethodName)) ∈ mGt := mGi_2 123 rfl rfl
theorem w_490 : (Jvm.Cond.code ({ cls := "MoonDials$Tallies", name := "<init>", desc := "(LMoonDials$Garden;LMoonDials$Walk;)V" } : Jvm.MethodName) prog_9_method_1_code (3 : Nat) (Option.none : Option Jvm.ClassFile.FieldType)) ∈ mGt := mGi_2 124 rfl rfl
theorem w_491 : (Jvm.Cond.methodLink "MoonDials$Tallies" (3 : Nat) ({ cls := "java/lang/Object", name := "<init>", desc := "()V" } : Jvm.MethodName)) ∈ mGt := mGi_2 125 rfl rfl
theorem w_492 : (Jvm.Cond.fieldLink "MoonDials$Tallies" (65 : Nat) "MoonDials$Tallies" "most" "I") ∈ mGt := mGi_2 126 rfl rfl
theorem w_493 : (Jvm.Cond.fieldLink "MoonDials" (255 : Nat) "MoonDials$Tallies" "most" "I") ∈ mGt := mGi_2 127 rfl rfl
theorem w_494 : (Jvm.Cond.fieldLink "MoonDials$Tallies" (9 : Nat) "MoonDials$Tallies" "chosen" "[I") ∈ mGt := mGi_2 128 rfl rfl
theorem w_495 : (Jvm.Cond.fieldLink "MoonDials" (270 : Nat) "MoonDials$Tallies" "chosen" "[I") ∈ mGt := mGi_2 129 rfl rfl
theorem w_496 : (Jvm.Cond.fieldLink "MoonDials$Tallies" (24 : Nat) "MoonDials$Tallies" "garden" "LMoonDials$Garden;") ∈ mGt := mGi_2 130 rfl rfl
theorem w_497 : (Jvm.Cond.fieldLink "MoonDials$Tallies" (28 : Nat) "MoonDials$Tallies" "walk" "LMoonDials$Walk;") ∈ mGt := mGi_2 131 rfl rfl
theorem w_498 : (Jvm.Cond.fieldLink "MoonDials$Tallies" (15 : Nat) "MoonDials$Tallies" "shared" "[I") ∈ mGt := mGi_2 132 rfl rfl
theorem w_499 : (Jvm.Cond.fieldLink "MoonDials$Tallies" (18 : Nat) "MoonDials$Tallies" "busy" "[I") ∈ mGt := mGi_2 133 rfl rfl
theorem w_500 : (Jvm.Cond.fieldLink "MoonDials$Tallies" (21 : Nat) "MoonDials$Tallies" "partner" "[I") ∈ mGt := mGi_2 134 rfl rfl
theorem w_501 : (Jvm.Cond.lays "MoonDials$Tallies" "MoonDials$Tallies" "most" "I") ∈ mGt := mGi_2 135 rfl rfl
theorem w_503 : (Jvm.Cond.laysFinal "MoonDials$Tallies" "MoonDials$Tallies" "chosen" "[I") ∈ mGt := mGi_2 137 rfl rfl
theorem w_505 : (Jvm.Cond.laysFinal "MoonDials$Tallies" "MoonDials$Tallies" "garden" "LMoonDials$Garden;") ∈ mGt := mGi_2 139 rfl rfl
theorem w_507 : (Jvm.Cond.laysFinal "MoonDials$Tallies" "MoonDials$Tallies" "walk" "LMoonDials$Walk;") ∈ mGt := mGi_2 141 rfl rfl
theorem w_509 : (Jvm.Cond.laysFinal "MoonDials$Tallies" "MoonDials$Tallies" "shared" "[I") ∈ mGt := mGi_2 143 rfl rfl
theorem w_511 : (Jvm.Cond.laysFinal "MoonDials$Tallies" "MoonDials$Tallies" "busy" "[I") ∈ mGt := mGi_2 145 rfl rfl
theorem w_513 : (Jvm.Cond.laysFinal "MoonDials$Tallies" "MoonDials$Tallies" "partner" "[I") ∈ mGt := mGi_2 147 rfl rfl
theorem w_516 : (Jvm.Cond.classLink "MoonDials" (71 : Nat) "MoonDials$Game") ∈ mGt := mGi_2 150 rfl rfl
theorem w_517 : (Jvm.Cond.instantiable "MoonDials$Game" (6 : Nat)) ∈ mGt := mGi_2 151 rfl rfl
theorem w_518 : (Jvm.Cond.methodLink "MoonDials" (73 : Nat) ({ cls := "MoonDials$Game", name := "<init>", desc := "(LMoonDials$Garden;LMoonDials$Walk;)V" } : Jvm.MethodName)) ∈ mGt := mGi_2 152 rfl rfl
theorem w_519 : (Jvm.Cond.instanceMethod ({ cls := "MoonDials$Game", name := "<init>", desc := "(LMoonDials$Garden;LMoonDials$Walk;)V" } : Jvm.MethodName)) ∈ mGt := mGi_2 153 rfl rfl
theorem w_520 : (Jvm.Cond.code ({ cls := "MoonDials$Game", name := "<init>", desc := "(LMoonDials$Garden;LMoonDials$Walk;)V" } : Jvm.MethodName) prog_2_method_1_code (3 : Nat) (Option.none : Option Jvm.ClassFile.FieldType)) ∈ mGt := mGi_2 154 rfl rfl
theorem w_521 : (Jvm.Cond.methodLink "MoonDials$Game" (3 : Nat) ({ cls := "java/lang/Object", name := "<init>", desc := "()V" } : Jvm.MethodName)) ∈ mGt := mGi_2 155 rfl rfl
theorem w_522 : (Jvm.Cond.classLink "MoonDials$Game" (9 : Nat) "[[I") ∈ mGt := mGi_2 156 rfl rfl
theorem w_524 : (Jvm.Cond.fieldLink "MoonDials$Game" (50 : Nat) "MoonDials$Game" "firstMove" "I") ∈ mGt := mGi_2 158 rfl rfl
theorem w_525 : (Jvm.Cond.fieldLink "MoonDials" (280 : Nat) "MoonDials$Game" "firstMove" "I") ∈ mGt := mGi_2 159 rfl rfl
theorem w_526 : (Jvm.Cond.fieldLink "MoonDials$Game" (16 : Nat) "MoonDials$Game" "garden" "LMoonDials$Garden;") ∈ mGt := mGi_2 160 rfl rfl
theorem w_527 : (Jvm.Cond.fieldLink "MoonDials$Game" (20 : Nat) "MoonDials$Game" "walk" "LMoonDials$Walk;") ∈ mGt := mGi_2 161 rfl rfl
theorem w_528 : (Jvm.Cond.fieldLink "MoonDials$Game" (11 : Nat) "MoonDials$Game" "levels" "[[I") ∈ mGt := mGi_2 162 rfl rfl
theorem w_529 : (Jvm.Cond.fieldLink "MoonDials$Game" (24 : Nat) "MoonDials$Game" "dial" "I") ∈ mGt := mGi_2 163 rfl rfl
theorem w_530 : (Jvm.Cond.fieldLink "MoonDials$Game" (34 : Nat) "MoonDials$Game" "moves" "I") ∈ mGt := mGi_2 164 rfl rfl
theorem w_531 : (Jvm.Cond.lays "MoonDials$Game" "MoonDials$Game" "firstMove" "I") ∈ mGt := mGi_2 165 rfl rfl
theorem w_533 : (Jvm.Cond.laysFinal "MoonDials$Game" "MoonDials$Game" "garden" "LMoonDials$Garden;") ∈ mGt := mGi_2 167 rfl rfl
theorem w_535 : (Jvm.Cond.laysFinal "MoonDials$Game" "MoonDials$Game" "walk" "LMoonDials$Walk;") ∈ mGt := mGi_2 169 rfl rfl
theorem w_537 : (Jvm.Cond.laysFinal "MoonDials$Game" "MoonDials$Game" "levels" "[[I") ∈ mGt := mGi_2 171 rfl rfl
theorem w_539 : (Jvm.Cond.lays "MoonDials$Game" "MoonDials$Game" "dial" "I") ∈ mGt := mGi_2 173 rfl rfl
theorem w_541 : (Jvm.Cond.lays "MoonDials$Game" "MoonDials$Game" "moves" "I") ∈ mGt := mGi_2 175 rfl rfl
theorem w_544 : (Jvm.Cond.classLink "MoonDials" (78 : Nat) "MoonDials$Riddle") ∈ mGt := mGi_2 178 rfl rfl
theorem w_545 : (Jvm.Cond.instantiable "MoonDials$Riddle" (7 : Nat)) ∈ mGt := mGi_2 179 rfl rfl
theorem w_546 : (Jvm.Cond.methodLink "MoonDials" (80 : Nat) ({ cls := "MoonDials$Riddle", name := "<init>", desc := "(LMoonDials$Garden;LMoonDials$Walk;)V" } : Jvm.MethodName)) ∈ mGt := mGi_2 180 rfl rfl
theorem w_547 : (Jvm.Cond.instanceMethod ({ cls := "MoonDials$Riddle", name := "<init>", desc := "(LMoonDials$Garden;LMoonDials$Walk;)V" } : Jvm.MethodName)) ∈ mGt := mGi_2 181 rfl rfl
theorem w_548 : (Jvm.Cond.code ({ cls := "MoonDials$Riddle", name := "<init>", desc := "(LMoonDials$Garden;LMoonDials$Walk;)V" } : Jvm.MethodName) prog_7_method_1_code (3 : Nat) (Option.none : Option Jvm.ClassFile.FieldType)) ∈ mGt := mGi_2 182 rfl rfl
theorem w_549 : (Jvm.Cond.methodLink "MoonDials$Riddle" (3 : Nat) ({ cls := "java/lang/Object", name := "<init>", desc := "()V" } : Jvm.MethodName)) ∈ mGt := mGi_2 183 rfl rfl
theorem w_550 : (Jvm.Cond.fieldLink "MoonDials$Riddle" (9 : Nat) "MoonDials$Riddle" "told" "I") ∈ mGt := mGi_2 184 rfl rfl
theorem w_551 : (Jvm.Cond.fieldLink "MoonDials" (121 : Nat) "MoonDials$Riddle" "told" "I") ∈ mGt := mGi_2 185 rfl rfl
theorem w_552 : (Jvm.Cond.fieldLink "MoonDials$Riddle" (29 : Nat) "MoonDials$Riddle" "garden" "LMoonDials$Garden;") ∈ mGt := mGi_2 186 rfl rfl
theorem w_553 : (Jvm.Cond.fieldLink "MoonDials$Riddle" (33 : Nat) "MoonDials$Riddle" "walk" "LMoonDials$Walk;") ∈ mGt := mGi_2 187 rfl rfl
theorem w_554 : (Jvm.Cond.fieldLink "MoonDials$Riddle" (15 : Nat) "MoonDials$Riddle" "toldNight" "[I") ∈ mGt := mGi_2 188 rfl rfl
theorem w_555 : (Jvm.Cond.fieldLink "MoonDials$Riddle" (19 : Nat) "MoonDials$Riddle" "toldHour" "[I") ∈ mGt := mGi_2 189 rfl rfl
theorem w_556 : (Jvm.Cond.fieldLink "MoonDials$Riddle" (22 : Nat) "MoonDials$Riddle" "toldSo" "[Z") ∈ mGt := mGi_2 190 rfl rfl
theorem w_557 : (Jvm.Cond.fieldLink "MoonDials$Riddle" (26 : Nat) "MoonDials$Riddle" "seen" "[I") ∈ mGt := mGi_2 191 rfl rfl
theorem w_558 : (Jvm.Cond.lays "MoonDials$Riddle" "MoonDials$Riddle" "told" "I") ∈ mGt := mGi_2 192 rfl rfl
theorem w_560 : (Jvm.Cond.laysFinal "MoonDials$Riddle" "MoonDials$Riddle" "garden" "LMoonDials$Garden;") ∈ mGt := mGi_2 194 rfl rfl
theorem w_562 : (Jvm.Cond.laysFinal "MoonDials$Riddle" "MoonDials$Riddle" "walk" "LMoonDials$Walk;") ∈ mGt := mGi_2 196 rfl rfl
theorem w_564 : (Jvm.Cond.laysFinal "MoonDials$Riddle" "MoonDials$Riddle" "toldNight" "[I") ∈ mGt := mGi_2 198 rfl rfl
theorem w_566 : (Jvm.Cond.laysFinal "MoonDials$Riddle" "MoonDials$Riddle" "toldHour" "[I") ∈ mGt := mGi_2 200 rfl rfl
theorem w_568 : (Jvm.Cond.laysFinal "MoonDials$Riddle" "MoonDials$Riddle" "toldSo" "[Z") ∈ mGt := mGi_2 202 rfl rfl
theorem w_570 : (Jvm.Cond.laysFinal "MoonDials$Riddle" "MoonDials$Riddle" "seen" "[I") ∈ mGt := mGi_2 204 rfl rfl
theorem w_573 : (Jvm.Cond.arrayClass Jvm.ClassFile.FieldType.boolean) ∈ mGt := mGi_2 207 rfl rfl
theorem w_574 : (Jvm.Cond.methodLink "MoonDials" (98 : Nat) ({ cls := "MoonDials$Garden", name := "startIn", desc := "([I)V" } : Jvm.MethodName)) ∈ mGt := mGi_2 208 rfl rfl
theorem w_575 : (Jvm.Cond.instanceMethod ({ cls := "MoonDials$Garden", name := "startIn", desc := "([I)V" } : Jvm.MethodName)) ∈ mGt := mGi_2 209 rfl rfl
theorem w_576 : (Jvm.Cond.selects "MoonDials$Garden" ({ cls := "MoonDials$Garden", name := "startIn", desc := "([I)V" } : Jvm.MethodName) ({ cls := "MoonDials$Garden", name := "startIn", desc := "([I)V" } : Jvm.MethodName)) ∈ mGt := mGi_2 210 rfl rfl
theorem w_577 : (Jvm.Cond.code ({ cls := "MoonDials$Garden", name := "startIn", desc := "([I)V" } : Jvm.MethodName) prog_3_method_5_code (3 : Nat) (Option.none : Option Jvm.ClassFile.FieldType)) ∈ mGt := mGi_2 211 rfl rfl
theorem w_578 : (Jvm.Cond.methodLink "MoonDials$Garden" (58 : Nat) ({ cls := "java/lang/System", name := "arraycopy", desc := "(Ljava/lang/Object;ILjava/lang/Object;II)V" } : Jvm.MethodName)) ∈ mGt := mGi_2 212 rfl rfl
theorem w_579 : (Jvm.Cond.static ({ cls := "java/lang/System", name := "arraycopy", desc := "(Ljava/lang/Object;ILjava/lang/Object;II)V" } : Jvm.MethodName)) ∈ mGt := mGi_2 213 rfl rfl
theorem w_580 : (Jvm.Cond.native ({ cls := "java/lang/System", name := "arraycopy", desc := "(Ljava/lang/Object;ILjava/lang/Object;II)V" } : Jvm.MethodName)) ∈ mGt := mGi_2 214 rfl rfl
theorem w_581 : (Jvm.Cond.fieldLink "MoonDials" (12 : Nat) "MoonDials" "tape" "LMoonDials$Tape;") ∈ mGt := mGi_2 215 rfl rfl
theorem w_582 : (Jvm.Cond.fieldLink "MoonDials" (19 : Nat) "MoonDials" "garden" "LMoonDials$Garden;") ∈ mGt := mGi_2 216 rfl rfl
theorem w_583 : (Jvm.Cond.fieldLink "MoonDials" (26 : Nat) "MoonDials" "reader" "LMoonDials$Reader;") ∈ mGt := mGi_2 217 rfl rfl
theorem w_584 : (Jvm.Cond.fieldLink "MoonDials" (30 : Nat) "MoonDials" "now" "[I") ∈ mGt := mGi_2 218 rfl rfl
theorem w_585 : (Jvm.Cond.fieldLink "MoonDials" (39 : Nat) "MoonDials" "past" "LMoonDials$Shelf;") ∈ mGt := mGi_2 219 rfl rfl
theorem w_586 : (Jvm.Cond.fieldLink "MoonDials" (43 : Nat) "MoonDials" "slots" "LMoonDials$Shelf;") ∈ mGt := mGi_2 220 rfl rfl
theorem w_587 : (Jvm.Cond.fieldLink "MoonDials" (51 : Nat) "MoonDials" "walk" "LMoonDials$Walk;") ∈ mGt := mGi_2 221 rfl rfl
theorem w_588 : (Jvm.Cond.fieldLink "MoonDials" (60 : Nat) "MoonDials" "meetings" "LMoonDials$Meetings;") ∈ mGt := mGi_2 222 rfl rfl
theorem w_589 : (Jvm.Cond.fieldLink "MoonDials" (67 : Nat) "MoonDials" "tallies" "LMoonDials$Tallies;") ∈ mGt := mGi_2 223 rfl rfl
theorem w_590 : (Jvm.Cond.fieldLink "MoonDials" (74 : Nat) "MoonDials" "play" "LMoonDials$Game;") ∈ mGt := mGi_2 224 rfl rfl
theorem w_591 : (Jvm.Cond.fieldLink "MoonDials" (81 : Nat) "MoonDials" "riddle" "LMoonDials$Riddle;") ∈ mGt := mGi_2 225 rfl rfl
theorem w_592 : (Jvm.Cond.fieldLink "MoonDials" (85 : Nat) "MoonDials" "faultPlace" "I") ∈ mGt := mGi_2 226 rfl rfl
theorem w_593 : (Jvm.Cond.fieldLink "MoonDials" (89 : Nat) "MoonDials" "undoable" "I") ∈ mGt := mGi_2 227 rfl rfl
theorem w_594 : (Jvm.Cond.fieldLink "MoonDials" (92 : Nat) "MoonDials" "newest" "I") ∈ mGt := mGi_2 228 rfl rfl
theorem w_595 : (Jvm.Cond.fieldLink "MoonDials" (95 : Nat) "MoonDials" "heldSlots" "I") ∈ mGt := mGi_2 229 rfl rfl
theorem w_596 : (Jvm.Cond.laysFinal "MoonDials" "MoonDials" "tape" "LMoonDials$Tape;") ∈ mGt := mGi_2 230 rfl rfl
theorem w_598 : (Jvm.Cond.laysFinal "MoonDials" "MoonDials" "garden" "LMoonDials$Garden;") ∈ mGt := mGi_2 232 rfl rfl
theorem w_600 : (Jvm.Cond.laysFinal "MoonDials" "MoonDials" "reader" "LMoonDials$Reader;") ∈ mGt := mGi_2 234 rfl rfl
theorem w_602 : (Jvm.Cond.laysFinal "MoonDials" "MoonDials" "now" "[I") ∈ mGt := mGi_2 236 rfl rfl
theorem w_604 : (Jvm.Cond.laysFinal "MoonDials" "MoonDials" "past" "LMoonDials$Shelf;") ∈ mGt := mGi_2 238 rfl rfl
theorem w_606 : (Jvm.Cond.laysFinal "MoonDials" "MoonDials" "slots" "LMoonDials$Shelf;") ∈ mGt := mGi_3 0 rfl rfl
theorem w_608 : (Jvm.Cond.laysFinal "MoonDials" "MoonDials" "walk" "LMoonDials$Walk;") ∈ mGt := mGi_3 2 rfl rfl
theorem w_610 : (Jvm.Cond.laysFinal "MoonDials" "MoonDials" "meetings" "LMoonDials$Meetings;") ∈ mGt := mGi_3 4 rfl rfl
theorem w_612 : (Jvm.Cond.laysFinal "MoonDials" "MoonDials" "tallies" "LMoonDials$Tallies;") ∈ mGt := mGi_3 6 rfl rfl
theorem w_614 : (Jvm.Cond.laysFinal "MoonDials" "MoonDials" "play" "LMoonDials$Game;") ∈ mGt := mGi_3 8 rfl rfl
theorem w_616 : (Jvm.Cond.laysFinal "MoonDials" "MoonDials" "riddle" "LMoonDials$Riddle;") ∈ mGt := mGi_3 10 rfl rfl
theorem w_618 : (Jvm.Cond.lays "MoonDials" "MoonDials" "faultPlace" "I") ∈ mGt := mGi_3 12 rfl rfl
theorem w_620 : (Jvm.Cond.lays "MoonDials" "MoonDials" "undoable" "I") ∈ mGt := mGi_3 14 rfl rfl
theorem w_622 : (Jvm.Cond.lays "MoonDials" "MoonDials" "newest" "I") ∈ mGt := mGi_3 16 rfl rfl
theorem w_624 : (Jvm.Cond.lays "MoonDials" "MoonDials" "heldSlots" "I") ∈ mGt := mGi_3 18 rfl rfl
theorem w_627 : (Jvm.Cond.methodLink "MoonDialsLaw" (13 : Nat) ({ cls := "MoonDials", name := "feed", desc := "(IIIII)I" } : Jvm.MethodName)) ∈ mGt := mGi_3 21 rfl rfl
theorem w_628 : (Jvm.Cond.instanceMethod ({ cls := "MoonDials", name := "feed", desc := "(IIIII)I" } : Jvm.MethodName)) ∈ mGt := mGi_3 22 rfl rfl
theorem w_629 : (Jvm.Cond.selects "MoonDials" ({ cls := "MoonDials", name := "feed", desc := "(IIIII)I" } : Jvm.MethodName) ({ cls := "MoonDials", name := "feed", desc := "(IIIII)I" } : Jvm.MethodName)) ∈ mGt := mGi_3 23 rfl rfl
theorem w_630 : (Jvm.Cond.code ({ cls := "MoonDials", name := "feed", desc := "(IIIII)I" } : Jvm.MethodName) prog_1_method_2_code (6 : Nat) (Option.some Jvm.ClassFile.FieldType.int)) ∈ mGt := mGi_3 24 rfl rfl
theorem w_631 : (Jvm.Cond.methodLink "MoonDials" (105 : Nat) ({ cls := "MoonDials$Tape", name := "add", desc := "(I)V" } : Jvm.MethodName)) ∈ mGt := mGi_3 25 rfl rfl
theorem w_632 : (Jvm.Cond.instanceMethod ({ cls := "MoonDials$Tape", name := "add", desc := "(I)V" } : Jvm.MethodName)) ∈ mGt := mGi_3 26 rfl rfl
theorem w_633 : (Jvm.Cond.selects "MoonDials$Tape" ({ cls := "MoonDials$Tape", name := "add", desc := "(I)V" } : Jvm.MethodName) ({ cls := "MoonDials$Tape", name := "add", desc := "(I)V" } : Jvm.MethodName)) ∈ mGt := mGi_3 27 rfl rfl
theorem w_634 : (Jvm.Cond.code ({ cls := "MoonDials$Tape", name := "add", desc := "(I)V" } : Jvm.MethodName) prog_10_method_2_code (3 : Nat) (Option.none : Option Jvm.ClassFile.FieldType)) ∈ mGt := mGi_3 28 rfl rfl
theorem w_635 : (Jvm.Cond.methodLink "MoonDialsLaw" (18 : Nat) ({ cls := "MoonDials", name := "back", desc := "(I)I" } : Jvm.MethodName)) ∈ mGt := mGi_3 29 rfl rfl
theorem w_636 : (Jvm.Cond.instanceMethod ({ cls := "MoonDials", name := "back", desc := "(I)I" } : Jvm.MethodName)) ∈ mGt := mGi_3 30 rfl rfl
theorem w_637 : (Jvm.Cond.selects "MoonDials" ({ cls := "MoonDials", name := "back", desc := "(I)I" } : Jvm.MethodName) ({ cls := "MoonDials", name := "back", desc := "(I)I" } : Jvm.MethodName)) ∈ mGt := mGi_3 31 rfl rfl
theorem w_638 : (Jvm.Cond.code ({ cls := "MoonDials", name := "back", desc := "(I)I" } : Jvm.MethodName) prog_1_method_3_code (2 : Nat) (Option.some Jvm.ClassFile.FieldType.int)) ∈ mGt := mGi_3 32 rfl rfl
theorem w_639 : (Jvm.Cond.methodLink "MoonDialsLaw" (23 : Nat) ({ cls := "MoonDials", name := "read", desc := "()I" } : Jvm.MethodName)) ∈ mGt := mGi_3 33 rfl rfl
theorem w_640 : (Jvm.Cond.instanceMethod ({ cls := "MoonDials", name := "read", desc := "()I" } : Jvm.MethodName)) ∈ mGt := mGi_3 34 rfl rfl
theorem w_641 : (Jvm.Cond.selects "MoonDials" ({ cls := "MoonDials", name := "read", desc := "()I" } : Jvm.MethodName) ({ cls := "MoonDials", name := "read", desc := "()I" } : Jvm.MethodName)) ∈ mGt := mGi_3 35 rfl rfl
theorem w_642 : (Jvm.Cond.code ({ cls := "MoonDials", name := "read", desc := "()I" } : Jvm.MethodName) prog_1_method_4_code (2 : Nat) (Option.some Jvm.ClassFile.FieldType.int)) ∈ mGt := mGi_3 36 rfl rfl
theorem w_643 : (Jvm.Cond.methodLink "MoonDials" (108 : Nat) ({ cls := "MoonDials$Reader", name := "check", desc := "(LMoonDials$Tape;)I" } : Jvm.MethodName)) ∈ mGt := mGi_3 37 rfl rfl
theorem w_644 : (Jvm.Cond.instanceMethod ({ cls := "MoonDials$Reader", name := "check", desc := "(LMoonDials$Tape;)I" } : Jvm.MethodName)) ∈ mGt := mGi_3 38 rfl rfl
theorem w_645 : (Jvm.Cond.selects "MoonDials$Reader" ({ cls := "MoonDials$Reader", name := "check", desc := "(LMoonDials$Tape;)I" } : Jvm.MethodName) ({ cls := "MoonDials$Reader", name := "check", desc := "(LMoonDials$Tape;)I" } : Jvm.MethodName)) ∈ mGt := mGi_3 39 rfl rfl
theorem w_646 : (Jvm.Cond.code ({ cls := "MoonDials$Reader", name := "check", desc := "(LMoonDials$Tape;)I" } : Jvm.MethodName) prog_6_method_2_code (3 : Nat) (Option.some Jvm.ClassFile.FieldType.int)) ∈ mGt := mGi_3 40 rfl rfl
theorem w_647 : (Jvm.Cond.methodLink "MoonDials$Reader" (36 : Nat) ({ cls := "MoonDials$Tokens", name := "cut", desc := "(LMoonDials$Tape;)V" } : Jvm.MethodName)) ∈ mGt := mGi_3 41 rfl rfl
theorem w_648 : (Jvm.Cond.instanceMethod ({ cls := "MoonDials$Tokens", name := "cut", desc := "(LMoonDials$Tape;)V" } : Jvm.MethodName)) ∈ mGt := mGi_3 42 rfl rfl
theorem w_649 : (Jvm.Cond.selects "MoonDials$Tokens" ({ cls := "MoonDials$Tokens", name := "cut", desc := "(LMoonDials$Tape;)V" } : Jvm.MethodName) ({ cls := "MoonDials$Tokens", name := "cut", desc := "(LMoonDials$Tape;)V" } : Jvm.MethodName)) ∈ mGt := mGi_3 43 rfl rfl
theorem w_650 : (Jvm.Cond.code ({ cls := "MoonDials$Tokens", name := "cut", desc := "(LMoonDials$Tape;)V" } : Jvm.MethodName) prog_11_method_5_code (6 : Nat) (Option.none : Option Jvm.ClassFile.FieldType)) ∈ mGt := mGi_3 44 rfl rfl
theorem w_651 : (Jvm.Cond.methodLink "MoonDials$Tokens" (46 : Nat) ({ cls := "MoonDials$Tokens", name := "behindBlanks", desc := "(LMoonDials$Tape;I)I" } : Jvm.MethodName)) ∈ mGt := mGi_3 45 rfl rfl
theorem w_652 : (Jvm.Cond.static ({ cls := "MoonDials$Tokens", name := "behindBlanks", desc := "(LMoonDials$Tape;I)I" } : Jvm.MethodName)) ∈ mGt := mGi_3 46 rfl rfl
theorem w_653 : (Jvm.Cond.code ({ cls := "MoonDials$Tokens", name := "behindBlanks", desc := "(LMoonDials$Tape;I)I" } : Jvm.MethodName) prog_11_method_9_code (3 : Nat) (Option.some Jvm.ClassFile.FieldType.int)) ∈ mGt := mGi_3 47 rfl rfl
theorem w_654 : (Jvm.Cond.methodLink "MoonDials$Tokens" (50 : Nat) ({ cls := "MoonDials$Tape", name := "at", desc := "(I)I" } : Jvm.MethodName)) ∈ mGt := mGi_3 48 rfl rfl
theorem w_655 : (Jvm.Cond.instanceMethod ({ cls := "MoonDials$Tape", name := "at", desc := "(I)I" } : Jvm.MethodName)) ∈ mGt := mGi_3 49 rfl rfl
theorem w_656 : (Jvm.Cond.selects "MoonDials$Tape" ({ cls := "MoonDials$Tape", name := "at", desc := "(I)I" } : Jvm.MethodName) ({ cls := "MoonDials$Tape", name := "at", desc := "(I)I" } : Jvm.MethodName)) ∈ mGt := mGi_3 50 rfl rfl
theorem w_657 : (Jvm.Cond.code ({ cls := "MoonDials$Tape", name := "at", desc := "(I)I" } : Jvm.MethodName) prog_10_method_3_code (2 : Nat) (Option.some Jvm.ClassFile.FieldType.int)) ∈ mGt := mGi_3 51 rfl rfl
theorem w_658 : (Jvm.Cond.methodLink "MoonDials$Tokens" (87 : Nat) ({ cls := "MoonDials$Tokens", name := "isBlank", desc := "(I)Z" } : Jvm.MethodName)) ∈ mGt := mGi_3 52 rfl rfl
theorem w_659 : (Jvm.Cond.static ({ cls := "MoonDials$Tokens", name := "isBlank", desc := "(I)Z" } : Jvm.MethodName)) ∈ mGt := mGi_3 53 rfl rfl
theorem w_660 : (Jvm.Cond.code ({ cls := "MoonDials$Tokens", name := "isBlank", desc := "(I)Z" } : Jvm.MethodName) prog_11_method_15_code (1 : Nat) (Option.some Jvm.ClassFile.FieldType.boolean)) ∈ mGt := mGi_3 54 rfl rfl
theorem w_661 : (Jvm.Cond.methodLink "MoonDials$Tokens" (56 : Nat) ({ cls := "MoonDials$Tokens", name := "runLength", desc := "(LMoonDials$Tape;I)I" } : Jvm.MethodName)) ∈ mGt := mGi_3 55 rfl rfl
theorem w_662 : (Jvm.Cond.static ({ cls := "MoonDials$Tokens", name := "runLength", desc := "(LMoonDials$Tape;I)I" } : Jvm.MethodName)) ∈ mGt := mGi_3 56 rfl rfl
theorem w_663 : (Jvm.Cond.code ({ cls := "MoonDials$Tokens", name := "runLength", desc := "(LMoonDials$Tape;I)I" } : Jvm.MethodName) prog_11_method_8_code (4 : Nat) (Option.some Jvm.ClassFile.FieldType.int)) ∈ mGt := mGi_3 57 rfl rfl
theorem w_664 : (Jvm.Cond.methodLink "MoonDials$Tokens" (74 : Nat) ({ cls := "MoonDials$Tokens", name := "isLetter", desc := "(I)Z" } : Jvm.MethodName)) ∈ mGt := mGi_3 58 rfl rfl
theorem w_665 : (Jvm.Cond.static ({ cls := "MoonDials$Tokens", name := "isLetter", desc := "(I)Z" } : Jvm.MethodName)) ∈ mGt := mGi_3 59 rfl rfl
theorem w_666 : (Jvm.Cond.code ({ cls := "MoonDials$Tokens", name := "isLetter", desc := "(I)Z" } : Jvm.MethodName) prog_11_method_13_code (1 : Nat) (Option.some Jvm.ClassFile.FieldType.boolean)) ∈ mGt := mGi_3 60 rfl rfl
theorem w_667 : (Jvm.Cond.methodLink "MoonDials$Tokens" (63 : Nat) ({ cls := "MoonDials$Tokens", name := "isDigit", desc := "(I)Z" } : Jvm.MethodName)) ∈ mGt := mGi_3 61 rfl rfl
theorem w_668 : (Jvm.Cond.static ({ cls := "MoonDials$Tokens", name := "isDigit", desc := "(I)Z" } : Jvm.MethodName)) ∈ mGt := mGi_3 62 rfl rfl
theorem w_669 : (Jvm.Cond.code ({ cls := "MoonDials$Tokens", name := "isDigit", desc := "(I)Z" } : Jvm.MethodName) prog_11_method_14_code (1 : Nat) (Option.some Jvm.ClassFile.FieldType.boolean)) ∈ mGt := mGi_3 63 rfl rfl
theorem w_670 : (Jvm.Cond.methodLink "MoonDials$Tokens" (59 : Nat) ({ cls := "MoonDials$Tokens", name := "kindAt", desc := "(LMoonDials$Tape;II)I" } : Jvm.MethodName)) ∈ mGt := mGi_3 64 rfl rfl
theorem w_672 : (Jvm.Cond.instanceMethod ({ cls := "MoonDials$Tokens", name := "kindAt", desc := "(LMoonDials$Tape;II)I" } : Jvm.MethodName)) ∈ mGt := mGi_3 66 rfl rfl
theorem w_673 : (Jvm.Cond.code ({ cls := "MoonDials$Tokens", name := "kindAt", desc := "(LMoonDials$Tape;II)I" } : Jvm.MethodName) prog_11_method_6_code (6 : Nat) (Option.some Jvm.ClassFile.FieldType.int)) ∈ mGt := mGi_3 67 rfl rfl
theorem w_674 : (Jvm.Cond.methodLink "MoonDials$Tokens" (71 : Nat) ({ cls := "MoonDials$Tokens", name := "key", desc := "(LMoonDials$Tape;II)J" } : Jvm.MethodName)) ∈ mGt := mGi_3 68 rfl rfl
theorem w_675 : (Jvm.Cond.static ({ cls := "MoonDials$Tokens", name := "key", desc := "(LMoonDials$Tape;II)J" } : Jvm.MethodName)) ∈ mGt := mGi_3 69 rfl rfl
theorem w_676 : (Jvm.Cond.code ({ cls := "MoonDials$Tokens", name := "key", desc := "(LMoonDials$Tape;II)J" } : Jvm.MethodName) prog_11_method_10_code (6 : Nat) (Option.some Jvm.ClassFile.FieldType.long)) ∈ mGt := mGi_3 70 rfl rfl
theorem w_677 : (Jvm.Cond.methodLink "MoonDials$Tokens" (77 : Nat) ({ cls := "MoonDials$Tokens", name := "wordKind", desc := "(J)I" } : Jvm.MethodName)) ∈ mGt := mGi_3 71 rfl rfl
theorem w_679 : (Jvm.Cond.instanceMethod ({ cls := "MoonDials$Tokens", name := "wordKind", desc := "(J)I" } : Jvm.MethodName)) ∈ mGt := mGi_3 73 rfl rfl
theorem w_680 : (Jvm.Cond.code ({ cls := "MoonDials$Tokens", name := "wordKind", desc := "(J)I" } : Jvm.MethodName) prog_11_method_7_code (4 : Nat) (Option.some Jvm.ClassFile.FieldType.int)) ∈ mGt := mGi_3 74 rfl rfl
theorem w_682 : (Jvm.Cond.methodLink "MoonDials$Tokens" (83 : Nat) ({ cls := "java/lang/String", name := "indexOf", desc := "(I)I" } : Jvm.MethodName)) ∈ mGt := mGi_3 76 rfl rfl
theorem w_699 : (Jvm.Cond.static ({ cls := "java/lang/Math", name := "min", desc := "(II)I" } : Jvm.MethodName)) ∈ mGt := mGi_3 93 rfl rfl
theorem w_700 : (Jvm.Cond.code ({ cls := "java/lang/Math", name := "min", desc := "(II)I" } : Jvm.MethodName) prog_17_method_69_code (2 : Nat) (Option.some Jvm.ClassFile.FieldType.int)) ∈ mGt := mGi_3 94 rfl rfl
theorem w_739 : (Jvm.Cond.methodLink "MoonDials$Tokens" (67 : Nat) ({ cls := "MoonDials$Tokens", name := "number", desc := "(LMoonDials$Tape;II)J" } : Jvm.MethodName)) ∈ mGt := mGi_3 133 rfl rfl
theorem w_740 : (Jvm.Cond.static ({ cls := "MoonDials$Tokens", name := "number", desc := "(LMoonDials$Tape;II)J" } : Jvm.MethodName)) ∈ mGt := mGi_3 134 rfl rfl
theorem w_741 : (Jvm.Cond.code ({ cls := "MoonDials$Tokens", name := "number", desc := "(LMoonDials$Tape;II)J" } : Jvm.MethodName) prog_11_method_11_code (6 : Nat) (Option.some Jvm.ClassFile.FieldType.long)) ∈ mGt := mGi_3 135 rfl rfl
theorem w_742 : (Jvm.Cond.constantLong "MoonDials$Tokens" (90 : Nat) (10 : Int64)) ∈ mGt := mGi_3 136 rfl rfl
theorem w_743 : (Jvm.Cond.methodLink "MoonDials$Reader" (40 : Nat) ({ cls := "MoonDials$Garden", name := "clear", desc := "()V" } : Jvm.MethodName)) ∈ mGt := mGi_3 137 rfl rfl
theorem w_744 : (Jvm.Cond.instanceMethod ({ cls := "MoonDials$Garden", name := "clear", desc := "()V" } : Jvm.MethodName)) ∈ mGt := mGi_3 138 rfl rfl
theorem w_745 : (Jvm.Cond.selects "MoonDials$Garden" ({ cls := "MoonDials$Garden", name := "clear", desc := "()V" } : Jvm.MethodName) ({ cls := "MoonDials$Garden", name := "clear", desc := "()V" } : Jvm.MethodName)) ∈ mGt := mGi_3 139 rfl rfl
theorem w_746 : (Jvm.Cond.code ({ cls := "MoonDials$Garden", name := "clear", desc := "()V" } : Jvm.MethodName) prog_3_method_2_code (1 : Nat) (Option.none : Option Jvm.ClassFile.FieldType)) ∈ mGt := mGi_3 140 rfl rfl
theorem w_747 : (Jvm.Cond.methodLink "MoonDials$Garden" (47 : Nat) ({ cls := "MoonDials$Laws", name := "clear", desc := "()V" } : Jvm.MethodName)) ∈ mGt := mGi_3 141 rfl rfl
theorem w_748 : (Jvm.Cond.methodLink "MoonDials$Reader" (53 : Nat) ({ cls := "MoonDials$Tokens", name := "kindOf", desc := "(I)I" } : Jvm.MethodName)) ∈ mGt := mGi_3 142 rfl rfl
theorem w_749 : (Jvm.Cond.instanceMethod ({ cls := "MoonDials$Tokens", name := "kindOf", desc := "(I)I" } : Jvm.MethodName)) ∈ mGt := mGi_3 143 rfl rfl
theorem w_750 : (Jvm.Cond.selects "MoonDials$Tokens" ({ cls := "MoonDials$Tokens", name := "kindOf", desc := "(I)I" } : Jvm.MethodName) ({ cls := "MoonDials$Tokens", name := "kindOf", desc := "(I)I" } : Jvm.MethodName)) ∈ mGt := mGi_3 144 rfl rfl
theorem w_751 : (Jvm.Cond.code ({ cls := "MoonDials$Tokens", name := "kindOf", desc := "(I)I" } : Jvm.MethodName) prog_11_method_2_code (2 : Nat) (Option.some Jvm.ClassFile.FieldType.int)) ∈ mGt := mGi_3 145 rfl rfl
theorem w_752 : (Jvm.Cond.methodLink "MoonDials$Reader" (57 : Nat) ({ cls := "MoonDials$Reader", name := "readTell", desc := "()V" } : Jvm.MethodName)) ∈ mGt := mGi_3 146 rfl rfl
theorem w_754 : (Jvm.Cond.instanceMethod ({ cls := "MoonDials$Reader", name := "readTell", desc := "()V" } : Jvm.MethodName)) ∈ mGt := mGi_3 148 rfl rfl
theorem w_755 : (Jvm.Cond.code ({ cls := "MoonDials$Reader", name := "readTell", desc := "()V" } : Jvm.MethodName) prog_6_method_4_code (2 : Nat) (Option.none : Option Jvm.ClassFile.FieldType)) ∈ mGt := mGi_3 149 rfl rfl
theorem w_756 : (Jvm.Cond.methodLink "MoonDials$Reader" (69 : Nat) ({ cls := "MoonDials$Reader", name := "readHours", desc := "()V" } : Jvm.MethodName)) ∈ mGt := mGi_3 150 rfl rfl
theorem w_758 : (Jvm.Cond.instanceMethod ({ cls := "MoonDials$Reader", name := "readHours", desc := "()V" } : Jvm.MethodName)) ∈ mGt := mGi_3 152 rfl rfl
theorem w_759 : (Jvm.Cond.code ({ cls := "MoonDials$Reader", name := "readHours", desc := "()V" } : Jvm.MethodName) prog_6_method_5_code (1 : Nat) (Option.none : Option Jvm.ClassFile.FieldType)) ∈ mGt := mGi_3 153 rfl rfl
theorem w_760 : (Jvm.Cond.methodLink "MoonDials$Reader" (78 : Nat) ({ cls := "MoonDials$Reader", name := "take", desc := "(I)Z" } : Jvm.MethodName)) ∈ mGt := mGi_3 154 rfl rfl
theorem w_762 : (Jvm.Cond.instanceMethod ({ cls := "MoonDials$Reader", name := "take", desc := "(I)Z" } : Jvm.MethodName)) ∈ mGt := mGi_3 156 rfl rfl
theorem w_763 : (Jvm.Cond.code ({ cls := "MoonDials$Reader", name := "take", desc := "(I)Z" } : Jvm.MethodName) prog_6_method_15_code (2 : Nat) (Option.some Jvm.ClassFile.FieldType.boolean)) ∈ mGt := mGi_3 157 rfl rfl
theorem w_764 : (Jvm.Cond.methodLink "MoonDials$Reader" (93 : Nat) ({ cls := "MoonDials$Reader", name := "failForm", desc := "(I)V" } : Jvm.MethodName)) ∈ mGt := mGi_3 158 rfl rfl
theorem w_766 : (Jvm.Cond.instanceMethod ({ cls := "MoonDials$Reader", name := "failForm", desc := "(I)V" } : Jvm.MethodName)) ∈ mGt := mGi_3 160 rfl rfl
theorem w_767 : (Jvm.Cond.code ({ cls := "MoonDials$Reader", name := "failForm", desc := "(I)V" } : Jvm.MethodName) prog_6_method_20_code (2 : Nat) (Option.none : Option Jvm.ClassFile.FieldType)) ∈ mGt := mGi_3 161 rfl rfl
theorem w_768 : (Jvm.Cond.methodLink "MoonDials$Reader" (82 : Nat) ({ cls := "MoonDials$Reader", name := "takeInt", desc := "(II)I" } : Jvm.MethodName)) ∈ mGt := mGi_3 162 rfl rfl
theorem w_770 : (Jvm.Cond.instanceMethod ({ cls := "MoonDials$Reader", name := "takeInt", desc := "(II)I" } : Jvm.MethodName)) ∈ mGt := mGi_3 164 rfl rfl
theorem w_771 : (Jvm.Cond.code ({ cls := "MoonDials$Reader", name := "takeInt", desc := "(II)I" } : Jvm.MethodName) prog_6_method_16_code (4 : Nat) (Option.some Jvm.ClassFile.FieldType.int)) ∈ mGt := mGi_3 165 rfl rfl
theorem w_772 : (Jvm.Cond.methodLink "MoonDials$Reader" (166 : Nat) ({ cls := "MoonDials$Tokens", name := "valueOf", desc := "(I)J" } : Jvm.MethodName)) ∈ mGt := mGi_3 166 rfl rfl
theorem w_773 : (Jvm.Cond.instanceMethod ({ cls := "MoonDials$Tokens", name := "valueOf", desc := "(I)J" } : Jvm.MethodName)) ∈ mGt := mGi_3 167 rfl rfl
theorem w_774 : (Jvm.Cond.selects "MoonDials$Tokens" ({ cls := "MoonDials$Tokens", name := "valueOf", desc := "(I)J" } : Jvm.MethodName) ({ cls := "MoonDials$Tokens", name := "valueOf", desc := "(I)J" } : Jvm.MethodName)) ∈ mGt := mGi_3 168 rfl rfl
theorem w_775 : (Jvm.Cond.code ({ cls := "MoonDials$Tokens", name := "valueOf", desc := "(I)J" } : Jvm.MethodName) prog_11_method_4_code (2 : Nat) (Option.some Jvm.ClassFile.FieldType.long)) ∈ mGt := mGi_3 169 rfl rfl
theorem w_776 : (Jvm.Cond.methodLink "MoonDials$Reader" (181 : Nat) ({ cls := "MoonDials$Reader", name := "failSense", desc := "(I)V" } : Jvm.MethodName)) ∈ mGt := mGi_3 170 rfl rfl
theorem w_778 : (Jvm.Cond.instanceMethod ({ cls := "MoonDials$Reader", name := "failSense", desc := "(I)V" } : Jvm.MethodName)) ∈ mGt := mGi_3 172 rfl rfl
theorem w_779 : (Jvm.Cond.code ({ cls := "MoonDials$Reader", name := "failSense", desc := "(I)V" } : Jvm.MethodName) prog_6_method_21_code (2 : Nat) (Option.none : Option Jvm.ClassFile.FieldType)) ∈ mGt := mGi_3 173 rfl rfl
theorem w_780 : (Jvm.Cond.methodLink "MoonDials$Reader" (63 : Nat) ({ cls := "MoonDials$Tokens", name := "placeOf", desc := "(I)I" } : Jvm.MethodName)) ∈ mGt := mGi_3 174 rfl rfl
theorem w_781 : (Jvm.Cond.instanceMethod ({ cls := "MoonDials$Tokens", name := "placeOf", desc := "(I)I" } : Jvm.MethodName)) ∈ mGt := mGi_3 175 rfl rfl
theorem w_782 : (Jvm.Cond.selects "MoonDials$Tokens" ({ cls := "MoonDials$Tokens", name := "placeOf", desc := "(I)I" } : Jvm.MethodName) ({ cls := "MoonDials$Tokens", name := "placeOf", desc := "(I)I" } : Jvm.MethodName)) ∈ mGt := mGi_3 176 rfl rfl
theorem w_783 : (Jvm.Cond.code ({ cls := "MoonDials$Tokens", name := "placeOf", desc := "(I)I" } : Jvm.MethodName) prog_11_method_3_code (2 : Nat) (Option.some Jvm.ClassFile.FieldType.int)) ∈ mGt := mGi_3 177 rfl rfl
theorem w_784 : (Jvm.Cond.methodLink "MoonDials$Reader" (72 : Nat) ({ cls := "MoonDials$Reader", name := "readDial", desc := "()V" } : Jvm.MethodName)) ∈ mGt := mGi_3 178 rfl rfl
theorem w_786 : (Jvm.Cond.instanceMethod ({ cls := "MoonDials$Reader", name := "readDial", desc := "()V" } : Jvm.MethodName)) ∈ mGt := mGi_3 180 rfl rfl
theorem w_787 : (Jvm.Cond.code ({ cls := "MoonDials$Reader", name := "readDial", desc := "()V" } : Jvm.MethodName) prog_6_method_6_code (2 : Nat) (Option.none : Option Jvm.ClassFile.FieldType)) ∈ mGt := mGi_3 181 rfl rfl
theorem w_788 : (Jvm.Cond.methodLink "MoonDials$Reader" (102 : Nat) ({ cls := "MoonDials$Reader", name := "takeNewName", desc := "()J" } : Jvm.MethodName)) ∈ mGt := mGi_3 182 rfl rfl
theorem w_790 : (Jvm.Cond.instanceMethod ({ cls := "MoonDials$Reader", name := "takeNewName", desc := "()J" } : Jvm.MethodName)) ∈ mGt := mGi_3 184 rfl rfl
theorem w_791 : (Jvm.Cond.code ({ cls := "MoonDials$Reader", name := "takeNewName", desc := "()J" } : Jvm.MethodName) prog_6_method_17_code (3 : Nat) (Option.some Jvm.ClassFile.FieldType.long)) ∈ mGt := mGi_3 185 rfl rfl
theorem w_792 : (Jvm.Cond.methodLink "MoonDials$Reader" (184 : Nat) ({ cls := "MoonDials$Reader", name := "isAmong", desc := "([JIJ)Z" } : Jvm.MethodName)) ∈ mGt := mGi_3 186 rfl rfl
theorem w_793 : (Jvm.Cond.static ({ cls := "MoonDials$Reader", name := "isAmong", desc := "([JIJ)Z" } : Jvm.MethodName)) ∈ mGt := mGi_3 187 rfl rfl
theorem w_794 : (Jvm.Cond.code ({ cls := "MoonDials$Reader", name := "isAmong", desc := "([JIJ)Z" } : Jvm.MethodName) prog_6_method_19_code (5 : Nat) (Option.some Jvm.ClassFile.FieldType.boolean)) ∈ mGt := mGi_3 188 rfl rfl
theorem w_795 : (Jvm.Cond.methodLink "MoonDials$Reader" (75 : Nat) ({ cls := "MoonDials$Reader", name := "readGoer", desc := "()V" } : Jvm.MethodName)) ∈ mGt := mGi_3 189 rfl rfl
theorem w_797 : (Jvm.Cond.instanceMethod ({ cls := "MoonDials$Reader", name := "readGoer", desc := "()V" } : Jvm.MethodName)) ∈ mGt := mGi_3 191 rfl rfl
theorem w_798 : (Jvm.Cond.code ({ cls := "MoonDials$Reader", name := "readGoer", desc := "()V" } : Jvm.MethodName) prog_6_method_7_code (2 : Nat) (Option.none : Option Jvm.ClassFile.FieldType)) ∈ mGt := mGi_3 192 rfl rfl
theorem w_799 : (Jvm.Cond.methodLink "MoonDials$Reader" (118 : Nat) ({ cls := "MoonDials$Reader", name := "takeDialName", desc := "()I" } : Jvm.MethodName)) ∈ mGt := mGi_3 193 rfl rfl
theorem w_801 : (Jvm.Cond.instanceMethod ({ cls := "MoonDials$Reader", name := "takeDialName", desc := "()I" } : Jvm.MethodName)) ∈ mGt := mGi_3 195 rfl rfl
theorem w_802 : (Jvm.Cond.code ({ cls := "MoonDials$Reader", name := "takeDialName", desc := "()I" } : Jvm.MethodName) prog_6_method_18_code (5 : Nat) (Option.some Jvm.ClassFile.FieldType.int)) ∈ mGt := mGi_3 196 rfl rfl
theorem w_803 : (Jvm.Cond.methodLink "MoonDials$Reader" (89 : Nat) ({ cls := "MoonDials$Reader", name := "readLaw", desc := "(I)V" } : Jvm.MethodName)) ∈ mGt := mGi_3 197 rfl rfl
theorem w_805 : (Jvm.Cond.instanceMethod ({ cls := "MoonDials$Reader", name := "readLaw", desc := "(I)V" } : Jvm.MethodName)) ∈ mGt := mGi_3 199 rfl rfl
theorem w_806 : (Jvm.Cond.code ({ cls := "MoonDials$Reader", name := "readLaw", desc := "(I)V" } : Jvm.MethodName) prog_6_method_8_code (4 : Nat) (Option.none : Option Jvm.ClassFile.FieldType)) ∈ mGt := mGi_3 200 rfl rfl
theorem w_807 : (Jvm.Cond.methodLink "MoonDials$Reader" (132 : Nat) ({ cls := "MoonDials$Laws", name := "open", desc := "(I)V" } : Jvm.MethodName)) ∈ mGt := mGi_3 201 rfl rfl
theorem w_808 : (Jvm.Cond.methodLink "MoonDials$Reader" (137 : Nat) ({ cls := "MoonDials$Reader", name := "readSum", desc := "()V" } : Jvm.MethodName)) ∈ mGt := mGi_3 202 rfl rfl
theorem w_810 : (Jvm.Cond.instanceMethod ({ cls := "MoonDials$Reader", name := "readSum", desc := "()V" } : Jvm.MethodName)) ∈ mGt := mGi_3 204 rfl rfl
theorem w_811 : (Jvm.Cond.code ({ cls := "MoonDials$Reader", name := "readSum", desc := "()V" } : Jvm.MethodName) prog_6_method_9_code (3 : Nat) (Option.none : Option Jvm.ClassFile.FieldType)) ∈ mGt := mGi_3 205 rfl rfl
theorem w_812 : (Jvm.Cond.methodLink "MoonDials$Reader" (156 : Nat) ({ cls := "MoonDials$Reader", name := "readUnit", desc := "()Z" } : Jvm.MethodName)) ∈ mGt := mGi_3 206 rfl rfl
theorem w_814 : (Jvm.Cond.instanceMethod ({ cls := "MoonDials$Reader", name := "readUnit", desc := "()Z" } : Jvm.MethodName)) ∈ mGt := mGi_3 208 rfl rfl
theorem w_815 : (Jvm.Cond.code ({ cls := "MoonDials$Reader", name := "readUnit", desc := "()Z" } : Jvm.MethodName) prog_6_method_10_code (2 : Nat) (Option.some Jvm.ClassFile.FieldType.boolean)) ∈ mGt := mGi_3 209 rfl rfl
theorem w_816 : (Jvm.Cond.methodLink "MoonDials$Reader" (163 : Nat) ({ cls := "MoonDials$Reader", name := "letWait", desc := "(I)V" } : Jvm.MethodName)) ∈ mGt := mGi_3 210 rfl rfl
theorem w_818 : (Jvm.Cond.instanceMethod ({ cls := "MoonDials$Reader", name := "letWait", desc := "(I)V" } : Jvm.MethodName)) ∈ mGt := mGi_3 212 rfl rfl
theorem w_819 : (Jvm.Cond.code ({ cls := "MoonDials$Reader", name := "letWait", desc := "(I)V" } : Jvm.MethodName) prog_6_method_12_code (2 : Nat) (Option.none : Option Jvm.ClassFile.FieldType)) ∈ mGt := mGi_3 213 rfl rfl
theorem w_820 : (Jvm.Cond.methodLink "MoonDials$Reader" (140 : Nat) ({ cls := "MoonDials$Laws", name := "put", desc := "(II)I" } : Jvm.MethodName)) ∈ mGt := mGi_3 214 rfl rfl
theorem w_821 : (Jvm.Cond.methodLink "MoonDials$Reader" (160 : Nat) ({ cls := "MoonDials$Reader", name := "readSign", desc := "()Z" } : Jvm.MethodName)) ∈ mGt := mGi_3 215 rfl rfl
theorem w_823 : (Jvm.Cond.instanceMethod ({ cls := "MoonDials$Reader", name := "readSign", desc := "()Z" } : Jvm.MethodName)) ∈ mGt := mGi_3 217 rfl rfl
theorem w_824 : (Jvm.Cond.code ({ cls := "MoonDials$Reader", name := "readSign", desc := "()Z" } : Jvm.MethodName) prog_6_method_11_code (2 : Nat) (Option.some Jvm.ClassFile.FieldType.boolean)) ∈ mGt := mGi_3 218 rfl rfl
theorem w_825 : (Jvm.Cond.methodLink "MoonDials$Reader" (170 : Nat) ({ cls := "MoonDials$Reader", name := "rank", desc := "(I)I" } : Jvm.MethodName)) ∈ mGt := mGi_3 219 rfl rfl
theorem w_826 : (Jvm.Cond.static ({ cls := "MoonDials$Reader", name := "rank", desc := "(I)I" } : Jvm.MethodName)) ∈ mGt := mGi_3 220 rfl rfl
theorem w_827 : (Jvm.Cond.code ({ cls := "MoonDials$Reader", name := "rank", desc := "(I)I" } : Jvm.MethodName) prog_6_method_14_code (1 : Nat) (Option.some Jvm.ClassFile.FieldType.int)) ∈ mGt := mGi_3 221 rfl rfl
theorem w_828 : (Jvm.Cond.methodLink "MoonDials$Reader" (173 : Nat) ({ cls := "MoonDials$Reader", name := "putWaiting", desc := "(I)V" } : Jvm.MethodName)) ∈ mGt := mGi_3 222 rfl rfl
theorem w_830 : (Jvm.Cond.instanceMethod ({ cls := "MoonDials$Reader", name := "putWaiting", desc := "(I)V" } : Jvm.MethodName)) ∈ mGt := mGi_3 224 rfl rfl
theorem w_831 : (Jvm.Cond.code ({ cls := "MoonDials$Reader", name := "putWaiting", desc := "(I)V" } : Jvm.MethodName) prog_6_method_13_code (2 : Nat) (Option.none : Option Jvm.ClassFile.FieldType)) ∈ mGt := mGi_3 225 rfl rfl
theorem w_832 : (Jvm.Cond.methodLink "MoonDials$Reader" (176 : Nat) ({ cls := "java/lang/Math", name := "max", desc := "(II)I" } : Jvm.MethodName)) ∈ mGt := mGi_3 226 rfl rfl
theorem w_833 : (Jvm.Cond.methodLink "MoonDials$Reader" (143 : Nat) ({ cls := "MoonDials$Laws", name := "aimHere", desc := "(I)V" } : Jvm.MethodName)) ∈ mGt := mGi_3 227 rfl rfl
theorem w_834 : (Jvm.Cond.instanceMethod ({ cls := "MoonDials$Laws", name := "aimHere", desc := "(I)V" } : Jvm.MethodName)) ∈ mGt := mGi_3 228 rfl rfl
theorem w_835 : (Jvm.Cond.selects "MoonDials$Laws" ({ cls := "MoonDials$Laws", name := "aimHere", desc := "(I)V" } : Jvm.MethodName) ({ cls := "MoonDials$Laws", name := "aimHere", desc := "(I)V" } : Jvm.MethodName)) ∈ mGt := mGi_3 229 rfl rfl
theorem w_836 : (Jvm.Cond.code ({ cls := "MoonDials$Laws", name := "aimHere", desc := "(I)V" } : Jvm.MethodName) prog_4_method_7_code (2 : Nat) (Option.none : Option Jvm.ClassFile.FieldType)) ∈ mGt := mGi_3 230 rfl rfl
theorem w_837 : (Jvm.Cond.methodLink "MoonDials$Reader" (60 : Nat) ({ cls := "MoonDials$Garden", name := "settle", desc := "()V" } : Jvm.MethodName)) ∈ mGt := mGi_3 231 rfl rfl
theorem w_838 : (Jvm.Cond.instanceMethod ({ cls := "MoonDials$Garden", name := "settle", desc := "()V" } : Jvm.MethodName)) ∈ mGt := mGi_3 232 rfl rfl
theorem w_839 : (Jvm.Cond.selects "MoonDials$Garden" ({ cls := "MoonDials$Garden", name := "settle", desc := "()V" } : Jvm.MethodName) ({ cls := "MoonDials$Garden", name := "settle", desc := "()V" } : Jvm.MethodName)) ∈ mGt := mGi_3 233 rfl rfl
theorem w_840 : (Jvm.Cond.code ({ cls := "MoonDials$Garden", name := "settle", desc := "()V" } : Jvm.MethodName) prog_3_method_3_code (2 : Nat) (Option.none : Option Jvm.ClassFile.FieldType)) ∈ mGt := mGi_3 234 rfl rfl
theorem w_842 : (Jvm.Cond.static ({ cls := "MoonDials", name := "rest", desc := "(II)I" } : Jvm.MethodName)) ∈ mGt := mGi_3 236 rfl rfl
theorem w_843 : (Jvm.Cond.code ({ cls := "MoonDials", name := "rest", desc := "(II)I" } : Jvm.MethodName) prog_1_method_64_code (3 : Nat) (Option.some Jvm.ClassFile.FieldType.int)) ∈ mGt := mGi_3 237 rfl rfl
theorem w_844 : (Jvm.Cond.methodLink "MoonDials" (112 : Nat) ({ cls := "MoonDials$Reader", name := "faultPlace", desc := "()I" } : Jvm.MethodName)) ∈ mGt := mGi_3 238 rfl rfl
theorem w_845 : (Jvm.Cond.instanceMethod ({ cls := "MoonDials$Reader", name := "faultPlace", desc := "()I" } : Jvm.MethodName)) ∈ mGt := mGi_3 239 rfl rfl
theorem w_846 : (Jvm.Cond.selects "MoonDials$Reader" ({ cls := "MoonDials$Reader", name := "faultPlace", desc := "()I" } : Jvm.MethodName) ({ cls := "MoonDials$Reader", name := "faultPlace", desc := "()I" } : Jvm.MethodName)) ∈ mGt := mGi_4 0 rfl rfl
theorem w_847 : (Jvm.Cond.code ({ cls := "MoonDials$Reader", name := "faultPlace", desc := "()I" } : Jvm.MethodName) prog_6_method_3_code (1 : Nat) (Option.some Jvm.ClassFile.FieldType.int)) ∈ mGt := mGi_4 1 rfl rfl
theorem w_848 : (Jvm.Cond.methodLink "MoonDials" (118 : Nat) ({ cls := "MoonDials$Garden", name := "takeOver", desc := "(LMoonDials$Garden;)V" } : Jvm.MethodName)) ∈ mGt := mGi_4 2 rfl rfl
theorem w_849 : (Jvm.Cond.instanceMethod ({ cls := "MoonDials$Garden", name := "takeOver", desc := "(LMoonDials$Garden;)V" } : Jvm.MethodName)) ∈ mGt := mGi_4 3 rfl rfl
theorem w_850 : (Jvm.Cond.selects "MoonDials$Garden" ({ cls := "MoonDials$Garden", name := "takeOver", desc := "(LMoonDials$Garden;)V" } : Jvm.MethodName) ({ cls := "MoonDials$Garden", name := "takeOver", desc := "(LMoonDials$Garden;)V" } : Jvm.MethodName)) ∈ mGt := mGi_4 4 rfl rfl
theorem w_851 : (Jvm.Cond.code ({ cls := "MoonDials$Garden", name := "takeOver", desc := "(LMoonDials$Garden;)V" } : Jvm.MethodName) prog_3_method_4_code (2 : Nat) (Option.none : Option Jvm.ClassFile.FieldType)) ∈ mGt := mGi_4 5 rfl rfl
theorem w_852 : (Jvm.Cond.methodLink "MoonDials$Garden" (54 : Nat) ({ cls := "MoonDials$Laws", name := "takeOver", desc := "(LMoonDials$Laws;)V" } : Jvm.MethodName)) ∈ mGt := mGi_4 6 rfl rfl
theorem w_853 : (Jvm.Cond.instanceMethod ({ cls := "MoonDials$Laws", name := "takeOver", desc := "(LMoonDials$Laws;)V" } : Jvm.MethodName)) ∈ mGt := mGi_4 7 rfl rfl
theorem w_854 : (Jvm.Cond.selects "MoonDials$Laws" ({ cls := "MoonDials$Laws", name := "takeOver", desc := "(LMoonDials$Laws;)V" } : Jvm.MethodName) ({ cls := "MoonDials$Laws", name := "takeOver", desc := "(LMoonDials$Laws;)V" } : Jvm.MethodName)) ∈ mGt := mGi_4 8 rfl rfl
theorem w_855 : (Jvm.Cond.code ({ cls := "MoonDials$Laws", name := "takeOver", desc := "(LMoonDials$Laws;)V" } : Jvm.MethodName) prog_4_method_4_code (2 : Nat) (Option.none : Option Jvm.ClassFile.FieldType)) ∈ mGt := mGi_4 9 rfl rfl
theorem w_856 : (Jvm.Cond.methodLink "MoonDials$Laws" (46 : Nat) ({ cls := "java/lang/System", name := "arraycopy", desc := "(Ljava/lang/Object;ILjava/lang/Object;II)V" } : Jvm.MethodName)) ∈ mGt := mGi_4 10 rfl rfl
theorem w_857 : (Jvm.Cond.methodLink "MoonDialsLaw" (28 : Nat) ({ cls := "MoonDials", name := "place", desc := "()I" } : Jvm.MethodName)) ∈ mGt := mGi_4 11 rfl rfl
theorem w_858 : (Jvm.Cond.instanceMethod ({ cls := "MoonDials", name := "place", desc := "()I" } : Jvm.MethodName)) ∈ mGt := mGi_4 12 rfl rfl
theorem w_859 : (Jvm.Cond.selects "MoonDials" ({ cls := "MoonDials", name := "place", desc := "()I" } : Jvm.MethodName) ({ cls := "MoonDials", name := "place", desc := "()I" } : Jvm.MethodName)) ∈ mGt := mGi_4 13 rfl rfl
theorem w_860 : (Jvm.Cond.code ({ cls := "MoonDials", name := "place", desc := "()I" } : Jvm.MethodName) prog_1_method_5_code (1 : Nat) (Option.some Jvm.ClassFile.FieldType.int)) ∈ mGt := mGi_4 14 rfl rfl
theorem w_861 : (Jvm.Cond.methodLink "MoonDialsLaw" (32 : Nat) ({ cls := "MoonDials", name := "dial", desc := "(II)I" } : Jvm.MethodName)) ∈ mGt := mGi_4 15 rfl rfl
theorem w_862 : (Jvm.Cond.instanceMethod ({ cls := "MoonDials", name := "dial", desc := "(II)I" } : Jvm.MethodName)) ∈ mGt := mGi_4 16 rfl rfl
theorem w_863 : (Jvm.Cond.selects "MoonDials" ({ cls := "MoonDials", name := "dial", desc := "(II)I" } : Jvm.MethodName) ({ cls := "MoonDials", name := "dial", desc := "(II)I" } : Jvm.MethodName)) ∈ mGt := mGi_4 17 rfl rfl
theorem w_864 : (Jvm.Cond.code ({ cls := "MoonDials", name := "dial", desc := "(II)I" } : Jvm.MethodName) prog_1_method_6_code (3 : Nat) (Option.some Jvm.ClassFile.FieldType.int)) ∈ mGt := mGi_4 18 rfl rfl
theorem w_865 : (Jvm.Cond.methodLink "MoonDials" (124 : Nat) ({ cls := "MoonDials", name := "isDial", desc := "(I)Z" } : Jvm.MethodName)) ∈ mGt := mGi_4 19 rfl rfl
theorem w_867 : (Jvm.Cond.instanceMethod ({ cls := "MoonDials", name := "isDial", desc := "(I)Z" } : Jvm.MethodName)) ∈ mGt := mGi_4 21 rfl rfl
theorem w_868 : (Jvm.Cond.code ({ cls := "MoonDials", name := "isDial", desc := "(I)Z" } : Jvm.MethodName) prog_1_method_58_code (2 : Nat) (Option.some Jvm.ClassFile.FieldType.boolean)) ∈ mGt := mGi_4 22 rfl rfl
theorem w_869 : (Jvm.Cond.methodLink "MoonDials" (128 : Nat) ({ cls := "MoonDials$Walk", name := "begin", desc := "([I)V" } : Jvm.MethodName)) ∈ mGt := mGi_4 23 rfl rfl
theorem w_870 : (Jvm.Cond.instanceMethod ({ cls := "MoonDials$Walk", name := "begin", desc := "([I)V" } : Jvm.MethodName)) ∈ mGt := mGi_4 24 rfl rfl
theorem w_871 : (Jvm.Cond.selects "MoonDials$Walk" ({ cls := "MoonDials$Walk", name := "begin", desc := "([I)V" } : Jvm.MethodName) ({ cls := "MoonDials$Walk", name := "begin", desc := "([I)V" } : Jvm.MethodName)) ∈ mGt := mGi_4 25 rfl rfl
theorem w_872 : (Jvm.Cond.code ({ cls := "MoonDials$Walk", name := "begin", desc := "([I)V" } : Jvm.MethodName) prog_12_method_2_code (2 : Nat) (Option.none : Option Jvm.ClassFile.FieldType)) ∈ mGt := mGi_4 26 rfl rfl
theorem w_873 : (Jvm.Cond.methodLink "MoonDials$Walk" (28 : Nat) ({ cls := "java/lang/System", name := "arraycopy", desc := "(Ljava/lang/Object;ILjava/lang/Object;II)V" } : Jvm.MethodName)) ∈ mGt := mGi_4 27 rfl rfl
theorem w_874 : (Jvm.Cond.methodLink "MoonDials" (131 : Nat) ({ cls := "MoonDials$Walk", name := "dims", desc := "(I)I" } : Jvm.MethodName)) ∈ mGt := mGi_4 28 rfl rfl
theorem w_875 : (Jvm.Cond.instanceMethod ({ cls := "MoonDials$Walk", name := "dims", desc := "(I)I" } : Jvm.MethodName)) ∈ mGt := mGi_4 29 rfl rfl
theorem w_876 : (Jvm.Cond.selects "MoonDials$Walk" ({ cls := "MoonDials$Walk", name := "dims", desc := "(I)I" } : Jvm.MethodName) ({ cls := "MoonDials$Walk", name := "dims", desc := "(I)I" } : Jvm.MethodName)) ∈ mGt := mGi_4 30 rfl rfl
theorem w_877 : (Jvm.Cond.code ({ cls := "MoonDials$Walk", name := "dims", desc := "(I)I" } : Jvm.MethodName) prog_12_method_11_code (3 : Nat) (Option.some Jvm.ClassFile.FieldType.int)) ∈ mGt := mGi_4 31 rfl rfl
theorem w_878 : (Jvm.Cond.methodLink "MoonDials$Walk" (119 : Nat) ({ cls := "MoonDials$Walk", name := "setVars", desc := "(II)V" } : Jvm.MethodName)) ∈ mGt := mGi_4 32 rfl rfl
theorem w_880 : (Jvm.Cond.instanceMethod ({ cls := "MoonDials$Walk", name := "setVars", desc := "(II)V" } : Jvm.MethodName)) ∈ mGt := mGi_4 34 rfl rfl
theorem w_881 : (Jvm.Cond.code ({ cls := "MoonDials$Walk", name := "setVars", desc := "(II)V" } : Jvm.MethodName) prog_12_method_12_code (4 : Nat) (Option.none : Option Jvm.ClassFile.FieldType)) ∈ mGt := mGi_4 35 rfl rfl
theorem w_882 : (Jvm.Cond.methodLink "MoonDials$Walk" (126 : Nat) ({ cls := "MoonDials$Laws", name := "say", desc := "(I)I" } : Jvm.MethodName)) ∈ mGt := mGi_4 36 rfl rfl
theorem w_883 : (Jvm.Cond.instanceMethod ({ cls := "MoonDials$Laws", name := "say", desc := "(I)I" } : Jvm.MethodName)) ∈ mGt := mGi_4 37 rfl rfl
theorem w_884 : (Jvm.Cond.selects "MoonDials$Laws" ({ cls := "MoonDials$Laws", name := "say", desc := "(I)I" } : Jvm.MethodName) ({ cls := "MoonDials$Laws", name := "say", desc := "(I)I" } : Jvm.MethodName)) ∈ mGt := mGi_4 38 rfl rfl
theorem w_885 : (Jvm.Cond.code ({ cls := "MoonDials$Laws", name := "say", desc := "(I)I" } : Jvm.MethodName) prog_4_method_9_code (8 : Nat) (Option.some Jvm.ClassFile.FieldType.int)) ∈ mGt := mGi_4 39 rfl rfl
theorem w_887 : (Jvm.Cond.static ({ cls := "MoonDials", name := "held", desc := "(II)I" } : Jvm.MethodName)) ∈ mGt := mGi_4 41 rfl rfl
theorem w_888 : (Jvm.Cond.code ({ cls := "MoonDials", name := "held", desc := "(II)I" } : Jvm.MethodName) prog_1_method_65_code (2 : Nat) (Option.some Jvm.ClassFile.FieldType.int)) ∈ mGt := mGi_4 42 rfl rfl
theorem w_889 : (Jvm.Cond.methodLink "MoonDials" (138 : Nat) ({ cls := "MoonDials$Walk", name := "isDark", desc := "(II)Z" } : Jvm.MethodName)) ∈ mGt := mGi_4 43 rfl rfl
theorem w_890 : (Jvm.Cond.instanceMethod ({ cls := "MoonDials$Walk", name := "isDark", desc := "(II)Z" } : Jvm.MethodName)) ∈ mGt := mGi_4 44 rfl rfl
theorem w_891 : (Jvm.Cond.selects "MoonDials$Walk" ({ cls := "MoonDials$Walk", name := "isDark", desc := "(II)Z" } : Jvm.MethodName) ({ cls := "MoonDials$Walk", name := "isDark", desc := "(II)Z" } : Jvm.MethodName)) ∈ mGt := mGi_4 45 rfl rfl
theorem w_892 : (Jvm.Cond.code ({ cls := "MoonDials$Walk", name := "isDark", desc := "(II)Z" } : Jvm.MethodName) prog_12_method_14_code (3 : Nat) (Option.some Jvm.ClassFile.FieldType.boolean)) ∈ mGt := mGi_4 46 rfl rfl
theorem w_893 : (Jvm.Cond.methodLink "MoonDials$Walk" (68 : Nat) ({ cls := "MoonDials$Walk", name := "which", desc := "(I)I" } : Jvm.MethodName)) ∈ mGt := mGi_4 47 rfl rfl
theorem w_895 : (Jvm.Cond.instanceMethod ({ cls := "MoonDials$Walk", name := "which", desc := "(I)I" } : Jvm.MethodName)) ∈ mGt := mGi_4 49 rfl rfl
theorem w_896 : (Jvm.Cond.code ({ cls := "MoonDials$Walk", name := "which", desc := "(I)I" } : Jvm.MethodName) prog_12_method_15_code (2 : Nat) (Option.some Jvm.ClassFile.FieldType.int)) ∈ mGt := mGi_4 50 rfl rfl
theorem w_898 : (Jvm.Cond.static ({ cls := "MoonDials", name := "lot", desc := "(III)I" } : Jvm.MethodName)) ∈ mGt := mGi_4 52 rfl rfl
theorem w_899 : (Jvm.Cond.code ({ cls := "MoonDials", name := "lot", desc := "(III)I" } : Jvm.MethodName) prog_1_method_69_code (4 : Nat) (Option.some Jvm.ClassFile.FieldType.int)) ∈ mGt := mGi_4 53 rfl rfl
theorem w_900 : (Jvm.Cond.methodLink "MoonDials" (343 : Nat) ({ cls := "MoonDials", name := "mixed", desc := "(II)I" } : Jvm.MethodName)) ∈ mGt := mGi_4 54 rfl rfl
theorem w_901 : (Jvm.Cond.static ({ cls := "MoonDials", name := "mixed", desc := "(II)I" } : Jvm.MethodName)) ∈ mGt := mGi_4 55 rfl rfl
theorem w_902 : (Jvm.Cond.code ({ cls := "MoonDials", name := "mixed", desc := "(II)I" } : Jvm.MethodName) prog_1_method_70_code (3 : Nat) (Option.some Jvm.ClassFile.FieldType.int)) ∈ mGt := mGi_4 56 rfl rfl
theorem w_903 : (Jvm.Cond.constant "MoonDials" (346 : Nat) (1103515245 : Int32)) ∈ mGt := mGi_4 57 rfl rfl
theorem w_904 : (Jvm.Cond.methodLink "MoonDials" (148 : Nat) ({ cls := "MoonDials", name := "rest", desc := "(II)I" } : Jvm.MethodName)) ∈ mGt := mGi_4 58 rfl rfl
theorem w_905 : (Jvm.Cond.methodLink "MoonDials$Walk" (132 : Nat) ({ cls := "MoonDials$Walk", name := "dims", desc := "(I)I" } : Jvm.MethodName)) ∈ mGt := mGi_4 59 rfl rfl
theorem w_906 : (Jvm.Cond.methodLink "MoonDialsLaw" (37 : Nat) ({ cls := "MoonDials", name := "shows", desc := "(II)I" } : Jvm.MethodName)) ∈ mGt := mGi_4 60 rfl rfl
theorem w_907 : (Jvm.Cond.instanceMethod ({ cls := "MoonDials", name := "shows", desc := "(II)I" } : Jvm.MethodName)) ∈ mGt := mGi_4 61 rfl rfl
theorem w_908 : (Jvm.Cond.selects "MoonDials" ({ cls := "MoonDials", name := "shows", desc := "(II)I" } : Jvm.MethodName) ({ cls := "MoonDials", name := "shows", desc := "(II)I" } : Jvm.MethodName)) ∈ mGt := mGi_4 62 rfl rfl
theorem w_909 : (Jvm.Cond.code ({ cls := "MoonDials", name := "shows", desc := "(II)I" } : Jvm.MethodName) prog_1_method_7_code (3 : Nat) (Option.some Jvm.ClassFile.FieldType.int)) ∈ mGt := mGi_4 63 rfl rfl
theorem w_910 : (Jvm.Cond.methodLink "MoonDials" (142 : Nat) ({ cls := "MoonDials", name := "isHour", desc := "(I)Z" } : Jvm.MethodName)) ∈ mGt := mGi_4 64 rfl rfl
theorem w_912 : (Jvm.Cond.instanceMethod ({ cls := "MoonDials", name := "isHour", desc := "(I)Z" } : Jvm.MethodName)) ∈ mGt := mGi_4 66 rfl rfl
theorem w_913 : (Jvm.Cond.code ({ cls := "MoonDials", name := "isHour", desc := "(I)Z" } : Jvm.MethodName) prog_1_method_61_code (2 : Nat) (Option.some Jvm.ClassFile.FieldType.boolean)) ∈ mGt := mGi_4 67 rfl rfl
theorem w_914 : (Jvm.Cond.methodLink "MoonDialsLaw" (41 : Nat) ({ cls := "MoonDials", name := "goer", desc := "(II)I" } : Jvm.MethodName)) ∈ mGt := mGi_4 68 rfl rfl
theorem w_915 : (Jvm.Cond.instanceMethod ({ cls := "MoonDials", name := "goer", desc := "(II)I" } : Jvm.MethodName)) ∈ mGt := mGi_4 69 rfl rfl
theorem w_916 : (Jvm.Cond.selects "MoonDials" ({ cls := "MoonDials", name := "goer", desc := "(II)I" } : Jvm.MethodName) ({ cls := "MoonDials", name := "goer", desc := "(II)I" } : Jvm.MethodName)) ∈ mGt := mGi_4 70 rfl rfl
theorem w_917 : (Jvm.Cond.code ({ cls := "MoonDials", name := "goer", desc := "(II)I" } : Jvm.MethodName) prog_1_method_8_code (3 : Nat) (Option.some Jvm.ClassFile.FieldType.int)) ∈ mGt := mGi_4 71 rfl rfl
theorem w_918 : (Jvm.Cond.methodLink "MoonDials" (152 : Nat) ({ cls := "MoonDials", name := "isGoer", desc := "(I)Z" } : Jvm.MethodName)) ∈ mGt := mGi_4 72 rfl rfl
theorem w_920 : (Jvm.Cond.instanceMethod ({ cls := "MoonDials", name := "isGoer", desc := "(I)Z" } : Jvm.MethodName)) ∈ mGt := mGi_4 74 rfl rfl
theorem w_921 : (Jvm.Cond.code ({ cls := "MoonDials", name := "isGoer", desc := "(I)Z" } : Jvm.MethodName) prog_1_method_59_code (2 : Nat) (Option.some Jvm.ClassFile.FieldType.boolean)) ∈ mGt := mGi_4 75 rfl rfl
theorem w_922 : (Jvm.Cond.methodLink "MoonDials" (161 : Nat) ({ cls := "MoonDials$Walk", name := "lawOfGoer", desc := "(II)I" } : Jvm.MethodName)) ∈ mGt := mGi_4 76 rfl rfl
theorem w_923 : (Jvm.Cond.instanceMethod ({ cls := "MoonDials$Walk", name := "lawOfGoer", desc := "(II)I" } : Jvm.MethodName)) ∈ mGt := mGi_4 77 rfl rfl
theorem w_924 : (Jvm.Cond.selects "MoonDials$Walk" ({ cls := "MoonDials$Walk", name := "lawOfGoer", desc := "(II)I" } : Jvm.MethodName) ({ cls := "MoonDials$Walk", name := "lawOfGoer", desc := "(II)I" } : Jvm.MethodName)) ∈ mGt := mGi_4 78 rfl rfl
theorem w_925 : (Jvm.Cond.code ({ cls := "MoonDials$Walk", name := "lawOfGoer", desc := "(II)I" } : Jvm.MethodName) prog_12_method_10_code (5 : Nat) (Option.some Jvm.ClassFile.FieldType.int)) ∈ mGt := mGi_4 79 rfl rfl
theorem w_926 : (Jvm.Cond.methodLink "MoonDials$Walk" (86 : Nat) ({ cls := "MoonDials$Walk", name := "dialOf", desc := "(I)I" } : Jvm.MethodName)) ∈ mGt := mGi_4 80 rfl rfl
theorem w_928 : (Jvm.Cond.instanceMethod ({ cls := "MoonDials$Walk", name := "dialOf", desc := "(I)I" } : Jvm.MethodName)) ∈ mGt := mGi_4 82 rfl rfl
theorem w_929 : (Jvm.Cond.code ({ cls := "MoonDials$Walk", name := "dialOf", desc := "(I)I" } : Jvm.MethodName) prog_12_method_13_code (2 : Nat) (Option.some Jvm.ClassFile.FieldType.int)) ∈ mGt := mGi_4 83 rfl rfl
theorem w_930 : (Jvm.Cond.methodLink "MoonDialsLaw" (45 : Nat) ({ cls := "MoonDials", name := "together", desc := "(II)I" } : Jvm.MethodName)) ∈ mGt := mGi_4 84 rfl rfl
theorem w_931 : (Jvm.Cond.instanceMethod ({ cls := "MoonDials", name := "together", desc := "(II)I" } : Jvm.MethodName)) ∈ mGt := mGi_4 85 rfl rfl
theorem w_932 : (Jvm.Cond.selects "MoonDials" ({ cls := "MoonDials", name := "together", desc := "(II)I" } : Jvm.MethodName) ({ cls := "MoonDials", name := "together", desc := "(II)I" } : Jvm.MethodName)) ∈ mGt := mGi_4 86 rfl rfl
theorem w_933 : (Jvm.Cond.code ({ cls := "MoonDials", name := "together", desc := "(II)I" } : Jvm.MethodName) prog_1_method_9_code (3 : Nat) (Option.some Jvm.ClassFile.FieldType.int)) ∈ mGt := mGi_4 87 rfl rfl
theorem w_934 : (Jvm.Cond.methodLink "MoonDials" (164 : Nat) ({ cls := "MoonDials", name := "areTwo", desc := "(II)Z" } : Jvm.MethodName)) ∈ mGt := mGi_4 88 rfl rfl
theorem w_936 : (Jvm.Cond.instanceMethod ({ cls := "MoonDials", name := "areTwo", desc := "(II)Z" } : Jvm.MethodName)) ∈ mGt := mGi_4 90 rfl rfl
theorem w_937 : (Jvm.Cond.code ({ cls := "MoonDials", name := "areTwo", desc := "(II)Z" } : Jvm.MethodName) prog_1_method_60_code (3 : Nat) (Option.some Jvm.ClassFile.FieldType.boolean)) ∈ mGt := mGi_4 91 rfl rfl
theorem w_938 : (Jvm.Cond.methodLink "MoonDials" (167 : Nat) ({ cls := "MoonDials", name := "pair", desc := "(II)I" } : Jvm.MethodName)) ∈ mGt := mGi_4 92 rfl rfl
theorem w_939 : (Jvm.Cond.static ({ cls := "MoonDials", name := "pair", desc := "(II)I" } : Jvm.MethodName)) ∈ mGt := mGi_4 93 rfl rfl
theorem w_940 : (Jvm.Cond.code ({ cls := "MoonDials", name := "pair", desc := "(II)I" } : Jvm.MethodName) prog_1_method_66_code (2 : Nat) (Option.some Jvm.ClassFile.FieldType.int)) ∈ mGt := mGi_4 94 rfl rfl
theorem w_941 : (Jvm.Cond.methodLink "MoonDialsLaw" (49 : Nat) ({ cls := "MoonDials", name := "there", desc := "(I)I" } : Jvm.MethodName)) ∈ mGt := mGi_4 95 rfl rfl
theorem w_942 : (Jvm.Cond.instanceMethod ({ cls := "MoonDials", name := "there", desc := "(I)I" } : Jvm.MethodName)) ∈ mGt := mGi_4 96 rfl rfl
theorem w_943 : (Jvm.Cond.selects "MoonDials" ({ cls := "MoonDials", name := "there", desc := "(I)I" } : Jvm.MethodName) ({ cls := "MoonDials", name := "there", desc := "(I)I" } : Jvm.MethodName)) ∈ mGt := mGi_4 97 rfl rfl
theorem w_944 : (Jvm.Cond.code ({ cls := "MoonDials", name := "there", desc := "(I)I" } : Jvm.MethodName) prog_1_method_10_code (2 : Nat) (Option.some Jvm.ClassFile.FieldType.int)) ∈ mGt := mGi_4 98 rfl rfl
theorem w_945 : (Jvm.Cond.methodLink "MoonDials" (170 : Nat) ({ cls := "MoonDials", name := "seeThisNight", desc := "()V" } : Jvm.MethodName)) ∈ mGt := mGi_4 99 rfl rfl
theorem w_947 : (Jvm.Cond.instanceMethod ({ cls := "MoonDials", name := "seeThisNight", desc := "()V" } : Jvm.MethodName)) ∈ mGt := mGi_4 101 rfl rfl
theorem w_948 : (Jvm.Cond.code ({ cls := "MoonDials", name := "seeThisNight", desc := "()V" } : Jvm.MethodName) prog_1_method_54_code (1 : Nat) (Option.none : Option Jvm.ClassFile.FieldType)) ∈ mGt := mGi_4 102 rfl rfl
theorem w_949 : (Jvm.Cond.methodLink "MoonDials" (182 : Nat) ({ cls := "MoonDials$Walk", name := "see", desc := "(I)V" } : Jvm.MethodName)) ∈ mGt := mGi_4 103 rfl rfl
theorem w_950 : (Jvm.Cond.instanceMethod ({ cls := "MoonDials$Walk", name := "see", desc := "(I)V" } : Jvm.MethodName)) ∈ mGt := mGi_4 104 rfl rfl
theorem w_951 : (Jvm.Cond.selects "MoonDials$Walk" ({ cls := "MoonDials$Walk", name := "see", desc := "(I)V" } : Jvm.MethodName) ({ cls := "MoonDials$Walk", name := "see", desc := "(I)V" } : Jvm.MethodName)) ∈ mGt := mGi_4 105 rfl rfl
theorem w_952 : (Jvm.Cond.code ({ cls := "MoonDials$Walk", name := "see", desc := "(I)V" } : Jvm.MethodName) prog_12_method_3_code (5 : Nat) (Option.none : Option Jvm.ClassFile.FieldType)) ∈ mGt := mGi_4 106 rfl rfl
theorem w_953 : (Jvm.Cond.methodLink "MoonDials$Walk" (44 : Nat) ({ cls := "MoonDials$Laws", name := "changes", desc := "(I)Z" } : Jvm.MethodName)) ∈ mGt := mGi_4 107 rfl rfl
theorem w_954 : (Jvm.Cond.instanceMethod ({ cls := "MoonDials$Laws", name := "changes", desc := "(I)Z" } : Jvm.MethodName)) ∈ mGt := mGi_4 108 rfl rfl
theorem w_955 : (Jvm.Cond.selects "MoonDials$Laws" ({ cls := "MoonDials$Laws", name := "changes", desc := "(I)Z" } : Jvm.MethodName) ({ cls := "MoonDials$Laws", name := "changes", desc := "(I)Z" } : Jvm.MethodName)) ∈ mGt := mGi_4 109 rfl rfl
theorem w_956 : (Jvm.Cond.code ({ cls := "MoonDials$Laws", name := "changes", desc := "(I)Z" } : Jvm.MethodName) prog_4_method_8_code (2 : Nat) (Option.some Jvm.ClassFile.FieldType.boolean)) ∈ mGt := mGi_4 110 rfl rfl
theorem w_957 : (Jvm.Cond.methodLink "MoonDials$Walk" (60 : Nat) ({ cls := "MoonDials$Walk", name := "isDark", desc := "(II)Z" } : Jvm.MethodName)) ∈ mGt := mGi_4 111 rfl rfl
theorem w_958 : (Jvm.Cond.constant "MoonDials$Walk" (67 : Nat) (100000 : Int32)) ∈ mGt := mGi_4 112 rfl rfl
theorem w_959 : (Jvm.Cond.methodLink "MoonDials$Walk" (79 : Nat) ({ cls := "MoonDials$Walk", name := "lawOfGoer", desc := "(II)I" } : Jvm.MethodName)) ∈ mGt := mGi_4 113 rfl rfl
theorem w_960 : (Jvm.Cond.methodLink "MoonDials$Walk" (89 : Nat) ({ cls := "MoonDials$Walk", name := "arc", desc := "(II)I" } : Jvm.MethodName)) ∈ mGt := mGi_4 114 rfl rfl
theorem w_962 : (Jvm.Cond.instanceMethod ({ cls := "MoonDials$Walk", name := "arc", desc := "(II)I" } : Jvm.MethodName)) ∈ mGt := mGi_4 116 rfl rfl
theorem w_963 : (Jvm.Cond.code ({ cls := "MoonDials$Walk", name := "arc", desc := "(II)I" } : Jvm.MethodName) prog_12_method_4_code (5 : Nat) (Option.some Jvm.ClassFile.FieldType.int)) ∈ mGt := mGi_4 117 rfl rfl
theorem w_966 : (Jvm.Cond.static ({ cls := "MoonDials", name := "allHours", desc := "(I)I" } : Jvm.MethodName)) ∈ mGt := mGi_4 120 rfl rfl
theorem w_967 : (Jvm.Cond.code ({ cls := "MoonDials", name := "allHours", desc := "(I)I" } : Jvm.MethodName) prog_1_method_67_code (1 : Nat) (Option.some Jvm.ClassFile.FieldType.int)) ∈ mGt := mGi_4 121 rfl rfl
theorem w_968 : (Jvm.Cond.methodLink "MoonDials" (173 : Nat) ({ cls := "MoonDials$Walk", name := "whoAt", desc := "(I)I" } : Jvm.MethodName)) ∈ mGt := mGi_4 122 rfl rfl
theorem w_969 : (Jvm.Cond.instanceMethod ({ cls := "MoonDials$Walk", name := "whoAt", desc := "(I)I" } : Jvm.MethodName)) ∈ mGt := mGi_4 123 rfl rfl
theorem w_970 : (Jvm.Cond.selects "MoonDials$Walk" ({ cls := "MoonDials$Walk", name := "whoAt", desc := "(I)I" } : Jvm.MethodName) ({ cls := "MoonDials$Walk", name := "whoAt", desc := "(I)I" } : Jvm.MethodName)) ∈ mGt := mGi_4 124 rfl rfl
theorem w_971 : (Jvm.Cond.code ({ cls := "MoonDials$Walk", name := "whoAt", desc := "(I)I" } : Jvm.MethodName) prog_12_method_9_code (4 : Nat) (Option.some Jvm.ClassFile.FieldType.int)) ∈ mGt := mGi_4 125 rfl rfl
theorem w_972 : (Jvm.Cond.methodLink "MoonDialsLaw" (53 : Nat) ({ cls := "MoonDials", name := "turn", desc := "(II)I" } : Jvm.MethodName)) ∈ mGt := mGi_4 126 rfl rfl
theorem w_973 : (Jvm.Cond.instanceMethod ({ cls := "MoonDials", name := "turn", desc := "(II)I" } : Jvm.MethodName)) ∈ mGt := mGi_4 127 rfl rfl
theorem w_974 : (Jvm.Cond.selects "MoonDials" ({ cls := "MoonDials", name := "turn", desc := "(II)I" } : Jvm.MethodName) ({ cls := "MoonDials", name := "turn", desc := "(II)I" } : Jvm.MethodName)) ∈ mGt := mGi_4 128 rfl rfl
theorem w_975 : (Jvm.Cond.code ({ cls := "MoonDials", name := "turn", desc := "(II)I" } : Jvm.MethodName) prog_1_method_11_code (3 : Nat) (Option.some Jvm.ClassFile.FieldType.int)) ∈ mGt := mGi_4 129 rfl rfl
theorem w_976 : (Jvm.Cond.methodLink "MoonDials" (176 : Nat) ({ cls := "MoonDials", name := "keepForUndo", desc := "()V" } : Jvm.MethodName)) ∈ mGt := mGi_4 130 rfl rfl
theorem w_978 : (Jvm.Cond.instanceMethod ({ cls := "MoonDials", name := "keepForUndo", desc := "()V" } : Jvm.MethodName)) ∈ mGt := mGi_4 132 rfl rfl
theorem w_979 : (Jvm.Cond.code ({ cls := "MoonDials", name := "keepForUndo", desc := "()V" } : Jvm.MethodName) prog_1_method_55_code (1 : Nat) (Option.none : Option Jvm.ClassFile.FieldType)) ∈ mGt := mGi_4 133 rfl rfl
theorem w_980 : (Jvm.Cond.methodLink "MoonDials" (338 : Nat) ({ cls := "java/lang/Math", name := "min", desc := "(II)I" } : Jvm.MethodName)) ∈ mGt := mGi_4 134 rfl rfl
theorem w_981 : (Jvm.Cond.methodLink "MoonDials" (299 : Nat) ({ cls := "MoonDials$Shelf", name := "put", desc := "(I[I)V" } : Jvm.MethodName)) ∈ mGt := mGi_4 135 rfl rfl
theorem w_982 : (Jvm.Cond.instanceMethod ({ cls := "MoonDials$Shelf", name := "put", desc := "(I[I)V" } : Jvm.MethodName)) ∈ mGt := mGi_4 136 rfl rfl
theorem w_983 : (Jvm.Cond.selects "MoonDials$Shelf" ({ cls := "MoonDials$Shelf", name := "put", desc := "(I[I)V" } : Jvm.MethodName) ({ cls := "MoonDials$Shelf", name := "put", desc := "(I[I)V" } : Jvm.MethodName)) ∈ mGt := mGi_4 137 rfl rfl
theorem w_984 : (Jvm.Cond.code ({ cls := "MoonDials$Shelf", name := "put", desc := "(I[I)V" } : Jvm.MethodName) prog_8_method_2_code (3 : Nat) (Option.none : Option Jvm.ClassFile.FieldType)) ∈ mGt := mGi_4 138 rfl rfl
theorem w_985 : (Jvm.Cond.methodLink "MoonDials$Shelf" (25 : Nat) ({ cls := "java/lang/System", name := "arraycopy", desc := "(Ljava/lang/Object;ILjava/lang/Object;II)V" } : Jvm.MethodName)) ∈ mGt := mGi_4 139 rfl rfl
theorem w_986 : (Jvm.Cond.methodLink "MoonDialsLaw" (57 : Nat) ({ cls := "MoonDials", name := "follow", desc := "(II)Z" } : Jvm.MethodName)) ∈ mGt := mGi_4 140 rfl rfl
theorem w_987 : (Jvm.Cond.instanceMethod ({ cls := "MoonDials", name := "follow", desc := "(II)Z" } : Jvm.MethodName)) ∈ mGt := mGi_4 141 rfl rfl
theorem w_988 : (Jvm.Cond.selects "MoonDials" ({ cls := "MoonDials", name := "follow", desc := "(II)Z" } : Jvm.MethodName) ({ cls := "MoonDials", name := "follow", desc := "(II)Z" } : Jvm.MethodName)) ∈ mGt := mGi_4 142 rfl rfl
theorem w_989 : (Jvm.Cond.code ({ cls := "MoonDials", name := "follow", desc := "(II)Z" } : Jvm.MethodName) prog_1_method_12_code (3 : Nat) (Option.some Jvm.ClassFile.FieldType.boolean)) ∈ mGt := mGi_4 143 rfl rfl
theorem w_990 : (Jvm.Cond.methodLink "MoonDialsLaw" (62 : Nat) ({ cls := "MoonDials", name := "slip", desc := "(II)Z" } : Jvm.MethodName)) ∈ mGt := mGi_4 144 rfl rfl
theorem w_991 : (Jvm.Cond.instanceMethod ({ cls := "MoonDials", name := "slip", desc := "(II)Z" } : Jvm.MethodName)) ∈ mGt := mGi_4 145 rfl rfl
theorem w_992 : (Jvm.Cond.selects "MoonDials" ({ cls := "MoonDials", name := "slip", desc := "(II)Z" } : Jvm.MethodName) ({ cls := "MoonDials", name := "slip", desc := "(II)Z" } : Jvm.MethodName)) ∈ mGt := mGi_4 146 rfl rfl
theorem w_993 : (Jvm.Cond.code ({ cls := "MoonDials", name := "slip", desc := "(II)Z" } : Jvm.MethodName) prog_1_method_13_code (3 : Nat) (Option.some Jvm.ClassFile.FieldType.boolean)) ∈ mGt := mGi_4 147 rfl rfl
theorem w_994 : (Jvm.Cond.methodLink "MoonDialsLaw" (66 : Nat) ({ cls := "MoonDials", name := "nights", desc := "(I)I" } : Jvm.MethodName)) ∈ mGt := mGi_4 148 rfl rfl
theorem w_995 : (Jvm.Cond.instanceMethod ({ cls := "MoonDials", name := "nights", desc := "(I)I" } : Jvm.MethodName)) ∈ mGt := mGi_4 149 rfl rfl
theorem w_996 : (Jvm.Cond.selects "MoonDials" ({ cls := "MoonDials", name := "nights", desc := "(I)I" } : Jvm.MethodName) ({ cls := "MoonDials", name := "nights", desc := "(I)I" } : Jvm.MethodName)) ∈ mGt := mGi_4 150 rfl rfl
theorem w_997 : (Jvm.Cond.code ({ cls := "MoonDials", name := "nights", desc := "(I)I" } : Jvm.MethodName) prog_1_method_14_code (3 : Nat) (Option.some Jvm.ClassFile.FieldType.int)) ∈ mGt := mGi_4 151 rfl rfl
theorem w_998 : (Jvm.Cond.methodLink "MoonDials" (179 : Nat) ({ cls := "MoonDials", name := "isWithin", desc := "(II)Z" } : Jvm.MethodName)) ∈ mGt := mGi_4 152 rfl rfl
theorem w_999 : (Jvm.Cond.static ({ cls := "MoonDials", name := "isWithin", desc := "(II)Z" } : Jvm.MethodName)) ∈ mGt := mGi_4 153 rfl rfl
theorem w_1000 : (Jvm.Cond.code ({ cls := "MoonDials", name := "isWithin", desc := "(II)Z" } : Jvm.MethodName) prog_1_method_63_code (2 : Nat) (Option.some Jvm.ClassFile.FieldType.boolean)) ∈ mGt := mGi_4 154 rfl rfl
theorem w_1001 : (Jvm.Cond.methodLink "MoonDials" (185 : Nat) ({ cls := "MoonDials$Walk", name := "addPairs", desc := "()V" } : Jvm.MethodName)) ∈ mGt := mGi_4 155 rfl rfl
theorem w_1002 : (Jvm.Cond.instanceMethod ({ cls := "MoonDials$Walk", name := "addPairs", desc := "()V" } : Jvm.MethodName)) ∈ mGt := mGi_4 156 rfl rfl
theorem w_1003 : (Jvm.Cond.selects "MoonDials$Walk" ({ cls := "MoonDials$Walk", name := "addPairs", desc := "()V" } : Jvm.MethodName) ({ cls := "MoonDials$Walk", name := "addPairs", desc := "()V" } : Jvm.MethodName)) ∈ mGt := mGi_4 157 rfl rfl
theorem w_1004 : (Jvm.Cond.code ({ cls := "MoonDials$Walk", name := "addPairs", desc := "()V" } : Jvm.MethodName) prog_12_method_6_code (3 : Nat) (Option.none : Option Jvm.ClassFile.FieldType)) ∈ mGt := mGi_4 158 rfl rfl
theorem w_1006 : (Jvm.Cond.methodLink "MoonDials$Walk" (106 : Nat) ({ cls := "MoonDials$Walk", name := "shared", desc := "(II)I" } : Jvm.MethodName)) ∈ mGt := mGi_4 160 rfl rfl
theorem w_1007 : (Jvm.Cond.instanceMethod ({ cls := "MoonDials$Walk", name := "shared", desc := "(II)I" } : Jvm.MethodName)) ∈ mGt := mGi_4 161 rfl rfl
theorem w_1008 : (Jvm.Cond.selects "MoonDials$Walk" ({ cls := "MoonDials$Walk", name := "shared", desc := "(II)I" } : Jvm.MethodName) ({ cls := "MoonDials$Walk", name := "shared", desc := "(II)I" } : Jvm.MethodName)) ∈ mGt := mGi_4 162 rfl rfl
theorem w_1009 : (Jvm.Cond.code ({ cls := "MoonDials$Walk", name := "shared", desc := "(II)I" } : Jvm.MethodName) prog_12_method_8_code (3 : Nat) (Option.some Jvm.ClassFile.FieldType.int)) ∈ mGt := mGi_4 163 rfl rfl
theorem w_1010 : (Jvm.Cond.methodLink "MoonDials$Walk" (98 : Nat) ({ cls := "java/lang/Integer", name := "bitCount", desc := "(I)I" } : Jvm.MethodName)) ∈ mGt := mGi_4 164 rfl rfl
theorem w_1011 : (Jvm.Cond.static ({ cls := "java/lang/Integer", name := "bitCount", desc := "(I)I" } : Jvm.MethodName)) ∈ mGt := mGi_4 165 rfl rfl
theorem w_1012 : (Jvm.Cond.code ({ cls := "java/lang/Integer", name := "bitCount", desc := "(I)I" } : Jvm.MethodName) prog_16_method_49_code (1 : Nat) (Option.some Jvm.ClassFile.FieldType.int)) ∈ mGt := mGi_4 166 rfl rfl
theorem w_1013 : (Jvm.Cond.constant "java/lang/Integer" (265 : Nat) (1431655765 : Int32)) ∈ mGt := mGi_4 167 rfl rfl
theorem w_1014 : (Jvm.Cond.constant "java/lang/Integer" (266 : Nat) (858993459 : Int32)) ∈ mGt := mGi_4 168 rfl rfl
theorem w_1015 : (Jvm.Cond.constant "java/lang/Integer" (267 : Nat) (252645135 : Int32)) ∈ mGt := mGi_4 169 rfl rfl
theorem w_1016 : (Jvm.Cond.methodLink "MoonDials" (188 : Nat) ({ cls := "MoonDials$Walk", name := "pass", desc := "()V" } : Jvm.MethodName)) ∈ mGt := mGi_4 170 rfl rfl
theorem w_1017 : (Jvm.Cond.instanceMethod ({ cls := "MoonDials$Walk", name := "pass", desc := "()V" } : Jvm.MethodName)) ∈ mGt := mGi_4 171 rfl rfl
theorem w_1018 : (Jvm.Cond.selects "MoonDials$Walk" ({ cls := "MoonDials$Walk", name := "pass", desc := "()V" } : Jvm.MethodName) ({ cls := "MoonDials$Walk", name := "pass", desc := "()V" } : Jvm.MethodName)) ∈ mGt := mGi_4 172 rfl rfl
theorem w_1019 : (Jvm.Cond.code ({ cls := "MoonDials$Walk", name := "pass", desc := "()V" } : Jvm.MethodName) prog_12_method_5_code (2 : Nat) (Option.none : Option Jvm.ClassFile.FieldType)) ∈ mGt := mGi_4 173 rfl rfl
theorem w_1020 : (Jvm.Cond.methodLink "MoonDials" (194 : Nat) ({ cls := "java/lang/System", name := "arraycopy", desc := "(Ljava/lang/Object;ILjava/lang/Object;II)V" } : Jvm.MethodName)) ∈ mGt := mGi_4 174 rfl rfl
theorem w_1021 : (Jvm.Cond.methodLink "MoonDialsLaw" (70 : Nat) ({ cls := "MoonDials", name := "undo", desc := "()Z" } : Jvm.MethodName)) ∈ mGt := mGi_4 175 rfl rfl
theorem w_1022 : (Jvm.Cond.instanceMethod ({ cls := "MoonDials", name := "undo", desc := "()Z" } : Jvm.MethodName)) ∈ mGt := mGi_4 176 rfl rfl
theorem w_1023 : (Jvm.Cond.selects "MoonDials" ({ cls := "MoonDials", name := "undo", desc := "()Z" } : Jvm.MethodName) ({ cls := "MoonDials", name := "undo", desc := "()Z" } : Jvm.MethodName)) ∈ mGt := mGi_4 177 rfl rfl
theorem w_1024 : (Jvm.Cond.code ({ cls := "MoonDials", name := "undo", desc := "()Z" } : Jvm.MethodName) prog_1_method_15_code (1 : Nat) (Option.some Jvm.ClassFile.FieldType.boolean)) ∈ mGt := mGi_4 178 rfl rfl
theorem w_1025 : (Jvm.Cond.methodLink "MoonDials" (200 : Nat) ({ cls := "MoonDials$Shelf", name := "take", desc := "(I[I)V" } : Jvm.MethodName)) ∈ mGt := mGi_4 179 rfl rfl
theorem w_1026 : (Jvm.Cond.instanceMethod ({ cls := "MoonDials$Shelf", name := "take", desc := "(I[I)V" } : Jvm.MethodName)) ∈ mGt := mGi_4 180 rfl rfl
theorem w_1027 : (Jvm.Cond.selects "MoonDials$Shelf" ({ cls := "MoonDials$Shelf", name := "take", desc := "(I[I)V" } : Jvm.MethodName) ({ cls := "MoonDials$Shelf", name := "take", desc := "(I[I)V" } : Jvm.MethodName)) ∈ mGt := mGi_4 181 rfl rfl
theorem w_1028 : (Jvm.Cond.code ({ cls := "MoonDials$Shelf", name := "take", desc := "(I[I)V" } : Jvm.MethodName) prog_8_method_3_code (3 : Nat) (Option.none : Option Jvm.ClassFile.FieldType)) ∈ mGt := mGi_4 182 rfl rfl
theorem w_1029 : (Jvm.Cond.methodLink "MoonDialsLaw" (75 : Nat) ({ cls := "MoonDials", name := "meet", desc := "(II)I" } : Jvm.MethodName)) ∈ mGt := mGi_4 183 rfl rfl
theorem w_1030 : (Jvm.Cond.instanceMethod ({ cls := "MoonDials", name := "meet", desc := "(II)I" } : Jvm.MethodName)) ∈ mGt := mGi_4 184 rfl rfl
theorem w_1031 : (Jvm.Cond.selects "MoonDials" ({ cls := "MoonDials", name := "meet", desc := "(II)I" } : Jvm.MethodName) ({ cls := "MoonDials", name := "meet", desc := "(II)I" } : Jvm.MethodName)) ∈ mGt := mGi_4 185 rfl rfl
theorem w_1032 : (Jvm.Cond.code ({ cls := "MoonDials", name := "meet", desc := "(II)I" } : Jvm.MethodName) prog_1_method_16_code (4 : Nat) (Option.some Jvm.ClassFile.FieldType.int)) ∈ mGt := mGi_4 186 rfl rfl
theorem w_1033 : (Jvm.Cond.methodLink "MoonDials" (204 : Nat) ({ cls := "MoonDials", name := "isSet", desc := "(I)Z" } : Jvm.MethodName)) ∈ mGt := mGi_4 187 rfl rfl
theorem w_1035 : (Jvm.Cond.instanceMethod ({ cls := "MoonDials", name := "isSet", desc := "(I)Z" } : Jvm.MethodName)) ∈ mGt := mGi_4 189 rfl rfl
theorem w_1036 : (Jvm.Cond.code ({ cls := "MoonDials", name := "isSet", desc := "(I)Z" } : Jvm.MethodName) prog_1_method_62_code (2 : Nat) (Option.some Jvm.ClassFile.FieldType.boolean)) ∈ mGt := mGi_4 190 rfl rfl
theorem w_1037 : (Jvm.Cond.methodLink "MoonDials" (214 : Nat) ({ cls := "java/lang/Integer", name := "bitCount", desc := "(I)I" } : Jvm.MethodName)) ∈ mGt := mGi_4 191 rfl rfl
theorem w_1038 : (Jvm.Cond.methodLink "MoonDials" (207 : Nat) ({ cls := "MoonDials$Meetings", name := "firstNight", desc := "(II)I" } : Jvm.MethodName)) ∈ mGt := mGi_4 192 rfl rfl
theorem w_1039 : (Jvm.Cond.instanceMethod ({ cls := "MoonDials$Meetings", name := "firstNight", desc := "(II)I" } : Jvm.MethodName)) ∈ mGt := mGi_4 193 rfl rfl
theorem w_1040 : (Jvm.Cond.selects "MoonDials$Meetings" ({ cls := "MoonDials$Meetings", name := "firstNight", desc := "(II)I" } : Jvm.MethodName) ({ cls := "MoonDials$Meetings", name := "firstNight", desc := "(II)I" } : Jvm.MethodName)) ∈ mGt := mGi_4 194 rfl rfl
theorem w_1041 : (Jvm.Cond.code ({ cls := "MoonDials$Meetings", name := "firstNight", desc := "(II)I" } : Jvm.MethodName) prog_5_method_2_code (4 : Nat) (Option.some Jvm.ClassFile.FieldType.int)) ∈ mGt := mGi_4 195 rfl rfl
theorem w_1042 : (Jvm.Cond.methodLink "MoonDials$Meetings" (19 : Nat) ({ cls := "MoonDials$Walk", name := "see", desc := "(I)V" } : Jvm.MethodName)) ∈ mGt := mGi_4 196 rfl rfl
theorem w_1043 : (Jvm.Cond.methodLink "MoonDials$Meetings" (25 : Nat) ({ cls := "MoonDials$Meetings", name := "hoursOfAll", desc := "(I)I" } : Jvm.MethodName)) ∈ mGt := mGi_4 197 rfl rfl
theorem w_1045 : (Jvm.Cond.instanceMethod ({ cls := "MoonDials$Meetings", name := "hoursOfAll", desc := "(I)I" } : Jvm.MethodName)) ∈ mGt := mGi_4 199 rfl rfl
theorem w_1046 : (Jvm.Cond.code ({ cls := "MoonDials$Meetings", name := "hoursOfAll", desc := "(I)I" } : Jvm.MethodName) prog_5_method_3_code (4 : Nat) (Option.some Jvm.ClassFile.FieldType.int)) ∈ mGt := mGi_4 200 rfl rfl
theorem w_1048 : (Jvm.Cond.methodLink "MoonDials$Meetings" (33 : Nat) ({ cls := "MoonDials$Walk", name := "pass", desc := "()V" } : Jvm.MethodName)) ∈ mGt := mGi_4 202 rfl rfl
theorem w_1049 : (Jvm.Cond.methodLink "MoonDials" (211 : Nat) ({ cls := "MoonDials", name := "firstHour", desc := "(I)I" } : Jvm.MethodName)) ∈ mGt := mGi_4 203 rfl rfl
theorem w_1050 : (Jvm.Cond.static ({ cls := "MoonDials", name := "firstHour", desc := "(I)I" } : Jvm.MethodName)) ∈ mGt := mGi_4 204 rfl rfl
theorem w_1051 : (Jvm.Cond.code ({ cls := "MoonDials", name := "firstHour", desc := "(I)I" } : Jvm.MethodName) prog_1_method_68_code (1 : Nat) (Option.some Jvm.ClassFile.FieldType.int)) ∈ mGt := mGi_4 205 rfl rfl
theorem w_1052 : (Jvm.Cond.methodLink "MoonDialsLaw" (79 : Nat) ({ cls := "MoonDials", name := "often", desc := "(III)I" } : Jvm.MethodName)) ∈ mGt := mGi_4 206 rfl rfl
theorem w_1053 : (Jvm.Cond.instanceMethod ({ cls := "MoonDials", name := "often", desc := "(III)I" } : Jvm.MethodName)) ∈ mGt := mGi_4 207 rfl rfl
theorem w_1054 : (Jvm.Cond.selects "MoonDials" ({ cls := "MoonDials", name := "often", desc := "(III)I" } : Jvm.MethodName) ({ cls := "MoonDials", name := "often", desc := "(III)I" } : Jvm.MethodName)) ∈ mGt := mGi_4 208 rfl rfl
theorem w_1055 : (Jvm.Cond.code ({ cls := "MoonDials", name := "often", desc := "(III)I" } : Jvm.MethodName) prog_1_method_17_code (4 : Nat) (Option.some Jvm.ClassFile.FieldType.int)) ∈ mGt := mGi_4 209 rfl rfl
theorem w_1056 : (Jvm.Cond.methodLink "MoonDials" (219 : Nat) ({ cls := "MoonDials$Tallies", name := "sharedHours", desc := "(III)I" } : Jvm.MethodName)) ∈ mGt := mGi_4 210 rfl rfl
theorem w_1057 : (Jvm.Cond.instanceMethod ({ cls := "MoonDials$Tallies", name := "sharedHours", desc := "(III)I" } : Jvm.MethodName)) ∈ mGt := mGi_4 211 rfl rfl
theorem w_1058 : (Jvm.Cond.selects "MoonDials$Tallies" ({ cls := "MoonDials$Tallies", name := "sharedHours", desc := "(III)I" } : Jvm.MethodName) ({ cls := "MoonDials$Tallies", name := "sharedHours", desc := "(III)I" } : Jvm.MethodName)) ∈ mGt := mGi_4 212 rfl rfl
theorem w_1059 : (Jvm.Cond.code ({ cls := "MoonDials$Tallies", name := "sharedHours", desc := "(III)I" } : Jvm.MethodName) prog_9_method_2_code (6 : Nat) (Option.some Jvm.ClassFile.FieldType.int)) ∈ mGt := mGi_4 213 rfl rfl
theorem w_1060 : (Jvm.Cond.methodLink "MoonDials$Tallies" (32 : Nat) ({ cls := "MoonDials$Walk", name := "see", desc := "(I)V" } : Jvm.MethodName)) ∈ mGt := mGi_4 214 rfl rfl
theorem w_1061 : (Jvm.Cond.methodLink "MoonDials$Tallies" (38 : Nat) ({ cls := "MoonDials$Walk", name := "shared", desc := "(II)I" } : Jvm.MethodName)) ∈ mGt := mGi_4 215 rfl rfl
theorem w_1062 : (Jvm.Cond.methodLink "MoonDials$Tallies" (41 : Nat) ({ cls := "MoonDials$Walk", name := "pass", desc := "()V" } : Jvm.MethodName)) ∈ mGt := mGi_4 216 rfl rfl
theorem w_1063 : (Jvm.Cond.methodLink "MoonDialsLaw" (84 : Nat) ({ cls := "MoonDials", name := "alone", desc := "(II)I" } : Jvm.MethodName)) ∈ mGt := mGi_4 217 rfl rfl
theorem w_1064 : (Jvm.Cond.instanceMethod ({ cls := "MoonDials", name := "alone", desc := "(II)I" } : Jvm.MethodName)) ∈ mGt := mGi_4 218 rfl rfl
theorem w_1065 : (Jvm.Cond.selects "MoonDials" ({ cls := "MoonDials", name := "alone", desc := "(II)I" } : Jvm.MethodName) ({ cls := "MoonDials", name := "alone", desc := "(II)I" } : Jvm.MethodName)) ∈ mGt := mGi_4 219 rfl rfl
theorem w_1066 : (Jvm.Cond.code ({ cls := "MoonDials", name := "alone", desc := "(II)I" } : Jvm.MethodName) prog_1_method_18_code (3 : Nat) (Option.some Jvm.ClassFile.FieldType.int)) ∈ mGt := mGi_4 220 rfl rfl
theorem w_1067 : (Jvm.Cond.methodLink "MoonDials" (223 : Nat) ({ cls := "MoonDials$Tallies", name := "lonelyHours", desc := "(II)I" } : Jvm.MethodName)) ∈ mGt := mGi_4 221 rfl rfl
theorem w_1068 : (Jvm.Cond.instanceMethod ({ cls := "MoonDials$Tallies", name := "lonelyHours", desc := "(II)I" } : Jvm.MethodName)) ∈ mGt := mGi_4 222 rfl rfl
theorem w_1069 : (Jvm.Cond.selects "MoonDials$Tallies" ({ cls := "MoonDials$Tallies", name := "lonelyHours", desc := "(II)I" } : Jvm.MethodName) ({ cls := "MoonDials$Tallies", name := "lonelyHours", desc := "(II)I" } : Jvm.MethodName)) ∈ mGt := mGi_4 223 rfl rfl
theorem w_1070 : (Jvm.Cond.code ({ cls := "MoonDials$Tallies", name := "lonelyHours", desc := "(II)I" } : Jvm.MethodName) prog_9_method_4_code (5 : Nat) (Option.some Jvm.ClassFile.FieldType.int)) ∈ mGt := mGi_4 224 rfl rfl
theorem w_1071 : (Jvm.Cond.methodLink "MoonDials$Tallies" (56 : Nat) ({ cls := "java/lang/Integer", name := "bitCount", desc := "(I)I" } : Jvm.MethodName)) ∈ mGt := mGi_4 225 rfl rfl
theorem w_1072 : (Jvm.Cond.methodLink "MoonDialsLaw" (88 : Nat) ({ cls := "MoonDials", name := "earns", desc := "(II)I" } : Jvm.MethodName)) ∈ mGt := mGi_4 226 rfl rfl
theorem w_1073 : (Jvm.Cond.instanceMethod ({ cls := "MoonDials", name := "earns", desc := "(II)I" } : Jvm.MethodName)) ∈ mGt := mGi_4 227 rfl rfl
theorem w_1074 : (Jvm.Cond.selects "MoonDials" ({ cls := "MoonDials", name := "earns", desc := "(II)I" } : Jvm.MethodName) ({ cls := "MoonDials", name := "earns", desc := "(II)I" } : Jvm.MethodName)) ∈ mGt := mGi_4 228 rfl rfl
theorem w_1075 : (Jvm.Cond.code ({ cls := "MoonDials", name := "earns", desc := "(II)I" } : Jvm.MethodName) prog_1_method_19_code (3 : Nat) (Option.some Jvm.ClassFile.FieldType.int)) ∈ mGt := mGi_4 229 rfl rfl
theorem w_1076 : (Jvm.Cond.methodLink "MoonDials" (226 : Nat) ({ cls := "MoonDials$Tallies", name := "earnings", desc := "(II)I" } : Jvm.MethodName)) ∈ mGt := mGi_4 230 rfl rfl
theorem w_1077 : (Jvm.Cond.instanceMethod ({ cls := "MoonDials$Tallies", name := "earnings", desc := "(II)I" } : Jvm.MethodName)) ∈ mGt := mGi_4 231 rfl rfl
theorem w_1078 : (Jvm.Cond.selects "MoonDials$Tallies" ({ cls := "MoonDials$Tallies", name := "earnings", desc := "(II)I" } : Jvm.MethodName) ({ cls := "MoonDials$Tallies", name := "earnings", desc := "(II)I" } : Jvm.MethodName)) ∈ mGt := mGi_4 232 rfl rfl
theorem w_1079 : (Jvm.Cond.code ({ cls := "MoonDials$Tallies", name := "earnings", desc := "(II)I" } : Jvm.MethodName) prog_9_method_5_code (5 : Nat) (Option.some Jvm.ClassFile.FieldType.int)) ∈ mGt := mGi_4 233 rfl rfl
theorem w_1080 : (Jvm.Cond.methodLink "MoonDials$Tallies" (62 : Nat) ({ cls := "MoonDials$Walk", name := "lawOfGoer", desc := "(II)I" } : Jvm.MethodName)) ∈ mGt := mGi_4 234 rfl rfl
theorem w_1081 : (Jvm.Cond.methodLink "MoonDialsLaw" (92 : Nat) ({ cls := "MoonDials", name := "right", desc := "(I)I" } : Jvm.MethodName)) ∈ mGt := mGi_4 235 rfl rfl
theorem w_1082 : (Jvm.Cond.instanceMethod ({ cls := "MoonDials", name := "right", desc := "(I)I" } : Jvm.MethodName)) ∈ mGt := mGi_4 236 rfl rfl
theorem w_1083 : (Jvm.Cond.selects "MoonDials" ({ cls := "MoonDials", name := "right", desc := "(I)I" } : Jvm.MethodName) ({ cls := "MoonDials", name := "right", desc := "(I)I" } : Jvm.MethodName)) ∈ mGt := mGi_4 237 rfl rfl
theorem w_1084 : (Jvm.Cond.code ({ cls := "MoonDials", name := "right", desc := "(I)I" } : Jvm.MethodName) prog_1_method_20_code (3 : Nat) (Option.some Jvm.ClassFile.FieldType.int)) ∈ mGt := mGi_4 238 rfl rfl
theorem w_1085 : (Jvm.Cond.methodLink "MoonDials" (229 : Nat) ({ cls := "MoonDials", name := "outBehind", desc := "(II)I" } : Jvm.MethodName)) ∈ mGt := mGi_4 239 rfl rfl
theorem w_1087 : (Jvm.Cond.instanceMethod ({ cls := "MoonDials", name := "outBehind", desc := "(II)I" } : Jvm.MethodName)) ∈ mGt := mGi_5 1 rfl rfl
theorem w_1088 : (Jvm.Cond.code ({ cls := "MoonDials", name := "outBehind", desc := "(II)I" } : Jvm.MethodName) prog_1_method_56_code (3 : Nat) (Option.some Jvm.ClassFile.FieldType.int)) ∈ mGt := mGi_5 2 rfl rfl
theorem w_1089 : (Jvm.Cond.methodLink "MoonDialsLaw" (96 : Nat) ({ cls := "MoonDials", name := "agree", desc := "(II)I" } : Jvm.MethodName)) ∈ mGt := mGi_5 3 rfl rfl
theorem w_1090 : (Jvm.Cond.instanceMethod ({ cls := "MoonDials", name := "agree", desc := "(II)I" } : Jvm.MethodName)) ∈ mGt := mGi_5 4 rfl rfl
theorem w_1091 : (Jvm.Cond.selects "MoonDials" ({ cls := "MoonDials", name := "agree", desc := "(II)I" } : Jvm.MethodName) ({ cls := "MoonDials", name := "agree", desc := "(II)I" } : Jvm.MethodName)) ∈ mGt := mGi_5 5 rfl rfl
theorem w_1092 : (Jvm.Cond.code ({ cls := "MoonDials", name := "agree", desc := "(II)I" } : Jvm.MethodName) prog_1_method_21_code (4 : Nat) (Option.some Jvm.ClassFile.FieldType.int)) ∈ mGt := mGi_5 6 rfl rfl
theorem w_1093 : (Jvm.Cond.methodLink "MoonDialsLaw" (100 : Nat) ({ cls := "MoonDials", name := "round", desc := "()I" } : Jvm.MethodName)) ∈ mGt := mGi_5 7 rfl rfl
theorem w_1094 : (Jvm.Cond.instanceMethod ({ cls := "MoonDials", name := "round", desc := "()I" } : Jvm.MethodName)) ∈ mGt := mGi_5 8 rfl rfl
theorem w_1095 : (Jvm.Cond.selects "MoonDials" ({ cls := "MoonDials", name := "round", desc := "()I" } : Jvm.MethodName) ({ cls := "MoonDials", name := "round", desc := "()I" } : Jvm.MethodName)) ∈ mGt := mGi_5 9 rfl rfl
theorem w_1096 : (Jvm.Cond.code ({ cls := "MoonDials", name := "round", desc := "()I" } : Jvm.MethodName) prog_1_method_22_code (2 : Nat) (Option.some Jvm.ClassFile.FieldType.int)) ∈ mGt := mGi_5 10 rfl rfl
theorem w_1097 : (Jvm.Cond.methodLink "MoonDials" (232 : Nat) ({ cls := "MoonDials", name := "allOutAsNow", desc := "(I)Z" } : Jvm.MethodName)) ∈ mGt := mGi_5 11 rfl rfl
theorem w_1099 : (Jvm.Cond.instanceMethod ({ cls := "MoonDials", name := "allOutAsNow", desc := "(I)Z" } : Jvm.MethodName)) ∈ mGt := mGi_5 13 rfl rfl
theorem w_1100 : (Jvm.Cond.code ({ cls := "MoonDials", name := "allOutAsNow", desc := "(I)Z" } : Jvm.MethodName) prog_1_method_57_code (3 : Nat) (Option.some Jvm.ClassFile.FieldType.boolean)) ∈ mGt := mGi_5 14 rfl rfl
theorem w_1101 : (Jvm.Cond.methodLink "MoonDialsLaw" (104 : Nat) ({ cls := "MoonDials", name := "turns", desc := "(III)I" } : Jvm.MethodName)) ∈ mGt := mGi_5 15 rfl rfl
theorem w_1102 : (Jvm.Cond.instanceMethod ({ cls := "MoonDials", name := "turns", desc := "(III)I" } : Jvm.MethodName)) ∈ mGt := mGi_5 16 rfl rfl
theorem w_1103 : (Jvm.Cond.selects "MoonDials" ({ cls := "MoonDials", name := "turns", desc := "(III)I" } : Jvm.MethodName) ({ cls := "MoonDials", name := "turns", desc := "(III)I" } : Jvm.MethodName)) ∈ mGt := mGi_5 17 rfl rfl
theorem w_1104 : (Jvm.Cond.code ({ cls := "MoonDials", name := "turns", desc := "(III)I" } : Jvm.MethodName) prog_1_method_23_code (4 : Nat) (Option.some Jvm.ClassFile.FieldType.int)) ∈ mGt := mGi_5 18 rfl rfl
theorem w_1105 : (Jvm.Cond.methodLink "MoonDials" (235 : Nat) ({ cls := "MoonDials$Meetings", name := "leastTurn", desc := "([IIIII)I" } : Jvm.MethodName)) ∈ mGt := mGi_5 19 rfl rfl
theorem w_1106 : (Jvm.Cond.instanceMethod ({ cls := "MoonDials$Meetings", name := "leastTurn", desc := "([IIIII)I" } : Jvm.MethodName)) ∈ mGt := mGi_5 20 rfl rfl
theorem w_1107 : (Jvm.Cond.selects "MoonDials$Meetings" ({ cls := "MoonDials$Meetings", name := "leastTurn", desc := "([IIIII)I" } : Jvm.MethodName) ({ cls := "MoonDials$Meetings", name := "leastTurn", desc := "([IIIII)I" } : Jvm.MethodName)) ∈ mGt := mGi_5 21 rfl rfl
theorem w_1108 : (Jvm.Cond.code ({ cls := "MoonDials$Meetings", name := "leastTurn", desc := "([IIIII)I" } : Jvm.MethodName) prog_5_method_4_code (8 : Nat) (Option.some Jvm.ClassFile.FieldType.int)) ∈ mGt := mGi_5 22 rfl rfl
theorem w_1110 : (Jvm.Cond.methodLink "MoonDials$Meetings" (53 : Nat) ({ cls := "MoonDials$Meetings", name := "meetsWith", desc := "([IIIII)Z" } : Jvm.MethodName)) ∈ mGt := mGi_5 24 rfl rfl
theorem w_1112 : (Jvm.Cond.instanceMethod ({ cls := "MoonDials$Meetings", name := "meetsWith", desc := "([IIIII)Z" } : Jvm.MethodName)) ∈ mGt := mGi_5 26 rfl rfl
theorem w_1113 : (Jvm.Cond.code ({ cls := "MoonDials$Meetings", name := "meetsWith", desc := "([IIIII)Z" } : Jvm.MethodName) prog_5_method_6_code (6 : Nat) (Option.some Jvm.ClassFile.FieldType.boolean)) ∈ mGt := mGi_5 27 rfl rfl
theorem w_1114 : (Jvm.Cond.methodLink "MoonDials$Meetings" (57 : Nat) ({ cls := "MoonDials$Walk", name := "begin", desc := "([I)V" } : Jvm.MethodName)) ∈ mGt := mGi_5 28 rfl rfl
theorem w_1115 : (Jvm.Cond.methodLink "MoonDials$Meetings" (64 : Nat) ({ cls := "MoonDials$Meetings", name := "firstNight", desc := "(II)I" } : Jvm.MethodName)) ∈ mGt := mGi_5 29 rfl rfl
theorem w_1116 : (Jvm.Cond.methodLink "MoonDialsLaw" (108 : Nat) ({ cls := "MoonDials", name := "parts", desc := "(III)I" } : Jvm.MethodName)) ∈ mGt := mGi_5 30 rfl rfl
theorem w_1117 : (Jvm.Cond.instanceMethod ({ cls := "MoonDials", name := "parts", desc := "(III)I" } : Jvm.MethodName)) ∈ mGt := mGi_5 31 rfl rfl
theorem w_1118 : (Jvm.Cond.selects "MoonDials" ({ cls := "MoonDials", name := "parts", desc := "(III)I" } : Jvm.MethodName) ({ cls := "MoonDials", name := "parts", desc := "(III)I" } : Jvm.MethodName)) ∈ mGt := mGi_5 32 rfl rfl
theorem w_1119 : (Jvm.Cond.code ({ cls := "MoonDials", name := "parts", desc := "(III)I" } : Jvm.MethodName) prog_1_method_24_code (4 : Nat) (Option.some Jvm.ClassFile.FieldType.int)) ∈ mGt := mGi_5 33 rfl rfl
theorem w_1120 : (Jvm.Cond.methodLink "MoonDialsLaw" (112 : Nat) ({ cls := "MoonDials", name := "knot", desc := "(IIII)I" } : Jvm.MethodName)) ∈ mGt := mGi_5 34 rfl rfl
theorem w_1121 : (Jvm.Cond.instanceMethod ({ cls := "MoonDials", name := "knot", desc := "(IIII)I" } : Jvm.MethodName)) ∈ mGt := mGi_5 35 rfl rfl
theorem w_1122 : (Jvm.Cond.selects "MoonDials" ({ cls := "MoonDials", name := "knot", desc := "(IIII)I" } : Jvm.MethodName) ({ cls := "MoonDials", name := "knot", desc := "(IIII)I" } : Jvm.MethodName)) ∈ mGt := mGi_5 36 rfl rfl
theorem w_1123 : (Jvm.Cond.code ({ cls := "MoonDials", name := "knot", desc := "(IIII)I" } : Jvm.MethodName) prog_1_method_25_code (5 : Nat) (Option.some Jvm.ClassFile.FieldType.int)) ∈ mGt := mGi_5 37 rfl rfl
theorem w_1124 : (Jvm.Cond.methodLink "MoonDialsLaw" (117 : Nat) ({ cls := "MoonDials", name := "mend", desc := "(III)I" } : Jvm.MethodName)) ∈ mGt := mGi_5 38 rfl rfl
theorem w_1125 : (Jvm.Cond.instanceMethod ({ cls := "MoonDials", name := "mend", desc := "(III)I" } : Jvm.MethodName)) ∈ mGt := mGi_5 39 rfl rfl
theorem w_1126 : (Jvm.Cond.selects "MoonDials" ({ cls := "MoonDials", name := "mend", desc := "(III)I" } : Jvm.MethodName) ({ cls := "MoonDials", name := "mend", desc := "(III)I" } : Jvm.MethodName)) ∈ mGt := mGi_5 40 rfl rfl
theorem w_1127 : (Jvm.Cond.code ({ cls := "MoonDials", name := "mend", desc := "(III)I" } : Jvm.MethodName) prog_1_method_26_code (4 : Nat) (Option.some Jvm.ClassFile.FieldType.int)) ∈ mGt := mGi_5 41 rfl rfl
theorem w_1128 : (Jvm.Cond.methodLink "MoonDials" (239 : Nat) ({ cls := "MoonDials$Meetings", name := "leastSlip", desc := "([IIII)I" } : Jvm.MethodName)) ∈ mGt := mGi_5 42 rfl rfl
theorem w_1129 : (Jvm.Cond.instanceMethod ({ cls := "MoonDials$Meetings", name := "leastSlip", desc := "([IIII)I" } : Jvm.MethodName)) ∈ mGt := mGi_5 43 rfl rfl
theorem w_1130 : (Jvm.Cond.selects "MoonDials$Meetings" ({ cls := "MoonDials$Meetings", name := "leastSlip", desc := "([IIII)I" } : Jvm.MethodName) ({ cls := "MoonDials$Meetings", name := "leastSlip", desc := "([IIII)I" } : Jvm.MethodName)) ∈ mGt := mGi_5 44 rfl rfl
theorem w_1131 : (Jvm.Cond.code ({ cls := "MoonDials$Meetings", name := "leastSlip", desc := "([IIII)I" } : Jvm.MethodName) prog_5_method_5_code (6 : Nat) (Option.some Jvm.ClassFile.FieldType.int)) ∈ mGt := mGi_5 45 rfl rfl
theorem w_1132 : (Jvm.Cond.methodLink "MoonDialsLaw" (121 : Nat) ({ cls := "MoonDials", name := "sooner", desc := "(I)I" } : Jvm.MethodName)) ∈ mGt := mGi_5 46 rfl rfl
theorem w_1133 : (Jvm.Cond.instanceMethod ({ cls := "MoonDials", name := "sooner", desc := "(I)I" } : Jvm.MethodName)) ∈ mGt := mGi_5 47 rfl rfl
theorem w_1134 : (Jvm.Cond.selects "MoonDials" ({ cls := "MoonDials", name := "sooner", desc := "(I)I" } : Jvm.MethodName) ({ cls := "MoonDials", name := "sooner", desc := "(I)I" } : Jvm.MethodName)) ∈ mGt := mGi_5 48 rfl rfl
theorem w_1135 : (Jvm.Cond.code ({ cls := "MoonDials", name := "sooner", desc := "(I)I" } : Jvm.MethodName) prog_1_method_27_code (3 : Nat) (Option.some Jvm.ClassFile.FieldType.int)) ∈ mGt := mGi_5 49 rfl rfl
theorem w_1136 : (Jvm.Cond.methodLink "MoonDials" (243 : Nat) ({ cls := "MoonDials$Meetings", name := "firstNightOfTwo", desc := "()I" } : Jvm.MethodName)) ∈ mGt := mGi_5 50 rfl rfl
theorem w_1137 : (Jvm.Cond.instanceMethod ({ cls := "MoonDials$Meetings", name := "firstNightOfTwo", desc := "()I" } : Jvm.MethodName)) ∈ mGt := mGi_5 51 rfl rfl
theorem w_1138 : (Jvm.Cond.selects "MoonDials$Meetings" ({ cls := "MoonDials$Meetings", name := "firstNightOfTwo", desc := "()I" } : Jvm.MethodName) ({ cls := "MoonDials$Meetings", name := "firstNightOfTwo", desc := "()I" } : Jvm.MethodName)) ∈ mGt := mGi_5 52 rfl rfl
theorem w_1139 : (Jvm.Cond.code ({ cls := "MoonDials$Meetings", name := "firstNightOfTwo", desc := "()I" } : Jvm.MethodName) prog_5_method_7_code (2 : Nat) (Option.some Jvm.ClassFile.FieldType.int)) ∈ mGt := mGi_5 53 rfl rfl
theorem w_1140 : (Jvm.Cond.methodLink "MoonDials$Meetings" (70 : Nat) ({ cls := "MoonDials$Meetings", name := "firstTwoSeen", desc := "()I" } : Jvm.MethodName)) ∈ mGt := mGi_5 54 rfl rfl
theorem w_1142 : (Jvm.Cond.instanceMethod ({ cls := "MoonDials$Meetings", name := "firstTwoSeen", desc := "()I" } : Jvm.MethodName)) ∈ mGt := mGi_5 56 rfl rfl
theorem w_1143 : (Jvm.Cond.code ({ cls := "MoonDials$Meetings", name := "firstTwoSeen", desc := "()I" } : Jvm.MethodName) prog_5_method_8_code (3 : Nat) (Option.some Jvm.ClassFile.FieldType.int)) ∈ mGt := mGi_5 57 rfl rfl
theorem w_1144 : (Jvm.Cond.methodLink "MoonDials$Meetings" (77 : Nat) ({ cls := "MoonDials$Walk", name := "shared", desc := "(II)I" } : Jvm.MethodName)) ∈ mGt := mGi_5 58 rfl rfl
theorem w_1145 : (Jvm.Cond.methodLink "MoonDialsLaw" (125 : Nat) ({ cls := "MoonDials", name := "strangers", desc := "(I)I" } : Jvm.MethodName)) ∈ mGt := mGi_5 59 rfl rfl
theorem w_1146 : (Jvm.Cond.instanceMethod ({ cls := "MoonDials", name := "strangers", desc := "(I)I" } : Jvm.MethodName)) ∈ mGt := mGi_5 60 rfl rfl
theorem w_1147 : (Jvm.Cond.selects "MoonDials" ({ cls := "MoonDials", name := "strangers", desc := "(I)I" } : Jvm.MethodName) ({ cls := "MoonDials", name := "strangers", desc := "(I)I" } : Jvm.MethodName)) ∈ mGt := mGi_5 61 rfl rfl
theorem w_1148 : (Jvm.Cond.code ({ cls := "MoonDials", name := "strangers", desc := "(I)I" } : Jvm.MethodName) prog_1_method_28_code (2 : Nat) (Option.some Jvm.ClassFile.FieldType.int)) ∈ mGt := mGi_5 62 rfl rfl
theorem w_1149 : (Jvm.Cond.methodLink "MoonDials" (249 : Nat) ({ cls := "MoonDials$Meetings", name := "neverMet", desc := "(I)I" } : Jvm.MethodName)) ∈ mGt := mGi_5 63 rfl rfl
theorem w_1150 : (Jvm.Cond.instanceMethod ({ cls := "MoonDials$Meetings", name := "neverMet", desc := "(I)I" } : Jvm.MethodName)) ∈ mGt := mGi_5 64 rfl rfl
theorem w_1151 : (Jvm.Cond.selects "MoonDials$Meetings" ({ cls := "MoonDials$Meetings", name := "neverMet", desc := "(I)I" } : Jvm.MethodName) ({ cls := "MoonDials$Meetings", name := "neverMet", desc := "(I)I" } : Jvm.MethodName)) ∈ mGt := mGi_5 65 rfl rfl
theorem w_1152 : (Jvm.Cond.code ({ cls := "MoonDials$Meetings", name := "neverMet", desc := "(I)I" } : Jvm.MethodName) prog_5_method_9_code (5 : Nat) (Option.some Jvm.ClassFile.FieldType.int)) ∈ mGt := mGi_5 66 rfl rfl
theorem w_1153 : (Jvm.Cond.methodLink "MoonDialsLaw" (129 : Nat) ({ cls := "MoonDials", name := "by", desc := "(IIII)I" } : Jvm.MethodName)) ∈ mGt := mGi_5 67 rfl rfl
theorem w_1154 : (Jvm.Cond.instanceMethod ({ cls := "MoonDials", name := "by", desc := "(IIII)I" } : Jvm.MethodName)) ∈ mGt := mGi_5 68 rfl rfl
theorem w_1155 : (Jvm.Cond.selects "MoonDials" ({ cls := "MoonDials", name := "by", desc := "(IIII)I" } : Jvm.MethodName) ({ cls := "MoonDials", name := "by", desc := "(IIII)I" } : Jvm.MethodName)) ∈ mGt := mGi_5 69 rfl rfl
theorem w_1156 : (Jvm.Cond.code ({ cls := "MoonDials", name := "by", desc := "(IIII)I" } : Jvm.MethodName) prog_1_method_29_code (6 : Nat) (Option.some Jvm.ClassFile.FieldType.int)) ∈ mGt := mGi_5 70 rfl rfl
theorem w_1157 : (Jvm.Cond.methodLink "MoonDials" (252 : Nat) ({ cls := "MoonDials$Tallies", name := "bestDial", desc := "([IIII)I" } : Jvm.MethodName)) ∈ mGt := mGi_5 71 rfl rfl
theorem w_1158 : (Jvm.Cond.instanceMethod ({ cls := "MoonDials$Tallies", name := "bestDial", desc := "([IIII)I" } : Jvm.MethodName)) ∈ mGt := mGi_5 72 rfl rfl
theorem w_1159 : (Jvm.Cond.selects "MoonDials$Tallies" ({ cls := "MoonDials$Tallies", name := "bestDial", desc := "([IIII)I" } : Jvm.MethodName) ({ cls := "MoonDials$Tallies", name := "bestDial", desc := "([IIII)I" } : Jvm.MethodName)) ∈ mGt := mGi_5 73 rfl rfl
theorem w_1160 : (Jvm.Cond.code ({ cls := "MoonDials$Tallies", name := "bestDial", desc := "([IIII)I" } : Jvm.MethodName) prog_9_method_6_code (8 : Nat) (Option.some Jvm.ClassFile.FieldType.int)) ∈ mGt := mGi_5 74 rfl rfl
theorem w_1161 : (Jvm.Cond.methodLink "MoonDials$Tallies" (73 : Nat) ({ cls := "MoonDials$Walk", name := "begin", desc := "([I)V" } : Jvm.MethodName)) ∈ mGt := mGi_5 75 rfl rfl
theorem w_1162 : (Jvm.Cond.methodLink "MoonDials$Tallies" (80 : Nat) ({ cls := "MoonDials$Tallies", name := "sharedHours", desc := "(III)I" } : Jvm.MethodName)) ∈ mGt := mGi_5 76 rfl rfl
theorem w_1163 : (Jvm.Cond.methodLink "MoonDialsLaw" (133 : Nat) ({ cls := "MoonDials", name := "peace", desc := "(II)I" } : Jvm.MethodName)) ∈ mGt := mGi_5 77 rfl rfl
theorem w_1164 : (Jvm.Cond.instanceMethod ({ cls := "MoonDials", name := "peace", desc := "(II)I" } : Jvm.MethodName)) ∈ mGt := mGi_5 78 rfl rfl
theorem w_1165 : (Jvm.Cond.selects "MoonDials" ({ cls := "MoonDials", name := "peace", desc := "(II)I" } : Jvm.MethodName) ({ cls := "MoonDials", name := "peace", desc := "(II)I" } : Jvm.MethodName)) ∈ mGt := mGi_5 79 rfl rfl
theorem w_1166 : (Jvm.Cond.code ({ cls := "MoonDials", name := "peace", desc := "(II)I" } : Jvm.MethodName) prog_1_method_30_code (4 : Nat) (Option.some Jvm.ClassFile.FieldType.int)) ∈ mGt := mGi_5 80 rfl rfl
theorem w_1167 : (Jvm.Cond.methodLink "MoonDials" (258 : Nat) ({ cls := "MoonDials$Tallies", name := "fewestAway", desc := "(I)I" } : Jvm.MethodName)) ∈ mGt := mGi_5 81 rfl rfl
theorem w_1168 : (Jvm.Cond.instanceMethod ({ cls := "MoonDials$Tallies", name := "fewestAway", desc := "(I)I" } : Jvm.MethodName)) ∈ mGt := mGi_5 82 rfl rfl
theorem w_1169 : (Jvm.Cond.selects "MoonDials$Tallies" ({ cls := "MoonDials$Tallies", name := "fewestAway", desc := "(I)I" } : Jvm.MethodName) ({ cls := "MoonDials$Tallies", name := "fewestAway", desc := "(I)I" } : Jvm.MethodName)) ∈ mGt := mGi_5 83 rfl rfl
theorem w_1170 : (Jvm.Cond.code ({ cls := "MoonDials$Tallies", name := "fewestAway", desc := "(I)I" } : Jvm.MethodName) prog_9_method_8_code (4 : Nat) (Option.some Jvm.ClassFile.FieldType.int)) ∈ mGt := mGi_5 84 rfl rfl
theorem w_1171 : (Jvm.Cond.methodLink "MoonDials$Tallies" (90 : Nat) ({ cls := "MoonDials$Tallies", name := "addShared", desc := "(I)V" } : Jvm.MethodName)) ∈ mGt := mGi_5 85 rfl rfl
theorem w_1173 : (Jvm.Cond.instanceMethod ({ cls := "MoonDials$Tallies", name := "addShared", desc := "(I)V" } : Jvm.MethodName)) ∈ mGt := mGi_5 87 rfl rfl
theorem w_1174 : (Jvm.Cond.code ({ cls := "MoonDials$Tallies", name := "addShared", desc := "(I)V" } : Jvm.MethodName) prog_9_method_10_code (5 : Nat) (Option.none : Option Jvm.ClassFile.FieldType)) ∈ mGt := mGi_5 88 rfl rfl
theorem w_1175 : (Jvm.Cond.methodLink "MoonDials$Tallies" (84 : Nat) ({ cls := "MoonDials$Tallies", name := "clear", desc := "([I)V" } : Jvm.MethodName)) ∈ mGt := mGi_5 89 rfl rfl
theorem w_1176 : (Jvm.Cond.static ({ cls := "MoonDials$Tallies", name := "clear", desc := "([I)V" } : Jvm.MethodName)) ∈ mGt := mGi_5 90 rfl rfl
theorem w_1177 : (Jvm.Cond.code ({ cls := "MoonDials$Tallies", name := "clear", desc := "([I)V" } : Jvm.MethodName) prog_9_method_13_code (2 : Nat) (Option.none : Option Jvm.ClassFile.FieldType)) ∈ mGt := mGi_5 91 rfl rfl
theorem w_1178 : (Jvm.Cond.methodLink "MoonDials$Tallies" (96 : Nat) ({ cls := "MoonDials$Tallies", name := "isPeaceWithout", desc := "(I)Z" } : Jvm.MethodName)) ∈ mGt := mGi_5 92 rfl rfl
theorem w_1180 : (Jvm.Cond.instanceMethod ({ cls := "MoonDials$Tallies", name := "isPeaceWithout", desc := "(I)Z" } : Jvm.MethodName)) ∈ mGt := mGi_5 94 rfl rfl
theorem w_1181 : (Jvm.Cond.code ({ cls := "MoonDials$Tallies", name := "isPeaceWithout", desc := "(I)Z" } : Jvm.MethodName) prog_9_method_9_code (4 : Nat) (Option.some Jvm.ClassFile.FieldType.boolean)) ∈ mGt := mGi_5 95 rfl rfl
theorem w_1182 : (Jvm.Cond.methodLink "MoonDialsLaw" (137 : Nat) ({ cls := "MoonDials", name := "favourite", desc := "(II)I" } : Jvm.MethodName)) ∈ mGt := mGi_5 96 rfl rfl
theorem w_1183 : (Jvm.Cond.instanceMethod ({ cls := "MoonDials", name := "favourite", desc := "(II)I" } : Jvm.MethodName)) ∈ mGt := mGi_5 97 rfl rfl
theorem w_1184 : (Jvm.Cond.selects "MoonDials" ({ cls := "MoonDials", name := "favourite", desc := "(II)I" } : Jvm.MethodName) ({ cls := "MoonDials", name := "favourite", desc := "(II)I" } : Jvm.MethodName)) ∈ mGt := mGi_5 98 rfl rfl
theorem w_1185 : (Jvm.Cond.code ({ cls := "MoonDials", name := "favourite", desc := "(II)I" } : Jvm.MethodName) prog_1_method_31_code (4 : Nat) (Option.some Jvm.ClassFile.FieldType.int)) ∈ mGt := mGi_5 99 rfl rfl
theorem w_1186 : (Jvm.Cond.methodLink "MoonDials" (261 : Nat) ({ cls := "MoonDials$Tallies", name := "busiestHour", desc := "(I)I" } : Jvm.MethodName)) ∈ mGt := mGi_5 100 rfl rfl
theorem w_1187 : (Jvm.Cond.instanceMethod ({ cls := "MoonDials$Tallies", name := "busiestHour", desc := "(I)I" } : Jvm.MethodName)) ∈ mGt := mGi_5 101 rfl rfl
theorem w_1188 : (Jvm.Cond.selects "MoonDials$Tallies" ({ cls := "MoonDials$Tallies", name := "busiestHour", desc := "(I)I" } : Jvm.MethodName) ({ cls := "MoonDials$Tallies", name := "busiestHour", desc := "(I)I" } : Jvm.MethodName)) ∈ mGt := mGi_5 102 rfl rfl
theorem w_1189 : (Jvm.Cond.code ({ cls := "MoonDials$Tallies", name := "busiestHour", desc := "(I)I" } : Jvm.MethodName) prog_9_method_7_code (4 : Nat) (Option.some Jvm.ClassFile.FieldType.int)) ∈ mGt := mGi_5 103 rfl rfl
theorem w_1190 : (Jvm.Cond.methodLink "MoonDialsLaw" (141 : Nat) ({ cls := "MoonDials", name := "longest", desc := "(III)I" } : Jvm.MethodName)) ∈ mGt := mGi_5 104 rfl rfl
theorem w_1191 : (Jvm.Cond.instanceMethod ({ cls := "MoonDials", name := "longest", desc := "(III)I" } : Jvm.MethodName)) ∈ mGt := mGi_5 105 rfl rfl
theorem w_1192 : (Jvm.Cond.selects "MoonDials" ({ cls := "MoonDials", name := "longest", desc := "(III)I" } : Jvm.MethodName) ({ cls := "MoonDials", name := "longest", desc := "(III)I" } : Jvm.MethodName)) ∈ mGt := mGi_5 106 rfl rfl
theorem w_1193 : (Jvm.Cond.code ({ cls := "MoonDials", name := "longest", desc := "(III)I" } : Jvm.MethodName) prog_1_method_32_code (4 : Nat) (Option.some Jvm.ClassFile.FieldType.int)) ∈ mGt := mGi_5 107 rfl rfl
theorem w_1194 : (Jvm.Cond.methodLink "MoonDials" (264 : Nat) ({ cls := "MoonDials$Tallies", name := "longestNight", desc := "(III)I" } : Jvm.MethodName)) ∈ mGt := mGi_5 108 rfl rfl
theorem w_1195 : (Jvm.Cond.instanceMethod ({ cls := "MoonDials$Tallies", name := "longestNight", desc := "(III)I" } : Jvm.MethodName)) ∈ mGt := mGi_5 109 rfl rfl
theorem w_1196 : (Jvm.Cond.selects "MoonDials$Tallies" ({ cls := "MoonDials$Tallies", name := "longestNight", desc := "(III)I" } : Jvm.MethodName) ({ cls := "MoonDials$Tallies", name := "longestNight", desc := "(III)I" } : Jvm.MethodName)) ∈ mGt := mGi_5 110 rfl rfl
theorem w_1197 : (Jvm.Cond.code ({ cls := "MoonDials$Tallies", name := "longestNight", desc := "(III)I" } : Jvm.MethodName) prog_9_method_3_code (6 : Nat) (Option.some Jvm.ClassFile.FieldType.int)) ∈ mGt := mGi_5 111 rfl rfl
theorem w_1198 : (Jvm.Cond.methodLink "MoonDials$Tallies" (44 : Nat) ({ cls := "java/lang/Math", name := "max", desc := "(II)I" } : Jvm.MethodName)) ∈ mGt := mGi_5 112 rfl rfl
theorem w_1199 : (Jvm.Cond.methodLink "MoonDialsLaw" (145 : Nat) ({ cls := "MoonDials", name := "couples", desc := "(II)I" } : Jvm.MethodName)) ∈ mGt := mGi_5 113 rfl rfl
theorem w_1200 : (Jvm.Cond.instanceMethod ({ cls := "MoonDials", name := "couples", desc := "(II)I" } : Jvm.MethodName)) ∈ mGt := mGi_5 114 rfl rfl
theorem w_1201 : (Jvm.Cond.selects "MoonDials" ({ cls := "MoonDials", name := "couples", desc := "(II)I" } : Jvm.MethodName) ({ cls := "MoonDials", name := "couples", desc := "(II)I" } : Jvm.MethodName)) ∈ mGt := mGi_5 115 rfl rfl
theorem w_1202 : (Jvm.Cond.code ({ cls := "MoonDials", name := "couples", desc := "(II)I" } : Jvm.MethodName) prog_1_method_33_code (4 : Nat) (Option.some Jvm.ClassFile.FieldType.int)) ∈ mGt := mGi_5 116 rfl rfl
theorem w_1203 : (Jvm.Cond.methodLink "MoonDials" (267 : Nat) ({ cls := "MoonDials$Tallies", name := "bestCouples", desc := "(I)I" } : Jvm.MethodName)) ∈ mGt := mGi_5 117 rfl rfl
theorem w_1204 : (Jvm.Cond.instanceMethod ({ cls := "MoonDials$Tallies", name := "bestCouples", desc := "(I)I" } : Jvm.MethodName)) ∈ mGt := mGi_5 118 rfl rfl
theorem w_1205 : (Jvm.Cond.selects "MoonDials$Tallies" ({ cls := "MoonDials$Tallies", name := "bestCouples", desc := "(I)I" } : Jvm.MethodName) ({ cls := "MoonDials$Tallies", name := "bestCouples", desc := "(I)I" } : Jvm.MethodName)) ∈ mGt := mGi_5 119 rfl rfl
theorem w_1206 : (Jvm.Cond.code ({ cls := "MoonDials$Tallies", name := "bestCouples", desc := "(I)I" } : Jvm.MethodName) prog_9_method_11_code (3 : Nat) (Option.some Jvm.ClassFile.FieldType.int)) ∈ mGt := mGi_5 120 rfl rfl
theorem w_1207 : (Jvm.Cond.methodLink "MoonDials$Tallies" (100 : Nat) ({ cls := "MoonDials$Tallies", name := "pairFrom", desc := "(LMoonDials$Tallies;II)V" } : Jvm.MethodName)) ∈ mGt := mGi_5 121 rfl rfl
theorem w_1208 : (Jvm.Cond.static ({ cls := "MoonDials$Tallies", name := "pairFrom", desc := "(LMoonDials$Tallies;II)V" } : Jvm.MethodName)) ∈ mGt := mGi_5 122 rfl rfl
theorem w_1209 : (Jvm.Cond.code ({ cls := "MoonDials$Tallies", name := "pairFrom", desc := "(LMoonDials$Tallies;II)V" } : Jvm.MethodName) prog_9_method_12_code (4 : Nat) (Option.none : Option Jvm.ClassFile.FieldType)) ∈ mGt := mGi_5 123 rfl rfl
theorem w_1210 : (Jvm.Cond.methodLink "MoonDials$Tallies" (104 : Nat) ({ cls := "java/lang/System", name := "arraycopy", desc := "(Ljava/lang/Object;ILjava/lang/Object;II)V" } : Jvm.MethodName)) ∈ mGt := mGi_5 124 rfl rfl
theorem w_1211 : (Jvm.Cond.methodLink "MoonDialsLaw" (149 : Nat) ({ cls := "MoonDials", name := "fullest", desc := "(I)I" } : Jvm.MethodName)) ∈ mGt := mGi_5 125 rfl rfl
theorem w_1212 : (Jvm.Cond.instanceMethod ({ cls := "MoonDials", name := "fullest", desc := "(I)I" } : Jvm.MethodName)) ∈ mGt := mGi_5 126 rfl rfl
theorem w_1213 : (Jvm.Cond.selects "MoonDials" ({ cls := "MoonDials", name := "fullest", desc := "(I)I" } : Jvm.MethodName) ({ cls := "MoonDials", name := "fullest", desc := "(I)I" } : Jvm.MethodName)) ∈ mGt := mGi_5 127 rfl rfl
theorem w_1214 : (Jvm.Cond.code ({ cls := "MoonDials", name := "fullest", desc := "(I)I" } : Jvm.MethodName) prog_1_method_34_code (4 : Nat) (Option.some Jvm.ClassFile.FieldType.int)) ∈ mGt := mGi_5 128 rfl rfl
theorem w_1215 : (Jvm.Cond.methodLink "MoonDialsLaw" (153 : Nat) ({ cls := "MoonDials", name := "game", desc := "(III)I" } : Jvm.MethodName)) ∈ mGt := mGi_5 129 rfl rfl
theorem w_1216 : (Jvm.Cond.instanceMethod ({ cls := "MoonDials", name := "game", desc := "(III)I" } : Jvm.MethodName)) ∈ mGt := mGi_5 130 rfl rfl
theorem w_1217 : (Jvm.Cond.selects "MoonDials" ({ cls := "MoonDials", name := "game", desc := "(III)I" } : Jvm.MethodName) ({ cls := "MoonDials", name := "game", desc := "(III)I" } : Jvm.MethodName)) ∈ mGt := mGi_5 131 rfl rfl
theorem w_1218 : (Jvm.Cond.code ({ cls := "MoonDials", name := "game", desc := "(III)I" } : Jvm.MethodName) prog_1_method_35_code (5 : Nat) (Option.some Jvm.ClassFile.FieldType.int)) ∈ mGt := mGi_5 132 rfl rfl
theorem w_1219 : (Jvm.Cond.methodLink "MoonDials" (276 : Nat) ({ cls := "MoonDials$Game", name := "outcome", desc := "([III)I" } : Jvm.MethodName)) ∈ mGt := mGi_5 133 rfl rfl
theorem w_1220 : (Jvm.Cond.instanceMethod ({ cls := "MoonDials$Game", name := "outcome", desc := "([III)I" } : Jvm.MethodName)) ∈ mGt := mGi_5 134 rfl rfl
theorem w_1221 : (Jvm.Cond.selects "MoonDials$Game" ({ cls := "MoonDials$Game", name := "outcome", desc := "([III)I" } : Jvm.MethodName) ({ cls := "MoonDials$Game", name := "outcome", desc := "([III)I" } : Jvm.MethodName)) ∈ mGt := mGi_5 135 rfl rfl
theorem w_1222 : (Jvm.Cond.code ({ cls := "MoonDials$Game", name := "outcome", desc := "([III)I" } : Jvm.MethodName) prog_2_method_2_code (4 : Nat) (Option.some Jvm.ClassFile.FieldType.int)) ∈ mGt := mGi_5 136 rfl rfl
theorem w_1223 : (Jvm.Cond.methodLink "MoonDials$Game" (28 : Nat) ({ cls := "java/lang/Math", name := "min", desc := "(II)I" } : Jvm.MethodName)) ∈ mGt := mGi_5 137 rfl rfl
theorem w_1224 : (Jvm.Cond.methodLink "MoonDials$Game" (37 : Nat) ({ cls := "java/lang/System", name := "arraycopy", desc := "(Ljava/lang/Object;ILjava/lang/Object;II)V" } : Jvm.MethodName)) ∈ mGt := mGi_5 138 rfl rfl
theorem w_1225 : (Jvm.Cond.methodLink "MoonDials$Game" (43 : Nat) ({ cls := "MoonDials$Game", name := "hoursFrom", desc := "(LMoonDials$Game;I)I" } : Jvm.MethodName)) ∈ mGt := mGi_5 139 rfl rfl
theorem w_1226 : (Jvm.Cond.static ({ cls := "MoonDials$Game", name := "hoursFrom", desc := "(LMoonDials$Game;I)I" } : Jvm.MethodName)) ∈ mGt := mGi_5 140 rfl rfl
theorem w_1227 : (Jvm.Cond.code ({ cls := "MoonDials$Game", name := "hoursFrom", desc := "(LMoonDials$Game;I)I" } : Jvm.MethodName) prog_2_method_3_code (6 : Nat) (Option.some Jvm.ClassFile.FieldType.int)) ∈ mGt := mGi_5 141 rfl rfl
theorem w_1228 : (Jvm.Cond.methodLink "MoonDials$Game" (47 : Nat) ({ cls := "MoonDials$Game", name := "tryMove", desc := "(II)I" } : Jvm.MethodName)) ∈ mGt := mGi_5 142 rfl rfl
theorem w_1230 : (Jvm.Cond.instanceMethod ({ cls := "MoonDials$Game", name := "tryMove", desc := "(II)I" } : Jvm.MethodName)) ∈ mGt := mGi_5 144 rfl rfl
theorem w_1231 : (Jvm.Cond.code ({ cls := "MoonDials$Game", name := "tryMove", desc := "(II)I" } : Jvm.MethodName) prog_2_method_4_code (4 : Nat) (Option.some Jvm.ClassFile.FieldType.int)) ∈ mGt := mGi_5 145 rfl rfl
theorem w_1232 : (Jvm.Cond.methodLink "MoonDials$Game" (53 : Nat) ({ cls := "MoonDials$Walk", name := "begin", desc := "([I)V" } : Jvm.MethodName)) ∈ mGt := mGi_5 146 rfl rfl
theorem w_1234 : (Jvm.Cond.methodLink "MoonDials$Game" (71 : Nat) ({ cls := "MoonDials$Walk", name := "see", desc := "(I)V" } : Jvm.MethodName)) ∈ mGt := mGi_5 148 rfl rfl
theorem w_1235 : (Jvm.Cond.methodLink "MoonDials$Game" (75 : Nat) ({ cls := "MoonDials$Walk", name := "shared", desc := "(II)I" } : Jvm.MethodName)) ∈ mGt := mGi_5 149 rfl rfl
theorem w_1236 : (Jvm.Cond.methodLink "MoonDials$Game" (78 : Nat) ({ cls := "MoonDials$Walk", name := "pass", desc := "()V" } : Jvm.MethodName)) ∈ mGt := mGi_5 150 rfl rfl
theorem w_1237 : (Jvm.Cond.methodLink "MoonDialsLaw" (157 : Nat) ({ cls := "MoonDials", name := "metIn", desc := "(II)I" } : Jvm.MethodName)) ∈ mGt := mGi_5 151 rfl rfl
theorem w_1238 : (Jvm.Cond.instanceMethod ({ cls := "MoonDials", name := "metIn", desc := "(II)I" } : Jvm.MethodName)) ∈ mGt := mGi_5 152 rfl rfl
theorem w_1239 : (Jvm.Cond.selects "MoonDials" ({ cls := "MoonDials", name := "metIn", desc := "(II)I" } : Jvm.MethodName) ({ cls := "MoonDials", name := "metIn", desc := "(II)I" } : Jvm.MethodName)) ∈ mGt := mGi_5 153 rfl rfl
theorem w_1240 : (Jvm.Cond.code ({ cls := "MoonDials", name := "metIn", desc := "(II)I" } : Jvm.MethodName) prog_1_method_36_code (3 : Nat) (Option.some Jvm.ClassFile.FieldType.int)) ∈ mGt := mGi_5 154 rfl rfl
theorem w_1241 : (Jvm.Cond.methodLink "MoonDials" (283 : Nat) ({ cls := "MoonDials$Walk", name := "passDark", desc := "(II)V" } : Jvm.MethodName)) ∈ mGt := mGi_5 155 rfl rfl
theorem w_1242 : (Jvm.Cond.instanceMethod ({ cls := "MoonDials$Walk", name := "passDark", desc := "(II)V" } : Jvm.MethodName)) ∈ mGt := mGi_5 156 rfl rfl
theorem w_1243 : (Jvm.Cond.selects "MoonDials$Walk" ({ cls := "MoonDials$Walk", name := "passDark", desc := "(II)V" } : Jvm.MethodName) ({ cls := "MoonDials$Walk", name := "passDark", desc := "(II)V" } : Jvm.MethodName)) ∈ mGt := mGi_5 157 rfl rfl
theorem w_1244 : (Jvm.Cond.code ({ cls := "MoonDials$Walk", name := "passDark", desc := "(II)V" } : Jvm.MethodName) prog_12_method_7_code (4 : Nat) (Option.none : Option Jvm.ClassFile.FieldType)) ∈ mGt := mGi_5 158 rfl rfl
theorem w_1245 : (Jvm.Cond.methodLink "MoonDials$Walk" (109 : Nat) ({ cls := "MoonDials$Walk", name := "see", desc := "(I)V" } : Jvm.MethodName)) ∈ mGt := mGi_5 159 rfl rfl
theorem w_1246 : (Jvm.Cond.methodLink "MoonDials$Walk" (113 : Nat) ({ cls := "MoonDials$Walk", name := "pass", desc := "()V" } : Jvm.MethodName)) ∈ mGt := mGi_5 160 rfl rfl
theorem w_1247 : (Jvm.Cond.methodLink "MoonDialsLaw" (161 : Nat) ({ cls := "MoonDials", name := "outIn", desc := "(II)I" } : Jvm.MethodName)) ∈ mGt := mGi_5 161 rfl rfl
theorem w_1248 : (Jvm.Cond.instanceMethod ({ cls := "MoonDials", name := "outIn", desc := "(II)I" } : Jvm.MethodName)) ∈ mGt := mGi_5 162 rfl rfl
theorem w_1249 : (Jvm.Cond.selects "MoonDials" ({ cls := "MoonDials", name := "outIn", desc := "(II)I" } : Jvm.MethodName) ({ cls := "MoonDials", name := "outIn", desc := "(II)I" } : Jvm.MethodName)) ∈ mGt := mGi_5 163 rfl rfl
theorem w_1250 : (Jvm.Cond.code ({ cls := "MoonDials", name := "outIn", desc := "(II)I" } : Jvm.MethodName) prog_1_method_37_code (3 : Nat) (Option.some Jvm.ClassFile.FieldType.int)) ∈ mGt := mGi_5 164 rfl rfl
theorem w_1251 : (Jvm.Cond.methodLink "MoonDialsLaw" (165 : Nat) ({ cls := "MoonDials", name := "year", desc := "(IIII)I" } : Jvm.MethodName)) ∈ mGt := mGi_5 165 rfl rfl
theorem w_1252 : (Jvm.Cond.instanceMethod ({ cls := "MoonDials", name := "year", desc := "(IIII)I" } : Jvm.MethodName)) ∈ mGt := mGi_5 166 rfl rfl
theorem w_1253 : (Jvm.Cond.selects "MoonDials" ({ cls := "MoonDials", name := "year", desc := "(IIII)I" } : Jvm.MethodName) ({ cls := "MoonDials", name := "year", desc := "(IIII)I" } : Jvm.MethodName)) ∈ mGt := mGi_5 167 rfl rfl
theorem w_1254 : (Jvm.Cond.code ({ cls := "MoonDials", name := "year", desc := "(IIII)I" } : Jvm.MethodName) prog_1_method_38_code (7 : Nat) (Option.some Jvm.ClassFile.FieldType.int)) ∈ mGt := mGi_5 168 rfl rfl
theorem w_1255 : (Jvm.Cond.methodLink "MoonDials" (287 : Nat) ({ cls := "MoonDials$Walk", name := "shared", desc := "(II)I" } : Jvm.MethodName)) ∈ mGt := mGi_5 169 rfl rfl
theorem w_1256 : (Jvm.Cond.methodLink "MoonDialsLaw" (169 : Nat) ({ cls := "MoonDials", name := "tell", desc := "(IIZ)I" } : Jvm.MethodName)) ∈ mGt := mGi_5 170 rfl rfl
theorem w_1257 : (Jvm.Cond.instanceMethod ({ cls := "MoonDials", name := "tell", desc := "(IIZ)I" } : Jvm.MethodName)) ∈ mGt := mGi_5 171 rfl rfl
theorem w_1258 : (Jvm.Cond.selects "MoonDials" ({ cls := "MoonDials", name := "tell", desc := "(IIZ)I" } : Jvm.MethodName) ({ cls := "MoonDials", name := "tell", desc := "(IIZ)I" } : Jvm.MethodName)) ∈ mGt := mGi_5 172 rfl rfl
theorem w_1259 : (Jvm.Cond.code ({ cls := "MoonDials", name := "tell", desc := "(IIZ)I" } : Jvm.MethodName) prog_1_method_39_code (4 : Nat) (Option.some Jvm.ClassFile.FieldType.int)) ∈ mGt := mGi_5 173 rfl rfl
theorem w_1260 : (Jvm.Cond.methodLink "MoonDials" (290 : Nat) ({ cls := "MoonDials$Riddle", name := "add", desc := "(IIZ)V" } : Jvm.MethodName)) ∈ mGt := mGi_5 174 rfl rfl
theorem w_1261 : (Jvm.Cond.instanceMethod ({ cls := "MoonDials$Riddle", name := "add", desc := "(IIZ)V" } : Jvm.MethodName)) ∈ mGt := mGi_5 175 rfl rfl
theorem w_1262 : (Jvm.Cond.selects "MoonDials$Riddle" ({ cls := "MoonDials$Riddle", name := "add", desc := "(IIZ)V" } : Jvm.MethodName) ({ cls := "MoonDials$Riddle", name := "add", desc := "(IIZ)V" } : Jvm.MethodName)) ∈ mGt := mGi_5 176 rfl rfl
theorem w_1263 : (Jvm.Cond.code ({ cls := "MoonDials$Riddle", name := "add", desc := "(IIZ)V" } : Jvm.MethodName) prog_7_method_2_code (4 : Nat) (Option.none : Option Jvm.ClassFile.FieldType)) ∈ mGt := mGi_5 177 rfl rfl
theorem w_1264 : (Jvm.Cond.methodLink "MoonDialsLaw" (174 : Nat) ({ cls := "MoonDials", name := "forget", desc := "()I" } : Jvm.MethodName)) ∈ mGt := mGi_5 178 rfl rfl
theorem w_1265 : (Jvm.Cond.instanceMethod ({ cls := "MoonDials", name := "forget", desc := "()I" } : Jvm.MethodName)) ∈ mGt := mGi_5 179 rfl rfl
theorem w_1266 : (Jvm.Cond.selects "MoonDials" ({ cls := "MoonDials", name := "forget", desc := "()I" } : Jvm.MethodName) ({ cls := "MoonDials", name := "forget", desc := "()I" } : Jvm.MethodName)) ∈ mGt := mGi_5 180 rfl rfl
theorem w_1267 : (Jvm.Cond.code ({ cls := "MoonDials", name := "forget", desc := "()I" } : Jvm.MethodName) prog_1_method_40_code (2 : Nat) (Option.some Jvm.ClassFile.FieldType.int)) ∈ mGt := mGi_5 181 rfl rfl
theorem w_1268 : (Jvm.Cond.methodLink "MoonDialsLaw" (178 : Nat) ({ cls := "MoonDials", name := "fits", desc := "(III)I" } : Jvm.MethodName)) ∈ mGt := mGi_5 182 rfl rfl
theorem w_1269 : (Jvm.Cond.instanceMethod ({ cls := "MoonDials", name := "fits", desc := "(III)I" } : Jvm.MethodName)) ∈ mGt := mGi_5 183 rfl rfl
theorem w_1270 : (Jvm.Cond.selects "MoonDials" ({ cls := "MoonDials", name := "fits", desc := "(III)I" } : Jvm.MethodName) ({ cls := "MoonDials", name := "fits", desc := "(III)I" } : Jvm.MethodName)) ∈ mGt := mGi_5 184 rfl rfl
theorem w_1271 : (Jvm.Cond.code ({ cls := "MoonDials", name := "fits", desc := "(III)I" } : Jvm.MethodName) prog_1_method_41_code (5 : Nat) (Option.some Jvm.ClassFile.FieldType.int)) ∈ mGt := mGi_5 185 rfl rfl
theorem w_1272 : (Jvm.Cond.methodLink "MoonDials" (293 : Nat) ({ cls := "MoonDials$Riddle", name := "fitting", desc := "([IIII)I" } : Jvm.MethodName)) ∈ mGt := mGi_5 186 rfl rfl
theorem w_1273 : (Jvm.Cond.instanceMethod ({ cls := "MoonDials$Riddle", name := "fitting", desc := "([IIII)I" } : Jvm.MethodName)) ∈ mGt := mGi_5 187 rfl rfl
theorem w_1274 : (Jvm.Cond.selects "MoonDials$Riddle" ({ cls := "MoonDials$Riddle", name := "fitting", desc := "([IIII)I" } : Jvm.MethodName) ({ cls := "MoonDials$Riddle", name := "fitting", desc := "([IIII)I" } : Jvm.MethodName)) ∈ mGt := mGi_5 188 rfl rfl
theorem w_1275 : (Jvm.Cond.code ({ cls := "MoonDials$Riddle", name := "fitting", desc := "([IIII)I" } : Jvm.MethodName) prog_7_method_3_code (9 : Nat) (Option.some Jvm.ClassFile.FieldType.int)) ∈ mGt := mGi_5 189 rfl rfl
theorem w_1276 : (Jvm.Cond.methodLink "MoonDials$Riddle" (42 : Nat) ({ cls := "MoonDials$Walk", name := "begin", desc := "([I)V" } : Jvm.MethodName)) ∈ mGt := mGi_5 190 rfl rfl
theorem w_1277 : (Jvm.Cond.methodLink "MoonDials$Riddle" (51 : Nat) ({ cls := "MoonDials$Walk", name := "see", desc := "(I)V" } : Jvm.MethodName)) ∈ mGt := mGi_5 191 rfl rfl
theorem w_1278 : (Jvm.Cond.methodLink "MoonDials$Riddle" (58 : Nat) ({ cls := "MoonDials$Riddle", name := "isSo", desc := "(III)Z" } : Jvm.MethodName)) ∈ mGt := mGi_5 192 rfl rfl
theorem w_1280 : (Jvm.Cond.instanceMethod ({ cls := "MoonDials$Riddle", name := "isSo", desc := "(III)Z" } : Jvm.MethodName)) ∈ mGt := mGi_5 194 rfl rfl
theorem w_1281 : (Jvm.Cond.code ({ cls := "MoonDials$Riddle", name := "isSo", desc := "(III)Z" } : Jvm.MethodName) prog_7_method_4_code (5 : Nat) (Option.some Jvm.ClassFile.FieldType.boolean)) ∈ mGt := mGi_5 195 rfl rfl
theorem w_1282 : (Jvm.Cond.methodLink "MoonDials$Riddle" (62 : Nat) ({ cls := "MoonDials$Walk", name := "pass", desc := "()V" } : Jvm.MethodName)) ∈ mGt := mGi_5 196 rfl rfl
theorem w_1283 : (Jvm.Cond.methodLink "MoonDialsLaw" (182 : Nat) ({ cls := "MoonDials", name := "look", desc := "(III)I" } : Jvm.MethodName)) ∈ mGt := mGi_5 197 rfl rfl
theorem w_1284 : (Jvm.Cond.instanceMethod ({ cls := "MoonDials", name := "look", desc := "(III)I" } : Jvm.MethodName)) ∈ mGt := mGi_5 198 rfl rfl
theorem w_1285 : (Jvm.Cond.selects "MoonDials" ({ cls := "MoonDials", name := "look", desc := "(III)I" } : Jvm.MethodName) ({ cls := "MoonDials", name := "look", desc := "(III)I" } : Jvm.MethodName)) ∈ mGt := mGi_5 199 rfl rfl
theorem w_1286 : (Jvm.Cond.code ({ cls := "MoonDials", name := "look", desc := "(III)I" } : Jvm.MethodName) prog_1_method_42_code (5 : Nat) (Option.some Jvm.ClassFile.FieldType.int)) ∈ mGt := mGi_5 200 rfl rfl
theorem w_1287 : (Jvm.Cond.methodLink "MoonDials" (296 : Nat) ({ cls := "MoonDials$Riddle", name := "bestNight", desc := "(I)I" } : Jvm.MethodName)) ∈ mGt := mGi_5 201 rfl rfl
theorem w_1288 : (Jvm.Cond.instanceMethod ({ cls := "MoonDials$Riddle", name := "bestNight", desc := "(I)I" } : Jvm.MethodName)) ∈ mGt := mGi_5 202 rfl rfl
theorem w_1289 : (Jvm.Cond.selects "MoonDials$Riddle" ({ cls := "MoonDials$Riddle", name := "bestNight", desc := "(I)I" } : Jvm.MethodName) ({ cls := "MoonDials$Riddle", name := "bestNight", desc := "(I)I" } : Jvm.MethodName)) ∈ mGt := mGi_5 203 rfl rfl
theorem w_1290 : (Jvm.Cond.code ({ cls := "MoonDials$Riddle", name := "bestNight", desc := "(I)I" } : Jvm.MethodName) prog_7_method_5_code (4 : Nat) (Option.some Jvm.ClassFile.FieldType.int)) ∈ mGt := mGi_5 204 rfl rfl
theorem w_1291 : (Jvm.Cond.methodLink "MoonDials$Riddle" (65 : Nat) ({ cls := "MoonDials$Riddle", name := "leftAtWorst", desc := "(II)I" } : Jvm.MethodName)) ∈ mGt := mGi_5 205 rfl rfl
theorem w_1293 : (Jvm.Cond.instanceMethod ({ cls := "MoonDials$Riddle", name := "leftAtWorst", desc := "(II)I" } : Jvm.MethodName)) ∈ mGt := mGi_5 207 rfl rfl
theorem w_1294 : (Jvm.Cond.code ({ cls := "MoonDials$Riddle", name := "leftAtWorst", desc := "(II)I" } : Jvm.MethodName) prog_7_method_6_code (5 : Nat) (Option.some Jvm.ClassFile.FieldType.int)) ∈ mGt := mGi_5 208 rfl rfl
theorem w_1295 : (Jvm.Cond.methodLink "MoonDials$Riddle" (69 : Nat) ({ cls := "java/lang/Integer", name := "bitCount", desc := "(I)I" } : Jvm.MethodName)) ∈ mGt := mGi_5 209 rfl rfl
theorem w_1296 : (Jvm.Cond.methodLink "MoonDials$Riddle" (75 : Nat) ({ cls := "java/lang/Math", name := "max", desc := "(II)I" } : Jvm.MethodName)) ∈ mGt := mGi_5 210 rfl rfl
theorem w_1297 : (Jvm.Cond.methodLink "MoonDialsLaw" (186 : Nat) ({ cls := "MoonDials", name := "hold", desc := "(I)Z" } : Jvm.MethodName)) ∈ mGt := mGi_5 211 rfl rfl
theorem w_1298 : (Jvm.Cond.instanceMethod ({ cls := "MoonDials", name := "hold", desc := "(I)Z" } : Jvm.MethodName)) ∈ mGt := mGi_5 212 rfl rfl
theorem w_1299 : (Jvm.Cond.selects "MoonDials" ({ cls := "MoonDials", name := "hold", desc := "(I)Z" } : Jvm.MethodName) ({ cls := "MoonDials", name := "hold", desc := "(I)Z" } : Jvm.MethodName)) ∈ mGt := mGi_5 213 rfl rfl
theorem w_1300 : (Jvm.Cond.code ({ cls := "MoonDials", name := "hold", desc := "(I)Z" } : Jvm.MethodName) prog_1_method_43_code (2 : Nat) (Option.some Jvm.ClassFile.FieldType.boolean)) ∈ mGt := mGi_5 214 rfl rfl
theorem w_1301 : (Jvm.Cond.methodLink "MoonDialsLaw" (191 : Nat) ({ cls := "MoonDials", name := "restore", desc := "(I)Z" } : Jvm.MethodName)) ∈ mGt := mGi_5 215 rfl rfl
theorem w_1302 : (Jvm.Cond.instanceMethod ({ cls := "MoonDials", name := "restore", desc := "(I)Z" } : Jvm.MethodName)) ∈ mGt := mGi_5 216 rfl rfl
theorem w_1303 : (Jvm.Cond.selects "MoonDials" ({ cls := "MoonDials", name := "restore", desc := "(I)Z" } : Jvm.MethodName) ({ cls := "MoonDials", name := "restore", desc := "(I)Z" } : Jvm.MethodName)) ∈ mGt := mGi_5 217 rfl rfl
theorem w_1304 : (Jvm.Cond.code ({ cls := "MoonDials", name := "restore", desc := "(I)Z" } : Jvm.MethodName) prog_1_method_44_code (2 : Nat) (Option.some Jvm.ClassFile.FieldType.boolean)) ∈ mGt := mGi_5 218 rfl rfl
theorem w_1305 : (Jvm.Cond.methodLink "MoonDialsLaw" (195 : Nat) ({ cls := "MoonDials", name := "count", desc := "(I)I" } : Jvm.MethodName)) ∈ mGt := mGi_5 219 rfl rfl
theorem w_1306 : (Jvm.Cond.instanceMethod ({ cls := "MoonDials", name := "count", desc := "(I)I" } : Jvm.MethodName)) ∈ mGt := mGi_5 220 rfl rfl
theorem w_1307 : (Jvm.Cond.selects "MoonDials" ({ cls := "MoonDials", name := "count", desc := "(I)I" } : Jvm.MethodName) ({ cls := "MoonDials", name := "count", desc := "(I)I" } : Jvm.MethodName)) ∈ mGt := mGi_5 221 rfl rfl
theorem w_1308 : (Jvm.Cond.code ({ cls := "MoonDials", name := "count", desc := "(I)I" } : Jvm.MethodName) prog_1_method_45_code (2 : Nat) (Option.some Jvm.ClassFile.FieldType.int)) ∈ mGt := mGi_5 222 rfl rfl
theorem w_1309 : (Jvm.Cond.methodLink "MoonDials" (305 : Nat) ({ cls := "MoonDials", name := "pairHours", desc := "()I" } : Jvm.MethodName)) ∈ mGt := mGi_5 223 rfl rfl
theorem w_1311 : (Jvm.Cond.instanceMethod ({ cls := "MoonDials", name := "pairHours", desc := "()I" } : Jvm.MethodName)) ∈ mGt := mGi_5 225 rfl rfl
theorem w_1312 : (Jvm.Cond.code ({ cls := "MoonDials", name := "pairHours", desc := "()I" } : Jvm.MethodName) prog_1_method_47_code (4 : Nat) (Option.some Jvm.ClassFile.FieldType.int)) ∈ mGt := mGi_5 226 rfl rfl
theorem w_1313 : (Jvm.Cond.methodLink "MoonDials" (308 : Nat) ({ cls := "MoonDials", name := "rightDials", desc := "()I" } : Jvm.MethodName)) ∈ mGt := mGi_5 227 rfl rfl
theorem w_1315 : (Jvm.Cond.instanceMethod ({ cls := "MoonDials", name := "rightDials", desc := "()I" } : Jvm.MethodName)) ∈ mGt := mGi_5 229 rfl rfl
theorem w_1316 : (Jvm.Cond.code ({ cls := "MoonDials", name := "rightDials", desc := "()I" } : Jvm.MethodName) prog_1_method_51_code (3 : Nat) (Option.some Jvm.ClassFile.FieldType.int)) ∈ mGt := mGi_5 230 rfl rfl
theorem w_1317 : (Jvm.Cond.methodLink "MoonDials" (311 : Nat) ({ cls := "MoonDials", name := "pairsMet", desc := "()I" } : Jvm.MethodName)) ∈ mGt := mGi_5 231 rfl rfl
theorem w_1319 : (Jvm.Cond.instanceMethod ({ cls := "MoonDials", name := "pairsMet", desc := "()I" } : Jvm.MethodName)) ∈ mGt := mGi_5 233 rfl rfl
theorem w_1320 : (Jvm.Cond.code ({ cls := "MoonDials", name := "pairsMet", desc := "()I" } : Jvm.MethodName) prog_1_method_48_code (4 : Nat) (Option.some Jvm.ClassFile.FieldType.int)) ∈ mGt := mGi_5 234 rfl rfl
theorem w_1321 : (Jvm.Cond.methodLink "MoonDials" (314 : Nat) ({ cls := "MoonDials", name := "unusedDials", desc := "()I" } : Jvm.MethodName)) ∈ mGt := mGi_5 235 rfl rfl
theorem w_1323 : (Jvm.Cond.instanceMethod ({ cls := "MoonDials", name := "unusedDials", desc := "()I" } : Jvm.MethodName)) ∈ mGt := mGi_5 237 rfl rfl
theorem w_1324 : (Jvm.Cond.code ({ cls := "MoonDials", name := "unusedDials", desc := "()I" } : Jvm.MethodName) prog_1_method_52_code (3 : Nat) (Option.some Jvm.ClassFile.FieldType.int)) ∈ mGt := mGi_5 238 rfl rfl
theorem w_1325 : (Jvm.Cond.methodLink "MoonDials" (317 : Nat) ({ cls := "MoonDials", name := "lonelyGoers", desc := "()I" } : Jvm.MethodName)) ∈ mGt := mGi_5 239 rfl rfl
theorem w_1327 : (Jvm.Cond.instanceMethod ({ cls := "MoonDials", name := "lonelyGoers", desc := "()I" } : Jvm.MethodName)) ∈ mGt := mGi_6 1 rfl rfl
theorem w_1328 : (Jvm.Cond.code ({ cls := "MoonDials", name := "lonelyGoers", desc := "()I" } : Jvm.MethodName) prog_1_method_53_code (3 : Nat) (Option.some Jvm.ClassFile.FieldType.int)) ∈ mGt := mGi_6 2 rfl rfl
theorem w_1329 : (Jvm.Cond.methodLink "MoonDials" (320 : Nat) ({ cls := "MoonDials", name := "countOfNight", desc := "(I)I" } : Jvm.MethodName)) ∈ mGt := mGi_6 3 rfl rfl
theorem w_1331 : (Jvm.Cond.instanceMethod ({ cls := "MoonDials", name := "countOfNight", desc := "(I)I" } : Jvm.MethodName)) ∈ mGt := mGi_6 5 rfl rfl
theorem w_1332 : (Jvm.Cond.code ({ cls := "MoonDials", name := "countOfNight", desc := "(I)I" } : Jvm.MethodName) prog_1_method_46_code (2 : Nat) (Option.some Jvm.ClassFile.FieldType.int)) ∈ mGt := mGi_6 6 rfl rfl
theorem w_1333 : (Jvm.Cond.methodLink "MoonDials" (323 : Nat) ({ cls := "MoonDials", name := "whoComes", desc := "()I" } : Jvm.MethodName)) ∈ mGt := mGi_6 7 rfl rfl
theorem w_1335 : (Jvm.Cond.instanceMethod ({ cls := "MoonDials", name := "whoComes", desc := "()I" } : Jvm.MethodName)) ∈ mGt := mGi_6 9 rfl rfl
theorem w_1336 : (Jvm.Cond.code ({ cls := "MoonDials", name := "whoComes", desc := "()I" } : Jvm.MethodName) prog_1_method_49_code (3 : Nat) (Option.some Jvm.ClassFile.FieldType.int)) ∈ mGt := mGi_6 10 rfl rfl
theorem w_1337 : (Jvm.Cond.methodLink "MoonDials" (326 : Nat) ({ cls := "MoonDials", name := "allHours", desc := "(I)I" } : Jvm.MethodName)) ∈ mGt := mGi_6 11 rfl rfl
theorem w_1338 : (Jvm.Cond.methodLink "MoonDials" (332 : Nat) ({ cls := "MoonDials", name := "darkDials", desc := "()I" } : Jvm.MethodName)) ∈ mGt := mGi_6 12 rfl rfl
theorem w_1340 : (Jvm.Cond.instanceMethod ({ cls := "MoonDials", name := "darkDials", desc := "()I" } : Jvm.MethodName)) ∈ mGt := mGi_6 14 rfl rfl
theorem w_1341 : (Jvm.Cond.code ({ cls := "MoonDials", name := "darkDials", desc := "()I" } : Jvm.MethodName) prog_1_method_50_code (3 : Nat) (Option.some Jvm.ClassFile.FieldType.int)) ∈ mGt := mGi_6 15 rfl rfl
theorem w_1342 : (Jvm.Cond.classLink "MoonDialsLaw" (10 : Nat) "MoonDialsModel") ∈ mGt := mGi_6 16 rfl rfl
theorem w_1343 : (Jvm.Cond.instantiable "MoonDialsModel" (69 : Nat)) ∈ mGt := mGi_6 17 rfl rfl
theorem w_1344 : (Jvm.Cond.methodLink "MoonDialsLaw" (12 : Nat) ({ cls := "MoonDialsModel", name := "<init>", desc := "()V" } : Jvm.MethodName)) ∈ mGt := mGi_6 18 rfl rfl
theorem w_1345 : (Jvm.Cond.instanceMethod ({ cls := "MoonDialsModel", name := "<init>", desc := "()V" } : Jvm.MethodName)) ∈ mGt := mGi_6 19 rfl rfl
theorem w_1346 : (Jvm.Cond.code ({ cls := "MoonDialsModel", name := "<init>", desc := "()V" } : Jvm.MethodName) prog_14_method_2_code (1 : Nat) (Option.none : Option Jvm.ClassFile.FieldType)) ∈ mGt := mGi_6 20 rfl rfl
theorem w_1347 : (Jvm.Cond.methodLink "MoonDialsModel" (7 : Nat) ({ cls := "java/lang/Object", name := "<init>", desc := "()V" } : Jvm.MethodName)) ∈ mGt := mGi_6 21 rfl rfl
theorem w_1348 : (Jvm.Cond.methodLink "MoonDialsModel" (158 : Nat) ({ cls := "MoonDialsModel", name := "plain", desc := "(I)V" } : Jvm.MethodName)) ∈ mGt := mGi_6 22 rfl rfl
theorem w_1350 : (Jvm.Cond.instanceMethod ({ cls := "MoonDialsModel", name := "plain", desc := "(I)V" } : Jvm.MethodName)) ∈ mGt := mGi_6 24 rfl rfl
theorem w_1351 : (Jvm.Cond.code ({ cls := "MoonDialsModel", name := "plain", desc := "(I)V" } : Jvm.MethodName) prog_14_method_19_code (3 : Nat) (Option.none : Option Jvm.ClassFile.FieldType)) ∈ mGt := mGi_6 25 rfl rfl
theorem w_1352 : (Jvm.Cond.methodLink "MoonDialsModel" (162 : Nat) ({ cls := "MoonDialsModel", name := "letters", desc := "(IIIIIII)J" } : Jvm.MethodName)) ∈ mGt := mGi_6 26 rfl rfl
theorem w_1353 : (Jvm.Cond.static ({ cls := "MoonDialsModel", name := "letters", desc := "(IIIIIII)J" } : Jvm.MethodName)) ∈ mGt := mGi_6 27 rfl rfl
theorem w_1354 : (Jvm.Cond.code ({ cls := "MoonDialsModel", name := "letters", desc := "(IIIIIII)J" } : Jvm.MethodName) prog_14_method_10_code (7 : Nat) (Option.some Jvm.ClassFile.FieldType.long)) ∈ mGt := mGi_6 28 rfl rfl
theorem w_1355 : (Jvm.Cond.methodLink "MoonDialsModel" (183 : Nat) ({ cls := "MoonDialsModel", name := "appends", desc := "(JI)J" } : Jvm.MethodName)) ∈ mGt := mGi_6 29 rfl rfl
theorem w_1356 : (Jvm.Cond.static ({ cls := "MoonDialsModel", name := "appends", desc := "(JI)J" } : Jvm.MethodName)) ∈ mGt := mGi_6 30 rfl rfl
theorem w_1357 : (Jvm.Cond.code ({ cls := "MoonDialsModel", name := "appends", desc := "(JI)J" } : Jvm.MethodName) prog_14_method_9_code (3 : Nat) (Option.some Jvm.ClassFile.FieldType.long)) ∈ mGt := mGi_6 31 rfl rfl
theorem w_1358 : (Jvm.Cond.constantLong "MoonDialsModel" (181 : Nat) (27 : Int64)) ∈ mGt := mGi_6 32 rfl rfl
theorem w_1359 : (Jvm.Cond.methodLink "MoonDialsModel" (166 : Nat) ({ cls := "MoonDialsModel", name := "begins", desc := "()V" } : Jvm.MethodName)) ∈ mGt := mGi_6 33 rfl rfl
theorem w_1361 : (Jvm.Cond.instanceMethod ({ cls := "MoonDialsModel", name := "begins", desc := "()V" } : Jvm.MethodName)) ∈ mGt := mGi_6 35 rfl rfl
theorem w_1362 : (Jvm.Cond.code ({ cls := "MoonDialsModel", name := "begins", desc := "()V" } : Jvm.MethodName) prog_14_method_45_code (2 : Nat) (Option.none : Option Jvm.ClassFile.FieldType)) ∈ mGt := mGi_6 36 rfl rfl
theorem w_1363 : (Jvm.Cond.methodLink "MoonDialsModel" (313 : Nat) ({ cls := "MoonDialsModel", name := "hours", desc := "()I" } : Jvm.MethodName)) ∈ mGt := mGi_6 37 rfl rfl
theorem w_1365 : (Jvm.Cond.instanceMethod ({ cls := "MoonDialsModel", name := "hours", desc := "()I" } : Jvm.MethodName)) ∈ mGt := mGi_6 39 rfl rfl
theorem w_1366 : (Jvm.Cond.code ({ cls := "MoonDialsModel", name := "hours", desc := "()I" } : Jvm.MethodName) prog_14_method_39_code (1 : Nat) (Option.some Jvm.ClassFile.FieldType.int)) ∈ mGt := mGi_6 40 rfl rfl
theorem w_1367 : (Jvm.Cond.methodLink "MoonDialsModel" (169 : Nat) ({ cls := "MoonDialsModel", name := "keepsRow", desc := "()V" } : Jvm.MethodName)) ∈ mGt := mGi_6 41 rfl rfl
theorem w_1369 : (Jvm.Cond.instanceMethod ({ cls := "MoonDialsModel", name := "keepsRow", desc := "()V" } : Jvm.MethodName)) ∈ mGt := mGi_6 43 rfl rfl
theorem w_1370 : (Jvm.Cond.code ({ cls := "MoonDialsModel", name := "keepsRow", desc := "()V" } : Jvm.MethodName) prog_14_method_46_code (2 : Nat) (Option.none : Option Jvm.ClassFile.FieldType)) ∈ mGt := mGi_6 44 rfl rfl
theorem w_1371 : (Jvm.Cond.fieldLink "MoonDialsModel" (13 : Nat) "MoonDialsModel" "tape" "[B") ∈ mGt := mGi_6 45 rfl rfl
theorem w_1372 : (Jvm.Cond.fieldLink "MoonDialsModel" (172 : Nat) "MoonDialsModel" "taped" "I") ∈ mGt := mGi_6 46 rfl rfl
theorem w_1373 : (Jvm.Cond.fieldLink "MoonDialsModel" (17 : Nat) "MoonDialsModel" "text" "[B") ∈ mGt := mGi_6 47 rfl rfl
theorem w_1374 : (Jvm.Cond.fieldLink "MoonDialsModel" (178 : Nat) "MoonDialsModel" "size" "I") ∈ mGt := mGi_6 48 rfl rfl
theorem w_1375 : (Jvm.Cond.fieldLink "MoonDialsModel" (20 : Nat) "MoonDialsModel" "tKind" "[I") ∈ mGt := mGi_6 49 rfl rfl
theorem w_1376 : (Jvm.Cond.fieldLink "MoonDialsModel" (24 : Nat) "MoonDialsModel" "tPlace" "[I") ∈ mGt := mGi_6 50 rfl rfl
theorem w_1377 : (Jvm.Cond.fieldLink "MoonDialsModel" (27 : Nat) "MoonDialsModel" "tValue" "[I") ∈ mGt := mGi_6 51 rfl rfl
theorem w_1378 : (Jvm.Cond.fieldLink "MoonDialsModel" (30 : Nat) "MoonDialsModel" "tName" "[J") ∈ mGt := mGi_6 52 rfl rfl
theorem w_1379 : (Jvm.Cond.fieldLink "MoonDialsModel" (34 : Nat) "MoonDialsModel" "keys" "[J") ∈ mGt := mGi_6 53 rfl rfl
theorem w_1380 : (Jvm.Cond.fieldLink "MoonDialsModel" (187 : Nat) "MoonDialsModel" "tokens" "I") ∈ mGt := mGi_6 54 rfl rfl
theorem w_1381 : (Jvm.Cond.fieldLink "MoonDialsModel" (212 : Nat) "MoonDialsModel" "t" "I") ∈ mGt := mGi_6 55 rfl rfl
theorem w_1382 : (Jvm.Cond.fieldLink "MoonDialsModel" (236 : Nat) "MoonDialsModel" "open" "I") ∈ mGt := mGi_6 56 rfl rfl
theorem w_1383 : (Jvm.Cond.fieldLink "MoonDialsModel" (209 : Nat) "MoonDialsModel" "fault" "I") ∈ mGt := mGi_6 57 rfl rfl
theorem w_1384 : (Jvm.Cond.fieldLink "MoonDialsModel" (215 : Nat) "MoonDialsModel" "faultPlace" "I") ∈ mGt := mGi_6 58 rfl rfl
theorem w_1385 : (Jvm.Cond.fieldLink "MoonDialsModel" (218 : Nat) "MoonDialsModel" "worst" "I") ∈ mGt := mGi_6 59 rfl rfl
theorem w_1386 : (Jvm.Cond.fieldLink "MoonDialsModel" (221 : Nat) "MoonDialsModel" "worstPlace" "I") ∈ mGt := mGi_6 60 rfl rfl
theorem w_1387 : (Jvm.Cond.fieldLink "MoonDialsModel" (37 : Nat) "MoonDialsModel" "place" "I") ∈ mGt := mGi_6 61 rfl rfl
theorem w_1388 : (Jvm.Cond.fieldLink "MoonDialsModel" (239 : Nat) "MoonDialsModel" "live" "I") ∈ mGt := mGi_6 62 rfl rfl
theorem w_1389 : (Jvm.Cond.fieldLink "MoonDialsModel" (242 : Nat) "MoonDialsModel" "side" "I") ∈ mGt := mGi_6 63 rfl rfl
theorem w_1390 : (Jvm.Cond.fieldLink "MoonDialsModel" (245 : Nat) "MoonDialsModel" "names" "I") ∈ mGt := mGi_6 64 rfl rfl
theorem w_1391 : (Jvm.Cond.fieldLink "MoonDialsModel" (40 : Nat) "MoonDialsModel" "nameOf" "[J") ∈ mGt := mGi_6 65 rfl rfl
theorem w_1392 : (Jvm.Cond.fieldLink "MoonDialsModel" (43 : Nat) "MoonDialsModel" "nameAt" "[I") ∈ mGt := mGi_6 66 rfl rfl
theorem w_1393 : (Jvm.Cond.fieldLink "MoonDialsModel" (46 : Nat) "MoonDialsModel" "hourMany" "[I") ∈ mGt := mGi_6 67 rfl rfl
theorem w_1394 : (Jvm.Cond.fieldLink "MoonDialsModel" (49 : Nat) "MoonDialsModel" "dials" "[I") ∈ mGt := mGi_6 68 rfl rfl
theorem w_1395 : (Jvm.Cond.fieldLink "MoonDialsModel" (52 : Nat) "MoonDialsModel" "firstOut" "[I") ∈ mGt := mGi_6 69 rfl rfl
theorem w_1396 : (Jvm.Cond.fieldLink "MoonDialsModel" (55 : Nat) "MoonDialsModel" "firstSlip" "[I") ∈ mGt := mGi_6 70 rfl rfl
theorem w_1397 : (Jvm.Cond.fieldLink "MoonDialsModel" (58 : Nat) "MoonDialsModel" "goers" "[I") ∈ mGt := mGi_6 71 rfl rfl
theorem w_1398 : (Jvm.Cond.fieldLink "MoonDialsModel" (61 : Nat) "MoonDialsModel" "firstDial" "[I") ∈ mGt := mGi_6 72 rfl rfl
theorem w_1399 : (Jvm.Cond.fieldLink "MoonDialsModel" (64 : Nat) "MoonDialsModel" "fromOf" "[I") ∈ mGt := mGi_6 73 rfl rfl
theorem w_1400 : (Jvm.Cond.fieldLink "MoonDialsModel" (67 : Nat) "MoonDialsModel" "longOf" "[I") ∈ mGt := mGi_6 74 rfl rfl
theorem w_1401 : (Jvm.Cond.fieldLink "MoonDialsModel" (70 : Nat) "MoonDialsModel" "seed" "[I") ∈ mGt := mGi_6 75 rfl rfl
theorem w_1402 : (Jvm.Cond.fieldLink "MoonDialsModel" (73 : Nat) "MoonDialsModel" "lawFirst" "[I") ∈ mGt := mGi_6 76 rfl rfl
theorem w_1403 : (Jvm.Cond.fieldLink "MoonDialsModel" (76 : Nat) "MoonDialsModel" "lawLast" "[I") ∈ mGt := mGi_6 77 rfl rfl
theorem w_1404 : (Jvm.Cond.fieldLink "MoonDialsModel" (248 : Nat) "MoonDialsModel" "branches" "I") ∈ mGt := mGi_6 78 rfl rfl
theorem w_1405 : (Jvm.Cond.fieldLink "MoonDialsModel" (79 : Nat) "MoonDialsModel" "hasTest" "[Z") ∈ mGt := mGi_6 79 rfl rfl
theorem w_1406 : (Jvm.Cond.fieldLink "MoonDialsModel" (83 : Nat) "MoonDialsModel" "testFrom" "[I") ∈ mGt := mGi_6 80 rfl rfl
theorem w_1407 : (Jvm.Cond.fieldLink "MoonDialsModel" (86 : Nat) "MoonDialsModel" "testMid" "[I") ∈ mGt := mGi_6 81 rfl rfl
theorem w_1408 : (Jvm.Cond.fieldLink "MoonDialsModel" (89 : Nat) "MoonDialsModel" "testTo" "[I") ∈ mGt := mGi_6 82 rfl rfl
theorem w_1409 : (Jvm.Cond.fieldLink "MoonDialsModel" (92 : Nat) "MoonDialsModel" "termTo" "[I") ∈ mGt := mGi_6 83 rfl rfl
theorem w_1410 : (Jvm.Cond.fieldLink "MoonDialsModel" (251 : Nat) "MoonDialsModel" "codes" "I") ∈ mGt := mGi_6 84 rfl rfl
theorem w_1411 : (Jvm.Cond.fieldLink "MoonDialsModel" (95 : Nat) "MoonDialsModel" "code" "[I") ∈ mGt := mGi_6 85 rfl rfl
theorem w_1412 : (Jvm.Cond.fieldLink "MoonDialsModel" (98 : Nat) "MoonDialsModel" "codeInt" "[I") ∈ mGt := mGi_6 86 rfl rfl
theorem w_1413 : (Jvm.Cond.fieldLink "MoonDialsModel" (101 : Nat) "MoonDialsModel" "waits" "[I") ∈ mGt := mGi_6 87 rfl rfl
theorem w_1414 : (Jvm.Cond.fieldLink "MoonDialsModel" (296 : Nat) "MoonDialsModel" "waiting" "I") ∈ mGt := mGi_6 88 rfl rfl
theorem w_1415 : (Jvm.Cond.fieldLink "MoonDialsModel" (104 : Nat) "MoonDialsModel" "variables" "[I") ∈ mGt := mGi_6 89 rfl rfl
theorem w_1416 : (Jvm.Cond.fieldLink "MoonDialsModel" (107 : Nat) "MoonDialsModel" "pile" "[I") ∈ mGt := mGi_6 90 rfl rfl
theorem w_1417 : (Jvm.Cond.fieldLink "MoonDialsModel" (309 : Nat) "MoonDialsModel" "isBroken" "Z") ∈ mGt := mGi_6 91 rfl rfl
theorem w_1418 : (Jvm.Cond.fieldLink "MoonDialsModel" (110 : Nat) "MoonDialsModel" "now" "[I") ∈ mGt := mGi_6 92 rfl rfl
theorem w_1419 : (Jvm.Cond.fieldLink "MoonDialsModel" (113 : Nat) "MoonDialsModel" "row" "[I") ∈ mGt := mGi_6 93 rfl rfl
theorem w_1420 : (Jvm.Cond.fieldLink "MoonDialsModel" (323 : Nat) "MoonDialsModel" "lots" "I") ∈ mGt := mGi_6 94 rfl rfl
theorem w_1421 : (Jvm.Cond.fieldLink "MoonDialsModel" (326 : Nat) "MoonDialsModel" "isStill" "Z") ∈ mGt := mGi_6 95 rfl rfl
theorem w_1422 : (Jvm.Cond.fieldLink "MoonDialsModel" (116 : Nat) "MoonDialsModel" "thereNow" "[I") ∈ mGt := mGi_6 96 rfl rfl
theorem w_1423 : (Jvm.Cond.fieldLink "MoonDialsModel" (257 : Nat) "MoonDialsModel" "undos" "I") ∈ mGt := mGi_6 97 rfl rfl
theorem w_1424 : (Jvm.Cond.fieldLink "MoonDialsModel" (119 : Nat) "MoonDialsModel" "history" "[I") ∈ mGt := mGi_6 98 rfl rfl
theorem w_1425 : (Jvm.Cond.fieldLink "MoonDialsModel" (122 : Nat) "MoonDialsModel" "thereBy" "[I") ∈ mGt := mGi_6 99 rfl rfl
theorem w_1426 : (Jvm.Cond.fieldLink "MoonDialsModel" (125 : Nat) "MoonDialsModel" "worthBy" "[I") ∈ mGt := mGi_6 100 rfl rfl
theorem w_1427 : (Jvm.Cond.fieldLink "MoonDialsModel" (128 : Nat) "MoonDialsModel" "couplesBy" "[I") ∈ mGt := mGi_6 101 rfl rfl
theorem w_1428 : (Jvm.Cond.fieldLink "MoonDialsModel" (469 : Nat) "MoonDialsModel" "couplesLong" "I") ∈ mGt := mGi_6 102 rfl rfl
theorem w_1429 : (Jvm.Cond.fieldLink "MoonDialsModel" (131 : Nat) "MoonDialsModel" "levelAt" "[I") ∈ mGt := mGi_6 103 rfl rfl
theorem w_1430 : (Jvm.Cond.fieldLink "MoonDialsModel" (134 : Nat) "MoonDialsModel" "gameRows" "[I") ∈ mGt := mGi_6 104 rfl rfl
theorem w_1431 : (Jvm.Cond.fieldLink "MoonDialsModel" (137 : Nat) "MoonDialsModel" "gameBy" "[I") ∈ mGt := mGi_6 105 rfl rfl
theorem w_1432 : (Jvm.Cond.fieldLink "MoonDialsModel" (260 : Nat) "MoonDialsModel" "tolds" "I") ∈ mGt := mGi_6 106 rfl rfl
theorem w_1433 : (Jvm.Cond.fieldLink "MoonDialsModel" (140 : Nat) "MoonDialsModel" "toldBehind" "[I") ∈ mGt := mGi_6 107 rfl rfl
theorem w_1434 : (Jvm.Cond.fieldLink "MoonDialsModel" (143 : Nat) "MoonDialsModel" "toldHour" "[I") ∈ mGt := mGi_6 108 rfl rfl
theorem w_1435 : (Jvm.Cond.fieldLink "MoonDialsModel" (146 : Nat) "MoonDialsModel" "toldSo" "[Z") ∈ mGt := mGi_6 109 rfl rfl
theorem w_1436 : (Jvm.Cond.fieldLink "MoonDialsModel" (149 : Nat) "MoonDialsModel" "seenBy" "[I") ∈ mGt := mGi_6 110 rfl rfl
theorem w_1437 : (Jvm.Cond.fieldLink "MoonDialsModel" (152 : Nat) "MoonDialsModel" "isHeld" "[Z") ∈ mGt := mGi_6 111 rfl rfl
theorem w_1438 : (Jvm.Cond.fieldLink "MoonDialsModel" (155 : Nat) "MoonDialsModel" "heldRows" "[I") ∈ mGt := mGi_6 112 rfl rfl
theorem w_1439 : (Jvm.Cond.lays "MoonDialsModel" "MoonDialsModel" "thrown" "I") ∈ mGt := mGi_6 113 rfl rfl
theorem w_1441 : (Jvm.Cond.laysFinal "MoonDialsModel" "MoonDialsModel" "tape" "[B") ∈ mGt := mGi_6 115 rfl rfl
theorem w_1443 : (Jvm.Cond.lays "MoonDialsModel" "MoonDialsModel" "taped" "I") ∈ mGt := mGi_6 117 rfl rfl
theorem w_1445 : (Jvm.Cond.laysFinal "MoonDialsModel" "MoonDialsModel" "text" "[B") ∈ mGt := mGi_6 119 rfl rfl
theorem w_1447 : (Jvm.Cond.lays "MoonDialsModel" "MoonDialsModel" "size" "I") ∈ mGt := mGi_6 121 rfl rfl
theorem w_1449 : (Jvm.Cond.laysFinal "MoonDialsModel" "MoonDialsModel" "tKind" "[I") ∈ mGt := mGi_6 123 rfl rfl
theorem w_1451 : (Jvm.Cond.laysFinal "MoonDialsModel" "MoonDialsModel" "tPlace" "[I") ∈ mGt := mGi_6 125 rfl rfl
theorem w_1453 : (Jvm.Cond.laysFinal "MoonDialsModel" "MoonDialsModel" "tValue" "[I") ∈ mGt := mGi_6 127 rfl rfl
theorem w_1455 : (Jvm.Cond.laysFinal "MoonDialsModel" "MoonDialsModel" "tName" "[J") ∈ mGt := mGi_6 129 rfl rfl
theorem w_1457 : (Jvm.Cond.laysFinal "MoonDialsModel" "MoonDialsModel" "keys" "[J") ∈ mGt := mGi_6 131 rfl rfl
theorem w_1459 : (Jvm.Cond.lays "MoonDialsModel" "MoonDialsModel" "tokens" "I") ∈ mGt := mGi_6 133 rfl rfl
theorem w_1461 : (Jvm.Cond.lays "MoonDialsModel" "MoonDialsModel" "t" "I") ∈ mGt := mGi_6 135 rfl rfl
theorem w_1463 : (Jvm.Cond.lays "MoonDialsModel" "MoonDialsModel" "open" "I") ∈ mGt := mGi_6 137 rfl rfl
theorem w_1465 : (Jvm.Cond.lays "MoonDialsModel" "MoonDialsModel" "fault" "I") ∈ mGt := mGi_6 139 rfl rfl
theorem w_1467 : (Jvm.Cond.lays "MoonDialsModel" "MoonDialsModel" "faultPlace" "I") ∈ mGt := mGi_6 141 rfl rfl
theorem w_1469 : (Jvm.Cond.lays "MoonDialsModel" "MoonDialsModel" "worst" "I") ∈ mGt := mGi_6 143 rfl rfl
theorem w_1471 : (Jvm.Cond.lays "MoonDialsModel" "MoonDialsModel" "worstPlace" "I") ∈ mGt := mGi_6 145 rfl rfl
theorem w_1473 : (Jvm.Cond.lays "MoonDialsModel" "MoonDialsModel" "place" "I") ∈ mGt := mGi_6 147 rfl rfl
theorem w_1475 : (Jvm.Cond.lays "MoonDialsModel" "MoonDialsModel" "live" "I") ∈ mGt := mGi_6 149 rfl rfl
theorem w_1477 : (Jvm.Cond.lays "MoonDialsModel" "MoonDialsModel" "side" "I") ∈ mGt := mGi_6 151 rfl rfl
theorem w_1479 : (Jvm.Cond.lays "MoonDialsModel" "MoonDialsModel" "names" "I") ∈ mGt := mGi_6 153 rfl rfl
theorem w_1481 : (Jvm.Cond.laysFinal "MoonDialsModel" "MoonDialsModel" "nameOf" "[J") ∈ mGt := mGi_6 155 rfl rfl
theorem w_1483 : (Jvm.Cond.laysFinal "MoonDialsModel" "MoonDialsModel" "nameAt" "[I") ∈ mGt := mGi_6 157 rfl rfl
theorem w_1485 : (Jvm.Cond.laysFinal "MoonDialsModel" "MoonDialsModel" "hourMany" "[I") ∈ mGt := mGi_6 159 rfl rfl
theorem w_1487 : (Jvm.Cond.laysFinal "MoonDialsModel" "MoonDialsModel" "dials" "[I") ∈ mGt := mGi_6 161 rfl rfl
theorem w_1489 : (Jvm.Cond.laysFinal "MoonDialsModel" "MoonDialsModel" "firstOut" "[I") ∈ mGt := mGi_6 163 rfl rfl
theorem w_1491 : (Jvm.Cond.laysFinal "MoonDialsModel" "MoonDialsModel" "firstSlip" "[I") ∈ mGt := mGi_6 165 rfl rfl
theorem w_1493 : (Jvm.Cond.laysFinal "MoonDialsModel" "MoonDialsModel" "goers" "[I") ∈ mGt := mGi_6 167 rfl rfl
theorem w_1495 : (Jvm.Cond.laysFinal "MoonDialsModel" "MoonDialsModel" "firstDial" "[I") ∈ mGt := mGi_6 169 rfl rfl
theorem w_1497 : (Jvm.Cond.laysFinal "MoonDialsModel" "MoonDialsModel" "fromOf" "[I") ∈ mGt := mGi_6 171 rfl rfl
theorem w_1499 : (Jvm.Cond.laysFinal "MoonDialsModel" "MoonDialsModel" "longOf" "[I") ∈ mGt := mGi_6 173 rfl rfl
theorem w_1501 : (Jvm.Cond.laysFinal "MoonDialsModel" "MoonDialsModel" "seed" "[I") ∈ mGt := mGi_6 175 rfl rfl
theorem w_1503 : (Jvm.Cond.laysFinal "MoonDialsModel" "MoonDialsModel" "lawFirst" "[I") ∈ mGt := mGi_6 177 rfl rfl
theorem w_1505 : (Jvm.Cond.laysFinal "MoonDialsModel" "MoonDialsModel" "lawLast" "[I") ∈ mGt := mGi_6 179 rfl rfl
theorem w_1507 : (Jvm.Cond.lays "MoonDialsModel" "MoonDialsModel" "branches" "I") ∈ mGt := mGi_6 181 rfl rfl
theorem w_1509 : (Jvm.Cond.laysFinal "MoonDialsModel" "MoonDialsModel" "hasTest" "[Z") ∈ mGt := mGi_6 183 rfl rfl
theorem w_1511 : (Jvm.Cond.laysFinal "MoonDialsModel" "MoonDialsModel" "testFrom" "[I") ∈ mGt := mGi_6 185 rfl rfl
theorem w_1513 : (Jvm.Cond.laysFinal "MoonDialsModel" "MoonDialsModel" "testMid" "[I") ∈ mGt := mGi_6 187 rfl rfl
theorem w_1515 : (Jvm.Cond.laysFinal "MoonDialsModel" "MoonDialsModel" "testTo" "[I") ∈ mGt := mGi_6 189 rfl rfl
theorem w_1517 : (Jvm.Cond.laysFinal "MoonDialsModel" "MoonDialsModel" "termTo" "[I") ∈ mGt := mGi_6 191 rfl rfl
theorem w_1519 : (Jvm.Cond.lays "MoonDialsModel" "MoonDialsModel" "codes" "I") ∈ mGt := mGi_6 193 rfl rfl
theorem w_1521 : (Jvm.Cond.laysFinal "MoonDialsModel" "MoonDialsModel" "code" "[I") ∈ mGt := mGi_6 195 rfl rfl
theorem w_1523 : (Jvm.Cond.laysFinal "MoonDialsModel" "MoonDialsModel" "codeInt" "[I") ∈ mGt := mGi_6 197 rfl rfl
theorem w_1525 : (Jvm.Cond.laysFinal "MoonDialsModel" "MoonDialsModel" "waits" "[I") ∈ mGt := mGi_6 199 rfl rfl
theorem w_1527 : (Jvm.Cond.lays "MoonDialsModel" "MoonDialsModel" "waiting" "I") ∈ mGt := mGi_6 201 rfl rfl
theorem w_1529 : (Jvm.Cond.laysFinal "MoonDialsModel" "MoonDialsModel" "variables" "[I") ∈ mGt := mGi_6 203 rfl rfl
theorem w_1531 : (Jvm.Cond.laysFinal "MoonDialsModel" "MoonDialsModel" "pile" "[I") ∈ mGt := mGi_6 205 rfl rfl
theorem w_1533 : (Jvm.Cond.lays "MoonDialsModel" "MoonDialsModel" "isBroken" "Z") ∈ mGt := mGi_6 207 rfl rfl
theorem w_1535 : (Jvm.Cond.laysFinal "MoonDialsModel" "MoonDialsModel" "now" "[I") ∈ mGt := mGi_6 209 rfl rfl
theorem w_1537 : (Jvm.Cond.laysFinal "MoonDialsModel" "MoonDialsModel" "row" "[I") ∈ mGt := mGi_6 211 rfl rfl
theorem w_1539 : (Jvm.Cond.lays "MoonDialsModel" "MoonDialsModel" "lots" "I") ∈ mGt := mGi_6 213 rfl rfl
theorem w_1541 : (Jvm.Cond.lays "MoonDialsModel" "MoonDialsModel" "isStill" "Z") ∈ mGt := mGi_6 215 rfl rfl
theorem w_1543 : (Jvm.Cond.laysFinal "MoonDialsModel" "MoonDialsModel" "thereNow" "[I") ∈ mGt := mGi_6 217 rfl rfl
theorem w_1545 : (Jvm.Cond.lays "MoonDialsModel" "MoonDialsModel" "undos" "I") ∈ mGt := mGi_6 219 rfl rfl
theorem w_1547 : (Jvm.Cond.laysFinal "MoonDialsModel" "MoonDialsModel" "history" "[I") ∈ mGt := mGi_6 221 rfl rfl
theorem w_1549 : (Jvm.Cond.laysFinal "MoonDialsModel" "MoonDialsModel" "thereBy" "[I") ∈ mGt := mGi_6 223 rfl rfl
theorem w_1551 : (Jvm.Cond.laysFinal "MoonDialsModel" "MoonDialsModel" "worthBy" "[I") ∈ mGt := mGi_6 225 rfl rfl
theorem w_1553 : (Jvm.Cond.laysFinal "MoonDialsModel" "MoonDialsModel" "couplesBy" "[I") ∈ mGt := mGi_6 227 rfl rfl
theorem w_1555 : (Jvm.Cond.lays "MoonDialsModel" "MoonDialsModel" "couplesLong" "I") ∈ mGt := mGi_6 229 rfl rfl
theorem w_1557 : (Jvm.Cond.laysFinal "MoonDialsModel" "MoonDialsModel" "levelAt" "[I") ∈ mGt := mGi_6 231 rfl rfl
theorem w_1559 : (Jvm.Cond.laysFinal "MoonDialsModel" "MoonDialsModel" "gameRows" "[I") ∈ mGt := mGi_6 233 rfl rfl
theorem w_1561 : (Jvm.Cond.laysFinal "MoonDialsModel" "MoonDialsModel" "gameBy" "[I") ∈ mGt := mGi_6 235 rfl rfl
theorem w_1563 : (Jvm.Cond.lays "MoonDialsModel" "MoonDialsModel" "tolds" "I") ∈ mGt := mGi_6 237 rfl rfl
theorem w_1565 : (Jvm.Cond.laysFinal "MoonDialsModel" "MoonDialsModel" "toldBehind" "[I") ∈ mGt := mGi_6 239 rfl rfl
theorem w_1567 : (Jvm.Cond.laysFinal "MoonDialsModel" "MoonDialsModel" "toldHour" "[I") ∈ mGt := mGi_7 1 rfl rfl
theorem w_1569 : (Jvm.Cond.laysFinal "MoonDialsModel" "MoonDialsModel" "toldSo" "[Z") ∈ mGt := mGi_7 3 rfl rfl
theorem w_1571 : (Jvm.Cond.laysFinal "MoonDialsModel" "MoonDialsModel" "seenBy" "[I") ∈ mGt := mGi_7 5 rfl rfl
theorem w_1573 : (Jvm.Cond.laysFinal "MoonDialsModel" "MoonDialsModel" "isHeld" "[Z") ∈ mGt := mGi_7 7 rfl rfl
theorem w_1575 : (Jvm.Cond.laysFinal "MoonDialsModel" "MoonDialsModel" "heldRows" "[I") ∈ mGt := mGi_7 9 rfl rfl
theorem w_1578 : (Jvm.Cond.methodLink "MoonDialsLaw" (17 : Nat) ({ cls := "MoonDialsModel", name := "feed", desc := "(IIIII)I" } : Jvm.MethodName)) ∈ mGt := mGi_7 12 rfl rfl
theorem w_1579 : (Jvm.Cond.instanceMethod ({ cls := "MoonDialsModel", name := "feed", desc := "(IIIII)I" } : Jvm.MethodName)) ∈ mGt := mGi_7 13 rfl rfl
theorem w_1580 : (Jvm.Cond.selects "MoonDialsModel" ({ cls := "MoonDialsModel", name := "feed", desc := "(IIIII)I" } : Jvm.MethodName) ({ cls := "MoonDialsModel", name := "feed", desc := "(IIIII)I" } : Jvm.MethodName)) ∈ mGt := mGi_7 14 rfl rfl
theorem w_1581 : (Jvm.Cond.code ({ cls := "MoonDialsModel", name := "feed", desc := "(IIIII)I" } : Jvm.MethodName) prog_14_method_3_code (6 : Nat) (Option.some Jvm.ClassFile.FieldType.int)) ∈ mGt := mGi_7 15 rfl rfl
theorem w_1582 : (Jvm.Cond.methodLink "MoonDialsModel" (175 : Nat) ({ cls := "MoonDialsModel", name := "lays", desc := "(I)V" } : Jvm.MethodName)) ∈ mGt := mGi_7 16 rfl rfl
theorem w_1584 : (Jvm.Cond.instanceMethod ({ cls := "MoonDialsModel", name := "lays", desc := "(I)V" } : Jvm.MethodName)) ∈ mGt := mGi_7 18 rfl rfl
theorem w_1585 : (Jvm.Cond.code ({ cls := "MoonDialsModel", name := "lays", desc := "(I)V" } : Jvm.MethodName) prog_14_method_4_code (3 : Nat) (Option.none : Option Jvm.ClassFile.FieldType)) ∈ mGt := mGi_7 19 rfl rfl
theorem w_1586 : (Jvm.Cond.methodLink "MoonDialsLaw" (22 : Nat) ({ cls := "MoonDialsModel", name := "back", desc := "(I)I" } : Jvm.MethodName)) ∈ mGt := mGi_7 20 rfl rfl
theorem w_1587 : (Jvm.Cond.instanceMethod ({ cls := "MoonDialsModel", name := "back", desc := "(I)I" } : Jvm.MethodName)) ∈ mGt := mGi_7 21 rfl rfl
theorem w_1588 : (Jvm.Cond.selects "MoonDialsModel" ({ cls := "MoonDialsModel", name := "back", desc := "(I)I" } : Jvm.MethodName) ({ cls := "MoonDialsModel", name := "back", desc := "(I)I" } : Jvm.MethodName)) ∈ mGt := mGi_7 22 rfl rfl
theorem w_1589 : (Jvm.Cond.code ({ cls := "MoonDialsModel", name := "back", desc := "(I)I" } : Jvm.MethodName) prog_14_method_5_code (2 : Nat) (Option.some Jvm.ClassFile.FieldType.int)) ∈ mGt := mGi_7 23 rfl rfl
theorem w_1590 : (Jvm.Cond.methodLink "MoonDialsLaw" (27 : Nat) ({ cls := "MoonDialsModel", name := "read", desc := "()I" } : Jvm.MethodName)) ∈ mGt := mGi_7 24 rfl rfl
theorem w_1591 : (Jvm.Cond.instanceMethod ({ cls := "MoonDialsModel", name := "read", desc := "()I" } : Jvm.MethodName)) ∈ mGt := mGi_7 25 rfl rfl
theorem w_1592 : (Jvm.Cond.selects "MoonDialsModel" ({ cls := "MoonDialsModel", name := "read", desc := "()I" } : Jvm.MethodName) ({ cls := "MoonDialsModel", name := "read", desc := "()I" } : Jvm.MethodName)) ∈ mGt := mGi_7 26 rfl rfl
theorem w_1593 : (Jvm.Cond.code ({ cls := "MoonDialsModel", name := "read", desc := "()I" } : Jvm.MethodName) prog_14_method_20_code (2 : Nat) (Option.some Jvm.ClassFile.FieldType.int)) ∈ mGt := mGi_7 27 rfl rfl
theorem w_1594 : (Jvm.Cond.methodLink "MoonDialsModel" (233 : Nat) ({ cls := "MoonDialsModel", name := "cut", desc := "()V" } : Jvm.MethodName)) ∈ mGt := mGi_7 28 rfl rfl
theorem w_1596 : (Jvm.Cond.instanceMethod ({ cls := "MoonDialsModel", name := "cut", desc := "()V" } : Jvm.MethodName)) ∈ mGt := mGi_7 30 rfl rfl
theorem w_1597 : (Jvm.Cond.code ({ cls := "MoonDialsModel", name := "cut", desc := "()V" } : Jvm.MethodName) prog_14_method_12_code (8 : Nat) (Option.none : Option Jvm.ClassFile.FieldType)) ∈ mGt := mGi_7 31 rfl rfl
theorem w_1598 : (Jvm.Cond.methodLink "MoonDialsModel" (190 : Nat) ({ cls := "MoonDialsModel", name := "byteAt", desc := "(I)I" } : Jvm.MethodName)) ∈ mGt := mGi_7 32 rfl rfl
theorem w_1600 : (Jvm.Cond.instanceMethod ({ cls := "MoonDialsModel", name := "byteAt", desc := "(I)I" } : Jvm.MethodName)) ∈ mGt := mGi_7 34 rfl rfl
theorem w_1601 : (Jvm.Cond.code ({ cls := "MoonDialsModel", name := "byteAt", desc := "(I)I" } : Jvm.MethodName) prog_14_method_6_code (2 : Nat) (Option.some Jvm.ClassFile.FieldType.int)) ∈ mGt := mGi_7 35 rfl rfl
theorem w_1602 : (Jvm.Cond.methodLink "MoonDialsModel" (194 : Nat) ({ cls := "MoonDialsModel", name := "token", desc := "(IIIJ)V" } : Jvm.MethodName)) ∈ mGt := mGi_7 36 rfl rfl
theorem w_1604 : (Jvm.Cond.instanceMethod ({ cls := "MoonDialsModel", name := "token", desc := "(IIIJ)V" } : Jvm.MethodName)) ∈ mGt := mGi_7 38 rfl rfl
theorem w_1605 : (Jvm.Cond.code ({ cls := "MoonDialsModel", name := "token", desc := "(IIIJ)V" } : Jvm.MethodName) prog_14_method_11_code (6 : Nat) (Option.none : Option Jvm.ClassFile.FieldType)) ∈ mGt := mGi_7 39 rfl rfl
theorem w_1606 : (Jvm.Cond.methodLink "MoonDialsModel" (198 : Nat) ({ cls := "MoonDialsModel", name := "isLetter", desc := "(I)Z" } : Jvm.MethodName)) ∈ mGt := mGi_7 40 rfl rfl
theorem w_1607 : (Jvm.Cond.static ({ cls := "MoonDialsModel", name := "isLetter", desc := "(I)Z" } : Jvm.MethodName)) ∈ mGt := mGi_7 41 rfl rfl
theorem w_1608 : (Jvm.Cond.code ({ cls := "MoonDialsModel", name := "isLetter", desc := "(I)Z" } : Jvm.MethodName) prog_14_method_8_code (1 : Nat) (Option.some Jvm.ClassFile.FieldType.boolean)) ∈ mGt := mGi_7 42 rfl rfl
theorem w_1609 : (Jvm.Cond.methodLink "MoonDialsModel" (202 : Nat) ({ cls := "MoonDialsModel", name := "isDigit", desc := "(I)Z" } : Jvm.MethodName)) ∈ mGt := mGi_7 43 rfl rfl
theorem w_1610 : (Jvm.Cond.static ({ cls := "MoonDialsModel", name := "isDigit", desc := "(I)Z" } : Jvm.MethodName)) ∈ mGt := mGi_7 44 rfl rfl
theorem w_1611 : (Jvm.Cond.code ({ cls := "MoonDialsModel", name := "isDigit", desc := "(I)Z" } : Jvm.MethodName) prog_14_method_7_code (1 : Nat) (Option.some Jvm.ClassFile.FieldType.boolean)) ∈ mGt := mGi_7 45 rfl rfl
theorem w_1612 : (Jvm.Cond.methodLink "MoonDialsModel" (205 : Nat) ({ cls := "MoonDialsModel", name := "sign", desc := "(III)I" } : Jvm.MethodName)) ∈ mGt := mGi_7 46 rfl rfl
theorem w_1614 : (Jvm.Cond.instanceMethod ({ cls := "MoonDialsModel", name := "sign", desc := "(III)I" } : Jvm.MethodName)) ∈ mGt := mGi_7 48 rfl rfl
theorem w_1615 : (Jvm.Cond.code ({ cls := "MoonDialsModel", name := "sign", desc := "(III)I" } : Jvm.MethodName) prog_14_method_13_code (5 : Nat) (Option.some Jvm.ClassFile.FieldType.int)) ∈ mGt := mGi_7 49 rfl rfl
theorem w_1616 : (Jvm.Cond.methodLink "MoonDialsModel" (227 : Nat) ({ cls := "MoonDialsModel", name := "is", desc := "(I)Z" } : Jvm.MethodName)) ∈ mGt := mGi_7 50 rfl rfl
theorem w_1618 : (Jvm.Cond.instanceMethod ({ cls := "MoonDialsModel", name := "is", desc := "(I)Z" } : Jvm.MethodName)) ∈ mGt := mGi_7 52 rfl rfl
theorem w_1619 : (Jvm.Cond.code ({ cls := "MoonDialsModel", name := "is", desc := "(I)Z" } : Jvm.MethodName) prog_14_method_14_code (2 : Nat) (Option.some Jvm.ClassFile.FieldType.boolean)) ∈ mGt := mGi_7 53 rfl rfl
theorem w_1620 : (Jvm.Cond.methodLink "MoonDialsModel" (254 : Nat) ({ cls := "MoonDialsModel", name := "tellOne", desc := "()V" } : Jvm.MethodName)) ∈ mGt := mGi_7 54 rfl rfl
theorem w_1622 : (Jvm.Cond.instanceMethod ({ cls := "MoonDialsModel", name := "tellOne", desc := "()V" } : Jvm.MethodName)) ∈ mGt := mGi_7 56 rfl rfl
theorem w_1623 : (Jvm.Cond.code ({ cls := "MoonDialsModel", name := "tellOne", desc := "()V" } : Jvm.MethodName) prog_14_method_23_code (3 : Nat) (Option.none : Option Jvm.ClassFile.FieldType)) ∈ mGt := mGi_7 57 rfl rfl
theorem w_1624 : (Jvm.Cond.methodLink "MoonDialsModel" (230 : Nat) ({ cls := "MoonDialsModel", name := "goesOn", desc := "()V" } : Jvm.MethodName)) ∈ mGt := mGi_7 58 rfl rfl
theorem w_1626 : (Jvm.Cond.instanceMethod ({ cls := "MoonDialsModel", name := "goesOn", desc := "()V" } : Jvm.MethodName)) ∈ mGt := mGi_7 60 rfl rfl
theorem w_1627 : (Jvm.Cond.code ({ cls := "MoonDialsModel", name := "goesOn", desc := "()V" } : Jvm.MethodName) prog_14_method_17_code (1 : Nat) (Option.none : Option Jvm.ClassFile.FieldType)) ∈ mGt := mGi_7 61 rfl rfl
theorem w_1628 : (Jvm.Cond.methodLink "MoonDialsModel" (224 : Nat) ({ cls := "MoonDialsModel", name := "fail", desc := "(I)V" } : Jvm.MethodName)) ∈ mGt := mGi_7 62 rfl rfl
theorem w_1630 : (Jvm.Cond.instanceMethod ({ cls := "MoonDialsModel", name := "fail", desc := "(I)V" } : Jvm.MethodName)) ∈ mGt := mGi_7 64 rfl rfl
theorem w_1631 : (Jvm.Cond.code ({ cls := "MoonDialsModel", name := "fail", desc := "(I)V" } : Jvm.MethodName) prog_14_method_15_code (2 : Nat) (Option.none : Option Jvm.ClassFile.FieldType)) ∈ mGt := mGi_7 65 rfl rfl
theorem w_1632 : (Jvm.Cond.methodLink "MoonDialsModel" (263 : Nat) ({ cls := "MoonDialsModel", name := "bounded", desc := "(II)I" } : Jvm.MethodName)) ∈ mGt := mGi_7 66 rfl rfl
theorem w_1634 : (Jvm.Cond.instanceMethod ({ cls := "MoonDialsModel", name := "bounded", desc := "(II)I" } : Jvm.MethodName)) ∈ mGt := mGi_7 68 rfl rfl
theorem w_1635 : (Jvm.Cond.code ({ cls := "MoonDialsModel", name := "bounded", desc := "(II)I" } : Jvm.MethodName) prog_14_method_27_code (4 : Nat) (Option.some Jvm.ClassFile.FieldType.int)) ∈ mGt := mGi_7 69 rfl rfl
theorem w_1636 : (Jvm.Cond.methodLink "MoonDialsModel" (287 : Nat) ({ cls := "MoonDialsModel", name := "wrong", desc := "(II)V" } : Jvm.MethodName)) ∈ mGt := mGi_7 70 rfl rfl
theorem w_1638 : (Jvm.Cond.instanceMethod ({ cls := "MoonDialsModel", name := "wrong", desc := "(II)V" } : Jvm.MethodName)) ∈ mGt := mGi_7 72 rfl rfl
theorem w_1639 : (Jvm.Cond.code ({ cls := "MoonDialsModel", name := "wrong", desc := "(II)V" } : Jvm.MethodName) prog_14_method_16_code (4 : Nat) (Option.none : Option Jvm.ClassFile.FieldType)) ∈ mGt := mGi_7 73 rfl rfl
theorem w_1640 : (Jvm.Cond.methodLink "MoonDialsModel" (267 : Nat) ({ cls := "MoonDialsModel", name := "must", desc := "(I)V" } : Jvm.MethodName)) ∈ mGt := mGi_7 74 rfl rfl
theorem w_1642 : (Jvm.Cond.instanceMethod ({ cls := "MoonDialsModel", name := "must", desc := "(I)V" } : Jvm.MethodName)) ∈ mGt := mGi_7 76 rfl rfl
theorem w_1643 : (Jvm.Cond.code ({ cls := "MoonDialsModel", name := "must", desc := "(I)V" } : Jvm.MethodName) prog_14_method_18_code (2 : Nat) (Option.none : Option Jvm.ClassFile.FieldType)) ∈ mGt := mGi_7 77 rfl rfl
theorem w_1644 : (Jvm.Cond.methodLink "MoonDialsModel" (270 : Nat) ({ cls := "MoonDialsModel", name := "roomFor", desc := "(II)V" } : Jvm.MethodName)) ∈ mGt := mGi_7 78 rfl rfl
theorem w_1646 : (Jvm.Cond.instanceMethod ({ cls := "MoonDialsModel", name := "roomFor", desc := "(II)V" } : Jvm.MethodName)) ∈ mGt := mGi_7 80 rfl rfl
theorem w_1647 : (Jvm.Cond.code ({ cls := "MoonDialsModel", name := "roomFor", desc := "(II)V" } : Jvm.MethodName) prog_14_method_22_code (3 : Nat) (Option.none : Option Jvm.ClassFile.FieldType)) ∈ mGt := mGi_7 81 rfl rfl
theorem w_1648 : (Jvm.Cond.methodLink "MoonDialsModel" (274 : Nat) ({ cls := "MoonDialsModel", name := "named", desc := "()I" } : Jvm.MethodName)) ∈ mGt := mGi_7 82 rfl rfl
theorem w_1650 : (Jvm.Cond.instanceMethod ({ cls := "MoonDialsModel", name := "named", desc := "()I" } : Jvm.MethodName)) ∈ mGt := mGi_7 84 rfl rfl
theorem w_1651 : (Jvm.Cond.code ({ cls := "MoonDialsModel", name := "named", desc := "()I" } : Jvm.MethodName) prog_14_method_24_code (3 : Nat) (Option.some Jvm.ClassFile.FieldType.int)) ∈ mGt := mGi_7 85 rfl rfl
theorem w_1652 : (Jvm.Cond.methodLink "MoonDialsModel" (278 : Nat) ({ cls := "MoonDialsModel", name := "endsName", desc := "(II)V" } : Jvm.MethodName)) ∈ mGt := mGi_7 86 rfl rfl
theorem w_1654 : (Jvm.Cond.instanceMethod ({ cls := "MoonDialsModel", name := "endsName", desc := "(II)V" } : Jvm.MethodName)) ∈ mGt := mGi_7 88 rfl rfl
theorem w_1655 : (Jvm.Cond.code ({ cls := "MoonDialsModel", name := "endsName", desc := "(II)V" } : Jvm.MethodName) prog_14_method_25_code (3 : Nat) (Option.none : Option Jvm.ClassFile.FieldType)) ∈ mGt := mGi_7 89 rfl rfl
theorem w_1656 : (Jvm.Cond.methodLink "MoonDialsModel" (281 : Nat) ({ cls := "MoonDialsModel", name := "known", desc := "()I" } : Jvm.MethodName)) ∈ mGt := mGi_7 90 rfl rfl
theorem w_1658 : (Jvm.Cond.instanceMethod ({ cls := "MoonDialsModel", name := "known", desc := "()I" } : Jvm.MethodName)) ∈ mGt := mGi_7 92 rfl rfl
theorem w_1659 : (Jvm.Cond.code ({ cls := "MoonDialsModel", name := "known", desc := "()I" } : Jvm.MethodName) prog_14_method_26_code (3 : Nat) (Option.some Jvm.ClassFile.FieldType.int)) ∈ mGt := mGi_7 93 rfl rfl
theorem w_1660 : (Jvm.Cond.methodLink "MoonDialsModel" (284 : Nat) ({ cls := "MoonDialsModel", name := "tellLaw", desc := "(I)V" } : Jvm.MethodName)) ∈ mGt := mGi_7 94 rfl rfl
theorem w_1662 : (Jvm.Cond.instanceMethod ({ cls := "MoonDialsModel", name := "tellLaw", desc := "(I)V" } : Jvm.MethodName)) ∈ mGt := mGi_7 96 rfl rfl
theorem w_1663 : (Jvm.Cond.code ({ cls := "MoonDialsModel", name := "tellLaw", desc := "(I)V" } : Jvm.MethodName) prog_14_method_28_code (4 : Nat) (Option.none : Option Jvm.ClassFile.FieldType)) ∈ mGt := mGi_7 97 rfl rfl
theorem w_1664 : (Jvm.Cond.methodLink "MoonDialsModel" (290 : Nat) ({ cls := "MoonDialsModel", name := "expression", desc := "()V" } : Jvm.MethodName)) ∈ mGt := mGi_7 98 rfl rfl
theorem w_1666 : (Jvm.Cond.instanceMethod ({ cls := "MoonDialsModel", name := "expression", desc := "()V" } : Jvm.MethodName)) ∈ mGt := mGi_7 100 rfl rfl
theorem w_1667 : (Jvm.Cond.code ({ cls := "MoonDialsModel", name := "expression", desc := "()V" } : Jvm.MethodName) prog_14_method_32_code (3 : Nat) (Option.none : Option Jvm.ClassFile.FieldType)) ∈ mGt := mGi_7 101 rfl rfl
theorem w_1668 : (Jvm.Cond.methodLink "MoonDialsModel" (302 : Nat) ({ cls := "MoonDialsModel", name := "unit", desc := "()V" } : Jvm.MethodName)) ∈ mGt := mGi_7 102 rfl rfl
theorem w_1670 : (Jvm.Cond.instanceMethod ({ cls := "MoonDialsModel", name := "unit", desc := "()V" } : Jvm.MethodName)) ∈ mGt := mGi_7 104 rfl rfl
theorem w_1671 : (Jvm.Cond.code ({ cls := "MoonDialsModel", name := "unit", desc := "()V" } : Jvm.MethodName) prog_14_method_33_code (1 : Nat) (Option.none : Option Jvm.ClassFile.FieldType)) ∈ mGt := mGi_7 105 rfl rfl
theorem w_1672 : (Jvm.Cond.methodLink "MoonDialsModel" (299 : Nat) ({ cls := "MoonDialsModel", name := "emit", desc := "(II)V" } : Jvm.MethodName)) ∈ mGt := mGi_7 106 rfl rfl
theorem w_1674 : (Jvm.Cond.instanceMethod ({ cls := "MoonDialsModel", name := "emit", desc := "(II)V" } : Jvm.MethodName)) ∈ mGt := mGi_7 108 rfl rfl
theorem w_1675 : (Jvm.Cond.code ({ cls := "MoonDialsModel", name := "emit", desc := "(II)V" } : Jvm.MethodName) prog_14_method_30_code (3 : Nat) (Option.none : Option Jvm.ClassFile.FieldType)) ∈ mGt := mGi_7 109 rfl rfl
theorem w_1676 : (Jvm.Cond.methodLink "MoonDialsModel" (305 : Nat) ({ cls := "MoonDialsModel", name := "comesOut", desc := "(Z)V" } : Jvm.MethodName)) ∈ mGt := mGi_7 110 rfl rfl
theorem w_1678 : (Jvm.Cond.instanceMethod ({ cls := "MoonDialsModel", name := "comesOut", desc := "(Z)V" } : Jvm.MethodName)) ∈ mGt := mGi_7 112 rfl rfl
theorem w_1679 : (Jvm.Cond.code ({ cls := "MoonDialsModel", name := "comesOut", desc := "(Z)V" } : Jvm.MethodName) prog_14_method_31_code (3 : Nat) (Option.none : Option Jvm.ClassFile.FieldType)) ∈ mGt := mGi_7 113 rfl rfl
theorem w_1680 : (Jvm.Cond.methodLink "MoonDialsModel" (293 : Nat) ({ cls := "MoonDialsModel", name := "term", desc := "()V" } : Jvm.MethodName)) ∈ mGt := mGi_7 114 rfl rfl
theorem w_1682 : (Jvm.Cond.instanceMethod ({ cls := "MoonDialsModel", name := "term", desc := "()V" } : Jvm.MethodName)) ∈ mGt := mGi_7 116 rfl rfl
theorem w_1683 : (Jvm.Cond.code ({ cls := "MoonDialsModel", name := "term", desc := "()V" } : Jvm.MethodName) prog_14_method_29_code (1 : Nat) (Option.none : Option Jvm.ClassFile.FieldType)) ∈ mGt := mGi_7 117 rfl rfl
theorem w_1684 : (Jvm.Cond.methodLink "MoonDialsLaw" (31 : Nat) ({ cls := "MoonDialsModel", name := "place", desc := "()I" } : Jvm.MethodName)) ∈ mGt := mGi_7 118 rfl rfl
theorem w_1685 : (Jvm.Cond.instanceMethod ({ cls := "MoonDialsModel", name := "place", desc := "()I" } : Jvm.MethodName)) ∈ mGt := mGi_7 119 rfl rfl
theorem w_1686 : (Jvm.Cond.selects "MoonDialsModel" ({ cls := "MoonDialsModel", name := "place", desc := "()I" } : Jvm.MethodName) ({ cls := "MoonDialsModel", name := "place", desc := "()I" } : Jvm.MethodName)) ∈ mGt := mGi_7 120 rfl rfl
theorem w_1687 : (Jvm.Cond.code ({ cls := "MoonDialsModel", name := "place", desc := "()I" } : Jvm.MethodName) prog_14_method_21_code (1 : Nat) (Option.some Jvm.ClassFile.FieldType.int)) ∈ mGt := mGi_7 121 rfl rfl
theorem w_1688 : (Jvm.Cond.methodLink "MoonDialsLaw" (36 : Nat) ({ cls := "MoonDialsModel", name := "dial", desc := "(II)I" } : Jvm.MethodName)) ∈ mGt := mGi_7 122 rfl rfl
theorem w_1689 : (Jvm.Cond.instanceMethod ({ cls := "MoonDialsModel", name := "dial", desc := "(II)I" } : Jvm.MethodName)) ∈ mGt := mGi_7 123 rfl rfl
theorem w_1690 : (Jvm.Cond.selects "MoonDialsModel" ({ cls := "MoonDialsModel", name := "dial", desc := "(II)I" } : Jvm.MethodName) ({ cls := "MoonDialsModel", name := "dial", desc := "(II)I" } : Jvm.MethodName)) ∈ mGt := mGi_7 124 rfl rfl
theorem w_1691 : (Jvm.Cond.code ({ cls := "MoonDialsModel", name := "dial", desc := "(II)I" } : Jvm.MethodName) prog_14_method_68_code (3 : Nat) (Option.some Jvm.ClassFile.FieldType.int)) ∈ mGt := mGi_7 125 rfl rfl
theorem w_1692 : (Jvm.Cond.methodLink "MoonDialsModel" (394 : Nat) ({ cls := "MoonDialsModel", name := "isDial", desc := "(I)Z" } : Jvm.MethodName)) ∈ mGt := mGi_7 126 rfl rfl
theorem w_1694 : (Jvm.Cond.instanceMethod ({ cls := "MoonDialsModel", name := "isDial", desc := "(I)Z" } : Jvm.MethodName)) ∈ mGt := mGi_7 128 rfl rfl
theorem w_1695 : (Jvm.Cond.code ({ cls := "MoonDialsModel", name := "isDial", desc := "(I)Z" } : Jvm.MethodName) prog_14_method_41_code (2 : Nat) (Option.some Jvm.ClassFile.FieldType.boolean)) ∈ mGt := mGi_7 129 rfl rfl
theorem w_1696 : (Jvm.Cond.methodLink "MoonDialsModel" (316 : Nat) ({ cls := "MoonDialsModel", name := "in", desc := "(III)Z" } : Jvm.MethodName)) ∈ mGt := mGi_7 130 rfl rfl
theorem w_1697 : (Jvm.Cond.static ({ cls := "MoonDialsModel", name := "in", desc := "(III)Z" } : Jvm.MethodName)) ∈ mGt := mGi_7 131 rfl rfl
theorem w_1698 : (Jvm.Cond.code ({ cls := "MoonDialsModel", name := "in", desc := "(III)Z" } : Jvm.MethodName) prog_14_method_35_code (3 : Nat) (Option.some Jvm.ClassFile.FieldType.boolean)) ∈ mGt := mGi_7 132 rfl rfl
theorem w_1699 : (Jvm.Cond.methodLink "MoonDialsModel" (329 : Nat) ({ cls := "MoonDialsModel", name := "copies", desc := "()V" } : Jvm.MethodName)) ∈ mGt := mGi_7 133 rfl rfl
theorem w_1701 : (Jvm.Cond.instanceMethod ({ cls := "MoonDialsModel", name := "copies", desc := "()V" } : Jvm.MethodName)) ∈ mGt := mGi_7 135 rfl rfl
theorem w_1702 : (Jvm.Cond.code ({ cls := "MoonDialsModel", name := "copies", desc := "()V" } : Jvm.MethodName) prog_14_method_47_code (2 : Nat) (Option.none : Option Jvm.ClassFile.FieldType)) ∈ mGt := mGi_7 136 rfl rfl
theorem w_1703 : (Jvm.Cond.methodLink "MoonDialsModel" (357 : Nat) ({ cls := "MoonDialsModel", name := "dimsOf", desc := "(I)I" } : Jvm.MethodName)) ∈ mGt := mGi_7 137 rfl rfl
theorem w_1705 : (Jvm.Cond.instanceMethod ({ cls := "MoonDialsModel", name := "dimsOf", desc := "(I)I" } : Jvm.MethodName)) ∈ mGt := mGi_7 139 rfl rfl
theorem w_1706 : (Jvm.Cond.code ({ cls := "MoonDialsModel", name := "dimsOf", desc := "(I)I" } : Jvm.MethodName) prog_14_method_57_code (2 : Nat) (Option.some Jvm.ClassFile.FieldType.int)) ∈ mGt := mGi_7 140 rfl rfl
theorem w_1707 : (Jvm.Cond.methodLink "MoonDialsModel" (339 : Nat) ({ cls := "MoonDialsModel", name := "looks", desc := "(I)V" } : Jvm.MethodName)) ∈ mGt := mGi_7 141 rfl rfl
theorem w_1709 : (Jvm.Cond.instanceMethod ({ cls := "MoonDialsModel", name := "looks", desc := "(I)V" } : Jvm.MethodName)) ∈ mGt := mGi_7 143 rfl rfl
theorem w_1710 : (Jvm.Cond.code ({ cls := "MoonDialsModel", name := "looks", desc := "(I)V" } : Jvm.MethodName) prog_14_method_52_code (2 : Nat) (Option.none : Option Jvm.ClassFile.FieldType)) ∈ mGt := mGi_7 144 rfl rfl
theorem w_1711 : (Jvm.Cond.methodLink "MoonDialsModel" (348 : Nat) ({ cls := "MoonDialsModel", name := "lawTells", desc := "(II)I" } : Jvm.MethodName)) ∈ mGt := mGi_7 145 rfl rfl
theorem w_1713 : (Jvm.Cond.instanceMethod ({ cls := "MoonDialsModel", name := "lawTells", desc := "(II)I" } : Jvm.MethodName)) ∈ mGt := mGi_7 147 rfl rfl
theorem w_1714 : (Jvm.Cond.code ({ cls := "MoonDialsModel", name := "lawTells", desc := "(II)I" } : Jvm.MethodName) prog_14_method_51_code (7 : Nat) (Option.some Jvm.ClassFile.FieldType.int)) ∈ mGt := mGi_7 148 rfl rfl
theorem w_1715 : (Jvm.Cond.methodLink "MoonDialsModel" (336 : Nat) ({ cls := "MoonDialsModel", name := "termOf", desc := "(II)I" } : Jvm.MethodName)) ∈ mGt := mGi_7 149 rfl rfl
theorem w_1717 : (Jvm.Cond.instanceMethod ({ cls := "MoonDialsModel", name := "termOf", desc := "(II)I" } : Jvm.MethodName)) ∈ mGt := mGi_7 151 rfl rfl
theorem w_1718 : (Jvm.Cond.code ({ cls := "MoonDialsModel", name := "termOf", desc := "(II)I" } : Jvm.MethodName) prog_14_method_34_code (8 : Nat) (Option.some Jvm.ClassFile.FieldType.int)) ∈ mGt := mGi_7 152 rfl rfl
theorem w_1719 : (Jvm.Cond.methodLink "MoonDialsModel" (351 : Nat) ({ cls := "MoonDialsModel", name := "within", desc := "(III)I" } : Jvm.MethodName)) ∈ mGt := mGi_7 153 rfl rfl
theorem w_1720 : (Jvm.Cond.static ({ cls := "MoonDialsModel", name := "within", desc := "(III)I" } : Jvm.MethodName)) ∈ mGt := mGi_7 154 rfl rfl
theorem w_1721 : (Jvm.Cond.code ({ cls := "MoonDialsModel", name := "within", desc := "(III)I" } : Jvm.MethodName) prog_14_method_36_code (3 : Nat) (Option.some Jvm.ClassFile.FieldType.int)) ∈ mGt := mGi_7 155 rfl rfl
theorem w_1722 : (Jvm.Cond.methodLink "MoonDialsModel" (360 : Nat) ({ cls := "MoonDialsModel", name := "isDim", desc := "(I)Z" } : Jvm.MethodName)) ∈ mGt := mGi_7 156 rfl rfl
theorem w_1724 : (Jvm.Cond.instanceMethod ({ cls := "MoonDialsModel", name := "isDim", desc := "(I)Z" } : Jvm.MethodName)) ∈ mGt := mGi_7 158 rfl rfl
theorem w_1725 : (Jvm.Cond.code ({ cls := "MoonDialsModel", name := "isDim", desc := "(I)Z" } : Jvm.MethodName) prog_14_method_58_code (2 : Nat) (Option.some Jvm.ClassFile.FieldType.boolean)) ∈ mGt := mGi_7 159 rfl rfl
theorem w_1726 : (Jvm.Cond.methodLink "MoonDialsModel" (354 : Nat) ({ cls := "MoonDialsModel", name := "lotOf", desc := "(II)I" } : Jvm.MethodName)) ∈ mGt := mGi_7 160 rfl rfl
theorem w_1728 : (Jvm.Cond.instanceMethod ({ cls := "MoonDialsModel", name := "lotOf", desc := "(II)I" } : Jvm.MethodName)) ∈ mGt := mGi_7 162 rfl rfl
theorem w_1729 : (Jvm.Cond.code ({ cls := "MoonDialsModel", name := "lotOf", desc := "(II)I" } : Jvm.MethodName) prog_14_method_50_code (3 : Nat) (Option.some Jvm.ClassFile.FieldType.int)) ∈ mGt := mGi_7 163 rfl rfl
theorem w_1730 : (Jvm.Cond.methodLink "MoonDialsModel" (333 : Nat) ({ cls := "MoonDialsModel", name := "mixed", desc := "(II)I" } : Jvm.MethodName)) ∈ mGt := mGi_7 164 rfl rfl
theorem w_1731 : (Jvm.Cond.static ({ cls := "MoonDialsModel", name := "mixed", desc := "(II)I" } : Jvm.MethodName)) ∈ mGt := mGi_7 165 rfl rfl
theorem w_1732 : (Jvm.Cond.code ({ cls := "MoonDialsModel", name := "mixed", desc := "(II)I" } : Jvm.MethodName) prog_14_method_49_code (3 : Nat) (Option.some Jvm.ClassFile.FieldType.int)) ∈ mGt := mGi_7 166 rfl rfl
theorem w_1733 : (Jvm.Cond.constant "MoonDialsModel" (332 : Nat) (1103515245 : Int32)) ∈ mGt := mGi_7 167 rfl rfl
theorem w_1734 : (Jvm.Cond.methodLink "MoonDialsLaw" (40 : Nat) ({ cls := "MoonDialsModel", name := "shows", desc := "(II)I" } : Jvm.MethodName)) ∈ mGt := mGi_7 168 rfl rfl
theorem w_1735 : (Jvm.Cond.instanceMethod ({ cls := "MoonDialsModel", name := "shows", desc := "(II)I" } : Jvm.MethodName)) ∈ mGt := mGi_7 169 rfl rfl
theorem w_1736 : (Jvm.Cond.selects "MoonDialsModel" ({ cls := "MoonDialsModel", name := "shows", desc := "(II)I" } : Jvm.MethodName) ({ cls := "MoonDialsModel", name := "shows", desc := "(II)I" } : Jvm.MethodName)) ∈ mGt := mGi_7 170 rfl rfl
theorem w_1737 : (Jvm.Cond.code ({ cls := "MoonDialsModel", name := "shows", desc := "(II)I" } : Jvm.MethodName) prog_14_method_69_code (3 : Nat) (Option.some Jvm.ClassFile.FieldType.int)) ∈ mGt := mGi_7 171 rfl rfl
theorem w_1738 : (Jvm.Cond.methodLink "MoonDialsModel" (397 : Nat) ({ cls := "MoonDialsModel", name := "isHour", desc := "(I)Z" } : Jvm.MethodName)) ∈ mGt := mGi_7 172 rfl rfl
theorem w_1740 : (Jvm.Cond.instanceMethod ({ cls := "MoonDialsModel", name := "isHour", desc := "(I)Z" } : Jvm.MethodName)) ∈ mGt := mGi_7 174 rfl rfl
theorem w_1741 : (Jvm.Cond.code ({ cls := "MoonDialsModel", name := "isHour", desc := "(I)Z" } : Jvm.MethodName) prog_14_method_40_code (2 : Nat) (Option.some Jvm.ClassFile.FieldType.boolean)) ∈ mGt := mGi_7 175 rfl rfl
theorem w_1742 : (Jvm.Cond.methodLink "MoonDialsModel" (373 : Nat) ({ cls := "MoonDialsModel", name := "showsBy", desc := "(II)I" } : Jvm.MethodName)) ∈ mGt := mGi_7 176 rfl rfl
theorem w_1744 : (Jvm.Cond.instanceMethod ({ cls := "MoonDialsModel", name := "showsBy", desc := "(II)I" } : Jvm.MethodName)) ∈ mGt := mGi_7 178 rfl rfl
theorem w_1745 : (Jvm.Cond.code ({ cls := "MoonDialsModel", name := "showsBy", desc := "(II)I" } : Jvm.MethodName) prog_14_method_59_code (3 : Nat) (Option.some Jvm.ClassFile.FieldType.int)) ∈ mGt := mGi_7 179 rfl rfl
theorem w_1746 : (Jvm.Cond.methodLink "MoonDialsLaw" (44 : Nat) ({ cls := "MoonDialsModel", name := "goer", desc := "(II)I" } : Jvm.MethodName)) ∈ mGt := mGi_7 180 rfl rfl
theorem w_1747 : (Jvm.Cond.instanceMethod ({ cls := "MoonDialsModel", name := "goer", desc := "(II)I" } : Jvm.MethodName)) ∈ mGt := mGi_7 181 rfl rfl
theorem w_1748 : (Jvm.Cond.selects "MoonDialsModel" ({ cls := "MoonDialsModel", name := "goer", desc := "(II)I" } : Jvm.MethodName) ({ cls := "MoonDialsModel", name := "goer", desc := "(II)I" } : Jvm.MethodName)) ∈ mGt := mGi_7 182 rfl rfl
theorem w_1749 : (Jvm.Cond.code ({ cls := "MoonDialsModel", name := "goer", desc := "(II)I" } : Jvm.MethodName) prog_14_method_70_code (3 : Nat) (Option.some Jvm.ClassFile.FieldType.int)) ∈ mGt := mGi_7 183 rfl rfl
theorem w_1750 : (Jvm.Cond.methodLink "MoonDialsModel" (320 : Nat) ({ cls := "MoonDialsModel", name := "isGoer", desc := "(I)Z" } : Jvm.MethodName)) ∈ mGt := mGi_7 184 rfl rfl
theorem w_1752 : (Jvm.Cond.instanceMethod ({ cls := "MoonDialsModel", name := "isGoer", desc := "(I)Z" } : Jvm.MethodName)) ∈ mGt := mGi_7 186 rfl rfl
theorem w_1753 : (Jvm.Cond.code ({ cls := "MoonDialsModel", name := "isGoer", desc := "(I)Z" } : Jvm.MethodName) prog_14_method_42_code (2 : Nat) (Option.some Jvm.ClassFile.FieldType.boolean)) ∈ mGt := mGi_7 187 rfl rfl
theorem w_1754 : (Jvm.Cond.methodLink "MoonDialsModel" (342 : Nat) ({ cls := "MoonDialsModel", name := "fromAt", desc := "(I)I" } : Jvm.MethodName)) ∈ mGt := mGi_7 188 rfl rfl
theorem w_1756 : (Jvm.Cond.instanceMethod ({ cls := "MoonDialsModel", name := "fromAt", desc := "(I)I" } : Jvm.MethodName)) ∈ mGt := mGi_7 190 rfl rfl
theorem w_1757 : (Jvm.Cond.code ({ cls := "MoonDialsModel", name := "fromAt", desc := "(I)I" } : Jvm.MethodName) prog_14_method_44_code (2 : Nat) (Option.some Jvm.ClassFile.FieldType.int)) ∈ mGt := mGi_7 191 rfl rfl
theorem w_1758 : (Jvm.Cond.methodLink "MoonDialsModel" (364 : Nat) ({ cls := "MoonDialsModel", name := "doesCome", desc := "(I)Z" } : Jvm.MethodName)) ∈ mGt := mGi_7 192 rfl rfl
theorem w_1760 : (Jvm.Cond.instanceMethod ({ cls := "MoonDialsModel", name := "doesCome", desc := "(I)Z" } : Jvm.MethodName)) ∈ mGt := mGi_7 194 rfl rfl
theorem w_1761 : (Jvm.Cond.code ({ cls := "MoonDialsModel", name := "doesCome", desc := "(I)Z" } : Jvm.MethodName) prog_14_method_54_code (2 : Nat) (Option.some Jvm.ClassFile.FieldType.boolean)) ∈ mGt := mGi_7 195 rfl rfl
theorem w_1762 : (Jvm.Cond.methodLink "MoonDialsModel" (345 : Nat) ({ cls := "MoonDialsModel", name := "looksBy", desc := "(I)V" } : Jvm.MethodName)) ∈ mGt := mGi_7 196 rfl rfl
theorem w_1764 : (Jvm.Cond.instanceMethod ({ cls := "MoonDialsModel", name := "looksBy", desc := "(I)V" } : Jvm.MethodName)) ∈ mGt := mGi_7 198 rfl rfl
theorem w_1765 : (Jvm.Cond.code ({ cls := "MoonDialsModel", name := "looksBy", desc := "(I)V" } : Jvm.MethodName) prog_14_method_53_code (2 : Nat) (Option.none : Option Jvm.ClassFile.FieldType)) ∈ mGt := mGi_7 199 rfl rfl
theorem w_1766 : (Jvm.Cond.methodLink "MoonDialsModel" (367 : Nat) ({ cls := "MoonDialsModel", name := "staysOf", desc := "(I)I" } : Jvm.MethodName)) ∈ mGt := mGi_7 200 rfl rfl
theorem w_1768 : (Jvm.Cond.instanceMethod ({ cls := "MoonDialsModel", name := "staysOf", desc := "(I)I" } : Jvm.MethodName)) ∈ mGt := mGi_7 202 rfl rfl
theorem w_1769 : (Jvm.Cond.code ({ cls := "MoonDialsModel", name := "staysOf", desc := "(I)I" } : Jvm.MethodName) prog_14_method_55_code (2 : Nat) (Option.some Jvm.ClassFile.FieldType.int)) ∈ mGt := mGi_7 203 rfl rfl
theorem w_1770 : (Jvm.Cond.methodLink "MoonDialsModel" (400 : Nat) ({ cls := "MoonDialsModel", name := "worthOf", desc := "(I)I" } : Jvm.MethodName)) ∈ mGt := mGi_7 204 rfl rfl
theorem w_1772 : (Jvm.Cond.instanceMethod ({ cls := "MoonDialsModel", name := "worthOf", desc := "(I)I" } : Jvm.MethodName)) ∈ mGt := mGi_7 206 rfl rfl
theorem w_1773 : (Jvm.Cond.code ({ cls := "MoonDialsModel", name := "worthOf", desc := "(I)I" } : Jvm.MethodName) prog_14_method_56_code (2 : Nat) (Option.some Jvm.ClassFile.FieldType.int)) ∈ mGt := mGi_7 207 rfl rfl
theorem w_1774 : (Jvm.Cond.methodLink "MoonDialsLaw" (48 : Nat) ({ cls := "MoonDialsModel", name := "together", desc := "(II)I" } : Jvm.MethodName)) ∈ mGt := mGi_7 208 rfl rfl
theorem w_1775 : (Jvm.Cond.instanceMethod ({ cls := "MoonDialsModel", name := "together", desc := "(II)I" } : Jvm.MethodName)) ∈ mGt := mGi_7 209 rfl rfl
theorem w_1776 : (Jvm.Cond.selects "MoonDialsModel" ({ cls := "MoonDialsModel", name := "together", desc := "(II)I" } : Jvm.MethodName) ({ cls := "MoonDialsModel", name := "together", desc := "(II)I" } : Jvm.MethodName)) ∈ mGt := mGi_7 210 rfl rfl
theorem w_1777 : (Jvm.Cond.code ({ cls := "MoonDialsModel", name := "together", desc := "(II)I" } : Jvm.MethodName) prog_14_method_71_code (3 : Nat) (Option.some Jvm.ClassFile.FieldType.int)) ∈ mGt := mGi_7 211 rfl rfl
theorem w_1778 : (Jvm.Cond.methodLink "MoonDialsModel" (403 : Nat) ({ cls := "MoonDialsModel", name := "areTwo", desc := "(II)Z" } : Jvm.MethodName)) ∈ mGt := mGi_7 212 rfl rfl
theorem w_1780 : (Jvm.Cond.instanceMethod ({ cls := "MoonDialsModel", name := "areTwo", desc := "(II)Z" } : Jvm.MethodName)) ∈ mGt := mGi_7 214 rfl rfl
theorem w_1781 : (Jvm.Cond.code ({ cls := "MoonDialsModel", name := "areTwo", desc := "(II)Z" } : Jvm.MethodName) prog_14_method_43_code (3 : Nat) (Option.some Jvm.ClassFile.FieldType.boolean)) ∈ mGt := mGi_7 215 rfl rfl
theorem w_1782 : (Jvm.Cond.methodLink "MoonDialsModel" (388 : Nat) ({ cls := "MoonDialsModel", name := "pairAt", desc := "(II)I" } : Jvm.MethodName)) ∈ mGt := mGi_7 216 rfl rfl
theorem w_1783 : (Jvm.Cond.static ({ cls := "MoonDialsModel", name := "pairAt", desc := "(II)I" } : Jvm.MethodName)) ∈ mGt := mGi_7 217 rfl rfl
theorem w_1784 : (Jvm.Cond.code ({ cls := "MoonDialsModel", name := "pairAt", desc := "(II)I" } : Jvm.MethodName) prog_14_method_38_code (4 : Nat) (Option.some Jvm.ClassFile.FieldType.int)) ∈ mGt := mGi_7 218 rfl rfl
theorem w_1785 : (Jvm.Cond.methodLink "MoonDialsLaw" (52 : Nat) ({ cls := "MoonDialsModel", name := "there", desc := "(I)I" } : Jvm.MethodName)) ∈ mGt := mGi_7 219 rfl rfl
theorem w_1786 : (Jvm.Cond.instanceMethod ({ cls := "MoonDialsModel", name := "there", desc := "(I)I" } : Jvm.MethodName)) ∈ mGt := mGi_7 220 rfl rfl
theorem w_1787 : (Jvm.Cond.selects "MoonDialsModel" ({ cls := "MoonDialsModel", name := "there", desc := "(I)I" } : Jvm.MethodName) ({ cls := "MoonDialsModel", name := "there", desc := "(I)I" } : Jvm.MethodName)) ∈ mGt := mGi_7 221 rfl rfl
theorem w_1788 : (Jvm.Cond.code ({ cls := "MoonDialsModel", name := "there", desc := "(I)I" } : Jvm.MethodName) prog_14_method_73_code (2 : Nat) (Option.some Jvm.ClassFile.FieldType.int)) ∈ mGt := mGi_7 222 rfl rfl
theorem w_1789 : (Jvm.Cond.methodLink "MoonDialsModel" (407 : Nat) ({ cls := "MoonDialsModel", name := "copiesStill", desc := "()V" } : Jvm.MethodName)) ∈ mGt := mGi_7 223 rfl rfl
theorem w_1791 : (Jvm.Cond.instanceMethod ({ cls := "MoonDialsModel", name := "copiesStill", desc := "()V" } : Jvm.MethodName)) ∈ mGt := mGi_7 225 rfl rfl
theorem w_1792 : (Jvm.Cond.code ({ cls := "MoonDialsModel", name := "copiesStill", desc := "()V" } : Jvm.MethodName) prog_14_method_48_code (1 : Nat) (Option.none : Option Jvm.ClassFile.FieldType)) ∈ mGt := mGi_7 226 rfl rfl
theorem w_1793 : (Jvm.Cond.methodLink "MoonDialsModel" (379 : Nat) ({ cls := "MoonDialsModel", name := "fillsThere", desc := "()V" } : Jvm.MethodName)) ∈ mGt := mGi_7 227 rfl rfl
theorem w_1795 : (Jvm.Cond.instanceMethod ({ cls := "MoonDialsModel", name := "fillsThere", desc := "()V" } : Jvm.MethodName)) ∈ mGt := mGi_7 229 rfl rfl
theorem w_1796 : (Jvm.Cond.code ({ cls := "MoonDialsModel", name := "fillsThere", desc := "()V" } : Jvm.MethodName) prog_14_method_62_code (2 : Nat) (Option.none : Option Jvm.ClassFile.FieldType)) ∈ mGt := mGi_7 230 rfl rfl
theorem w_1797 : (Jvm.Cond.methodLink "MoonDialsModel" (376 : Nat) ({ cls := "MoonDialsModel", name := "hourBits", desc := "(I)I" } : Jvm.MethodName)) ∈ mGt := mGi_7 231 rfl rfl
theorem w_1799 : (Jvm.Cond.instanceMethod ({ cls := "MoonDialsModel", name := "hourBits", desc := "(I)I" } : Jvm.MethodName)) ∈ mGt := mGi_7 233 rfl rfl
theorem w_1800 : (Jvm.Cond.code ({ cls := "MoonDialsModel", name := "hourBits", desc := "(I)I" } : Jvm.MethodName) prog_14_method_61_code (6 : Nat) (Option.some Jvm.ClassFile.FieldType.int)) ∈ mGt := mGi_7 234 rfl rfl
theorem w_1801 : (Jvm.Cond.methodLink "MoonDialsModel" (370 : Nat) ({ cls := "MoonDialsModel", name := "outTonight", desc := "(I)I" } : Jvm.MethodName)) ∈ mGt := mGi_7 235 rfl rfl
theorem w_1803 : (Jvm.Cond.instanceMethod ({ cls := "MoonDialsModel", name := "outTonight", desc := "(I)I" } : Jvm.MethodName)) ∈ mGt := mGi_7 237 rfl rfl
theorem w_1804 : (Jvm.Cond.code ({ cls := "MoonDialsModel", name := "outTonight", desc := "(I)I" } : Jvm.MethodName) prog_14_method_60_code (2 : Nat) (Option.some Jvm.ClassFile.FieldType.int)) ∈ mGt := mGi_7 238 rfl rfl
theorem w_1805 : (Jvm.Cond.constant "MoonDialsModel" (363 : Nat) (100000 : Int32)) ∈ mGt := mGi_7 239 rfl rfl
theorem w_1806 : (Jvm.Cond.methodLink "MoonDialsModel" (410 : Nat) ({ cls := "MoonDialsModel", name := "thereAt", desc := "(I)I" } : Jvm.MethodName)) ∈ mGt := mGi_8 0 rfl rfl
theorem w_1808 : (Jvm.Cond.instanceMethod ({ cls := "MoonDialsModel", name := "thereAt", desc := "(I)I" } : Jvm.MethodName)) ∈ mGt := mGi_8 2 rfl rfl
theorem w_1809 : (Jvm.Cond.code ({ cls := "MoonDialsModel", name := "thereAt", desc := "(I)I" } : Jvm.MethodName) prog_14_method_72_code (4 : Nat) (Option.some Jvm.ClassFile.FieldType.int)) ∈ mGt := mGi_8 3 rfl rfl
theorem w_1810 : (Jvm.Cond.methodLink "MoonDialsLaw" (56 : Nat) ({ cls := "MoonDialsModel", name := "turn", desc := "(II)I" } : Jvm.MethodName)) ∈ mGt := mGi_8 4 rfl rfl
theorem w_1811 : (Jvm.Cond.instanceMethod ({ cls := "MoonDialsModel", name := "turn", desc := "(II)I" } : Jvm.MethodName)) ∈ mGt := mGi_8 5 rfl rfl
theorem w_1812 : (Jvm.Cond.selects "MoonDialsModel" ({ cls := "MoonDialsModel", name := "turn", desc := "(II)I" } : Jvm.MethodName) ({ cls := "MoonDialsModel", name := "turn", desc := "(II)I" } : Jvm.MethodName)) ∈ mGt := mGi_8 6 rfl rfl
theorem w_1813 : (Jvm.Cond.code ({ cls := "MoonDialsModel", name := "turn", desc := "(II)I" } : Jvm.MethodName) prog_14_method_76_code (3 : Nat) (Option.some Jvm.ClassFile.FieldType.int)) ∈ mGt := mGi_8 7 rfl rfl
theorem w_1814 : (Jvm.Cond.methodLink "MoonDialsModel" (416 : Nat) ({ cls := "MoonDialsModel", name := "does", desc := "(II)Z" } : Jvm.MethodName)) ∈ mGt := mGi_8 8 rfl rfl
theorem w_1816 : (Jvm.Cond.instanceMethod ({ cls := "MoonDialsModel", name := "does", desc := "(II)Z" } : Jvm.MethodName)) ∈ mGt := mGi_8 10 rfl rfl
theorem w_1817 : (Jvm.Cond.code ({ cls := "MoonDialsModel", name := "does", desc := "(II)Z" } : Jvm.MethodName) prog_14_method_75_code (3 : Nat) (Option.some Jvm.ClassFile.FieldType.boolean)) ∈ mGt := mGi_8 11 rfl rfl
theorem w_1818 : (Jvm.Cond.methodLink "MoonDialsModel" (413 : Nat) ({ cls := "MoonDialsModel", name := "records", desc := "()V" } : Jvm.MethodName)) ∈ mGt := mGi_8 12 rfl rfl
theorem w_1820 : (Jvm.Cond.instanceMethod ({ cls := "MoonDialsModel", name := "records", desc := "()V" } : Jvm.MethodName)) ∈ mGt := mGi_8 14 rfl rfl
theorem w_1821 : (Jvm.Cond.code ({ cls := "MoonDialsModel", name := "records", desc := "()V" } : Jvm.MethodName) prog_14_method_74_code (2 : Nat) (Option.none : Option Jvm.ClassFile.FieldType)) ∈ mGt := mGi_8 15 rfl rfl
theorem w_1822 : (Jvm.Cond.methodLink "MoonDialsLaw" (61 : Nat) ({ cls := "MoonDialsModel", name := "follow", desc := "(II)Z" } : Jvm.MethodName)) ∈ mGt := mGi_8 16 rfl rfl
theorem w_1823 : (Jvm.Cond.instanceMethod ({ cls := "MoonDialsModel", name := "follow", desc := "(II)Z" } : Jvm.MethodName)) ∈ mGt := mGi_8 17 rfl rfl
theorem w_1824 : (Jvm.Cond.selects "MoonDialsModel" ({ cls := "MoonDialsModel", name := "follow", desc := "(II)Z" } : Jvm.MethodName) ({ cls := "MoonDialsModel", name := "follow", desc := "(II)Z" } : Jvm.MethodName)) ∈ mGt := mGi_8 18 rfl rfl
theorem w_1825 : (Jvm.Cond.code ({ cls := "MoonDialsModel", name := "follow", desc := "(II)Z" } : Jvm.MethodName) prog_14_method_77_code (3 : Nat) (Option.some Jvm.ClassFile.FieldType.boolean)) ∈ mGt := mGi_8 19 rfl rfl
theorem w_1826 : (Jvm.Cond.methodLink "MoonDialsLaw" (65 : Nat) ({ cls := "MoonDialsModel", name := "slip", desc := "(II)Z" } : Jvm.MethodName)) ∈ mGt := mGi_8 20 rfl rfl
theorem w_1827 : (Jvm.Cond.instanceMethod ({ cls := "MoonDialsModel", name := "slip", desc := "(II)Z" } : Jvm.MethodName)) ∈ mGt := mGi_8 21 rfl rfl
theorem w_1828 : (Jvm.Cond.selects "MoonDialsModel" ({ cls := "MoonDialsModel", name := "slip", desc := "(II)Z" } : Jvm.MethodName) ({ cls := "MoonDialsModel", name := "slip", desc := "(II)Z" } : Jvm.MethodName)) ∈ mGt := mGi_8 22 rfl rfl
theorem w_1829 : (Jvm.Cond.code ({ cls := "MoonDialsModel", name := "slip", desc := "(II)Z" } : Jvm.MethodName) prog_14_method_78_code (3 : Nat) (Option.some Jvm.ClassFile.FieldType.boolean)) ∈ mGt := mGi_8 23 rfl rfl
theorem w_1830 : (Jvm.Cond.methodLink "MoonDialsLaw" (69 : Nat) ({ cls := "MoonDialsModel", name := "nights", desc := "(I)I" } : Jvm.MethodName)) ∈ mGt := mGi_8 24 rfl rfl
theorem w_1831 : (Jvm.Cond.instanceMethod ({ cls := "MoonDialsModel", name := "nights", desc := "(I)I" } : Jvm.MethodName)) ∈ mGt := mGi_8 25 rfl rfl
theorem w_1832 : (Jvm.Cond.selects "MoonDialsModel" ({ cls := "MoonDialsModel", name := "nights", desc := "(I)I" } : Jvm.MethodName) ({ cls := "MoonDialsModel", name := "nights", desc := "(I)I" } : Jvm.MethodName)) ∈ mGt := mGi_8 26 rfl rfl
theorem w_1833 : (Jvm.Cond.code ({ cls := "MoonDialsModel", name := "nights", desc := "(I)I" } : Jvm.MethodName) prog_14_method_81_code (2 : Nat) (Option.some Jvm.ClassFile.FieldType.int)) ∈ mGt := mGi_8 27 rfl rfl
theorem w_1834 : (Jvm.Cond.methodLink "MoonDialsModel" (419 : Nat) ({ cls := "MoonDialsModel", name := "isLong", desc := "(I)Z" } : Jvm.MethodName)) ∈ mGt := mGi_8 28 rfl rfl
theorem w_1835 : (Jvm.Cond.static ({ cls := "MoonDialsModel", name := "isLong", desc := "(I)Z" } : Jvm.MethodName)) ∈ mGt := mGi_8 29 rfl rfl
theorem w_1836 : (Jvm.Cond.code ({ cls := "MoonDialsModel", name := "isLong", desc := "(I)Z" } : Jvm.MethodName) prog_14_method_79_code (1 : Nat) (Option.some Jvm.ClassFile.FieldType.boolean)) ∈ mGt := mGi_8 30 rfl rfl
theorem w_1837 : (Jvm.Cond.methodLink "MoonDialsModel" (422 : Nat) ({ cls := "MoonDialsModel", name := "goes", desc := "(I)V" } : Jvm.MethodName)) ∈ mGt := mGi_8 31 rfl rfl
theorem w_1839 : (Jvm.Cond.instanceMethod ({ cls := "MoonDialsModel", name := "goes", desc := "(I)V" } : Jvm.MethodName)) ∈ mGt := mGi_8 33 rfl rfl
theorem w_1840 : (Jvm.Cond.code ({ cls := "MoonDialsModel", name := "goes", desc := "(I)V" } : Jvm.MethodName) prog_14_method_65_code (3 : Nat) (Option.none : Option Jvm.ClassFile.FieldType)) ∈ mGt := mGi_8 34 rfl rfl
theorem w_1841 : (Jvm.Cond.methodLink "MoonDialsModel" (391 : Nat) ({ cls := "MoonDialsModel", name := "nightGoes", desc := "()V" } : Jvm.MethodName)) ∈ mGt := mGi_8 35 rfl rfl
theorem w_1843 : (Jvm.Cond.instanceMethod ({ cls := "MoonDialsModel", name := "nightGoes", desc := "()V" } : Jvm.MethodName)) ∈ mGt := mGi_8 37 rfl rfl
theorem w_1844 : (Jvm.Cond.code ({ cls := "MoonDialsModel", name := "nightGoes", desc := "()V" } : Jvm.MethodName) prog_14_method_64_code (3 : Nat) (Option.none : Option Jvm.ClassFile.FieldType)) ∈ mGt := mGi_8 38 rfl rfl
theorem w_1845 : (Jvm.Cond.methodLink "MoonDialsModel" (382 : Nat) ({ cls := "MoonDialsModel", name := "othersBits", desc := "(I)I" } : Jvm.MethodName)) ∈ mGt := mGi_8 39 rfl rfl
theorem w_1847 : (Jvm.Cond.instanceMethod ({ cls := "MoonDialsModel", name := "othersBits", desc := "(I)I" } : Jvm.MethodName)) ∈ mGt := mGi_8 41 rfl rfl
theorem w_1848 : (Jvm.Cond.code ({ cls := "MoonDialsModel", name := "othersBits", desc := "(I)I" } : Jvm.MethodName) prog_14_method_63_code (4 : Nat) (Option.some Jvm.ClassFile.FieldType.int)) ∈ mGt := mGi_8 42 rfl rfl
theorem w_1849 : (Jvm.Cond.methodLink "MoonDialsModel" (385 : Nat) ({ cls := "MoonDialsModel", name := "bits", desc := "(I)I" } : Jvm.MethodName)) ∈ mGt := mGi_8 43 rfl rfl
theorem w_1850 : (Jvm.Cond.static ({ cls := "MoonDialsModel", name := "bits", desc := "(I)I" } : Jvm.MethodName)) ∈ mGt := mGi_8 44 rfl rfl
theorem w_1851 : (Jvm.Cond.code ({ cls := "MoonDialsModel", name := "bits", desc := "(I)I" } : Jvm.MethodName) prog_14_method_37_code (3 : Nat) (Option.some Jvm.ClassFile.FieldType.int)) ∈ mGt := mGi_8 45 rfl rfl
theorem w_1852 : (Jvm.Cond.methodLink "MoonDialsLaw" (74 : Nat) ({ cls := "MoonDialsModel", name := "undo", desc := "()Z" } : Jvm.MethodName)) ∈ mGt := mGi_8 46 rfl rfl
theorem w_1853 : (Jvm.Cond.instanceMethod ({ cls := "MoonDialsModel", name := "undo", desc := "()Z" } : Jvm.MethodName)) ∈ mGt := mGi_8 47 rfl rfl
theorem w_1854 : (Jvm.Cond.selects "MoonDialsModel" ({ cls := "MoonDialsModel", name := "undo", desc := "()Z" } : Jvm.MethodName) ({ cls := "MoonDialsModel", name := "undo", desc := "()Z" } : Jvm.MethodName)) ∈ mGt := mGi_8 48 rfl rfl
theorem w_1855 : (Jvm.Cond.code ({ cls := "MoonDialsModel", name := "undo", desc := "()Z" } : Jvm.MethodName) prog_14_method_82_code (2 : Nat) (Option.some Jvm.ClassFile.FieldType.boolean)) ∈ mGt := mGi_8 49 rfl rfl
theorem w_1856 : (Jvm.Cond.methodLink "MoonDialsLaw" (78 : Nat) ({ cls := "MoonDialsModel", name := "meet", desc := "(II)I" } : Jvm.MethodName)) ∈ mGt := mGi_8 50 rfl rfl
theorem w_1857 : (Jvm.Cond.instanceMethod ({ cls := "MoonDialsModel", name := "meet", desc := "(II)I" } : Jvm.MethodName)) ∈ mGt := mGi_8 51 rfl rfl
theorem w_1858 : (Jvm.Cond.selects "MoonDialsModel" ({ cls := "MoonDialsModel", name := "meet", desc := "(II)I" } : Jvm.MethodName) ({ cls := "MoonDialsModel", name := "meet", desc := "(II)I" } : Jvm.MethodName)) ∈ mGt := mGi_8 52 rfl rfl
theorem w_1859 : (Jvm.Cond.code ({ cls := "MoonDialsModel", name := "meet", desc := "(II)I" } : Jvm.MethodName) prog_14_method_89_code (4 : Nat) (Option.some Jvm.ClassFile.FieldType.int)) ∈ mGt := mGi_8 53 rfl rfl
theorem w_1860 : (Jvm.Cond.methodLink "MoonDialsModel" (431 : Nat) ({ cls := "MoonDialsModel", name := "isGroup", desc := "(I)Z" } : Jvm.MethodName)) ∈ mGt := mGi_8 54 rfl rfl
theorem w_1862 : (Jvm.Cond.instanceMethod ({ cls := "MoonDialsModel", name := "isGroup", desc := "(I)Z" } : Jvm.MethodName)) ∈ mGt := mGi_8 56 rfl rfl
theorem w_1863 : (Jvm.Cond.code ({ cls := "MoonDialsModel", name := "isGroup", desc := "(I)Z" } : Jvm.MethodName) prog_14_method_87_code (2 : Nat) (Option.some Jvm.ClassFile.FieldType.boolean)) ∈ mGt := mGi_8 57 rfl rfl
theorem w_1864 : (Jvm.Cond.methodLink "MoonDialsModel" (434 : Nat) ({ cls := "MoonDialsModel", name := "fillsStill", desc := "(I)V" } : Jvm.MethodName)) ∈ mGt := mGi_8 58 rfl rfl
theorem w_1866 : (Jvm.Cond.instanceMethod ({ cls := "MoonDialsModel", name := "fillsStill", desc := "(I)V" } : Jvm.MethodName)) ∈ mGt := mGi_8 60 rfl rfl
theorem w_1867 : (Jvm.Cond.code ({ cls := "MoonDialsModel", name := "fillsStill", desc := "(I)V" } : Jvm.MethodName) prog_14_method_84_code (2 : Nat) (Option.none : Option Jvm.ClassFile.FieldType)) ∈ mGt := mGi_8 61 rfl rfl
theorem w_1868 : (Jvm.Cond.methodLink "MoonDialsModel" (425 : Nat) ({ cls := "MoonDialsModel", name := "fillsNights", desc := "(I)V" } : Jvm.MethodName)) ∈ mGt := mGi_8 62 rfl rfl
theorem w_1870 : (Jvm.Cond.instanceMethod ({ cls := "MoonDialsModel", name := "fillsNights", desc := "(I)V" } : Jvm.MethodName)) ∈ mGt := mGi_8 64 rfl rfl
theorem w_1871 : (Jvm.Cond.code ({ cls := "MoonDialsModel", name := "fillsNights", desc := "(I)V" } : Jvm.MethodName) prog_14_method_83_code (4 : Nat) (Option.none : Option Jvm.ClassFile.FieldType)) ∈ mGt := mGi_8 65 rfl rfl
theorem w_1872 : (Jvm.Cond.methodLink "MoonDialsModel" (437 : Nat) ({ cls := "MoonDialsModel", name := "firstMeet", desc := "(II)I" } : Jvm.MethodName)) ∈ mGt := mGi_8 66 rfl rfl
theorem w_1874 : (Jvm.Cond.instanceMethod ({ cls := "MoonDialsModel", name := "firstMeet", desc := "(II)I" } : Jvm.MethodName)) ∈ mGt := mGi_8 68 rfl rfl
theorem w_1875 : (Jvm.Cond.code ({ cls := "MoonDialsModel", name := "firstMeet", desc := "(II)I" } : Jvm.MethodName) prog_14_method_86_code (4 : Nat) (Option.some Jvm.ClassFile.FieldType.int)) ∈ mGt := mGi_8 69 rfl rfl
theorem w_1876 : (Jvm.Cond.methodLink "MoonDialsModel" (428 : Nat) ({ cls := "MoonDialsModel", name := "allBits", desc := "(II)I" } : Jvm.MethodName)) ∈ mGt := mGi_8 70 rfl rfl
theorem w_1878 : (Jvm.Cond.instanceMethod ({ cls := "MoonDialsModel", name := "allBits", desc := "(II)I" } : Jvm.MethodName)) ∈ mGt := mGi_8 72 rfl rfl
theorem w_1879 : (Jvm.Cond.code ({ cls := "MoonDialsModel", name := "allBits", desc := "(II)I" } : Jvm.MethodName) prog_14_method_85_code (5 : Nat) (Option.some Jvm.ClassFile.FieldType.int)) ∈ mGt := mGi_8 73 rfl rfl
theorem w_1880 : (Jvm.Cond.methodLink "MoonDialsModel" (440 : Nat) ({ cls := "MoonDialsModel", name := "lowestOf", desc := "(I)I" } : Jvm.MethodName)) ∈ mGt := mGi_8 74 rfl rfl
theorem w_1881 : (Jvm.Cond.static ({ cls := "MoonDialsModel", name := "lowestOf", desc := "(I)I" } : Jvm.MethodName)) ∈ mGt := mGi_8 75 rfl rfl
theorem w_1882 : (Jvm.Cond.code ({ cls := "MoonDialsModel", name := "lowestOf", desc := "(I)I" } : Jvm.MethodName) prog_14_method_88_code (2 : Nat) (Option.some Jvm.ClassFile.FieldType.int)) ∈ mGt := mGi_8 76 rfl rfl
theorem w_1883 : (Jvm.Cond.methodLink "MoonDialsLaw" (83 : Nat) ({ cls := "MoonDialsModel", name := "often", desc := "(III)I" } : Jvm.MethodName)) ∈ mGt := mGi_8 77 rfl rfl
theorem w_1884 : (Jvm.Cond.instanceMethod ({ cls := "MoonDialsModel", name := "often", desc := "(III)I" } : Jvm.MethodName)) ∈ mGt := mGi_8 78 rfl rfl
theorem w_1885 : (Jvm.Cond.selects "MoonDialsModel" ({ cls := "MoonDialsModel", name := "often", desc := "(III)I" } : Jvm.MethodName) ({ cls := "MoonDialsModel", name := "often", desc := "(III)I" } : Jvm.MethodName)) ∈ mGt := mGi_8 79 rfl rfl
theorem w_1886 : (Jvm.Cond.code ({ cls := "MoonDialsModel", name := "often", desc := "(III)I" } : Jvm.MethodName) prog_14_method_91_code (4 : Nat) (Option.some Jvm.ClassFile.FieldType.int)) ∈ mGt := mGi_8 80 rfl rfl
theorem w_1887 : (Jvm.Cond.methodLink "MoonDialsModel" (443 : Nat) ({ cls := "MoonDialsModel", name := "oftenBy", desc := "(III)I" } : Jvm.MethodName)) ∈ mGt := mGi_8 81 rfl rfl
theorem w_1889 : (Jvm.Cond.instanceMethod ({ cls := "MoonDialsModel", name := "oftenBy", desc := "(III)I" } : Jvm.MethodName)) ∈ mGt := mGi_8 83 rfl rfl
theorem w_1890 : (Jvm.Cond.code ({ cls := "MoonDialsModel", name := "oftenBy", desc := "(III)I" } : Jvm.MethodName) prog_14_method_90_code (6 : Nat) (Option.some Jvm.ClassFile.FieldType.int)) ∈ mGt := mGi_8 84 rfl rfl
theorem w_1891 : (Jvm.Cond.methodLink "MoonDialsLaw" (87 : Nat) ({ cls := "MoonDialsModel", name := "alone", desc := "(II)I" } : Jvm.MethodName)) ∈ mGt := mGi_8 85 rfl rfl
theorem w_1892 : (Jvm.Cond.instanceMethod ({ cls := "MoonDialsModel", name := "alone", desc := "(II)I" } : Jvm.MethodName)) ∈ mGt := mGi_8 86 rfl rfl
theorem w_1893 : (Jvm.Cond.selects "MoonDialsModel" ({ cls := "MoonDialsModel", name := "alone", desc := "(II)I" } : Jvm.MethodName) ({ cls := "MoonDialsModel", name := "alone", desc := "(II)I" } : Jvm.MethodName)) ∈ mGt := mGi_8 87 rfl rfl
theorem w_1894 : (Jvm.Cond.code ({ cls := "MoonDialsModel", name := "alone", desc := "(II)I" } : Jvm.MethodName) prog_14_method_93_code (5 : Nat) (Option.some Jvm.ClassFile.FieldType.int)) ∈ mGt := mGi_8 88 rfl rfl
theorem w_1895 : (Jvm.Cond.methodLink "MoonDialsModel" (446 : Nat) ({ cls := "MoonDialsModel", name := "othersBy", desc := "(II)I" } : Jvm.MethodName)) ∈ mGt := mGi_8 89 rfl rfl
theorem w_1897 : (Jvm.Cond.instanceMethod ({ cls := "MoonDialsModel", name := "othersBy", desc := "(II)I" } : Jvm.MethodName)) ∈ mGt := mGi_8 91 rfl rfl
theorem w_1898 : (Jvm.Cond.code ({ cls := "MoonDialsModel", name := "othersBy", desc := "(II)I" } : Jvm.MethodName) prog_14_method_92_code (5 : Nat) (Option.some Jvm.ClassFile.FieldType.int)) ∈ mGt := mGi_8 92 rfl rfl
theorem w_1899 : (Jvm.Cond.methodLink "MoonDialsLaw" (91 : Nat) ({ cls := "MoonDialsModel", name := "earns", desc := "(II)I" } : Jvm.MethodName)) ∈ mGt := mGi_8 93 rfl rfl
theorem w_1900 : (Jvm.Cond.instanceMethod ({ cls := "MoonDialsModel", name := "earns", desc := "(II)I" } : Jvm.MethodName)) ∈ mGt := mGi_8 94 rfl rfl
theorem w_1901 : (Jvm.Cond.selects "MoonDialsModel" ({ cls := "MoonDialsModel", name := "earns", desc := "(II)I" } : Jvm.MethodName) ({ cls := "MoonDialsModel", name := "earns", desc := "(II)I" } : Jvm.MethodName)) ∈ mGt := mGi_8 95 rfl rfl
theorem w_1902 : (Jvm.Cond.code ({ cls := "MoonDialsModel", name := "earns", desc := "(II)I" } : Jvm.MethodName) prog_14_method_94_code (5 : Nat) (Option.some Jvm.ClassFile.FieldType.int)) ∈ mGt := mGi_8 96 rfl rfl
theorem w_1903 : (Jvm.Cond.methodLink "MoonDialsLaw" (144 : Nat) ({ cls := "MoonDialsModel", name := "longest", desc := "(III)I" } : Jvm.MethodName)) ∈ mGt := mGi_8 97 rfl rfl
theorem w_1904 : (Jvm.Cond.instanceMethod ({ cls := "MoonDialsModel", name := "longest", desc := "(III)I" } : Jvm.MethodName)) ∈ mGt := mGi_8 98 rfl rfl
theorem w_1905 : (Jvm.Cond.selects "MoonDialsModel" ({ cls := "MoonDialsModel", name := "longest", desc := "(III)I" } : Jvm.MethodName) ({ cls := "MoonDialsModel", name := "longest", desc := "(III)I" } : Jvm.MethodName)) ∈ mGt := mGi_8 99 rfl rfl
theorem w_1906 : (Jvm.Cond.code ({ cls := "MoonDialsModel", name := "longest", desc := "(III)I" } : Jvm.MethodName) prog_14_method_95_code (7 : Nat) (Option.some Jvm.ClassFile.FieldType.int)) ∈ mGt := mGi_8 100 rfl rfl
theorem w_1907 : (Jvm.Cond.methodLink "MoonDialsLaw" (95 : Nat) ({ cls := "MoonDialsModel", name := "right", desc := "(I)I" } : Jvm.MethodName)) ∈ mGt := mGi_8 101 rfl rfl
theorem w_1908 : (Jvm.Cond.instanceMethod ({ cls := "MoonDialsModel", name := "right", desc := "(I)I" } : Jvm.MethodName)) ∈ mGt := mGi_8 102 rfl rfl
theorem w_1909 : (Jvm.Cond.selects "MoonDialsModel" ({ cls := "MoonDialsModel", name := "right", desc := "(I)I" } : Jvm.MethodName) ({ cls := "MoonDialsModel", name := "right", desc := "(I)I" } : Jvm.MethodName)) ∈ mGt := mGi_8 103 rfl rfl
theorem w_1910 : (Jvm.Cond.code ({ cls := "MoonDialsModel", name := "right", desc := "(I)I" } : Jvm.MethodName) prog_14_method_96_code (3 : Nat) (Option.some Jvm.ClassFile.FieldType.int)) ∈ mGt := mGi_8 104 rfl rfl
theorem w_1911 : (Jvm.Cond.methodLink "MoonDialsLaw" (99 : Nat) ({ cls := "MoonDialsModel", name := "agree", desc := "(II)I" } : Jvm.MethodName)) ∈ mGt := mGi_8 105 rfl rfl
theorem w_1912 : (Jvm.Cond.instanceMethod ({ cls := "MoonDialsModel", name := "agree", desc := "(II)I" } : Jvm.MethodName)) ∈ mGt := mGi_8 106 rfl rfl
theorem w_1913 : (Jvm.Cond.selects "MoonDialsModel" ({ cls := "MoonDialsModel", name := "agree", desc := "(II)I" } : Jvm.MethodName) ({ cls := "MoonDialsModel", name := "agree", desc := "(II)I" } : Jvm.MethodName)) ∈ mGt := mGi_8 107 rfl rfl
theorem w_1914 : (Jvm.Cond.code ({ cls := "MoonDialsModel", name := "agree", desc := "(II)I" } : Jvm.MethodName) prog_14_method_97_code (4 : Nat) (Option.some Jvm.ClassFile.FieldType.int)) ∈ mGt := mGi_8 108 rfl rfl
theorem w_1915 : (Jvm.Cond.methodLink "MoonDialsLaw" (103 : Nat) ({ cls := "MoonDialsModel", name := "round", desc := "()I" } : Jvm.MethodName)) ∈ mGt := mGi_8 109 rfl rfl
theorem w_1916 : (Jvm.Cond.instanceMethod ({ cls := "MoonDialsModel", name := "round", desc := "()I" } : Jvm.MethodName)) ∈ mGt := mGi_8 110 rfl rfl
theorem w_1917 : (Jvm.Cond.selects "MoonDialsModel" ({ cls := "MoonDialsModel", name := "round", desc := "()I" } : Jvm.MethodName) ({ cls := "MoonDialsModel", name := "round", desc := "()I" } : Jvm.MethodName)) ∈ mGt := mGi_8 111 rfl rfl
theorem w_1918 : (Jvm.Cond.code ({ cls := "MoonDialsModel", name := "round", desc := "()I" } : Jvm.MethodName) prog_14_method_98_code (4 : Nat) (Option.some Jvm.ClassFile.FieldType.int)) ∈ mGt := mGi_8 112 rfl rfl
theorem w_1919 : (Jvm.Cond.methodLink "MoonDialsLaw" (107 : Nat) ({ cls := "MoonDialsModel", name := "turns", desc := "(III)I" } : Jvm.MethodName)) ∈ mGt := mGi_8 113 rfl rfl
theorem w_1920 : (Jvm.Cond.instanceMethod ({ cls := "MoonDialsModel", name := "turns", desc := "(III)I" } : Jvm.MethodName)) ∈ mGt := mGi_8 114 rfl rfl
theorem w_1921 : (Jvm.Cond.selects "MoonDialsModel" ({ cls := "MoonDialsModel", name := "turns", desc := "(III)I" } : Jvm.MethodName) ({ cls := "MoonDialsModel", name := "turns", desc := "(III)I" } : Jvm.MethodName)) ∈ mGt := mGi_8 115 rfl rfl
theorem w_1922 : (Jvm.Cond.code ({ cls := "MoonDialsModel", name := "turns", desc := "(III)I" } : Jvm.MethodName) prog_14_method_102_code (4 : Nat) (Option.some Jvm.ClassFile.FieldType.int)) ∈ mGt := mGi_8 116 rfl rfl
theorem w_1923 : (Jvm.Cond.methodLink "MoonDialsModel" (456 : Nat) ({ cls := "MoonDialsModel", name := "isAsked", desc := "(III)Z" } : Jvm.MethodName)) ∈ mGt := mGi_8 117 rfl rfl
theorem w_1925 : (Jvm.Cond.instanceMethod ({ cls := "MoonDialsModel", name := "isAsked", desc := "(III)Z" } : Jvm.MethodName)) ∈ mGt := mGi_8 119 rfl rfl
theorem w_1926 : (Jvm.Cond.code ({ cls := "MoonDialsModel", name := "isAsked", desc := "(III)Z" } : Jvm.MethodName) prog_14_method_101_code (4 : Nat) (Option.some Jvm.ClassFile.FieldType.boolean)) ∈ mGt := mGi_8 120 rfl rfl
theorem w_1927 : (Jvm.Cond.methodLink "MoonDialsModel" (453 : Nat) ({ cls := "MoonDialsModel", name := "isSpan", desc := "(I)Z" } : Jvm.MethodName)) ∈ mGt := mGi_8 121 rfl rfl
theorem w_1928 : (Jvm.Cond.static ({ cls := "MoonDialsModel", name := "isSpan", desc := "(I)Z" } : Jvm.MethodName)) ∈ mGt := mGi_8 122 rfl rfl
theorem w_1929 : (Jvm.Cond.code ({ cls := "MoonDialsModel", name := "isSpan", desc := "(I)Z" } : Jvm.MethodName) prog_14_method_80_code (1 : Nat) (Option.some Jvm.ClassFile.FieldType.boolean)) ∈ mGt := mGi_8 123 rfl rfl
theorem w_1930 : (Jvm.Cond.methodLink "MoonDialsModel" (459 : Nat) ({ cls := "MoonDialsModel", name := "leastFor", desc := "(IIII)I" } : Jvm.MethodName)) ∈ mGt := mGi_8 124 rfl rfl
theorem w_1932 : (Jvm.Cond.instanceMethod ({ cls := "MoonDialsModel", name := "leastFor", desc := "(IIII)I" } : Jvm.MethodName)) ∈ mGt := mGi_8 126 rfl rfl
theorem w_1933 : (Jvm.Cond.code ({ cls := "MoonDialsModel", name := "leastFor", desc := "(IIII)I" } : Jvm.MethodName) prog_14_method_100_code (6 : Nat) (Option.some Jvm.ClassFile.FieldType.int)) ∈ mGt := mGi_8 127 rfl rfl
theorem w_1934 : (Jvm.Cond.methodLink "MoonDialsModel" (449 : Nat) ({ cls := "MoonDialsModel", name := "isSo", desc := "(IIIII)Z" } : Jvm.MethodName)) ∈ mGt := mGi_8 128 rfl rfl
theorem w_1936 : (Jvm.Cond.instanceMethod ({ cls := "MoonDialsModel", name := "isSo", desc := "(IIIII)Z" } : Jvm.MethodName)) ∈ mGt := mGi_8 130 rfl rfl
theorem w_1937 : (Jvm.Cond.code ({ cls := "MoonDialsModel", name := "isSo", desc := "(IIIII)Z" } : Jvm.MethodName) prog_14_method_99_code (6 : Nat) (Option.some Jvm.ClassFile.FieldType.boolean)) ∈ mGt := mGi_8 131 rfl rfl
theorem w_1938 : (Jvm.Cond.methodLink "MoonDialsLaw" (111 : Nat) ({ cls := "MoonDialsModel", name := "parts", desc := "(III)I" } : Jvm.MethodName)) ∈ mGt := mGi_8 132 rfl rfl
theorem w_1939 : (Jvm.Cond.instanceMethod ({ cls := "MoonDialsModel", name := "parts", desc := "(III)I" } : Jvm.MethodName)) ∈ mGt := mGi_8 133 rfl rfl
theorem w_1940 : (Jvm.Cond.selects "MoonDialsModel" ({ cls := "MoonDialsModel", name := "parts", desc := "(III)I" } : Jvm.MethodName) ({ cls := "MoonDialsModel", name := "parts", desc := "(III)I" } : Jvm.MethodName)) ∈ mGt := mGi_8 134 rfl rfl
theorem w_1941 : (Jvm.Cond.code ({ cls := "MoonDialsModel", name := "parts", desc := "(III)I" } : Jvm.MethodName) prog_14_method_103_code (4 : Nat) (Option.some Jvm.ClassFile.FieldType.int)) ∈ mGt := mGi_8 135 rfl rfl
theorem w_1942 : (Jvm.Cond.methodLink "MoonDialsLaw" (116 : Nat) ({ cls := "MoonDialsModel", name := "knot", desc := "(IIII)I" } : Jvm.MethodName)) ∈ mGt := mGi_8 136 rfl rfl
theorem w_1943 : (Jvm.Cond.instanceMethod ({ cls := "MoonDialsModel", name := "knot", desc := "(IIII)I" } : Jvm.MethodName)) ∈ mGt := mGi_8 137 rfl rfl
theorem w_1944 : (Jvm.Cond.selects "MoonDialsModel" ({ cls := "MoonDialsModel", name := "knot", desc := "(IIII)I" } : Jvm.MethodName) ({ cls := "MoonDialsModel", name := "knot", desc := "(IIII)I" } : Jvm.MethodName)) ∈ mGt := mGi_8 138 rfl rfl
theorem w_1945 : (Jvm.Cond.code ({ cls := "MoonDialsModel", name := "knot", desc := "(IIII)I" } : Jvm.MethodName) prog_14_method_104_code (5 : Nat) (Option.some Jvm.ClassFile.FieldType.int)) ∈ mGt := mGi_8 139 rfl rfl
theorem w_1946 : (Jvm.Cond.methodLink "MoonDialsLaw" (120 : Nat) ({ cls := "MoonDialsModel", name := "mend", desc := "(III)I" } : Jvm.MethodName)) ∈ mGt := mGi_8 140 rfl rfl
theorem w_1947 : (Jvm.Cond.instanceMethod ({ cls := "MoonDialsModel", name := "mend", desc := "(III)I" } : Jvm.MethodName)) ∈ mGt := mGi_8 141 rfl rfl
theorem w_1948 : (Jvm.Cond.selects "MoonDialsModel" ({ cls := "MoonDialsModel", name := "mend", desc := "(III)I" } : Jvm.MethodName) ({ cls := "MoonDialsModel", name := "mend", desc := "(III)I" } : Jvm.MethodName)) ∈ mGt := mGi_8 142 rfl rfl
theorem w_1949 : (Jvm.Cond.code ({ cls := "MoonDialsModel", name := "mend", desc := "(III)I" } : Jvm.MethodName) prog_14_method_105_code (4 : Nat) (Option.some Jvm.ClassFile.FieldType.int)) ∈ mGt := mGi_8 143 rfl rfl
theorem w_1950 : (Jvm.Cond.methodLink "MoonDialsLaw" (124 : Nat) ({ cls := "MoonDialsModel", name := "sooner", desc := "(I)I" } : Jvm.MethodName)) ∈ mGt := mGi_8 144 rfl rfl
theorem w_1951 : (Jvm.Cond.instanceMethod ({ cls := "MoonDialsModel", name := "sooner", desc := "(I)I" } : Jvm.MethodName)) ∈ mGt := mGi_8 145 rfl rfl
theorem w_1952 : (Jvm.Cond.selects "MoonDialsModel" ({ cls := "MoonDialsModel", name := "sooner", desc := "(I)I" } : Jvm.MethodName) ({ cls := "MoonDialsModel", name := "sooner", desc := "(I)I" } : Jvm.MethodName)) ∈ mGt := mGi_8 146 rfl rfl
theorem w_1953 : (Jvm.Cond.code ({ cls := "MoonDialsModel", name := "sooner", desc := "(I)I" } : Jvm.MethodName) prog_14_method_106_code (7 : Nat) (Option.some Jvm.ClassFile.FieldType.int)) ∈ mGt := mGi_8 147 rfl rfl
theorem w_1954 : (Jvm.Cond.methodLink "MoonDialsLaw" (128 : Nat) ({ cls := "MoonDialsModel", name := "strangers", desc := "(I)I" } : Jvm.MethodName)) ∈ mGt := mGi_8 148 rfl rfl
theorem w_1955 : (Jvm.Cond.instanceMethod ({ cls := "MoonDialsModel", name := "strangers", desc := "(I)I" } : Jvm.MethodName)) ∈ mGt := mGi_8 149 rfl rfl
theorem w_1956 : (Jvm.Cond.selects "MoonDialsModel" ({ cls := "MoonDialsModel", name := "strangers", desc := "(I)I" } : Jvm.MethodName) ({ cls := "MoonDialsModel", name := "strangers", desc := "(I)I" } : Jvm.MethodName)) ∈ mGt := mGi_8 150 rfl rfl
theorem w_1957 : (Jvm.Cond.code ({ cls := "MoonDialsModel", name := "strangers", desc := "(I)I" } : Jvm.MethodName) prog_14_method_107_code (4 : Nat) (Option.some Jvm.ClassFile.FieldType.int)) ∈ mGt := mGi_8 151 rfl rfl
theorem w_1958 : (Jvm.Cond.methodLink "MoonDialsLaw" (132 : Nat) ({ cls := "MoonDialsModel", name := "by", desc := "(IIII)I" } : Jvm.MethodName)) ∈ mGt := mGi_8 152 rfl rfl
theorem w_1959 : (Jvm.Cond.instanceMethod ({ cls := "MoonDialsModel", name := "by", desc := "(IIII)I" } : Jvm.MethodName)) ∈ mGt := mGi_8 153 rfl rfl
theorem w_1960 : (Jvm.Cond.selects "MoonDialsModel" ({ cls := "MoonDialsModel", name := "by", desc := "(IIII)I" } : Jvm.MethodName) ({ cls := "MoonDialsModel", name := "by", desc := "(IIII)I" } : Jvm.MethodName)) ∈ mGt := mGi_8 154 rfl rfl
theorem w_1961 : (Jvm.Cond.code ({ cls := "MoonDialsModel", name := "by", desc := "(IIII)I" } : Jvm.MethodName) prog_14_method_108_code (9 : Nat) (Option.some Jvm.ClassFile.FieldType.int)) ∈ mGt := mGi_8 155 rfl rfl
theorem w_1962 : (Jvm.Cond.methodLink "MoonDialsLaw" (136 : Nat) ({ cls := "MoonDialsModel", name := "peace", desc := "(II)I" } : Jvm.MethodName)) ∈ mGt := mGi_8 156 rfl rfl
theorem w_1963 : (Jvm.Cond.instanceMethod ({ cls := "MoonDialsModel", name := "peace", desc := "(II)I" } : Jvm.MethodName)) ∈ mGt := mGi_8 157 rfl rfl
theorem w_1964 : (Jvm.Cond.selects "MoonDialsModel" ({ cls := "MoonDialsModel", name := "peace", desc := "(II)I" } : Jvm.MethodName) ({ cls := "MoonDialsModel", name := "peace", desc := "(II)I" } : Jvm.MethodName)) ∈ mGt := mGi_8 158 rfl rfl
theorem w_1965 : (Jvm.Cond.code ({ cls := "MoonDialsModel", name := "peace", desc := "(II)I" } : Jvm.MethodName) prog_14_method_110_code (5 : Nat) (Option.some Jvm.ClassFile.FieldType.int)) ∈ mGt := mGi_8 159 rfl rfl
theorem w_1966 : (Jvm.Cond.methodLink "MoonDialsModel" (463 : Nat) ({ cls := "MoonDialsModel", name := "areAny", desc := "(II)Z" } : Jvm.MethodName)) ∈ mGt := mGi_8 160 rfl rfl
theorem w_1968 : (Jvm.Cond.instanceMethod ({ cls := "MoonDialsModel", name := "areAny", desc := "(II)Z" } : Jvm.MethodName)) ∈ mGt := mGi_8 162 rfl rfl
theorem w_1969 : (Jvm.Cond.code ({ cls := "MoonDialsModel", name := "areAny", desc := "(II)Z" } : Jvm.MethodName) prog_14_method_109_code (5 : Nat) (Option.some Jvm.ClassFile.FieldType.boolean)) ∈ mGt := mGi_8 163 rfl rfl
theorem w_1970 : (Jvm.Cond.methodLink "MoonDialsLaw" (140 : Nat) ({ cls := "MoonDialsModel", name := "favourite", desc := "(II)I" } : Jvm.MethodName)) ∈ mGt := mGi_8 164 rfl rfl
theorem w_1971 : (Jvm.Cond.instanceMethod ({ cls := "MoonDialsModel", name := "favourite", desc := "(II)I" } : Jvm.MethodName)) ∈ mGt := mGi_8 165 rfl rfl
theorem w_1972 : (Jvm.Cond.selects "MoonDialsModel" ({ cls := "MoonDialsModel", name := "favourite", desc := "(II)I" } : Jvm.MethodName) ({ cls := "MoonDialsModel", name := "favourite", desc := "(II)I" } : Jvm.MethodName)) ∈ mGt := mGi_8 166 rfl rfl
theorem w_1973 : (Jvm.Cond.code ({ cls := "MoonDialsModel", name := "favourite", desc := "(II)I" } : Jvm.MethodName) prog_14_method_112_code (8 : Nat) (Option.some Jvm.ClassFile.FieldType.int)) ∈ mGt := mGi_8 167 rfl rfl
theorem w_1974 : (Jvm.Cond.methodLink "MoonDialsModel" (466 : Nat) ({ cls := "MoonDialsModel", name := "manyBy", desc := "(I)I" } : Jvm.MethodName)) ∈ mGt := mGi_8 168 rfl rfl
theorem w_1976 : (Jvm.Cond.instanceMethod ({ cls := "MoonDialsModel", name := "manyBy", desc := "(I)I" } : Jvm.MethodName)) ∈ mGt := mGi_8 170 rfl rfl
theorem w_1977 : (Jvm.Cond.code ({ cls := "MoonDialsModel", name := "manyBy", desc := "(I)I" } : Jvm.MethodName) prog_14_method_111_code (4 : Nat) (Option.some Jvm.ClassFile.FieldType.int)) ∈ mGt := mGi_8 171 rfl rfl
theorem w_1978 : (Jvm.Cond.methodLink "MoonDialsLaw" (152 : Nat) ({ cls := "MoonDialsModel", name := "fullest", desc := "(I)I" } : Jvm.MethodName)) ∈ mGt := mGi_8 172 rfl rfl
theorem w_1979 : (Jvm.Cond.instanceMethod ({ cls := "MoonDialsModel", name := "fullest", desc := "(I)I" } : Jvm.MethodName)) ∈ mGt := mGi_8 173 rfl rfl
theorem w_1980 : (Jvm.Cond.selects "MoonDialsModel" ({ cls := "MoonDialsModel", name := "fullest", desc := "(I)I" } : Jvm.MethodName) ({ cls := "MoonDialsModel", name := "fullest", desc := "(I)I" } : Jvm.MethodName)) ∈ mGt := mGi_8 174 rfl rfl
theorem w_1981 : (Jvm.Cond.code ({ cls := "MoonDialsModel", name := "fullest", desc := "(I)I" } : Jvm.MethodName) prog_14_method_113_code (5 : Nat) (Option.some Jvm.ClassFile.FieldType.int)) ∈ mGt := mGi_8 175 rfl rfl
theorem w_1982 : (Jvm.Cond.methodLink "MoonDialsLaw" (148 : Nat) ({ cls := "MoonDialsModel", name := "couples", desc := "(II)I" } : Jvm.MethodName)) ∈ mGt := mGi_8 176 rfl rfl
theorem w_1983 : (Jvm.Cond.instanceMethod ({ cls := "MoonDialsModel", name := "couples", desc := "(II)I" } : Jvm.MethodName)) ∈ mGt := mGi_8 177 rfl rfl
theorem w_1984 : (Jvm.Cond.selects "MoonDialsModel" ({ cls := "MoonDialsModel", name := "couples", desc := "(II)I" } : Jvm.MethodName) ({ cls := "MoonDialsModel", name := "couples", desc := "(II)I" } : Jvm.MethodName)) ∈ mGt := mGi_8 178 rfl rfl
theorem w_1985 : (Jvm.Cond.code ({ cls := "MoonDialsModel", name := "couples", desc := "(II)I" } : Jvm.MethodName) prog_14_method_117_code (6 : Nat) (Option.some Jvm.ClassFile.FieldType.int)) ∈ mGt := mGi_8 179 rfl rfl
theorem w_1986 : (Jvm.Cond.methodLink "MoonDialsModel" (475 : Nat) ({ cls := "MoonDialsModel", name := "fillsCouples", desc := "(I)V" } : Jvm.MethodName)) ∈ mGt := mGi_8 180 rfl rfl
theorem w_1988 : (Jvm.Cond.instanceMethod ({ cls := "MoonDialsModel", name := "fillsCouples", desc := "(I)V" } : Jvm.MethodName)) ∈ mGt := mGi_8 182 rfl rfl
theorem w_1989 : (Jvm.Cond.code ({ cls := "MoonDialsModel", name := "fillsCouples", desc := "(I)V" } : Jvm.MethodName) prog_14_method_115_code (5 : Nat) (Option.none : Option Jvm.ClassFile.FieldType)) ∈ mGt := mGi_8 183 rfl rfl
theorem w_1990 : (Jvm.Cond.methodLink "MoonDialsModel" (472 : Nat) ({ cls := "MoonDialsModel", name := "couplesWith", desc := "(III)I" } : Jvm.MethodName)) ∈ mGt := mGi_8 184 rfl rfl
theorem w_1992 : (Jvm.Cond.instanceMethod ({ cls := "MoonDialsModel", name := "couplesWith", desc := "(III)I" } : Jvm.MethodName)) ∈ mGt := mGi_8 186 rfl rfl
theorem w_1993 : (Jvm.Cond.code ({ cls := "MoonDialsModel", name := "couplesWith", desc := "(III)I" } : Jvm.MethodName) prog_14_method_114_code (4 : Nat) (Option.some Jvm.ClassFile.FieldType.int)) ∈ mGt := mGi_8 187 rfl rfl
theorem w_1994 : (Jvm.Cond.methodLink "MoonDialsModel" (478 : Nat) ({ cls := "MoonDialsModel", name := "coupleOf", desc := "(I)I" } : Jvm.MethodName)) ∈ mGt := mGi_8 188 rfl rfl
theorem w_1996 : (Jvm.Cond.instanceMethod ({ cls := "MoonDialsModel", name := "coupleOf", desc := "(I)I" } : Jvm.MethodName)) ∈ mGt := mGi_8 190 rfl rfl
theorem w_1997 : (Jvm.Cond.code ({ cls := "MoonDialsModel", name := "coupleOf", desc := "(I)I" } : Jvm.MethodName) prog_14_method_116_code (4 : Nat) (Option.some Jvm.ClassFile.FieldType.int)) ∈ mGt := mGi_8 191 rfl rfl
theorem w_1998 : (Jvm.Cond.methodLink "MoonDialsLaw" (156 : Nat) ({ cls := "MoonDialsModel", name := "game", desc := "(III)I" } : Jvm.MethodName)) ∈ mGt := mGi_8 192 rfl rfl
theorem w_1999 : (Jvm.Cond.instanceMethod ({ cls := "MoonDialsModel", name := "game", desc := "(III)I" } : Jvm.MethodName)) ∈ mGt := mGi_8 193 rfl rfl
theorem w_2000 : (Jvm.Cond.selects "MoonDialsModel" ({ cls := "MoonDialsModel", name := "game", desc := "(III)I" } : Jvm.MethodName) ({ cls := "MoonDialsModel", name := "game", desc := "(III)I" } : Jvm.MethodName)) ∈ mGt := mGi_8 194 rfl rfl
theorem w_2001 : (Jvm.Cond.code ({ cls := "MoonDialsModel", name := "game", desc := "(III)I" } : Jvm.MethodName) prog_14_method_124_code (6 : Nat) (Option.some Jvm.ClassFile.FieldType.int)) ∈ mGt := mGi_8 195 rfl rfl
theorem w_2002 : (Jvm.Cond.methodLink "MoonDialsModel" (494 : Nat) ({ cls := "MoonDialsModel", name := "spreads", desc := "(III)V" } : Jvm.MethodName)) ∈ mGt := mGi_8 196 rfl rfl
theorem w_2004 : (Jvm.Cond.instanceMethod ({ cls := "MoonDialsModel", name := "spreads", desc := "(III)V" } : Jvm.MethodName)) ∈ mGt := mGi_8 198 rfl rfl
theorem w_2005 : (Jvm.Cond.code ({ cls := "MoonDialsModel", name := "spreads", desc := "(III)V" } : Jvm.MethodName) prog_14_method_121_code (7 : Nat) (Option.none : Option Jvm.ClassFile.FieldType)) ∈ mGt := mGi_8 199 rfl rfl
theorem w_2006 : (Jvm.Cond.methodLink "MoonDialsModel" (484 : Nat) ({ cls := "MoonDialsModel", name := "plays", desc := "(III)I" } : Jvm.MethodName)) ∈ mGt := mGi_8 200 rfl rfl
theorem w_2008 : (Jvm.Cond.instanceMethod ({ cls := "MoonDialsModel", name := "plays", desc := "(III)I" } : Jvm.MethodName)) ∈ mGt := mGi_8 202 rfl rfl
theorem w_2009 : (Jvm.Cond.code ({ cls := "MoonDialsModel", name := "plays", desc := "(III)I" } : Jvm.MethodName) prog_14_method_120_code (5 : Nat) (Option.some Jvm.ClassFile.FieldType.int)) ∈ mGt := mGi_8 203 rfl rfl
theorem w_2010 : (Jvm.Cond.methodLink "MoonDialsModel" (481 : Nat) ({ cls := "MoonDialsModel", name := "loads", desc := "(I)V" } : Jvm.MethodName)) ∈ mGt := mGi_8 204 rfl rfl
theorem w_2012 : (Jvm.Cond.instanceMethod ({ cls := "MoonDialsModel", name := "loads", desc := "(I)V" } : Jvm.MethodName)) ∈ mGt := mGi_8 206 rfl rfl
theorem w_2013 : (Jvm.Cond.code ({ cls := "MoonDialsModel", name := "loads", desc := "(I)V" } : Jvm.MethodName) prog_14_method_118_code (3 : Nat) (Option.none : Option Jvm.ClassFile.FieldType)) ∈ mGt := mGi_8 207 rfl rfl
theorem w_2014 : (Jvm.Cond.methodLink "MoonDialsModel" (487 : Nat) ({ cls := "MoonDialsModel", name := "childOf", desc := "(III)I" } : Jvm.MethodName)) ∈ mGt := mGi_8 208 rfl rfl
theorem w_2016 : (Jvm.Cond.instanceMethod ({ cls := "MoonDialsModel", name := "childOf", desc := "(III)I" } : Jvm.MethodName)) ∈ mGt := mGi_8 210 rfl rfl
theorem w_2017 : (Jvm.Cond.code ({ cls := "MoonDialsModel", name := "childOf", desc := "(III)I" } : Jvm.MethodName) prog_14_method_119_code (4 : Nat) (Option.some Jvm.ClassFile.FieldType.int)) ∈ mGt := mGi_8 211 rfl rfl
theorem w_2018 : (Jvm.Cond.methodLink "MoonDialsModel" (498 : Nat) ({ cls := "MoonDialsModel", name := "bestAt", desc := "(IIII)I" } : Jvm.MethodName)) ∈ mGt := mGi_8 212 rfl rfl
theorem w_2020 : (Jvm.Cond.instanceMethod ({ cls := "MoonDialsModel", name := "bestAt", desc := "(IIII)I" } : Jvm.MethodName)) ∈ mGt := mGi_8 214 rfl rfl
theorem w_2021 : (Jvm.Cond.code ({ cls := "MoonDialsModel", name := "bestAt", desc := "(IIII)I" } : Jvm.MethodName) prog_14_method_123_code (9 : Nat) (Option.some Jvm.ClassFile.FieldType.int)) ∈ mGt := mGi_8 215 rfl rfl
theorem w_2022 : (Jvm.Cond.methodLink "MoonDialsModel" (490 : Nat) ({ cls := "MoonDialsModel", name := "gainBy", desc := "(IIIII)I" } : Jvm.MethodName)) ∈ mGt := mGi_8 216 rfl rfl
theorem w_2024 : (Jvm.Cond.instanceMethod ({ cls := "MoonDialsModel", name := "gainBy", desc := "(IIIII)I" } : Jvm.MethodName)) ∈ mGt := mGi_8 218 rfl rfl
theorem w_2025 : (Jvm.Cond.code ({ cls := "MoonDialsModel", name := "gainBy", desc := "(IIIII)I" } : Jvm.MethodName) prog_14_method_122_code (7 : Nat) (Option.some Jvm.ClassFile.FieldType.int)) ∈ mGt := mGi_8 219 rfl rfl
theorem w_2026 : (Jvm.Cond.methodLink "MoonDialsLaw" (160 : Nat) ({ cls := "MoonDialsModel", name := "metIn", desc := "(II)I" } : Jvm.MethodName)) ∈ mGt := mGi_8 220 rfl rfl
theorem w_2027 : (Jvm.Cond.instanceMethod ({ cls := "MoonDialsModel", name := "metIn", desc := "(II)I" } : Jvm.MethodName)) ∈ mGt := mGi_8 221 rfl rfl
theorem w_2028 : (Jvm.Cond.selects "MoonDialsModel" ({ cls := "MoonDialsModel", name := "metIn", desc := "(II)I" } : Jvm.MethodName) ({ cls := "MoonDialsModel", name := "metIn", desc := "(II)I" } : Jvm.MethodName)) ∈ mGt := mGi_8 222 rfl rfl
theorem w_2029 : (Jvm.Cond.code ({ cls := "MoonDialsModel", name := "metIn", desc := "(II)I" } : Jvm.MethodName) prog_14_method_125_code (3 : Nat) (Option.some Jvm.ClassFile.FieldType.int)) ∈ mGt := mGi_8 223 rfl rfl
theorem w_2030 : (Jvm.Cond.methodLink "MoonDialsLaw" (164 : Nat) ({ cls := "MoonDialsModel", name := "outIn", desc := "(II)I" } : Jvm.MethodName)) ∈ mGt := mGi_8 224 rfl rfl
theorem w_2031 : (Jvm.Cond.instanceMethod ({ cls := "MoonDialsModel", name := "outIn", desc := "(II)I" } : Jvm.MethodName)) ∈ mGt := mGi_8 225 rfl rfl
theorem w_2032 : (Jvm.Cond.selects "MoonDialsModel" ({ cls := "MoonDialsModel", name := "outIn", desc := "(II)I" } : Jvm.MethodName) ({ cls := "MoonDialsModel", name := "outIn", desc := "(II)I" } : Jvm.MethodName)) ∈ mGt := mGi_8 226 rfl rfl
theorem w_2033 : (Jvm.Cond.code ({ cls := "MoonDialsModel", name := "outIn", desc := "(II)I" } : Jvm.MethodName) prog_14_method_126_code (3 : Nat) (Option.some Jvm.ClassFile.FieldType.int)) ∈ mGt := mGi_8 227 rfl rfl
theorem w_2034 : (Jvm.Cond.methodLink "MoonDialsLaw" (168 : Nat) ({ cls := "MoonDialsModel", name := "year", desc := "(IIII)I" } : Jvm.MethodName)) ∈ mGt := mGi_8 228 rfl rfl
theorem w_2035 : (Jvm.Cond.instanceMethod ({ cls := "MoonDialsModel", name := "year", desc := "(IIII)I" } : Jvm.MethodName)) ∈ mGt := mGi_8 229 rfl rfl
theorem w_2036 : (Jvm.Cond.selects "MoonDialsModel" ({ cls := "MoonDialsModel", name := "year", desc := "(IIII)I" } : Jvm.MethodName) ({ cls := "MoonDialsModel", name := "year", desc := "(IIII)I" } : Jvm.MethodName)) ∈ mGt := mGi_8 230 rfl rfl
theorem w_2037 : (Jvm.Cond.code ({ cls := "MoonDialsModel", name := "year", desc := "(IIII)I" } : Jvm.MethodName) prog_14_method_127_code (7 : Nat) (Option.some Jvm.ClassFile.FieldType.int)) ∈ mGt := mGi_8 231 rfl rfl
theorem w_2038 : (Jvm.Cond.methodLink "MoonDialsLaw" (173 : Nat) ({ cls := "MoonDialsModel", name := "tell", desc := "(IIZ)I" } : Jvm.MethodName)) ∈ mGt := mGi_8 232 rfl rfl
theorem w_2039 : (Jvm.Cond.instanceMethod ({ cls := "MoonDialsModel", name := "tell", desc := "(IIZ)I" } : Jvm.MethodName)) ∈ mGt := mGi_8 233 rfl rfl
theorem w_2040 : (Jvm.Cond.selects "MoonDialsModel" ({ cls := "MoonDialsModel", name := "tell", desc := "(IIZ)I" } : Jvm.MethodName) ({ cls := "MoonDialsModel", name := "tell", desc := "(IIZ)I" } : Jvm.MethodName)) ∈ mGt := mGi_8 234 rfl rfl
theorem w_2041 : (Jvm.Cond.code ({ cls := "MoonDialsModel", name := "tell", desc := "(IIZ)I" } : Jvm.MethodName) prog_14_method_128_code (4 : Nat) (Option.some Jvm.ClassFile.FieldType.int)) ∈ mGt := mGi_8 235 rfl rfl
theorem w_2042 : (Jvm.Cond.methodLink "MoonDialsLaw" (177 : Nat) ({ cls := "MoonDialsModel", name := "forget", desc := "()I" } : Jvm.MethodName)) ∈ mGt := mGi_8 236 rfl rfl
theorem w_2043 : (Jvm.Cond.instanceMethod ({ cls := "MoonDialsModel", name := "forget", desc := "()I" } : Jvm.MethodName)) ∈ mGt := mGi_8 237 rfl rfl
theorem w_2044 : (Jvm.Cond.selects "MoonDialsModel" ({ cls := "MoonDialsModel", name := "forget", desc := "()I" } : Jvm.MethodName) ({ cls := "MoonDialsModel", name := "forget", desc := "()I" } : Jvm.MethodName)) ∈ mGt := mGi_8 238 rfl rfl
theorem w_2045 : (Jvm.Cond.code ({ cls := "MoonDialsModel", name := "forget", desc := "()I" } : Jvm.MethodName) prog_14_method_129_code (2 : Nat) (Option.some Jvm.ClassFile.FieldType.int)) ∈ mGt := mGi_8 239 rfl rfl
theorem w_2046 : (Jvm.Cond.methodLink "MoonDialsLaw" (181 : Nat) ({ cls := "MoonDialsModel", name := "fits", desc := "(III)I" } : Jvm.MethodName)) ∈ mGt := mGi_9 0 rfl rfl
theorem w_2047 : (Jvm.Cond.instanceMethod ({ cls := "MoonDialsModel", name := "fits", desc := "(III)I" } : Jvm.MethodName)) ∈ mGt := mGi_9 1 rfl rfl
theorem w_2048 : (Jvm.Cond.selects "MoonDialsModel" ({ cls := "MoonDialsModel", name := "fits", desc := "(III)I" } : Jvm.MethodName) ({ cls := "MoonDialsModel", name := "fits", desc := "(III)I" } : Jvm.MethodName)) ∈ mGt := mGi_9 2 rfl rfl
theorem w_2049 : (Jvm.Cond.code ({ cls := "MoonDialsModel", name := "fits", desc := "(III)I" } : Jvm.MethodName) prog_14_method_131_code (5 : Nat) (Option.some Jvm.ClassFile.FieldType.int)) ∈ mGt := mGi_9 3 rfl rfl
theorem w_2050 : (Jvm.Cond.methodLink "MoonDialsModel" (501 : Nat) ({ cls := "MoonDialsModel", name := "fitBits", desc := "(II)I" } : Jvm.MethodName)) ∈ mGt := mGi_9 4 rfl rfl
theorem w_2052 : (Jvm.Cond.instanceMethod ({ cls := "MoonDialsModel", name := "fitBits", desc := "(II)I" } : Jvm.MethodName)) ∈ mGt := mGi_9 6 rfl rfl
theorem w_2053 : (Jvm.Cond.code ({ cls := "MoonDialsModel", name := "fitBits", desc := "(II)I" } : Jvm.MethodName) prog_14_method_130_code (7 : Nat) (Option.some Jvm.ClassFile.FieldType.int)) ∈ mGt := mGi_9 7 rfl rfl
theorem w_2054 : (Jvm.Cond.methodLink "MoonDialsLaw" (185 : Nat) ({ cls := "MoonDialsModel", name := "look", desc := "(III)I" } : Jvm.MethodName)) ∈ mGt := mGi_9 8 rfl rfl
theorem w_2055 : (Jvm.Cond.instanceMethod ({ cls := "MoonDialsModel", name := "look", desc := "(III)I" } : Jvm.MethodName)) ∈ mGt := mGi_9 9 rfl rfl
theorem w_2056 : (Jvm.Cond.selects "MoonDialsModel" ({ cls := "MoonDialsModel", name := "look", desc := "(III)I" } : Jvm.MethodName) ({ cls := "MoonDialsModel", name := "look", desc := "(III)I" } : Jvm.MethodName)) ∈ mGt := mGi_9 10 rfl rfl
theorem w_2057 : (Jvm.Cond.code ({ cls := "MoonDialsModel", name := "look", desc := "(III)I" } : Jvm.MethodName) prog_14_method_132_code (11 : Nat) (Option.some Jvm.ClassFile.FieldType.int)) ∈ mGt := mGi_9 11 rfl rfl
theorem w_2058 : (Jvm.Cond.methodLink "MoonDialsLaw" (190 : Nat) ({ cls := "MoonDialsModel", name := "hold", desc := "(I)Z" } : Jvm.MethodName)) ∈ mGt := mGi_9 12 rfl rfl
theorem w_2059 : (Jvm.Cond.instanceMethod ({ cls := "MoonDialsModel", name := "hold", desc := "(I)Z" } : Jvm.MethodName)) ∈ mGt := mGi_9 13 rfl rfl
theorem w_2060 : (Jvm.Cond.selects "MoonDialsModel" ({ cls := "MoonDialsModel", name := "hold", desc := "(I)Z" } : Jvm.MethodName) ({ cls := "MoonDialsModel", name := "hold", desc := "(I)Z" } : Jvm.MethodName)) ∈ mGt := mGi_9 14 rfl rfl
theorem w_2061 : (Jvm.Cond.code ({ cls := "MoonDialsModel", name := "hold", desc := "(I)Z" } : Jvm.MethodName) prog_14_method_133_code (3 : Nat) (Option.some Jvm.ClassFile.FieldType.boolean)) ∈ mGt := mGi_9 15 rfl rfl
theorem w_2062 : (Jvm.Cond.methodLink "MoonDialsLaw" (194 : Nat) ({ cls := "MoonDialsModel", name := "restore", desc := "(I)Z" } : Jvm.MethodName)) ∈ mGt := mGi_9 16 rfl rfl
theorem w_2063 : (Jvm.Cond.instanceMethod ({ cls := "MoonDialsModel", name := "restore", desc := "(I)Z" } : Jvm.MethodName)) ∈ mGt := mGi_9 17 rfl rfl
theorem w_2064 : (Jvm.Cond.selects "MoonDialsModel" ({ cls := "MoonDialsModel", name := "restore", desc := "(I)Z" } : Jvm.MethodName) ({ cls := "MoonDialsModel", name := "restore", desc := "(I)Z" } : Jvm.MethodName)) ∈ mGt := mGi_9 18 rfl rfl
theorem w_2065 : (Jvm.Cond.code ({ cls := "MoonDialsModel", name := "restore", desc := "(I)Z" } : Jvm.MethodName) prog_14_method_134_code (3 : Nat) (Option.some Jvm.ClassFile.FieldType.boolean)) ∈ mGt := mGi_9 19 rfl rfl
theorem w_2066 : (Jvm.Cond.methodLink "MoonDialsLaw" (198 : Nat) ({ cls := "MoonDialsModel", name := "count", desc := "(I)I" } : Jvm.MethodName)) ∈ mGt := mGi_9 20 rfl rfl
theorem w_2067 : (Jvm.Cond.instanceMethod ({ cls := "MoonDialsModel", name := "count", desc := "(I)I" } : Jvm.MethodName)) ∈ mGt := mGi_9 21 rfl rfl
theorem w_2068 : (Jvm.Cond.selects "MoonDialsModel" ({ cls := "MoonDialsModel", name := "count", desc := "(I)I" } : Jvm.MethodName) ({ cls := "MoonDialsModel", name := "count", desc := "(I)I" } : Jvm.MethodName)) ∈ mGt := mGi_9 22 rfl rfl
theorem w_2069 : (Jvm.Cond.code ({ cls := "MoonDialsModel", name := "count", desc := "(I)I" } : Jvm.MethodName) prog_14_method_135_code (4 : Nat) (Option.some Jvm.ClassFile.FieldType.int)) ∈ mGt := mGi_9 23 rfl rfl
theorem w_2070 : (Jvm.Cond.methodLink "MoonDialsModel" (504 : Nat) ({ cls := "MoonDialsModel", name := "anyBits", desc := "()I" } : Jvm.MethodName)) ∈ mGt := mGi_9 24 rfl rfl
theorem w_2072 : (Jvm.Cond.instanceMethod ({ cls := "MoonDialsModel", name := "anyBits", desc := "()I" } : Jvm.MethodName)) ∈ mGt := mGi_9 26 rfl rfl
theorem w_2073 : (Jvm.Cond.code ({ cls := "MoonDialsModel", name := "anyBits", desc := "()I" } : Jvm.MethodName) prog_14_method_66_code (1 : Nat) (Option.some Jvm.ClassFile.FieldType.int)) ∈ mGt := mGi_9 27 rfl rfl
theorem w_2074 : (Jvm.Cond.methodLink "MoonDialsModel" (507 : Nat) ({ cls := "MoonDialsModel", name := "manyBits", desc := "()I" } : Jvm.MethodName)) ∈ mGt := mGi_9 28 rfl rfl
theorem w_2076 : (Jvm.Cond.instanceMethod ({ cls := "MoonDialsModel", name := "manyBits", desc := "()I" } : Jvm.MethodName)) ∈ mGt := mGi_9 30 rfl rfl
theorem w_2077 : (Jvm.Cond.code ({ cls := "MoonDialsModel", name := "manyBits", desc := "()I" } : Jvm.MethodName) prog_14_method_67_code (3 : Nat) (Option.some Jvm.ClassFile.FieldType.int)) ∈ mGt := mGi_9 31 rfl rfl
theorem w_2078 : (Jvm.Cond.methodLink "MoonDialsModel" (510 : Nat) ({ cls := "MoonDialsModel", name := "idleBits", desc := "()I" } : Jvm.MethodName)) ∈ mGt := mGi_9 32 rfl rfl
theorem w_2080 : (Jvm.Cond.instanceMethod ({ cls := "MoonDialsModel", name := "idleBits", desc := "()I" } : Jvm.MethodName)) ∈ mGt := mGi_9 34 rfl rfl
theorem w_2081 : (Jvm.Cond.code ({ cls := "MoonDialsModel", name := "idleBits", desc := "()I" } : Jvm.MethodName) prog_14_method_136_code (3 : Nat) (Option.some Jvm.ClassFile.FieldType.int)) ∈ mGt := mGi_9 35 rfl rfl
