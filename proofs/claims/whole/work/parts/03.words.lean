/-- the words of the tables that last over a call -/
def TB : List Cond := lw_tbl.filter goodWord
theorem tb_mem {w : Cond} (h : w ∈ lw_tbl) (g : goodWord w = true) : w ∈ TB := List.mem_filter.mpr ⟨h, g⟩
theorem tb_good {w : Cond} (h : w ∈ TB) : goodWord w = true := (List.mem_filter.mp h).2
theorem tb_in {w : Cond} (h : w ∈ TB) : w ∈ lw_tbl := (List.mem_filter.mp h).1
theorem tb_at {w : Cond} (i : Nat) (h : lw_tbl[i]? = some w) (g : goodWord w = true) : w ∈ TB := tb_mem (List.mem_of_getElem? h) g
theorem mv_0 : Cond.selects "SprayedLetters$Reader" ({ cls := "SprayedLetters$Reader", name := "readToken", desc := "()V" } : Jvm.MethodName) ({ cls := "SprayedLetters$Reader", name := "readToken", desc := "()V" } : Jvm.MethodName) ∈ TB := tb_at 0 (by decide +kernel) rfl
theorem mv_1 : Cond.selects "SprayedLetters$Reader" ({ cls := "SprayedLetters$Reader", name := "byteAt", desc := "(I)I" } : Jvm.MethodName) ({ cls := "SprayedLetters$Reader", name := "byteAt", desc := "(I)I" } : Jvm.MethodName) ∈ TB := tb_at 1 (by decide +kernel) rfl
theorem mv_2 : Cond.selects "SprayedLetters$Reader" ({ cls := "SprayedLetters$Reader", name := "refuse", desc := "(II)V" } : Jvm.MethodName) ({ cls := "SprayedLetters$Reader", name := "refuse", desc := "(II)V" } : Jvm.MethodName) ∈ TB := tb_at 2 (by decide +kernel) rfl
theorem mv_3 : Cond.selects "SprayedLetters$Reader" ({ cls := "SprayedLetters$Reader", name := "readLine", desc := "()V" } : Jvm.MethodName) ({ cls := "SprayedLetters$Reader", name := "readLine", desc := "()V" } : Jvm.MethodName) ∈ TB := tb_at 3 (by decide +kernel) rfl
theorem mv_4 : Cond.selects "SprayedLetters$Reader" ({ cls := "SprayedLetters$Reader", name := "lineBegun", desc := "()I" } : Jvm.MethodName) ({ cls := "SprayedLetters$Reader", name := "lineBegun", desc := "()I" } : Jvm.MethodName) ∈ TB := tb_at 4 (by decide +kernel) rfl
theorem mv_5 : Cond.selects "SprayedLetters$Reader" ({ cls := "SprayedLetters$Reader", name := "isWord", desc := "(Ljava/lang/String;)Z" } : Jvm.MethodName) ({ cls := "SprayedLetters$Reader", name := "isWord", desc := "(Ljava/lang/String;)Z" } : Jvm.MethodName) ∈ TB := tb_at 5 (by decide +kernel) rfl
theorem mv_6 : Cond.selects "SprayedLetters$Reader" ({ cls := "SprayedLetters$Reader", name := "isFull", desc := "(I)Z" } : Jvm.MethodName) ({ cls := "SprayedLetters$Reader", name := "isFull", desc := "(I)Z" } : Jvm.MethodName) ∈ TB := tb_at 6 (by decide +kernel) rfl
theorem mv_7 : Cond.selects "SprayedLetters$Reader" ({ cls := "SprayedLetters$Reader", name := "readNumbers", desc := "(I)V" } : Jvm.MethodName) ({ cls := "SprayedLetters$Reader", name := "readNumbers", desc := "(I)V" } : Jvm.MethodName) ∈ TB := tb_at 7 (by decide +kernel) rfl
theorem mv_8 : Cond.selects "SprayedLetters$Reader" ({ cls := "SprayedLetters$Reader", name := "readNumbersWithin", desc := "([I[I)V" } : Jvm.MethodName) ({ cls := "SprayedLetters$Reader", name := "readNumbersWithin", desc := "([I[I)V" } : Jvm.MethodName) ∈ TB := tb_at 8 (by decide +kernel) rfl
theorem mv_9 : Cond.selects "SprayedLetters$Reader" ({ cls := "SprayedLetters$Reader", name := "numberRead", desc := "()I" } : Jvm.MethodName) ({ cls := "SprayedLetters$Reader", name := "numberRead", desc := "()I" } : Jvm.MethodName) ∈ TB := tb_at 9 (by decide +kernel) rfl
theorem mv_10 : Cond.selects "SprayedLetters$Reader" ({ cls := "SprayedLetters$Reader", name := "takeLine", desc := "(I)V" } : Jvm.MethodName) ({ cls := "SprayedLetters$Reader", name := "takeLine", desc := "(I)V" } : Jvm.MethodName) ∈ TB := tb_at 10 (by decide +kernel) rfl
theorem mv_11 : Cond.selects "SprayedLetters" ({ cls := "SprayedLetters", name := "imagesKept", desc := "()I" } : Jvm.MethodName) ({ cls := "SprayedLetters", name := "imagesKept", desc := "()I" } : Jvm.MethodName) ∈ TB := tb_at 11 (by decide +kernel) rfl
theorem mv_12 : Cond.selects "SprayedLetters$Post" ({ cls := "SprayedLetters$Post", name := "listCopies", desc := "(II)I" } : Jvm.MethodName) ({ cls := "SprayedLetters$Post", name := "listCopies", desc := "(II)I" } : Jvm.MethodName) ∈ TB := tb_at 12 (by decide +kernel) rfl
theorem mv_13 : Cond.selects "SprayedLetters$Post" ({ cls := "SprayedLetters$Post", name := "goesAhead", desc := "(IIII)Z" } : Jvm.MethodName) ({ cls := "SprayedLetters$Post", name := "goesAhead", desc := "(IIII)Z" } : Jvm.MethodName) ∈ TB := tb_at 13 (by decide +kernel) rfl
theorem mv_14 : Cond.selects "SprayedLetters$Post" ({ cls := "SprayedLetters$Post", name := "spreadIn", desc := "(I)V" } : Jvm.MethodName) ({ cls := "SprayedLetters$Post", name := "spreadIn", desc := "(I)V" } : Jvm.MethodName) ∈ TB := tb_at 14 (by decide +kernel) rfl
theorem mv_15 : Cond.selects "SprayedLetters$Post" ({ cls := "SprayedLetters$Post", name := "mustWait", desc := "(III)Z" } : Jvm.MethodName) ({ cls := "SprayedLetters$Post", name := "mustWait", desc := "(III)Z" } : Jvm.MethodName) ∈ TB := tb_at 15 (by decide +kernel) rfl
theorem mv_16 : Cond.selects "SprayedLetters$Post" ({ cls := "SprayedLetters$Post", name := "metLater", desc := "(III)Z" } : Jvm.MethodName) ({ cls := "SprayedLetters$Post", name := "metLater", desc := "(III)Z" } : Jvm.MethodName) ∈ TB := tb_at 16 (by decide +kernel) rfl
theorem mv_17 : Cond.selects "SprayedLetters$Post" ({ cls := "SprayedLetters$Post", name := "lackOfRoom", desc := "(II)I" } : Jvm.MethodName) ({ cls := "SprayedLetters$Post", name := "lackOfRoom", desc := "(II)I" } : Jvm.MethodName) ∈ TB := tb_at 17 (by decide +kernel) rfl
theorem mv_18 : Cond.selects "SprayedLetters$Post" ({ cls := "SprayedLetters$Post", name := "expire", desc := "()V" } : Jvm.MethodName) ({ cls := "SprayedLetters$Post", name := "expire", desc := "()V" } : Jvm.MethodName) ∈ TB := tb_at 18 (by decide +kernel) rfl
theorem mv_19 : Cond.selects "SprayedLetters$Post" ({ cls := "SprayedLetters$Post", name := "makeRoom", desc := "(II)V" } : Jvm.MethodName) ({ cls := "SprayedLetters$Post", name := "makeRoom", desc := "(II)V" } : Jvm.MethodName) ∈ TB := tb_at 19 (by decide +kernel) rfl
theorem mv_20 : Cond.selects "SprayedLetters$Post" ({ cls := "SprayedLetters$Post", name := "firstToGo", desc := "(I)I" } : Jvm.MethodName) ({ cls := "SprayedLetters$Post", name := "firstToGo", desc := "(I)I" } : Jvm.MethodName) ∈ TB := tb_at 20 (by decide +kernel) rfl
theorem mv_21 : Cond.selects "SprayedLetters$Post" ({ cls := "SprayedLetters$Post", name := "rankToGo", desc := "(II)I" } : Jvm.MethodName) ({ cls := "SprayedLetters$Post", name := "rankToGo", desc := "(II)I" } : Jvm.MethodName) ∈ TB := tb_at 21 (by decide +kernel) rfl
theorem mv_22 : Cond.selects "SprayedLetters$Post" ({ cls := "SprayedLetters$Post", name := "cure", desc := "(I)V" } : Jvm.MethodName) ({ cls := "SprayedLetters$Post", name := "cure", desc := "(I)V" } : Jvm.MethodName) ∈ TB := tb_at 22 (by decide +kernel) rfl
theorem mv_23 : Cond.selects "SprayedLetters$Post" ({ cls := "SprayedLetters$Post", name := "handAll", desc := "(II)V" } : Jvm.MethodName) ({ cls := "SprayedLetters$Post", name := "handAll", desc := "(II)V" } : Jvm.MethodName) ∈ TB := tb_at 23 (by decide +kernel) rfl
theorem mv_24 : Cond.selects "SprayedLetters$Post" ({ cls := "SprayedLetters$Post", name := "handOver", desc := "(III)V" } : Jvm.MethodName) ({ cls := "SprayedLetters$Post", name := "handOver", desc := "(III)V" } : Jvm.MethodName) ∈ TB := tb_at 24 (by decide +kernel) rfl
theorem mv_25 : Cond.selects "SprayedLetters$Post" ({ cls := "SprayedLetters$Post", name := "deliver", desc := "(III)V" } : Jvm.MethodName) ({ cls := "SprayedLetters$Post", name := "deliver", desc := "(III)V" } : Jvm.MethodName) ∈ TB := tb_at 25 (by decide +kernel) rfl
theorem mv_26 : Cond.selects "SprayedLetters$Post" ({ cls := "SprayedLetters$Post", name := "rememberRefusal", desc := "(IIII)V" } : Jvm.MethodName) ({ cls := "SprayedLetters$Post", name := "rememberRefusal", desc := "(IIII)V" } : Jvm.MethodName) ∈ TB := tb_at 26 (by decide +kernel) rfl
theorem mv_27 : Cond.selects "SprayedLettersModel" ({ cls := "SprayedLettersModel", name := "reads", desc := "()V" } : Jvm.MethodName) ({ cls := "SprayedLettersModel", name := "reads", desc := "()V" } : Jvm.MethodName) ∈ TB := tb_at 27 (by decide +kernel) rfl
theorem mv_28 : Cond.selects "SprayedLettersModel" ({ cls := "SprayedLettersModel", name := "byteAt", desc := "(I)I" } : Jvm.MethodName) ({ cls := "SprayedLettersModel", name := "byteAt", desc := "(I)I" } : Jvm.MethodName) ∈ TB := tb_at 28 (by decide +kernel) rfl
theorem mv_29 : Cond.selects "SprayedLettersModel" ({ cls := "SprayedLettersModel", name := "must", desc := "(ZI)V" } : Jvm.MethodName) ({ cls := "SprayedLettersModel", name := "must", desc := "(ZI)V" } : Jvm.MethodName) ∈ TB := tb_at 29 (by decide +kernel) rfl
theorem mv_30 : Cond.selects "SprayedLettersModel" ({ cls := "SprayedLettersModel", name := "readsLine", desc := "()V" } : Jvm.MethodName) ({ cls := "SprayedLettersModel", name := "readsLine", desc := "()V" } : Jvm.MethodName) ∈ TB := tb_at 30 (by decide +kernel) rfl
theorem mv_31 : Cond.selects "SprayedLettersModel" ({ cls := "SprayedLettersModel", name := "wordNow", desc := "()I" } : Jvm.MethodName) ({ cls := "SprayedLettersModel", name := "wordNow", desc := "()I" } : Jvm.MethodName) ∈ TB := tb_at 31 (by decide +kernel) rfl
theorem mv_32 : Cond.selects "SprayedLettersModel" ({ cls := "SprayedLettersModel", name := "number", desc := "(II)I" } : Jvm.MethodName) ({ cls := "SprayedLettersModel", name := "number", desc := "(II)I" } : Jvm.MethodName) ∈ TB := tb_at 32 (by decide +kernel) rfl
theorem mv_33 : Cond.selects "SprayedLettersModel" ({ cls := "SprayedLettersModel", name := "readsMeeting", desc := "()V" } : Jvm.MethodName) ({ cls := "SprayedLettersModel", name := "readsMeeting", desc := "()V" } : Jvm.MethodName) ∈ TB := tb_at 33 (by decide +kernel) rfl
theorem mv_34 : Cond.selects "SprayedLettersModel" ({ cls := "SprayedLettersModel", name := "readsNode", desc := "(I)I" } : Jvm.MethodName) ({ cls := "SprayedLettersModel", name := "readsNode", desc := "(I)I" } : Jvm.MethodName) ∈ TB := tb_at 34 (by decide +kernel) rfl
theorem mv_35 : Cond.selects "SprayedLettersModel" ({ cls := "SprayedLettersModel", name := "readsLetter", desc := "()V" } : Jvm.MethodName) ({ cls := "SprayedLettersModel", name := "readsLetter", desc := "()V" } : Jvm.MethodName) ∈ TB := tb_at 35 (by decide +kernel) rfl
theorem mv_36 : Cond.selects "SprayedLettersModel" ({ cls := "SprayedLettersModel", name := "copiesOf", desc := "(II)I" } : Jvm.MethodName) ({ cls := "SprayedLettersModel", name := "copiesOf", desc := "(II)I" } : Jvm.MethodName) ∈ TB := tb_at 36 (by decide +kernel) rfl
theorem mv_37 : Cond.selects "SprayedLettersModel" ({ cls := "SprayedLettersModel", name := "hasCopy", desc := "(II)Z" } : Jvm.MethodName) ({ cls := "SprayedLettersModel", name := "hasCopy", desc := "(II)Z" } : Jvm.MethodName) ∈ TB := tb_at 37 (by decide +kernel) rfl
theorem mv_38 : Cond.selects "SprayedLettersModel" ({ cls := "SprayedLettersModel", name := "copyAt", desc := "(II)I" } : Jvm.MethodName) ({ cls := "SprayedLettersModel", name := "copyAt", desc := "(II)I" } : Jvm.MethodName) ∈ TB := tb_at 38 (by decide +kernel) rfl
theorem mv_39 : Cond.selects "SprayedLettersModel" ({ cls := "SprayedLettersModel", name := "isNode", desc := "(I)Z" } : Jvm.MethodName) ({ cls := "SprayedLettersModel", name := "isNode", desc := "(I)Z" } : Jvm.MethodName) ∈ TB := tb_at 39 (by decide +kernel) rfl
theorem mv_40 : Cond.selects "SprayedLettersModel" ({ cls := "SprayedLettersModel", name := "loadOf", desc := "(IZ)I" } : Jvm.MethodName) ({ cls := "SprayedLettersModel", name := "loadOf", desc := "(IZ)I" } : Jvm.MethodName) ∈ TB := tb_at 40 (by decide +kernel) rfl
theorem mv_41 : Cond.selects "SprayedLettersModel" ({ cls := "SprayedLettersModel", name := "ofLetter", desc := "(II)I" } : Jvm.MethodName) ({ cls := "SprayedLettersModel", name := "ofLetter", desc := "(II)I" } : Jvm.MethodName) ∈ TB := tb_at 41 (by decide +kernel) rfl
theorem mv_42 : Cond.selects "SprayedLettersModel" ({ cls := "SprayedLettersModel", name := "counted", desc := "(IZ)I" } : Jvm.MethodName) ({ cls := "SprayedLettersModel", name := "counted", desc := "(IZ)I" } : Jvm.MethodName) ∈ TB := tb_at 42 (by decide +kernel) rfl
theorem mv_43 : Cond.selects "SprayedLettersModel" ({ cls := "SprayedLettersModel", name := "ofMeeting", desc := "(II)I" } : Jvm.MethodName) ({ cls := "SprayedLettersModel", name := "ofMeeting", desc := "(II)I" } : Jvm.MethodName) ∈ TB := tb_at 43 (by decide +kernel) rfl
theorem mv_44 : Cond.selects "SprayedLettersModel" ({ cls := "SprayedLettersModel", name := "nextTime", desc := "(I)I" } : Jvm.MethodName) ({ cls := "SprayedLettersModel", name := "nextTime", desc := "(I)I" } : Jvm.MethodName) ∈ TB := tb_at 44 (by decide +kernel) rfl
theorem mv_45 : Cond.selects "SprayedLettersModel" ({ cls := "SprayedLettersModel", name := "isLetter", desc := "(I)Z" } : Jvm.MethodName) ({ cls := "SprayedLettersModel", name := "isLetter", desc := "(I)Z" } : Jvm.MethodName) ∈ TB := tb_at 45 (by decide +kernel) rfl
theorem mv_46 : Cond.selects "SprayedLettersModel" ({ cls := "SprayedLettersModel", name := "isWhat", desc := "(I)I" } : Jvm.MethodName) ({ cls := "SprayedLettersModel", name := "isWhat", desc := "(I)I" } : Jvm.MethodName) ∈ TB := tb_at 46 (by decide +kernel) rfl
theorem mv_47 : Cond.selects "SprayedLettersModel" ({ cls := "SprayedLettersModel", name := "tokensOfAll", desc := "(I)I" } : Jvm.MethodName) ({ cls := "SprayedLettersModel", name := "tokensOfAll", desc := "(I)I" } : Jvm.MethodName) ∈ TB := tb_at 47 (by decide +kernel) rfl
theorem mv_48 : Cond.selects "SprayedLettersModel" ({ cls := "SprayedLettersModel", name := "tokensOf", desc := "(II)I" } : Jvm.MethodName) ({ cls := "SprayedLettersModel", name := "tokensOf", desc := "(II)I" } : Jvm.MethodName) ∈ TB := tb_at 48 (by decide +kernel) rfl
theorem mv_49 : Cond.selects "SprayedLettersModel" ({ cls := "SprayedLettersModel", name := "aheadOf", desc := "(II)I" } : Jvm.MethodName) ({ cls := "SprayedLettersModel", name := "aheadOf", desc := "(II)I" } : Jvm.MethodName) ∈ TB := tb_at 49 (by decide +kernel) rfl
theorem mv_50 : Cond.selects "SprayedLettersModel" ({ cls := "SprayedLettersModel", name := "hopsOf", desc := "(II)I" } : Jvm.MethodName) ({ cls := "SprayedLettersModel", name := "hopsOf", desc := "(II)I" } : Jvm.MethodName) ∈ TB := tb_at 50 (by decide +kernel) rfl
theorem mv_51 : Cond.selects "SprayedLettersModel" ({ cls := "SprayedLettersModel", name := "lastOf", desc := "(II)I" } : Jvm.MethodName) ({ cls := "SprayedLettersModel", name := "lastOf", desc := "(II)I" } : Jvm.MethodName) ∈ TB := tb_at 51 (by decide +kernel) rfl
theorem mv_52 : Cond.selects "SprayedLettersModel" ({ cls := "SprayedLettersModel", name := "endOf", desc := "(I)I" } : Jvm.MethodName) ({ cls := "SprayedLettersModel", name := "endOf", desc := "(I)I" } : Jvm.MethodName) ∈ TB := tb_at 52 (by decide +kernel) rfl
theorem mv_53 : Cond.selects "SprayedLettersModel" ({ cls := "SprayedLettersModel", name := "isOn", desc := "(II)Z" } : Jvm.MethodName) ({ cls := "SprayedLettersModel", name := "isOn", desc := "(II)Z" } : Jvm.MethodName) ∈ TB := tb_at 53 (by decide +kernel) rfl
theorem mv_54 : Cond.selects "SprayedLettersModel" ({ cls := "SprayedLettersModel", name := "reason", desc := "(IIII)I" } : Jvm.MethodName) ({ cls := "SprayedLettersModel", name := "reason", desc := "(IIII)I" } : Jvm.MethodName) ∈ TB := tb_at 54 (by decide +kernel) rfl
theorem mv_55 : Cond.selects "SprayedLettersModel" ({ cls := "SprayedLettersModel", name := "isWaiting", desc := "(III)Z" } : Jvm.MethodName) ({ cls := "SprayedLettersModel", name := "isWaiting", desc := "(III)Z" } : Jvm.MethodName) ∈ TB := tb_at 55 (by decide +kernel) rfl
theorem mv_56 : Cond.selects "SprayedLettersModel" ({ cls := "SprayedLettersModel", name := "roomless", desc := "(II)I" } : Jvm.MethodName) ({ cls := "SprayedLettersModel", name := "roomless", desc := "(II)I" } : Jvm.MethodName) ∈ TB := tb_at 56 (by decide +kernel) rfl
theorem mv_57 : Cond.selects "SprayedLettersModel" ({ cls := "SprayedLettersModel", name := "minute", desc := "()V" } : Jvm.MethodName) ({ cls := "SprayedLettersModel", name := "minute", desc := "()V" } : Jvm.MethodName) ∈ TB := tb_at 57 (by decide +kernel) rfl
theorem mv_58 : Cond.selects "SprayedLettersModel" ({ cls := "SprayedLettersModel", name := "goes", desc := "(II)V" } : Jvm.MethodName) ({ cls := "SprayedLettersModel", name := "goes", desc := "(II)V" } : Jvm.MethodName) ∈ TB := tb_at 58 (by decide +kernel) rfl
theorem mv_59 : Cond.selects "SprayedLettersModel" ({ cls := "SprayedLettersModel", name := "isBorn", desc := "(I)V" } : Jvm.MethodName) ({ cls := "SprayedLettersModel", name := "isBorn", desc := "(I)V" } : Jvm.MethodName) ∈ TB := tb_at 59 (by decide +kernel) rfl
theorem mv_60 : Cond.selects "SprayedLettersModel" ({ cls := "SprayedLettersModel", name := "makesRoom", desc := "(II)V" } : Jvm.MethodName) ({ cls := "SprayedLettersModel", name := "makesRoom", desc := "(II)V" } : Jvm.MethodName) ∈ TB := tb_at 60 (by decide +kernel) rfl
theorem mv_61 : Cond.selects "SprayedLettersModel" ({ cls := "SprayedLettersModel", name := "isAhead", desc := "(III)Z" } : Jvm.MethodName) ({ cls := "SprayedLettersModel", name := "isAhead", desc := "(III)Z" } : Jvm.MethodName) ∈ TB := tb_at 61 (by decide +kernel) rfl
theorem mv_62 : Cond.selects "SprayedLettersModel" ({ cls := "SprayedLettersModel", name := "sinceOf", desc := "(II)I" } : Jvm.MethodName) ({ cls := "SprayedLettersModel", name := "sinceOf", desc := "(II)I" } : Jvm.MethodName) ∈ TB := tb_at 62 (by decide +kernel) rfl
theorem mv_63 : Cond.selects "SprayedLettersModel" ({ cls := "SprayedLettersModel", name := "comes", desc := "(IIII)V" } : Jvm.MethodName) ({ cls := "SprayedLettersModel", name := "comes", desc := "(IIII)V" } : Jvm.MethodName) ∈ TB := tb_at 63 (by decide +kernel) rfl
theorem mv_64 : Cond.selects "SprayedLettersModel" ({ cls := "SprayedLettersModel", name := "meets", desc := "(III)V" } : Jvm.MethodName) ({ cls := "SprayedLettersModel", name := "meets", desc := "(III)V" } : Jvm.MethodName) ∈ TB := tb_at 64 (by decide +kernel) rfl
theorem mv_65 : Cond.selects "SprayedLettersModel" ({ cls := "SprayedLettersModel", name := "hasNote", desc := "(II)Z" } : Jvm.MethodName) ({ cls := "SprayedLettersModel", name := "hasNote", desc := "(II)Z" } : Jvm.MethodName) ∈ TB := tb_at 65 (by decide +kernel) rfl
theorem mv_66 : Cond.selects "SprayedLettersModel" ({ cls := "SprayedLettersModel", name := "notes", desc := "(II)V" } : Jvm.MethodName) ({ cls := "SprayedLettersModel", name := "notes", desc := "(II)V" } : Jvm.MethodName) ∈ TB := tb_at 66 (by decide +kernel) rfl
theorem mv_67 : Cond.selects "SprayedLettersModel" ({ cls := "SprayedLettersModel", name := "cures", desc := "(I)V" } : Jvm.MethodName) ({ cls := "SprayedLettersModel", name := "cures", desc := "(I)V" } : Jvm.MethodName) ∈ TB := tb_at 67 (by decide +kernel) rfl
theorem mv_68 : Cond.selects "SprayedLettersModel" ({ cls := "SprayedLettersModel", name := "handsAll", desc := "(II)V" } : Jvm.MethodName) ({ cls := "SprayedLettersModel", name := "handsAll", desc := "(II)V" } : Jvm.MethodName) ∈ TB := tb_at 68 (by decide +kernel) rfl
theorem mv_69 : Cond.selects "SprayedLettersModel" ({ cls := "SprayedLettersModel", name := "nextOf", desc := "(II)I" } : Jvm.MethodName) ({ cls := "SprayedLettersModel", name := "nextOf", desc := "(II)I" } : Jvm.MethodName) ∈ TB := tb_at 69 (by decide +kernel) rfl
theorem mv_70 : Cond.selects "SprayedLettersModel" ({ cls := "SprayedLettersModel", name := "hands", desc := "(III)V" } : Jvm.MethodName) ({ cls := "SprayedLettersModel", name := "hands", desc := "(III)V" } : Jvm.MethodName) ∈ TB := tb_at 70 (by decide +kernel) rfl
theorem mv_71 : Cond.selects "SprayedLettersModel" ({ cls := "SprayedLettersModel", name := "refuses", desc := "(IIII)V" } : Jvm.MethodName) ({ cls := "SprayedLettersModel", name := "refuses", desc := "(IIII)V" } : Jvm.MethodName) ∈ TB := tb_at 71 (by decide +kernel) rfl
theorem mv_72 : Cond.selects "SprayedLettersModel" ({ cls := "SprayedLettersModel", name := "got", desc := "()I" } : Jvm.MethodName) ({ cls := "SprayedLettersModel", name := "got", desc := "()I" } : Jvm.MethodName) ∈ TB := tb_at 72 (by decide +kernel) rfl
theorem mw_0 : (Jvm.Cond.initialized "SprayedLettersLaw") ∈ TB := tb_at 73 (by decide +kernel) rfl
theorem mw_1 : (Jvm.Cond.initialized "SprayedLetters") ∈ TB := tb_at 74 (by decide +kernel) rfl
theorem mw_2 : (Jvm.Cond.initialized "SprayedLetters$Tape") ∈ TB := tb_at 75 (by decide +kernel) rfl
theorem mw_3 : (Jvm.Cond.initialized "SprayedLetters$Reader") ∈ TB := tb_at 76 (by decide +kernel) rfl
theorem mw_4 : (Jvm.Cond.initialized "SprayedLetters$Plan") ∈ TB := tb_at 77 (by decide +kernel) rfl
theorem mw_5 : (Jvm.Cond.initialized "SprayedLetters$World") ∈ TB := tb_at 78 (by decide +kernel) rfl
theorem mw_6 : (Jvm.Cond.initialized "SprayedLetters$Post") ∈ TB := tb_at 79 (by decide +kernel) rfl
theorem mw_7 : (Jvm.Cond.initialized "SprayedLettersModel") ∈ TB := tb_at 80 (by decide +kernel) rfl
theorem mw_8 : (Jvm.Cond.initialized "java/lang/String") ∈ TB := tb_at 81 (by decide +kernel) rfl
theorem mw_9 : (Jvm.Cond.initialized "java/lang/StringLatin1") ∈ TB := tb_at 82 (by decide +kernel) rfl
theorem mw_10 : (Jvm.Cond.initialized "jdk/internal/util/Preconditions") ∈ TB := tb_at 83 (by decide +kernel) rfl
theorem mw_11 : (Jvm.Cond.initialized "java/lang/StringUTF16") ∈ TB := tb_at 84 (by decide +kernel) rfl
theorem mw_12 : (Jvm.Cond.initialized "java/lang/System") ∈ TB := tb_at 85 (by decide +kernel) rfl
theorem mw_13 : (Jvm.Cond.initialized "java/lang/Integer") ∈ TB := tb_at 86 (by decide +kernel) rfl
theorem mw_14 : (Jvm.Cond.initialized "java/lang/Math") ∈ TB := tb_at 87 (by decide +kernel) rfl
theorem mw_15 : (Jvm.Cond.classLink "SprayedLettersLaw" (7 : Nat) "SprayedLetters") ∈ TB := tb_at 88 (by decide +kernel) rfl
theorem mw_16 : (Jvm.Cond.instantiable "SprayedLetters" (6 : Nat)) ∈ TB := tb_at 89 (by decide +kernel) rfl
theorem mw_17 : (Jvm.Cond.methodLink "SprayedLettersLaw" (9 : Nat) ({ cls := "SprayedLetters", name := "<init>", desc := "()V" } : Jvm.MethodName)) ∈ TB := tb_at 90 (by decide +kernel) rfl
theorem mw_18 : (Jvm.Cond.instanceMethod ({ cls := "SprayedLetters", name := "<init>", desc := "()V" } : Jvm.MethodName)) ∈ TB := tb_at 91 (by decide +kernel) rfl
theorem mw_19 : (Jvm.Cond.code ({ cls := "SprayedLetters", name := "<init>", desc := "()V" } : Jvm.MethodName) prog_1_method_1_code (2 : Nat) (Option.none : Option Jvm.ClassFile.FieldType)) ∈ TB := tb_at 92 (by decide +kernel) rfl
theorem mw_20 : (Jvm.Cond.methodLink "SprayedLetters" (1 : Nat) ({ cls := "java/lang/Object", name := "<init>", desc := "()V" } : Jvm.MethodName)) ∈ TB := tb_at 93 (by decide +kernel) rfl
theorem mw_21 : (Jvm.Cond.instanceMethod ({ cls := "java/lang/Object", name := "<init>", desc := "()V" } : Jvm.MethodName)) ∈ TB := tb_at 94 (by decide +kernel) rfl
theorem mw_22 : (Jvm.Cond.code ({ cls := "java/lang/Object", name := "<init>", desc := "()V" } : Jvm.MethodName) object_method_1_code (1 : Nat) (Option.none : Option Jvm.ClassFile.FieldType)) ∈ TB := tb_at 95 (by decide +kernel) rfl
theorem mw_23 : (Jvm.Cond.classLink "SprayedLetters" (7 : Nat) "SprayedLetters$Tape") ∈ TB := tb_at 96 (by decide +kernel) rfl
theorem mw_24 : (Jvm.Cond.instantiable "SprayedLetters$Tape" (2 : Nat)) ∈ TB := tb_at 97 (by decide +kernel) rfl
theorem mw_26 : (Jvm.Cond.instanceMethod ({ cls := "SprayedLetters$Tape", name := "<init>", desc := "()V" } : Jvm.MethodName)) ∈ TB := tb_at 99 (by decide +kernel) rfl
theorem mw_27 : (Jvm.Cond.code ({ cls := "SprayedLetters$Tape", name := "<init>", desc := "()V" } : Jvm.MethodName) prog_5_method_1_code (1 : Nat) (Option.none : Option Jvm.ClassFile.FieldType)) ∈ TB := tb_at 100 (by decide +kernel) rfl
theorem mw_28 : (Jvm.Cond.methodLink "SprayedLetters$Tape" (3 : Nat) ({ cls := "java/lang/Object", name := "<init>", desc := "()V" } : Jvm.MethodName)) ∈ TB := tb_at 101 (by decide +kernel) rfl
theorem mw_29 : (Jvm.Cond.fieldLink "SprayedLetters$Tape" (9 : Nat) "SprayedLetters$Tape" "bytes" "[B") ∈ TB := tb_at 102 (by decide +kernel) rfl
theorem mw_30 : (Jvm.Cond.fieldLink "SprayedLetters" (53 : Nat) "SprayedLetters$Tape" "bytes" "[B") ∈ TB := tb_at 103 (by decide +kernel) rfl
theorem mw_31 : (Jvm.Cond.fieldLink "SprayedLetters$Reader" (141 : Nat) "SprayedLetters$Tape" "bytes" "[B") ∈ TB := tb_at 104 (by decide +kernel) rfl
theorem mw_32 : (Jvm.Cond.fieldLink "SprayedLetters" (49 : Nat) "SprayedLetters$Tape" "length" "I") ∈ TB := tb_at 105 (by decide +kernel) rfl
theorem mw_33 : (Jvm.Cond.fieldLink "SprayedLetters$Reader" (52 : Nat) "SprayedLetters$Tape" "length" "I") ∈ TB := tb_at 106 (by decide +kernel) rfl
theorem mw_34 : (Jvm.Cond.laysFinal "SprayedLetters$Tape" "SprayedLetters$Tape" "bytes" "[B") ∈ TB := tb_at 107 (by decide +kernel) rfl
theorem mw_36 : (Jvm.Cond.lays "SprayedLetters$Tape" "SprayedLetters$Tape" "length" "I") ∈ TB := tb_at 109 (by decide +kernel) rfl
theorem mw_39 : (Jvm.Cond.arrayClass Jvm.ClassFile.FieldType.byte) ∈ TB := tb_at 112 (by decide +kernel) rfl
theorem mw_40 : (Jvm.Cond.classLink "SprayedLetters" (16 : Nat) "SprayedLetters$Reader") ∈ TB := tb_at 113 (by decide +kernel) rfl
theorem mw_41 : (Jvm.Cond.instantiable "SprayedLetters$Reader" (8 : Nat)) ∈ TB := tb_at 114 (by decide +kernel) rfl
theorem mw_42 : (Jvm.Cond.methodLink "SprayedLetters" (18 : Nat) ({ cls := "SprayedLetters$Reader", name := "<init>", desc := "(LSprayedLetters$Tape;)V" } : Jvm.MethodName)) ∈ TB := tb_at 115 (by decide +kernel) rfl
theorem mw_43 : (Jvm.Cond.instanceMethod ({ cls := "SprayedLetters$Reader", name := "<init>", desc := "(LSprayedLetters$Tape;)V" } : Jvm.MethodName)) ∈ TB := tb_at 116 (by decide +kernel) rfl
theorem mw_44 : (Jvm.Cond.code ({ cls := "SprayedLetters$Reader", name := "<init>", desc := "(LSprayedLetters$Tape;)V" } : Jvm.MethodName) prog_4_method_1_code (2 : Nat) (Option.none : Option Jvm.ClassFile.FieldType)) ∈ TB := tb_at 117 (by decide +kernel) rfl
theorem mw_45 : (Jvm.Cond.methodLink "SprayedLetters$Reader" (3 : Nat) ({ cls := "java/lang/Object", name := "<init>", desc := "()V" } : Jvm.MethodName)) ∈ TB := tb_at 118 (by decide +kernel) rfl
theorem mw_46 : (Jvm.Cond.classLink "SprayedLetters$Reader" (9 : Nat) "SprayedLetters$Plan") ∈ TB := tb_at 119 (by decide +kernel) rfl
theorem mw_47 : (Jvm.Cond.instantiable "SprayedLetters$Plan" (6 : Nat)) ∈ TB := tb_at 120 (by decide +kernel) rfl
theorem mw_49 : (Jvm.Cond.instanceMethod ({ cls := "SprayedLetters$Plan", name := "<init>", desc := "()V" } : Jvm.MethodName)) ∈ TB := tb_at 122 (by decide +kernel) rfl
theorem mw_50 : (Jvm.Cond.code ({ cls := "SprayedLetters$Plan", name := "<init>", desc := "()V" } : Jvm.MethodName) prog_2_method_1_code (1 : Nat) (Option.none : Option Jvm.ClassFile.FieldType)) ∈ TB := tb_at 123 (by decide +kernel) rfl
theorem mw_51 : (Jvm.Cond.methodLink "SprayedLetters$Plan" (3 : Nat) ({ cls := "java/lang/Object", name := "<init>", desc := "()V" } : Jvm.MethodName)) ∈ TB := tb_at 124 (by decide +kernel) rfl
theorem mw_52 : (Jvm.Cond.fieldLink "SprayedLetters$Plan" (9 : Nat) "SprayedLetters$Plan" "rooms" "[I") ∈ TB := tb_at 125 (by decide +kernel) rfl
theorem mw_53 : (Jvm.Cond.fieldLink "SprayedLetters" (110 : Nat) "SprayedLetters$Plan" "rooms" "[I") ∈ TB := tb_at 126 (by decide +kernel) rfl
theorem mw_54 : (Jvm.Cond.fieldLink "SprayedLetters$Post" (157 : Nat) "SprayedLetters$Plan" "rooms" "[I") ∈ TB := tb_at 127 (by decide +kernel) rfl
theorem mw_55 : (Jvm.Cond.fieldLink "SprayedLetters$Plan" (15 : Nat) "SprayedLetters$Plan" "meetingRows" "[I") ∈ TB := tb_at 128 (by decide +kernel) rfl
theorem mw_56 : (Jvm.Cond.fieldLink "SprayedLetters$Plan" (18 : Nat) "SprayedLetters$Plan" "letterRows" "[I") ∈ TB := tb_at 129 (by decide +kernel) rfl
theorem mw_57 : (Jvm.Cond.fieldLink "SprayedLetters$Post" (175 : Nat) "SprayedLetters$Plan" "letterRows" "[I") ∈ TB := tb_at 130 (by decide +kernel) rfl
theorem mw_58 : (Jvm.Cond.fieldLink "SprayedLetters$Plan" (21 : Nat) "SprayedLetters$Plan" "nodes" "I") ∈ TB := tb_at 131 (by decide +kernel) rfl
theorem mw_59 : (Jvm.Cond.fieldLink "SprayedLetters$Post" (71 : Nat) "SprayedLetters$Plan" "nodes" "I") ∈ TB := tb_at 132 (by decide +kernel) rfl
theorem mw_60 : (Jvm.Cond.fieldLink "SprayedLetters$Reader" (89 : Nat) "SprayedLetters$Plan" "nodes" "I") ∈ TB := tb_at 133 (by decide +kernel) rfl
theorem mw_61 : (Jvm.Cond.fieldLink "SprayedLetters" (81 : Nat) "SprayedLetters$Plan" "nodes" "I") ∈ TB := tb_at 134 (by decide +kernel) rfl
theorem mw_62 : (Jvm.Cond.fieldLink "SprayedLetters$World" (87 : Nat) "SprayedLetters$Plan" "nodes" "I") ∈ TB := tb_at 135 (by decide +kernel) rfl
theorem mw_63 : (Jvm.Cond.fieldLink "SprayedLetters$Plan" (25 : Nat) "SprayedLetters$Plan" "meetings" "I") ∈ TB := tb_at 136 (by decide +kernel) rfl
theorem mw_64 : (Jvm.Cond.fieldLink "SprayedLetters$Post" (50 : Nat) "SprayedLetters$Plan" "meetings" "I") ∈ TB := tb_at 137 (by decide +kernel) rfl
theorem mw_65 : (Jvm.Cond.fieldLink "SprayedLetters$Reader" (92 : Nat) "SprayedLetters$Plan" "meetings" "I") ∈ TB := tb_at 138 (by decide +kernel) rfl
theorem mw_66 : (Jvm.Cond.fieldLink "SprayedLetters" (84 : Nat) "SprayedLetters$Plan" "meetings" "I") ∈ TB := tb_at 139 (by decide +kernel) rfl
theorem mw_67 : (Jvm.Cond.fieldLink "SprayedLetters$Plan" (28 : Nat) "SprayedLetters$Plan" "letters" "I") ∈ TB := tb_at 140 (by decide +kernel) rfl
theorem mw_68 : (Jvm.Cond.fieldLink "SprayedLetters$Post" (37 : Nat) "SprayedLetters$Plan" "letters" "I") ∈ TB := tb_at 141 (by decide +kernel) rfl
theorem mw_69 : (Jvm.Cond.fieldLink "SprayedLetters$Reader" (95 : Nat) "SprayedLetters$Plan" "letters" "I") ∈ TB := tb_at 142 (by decide +kernel) rfl
theorem mw_70 : (Jvm.Cond.fieldLink "SprayedLetters" (87 : Nat) "SprayedLetters$Plan" "letters" "I") ∈ TB := tb_at 143 (by decide +kernel) rfl
theorem mw_71 : (Jvm.Cond.fieldLink "SprayedLetters$World" (80 : Nat) "SprayedLetters$Plan" "letters" "I") ∈ TB := tb_at 144 (by decide +kernel) rfl
theorem mw_72 : (Jvm.Cond.laysFinal "SprayedLetters$Plan" "SprayedLetters$Plan" "rooms" "[I") ∈ TB := tb_at 145 (by decide +kernel) rfl
theorem mw_74 : (Jvm.Cond.laysFinal "SprayedLetters$Plan" "SprayedLetters$Plan" "meetingRows" "[I") ∈ TB := tb_at 147 (by decide +kernel) rfl
theorem mw_76 : (Jvm.Cond.laysFinal "SprayedLetters$Plan" "SprayedLetters$Plan" "letterRows" "[I") ∈ TB := tb_at 149 (by decide +kernel) rfl
theorem mw_78 : (Jvm.Cond.lays "SprayedLetters$Plan" "SprayedLetters$Plan" "nodes" "I") ∈ TB := tb_at 151 (by decide +kernel) rfl
theorem mw_80 : (Jvm.Cond.lays "SprayedLetters$Plan" "SprayedLetters$Plan" "meetings" "I") ∈ TB := tb_at 153 (by decide +kernel) rfl
theorem mw_82 : (Jvm.Cond.lays "SprayedLetters$Plan" "SprayedLetters$Plan" "letters" "I") ∈ TB := tb_at 155 (by decide +kernel) rfl
theorem mw_85 : (Jvm.Cond.arrayClass Jvm.ClassFile.FieldType.int) ∈ TB := tb_at 158 (by decide +kernel) rfl
theorem mw_86 : (Jvm.Cond.fieldLink "SprayedLetters$Reader" (12 : Nat) "SprayedLetters$Reader" "plan" "LSprayedLetters$Plan;") ∈ TB := tb_at 159 (by decide +kernel) rfl
theorem mw_87 : (Jvm.Cond.fieldLink "SprayedLetters" (71 : Nat) "SprayedLetters$Reader" "plan" "LSprayedLetters$Plan;") ∈ TB := tb_at 160 (by decide +kernel) rfl
theorem mw_88 : (Jvm.Cond.fieldLink "SprayedLetters$Reader" (33 : Nat) "SprayedLetters$Reader" "fault" "I") ∈ TB := tb_at 161 (by decide +kernel) rfl
theorem mw_89 : (Jvm.Cond.fieldLink "SprayedLetters" (61 : Nat) "SprayedLetters$Reader" "fault" "I") ∈ TB := tb_at 162 (by decide +kernel) rfl
theorem mw_90 : (Jvm.Cond.fieldLink "SprayedLetters$Reader" (36 : Nat) "SprayedLetters$Reader" "faultPlace" "I") ∈ TB := tb_at 163 (by decide +kernel) rfl
theorem mw_91 : (Jvm.Cond.fieldLink "SprayedLetters" (64 : Nat) "SprayedLetters$Reader" "faultPlace" "I") ∈ TB := tb_at 164 (by decide +kernel) rfl
theorem mw_92 : (Jvm.Cond.fieldLink "SprayedLetters$Reader" (22 : Nat) "SprayedLetters$Reader" "tape" "LSprayedLetters$Tape;") ∈ TB := tb_at 165 (by decide +kernel) rfl
theorem mw_93 : (Jvm.Cond.fieldLink "SprayedLetters$Reader" (18 : Nat) "SprayedLetters$Reader" "numbers" "[I") ∈ TB := tb_at 166 (by decide +kernel) rfl
theorem mw_94 : (Jvm.Cond.fieldLink "SprayedLetters$Reader" (29 : Nat) "SprayedLetters$Reader" "next" "I") ∈ TB := tb_at 167 (by decide +kernel) rfl
theorem mw_95 : (Jvm.Cond.fieldLink "SprayedLetters$Reader" (42 : Nat) "SprayedLetters$Reader" "kind" "I") ∈ TB := tb_at 168 (by decide +kernel) rfl
theorem mw_96 : (Jvm.Cond.fieldLink "SprayedLetters$Reader" (65 : Nat) "SprayedLetters$Reader" "start" "I") ∈ TB := tb_at 169 (by decide +kernel) rfl
theorem mw_97 : (Jvm.Cond.laysFinal "SprayedLetters$Reader" "SprayedLetters$Reader" "plan" "LSprayedLetters$Plan;") ∈ TB := tb_at 170 (by decide +kernel) rfl
theorem mw_99 : (Jvm.Cond.lays "SprayedLetters$Reader" "SprayedLetters$Reader" "fault" "I") ∈ TB := tb_at 172 (by decide +kernel) rfl
theorem mw_101 : (Jvm.Cond.lays "SprayedLetters$Reader" "SprayedLetters$Reader" "faultPlace" "I") ∈ TB := tb_at 174 (by decide +kernel) rfl
theorem mw_103 : (Jvm.Cond.laysFinal "SprayedLetters$Reader" "SprayedLetters$Reader" "tape" "LSprayedLetters$Tape;") ∈ TB := tb_at 176 (by decide +kernel) rfl
theorem mw_105 : (Jvm.Cond.laysFinal "SprayedLetters$Reader" "SprayedLetters$Reader" "numbers" "[I") ∈ TB := tb_at 178 (by decide +kernel) rfl
theorem mw_107 : (Jvm.Cond.lays "SprayedLetters$Reader" "SprayedLetters$Reader" "next" "I") ∈ TB := tb_at 180 (by decide +kernel) rfl
theorem mw_109 : (Jvm.Cond.lays "SprayedLetters$Reader" "SprayedLetters$Reader" "kind" "I") ∈ TB := tb_at 182 (by decide +kernel) rfl
theorem mw_111 : (Jvm.Cond.lays "SprayedLetters$Reader" "SprayedLetters$Reader" "start" "I") ∈ TB := tb_at 184 (by decide +kernel) rfl
theorem mw_114 : (Jvm.Cond.classLink "SprayedLetters" (25 : Nat) "SprayedLetters$World") ∈ TB := tb_at 187 (by decide +kernel) rfl
theorem mw_115 : (Jvm.Cond.instantiable "SprayedLetters$World" (12 : Nat)) ∈ TB := tb_at 188 (by decide +kernel) rfl
theorem mw_116 : (Jvm.Cond.methodLink "SprayedLetters" (27 : Nat) ({ cls := "SprayedLetters$World", name := "<init>", desc := "()V" } : Jvm.MethodName)) ∈ TB := tb_at 189 (by decide +kernel) rfl
theorem mw_117 : (Jvm.Cond.instanceMethod ({ cls := "SprayedLetters$World", name := "<init>", desc := "()V" } : Jvm.MethodName)) ∈ TB := tb_at 190 (by decide +kernel) rfl
theorem mw_118 : (Jvm.Cond.code ({ cls := "SprayedLetters$World", name := "<init>", desc := "()V" } : Jvm.MethodName) prog_6_method_1_code (1 : Nat) (Option.none : Option Jvm.ClassFile.FieldType)) ∈ TB := tb_at 191 (by decide +kernel) rfl
theorem mw_119 : (Jvm.Cond.methodLink "SprayedLetters$World" (3 : Nat) ({ cls := "java/lang/Object", name := "<init>", desc := "()V" } : Jvm.MethodName)) ∈ TB := tb_at 192 (by decide +kernel) rfl
theorem mw_120 : (Jvm.Cond.classLink "SprayedLetters$World" (9 : Nat) "SprayedLetters$Plan") ∈ TB := tb_at 193 (by decide +kernel) rfl
theorem mw_122 : (Jvm.Cond.methodLink "SprayedLetters$World" (49 : Nat) ({ cls := "SprayedLetters$World", name := "beginAnew", desc := "()V" } : Jvm.MethodName)) ∈ TB := tb_at 195 (by decide +kernel) rfl
theorem mw_123 : (Jvm.Cond.instanceMethod ({ cls := "SprayedLetters$World", name := "beginAnew", desc := "()V" } : Jvm.MethodName)) ∈ TB := tb_at 196 (by decide +kernel) rfl
theorem mw_124 : (Jvm.Cond.selects "SprayedLetters$World" ({ cls := "SprayedLetters$World", name := "beginAnew", desc := "()V" } : Jvm.MethodName) ({ cls := "SprayedLetters$World", name := "beginAnew", desc := "()V" } : Jvm.MethodName)) ∈ TB := tb_at 197 (by decide +kernel) rfl
theorem mw_125 : (Jvm.Cond.code ({ cls := "SprayedLetters$World", name := "beginAnew", desc := "()V" } : Jvm.MethodName) prog_6_method_3_code (1 : Nat) (Option.none : Option Jvm.ClassFile.FieldType)) ∈ TB := tb_at 198 (by decide +kernel) rfl
theorem mw_126 : (Jvm.Cond.methodLink "SprayedLetters$World" (56 : Nat) ({ cls := "SprayedLetters$World", name := "fill", desc := "([II)V" } : Jvm.MethodName)) ∈ TB := tb_at 199 (by decide +kernel) rfl
theorem mw_127 : (Jvm.Cond.static ({ cls := "SprayedLetters$World", name := "fill", desc := "([II)V" } : Jvm.MethodName)) ∈ TB := tb_at 200 (by decide +kernel) rfl
theorem mw_128 : (Jvm.Cond.code ({ cls := "SprayedLetters$World", name := "fill", desc := "([II)V" } : Jvm.MethodName) prog_6_method_4_code (3 : Nat) (Option.none : Option Jvm.ClassFile.FieldType)) ∈ TB := tb_at 201 (by decide +kernel) rfl
theorem mw_129 : (Jvm.Cond.fieldLink "SprayedLetters$World" (12 : Nat) "SprayedLetters$World" "plan" "LSprayedLetters$Plan;") ∈ TB := tb_at 202 (by decide +kernel) rfl
theorem mw_130 : (Jvm.Cond.fieldLink "SprayedLetters$Post" (23 : Nat) "SprayedLetters$World" "plan" "LSprayedLetters$Plan;") ∈ TB := tb_at 203 (by decide +kernel) rfl
theorem mw_131 : (Jvm.Cond.fieldLink "SprayedLetters" (67 : Nat) "SprayedLetters$World" "plan" "LSprayedLetters$Plan;") ∈ TB := tb_at 204 (by decide +kernel) rfl
theorem mw_132 : (Jvm.Cond.fieldLink "SprayedLetters$World" (18 : Nat) "SprayedLetters$World" "rules" "[I") ∈ TB := tb_at 205 (by decide +kernel) rfl
theorem mw_133 : (Jvm.Cond.fieldLink "SprayedLetters$Post" (53 : Nat) "SprayedLetters$World" "rules" "[I") ∈ TB := tb_at 206 (by decide +kernel) rfl
theorem mw_134 : (Jvm.Cond.fieldLink "SprayedLetters" (99 : Nat) "SprayedLetters$World" "rules" "[I") ∈ TB := tb_at 207 (by decide +kernel) rfl
theorem mw_135 : (Jvm.Cond.fieldLink "SprayedLetters$World" (22 : Nat) "SprayedLetters$World" "counts" "[I") ∈ TB := tb_at 208 (by decide +kernel) rfl
theorem mw_136 : (Jvm.Cond.fieldLink "SprayedLetters$Post" (82 : Nat) "SprayedLetters$World" "counts" "[I") ∈ TB := tb_at 209 (by decide +kernel) rfl
theorem mw_137 : (Jvm.Cond.fieldLink "SprayedLetters" (103 : Nat) "SprayedLetters$World" "counts" "[I") ∈ TB := tb_at 210 (by decide +kernel) rfl
theorem mw_138 : (Jvm.Cond.fieldLink "SprayedLetters$World" (25 : Nat) "SprayedLetters$World" "refused" "[I") ∈ TB := tb_at 211 (by decide +kernel) rfl
theorem mw_139 : (Jvm.Cond.fieldLink "SprayedLetters$Post" (145 : Nat) "SprayedLetters$World" "refused" "[I") ∈ TB := tb_at 212 (by decide +kernel) rfl
theorem mw_140 : (Jvm.Cond.fieldLink "SprayedLetters" (192 : Nat) "SprayedLetters$World" "refused" "[I") ∈ TB := tb_at 213 (by decide +kernel) rfl
theorem mw_141 : (Jvm.Cond.fieldLink "SprayedLetters$World" (28 : Nat) "SprayedLetters$World" "tokens" "[I") ∈ TB := tb_at 214 (by decide +kernel) rfl
theorem mw_142 : (Jvm.Cond.fieldLink "SprayedLetters$Post" (133 : Nat) "SprayedLetters$World" "tokens" "[I") ∈ TB := tb_at 215 (by decide +kernel) rfl
theorem mw_143 : (Jvm.Cond.fieldLink "SprayedLetters" (166 : Nat) "SprayedLetters$World" "tokens" "[I") ∈ TB := tb_at 216 (by decide +kernel) rfl
theorem mw_144 : (Jvm.Cond.fieldLink "SprayedLetters$World" (31 : Nat) "SprayedLetters$World" "hops" "[I") ∈ TB := tb_at 217 (by decide +kernel) rfl
theorem mw_145 : (Jvm.Cond.fieldLink "SprayedLetters$Post" (136 : Nat) "SprayedLetters$World" "hops" "[I") ∈ TB := tb_at 218 (by decide +kernel) rfl
theorem mw_146 : (Jvm.Cond.fieldLink "SprayedLetters" (169 : Nat) "SprayedLetters$World" "hops" "[I") ∈ TB := tb_at 219 (by decide +kernel) rfl
theorem mw_147 : (Jvm.Cond.fieldLink "SprayedLetters$World" (34 : Nat) "SprayedLetters$World" "since" "[I") ∈ TB := tb_at 220 (by decide +kernel) rfl
theorem mw_148 : (Jvm.Cond.fieldLink "SprayedLetters" (172 : Nat) "SprayedLetters$World" "since" "[I") ∈ TB := tb_at 221 (by decide +kernel) rfl
theorem mw_149 : (Jvm.Cond.fieldLink "SprayedLetters$Post" (172 : Nat) "SprayedLetters$World" "since" "[I") ∈ TB := tb_at 222 (by decide +kernel) rfl
theorem mw_150 : (Jvm.Cond.fieldLink "SprayedLetters$World" (37 : Nat) "SprayedLetters$World" "notes" "[I") ∈ TB := tb_at 223 (by decide +kernel) rfl
theorem mw_151 : (Jvm.Cond.fieldLink "SprayedLetters$Post" (102 : Nat) "SprayedLetters$World" "notes" "[I") ∈ TB := tb_at 224 (by decide +kernel) rfl
theorem mw_152 : (Jvm.Cond.fieldLink "SprayedLetters" (120 : Nat) "SprayedLetters$World" "notes" "[I") ∈ TB := tb_at 225 (by decide +kernel) rfl
theorem mw_153 : (Jvm.Cond.fieldLink "SprayedLetters$World" (40 : Nat) "SprayedLetters$World" "lasts" "[I") ∈ TB := tb_at 226 (by decide +kernel) rfl
theorem mw_154 : (Jvm.Cond.fieldLink "SprayedLetters$World" (43 : Nat) "SprayedLetters$World" "deliveredAt" "[I") ∈ TB := tb_at 227 (by decide +kernel) rfl
theorem mw_155 : (Jvm.Cond.fieldLink "SprayedLetters$Post" (139 : Nat) "SprayedLetters$World" "deliveredAt" "[I") ∈ TB := tb_at 228 (by decide +kernel) rfl
theorem mw_156 : (Jvm.Cond.fieldLink "SprayedLetters" (145 : Nat) "SprayedLetters$World" "deliveredAt" "[I") ∈ TB := tb_at 229 (by decide +kernel) rfl
theorem mw_157 : (Jvm.Cond.fieldLink "SprayedLetters$World" (46 : Nat) "SprayedLetters$World" "deliveredHops" "[I") ∈ TB := tb_at 230 (by decide +kernel) rfl
theorem mw_158 : (Jvm.Cond.fieldLink "SprayedLetters$Post" (142 : Nat) "SprayedLetters$World" "deliveredHops" "[I") ∈ TB := tb_at 231 (by decide +kernel) rfl
theorem mw_159 : (Jvm.Cond.fieldLink "SprayedLetters" (148 : Nat) "SprayedLetters$World" "deliveredHops" "[I") ∈ TB := tb_at 232 (by decide +kernel) rfl
theorem mw_160 : (Jvm.Cond.fieldLink "SprayedLetters$Post" (30 : Nat) "SprayedLetters$World" "clock" "I") ∈ TB := tb_at 233 (by decide +kernel) rfl
theorem mw_161 : (Jvm.Cond.fieldLink "SprayedLetters$World" (52 : Nat) "SprayedLetters$World" "clock" "I") ∈ TB := tb_at 234 (by decide +kernel) rfl
theorem mw_162 : (Jvm.Cond.fieldLink "SprayedLetters" (90 : Nat) "SprayedLetters$World" "clock" "I") ∈ TB := tb_at 235 (by decide +kernel) rfl
theorem mw_163 : (Jvm.Cond.laysFinal "SprayedLetters$World" "SprayedLetters$World" "plan" "LSprayedLetters$Plan;") ∈ TB := tb_at 236 (by decide +kernel) rfl
theorem mw_165 : (Jvm.Cond.laysFinal "SprayedLetters$World" "SprayedLetters$World" "rules" "[I") ∈ TB := tb_at 238 (by decide +kernel) rfl
theorem mw_167 : (Jvm.Cond.laysFinal "SprayedLetters$World" "SprayedLetters$World" "counts" "[I") ∈ TB := tb_at 240 (by decide +kernel) rfl
theorem mw_169 : (Jvm.Cond.laysFinal "SprayedLetters$World" "SprayedLetters$World" "refused" "[I") ∈ TB := tb_at 242 (by decide +kernel) rfl
theorem mw_171 : (Jvm.Cond.laysFinal "SprayedLetters$World" "SprayedLetters$World" "tokens" "[I") ∈ TB := tb_at 244 (by decide +kernel) rfl
theorem mw_173 : (Jvm.Cond.laysFinal "SprayedLetters$World" "SprayedLetters$World" "hops" "[I") ∈ TB := tb_at 246 (by decide +kernel) rfl
theorem mw_175 : (Jvm.Cond.laysFinal "SprayedLetters$World" "SprayedLetters$World" "since" "[I") ∈ TB := tb_at 248 (by decide +kernel) rfl
theorem mw_177 : (Jvm.Cond.laysFinal "SprayedLetters$World" "SprayedLetters$World" "notes" "[I") ∈ TB := tb_at 250 (by decide +kernel) rfl
theorem mw_179 : (Jvm.Cond.laysFinal "SprayedLetters$World" "SprayedLetters$World" "lasts" "[I") ∈ TB := tb_at 252 (by decide +kernel) rfl
theorem mw_181 : (Jvm.Cond.laysFinal "SprayedLetters$World" "SprayedLetters$World" "deliveredAt" "[I") ∈ TB := tb_at 254 (by decide +kernel) rfl
theorem mw_183 : (Jvm.Cond.laysFinal "SprayedLetters$World" "SprayedLetters$World" "deliveredHops" "[I") ∈ TB := tb_at 256 (by decide +kernel) rfl
theorem mw_185 : (Jvm.Cond.lays "SprayedLetters$World" "SprayedLetters$World" "clock" "I") ∈ TB := tb_at 258 (by decide +kernel) rfl
theorem mw_188 : (Jvm.Cond.classLink "SprayedLetters" (32 : Nat) "SprayedLetters$Post") ∈ TB := tb_at 261 (by decide +kernel) rfl
theorem mw_189 : (Jvm.Cond.instantiable "SprayedLetters$Post" (6 : Nat)) ∈ TB := tb_at 262 (by decide +kernel) rfl
theorem mw_190 : (Jvm.Cond.methodLink "SprayedLetters" (34 : Nat) ({ cls := "SprayedLetters$Post", name := "<init>", desc := "(LSprayedLetters$World;)V" } : Jvm.MethodName)) ∈ TB := tb_at 263 (by decide +kernel) rfl
theorem mw_191 : (Jvm.Cond.instanceMethod ({ cls := "SprayedLetters$Post", name := "<init>", desc := "(LSprayedLetters$World;)V" } : Jvm.MethodName)) ∈ TB := tb_at 264 (by decide +kernel) rfl
theorem mw_192 : (Jvm.Cond.code ({ cls := "SprayedLetters$Post", name := "<init>", desc := "(LSprayedLetters$World;)V" } : Jvm.MethodName) prog_3_method_1_code (2 : Nat) (Option.none : Option Jvm.ClassFile.FieldType)) ∈ TB := tb_at 265 (by decide +kernel) rfl
theorem mw_193 : (Jvm.Cond.methodLink "SprayedLetters$Post" (3 : Nat) ({ cls := "java/lang/Object", name := "<init>", desc := "()V" } : Jvm.MethodName)) ∈ TB := tb_at 266 (by decide +kernel) rfl
theorem mw_194 : (Jvm.Cond.fieldLink "SprayedLetters$Post" (19 : Nat) "SprayedLetters$Post" "world" "LSprayedLetters$World;") ∈ TB := tb_at 267 (by decide +kernel) rfl
theorem mw_195 : (Jvm.Cond.fieldLink "SprayedLetters$Post" (29 : Nat) "SprayedLetters$Post" "plan" "LSprayedLetters$Plan;") ∈ TB := tb_at 268 (by decide +kernel) rfl
theorem mw_196 : (Jvm.Cond.fieldLink "SprayedLetters$Post" (9 : Nat) "SprayedLetters$Post" "order" "[I") ∈ TB := tb_at 269 (by decide +kernel) rfl
theorem mw_197 : (Jvm.Cond.fieldLink "SprayedLetters$Post" (15 : Nat) "SprayedLetters$Post" "reached" "[Z") ∈ TB := tb_at 270 (by decide +kernel) rfl
theorem mw_198 : (Jvm.Cond.fieldLink "SprayedLetters$Post" (95 : Nat) "SprayedLetters$Post" "left" "I") ∈ TB := tb_at 271 (by decide +kernel) rfl
theorem mw_199 : (Jvm.Cond.fieldLink "SprayedLetters$Post" (98 : Nat) "SprayedLetters$Post" "refusedOne" "Z") ∈ TB := tb_at 272 (by decide +kernel) rfl
theorem mw_200 : (Jvm.Cond.laysFinal "SprayedLetters$Post" "SprayedLetters$Post" "world" "LSprayedLetters$World;") ∈ TB := tb_at 273 (by decide +kernel) rfl
theorem mw_202 : (Jvm.Cond.laysFinal "SprayedLetters$Post" "SprayedLetters$Post" "plan" "LSprayedLetters$Plan;") ∈ TB := tb_at 275 (by decide +kernel) rfl
theorem mw_204 : (Jvm.Cond.laysFinal "SprayedLetters$Post" "SprayedLetters$Post" "order" "[I") ∈ TB := tb_at 277 (by decide +kernel) rfl
theorem mw_206 : (Jvm.Cond.laysFinal "SprayedLetters$Post" "SprayedLetters$Post" "reached" "[Z") ∈ TB := tb_at 279 (by decide +kernel) rfl
theorem mw_208 : (Jvm.Cond.lays "SprayedLetters$Post" "SprayedLetters$Post" "left" "I") ∈ TB := tb_at 281 (by decide +kernel) rfl
theorem mw_210 : (Jvm.Cond.lays "SprayedLetters$Post" "SprayedLetters$Post" "refusedOne" "Z") ∈ TB := tb_at 283 (by decide +kernel) rfl
theorem mw_213 : (Jvm.Cond.arrayClass Jvm.ClassFile.FieldType.boolean) ∈ TB := tb_at 286 (by decide +kernel) rfl
theorem mw_215 : (Jvm.Cond.fieldLink "SprayedLetters" (10 : Nat) "SprayedLetters" "tape" "LSprayedLetters$Tape;") ∈ TB := tb_at 288 (by decide +kernel) rfl
theorem mw_216 : (Jvm.Cond.fieldLink "SprayedLetters" (21 : Nat) "SprayedLetters" "reader" "LSprayedLetters$Reader;") ∈ TB := tb_at 289 (by decide +kernel) rfl
theorem mw_217 : (Jvm.Cond.fieldLink "SprayedLetters" (28 : Nat) "SprayedLetters" "now" "LSprayedLetters$World;") ∈ TB := tb_at 290 (by decide +kernel) rfl
theorem mw_218 : (Jvm.Cond.fieldLink "SprayedLetters" (37 : Nat) "SprayedLetters" "post" "LSprayedLetters$Post;") ∈ TB := tb_at 291 (by decide +kernel) rfl
theorem mw_219 : (Jvm.Cond.fieldLink "SprayedLetters" (41 : Nat) "SprayedLetters" "images" "[LSprayedLetters$World;") ∈ TB := tb_at 292 (by decide +kernel) rfl
theorem mw_220 : (Jvm.Cond.fieldLink "SprayedLetters" (45 : Nat) "SprayedLetters" "kept" "[Z") ∈ TB := tb_at 293 (by decide +kernel) rfl
theorem mw_221 : (Jvm.Cond.laysFinal "SprayedLetters" "SprayedLetters" "tape" "LSprayedLetters$Tape;") ∈ TB := tb_at 294 (by decide +kernel) rfl
theorem mw_223 : (Jvm.Cond.laysFinal "SprayedLetters" "SprayedLetters" "reader" "LSprayedLetters$Reader;") ∈ TB := tb_at 296 (by decide +kernel) rfl
theorem mw_225 : (Jvm.Cond.laysFinal "SprayedLetters" "SprayedLetters" "now" "LSprayedLetters$World;") ∈ TB := tb_at 298 (by decide +kernel) rfl
theorem mw_227 : (Jvm.Cond.laysFinal "SprayedLetters" "SprayedLetters" "post" "LSprayedLetters$Post;") ∈ TB := tb_at 300 (by decide +kernel) rfl
theorem mw_229 : (Jvm.Cond.laysFinal "SprayedLetters" "SprayedLetters" "images" "[LSprayedLetters$World;") ∈ TB := tb_at 302 (by decide +kernel) rfl
theorem mw_231 : (Jvm.Cond.laysFinal "SprayedLetters" "SprayedLetters" "kept" "[Z") ∈ TB := tb_at 304 (by decide +kernel) rfl
theorem mw_234 : (Jvm.Cond.methodLink "SprayedLettersLaw" (13 : Nat) ({ cls := "SprayedLetters", name := "feed", desc := "(I)I" } : Jvm.MethodName)) ∈ TB := tb_at 307 (by decide +kernel) rfl
theorem mw_235 : (Jvm.Cond.instanceMethod ({ cls := "SprayedLetters", name := "feed", desc := "(I)I" } : Jvm.MethodName)) ∈ TB := tb_at 308 (by decide +kernel) rfl
theorem mw_236 : (Jvm.Cond.selects "SprayedLetters" ({ cls := "SprayedLetters", name := "feed", desc := "(I)I" } : Jvm.MethodName) ({ cls := "SprayedLetters", name := "feed", desc := "(I)I" } : Jvm.MethodName)) ∈ TB := tb_at 309 (by decide +kernel) rfl
theorem mw_237 : (Jvm.Cond.code ({ cls := "SprayedLetters", name := "feed", desc := "(I)I" } : Jvm.MethodName) prog_1_method_2_code (2 : Nat) (Option.some Jvm.ClassFile.FieldType.int)) ∈ TB := tb_at 310 (by decide +kernel) rfl
theorem mw_238 : (Jvm.Cond.methodLink "SprayedLettersLaw" (18 : Nat) ({ cls := "SprayedLetters", name := "end", desc := "(I)I" } : Jvm.MethodName)) ∈ TB := tb_at 311 (by decide +kernel) rfl
theorem mw_239 : (Jvm.Cond.instanceMethod ({ cls := "SprayedLetters", name := "end", desc := "(I)I" } : Jvm.MethodName)) ∈ TB := tb_at 312 (by decide +kernel) rfl
theorem mw_240 : (Jvm.Cond.selects "SprayedLetters" ({ cls := "SprayedLetters", name := "end", desc := "(I)I" } : Jvm.MethodName) ({ cls := "SprayedLetters", name := "end", desc := "(I)I" } : Jvm.MethodName)) ∈ TB := tb_at 313 (by decide +kernel) rfl
theorem mw_241 : (Jvm.Cond.code ({ cls := "SprayedLetters", name := "end", desc := "(I)I" } : Jvm.MethodName) prog_1_method_3_code (3 : Nat) (Option.some Jvm.ClassFile.FieldType.int)) ∈ TB := tb_at 314 (by decide +kernel) rfl
theorem mw_242 : (Jvm.Cond.methodLink "SprayedLettersLaw" (22 : Nat) ({ cls := "SprayedLetters", name := "text", desc := "()I" } : Jvm.MethodName)) ∈ TB := tb_at 315 (by decide +kernel) rfl
theorem mw_243 : (Jvm.Cond.instanceMethod ({ cls := "SprayedLetters", name := "text", desc := "()I" } : Jvm.MethodName)) ∈ TB := tb_at 316 (by decide +kernel) rfl
theorem mw_244 : (Jvm.Cond.selects "SprayedLetters" ({ cls := "SprayedLetters", name := "text", desc := "()I" } : Jvm.MethodName) ({ cls := "SprayedLetters", name := "text", desc := "()I" } : Jvm.MethodName)) ∈ TB := tb_at 317 (by decide +kernel) rfl
theorem mw_245 : (Jvm.Cond.code ({ cls := "SprayedLetters", name := "text", desc := "()I" } : Jvm.MethodName) prog_1_method_4_code (3 : Nat) (Option.some Jvm.ClassFile.FieldType.int)) ∈ TB := tb_at 318 (by decide +kernel) rfl
theorem mw_246 : (Jvm.Cond.methodLink "SprayedLetters" (57 : Nat) ({ cls := "SprayedLetters$Reader", name := "readAll", desc := "()I" } : Jvm.MethodName)) ∈ TB := tb_at 319 (by decide +kernel) rfl
theorem mw_247 : (Jvm.Cond.instanceMethod ({ cls := "SprayedLetters$Reader", name := "readAll", desc := "()I" } : Jvm.MethodName)) ∈ TB := tb_at 320 (by decide +kernel) rfl
theorem mw_248 : (Jvm.Cond.selects "SprayedLetters$Reader" ({ cls := "SprayedLetters$Reader", name := "readAll", desc := "()I" } : Jvm.MethodName) ({ cls := "SprayedLetters$Reader", name := "readAll", desc := "()I" } : Jvm.MethodName)) ∈ TB := tb_at 321 (by decide +kernel) rfl
theorem mw_249 : (Jvm.Cond.code ({ cls := "SprayedLetters$Reader", name := "readAll", desc := "()I" } : Jvm.MethodName) prog_4_method_2_code (3 : Nat) (Option.some Jvm.ClassFile.FieldType.int)) ∈ TB := tb_at 322 (by decide +kernel) rfl
theorem mw_250 : (Jvm.Cond.methodLink "SprayedLetters$Reader" (26 : Nat) ({ cls := "SprayedLetters$Plan", name := "clear", desc := "()V" } : Jvm.MethodName)) ∈ TB := tb_at 323 (by decide +kernel) rfl
theorem mw_251 : (Jvm.Cond.instanceMethod ({ cls := "SprayedLetters$Plan", name := "clear", desc := "()V" } : Jvm.MethodName)) ∈ TB := tb_at 324 (by decide +kernel) rfl
theorem mw_252 : (Jvm.Cond.selects "SprayedLetters$Plan" ({ cls := "SprayedLetters$Plan", name := "clear", desc := "()V" } : Jvm.MethodName) ({ cls := "SprayedLetters$Plan", name := "clear", desc := "()V" } : Jvm.MethodName)) ∈ TB := tb_at 325 (by decide +kernel) rfl
theorem mw_253 : (Jvm.Cond.code ({ cls := "SprayedLetters$Plan", name := "clear", desc := "()V" } : Jvm.MethodName) prog_2_method_2_code (1 : Nat) (Option.none : Option Jvm.ClassFile.FieldType)) ∈ TB := tb_at 326 (by decide +kernel) rfl
theorem mw_254 : (Jvm.Cond.methodLink "SprayedLetters$Reader" (39 : Nat) ({ cls := "SprayedLetters$Reader", name := "readToken", desc := "()V" } : Jvm.MethodName)) ∈ TB := tb_at 327 (by decide +kernel) rfl
theorem mw_256 : (Jvm.Cond.instanceMethod ({ cls := "SprayedLetters$Reader", name := "readToken", desc := "()V" } : Jvm.MethodName)) ∈ TB := tb_at 329 (by decide +kernel) rfl
theorem mw_257 : (Jvm.Cond.code ({ cls := "SprayedLetters$Reader", name := "readToken", desc := "()V" } : Jvm.MethodName) prog_4_method_9_code (1 : Nat) (Option.none : Option Jvm.ClassFile.FieldType)) ∈ TB := tb_at 330 (by decide +kernel) rfl
theorem mw_258 : (Jvm.Cond.methodLink "SprayedLetters$Reader" (134 : Nat) ({ cls := "SprayedLetters$Reader", name := "byteAt", desc := "(I)I" } : Jvm.MethodName)) ∈ TB := tb_at 331 (by decide +kernel) rfl
theorem mw_260 : (Jvm.Cond.instanceMethod ({ cls := "SprayedLetters$Reader", name := "byteAt", desc := "(I)I" } : Jvm.MethodName)) ∈ TB := tb_at 333 (by decide +kernel) rfl
theorem mw_261 : (Jvm.Cond.code ({ cls := "SprayedLetters$Reader", name := "byteAt", desc := "(I)I" } : Jvm.MethodName) prog_4_method_11_code (2 : Nat) (Option.some Jvm.ClassFile.FieldType.int)) ∈ TB := tb_at 334 (by decide +kernel) rfl
theorem mw_262 : (Jvm.Cond.methodLink "SprayedLetters$Reader" (138 : Nat) ({ cls := "SprayedLetters$Reader", name := "kindOf", desc := "(I)I" } : Jvm.MethodName)) ∈ TB := tb_at 335 (by decide +kernel) rfl
theorem mw_263 : (Jvm.Cond.static ({ cls := "SprayedLetters$Reader", name := "kindOf", desc := "(I)I" } : Jvm.MethodName)) ∈ TB := tb_at 336 (by decide +kernel) rfl
theorem mw_264 : (Jvm.Cond.code ({ cls := "SprayedLetters$Reader", name := "kindOf", desc := "(I)I" } : Jvm.MethodName) prog_4_method_10_code (1 : Nat) (Option.some Jvm.ClassFile.FieldType.int)) ∈ TB := tb_at 337 (by decide +kernel) rfl
theorem mw_265 : (Jvm.Cond.methodLink "SprayedLetters$Reader" (57 : Nat) ({ cls := "SprayedLetters$Reader", name := "refuse", desc := "(II)V" } : Jvm.MethodName)) ∈ TB := tb_at 338 (by decide +kernel) rfl
theorem mw_267 : (Jvm.Cond.instanceMethod ({ cls := "SprayedLetters$Reader", name := "refuse", desc := "(II)V" } : Jvm.MethodName)) ∈ TB := tb_at 340 (by decide +kernel) rfl
theorem mw_268 : (Jvm.Cond.code ({ cls := "SprayedLetters$Reader", name := "refuse", desc := "(II)V" } : Jvm.MethodName) prog_4_method_14_code (3 : Nat) (Option.none : Option Jvm.ClassFile.FieldType)) ∈ TB := tb_at 341 (by decide +kernel) rfl
theorem mw_269 : (Jvm.Cond.methodLink "SprayedLetters$Reader" (45 : Nat) ({ cls := "SprayedLetters$Reader", name := "readLine", desc := "()V" } : Jvm.MethodName)) ∈ TB := tb_at 342 (by decide +kernel) rfl
theorem mw_271 : (Jvm.Cond.instanceMethod ({ cls := "SprayedLetters$Reader", name := "readLine", desc := "()V" } : Jvm.MethodName)) ∈ TB := tb_at 344 (by decide +kernel) rfl
theorem mw_272 : (Jvm.Cond.code ({ cls := "SprayedLetters$Reader", name := "readLine", desc := "()V" } : Jvm.MethodName) prog_4_method_3_code (2 : Nat) (Option.none : Option Jvm.ClassFile.FieldType)) ∈ TB := tb_at 345 (by decide +kernel) rfl
theorem mw_273 : (Jvm.Cond.methodLink "SprayedLetters$Reader" (61 : Nat) ({ cls := "SprayedLetters$Reader", name := "lineBegun", desc := "()I" } : Jvm.MethodName)) ∈ TB := tb_at 346 (by decide +kernel) rfl
theorem mw_275 : (Jvm.Cond.instanceMethod ({ cls := "SprayedLetters$Reader", name := "lineBegun", desc := "()I" } : Jvm.MethodName)) ∈ TB := tb_at 348 (by decide +kernel) rfl
theorem mw_276 : (Jvm.Cond.code ({ cls := "SprayedLetters$Reader", name := "lineBegun", desc := "()I" } : Jvm.MethodName) prog_4_method_4_code (1 : Nat) (Option.some Jvm.ClassFile.FieldType.int)) ∈ TB := tb_at 349 (by decide +kernel) rfl
theorem mw_278 : (Jvm.Cond.methodLink "SprayedLetters$Reader" (81 : Nat) ({ cls := "SprayedLetters$Reader", name := "isWord", desc := "(Ljava/lang/String;)Z" } : Jvm.MethodName)) ∈ TB := tb_at 351 (by decide +kernel) rfl
theorem mw_280 : (Jvm.Cond.instanceMethod ({ cls := "SprayedLetters$Reader", name := "isWord", desc := "(Ljava/lang/String;)Z" } : Jvm.MethodName)) ∈ TB := tb_at 353 (by decide +kernel) rfl
theorem mw_281 : (Jvm.Cond.code ({ cls := "SprayedLetters$Reader", name := "isWord", desc := "(Ljava/lang/String;)Z" } : Jvm.MethodName) prog_4_method_12_code (3 : Nat) (Option.some Jvm.ClassFile.FieldType.boolean)) ∈ TB := tb_at 354 (by decide +kernel) rfl
theorem mw_282 : (Jvm.Cond.methodLink "SprayedLetters$Reader" (145 : Nat) ({ cls := "java/lang/String", name := "length", desc := "()I" } : Jvm.MethodName)) ∈ TB := tb_at 355 (by decide +kernel) rfl
theorem mw_283 : (Jvm.Cond.instanceMethod ({ cls := "java/lang/String", name := "length", desc := "()I" } : Jvm.MethodName)) ∈ TB := tb_at 356 (by decide +kernel) rfl
theorem mw_284 : (Jvm.Cond.selects "java/lang/String" ({ cls := "java/lang/String", name := "length", desc := "()I" } : Jvm.MethodName) ({ cls := "java/lang/String", name := "length", desc := "()I" } : Jvm.MethodName)) ∈ TB := tb_at 357 (by decide +kernel) rfl
theorem mw_285 : (Jvm.Cond.code ({ cls := "java/lang/String", name := "length", desc := "()I" } : Jvm.MethodName) prog_11_method_54_code (1 : Nat) (Option.some Jvm.ClassFile.FieldType.int)) ∈ TB := tb_at 358 (by decide +kernel) rfl
theorem mw_286 : (Jvm.Cond.methodLink "java/lang/String" (335 : Nat) ({ cls := "java/lang/String", name := "coder", desc := "()B" } : Jvm.MethodName)) ∈ TB := tb_at 359 (by decide +kernel) rfl
theorem mw_287 : (Jvm.Cond.instanceMethod ({ cls := "java/lang/String", name := "coder", desc := "()B" } : Jvm.MethodName)) ∈ TB := tb_at 360 (by decide +kernel) rfl
theorem mw_288 : (Jvm.Cond.selects "java/lang/String" ({ cls := "java/lang/String", name := "coder", desc := "()B" } : Jvm.MethodName) ({ cls := "java/lang/String", name := "coder", desc := "()B" } : Jvm.MethodName)) ∈ TB := tb_at 361 (by decide +kernel) rfl
theorem mw_289 : (Jvm.Cond.code ({ cls := "java/lang/String", name := "coder", desc := "()B" } : Jvm.MethodName) prog_11_method_152_code (1 : Nat) (Option.some Jvm.ClassFile.FieldType.byte)) ∈ TB := tb_at 362 (by decide +kernel) rfl
theorem mw_290 : (Jvm.Cond.fieldLink "java/lang/String" (38 : Nat) "java/lang/String" "COMPACT_STRINGS" "Z") ∈ TB := tb_at 363 (by decide +kernel) rfl
theorem mw_292 : (Jvm.Cond.methodLink "SprayedLetters$Reader" (149 : Nat) ({ cls := "java/lang/String", name := "charAt", desc := "(I)C" } : Jvm.MethodName)) ∈ TB := tb_at 365 (by decide +kernel) rfl
theorem mw_293 : (Jvm.Cond.instanceMethod ({ cls := "java/lang/String", name := "charAt", desc := "(I)C" } : Jvm.MethodName)) ∈ TB := tb_at 366 (by decide +kernel) rfl
theorem mw_294 : (Jvm.Cond.selects "java/lang/String" ({ cls := "java/lang/String", name := "charAt", desc := "(I)C" } : Jvm.MethodName) ({ cls := "java/lang/String", name := "charAt", desc := "(I)C" } : Jvm.MethodName)) ∈ TB := tb_at 367 (by decide +kernel) rfl
theorem mw_295 : (Jvm.Cond.code ({ cls := "java/lang/String", name := "charAt", desc := "(I)C" } : Jvm.MethodName) prog_11_method_56_code (2 : Nat) (Option.some Jvm.ClassFile.FieldType.char)) ∈ TB := tb_at 368 (by decide +kernel) rfl
theorem mw_296 : (Jvm.Cond.methodLink "java/lang/String" (492 : Nat) ({ cls := "java/lang/String", name := "isLatin1", desc := "()Z" } : Jvm.MethodName)) ∈ TB := tb_at 369 (by decide +kernel) rfl
theorem mw_297 : (Jvm.Cond.instanceMethod ({ cls := "java/lang/String", name := "isLatin1", desc := "()Z" } : Jvm.MethodName)) ∈ TB := tb_at 370 (by decide +kernel) rfl
theorem mw_298 : (Jvm.Cond.selects "java/lang/String" ({ cls := "java/lang/String", name := "isLatin1", desc := "()Z" } : Jvm.MethodName) ({ cls := "java/lang/String", name := "isLatin1", desc := "()Z" } : Jvm.MethodName)) ∈ TB := tb_at 371 (by decide +kernel) rfl
theorem mw_299 : (Jvm.Cond.code ({ cls := "java/lang/String", name := "isLatin1", desc := "()Z" } : Jvm.MethodName) prog_11_method_154_code (1 : Nat) (Option.some Jvm.ClassFile.FieldType.boolean)) ∈ TB := tb_at 372 (by decide +kernel) rfl
theorem mw_300 : (Jvm.Cond.methodLink "java/lang/String" (495 : Nat) ({ cls := "java/lang/StringLatin1", name := "charAt", desc := "([BI)C" } : Jvm.MethodName)) ∈ TB := tb_at 373 (by decide +kernel) rfl
theorem mw_301 : (Jvm.Cond.static ({ cls := "java/lang/StringLatin1", name := "charAt", desc := "([BI)C" } : Jvm.MethodName)) ∈ TB := tb_at 374 (by decide +kernel) rfl
theorem mw_302 : (Jvm.Cond.code ({ cls := "java/lang/StringLatin1", name := "charAt", desc := "([BI)C" } : Jvm.MethodName) prog_12_method_2_code (2 : Nat) (Option.some Jvm.ClassFile.FieldType.char)) ∈ TB := tb_at 375 (by decide +kernel) rfl
theorem mw_303 : (Jvm.Cond.methodLink "java/lang/StringLatin1" (9 : Nat) ({ cls := "java/lang/String", name := "checkIndex", desc := "(II)V" } : Jvm.MethodName)) ∈ TB := tb_at 376 (by decide +kernel) rfl
theorem mw_304 : (Jvm.Cond.static ({ cls := "java/lang/String", name := "checkIndex", desc := "(II)V" } : Jvm.MethodName)) ∈ TB := tb_at 377 (by decide +kernel) rfl
theorem mw_305 : (Jvm.Cond.code ({ cls := "java/lang/String", name := "checkIndex", desc := "(II)V" } : Jvm.MethodName) prog_11_method_155_code (2 : Nat) (Option.none : Option Jvm.ClassFile.FieldType)) ∈ TB := tb_at 378 (by decide +kernel) rfl
theorem mw_306 : (Jvm.Cond.fieldLink "java/lang/String" (1053 : Nat) "jdk/internal/util/Preconditions" "SIOOBE_FORMATTER" "Ljava/util/function/BiFunction;") ∈ TB := tb_at 379 (by decide +kernel) rfl
theorem mw_308 : (Jvm.Cond.methodLink "java/lang/String" (1059 : Nat) ({ cls := "jdk/internal/util/Preconditions", name := "checkIndex", desc := "(IILjava/util/function/BiFunction;)I" } : Jvm.MethodName)) ∈ TB := tb_at 381 (by decide +kernel) rfl
theorem mw_309 : (Jvm.Cond.static ({ cls := "jdk/internal/util/Preconditions", name := "checkIndex", desc := "(IILjava/util/function/BiFunction;)I" } : Jvm.MethodName)) ∈ TB := tb_at 382 (by decide +kernel) rfl
theorem mw_310 : (Jvm.Cond.code ({ cls := "jdk/internal/util/Preconditions", name := "checkIndex", desc := "(IILjava/util/function/BiFunction;)I" } : Jvm.MethodName) prog_15_method_11_code (3 : Nat) (Option.some Jvm.ClassFile.FieldType.int)) ∈ TB := tb_at 383 (by decide +kernel) rfl
theorem mw_311 : (Jvm.Cond.methodLink "java/lang/String" (498 : Nat) ({ cls := "java/lang/StringUTF16", name := "charAt", desc := "([BI)C" } : Jvm.MethodName)) ∈ TB := tb_at 384 (by decide +kernel) rfl
theorem mw_312 : (Jvm.Cond.static ({ cls := "java/lang/StringUTF16", name := "charAt", desc := "([BI)C" } : Jvm.MethodName)) ∈ TB := tb_at 385 (by decide +kernel) rfl
theorem mw_313 : (Jvm.Cond.code ({ cls := "java/lang/StringUTF16", name := "charAt", desc := "([BI)C" } : Jvm.MethodName) prog_13_method_83_code (2 : Nat) (Option.some Jvm.ClassFile.FieldType.char)) ∈ TB := tb_at 386 (by decide +kernel) rfl
theorem mw_314 : (Jvm.Cond.methodLink "java/lang/StringUTF16" (67 : Nat) ({ cls := "java/lang/StringUTF16", name := "checkIndex", desc := "(I[B)V" } : Jvm.MethodName)) ∈ TB := tb_at 387 (by decide +kernel) rfl
theorem mw_315 : (Jvm.Cond.static ({ cls := "java/lang/StringUTF16", name := "checkIndex", desc := "(I[B)V" } : Jvm.MethodName)) ∈ TB := tb_at 388 (by decide +kernel) rfl
theorem mw_316 : (Jvm.Cond.code ({ cls := "java/lang/StringUTF16", name := "checkIndex", desc := "(I[B)V" } : Jvm.MethodName) prog_13_method_91_code (2 : Nat) (Option.none : Option Jvm.ClassFile.FieldType)) ∈ TB := tb_at 389 (by decide +kernel) rfl
theorem mw_317 : (Jvm.Cond.methodLink "java/lang/StringUTF16" (48 : Nat) ({ cls := "java/lang/StringUTF16", name := "length", desc := "([B)I" } : Jvm.MethodName)) ∈ TB := tb_at 390 (by decide +kernel) rfl
theorem mw_318 : (Jvm.Cond.static ({ cls := "java/lang/StringUTF16", name := "length", desc := "([B)I" } : Jvm.MethodName)) ∈ TB := tb_at 391 (by decide +kernel) rfl
theorem mw_319 : (Jvm.Cond.code ({ cls := "java/lang/StringUTF16", name := "length", desc := "([B)I" } : Jvm.MethodName) prog_13_method_6_code (1 : Nat) (Option.some Jvm.ClassFile.FieldType.int)) ∈ TB := tb_at 392 (by decide +kernel) rfl
theorem mw_320 : (Jvm.Cond.methodLink "java/lang/StringUTF16" (414 : Nat) ({ cls := "java/lang/String", name := "checkIndex", desc := "(II)V" } : Jvm.MethodName)) ∈ TB := tb_at 393 (by decide +kernel) rfl
theorem mw_321 : (Jvm.Cond.methodLink "java/lang/StringUTF16" (71 : Nat) ({ cls := "java/lang/StringUTF16", name := "getChar", desc := "([BI)C" } : Jvm.MethodName)) ∈ TB := tb_at 394 (by decide +kernel) rfl
theorem mw_322 : (Jvm.Cond.static ({ cls := "java/lang/StringUTF16", name := "getChar", desc := "([BI)C" } : Jvm.MethodName)) ∈ TB := tb_at 395 (by decide +kernel) rfl
theorem mw_323 : (Jvm.Cond.code ({ cls := "java/lang/StringUTF16", name := "getChar", desc := "([BI)C" } : Jvm.MethodName) prog_13_method_5_code (2 : Nat) (Option.some Jvm.ClassFile.FieldType.char)) ∈ TB := tb_at 396 (by decide +kernel) rfl
theorem mw_324 : (Jvm.Cond.fieldLink "java/lang/StringUTF16" (44 : Nat) "java/lang/StringUTF16" "$assertionsDisabled" "Z") ∈ TB := tb_at 397 (by decide +kernel) rfl
theorem mw_326 : (Jvm.Cond.fieldLink "java/lang/StringUTF16" (59 : Nat) "java/lang/StringUTF16" "HI_BYTE_SHIFT" "I") ∈ TB := tb_at 399 (by decide +kernel) rfl
theorem mw_328 : (Jvm.Cond.fieldLink "java/lang/StringUTF16" (63 : Nat) "java/lang/StringUTF16" "LO_BYTE_SHIFT" "I") ∈ TB := tb_at 401 (by decide +kernel) rfl
theorem mw_332 : (Jvm.Cond.methodLink "SprayedLetters$Reader" (68 : Nat) ({ cls := "SprayedLetters$Reader", name := "isFull", desc := "(I)Z" } : Jvm.MethodName)) ∈ TB := tb_at 405 (by decide +kernel) rfl
theorem mw_334 : (Jvm.Cond.instanceMethod ({ cls := "SprayedLetters$Reader", name := "isFull", desc := "(I)Z" } : Jvm.MethodName)) ∈ TB := tb_at 407 (by decide +kernel) rfl
theorem mw_335 : (Jvm.Cond.code ({ cls := "SprayedLetters$Reader", name := "isFull", desc := "(I)Z" } : Jvm.MethodName) prog_4_method_5_code (2 : Nat) (Option.some Jvm.ClassFile.FieldType.boolean)) ∈ TB := tb_at 408 (by decide +kernel) rfl
theorem mw_336 : (Jvm.Cond.methodLink "SprayedLetters$Reader" (72 : Nat) ({ cls := "SprayedLetters$Reader", name := "readNumbers", desc := "(I)V" } : Jvm.MethodName)) ∈ TB := tb_at 409 (by decide +kernel) rfl
theorem mw_338 : (Jvm.Cond.instanceMethod ({ cls := "SprayedLetters$Reader", name := "readNumbers", desc := "(I)V" } : Jvm.MethodName)) ∈ TB := tb_at 411 (by decide +kernel) rfl
theorem mw_339 : (Jvm.Cond.code ({ cls := "SprayedLetters$Reader", name := "readNumbers", desc := "(I)V" } : Jvm.MethodName) prog_4_method_6_code (2 : Nat) (Option.none : Option Jvm.ClassFile.FieldType)) ∈ TB := tb_at 412 (by decide +kernel) rfl
theorem mw_340 : (Jvm.Cond.fieldLink "SprayedLetters$Reader" (98 : Nat) "SprayedLetters$Reader" "NODE_LEAST" "[I") ∈ TB := tb_at 413 (by decide +kernel) rfl
theorem mw_342 : (Jvm.Cond.fieldLink "SprayedLetters$Reader" (101 : Nat) "SprayedLetters$Reader" "NODE_MOST" "[I") ∈ TB := tb_at 415 (by decide +kernel) rfl
theorem mw_344 : (Jvm.Cond.methodLink "SprayedLetters$Reader" (104 : Nat) ({ cls := "SprayedLetters$Reader", name := "readNumbersWithin", desc := "([I[I)V" } : Jvm.MethodName)) ∈ TB := tb_at 417 (by decide +kernel) rfl
theorem mw_346 : (Jvm.Cond.instanceMethod ({ cls := "SprayedLetters$Reader", name := "readNumbersWithin", desc := "([I[I)V" } : Jvm.MethodName)) ∈ TB := tb_at 419 (by decide +kernel) rfl
theorem mw_347 : (Jvm.Cond.code ({ cls := "SprayedLetters$Reader", name := "readNumbersWithin", desc := "([I[I)V" } : Jvm.MethodName) prog_4_method_7_code (5 : Nat) (Option.none : Option Jvm.ClassFile.FieldType)) ∈ TB := tb_at 420 (by decide +kernel) rfl
theorem mw_348 : (Jvm.Cond.methodLink "SprayedLetters$Reader" (120 : Nat) ({ cls := "SprayedLetters$Reader", name := "numberRead", desc := "()I" } : Jvm.MethodName)) ∈ TB := tb_at 421 (by decide +kernel) rfl
theorem mw_350 : (Jvm.Cond.instanceMethod ({ cls := "SprayedLetters$Reader", name := "numberRead", desc := "()I" } : Jvm.MethodName)) ∈ TB := tb_at 423 (by decide +kernel) rfl
theorem mw_351 : (Jvm.Cond.code ({ cls := "SprayedLetters$Reader", name := "numberRead", desc := "()I" } : Jvm.MethodName) prog_4_method_13_code (3 : Nat) (Option.some Jvm.ClassFile.FieldType.int)) ∈ TB := tb_at 424 (by decide +kernel) rfl
theorem mw_352 : (Jvm.Cond.fieldLink "SprayedLetters$Reader" (108 : Nat) "SprayedLetters$Reader" "MEET_LEAST" "[I") ∈ TB := tb_at 425 (by decide +kernel) rfl
theorem mw_354 : (Jvm.Cond.fieldLink "SprayedLetters$Reader" (111 : Nat) "SprayedLetters$Reader" "MEET_MOST" "[I") ∈ TB := tb_at 427 (by decide +kernel) rfl
theorem mw_356 : (Jvm.Cond.fieldLink "SprayedLetters$Reader" (114 : Nat) "SprayedLetters$Reader" "LETTER_LEAST" "[I") ∈ TB := tb_at 429 (by decide +kernel) rfl
theorem mw_358 : (Jvm.Cond.fieldLink "SprayedLetters$Reader" (117 : Nat) "SprayedLetters$Reader" "LETTER_MOST" "[I") ∈ TB := tb_at 431 (by decide +kernel) rfl
theorem mw_360 : (Jvm.Cond.methodLink "SprayedLetters$Reader" (76 : Nat) ({ cls := "SprayedLetters$Reader", name := "takeLine", desc := "(I)V" } : Jvm.MethodName)) ∈ TB := tb_at 433 (by decide +kernel) rfl
theorem mw_362 : (Jvm.Cond.instanceMethod ({ cls := "SprayedLetters$Reader", name := "takeLine", desc := "(I)V" } : Jvm.MethodName)) ∈ TB := tb_at 435 (by decide +kernel) rfl
theorem mw_363 : (Jvm.Cond.code ({ cls := "SprayedLetters$Reader", name := "takeLine", desc := "(I)V" } : Jvm.MethodName) prog_4_method_8_code (3 : Nat) (Option.none : Option Jvm.ClassFile.FieldType)) ∈ TB := tb_at 436 (by decide +kernel) rfl
theorem mw_364 : (Jvm.Cond.methodLink "SprayedLetters$Reader" (123 : Nat) ({ cls := "SprayedLetters$Plan", name := "addNode", desc := "(I)V" } : Jvm.MethodName)) ∈ TB := tb_at 437 (by decide +kernel) rfl
theorem mw_365 : (Jvm.Cond.instanceMethod ({ cls := "SprayedLetters$Plan", name := "addNode", desc := "(I)V" } : Jvm.MethodName)) ∈ TB := tb_at 438 (by decide +kernel) rfl
theorem mw_366 : (Jvm.Cond.selects "SprayedLetters$Plan" ({ cls := "SprayedLetters$Plan", name := "addNode", desc := "(I)V" } : Jvm.MethodName) ({ cls := "SprayedLetters$Plan", name := "addNode", desc := "(I)V" } : Jvm.MethodName)) ∈ TB := tb_at 439 (by decide +kernel) rfl
theorem mw_367 : (Jvm.Cond.code ({ cls := "SprayedLetters$Plan", name := "addNode", desc := "(I)V" } : Jvm.MethodName) prog_2_method_10_code (2 : Nat) (Option.none : Option Jvm.ClassFile.FieldType)) ∈ TB := tb_at 440 (by decide +kernel) rfl
theorem mw_368 : (Jvm.Cond.methodLink "SprayedLetters$Reader" (126 : Nat) ({ cls := "SprayedLetters$Plan", name := "addMeeting", desc := "(IIII)V" } : Jvm.MethodName)) ∈ TB := tb_at 441 (by decide +kernel) rfl
theorem mw_369 : (Jvm.Cond.instanceMethod ({ cls := "SprayedLetters$Plan", name := "addMeeting", desc := "(IIII)V" } : Jvm.MethodName)) ∈ TB := tb_at 442 (by decide +kernel) rfl
theorem mw_370 : (Jvm.Cond.selects "SprayedLetters$Plan" ({ cls := "SprayedLetters$Plan", name := "addMeeting", desc := "(IIII)V" } : Jvm.MethodName) ({ cls := "SprayedLetters$Plan", name := "addMeeting", desc := "(IIII)V" } : Jvm.MethodName)) ∈ TB := tb_at 443 (by decide +kernel) rfl
theorem mw_371 : (Jvm.Cond.code ({ cls := "SprayedLetters$Plan", name := "addMeeting", desc := "(IIII)V" } : Jvm.MethodName) prog_2_method_11_code (6 : Nat) (Option.none : Option Jvm.ClassFile.FieldType)) ∈ TB := tb_at 444 (by decide +kernel) rfl
theorem mw_372 : (Jvm.Cond.methodLink "SprayedLetters$Reader" (130 : Nat) ({ cls := "SprayedLetters$Plan", name := "addLetter", desc := "(IIIIII)V" } : Jvm.MethodName)) ∈ TB := tb_at 445 (by decide +kernel) rfl
theorem mw_373 : (Jvm.Cond.instanceMethod ({ cls := "SprayedLetters$Plan", name := "addLetter", desc := "(IIIIII)V" } : Jvm.MethodName)) ∈ TB := tb_at 446 (by decide +kernel) rfl
theorem mw_374 : (Jvm.Cond.selects "SprayedLetters$Plan" ({ cls := "SprayedLetters$Plan", name := "addLetter", desc := "(IIIIII)V" } : Jvm.MethodName) ({ cls := "SprayedLetters$Plan", name := "addLetter", desc := "(IIIIII)V" } : Jvm.MethodName)) ∈ TB := tb_at 447 (by decide +kernel) rfl
theorem mw_375 : (Jvm.Cond.code ({ cls := "SprayedLetters$Plan", name := "addLetter", desc := "(IIIIII)V" } : Jvm.MethodName) prog_2_method_12_code (8 : Nat) (Option.none : Option Jvm.ClassFile.FieldType)) ∈ TB := tb_at 448 (by decide +kernel) rfl
theorem mw_376 : (Jvm.Cond.methodLink "SprayedLetters$Reader" (48 : Nat) ({ cls := "SprayedLetters$Plan", name := "namesOnlyItsNodes", desc := "()Z" } : Jvm.MethodName)) ∈ TB := tb_at 449 (by decide +kernel) rfl
theorem mw_377 : (Jvm.Cond.instanceMethod ({ cls := "SprayedLetters$Plan", name := "namesOnlyItsNodes", desc := "()Z" } : Jvm.MethodName)) ∈ TB := tb_at 450 (by decide +kernel) rfl
theorem mw_378 : (Jvm.Cond.selects "SprayedLetters$Plan" ({ cls := "SprayedLetters$Plan", name := "namesOnlyItsNodes", desc := "()Z" } : Jvm.MethodName) ({ cls := "SprayedLetters$Plan", name := "namesOnlyItsNodes", desc := "()Z" } : Jvm.MethodName)) ∈ TB := tb_at 451 (by decide +kernel) rfl
theorem mw_379 : (Jvm.Cond.code ({ cls := "SprayedLetters$Plan", name := "namesOnlyItsNodes", desc := "()Z" } : Jvm.MethodName) prog_2_method_13_code (2 : Nat) (Option.some Jvm.ClassFile.FieldType.boolean)) ∈ TB := tb_at 452 (by decide +kernel) rfl
theorem mw_380 : (Jvm.Cond.methodLink "SprayedLetters$Plan" (41 : Nat) ({ cls := "SprayedLetters$Plan", name := "ofMeeting", desc := "(II)I" } : Jvm.MethodName)) ∈ TB := tb_at 453 (by decide +kernel) rfl
theorem mw_381 : (Jvm.Cond.instanceMethod ({ cls := "SprayedLetters$Plan", name := "ofMeeting", desc := "(II)I" } : Jvm.MethodName)) ∈ TB := tb_at 454 (by decide +kernel) rfl
theorem mw_382 : (Jvm.Cond.selects "SprayedLetters$Plan" ({ cls := "SprayedLetters$Plan", name := "ofMeeting", desc := "(II)I" } : Jvm.MethodName) ({ cls := "SprayedLetters$Plan", name := "ofMeeting", desc := "(II)I" } : Jvm.MethodName)) ∈ TB := tb_at 455 (by decide +kernel) rfl
theorem mw_383 : (Jvm.Cond.code ({ cls := "SprayedLetters$Plan", name := "ofMeeting", desc := "(II)I" } : Jvm.MethodName) prog_2_method_7_code (3 : Nat) (Option.some Jvm.ClassFile.FieldType.int)) ∈ TB := tb_at 456 (by decide +kernel) rfl
theorem mw_384 : (Jvm.Cond.methodLink "SprayedLetters$Plan" (45 : Nat) ({ cls := "SprayedLetters$Plan", name := "ofLetter", desc := "(II)I" } : Jvm.MethodName)) ∈ TB := tb_at 457 (by decide +kernel) rfl
theorem mw_385 : (Jvm.Cond.instanceMethod ({ cls := "SprayedLetters$Plan", name := "ofLetter", desc := "(II)I" } : Jvm.MethodName)) ∈ TB := tb_at 458 (by decide +kernel) rfl
theorem mw_386 : (Jvm.Cond.selects "SprayedLetters$Plan" ({ cls := "SprayedLetters$Plan", name := "ofLetter", desc := "(II)I" } : Jvm.MethodName) ({ cls := "SprayedLetters$Plan", name := "ofLetter", desc := "(II)I" } : Jvm.MethodName)) ∈ TB := tb_at 459 (by decide +kernel) rfl
theorem mw_387 : (Jvm.Cond.code ({ cls := "SprayedLetters$Plan", name := "ofLetter", desc := "(II)I" } : Jvm.MethodName) prog_2_method_8_code (3 : Nat) (Option.some Jvm.ClassFile.FieldType.int)) ∈ TB := tb_at 460 (by decide +kernel) rfl
theorem mw_388 : (Jvm.Cond.methodLink "SprayedLetters" (72 : Nat) ({ cls := "SprayedLetters$Plan", name := "copyFrom", desc := "(LSprayedLetters$Plan;)V" } : Jvm.MethodName)) ∈ TB := tb_at 461 (by decide +kernel) rfl
theorem mw_389 : (Jvm.Cond.instanceMethod ({ cls := "SprayedLetters$Plan", name := "copyFrom", desc := "(LSprayedLetters$Plan;)V" } : Jvm.MethodName)) ∈ TB := tb_at 462 (by decide +kernel) rfl
theorem mw_390 : (Jvm.Cond.selects "SprayedLetters$Plan" ({ cls := "SprayedLetters$Plan", name := "copyFrom", desc := "(LSprayedLetters$Plan;)V" } : Jvm.MethodName) ({ cls := "SprayedLetters$Plan", name := "copyFrom", desc := "(LSprayedLetters$Plan;)V" } : Jvm.MethodName)) ∈ TB := tb_at 463 (by decide +kernel) rfl
theorem mw_391 : (Jvm.Cond.code ({ cls := "SprayedLetters$Plan", name := "copyFrom", desc := "(LSprayedLetters$Plan;)V" } : Jvm.MethodName) prog_2_method_3_code (2 : Nat) (Option.none : Option Jvm.ClassFile.FieldType)) ∈ TB := tb_at 464 (by decide +kernel) rfl
theorem mw_392 : (Jvm.Cond.methodLink "SprayedLetters$Plan" (31 : Nat) ({ cls := "java/lang/System", name := "arraycopy", desc := "(Ljava/lang/Object;ILjava/lang/Object;II)V" } : Jvm.MethodName)) ∈ TB := tb_at 465 (by decide +kernel) rfl
theorem mw_393 : (Jvm.Cond.static ({ cls := "java/lang/System", name := "arraycopy", desc := "(Ljava/lang/Object;ILjava/lang/Object;II)V" } : Jvm.MethodName)) ∈ TB := tb_at 466 (by decide +kernel) rfl
theorem mw_394 : (Jvm.Cond.native ({ cls := "java/lang/System", name := "arraycopy", desc := "(Ljava/lang/Object;ILjava/lang/Object;II)V" } : Jvm.MethodName)) ∈ TB := tb_at 467 (by decide +kernel) rfl
theorem mw_395 : (Jvm.Cond.methodLink "SprayedLetters" (78 : Nat) ({ cls := "SprayedLetters$World", name := "beginAnew", desc := "()V" } : Jvm.MethodName)) ∈ TB := tb_at 468 (by decide +kernel) rfl
theorem mw_396 : (Jvm.Cond.methodLink "SprayedLettersLaw" (27 : Nat) ({ cls := "SprayedLetters", name := "fault", desc := "()I" } : Jvm.MethodName)) ∈ TB := tb_at 469 (by decide +kernel) rfl
theorem mw_397 : (Jvm.Cond.instanceMethod ({ cls := "SprayedLetters", name := "fault", desc := "()I" } : Jvm.MethodName)) ∈ TB := tb_at 470 (by decide +kernel) rfl
theorem mw_398 : (Jvm.Cond.selects "SprayedLetters" ({ cls := "SprayedLetters", name := "fault", desc := "()I" } : Jvm.MethodName) ({ cls := "SprayedLetters", name := "fault", desc := "()I" } : Jvm.MethodName)) ∈ TB := tb_at 471 (by decide +kernel) rfl
theorem mw_399 : (Jvm.Cond.code ({ cls := "SprayedLetters", name := "fault", desc := "()I" } : Jvm.MethodName) prog_1_method_5_code (1 : Nat) (Option.some Jvm.ClassFile.FieldType.int)) ∈ TB := tb_at 472 (by decide +kernel) rfl
theorem mw_400 : (Jvm.Cond.methodLink "SprayedLettersLaw" (31 : Nat) ({ cls := "SprayedLetters", name := "rule", desc := "(I)I" } : Jvm.MethodName)) ∈ TB := tb_at 473 (by decide +kernel) rfl
theorem mw_401 : (Jvm.Cond.instanceMethod ({ cls := "SprayedLetters", name := "rule", desc := "(I)I" } : Jvm.MethodName)) ∈ TB := tb_at 474 (by decide +kernel) rfl
theorem mw_402 : (Jvm.Cond.selects "SprayedLetters" ({ cls := "SprayedLetters", name := "rule", desc := "(I)I" } : Jvm.MethodName) ({ cls := "SprayedLetters", name := "rule", desc := "(I)I" } : Jvm.MethodName)) ∈ TB := tb_at 475 (by decide +kernel) rfl
theorem mw_403 : (Jvm.Cond.code ({ cls := "SprayedLetters", name := "rule", desc := "(I)I" } : Jvm.MethodName) prog_1_method_6_code (2 : Nat) (Option.some Jvm.ClassFile.FieldType.int)) ∈ TB := tb_at 476 (by decide +kernel) rfl
theorem mw_404 : (Jvm.Cond.methodLink "SprayedLetters" (93 : Nat) ({ cls := "SprayedLetters$World", name := "copiesInAll", desc := "()I" } : Jvm.MethodName)) ∈ TB := tb_at 477 (by decide +kernel) rfl
theorem mw_405 : (Jvm.Cond.instanceMethod ({ cls := "SprayedLetters$World", name := "copiesInAll", desc := "()I" } : Jvm.MethodName)) ∈ TB := tb_at 478 (by decide +kernel) rfl
theorem mw_406 : (Jvm.Cond.selects "SprayedLetters$World" ({ cls := "SprayedLetters$World", name := "copiesInAll", desc := "()I" } : Jvm.MethodName) ({ cls := "SprayedLetters$World", name := "copiesInAll", desc := "()I" } : Jvm.MethodName)) ∈ TB := tb_at 479 (by decide +kernel) rfl
theorem mw_407 : (Jvm.Cond.code ({ cls := "SprayedLetters$World", name := "copiesInAll", desc := "()I" } : Jvm.MethodName) prog_6_method_10_code (3 : Nat) (Option.some Jvm.ClassFile.FieldType.int)) ∈ TB := tb_at 480 (by decide +kernel) rfl
theorem mw_408 : (Jvm.Cond.methodLink "SprayedLetters$World" (90 : Nat) ({ cls := "SprayedLetters$World", name := "copiesIn", desc := "(I)I" } : Jvm.MethodName)) ∈ TB := tb_at 481 (by decide +kernel) rfl
theorem mw_409 : (Jvm.Cond.instanceMethod ({ cls := "SprayedLetters$World", name := "copiesIn", desc := "(I)I" } : Jvm.MethodName)) ∈ TB := tb_at 482 (by decide +kernel) rfl
theorem mw_410 : (Jvm.Cond.selects "SprayedLetters$World" ({ cls := "SprayedLetters$World", name := "copiesIn", desc := "(I)I" } : Jvm.MethodName) ({ cls := "SprayedLetters$World", name := "copiesIn", desc := "(I)I" } : Jvm.MethodName)) ∈ TB := tb_at 483 (by decide +kernel) rfl
theorem mw_411 : (Jvm.Cond.code ({ cls := "SprayedLetters$World", name := "copiesIn", desc := "(I)I" } : Jvm.MethodName) prog_6_method_8_code (4 : Nat) (Option.some Jvm.ClassFile.FieldType.int)) ∈ TB := tb_at 484 (by decide +kernel) rfl
theorem mw_412 : (Jvm.Cond.methodLink "SprayedLetters$World" (83 : Nat) ({ cls := "SprayedLetters$World", name := "hasCopy", desc := "(II)Z" } : Jvm.MethodName)) ∈ TB := tb_at 485 (by decide +kernel) rfl
theorem mw_413 : (Jvm.Cond.instanceMethod ({ cls := "SprayedLetters$World", name := "hasCopy", desc := "(II)Z" } : Jvm.MethodName)) ∈ TB := tb_at 486 (by decide +kernel) rfl
theorem mw_414 : (Jvm.Cond.selects "SprayedLetters$World" ({ cls := "SprayedLetters$World", name := "hasCopy", desc := "(II)Z" } : Jvm.MethodName) ({ cls := "SprayedLetters$World", name := "hasCopy", desc := "(II)Z" } : Jvm.MethodName)) ∈ TB := tb_at 487 (by decide +kernel) rfl
theorem mw_415 : (Jvm.Cond.code ({ cls := "SprayedLetters$World", name := "hasCopy", desc := "(II)Z" } : Jvm.MethodName) prog_6_method_7_code (3 : Nat) (Option.some Jvm.ClassFile.FieldType.boolean)) ∈ TB := tb_at 488 (by decide +kernel) rfl
theorem mw_416 : (Jvm.Cond.methodLink "SprayedLetters" (96 : Nat) ({ cls := "SprayedLetters", name := "imagesKept", desc := "()I" } : Jvm.MethodName)) ∈ TB := tb_at 489 (by decide +kernel) rfl
theorem mw_418 : (Jvm.Cond.instanceMethod ({ cls := "SprayedLetters", name := "imagesKept", desc := "()I" } : Jvm.MethodName)) ∈ TB := tb_at 491 (by decide +kernel) rfl
theorem mw_419 : (Jvm.Cond.code ({ cls := "SprayedLetters", name := "imagesKept", desc := "()I" } : Jvm.MethodName) prog_1_method_23_code (3 : Nat) (Option.some Jvm.ClassFile.FieldType.int)) ∈ TB := tb_at 492 (by decide +kernel) rfl
theorem mw_420 : (Jvm.Cond.methodLink "SprayedLettersLaw" (35 : Nat) ({ cls := "SprayedLetters", name := "node", desc := "(II)I" } : Jvm.MethodName)) ∈ TB := tb_at 493 (by decide +kernel) rfl
theorem mw_421 : (Jvm.Cond.instanceMethod ({ cls := "SprayedLetters", name := "node", desc := "(II)I" } : Jvm.MethodName)) ∈ TB := tb_at 494 (by decide +kernel) rfl
theorem mw_422 : (Jvm.Cond.selects "SprayedLetters" ({ cls := "SprayedLetters", name := "node", desc := "(II)I" } : Jvm.MethodName) ({ cls := "SprayedLetters", name := "node", desc := "(II)I" } : Jvm.MethodName)) ∈ TB := tb_at 495 (by decide +kernel) rfl
theorem mw_423 : (Jvm.Cond.code ({ cls := "SprayedLetters", name := "node", desc := "(II)I" } : Jvm.MethodName) prog_1_method_7_code (3 : Nat) (Option.some Jvm.ClassFile.FieldType.int)) ∈ TB := tb_at 496 (by decide +kernel) rfl
theorem mw_424 : (Jvm.Cond.methodLink "SprayedLetters" (106 : Nat) ({ cls := "SprayedLetters$Plan", name := "hasNode", desc := "(I)Z" } : Jvm.MethodName)) ∈ TB := tb_at 497 (by decide +kernel) rfl
theorem mw_425 : (Jvm.Cond.instanceMethod ({ cls := "SprayedLetters$Plan", name := "hasNode", desc := "(I)Z" } : Jvm.MethodName)) ∈ TB := tb_at 498 (by decide +kernel) rfl
theorem mw_426 : (Jvm.Cond.selects "SprayedLetters$Plan" ({ cls := "SprayedLetters$Plan", name := "hasNode", desc := "(I)Z" } : Jvm.MethodName) ({ cls := "SprayedLetters$Plan", name := "hasNode", desc := "(I)Z" } : Jvm.MethodName)) ∈ TB := tb_at 499 (by decide +kernel) rfl
theorem mw_427 : (Jvm.Cond.code ({ cls := "SprayedLetters$Plan", name := "hasNode", desc := "(I)Z" } : Jvm.MethodName) prog_2_method_4_code (2 : Nat) (Option.some Jvm.ClassFile.FieldType.boolean)) ∈ TB := tb_at 500 (by decide +kernel) rfl
theorem mw_428 : (Jvm.Cond.methodLink "SprayedLetters" (113 : Nat) ({ cls := "SprayedLetters$World", name := "loadOf", desc := "(I)I" } : Jvm.MethodName)) ∈ TB := tb_at 501 (by decide +kernel) rfl
theorem mw_429 : (Jvm.Cond.instanceMethod ({ cls := "SprayedLetters$World", name := "loadOf", desc := "(I)I" } : Jvm.MethodName)) ∈ TB := tb_at 502 (by decide +kernel) rfl
theorem mw_430 : (Jvm.Cond.selects "SprayedLetters$World" ({ cls := "SprayedLetters$World", name := "loadOf", desc := "(I)I" } : Jvm.MethodName) ({ cls := "SprayedLetters$World", name := "loadOf", desc := "(I)I" } : Jvm.MethodName)) ∈ TB := tb_at 503 (by decide +kernel) rfl
theorem mw_431 : (Jvm.Cond.code ({ cls := "SprayedLetters$World", name := "loadOf", desc := "(I)I" } : Jvm.MethodName) prog_6_method_12_code (4 : Nat) (Option.some Jvm.ClassFile.FieldType.int)) ∈ TB := tb_at 504 (by decide +kernel) rfl
theorem mw_432 : (Jvm.Cond.methodLink "SprayedLetters$World" (97 : Nat) ({ cls := "SprayedLetters$Plan", name := "ofLetter", desc := "(II)I" } : Jvm.MethodName)) ∈ TB := tb_at 505 (by decide +kernel) rfl
theorem mw_433 : (Jvm.Cond.methodLink "SprayedLetters" (117 : Nat) ({ cls := "SprayedLetters$World", name := "copiesIn", desc := "(I)I" } : Jvm.MethodName)) ∈ TB := tb_at 506 (by decide +kernel) rfl
theorem mw_434 : (Jvm.Cond.methodLink "SprayedLetters" (123 : Nat) ({ cls := "java/lang/Integer", name := "bitCount", desc := "(I)I" } : Jvm.MethodName)) ∈ TB := tb_at 507 (by decide +kernel) rfl
theorem mw_435 : (Jvm.Cond.static ({ cls := "java/lang/Integer", name := "bitCount", desc := "(I)I" } : Jvm.MethodName)) ∈ TB := tb_at 508 (by decide +kernel) rfl
theorem mw_436 : (Jvm.Cond.code ({ cls := "java/lang/Integer", name := "bitCount", desc := "(I)I" } : Jvm.MethodName) prog_9_method_49_code (1 : Nat) (Option.some Jvm.ClassFile.FieldType.int)) ∈ TB := tb_at 509 (by decide +kernel) rfl
theorem mw_437 : (Jvm.Cond.constant "java/lang/Integer" (265 : Nat) (1431655765 : Int32)) ∈ TB := tb_at 510 (by decide +kernel) rfl
theorem mw_438 : (Jvm.Cond.constant "java/lang/Integer" (266 : Nat) (858993459 : Int32)) ∈ TB := tb_at 511 (by decide +kernel) rfl
theorem mw_439 : (Jvm.Cond.constant "java/lang/Integer" (267 : Nat) (252645135 : Int32)) ∈ TB := tb_at 512 (by decide +kernel) rfl
theorem mw_440 : (Jvm.Cond.methodLink "SprayedLetters" (128 : Nat) ({ cls := "SprayedLetters$World", name := "othersMet", desc := "(I)I" } : Jvm.MethodName)) ∈ TB := tb_at 513 (by decide +kernel) rfl
theorem mw_441 : (Jvm.Cond.instanceMethod ({ cls := "SprayedLetters$World", name := "othersMet", desc := "(I)I" } : Jvm.MethodName)) ∈ TB := tb_at 514 (by decide +kernel) rfl
theorem mw_442 : (Jvm.Cond.selects "SprayedLetters$World" ({ cls := "SprayedLetters$World", name := "othersMet", desc := "(I)I" } : Jvm.MethodName) ({ cls := "SprayedLetters$World", name := "othersMet", desc := "(I)I" } : Jvm.MethodName)) ∈ TB := tb_at 515 (by decide +kernel) rfl
theorem mw_443 : (Jvm.Cond.code ({ cls := "SprayedLetters$World", name := "othersMet", desc := "(I)I" } : Jvm.MethodName) prog_6_method_16_code (4 : Nat) (Option.some Jvm.ClassFile.FieldType.int)) ∈ TB := tb_at 516 (by decide +kernel) rfl
theorem mw_444 : (Jvm.Cond.methodLink "SprayedLetters$World" (100 : Nat) ({ cls := "SprayedLetters$World", name := "lastOf", desc := "(II)I" } : Jvm.MethodName)) ∈ TB := tb_at 517 (by decide +kernel) rfl
theorem mw_445 : (Jvm.Cond.instanceMethod ({ cls := "SprayedLetters$World", name := "lastOf", desc := "(II)I" } : Jvm.MethodName)) ∈ TB := tb_at 518 (by decide +kernel) rfl
theorem mw_446 : (Jvm.Cond.selects "SprayedLetters$World" ({ cls := "SprayedLetters$World", name := "lastOf", desc := "(II)I" } : Jvm.MethodName) ({ cls := "SprayedLetters$World", name := "lastOf", desc := "(II)I" } : Jvm.MethodName)) ∈ TB := tb_at 519 (by decide +kernel) rfl
theorem mw_447 : (Jvm.Cond.code ({ cls := "SprayedLetters$World", name := "lastOf", desc := "(II)I" } : Jvm.MethodName) prog_6_method_14_code (3 : Nat) (Option.some Jvm.ClassFile.FieldType.int)) ∈ TB := tb_at 520 (by decide +kernel) rfl
theorem mw_448 : (Jvm.Cond.methodLink "SprayedLettersLaw" (40 : Nat) ({ cls := "SprayedLetters", name := "meeting", desc := "(II)I" } : Jvm.MethodName)) ∈ TB := tb_at 521 (by decide +kernel) rfl
theorem mw_449 : (Jvm.Cond.instanceMethod ({ cls := "SprayedLetters", name := "meeting", desc := "(II)I" } : Jvm.MethodName)) ∈ TB := tb_at 522 (by decide +kernel) rfl
theorem mw_450 : (Jvm.Cond.selects "SprayedLetters" ({ cls := "SprayedLetters", name := "meeting", desc := "(II)I" } : Jvm.MethodName) ({ cls := "SprayedLetters", name := "meeting", desc := "(II)I" } : Jvm.MethodName)) ∈ TB := tb_at 523 (by decide +kernel) rfl
theorem mw_451 : (Jvm.Cond.code ({ cls := "SprayedLetters", name := "meeting", desc := "(II)I" } : Jvm.MethodName) prog_1_method_8_code (3 : Nat) (Option.some Jvm.ClassFile.FieldType.int)) ∈ TB := tb_at 524 (by decide +kernel) rfl
theorem mw_452 : (Jvm.Cond.methodLink "SprayedLetters" (131 : Nat) ({ cls := "SprayedLetters$Plan", name := "nextTime", desc := "(III)I" } : Jvm.MethodName)) ∈ TB := tb_at 525 (by decide +kernel) rfl
theorem mw_453 : (Jvm.Cond.instanceMethod ({ cls := "SprayedLetters$Plan", name := "nextTime", desc := "(III)I" } : Jvm.MethodName)) ∈ TB := tb_at 526 (by decide +kernel) rfl
theorem mw_454 : (Jvm.Cond.selects "SprayedLetters$Plan" ({ cls := "SprayedLetters$Plan", name := "nextTime", desc := "(III)I" } : Jvm.MethodName) ({ cls := "SprayedLetters$Plan", name := "nextTime", desc := "(III)I" } : Jvm.MethodName)) ∈ TB := tb_at 527 (by decide +kernel) rfl
theorem mw_455 : (Jvm.Cond.code ({ cls := "SprayedLetters$Plan", name := "nextTime", desc := "(III)I" } : Jvm.MethodName) prog_2_method_15_code (5 : Nat) (Option.some Jvm.ClassFile.FieldType.int)) ∈ TB := tb_at 528 (by decide +kernel) rfl
theorem mw_456 : (Jvm.Cond.methodLink "SprayedLetters" (135 : Nat) ({ cls := "SprayedLetters$Plan", name := "ofMeeting", desc := "(II)I" } : Jvm.MethodName)) ∈ TB := tb_at 529 (by decide +kernel) rfl
theorem mw_457 : (Jvm.Cond.methodLink "SprayedLettersLaw" (44 : Nat) ({ cls := "SprayedLetters", name := "letter", desc := "(II)I" } : Jvm.MethodName)) ∈ TB := tb_at 530 (by decide +kernel) rfl
theorem mw_458 : (Jvm.Cond.instanceMethod ({ cls := "SprayedLetters", name := "letter", desc := "(II)I" } : Jvm.MethodName)) ∈ TB := tb_at 531 (by decide +kernel) rfl
theorem mw_459 : (Jvm.Cond.selects "SprayedLetters" ({ cls := "SprayedLetters", name := "letter", desc := "(II)I" } : Jvm.MethodName) ({ cls := "SprayedLetters", name := "letter", desc := "(II)I" } : Jvm.MethodName)) ∈ TB := tb_at 532 (by decide +kernel) rfl
theorem mw_460 : (Jvm.Cond.code ({ cls := "SprayedLetters", name := "letter", desc := "(II)I" } : Jvm.MethodName) prog_1_method_9_code (3 : Nat) (Option.some Jvm.ClassFile.FieldType.int)) ∈ TB := tb_at 533 (by decide +kernel) rfl
theorem mw_461 : (Jvm.Cond.methodLink "SprayedLetters" (139 : Nat) ({ cls := "SprayedLetters$Plan", name := "hasLetter", desc := "(I)Z" } : Jvm.MethodName)) ∈ TB := tb_at 534 (by decide +kernel) rfl
theorem mw_462 : (Jvm.Cond.instanceMethod ({ cls := "SprayedLetters$Plan", name := "hasLetter", desc := "(I)Z" } : Jvm.MethodName)) ∈ TB := tb_at 535 (by decide +kernel) rfl
theorem mw_463 : (Jvm.Cond.selects "SprayedLetters$Plan" ({ cls := "SprayedLetters$Plan", name := "hasLetter", desc := "(I)Z" } : Jvm.MethodName) ({ cls := "SprayedLetters$Plan", name := "hasLetter", desc := "(I)Z" } : Jvm.MethodName)) ∈ TB := tb_at 536 (by decide +kernel) rfl
theorem mw_464 : (Jvm.Cond.code ({ cls := "SprayedLetters$Plan", name := "hasLetter", desc := "(I)Z" } : Jvm.MethodName) prog_2_method_6_code (2 : Nat) (Option.some Jvm.ClassFile.FieldType.boolean)) ∈ TB := tb_at 537 (by decide +kernel) rfl
theorem mw_465 : (Jvm.Cond.methodLink "SprayedLetters" (142 : Nat) ({ cls := "SprayedLetters$World", name := "stateOf", desc := "(I)I" } : Jvm.MethodName)) ∈ TB := tb_at 538 (by decide +kernel) rfl
theorem mw_466 : (Jvm.Cond.instanceMethod ({ cls := "SprayedLetters$World", name := "stateOf", desc := "(I)I" } : Jvm.MethodName)) ∈ TB := tb_at 539 (by decide +kernel) rfl
theorem mw_467 : (Jvm.Cond.selects "SprayedLetters$World" ({ cls := "SprayedLetters$World", name := "stateOf", desc := "(I)I" } : Jvm.MethodName) ({ cls := "SprayedLetters$World", name := "stateOf", desc := "(I)I" } : Jvm.MethodName)) ∈ TB := tb_at 540 (by decide +kernel) rfl
theorem mw_468 : (Jvm.Cond.code ({ cls := "SprayedLetters$World", name := "stateOf", desc := "(I)I" } : Jvm.MethodName) prog_6_method_17_code (2 : Nat) (Option.some Jvm.ClassFile.FieldType.int)) ∈ TB := tb_at 541 (by decide +kernel) rfl
theorem mw_469 : (Jvm.Cond.methodLink "SprayedLetters$World" (103 : Nat) ({ cls := "SprayedLetters$World", name := "copiesOf", desc := "(I)I" } : Jvm.MethodName)) ∈ TB := tb_at 542 (by decide +kernel) rfl
theorem mw_470 : (Jvm.Cond.instanceMethod ({ cls := "SprayedLetters$World", name := "copiesOf", desc := "(I)I" } : Jvm.MethodName)) ∈ TB := tb_at 543 (by decide +kernel) rfl
theorem mw_471 : (Jvm.Cond.selects "SprayedLetters$World" ({ cls := "SprayedLetters$World", name := "copiesOf", desc := "(I)I" } : Jvm.MethodName) ({ cls := "SprayedLetters$World", name := "copiesOf", desc := "(I)I" } : Jvm.MethodName)) ∈ TB := tb_at 544 (by decide +kernel) rfl
theorem mw_472 : (Jvm.Cond.code ({ cls := "SprayedLetters$World", name := "copiesOf", desc := "(I)I" } : Jvm.MethodName) prog_6_method_9_code (4 : Nat) (Option.some Jvm.ClassFile.FieldType.int)) ∈ TB := tb_at 545 (by decide +kernel) rfl
theorem mw_473 : (Jvm.Cond.methodLink "SprayedLetters" (151 : Nat) ({ cls := "SprayedLetters$World", name := "copiesOf", desc := "(I)I" } : Jvm.MethodName)) ∈ TB := tb_at 546 (by decide +kernel) rfl
theorem mw_474 : (Jvm.Cond.methodLink "SprayedLetters" (154 : Nat) ({ cls := "SprayedLetters$World", name := "tokensOf", desc := "(I)I" } : Jvm.MethodName)) ∈ TB := tb_at 547 (by decide +kernel) rfl
theorem mw_475 : (Jvm.Cond.instanceMethod ({ cls := "SprayedLetters$World", name := "tokensOf", desc := "(I)I" } : Jvm.MethodName)) ∈ TB := tb_at 548 (by decide +kernel) rfl
theorem mw_476 : (Jvm.Cond.selects "SprayedLetters$World" ({ cls := "SprayedLetters$World", name := "tokensOf", desc := "(I)I" } : Jvm.MethodName) ({ cls := "SprayedLetters$World", name := "tokensOf", desc := "(I)I" } : Jvm.MethodName)) ∈ TB := tb_at 549 (by decide +kernel) rfl
theorem mw_477 : (Jvm.Cond.code ({ cls := "SprayedLetters$World", name := "tokensOf", desc := "(I)I" } : Jvm.MethodName) prog_6_method_11_code (4 : Nat) (Option.some Jvm.ClassFile.FieldType.int)) ∈ TB := tb_at 550 (by decide +kernel) rfl
theorem mw_478 : (Jvm.Cond.methodLink "SprayedLetters$World" (94 : Nat) ({ cls := "SprayedLetters$World", name := "place", desc := "(II)I" } : Jvm.MethodName)) ∈ TB := tb_at 551 (by decide +kernel) rfl
theorem mw_479 : (Jvm.Cond.static ({ cls := "SprayedLetters$World", name := "place", desc := "(II)I" } : Jvm.MethodName)) ∈ TB := tb_at 552 (by decide +kernel) rfl
theorem mw_480 : (Jvm.Cond.code ({ cls := "SprayedLetters$World", name := "place", desc := "(II)I" } : Jvm.MethodName) prog_6_method_2_code (2 : Nat) (Option.some Jvm.ClassFile.FieldType.int)) ∈ TB := tb_at 553 (by decide +kernel) rfl
theorem mw_481 : (Jvm.Cond.methodLink "SprayedLetters" (157 : Nat) ({ cls := "SprayedLetters$Plan", name := "ofLetter", desc := "(II)I" } : Jvm.MethodName)) ∈ TB := tb_at 554 (by decide +kernel) rfl
theorem mw_482 : (Jvm.Cond.methodLink "SprayedLettersLaw" (48 : Nat) ({ cls := "SprayedLetters", name := "copy", desc := "(III)I" } : Jvm.MethodName)) ∈ TB := tb_at 555 (by decide +kernel) rfl
theorem mw_483 : (Jvm.Cond.instanceMethod ({ cls := "SprayedLetters", name := "copy", desc := "(III)I" } : Jvm.MethodName)) ∈ TB := tb_at 556 (by decide +kernel) rfl
theorem mw_484 : (Jvm.Cond.selects "SprayedLetters" ({ cls := "SprayedLetters", name := "copy", desc := "(III)I" } : Jvm.MethodName) ({ cls := "SprayedLetters", name := "copy", desc := "(III)I" } : Jvm.MethodName)) ∈ TB := tb_at 557 (by decide +kernel) rfl
theorem mw_485 : (Jvm.Cond.code ({ cls := "SprayedLetters", name := "copy", desc := "(III)I" } : Jvm.MethodName) prog_1_method_10_code (6 : Nat) (Option.some Jvm.ClassFile.FieldType.int)) ∈ TB := tb_at 558 (by decide +kernel) rfl
theorem mw_486 : (Jvm.Cond.methodLink "SprayedLetters" (160 : Nat) ({ cls := "SprayedLetters$Post", name := "copyByOrder", desc := "(II)I" } : Jvm.MethodName)) ∈ TB := tb_at 559 (by decide +kernel) rfl
theorem mw_487 : (Jvm.Cond.instanceMethod ({ cls := "SprayedLetters$Post", name := "copyByOrder", desc := "(II)I" } : Jvm.MethodName)) ∈ TB := tb_at 560 (by decide +kernel) rfl
theorem mw_488 : (Jvm.Cond.selects "SprayedLetters$Post" ({ cls := "SprayedLetters$Post", name := "copyByOrder", desc := "(II)I" } : Jvm.MethodName) ({ cls := "SprayedLetters$Post", name := "copyByOrder", desc := "(II)I" } : Jvm.MethodName)) ∈ TB := tb_at 561 (by decide +kernel) rfl
theorem mw_489 : (Jvm.Cond.code ({ cls := "SprayedLetters$Post", name := "copyByOrder", desc := "(II)I" } : Jvm.MethodName) prog_3_method_18_code (4 : Nat) (Option.some Jvm.ClassFile.FieldType.int)) ∈ TB := tb_at 562 (by decide +kernel) rfl
theorem mw_490 : (Jvm.Cond.methodLink "SprayedLetters$Post" (114 : Nat) ({ cls := "SprayedLetters$Post", name := "listCopies", desc := "(II)I" } : Jvm.MethodName)) ∈ TB := tb_at 563 (by decide +kernel) rfl
theorem mw_492 : (Jvm.Cond.instanceMethod ({ cls := "SprayedLetters$Post", name := "listCopies", desc := "(II)I" } : Jvm.MethodName)) ∈ TB := tb_at 565 (by decide +kernel) rfl
theorem mw_493 : (Jvm.Cond.code ({ cls := "SprayedLetters$Post", name := "listCopies", desc := "(II)I" } : Jvm.MethodName) prog_3_method_19_code (6 : Nat) (Option.some Jvm.ClassFile.FieldType.int)) ∈ TB := tb_at 566 (by decide +kernel) rfl
theorem mw_494 : (Jvm.Cond.methodLink "SprayedLetters$Post" (74 : Nat) ({ cls := "SprayedLetters$World", name := "hasCopy", desc := "(II)Z" } : Jvm.MethodName)) ∈ TB := tb_at 567 (by decide +kernel) rfl
theorem mw_495 : (Jvm.Cond.methodLink "SprayedLetters$Post" (178 : Nat) ({ cls := "SprayedLetters$Post", name := "goesAhead", desc := "(IIII)Z" } : Jvm.MethodName)) ∈ TB := tb_at 568 (by decide +kernel) rfl
theorem mw_497 : (Jvm.Cond.instanceMethod ({ cls := "SprayedLetters$Post", name := "goesAhead", desc := "(IIII)Z" } : Jvm.MethodName)) ∈ TB := tb_at 570 (by decide +kernel) rfl
theorem mw_498 : (Jvm.Cond.code ({ cls := "SprayedLetters$Post", name := "goesAhead", desc := "(IIII)Z" } : Jvm.MethodName) prog_3_method_20_code (7 : Nat) (Option.some Jvm.ClassFile.FieldType.boolean)) ∈ TB := tb_at 571 (by decide +kernel) rfl
theorem mw_499 : (Jvm.Cond.methodLink "SprayedLetters$Post" (42 : Nat) ({ cls := "SprayedLetters$Plan", name := "ofLetter", desc := "(II)I" } : Jvm.MethodName)) ∈ TB := tb_at 572 (by decide +kernel) rfl
theorem mw_500 : (Jvm.Cond.methodLink "SprayedLetters$Post" (130 : Nat) ({ cls := "SprayedLetters$World", name := "place", desc := "(II)I" } : Jvm.MethodName)) ∈ TB := tb_at 573 (by decide +kernel) rfl
theorem mw_501 : (Jvm.Cond.methodLink "SprayedLetters" (163 : Nat) ({ cls := "SprayedLetters$World", name := "place", desc := "(II)I" } : Jvm.MethodName)) ∈ TB := tb_at 574 (by decide +kernel) rfl
theorem mw_502 : (Jvm.Cond.methodLink "SprayedLettersLaw" (53 : Nat) ({ cls := "SprayedLetters", name := "note", desc := "(II)I" } : Jvm.MethodName)) ∈ TB := tb_at 575 (by decide +kernel) rfl
theorem mw_503 : (Jvm.Cond.instanceMethod ({ cls := "SprayedLetters", name := "note", desc := "(II)I" } : Jvm.MethodName)) ∈ TB := tb_at 576 (by decide +kernel) rfl
theorem mw_504 : (Jvm.Cond.selects "SprayedLetters" ({ cls := "SprayedLetters", name := "note", desc := "(II)I" } : Jvm.MethodName) ({ cls := "SprayedLetters", name := "note", desc := "(II)I" } : Jvm.MethodName)) ∈ TB := tb_at 577 (by decide +kernel) rfl
theorem mw_505 : (Jvm.Cond.code ({ cls := "SprayedLetters", name := "note", desc := "(II)I" } : Jvm.MethodName) prog_1_method_11_code (3 : Nat) (Option.some Jvm.ClassFile.FieldType.int)) ∈ TB := tb_at 578 (by decide +kernel) rfl
theorem mw_506 : (Jvm.Cond.methodLink "SprayedLettersLaw" (57 : Nat) ({ cls := "SprayedLetters", name := "last", desc := "(II)I" } : Jvm.MethodName)) ∈ TB := tb_at 579 (by decide +kernel) rfl
theorem mw_507 : (Jvm.Cond.instanceMethod ({ cls := "SprayedLetters", name := "last", desc := "(II)I" } : Jvm.MethodName)) ∈ TB := tb_at 580 (by decide +kernel) rfl
theorem mw_508 : (Jvm.Cond.selects "SprayedLetters" ({ cls := "SprayedLetters", name := "last", desc := "(II)I" } : Jvm.MethodName) ({ cls := "SprayedLetters", name := "last", desc := "(II)I" } : Jvm.MethodName)) ∈ TB := tb_at 581 (by decide +kernel) rfl
theorem mw_509 : (Jvm.Cond.code ({ cls := "SprayedLetters", name := "last", desc := "(II)I" } : Jvm.MethodName) prog_1_method_12_code (4 : Nat) (Option.some Jvm.ClassFile.FieldType.int)) ∈ TB := tb_at 582 (by decide +kernel) rfl
theorem mw_510 : (Jvm.Cond.methodLink "SprayedLetters" (175 : Nat) ({ cls := "SprayedLetters$Plan", name := "hasPair", desc := "(II)Z" } : Jvm.MethodName)) ∈ TB := tb_at 583 (by decide +kernel) rfl
theorem mw_511 : (Jvm.Cond.instanceMethod ({ cls := "SprayedLetters$Plan", name := "hasPair", desc := "(II)Z" } : Jvm.MethodName)) ∈ TB := tb_at 584 (by decide +kernel) rfl
theorem mw_512 : (Jvm.Cond.selects "SprayedLetters$Plan" ({ cls := "SprayedLetters$Plan", name := "hasPair", desc := "(II)Z" } : Jvm.MethodName) ({ cls := "SprayedLetters$Plan", name := "hasPair", desc := "(II)Z" } : Jvm.MethodName)) ∈ TB := tb_at 585 (by decide +kernel) rfl
theorem mw_513 : (Jvm.Cond.code ({ cls := "SprayedLetters$Plan", name := "hasPair", desc := "(II)Z" } : Jvm.MethodName) prog_2_method_5_code (3 : Nat) (Option.some Jvm.ClassFile.FieldType.boolean)) ∈ TB := tb_at 586 (by decide +kernel) rfl
theorem mw_514 : (Jvm.Cond.methodLink "SprayedLetters$Plan" (37 : Nat) ({ cls := "SprayedLetters$Plan", name := "hasNode", desc := "(I)Z" } : Jvm.MethodName)) ∈ TB := tb_at 587 (by decide +kernel) rfl
theorem mw_515 : (Jvm.Cond.methodLink "SprayedLetters" (179 : Nat) ({ cls := "SprayedLetters$World", name := "lastOf", desc := "(II)I" } : Jvm.MethodName)) ∈ TB := tb_at 588 (by decide +kernel) rfl
theorem mw_516 : (Jvm.Cond.methodLink "SprayedLettersLaw" (61 : Nat) ({ cls := "SprayedLetters", name := "soonest", desc := "(I)I" } : Jvm.MethodName)) ∈ TB := tb_at 589 (by decide +kernel) rfl
theorem mw_517 : (Jvm.Cond.instanceMethod ({ cls := "SprayedLetters", name := "soonest", desc := "(I)I" } : Jvm.MethodName)) ∈ TB := tb_at 590 (by decide +kernel) rfl
theorem mw_518 : (Jvm.Cond.selects "SprayedLetters" ({ cls := "SprayedLetters", name := "soonest", desc := "(I)I" } : Jvm.MethodName) ({ cls := "SprayedLetters", name := "soonest", desc := "(I)I" } : Jvm.MethodName)) ∈ TB := tb_at 591 (by decide +kernel) rfl
theorem mw_519 : (Jvm.Cond.code ({ cls := "SprayedLetters", name := "soonest", desc := "(I)I" } : Jvm.MethodName) prog_1_method_13_code (2 : Nat) (Option.some Jvm.ClassFile.FieldType.int)) ∈ TB := tb_at 592 (by decide +kernel) rfl
theorem mw_520 : (Jvm.Cond.methodLink "SprayedLetters" (182 : Nat) ({ cls := "SprayedLetters$Post", name := "soonestOf", desc := "(I)I" } : Jvm.MethodName)) ∈ TB := tb_at 593 (by decide +kernel) rfl
theorem mw_521 : (Jvm.Cond.instanceMethod ({ cls := "SprayedLetters$Post", name := "soonestOf", desc := "(I)I" } : Jvm.MethodName)) ∈ TB := tb_at 594 (by decide +kernel) rfl
theorem mw_522 : (Jvm.Cond.selects "SprayedLetters$Post" ({ cls := "SprayedLetters$Post", name := "soonestOf", desc := "(I)I" } : Jvm.MethodName) ({ cls := "SprayedLetters$Post", name := "soonestOf", desc := "(I)I" } : Jvm.MethodName)) ∈ TB := tb_at 595 (by decide +kernel) rfl
theorem mw_523 : (Jvm.Cond.code ({ cls := "SprayedLetters$Post", name := "soonestOf", desc := "(I)I" } : Jvm.MethodName) prog_3_method_21_code (5 : Nat) (Option.some Jvm.ClassFile.FieldType.int)) ∈ TB := tb_at 596 (by decide +kernel) rfl
theorem mw_524 : (Jvm.Cond.methodLink "SprayedLetters$Post" (67 : Nat) ({ cls := "SprayedLetters$Plan", name := "endOf", desc := "(I)I" } : Jvm.MethodName)) ∈ TB := tb_at 597 (by decide +kernel) rfl
theorem mw_525 : (Jvm.Cond.instanceMethod ({ cls := "SprayedLetters$Plan", name := "endOf", desc := "(I)I" } : Jvm.MethodName)) ∈ TB := tb_at 598 (by decide +kernel) rfl
theorem mw_526 : (Jvm.Cond.selects "SprayedLetters$Plan" ({ cls := "SprayedLetters$Plan", name := "endOf", desc := "(I)I" } : Jvm.MethodName) ({ cls := "SprayedLetters$Plan", name := "endOf", desc := "(I)I" } : Jvm.MethodName)) ∈ TB := tb_at 599 (by decide +kernel) rfl
theorem mw_527 : (Jvm.Cond.code ({ cls := "SprayedLetters$Plan", name := "endOf", desc := "(I)I" } : Jvm.MethodName) prog_2_method_9_code (2 : Nat) (Option.some Jvm.ClassFile.FieldType.int)) ∈ TB := tb_at 600 (by decide +kernel) rfl
theorem mw_528 : (Jvm.Cond.methodLink "SprayedLetters$Post" (182 : Nat) ({ cls := "SprayedLetters$Post", name := "spreadIn", desc := "(I)V" } : Jvm.MethodName)) ∈ TB := tb_at 601 (by decide +kernel) rfl
theorem mw_530 : (Jvm.Cond.instanceMethod ({ cls := "SprayedLetters$Post", name := "spreadIn", desc := "(I)V" } : Jvm.MethodName)) ∈ TB := tb_at 603 (by decide +kernel) rfl
theorem mw_531 : (Jvm.Cond.code ({ cls := "SprayedLetters$Post", name := "spreadIn", desc := "(I)V" } : Jvm.MethodName) prog_3_method_22_code (6 : Nat) (Option.none : Option Jvm.ClassFile.FieldType)) ∈ TB := tb_at 604 (by decide +kernel) rfl
theorem mw_532 : (Jvm.Cond.methodLink "SprayedLetters$Post" (56 : Nat) ({ cls := "SprayedLetters$Plan", name := "isAt", desc := "(III)Z" } : Jvm.MethodName)) ∈ TB := tb_at 605 (by decide +kernel) rfl
theorem mw_533 : (Jvm.Cond.instanceMethod ({ cls := "SprayedLetters$Plan", name := "isAt", desc := "(III)Z" } : Jvm.MethodName)) ∈ TB := tb_at 606 (by decide +kernel) rfl
theorem mw_534 : (Jvm.Cond.selects "SprayedLetters$Plan" ({ cls := "SprayedLetters$Plan", name := "isAt", desc := "(III)Z" } : Jvm.MethodName) ({ cls := "SprayedLetters$Plan", name := "isAt", desc := "(III)Z" } : Jvm.MethodName)) ∈ TB := tb_at 607 (by decide +kernel) rfl
theorem mw_535 : (Jvm.Cond.code ({ cls := "SprayedLetters$Plan", name := "isAt", desc := "(III)Z" } : Jvm.MethodName) prog_2_method_14_code (5 : Nat) (Option.some Jvm.ClassFile.FieldType.boolean)) ∈ TB := tb_at 608 (by decide +kernel) rfl
theorem mw_536 : (Jvm.Cond.methodLink "SprayedLetters$Post" (60 : Nat) ({ cls := "SprayedLetters$Plan", name := "ofMeeting", desc := "(II)I" } : Jvm.MethodName)) ∈ TB := tb_at 609 (by decide +kernel) rfl
theorem mw_537 : (Jvm.Cond.methodLink "SprayedLettersLaw" (65 : Nat) ({ cls := "SprayedLetters", name := "why", desc := "(IIII)I" } : Jvm.MethodName)) ∈ TB := tb_at 610 (by decide +kernel) rfl
theorem mw_538 : (Jvm.Cond.instanceMethod ({ cls := "SprayedLetters", name := "why", desc := "(IIII)I" } : Jvm.MethodName)) ∈ TB := tb_at 611 (by decide +kernel) rfl
theorem mw_539 : (Jvm.Cond.selects "SprayedLetters" ({ cls := "SprayedLetters", name := "why", desc := "(IIII)I" } : Jvm.MethodName) ({ cls := "SprayedLetters", name := "why", desc := "(IIII)I" } : Jvm.MethodName)) ∈ TB := tb_at 612 (by decide +kernel) rfl
theorem mw_540 : (Jvm.Cond.code ({ cls := "SprayedLetters", name := "why", desc := "(IIII)I" } : Jvm.MethodName) prog_1_method_14_code (5 : Nat) (Option.some Jvm.ClassFile.FieldType.int)) ∈ TB := tb_at 613 (by decide +kernel) rfl
theorem mw_541 : (Jvm.Cond.methodLink "SprayedLetters" (185 : Nat) ({ cls := "SprayedLetters$World", name := "hasCopy", desc := "(II)Z" } : Jvm.MethodName)) ∈ TB := tb_at 614 (by decide +kernel) rfl
theorem mw_542 : (Jvm.Cond.methodLink "SprayedLetters" (188 : Nat) ({ cls := "SprayedLetters$Post", name := "reasonAgainst", desc := "(IIII)I" } : Jvm.MethodName)) ∈ TB := tb_at 615 (by decide +kernel) rfl
theorem mw_543 : (Jvm.Cond.instanceMethod ({ cls := "SprayedLetters$Post", name := "reasonAgainst", desc := "(IIII)I" } : Jvm.MethodName)) ∈ TB := tb_at 616 (by decide +kernel) rfl
theorem mw_544 : (Jvm.Cond.selects "SprayedLetters$Post" ({ cls := "SprayedLetters$Post", name := "reasonAgainst", desc := "(IIII)I" } : Jvm.MethodName) ({ cls := "SprayedLetters$Post", name := "reasonAgainst", desc := "(IIII)I" } : Jvm.MethodName)) ∈ TB := tb_at 617 (by decide +kernel) rfl
theorem mw_545 : (Jvm.Cond.code ({ cls := "SprayedLetters$Post", name := "reasonAgainst", desc := "(IIII)I" } : Jvm.MethodName) prog_3_method_11_code (6 : Nat) (Option.some Jvm.ClassFile.FieldType.int)) ∈ TB := tb_at 618 (by decide +kernel) rfl
theorem mw_546 : (Jvm.Cond.methodLink "SprayedLetters$Post" (148 : Nat) ({ cls := "SprayedLetters$Post", name := "mustWait", desc := "(III)Z" } : Jvm.MethodName)) ∈ TB := tb_at 619 (by decide +kernel) rfl
theorem mw_548 : (Jvm.Cond.instanceMethod ({ cls := "SprayedLetters$Post", name := "mustWait", desc := "(III)Z" } : Jvm.MethodName)) ∈ TB := tb_at 621 (by decide +kernel) rfl
theorem mw_549 : (Jvm.Cond.code ({ cls := "SprayedLetters$Post", name := "mustWait", desc := "(III)Z" } : Jvm.MethodName) prog_3_method_12_code (5 : Nat) (Option.some Jvm.ClassFile.FieldType.boolean)) ∈ TB := tb_at 622 (by decide +kernel) rfl
theorem mw_550 : (Jvm.Cond.methodLink "SprayedLetters$Post" (151 : Nat) ({ cls := "SprayedLetters$Post", name := "metLater", desc := "(III)Z" } : Jvm.MethodName)) ∈ TB := tb_at 623 (by decide +kernel) rfl
theorem mw_552 : (Jvm.Cond.instanceMethod ({ cls := "SprayedLetters$Post", name := "metLater", desc := "(III)Z" } : Jvm.MethodName)) ∈ TB := tb_at 625 (by decide +kernel) rfl
theorem mw_553 : (Jvm.Cond.code ({ cls := "SprayedLetters$Post", name := "metLater", desc := "(III)Z" } : Jvm.MethodName) prog_3_method_13_code (5 : Nat) (Option.some Jvm.ClassFile.FieldType.boolean)) ∈ TB := tb_at 626 (by decide +kernel) rfl
theorem mw_554 : (Jvm.Cond.methodLink "SprayedLetters$Post" (154 : Nat) ({ cls := "SprayedLetters$World", name := "lastOf", desc := "(II)I" } : Jvm.MethodName)) ∈ TB := tb_at 627 (by decide +kernel) rfl
theorem mw_555 : (Jvm.Cond.methodLink "SprayedLetters$Post" (85 : Nat) ({ cls := "SprayedLetters$Post", name := "lackOfRoom", desc := "(II)I" } : Jvm.MethodName)) ∈ TB := tb_at 628 (by decide +kernel) rfl
theorem mw_557 : (Jvm.Cond.instanceMethod ({ cls := "SprayedLetters$Post", name := "lackOfRoom", desc := "(II)I" } : Jvm.MethodName)) ∈ TB := tb_at 630 (by decide +kernel) rfl
theorem mw_558 : (Jvm.Cond.code ({ cls := "SprayedLetters$Post", name := "lackOfRoom", desc := "(II)I" } : Jvm.MethodName) prog_3_method_14_code (5 : Nat) (Option.some Jvm.ClassFile.FieldType.int)) ∈ TB := tb_at 631 (by decide +kernel) rfl
theorem mw_559 : (Jvm.Cond.methodLink "SprayedLetters$Post" (160 : Nat) ({ cls := "SprayedLetters$World", name := "loadOf", desc := "(I)I" } : Jvm.MethodName)) ∈ TB := tb_at 632 (by decide +kernel) rfl
theorem mw_560 : (Jvm.Cond.methodLink "SprayedLetters$Post" (163 : Nat) ({ cls := "SprayedLetters$World", name := "ownLoadOf", desc := "(I)I" } : Jvm.MethodName)) ∈ TB := tb_at 633 (by decide +kernel) rfl
theorem mw_561 : (Jvm.Cond.instanceMethod ({ cls := "SprayedLetters$World", name := "ownLoadOf", desc := "(I)I" } : Jvm.MethodName)) ∈ TB := tb_at 634 (by decide +kernel) rfl
theorem mw_562 : (Jvm.Cond.selects "SprayedLetters$World" ({ cls := "SprayedLetters$World", name := "ownLoadOf", desc := "(I)I" } : Jvm.MethodName) ({ cls := "SprayedLetters$World", name := "ownLoadOf", desc := "(I)I" } : Jvm.MethodName)) ∈ TB := tb_at 635 (by decide +kernel) rfl
theorem mw_563 : (Jvm.Cond.code ({ cls := "SprayedLetters$World", name := "ownLoadOf", desc := "(I)I" } : Jvm.MethodName) prog_6_method_13_code (4 : Nat) (Option.some Jvm.ClassFile.FieldType.int)) ∈ TB := tb_at 636 (by decide +kernel) rfl
theorem mw_564 : (Jvm.Cond.methodLink "SprayedLettersLaw" (70 : Nat) ({ cls := "SprayedLetters", name := "refusal", desc := "(I)I" } : Jvm.MethodName)) ∈ TB := tb_at 637 (by decide +kernel) rfl
theorem mw_565 : (Jvm.Cond.instanceMethod ({ cls := "SprayedLetters", name := "refusal", desc := "(I)I" } : Jvm.MethodName)) ∈ TB := tb_at 638 (by decide +kernel) rfl
theorem mw_566 : (Jvm.Cond.selects "SprayedLetters" ({ cls := "SprayedLetters", name := "refusal", desc := "(I)I" } : Jvm.MethodName) ({ cls := "SprayedLetters", name := "refusal", desc := "(I)I" } : Jvm.MethodName)) ∈ TB := tb_at 639 (by decide +kernel) rfl
theorem mw_567 : (Jvm.Cond.code ({ cls := "SprayedLetters", name := "refusal", desc := "(I)I" } : Jvm.MethodName) prog_1_method_15_code (2 : Nat) (Option.some Jvm.ClassFile.FieldType.int)) ∈ TB := tb_at 640 (by decide +kernel) rfl
theorem mw_568 : (Jvm.Cond.methodLink "SprayedLettersLaw" (74 : Nat) ({ cls := "SprayedLetters", name := "tick", desc := "(I)I" } : Jvm.MethodName)) ∈ TB := tb_at 641 (by decide +kernel) rfl
theorem mw_569 : (Jvm.Cond.instanceMethod ({ cls := "SprayedLetters", name := "tick", desc := "(I)I" } : Jvm.MethodName)) ∈ TB := tb_at 642 (by decide +kernel) rfl
theorem mw_570 : (Jvm.Cond.selects "SprayedLetters" ({ cls := "SprayedLetters", name := "tick", desc := "(I)I" } : Jvm.MethodName) ({ cls := "SprayedLetters", name := "tick", desc := "(I)I" } : Jvm.MethodName)) ∈ TB := tb_at 643 (by decide +kernel) rfl
theorem mw_571 : (Jvm.Cond.code ({ cls := "SprayedLetters", name := "tick", desc := "(I)I" } : Jvm.MethodName) prog_1_method_16_code (4 : Nat) (Option.some Jvm.ClassFile.FieldType.int)) ∈ TB := tb_at 644 (by decide +kernel) rfl
theorem mw_572 : (Jvm.Cond.methodLink "SprayedLetters" (195 : Nat) ({ cls := "SprayedLetters$Post", name := "passMinute", desc := "()V" } : Jvm.MethodName)) ∈ TB := tb_at 645 (by decide +kernel) rfl
theorem mw_573 : (Jvm.Cond.instanceMethod ({ cls := "SprayedLetters$Post", name := "passMinute", desc := "()V" } : Jvm.MethodName)) ∈ TB := tb_at 646 (by decide +kernel) rfl
theorem mw_574 : (Jvm.Cond.selects "SprayedLetters$Post" ({ cls := "SprayedLetters$Post", name := "passMinute", desc := "()V" } : Jvm.MethodName) ({ cls := "SprayedLetters$Post", name := "passMinute", desc := "()V" } : Jvm.MethodName)) ∈ TB := tb_at 647 (by decide +kernel) rfl
theorem mw_575 : (Jvm.Cond.code ({ cls := "SprayedLetters$Post", name := "passMinute", desc := "()V" } : Jvm.MethodName) prog_3_method_2_code (2 : Nat) (Option.none : Option Jvm.ClassFile.FieldType)) ∈ TB := tb_at 648 (by decide +kernel) rfl
theorem mw_576 : (Jvm.Cond.methodLink "SprayedLetters$Post" (34 : Nat) ({ cls := "SprayedLetters$Post", name := "expire", desc := "()V" } : Jvm.MethodName)) ∈ TB := tb_at 649 (by decide +kernel) rfl
theorem mw_578 : (Jvm.Cond.instanceMethod ({ cls := "SprayedLetters$Post", name := "expire", desc := "()V" } : Jvm.MethodName)) ∈ TB := tb_at 651 (by decide +kernel) rfl
theorem mw_579 : (Jvm.Cond.code ({ cls := "SprayedLetters$Post", name := "expire", desc := "()V" } : Jvm.MethodName) prog_3_method_3_code (3 : Nat) (Option.none : Option Jvm.ClassFile.FieldType)) ∈ TB := tb_at 652 (by decide +kernel) rfl
theorem mw_580 : (Jvm.Cond.methodLink "SprayedLetters$Post" (78 : Nat) ({ cls := "SprayedLetters$World", name := "removeCopy", desc := "(II)V" } : Jvm.MethodName)) ∈ TB := tb_at 653 (by decide +kernel) rfl
theorem mw_581 : (Jvm.Cond.instanceMethod ({ cls := "SprayedLetters$World", name := "removeCopy", desc := "(II)V" } : Jvm.MethodName)) ∈ TB := tb_at 654 (by decide +kernel) rfl
theorem mw_582 : (Jvm.Cond.selects "SprayedLetters$World" ({ cls := "SprayedLetters$World", name := "removeCopy", desc := "(II)V" } : Jvm.MethodName) ({ cls := "SprayedLetters$World", name := "removeCopy", desc := "(II)V" } : Jvm.MethodName)) ∈ TB := tb_at 655 (by decide +kernel) rfl
theorem mw_583 : (Jvm.Cond.code ({ cls := "SprayedLetters$World", name := "removeCopy", desc := "(II)V" } : Jvm.MethodName) prog_6_method_19_code (3 : Nat) (Option.none : Option Jvm.ClassFile.FieldType)) ∈ TB := tb_at 656 (by decide +kernel) rfl
theorem mw_584 : (Jvm.Cond.methodLink "SprayedLetters$Post" (46 : Nat) ({ cls := "SprayedLetters$Post", name := "bear", desc := "(I)V" } : Jvm.MethodName)) ∈ TB := tb_at 657 (by decide +kernel) rfl
theorem mw_585 : (Jvm.Cond.instanceMethod ({ cls := "SprayedLetters$Post", name := "bear", desc := "(I)V" } : Jvm.MethodName)) ∈ TB := tb_at 658 (by decide +kernel) rfl
theorem mw_586 : (Jvm.Cond.selects "SprayedLetters$Post" ({ cls := "SprayedLetters$Post", name := "bear", desc := "(I)V" } : Jvm.MethodName) ({ cls := "SprayedLetters$Post", name := "bear", desc := "(I)V" } : Jvm.MethodName)) ∈ TB := tb_at 659 (by decide +kernel) rfl
theorem mw_587 : (Jvm.Cond.code ({ cls := "SprayedLetters$Post", name := "bear", desc := "(I)V" } : Jvm.MethodName) prog_3_method_4_code (3 : Nat) (Option.none : Option Jvm.ClassFile.FieldType)) ∈ TB := tb_at 660 (by decide +kernel) rfl
theorem mw_588 : (Jvm.Cond.methodLink "SprayedLetters$Post" (88 : Nat) ({ cls := "SprayedLetters$Post", name := "makeRoom", desc := "(II)V" } : Jvm.MethodName)) ∈ TB := tb_at 661 (by decide +kernel) rfl
theorem mw_590 : (Jvm.Cond.instanceMethod ({ cls := "SprayedLetters$Post", name := "makeRoom", desc := "(II)V" } : Jvm.MethodName)) ∈ TB := tb_at 663 (by decide +kernel) rfl
theorem mw_591 : (Jvm.Cond.code ({ cls := "SprayedLetters$Post", name := "makeRoom", desc := "(II)V" } : Jvm.MethodName) prog_3_method_15_code (6 : Nat) (Option.none : Option Jvm.ClassFile.FieldType)) ∈ TB := tb_at 664 (by decide +kernel) rfl
theorem mw_592 : (Jvm.Cond.methodLink "SprayedLetters$Post" (166 : Nat) ({ cls := "SprayedLetters$Post", name := "firstToGo", desc := "(I)I" } : Jvm.MethodName)) ∈ TB := tb_at 665 (by decide +kernel) rfl
theorem mw_594 : (Jvm.Cond.instanceMethod ({ cls := "SprayedLetters$Post", name := "firstToGo", desc := "(I)I" } : Jvm.MethodName)) ∈ TB := tb_at 667 (by decide +kernel) rfl
theorem mw_595 : (Jvm.Cond.code ({ cls := "SprayedLetters$Post", name := "firstToGo", desc := "(I)I" } : Jvm.MethodName) prog_3_method_16_code (6 : Nat) (Option.some Jvm.ClassFile.FieldType.int)) ∈ TB := tb_at 668 (by decide +kernel) rfl
theorem mw_596 : (Jvm.Cond.methodLink "SprayedLetters$Post" (169 : Nat) ({ cls := "SprayedLetters$Post", name := "rankToGo", desc := "(II)I" } : Jvm.MethodName)) ∈ TB := tb_at 669 (by decide +kernel) rfl
theorem mw_598 : (Jvm.Cond.instanceMethod ({ cls := "SprayedLetters$Post", name := "rankToGo", desc := "(II)I" } : Jvm.MethodName)) ∈ TB := tb_at 671 (by decide +kernel) rfl
theorem mw_599 : (Jvm.Cond.code ({ cls := "SprayedLetters$Post", name := "rankToGo", desc := "(II)I" } : Jvm.MethodName) prog_3_method_17_code (3 : Nat) (Option.some Jvm.ClassFile.FieldType.int)) ∈ TB := tb_at 672 (by decide +kernel) rfl
theorem mw_600 : (Jvm.Cond.methodLink "SprayedLetters$Post" (91 : Nat) ({ cls := "SprayedLetters$World", name := "putCopy", desc := "(IIII)V" } : Jvm.MethodName)) ∈ TB := tb_at 673 (by decide +kernel) rfl
theorem mw_601 : (Jvm.Cond.instanceMethod ({ cls := "SprayedLetters$World", name := "putCopy", desc := "(IIII)V" } : Jvm.MethodName)) ∈ TB := tb_at 674 (by decide +kernel) rfl
theorem mw_602 : (Jvm.Cond.selects "SprayedLetters$World" ({ cls := "SprayedLetters$World", name := "putCopy", desc := "(IIII)V" } : Jvm.MethodName) ({ cls := "SprayedLetters$World", name := "putCopy", desc := "(IIII)V" } : Jvm.MethodName)) ∈ TB := tb_at 675 (by decide +kernel) rfl
theorem mw_603 : (Jvm.Cond.code ({ cls := "SprayedLetters$World", name := "putCopy", desc := "(IIII)V" } : Jvm.MethodName) prog_6_method_18_code (6 : Nat) (Option.none : Option Jvm.ClassFile.FieldType)) ∈ TB := tb_at 676 (by decide +kernel) rfl
theorem mw_604 : (Jvm.Cond.methodLink "SprayedLetters$Post" (63 : Nat) ({ cls := "SprayedLetters$Post", name := "holdMeeting", desc := "(III)V" } : Jvm.MethodName)) ∈ TB := tb_at 677 (by decide +kernel) rfl
theorem mw_605 : (Jvm.Cond.instanceMethod ({ cls := "SprayedLetters$Post", name := "holdMeeting", desc := "(III)V" } : Jvm.MethodName)) ∈ TB := tb_at 678 (by decide +kernel) rfl
theorem mw_606 : (Jvm.Cond.selects "SprayedLetters$Post" ({ cls := "SprayedLetters$Post", name := "holdMeeting", desc := "(III)V" } : Jvm.MethodName) ({ cls := "SprayedLetters$Post", name := "holdMeeting", desc := "(III)V" } : Jvm.MethodName)) ∈ TB := tb_at 679 (by decide +kernel) rfl
theorem mw_607 : (Jvm.Cond.code ({ cls := "SprayedLetters$Post", name := "holdMeeting", desc := "(III)V" } : Jvm.MethodName) prog_3_method_5_code (5 : Nat) (Option.none : Option Jvm.ClassFile.FieldType)) ∈ TB := tb_at 680 (by decide +kernel) rfl
theorem mw_608 : (Jvm.Cond.methodLink "SprayedLetters$Post" (105 : Nat) ({ cls := "SprayedLetters$Post", name := "cure", desc := "(I)V" } : Jvm.MethodName)) ∈ TB := tb_at 681 (by decide +kernel) rfl
theorem mw_610 : (Jvm.Cond.instanceMethod ({ cls := "SprayedLetters$Post", name := "cure", desc := "(I)V" } : Jvm.MethodName)) ∈ TB := tb_at 683 (by decide +kernel) rfl
theorem mw_611 : (Jvm.Cond.code ({ cls := "SprayedLetters$Post", name := "cure", desc := "(I)V" } : Jvm.MethodName) prog_3_method_6_code (3 : Nat) (Option.none : Option Jvm.ClassFile.FieldType)) ∈ TB := tb_at 684 (by decide +kernel) rfl
theorem mw_612 : (Jvm.Cond.methodLink "SprayedLetters$Post" (108 : Nat) ({ cls := "SprayedLetters$Post", name := "handAll", desc := "(II)V" } : Jvm.MethodName)) ∈ TB := tb_at 685 (by decide +kernel) rfl
theorem mw_614 : (Jvm.Cond.instanceMethod ({ cls := "SprayedLetters$Post", name := "handAll", desc := "(II)V" } : Jvm.MethodName)) ∈ TB := tb_at 687 (by decide +kernel) rfl
theorem mw_615 : (Jvm.Cond.code ({ cls := "SprayedLetters$Post", name := "handAll", desc := "(II)V" } : Jvm.MethodName) prog_3_method_7_code (7 : Nat) (Option.none : Option Jvm.ClassFile.FieldType)) ∈ TB := tb_at 688 (by decide +kernel) rfl
theorem mw_616 : (Jvm.Cond.methodLink "SprayedLetters$Post" (117 : Nat) ({ cls := "SprayedLetters$Post", name := "reasonAgainst", desc := "(IIII)I" } : Jvm.MethodName)) ∈ TB := tb_at 689 (by decide +kernel) rfl
theorem mw_617 : (Jvm.Cond.methodLink "SprayedLetters$Post" (121 : Nat) ({ cls := "SprayedLetters$Post", name := "handOver", desc := "(III)V" } : Jvm.MethodName)) ∈ TB := tb_at 690 (by decide +kernel) rfl
theorem mw_619 : (Jvm.Cond.instanceMethod ({ cls := "SprayedLetters$Post", name := "handOver", desc := "(III)V" } : Jvm.MethodName)) ∈ TB := tb_at 692 (by decide +kernel) rfl
theorem mw_620 : (Jvm.Cond.code ({ cls := "SprayedLetters$Post", name := "handOver", desc := "(III)V" } : Jvm.MethodName) prog_3_method_8_code (7 : Nat) (Option.none : Option Jvm.ClassFile.FieldType)) ∈ TB := tb_at 693 (by decide +kernel) rfl
theorem mw_621 : (Jvm.Cond.methodLink "SprayedLetters$Post" (127 : Nat) ({ cls := "SprayedLetters$Post", name := "deliver", desc := "(III)V" } : Jvm.MethodName)) ∈ TB := tb_at 694 (by decide +kernel) rfl
theorem mw_623 : (Jvm.Cond.instanceMethod ({ cls := "SprayedLetters$Post", name := "deliver", desc := "(III)V" } : Jvm.MethodName)) ∈ TB := tb_at 696 (by decide +kernel) rfl
theorem mw_624 : (Jvm.Cond.code ({ cls := "SprayedLetters$Post", name := "deliver", desc := "(III)V" } : Jvm.MethodName) prog_3_method_9_code (4 : Nat) (Option.none : Option Jvm.ClassFile.FieldType)) ∈ TB := tb_at 697 (by decide +kernel) rfl
theorem mw_625 : (Jvm.Cond.methodLink "SprayedLetters$Post" (124 : Nat) ({ cls := "SprayedLetters$Post", name := "rememberRefusal", desc := "(IIII)V" } : Jvm.MethodName)) ∈ TB := tb_at 698 (by decide +kernel) rfl
theorem mw_627 : (Jvm.Cond.instanceMethod ({ cls := "SprayedLetters$Post", name := "rememberRefusal", desc := "(IIII)V" } : Jvm.MethodName)) ∈ TB := tb_at 700 (by decide +kernel) rfl
theorem mw_628 : (Jvm.Cond.code ({ cls := "SprayedLetters$Post", name := "rememberRefusal", desc := "(IIII)V" } : Jvm.MethodName) prog_3_method_10_code (7 : Nat) (Option.none : Option Jvm.ClassFile.FieldType)) ∈ TB := tb_at 701 (by decide +kernel) rfl
theorem mw_629 : (Jvm.Cond.methodLink "SprayedLetters$Post" (111 : Nat) ({ cls := "SprayedLetters$World", name := "noteMet", desc := "(II)V" } : Jvm.MethodName)) ∈ TB := tb_at 702 (by decide +kernel) rfl
theorem mw_630 : (Jvm.Cond.instanceMethod ({ cls := "SprayedLetters$World", name := "noteMet", desc := "(II)V" } : Jvm.MethodName)) ∈ TB := tb_at 703 (by decide +kernel) rfl
theorem mw_631 : (Jvm.Cond.selects "SprayedLetters$World" ({ cls := "SprayedLetters$World", name := "noteMet", desc := "(II)V" } : Jvm.MethodName) ({ cls := "SprayedLetters$World", name := "noteMet", desc := "(II)V" } : Jvm.MethodName)) ∈ TB := tb_at 704 (by decide +kernel) rfl
theorem mw_632 : (Jvm.Cond.code ({ cls := "SprayedLetters$World", name := "noteMet", desc := "(II)V" } : Jvm.MethodName) prog_6_method_15_code (3 : Nat) (Option.none : Option Jvm.ClassFile.FieldType)) ∈ TB := tb_at 705 (by decide +kernel) rfl
theorem mw_633 : (Jvm.Cond.methodLink "SprayedLettersLaw" (78 : Nat) ({ cls := "SprayedLetters", name := "meet", desc := "(III)I" } : Jvm.MethodName)) ∈ TB := tb_at 706 (by decide +kernel) rfl
theorem mw_634 : (Jvm.Cond.instanceMethod ({ cls := "SprayedLetters", name := "meet", desc := "(III)I" } : Jvm.MethodName)) ∈ TB := tb_at 707 (by decide +kernel) rfl
theorem mw_635 : (Jvm.Cond.selects "SprayedLetters" ({ cls := "SprayedLetters", name := "meet", desc := "(III)I" } : Jvm.MethodName) ({ cls := "SprayedLetters", name := "meet", desc := "(III)I" } : Jvm.MethodName)) ∈ TB := tb_at 708 (by decide +kernel) rfl
theorem mw_636 : (Jvm.Cond.code ({ cls := "SprayedLetters", name := "meet", desc := "(III)I" } : Jvm.MethodName) prog_1_method_17_code (5 : Nat) (Option.some Jvm.ClassFile.FieldType.int)) ∈ TB := tb_at 709 (by decide +kernel) rfl
theorem mw_637 : (Jvm.Cond.methodLink "SprayedLetters" (198 : Nat) ({ cls := "SprayedLetters$Post", name := "holdMeeting", desc := "(III)V" } : Jvm.MethodName)) ∈ TB := tb_at 710 (by decide +kernel) rfl
theorem mw_638 : (Jvm.Cond.methodLink "SprayedLettersLaw" (82 : Nat) ({ cls := "SprayedLetters", name := "send", desc := "(IIIII)I" } : Jvm.MethodName)) ∈ TB := tb_at 711 (by decide +kernel) rfl
theorem mw_639 : (Jvm.Cond.instanceMethod ({ cls := "SprayedLetters", name := "send", desc := "(IIIII)I" } : Jvm.MethodName)) ∈ TB := tb_at 712 (by decide +kernel) rfl
theorem mw_640 : (Jvm.Cond.selects "SprayedLetters" ({ cls := "SprayedLetters", name := "send", desc := "(IIIII)I" } : Jvm.MethodName) ({ cls := "SprayedLetters", name := "send", desc := "(IIIII)I" } : Jvm.MethodName)) ∈ TB := tb_at 713 (by decide +kernel) rfl
theorem mw_641 : (Jvm.Cond.code ({ cls := "SprayedLetters", name := "send", desc := "(IIIII)I" } : Jvm.MethodName) prog_1_method_18_code (7 : Nat) (Option.some Jvm.ClassFile.FieldType.int)) ∈ TB := tb_at 714 (by decide +kernel) rfl
theorem mw_642 : (Jvm.Cond.methodLink "SprayedLetters" (202 : Nat) ({ cls := "SprayedLetters$Plan", name := "addLetter", desc := "(IIIIII)V" } : Jvm.MethodName)) ∈ TB := tb_at 715 (by decide +kernel) rfl
theorem mw_643 : (Jvm.Cond.methodLink "SprayedLetters" (206 : Nat) ({ cls := "SprayedLetters$Post", name := "bear", desc := "(I)V" } : Jvm.MethodName)) ∈ TB := tb_at 716 (by decide +kernel) rfl
theorem mw_644 : (Jvm.Cond.methodLink "SprayedLettersLaw" (87 : Nat) ({ cls := "SprayedLetters", name := "set", desc := "(II)I" } : Jvm.MethodName)) ∈ TB := tb_at 717 (by decide +kernel) rfl
theorem mw_645 : (Jvm.Cond.instanceMethod ({ cls := "SprayedLetters", name := "set", desc := "(II)I" } : Jvm.MethodName)) ∈ TB := tb_at 718 (by decide +kernel) rfl
theorem mw_646 : (Jvm.Cond.selects "SprayedLetters" ({ cls := "SprayedLetters", name := "set", desc := "(II)I" } : Jvm.MethodName) ({ cls := "SprayedLetters", name := "set", desc := "(II)I" } : Jvm.MethodName)) ∈ TB := tb_at 719 (by decide +kernel) rfl
theorem mw_647 : (Jvm.Cond.code ({ cls := "SprayedLetters", name := "set", desc := "(II)I" } : Jvm.MethodName) prog_1_method_19_code (4 : Nat) (Option.some Jvm.ClassFile.FieldType.int)) ∈ TB := tb_at 720 (by decide +kernel) rfl
theorem mw_648 : (Jvm.Cond.fieldLink "SprayedLetters" (210 : Nat) "SprayedLetters$World" "MOST_OF_RULE" "[I") ∈ TB := tb_at 721 (by decide +kernel) rfl
theorem mw_650 : (Jvm.Cond.methodLink "SprayedLettersLaw" (91 : Nat) ({ cls := "SprayedLetters", name := "draw", desc := "(II)I" } : Jvm.MethodName)) ∈ TB := tb_at 723 (by decide +kernel) rfl
theorem mw_651 : (Jvm.Cond.instanceMethod ({ cls := "SprayedLetters", name := "draw", desc := "(II)I" } : Jvm.MethodName)) ∈ TB := tb_at 724 (by decide +kernel) rfl
theorem mw_652 : (Jvm.Cond.selects "SprayedLetters" ({ cls := "SprayedLetters", name := "draw", desc := "(II)I" } : Jvm.MethodName) ({ cls := "SprayedLetters", name := "draw", desc := "(II)I" } : Jvm.MethodName)) ∈ TB := tb_at 725 (by decide +kernel) rfl
theorem mw_653 : (Jvm.Cond.code ({ cls := "SprayedLetters", name := "draw", desc := "(II)I" } : Jvm.MethodName) prog_1_method_20_code (9 : Nat) (Option.some Jvm.ClassFile.FieldType.int)) ∈ TB := tb_at 726 (by decide +kernel) rfl
theorem mw_654 : (Jvm.Cond.methodLink "SprayedLetters" (213 : Nat) ({ cls := "SprayedLetters", name := "nextSeed", desc := "(I)I" } : Jvm.MethodName)) ∈ TB := tb_at 727 (by decide +kernel) rfl
theorem mw_655 : (Jvm.Cond.static ({ cls := "SprayedLetters", name := "nextSeed", desc := "(I)I" } : Jvm.MethodName)) ∈ TB := tb_at 728 (by decide +kernel) rfl
theorem mw_656 : (Jvm.Cond.code ({ cls := "SprayedLetters", name := "nextSeed", desc := "(I)I" } : Jvm.MethodName) prog_1_method_24_code (1 : Nat) (Option.some Jvm.ClassFile.FieldType.int)) ∈ TB := tb_at 729 (by decide +kernel) rfl
theorem mw_657 : (Jvm.Cond.constant "SprayedLetters" (221 : Nat) (1103515245 : Int32)) ∈ TB := tb_at 730 (by decide +kernel) rfl
theorem mw_658 : (Jvm.Cond.methodLink "SprayedLetters" (216 : Nat) ({ cls := "SprayedLetters", name := "bitsGot", desc := "(I)I" } : Jvm.MethodName)) ∈ TB := tb_at 731 (by decide +kernel) rfl
theorem mw_659 : (Jvm.Cond.static ({ cls := "SprayedLetters", name := "bitsGot", desc := "(I)I" } : Jvm.MethodName)) ∈ TB := tb_at 732 (by decide +kernel) rfl
theorem mw_660 : (Jvm.Cond.code ({ cls := "SprayedLetters", name := "bitsGot", desc := "(I)I" } : Jvm.MethodName) prog_1_method_25_code (1 : Nat) (Option.some Jvm.ClassFile.FieldType.int)) ∈ TB := tb_at 733 (by decide +kernel) rfl
theorem mw_661 : (Jvm.Cond.methodLink "SprayedLettersLaw" (95 : Nat) ({ cls := "SprayedLetters", name := "keep", desc := "(I)I" } : Jvm.MethodName)) ∈ TB := tb_at 734 (by decide +kernel) rfl
theorem mw_662 : (Jvm.Cond.instanceMethod ({ cls := "SprayedLetters", name := "keep", desc := "(I)I" } : Jvm.MethodName)) ∈ TB := tb_at 735 (by decide +kernel) rfl
theorem mw_663 : (Jvm.Cond.selects "SprayedLetters" ({ cls := "SprayedLetters", name := "keep", desc := "(I)I" } : Jvm.MethodName) ({ cls := "SprayedLetters", name := "keep", desc := "(I)I" } : Jvm.MethodName)) ∈ TB := tb_at 736 (by decide +kernel) rfl
theorem mw_664 : (Jvm.Cond.code ({ cls := "SprayedLetters", name := "keep", desc := "(I)I" } : Jvm.MethodName) prog_1_method_21_code (3 : Nat) (Option.some Jvm.ClassFile.FieldType.int)) ∈ TB := tb_at 737 (by decide +kernel) rfl
theorem mw_665 : (Jvm.Cond.methodLink "SprayedLetters" (219 : Nat) ({ cls := "SprayedLetters$World", name := "copyFrom", desc := "(LSprayedLetters$World;)V" } : Jvm.MethodName)) ∈ TB := tb_at 738 (by decide +kernel) rfl
theorem mw_666 : (Jvm.Cond.instanceMethod ({ cls := "SprayedLetters$World", name := "copyFrom", desc := "(LSprayedLetters$World;)V" } : Jvm.MethodName)) ∈ TB := tb_at 739 (by decide +kernel) rfl
theorem mw_667 : (Jvm.Cond.selects "SprayedLetters$World" ({ cls := "SprayedLetters$World", name := "copyFrom", desc := "(LSprayedLetters$World;)V" } : Jvm.MethodName) ({ cls := "SprayedLetters$World", name := "copyFrom", desc := "(LSprayedLetters$World;)V" } : Jvm.MethodName)) ∈ TB := tb_at 740 (by decide +kernel) rfl
theorem mw_668 : (Jvm.Cond.code ({ cls := "SprayedLetters$World", name := "copyFrom", desc := "(LSprayedLetters$World;)V" } : Jvm.MethodName) prog_6_method_5_code (2 : Nat) (Option.none : Option Jvm.ClassFile.FieldType)) ∈ TB := tb_at 741 (by decide +kernel) rfl
theorem mw_669 : (Jvm.Cond.methodLink "SprayedLetters$World" (60 : Nat) ({ cls := "SprayedLetters$Plan", name := "copyFrom", desc := "(LSprayedLetters$Plan;)V" } : Jvm.MethodName)) ∈ TB := tb_at 742 (by decide +kernel) rfl
theorem mw_670 : (Jvm.Cond.methodLink "SprayedLetters$World" (64 : Nat) ({ cls := "SprayedLetters$World", name := "take", desc := "([I[I)V" } : Jvm.MethodName)) ∈ TB := tb_at 743 (by decide +kernel) rfl
theorem mw_671 : (Jvm.Cond.static ({ cls := "SprayedLetters$World", name := "take", desc := "([I[I)V" } : Jvm.MethodName)) ∈ TB := tb_at 744 (by decide +kernel) rfl
theorem mw_672 : (Jvm.Cond.code ({ cls := "SprayedLetters$World", name := "take", desc := "([I[I)V" } : Jvm.MethodName) prog_6_method_6_code (2 : Nat) (Option.none : Option Jvm.ClassFile.FieldType)) ∈ TB := tb_at 745 (by decide +kernel) rfl
theorem mw_673 : (Jvm.Cond.methodLink "SprayedLetters$World" (68 : Nat) ({ cls := "java/lang/Math", name := "min", desc := "(II)I" } : Jvm.MethodName)) ∈ TB := tb_at 746 (by decide +kernel) rfl
theorem mw_674 : (Jvm.Cond.static ({ cls := "java/lang/Math", name := "min", desc := "(II)I" } : Jvm.MethodName)) ∈ TB := tb_at 747 (by decide +kernel) rfl
theorem mw_675 : (Jvm.Cond.code ({ cls := "java/lang/Math", name := "min", desc := "(II)I" } : Jvm.MethodName) prog_10_method_69_code (2 : Nat) (Option.some Jvm.ClassFile.FieldType.int)) ∈ TB := tb_at 748 (by decide +kernel) rfl
theorem mw_676 : (Jvm.Cond.methodLink "SprayedLetters$World" (74 : Nat) ({ cls := "java/lang/System", name := "arraycopy", desc := "(Ljava/lang/Object;ILjava/lang/Object;II)V" } : Jvm.MethodName)) ∈ TB := tb_at 749 (by decide +kernel) rfl
theorem mw_677 : (Jvm.Cond.methodLink "SprayedLettersLaw" (99 : Nat) ({ cls := "SprayedLetters", name := "back", desc := "(I)I" } : Jvm.MethodName)) ∈ TB := tb_at 750 (by decide +kernel) rfl
theorem mw_678 : (Jvm.Cond.instanceMethod ({ cls := "SprayedLetters", name := "back", desc := "(I)I" } : Jvm.MethodName)) ∈ TB := tb_at 751 (by decide +kernel) rfl
theorem mw_679 : (Jvm.Cond.selects "SprayedLetters" ({ cls := "SprayedLetters", name := "back", desc := "(I)I" } : Jvm.MethodName) ({ cls := "SprayedLetters", name := "back", desc := "(I)I" } : Jvm.MethodName)) ∈ TB := tb_at 752 (by decide +kernel) rfl
theorem mw_680 : (Jvm.Cond.code ({ cls := "SprayedLetters", name := "back", desc := "(I)I" } : Jvm.MethodName) prog_1_method_22_code (2 : Nat) (Option.some Jvm.ClassFile.FieldType.int)) ∈ TB := tb_at 753 (by decide +kernel) rfl
theorem mw_681 : (Jvm.Cond.classLink "SprayedLettersLaw" (10 : Nat) "SprayedLettersModel") ∈ TB := tb_at 754 (by decide +kernel) rfl
theorem mw_682 : (Jvm.Cond.instantiable "SprayedLettersModel" (20 : Nat)) ∈ TB := tb_at 755 (by decide +kernel) rfl
theorem mw_683 : (Jvm.Cond.methodLink "SprayedLettersLaw" (12 : Nat) ({ cls := "SprayedLettersModel", name := "<init>", desc := "()V" } : Jvm.MethodName)) ∈ TB := tb_at 756 (by decide +kernel) rfl
theorem mw_684 : (Jvm.Cond.instanceMethod ({ cls := "SprayedLettersModel", name := "<init>", desc := "()V" } : Jvm.MethodName)) ∈ TB := tb_at 757 (by decide +kernel) rfl
theorem mw_685 : (Jvm.Cond.code ({ cls := "SprayedLettersModel", name := "<init>", desc := "()V" } : Jvm.MethodName) prog_8_method_1_code (1 : Nat) (Option.none : Option Jvm.ClassFile.FieldType)) ∈ TB := tb_at 758 (by decide +kernel) rfl
theorem mw_686 : (Jvm.Cond.methodLink "SprayedLettersModel" (1 : Nat) ({ cls := "java/lang/Object", name := "<init>", desc := "()V" } : Jvm.MethodName)) ∈ TB := tb_at 759 (by decide +kernel) rfl
theorem mw_687 : (Jvm.Cond.fieldLink "SprayedLettersModel" (7 : Nat) "SprayedLettersModel" "page" "[I") ∈ TB := tb_at 760 (by decide +kernel) rfl
theorem mw_688 : (Jvm.Cond.fieldLink "SprayedLettersModel" (13 : Nat) "SprayedLettersModel" "draft" "[I") ∈ TB := tb_at 761 (by decide +kernel) rfl
theorem mw_689 : (Jvm.Cond.fieldLink "SprayedLettersModel" (16 : Nat) "SprayedLettersModel" "kept" "[I") ∈ TB := tb_at 762 (by decide +kernel) rfl
theorem mw_690 : (Jvm.Cond.fieldLink "SprayedLettersModel" (19 : Nat) "SprayedLettersModel" "isKept" "[Z") ∈ TB := tb_at 763 (by decide +kernel) rfl
theorem mw_691 : (Jvm.Cond.fieldLink "SprayedLettersModel" (23 : Nat) "SprayedLettersModel" "tape" "[I") ∈ TB := tb_at 764 (by decide +kernel) rfl
theorem mw_692 : (Jvm.Cond.fieldLink "SprayedLettersModel" (44 : Nat) "SprayedLettersModel" "taped" "I") ∈ TB := tb_at 765 (by decide +kernel) rfl
theorem mw_693 : (Jvm.Cond.fieldLink "SprayedLettersModel" (48 : Nat) "SprayedLettersModel" "fault" "I") ∈ TB := tb_at 766 (by decide +kernel) rfl
theorem mw_694 : (Jvm.Cond.fieldLink "SprayedLettersModel" (54 : Nat) "SprayedLettersModel" "brokenAt" "I") ∈ TB := tb_at 767 (by decide +kernel) rfl
theorem mw_695 : (Jvm.Cond.fieldLink "SprayedLettersModel" (57 : Nat) "SprayedLettersModel" "spot" "I") ∈ TB := tb_at 768 (by decide +kernel) rfl
theorem mw_696 : (Jvm.Cond.fieldLink "SprayedLettersModel" (51 : Nat) "SprayedLettersModel" "here" "I") ∈ TB := tb_at 769 (by decide +kernel) rfl
theorem mw_697 : (Jvm.Cond.fieldLink "SprayedLettersModel" (67 : Nat) "SprayedLettersModel" "token" "I") ∈ TB := tb_at 770 (by decide +kernel) rfl
theorem mw_698 : (Jvm.Cond.fieldLink "SprayedLettersModel" (64 : Nat) "SprayedLettersModel" "value" "I") ∈ TB := tb_at 771 (by decide +kernel) rfl
theorem mw_699 : (Jvm.Cond.fieldLink "SprayedLettersModel" (26 : Nat) "SprayedLettersModel" "ends" "[I") ∈ TB := tb_at 772 (by decide +kernel) rfl
theorem mw_700 : (Jvm.Cond.fieldLink "SprayedLettersModel" (29 : Nat) "SprayedLettersModel" "words" "[I") ∈ TB := tb_at 773 (by decide +kernel) rfl
theorem mw_701 : (Jvm.Cond.fieldLink "SprayedLettersModel" (87 : Nat) "SprayedLettersModel" "greatest" "I") ∈ TB := tb_at 774 (by decide +kernel) rfl
theorem mw_702 : (Jvm.Cond.fieldLink "SprayedLettersModel" (32 : Nat) "SprayedLettersModel" "isLeft" "[Z") ∈ TB := tb_at 775 (by decide +kernel) rfl
theorem mw_703 : (Jvm.Cond.fieldLink "SprayedLettersModel" (172 : Nat) "SprayedLettersModel" "left" "I") ∈ TB := tb_at 776 (by decide +kernel) rfl
theorem mw_704 : (Jvm.Cond.fieldLink "SprayedLettersModel" (165 : Nat) "SprayedLettersModel" "isRefused" "Z") ∈ TB := tb_at 777 (by decide +kernel) rfl
theorem mw_705 : (Jvm.Cond.fieldLink "SprayedLettersModel" (35 : Nat) "SprayedLettersModel" "has" "[Z") ∈ TB := tb_at 778 (by decide +kernel) rfl
theorem mw_706 : (Jvm.Cond.fieldLink "SprayedLettersModel" (252 : Nat) "SprayedLettersModel" "drawn" "I") ∈ TB := tb_at 779 (by decide +kernel) rfl
theorem mw_707 : (Jvm.Cond.laysFinal "SprayedLettersModel" "SprayedLettersModel" "page" "[I") ∈ TB := tb_at 780 (by decide +kernel) rfl
theorem mw_709 : (Jvm.Cond.laysFinal "SprayedLettersModel" "SprayedLettersModel" "draft" "[I") ∈ TB := tb_at 782 (by decide +kernel) rfl
theorem mw_711 : (Jvm.Cond.laysFinal "SprayedLettersModel" "SprayedLettersModel" "kept" "[I") ∈ TB := tb_at 784 (by decide +kernel) rfl
theorem mw_713 : (Jvm.Cond.laysFinal "SprayedLettersModel" "SprayedLettersModel" "isKept" "[Z") ∈ TB := tb_at 786 (by decide +kernel) rfl
theorem mw_715 : (Jvm.Cond.laysFinal "SprayedLettersModel" "SprayedLettersModel" "tape" "[I") ∈ TB := tb_at 788 (by decide +kernel) rfl
theorem mw_717 : (Jvm.Cond.lays "SprayedLettersModel" "SprayedLettersModel" "taped" "I") ∈ TB := tb_at 790 (by decide +kernel) rfl
theorem mw_719 : (Jvm.Cond.lays "SprayedLettersModel" "SprayedLettersModel" "fault" "I") ∈ TB := tb_at 792 (by decide +kernel) rfl
theorem mw_721 : (Jvm.Cond.lays "SprayedLettersModel" "SprayedLettersModel" "brokenAt" "I") ∈ TB := tb_at 794 (by decide +kernel) rfl
theorem mw_723 : (Jvm.Cond.lays "SprayedLettersModel" "SprayedLettersModel" "spot" "I") ∈ TB := tb_at 796 (by decide +kernel) rfl
theorem mw_725 : (Jvm.Cond.lays "SprayedLettersModel" "SprayedLettersModel" "here" "I") ∈ TB := tb_at 798 (by decide +kernel) rfl
theorem mw_727 : (Jvm.Cond.lays "SprayedLettersModel" "SprayedLettersModel" "token" "I") ∈ TB := tb_at 800 (by decide +kernel) rfl
theorem mw_729 : (Jvm.Cond.lays "SprayedLettersModel" "SprayedLettersModel" "value" "I") ∈ TB := tb_at 802 (by decide +kernel) rfl
theorem mw_731 : (Jvm.Cond.laysFinal "SprayedLettersModel" "SprayedLettersModel" "ends" "[I") ∈ TB := tb_at 804 (by decide +kernel) rfl
theorem mw_733 : (Jvm.Cond.laysFinal "SprayedLettersModel" "SprayedLettersModel" "words" "[I") ∈ TB := tb_at 806 (by decide +kernel) rfl
theorem mw_735 : (Jvm.Cond.lays "SprayedLettersModel" "SprayedLettersModel" "greatest" "I") ∈ TB := tb_at 808 (by decide +kernel) rfl
theorem mw_737 : (Jvm.Cond.laysFinal "SprayedLettersModel" "SprayedLettersModel" "isLeft" "[Z") ∈ TB := tb_at 810 (by decide +kernel) rfl
theorem mw_739 : (Jvm.Cond.lays "SprayedLettersModel" "SprayedLettersModel" "left" "I") ∈ TB := tb_at 812 (by decide +kernel) rfl
theorem mw_741 : (Jvm.Cond.lays "SprayedLettersModel" "SprayedLettersModel" "isRefused" "Z") ∈ TB := tb_at 814 (by decide +kernel) rfl
theorem mw_743 : (Jvm.Cond.laysFinal "SprayedLettersModel" "SprayedLettersModel" "has" "[Z") ∈ TB := tb_at 816 (by decide +kernel) rfl
theorem mw_745 : (Jvm.Cond.lays "SprayedLettersModel" "SprayedLettersModel" "drawn" "I") ∈ TB := tb_at 818 (by decide +kernel) rfl
theorem mw_748 : (Jvm.Cond.methodLink "SprayedLettersLaw" (17 : Nat) ({ cls := "SprayedLettersModel", name := "feed", desc := "(I)I" } : Jvm.MethodName)) ∈ TB := tb_at 821 (by decide +kernel) rfl
theorem mw_749 : (Jvm.Cond.instanceMethod ({ cls := "SprayedLettersModel", name := "feed", desc := "(I)I" } : Jvm.MethodName)) ∈ TB := tb_at 822 (by decide +kernel) rfl
theorem mw_750 : (Jvm.Cond.selects "SprayedLettersModel" ({ cls := "SprayedLettersModel", name := "feed", desc := "(I)I" } : Jvm.MethodName) ({ cls := "SprayedLettersModel", name := "feed", desc := "(I)I" } : Jvm.MethodName)) ∈ TB := tb_at 823 (by decide +kernel) rfl
theorem mw_751 : (Jvm.Cond.code ({ cls := "SprayedLettersModel", name := "feed", desc := "(I)I" } : Jvm.MethodName) prog_8_method_4_code (2 : Nat) (Option.some Jvm.ClassFile.FieldType.int)) ∈ TB := tb_at 824 (by decide +kernel) rfl
theorem mw_752 : (Jvm.Cond.constantLong "SprayedLettersModel" (38 : Nat) (127 : Int64)) ∈ TB := tb_at 825 (by decide +kernel) rfl
theorem mw_753 : (Jvm.Cond.methodLink "SprayedLettersModel" (40 : Nat) ({ cls := "SprayedLettersModel", name := "in", desc := "(JJJ)Z" } : Jvm.MethodName)) ∈ TB := tb_at 826 (by decide +kernel) rfl
theorem mw_754 : (Jvm.Cond.static ({ cls := "SprayedLettersModel", name := "in", desc := "(JJJ)Z" } : Jvm.MethodName)) ∈ TB := tb_at 827 (by decide +kernel) rfl
theorem mw_755 : (Jvm.Cond.code ({ cls := "SprayedLettersModel", name := "in", desc := "(JJJ)Z" } : Jvm.MethodName) prog_8_method_3_code (6 : Nat) (Option.some Jvm.ClassFile.FieldType.boolean)) ∈ TB := tb_at 828 (by decide +kernel) rfl
theorem mw_756 : (Jvm.Cond.methodLink "SprayedLettersLaw" (21 : Nat) ({ cls := "SprayedLettersModel", name := "end", desc := "(I)I" } : Jvm.MethodName)) ∈ TB := tb_at 829 (by decide +kernel) rfl
theorem mw_757 : (Jvm.Cond.instanceMethod ({ cls := "SprayedLettersModel", name := "end", desc := "(I)I" } : Jvm.MethodName)) ∈ TB := tb_at 830 (by decide +kernel) rfl
theorem mw_758 : (Jvm.Cond.selects "SprayedLettersModel" ({ cls := "SprayedLettersModel", name := "end", desc := "(I)I" } : Jvm.MethodName) ({ cls := "SprayedLettersModel", name := "end", desc := "(I)I" } : Jvm.MethodName)) ∈ TB := tb_at 831 (by decide +kernel) rfl
theorem mw_759 : (Jvm.Cond.code ({ cls := "SprayedLettersModel", name := "end", desc := "(I)I" } : Jvm.MethodName) prog_8_method_5_code (3 : Nat) (Option.some Jvm.ClassFile.FieldType.int)) ∈ TB := tb_at 832 (by decide +kernel) rfl
theorem mw_760 : (Jvm.Cond.methodLink "SprayedLettersLaw" (26 : Nat) ({ cls := "SprayedLettersModel", name := "text", desc := "()I" } : Jvm.MethodName)) ∈ TB := tb_at 833 (by decide +kernel) rfl
theorem mw_761 : (Jvm.Cond.instanceMethod ({ cls := "SprayedLettersModel", name := "text", desc := "()I" } : Jvm.MethodName)) ∈ TB := tb_at 834 (by decide +kernel) rfl
theorem mw_762 : (Jvm.Cond.selects "SprayedLettersModel" ({ cls := "SprayedLettersModel", name := "text", desc := "()I" } : Jvm.MethodName) ({ cls := "SprayedLettersModel", name := "text", desc := "()I" } : Jvm.MethodName)) ∈ TB := tb_at 835 (by decide +kernel) rfl
theorem mw_763 : (Jvm.Cond.code ({ cls := "SprayedLettersModel", name := "text", desc := "()I" } : Jvm.MethodName) prog_8_method_15_code (3 : Nat) (Option.some Jvm.ClassFile.FieldType.int)) ∈ TB := tb_at 836 (by decide +kernel) rfl
theorem mw_764 : (Jvm.Cond.constantLong "SprayedLettersModel" (107 : Nat) (4 : Int64)) ∈ TB := tb_at 837 (by decide +kernel) rfl
theorem mw_765 : (Jvm.Cond.constantLong "SprayedLettersModel" (85 : Nat) (7 : Int64)) ∈ TB := tb_at 838 (by decide +kernel) rfl
theorem mw_766 : (Jvm.Cond.methodLink "SprayedLettersModel" (82 : Nat) ({ cls := "SprayedLettersModel", name := "reads", desc := "()V" } : Jvm.MethodName)) ∈ TB := tb_at 839 (by decide +kernel) rfl
theorem mw_768 : (Jvm.Cond.instanceMethod ({ cls := "SprayedLettersModel", name := "reads", desc := "()V" } : Jvm.MethodName)) ∈ TB := tb_at 841 (by decide +kernel) rfl
theorem mw_769 : (Jvm.Cond.code ({ cls := "SprayedLettersModel", name := "reads", desc := "()V" } : Jvm.MethodName) prog_8_method_8_code (2 : Nat) (Option.none : Option Jvm.ClassFile.FieldType)) ∈ TB := tb_at 842 (by decide +kernel) rfl
theorem mw_770 : (Jvm.Cond.methodLink "SprayedLettersModel" (60 : Nat) ({ cls := "SprayedLettersModel", name := "byteAt", desc := "(I)I" } : Jvm.MethodName)) ∈ TB := tb_at 843 (by decide +kernel) rfl
theorem mw_772 : (Jvm.Cond.instanceMethod ({ cls := "SprayedLettersModel", name := "byteAt", desc := "(I)I" } : Jvm.MethodName)) ∈ TB := tb_at 845 (by decide +kernel) rfl
theorem mw_773 : (Jvm.Cond.code ({ cls := "SprayedLettersModel", name := "byteAt", desc := "(I)I" } : Jvm.MethodName) prog_8_method_6_code (2 : Nat) (Option.some Jvm.ClassFile.FieldType.int)) ∈ TB := tb_at 846 (by decide +kernel) rfl
theorem mw_774 : (Jvm.Cond.constantLong "SprayedLettersModel" (70 : Nat) (97 : Int64)) ∈ TB := tb_at 847 (by decide +kernel) rfl
theorem mw_775 : (Jvm.Cond.constantLong "SprayedLettersModel" (72 : Nat) (122 : Int64)) ∈ TB := tb_at 848 (by decide +kernel) rfl
theorem mw_776 : (Jvm.Cond.constantLong "SprayedLettersModel" (74 : Nat) (48 : Int64)) ∈ TB := tb_at 849 (by decide +kernel) rfl
theorem mw_777 : (Jvm.Cond.constantLong "SprayedLettersModel" (76 : Nat) (57 : Int64)) ∈ TB := tb_at 850 (by decide +kernel) rfl
theorem mw_778 : (Jvm.Cond.methodLink "SprayedLettersModel" (78 : Nat) ({ cls := "SprayedLettersModel", name := "must", desc := "(ZI)V" } : Jvm.MethodName)) ∈ TB := tb_at 851 (by decide +kernel) rfl
theorem mw_780 : (Jvm.Cond.instanceMethod ({ cls := "SprayedLettersModel", name := "must", desc := "(ZI)V" } : Jvm.MethodName)) ∈ TB := tb_at 853 (by decide +kernel) rfl
theorem mw_781 : (Jvm.Cond.code ({ cls := "SprayedLettersModel", name := "must", desc := "(ZI)V" } : Jvm.MethodName) prog_8_method_7_code (3 : Nat) (Option.none : Option Jvm.ClassFile.FieldType)) ∈ TB := tb_at 854 (by decide +kernel) rfl
theorem mw_782 : (Jvm.Cond.methodLink "SprayedLettersModel" (109 : Nat) ({ cls := "SprayedLettersModel", name := "readsLine", desc := "()V" } : Jvm.MethodName)) ∈ TB := tb_at 855 (by decide +kernel) rfl
theorem mw_784 : (Jvm.Cond.instanceMethod ({ cls := "SprayedLettersModel", name := "readsLine", desc := "()V" } : Jvm.MethodName)) ∈ TB := tb_at 857 (by decide +kernel) rfl
theorem mw_785 : (Jvm.Cond.code ({ cls := "SprayedLettersModel", name := "readsLine", desc := "()V" } : Jvm.MethodName) prog_8_method_14_code (2 : Nat) (Option.none : Option Jvm.ClassFile.FieldType)) ∈ TB := tb_at 858 (by decide +kernel) rfl
theorem mw_786 : (Jvm.Cond.methodLink "SprayedLettersModel" (97 : Nat) ({ cls := "SprayedLettersModel", name := "wordNow", desc := "()I" } : Jvm.MethodName)) ∈ TB := tb_at 859 (by decide +kernel) rfl
theorem mw_788 : (Jvm.Cond.instanceMethod ({ cls := "SprayedLettersModel", name := "wordNow", desc := "()I" } : Jvm.MethodName)) ∈ TB := tb_at 861 (by decide +kernel) rfl
theorem mw_789 : (Jvm.Cond.code ({ cls := "SprayedLettersModel", name := "wordNow", desc := "()I" } : Jvm.MethodName) prog_8_method_9_code (4 : Nat) (Option.some Jvm.ClassFile.FieldType.int)) ∈ TB := tb_at 862 (by decide +kernel) rfl
theorem mw_790 : (Jvm.Cond.methodLink "SprayedLettersModel" (90 : Nat) ({ cls := "SprayedLettersModel", name := "number", desc := "(II)I" } : Jvm.MethodName)) ∈ TB := tb_at 863 (by decide +kernel) rfl
theorem mw_792 : (Jvm.Cond.instanceMethod ({ cls := "SprayedLettersModel", name := "number", desc := "(II)I" } : Jvm.MethodName)) ∈ TB := tb_at 865 (by decide +kernel) rfl
theorem mw_793 : (Jvm.Cond.code ({ cls := "SprayedLettersModel", name := "number", desc := "(II)I" } : Jvm.MethodName) prog_8_method_10_code (4 : Nat) (Option.some Jvm.ClassFile.FieldType.int)) ∈ TB := tb_at 866 (by decide +kernel) rfl
theorem mw_794 : (Jvm.Cond.methodLink "SprayedLettersModel" (101 : Nat) ({ cls := "SprayedLettersModel", name := "readsMeeting", desc := "()V" } : Jvm.MethodName)) ∈ TB := tb_at 867 (by decide +kernel) rfl
theorem mw_796 : (Jvm.Cond.instanceMethod ({ cls := "SprayedLettersModel", name := "readsMeeting", desc := "()V" } : Jvm.MethodName)) ∈ TB := tb_at 869 (by decide +kernel) rfl
theorem mw_797 : (Jvm.Cond.code ({ cls := "SprayedLettersModel", name := "readsMeeting", desc := "()V" } : Jvm.MethodName) prog_8_method_12_code (2 : Nat) (Option.none : Option Jvm.ClassFile.FieldType)) ∈ TB := tb_at 870 (by decide +kernel) rfl
theorem mw_798 : (Jvm.Cond.methodLink "SprayedLettersModel" (94 : Nat) ({ cls := "SprayedLettersModel", name := "readsNode", desc := "(I)I" } : Jvm.MethodName)) ∈ TB := tb_at 871 (by decide +kernel) rfl
theorem mw_800 : (Jvm.Cond.instanceMethod ({ cls := "SprayedLettersModel", name := "readsNode", desc := "(I)I" } : Jvm.MethodName)) ∈ TB := tb_at 873 (by decide +kernel) rfl
theorem mw_801 : (Jvm.Cond.code ({ cls := "SprayedLettersModel", name := "readsNode", desc := "(I)I" } : Jvm.MethodName) prog_8_method_11_code (3 : Nat) (Option.some Jvm.ClassFile.FieldType.int)) ∈ TB := tb_at 874 (by decide +kernel) rfl
theorem mw_802 : (Jvm.Cond.methodLink "SprayedLettersModel" (104 : Nat) ({ cls := "SprayedLettersModel", name := "readsLetter", desc := "()V" } : Jvm.MethodName)) ∈ TB := tb_at 875 (by decide +kernel) rfl
theorem mw_804 : (Jvm.Cond.instanceMethod ({ cls := "SprayedLettersModel", name := "readsLetter", desc := "()V" } : Jvm.MethodName)) ∈ TB := tb_at 877 (by decide +kernel) rfl
theorem mw_805 : (Jvm.Cond.code ({ cls := "SprayedLettersModel", name := "readsLetter", desc := "()V" } : Jvm.MethodName) prog_8_method_13_code (2 : Nat) (Option.none : Option Jvm.ClassFile.FieldType)) ∈ TB := tb_at 878 (by decide +kernel) rfl
theorem mw_806 : (Jvm.Cond.methodLink "SprayedLettersLaw" (30 : Nat) ({ cls := "SprayedLettersModel", name := "fault", desc := "()I" } : Jvm.MethodName)) ∈ TB := tb_at 879 (by decide +kernel) rfl
theorem mw_807 : (Jvm.Cond.instanceMethod ({ cls := "SprayedLettersModel", name := "fault", desc := "()I" } : Jvm.MethodName)) ∈ TB := tb_at 880 (by decide +kernel) rfl
theorem mw_808 : (Jvm.Cond.selects "SprayedLettersModel" ({ cls := "SprayedLettersModel", name := "fault", desc := "()I" } : Jvm.MethodName) ({ cls := "SprayedLettersModel", name := "fault", desc := "()I" } : Jvm.MethodName)) ∈ TB := tb_at 881 (by decide +kernel) rfl
theorem mw_809 : (Jvm.Cond.code ({ cls := "SprayedLettersModel", name := "fault", desc := "()I" } : Jvm.MethodName) prog_8_method_16_code (1 : Nat) (Option.some Jvm.ClassFile.FieldType.int)) ∈ TB := tb_at 882 (by decide +kernel) rfl
theorem mw_810 : (Jvm.Cond.methodLink "SprayedLettersLaw" (34 : Nat) ({ cls := "SprayedLettersModel", name := "rule", desc := "(I)I" } : Jvm.MethodName)) ∈ TB := tb_at 883 (by decide +kernel) rfl
theorem mw_811 : (Jvm.Cond.instanceMethod ({ cls := "SprayedLettersModel", name := "rule", desc := "(I)I" } : Jvm.MethodName)) ∈ TB := tb_at 884 (by decide +kernel) rfl
theorem mw_812 : (Jvm.Cond.selects "SprayedLettersModel" ({ cls := "SprayedLettersModel", name := "rule", desc := "(I)I" } : Jvm.MethodName) ({ cls := "SprayedLettersModel", name := "rule", desc := "(I)I" } : Jvm.MethodName)) ∈ TB := tb_at 885 (by decide +kernel) rfl
theorem mw_813 : (Jvm.Cond.code ({ cls := "SprayedLettersModel", name := "rule", desc := "(I)I" } : Jvm.MethodName) prog_8_method_46_code (2 : Nat) (Option.some Jvm.ClassFile.FieldType.int)) ∈ TB := tb_at 886 (by decide +kernel) rfl
theorem mw_814 : (Jvm.Cond.constantLong "SprayedLettersModel" (208 : Nat) (18 : Int64)) ∈ TB := tb_at 887 (by decide +kernel) rfl
theorem mw_815 : (Jvm.Cond.methodLink "SprayedLettersModel" (210 : Nat) ({ cls := "SprayedLettersModel", name := "copiesOf", desc := "(II)I" } : Jvm.MethodName)) ∈ TB := tb_at 888 (by decide +kernel) rfl
theorem mw_817 : (Jvm.Cond.instanceMethod ({ cls := "SprayedLettersModel", name := "copiesOf", desc := "(II)I" } : Jvm.MethodName)) ∈ TB := tb_at 890 (by decide +kernel) rfl
theorem mw_818 : (Jvm.Cond.code ({ cls := "SprayedLettersModel", name := "copiesOf", desc := "(II)I" } : Jvm.MethodName) prog_8_method_45_code (6 : Nat) (Option.some Jvm.ClassFile.FieldType.int)) ∈ TB := tb_at 891 (by decide +kernel) rfl
theorem mw_819 : (Jvm.Cond.methodLink "SprayedLettersModel" (115 : Nat) ({ cls := "SprayedLettersModel", name := "hasCopy", desc := "(II)Z" } : Jvm.MethodName)) ∈ TB := tb_at 892 (by decide +kernel) rfl
theorem mw_821 : (Jvm.Cond.instanceMethod ({ cls := "SprayedLettersModel", name := "hasCopy", desc := "(II)Z" } : Jvm.MethodName)) ∈ TB := tb_at 894 (by decide +kernel) rfl
theorem mw_822 : (Jvm.Cond.code ({ cls := "SprayedLettersModel", name := "hasCopy", desc := "(II)Z" } : Jvm.MethodName) prog_8_method_19_code (3 : Nat) (Option.some Jvm.ClassFile.FieldType.boolean)) ∈ TB := tb_at 895 (by decide +kernel) rfl
theorem mw_823 : (Jvm.Cond.methodLink "SprayedLettersModel" (112 : Nat) ({ cls := "SprayedLettersModel", name := "copyAt", desc := "(II)I" } : Jvm.MethodName)) ∈ TB := tb_at 896 (by decide +kernel) rfl
theorem mw_825 : (Jvm.Cond.instanceMethod ({ cls := "SprayedLettersModel", name := "copyAt", desc := "(II)I" } : Jvm.MethodName)) ∈ TB := tb_at 898 (by decide +kernel) rfl
theorem mw_826 : (Jvm.Cond.code ({ cls := "SprayedLettersModel", name := "copyAt", desc := "(II)I" } : Jvm.MethodName) prog_8_method_18_code (3 : Nat) (Option.some Jvm.ClassFile.FieldType.int)) ∈ TB := tb_at 899 (by decide +kernel) rfl
theorem mw_827 : (Jvm.Cond.methodLink "SprayedLettersLaw" (39 : Nat) ({ cls := "SprayedLettersModel", name := "node", desc := "(II)I" } : Jvm.MethodName)) ∈ TB := tb_at 900 (by decide +kernel) rfl
theorem mw_828 : (Jvm.Cond.instanceMethod ({ cls := "SprayedLettersModel", name := "node", desc := "(II)I" } : Jvm.MethodName)) ∈ TB := tb_at 901 (by decide +kernel) rfl
theorem mw_829 : (Jvm.Cond.selects "SprayedLettersModel" ({ cls := "SprayedLettersModel", name := "node", desc := "(II)I" } : Jvm.MethodName) ({ cls := "SprayedLettersModel", name := "node", desc := "(II)I" } : Jvm.MethodName)) ∈ TB := tb_at 902 (by decide +kernel) rfl
theorem mw_830 : (Jvm.Cond.code ({ cls := "SprayedLettersModel", name := "node", desc := "(II)I" } : Jvm.MethodName) prog_8_method_50_code (3 : Nat) (Option.some Jvm.ClassFile.FieldType.int)) ∈ TB := tb_at 903 (by decide +kernel) rfl
theorem mw_831 : (Jvm.Cond.methodLink "SprayedLettersModel" (213 : Nat) ({ cls := "SprayedLettersModel", name := "isNode", desc := "(I)Z" } : Jvm.MethodName)) ∈ TB := tb_at 904 (by decide +kernel) rfl
theorem mw_833 : (Jvm.Cond.instanceMethod ({ cls := "SprayedLettersModel", name := "isNode", desc := "(I)Z" } : Jvm.MethodName)) ∈ TB := tb_at 906 (by decide +kernel) rfl
theorem mw_834 : (Jvm.Cond.code ({ cls := "SprayedLettersModel", name := "isNode", desc := "(I)Z" } : Jvm.MethodName) prog_8_method_47_code (2 : Nat) (Option.some Jvm.ClassFile.FieldType.boolean)) ∈ TB := tb_at 907 (by decide +kernel) rfl
theorem mw_835 : (Jvm.Cond.methodLink "SprayedLettersModel" (122 : Nat) ({ cls := "SprayedLettersModel", name := "loadOf", desc := "(IZ)I" } : Jvm.MethodName)) ∈ TB := tb_at 908 (by decide +kernel) rfl
theorem mw_837 : (Jvm.Cond.instanceMethod ({ cls := "SprayedLettersModel", name := "loadOf", desc := "(IZ)I" } : Jvm.MethodName)) ∈ TB := tb_at 910 (by decide +kernel) rfl
theorem mw_838 : (Jvm.Cond.code ({ cls := "SprayedLettersModel", name := "loadOf", desc := "(IZ)I" } : Jvm.MethodName) prog_8_method_26_code (5 : Nat) (Option.some Jvm.ClassFile.FieldType.int)) ∈ TB := tb_at 911 (by decide +kernel) rfl
theorem mw_839 : (Jvm.Cond.methodLink "SprayedLettersModel" (119 : Nat) ({ cls := "SprayedLettersModel", name := "ofLetter", desc := "(II)I" } : Jvm.MethodName)) ∈ TB := tb_at 912 (by decide +kernel) rfl
theorem mw_841 : (Jvm.Cond.instanceMethod ({ cls := "SprayedLettersModel", name := "ofLetter", desc := "(II)I" } : Jvm.MethodName)) ∈ TB := tb_at 914 (by decide +kernel) rfl
theorem mw_842 : (Jvm.Cond.code ({ cls := "SprayedLettersModel", name := "ofLetter", desc := "(II)I" } : Jvm.MethodName) prog_8_method_17_code (3 : Nat) (Option.some Jvm.ClassFile.FieldType.int)) ∈ TB := tb_at 915 (by decide +kernel) rfl
theorem mw_843 : (Jvm.Cond.methodLink "SprayedLettersModel" (217 : Nat) ({ cls := "SprayedLettersModel", name := "counted", desc := "(IZ)I" } : Jvm.MethodName)) ∈ TB := tb_at 916 (by decide +kernel) rfl
theorem mw_845 : (Jvm.Cond.instanceMethod ({ cls := "SprayedLettersModel", name := "counted", desc := "(IZ)I" } : Jvm.MethodName)) ∈ TB := tb_at 918 (by decide +kernel) rfl
theorem mw_846 : (Jvm.Cond.code ({ cls := "SprayedLettersModel", name := "counted", desc := "(IZ)I" } : Jvm.MethodName) prog_8_method_49_code (5 : Nat) (Option.some Jvm.ClassFile.FieldType.int)) ∈ TB := tb_at 919 (by decide +kernel) rfl
theorem mw_847 : (Jvm.Cond.methodLink "SprayedLettersLaw" (43 : Nat) ({ cls := "SprayedLettersModel", name := "meeting", desc := "(II)I" } : Jvm.MethodName)) ∈ TB := tb_at 920 (by decide +kernel) rfl
theorem mw_848 : (Jvm.Cond.instanceMethod ({ cls := "SprayedLettersModel", name := "meeting", desc := "(II)I" } : Jvm.MethodName)) ∈ TB := tb_at 921 (by decide +kernel) rfl
theorem mw_849 : (Jvm.Cond.selects "SprayedLettersModel" ({ cls := "SprayedLettersModel", name := "meeting", desc := "(II)I" } : Jvm.MethodName) ({ cls := "SprayedLettersModel", name := "meeting", desc := "(II)I" } : Jvm.MethodName)) ∈ TB := tb_at 922 (by decide +kernel) rfl
theorem mw_850 : (Jvm.Cond.code ({ cls := "SprayedLettersModel", name := "meeting", desc := "(II)I" } : Jvm.MethodName) prog_8_method_52_code (3 : Nat) (Option.some Jvm.ClassFile.FieldType.int)) ∈ TB := tb_at 923 (by decide +kernel) rfl
theorem mw_851 : (Jvm.Cond.methodLink "SprayedLettersModel" (196 : Nat) ({ cls := "SprayedLettersModel", name := "ofMeeting", desc := "(II)I" } : Jvm.MethodName)) ∈ TB := tb_at 924 (by decide +kernel) rfl
theorem mw_853 : (Jvm.Cond.instanceMethod ({ cls := "SprayedLettersModel", name := "ofMeeting", desc := "(II)I" } : Jvm.MethodName)) ∈ TB := tb_at 926 (by decide +kernel) rfl
theorem mw_854 : (Jvm.Cond.code ({ cls := "SprayedLettersModel", name := "ofMeeting", desc := "(II)I" } : Jvm.MethodName) prog_8_method_42_code (3 : Nat) (Option.some Jvm.ClassFile.FieldType.int)) ∈ TB := tb_at 927 (by decide +kernel) rfl
theorem mw_855 : (Jvm.Cond.methodLink "SprayedLettersModel" (220 : Nat) ({ cls := "SprayedLettersModel", name := "nextTime", desc := "(I)I" } : Jvm.MethodName)) ∈ TB := tb_at 928 (by decide +kernel) rfl
theorem mw_857 : (Jvm.Cond.instanceMethod ({ cls := "SprayedLettersModel", name := "nextTime", desc := "(I)I" } : Jvm.MethodName)) ∈ TB := tb_at 930 (by decide +kernel) rfl
theorem mw_858 : (Jvm.Cond.code ({ cls := "SprayedLettersModel", name := "nextTime", desc := "(I)I" } : Jvm.MethodName) prog_8_method_51_code (3 : Nat) (Option.some Jvm.ClassFile.FieldType.int)) ∈ TB := tb_at 931 (by decide +kernel) rfl
theorem mw_859 : (Jvm.Cond.methodLink "SprayedLettersLaw" (47 : Nat) ({ cls := "SprayedLettersModel", name := "letter", desc := "(II)I" } : Jvm.MethodName)) ∈ TB := tb_at 932 (by decide +kernel) rfl
theorem mw_860 : (Jvm.Cond.instanceMethod ({ cls := "SprayedLettersModel", name := "letter", desc := "(II)I" } : Jvm.MethodName)) ∈ TB := tb_at 933 (by decide +kernel) rfl
theorem mw_861 : (Jvm.Cond.selects "SprayedLettersModel" ({ cls := "SprayedLettersModel", name := "letter", desc := "(II)I" } : Jvm.MethodName) ({ cls := "SprayedLettersModel", name := "letter", desc := "(II)I" } : Jvm.MethodName)) ∈ TB := tb_at 934 (by decide +kernel) rfl
theorem mw_862 : (Jvm.Cond.code ({ cls := "SprayedLettersModel", name := "letter", desc := "(II)I" } : Jvm.MethodName) prog_8_method_55_code (3 : Nat) (Option.some Jvm.ClassFile.FieldType.int)) ∈ TB := tb_at 935 (by decide +kernel) rfl
theorem mw_863 : (Jvm.Cond.methodLink "SprayedLettersModel" (223 : Nat) ({ cls := "SprayedLettersModel", name := "isLetter", desc := "(I)Z" } : Jvm.MethodName)) ∈ TB := tb_at 936 (by decide +kernel) rfl
theorem mw_865 : (Jvm.Cond.instanceMethod ({ cls := "SprayedLettersModel", name := "isLetter", desc := "(I)Z" } : Jvm.MethodName)) ∈ TB := tb_at 938 (by decide +kernel) rfl
theorem mw_866 : (Jvm.Cond.code ({ cls := "SprayedLettersModel", name := "isLetter", desc := "(I)Z" } : Jvm.MethodName) prog_8_method_48_code (2 : Nat) (Option.some Jvm.ClassFile.FieldType.boolean)) ∈ TB := tb_at 939 (by decide +kernel) rfl
theorem mw_867 : (Jvm.Cond.constantLong "SprayedLettersModel" (226 : Nat) (10 : Int64)) ∈ TB := tb_at 940 (by decide +kernel) rfl
theorem mw_868 : (Jvm.Cond.methodLink "SprayedLettersModel" (228 : Nat) ({ cls := "SprayedLettersModel", name := "isWhat", desc := "(I)I" } : Jvm.MethodName)) ∈ TB := tb_at 941 (by decide +kernel) rfl
theorem mw_870 : (Jvm.Cond.instanceMethod ({ cls := "SprayedLettersModel", name := "isWhat", desc := "(I)I" } : Jvm.MethodName)) ∈ TB := tb_at 943 (by decide +kernel) rfl
theorem mw_871 : (Jvm.Cond.code ({ cls := "SprayedLettersModel", name := "isWhat", desc := "(I)I" } : Jvm.MethodName) prog_8_method_54_code (2 : Nat) (Option.some Jvm.ClassFile.FieldType.int)) ∈ TB := tb_at 944 (by decide +kernel) rfl
theorem mw_872 : (Jvm.Cond.methodLink "SprayedLettersModel" (231 : Nat) ({ cls := "SprayedLettersModel", name := "tokensOfAll", desc := "(I)I" } : Jvm.MethodName)) ∈ TB := tb_at 945 (by decide +kernel) rfl
theorem mw_874 : (Jvm.Cond.instanceMethod ({ cls := "SprayedLettersModel", name := "tokensOfAll", desc := "(I)I" } : Jvm.MethodName)) ∈ TB := tb_at 947 (by decide +kernel) rfl
theorem mw_875 : (Jvm.Cond.code ({ cls := "SprayedLettersModel", name := "tokensOfAll", desc := "(I)I" } : Jvm.MethodName) prog_8_method_53_code (4 : Nat) (Option.some Jvm.ClassFile.FieldType.int)) ∈ TB := tb_at 948 (by decide +kernel) rfl
theorem mw_876 : (Jvm.Cond.methodLink "SprayedLettersModel" (153 : Nat) ({ cls := "SprayedLettersModel", name := "tokensOf", desc := "(II)I" } : Jvm.MethodName)) ∈ TB := tb_at 949 (by decide +kernel) rfl
theorem mw_878 : (Jvm.Cond.instanceMethod ({ cls := "SprayedLettersModel", name := "tokensOf", desc := "(II)I" } : Jvm.MethodName)) ∈ TB := tb_at 951 (by decide +kernel) rfl
theorem mw_879 : (Jvm.Cond.code ({ cls := "SprayedLettersModel", name := "tokensOf", desc := "(II)I" } : Jvm.MethodName) prog_8_method_20_code (3 : Nat) (Option.some Jvm.ClassFile.FieldType.int)) ∈ TB := tb_at 952 (by decide +kernel) rfl
theorem mw_880 : (Jvm.Cond.methodLink "SprayedLettersLaw" (52 : Nat) ({ cls := "SprayedLettersModel", name := "copy", desc := "(III)I" } : Jvm.MethodName)) ∈ TB := tb_at 953 (by decide +kernel) rfl
theorem mw_881 : (Jvm.Cond.instanceMethod ({ cls := "SprayedLettersModel", name := "copy", desc := "(III)I" } : Jvm.MethodName)) ∈ TB := tb_at 954 (by decide +kernel) rfl
theorem mw_882 : (Jvm.Cond.selects "SprayedLettersModel" ({ cls := "SprayedLettersModel", name := "copy", desc := "(III)I" } : Jvm.MethodName) ({ cls := "SprayedLettersModel", name := "copy", desc := "(III)I" } : Jvm.MethodName)) ∈ TB := tb_at 955 (by decide +kernel) rfl
theorem mw_883 : (Jvm.Cond.code ({ cls := "SprayedLettersModel", name := "copy", desc := "(III)I" } : Jvm.MethodName) prog_8_method_57_code (5 : Nat) (Option.some Jvm.ClassFile.FieldType.int)) ∈ TB := tb_at 956 (by decide +kernel) rfl
theorem mw_884 : (Jvm.Cond.constantLong "SprayedLettersModel" (234 : Nat) (3 : Int64)) ∈ TB := tb_at 957 (by decide +kernel) rfl
theorem mw_885 : (Jvm.Cond.methodLink "SprayedLettersModel" (236 : Nat) ({ cls := "SprayedLettersModel", name := "aheadOf", desc := "(II)I" } : Jvm.MethodName)) ∈ TB := tb_at 958 (by decide +kernel) rfl
theorem mw_887 : (Jvm.Cond.instanceMethod ({ cls := "SprayedLettersModel", name := "aheadOf", desc := "(II)I" } : Jvm.MethodName)) ∈ TB := tb_at 960 (by decide +kernel) rfl
theorem mw_888 : (Jvm.Cond.code ({ cls := "SprayedLettersModel", name := "aheadOf", desc := "(II)I" } : Jvm.MethodName) prog_8_method_56_code (5 : Nat) (Option.some Jvm.ClassFile.FieldType.int)) ∈ TB := tb_at 961 (by decide +kernel) rfl
theorem mw_889 : (Jvm.Cond.methodLink "SprayedLettersModel" (159 : Nat) ({ cls := "SprayedLettersModel", name := "hopsOf", desc := "(II)I" } : Jvm.MethodName)) ∈ TB := tb_at 962 (by decide +kernel) rfl
theorem mw_891 : (Jvm.Cond.instanceMethod ({ cls := "SprayedLettersModel", name := "hopsOf", desc := "(II)I" } : Jvm.MethodName)) ∈ TB := tb_at 964 (by decide +kernel) rfl
theorem mw_892 : (Jvm.Cond.code ({ cls := "SprayedLettersModel", name := "hopsOf", desc := "(II)I" } : Jvm.MethodName) prog_8_method_21_code (3 : Nat) (Option.some Jvm.ClassFile.FieldType.int)) ∈ TB := tb_at 965 (by decide +kernel) rfl
theorem mw_893 : (Jvm.Cond.methodLink "SprayedLettersLaw" (56 : Nat) ({ cls := "SprayedLettersModel", name := "note", desc := "(II)I" } : Jvm.MethodName)) ∈ TB := tb_at 966 (by decide +kernel) rfl
theorem mw_894 : (Jvm.Cond.instanceMethod ({ cls := "SprayedLettersModel", name := "note", desc := "(II)I" } : Jvm.MethodName)) ∈ TB := tb_at 967 (by decide +kernel) rfl
theorem mw_895 : (Jvm.Cond.selects "SprayedLettersModel" ({ cls := "SprayedLettersModel", name := "note", desc := "(II)I" } : Jvm.MethodName) ({ cls := "SprayedLettersModel", name := "note", desc := "(II)I" } : Jvm.MethodName)) ∈ TB := tb_at 968 (by decide +kernel) rfl
theorem mw_896 : (Jvm.Cond.code ({ cls := "SprayedLettersModel", name := "note", desc := "(II)I" } : Jvm.MethodName) prog_8_method_58_code (3 : Nat) (Option.some Jvm.ClassFile.FieldType.int)) ∈ TB := tb_at 969 (by decide +kernel) rfl
theorem mw_897 : (Jvm.Cond.methodLink "SprayedLettersLaw" (60 : Nat) ({ cls := "SprayedLettersModel", name := "last", desc := "(II)I" } : Jvm.MethodName)) ∈ TB := tb_at 970 (by decide +kernel) rfl
theorem mw_898 : (Jvm.Cond.instanceMethod ({ cls := "SprayedLettersModel", name := "last", desc := "(II)I" } : Jvm.MethodName)) ∈ TB := tb_at 971 (by decide +kernel) rfl
theorem mw_899 : (Jvm.Cond.selects "SprayedLettersModel" ({ cls := "SprayedLettersModel", name := "last", desc := "(II)I" } : Jvm.MethodName) ({ cls := "SprayedLettersModel", name := "last", desc := "(II)I" } : Jvm.MethodName)) ∈ TB := tb_at 972 (by decide +kernel) rfl
theorem mw_900 : (Jvm.Cond.code ({ cls := "SprayedLettersModel", name := "last", desc := "(II)I" } : Jvm.MethodName) prog_8_method_59_code (3 : Nat) (Option.some Jvm.ClassFile.FieldType.int)) ∈ TB := tb_at 973 (by decide +kernel) rfl
theorem mw_901 : (Jvm.Cond.methodLink "SprayedLettersModel" (156 : Nat) ({ cls := "SprayedLettersModel", name := "lastOf", desc := "(II)I" } : Jvm.MethodName)) ∈ TB := tb_at 974 (by decide +kernel) rfl
theorem mw_903 : (Jvm.Cond.instanceMethod ({ cls := "SprayedLettersModel", name := "lastOf", desc := "(II)I" } : Jvm.MethodName)) ∈ TB := tb_at 976 (by decide +kernel) rfl
theorem mw_904 : (Jvm.Cond.code ({ cls := "SprayedLettersModel", name := "lastOf", desc := "(II)I" } : Jvm.MethodName) prog_8_method_32_code (3 : Nat) (Option.some Jvm.ClassFile.FieldType.int)) ∈ TB := tb_at 977 (by decide +kernel) rfl
theorem mw_905 : (Jvm.Cond.methodLink "SprayedLettersLaw" (64 : Nat) ({ cls := "SprayedLettersModel", name := "soonest", desc := "(I)I" } : Jvm.MethodName)) ∈ TB := tb_at 978 (by decide +kernel) rfl
theorem mw_906 : (Jvm.Cond.instanceMethod ({ cls := "SprayedLettersModel", name := "soonest", desc := "(I)I" } : Jvm.MethodName)) ∈ TB := tb_at 979 (by decide +kernel) rfl
theorem mw_907 : (Jvm.Cond.selects "SprayedLettersModel" ({ cls := "SprayedLettersModel", name := "soonest", desc := "(I)I" } : Jvm.MethodName) ({ cls := "SprayedLettersModel", name := "soonest", desc := "(I)I" } : Jvm.MethodName)) ∈ TB := tb_at 980 (by decide +kernel) rfl
theorem mw_908 : (Jvm.Cond.code ({ cls := "SprayedLettersModel", name := "soonest", desc := "(I)I" } : Jvm.MethodName) prog_8_method_60_code (6 : Nat) (Option.some Jvm.ClassFile.FieldType.int)) ∈ TB := tb_at 981 (by decide +kernel) rfl
theorem mw_909 : (Jvm.Cond.methodLink "SprayedLettersModel" (129 : Nat) ({ cls := "SprayedLettersModel", name := "endOf", desc := "(I)I" } : Jvm.MethodName)) ∈ TB := tb_at 982 (by decide +kernel) rfl
theorem mw_911 : (Jvm.Cond.instanceMethod ({ cls := "SprayedLettersModel", name := "endOf", desc := "(I)I" } : Jvm.MethodName)) ∈ TB := tb_at 984 (by decide +kernel) rfl
theorem mw_912 : (Jvm.Cond.code ({ cls := "SprayedLettersModel", name := "endOf", desc := "(I)I" } : Jvm.MethodName) prog_8_method_27_code (2 : Nat) (Option.some Jvm.ClassFile.FieldType.int)) ∈ TB := tb_at 985 (by decide +kernel) rfl
theorem mw_913 : (Jvm.Cond.methodLink "SprayedLettersModel" (202 : Nat) ({ cls := "SprayedLettersModel", name := "isOn", desc := "(II)Z" } : Jvm.MethodName)) ∈ TB := tb_at 986 (by decide +kernel) rfl
theorem mw_915 : (Jvm.Cond.instanceMethod ({ cls := "SprayedLettersModel", name := "isOn", desc := "(II)Z" } : Jvm.MethodName)) ∈ TB := tb_at 988 (by decide +kernel) rfl
theorem mw_916 : (Jvm.Cond.code ({ cls := "SprayedLettersModel", name := "isOn", desc := "(II)Z" } : Jvm.MethodName) prog_8_method_43_code (4 : Nat) (Option.some Jvm.ClassFile.FieldType.boolean)) ∈ TB := tb_at 989 (by decide +kernel) rfl
theorem mw_917 : (Jvm.Cond.methodLink "SprayedLettersLaw" (69 : Nat) ({ cls := "SprayedLettersModel", name := "why", desc := "(IIII)I" } : Jvm.MethodName)) ∈ TB := tb_at 990 (by decide +kernel) rfl
theorem mw_918 : (Jvm.Cond.instanceMethod ({ cls := "SprayedLettersModel", name := "why", desc := "(IIII)I" } : Jvm.MethodName)) ∈ TB := tb_at 991 (by decide +kernel) rfl
theorem mw_919 : (Jvm.Cond.selects "SprayedLettersModel" ({ cls := "SprayedLettersModel", name := "why", desc := "(IIII)I" } : Jvm.MethodName) ({ cls := "SprayedLettersModel", name := "why", desc := "(IIII)I" } : Jvm.MethodName)) ∈ TB := tb_at 992 (by decide +kernel) rfl
theorem mw_920 : (Jvm.Cond.code ({ cls := "SprayedLettersModel", name := "why", desc := "(IIII)I" } : Jvm.MethodName) prog_8_method_61_code (6 : Nat) (Option.some Jvm.ClassFile.FieldType.int)) ∈ TB := tb_at 993 (by decide +kernel) rfl
theorem mw_921 : (Jvm.Cond.constantLong "SprayedLettersModel" (239 : Nat) (99 : Int64)) ∈ TB := tb_at 994 (by decide +kernel) rfl
theorem mw_922 : (Jvm.Cond.methodLink "SprayedLettersModel" (175 : Nat) ({ cls := "SprayedLettersModel", name := "reason", desc := "(IIII)I" } : Jvm.MethodName)) ∈ TB := tb_at 995 (by decide +kernel) rfl
theorem mw_924 : (Jvm.Cond.instanceMethod ({ cls := "SprayedLettersModel", name := "reason", desc := "(IIII)I" } : Jvm.MethodName)) ∈ TB := tb_at 997 (by decide +kernel) rfl
theorem mw_925 : (Jvm.Cond.code ({ cls := "SprayedLettersModel", name := "reason", desc := "(IIII)I" } : Jvm.MethodName) prog_8_method_33_code (6 : Nat) (Option.some Jvm.ClassFile.FieldType.int)) ∈ TB := tb_at 998 (by decide +kernel) rfl
theorem mw_926 : (Jvm.Cond.methodLink "SprayedLettersModel" (150 : Nat) ({ cls := "SprayedLettersModel", name := "isWaiting", desc := "(III)Z" } : Jvm.MethodName)) ∈ TB := tb_at 999 (by decide +kernel) rfl
theorem mw_928 : (Jvm.Cond.instanceMethod ({ cls := "SprayedLettersModel", name := "isWaiting", desc := "(III)Z" } : Jvm.MethodName)) ∈ TB := tb_at 1001 (by decide +kernel) rfl
theorem mw_929 : (Jvm.Cond.code ({ cls := "SprayedLettersModel", name := "isWaiting", desc := "(III)Z" } : Jvm.MethodName) prog_8_method_34_code (7 : Nat) (Option.some Jvm.ClassFile.FieldType.boolean)) ∈ TB := tb_at 1002 (by decide +kernel) rfl
theorem mw_930 : (Jvm.Cond.methodLink "SprayedLettersModel" (140 : Nat) ({ cls := "SprayedLettersModel", name := "roomless", desc := "(II)I" } : Jvm.MethodName)) ∈ TB := tb_at 1003 (by decide +kernel) rfl
theorem mw_932 : (Jvm.Cond.instanceMethod ({ cls := "SprayedLettersModel", name := "roomless", desc := "(II)I" } : Jvm.MethodName)) ∈ TB := tb_at 1005 (by decide +kernel) rfl
theorem mw_933 : (Jvm.Cond.code ({ cls := "SprayedLettersModel", name := "roomless", desc := "(II)I" } : Jvm.MethodName) prog_8_method_28_code (3 : Nat) (Option.some Jvm.ClassFile.FieldType.int)) ∈ TB := tb_at 1006 (by decide +kernel) rfl
theorem mw_934 : (Jvm.Cond.methodLink "SprayedLettersLaw" (73 : Nat) ({ cls := "SprayedLettersModel", name := "refusal", desc := "(I)I" } : Jvm.MethodName)) ∈ TB := tb_at 1007 (by decide +kernel) rfl
theorem mw_935 : (Jvm.Cond.instanceMethod ({ cls := "SprayedLettersModel", name := "refusal", desc := "(I)I" } : Jvm.MethodName)) ∈ TB := tb_at 1008 (by decide +kernel) rfl
theorem mw_936 : (Jvm.Cond.selects "SprayedLettersModel" ({ cls := "SprayedLettersModel", name := "refusal", desc := "(I)I" } : Jvm.MethodName) ({ cls := "SprayedLettersModel", name := "refusal", desc := "(I)I" } : Jvm.MethodName)) ∈ TB := tb_at 1009 (by decide +kernel) rfl
theorem mw_937 : (Jvm.Cond.code ({ cls := "SprayedLettersModel", name := "refusal", desc := "(I)I" } : Jvm.MethodName) prog_8_method_62_code (2 : Nat) (Option.some Jvm.ClassFile.FieldType.int)) ∈ TB := tb_at 1010 (by decide +kernel) rfl
theorem mw_938 : (Jvm.Cond.constantLong "SprayedLettersModel" (241 : Nat) (5 : Int64)) ∈ TB := tb_at 1011 (by decide +kernel) rfl
theorem mw_939 : (Jvm.Cond.methodLink "SprayedLettersLaw" (77 : Nat) ({ cls := "SprayedLettersModel", name := "tick", desc := "(I)I" } : Jvm.MethodName)) ∈ TB := tb_at 1012 (by decide +kernel) rfl
theorem mw_940 : (Jvm.Cond.instanceMethod ({ cls := "SprayedLettersModel", name := "tick", desc := "(I)I" } : Jvm.MethodName)) ∈ TB := tb_at 1013 (by decide +kernel) rfl
theorem mw_941 : (Jvm.Cond.selects "SprayedLettersModel" ({ cls := "SprayedLettersModel", name := "tick", desc := "(I)I" } : Jvm.MethodName) ({ cls := "SprayedLettersModel", name := "tick", desc := "(I)I" } : Jvm.MethodName)) ∈ TB := tb_at 1014 (by decide +kernel) rfl
theorem mw_942 : (Jvm.Cond.code ({ cls := "SprayedLettersModel", name := "tick", desc := "(I)I" } : Jvm.MethodName) prog_8_method_63_code (4 : Nat) (Option.some Jvm.ClassFile.FieldType.int)) ∈ TB := tb_at 1015 (by decide +kernel) rfl
theorem mw_943 : (Jvm.Cond.constantLong "SprayedLettersModel" (243 : Nat) (50 : Int64)) ∈ TB := tb_at 1016 (by decide +kernel) rfl
theorem mw_944 : (Jvm.Cond.methodLink "SprayedLettersModel" (245 : Nat) ({ cls := "SprayedLettersModel", name := "minute", desc := "()V" } : Jvm.MethodName)) ∈ TB := tb_at 1017 (by decide +kernel) rfl
theorem mw_946 : (Jvm.Cond.instanceMethod ({ cls := "SprayedLettersModel", name := "minute", desc := "()V" } : Jvm.MethodName)) ∈ TB := tb_at 1019 (by decide +kernel) rfl
theorem mw_947 : (Jvm.Cond.code ({ cls := "SprayedLettersModel", name := "minute", desc := "()V" } : Jvm.MethodName) prog_8_method_44_code (3 : Nat) (Option.none : Option Jvm.ClassFile.FieldType)) ∈ TB := tb_at 1020 (by decide +kernel) rfl
theorem mw_948 : (Jvm.Cond.methodLink "SprayedLettersModel" (136 : Nat) ({ cls := "SprayedLettersModel", name := "goes", desc := "(II)V" } : Jvm.MethodName)) ∈ TB := tb_at 1021 (by decide +kernel) rfl
theorem mw_950 : (Jvm.Cond.instanceMethod ({ cls := "SprayedLettersModel", name := "goes", desc := "(II)V" } : Jvm.MethodName)) ∈ TB := tb_at 1023 (by decide +kernel) rfl
theorem mw_951 : (Jvm.Cond.code ({ cls := "SprayedLettersModel", name := "goes", desc := "(II)V" } : Jvm.MethodName) prog_8_method_24_code (3 : Nat) (Option.none : Option Jvm.ClassFile.FieldType)) ∈ TB := tb_at 1024 (by decide +kernel) rfl
theorem mw_952 : (Jvm.Cond.methodLink "SprayedLettersModel" (199 : Nat) ({ cls := "SprayedLettersModel", name := "isBorn", desc := "(I)V" } : Jvm.MethodName)) ∈ TB := tb_at 1025 (by decide +kernel) rfl
theorem mw_954 : (Jvm.Cond.instanceMethod ({ cls := "SprayedLettersModel", name := "isBorn", desc := "(I)V" } : Jvm.MethodName)) ∈ TB := tb_at 1027 (by decide +kernel) rfl
theorem mw_955 : (Jvm.Cond.code ({ cls := "SprayedLettersModel", name := "isBorn", desc := "(I)V" } : Jvm.MethodName) prog_8_method_31_code (3 : Nat) (Option.none : Option Jvm.ClassFile.FieldType)) ∈ TB := tb_at 1028 (by decide +kernel) rfl
theorem mw_956 : (Jvm.Cond.methodLink "SprayedLettersModel" (143 : Nat) ({ cls := "SprayedLettersModel", name := "makesRoom", desc := "(II)V" } : Jvm.MethodName)) ∈ TB := tb_at 1029 (by decide +kernel) rfl
theorem mw_958 : (Jvm.Cond.instanceMethod ({ cls := "SprayedLettersModel", name := "makesRoom", desc := "(II)V" } : Jvm.MethodName)) ∈ TB := tb_at 1031 (by decide +kernel) rfl
theorem mw_959 : (Jvm.Cond.code ({ cls := "SprayedLettersModel", name := "makesRoom", desc := "(II)V" } : Jvm.MethodName) prog_8_method_30_code (5 : Nat) (Option.none : Option Jvm.ClassFile.FieldType)) ∈ TB := tb_at 1032 (by decide +kernel) rfl
theorem mw_960 : (Jvm.Cond.methodLink "SprayedLettersModel" (132 : Nat) ({ cls := "SprayedLettersModel", name := "isAhead", desc := "(III)Z" } : Jvm.MethodName)) ∈ TB := tb_at 1033 (by decide +kernel) rfl
theorem mw_962 : (Jvm.Cond.instanceMethod ({ cls := "SprayedLettersModel", name := "isAhead", desc := "(III)Z" } : Jvm.MethodName)) ∈ TB := tb_at 1035 (by decide +kernel) rfl
theorem mw_963 : (Jvm.Cond.code ({ cls := "SprayedLettersModel", name := "isAhead", desc := "(III)Z" } : Jvm.MethodName) prog_8_method_29_code (4 : Nat) (Option.some Jvm.ClassFile.FieldType.boolean)) ∈ TB := tb_at 1036 (by decide +kernel) rfl
theorem mw_964 : (Jvm.Cond.methodLink "SprayedLettersModel" (126 : Nat) ({ cls := "SprayedLettersModel", name := "sinceOf", desc := "(II)I" } : Jvm.MethodName)) ∈ TB := tb_at 1037 (by decide +kernel) rfl
theorem mw_966 : (Jvm.Cond.instanceMethod ({ cls := "SprayedLettersModel", name := "sinceOf", desc := "(II)I" } : Jvm.MethodName)) ∈ TB := tb_at 1039 (by decide +kernel) rfl
theorem mw_967 : (Jvm.Cond.code ({ cls := "SprayedLettersModel", name := "sinceOf", desc := "(II)I" } : Jvm.MethodName) prog_8_method_22_code (3 : Nat) (Option.some Jvm.ClassFile.FieldType.int)) ∈ TB := tb_at 1040 (by decide +kernel) rfl
theorem mw_968 : (Jvm.Cond.methodLink "SprayedLettersModel" (146 : Nat) ({ cls := "SprayedLettersModel", name := "comes", desc := "(IIII)V" } : Jvm.MethodName)) ∈ TB := tb_at 1041 (by decide +kernel) rfl
theorem mw_970 : (Jvm.Cond.instanceMethod ({ cls := "SprayedLettersModel", name := "comes", desc := "(IIII)V" } : Jvm.MethodName)) ∈ TB := tb_at 1043 (by decide +kernel) rfl
theorem mw_971 : (Jvm.Cond.code ({ cls := "SprayedLettersModel", name := "comes", desc := "(IIII)V" } : Jvm.MethodName) prog_8_method_23_code (5 : Nat) (Option.none : Option Jvm.ClassFile.FieldType)) ∈ TB := tb_at 1044 (by decide +kernel) rfl
theorem mw_972 : (Jvm.Cond.methodLink "SprayedLettersModel" (205 : Nat) ({ cls := "SprayedLettersModel", name := "meets", desc := "(III)V" } : Jvm.MethodName)) ∈ TB := tb_at 1045 (by decide +kernel) rfl
theorem mw_974 : (Jvm.Cond.instanceMethod ({ cls := "SprayedLettersModel", name := "meets", desc := "(III)V" } : Jvm.MethodName)) ∈ TB := tb_at 1047 (by decide +kernel) rfl
theorem mw_975 : (Jvm.Cond.code ({ cls := "SprayedLettersModel", name := "meets", desc := "(III)V" } : Jvm.MethodName) prog_8_method_41_code (5 : Nat) (Option.none : Option Jvm.ClassFile.FieldType)) ∈ TB := tb_at 1048 (by decide +kernel) rfl
theorem mw_976 : (Jvm.Cond.methodLink "SprayedLettersModel" (186 : Nat) ({ cls := "SprayedLettersModel", name := "hasNote", desc := "(II)Z" } : Jvm.MethodName)) ∈ TB := tb_at 1049 (by decide +kernel) rfl
theorem mw_978 : (Jvm.Cond.instanceMethod ({ cls := "SprayedLettersModel", name := "hasNote", desc := "(II)Z" } : Jvm.MethodName)) ∈ TB := tb_at 1051 (by decide +kernel) rfl
theorem mw_979 : (Jvm.Cond.code ({ cls := "SprayedLettersModel", name := "hasNote", desc := "(II)Z" } : Jvm.MethodName) prog_8_method_25_code (3 : Nat) (Option.some Jvm.ClassFile.FieldType.boolean)) ∈ TB := tb_at 1052 (by decide +kernel) rfl
theorem mw_980 : (Jvm.Cond.methodLink "SprayedLettersModel" (162 : Nat) ({ cls := "SprayedLettersModel", name := "notes", desc := "(II)V" } : Jvm.MethodName)) ∈ TB := tb_at 1053 (by decide +kernel) rfl
theorem mw_982 : (Jvm.Cond.instanceMethod ({ cls := "SprayedLettersModel", name := "notes", desc := "(II)V" } : Jvm.MethodName)) ∈ TB := tb_at 1055 (by decide +kernel) rfl
theorem mw_983 : (Jvm.Cond.code ({ cls := "SprayedLettersModel", name := "notes", desc := "(II)V" } : Jvm.MethodName) prog_8_method_35_code (3 : Nat) (Option.none : Option Jvm.ClassFile.FieldType)) ∈ TB := tb_at 1056 (by decide +kernel) rfl
theorem mw_984 : (Jvm.Cond.methodLink "SprayedLettersModel" (189 : Nat) ({ cls := "SprayedLettersModel", name := "cures", desc := "(I)V" } : Jvm.MethodName)) ∈ TB := tb_at 1057 (by decide +kernel) rfl
theorem mw_986 : (Jvm.Cond.instanceMethod ({ cls := "SprayedLettersModel", name := "cures", desc := "(I)V" } : Jvm.MethodName)) ∈ TB := tb_at 1059 (by decide +kernel) rfl
theorem mw_987 : (Jvm.Cond.code ({ cls := "SprayedLettersModel", name := "cures", desc := "(I)V" } : Jvm.MethodName) prog_8_method_40_code (3 : Nat) (Option.none : Option Jvm.ClassFile.FieldType)) ∈ TB := tb_at 1060 (by decide +kernel) rfl
theorem mw_988 : (Jvm.Cond.methodLink "SprayedLettersModel" (193 : Nat) ({ cls := "SprayedLettersModel", name := "handsAll", desc := "(II)V" } : Jvm.MethodName)) ∈ TB := tb_at 1061 (by decide +kernel) rfl
theorem mw_990 : (Jvm.Cond.instanceMethod ({ cls := "SprayedLettersModel", name := "handsAll", desc := "(II)V" } : Jvm.MethodName)) ∈ TB := tb_at 1063 (by decide +kernel) rfl
theorem mw_991 : (Jvm.Cond.code ({ cls := "SprayedLettersModel", name := "handsAll", desc := "(II)V" } : Jvm.MethodName) prog_8_method_39_code (5 : Nat) (Option.none : Option Jvm.ClassFile.FieldType)) ∈ TB := tb_at 1064 (by decide +kernel) rfl
theorem mw_992 : (Jvm.Cond.methodLink "SprayedLettersModel" (169 : Nat) ({ cls := "SprayedLettersModel", name := "nextOf", desc := "(II)I" } : Jvm.MethodName)) ∈ TB := tb_at 1065 (by decide +kernel) rfl
theorem mw_994 : (Jvm.Cond.instanceMethod ({ cls := "SprayedLettersModel", name := "nextOf", desc := "(II)I" } : Jvm.MethodName)) ∈ TB := tb_at 1067 (by decide +kernel) rfl
theorem mw_995 : (Jvm.Cond.code ({ cls := "SprayedLettersModel", name := "nextOf", desc := "(II)I" } : Jvm.MethodName) prog_8_method_37_code (7 : Nat) (Option.some Jvm.ClassFile.FieldType.int)) ∈ TB := tb_at 1068 (by decide +kernel) rfl
theorem mw_996 : (Jvm.Cond.methodLink "SprayedLettersModel" (179 : Nat) ({ cls := "SprayedLettersModel", name := "hands", desc := "(III)V" } : Jvm.MethodName)) ∈ TB := tb_at 1069 (by decide +kernel) rfl
theorem mw_998 : (Jvm.Cond.instanceMethod ({ cls := "SprayedLettersModel", name := "hands", desc := "(III)V" } : Jvm.MethodName)) ∈ TB := tb_at 1071 (by decide +kernel) rfl
theorem mw_999 : (Jvm.Cond.code ({ cls := "SprayedLettersModel", name := "hands", desc := "(III)V" } : Jvm.MethodName) prog_8_method_36_code (6 : Nat) (Option.none : Option Jvm.ClassFile.FieldType)) ∈ TB := tb_at 1072 (by decide +kernel) rfl
theorem mw_1000 : (Jvm.Cond.methodLink "SprayedLettersModel" (183 : Nat) ({ cls := "SprayedLettersModel", name := "refuses", desc := "(IIII)V" } : Jvm.MethodName)) ∈ TB := tb_at 1073 (by decide +kernel) rfl
theorem mw_1002 : (Jvm.Cond.instanceMethod ({ cls := "SprayedLettersModel", name := "refuses", desc := "(IIII)V" } : Jvm.MethodName)) ∈ TB := tb_at 1075 (by decide +kernel) rfl
theorem mw_1003 : (Jvm.Cond.code ({ cls := "SprayedLettersModel", name := "refuses", desc := "(IIII)V" } : Jvm.MethodName) prog_8_method_38_code (5 : Nat) (Option.none : Option Jvm.ClassFile.FieldType)) ∈ TB := tb_at 1076 (by decide +kernel) rfl
theorem mw_1004 : (Jvm.Cond.methodLink "SprayedLettersLaw" (81 : Nat) ({ cls := "SprayedLettersModel", name := "meet", desc := "(III)I" } : Jvm.MethodName)) ∈ TB := tb_at 1077 (by decide +kernel) rfl
theorem mw_1005 : (Jvm.Cond.instanceMethod ({ cls := "SprayedLettersModel", name := "meet", desc := "(III)I" } : Jvm.MethodName)) ∈ TB := tb_at 1078 (by decide +kernel) rfl
theorem mw_1006 : (Jvm.Cond.selects "SprayedLettersModel" ({ cls := "SprayedLettersModel", name := "meet", desc := "(III)I" } : Jvm.MethodName) ({ cls := "SprayedLettersModel", name := "meet", desc := "(III)I" } : Jvm.MethodName)) ∈ TB := tb_at 1079 (by decide +kernel) rfl
theorem mw_1007 : (Jvm.Cond.code ({ cls := "SprayedLettersModel", name := "meet", desc := "(III)I" } : Jvm.MethodName) prog_8_method_64_code (5 : Nat) (Option.some Jvm.ClassFile.FieldType.int)) ∈ TB := tb_at 1080 (by decide +kernel) rfl
theorem mw_1008 : (Jvm.Cond.methodLink "SprayedLettersLaw" (86 : Nat) ({ cls := "SprayedLettersModel", name := "send", desc := "(IIIII)I" } : Jvm.MethodName)) ∈ TB := tb_at 1081 (by decide +kernel) rfl
theorem mw_1009 : (Jvm.Cond.instanceMethod ({ cls := "SprayedLettersModel", name := "send", desc := "(IIIII)I" } : Jvm.MethodName)) ∈ TB := tb_at 1082 (by decide +kernel) rfl
theorem mw_1010 : (Jvm.Cond.selects "SprayedLettersModel" ({ cls := "SprayedLettersModel", name := "send", desc := "(IIIII)I" } : Jvm.MethodName) ({ cls := "SprayedLettersModel", name := "send", desc := "(IIIII)I" } : Jvm.MethodName)) ∈ TB := tb_at 1083 (by decide +kernel) rfl
theorem mw_1011 : (Jvm.Cond.code ({ cls := "SprayedLettersModel", name := "send", desc := "(IIIII)I" } : Jvm.MethodName) prog_8_method_65_code (8 : Nat) (Option.some Jvm.ClassFile.FieldType.int)) ∈ TB := tb_at 1084 (by decide +kernel) rfl
theorem mw_1012 : (Jvm.Cond.constantLong "SprayedLettersModel" (248 : Nat) (64 : Int64)) ∈ TB := tb_at 1085 (by decide +kernel) rfl
theorem mw_1013 : (Jvm.Cond.methodLink "SprayedLettersLaw" (90 : Nat) ({ cls := "SprayedLettersModel", name := "set", desc := "(II)I" } : Jvm.MethodName)) ∈ TB := tb_at 1086 (by decide +kernel) rfl
theorem mw_1014 : (Jvm.Cond.instanceMethod ({ cls := "SprayedLettersModel", name := "set", desc := "(II)I" } : Jvm.MethodName)) ∈ TB := tb_at 1087 (by decide +kernel) rfl
theorem mw_1015 : (Jvm.Cond.selects "SprayedLettersModel" ({ cls := "SprayedLettersModel", name := "set", desc := "(II)I" } : Jvm.MethodName) ({ cls := "SprayedLettersModel", name := "set", desc := "(II)I" } : Jvm.MethodName)) ∈ TB := tb_at 1088 (by decide +kernel) rfl
theorem mw_1016 : (Jvm.Cond.code ({ cls := "SprayedLettersModel", name := "set", desc := "(II)I" } : Jvm.MethodName) prog_8_method_66_code (4 : Nat) (Option.some Jvm.ClassFile.FieldType.int)) ∈ TB := tb_at 1089 (by decide +kernel) rfl
theorem mw_1017 : (Jvm.Cond.constantLong "SprayedLettersModel" (250 : Nat) (9 : Int64)) ∈ TB := tb_at 1090 (by decide +kernel) rfl
theorem mw_1018 : (Jvm.Cond.methodLink "SprayedLettersLaw" (94 : Nat) ({ cls := "SprayedLettersModel", name := "draw", desc := "(II)I" } : Jvm.MethodName)) ∈ TB := tb_at 1091 (by decide +kernel) rfl
theorem mw_1019 : (Jvm.Cond.instanceMethod ({ cls := "SprayedLettersModel", name := "draw", desc := "(II)I" } : Jvm.MethodName)) ∈ TB := tb_at 1092 (by decide +kernel) rfl
theorem mw_1020 : (Jvm.Cond.selects "SprayedLettersModel" ({ cls := "SprayedLettersModel", name := "draw", desc := "(II)I" } : Jvm.MethodName) ({ cls := "SprayedLettersModel", name := "draw", desc := "(II)I" } : Jvm.MethodName)) ∈ TB := tb_at 1093 (by decide +kernel) rfl
theorem mw_1021 : (Jvm.Cond.code ({ cls := "SprayedLettersModel", name := "draw", desc := "(II)I" } : Jvm.MethodName) prog_8_method_68_code (7 : Nat) (Option.some Jvm.ClassFile.FieldType.int)) ∈ TB := tb_at 1094 (by decide +kernel) rfl
theorem mw_1022 : (Jvm.Cond.constantLong "SprayedLettersModel" (256 : Nat) (20 : Int64)) ∈ TB := tb_at 1095 (by decide +kernel) rfl
theorem mw_1023 : (Jvm.Cond.methodLink "SprayedLettersModel" (258 : Nat) ({ cls := "SprayedLettersModel", name := "got", desc := "()I" } : Jvm.MethodName)) ∈ TB := tb_at 1096 (by decide +kernel) rfl
theorem mw_1025 : (Jvm.Cond.instanceMethod ({ cls := "SprayedLettersModel", name := "got", desc := "()I" } : Jvm.MethodName)) ∈ TB := tb_at 1098 (by decide +kernel) rfl
theorem mw_1026 : (Jvm.Cond.code ({ cls := "SprayedLettersModel", name := "got", desc := "()I" } : Jvm.MethodName) prog_8_method_67_code (1 : Nat) (Option.some Jvm.ClassFile.FieldType.int)) ∈ TB := tb_at 1099 (by decide +kernel) rfl
theorem mw_1027 : (Jvm.Cond.constant "SprayedLettersModel" (255 : Nat) (1103515245 : Int32)) ∈ TB := tb_at 1100 (by decide +kernel) rfl
theorem mw_1028 : (Jvm.Cond.methodLink "SprayedLettersLaw" (98 : Nat) ({ cls := "SprayedLettersModel", name := "keep", desc := "(I)I" } : Jvm.MethodName)) ∈ TB := tb_at 1101 (by decide +kernel) rfl
theorem mw_1029 : (Jvm.Cond.instanceMethod ({ cls := "SprayedLettersModel", name := "keep", desc := "(I)I" } : Jvm.MethodName)) ∈ TB := tb_at 1102 (by decide +kernel) rfl
theorem mw_1030 : (Jvm.Cond.selects "SprayedLettersModel" ({ cls := "SprayedLettersModel", name := "keep", desc := "(I)I" } : Jvm.MethodName) ({ cls := "SprayedLettersModel", name := "keep", desc := "(I)I" } : Jvm.MethodName)) ∈ TB := tb_at 1103 (by decide +kernel) rfl
theorem mw_1031 : (Jvm.Cond.code ({ cls := "SprayedLettersModel", name := "keep", desc := "(I)I" } : Jvm.MethodName) prog_8_method_69_code (4 : Nat) (Option.some Jvm.ClassFile.FieldType.int)) ∈ TB := tb_at 1104 (by decide +kernel) rfl
theorem mw_1032 : (Jvm.Cond.methodLink "SprayedLettersLaw" (102 : Nat) ({ cls := "SprayedLettersModel", name := "back", desc := "(I)I" } : Jvm.MethodName)) ∈ TB := tb_at 1105 (by decide +kernel) rfl
theorem mw_1033 : (Jvm.Cond.instanceMethod ({ cls := "SprayedLettersModel", name := "back", desc := "(I)I" } : Jvm.MethodName)) ∈ TB := tb_at 1106 (by decide +kernel) rfl
theorem mw_1034 : (Jvm.Cond.selects "SprayedLettersModel" ({ cls := "SprayedLettersModel", name := "back", desc := "(I)I" } : Jvm.MethodName) ({ cls := "SprayedLettersModel", name := "back", desc := "(I)I" } : Jvm.MethodName)) ∈ TB := tb_at 1107 (by decide +kernel) rfl
theorem mw_1035 : (Jvm.Cond.code ({ cls := "SprayedLettersModel", name := "back", desc := "(I)I" } : Jvm.MethodName) prog_8_method_70_code (3 : Nat) (Option.some Jvm.ClassFile.FieldType.int)) ∈ TB := tb_at 1108 (by decide +kernel) rfl
theorem mw_1036 : (Jvm.Cond.fieldLink "java/lang/String" (9 : Nat) "java/lang/String" "value" "[B") ∈ TB := tb_at 1109 (by decide +kernel) rfl
theorem mw_1037 : (Jvm.Cond.fieldLink "java/lang/String" (15 : Nat) "java/lang/String" "coder" "B") ∈ TB := tb_at 1110 (by decide +kernel) rfl
