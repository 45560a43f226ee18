abbrev mX0_align : Mt := (yX0_align, cX0_align, 6, some .int)
abbrev mX0_pricePairs : Mt := (yX0_pricePairs, cX0_pricePairs, 6, none)
abbrev mX0_pairPrice : Mt := (yX0_pairPrice, cX0_pairPrice, 7, some .int)
abbrev mX0_fillForests : Mt := (yX0_fillForests, cX0_fillForests, 6, none)
abbrev mX0_keepUnder : Mt := (yX0_keepUnder, cX0_keepUnder, 5, none)
abbrev mX0_fillLine : Mt := (yX0_fillLine, cX0_fillLine, 13, none)
abbrev mX0_costOfPairing : Mt := (yX0_costOfPairing, cX0_costOfPairing, 3, some .int)
abbrev mX0_choosePairs : Mt := (yX0_choosePairs, cX0_choosePairs, 4, none)
abbrev mX0_walkBack : Mt := (yX0_walkBack, cX0_walkBack, 8, none)
abbrev mX0_addPair : Mt := (yX0_addPair, cX0_addPair, 3, none)
abbrev mX1_arrange : Mt := (yX1_arrange, cX1_arrange, 4, none)
abbrev mX2_forget : Mt := (yX2_forget, cX2_forget, 1, none)
abbrev mX2_groupAll : Mt := (yX2_groupAll, cX2_groupAll, 3, none)
abbrev mX2_groupFor : Mt := (yX2_groupFor, cX2_groupFor, 5, some .int)
abbrev mX2_gatherKids : Mt := (yX2_gatherKids, cX2_gatherKids, 5, some .int)
abbrev mX2_sinkLastKid : Mt := (yX2_sinkLastKid, cX2_sinkLastKid, 4, none)
abbrev mX2_isOf : Mt := (yX2_isOf, cX2_isOf, 6, some .boolean)
abbrev mX3_plan : Mt := (yX3_plan, cX3_plan, 5, none)
abbrev mX3_matchRows : Mt := (yX3_matchRows, cX3_matchRows, 4, none)
abbrev mX3_takeLonely : Mt := (yX3_takeLonely, cX3_takeLonely, 4, none)
abbrev mX3_mendPairs : Mt := (yX3_mendPairs, cX3_mendPairs, 6, none)
abbrev mX3_putLonely : Mt := (yX3_putLonely, cX3_putLonely, 6, none)
abbrev mX3_addAct : Mt := (yX3_addAct, cX3_addAct, 4, none)
abbrev mX4_layTogether : Mt := (yX4_layTogether, cX4_layTogether, 5, none)
abbrev mX4_comeTo : Mt := (yX4_comeTo, cX4_comeTo, 10, some .boolean)
abbrev mX4_comeToChildren : Mt := (yX4_comeToChildren, cX4_comeToChildren, 5, some .boolean)
abbrev mX4_settledField : Mt := (yX4_settledField, cX4_settledField, 11, some .long)
abbrev mX4_settledList : Mt := (yX4_settledList, cX4_settledList, 4, some (.object "BranchMender$Tree"))
abbrev mX4_fieldOf : Mt := (yX4_fieldOf, cX4_fieldOf, 3, some .long)
abbrev mX4_isSameList : Mt := (yX4_isSameList, cX4_isSameList, 7, some .boolean)
abbrev mX4_tellClashes : Mt := (yX4_tellClashes, cX4_tellClashes, 3, none)
abbrev mX4_gatherCommon : Mt := (yX4_gatherCommon, cX4_gatherCommon, 5, some .int)
abbrev mX4_tellClashesOf : Mt := (yX4_tellClashesOf, cX4_tellClashesOf, 12, none)
abbrev mX4_addClash : Mt := (yX4_addClash, cX4_addClash, 3, none)
abbrev mX5_parse : Mt := (yX5_parse, cX5_parse, 3, some .int)
abbrev mX5_readNode : Mt := (yX5_readNode, cX5_readNode, 6, some .boolean)
abbrev mX5_isTwin : Mt := (yX5_isTwin, cX5_isTwin, 4, some .boolean)
abbrev mX5_passLabel : Mt := (yX5_passLabel, cX5_passLabel, 2, some .boolean)
abbrev mX5_readText : Mt := (yX5_readText, cX5_readText, 3, some .boolean)
abbrev mX5_readMark : Mt := (yX5_readMark, cX5_readMark, 2, none)
abbrev mX5_nextDepth : Mt := (yX5_nextDepth, cX5_nextDepth, 3, some .int)
abbrev mX5_pass : Mt := (yX5_pass, cX5_pass, 2, some .boolean)
abbrev mX6_append : Mt := (yX6_append, cX6_append, 2, none)
abbrev mX6_signOn : Mt := (yX6_signOn, cX6_signOn, 2, some .int)
abbrev mX6_lettersFrom : Mt := (yX6_lettersFrom, cX6_lettersFrom, 3, some .int)
abbrev mX6_textSignsFrom : Mt := (yX6_textSignsFrom, cX6_textSignsFrom, 3, some .int)
abbrev mX6_word : Mt := (yX6_word, cX6_word, 6, some .long)
abbrev mX6_asLabel : Mt := (yX6_asLabel, cX6_asLabel, 2, some .long)
abbrev mX6_asText : Mt := (yX6_asText, cX6_asText, 2, some .long)
abbrev mX7_become : Mt := (yX7_become, cX7_become, 2, none)
abbrev mX7_copyRows : Mt := (yX7_copyRows, cX7_copyRows, 5, none)
abbrev mX7_measure : Mt := (yX7_measure, cX7_measure, 3, none)
abbrev mX7_addRow : Mt := (yX7_addRow, cX7_addRow, 2, some .int)
abbrev mX7_setRow : Mt := (yX7_setRow, cX7_setRow, 6, none)
abbrev mX7_rowOf : Mt := (yX7_rowOf, cX7_rowOf, 3, some .int)
abbrev mX7_endOf : Mt := (yX7_endOf, cX7_endOf, 2, some .int)
abbrev mX7_isChild : Mt := (yX7_isChild, cX7_isChild, 3, some .boolean)
abbrev mX7_childrenOf : Mt := (yX7_childrenOf, cX7_childrenOf, 4, some .int)
abbrev mX7_childAfter : Mt := (yX7_childAfter, cX7_childAfter, 4, some .int)
abbrev mX7_childAt : Mt := (yX7_childAt, cX7_childAt, 5, some .int)
abbrev mX7_parentOf : Mt := (yX7_parentOf, cX7_parentOf, 3, some .int)
abbrev mX7_behind : Mt := (yX7_behind, cX7_behind, 2, some .int)
abbrev mX7_isTooDeep : Mt := (yX7_isTooDeep, cX7_isTooDeep, 2, some .boolean)
abbrev mX7_hasTwins : Mt := (yX7_hasTwins, cX7_hasTwins, 2, some .boolean)
abbrev mX7_hasTwinsUnder : Mt := (yX7_hasTwinsUnder, cX7_hasTwinsUnder, 3, some .boolean)
abbrev mX7_isLabelUnder : Mt := (yX7_isLabelUnder, cX7_isLabelUnder, 7, some .boolean)
abbrev mX7_shiftDepths : Mt := (yX7_shiftDepths, cX7_shiftDepths, 5, none)
abbrev mX7_wrap : Mt := (yX7_wrap, cX7_wrap, 6, some .int)
abbrev mX7_dissolve : Mt := (yX7_dissolve, cX7_dissolve, 2, none)
abbrev mX7_cutOut : Mt := (yX7_cutOut, cX7_cutOut, 3, none)
abbrev mX7_graft : Mt := (yX7_graft, cX7_graft, 7, none)
abbrev mX8_spell : Mt := (yX8_spell, cX8_spell, 3, none)
abbrev mX8_spellNode : Mt := (yX8_spellNode, cX8_spellNode, 4, none)
abbrev mX8_leaveBranches : Mt := (yX8_leaveBranches, cX8_leaveBranches, 6, none)
abbrev mX8_addWord : Mt := (yX8_addWord, cX8_addWord, 4, none)
abbrev mX8_add : Mt := (yX8_add, cX8_add, 2, none)
abbrev mX9_feed : Mt := (yX9_feed, cX9_feed, 5, some .int)
abbrev mX9_read : Mt := (yX9_read, cX9_read, 4, some .int)
abbrev mX9_write : Mt := (yX9_write, cX9_write, 3, some .int)
abbrev mX9_letter : Mt := (yX9_letter, cX9_letter, 2, some .int)
abbrev mX9_copy : Mt := (yX9_copy, cX9_copy, 4, some .int)
abbrev mX9_clear : Mt := (yX9_clear, cX9_clear, 3, some .int)
abbrev mX9_node : Mt := (yX9_node, cX9_node, 6, some .int)
abbrev mX9_size : Mt := (yX9_size, cX9_size, 3, some .int)
abbrev mX9_relabel : Mt := (yX9_relabel, cX9_relabel, 6, some .int)
abbrev mX9_retext : Mt := (yX9_retext, cX9_retext, 6, some .int)
abbrev mX9_put : Mt := (yX9_put, cX9_put, 12, some .int)
abbrev mX9_take : Mt := (yX9_take, cX9_take, 4, some .int)
abbrev mX9_move : Mt := (yX9_move, cX9_move, 7, some .int)
abbrev mX9_price : Mt := (yX9_price, cX9_price, 4, some .int)
abbrev mX9_distance : Mt := (yX9_distance, cX9_distance, 4, some .int)
abbrev mX9_map : Mt := (yX9_map, cX9_map, 4, some .int)
abbrev mX9_pair : Mt := (yX9_pair, cX9_pair, 3, some .int)
abbrev mX9_acts : Mt := (yX9_acts, cX9_acts, 1, some .int)
abbrev mX9_act : Mt := (yX9_act, cX9_act, 3, some .int)
abbrev mX9_like : Mt := (yX9_like, cX9_like, 1, some .int)
abbrev mX9_same : Mt := (yX9_same, cX9_same, 5, some .int)
abbrev mX9_unlike : Mt := (yX9_unlike, cX9_unlike, 3, some .int)
abbrev mX9_shared : Mt := (yX9_shared, cX9_shared, 7, some .int)
abbrev mX9_merge : Mt := (yX9_merge, cX9_merge, 6, some .int)
abbrev mX9_merged : Mt := (yX9_merged, cX9_merged, 1, some .int)
abbrev mX9_clash : Mt := (yX9_clash, cX9_clash, 3, some .int)
abbrev mX9_found : Mt := (yX9_found, cX9_found, 3, some .int)
abbrev mX9_tell : Mt := (yX9_tell, cX9_tell, 2, some .int)
abbrev mX9_isPlace : Mt := (yX9_isPlace, cX9_isPlace, 1, some .boolean)
abbrev mX9_lackOfTree : Mt := (yX9_lackOfTree, cX9_lackOfTree, 2, some .int)
abbrev mX9_lackOfTrees : Mt := (yX9_lackOfTrees, cX9_lackOfTrees, 4, some .int)
abbrev mX9_seekNode : Mt := (yX9_seekNode, cX9_seekNode, 5, some .int)
abbrev mX9_seekParent : Mt := (yX9_seekParent, cX9_seekParent, 4, some .int)
abbrev mX9_tryOut : Mt := (yX9_tryOut, cX9_tryOut, 3, some .int)
abbrev mX9_detail : Mt := (yX9_detail, cX9_detail, 4, some .int)
abbrev mX9_signAt : Mt := (yX9_signAt, cX9_signAt, 3, some .int)
abbrev mX9_lengthOf : Mt := (yX9_lengthOf, cX9_lengthOf, 3, some .int)
abbrev mX9_isLetter : Mt := (yX9_isLetter, cX9_isLetter, 1, some .boolean)
abbrev mX9_isTextSign : Mt := (yX9_isTextSign, cX9_isTextSign, 1, some .boolean)
abbrev mX9_openerOf : Mt := (yX9_openerOf, cX9_openerOf, 1, some .int)
abbrev mX9_closerOf : Mt := (yX9_closerOf, cX9_closerOf, 1, some .int)
abbrev mX10_found0 : Mt := (yX10_found0, cX10_found0, 2, some .int)
abbrev mX10_in : Mt := (yX10_in, cX10_in, 3, some .boolean)
abbrev mX10_isPlace : Mt := (yX10_isPlace, cX10_isPlace, 1, some .boolean)
abbrev mX10_lacks : Mt := (yX10_lacks, cX10_lacks, 2, some .int)
abbrev mX10_of : Mt := (yX10_of, cX10_of, 4, some .int)
abbrev mX10_set : Mt := (yX10_set, cX10_set, 5, none)
abbrev mX10_deep : Mt := (yX10_deep, cX10_deep, 3, some .int)
abbrev mX10_carry : Mt := (yX10_carry, cX10_carry, 6, none)
abbrev mX10_copyAll : Mt := (yX10_copyAll, cX10_copyAll, 4, none)
abbrev mX10_end : Mt := (yX10_end, cX10_end, 4, some .int)
abbrev mX10_parent : Mt := (yX10_parent, cX10_parent, 4, some .int)
abbrev mX10_child : Mt := (yX10_child, cX10_child, 6, some .int)
abbrev mX10_children : Mt := (yX10_children, cX10_children, 5, some .int)
abbrev mX10_named : Mt := (yX10_named, cX10_named, 4, some .int)
abbrev mX10_isLike : Mt := (yX10_isLike, cX10_isLike, 8, some .boolean)
abbrev mX10_hasTwice : Mt := (yX10_hasTwice, cX10_hasTwice, 5, some .boolean)
abbrev mX10_isTooDeep : Mt := (yX10_isTooDeep, cX10_isTooDeep, 3, some .boolean)
abbrev mX10_feed : Mt := (yX10_feed, cX10_feed, 5, some .int)
abbrev mX10_isLetter : Mt := (yX10_isLetter, cX10_isLetter, 1, some .boolean)
abbrev mX10_isSign : Mt := (yX10_isSign, cX10_isSign, 1, some .boolean)
abbrev mX10_at : Mt := (yX10_at, cX10_at, 3, some .int)
abbrev mX10_signs : Mt := (yX10_signs, cX10_signs, 7, some .int)
abbrev mX10_reads : Mt := (yX10_reads, cX10_reads, 8, some .int)
abbrev mX10_read : Mt := (yX10_read, cX10_read, 5, some .int)
abbrev mX10_writes : Mt := (yX10_writes, cX10_writes, 2, none)
abbrev mX10_write : Mt := (yX10_write, cX10_write, 7, some .int)
abbrev mX10_closes : Mt := (yX10_closes, cX10_closes, 6, none)
abbrev mX10_letter : Mt := (yX10_letter, cX10_letter, 2, some .int)
abbrev mX10_copy : Mt := (yX10_copy, cX10_copy, 4, some .int)
abbrev mX10_clear : Mt := (yX10_clear, cX10_clear, 3, some .int)
abbrev mX10_behind : Mt := (yX10_behind, cX10_behind, 5, some .int)
abbrev mX10_node : Mt := (yX10_node, cX10_node, 5, some .int)
abbrev mX10_size : Mt := (yX10_size, cX10_size, 3, some .int)
abbrev mX10_takes : Mt := (yX10_takes, cX10_takes, 5, some .boolean)
abbrev mX10_relabel : Mt := (yX10_relabel, cX10_relabel, 7, some .int)
abbrev mX10_retext : Mt := (yX10_retext, cX10_retext, 5, some .int)
abbrev mX10_put : Mt := (yX10_put, cX10_put, 13, some .int)
abbrev mX10_take : Mt := (yX10_take, cX10_take, 8, some .int)
abbrev mX10_move : Mt := (yX10_move, cX10_move, 14, some .int)
abbrev mX10_price : Mt := (yX10_price, cX10_price, 4, some .int)
abbrev mX10_lay : Mt := (yX10_lay, cX10_lay, 5, none)
abbrev mX10_pairs : Mt := (yX10_pairs, cX10_pairs, 7, some .int)
abbrev mX10_cell : Mt := (yX10_cell, cX10_cell, 4, some .int)
abbrev mX10_reckon : Mt := (yX10_reckon, cX10_reckon, 10, none)
abbrev mX10_byPair : Mt := (yX10_byPair, cX10_byPair, 10, some .int)
abbrev mX10_lesser : Mt := (yX10_lesser, cX10_lesser, 2, some .int)
abbrev mX10_distance : Mt := (yX10_distance, cX10_distance, 4, some .int)
abbrev mX10_adds : Mt := (yX10_adds, cX10_adds, 3, none)
abbrev mX10_map : Mt := (yX10_map, cX10_map, 11, some .int)
abbrev mX10_tells : Mt := (yX10_tells, cX10_tells, 5, none)
abbrev mX10_pair : Mt := (yX10_pair, cX10_pair, 3, some .int)
abbrev mX10_acts : Mt := (yX10_acts, cX10_acts, 1, some .int)
abbrev mX10_act : Mt := (yX10_act, cX10_act, 3, some .int)
abbrev mX10_like : Mt := (yX10_like, cX10_like, 1, some .int)
abbrev mX10_areSame : Mt := (yX10_areSame, cX10_areSame, 13, some .boolean)
abbrev mX10_sort : Mt := (yX10_sort, cX10_sort, 5, none)
abbrev mX10_same : Mt := (yX10_same, cX10_same, 4, some .int)
abbrev mX10_unlike : Mt := (yX10_unlike, cX10_unlike, 5, some .int)
abbrev mX10_shared : Mt := (yX10_shared, cX10_shared, 8, some .int)
abbrev mX10_clashed : Mt := (yX10_clashed, cX10_clashed, 3, none)
abbrev mX10_isField : Mt := (yX10_isField, cX10_isField, 8, some .boolean)
abbrev mX10_whose : Mt := (yX10_whose, cX10_whose, 9, some .int)
abbrev mX10_merges : Mt := (yX10_merges, cX10_merges, 15, some .boolean)
abbrev mX10_merge : Mt := (yX10_merge, cX10_merge, 11, some .int)
abbrev mX10_least : Mt := (yX10_least, cX10_least, 7, some .int)
abbrev mX10_merged : Mt := (yX10_merged, cX10_merged, 1, some .int)
abbrev mX10_clash : Mt := (yX10_clash, cX10_clash, 3, some .int)
abbrev mX10_found : Mt := (yX10_found, cX10_found, 2, some .int)
def Tr (t : Nat) : Prop := t % 7 = 0 ∧ t < 70
def Bo (o : Nat) : Prop := o = 84 ∨ o = 88
theorem Tr0 : Tr 0 := by unfold Tr; decide
theorem Tr7 : Tr 7 := by unfold Tr; decide
theorem Tr14 : Tr 14 := by unfold Tr; decide
theorem Tr21 : Tr 21 := by unfold Tr; decide
theorem Tr28 : Tr 28 := by unfold Tr; decide
theorem Tr35 : Tr 35 := by unfold Tr; decide
theorem Tr42 : Tr 42 := by unfold Tr; decide
theorem Tr49 : Tr 49 := by unfold Tr; decide
theorem Tr56 : Tr 56 := by unfold Tr; decide
theorem Tr63 : Tr 63 := by unfold Tr; decide
theorem Bo84 : Bo 84 := by unfold Bo; decide
theorem Bo88 : Bo 88 := by unfold Bo; decide
theorem shT0 {t : Nat} (h : Tr t) : shp t = (10 + 7, 0) := by
  unfold shp
  rw [if_pos h.2, if_pos h.1]
theorem shT1 {t : Nat} (h : Tr t) : shp (t + 1) = (0, 30) := by
  have h1 := h.1
  have h2 := h.2
  unfold shp
  rw [if_pos (by omega), if_neg (by omega), if_pos (by omega)]
theorem shT2 {t : Nat} (h : Tr t) : shp (t + 2) = (0, 30) := by
  have h1 := h.1
  have h2 := h.2
  unfold shp
  rw [if_pos (by omega), if_neg (by omega), if_pos (by omega)]
theorem shT3 {t : Nat} (h : Tr t) : shp (t + 3) = (0, 30) := by
  have h1 := h.1
  have h2 := h.2
  unfold shp
  rw [if_pos (by omega), if_neg (by omega), if_pos (by omega)]
theorem shT4 {t : Nat} (h : Tr t) : shp (t + 4) = (0, 30) := by
  have h1 := h.1
  have h2 := h.2
  unfold shp
  rw [if_pos (by omega), if_neg (by omega), if_pos (by omega)]
theorem shT5 {t : Nat} (h : Tr t) : shp (t + 5) = (1, 30) := by
  have h1 := h.1
  have h2 := h.2
  unfold shp
  rw [if_pos (by omega), if_neg (by omega), if_neg (by omega)]
theorem shT6 {t : Nat} (h : Tr t) : shp (t + 6) = (1, 30) := by
  have h1 := h.1
  have h2 := h.2
  unfold shp
  rw [if_pos (by omega), if_neg (by omega), if_neg (by omega)]
theorem shO0 {o : Nat} (h : Bo o) : shp (o) = (10 + 1, 0) := by
  rcases h with rfl | rfl <;> decide +kernel
theorem shO1 {o : Nat} (h : Bo o) : shp (o + 1) = (0, 31) := by
  rcases h with rfl | rfl <;> decide +kernel
theorem shO2 {o : Nat} (h : Bo o) : shp (o + 2) = (0, 31) := by
  rcases h with rfl | rfl <;> decide +kernel
theorem shO3 {o : Nat} (h : Bo o) : shp (o + 3) = (2, 31) := by
  rcases h with rfl | rfl <;> decide +kernel
theorem sh70 : shp 70 = (10 + 9, 0) := by decide +kernel
theorem sh71 : shp 71 = (3, 8) := by decide +kernel
theorem sh72 : shp 72 = (10 + 6, 0) := by decide +kernel
theorem sh73 : shp 73 = (0, 400) := by decide +kernel
theorem sh74 : shp 74 = (10 + 5, 0) := by decide +kernel
theorem sh75 : shp 75 = (0, 12) := by decide +kernel
theorem sh76 : shp 76 = (10 + 8, 0) := by decide +kernel
theorem sh77 : shp 77 = (0, 540) := by decide +kernel
theorem sh78 : shp 78 = (0, 12) := by decide +kernel
theorem sh79 : shp 79 = (0, 4) := by decide +kernel
theorem sh80 : shp 80 = (10 + 0, 0) := by decide +kernel
theorem sh81 : shp 81 = (0, 30) := by decide +kernel
theorem sh82 : shp 82 = (0, 30) := by decide +kernel
theorem sh84 : shp 84 = (10 + 1, 0) := by decide +kernel
theorem sh85 : shp 85 = (0, 31) := by decide +kernel
theorem sh86 : shp 86 = (0, 31) := by decide +kernel
theorem sh87 : shp 87 = (2, 31) := by decide +kernel
theorem sh88 : shp 88 = (10 + 1, 0) := by decide +kernel
theorem sh89 : shp 89 = (0, 31) := by decide +kernel
theorem sh90 : shp 90 = (0, 31) := by decide +kernel
theorem sh91 : shp 91 = (2, 31) := by decide +kernel
theorem sh92 : shp 92 = (10 + 3, 0) := by decide +kernel
theorem sh93 : shp 93 = (0, 30) := by decide +kernel
theorem sh94 : shp 94 = (0, 30) := by decide +kernel
theorem sh95 : shp 95 = (0, 60) := by decide +kernel
theorem sh96 : shp 96 = (0, 60) := by decide +kernel
theorem sh97 : shp 97 = (0, 60) := by decide +kernel
theorem sh98 : shp 98 = (0, 30) := by decide +kernel
theorem sh99 : shp 99 = (2, 30) := by decide +kernel
theorem sh100 : shp 100 = (10 + 2, 0) := by decide +kernel
theorem sh101 : shp 101 = (0, 30) := by decide +kernel
theorem sh102 : shp 102 = (0, 60) := by decide +kernel
theorem sh103 : shp 103 = (1, 60) := by decide +kernel
theorem sh104 : shp 104 = (1, 60) := by decide +kernel
theorem sh105 : shp 105 = (0, 60) := by decide +kernel
theorem sh106 : shp 106 = (0, 60) := by decide +kernel
theorem sh107 : shp 107 = (0, 60) := by decide +kernel
theorem sh108 : shp 108 = (10 + 4, 0) := by decide +kernel
theorem sh109 : shp 109 = (0, 121) := by decide +kernel
theorem sh110 : shp 110 = (0, 121) := by decide +kernel
theorem sh111 : shp 111 = (0, 30) := by decide +kernel
theorem sh112 : shp 112 = (0, 10) := by decide +kernel
theorem sh113 : shp 113 = (4, 31) := by decide +kernel
theorem sh114 : shp 114 = (4, 31) := by decide +kernel
theorem sh115 : shp 115 = (4, 31) := by decide +kernel
theorem sh209 : shp 209 = (10 + 10, 0) := by decide +kernel
theorem sh210 : shp 210 = (0, 6270) := by decide +kernel
theorem sh211 : shp 211 = (0, 11) := by decide +kernel
theorem sh212 : shp 212 = (0, 400) := by decide +kernel
theorem sh213 : shp 213 = (0, 2000) := by decide +kernel
theorem sh214 : shp 214 = (0, 4) := by decide +kernel
theorem sh215 : shp 215 = (0, 10) := by decide +kernel
theorem sh216 : shp 216 = (0, 13) := by decide +kernel
theorem sh217 : shp 217 = (0, 13) := by decide +kernel
theorem sh218 : shp 218 = (0, 60) := by decide +kernel
theorem sh219 : shp 219 = (0, 60) := by decide +kernel
theorem sh220 : shp 220 = (0, 923521) := by decide +kernel
theorem sh221 : shp 221 = (0, 30) := by decide +kernel
theorem sh222 : shp 222 = (0, 30) := by decide +kernel
theorem sh223 : shp 223 = (0, 64) := by decide +kernel
theorem sh224 : shp 224 = (0, 64) := by decide +kernel
theorem sh225 : shp 225 = (0, 64) := by decide +kernel
theorem sh226 : shp 226 = (0, 64) := by decide +kernel
theorem sh227 : shp 227 = (0, 30) := by decide +kernel
theorem sh228 : shp 228 = (0, 30) := by decide +kernel
theorem sh229 : shp 229 = (0, 130) := by decide +kernel
theorem sh230 : shp 230 = (0, 130) := by decide +kernel
theorem sh231 : shp 231 = (0, 130) := by decide +kernel
theorem sh232 : shp 232 = (0, 60) := by decide +kernel
theorem sh233 : shp 233 = (0, 130) := by decide +kernel
theorem sh234 : shp 234 = (0, 130) := by decide +kernel
theorem sh235 : shp 235 = (0, 1000) := by decide +kernel
theorem sh236 : shp 236 = (0, 1000) := by decide +kernel
theorem ixlt {i : Int32} {n : Nat} (h : vp_in i n) : i.toNatClampNeg < n := Nat.not_le.mp fun q => h (Or.inr q)
theorem TrP {i : Int32} (h : vp_in i 8) : Tr (7 * i.toNatClampNeg) := by
  have := ixlt h
  exact ⟨by omega, by omega⟩
theorem shRow : ∀ j, j < 93 → shp (116 + j) = (0, 31) := by decide +kernel
theorem shF {i : Int32} (h : vp_in i 31) : shp (116 + i.toNatClampNeg) = (0, 31) := by
  have := ixlt h
  have e : 116 + i.toNatClampNeg = 116 + (0 + i.toNatClampNeg) := by omega
  rw [e]
  exact shRow _ (by omega)
theorem shU {i : Int32} (h : vp_in i 31) : shp (147 + i.toNatClampNeg) = (0, 31) := by
  have := ixlt h
  have e : 147 + i.toNatClampNeg = 116 + (31 + i.toNatClampNeg) := by omega
  rw [e]
  exact shRow _ (by omega)
theorem shG {i : Int32} (h : vp_in i 31) : shp (178 + i.toNatClampNeg) = (0, 31) := by
  have := ixlt h
  have e : 178 + i.toNatClampNeg = 116 + (62 + i.toNatClampNeg) := by omega
  rw [e]
  exact shRow _ (by omega)
section RowsA
variable {X : Wx} {M : Mt} {d pc : Nat} {l : List (Nat × Value)} {st : List Value} {h : Hp} {Q : Option Value → Hp → Prop}
theorem V_aaldP {i : Int32} (hin : vp_in i 8) (hd : decode M.2.1 pc = .ok (.aaload, 1)) (kk : V X M d (pc + 1) l (.ref (7 * i.toNatClampNeg) :: st) h Q) : V X M d pc l (.int i :: .ref 71 :: st) h Q := V_aald3 sh71 hin hd kk
theorem V_aaldF {i : Int32} (hin : vp_in i 31) (hd : decode M.2.1 pc = .ok (.aaload, 1)) (kk : V X M d (pc + 1) l (.ref (116 + i.toNatClampNeg) :: st) h Q) : V X M d pc l (.int i :: .ref 113 :: st) h Q := V_aald4 sh113 hin hd kk
theorem V_aaldU {i : Int32} (hin : vp_in i 31) (hd : decode M.2.1 pc = .ok (.aaload, 1)) (kk : V X M d (pc + 1) l (.ref (147 + i.toNatClampNeg) :: st) h Q) : V X M d pc l (.int i :: .ref 114 :: st) h Q := V_aald4 sh114 hin hd kk
theorem V_aaldG {i : Int32} (hin : vp_in i 31) (hd : decode M.2.1 pc = .ok (.aaload, 1)) (kk : V X M d (pc + 1) l (.ref (178 + i.toNatClampNeg) :: st) h Q) : V X M d pc l (.int i :: .ref 115 :: st) h Q := V_aald4 sh115 hin hd kk
end RowsA
theorem gwi (i : Nat) {w : Cond} (h : tables_1[i]? = some w) (hg : goodWord w = true) : w ∈ gw := List.mem_filter.mpr ⟨List.mem_append_right _ (List.mem_of_getElem? h), hg⟩
theorem gwp (i : Nat) {w : Cond} (h : (k2_sels lw_privs)[i]? = some w) (hg : goodWord w = true) : w ∈ gw := List.mem_filter.mpr ⟨List.mem_append_left _ (List.mem_of_getElem? h), hg⟩
theorem nsi (i : Nat) {w : Cond} (h : tables_1[i]? = some w) (hg : isNst w = true) : w ∈ nst := List.mem_filter.mpr ⟨List.mem_append_right _ (List.mem_of_getElem? h), hg⟩
theorem in_of {C : String} {T : u_T} {N : Nat} (f : ∀ k, k < N → u_lay C T k ∈ gw) : ∀ w ∈ u_ws C T N, w ∈ gw := by
  intro w hw
  obtain ⟨k, hk, rfl⟩ := List.mem_map.mp hw
  exact f k (List.mem_range.mp hk)
theorem inX0 : ∀ w ∈ u_ws RX0 TX0 10, w ∈ gw := in_of (fun k hk => by
  match k, hk with
  | 0, _ => exact (gwi 195 (by decide +kernel) rfl)
  | 1, _ => exact (gwi 197 (by decide +kernel) rfl)
  | 2, _ => exact (gwi 199 (by decide +kernel) rfl)
  | 3, _ => exact (gwi 201 (by decide +kernel) rfl)
  | 4, _ => exact (gwi 203 (by decide +kernel) rfl)
  | 5, _ => exact (gwi 205 (by decide +kernel) rfl)
  | 6, _ => exact (gwi 207 (by decide +kernel) rfl)
  | 7, _ => exact (gwi 209 (by decide +kernel) rfl)
  | 8, _ => exact (gwi 211 (by decide +kernel) rfl)
  | 9, _ => exact (gwi 213 (by decide +kernel) rfl)
  | n + 10, h => exact absurd h (by omega))
theorem inX1 : ∀ w ∈ u_ws RX1 TX1 4, w ∈ gw := in_of (fun k hk => by
  match k, hk with
  | 0, _ => exact (gwi 168 (by decide +kernel) rfl)
  | 1, _ => exact (gwi 170 (by decide +kernel) rfl)
  | 2, _ => exact (gwi 172 (by decide +kernel) rfl)
  | 3, _ => exact (gwi 174 (by decide +kernel) rfl)
  | n + 4, h => exact absurd h (by omega))
theorem inX2 : ∀ w ∈ u_ws RX2 TX2 9, w ∈ gw := in_of (fun k hk => by
  match k, hk with
  | 0, _ => exact (gwi 278 (by decide +kernel) rfl)
  | 1, _ => exact (gwi 280 (by decide +kernel) rfl)
  | 2, _ => exact (gwi 282 (by decide +kernel) rfl)
  | 3, _ => exact (gwi 284 (by decide +kernel) rfl)
  | 4, _ => exact (gwi 286 (by decide +kernel) rfl)
  | 5, _ => exact (gwi 288 (by decide +kernel) rfl)
  | 6, _ => exact (gwi 290 (by decide +kernel) rfl)
  | 7, _ => exact (gwi 292 (by decide +kernel) rfl)
  | 8, _ => exact (gwi 294 (by decide +kernel) rfl)
  | n + 9, h => exact absurd h (by omega))
theorem inX3 : ∀ w ∈ u_ws RX3 TX3 10, w ∈ gw := in_of (fun k hk => by
  match k, hk with
  | 0, _ => exact (gwi 240 (by decide +kernel) rfl)
  | 1, _ => exact (gwi 242 (by decide +kernel) rfl)
  | 2, _ => exact (gwi 244 (by decide +kernel) rfl)
  | 3, _ => exact (gwi 246 (by decide +kernel) rfl)
  | 4, _ => exact (gwi 248 (by decide +kernel) rfl)
  | 5, _ => exact (gwi 250 (by decide +kernel) rfl)
  | 6, _ => exact (gwi 252 (by decide +kernel) rfl)
  | 7, _ => exact (gwi 254 (by decide +kernel) rfl)
  | 8, _ => exact (gwi 256 (by decide +kernel) rfl)
  | 9, _ => exact (gwi 258 (by decide +kernel) rfl)
  | n + 10, h => exact absurd h (by omega))
theorem inX4 : ∀ w ∈ u_ws RX4 TX4 8, w ∈ gw := in_of (fun k hk => by
  match k, hk with
  | 0, _ => exact (gwi 317 (by decide +kernel) rfl)
  | 1, _ => exact (gwi 319 (by decide +kernel) rfl)
  | 2, _ => exact (gwi 321 (by decide +kernel) rfl)
  | 3, _ => exact (gwi 323 (by decide +kernel) rfl)
  | 4, _ => exact (gwi 325 (by decide +kernel) rfl)
  | 5, _ => exact (gwi 327 (by decide +kernel) rfl)
  | 6, _ => exact (gwi 329 (by decide +kernel) rfl)
  | 7, _ => exact (gwi 331 (by decide +kernel) rfl)
  | n + 8, h => exact absurd h (by omega))
theorem inX5 : ∀ w ∈ u_ws RX5 TX5 5, w ∈ gw := in_of (fun k hk => by
  match k, hk with
  | 0, _ => exact (gwi 117 (by decide +kernel) rfl)
  | 1, _ => exact (gwi 119 (by decide +kernel) rfl)
  | 2, _ => exact (gwi 121 (by decide +kernel) rfl)
  | 3, _ => exact (gwi 123 (by decide +kernel) rfl)
  | 4, _ => exact (gwi 125 (by decide +kernel) rfl)
  | n + 5, h => exact absurd h (by omega))
theorem inX6 : ∀ w ∈ u_ws RX6 TX6 2, w ∈ gw := in_of (fun k hk => by
  match k, hk with
  | 0, _ => exact (gwi 40 (by decide +kernel) rfl)
  | 1, _ => exact (gwi 42 (by decide +kernel) rfl)
  | n + 2, h => exact absurd h (by omega))
theorem inX7 : ∀ w ∈ u_ws RX7 TX7 7, w ∈ gw := in_of (fun k hk => by
  match k, hk with
  | 0, _ => exact (gwi 94 (by decide +kernel) rfl)
  | 1, _ => exact (gwi 96 (by decide +kernel) rfl)
  | 2, _ => exact (gwi 98 (by decide +kernel) rfl)
  | 3, _ => exact (gwi 100 (by decide +kernel) rfl)
  | 4, _ => exact (gwi 102 (by decide +kernel) rfl)
  | 5, _ => exact (gwi 104 (by decide +kernel) rfl)
  | 6, _ => exact (gwi 106 (by decide +kernel) rfl)
  | n + 7, h => exact absurd h (by omega))
theorem inX8 : ∀ w ∈ u_ws RX8 TX8 3, w ∈ gw := in_of (fun k hk => by
  match k, hk with
  | 0, _ => exact (gwi 139 (by decide +kernel) rfl)
  | 1, _ => exact (gwi 141 (by decide +kernel) rfl)
  | 2, _ => exact (gwi 143 (by decide +kernel) rfl)
  | n + 3, h => exact absurd h (by omega))
theorem inX9 : ∀ w ∈ u_ws RX9 TX9 12, w ∈ gw := in_of (fun k hk => by
  match k, hk with
  | 0, _ => exact (gwi 347 (by decide +kernel) rfl)
  | 1, _ => exact (gwi 349 (by decide +kernel) rfl)
  | 2, _ => exact (gwi 351 (by decide +kernel) rfl)
  | 3, _ => exact (gwi 353 (by decide +kernel) rfl)
  | 4, _ => exact (gwi 355 (by decide +kernel) rfl)
  | 5, _ => exact (gwi 357 (by decide +kernel) rfl)
  | 6, _ => exact (gwi 359 (by decide +kernel) rfl)
  | 7, _ => exact (gwi 361 (by decide +kernel) rfl)
  | 8, _ => exact (gwi 363 (by decide +kernel) rfl)
  | 9, _ => exact (gwi 365 (by decide +kernel) rfl)
  | 10, _ => exact (gwi 367 (by decide +kernel) rfl)
  | 11, _ => exact (gwi 369 (by decide +kernel) rfl)
  | n + 12, h => exact absurd h (by omega))
theorem inX10 : ∀ w ∈ u_ws RX10 TX10 36, w ∈ gw := in_of (fun k hk => by
  match k, hk with
  | 0, _ => exact (gwi 908 (by decide +kernel) rfl)
  | 1, _ => exact (gwi 910 (by decide +kernel) rfl)
  | 2, _ => exact (gwi 912 (by decide +kernel) rfl)
  | 3, _ => exact (gwi 914 (by decide +kernel) rfl)
  | 4, _ => exact (gwi 916 (by decide +kernel) rfl)
  | 5, _ => exact (gwi 918 (by decide +kernel) rfl)
  | 6, _ => exact (gwi 920 (by decide +kernel) rfl)
  | 7, _ => exact (gwi 922 (by decide +kernel) rfl)
  | 8, _ => exact (gwi 924 (by decide +kernel) rfl)
  | 9, _ => exact (gwi 926 (by decide +kernel) rfl)
  | 10, _ => exact (gwi 928 (by decide +kernel) rfl)
  | 11, _ => exact (gwi 930 (by decide +kernel) rfl)
  | 12, _ => exact (gwi 932 (by decide +kernel) rfl)
  | 13, _ => exact (gwi 934 (by decide +kernel) rfl)
  | 14, _ => exact (gwi 936 (by decide +kernel) rfl)
  | 15, _ => exact (gwi 938 (by decide +kernel) rfl)
  | 16, _ => exact (gwi 940 (by decide +kernel) rfl)
  | 17, _ => exact (gwi 942 (by decide +kernel) rfl)
  | 18, _ => exact (gwi 944 (by decide +kernel) rfl)
  | 19, _ => exact (gwi 946 (by decide +kernel) rfl)
  | 20, _ => exact (gwi 948 (by decide +kernel) rfl)
  | 21, _ => exact (gwi 950 (by decide +kernel) rfl)
  | 22, _ => exact (gwi 952 (by decide +kernel) rfl)
  | 23, _ => exact (gwi 954 (by decide +kernel) rfl)
  | 24, _ => exact (gwi 956 (by decide +kernel) rfl)
  | 25, _ => exact (gwi 958 (by decide +kernel) rfl)
  | 26, _ => exact (gwi 960 (by decide +kernel) rfl)
  | 27, _ => exact (gwi 962 (by decide +kernel) rfl)
  | 28, _ => exact (gwi 964 (by decide +kernel) rfl)
  | 29, _ => exact (gwi 966 (by decide +kernel) rfl)
  | 30, _ => exact (gwi 968 (by decide +kernel) rfl)
  | 31, _ => exact (gwi 970 (by decide +kernel) rfl)
  | 32, _ => exact (gwi 972 (by decide +kernel) rfl)
  | 33, _ => exact (gwi 974 (by decide +kernel) rfl)
  | 34, _ => exact (gwi 976 (by decide +kernel) rfl)
  | 35, _ => exact (gwi 978 (by decide +kernel) rfl)
  | n + 36, h => exact absurd h (by omega))
theorem flX0_12 : FL RX0 12 0 0 := ⟨RX0, TX0, 10, rfl, inX0, by decide, rfl, (gwi 180 (by decide +kernel) rfl)⟩
theorem flX0_18 : FL RX0 18 0 1 := ⟨RX0, TX0, 10, rfl, inX0, by decide, rfl, (gwi 182 (by decide +kernel) rfl)⟩
theorem flX0_21 : FL RX0 21 0 2 := ⟨RX0, TX0, 10, rfl, inX0, by decide, rfl, (gwi 184 (by decide +kernel) rfl)⟩
theorem flX0_25 : FL RX0 25 0 3 := ⟨RX0, TX0, 10, rfl, inX0, by decide, rfl, (gwi 186 (by decide +kernel) rfl)⟩
theorem flX0_30 : FL RX0 30 0 5 := ⟨RX0, TX0, 10, rfl, inX0, by decide, rfl, (gwi 190 (by decide +kernel) rfl)⟩
theorem flX0_33 : FL RX0 33 0 6 := ⟨RX0, TX0, 10, rfl, inX0, by decide, rfl, (gwi 191 (by decide +kernel) rfl)⟩
theorem flX0_36 : FL RX0 36 0 7 := ⟨RX0, TX0, 10, rfl, inX0, by decide, rfl, (gwi 192 (by decide +kernel) rfl)⟩
theorem flX0_43 : FL RX0 43 0 8 := ⟨RX0, TX0, 10, rfl, inX0, by decide, rfl, (gwi 193 (by decide +kernel) rfl)⟩
theorem flX0_47 : FL RX0 47 0 9 := ⟨RX0, TX0, 10, rfl, inX0, by decide, rfl, (gwi 194 (by decide +kernel) rfl)⟩
theorem flX0_54 : FL RX0 54 1 0 := ⟨RX1, TX1, 4, rfl, inX1, by decide, rfl, (gwi 159 (by decide +kernel) rfl)⟩
theorem flX0_57 : FL RX0 57 1 3 := ⟨RX1, TX1, 4, rfl, inX1, by decide, rfl, (gwi 167 (by decide +kernel) rfl)⟩
theorem flX0_65 : FL RX0 65 1 1 := ⟨RX1, TX1, 4, rfl, inX1, by decide, rfl, (gwi 163 (by decide +kernel) rfl)⟩
theorem flX0_72 : FL RX0 72 7 5 := ⟨RX7, TX7, 7, rfl, inX7, by decide, rfl, (gwi 81 (by decide +kernel) rfl)⟩
theorem flX0_78 : FL RX0 78 7 6 := ⟨RX7, TX7, 7, rfl, inX7, by decide, rfl, (gwi 89 (by decide +kernel) rfl)⟩
theorem flX0_81 : FL RX0 81 7 2 := ⟨RX7, TX7, 7, rfl, inX7, by decide, rfl, (gwi 67 (by decide +kernel) rfl)⟩
theorem flX0_85 : FL RX0 85 1 2 := ⟨RX1, TX1, 4, rfl, inX1, by decide, rfl, (gwi 165 (by decide +kernel) rfl)⟩
theorem flX0_101 : FL RX0 101 0 4 := ⟨RX0, TX0, 10, rfl, inX0, by decide, rfl, (gwi 189 (by decide +kernel) rfl)⟩
theorem flX1_9 : FL RX1 9 1 1 := ⟨RX1, TX1, 4, rfl, inX1, by decide, rfl, (gwi 161 (by decide +kernel) rfl)⟩
theorem flX1_15 : FL RX1 15 1 2 := ⟨RX1, TX1, 4, rfl, inX1, by decide, rfl, (gwi 164 (by decide +kernel) rfl)⟩
theorem flX1_18 : FL RX1 18 1 3 := ⟨RX1, TX1, 4, rfl, inX1, by decide, rfl, (gwi 166 (by decide +kernel) rfl)⟩
theorem flX1_22 : FL RX1 22 7 0 := ⟨RX7, TX7, 7, rfl, inX7, by decide, rfl, (gwi 52 (by decide +kernel) rfl)⟩
theorem flX1_28 : FL RX1 28 1 0 := ⟨RX1, TX1, 4, rfl, inX1, by decide, rfl, (gwi 158 (by decide +kernel) rfl)⟩
theorem flX1_33 : FL RX1 33 7 4 := ⟨RX7, TX7, 7, rfl, inX7, by decide, rfl, (gwi 76 (by decide +kernel) rfl)⟩
theorem flX2_9 : FL RX2 9 2 1 := ⟨RX2, TX2, 9, rfl, inX2, by decide, rfl, (gwi 269 (by decide +kernel) rfl)⟩
theorem flX2_15 : FL RX2 15 2 2 := ⟨RX2, TX2, 9, rfl, inX2, by decide, rfl, (gwi 271 (by decide +kernel) rfl)⟩
theorem flX2_18 : FL RX2 18 2 3 := ⟨RX2, TX2, 9, rfl, inX2, by decide, rfl, (gwi 272 (by decide +kernel) rfl)⟩
theorem flX2_22 : FL RX2 22 2 4 := ⟨RX2, TX2, 9, rfl, inX2, by decide, rfl, (gwi 273 (by decide +kernel) rfl)⟩
theorem flX2_25 : FL RX2 25 2 5 := ⟨RX2, TX2, 9, rfl, inX2, by decide, rfl, (gwi 274 (by decide +kernel) rfl)⟩
theorem flX2_28 : FL RX2 28 2 6 := ⟨RX2, TX2, 9, rfl, inX2, by decide, rfl, (gwi 275 (by decide +kernel) rfl)⟩
theorem flX2_31 : FL RX2 31 2 7 := ⟨RX2, TX2, 9, rfl, inX2, by decide, rfl, (gwi 276 (by decide +kernel) rfl)⟩
theorem flX2_34 : FL RX2 34 2 0 := ⟨RX2, TX2, 9, rfl, inX2, by decide, rfl, (gwi 267 (by decide +kernel) rfl)⟩
theorem flX2_38 : FL RX2 38 2 8 := ⟨RX2, TX2, 9, rfl, inX2, by decide, rfl, (gwi 277 (by decide +kernel) rfl)⟩
theorem flX2_41 : FL RX2 41 7 0 := ⟨RX7, TX7, 7, rfl, inX7, by decide, rfl, (gwi 58 (by decide +kernel) rfl)⟩
theorem flX2_57 : FL RX2 57 7 2 := ⟨RX7, TX7, 7, rfl, inX7, by decide, rfl, (gwi 68 (by decide +kernel) rfl)⟩
theorem flX2_58 : FL RX2 58 7 5 := ⟨RX7, TX7, 7, rfl, inX7, by decide, rfl, (gwi 82 (by decide +kernel) rfl)⟩
theorem flX2_59 : FL RX2 59 7 6 := ⟨RX7, TX7, 7, rfl, inX7, by decide, rfl, (gwi 90 (by decide +kernel) rfl)⟩
theorem flX3_9 : FL RX3 9 3 2 := ⟨RX3, TX3, 10, rfl, inX3, by decide, rfl, (gwi 226 (by decide +kernel) rfl)⟩
theorem flX3_15 : FL RX3 15 3 3 := ⟨RX3, TX3, 10, rfl, inX3, by decide, rfl, (gwi 228 (by decide +kernel) rfl)⟩
theorem flX3_18 : FL RX3 18 3 5 := ⟨RX3, TX3, 10, rfl, inX3, by decide, rfl, (gwi 232 (by decide +kernel) rfl)⟩
theorem flX3_21 : FL RX3 21 3 6 := ⟨RX3, TX3, 10, rfl, inX3, by decide, rfl, (gwi 234 (by decide +kernel) rfl)⟩
theorem flX3_24 : FL RX3 24 3 7 := ⟨RX3, TX3, 10, rfl, inX3, by decide, rfl, (gwi 236 (by decide +kernel) rfl)⟩
theorem flX3_27 : FL RX3 27 3 8 := ⟨RX3, TX3, 10, rfl, inX3, by decide, rfl, (gwi 238 (by decide +kernel) rfl)⟩
theorem flX3_30 : FL RX3 30 3 9 := ⟨RX3, TX3, 10, rfl, inX3, by decide, rfl, (gwi 239 (by decide +kernel) rfl)⟩
theorem flX3_34 : FL RX3 34 7 0 := ⟨RX7, TX7, 7, rfl, inX7, by decide, rfl, (gwi 53 (by decide +kernel) rfl)⟩
theorem flX3_40 : FL RX3 40 3 0 := ⟨RX3, TX3, 10, rfl, inX3, by decide, rfl, (gwi 222 (by decide +kernel) rfl)⟩
theorem flX3_43 : FL RX3 43 3 1 := ⟨RX3, TX3, 10, rfl, inX3, by decide, rfl, (gwi 224 (by decide +kernel) rfl)⟩
theorem flX3_46 : FL RX3 46 3 4 := ⟨RX3, TX3, 10, rfl, inX3, by decide, rfl, (gwi 230 (by decide +kernel) rfl)⟩
theorem flX3_61 : FL RX3 61 0 1 := ⟨RX0, TX0, 10, rfl, inX0, by decide, rfl, (gwi 183 (by decide +kernel) rfl)⟩
theorem flX3_71 : FL RX3 71 0 4 := ⟨RX0, TX0, 10, rfl, inX0, by decide, rfl, (gwi 188 (by decide +kernel) rfl)⟩
theorem flX3_72 : FL RX3 72 1 1 := ⟨RX1, TX1, 4, rfl, inX1, by decide, rfl, (gwi 162 (by decide +kernel) rfl)⟩
theorem flX3_77 : FL RX3 77 0 3 := ⟨RX0, TX0, 10, rfl, inX0, by decide, rfl, (gwi 187 (by decide +kernel) rfl)⟩
theorem flX3_80 : FL RX3 80 0 0 := ⟨RX0, TX0, 10, rfl, inX0, by decide, rfl, (gwi 181 (by decide +kernel) rfl)⟩
theorem flX3_83 : FL RX3 83 0 2 := ⟨RX0, TX0, 10, rfl, inX0, by decide, rfl, (gwi 185 (by decide +kernel) rfl)⟩
theorem flX3_86 : FL RX3 86 7 1 := ⟨RX7, TX7, 7, rfl, inX7, by decide, rfl, (gwi 63 (by decide +kernel) rfl)⟩
theorem flX3_93 : FL RX3 93 7 5 := ⟨RX7, TX7, 7, rfl, inX7, by decide, rfl, (gwi 83 (by decide +kernel) rfl)⟩
theorem flX3_97 : FL RX3 97 7 6 := ⟨RX7, TX7, 7, rfl, inX7, by decide, rfl, (gwi 91 (by decide +kernel) rfl)⟩
theorem flX3_100 : FL RX3 100 1 0 := ⟨RX1, TX1, 4, rfl, inX1, by decide, rfl, (gwi 160 (by decide +kernel) rfl)⟩
theorem flX4_12 : FL RX4 12 4 0 := ⟨RX4, TX4, 8, rfl, inX4, by decide, rfl, (gwi 305 (by decide +kernel) rfl)⟩
theorem flX4_18 : FL RX4 18 4 2 := ⟨RX4, TX4, 8, rfl, inX4, by decide, rfl, (gwi 309 (by decide +kernel) rfl)⟩
theorem flX4_22 : FL RX4 22 4 3 := ⟨RX4, TX4, 8, rfl, inX4, by decide, rfl, (gwi 311 (by decide +kernel) rfl)⟩
theorem flX4_25 : FL RX4 25 4 4 := ⟨RX4, TX4, 8, rfl, inX4, by decide, rfl, (gwi 313 (by decide +kernel) rfl)⟩
theorem flX4_28 : FL RX4 28 4 5 := ⟨RX4, TX4, 8, rfl, inX4, by decide, rfl, (gwi 314 (by decide +kernel) rfl)⟩
theorem flX4_31 : FL RX4 31 4 6 := ⟨RX4, TX4, 8, rfl, inX4, by decide, rfl, (gwi 315 (by decide +kernel) rfl)⟩
theorem flX4_34 : FL RX4 34 4 7 := ⟨RX4, TX4, 8, rfl, inX4, by decide, rfl, (gwi 316 (by decide +kernel) rfl)⟩
theorem flX4_37 : FL RX4 37 4 1 := ⟨RX4, TX4, 8, rfl, inX4, by decide, rfl, (gwi 307 (by decide +kernel) rfl)⟩
theorem flX4_41 : FL RX4 41 7 0 := ⟨RX7, TX7, 7, rfl, inX7, by decide, rfl, (gwi 57 (by decide +kernel) rfl)⟩
theorem flX4_44 : FL RX4 44 7 1 := ⟨RX7, TX7, 7, rfl, inX7, by decide, rfl, (gwi 61 (by decide +kernel) rfl)⟩
theorem flX4_80 : FL RX4 80 7 6 := ⟨RX7, TX7, 7, rfl, inX7, by decide, rfl, (gwi 88 (by decide +kernel) rfl)⟩
theorem flX4_88 : FL RX4 88 7 4 := ⟨RX7, TX7, 7, rfl, inX7, by decide, rfl, (gwi 77 (by decide +kernel) rfl)⟩
theorem flX4_111 : FL RX4 111 7 5 := ⟨RX7, TX7, 7, rfl, inX7, by decide, rfl, (gwi 84 (by decide +kernel) rfl)⟩
theorem flX4_114 : FL RX4 114 7 2 := ⟨RX7, TX7, 7, rfl, inX7, by decide, rfl, (gwi 69 (by decide +kernel) rfl)⟩
theorem flX5_12 : FL RX5 12 5 0 := ⟨RX5, TX5, 5, rfl, inX5, by decide, rfl, (gwi 110 (by decide +kernel) rfl)⟩
theorem flX5_21 : FL RX5 21 5 1 := ⟨RX5, TX5, 5, rfl, inX5, by decide, rfl, (gwi 112 (by decide +kernel) rfl)⟩
theorem flX5_25 : FL RX5 25 5 2 := ⟨RX5, TX5, 5, rfl, inX5, by decide, rfl, (gwi 114 (by decide +kernel) rfl)⟩
theorem flX5_29 : FL RX5 29 5 3 := ⟨RX5, TX5, 5, rfl, inX5, by decide, rfl, (gwi 115 (by decide +kernel) rfl)⟩
theorem flX5_33 : FL RX5 33 7 0 := ⟨RX7, TX7, 7, rfl, inX7, by decide, rfl, (gwi 56 (by decide +kernel) rfl)⟩
theorem flX5_44 : FL RX5 44 6 0 := ⟨RX6, TX6, 2, rfl, inX6, by decide, rfl, (gwi 38 (by decide +kernel) rfl)⟩
theorem flX5_76 : FL RX5 76 7 2 := ⟨RX7, TX7, 7, rfl, inX7, by decide, rfl, (gwi 66 (by decide +kernel) rfl)⟩
theorem flX5_98 : FL RX5 98 7 6 := ⟨RX7, TX7, 7, rfl, inX7, by decide, rfl, (gwi 92 (by decide +kernel) rfl)⟩
theorem flX5_105 : FL RX5 105 5 4 := ⟨RX5, TX5, 5, rfl, inX5, by decide, rfl, (gwi 116 (by decide +kernel) rfl)⟩
theorem flX6_9 : FL RX6 9 6 1 := ⟨RX6, TX6, 2, rfl, inX6, by decide, rfl, (gwi 39 (by decide +kernel) rfl)⟩
theorem flX6_15 : FL RX6 15 6 0 := ⟨RX6, TX6, 2, rfl, inX6, by decide, rfl, (gwi 36 (by decide +kernel) rfl)⟩
theorem flX7_9 : FL RX7 9 7 1 := ⟨RX7, TX7, 7, rfl, inX7, by decide, rfl, (gwi 60 (by decide +kernel) rfl)⟩
theorem flX7_15 : FL RX7 15 7 2 := ⟨RX7, TX7, 7, rfl, inX7, by decide, rfl, (gwi 64 (by decide +kernel) rfl)⟩
theorem flX7_18 : FL RX7 18 7 3 := ⟨RX7, TX7, 7, rfl, inX7, by decide, rfl, (gwi 71 (by decide +kernel) rfl)⟩
theorem flX7_21 : FL RX7 21 7 4 := ⟨RX7, TX7, 7, rfl, inX7, by decide, rfl, (gwi 74 (by decide +kernel) rfl)⟩
theorem flX7_24 : FL RX7 24 7 5 := ⟨RX7, TX7, 7, rfl, inX7, by decide, rfl, (gwi 79 (by decide +kernel) rfl)⟩
theorem flX7_28 : FL RX7 28 7 6 := ⟨RX7, TX7, 7, rfl, inX7, by decide, rfl, (gwi 86 (by decide +kernel) rfl)⟩
theorem flX7_31 : FL RX7 31 7 0 := ⟨RX7, TX7, 7, rfl, inX7, by decide, rfl, (gwi 54 (by decide +kernel) rfl)⟩
theorem flX8_11 : FL RX8 11 8 1 := ⟨RX8, TX8, 3, rfl, inX8, by decide, rfl, (gwi 136 (by decide +kernel) rfl)⟩
theorem flX8_15 : FL RX8 15 8 2 := ⟨RX8, TX8, 3, rfl, inX8, by decide, rfl, (gwi 138 (by decide +kernel) rfl)⟩
theorem flX8_18 : FL RX8 18 8 0 := ⟨RX8, TX8, 3, rfl, inX8, by decide, rfl, (gwi 134 (by decide +kernel) rfl)⟩
theorem flX8_22 : FL RX8 22 7 0 := ⟨RX7, TX7, 7, rfl, inX7, by decide, rfl, (gwi 55 (by decide +kernel) rfl)⟩
theorem flX8_31 : FL RX8 31 7 4 := ⟨RX7, TX7, 7, rfl, inX7, by decide, rfl, (gwi 75 (by decide +kernel) rfl)⟩
theorem flX8_37 : FL RX8 37 7 2 := ⟨RX7, TX7, 7, rfl, inX7, by decide, rfl, (gwi 65 (by decide +kernel) rfl)⟩
theorem flX8_40 : FL RX8 40 7 5 := ⟨RX7, TX7, 7, rfl, inX7, by decide, rfl, (gwi 80 (by decide +kernel) rfl)⟩
theorem flX8_48 : FL RX8 48 7 6 := ⟨RX7, TX7, 7, rfl, inX7, by decide, rfl, (gwi 87 (by decide +kernel) rfl)⟩
theorem flX8_59 : FL RX8 59 7 3 := ⟨RX7, TX7, 7, rfl, inX7, by decide, rfl, (gwi 72 (by decide +kernel) rfl)⟩
theorem flX9_11 : FL RX9 11 9 0 := ⟨RX9, TX9, 12, rfl, inX9, by decide, rfl, (gwi 335 (by decide +kernel) rfl)⟩
theorem flX9_18 : FL RX9 18 9 1 := ⟨RX9, TX9, 12, rfl, inX9, by decide, rfl, (gwi 336 (by decide +kernel) rfl)⟩
theorem flX9_26 : FL RX9 26 9 2 := ⟨RX9, TX9, 12, rfl, inX9, by decide, rfl, (gwi 337 (by decide +kernel) rfl)⟩
theorem flX9_31 : FL RX9 31 9 3 := ⟨RX9, TX9, 12, rfl, inX9, by decide, rfl, (gwi 338 (by decide +kernel) rfl)⟩
theorem flX9_37 : FL RX9 37 9 4 := ⟨RX9, TX9, 12, rfl, inX9, by decide, rfl, (gwi 339 (by decide +kernel) rfl)⟩
theorem flX9_41 : FL RX9 41 9 5 := ⟨RX9, TX9, 12, rfl, inX9, by decide, rfl, (gwi 340 (by decide +kernel) rfl)⟩
theorem flX9_48 : FL RX9 48 9 6 := ⟨RX9, TX9, 12, rfl, inX9, by decide, rfl, (gwi 341 (by decide +kernel) rfl)⟩
theorem flX9_55 : FL RX9 55 9 7 := ⟨RX9, TX9, 12, rfl, inX9, by decide, rfl, (gwi 342 (by decide +kernel) rfl)⟩
theorem flX9_62 : FL RX9 62 9 8 := ⟨RX9, TX9, 12, rfl, inX9, by decide, rfl, (gwi 343 (by decide +kernel) rfl)⟩
theorem flX9_69 : FL RX9 69 9 9 := ⟨RX9, TX9, 12, rfl, inX9, by decide, rfl, (gwi 344 (by decide +kernel) rfl)⟩
theorem flX9_73 : FL RX9 73 9 10 := ⟨RX9, TX9, 12, rfl, inX9, by decide, rfl, (gwi 345 (by decide +kernel) rfl)⟩
theorem flX9_81 : FL RX9 81 6 0 := ⟨RX6, TX6, 2, rfl, inX6, by decide, rfl, (gwi 37 (by decide +kernel) rfl)⟩
theorem flX9_103 : FL RX9 103 7 0 := ⟨RX7, TX7, 7, rfl, inX7, by decide, rfl, (gwi 59 (by decide +kernel) rfl)⟩
theorem flX9_106 : FL RX9 106 7 1 := ⟨RX7, TX7, 7, rfl, inX7, by decide, rfl, (gwi 62 (by decide +kernel) rfl)⟩
theorem flX9_109 : FL RX9 109 9 11 := ⟨RX9, TX9, 12, rfl, inX9, by decide, rfl, (gwi 346 (by decide +kernel) rfl)⟩
theorem flX9_122 : FL RX9 122 8 0 := ⟨RX8, TX8, 3, rfl, inX8, by decide, rfl, (gwi 135 (by decide +kernel) rfl)⟩
theorem flX9_123 : FL RX9 123 8 1 := ⟨RX8, TX8, 3, rfl, inX8, by decide, rfl, (gwi 137 (by decide +kernel) rfl)⟩
theorem flX9_140 : FL RX9 140 7 5 := ⟨RX7, TX7, 7, rfl, inX7, by decide, rfl, (gwi 85 (by decide +kernel) rfl)⟩
theorem flX9_154 : FL RX9 154 7 6 := ⟨RX7, TX7, 7, rfl, inX7, by decide, rfl, (gwi 93 (by decide +kernel) rfl)⟩
theorem flX9_157 : FL RX9 157 7 2 := ⟨RX7, TX7, 7, rfl, inX7, by decide, rfl, (gwi 70 (by decide +kernel) rfl)⟩
theorem flX9_180 : FL RX9 180 7 4 := ⟨RX7, TX7, 7, rfl, inX7, by decide, rfl, (gwi 78 (by decide +kernel) rfl)⟩
theorem flX9_201 : FL RX9 201 3 1 := ⟨RX3, TX3, 10, rfl, inX3, by decide, rfl, (gwi 225 (by decide +kernel) rfl)⟩
theorem flX9_204 : FL RX9 204 3 2 := ⟨RX3, TX3, 10, rfl, inX3, by decide, rfl, (gwi 227 (by decide +kernel) rfl)⟩
theorem flX9_207 : FL RX9 207 3 3 := ⟨RX3, TX3, 10, rfl, inX3, by decide, rfl, (gwi 229 (by decide +kernel) rfl)⟩
theorem flX9_210 : FL RX9 210 3 4 := ⟨RX3, TX3, 10, rfl, inX3, by decide, rfl, (gwi 231 (by decide +kernel) rfl)⟩
theorem flX9_213 : FL RX9 213 3 5 := ⟨RX3, TX3, 10, rfl, inX3, by decide, rfl, (gwi 233 (by decide +kernel) rfl)⟩
theorem flX9_216 : FL RX9 216 3 6 := ⟨RX3, TX3, 10, rfl, inX3, by decide, rfl, (gwi 235 (by decide +kernel) rfl)⟩
theorem flX9_219 : FL RX9 219 3 7 := ⟨RX3, TX3, 10, rfl, inX3, by decide, rfl, (gwi 237 (by decide +kernel) rfl)⟩
theorem flX9_222 : FL RX9 222 3 0 := ⟨RX3, TX3, 10, rfl, inX3, by decide, rfl, (gwi 223 (by decide +kernel) rfl)⟩
theorem flX9_231 : FL RX9 231 2 1 := ⟨RX2, TX2, 9, rfl, inX2, by decide, rfl, (gwi 270 (by decide +kernel) rfl)⟩
theorem flX9_234 : FL RX9 234 2 0 := ⟨RX2, TX2, 9, rfl, inX2, by decide, rfl, (gwi 268 (by decide +kernel) rfl)⟩
theorem flX9_241 : FL RX9 241 4 0 := ⟨RX4, TX4, 8, rfl, inX4, by decide, rfl, (gwi 306 (by decide +kernel) rfl)⟩
theorem flX9_244 : FL RX9 244 4 1 := ⟨RX4, TX4, 8, rfl, inX4, by decide, rfl, (gwi 308 (by decide +kernel) rfl)⟩
theorem flX9_247 : FL RX9 247 4 2 := ⟨RX4, TX4, 8, rfl, inX4, by decide, rfl, (gwi 310 (by decide +kernel) rfl)⟩
theorem flX9_250 : FL RX9 250 4 3 := ⟨RX4, TX4, 8, rfl, inX4, by decide, rfl, (gwi 312 (by decide +kernel) rfl)⟩
theorem flX9_266 : FL RX9 266 7 3 := ⟨RX7, TX7, 7, rfl, inX7, by decide, rfl, (gwi 73 (by decide +kernel) rfl)⟩
theorem flX10_7 : FL RX10 7 10 0 := ⟨RX10, TX10, 36, rfl, inX10, by decide, rfl, (gwi 872 (by decide +kernel) rfl)⟩
theorem flX10_13 : FL RX10 13 10 1 := ⟨RX10, TX10, 36, rfl, inX10, by decide, rfl, (gwi 873 (by decide +kernel) rfl)⟩
theorem flX10_16 : FL RX10 16 10 3 := ⟨RX10, TX10, 36, rfl, inX10, by decide, rfl, (gwi 875 (by decide +kernel) rfl)⟩
theorem flX10_19 : FL RX10 19 10 5 := ⟨RX10, TX10, 36, rfl, inX10, by decide, rfl, (gwi 877 (by decide +kernel) rfl)⟩
theorem flX10_22 : FL RX10 22 10 7 := ⟨RX10, TX10, 36, rfl, inX10, by decide, rfl, (gwi 879 (by decide +kernel) rfl)⟩
theorem flX10_25 : FL RX10 25 10 8 := ⟨RX10, TX10, 36, rfl, inX10, by decide, rfl, (gwi 880 (by decide +kernel) rfl)⟩
theorem flX10_28 : FL RX10 28 10 9 := ⟨RX10, TX10, 36, rfl, inX10, by decide, rfl, (gwi 881 (by decide +kernel) rfl)⟩
theorem flX10_31 : FL RX10 31 10 10 := ⟨RX10, TX10, 36, rfl, inX10, by decide, rfl, (gwi 882 (by decide +kernel) rfl)⟩
theorem flX10_34 : FL RX10 34 10 11 := ⟨RX10, TX10, 36, rfl, inX10, by decide, rfl, (gwi 883 (by decide +kernel) rfl)⟩
theorem flX10_37 : FL RX10 37 10 12 := ⟨RX10, TX10, 36, rfl, inX10, by decide, rfl, (gwi 884 (by decide +kernel) rfl)⟩
theorem flX10_41 : FL RX10 41 10 13 := ⟨RX10, TX10, 36, rfl, inX10, by decide, rfl, (gwi 885 (by decide +kernel) rfl)⟩
theorem flX10_44 : FL RX10 44 10 14 := ⟨RX10, TX10, 36, rfl, inX10, by decide, rfl, (gwi 886 (by decide +kernel) rfl)⟩
theorem flX10_47 : FL RX10 47 10 15 := ⟨RX10, TX10, 36, rfl, inX10, by decide, rfl, (gwi 887 (by decide +kernel) rfl)⟩
theorem flX10_50 : FL RX10 50 10 16 := ⟨RX10, TX10, 36, rfl, inX10, by decide, rfl, (gwi 888 (by decide +kernel) rfl)⟩
theorem flX10_53 : FL RX10 53 10 17 := ⟨RX10, TX10, 36, rfl, inX10, by decide, rfl, (gwi 889 (by decide +kernel) rfl)⟩
theorem flX10_56 : FL RX10 56 10 18 := ⟨RX10, TX10, 36, rfl, inX10, by decide, rfl, (gwi 890 (by decide +kernel) rfl)⟩
theorem flX10_59 : FL RX10 59 10 19 := ⟨RX10, TX10, 36, rfl, inX10, by decide, rfl, (gwi 891 (by decide +kernel) rfl)⟩
theorem flX10_62 : FL RX10 62 10 22 := ⟨RX10, TX10, 36, rfl, inX10, by decide, rfl, (gwi 894 (by decide +kernel) rfl)⟩
theorem flX10_66 : FL RX10 66 10 23 := ⟨RX10, TX10, 36, rfl, inX10, by decide, rfl, (gwi 895 (by decide +kernel) rfl)⟩
theorem flX10_69 : FL RX10 69 10 24 := ⟨RX10, TX10, 36, rfl, inX10, by decide, rfl, (gwi 896 (by decide +kernel) rfl)⟩
theorem flX10_72 : FL RX10 72 10 25 := ⟨RX10, TX10, 36, rfl, inX10, by decide, rfl, (gwi 897 (by decide +kernel) rfl)⟩
theorem flX10_75 : FL RX10 75 10 26 := ⟨RX10, TX10, 36, rfl, inX10, by decide, rfl, (gwi 898 (by decide +kernel) rfl)⟩
theorem flX10_78 : FL RX10 78 10 27 := ⟨RX10, TX10, 36, rfl, inX10, by decide, rfl, (gwi 899 (by decide +kernel) rfl)⟩
theorem flX10_81 : FL RX10 81 10 28 := ⟨RX10, TX10, 36, rfl, inX10, by decide, rfl, (gwi 900 (by decide +kernel) rfl)⟩
theorem flX10_84 : FL RX10 84 10 29 := ⟨RX10, TX10, 36, rfl, inX10, by decide, rfl, (gwi 901 (by decide +kernel) rfl)⟩
theorem flX10_87 : FL RX10 87 10 30 := ⟨RX10, TX10, 36, rfl, inX10, by decide, rfl, (gwi 902 (by decide +kernel) rfl)⟩
theorem flX10_90 : FL RX10 90 10 34 := ⟨RX10, TX10, 36, rfl, inX10, by decide, rfl, (gwi 906 (by decide +kernel) rfl)⟩
theorem flX10_93 : FL RX10 93 10 35 := ⟨RX10, TX10, 36, rfl, inX10, by decide, rfl, (gwi 907 (by decide +kernel) rfl)⟩
theorem flX10_130 : FL RX10 130 10 4 := ⟨RX10, TX10, 36, rfl, inX10, by decide, rfl, (gwi 876 (by decide +kernel) rfl)⟩
theorem flX10_155 : FL RX10 155 10 2 := ⟨RX10, TX10, 36, rfl, inX10, by decide, rfl, (gwi 874 (by decide +kernel) rfl)⟩
theorem flX10_158 : FL RX10 158 10 6 := ⟨RX10, TX10, 36, rfl, inX10, by decide, rfl, (gwi 878 (by decide +kernel) rfl)⟩
theorem flX10_218 : FL RX10 218 10 21 := ⟨RX10, TX10, 36, rfl, inX10, by decide, rfl, (gwi 893 (by decide +kernel) rfl)⟩
theorem flX10_224 : FL RX10 224 10 20 := ⟨RX10, TX10, 36, rfl, inX10, by decide, rfl, (gwi 892 (by decide +kernel) rfl)⟩
theorem flX10_237 : FL RX10 237 10 31 := ⟨RX10, TX10, 36, rfl, inX10, by decide, rfl, (gwi 903 (by decide +kernel) rfl)⟩
theorem flX10_240 : FL RX10 240 10 33 := ⟨RX10, TX10, 36, rfl, inX10, by decide, rfl, (gwi 905 (by decide +kernel) rfl)⟩
theorem flX10_250 : FL RX10 250 10 32 := ⟨RX10, TX10, 36, rfl, inX10, by decide, rfl, (gwi 904 (by decide +kernel) rfl)⟩
theorem fpX0_4 : FP 0 4 .int := ⟨RX0, TX0, 10, tyX0, rfl, tyX0_ok, nmX0, rfl, by decide +kernel⟩
theorem aflp_0_4 (h : Hp) (i : Nat) (v : Int32) : afl (sI h i 4 v) 0 i = (afl h 0 i).set 4 (.int v) := by simp [afl, sI]
theorem fpX0_8 : FP 0 8 .int := ⟨RX0, TX0, 10, tyX0, rfl, tyX0_ok, nmX0, rfl, by decide +kernel⟩
theorem aflp_0_8 (h : Hp) (i : Nat) (v : Int32) : afl (sI h i 8 v) 0 i = (afl h 0 i).set 8 (.int v) := by simp [afl, sI]
theorem fpX0_9 : FP 0 9 .int := ⟨RX0, TX0, 10, tyX0, rfl, tyX0_ok, nmX0, rfl, by decide +kernel⟩
theorem aflp_0_9 (h : Hp) (i : Nat) (v : Int32) : afl (sI h i 9 v) 0 i = (afl h 0 i).set 9 (.int v) := by simp [afl, sI]
theorem fpX1_0 : FP 1 0 .int := ⟨RX1, TX1, 4, tyX1, rfl, tyX1_ok, nmX1, rfl, by decide +kernel⟩
theorem aflp_1_0 (h : Hp) (i : Nat) (v : Int32) : afl (sI h i 0 v) 1 i = (afl h 1 i).set 0 (.int v) := by simp [afl, sI]
theorem fpX2_0 : FP 2 0 .int := ⟨RX2, TX2, 9, tyX2, rfl, tyX2_ok, nmX2, rfl, by decide +kernel⟩
theorem aflp_2_0 (h : Hp) (i : Nat) (v : Int32) : afl (sI h i 0 v) 2 i = (afl h 2 i).set 0 (.int v) := by simp [afl, sI]
theorem fpX2_8 : FP 2 8 .int := ⟨RX2, TX2, 9, tyX2, rfl, tyX2_ok, nmX2, rfl, by decide +kernel⟩
theorem aflp_2_8 (h : Hp) (i : Nat) (v : Int32) : afl (sI h i 8 v) 2 i = (afl h 2 i).set 8 (.int v) := by simp [afl, sI]
theorem fpX3_0 : FP 3 0 .int := ⟨RX3, TX3, 10, tyX3, rfl, tyX3_ok, nmX3, rfl, by decide +kernel⟩
theorem aflp_3_0 (h : Hp) (i : Nat) (v : Int32) : afl (sI h i 0 v) 3 i = (afl h 3 i).set 0 (.int v) := by simp [afl, sI]
theorem fpX3_1 : FP 3 1 .int := ⟨RX3, TX3, 10, tyX3, rfl, tyX3_ok, nmX3, rfl, by decide +kernel⟩
theorem aflp_3_1 (h : Hp) (i : Nat) (v : Int32) : afl (sI h i 1 v) 3 i = (afl h 3 i).set 1 (.int v) := by simp [afl, sI]
theorem fpX3_4 : FP 3 4 .int := ⟨RX3, TX3, 10, tyX3, rfl, tyX3_ok, nmX3, rfl, by decide +kernel⟩
theorem aflp_3_4 (h : Hp) (i : Nat) (v : Int32) : afl (sI h i 4 v) 3 i = (afl h 3 i).set 4 (.int v) := by simp [afl, sI]
theorem fpX4_1 : FP 4 1 .int := ⟨RX4, TX4, 8, tyX4, rfl, tyX4_ok, nmX4, rfl, by decide +kernel⟩
theorem aflp_4_1 (h : Hp) (i : Nat) (v : Int32) : afl (sI h i 1 v) 4 i = (afl h 4 i).set 1 (.int v) := by simp [afl, sI]
theorem fpX4_4 : FP 4 4 (.object RX7) := ⟨RX4, TX4, 8, tyX4, rfl, tyX4_ok, nmX4, rfl, by decide +kernel⟩
theorem fpX4_5 : FP 4 5 (.object RX7) := ⟨RX4, TX4, 8, tyX4, rfl, tyX4_ok, nmX4, rfl, by decide +kernel⟩
theorem fpX4_6 : FP 4 6 (.object RX7) := ⟨RX4, TX4, 8, tyX4, rfl, tyX4_ok, nmX4, rfl, by decide +kernel⟩
theorem fpX5_3 : FP 5 3 .int := ⟨RX5, TX5, 5, tyX5, rfl, tyX5_ok, nmX5, rfl, by decide +kernel⟩
theorem aflp_5_3 (h : Hp) (i : Nat) (v : Int32) : afl (sI h i 3 v) 5 i = (afl h 5 i).set 3 (.int v) := by simp [afl, sI]
theorem fpX5_4 : FP 5 4 .boolean := ⟨RX5, TX5, 5, tyX5, rfl, tyX5_ok, nmX5, rfl, by decide +kernel⟩
theorem aflp_5_4 (h : Hp) (i : Nat) (v : Int32) : afl (sI h i 4 v) 5 i = (afl h 5 i).set 4 (.int v) := by simp [afl, sI]
theorem fpX6_0 : FP 6 0 .int := ⟨RX6, TX6, 2, tyX6, rfl, tyX6_ok, nmX6, rfl, by decide +kernel⟩
theorem aflp_6_0 (h : Hp) (i : Nat) (v : Int32) : afl (sI h i 0 v) 6 i = (afl h 6 i).set 0 (.int v) := by simp [afl, sI]
theorem fpX7_0 : FP 7 0 .int := ⟨RX7, TX7, 7, tyX7, rfl, tyX7_ok, nmX7, rfl, by decide +kernel⟩
theorem aflp_7_0 (h : Hp) (i : Nat) (v : Int32) : afl (sI h i 0 v) 7 i = (afl h 7 i).set 0 (.int v) := by simp [afl, sI]
theorem fpX8_0 : FP 8 0 .int := ⟨RX8, TX8, 3, tyX8, rfl, tyX8_ok, nmX8, rfl, by decide +kernel⟩
theorem aflp_8_0 (h : Hp) (i : Nat) (v : Int32) : afl (sI h i 0 v) 8 i = (afl h 8 i).set 0 (.int v) := by simp [afl, sI]
theorem fpX9_11 : FP 9 11 .int := ⟨RX9, TX9, 12, tyX9, rfl, tyX9_ok, nmX9, rfl, by decide +kernel⟩
theorem aflp_9_11 (h : Hp) (i : Nat) (v : Int32) : afl (sI h i 11 v) 9 i = (afl h 9 i).set 11 (.int v) := by simp [afl, sI]
theorem fpX10_2 : FP 10 2 .int := ⟨RX10, TX10, 36, tyX10, rfl, tyX10_ok, nmX10, rfl, by decide +kernel⟩
theorem aflp_10_2 (h : Hp) (i : Nat) (v : Int32) : afl (sI h i 2 v) 10 i = (afl h 10 i).set 2 (.int v) := by simp [afl, sI]
theorem fpX10_4 : FP 10 4 .int := ⟨RX10, TX10, 36, tyX10, rfl, tyX10_ok, nmX10, rfl, by decide +kernel⟩
theorem aflp_10_4 (h : Hp) (i : Nat) (v : Int32) : afl (sI h i 4 v) 10 i = (afl h 10 i).set 4 (.int v) := by simp [afl, sI]
theorem fpX10_6 : FP 10 6 .int := ⟨RX10, TX10, 36, tyX10, rfl, tyX10_ok, nmX10, rfl, by decide +kernel⟩
theorem aflp_10_6 (h : Hp) (i : Nat) (v : Int32) : afl (sI h i 6 v) 10 i = (afl h 10 i).set 6 (.int v) := by simp [afl, sI]
theorem fpX10_20 : FP 10 20 .int := ⟨RX10, TX10, 36, tyX10, rfl, tyX10_ok, nmX10, rfl, by decide +kernel⟩
theorem aflp_10_20 (h : Hp) (i : Nat) (v : Int32) : afl (sI h i 20 v) 10 i = (afl h 10 i).set 20 (.int v) := by simp [afl, sI]
theorem fpX10_21 : FP 10 21 .int := ⟨RX10, TX10, 36, tyX10, rfl, tyX10_ok, nmX10, rfl, by decide +kernel⟩
theorem aflp_10_21 (h : Hp) (i : Nat) (v : Int32) : afl (sI h i 21 v) 10 i = (afl h 10 i).set 21 (.int v) := by simp [afl, sI]
theorem fpX10_22 : FP 10 22 .int := ⟨RX10, TX10, 36, tyX10, rfl, tyX10_ok, nmX10, rfl, by decide +kernel⟩
theorem aflp_10_22 (h : Hp) (i : Nat) (v : Int32) : afl (sI h i 22 v) 10 i = (afl h 10 i).set 22 (.int v) := by simp [afl, sI]
theorem fpX10_31 : FP 10 31 .int := ⟨RX10, TX10, 36, tyX10, rfl, tyX10_ok, nmX10, rfl, by decide +kernel⟩
theorem aflp_10_31 (h : Hp) (i : Nat) (v : Int32) : afl (sI h i 31 v) 10 i = (afl h 10 i).set 31 (.int v) := by simp [afl, sI]
theorem fpX10_32 : FP 10 32 .int := ⟨RX10, TX10, 36, tyX10, rfl, tyX10_ok, nmX10, rfl, by decide +kernel⟩
theorem aflp_10_32 (h : Hp) (i : Nat) (v : Int32) : afl (sI h i 32 v) 10 i = (afl h 10 i).set 32 (.int v) := by simp [afl, sI]
theorem fpX10_33 : FP 10 33 .boolean := ⟨RX10, TX10, 36, tyX10, rfl, tyX10_ok, nmX10, rfl, by decide +kernel⟩
theorem aflp_10_33 (h : Hp) (i : Nat) (v : Int32) : afl (sI h i 33 v) 10 i = (afl h 10 i).set 33 (.int v) := by simp [afl, sI]
theorem kcX0_84 : Cond.constant RX0 84 1000000 ∈ gw := (gwi 684 (by decide +kernel) rfl)
theorem kcX10_197 : Cond.constant RX10 197 1000000000 ∈ gw := (gwi 1150 (by decide +kernel) rfl)
theorem kcX4_109 : Cond.constantLong RX4 109 (-1) ∈ gw := (gwi 823 (by decide +kernel) rfl)
theorem kcX6_30 : Cond.constantLong RX6 30 255 ∈ gw := (gwi 423 (by decide +kernel) rfl)
theorem kcX6_39 : Cond.constantLong RX6 39 (-1) ∈ gw := (gwi 582 (by decide +kernel) rfl)
theorem kcX9_138 : Cond.constantLong RX9 138 (-1) ∈ gw := (gwi 583 (by decide +kernel) rfl)
theorem kcX10_133 : Cond.constantLong RX10 133 255 ∈ gw := (gwi 992 (by decide +kernel) rfl)
theorem miX0_align : MI mX0_align 3 := ⟨(gwi 668 (by decide +kernel) rfl), (gwi 669 (by decide +kernel) rfl), (gwi 6 (by decide +kernel) rfl), (gwi 670 (by decide +kernel) rfl), ⟨by decide +kernel, by decide +kernel⟩, by decide +kernel, by decide⟩
theorem miX0_pricePairs : MI mX0_pricePairs 3 := ⟨(gwi 679 (by decide +kernel) rfl), (gwp 20 (by decide +kernel) rfl), (gwi 6 (by decide +kernel) rfl), (gwi 680 (by decide +kernel) rfl), ⟨by decide +kernel, by decide +kernel⟩, by decide +kernel, by decide⟩
theorem msX0_pairPrice : MS mX0_pairPrice 5 := ⟨(gwi 682 (by decide +kernel) rfl), (gwi 6 (by decide +kernel) rfl), (gwi 683 (by decide +kernel) rfl), ⟨by decide +kernel, by decide +kernel⟩, by decide +kernel, by decide⟩
theorem miX0_fillForests : MI mX0_fillForests 2 := ⟨(gwi 687 (by decide +kernel) rfl), (gwp 21 (by decide +kernel) rfl), (gwi 6 (by decide +kernel) rfl), (gwi 688 (by decide +kernel) rfl), ⟨by decide +kernel, by decide +kernel⟩, by decide +kernel, by decide⟩
theorem miX0_keepUnder : MI mX0_keepUnder 3 := ⟨(gwi 691 (by decide +kernel) rfl), (gwp 22 (by decide +kernel) rfl), (gwi 6 (by decide +kernel) rfl), (gwi 692 (by decide +kernel) rfl), ⟨by decide +kernel, by decide +kernel⟩, by decide +kernel, by decide⟩
theorem miX0_fillLine : MI mX0_fillLine 3 := ⟨(gwi 695 (by decide +kernel) rfl), (gwp 23 (by decide +kernel) rfl), (gwi 6 (by decide +kernel) rfl), (gwi 696 (by decide +kernel) rfl), ⟨by decide +kernel, by decide +kernel⟩, by decide +kernel, by decide⟩
theorem miX0_costOfPairing : MI mX0_costOfPairing 2 := ⟨(gwi 714 (by decide +kernel) rfl), (gwp 25 (by decide +kernel) rfl), (gwi 6 (by decide +kernel) rfl), (gwi 715 (by decide +kernel) rfl), ⟨by decide +kernel, by decide +kernel⟩, by decide +kernel, by decide⟩
theorem miX0_choosePairs : MI mX0_choosePairs 0 := ⟨(gwi 705 (by decide +kernel) rfl), (gwi 706 (by decide +kernel) rfl), (gwi 6 (by decide +kernel) rfl), (gwi 707 (by decide +kernel) rfl), ⟨by decide +kernel, by decide +kernel⟩, by decide +kernel, by decide⟩
theorem miX0_walkBack : MI mX0_walkBack 4 := ⟨(gwi 710 (by decide +kernel) rfl), (gwp 24 (by decide +kernel) rfl), (gwi 6 (by decide +kernel) rfl), (gwi 711 (by decide +kernel) rfl), ⟨by decide +kernel, by decide +kernel⟩, by decide +kernel, by decide⟩
theorem miX0_addPair : MI mX0_addPair 2 := ⟨(gwi 718 (by decide +kernel) rfl), (gwp 26 (by decide +kernel) rfl), (gwi 6 (by decide +kernel) rfl), (gwi 719 (by decide +kernel) rfl), ⟨by decide +kernel, by decide +kernel⟩, by decide +kernel, by decide⟩
theorem miX1_arrange : MI mX1_arrange 1 := ⟨(gwi 672 (by decide +kernel) rfl), (gwi 673 (by decide +kernel) rfl), (gwi 7 (by decide +kernel) rfl), (gwi 674 (by decide +kernel) rfl), ⟨by decide +kernel, by decide +kernel⟩, by decide +kernel, by decide⟩
theorem miX2_forget : MI mX2_forget 0 := ⟨(gwi 765 (by decide +kernel) rfl), (gwi 766 (by decide +kernel) rfl), (gwi 9 (by decide +kernel) rfl), (gwi 767 (by decide +kernel) rfl), ⟨by decide +kernel, by decide +kernel⟩, by decide +kernel, by decide⟩
theorem miX2_groupAll : MI mX2_groupAll 1 := ⟨(gwi 769 (by decide +kernel) rfl), (gwi 770 (by decide +kernel) rfl), (gwi 9 (by decide +kernel) rfl), (gwi 771 (by decide +kernel) rfl), ⟨by decide +kernel, by decide +kernel⟩, by decide +kernel, by decide⟩
theorem miX2_groupFor : MI mX2_groupFor 2 := ⟨(gwi 774 (by decide +kernel) rfl), (gwp 32 (by decide +kernel) rfl), (gwi 9 (by decide +kernel) rfl), (gwi 775 (by decide +kernel) rfl), ⟨by decide +kernel, by decide +kernel⟩, by decide +kernel, by decide⟩
theorem miX2_gatherKids : MI mX2_gatherKids 2 := ⟨(gwi 778 (by decide +kernel) rfl), (gwp 33 (by decide +kernel) rfl), (gwi 9 (by decide +kernel) rfl), (gwi 779 (by decide +kernel) rfl), ⟨by decide +kernel, by decide +kernel⟩, by decide +kernel, by decide⟩
theorem miX2_sinkLastKid : MI mX2_sinkLastKid 1 := ⟨(gwi 784 (by decide +kernel) rfl), (gwp 34 (by decide +kernel) rfl), (gwi 9 (by decide +kernel) rfl), (gwi 785 (by decide +kernel) rfl), ⟨by decide +kernel, by decide +kernel⟩, by decide +kernel, by decide⟩
theorem miX2_isOf : MI mX2_isOf 4 := ⟨(gwi 788 (by decide +kernel) rfl), (gwp 35 (by decide +kernel) rfl), (gwi 9 (by decide +kernel) rfl), (gwi 789 (by decide +kernel) rfl), ⟨by decide +kernel, by decide +kernel⟩, by decide +kernel, by decide⟩
theorem miX3_plan : MI mX3_plan 4 := ⟨(gwi 721 (by decide +kernel) rfl), (gwi 722 (by decide +kernel) rfl), (gwi 8 (by decide +kernel) rfl), (gwi 723 (by decide +kernel) rfl), ⟨by decide +kernel, by decide +kernel⟩, by decide +kernel, by decide⟩
theorem miX3_matchRows : MI mX3_matchRows 1 := ⟨(gwi 726 (by decide +kernel) rfl), (gwp 27 (by decide +kernel) rfl), (gwi 8 (by decide +kernel) rfl), (gwi 727 (by decide +kernel) rfl), ⟨by decide +kernel, by decide +kernel⟩, by decide +kernel, by decide⟩
theorem miX3_takeLonely : MI mX3_takeLonely 2 := ⟨(gwi 730 (by decide +kernel) rfl), (gwp 28 (by decide +kernel) rfl), (gwi 8 (by decide +kernel) rfl), (gwi 731 (by decide +kernel) rfl), ⟨by decide +kernel, by decide +kernel⟩, by decide +kernel, by decide⟩
theorem miX3_mendPairs : MI mX3_mendPairs 3 := ⟨(gwi 738 (by decide +kernel) rfl), (gwp 30 (by decide +kernel) rfl), (gwi 8 (by decide +kernel) rfl), (gwi 739 (by decide +kernel) rfl), ⟨by decide +kernel, by decide +kernel⟩, by decide +kernel, by decide⟩
theorem miX3_putLonely : MI mX3_putLonely 3 := ⟨(gwi 742 (by decide +kernel) rfl), (gwp 31 (by decide +kernel) rfl), (gwi 8 (by decide +kernel) rfl), (gwi 743 (by decide +kernel) rfl), ⟨by decide +kernel, by decide +kernel⟩, by decide +kernel, by decide⟩
theorem miX3_addAct : MI mX3_addAct 3 := ⟨(gwi 734 (by decide +kernel) rfl), (gwp 29 (by decide +kernel) rfl), (gwi 8 (by decide +kernel) rfl), (gwi 735 (by decide +kernel) rfl), ⟨by decide +kernel, by decide +kernel⟩, by decide +kernel, by decide⟩
theorem miX4_layTogether : MI mX4_layTogether 3 := ⟨(gwi 803 (by decide +kernel) rfl), (gwi 804 (by decide +kernel) rfl), (gwi 10 (by decide +kernel) rfl), (gwi 805 (by decide +kernel) rfl), ⟨by decide +kernel, by decide +kernel⟩, by decide +kernel, by decide⟩
theorem miX4_comeTo : MI mX4_comeTo 2 := ⟨(gwi 812 (by decide +kernel) rfl), (gwp 37 (by decide +kernel) rfl), (gwi 10 (by decide +kernel) rfl), (gwi 813 (by decide +kernel) rfl), ⟨by decide +kernel, by decide +kernel⟩, by decide +kernel, by decide⟩
theorem miX4_comeToChildren : MI mX4_comeToChildren 3 := ⟨(gwi 836 (by decide +kernel) rfl), (gwp 40 (by decide +kernel) rfl), (gwi 10 (by decide +kernel) rfl), (gwi 837 (by decide +kernel) rfl), ⟨by decide +kernel, by decide +kernel⟩, by decide +kernel, by decide⟩
theorem miX4_settledField : MI mX4_settledField 4 := ⟨(gwi 818 (by decide +kernel) rfl), (gwp 38 (by decide +kernel) rfl), (gwi 10 (by decide +kernel) rfl), (gwi 819 (by decide +kernel) rfl), ⟨by decide +kernel, by decide +kernel⟩, by decide +kernel, by decide⟩
theorem miX4_settledList : MI mX4_settledList 3 := ⟨(gwi 827 (by decide +kernel) rfl), (gwp 39 (by decide +kernel) rfl), (gwi 10 (by decide +kernel) rfl), (gwi 828 (by decide +kernel) rfl), ⟨by decide +kernel, by decide +kernel⟩, by decide +kernel, by decide⟩
theorem msX4_fieldOf : MS mX4_fieldOf 3 := ⟨(gwi 821 (by decide +kernel) rfl), (gwi 10 (by decide +kernel) rfl), (gwi 822 (by decide +kernel) rfl), ⟨by decide +kernel, by decide +kernel⟩, by decide +kernel, by decide⟩
theorem msX4_isSameList : MS mX4_isSameList 4 := ⟨(gwi 830 (by decide +kernel) rfl), (gwi 10 (by decide +kernel) rfl), (gwi 831 (by decide +kernel) rfl), ⟨by decide +kernel, by decide +kernel⟩, by decide +kernel, by decide⟩
theorem miX4_tellClashes : MI mX4_tellClashes 0 := ⟨(gwi 843 (by decide +kernel) rfl), (gwp 41 (by decide +kernel) rfl), (gwi 10 (by decide +kernel) rfl), (gwi 844 (by decide +kernel) rfl), ⟨by decide +kernel, by decide +kernel⟩, by decide +kernel, by decide⟩
theorem miX4_gatherCommon : MI mX4_gatherCommon 0 := ⟨(gwi 847 (by decide +kernel) rfl), (gwp 42 (by decide +kernel) rfl), (gwi 10 (by decide +kernel) rfl), (gwi 848 (by decide +kernel) rfl), ⟨by decide +kernel, by decide +kernel⟩, by decide +kernel, by decide⟩
theorem miX4_tellClashesOf : MI mX4_tellClashesOf 1 := ⟨(gwi 851 (by decide +kernel) rfl), (gwp 43 (by decide +kernel) rfl), (gwi 10 (by decide +kernel) rfl), (gwi 852 (by decide +kernel) rfl), ⟨by decide +kernel, by decide +kernel⟩, by decide +kernel, by decide⟩
theorem miX4_addClash : MI mX4_addClash 2 := ⟨(gwi 808 (by decide +kernel) rfl), (gwp 36 (by decide +kernel) rfl), (gwi 10 (by decide +kernel) rfl), (gwi 809 (by decide +kernel) rfl), ⟨by decide +kernel, by decide +kernel⟩, by decide +kernel, by decide⟩
theorem miX5_parse : MI mX5_parse 0 := ⟨(gwi 395 (by decide +kernel) rfl), (gwi 396 (by decide +kernel) rfl), (gwi 2 (by decide +kernel) rfl), (gwi 397 (by decide +kernel) rfl), ⟨by decide +kernel, by decide +kernel⟩, by decide +kernel, by decide⟩
theorem miX5_readNode : MI mX5_readNode 1 := ⟨(gwi 400 (by decide +kernel) rfl), (gwp 1 (by decide +kernel) rfl), (gwi 2 (by decide +kernel) rfl), (gwi 401 (by decide +kernel) rfl), ⟨by decide +kernel, by decide +kernel⟩, by decide +kernel, by decide⟩
theorem miX5_isTwin : MI mX5_isTwin 2 := ⟨(gwi 426 (by decide +kernel) rfl), (gwp 3 (by decide +kernel) rfl), (gwi 2 (by decide +kernel) rfl), (gwi 427 (by decide +kernel) rfl), ⟨by decide +kernel, by decide +kernel⟩, by decide +kernel, by decide⟩
theorem miX5_passLabel : MI mX5_passLabel 0 := ⟨(gwi 404 (by decide +kernel) rfl), (gwp 2 (by decide +kernel) rfl), (gwi 2 (by decide +kernel) rfl), (gwi 405 (by decide +kernel) rfl), ⟨by decide +kernel, by decide +kernel⟩, by decide +kernel, by decide⟩
theorem miX5_readText : MI mX5_readText 1 := ⟨(gwi 446 (by decide +kernel) rfl), (gwp 4 (by decide +kernel) rfl), (gwi 2 (by decide +kernel) rfl), (gwi 447 (by decide +kernel) rfl), ⟨by decide +kernel, by decide +kernel⟩, by decide +kernel, by decide⟩
theorem miX5_readMark : MI mX5_readMark 1 := ⟨(gwi 463 (by decide +kernel) rfl), (gwp 6 (by decide +kernel) rfl), (gwi 2 (by decide +kernel) rfl), (gwi 464 (by decide +kernel) rfl), ⟨by decide +kernel, by decide +kernel⟩, by decide +kernel, by decide⟩
theorem miX5_nextDepth : MI mX5_nextDepth 1 := ⟨(gwi 467 (by decide +kernel) rfl), (gwp 7 (by decide +kernel) rfl), (gwi 2 (by decide +kernel) rfl), (gwi 468 (by decide +kernel) rfl), ⟨by decide +kernel, by decide +kernel⟩, by decide +kernel, by decide⟩
theorem miX5_pass : MI mX5_pass 1 := ⟨(gwi 450 (by decide +kernel) rfl), (gwp 5 (by decide +kernel) rfl), (gwi 2 (by decide +kernel) rfl), (gwi 451 (by decide +kernel) rfl), ⟨by decide +kernel, by decide +kernel⟩, by decide +kernel, by decide⟩
theorem miX6_append : MI mX6_append 1 := ⟨(gwi 384 (by decide +kernel) rfl), (gwi 385 (by decide +kernel) rfl), (gwi 3 (by decide +kernel) rfl), (gwi 386 (by decide +kernel) rfl), ⟨by decide +kernel, by decide +kernel⟩, by decide +kernel, by decide⟩
theorem miX6_signOn : MI mX6_signOn 1 := ⟨(gwi 411 (by decide +kernel) rfl), (gwi 412 (by decide +kernel) rfl), (gwi 3 (by decide +kernel) rfl), (gwi 413 (by decide +kernel) rfl), ⟨by decide +kernel, by decide +kernel⟩, by decide +kernel, by decide⟩
theorem miX6_lettersFrom : MI mX6_lettersFrom 1 := ⟨(gwi 407 (by decide +kernel) rfl), (gwi 408 (by decide +kernel) rfl), (gwi 3 (by decide +kernel) rfl), (gwi 409 (by decide +kernel) rfl), ⟨by decide +kernel, by decide +kernel⟩, by decide +kernel, by decide⟩
theorem miX6_textSignsFrom : MI mX6_textSignsFrom 1 := ⟨(gwi 453 (by decide +kernel) rfl), (gwi 454 (by decide +kernel) rfl), (gwi 3 (by decide +kernel) rfl), (gwi 455 (by decide +kernel) rfl), ⟨by decide +kernel, by decide +kernel⟩, by decide +kernel, by decide⟩
theorem miX6_word : MI mX6_word 2 := ⟨(gwi 420 (by decide +kernel) rfl), (gwi 421 (by decide +kernel) rfl), (gwi 3 (by decide +kernel) rfl), (gwi 422 (by decide +kernel) rfl), ⟨by decide +kernel, by decide +kernel⟩, by decide +kernel, by decide⟩
theorem miX6_asLabel : MI mX6_asLabel 0 := ⟨(gwi 577 (by decide +kernel) rfl), (gwi 578 (by decide +kernel) rfl), (gwi 3 (by decide +kernel) rfl), (gwi 579 (by decide +kernel) rfl), ⟨by decide +kernel, by decide +kernel⟩, by decide +kernel, by decide⟩
theorem miX6_asText : MI mX6_asText 0 := ⟨(gwi 606 (by decide +kernel) rfl), (gwi 607 (by decide +kernel) rfl), (gwi 3 (by decide +kernel) rfl), (gwi 608 (by decide +kernel) rfl), ⟨by decide +kernel, by decide +kernel⟩, by decide +kernel, by decide⟩
theorem miX7_become : MI mX7_become 1 := ⟨(gwi 477 (by decide +kernel) rfl), (gwi 478 (by decide +kernel) rfl), (gwi 4 (by decide +kernel) rfl), (gwi 479 (by decide +kernel) rfl), ⟨by decide +kernel, by decide +kernel⟩, by decide +kernel, by decide⟩
theorem miX7_copyRows : MI mX7_copyRows 4 := ⟨(gwi 482 (by decide +kernel) rfl), (gwp 8 (by decide +kernel) rfl), (gwi 4 (by decide +kernel) rfl), (gwi 483 (by decide +kernel) rfl), ⟨by decide +kernel, by decide +kernel⟩, by decide +kernel, by decide⟩
theorem miX7_measure : MI mX7_measure 0 := ⟨(gwi 473 (by decide +kernel) rfl), (gwi 474 (by decide +kernel) rfl), (gwi 4 (by decide +kernel) rfl), (gwi 475 (by decide +kernel) rfl), ⟨by decide +kernel, by decide +kernel⟩, by decide +kernel, by decide⟩
theorem miX7_addRow : MI mX7_addRow 1 := ⟨(gwi 437 (by decide +kernel) rfl), (gwi 438 (by decide +kernel) rfl), (gwi 4 (by decide +kernel) rfl), (gwi 439 (by decide +kernel) rfl), ⟨by decide +kernel, by decide +kernel⟩, by decide +kernel, by decide⟩
theorem miX7_setRow : MI mX7_setRow 4 := ⟨(gwi 441 (by decide +kernel) rfl), (gwi 442 (by decide +kernel) rfl), (gwi 4 (by decide +kernel) rfl), (gwi 443 (by decide +kernel) rfl), ⟨by decide +kernel, by decide +kernel⟩, by decide +kernel, by decide⟩
theorem miX7_rowOf : MI mX7_rowOf 1 := ⟨(gwi 573 (by decide +kernel) rfl), (gwi 574 (by decide +kernel) rfl), (gwi 4 (by decide +kernel) rfl), (gwi 575 (by decide +kernel) rfl), ⟨by decide +kernel, by decide +kernel⟩, by decide +kernel, by decide⟩
theorem miX7_endOf : MI mX7_endOf 1 := ⟨(gwi 548 (by decide +kernel) rfl), (gwi 549 (by decide +kernel) rfl), (gwi 4 (by decide +kernel) rfl), (gwi 550 (by decide +kernel) rfl), ⟨by decide +kernel, by decide +kernel⟩, by decide +kernel, by decide⟩
theorem miX7_isChild : MI mX7_isChild 2 := ⟨(gwi 433 (by decide +kernel) rfl), (gwi 434 (by decide +kernel) rfl), (gwi 4 (by decide +kernel) rfl), (gwi 435 (by decide +kernel) rfl), ⟨by decide +kernel, by decide +kernel⟩, by decide +kernel, by decide⟩
theorem miX7_childrenOf : MI mX7_childrenOf 1 := ⟨(gwi 544 (by decide +kernel) rfl), (gwi 545 (by decide +kernel) rfl), (gwi 4 (by decide +kernel) rfl), (gwi 546 (by decide +kernel) rfl), ⟨by decide +kernel, by decide +kernel⟩, by decide +kernel, by decide⟩
theorem miX7_childAfter : MI mX7_childAfter 2 := ⟨(gwi 623 (by decide +kernel) rfl), (gwi 624 (by decide +kernel) rfl), (gwi 4 (by decide +kernel) rfl), (gwi 625 (by decide +kernel) rfl), ⟨by decide +kernel, by decide +kernel⟩, by decide +kernel, by decide⟩
theorem miX7_childAt : MI mX7_childAt 2 := ⟨(gwi 620 (by decide +kernel) rfl), (gwp 17 (by decide +kernel) rfl), (gwi 4 (by decide +kernel) rfl), (gwi 621 (by decide +kernel) rfl), ⟨by decide +kernel, by decide +kernel⟩, by decide +kernel, by decide⟩
theorem miX7_parentOf : MI mX7_parentOf 1 := ⟨(gwi 552 (by decide +kernel) rfl), (gwi 553 (by decide +kernel) rfl), (gwi 4 (by decide +kernel) rfl), (gwi 554 (by decide +kernel) rfl), ⟨by decide +kernel, by decide +kernel⟩, by decide +kernel, by decide⟩
theorem miX7_behind : MI mX7_behind 1 := ⟨(gwi 556 (by decide +kernel) rfl), (gwi 557 (by decide +kernel) rfl), (gwi 4 (by decide +kernel) rfl), (gwi 558 (by decide +kernel) rfl), ⟨by decide +kernel, by decide +kernel⟩, by decide +kernel, by decide⟩
theorem miX7_isTooDeep : MI mX7_isTooDeep 0 := ⟨(gwi 589 (by decide +kernel) rfl), (gwi 590 (by decide +kernel) rfl), (gwi 4 (by decide +kernel) rfl), (gwi 591 (by decide +kernel) rfl), ⟨by decide +kernel, by decide +kernel⟩, by decide +kernel, by decide⟩
theorem miX7_hasTwins : MI mX7_hasTwins 0 := ⟨(gwi 593 (by decide +kernel) rfl), (gwi 594 (by decide +kernel) rfl), (gwi 4 (by decide +kernel) rfl), (gwi 595 (by decide +kernel) rfl), ⟨by decide +kernel, by decide +kernel⟩, by decide +kernel, by decide⟩
theorem miX7_hasTwinsUnder : MI mX7_hasTwinsUnder 1 := ⟨(gwi 598 (by decide +kernel) rfl), (gwp 16 (by decide +kernel) rfl), (gwi 4 (by decide +kernel) rfl), (gwi 599 (by decide +kernel) rfl), ⟨by decide +kernel, by decide +kernel⟩, by decide +kernel, by decide⟩
theorem miX7_isLabelUnder : MI mX7_isLabelUnder 4 := ⟨(gwi 429 (by decide +kernel) rfl), (gwi 430 (by decide +kernel) rfl), (gwi 4 (by decide +kernel) rfl), (gwi 431 (by decide +kernel) rfl), ⟨by decide +kernel, by decide +kernel⟩, by decide +kernel, by decide⟩
theorem miX7_shiftDepths : MI mX7_shiftDepths 3 := ⟨(gwi 628 (by decide +kernel) rfl), (gwp 18 (by decide +kernel) rfl), (gwi 4 (by decide +kernel) rfl), (gwi 629 (by decide +kernel) rfl), ⟨by decide +kernel, by decide +kernel⟩, by decide +kernel, by decide⟩
theorem miX7_wrap : MI mX7_wrap 3 := ⟨(gwi 615 (by decide +kernel) rfl), (gwi 616 (by decide +kernel) rfl), (gwi 4 (by decide +kernel) rfl), (gwi 617 (by decide +kernel) rfl), ⟨by decide +kernel, by decide +kernel⟩, by decide +kernel, by decide⟩
theorem miX7_dissolve : MI mX7_dissolve 1 := ⟨(gwi 636 (by decide +kernel) rfl), (gwi 637 (by decide +kernel) rfl), (gwi 4 (by decide +kernel) rfl), (gwi 638 (by decide +kernel) rfl), ⟨by decide +kernel, by decide +kernel⟩, by decide +kernel, by decide⟩
theorem miX7_cutOut : MI mX7_cutOut 1 := ⟨(gwi 648 (by decide +kernel) rfl), (gwi 649 (by decide +kernel) rfl), (gwi 4 (by decide +kernel) rfl), (gwi 650 (by decide +kernel) rfl), ⟨by decide +kernel, by decide +kernel⟩, by decide +kernel, by decide⟩
theorem miX7_graft : MI mX7_graft 4 := ⟨(gwi 652 (by decide +kernel) rfl), (gwi 653 (by decide +kernel) rfl), (gwi 4 (by decide +kernel) rfl), (gwi 654 (by decide +kernel) rfl), ⟨by decide +kernel, by decide +kernel⟩, by decide +kernel, by decide⟩
theorem miX8_spell : MI mX8_spell 1 := ⟨(gwi 497 (by decide +kernel) rfl), (gwi 498 (by decide +kernel) rfl), (gwi 5 (by decide +kernel) rfl), (gwi 499 (by decide +kernel) rfl), ⟨by decide +kernel, by decide +kernel⟩, by decide +kernel, by decide⟩
theorem miX8_spellNode : MI mX8_spellNode 2 := ⟨(gwi 502 (by decide +kernel) rfl), (gwp 10 (by decide +kernel) rfl), (gwi 5 (by decide +kernel) rfl), (gwi 503 (by decide +kernel) rfl), ⟨by decide +kernel, by decide +kernel⟩, by decide +kernel, by decide⟩
theorem miX8_leaveBranches : MI mX8_leaveBranches 2 := ⟨(gwi 522 (by decide +kernel) rfl), (gwp 13 (by decide +kernel) rfl), (gwi 5 (by decide +kernel) rfl), (gwi 523 (by decide +kernel) rfl), ⟨by decide +kernel, by decide +kernel⟩, by decide +kernel, by decide⟩
theorem miX8_addWord : MI mX8_addWord 1 := ⟨(gwi 506 (by decide +kernel) rfl), (gwp 11 (by decide +kernel) rfl), (gwi 5 (by decide +kernel) rfl), (gwi 507 (by decide +kernel) rfl), ⟨by decide +kernel, by decide +kernel⟩, by decide +kernel, by decide⟩
theorem miX8_add : MI mX8_add 1 := ⟨(gwi 514 (by decide +kernel) rfl), (gwp 12 (by decide +kernel) rfl), (gwi 5 (by decide +kernel) rfl), (gwi 515 (by decide +kernel) rfl), ⟨by decide +kernel, by decide +kernel⟩, by decide +kernel, by decide⟩
theorem miX9_feed : MI mX9_feed 2 := ⟨(gwi 373 (by decide +kernel) rfl), (gwi 374 (by decide +kernel) rfl), (gwi 1 (by decide +kernel) rfl), (gwi 375 (by decide +kernel) rfl), ⟨by decide +kernel, by decide +kernel⟩, by decide +kernel, by decide⟩
theorem miX9_read : MI mX9_read 1 := ⟨(gwi 388 (by decide +kernel) rfl), (gwi 389 (by decide +kernel) rfl), (gwi 1 (by decide +kernel) rfl), (gwi 390 (by decide +kernel) rfl), ⟨by decide +kernel, by decide +kernel⟩, by decide +kernel, by decide⟩
theorem miX9_write : MI mX9_write 1 := ⟨(gwi 489 (by decide +kernel) rfl), (gwi 490 (by decide +kernel) rfl), (gwi 1 (by decide +kernel) rfl), (gwi 491 (by decide +kernel) rfl), ⟨by decide +kernel, by decide +kernel⟩, by decide +kernel, by decide⟩
theorem miX9_letter : MI mX9_letter 1 := ⟨(gwi 525 (by decide +kernel) rfl), (gwi 526 (by decide +kernel) rfl), (gwi 1 (by decide +kernel) rfl), (gwi 527 (by decide +kernel) rfl), ⟨by decide +kernel, by decide +kernel⟩, by decide +kernel, by decide⟩
theorem miX9_copy : MI mX9_copy 2 := ⟨(gwi 529 (by decide +kernel) rfl), (gwi 530 (by decide +kernel) rfl), (gwi 1 (by decide +kernel) rfl), (gwi 531 (by decide +kernel) rfl), ⟨by decide +kernel, by decide +kernel⟩, by decide +kernel, by decide⟩
theorem miX9_clear : MI mX9_clear 1 := ⟨(gwi 533 (by decide +kernel) rfl), (gwi 534 (by decide +kernel) rfl), (gwi 1 (by decide +kernel) rfl), (gwi 535 (by decide +kernel) rfl), ⟨by decide +kernel, by decide +kernel⟩, by decide +kernel, by decide⟩
theorem miX9_node : MI mX9_node 3 := ⟨(gwi 537 (by decide +kernel) rfl), (gwi 538 (by decide +kernel) rfl), (gwi 1 (by decide +kernel) rfl), (gwi 539 (by decide +kernel) rfl), ⟨by decide +kernel, by decide +kernel⟩, by decide +kernel, by decide⟩
theorem miX9_size : MI mX9_size 1 := ⟨(gwi 561 (by decide +kernel) rfl), (gwi 562 (by decide +kernel) rfl), (gwi 1 (by decide +kernel) rfl), (gwi 563 (by decide +kernel) rfl), ⟨by decide +kernel, by decide +kernel⟩, by decide +kernel, by decide⟩
theorem miX9_relabel : MI mX9_relabel 2 := ⟨(gwi 565 (by decide +kernel) rfl), (gwi 566 (by decide +kernel) rfl), (gwi 1 (by decide +kernel) rfl), (gwi 567 (by decide +kernel) rfl), ⟨by decide +kernel, by decide +kernel⟩, by decide +kernel, by decide⟩
theorem miX9_retext : MI mX9_retext 2 := ⟨(gwi 602 (by decide +kernel) rfl), (gwi 603 (by decide +kernel) rfl), (gwi 1 (by decide +kernel) rfl), (gwi 604 (by decide +kernel) rfl), ⟨by decide +kernel, by decide +kernel⟩, by decide +kernel, by decide⟩
theorem miX9_put : MI mX9_put 5 := ⟨(gwi 611 (by decide +kernel) rfl), (gwi 612 (by decide +kernel) rfl), (gwi 1 (by decide +kernel) rfl), (gwi 613 (by decide +kernel) rfl), ⟨by decide +kernel, by decide +kernel⟩, by decide +kernel, by decide⟩
theorem miX9_take : MI mX9_take 2 := ⟨(gwi 632 (by decide +kernel) rfl), (gwi 633 (by decide +kernel) rfl), (gwi 1 (by decide +kernel) rfl), (gwi 634 (by decide +kernel) rfl), ⟨by decide +kernel, by decide +kernel⟩, by decide +kernel, by decide⟩
theorem miX9_move : MI mX9_move 4 := ⟨(gwi 640 (by decide +kernel) rfl), (gwi 641 (by decide +kernel) rfl), (gwi 1 (by decide +kernel) rfl), (gwi 642 (by decide +kernel) rfl), ⟨by decide +kernel, by decide +kernel⟩, by decide +kernel, by decide⟩
theorem miX9_price : MI mX9_price 2 := ⟨(gwi 656 (by decide +kernel) rfl), (gwi 657 (by decide +kernel) rfl), (gwi 1 (by decide +kernel) rfl), (gwi 658 (by decide +kernel) rfl), ⟨by decide +kernel, by decide +kernel⟩, by decide +kernel, by decide⟩
theorem miX9_distance : MI mX9_distance 2 := ⟨(gwi 660 (by decide +kernel) rfl), (gwi 661 (by decide +kernel) rfl), (gwi 1 (by decide +kernel) rfl), (gwi 662 (by decide +kernel) rfl), ⟨by decide +kernel, by decide +kernel⟩, by decide +kernel, by decide⟩
theorem miX9_map : MI mX9_map 2 := ⟨(gwi 701 (by decide +kernel) rfl), (gwi 702 (by decide +kernel) rfl), (gwi 1 (by decide +kernel) rfl), (gwi 703 (by decide +kernel) rfl), ⟨by decide +kernel, by decide +kernel⟩, by decide +kernel, by decide⟩
theorem miX9_pair : MI mX9_pair 2 := ⟨(gwi 745 (by decide +kernel) rfl), (gwi 746 (by decide +kernel) rfl), (gwi 1 (by decide +kernel) rfl), (gwi 747 (by decide +kernel) rfl), ⟨by decide +kernel, by decide +kernel⟩, by decide +kernel, by decide⟩
theorem miX9_acts : MI mX9_acts 0 := ⟨(gwi 749 (by decide +kernel) rfl), (gwi 750 (by decide +kernel) rfl), (gwi 1 (by decide +kernel) rfl), (gwi 751 (by decide +kernel) rfl), ⟨by decide +kernel, by decide +kernel⟩, by decide +kernel, by decide⟩
theorem miX9_act : MI mX9_act 2 := ⟨(gwi 753 (by decide +kernel) rfl), (gwi 754 (by decide +kernel) rfl), (gwi 1 (by decide +kernel) rfl), (gwi 755 (by decide +kernel) rfl), ⟨by decide +kernel, by decide +kernel⟩, by decide +kernel, by decide⟩
theorem miX9_like : MI mX9_like 0 := ⟨(gwi 757 (by decide +kernel) rfl), (gwi 758 (by decide +kernel) rfl), (gwi 1 (by decide +kernel) rfl), (gwi 759 (by decide +kernel) rfl), ⟨by decide +kernel, by decide +kernel⟩, by decide +kernel, by decide⟩
theorem miX9_same : MI mX9_same 2 := ⟨(gwi 761 (by decide +kernel) rfl), (gwi 762 (by decide +kernel) rfl), (gwi 1 (by decide +kernel) rfl), (gwi 763 (by decide +kernel) rfl), ⟨by decide +kernel, by decide +kernel⟩, by decide +kernel, by decide⟩
theorem miX9_unlike : MI mX9_unlike 1 := ⟨(gwi 791 (by decide +kernel) rfl), (gwi 792 (by decide +kernel) rfl), (gwi 1 (by decide +kernel) rfl), (gwi 793 (by decide +kernel) rfl), ⟨by decide +kernel, by decide +kernel⟩, by decide +kernel, by decide⟩
theorem miX9_shared : MI mX9_shared 2 := ⟨(gwi 795 (by decide +kernel) rfl), (gwi 796 (by decide +kernel) rfl), (gwi 1 (by decide +kernel) rfl), (gwi 797 (by decide +kernel) rfl), ⟨by decide +kernel, by decide +kernel⟩, by decide +kernel, by decide⟩
theorem miX9_merge : MI mX9_merge 4 := ⟨(gwi 799 (by decide +kernel) rfl), (gwi 800 (by decide +kernel) rfl), (gwi 1 (by decide +kernel) rfl), (gwi 801 (by decide +kernel) rfl), ⟨by decide +kernel, by decide +kernel⟩, by decide +kernel, by decide⟩
theorem miX9_merged : MI mX9_merged 0 := ⟨(gwi 854 (by decide +kernel) rfl), (gwi 855 (by decide +kernel) rfl), (gwi 1 (by decide +kernel) rfl), (gwi 856 (by decide +kernel) rfl), ⟨by decide +kernel, by decide +kernel⟩, by decide +kernel, by decide⟩
theorem miX9_clash : MI mX9_clash 2 := ⟨(gwi 858 (by decide +kernel) rfl), (gwi 859 (by decide +kernel) rfl), (gwi 1 (by decide +kernel) rfl), (gwi 860 (by decide +kernel) rfl), ⟨by decide +kernel, by decide +kernel⟩, by decide +kernel, by decide⟩
theorem miX9_found : MI mX9_found 1 := ⟨(gwi 862 (by decide +kernel) rfl), (gwi 863 (by decide +kernel) rfl), (gwi 1 (by decide +kernel) rfl), (gwi 864 (by decide +kernel) rfl), ⟨by decide +kernel, by decide +kernel⟩, by decide +kernel, by decide⟩
theorem miX9_tell : MI mX9_tell 1 := ⟨(gwi 378 (by decide +kernel) rfl), (gwp 0 (by decide +kernel) rfl), (gwi 1 (by decide +kernel) rfl), (gwi 379 (by decide +kernel) rfl), ⟨by decide +kernel, by decide +kernel⟩, by decide +kernel, by decide⟩
theorem msX9_isPlace : MS mX9_isPlace 1 := ⟨(gwi 392 (by decide +kernel) rfl), (gwi 1 (by decide +kernel) rfl), (gwi 393 (by decide +kernel) rfl), ⟨by decide +kernel, by decide +kernel⟩, by decide +kernel, by decide⟩
theorem miX9_lackOfTree : MI mX9_lackOfTree 1 := ⟨(gwi 494 (by decide +kernel) rfl), (gwp 9 (by decide +kernel) rfl), (gwi 1 (by decide +kernel) rfl), (gwi 495 (by decide +kernel) rfl), ⟨by decide +kernel, by decide +kernel⟩, by decide +kernel, by decide⟩
theorem miX9_lackOfTrees : MI mX9_lackOfTrees 2 := ⟨(gwi 665 (by decide +kernel) rfl), (gwp 19 (by decide +kernel) rfl), (gwi 1 (by decide +kernel) rfl), (gwi 666 (by decide +kernel) rfl), ⟨by decide +kernel, by decide +kernel⟩, by decide +kernel, by decide⟩
theorem miX9_seekNode : MI mX9_seekNode 2 := ⟨(gwi 570 (by decide +kernel) rfl), (gwp 14 (by decide +kernel) rfl), (gwi 1 (by decide +kernel) rfl), (gwi 571 (by decide +kernel) rfl), ⟨by decide +kernel, by decide +kernel⟩, by decide +kernel, by decide⟩
theorem msX9_seekParent : MS mX9_seekParent 3 := ⟨(gwi 644 (by decide +kernel) rfl), (gwi 1 (by decide +kernel) rfl), (gwi 645 (by decide +kernel) rfl), ⟨by decide +kernel, by decide +kernel⟩, by decide +kernel, by decide⟩
theorem miX9_tryOut : MI mX9_tryOut 2 := ⟨(gwi 586 (by decide +kernel) rfl), (gwp 15 (by decide +kernel) rfl), (gwi 1 (by decide +kernel) rfl), (gwi 587 (by decide +kernel) rfl), ⟨by decide +kernel, by decide +kernel⟩, by decide +kernel, by decide⟩
theorem msX9_detail : MS mX9_detail 3 := ⟨(gwi 541 (by decide +kernel) rfl), (gwi 1 (by decide +kernel) rfl), (gwi 542 (by decide +kernel) rfl), ⟨by decide +kernel, by decide +kernel⟩, by decide +kernel, by decide⟩
theorem msX9_signAt : MS mX9_signAt 2 := ⟨(gwi 381 (by decide +kernel) rfl), (gwi 1 (by decide +kernel) rfl), (gwi 382 (by decide +kernel) rfl), ⟨by decide +kernel, by decide +kernel⟩, by decide +kernel, by decide⟩
theorem msX9_lengthOf : MS mX9_lengthOf 1 := ⟨(gwi 509 (by decide +kernel) rfl), (gwi 1 (by decide +kernel) rfl), (gwi 510 (by decide +kernel) rfl), ⟨by decide +kernel, by decide +kernel⟩, by decide +kernel, by decide⟩
theorem msX9_isLetter : MS mX9_isLetter 1 := ⟨(gwi 415 (by decide +kernel) rfl), (gwi 1 (by decide +kernel) rfl), (gwi 416 (by decide +kernel) rfl), ⟨by decide +kernel, by decide +kernel⟩, by decide +kernel, by decide⟩
theorem msX9_isTextSign : MS mX9_isTextSign 1 := ⟨(gwi 457 (by decide +kernel) rfl), (gwi 1 (by decide +kernel) rfl), (gwi 458 (by decide +kernel) rfl), ⟨by decide +kernel, by decide +kernel⟩, by decide +kernel, by decide⟩
theorem msX9_openerOf : MS mX9_openerOf 1 := ⟨(gwi 517 (by decide +kernel) rfl), (gwi 1 (by decide +kernel) rfl), (gwi 518 (by decide +kernel) rfl), ⟨by decide +kernel, by decide +kernel⟩, by decide +kernel, by decide⟩
theorem msX9_closerOf : MS mX9_closerOf 1 := ⟨(gwi 470 (by decide +kernel) rfl), (gwi 1 (by decide +kernel) rfl), (gwi 471 (by decide +kernel) rfl), ⟨by decide +kernel, by decide +kernel⟩, by decide +kernel, by decide⟩
theorem miX10_found0 : MI mX10_found0 1 := ⟨(gwi 990 (by decide +kernel) rfl), (gwp 44 (by decide +kernel) rfl), (gwi 11 (by decide +kernel) rfl), (gwi 991 (by decide +kernel) rfl), ⟨by decide +kernel, by decide +kernel⟩, by decide +kernel, by decide⟩
theorem msX10_in : MS mX10_in 3 := ⟨(gwi 986 (by decide +kernel) rfl), (gwi 11 (by decide +kernel) rfl), (gwi 987 (by decide +kernel) rfl), ⟨by decide +kernel, by decide +kernel⟩, by decide +kernel, by decide⟩
theorem msX10_isPlace : MS mX10_isPlace 1 := ⟨(gwi 998 (by decide +kernel) rfl), (gwi 11 (by decide +kernel) rfl), (gwi 999 (by decide +kernel) rfl), ⟨by decide +kernel, by decide +kernel⟩, by decide +kernel, by decide⟩
theorem miX10_lacks : MI mX10_lacks 1 := ⟨(gwi 1052 (by decide +kernel) rfl), (gwp 55 (by decide +kernel) rfl), (gwi 11 (by decide +kernel) rfl), (gwi 1053 (by decide +kernel) rfl), ⟨by decide +kernel, by decide +kernel⟩, by decide +kernel, by decide⟩
theorem miX10_of : MI mX10_of 3 := ⟨(gwi 1024 (by decide +kernel) rfl), (gwp 49 (by decide +kernel) rfl), (gwi 11 (by decide +kernel) rfl), (gwi 1025 (by decide +kernel) rfl), ⟨by decide +kernel, by decide +kernel⟩, by decide +kernel, by decide⟩
theorem miX10_set : MI mX10_set 4 := ⟨(gwi 1013 (by decide +kernel) rfl), (gwp 47 (by decide +kernel) rfl), (gwi 11 (by decide +kernel) rfl), (gwi 1014 (by decide +kernel) rfl), ⟨by decide +kernel, by decide +kernel⟩, by decide +kernel, by decide⟩
theorem miX10_deep : MI mX10_deep 2 := ⟨(gwi 1036 (by decide +kernel) rfl), (gwp 52 (by decide +kernel) rfl), (gwi 11 (by decide +kernel) rfl), (gwi 1037 (by decide +kernel) rfl), ⟨by decide +kernel, by decide +kernel⟩, by decide +kernel, by decide⟩
theorem miX10_carry : MI mX10_carry 4 := ⟨(gwi 1044 (by decide +kernel) rfl), (gwp 54 (by decide +kernel) rfl), (gwi 11 (by decide +kernel) rfl), (gwi 1045 (by decide +kernel) rfl), ⟨by decide +kernel, by decide +kernel⟩, by decide +kernel, by decide⟩
theorem miX10_copyAll : MI mX10_copyAll 2 := ⟨(gwi 1040 (by decide +kernel) rfl), (gwp 53 (by decide +kernel) rfl), (gwi 11 (by decide +kernel) rfl), (gwi 1041 (by decide +kernel) rfl), ⟨by decide +kernel, by decide +kernel⟩, by decide +kernel, by decide⟩
theorem miX10_end : MI mX10_end 2 := ⟨(gwi 1032 (by decide +kernel) rfl), (gwp 51 (by decide +kernel) rfl), (gwi 11 (by decide +kernel) rfl), (gwi 1033 (by decide +kernel) rfl), ⟨by decide +kernel, by decide +kernel⟩, by decide +kernel, by decide⟩
theorem miX10_parent : MI mX10_parent 2 := ⟨(gwi 1060 (by decide +kernel) rfl), (gwp 57 (by decide +kernel) rfl), (gwi 11 (by decide +kernel) rfl), (gwi 1061 (by decide +kernel) rfl), ⟨by decide +kernel, by decide +kernel⟩, by decide +kernel, by decide⟩
theorem miX10_child : MI mX10_child 3 := ⟨(gwi 1116 (by decide +kernel) rfl), (gwp 63 (by decide +kernel) rfl), (gwi 11 (by decide +kernel) rfl), (gwi 1117 (by decide +kernel) rfl), ⟨by decide +kernel, by decide +kernel⟩, by decide +kernel, by decide⟩
theorem miX10_children : MI mX10_children 2 := ⟨(gwi 1084 (by decide +kernel) rfl), (gwp 59 (by decide +kernel) rfl), (gwi 11 (by decide +kernel) rfl), (gwi 1085 (by decide +kernel) rfl), ⟨by decide +kernel, by decide +kernel⟩, by decide +kernel, by decide⟩
theorem miX10_named : MI mX10_named 2 := ⟨(gwi 1100 (by decide +kernel) rfl), (gwp 61 (by decide +kernel) rfl), (gwi 11 (by decide +kernel) rfl), (gwi 1101 (by decide +kernel) rfl), ⟨by decide +kernel, by decide +kernel⟩, by decide +kernel, by decide⟩
theorem miX10_isLike : MI mX10_isLike 5 := ⟨(gwi 1028 (by decide +kernel) rfl), (gwp 50 (by decide +kernel) rfl), (gwi 11 (by decide +kernel) rfl), (gwi 1029 (by decide +kernel) rfl), ⟨by decide +kernel, by decide +kernel⟩, by decide +kernel, by decide⟩
theorem miX10_hasTwice : MI mX10_hasTwice 1 := ⟨(gwi 1124 (by decide +kernel) rfl), (gwp 65 (by decide +kernel) rfl), (gwi 11 (by decide +kernel) rfl), (gwi 1125 (by decide +kernel) rfl), ⟨by decide +kernel, by decide +kernel⟩, by decide +kernel, by decide⟩
theorem miX10_isTooDeep : MI mX10_isTooDeep 1 := ⟨(gwi 1120 (by decide +kernel) rfl), (gwp 64 (by decide +kernel) rfl), (gwi 11 (by decide +kernel) rfl), (gwi 1121 (by decide +kernel) rfl), ⟨by decide +kernel, by decide +kernel⟩, by decide +kernel, by decide⟩
theorem miX10_feed : MI mX10_feed 2 := ⟨(gwi 982 (by decide +kernel) rfl), (gwi 983 (by decide +kernel) rfl), (gwi 11 (by decide +kernel) rfl), (gwi 984 (by decide +kernel) rfl), ⟨by decide +kernel, by decide +kernel⟩, by decide +kernel, by decide⟩
theorem msX10_isLetter : MS mX10_isLetter 1 := ⟨(gwi 1009 (by decide +kernel) rfl), (gwi 11 (by decide +kernel) rfl), (gwi 1010 (by decide +kernel) rfl), ⟨by decide +kernel, by decide +kernel⟩, by decide +kernel, by decide⟩
theorem msX10_isSign : MS mX10_isSign 1 := ⟨(gwi 1020 (by decide +kernel) rfl), (gwi 11 (by decide +kernel) rfl), (gwi 1021 (by decide +kernel) rfl), ⟨by decide +kernel, by decide +kernel⟩, by decide +kernel, by decide⟩
theorem miX10_at : MI mX10_at 2 := ⟨(gwi 1006 (by decide +kernel) rfl), (gwp 46 (by decide +kernel) rfl), (gwi 11 (by decide +kernel) rfl), (gwi 1007 (by decide +kernel) rfl), ⟨by decide +kernel, by decide +kernel⟩, by decide +kernel, by decide⟩
theorem miX10_signs : MI mX10_signs 5 := ⟨(gwi 1017 (by decide +kernel) rfl), (gwp 48 (by decide +kernel) rfl), (gwi 11 (by decide +kernel) rfl), (gwi 1018 (by decide +kernel) rfl), ⟨by decide +kernel, by decide +kernel⟩, by decide +kernel, by decide⟩
theorem miX10_reads : MI mX10_reads 1 := ⟨(gwi 1002 (by decide +kernel) rfl), (gwp 45 (by decide +kernel) rfl), (gwi 11 (by decide +kernel) rfl), (gwi 1003 (by decide +kernel) rfl), ⟨by decide +kernel, by decide +kernel⟩, by decide +kernel, by decide⟩
theorem miX10_read : MI mX10_read 1 := ⟨(gwi 994 (by decide +kernel) rfl), (gwi 995 (by decide +kernel) rfl), (gwi 11 (by decide +kernel) rfl), (gwi 996 (by decide +kernel) rfl), ⟨by decide +kernel, by decide +kernel⟩, by decide +kernel, by decide⟩
theorem miX10_writes : MI mX10_writes 1 := ⟨(gwi 1064 (by decide +kernel) rfl), (gwp 58 (by decide +kernel) rfl), (gwi 11 (by decide +kernel) rfl), (gwi 1065 (by decide +kernel) rfl), ⟨by decide +kernel, by decide +kernel⟩, by decide +kernel, by decide⟩
theorem miX10_write : MI mX10_write 1 := ⟨(gwi 1047 (by decide +kernel) rfl), (gwi 1048 (by decide +kernel) rfl), (gwi 11 (by decide +kernel) rfl), (gwi 1049 (by decide +kernel) rfl), ⟨by decide +kernel, by decide +kernel⟩, by decide +kernel, by decide⟩
theorem miX10_closes : MI mX10_closes 3 := ⟨(gwi 1056 (by decide +kernel) rfl), (gwp 56 (by decide +kernel) rfl), (gwi 11 (by decide +kernel) rfl), (gwi 1057 (by decide +kernel) rfl), ⟨by decide +kernel, by decide +kernel⟩, by decide +kernel, by decide⟩
theorem miX10_letter : MI mX10_letter 1 := ⟨(gwi 1067 (by decide +kernel) rfl), (gwi 1068 (by decide +kernel) rfl), (gwi 11 (by decide +kernel) rfl), (gwi 1069 (by decide +kernel) rfl), ⟨by decide +kernel, by decide +kernel⟩, by decide +kernel, by decide⟩
theorem miX10_copy : MI mX10_copy 2 := ⟨(gwi 1071 (by decide +kernel) rfl), (gwi 1072 (by decide +kernel) rfl), (gwi 11 (by decide +kernel) rfl), (gwi 1073 (by decide +kernel) rfl), ⟨by decide +kernel, by decide +kernel⟩, by decide +kernel, by decide⟩
theorem miX10_clear : MI mX10_clear 1 := ⟨(gwi 1075 (by decide +kernel) rfl), (gwi 1076 (by decide +kernel) rfl), (gwi 11 (by decide +kernel) rfl), (gwi 1077 (by decide +kernel) rfl), ⟨by decide +kernel, by decide +kernel⟩, by decide +kernel, by decide⟩
theorem miX10_behind : MI mX10_behind 2 := ⟨(gwi 1088 (by decide +kernel) rfl), (gwp 60 (by decide +kernel) rfl), (gwi 11 (by decide +kernel) rfl), (gwi 1089 (by decide +kernel) rfl), ⟨by decide +kernel, by decide +kernel⟩, by decide +kernel, by decide⟩
theorem miX10_node : MI mX10_node 3 := ⟨(gwi 1079 (by decide +kernel) rfl), (gwi 1080 (by decide +kernel) rfl), (gwi 11 (by decide +kernel) rfl), (gwi 1081 (by decide +kernel) rfl), ⟨by decide +kernel, by decide +kernel⟩, by decide +kernel, by decide⟩
theorem miX10_size : MI mX10_size 1 := ⟨(gwi 1091 (by decide +kernel) rfl), (gwi 1092 (by decide +kernel) rfl), (gwi 11 (by decide +kernel) rfl), (gwi 1093 (by decide +kernel) rfl), ⟨by decide +kernel, by decide +kernel⟩, by decide +kernel, by decide⟩
theorem miX10_takes : MI mX10_takes 2 := ⟨(gwi 1104 (by decide +kernel) rfl), (gwp 62 (by decide +kernel) rfl), (gwi 11 (by decide +kernel) rfl), (gwi 1105 (by decide +kernel) rfl), ⟨by decide +kernel, by decide +kernel⟩, by decide +kernel, by decide⟩
theorem miX10_relabel : MI mX10_relabel 2 := ⟨(gwi 1095 (by decide +kernel) rfl), (gwi 1096 (by decide +kernel) rfl), (gwi 11 (by decide +kernel) rfl), (gwi 1097 (by decide +kernel) rfl), ⟨by decide +kernel, by decide +kernel⟩, by decide +kernel, by decide⟩
theorem miX10_retext : MI mX10_retext 2 := ⟨(gwi 1107 (by decide +kernel) rfl), (gwi 1108 (by decide +kernel) rfl), (gwi 11 (by decide +kernel) rfl), (gwi 1109 (by decide +kernel) rfl), ⟨by decide +kernel, by decide +kernel⟩, by decide +kernel, by decide⟩
theorem miX10_put : MI mX10_put 5 := ⟨(gwi 1111 (by decide +kernel) rfl), (gwi 1112 (by decide +kernel) rfl), (gwi 11 (by decide +kernel) rfl), (gwi 1113 (by decide +kernel) rfl), ⟨by decide +kernel, by decide +kernel⟩, by decide +kernel, by decide⟩
theorem miX10_take : MI mX10_take 2 := ⟨(gwi 1127 (by decide +kernel) rfl), (gwi 1128 (by decide +kernel) rfl), (gwi 11 (by decide +kernel) rfl), (gwi 1129 (by decide +kernel) rfl), ⟨by decide +kernel, by decide +kernel⟩, by decide +kernel, by decide⟩
theorem miX10_move : MI mX10_move 4 := ⟨(gwi 1131 (by decide +kernel) rfl), (gwi 1132 (by decide +kernel) rfl), (gwi 11 (by decide +kernel) rfl), (gwi 1133 (by decide +kernel) rfl), ⟨by decide +kernel, by decide +kernel⟩, by decide +kernel, by decide⟩
theorem miX10_price : MI mX10_price 2 := ⟨(gwi 1135 (by decide +kernel) rfl), (gwi 1136 (by decide +kernel) rfl), (gwi 11 (by decide +kernel) rfl), (gwi 1137 (by decide +kernel) rfl), ⟨by decide +kernel, by decide +kernel⟩, by decide +kernel, by decide⟩
theorem miX10_lay : MI mX10_lay 2 := ⟨(gwi 1148 (by decide +kernel) rfl), (gwp 67 (by decide +kernel) rfl), (gwi 11 (by decide +kernel) rfl), (gwi 1149 (by decide +kernel) rfl), ⟨by decide +kernel, by decide +kernel⟩, by decide +kernel, by decide⟩
theorem miX10_pairs : MI mX10_pairs 4 := ⟨(gwi 1163 (by decide +kernel) rfl), (gwp 69 (by decide +kernel) rfl), (gwi 11 (by decide +kernel) rfl), (gwi 1164 (by decide +kernel) rfl), ⟨by decide +kernel, by decide +kernel⟩, by decide +kernel, by decide⟩
theorem msX10_cell : MS mX10_cell 4 := ⟨(gwi 1152 (by decide +kernel) rfl), (gwi 11 (by decide +kernel) rfl), (gwi 1153 (by decide +kernel) rfl), ⟨by decide +kernel, by decide +kernel⟩, by decide +kernel, by decide⟩
theorem miX10_reckon : MI mX10_reckon 2 := ⟨(gwi 1144 (by decide +kernel) rfl), (gwp 66 (by decide +kernel) rfl), (gwi 11 (by decide +kernel) rfl), (gwi 1145 (by decide +kernel) rfl), ⟨by decide +kernel, by decide +kernel⟩, by decide +kernel, by decide⟩
theorem miX10_byPair : MI mX10_byPair 6 := ⟨(gwi 1159 (by decide +kernel) rfl), (gwp 68 (by decide +kernel) rfl), (gwi 11 (by decide +kernel) rfl), (gwi 1160 (by decide +kernel) rfl), ⟨by decide +kernel, by decide +kernel⟩, by decide +kernel, by decide⟩
theorem msX10_lesser : MS mX10_lesser 2 := ⟨(gwi 1155 (by decide +kernel) rfl), (gwi 11 (by decide +kernel) rfl), (gwi 1156 (by decide +kernel) rfl), ⟨by decide +kernel, by decide +kernel⟩, by decide +kernel, by decide⟩
theorem miX10_distance : MI mX10_distance 2 := ⟨(gwi 1139 (by decide +kernel) rfl), (gwi 1140 (by decide +kernel) rfl), (gwi 11 (by decide +kernel) rfl), (gwi 1141 (by decide +kernel) rfl), ⟨by decide +kernel, by decide +kernel⟩, by decide +kernel, by decide⟩
theorem miX10_adds : MI mX10_adds 2 := ⟨(gwi 1175 (by decide +kernel) rfl), (gwp 71 (by decide +kernel) rfl), (gwi 11 (by decide +kernel) rfl), (gwi 1176 (by decide +kernel) rfl), ⟨by decide +kernel, by decide +kernel⟩, by decide +kernel, by decide⟩
theorem miX10_map : MI mX10_map 2 := ⟨(gwi 1166 (by decide +kernel) rfl), (gwi 1167 (by decide +kernel) rfl), (gwi 11 (by decide +kernel) rfl), (gwi 1168 (by decide +kernel) rfl), ⟨by decide +kernel, by decide +kernel⟩, by decide +kernel, by decide⟩
theorem miX10_tells : MI mX10_tells 2 := ⟨(gwi 1171 (by decide +kernel) rfl), (gwp 70 (by decide +kernel) rfl), (gwi 11 (by decide +kernel) rfl), (gwi 1172 (by decide +kernel) rfl), ⟨by decide +kernel, by decide +kernel⟩, by decide +kernel, by decide⟩
theorem miX10_pair : MI mX10_pair 2 := ⟨(gwi 1178 (by decide +kernel) rfl), (gwi 1179 (by decide +kernel) rfl), (gwi 11 (by decide +kernel) rfl), (gwi 1180 (by decide +kernel) rfl), ⟨by decide +kernel, by decide +kernel⟩, by decide +kernel, by decide⟩
theorem miX10_acts : MI mX10_acts 0 := ⟨(gwi 1182 (by decide +kernel) rfl), (gwi 1183 (by decide +kernel) rfl), (gwi 11 (by decide +kernel) rfl), (gwi 1184 (by decide +kernel) rfl), ⟨by decide +kernel, by decide +kernel⟩, by decide +kernel, by decide⟩
theorem miX10_act : MI mX10_act 2 := ⟨(gwi 1186 (by decide +kernel) rfl), (gwi 1187 (by decide +kernel) rfl), (gwi 11 (by decide +kernel) rfl), (gwi 1188 (by decide +kernel) rfl), ⟨by decide +kernel, by decide +kernel⟩, by decide +kernel, by decide⟩
theorem miX10_like : MI mX10_like 0 := ⟨(gwi 1190 (by decide +kernel) rfl), (gwi 1191 (by decide +kernel) rfl), (gwi 11 (by decide +kernel) rfl), (gwi 1192 (by decide +kernel) rfl), ⟨by decide +kernel, by decide +kernel⟩, by decide +kernel, by decide⟩
theorem miX10_areSame : MI mX10_areSame 6 := ⟨(gwi 1203 (by decide +kernel) rfl), (gwp 73 (by decide +kernel) rfl), (gwi 11 (by decide +kernel) rfl), (gwi 1204 (by decide +kernel) rfl), ⟨by decide +kernel, by decide +kernel⟩, by decide +kernel, by decide⟩
theorem miX10_sort : MI mX10_sort 2 := ⟨(gwi 1199 (by decide +kernel) rfl), (gwp 72 (by decide +kernel) rfl), (gwi 11 (by decide +kernel) rfl), (gwi 1200 (by decide +kernel) rfl), ⟨by decide +kernel, by decide +kernel⟩, by decide +kernel, by decide⟩
theorem miX10_same : MI mX10_same 2 := ⟨(gwi 1194 (by decide +kernel) rfl), (gwi 1195 (by decide +kernel) rfl), (gwi 11 (by decide +kernel) rfl), (gwi 1196 (by decide +kernel) rfl), ⟨by decide +kernel, by decide +kernel⟩, by decide +kernel, by decide⟩
theorem miX10_unlike : MI mX10_unlike 1 := ⟨(gwi 1206 (by decide +kernel) rfl), (gwi 1207 (by decide +kernel) rfl), (gwi 11 (by decide +kernel) rfl), (gwi 1208 (by decide +kernel) rfl), ⟨by decide +kernel, by decide +kernel⟩, by decide +kernel, by decide⟩
theorem miX10_shared : MI mX10_shared 2 := ⟨(gwi 1210 (by decide +kernel) rfl), (gwi 1211 (by decide +kernel) rfl), (gwi 11 (by decide +kernel) rfl), (gwi 1212 (by decide +kernel) rfl), ⟨by decide +kernel, by decide +kernel⟩, by decide +kernel, by decide⟩
theorem miX10_clashed : MI mX10_clashed 2 := ⟨(gwi 1219 (by decide +kernel) rfl), (gwp 74 (by decide +kernel) rfl), (gwi 11 (by decide +kernel) rfl), (gwi 1220 (by decide +kernel) rfl), ⟨by decide +kernel, by decide +kernel⟩, by decide +kernel, by decide⟩
theorem miX10_isField : MI mX10_isField 5 := ⟨(gwi 1231 (by decide +kernel) rfl), (gwp 77 (by decide +kernel) rfl), (gwi 11 (by decide +kernel) rfl), (gwi 1232 (by decide +kernel) rfl), ⟨by decide +kernel, by decide +kernel⟩, by decide +kernel, by decide⟩
theorem miX10_whose : MI mX10_whose 5 := ⟨(gwi 1227 (by decide +kernel) rfl), (gwp 76 (by decide +kernel) rfl), (gwi 11 (by decide +kernel) rfl), (gwi 1228 (by decide +kernel) rfl), ⟨by decide +kernel, by decide +kernel⟩, by decide +kernel, by decide⟩
theorem miX10_merges : MI mX10_merges 3 := ⟨(gwi 1223 (by decide +kernel) rfl), (gwp 75 (by decide +kernel) rfl), (gwi 11 (by decide +kernel) rfl), (gwi 1224 (by decide +kernel) rfl), ⟨by decide +kernel, by decide +kernel⟩, by decide +kernel, by decide⟩
theorem miX10_merge : MI mX10_merge 4 := ⟨(gwi 1214 (by decide +kernel) rfl), (gwi 1215 (by decide +kernel) rfl), (gwi 11 (by decide +kernel) rfl), (gwi 1216 (by decide +kernel) rfl), ⟨by decide +kernel, by decide +kernel⟩, by decide +kernel, by decide⟩
theorem miX10_least : MI mX10_least 3 := ⟨(gwi 1235 (by decide +kernel) rfl), (gwp 78 (by decide +kernel) rfl), (gwi 11 (by decide +kernel) rfl), (gwi 1236 (by decide +kernel) rfl), ⟨by decide +kernel, by decide +kernel⟩, by decide +kernel, by decide⟩
theorem miX10_merged : MI mX10_merged 0 := ⟨(gwi 1238 (by decide +kernel) rfl), (gwi 1239 (by decide +kernel) rfl), (gwi 11 (by decide +kernel) rfl), (gwi 1240 (by decide +kernel) rfl), ⟨by decide +kernel, by decide +kernel⟩, by decide +kernel, by decide⟩
theorem miX10_clash : MI mX10_clash 2 := ⟨(gwi 1242 (by decide +kernel) rfl), (gwi 1243 (by decide +kernel) rfl), (gwi 11 (by decide +kernel) rfl), (gwi 1244 (by decide +kernel) rfl), ⟨by decide +kernel, by decide +kernel⟩, by decide +kernel, by decide⟩
theorem miX10_found : MI mX10_found 1 := ⟨(gwi 1246 (by decide +kernel) rfl), (gwi 1247 (by decide +kernel) rfl), (gwi 11 (by decide +kernel) rfl), (gwi 1248 (by decide +kernel) rfl), ⟨by decide +kernel, by decide +kernel⟩, by decide +kernel, by decide⟩
theorem lkX0_104 : Cond.methodLink RX0 104 yX0_walkBack ∈ gw := (gwi 708 (by decide +kernel) rfl)
theorem lkX0_108 : Cond.methodLink RX0 108 yX0_costOfPairing ∈ gw := (gwi 712 (by decide +kernel) rfl)
theorem lkX0_111 : Cond.methodLink RX0 111 yX0_addPair ∈ gw := (gwi 716 (by decide +kernel) rfl)
theorem lkX0_39 : Cond.methodLink RX0 39 yX1_arrange ∈ gw := (gwi 671 (by decide +kernel) rfl)
theorem lkX0_50 : Cond.methodLink RX0 50 yX0_pricePairs ∈ gw := (gwi 677 (by decide +kernel) rfl)
theorem lkX0_61 : Cond.methodLink RX0 61 yX0_fillForests ∈ gw := (gwi 685 (by decide +kernel) rfl)
theorem lkX0_68 : Cond.methodLink RX0 68 yX0_pairPrice ∈ gw := (gwi 681 (by decide +kernel) rfl)
theorem lkX0_88 : Cond.methodLink RX0 88 yX0_keepUnder ∈ gw := (gwi 689 (by decide +kernel) rfl)
theorem lkX0_92 : Cond.methodLink RX0 92 yX0_fillLine ∈ gw := (gwi 693 (by decide +kernel) rfl)
theorem lkX0_95 : Cond.methodLink RX0 95 Lib.Math.min.name ∈ gw := (gwi 697 (by decide +kernel) rfl)
theorem lkX1_29 : Cond.methodLink RX1 29 yX7_behind ∈ gw := (gwi 675 (by decide +kernel) rfl)
theorem lkX1_36 : Cond.methodLink RX1 36 yX7_isChild ∈ gw := (gwi 676 (by decide +kernel) rfl)
theorem lkX10_100 : Cond.methodLink RX10 100 yX10_isPlace ∈ gw := (gwi 997 (by decide +kernel) rfl)
theorem lkX10_104 : Cond.methodLink RX10 104 yX10_of ∈ gw := (gwi 1022 (by decide +kernel) rfl)
theorem lkX10_108 : Cond.methodLink RX10 108 yX10_set ∈ gw := (gwi 1011 (by decide +kernel) rfl)
theorem lkX10_112 : Cond.methodLink RX10 112 yX10_carry ∈ gw := (gwi 1042 (by decide +kernel) rfl)
theorem lkX10_115 : Cond.methodLink RX10 115 yX10_deep ∈ gw := (gwi 1034 (by decide +kernel) rfl)
theorem lkX10_119 : Cond.methodLink RX10 119 yX10_end ∈ gw := (gwi 1030 (by decide +kernel) rfl)
theorem lkX10_122 : Cond.methodLink RX10 122 yX10_isLike ∈ gw := (gwi 1026 (by decide +kernel) rfl)
theorem lkX10_126 : Cond.methodLink RX10 126 yX10_found0 ∈ gw := (gwi 988 (by decide +kernel) rfl)
theorem lkX10_135 : Cond.methodLink RX10 135 yX10_isLetter ∈ gw := (gwi 1008 (by decide +kernel) rfl)
theorem lkX10_138 : Cond.methodLink RX10 138 yX10_at ∈ gw := (gwi 1004 (by decide +kernel) rfl)
theorem lkX10_141 : Cond.methodLink RX10 141 yX10_isSign ∈ gw := (gwi 1019 (by decide +kernel) rfl)
theorem lkX10_144 : Cond.methodLink RX10 144 yX10_signs ∈ gw := (gwi 1015 (by decide +kernel) rfl)
theorem lkX10_148 : Cond.methodLink RX10 148 yX10_reads ∈ gw := (gwi 1000 (by decide +kernel) rfl)
theorem lkX10_151 : Cond.methodLink RX10 151 yX10_copyAll ∈ gw := (gwi 1038 (by decide +kernel) rfl)
theorem lkX10_161 : Cond.methodLink RX10 161 yX10_lacks ∈ gw := (gwi 1050 (by decide +kernel) rfl)
theorem lkX10_164 : Cond.methodLink RX10 164 yX10_closes ∈ gw := (gwi 1054 (by decide +kernel) rfl)
theorem lkX10_168 : Cond.methodLink RX10 168 yX10_writes ∈ gw := (gwi 1062 (by decide +kernel) rfl)
theorem lkX10_172 : Cond.methodLink RX10 172 yX10_parent ∈ gw := (gwi 1058 (by decide +kernel) rfl)
theorem lkX10_175 : Cond.methodLink RX10 175 yX10_children ∈ gw := (gwi 1082 (by decide +kernel) rfl)
theorem lkX10_178 : Cond.methodLink RX10 178 yX10_behind ∈ gw := (gwi 1086 (by decide +kernel) rfl)
theorem lkX10_181 : Cond.methodLink RX10 181 yX10_named ∈ gw := (gwi 1098 (by decide +kernel) rfl)
theorem lkX10_184 : Cond.methodLink RX10 184 yX10_takes ∈ gw := (gwi 1102 (by decide +kernel) rfl)
theorem lkX10_188 : Cond.methodLink RX10 188 yX10_child ∈ gw := (gwi 1114 (by decide +kernel) rfl)
theorem lkX10_191 : Cond.methodLink RX10 191 yX10_isTooDeep ∈ gw := (gwi 1118 (by decide +kernel) rfl)
theorem lkX10_194 : Cond.methodLink RX10 194 yX10_hasTwice ∈ gw := (gwi 1122 (by decide +kernel) rfl)
theorem lkX10_198 : Cond.methodLink RX10 198 yX10_lay ∈ gw := (gwi 1146 (by decide +kernel) rfl)
theorem lkX10_201 : Cond.methodLink RX10 201 yX10_cell ∈ gw := (gwi 1151 (by decide +kernel) rfl)
theorem lkX10_205 : Cond.methodLink RX10 205 yX10_lesser ∈ gw := (gwi 1154 (by decide +kernel) rfl)
theorem lkX10_208 : Cond.methodLink RX10 208 yX10_byPair ∈ gw := (gwi 1157 (by decide +kernel) rfl)
theorem lkX10_212 : Cond.methodLink RX10 212 yX10_pairs ∈ gw := (gwi 1161 (by decide +kernel) rfl)
theorem lkX10_215 : Cond.methodLink RX10 215 yX10_reckon ∈ gw := (gwi 1142 (by decide +kernel) rfl)
theorem lkX10_221 : Cond.methodLink RX10 221 yX10_tells ∈ gw := (gwi 1169 (by decide +kernel) rfl)
theorem lkX10_227 : Cond.methodLink RX10 227 yX10_adds ∈ gw := (gwi 1173 (by decide +kernel) rfl)
theorem lkX10_230 : Cond.methodLink RX10 230 yX10_areSame ∈ gw := (gwi 1201 (by decide +kernel) rfl)
theorem lkX10_234 : Cond.methodLink RX10 234 yX10_sort ∈ gw := (gwi 1197 (by decide +kernel) rfl)
theorem lkX10_244 : Cond.methodLink RX10 244 yX10_isField ∈ gw := (gwi 1229 (by decide +kernel) rfl)
theorem lkX10_247 : Cond.methodLink RX10 247 yX10_whose ∈ gw := (gwi 1225 (by decide +kernel) rfl)
theorem lkX10_253 : Cond.methodLink RX10 253 yX10_clashed ∈ gw := (gwi 1217 (by decide +kernel) rfl)
theorem lkX10_256 : Cond.methodLink RX10 256 yX10_merges ∈ gw := (gwi 1221 (by decide +kernel) rfl)
theorem lkX10_259 : Cond.methodLink RX10 259 yX10_least ∈ gw := (gwi 1233 (by decide +kernel) rfl)
theorem lkX10_96 : Cond.methodLink RX10 96 yX10_in ∈ gw := (gwi 985 (by decide +kernel) rfl)
theorem lkX2_46 : Cond.methodLink RX2 46 yX2_groupFor ∈ gw := (gwi 772 (by decide +kernel) rfl)
theorem lkX2_50 : Cond.methodLink RX2 50 yX2_gatherKids ∈ gw := (gwi 776 (by decide +kernel) rfl)
theorem lkX2_53 : Cond.methodLink RX2 53 yX2_isOf ∈ gw := (gwi 786 (by decide +kernel) rfl)
theorem lkX2_60 : Cond.methodLink RX2 60 yX7_endOf ∈ gw := (gwi 780 (by decide +kernel) rfl)
theorem lkX2_64 : Cond.methodLink RX2 64 yX7_isChild ∈ gw := (gwi 781 (by decide +kernel) rfl)
theorem lkX2_68 : Cond.methodLink RX2 68 yX2_sinkLastKid ∈ gw := (gwi 782 (by decide +kernel) rfl)
theorem lkX3_49 : Cond.methodLink RX3 49 yX3_matchRows ∈ gw := (gwi 724 (by decide +kernel) rfl)
theorem lkX3_53 : Cond.methodLink RX3 53 yX3_takeLonely ∈ gw := (gwi 728 (by decide +kernel) rfl)
theorem lkX3_57 : Cond.methodLink RX3 57 yX3_mendPairs ∈ gw := (gwi 736 (by decide +kernel) rfl)
theorem lkX3_67 : Cond.methodLink RX3 67 yX3_putLonely ∈ gw := (gwi 740 (by decide +kernel) rfl)
theorem lkX3_89 : Cond.methodLink RX3 89 yX3_addAct ∈ gw := (gwi 732 (by decide +kernel) rfl)
theorem lkX4_101 : Cond.methodLink RX4 101 yX4_fieldOf ∈ gw := (gwi 820 (by decide +kernel) rfl)
theorem lkX4_105 : Cond.methodLink RX4 105 yX4_isSameList ∈ gw := (gwi 829 (by decide +kernel) rfl)
theorem lkX4_117 : Cond.methodLink RX4 117 yX7_childAfter ∈ gw := (gwi 832 (by decide +kernel) rfl)
theorem lkX4_121 : Cond.methodLink RX4 121 yX4_gatherCommon ∈ gw := (gwi 845 (by decide +kernel) rfl)
theorem lkX4_125 : Cond.methodLink RX4 125 yX4_tellClashesOf ∈ gw := (gwi 849 (by decide +kernel) rfl)
theorem lkX4_47 : Cond.methodLink RX4 47 yX4_addClash ∈ gw := (gwi 806 (by decide +kernel) rfl)
theorem lkX4_51 : Cond.methodLink RX4 51 yX4_comeTo ∈ gw := (gwi 810 (by decide +kernel) rfl)
theorem lkX4_55 : Cond.methodLink RX4 55 yX7_measure ∈ gw := (gwi 839 (by decide +kernel) rfl)
theorem lkX4_58 : Cond.methodLink RX4 58 yX7_hasTwins ∈ gw := (gwi 840 (by decide +kernel) rfl)
theorem lkX4_62 : Cond.methodLink RX4 62 yX4_tellClashes ∈ gw := (gwi 841 (by decide +kernel) rfl)
theorem lkX4_65 : Cond.methodLink RX4 65 yX7_rowOf ∈ gw := (gwi 814 (by decide +kernel) rfl)
theorem lkX4_69 : Cond.methodLink RX4 69 yX7_addRow ∈ gw := (gwi 815 (by decide +kernel) rfl)
theorem lkX4_72 : Cond.methodLink RX4 72 yX4_settledField ∈ gw := (gwi 816 (by decide +kernel) rfl)
theorem lkX4_76 : Cond.methodLink RX4 76 yX7_setRow ∈ gw := (gwi 824 (by decide +kernel) rfl)
theorem lkX4_84 : Cond.methodLink RX4 84 yX4_settledList ∈ gw := (gwi 825 (by decide +kernel) rfl)
theorem lkX4_91 : Cond.methodLink RX4 91 yX4_comeToChildren ∈ gw := (gwi 834 (by decide +kernel) rfl)
theorem lkX4_95 : Cond.methodLink RX4 95 yX7_endOf ∈ gw := (gwi 833 (by decide +kernel) rfl)
theorem lkX4_98 : Cond.methodLink RX4 98 yX7_isChild ∈ gw := (gwi 838 (by decide +kernel) rfl)
theorem lkX5_102 : Cond.methodLinkNest RX5 102 yX9_isTextSign "BranchMender" ∈ nst := (nsi 460 (by decide +kernel) rfl)
theorem lkX5_109 : Cond.methodLinkNest RX5 109 yX9_closerOf "BranchMender" ∈ nst := (nsi 469 (by decide +kernel) rfl)
theorem lkX5_36 : Cond.methodLink RX5 36 yX5_readNode ∈ gw := (gwi 398 (by decide +kernel) rfl)
theorem lkX5_40 : Cond.methodLink RX5 40 yX5_nextDepth ∈ gw := (gwi 465 (by decide +kernel) rfl)
theorem lkX5_47 : Cond.methodLink RX5 47 yX7_measure ∈ gw := (gwi 472 (by decide +kernel) rfl)
theorem lkX5_50 : Cond.methodLink RX5 50 yX5_passLabel ∈ gw := (gwi 402 (by decide +kernel) rfl)
theorem lkX5_54 : Cond.methodLink RX5 54 yX6_word ∈ gw := (gwi 419 (by decide +kernel) rfl)
theorem lkX5_58 : Cond.methodLink RX5 58 yX5_isTwin ∈ gw := (gwi 424 (by decide +kernel) rfl)
theorem lkX5_62 : Cond.methodLink RX5 62 yX7_addRow ∈ gw := (gwi 436 (by decide +kernel) rfl)
theorem lkX5_65 : Cond.methodLink RX5 65 yX7_setRow ∈ gw := (gwi 440 (by decide +kernel) rfl)
theorem lkX5_69 : Cond.methodLink RX5 69 yX5_readText ∈ gw := (gwi 444 (by decide +kernel) rfl)
theorem lkX5_72 : Cond.methodLink RX5 72 yX5_readMark ∈ gw := (gwi 461 (by decide +kernel) rfl)
theorem lkX5_79 : Cond.methodLink RX5 79 yX7_isLabelUnder ∈ gw := (gwi 428 (by decide +kernel) rfl)
theorem lkX5_83 : Cond.methodLink RX5 83 yX6_lettersFrom ∈ gw := (gwi 406 (by decide +kernel) rfl)
theorem lkX5_86 : Cond.methodLink RX5 86 yX6_signOn ∈ gw := (gwi 417 (by decide +kernel) rfl)
theorem lkX5_89 : Cond.methodLinkNest RX5 89 yX9_isLetter "BranchMender" ∈ nst := (nsi 418 (by decide +kernel) rfl)
theorem lkX5_92 : Cond.methodLink RX5 92 yX5_pass ∈ gw := (gwi 448 (by decide +kernel) rfl)
theorem lkX5_95 : Cond.methodLink RX5 95 yX6_textSignsFrom ∈ gw := (gwi 452 (by decide +kernel) rfl)
theorem lkX6_19 : Cond.methodLink RX6 19 yX6_signOn ∈ gw := (gwi 410 (by decide +kernel) rfl)
theorem lkX6_23 : Cond.methodLinkNest RX6 23 yX9_isLetter "BranchMender" ∈ nst := (nsi 414 (by decide +kernel) rfl)
theorem lkX6_27 : Cond.methodLinkNest RX6 27 yX9_isTextSign "BranchMender" ∈ nst := (nsi 456 (by decide +kernel) rfl)
theorem lkX6_32 : Cond.methodLink RX6 32 yX6_lettersFrom ∈ gw := (gwi 580 (by decide +kernel) rfl)
theorem lkX6_35 : Cond.methodLink RX6 35 yX6_word ∈ gw := (gwi 581 (by decide +kernel) rfl)
theorem lkX6_41 : Cond.methodLink RX6 41 yX6_textSignsFrom ∈ gw := (gwi 609 (by decide +kernel) rfl)
theorem lkX7_35 : Cond.methodLink RX7 35 yX7_copyRows ∈ gw := (gwi 480 (by decide +kernel) rfl)
theorem lkX7_39 : Cond.methodLink RX7 39 yX7_measure ∈ gw := (gwi 487 (by decide +kernel) rfl)
theorem lkX7_42 : Cond.methodLink RX7 42 arraycopyName ∈ gw := (gwi 484 (by decide +kernel) rfl)
theorem lkX7_48 : Cond.methodLink RX7 48 yX7_endOf ∈ gw := (gwi 547 (by decide +kernel) rfl)
theorem lkX7_52 : Cond.methodLink RX7 52 yX7_isChild ∈ gw := (gwi 432 (by decide +kernel) rfl)
theorem lkX7_56 : Cond.methodLink RX7 56 yX7_childAfter ∈ gw := (gwi 622 (by decide +kernel) rfl)
theorem lkX7_60 : Cond.methodLink RX7 60 yX7_hasTwinsUnder ∈ gw := (gwi 596 (by decide +kernel) rfl)
theorem lkX7_64 : Cond.methodLink RX7 64 yX7_isLabelUnder ∈ gw := (gwi 600 (by decide +kernel) rfl)
theorem lkX7_68 : Cond.methodLink RX7 68 yX7_childAt ∈ gw := (gwi 618 (by decide +kernel) rfl)
theorem lkX7_71 : Cond.methodLink RX7 71 yX7_shiftDepths ∈ gw := (gwi 626 (by decide +kernel) rfl)
theorem lkX8_27 : Cond.methodLink RX8 27 yX8_spellNode ∈ gw := (gwi 500 (by decide +kernel) rfl)
theorem lkX8_34 : Cond.methodLink RX8 34 yX8_leaveBranches ∈ gw := (gwi 520 (by decide +kernel) rfl)
theorem lkX8_44 : Cond.methodLink RX8 44 yX8_addWord ∈ gw := (gwi 504 (by decide +kernel) rfl)
theorem lkX8_51 : Cond.methodLink RX8 51 yX8_add ∈ gw := (gwi 512 (by decide +kernel) rfl)
theorem lkX8_55 : Cond.methodLinkNest RX8 55 yX9_openerOf "BranchMender" ∈ nst := (nsi 516 (by decide +kernel) rfl)
theorem lkX8_62 : Cond.methodLinkNest RX8 62 yX9_closerOf "BranchMender" ∈ nst := (nsi 519 (by decide +kernel) rfl)
theorem lkX8_65 : Cond.methodLinkNest RX8 65 yX9_lengthOf "BranchMender" ∈ nst := (nsi 508 (by decide +kernel) rfl)
theorem lkX8_69 : Cond.methodLinkNest RX8 69 yX9_signAt "BranchMender" ∈ nst := (nsi 511 (by decide +kernel) rfl)
theorem lkX9_112 : Cond.methodLink RX9 112 yX7_become ∈ gw := (gwi 476 (by decide +kernel) rfl)
theorem lkX9_116 : Cond.methodLink RX9 116 yX9_lackOfTree ∈ gw := (gwi 492 (by decide +kernel) rfl)
theorem lkX9_119 : Cond.methodLink RX9 119 yX8_spell ∈ gw := (gwi 496 (by decide +kernel) rfl)
theorem lkX9_126 : Cond.methodLink RX9 126 yX9_detail ∈ gw := (gwi 540 (by decide +kernel) rfl)
theorem lkX9_130 : Cond.methodLink RX9 130 yX9_seekNode ∈ gw := (gwi 568 (by decide +kernel) rfl)
theorem lkX9_134 : Cond.methodLink RX9 134 yX6_asLabel ∈ gw := (gwi 576 (by decide +kernel) rfl)
theorem lkX9_144 : Cond.methodLink RX9 144 yX9_lengthOf ∈ gw := (gwi 559 (by decide +kernel) rfl)
theorem lkX9_148 : Cond.methodLink RX9 148 yX9_tryOut ∈ gw := (gwi 584 (by decide +kernel) rfl)
theorem lkX9_151 : Cond.methodLink RX9 151 yX6_asText ∈ gw := (gwi 605 (by decide +kernel) rfl)
theorem lkX9_160 : Cond.methodLink RX9 160 yX7_childrenOf ∈ gw := (gwi 543 (by decide +kernel) rfl)
theorem lkX9_163 : Cond.methodLink RX9 163 yX7_wrap ∈ gw := (gwi 614 (by decide +kernel) rfl)
theorem lkX9_167 : Cond.methodLink RX9 167 yX7_setRow ∈ gw := (gwi 630 (by decide +kernel) rfl)
theorem lkX9_171 : Cond.methodLink RX9 171 yX7_dissolve ∈ gw := (gwi 635 (by decide +kernel) rfl)
theorem lkX9_174 : Cond.methodLink RX9 174 yX9_seekParent ∈ gw := (gwi 643 (by decide +kernel) rfl)
theorem lkX9_177 : Cond.methodLink RX9 177 yX7_cutOut ∈ gw := (gwi 647 (by decide +kernel) rfl)
theorem lkX9_183 : Cond.methodLink RX9 183 yX7_graft ∈ gw := (gwi 651 (by decide +kernel) rfl)
theorem lkX9_187 : Cond.methodLink RX9 187 yX9_lackOfTrees ∈ gw := (gwi 663 (by decide +kernel) rfl)
theorem lkX9_190 : Cond.methodLink RX9 190 yX0_align ∈ gw := (gwi 667 (by decide +kernel) rfl)
theorem lkX9_194 : Cond.methodLink RX9 194 yX0_choosePairs ∈ gw := (gwi 704 (by decide +kernel) rfl)
theorem lkX9_197 : Cond.methodLink RX9 197 yX3_plan ∈ gw := (gwi 720 (by decide +kernel) rfl)
theorem lkX9_225 : Cond.methodLink RX9 225 yX2_forget ∈ gw := (gwi 764 (by decide +kernel) rfl)
theorem lkX9_228 : Cond.methodLink RX9 228 yX2_groupAll ∈ gw := (gwi 768 (by decide +kernel) rfl)
theorem lkX9_237 : Cond.methodLink RX9 237 yX4_layTogether ∈ gw := (gwi 802 (by decide +kernel) rfl)
theorem lkX9_253 : Cond.methodLink RX9 253 yX7_rowOf ∈ gw := (gwi 572 (by decide +kernel) rfl)
theorem lkX9_256 : Cond.methodLink RX9 256 yX7_endOf ∈ gw := (gwi 646 (by decide +kernel) rfl)
theorem lkX9_259 : Cond.methodLink RX9 259 yX7_isTooDeep ∈ gw := (gwi 588 (by decide +kernel) rfl)
theorem lkX9_263 : Cond.methodLink RX9 263 yX7_hasTwins ∈ gw := (gwi 592 (by decide +kernel) rfl)
theorem lkX9_269 : Cond.methodLink RX9 269 yX7_parentOf ∈ gw := (gwi 551 (by decide +kernel) rfl)
theorem lkX9_272 : Cond.methodLink RX9 272 yX7_behind ∈ gw := (gwi 555 (by decide +kernel) rfl)
theorem lkX9_275 : Cond.methodLink RX9 275 yX9_isLetter ∈ gw := (gwi 459 (by decide +kernel) rfl)
theorem lkX9_77 : Cond.methodLink RX9 77 yX9_tell ∈ gw := (gwi 376 (by decide +kernel) rfl)
theorem lkX9_87 : Cond.methodLink RX9 87 yX9_signAt ∈ gw := (gwi 380 (by decide +kernel) rfl)
theorem lkX9_91 : Cond.methodLink RX9 91 yX6_append ∈ gw := (gwi 383 (by decide +kernel) rfl)
theorem lkX9_95 : Cond.methodLink RX9 95 yX9_isPlace ∈ gw := (gwi 391 (by decide +kernel) rfl)
theorem lkX9_99 : Cond.methodLink RX9 99 yX5_parse ∈ gw := (gwi 394 (by decide +kernel) rfl)
