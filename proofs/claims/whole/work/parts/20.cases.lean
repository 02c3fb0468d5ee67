theorem kl_norm {Y : KY} {cells slots : Nat} {L : List (Nat × KV)} {st st' : List KV} {pc : Nat} {hx hm : KH} (hs : st = st') (k : kJL Y cells slots L st' pc hx hm) : kJL Y cells slots L st pc hx hm := by
  subst hs
  exact k
theorem kcmp_eq {x y : Int64} (h : x = y) : lg_cmp x y = 0 := by
  subst h
  unfold lg_cmp
  rw [if_neg (by simp), if_pos rfl]
theorem kl_ghost {Y : KY} {cells slots : Nat} {L : List (Nat × KV)} {st : List KV} {pc : Nat} {hx hm : KH} (n : Nat) (k : kJL Y cells slots L st pc (sX hx n) hm) : kJL Y cells slots L st pc hx hm := k
theorem kw49L : Cond.initialized yL_pass.cls ∈ kT := kT_of 49 (by decide +kernel) (by decide +kernel)
theorem kw50L : Cond.initialized "Tollkeeper" ∈ kT := kT_of 50 (by decide +kernel) (by decide +kernel)
theorem kw55L : Cond.initialized "TollkeeperModel" ∈ kT := kT_of 55 (by decide +kernel) (by decide +kernel)
theorem kw227L : Cond.methodLink RL 127 yX9_now ∈ kT := kT_of 227 (by decide +kernel) (by decide +kernel)
theorem kw228L : Cond.instanceMethod yX9_now ∈ kT := kT_of 228 (by decide +kernel) (by decide +kernel)
theorem kw229L : Cond.selects "Tollkeeper" yX9_now yX9_now ∈ kT := kT_of 229 (by decide +kernel) (by decide +kernel)
theorem kw230L : Cond.code yX9_now cX9_now 1 (some .int) ∈ kT := kT_of 230 (by decide +kernel) (by decide +kernel)
theorem kw231L : Cond.methodLink RL 151 yX9_mirror ∈ kT := kT_of 231 (by decide +kernel) (by decide +kernel)
theorem kw232L : Cond.instanceMethod yX9_mirror ∈ kT := kT_of 232 (by decide +kernel) (by decide +kernel)
theorem kw233L : Cond.selects "Tollkeeper" yX9_mirror yX9_mirror ∈ kT := kT_of 233 (by decide +kernel) (by decide +kernel)
theorem kw234L : Cond.code yX9_mirror cX9_mirror 1 (some .int) ∈ kT := kT_of 234 (by decide +kernel) (by decide +kernel)
theorem kw239L : Cond.methodLink RL 155 yX9_clearSpelled ∈ kT := kT_of 239 (by decide +kernel) (by decide +kernel)
theorem kw240L : Cond.instanceMethod yX9_clearSpelled ∈ kT := kT_of 240 (by decide +kernel) (by decide +kernel)
theorem kw241L : Cond.selects "Tollkeeper" yX9_clearSpelled yX9_clearSpelled ∈ kT := kT_of 241 (by decide +kernel) (by decide +kernel)
theorem kw242L : Cond.code yX9_clearSpelled cX9_clearSpelled 2 (some .int) ∈ kT := kT_of 242 (by decide +kernel) (by decide +kernel)
theorem kw243L : Cond.methodLink RL 171 yX9_plates ∈ kT := kT_of 243 (by decide +kernel) (by decide +kernel)
theorem kw244L : Cond.instanceMethod yX9_plates ∈ kT := kT_of 244 (by decide +kernel) (by decide +kernel)
theorem kw245L : Cond.selects "Tollkeeper" yX9_plates yX9_plates ∈ kT := kT_of 245 (by decide +kernel) (by decide +kernel)
theorem kw246L : Cond.code yX9_plates cX9_plates 1 (some .int) ∈ kT := kT_of 246 (by decide +kernel) (by decide +kernel)
theorem kw247L : Cond.methodLink RL 217 yX9_settle ∈ kT := kT_of 247 (by decide +kernel) (by decide +kernel)
theorem kw248L : Cond.instanceMethod yX9_settle ∈ kT := kT_of 248 (by decide +kernel) (by decide +kernel)
theorem kw249L : Cond.selects "Tollkeeper" yX9_settle yX9_settle ∈ kT := kT_of 249 (by decide +kernel) (by decide +kernel)
theorem kw250L : Cond.code yX9_settle cX9_settle 6 (some .int) ∈ kT := kT_of 250 (by decide +kernel) (by decide +kernel)
theorem kw275L : Cond.methodLink RL 117 yL_pass ∈ kT := kT_of 275 (by decide +kernel) (by decide +kernel)
theorem kw276L : Cond.static yL_pass ∈ kT := kT_of 276 (by decide +kernel) (by decide +kernel)
theorem kw277L : Cond.codeWith yL_pass cL_pass 4 (some .int) [(0, 9, 12, 13), (0, 9, 15, 15)] ∈ kT := kT_of 277 (by decide +kernel) (by decide +kernel)
theorem kw373L : Cond.methodLink RL 131 yL_road ∈ kT := kT_of 373 (by decide +kernel) (by decide +kernel)
theorem kw374L : Cond.static yL_road ∈ kT := kT_of 374 (by decide +kernel) (by decide +kernel)
theorem kw375L : Cond.codeWith yL_road cL_road 6 (some .int) [(0, 12, 15, 21), (0, 12, 19, 13)] ∈ kT := kT_of 375 (by decide +kernel) (by decide +kernel)
theorem kw426L : Cond.methodLink RL 135 yL_distance ∈ kT := kT_of 426 (by decide +kernel) (by decide +kernel)
theorem kw427L : Cond.static yL_distance ∈ kT := kT_of 427 (by decide +kernel) (by decide +kernel)
theorem kw428L : Cond.codeWith yL_distance cL_distance 5 (some .int) [(0, 10, 13, 21)] ∈ kT := kT_of 428 (by decide +kernel) (by decide +kernel)
theorem kw434L : Cond.methodLink RL 139 yL_setPause ∈ kT := kT_of 434 (by decide +kernel) (by decide +kernel)
theorem kw435L : Cond.static yL_setPause ∈ kT := kT_of 435 (by decide +kernel) (by decide +kernel)
theorem kw436L : Cond.codeWith yL_setPause cL_setPause 4 (some .int) [(0, 9, 12, 13)] ∈ kT := kT_of 436 (by decide +kernel) (by decide +kernel)
theorem kw442L : Cond.methodLink RL 142 yL_setRate ∈ kT := kT_of 442 (by decide +kernel) (by decide +kernel)
theorem kw443L : Cond.static yL_setRate ∈ kT := kT_of 443 (by decide +kernel) (by decide +kernel)
theorem kw444L : Cond.codeWith yL_setRate cL_setRate 5 (some .int) [(0, 10, 13, 13)] ∈ kT := kT_of 444 (by decide +kernel) (by decide +kernel)
theorem kw454L : Cond.methodLink RL 145 yL_spell ∈ kT := kT_of 454 (by decide +kernel) (by decide +kernel)
theorem kw455L : Cond.static yL_spell ∈ kT := kT_of 455 (by decide +kernel) (by decide +kernel)
theorem kw456L : Cond.codeWith yL_spell cL_spell 4 (some .int) [(0, 9, 12, 21), (0, 9, 15, 15)] ∈ kT := kT_of 456 (by decide +kernel) (by decide +kernel)
theorem kw484L : Cond.methodLink RL 148 yL_insert ∈ kT := kT_of 484 (by decide +kernel) (by decide +kernel)
theorem kw485L : Cond.static yL_insert ∈ kT := kT_of 485 (by decide +kernel) (by decide +kernel)
theorem kw486L : Cond.codeWith yL_insert cL_insert 5 (some .int) [(0, 10, 13, 21), (0, 10, 17, 13), (0, 10, 21, 15)] ∈ kT := kT_of 486 (by decide +kernel) (by decide +kernel)
theorem kw492L : Cond.methodLink RL 159 yL_charAt ∈ kT := kT_of 492 (by decide +kernel) (by decide +kernel)
theorem kw493L : Cond.static yL_charAt ∈ kT := kT_of 493 (by decide +kernel) (by decide +kernel)
theorem kw494L : Cond.codeWith yL_charAt cL_charAt 4 (some .int) [(0, 9, 12, 43)] ∈ kT := kT_of 494 (by decide +kernel) (by decide +kernel)
theorem kw525L : Cond.methodLink RL 162 yL_alike ∈ kT := kT_of 525 (by decide +kernel) (by decide +kernel)
theorem kw526L : Cond.static yL_alike ∈ kT := kT_of 526 (by decide +kernel) (by decide +kernel)
theorem kw527L : Cond.codeWith yL_alike cL_alike 5 (some .int) [(0, 17, 20, 21), (0, 17, 24, 13)] ∈ kT := kT_of 527 (by decide +kernel) (by decide +kernel)
theorem kw585L : Cond.methodLink RL 165 yL_register ∈ kT := kT_of 585 (by decide +kernel) (by decide +kernel)
theorem kw586L : Cond.static yL_register ∈ kT := kT_of 586 (by decide +kernel) (by decide +kernel)
theorem kw587L : Cond.codeWith yL_register cL_register 5 (some .int) [(0, 10, 13, 21), (0, 10, 17, 13), (0, 10, 21, 15)] ∈ kT := kT_of 587 (by decide +kernel) (by decide +kernel)
theorem kw674L : Cond.methodLink RL 168 yL_sell ∈ kT := kT_of 674 (by decide +kernel) (by decide +kernel)
theorem kw675L : Cond.static yL_sell ∈ kT := kT_of 675 (by decide +kernel) (by decide +kernel)
theorem kw676L : Cond.codeWith yL_sell cL_sell 5 (some .int) [(0, 10, 13, 21)] ∈ kT := kT_of 676 (by decide +kernel) (by decide +kernel)
theorem kw692L : Cond.methodLink RL 175 yL_plateAt ∈ kT := kT_of 692 (by decide +kernel) (by decide +kernel)
theorem kw693L : Cond.static yL_plateAt ∈ kT := kT_of 693 (by decide +kernel) (by decide +kernel)
theorem kw694L : Cond.codeWith yL_plateAt cL_plateAt 4 (some .int) [(0, 9, 12, 43)] ∈ kT := kT_of 694 (by decide +kernel) (by decide +kernel)
theorem kw700L : Cond.methodLink RL 178 yL_holder ∈ kT := kT_of 700 (by decide +kernel) (by decide +kernel)
theorem kw701L : Cond.static yL_holder ∈ kT := kT_of 701 (by decide +kernel) (by decide +kernel)
theorem kw702L : Cond.codeWith yL_holder cL_holder 5 (some .int) [(0, 10, 13, 21), (0, 10, 17, 13)] ∈ kT := kT_of 702 (by decide +kernel) (by decide +kernel)
theorem kw712L : Cond.methodLink RL 181 yL_read ∈ kT := kT_of 712 (by decide +kernel) (by decide +kernel)
theorem kw713L : Cond.static yL_read ∈ kT := kT_of 713 (by decide +kernel) (by decide +kernel)
theorem kw714L : Cond.codeWith yL_read cL_read 5 (some .int) [(0, 10, 13, 21), (0, 10, 17, 13), (0, 10, 21, 15)] ∈ kT := kT_of 714 (by decide +kernel) (by decide +kernel)
theorem kw757L : Cond.methodLink RL 184 yL_correct ∈ kT := kT_of 757 (by decide +kernel) (by decide +kernel)
theorem kw758L : Cond.static yL_correct ∈ kT := kT_of 758 (by decide +kernel) (by decide +kernel)
theorem kw759L : Cond.codeWith yL_correct cL_correct 5 (some .int) [(0, 10, 13, 21)] ∈ kT := kT_of 759 (by decide +kernel) (by decide +kernel)
theorem kw769L : Cond.methodLink RL 187 yL_uncorrect ∈ kT := kT_of 769 (by decide +kernel) (by decide +kernel)
theorem kw770L : Cond.static yL_uncorrect ∈ kT := kT_of 770 (by decide +kernel) (by decide +kernel)
theorem kw771L : Cond.codeWith yL_uncorrect cL_uncorrect 4 (some .int) [(0, 9, 12, 21), (0, 9, 15, 15)] ∈ kT := kT_of 771 (by decide +kernel) (by decide +kernel)
theorem kw777L : Cond.methodLink RL 190 yL_plateOf ∈ kT := kT_of 777 (by decide +kernel) (by decide +kernel)
theorem kw778L : Cond.static yL_plateOf ∈ kT := kT_of 778 (by decide +kernel) (by decide +kernel)
theorem kw779L : Cond.codeWith yL_plateOf cL_plateOf 4 (some .int) [(0, 9, 12, 21)] ∈ kT := kT_of 779 (by decide +kernel) (by decide +kernel)
theorem kw784L : Cond.methodLink RL 193 yL_cost ∈ kT := kT_of 784 (by decide +kernel) (by decide +kernel)
theorem kw785L : Cond.static yL_cost ∈ kT := kT_of 785 (by decide +kernel) (by decide +kernel)
theorem kw786L : Cond.codeWith yL_cost cL_cost 5 (some .int) [(0, 10, 13, 21)] ∈ kT := kT_of 786 (by decide +kernel) (by decide +kernel)
theorem kw791L : Cond.methodLink RL 196 yL_trips ∈ kT := kT_of 791 (by decide +kernel) (by decide +kernel)
theorem kw792L : Cond.static yL_trips ∈ kT := kT_of 792 (by decide +kernel) (by decide +kernel)
theorem kw793L : Cond.codeWith yL_trips cL_trips 4 (some .int) [(0, 9, 12, 21)] ∈ kT := kT_of 793 (by decide +kernel) (by decide +kernel)
theorem kw806L : Cond.methodLink RL 199 yL_tripsAnew ∈ kT := kT_of 806 (by decide +kernel) (by decide +kernel)
theorem kw807L : Cond.static yL_tripsAnew ∈ kT := kT_of 807 (by decide +kernel) (by decide +kernel)
theorem kw808L : Cond.codeWith yL_tripsAnew cL_tripsAnew 4 (some .int) [(0, 9, 12, 21)] ∈ kT := kT_of 808 (by decide +kernel) (by decide +kernel)
theorem kw818L : Cond.methodLink RL 202 yL_tripOf ∈ kT := kT_of 818 (by decide +kernel) (by decide +kernel)
theorem kw819L : Cond.static yL_tripOf ∈ kT := kT_of 819 (by decide +kernel) (by decide +kernel)
theorem kw820L : Cond.codeWith yL_tripOf cL_tripOf 4 (some .int) [(0, 9, 12, 21)] ∈ kT := kT_of 820 (by decide +kernel) (by decide +kernel)
theorem kw829L : Cond.methodLink RL 205 yL_toll ∈ kT := kT_of 829 (by decide +kernel) (by decide +kernel)
theorem kw830L : Cond.static yL_toll ∈ kT := kT_of 830 (by decide +kernel) (by decide +kernel)
theorem kw831L : Cond.codeWith yL_toll cL_toll 5 (some .int) [(0, 10, 13, 21)] ∈ kT := kT_of 831 (by decide +kernel) (by decide +kernel)
theorem kw844L : Cond.methodLink RL 208 yL_driverOf ∈ kT := kT_of 844 (by decide +kernel) (by decide +kernel)
theorem kw845L : Cond.static yL_driverOf ∈ kT := kT_of 845 (by decide +kernel) (by decide +kernel)
theorem kw846L : Cond.codeWith yL_driverOf cL_driverOf 5 (some .int) [(0, 10, 13, 21)] ∈ kT := kT_of 846 (by decide +kernel) (by decide +kernel)
theorem kw851L : Cond.methodLink RL 211 yL_due ∈ kT := kT_of 851 (by decide +kernel) (by decide +kernel)
theorem kw852L : Cond.static yL_due ∈ kT := kT_of 852 (by decide +kernel) (by decide +kernel)
theorem kw853L : Cond.codeWith yL_due cL_due 4 (some .int) [(0, 9, 12, 21)] ∈ kT := kT_of 853 (by decide +kernel) (by decide +kernel)
theorem kw858L : Cond.methodLink RL 214 yL_dueAnew ∈ kT := kT_of 858 (by decide +kernel) (by decide +kernel)
theorem kw859L : Cond.static yL_dueAnew ∈ kT := kT_of 859 (by decide +kernel) (by decide +kernel)
theorem kw860L : Cond.codeWith yL_dueAnew cL_dueAnew 4 (some .int) [(0, 9, 12, 21)] ∈ kT := kT_of 860 (by decide +kernel) (by decide +kernel)
theorem kw865L : Cond.methodLink RL 221 yL_billed ∈ kT := kT_of 865 (by decide +kernel) (by decide +kernel)
theorem kw866L : Cond.static yL_billed ∈ kT := kT_of 866 (by decide +kernel) (by decide +kernel)
theorem kw867L : Cond.codeWith yL_billed cL_billed 4 (some .int) [(0, 8, 11, 21)] ∈ kT := kT_of 867 (by decide +kernel) (by decide +kernel)
theorem kw872L : Cond.methodLink RL 224 yL_paidBack ∈ kT := kT_of 872 (by decide +kernel) (by decide +kernel)
theorem kw873L : Cond.static yL_paidBack ∈ kT := kT_of 873 (by decide +kernel) (by decide +kernel)
theorem kw874L : Cond.codeWith yL_paidBack cL_paidBack 4 (some .int) [(0, 8, 11, 21)] ∈ kT := kT_of 874 (by decide +kernel) (by decide +kernel)
theorem kw879L : Cond.methodLink RL 227 yL_warrant ∈ kT := kT_of 879 (by decide +kernel) (by decide +kernel)
theorem kw880L : Cond.static yL_warrant ∈ kT := kT_of 880 (by decide +kernel) (by decide +kernel)
theorem kw881L : Cond.codeWith yL_warrant cL_warrant 6 (some .int) [(0, 12, 15, 21), (0, 12, 19, 13), (0, 12, 23, 15)] ∈ kT := kT_of 881 (by decide +kernel) (by decide +kernel)
theorem kw907L : Cond.methodLink RL 230 yL_ask ∈ kT := kT_of 907 (by decide +kernel) (by decide +kernel)
theorem kw908L : Cond.static yL_ask ∈ kT := kT_of 908 (by decide +kernel) (by decide +kernel)
theorem kw909L : Cond.codeWith yL_ask cL_ask 5 (some .int) [(0, 10, 13, 21), (0, 10, 17, 15), (0, 10, 21, 43)] ∈ kT := kT_of 909 (by decide +kernel) (by decide +kernel)
theorem kw947L : Cond.methodLink RL 233 yL_stale ∈ kT := kT_of 947 (by decide +kernel) (by decide +kernel)
theorem kw948L : Cond.static yL_stale ∈ kT := kT_of 948 (by decide +kernel) (by decide +kernel)
theorem kw949L : Cond.codeWith yL_stale cL_stale 4 (some .int) [(0, 9, 12, 21)] ∈ kT := kT_of 949 (by decide +kernel) (by decide +kernel)
theorem kw1077L : Cond.methodLink RL 123 yX10_thrown ∈ kT := kT_of 1077 (by decide +kernel) (by decide +kernel)
theorem kw1078L : Cond.instanceMethod yX10_thrown ∈ kT := kT_of 1078 (by decide +kernel) (by decide +kernel)
theorem kw1079L : Cond.selects "TollkeeperModel" yX10_thrown yX10_thrown ∈ kT := kT_of 1079 (by decide +kernel) (by decide +kernel)
theorem kw1080L : Cond.code yX10_thrown cX10_thrown 1 (some .int) ∈ kT := kT_of 1080 (by decide +kernel) (by decide +kernel)
theorem kw1081L : Cond.methodLink RL 122 yX10_pass ∈ kT := kT_of 1081 (by decide +kernel) (by decide +kernel)
theorem kw1082L : Cond.instanceMethod yX10_pass ∈ kT := kT_of 1082 (by decide +kernel) (by decide +kernel)
theorem kw1083L : Cond.selects "TollkeeperModel" yX10_pass yX10_pass ∈ kT := kT_of 1083 (by decide +kernel) (by decide +kernel)
theorem kw1084L : Cond.code yX10_pass cX10_pass 2 (some .int) ∈ kT := kT_of 1084 (by decide +kernel) (by decide +kernel)
theorem kw1093L : Cond.methodLink RL 130 yX10_now ∈ kT := kT_of 1093 (by decide +kernel) (by decide +kernel)
theorem kw1094L : Cond.instanceMethod yX10_now ∈ kT := kT_of 1094 (by decide +kernel) (by decide +kernel)
theorem kw1095L : Cond.selects "TollkeeperModel" yX10_now yX10_now ∈ kT := kT_of 1095 (by decide +kernel) (by decide +kernel)
theorem kw1096L : Cond.code yX10_now cX10_now 1 (some .int) ∈ kT := kT_of 1096 (by decide +kernel) (by decide +kernel)
theorem kw1097L : Cond.methodLink RL 134 yX10_road ∈ kT := kT_of 1097 (by decide +kernel) (by decide +kernel)
theorem kw1098L : Cond.instanceMethod yX10_road ∈ kT := kT_of 1098 (by decide +kernel) (by decide +kernel)
theorem kw1099L : Cond.selects "TollkeeperModel" yX10_road yX10_road ∈ kT := kT_of 1099 (by decide +kernel) (by decide +kernel)
theorem kw1100L : Cond.code yX10_road cX10_road 6 (some .int) ∈ kT := kT_of 1100 (by decide +kernel) (by decide +kernel)
theorem kw1104L : Cond.methodLink RL 138 yX10_distance ∈ kT := kT_of 1104 (by decide +kernel) (by decide +kernel)
theorem kw1105L : Cond.instanceMethod yX10_distance ∈ kT := kT_of 1105 (by decide +kernel) (by decide +kernel)
theorem kw1106L : Cond.selects "TollkeeperModel" yX10_distance yX10_distance ∈ kT := kT_of 1106 (by decide +kernel) (by decide +kernel)
theorem kw1107L : Cond.code yX10_distance cX10_distance 3 (some .int) ∈ kT := kT_of 1107 (by decide +kernel) (by decide +kernel)
theorem kw1108L : Cond.methodLink RL 141 yX10_setPause ∈ kT := kT_of 1108 (by decide +kernel) (by decide +kernel)
theorem kw1109L : Cond.instanceMethod yX10_setPause ∈ kT := kT_of 1109 (by decide +kernel) (by decide +kernel)
theorem kw1110L : Cond.selects "TollkeeperModel" yX10_setPause yX10_setPause ∈ kT := kT_of 1110 (by decide +kernel) (by decide +kernel)
theorem kw1111L : Cond.code yX10_setPause cX10_setPause 3 (some .int) ∈ kT := kT_of 1111 (by decide +kernel) (by decide +kernel)
theorem kw1112L : Cond.methodLink RL 144 yX10_setRate ∈ kT := kT_of 1112 (by decide +kernel) (by decide +kernel)
theorem kw1113L : Cond.instanceMethod yX10_setRate ∈ kT := kT_of 1113 (by decide +kernel) (by decide +kernel)
theorem kw1114L : Cond.selects "TollkeeperModel" yX10_setRate yX10_setRate ∈ kT := kT_of 1114 (by decide +kernel) (by decide +kernel)
theorem kw1115L : Cond.code yX10_setRate cX10_setRate 4 (some .int) ∈ kT := kT_of 1115 (by decide +kernel) (by decide +kernel)
theorem kw1116L : Cond.methodLink RL 147 yX10_spell ∈ kT := kT_of 1116 (by decide +kernel) (by decide +kernel)
theorem kw1117L : Cond.instanceMethod yX10_spell ∈ kT := kT_of 1117 (by decide +kernel) (by decide +kernel)
theorem kw1118L : Cond.selects "TollkeeperModel" yX10_spell yX10_spell ∈ kT := kT_of 1118 (by decide +kernel) (by decide +kernel)
theorem kw1119L : Cond.code yX10_spell cX10_spell 2 (some .int) ∈ kT := kT_of 1119 (by decide +kernel) (by decide +kernel)
theorem kw1134L : Cond.methodLink RL 150 yX10_insert ∈ kT := kT_of 1134 (by decide +kernel) (by decide +kernel)
theorem kw1135L : Cond.instanceMethod yX10_insert ∈ kT := kT_of 1135 (by decide +kernel) (by decide +kernel)
theorem kw1136L : Cond.selects "TollkeeperModel" yX10_insert yX10_insert ∈ kT := kT_of 1136 (by decide +kernel) (by decide +kernel)
theorem kw1137L : Cond.code yX10_insert cX10_insert 3 (some .int) ∈ kT := kT_of 1137 (by decide +kernel) (by decide +kernel)
theorem kw1138L : Cond.methodLink RL 154 yX10_mirror ∈ kT := kT_of 1138 (by decide +kernel) (by decide +kernel)
theorem kw1139L : Cond.instanceMethod yX10_mirror ∈ kT := kT_of 1139 (by decide +kernel) (by decide +kernel)
theorem kw1140L : Cond.selects "TollkeeperModel" yX10_mirror yX10_mirror ∈ kT := kT_of 1140 (by decide +kernel) (by decide +kernel)
theorem kw1141L : Cond.code yX10_mirror cX10_mirror 3 (some .int) ∈ kT := kT_of 1141 (by decide +kernel) (by decide +kernel)
theorem kw1142L : Cond.methodLink RL 158 yX10_clearSpelled ∈ kT := kT_of 1142 (by decide +kernel) (by decide +kernel)
theorem kw1143L : Cond.instanceMethod yX10_clearSpelled ∈ kT := kT_of 1143 (by decide +kernel) (by decide +kernel)
theorem kw1144L : Cond.selects "TollkeeperModel" yX10_clearSpelled yX10_clearSpelled ∈ kT := kT_of 1144 (by decide +kernel) (by decide +kernel)
theorem kw1145L : Cond.code yX10_clearSpelled cX10_clearSpelled 2 (some .int) ∈ kT := kT_of 1145 (by decide +kernel) (by decide +kernel)
theorem kw1146L : Cond.methodLink RL 161 yX10_charAt ∈ kT := kT_of 1146 (by decide +kernel) (by decide +kernel)
theorem kw1147L : Cond.instanceMethod yX10_charAt ∈ kT := kT_of 1147 (by decide +kernel) (by decide +kernel)
theorem kw1148L : Cond.selects "TollkeeperModel" yX10_charAt yX10_charAt ∈ kT := kT_of 1148 (by decide +kernel) (by decide +kernel)
theorem kw1149L : Cond.code yX10_charAt cX10_charAt 6 (some .char) ∈ kT := kT_of 1149 (by decide +kernel) (by decide +kernel)
theorem kw1152L : Cond.methodLink RL 164 yX10_alike ∈ kT := kT_of 1152 (by decide +kernel) (by decide +kernel)
theorem kw1153L : Cond.instanceMethod yX10_alike ∈ kT := kT_of 1153 (by decide +kernel) (by decide +kernel)
theorem kw1154L : Cond.selects "TollkeeperModel" yX10_alike yX10_alike ∈ kT := kT_of 1154 (by decide +kernel) (by decide +kernel)
theorem kw1155L : Cond.code yX10_alike cX10_alike 5 (some .boolean) ∈ kT := kT_of 1155 (by decide +kernel) (by decide +kernel)
theorem kw1156L : Cond.methodLink RL 167 yX10_register ∈ kT := kT_of 1156 (by decide +kernel) (by decide +kernel)
theorem kw1157L : Cond.instanceMethod yX10_register ∈ kT := kT_of 1157 (by decide +kernel) (by decide +kernel)
theorem kw1158L : Cond.selects "TollkeeperModel" yX10_register yX10_register ∈ kT := kT_of 1158 (by decide +kernel) (by decide +kernel)
theorem kw1159L : Cond.code yX10_register cX10_register 6 (some .int) ∈ kT := kT_of 1159 (by decide +kernel) (by decide +kernel)
theorem kw1175L : Cond.methodLink RL 170 yX10_sell ∈ kT := kT_of 1175 (by decide +kernel) (by decide +kernel)
theorem kw1176L : Cond.instanceMethod yX10_sell ∈ kT := kT_of 1176 (by decide +kernel) (by decide +kernel)
theorem kw1177L : Cond.selects "TollkeeperModel" yX10_sell yX10_sell ∈ kT := kT_of 1177 (by decide +kernel) (by decide +kernel)
theorem kw1178L : Cond.code yX10_sell cX10_sell 4 (some .int) ∈ kT := kT_of 1178 (by decide +kernel) (by decide +kernel)
theorem kw1187L : Cond.methodLink RL 174 yX10_plates ∈ kT := kT_of 1187 (by decide +kernel) (by decide +kernel)
theorem kw1188L : Cond.instanceMethod yX10_plates ∈ kT := kT_of 1188 (by decide +kernel) (by decide +kernel)
theorem kw1189L : Cond.selects "TollkeeperModel" yX10_plates yX10_plates ∈ kT := kT_of 1189 (by decide +kernel) (by decide +kernel)
theorem kw1190L : Cond.code yX10_plates cX10_plates 1 (some .int) ∈ kT := kT_of 1190 (by decide +kernel) (by decide +kernel)
theorem kw1191L : Cond.methodLink RL 177 yX10_plateAt ∈ kT := kT_of 1191 (by decide +kernel) (by decide +kernel)
theorem kw1192L : Cond.instanceMethod yX10_plateAt ∈ kT := kT_of 1192 (by decide +kernel) (by decide +kernel)
theorem kw1193L : Cond.selects "TollkeeperModel" yX10_plateAt yX10_plateAt ∈ kT := kT_of 1193 (by decide +kernel) (by decide +kernel)
theorem kw1194L : Cond.code yX10_plateAt cX10_plateAt 6 (some .int) ∈ kT := kT_of 1194 (by decide +kernel) (by decide +kernel)
theorem kw1203L : Cond.methodLink RL 180 yX10_holder ∈ kT := kT_of 1203 (by decide +kernel) (by decide +kernel)
theorem kw1204L : Cond.instanceMethod yX10_holder ∈ kT := kT_of 1204 (by decide +kernel) (by decide +kernel)
theorem kw1205L : Cond.selects "TollkeeperModel" yX10_holder yX10_holder ∈ kT := kT_of 1205 (by decide +kernel) (by decide +kernel)
theorem kw1206L : Cond.code yX10_holder cX10_holder 3 (some .int) ∈ kT := kT_of 1206 (by decide +kernel) (by decide +kernel)
theorem kw1207L : Cond.methodLink RL 183 yX10_read ∈ kT := kT_of 1207 (by decide +kernel) (by decide +kernel)
theorem kw1208L : Cond.instanceMethod yX10_read ∈ kT := kT_of 1208 (by decide +kernel) (by decide +kernel)
theorem kw1209L : Cond.selects "TollkeeperModel" yX10_read yX10_read ∈ kT := kT_of 1209 (by decide +kernel) (by decide +kernel)
theorem kw1210L : Cond.code yX10_read cX10_read 5 (some .int) ∈ kT := kT_of 1210 (by decide +kernel) (by decide +kernel)
theorem kw1211L : Cond.methodLink RL 186 yX10_correct ∈ kT := kT_of 1211 (by decide +kernel) (by decide +kernel)
theorem kw1212L : Cond.instanceMethod yX10_correct ∈ kT := kT_of 1212 (by decide +kernel) (by decide +kernel)
theorem kw1213L : Cond.selects "TollkeeperModel" yX10_correct yX10_correct ∈ kT := kT_of 1213 (by decide +kernel) (by decide +kernel)
theorem kw1214L : Cond.code yX10_correct cX10_correct 5 (some .int) ∈ kT := kT_of 1214 (by decide +kernel) (by decide +kernel)
theorem kw1227L : Cond.methodLink RL 189 yX10_uncorrect ∈ kT := kT_of 1227 (by decide +kernel) (by decide +kernel)
theorem kw1228L : Cond.instanceMethod yX10_uncorrect ∈ kT := kT_of 1228 (by decide +kernel) (by decide +kernel)
theorem kw1229L : Cond.selects "TollkeeperModel" yX10_uncorrect yX10_uncorrect ∈ kT := kT_of 1229 (by decide +kernel) (by decide +kernel)
theorem kw1230L : Cond.code yX10_uncorrect cX10_uncorrect 2 (some .int) ∈ kT := kT_of 1230 (by decide +kernel) (by decide +kernel)
theorem kw1231L : Cond.methodLink RL 192 yX10_plateOf ∈ kT := kT_of 1231 (by decide +kernel) (by decide +kernel)
theorem kw1232L : Cond.instanceMethod yX10_plateOf ∈ kT := kT_of 1232 (by decide +kernel) (by decide +kernel)
theorem kw1233L : Cond.selects "TollkeeperModel" yX10_plateOf yX10_plateOf ∈ kT := kT_of 1233 (by decide +kernel) (by decide +kernel)
theorem kw1234L : Cond.code yX10_plateOf cX10_plateOf 2 (some .int) ∈ kT := kT_of 1234 (by decide +kernel) (by decide +kernel)
theorem kw1235L : Cond.methodLink RL 195 yX10_cost ∈ kT := kT_of 1235 (by decide +kernel) (by decide +kernel)
theorem kw1236L : Cond.instanceMethod yX10_cost ∈ kT := kT_of 1236 (by decide +kernel) (by decide +kernel)
theorem kw1237L : Cond.selects "TollkeeperModel" yX10_cost yX10_cost ∈ kT := kT_of 1237 (by decide +kernel) (by decide +kernel)
theorem kw1238L : Cond.code yX10_cost cX10_cost 3 (some .int) ∈ kT := kT_of 1238 (by decide +kernel) (by decide +kernel)
theorem kw1239L : Cond.methodLink RL 198 yX10_trips ∈ kT := kT_of 1239 (by decide +kernel) (by decide +kernel)
theorem kw1240L : Cond.instanceMethod yX10_trips ∈ kT := kT_of 1240 (by decide +kernel) (by decide +kernel)
theorem kw1241L : Cond.selects "TollkeeperModel" yX10_trips yX10_trips ∈ kT := kT_of 1241 (by decide +kernel) (by decide +kernel)
theorem kw1242L : Cond.code yX10_trips cX10_trips 2 (some .int) ∈ kT := kT_of 1242 (by decide +kernel) (by decide +kernel)
theorem kw1263L : Cond.methodLink RL 201 yX10_tripsAnew ∈ kT := kT_of 1263 (by decide +kernel) (by decide +kernel)
theorem kw1264L : Cond.instanceMethod yX10_tripsAnew ∈ kT := kT_of 1264 (by decide +kernel) (by decide +kernel)
theorem kw1265L : Cond.selects "TollkeeperModel" yX10_tripsAnew yX10_tripsAnew ∈ kT := kT_of 1265 (by decide +kernel) (by decide +kernel)
theorem kw1266L : Cond.code yX10_tripsAnew cX10_tripsAnew 2 (some .int) ∈ kT := kT_of 1266 (by decide +kernel) (by decide +kernel)
theorem kw1267L : Cond.methodLink RL 204 yX10_tripOf ∈ kT := kT_of 1267 (by decide +kernel) (by decide +kernel)
theorem kw1268L : Cond.instanceMethod yX10_tripOf ∈ kT := kT_of 1268 (by decide +kernel) (by decide +kernel)
theorem kw1269L : Cond.selects "TollkeeperModel" yX10_tripOf yX10_tripOf ∈ kT := kT_of 1269 (by decide +kernel) (by decide +kernel)
theorem kw1270L : Cond.code yX10_tripOf cX10_tripOf 3 (some .int) ∈ kT := kT_of 1270 (by decide +kernel) (by decide +kernel)
theorem kw1271L : Cond.methodLink RL 207 yX10_toll ∈ kT := kT_of 1271 (by decide +kernel) (by decide +kernel)
theorem kw1272L : Cond.instanceMethod yX10_toll ∈ kT := kT_of 1272 (by decide +kernel) (by decide +kernel)
theorem kw1273L : Cond.selects "TollkeeperModel" yX10_toll yX10_toll ∈ kT := kT_of 1273 (by decide +kernel) (by decide +kernel)
theorem kw1274L : Cond.code yX10_toll cX10_toll 3 (some .int) ∈ kT := kT_of 1274 (by decide +kernel) (by decide +kernel)
theorem kw1287L : Cond.methodLink RL 210 yX10_driverOf ∈ kT := kT_of 1287 (by decide +kernel) (by decide +kernel)
theorem kw1288L : Cond.instanceMethod yX10_driverOf ∈ kT := kT_of 1288 (by decide +kernel) (by decide +kernel)
theorem kw1289L : Cond.selects "TollkeeperModel" yX10_driverOf yX10_driverOf ∈ kT := kT_of 1289 (by decide +kernel) (by decide +kernel)
theorem kw1290L : Cond.code yX10_driverOf cX10_driverOf 3 (some .int) ∈ kT := kT_of 1290 (by decide +kernel) (by decide +kernel)
theorem kw1291L : Cond.methodLink RL 213 yX10_due ∈ kT := kT_of 1291 (by decide +kernel) (by decide +kernel)
theorem kw1292L : Cond.instanceMethod yX10_due ∈ kT := kT_of 1292 (by decide +kernel) (by decide +kernel)
theorem kw1293L : Cond.selects "TollkeeperModel" yX10_due yX10_due ∈ kT := kT_of 1293 (by decide +kernel) (by decide +kernel)
theorem kw1294L : Cond.code yX10_due cX10_due 2 (some .int) ∈ kT := kT_of 1294 (by decide +kernel) (by decide +kernel)
theorem kw1299L : Cond.methodLink RL 216 yX10_dueAnew ∈ kT := kT_of 1299 (by decide +kernel) (by decide +kernel)
theorem kw1300L : Cond.instanceMethod yX10_dueAnew ∈ kT := kT_of 1300 (by decide +kernel) (by decide +kernel)
theorem kw1301L : Cond.selects "TollkeeperModel" yX10_dueAnew yX10_dueAnew ∈ kT := kT_of 1301 (by decide +kernel) (by decide +kernel)
theorem kw1302L : Cond.code yX10_dueAnew cX10_dueAnew 2 (some .int) ∈ kT := kT_of 1302 (by decide +kernel) (by decide +kernel)
theorem kw1303L : Cond.methodLink RL 220 yX10_settle ∈ kT := kT_of 1303 (by decide +kernel) (by decide +kernel)
theorem kw1304L : Cond.instanceMethod yX10_settle ∈ kT := kT_of 1304 (by decide +kernel) (by decide +kernel)
theorem kw1305L : Cond.selects "TollkeeperModel" yX10_settle yX10_settle ∈ kT := kT_of 1305 (by decide +kernel) (by decide +kernel)
theorem kw1306L : Cond.code yX10_settle cX10_settle 5 (some .int) ∈ kT := kT_of 1306 (by decide +kernel) (by decide +kernel)
theorem kw1307L : Cond.methodLink RL 223 yX10_billed ∈ kT := kT_of 1307 (by decide +kernel) (by decide +kernel)
theorem kw1308L : Cond.instanceMethod yX10_billed ∈ kT := kT_of 1308 (by decide +kernel) (by decide +kernel)
theorem kw1309L : Cond.selects "TollkeeperModel" yX10_billed yX10_billed ∈ kT := kT_of 1309 (by decide +kernel) (by decide +kernel)
theorem kw1310L : Cond.code yX10_billed cX10_billed 2 (some .long) ∈ kT := kT_of 1310 (by decide +kernel) (by decide +kernel)
theorem kw1311L : Cond.methodLink RL 226 yX10_paidBack ∈ kT := kT_of 1311 (by decide +kernel) (by decide +kernel)
theorem kw1312L : Cond.instanceMethod yX10_paidBack ∈ kT := kT_of 1312 (by decide +kernel) (by decide +kernel)
theorem kw1313L : Cond.selects "TollkeeperModel" yX10_paidBack yX10_paidBack ∈ kT := kT_of 1313 (by decide +kernel) (by decide +kernel)
theorem kw1314L : Cond.code yX10_paidBack cX10_paidBack 2 (some .long) ∈ kT := kT_of 1314 (by decide +kernel) (by decide +kernel)
theorem kw1315L : Cond.methodLink RL 229 yX10_warrant ∈ kT := kT_of 1315 (by decide +kernel) (by decide +kernel)
theorem kw1316L : Cond.instanceMethod yX10_warrant ∈ kT := kT_of 1316 (by decide +kernel) (by decide +kernel)
theorem kw1317L : Cond.selects "TollkeeperModel" yX10_warrant yX10_warrant ∈ kT := kT_of 1317 (by decide +kernel) (by decide +kernel)
theorem kw1318L : Cond.code yX10_warrant cX10_warrant 6 (some .int) ∈ kT := kT_of 1318 (by decide +kernel) (by decide +kernel)
theorem kw1319L : Cond.methodLink RL 232 yX10_ask ∈ kT := kT_of 1319 (by decide +kernel) (by decide +kernel)
theorem kw1320L : Cond.instanceMethod yX10_ask ∈ kT := kT_of 1320 (by decide +kernel) (by decide +kernel)
theorem kw1321L : Cond.selects "TollkeeperModel" yX10_ask yX10_ask ∈ kT := kT_of 1321 (by decide +kernel) (by decide +kernel)
theorem kw1322L : Cond.code yX10_ask cX10_ask 6 (some .int) ∈ kT := kT_of 1322 (by decide +kernel) (by decide +kernel)
theorem kw1332L : Cond.methodLink RL 235 yX10_stale ∈ kT := kT_of 1332 (by decide +kernel) (by decide +kernel)
theorem kw1333L : Cond.instanceMethod yX10_stale ∈ kT := kT_of 1333 (by decide +kernel) (by decide +kernel)
theorem kw1334L : Cond.selects "TollkeeperModel" yX10_stale yX10_stale ∈ kT := kT_of 1334 (by decide +kernel) (by decide +kernel)
theorem kw1335L : Cond.code yX10_stale cX10_stale 4 (some .int) ∈ kT := kT_of 1335 (by decide +kernel) (by decide +kernel)
theorem ky_X10_pass : kYok yX10_pass cX10_pass 2 (some .int) 1 := ⟨kw55L, kw1084L, by decide, by decide, by decide +kernel⟩
theorem ky2_X10_pass : Cond.instanceMethod yX10_pass ∈ kT ∧ Cond.selects yX10_pass.cls yX10_pass yX10_pass ∈ kT := ⟨kw1082L, kw1083L⟩
theorem ky_X10_thrown : kYok yX10_thrown cX10_thrown 1 (some .int) 0 := ⟨kw55L, kw1080L, by decide, by decide, by decide +kernel⟩
theorem ky2_X10_thrown : Cond.instanceMethod yX10_thrown ∈ kT ∧ Cond.selects yX10_thrown.cls yX10_thrown yX10_thrown ∈ kT := ⟨kw1078L, kw1079L⟩
theorem ky_X9_now : kYok yX9_now cX9_now 1 (some .int) 0 := ⟨kw50L, kw230L, by decide, by decide, by decide +kernel⟩
theorem ky2_X9_now : Cond.instanceMethod yX9_now ∈ kT ∧ Cond.selects yX9_now.cls yX9_now yX9_now ∈ kT := ⟨kw228L, kw229L⟩
theorem ky_X10_now : kYok yX10_now cX10_now 1 (some .int) 0 := ⟨kw55L, kw1096L, by decide, by decide, by decide +kernel⟩
theorem ky2_X10_now : Cond.instanceMethod yX10_now ∈ kT ∧ Cond.selects yX10_now.cls yX10_now yX10_now ∈ kT := ⟨kw1094L, kw1095L⟩
theorem ky_X10_road : kYok yX10_road cX10_road 6 (some .int) 3 := ⟨kw55L, kw1100L, by decide, by decide, by decide +kernel⟩
theorem ky2_X10_road : Cond.instanceMethod yX10_road ∈ kT ∧ Cond.selects yX10_road.cls yX10_road yX10_road ∈ kT := ⟨kw1098L, kw1099L⟩
theorem ky_X10_distance : kYok yX10_distance cX10_distance 3 (some .int) 2 := ⟨kw55L, kw1107L, by decide, by decide, by decide +kernel⟩
theorem ky2_X10_distance : Cond.instanceMethod yX10_distance ∈ kT ∧ Cond.selects yX10_distance.cls yX10_distance yX10_distance ∈ kT := ⟨kw1105L, kw1106L⟩
theorem ky_X10_setPause : kYok yX10_setPause cX10_setPause 3 (some .int) 1 := ⟨kw55L, kw1111L, by decide, by decide, by decide +kernel⟩
theorem ky2_X10_setPause : Cond.instanceMethod yX10_setPause ∈ kT ∧ Cond.selects yX10_setPause.cls yX10_setPause yX10_setPause ∈ kT := ⟨kw1109L, kw1110L⟩
theorem ky_X10_setRate : kYok yX10_setRate cX10_setRate 4 (some .int) 2 := ⟨kw55L, kw1115L, by decide, by decide, by decide +kernel⟩
theorem ky2_X10_setRate : Cond.instanceMethod yX10_setRate ∈ kT ∧ Cond.selects yX10_setRate.cls yX10_setRate yX10_setRate ∈ kT := ⟨kw1113L, kw1114L⟩
theorem ky_X10_spell : kYok yX10_spell cX10_spell 2 (some .int) 1 := ⟨kw55L, kw1119L, by decide, by decide, by decide +kernel⟩
theorem ky2_X10_spell : Cond.instanceMethod yX10_spell ∈ kT ∧ Cond.selects yX10_spell.cls yX10_spell yX10_spell ∈ kT := ⟨kw1117L, kw1118L⟩
theorem ky_X10_insert : kYok yX10_insert cX10_insert 3 (some .int) 2 := ⟨kw55L, kw1137L, by decide, by decide, by decide +kernel⟩
theorem ky2_X10_insert : Cond.instanceMethod yX10_insert ∈ kT ∧ Cond.selects yX10_insert.cls yX10_insert yX10_insert ∈ kT := ⟨kw1135L, kw1136L⟩
theorem ky_X9_mirror : kYok yX9_mirror cX9_mirror 1 (some .int) 0 := ⟨kw50L, kw234L, by decide, by decide, by decide +kernel⟩
theorem ky2_X9_mirror : Cond.instanceMethod yX9_mirror ∈ kT ∧ Cond.selects yX9_mirror.cls yX9_mirror yX9_mirror ∈ kT := ⟨kw232L, kw233L⟩
theorem ky_X10_mirror : kYok yX10_mirror cX10_mirror 3 (some .int) 0 := ⟨kw55L, kw1141L, by decide, by decide, by decide +kernel⟩
theorem ky2_X10_mirror : Cond.instanceMethod yX10_mirror ∈ kT ∧ Cond.selects yX10_mirror.cls yX10_mirror yX10_mirror ∈ kT := ⟨kw1139L, kw1140L⟩
theorem ky_X9_clearSpelled : kYok yX9_clearSpelled cX9_clearSpelled 2 (some .int) 0 := ⟨kw50L, kw242L, by decide, by decide, by decide +kernel⟩
theorem ky2_X9_clearSpelled : Cond.instanceMethod yX9_clearSpelled ∈ kT ∧ Cond.selects yX9_clearSpelled.cls yX9_clearSpelled yX9_clearSpelled ∈ kT := ⟨kw240L, kw241L⟩
theorem ky_X10_clearSpelled : kYok yX10_clearSpelled cX10_clearSpelled 2 (some .int) 0 := ⟨kw55L, kw1145L, by decide, by decide, by decide +kernel⟩
theorem ky2_X10_clearSpelled : Cond.instanceMethod yX10_clearSpelled ∈ kT ∧ Cond.selects yX10_clearSpelled.cls yX10_clearSpelled yX10_clearSpelled ∈ kT := ⟨kw1143L, kw1144L⟩
theorem ky_X10_charAt : kYok yX10_charAt cX10_charAt 6 (some .char) 1 := ⟨kw55L, kw1149L, by decide, by decide, by decide +kernel⟩
theorem ky2_X10_charAt : Cond.instanceMethod yX10_charAt ∈ kT ∧ Cond.selects yX10_charAt.cls yX10_charAt yX10_charAt ∈ kT := ⟨kw1147L, kw1148L⟩
theorem ky_X10_alike : kYok yX10_alike cX10_alike 5 (some .boolean) 2 := ⟨kw55L, kw1155L, by decide, by decide, by decide +kernel⟩
theorem ky2_X10_alike : Cond.instanceMethod yX10_alike ∈ kT ∧ Cond.selects yX10_alike.cls yX10_alike yX10_alike ∈ kT := ⟨kw1153L, kw1154L⟩
theorem ky_X10_register : kYok yX10_register cX10_register 6 (some .int) 2 := ⟨kw55L, kw1159L, by decide, by decide, by decide +kernel⟩
theorem ky2_X10_register : Cond.instanceMethod yX10_register ∈ kT ∧ Cond.selects yX10_register.cls yX10_register yX10_register ∈ kT := ⟨kw1157L, kw1158L⟩
theorem ky_X10_sell : kYok yX10_sell cX10_sell 4 (some .int) 2 := ⟨kw55L, kw1178L, by decide, by decide, by decide +kernel⟩
theorem ky2_X10_sell : Cond.instanceMethod yX10_sell ∈ kT ∧ Cond.selects yX10_sell.cls yX10_sell yX10_sell ∈ kT := ⟨kw1176L, kw1177L⟩
theorem ky_X9_plates : kYok yX9_plates cX9_plates 1 (some .int) 0 := ⟨kw50L, kw246L, by decide, by decide, by decide +kernel⟩
theorem ky2_X9_plates : Cond.instanceMethod yX9_plates ∈ kT ∧ Cond.selects yX9_plates.cls yX9_plates yX9_plates ∈ kT := ⟨kw244L, kw245L⟩
theorem ky_X10_plates : kYok yX10_plates cX10_plates 1 (some .int) 0 := ⟨kw55L, kw1190L, by decide, by decide, by decide +kernel⟩
theorem ky2_X10_plates : Cond.instanceMethod yX10_plates ∈ kT ∧ Cond.selects yX10_plates.cls yX10_plates yX10_plates ∈ kT := ⟨kw1188L, kw1189L⟩
theorem ky_X10_plateAt : kYok yX10_plateAt cX10_plateAt 6 (some .int) 1 := ⟨kw55L, kw1194L, by decide, by decide, by decide +kernel⟩
theorem ky2_X10_plateAt : Cond.instanceMethod yX10_plateAt ∈ kT ∧ Cond.selects yX10_plateAt.cls yX10_plateAt yX10_plateAt ∈ kT := ⟨kw1192L, kw1193L⟩
theorem ky_X10_holder : kYok yX10_holder cX10_holder 3 (some .int) 2 := ⟨kw55L, kw1206L, by decide, by decide, by decide +kernel⟩
theorem ky2_X10_holder : Cond.instanceMethod yX10_holder ∈ kT ∧ Cond.selects yX10_holder.cls yX10_holder yX10_holder ∈ kT := ⟨kw1204L, kw1205L⟩
theorem ky_X10_read : kYok yX10_read cX10_read 5 (some .int) 2 := ⟨kw55L, kw1210L, by decide, by decide, by decide +kernel⟩
theorem ky2_X10_read : Cond.instanceMethod yX10_read ∈ kT ∧ Cond.selects yX10_read.cls yX10_read yX10_read ∈ kT := ⟨kw1208L, kw1209L⟩
theorem ky_X10_correct : kYok yX10_correct cX10_correct 5 (some .int) 2 := ⟨kw55L, kw1214L, by decide, by decide, by decide +kernel⟩
theorem ky2_X10_correct : Cond.instanceMethod yX10_correct ∈ kT ∧ Cond.selects yX10_correct.cls yX10_correct yX10_correct ∈ kT := ⟨kw1212L, kw1213L⟩
theorem ky_X10_uncorrect : kYok yX10_uncorrect cX10_uncorrect 2 (some .int) 1 := ⟨kw55L, kw1230L, by decide, by decide, by decide +kernel⟩
theorem ky2_X10_uncorrect : Cond.instanceMethod yX10_uncorrect ∈ kT ∧ Cond.selects yX10_uncorrect.cls yX10_uncorrect yX10_uncorrect ∈ kT := ⟨kw1228L, kw1229L⟩
theorem ky_X10_plateOf : kYok yX10_plateOf cX10_plateOf 2 (some .int) 1 := ⟨kw55L, kw1234L, by decide, by decide, by decide +kernel⟩
theorem ky2_X10_plateOf : Cond.instanceMethod yX10_plateOf ∈ kT ∧ Cond.selects yX10_plateOf.cls yX10_plateOf yX10_plateOf ∈ kT := ⟨kw1232L, kw1233L⟩
theorem ky_X10_cost : kYok yX10_cost cX10_cost 3 (some .int) 2 := ⟨kw55L, kw1238L, by decide, by decide, by decide +kernel⟩
theorem ky2_X10_cost : Cond.instanceMethod yX10_cost ∈ kT ∧ Cond.selects yX10_cost.cls yX10_cost yX10_cost ∈ kT := ⟨kw1236L, kw1237L⟩
theorem ky_X10_trips : kYok yX10_trips cX10_trips 2 (some .int) 1 := ⟨kw55L, kw1242L, by decide, by decide, by decide +kernel⟩
theorem ky2_X10_trips : Cond.instanceMethod yX10_trips ∈ kT ∧ Cond.selects yX10_trips.cls yX10_trips yX10_trips ∈ kT := ⟨kw1240L, kw1241L⟩
theorem ky_X10_tripsAnew : kYok yX10_tripsAnew cX10_tripsAnew 2 (some .int) 1 := ⟨kw55L, kw1266L, by decide, by decide, by decide +kernel⟩
theorem ky2_X10_tripsAnew : Cond.instanceMethod yX10_tripsAnew ∈ kT ∧ Cond.selects yX10_tripsAnew.cls yX10_tripsAnew yX10_tripsAnew ∈ kT := ⟨kw1264L, kw1265L⟩
theorem ky_X10_tripOf : kYok yX10_tripOf cX10_tripOf 3 (some .int) 1 := ⟨kw55L, kw1270L, by decide, by decide, by decide +kernel⟩
theorem ky2_X10_tripOf : Cond.instanceMethod yX10_tripOf ∈ kT ∧ Cond.selects yX10_tripOf.cls yX10_tripOf yX10_tripOf ∈ kT := ⟨kw1268L, kw1269L⟩
theorem ky_X10_toll : kYok yX10_toll cX10_toll 3 (some .int) 2 := ⟨kw55L, kw1274L, by decide, by decide, by decide +kernel⟩
theorem ky2_X10_toll : Cond.instanceMethod yX10_toll ∈ kT ∧ Cond.selects yX10_toll.cls yX10_toll yX10_toll ∈ kT := ⟨kw1272L, kw1273L⟩
theorem ky_X10_driverOf : kYok yX10_driverOf cX10_driverOf 3 (some .int) 2 := ⟨kw55L, kw1290L, by decide, by decide, by decide +kernel⟩
theorem ky2_X10_driverOf : Cond.instanceMethod yX10_driverOf ∈ kT ∧ Cond.selects yX10_driverOf.cls yX10_driverOf yX10_driverOf ∈ kT := ⟨kw1288L, kw1289L⟩
theorem ky_X10_due : kYok yX10_due cX10_due 2 (some .int) 1 := ⟨kw55L, kw1294L, by decide, by decide, by decide +kernel⟩
theorem ky2_X10_due : Cond.instanceMethod yX10_due ∈ kT ∧ Cond.selects yX10_due.cls yX10_due yX10_due ∈ kT := ⟨kw1292L, kw1293L⟩
theorem ky_X10_dueAnew : kYok yX10_dueAnew cX10_dueAnew 2 (some .int) 1 := ⟨kw55L, kw1302L, by decide, by decide, by decide +kernel⟩
theorem ky2_X10_dueAnew : Cond.instanceMethod yX10_dueAnew ∈ kT ∧ Cond.selects yX10_dueAnew.cls yX10_dueAnew yX10_dueAnew ∈ kT := ⟨kw1300L, kw1301L⟩
theorem ky_X9_settle : kYok yX9_settle cX9_settle 6 (some .int) 0 := ⟨kw50L, kw250L, by decide, by decide, by decide +kernel⟩
theorem ky2_X9_settle : Cond.instanceMethod yX9_settle ∈ kT ∧ Cond.selects yX9_settle.cls yX9_settle yX9_settle ∈ kT := ⟨kw248L, kw249L⟩
theorem ky_X10_settle : kYok yX10_settle cX10_settle 5 (some .int) 0 := ⟨kw55L, kw1306L, by decide, by decide, by decide +kernel⟩
theorem ky2_X10_settle : Cond.instanceMethod yX10_settle ∈ kT ∧ Cond.selects yX10_settle.cls yX10_settle yX10_settle ∈ kT := ⟨kw1304L, kw1305L⟩
theorem ky_X10_billed : kYok yX10_billed cX10_billed 2 (some .long) 1 := ⟨kw55L, kw1310L, by decide, by decide, by decide +kernel⟩
theorem ky2_X10_billed : Cond.instanceMethod yX10_billed ∈ kT ∧ Cond.selects yX10_billed.cls yX10_billed yX10_billed ∈ kT := ⟨kw1308L, kw1309L⟩
theorem ky_X10_paidBack : kYok yX10_paidBack cX10_paidBack 2 (some .long) 1 := ⟨kw55L, kw1314L, by decide, by decide, by decide +kernel⟩
theorem ky2_X10_paidBack : Cond.instanceMethod yX10_paidBack ∈ kT ∧ Cond.selects yX10_paidBack.cls yX10_paidBack yX10_paidBack ∈ kT := ⟨kw1312L, kw1313L⟩
theorem ky_X10_warrant : kYok yX10_warrant cX10_warrant 6 (some .int) 3 := ⟨kw55L, kw1318L, by decide, by decide, by decide +kernel⟩
theorem ky2_X10_warrant : Cond.instanceMethod yX10_warrant ∈ kT ∧ Cond.selects yX10_warrant.cls yX10_warrant yX10_warrant ∈ kT := ⟨kw1316L, kw1317L⟩
theorem ky_X10_ask : kYok yX10_ask cX10_ask 6 (some .int) 2 := ⟨kw55L, kw1322L, by decide, by decide, by decide +kernel⟩
theorem ky2_X10_ask : Cond.instanceMethod yX10_ask ∈ kT ∧ Cond.selects yX10_ask.cls yX10_ask yX10_ask ∈ kT := ⟨kw1320L, kw1321L⟩
theorem ky_X10_stale : kYok yX10_stale cX10_stale 4 (some .int) 1 := ⟨kw55L, kw1335L, by decide, by decide, by decide +kernel⟩
theorem ky2_X10_stale : Cond.instanceMethod yX10_stale ∈ kT ∧ Cond.selects yX10_stale.cls yX10_stale yX10_stale ∈ kT := ⟨kw1333L, kw1334L⟩
set_option maxHeartbeats 4000000 in
set_option maxRecDepth 100000 in
theorem lw_case_0 {Y : KY} (hC : kCL Y) {cells slots : Nat} {hx hm : KH} {iv : Int32} (hi1 : vp_in (iv + 1) (yL Y)) (hk0 : kd hx 0 = 10) (hk1 : kd hm 0 = 11) {kx : Int32} {bv : Int32} {hx1 hm1 : KH} (e1 : f_L_pass 0 (((yx Y) (iv + 1).toNatClampNeg)) 36 hx = some (.inr kx, hx1)) (e2 : f_X10_pass 0 (((yx Y) (iv + 1).toNatClampNeg)) hm = some (.inr bv, hm1)) (e3 : f_X10_thrown 0 hm1 = some (.inr kx, hm1)) (e4 : kx = 0 → kL hx1 36 0 = bv.toInt64) (hk2 : kd hm1 0 = 11) (hk3 : kd hx1 36 = 22 ∧ ¬ ((0 : Int32) < 0 ∨ kn hx1 36 ≤ (0 : Int32).toNatClampNeg)) (hb : cells + 1 ≤ 601024 ∧ slots + 6 ≤ 7293034) (hb2 : cells + 1 + 0 ≤ 601024 ∧ slots + 6 + 0 ≤ 7293034)
    (kk : kJL Y (cells + 1) (slots + 6) [(0, .inr (.inr (some 0))), (1, .inr (.inr (some 1))), (2, .inr (.inr (some 2))), (3, .inr (.inr (some 3))), (4, .inl iv)] [] 2146 hx1 hm1) : kJL Y cells slots [(0, .inr (.inr (some 0))), (1, .inr (.inr (some 1))), (2, .inr (.inr (some 2))), (3, .inr (.inr (some 3))), (4, .inl iv)] [] 192 hx hm := by
  refine kl_aloadn hC 1 dL_law_192 rfl rfl ?_
  refine kl_aloadn hC 0 dL_law_193 rfl rfl ?_
  refine kl_iload hC 4 dL_law_194 rfl ?_
  refine kl_iconst (v := 1) hC dL_law_196 (by decide) ?_
  refine kl_iadd hC dL_law_197 ?_
  refine kl_sld hC hi1 dL_law_198 ?_
  refine kl_aloadn hC 3 dL_law_199 rfl rfl ?_
  refine kl_wrap (N := 3) (as := [.inl (((yx Y) (iv + 1).toNatClampNeg))]) hC dL_law_200 kw275L kw49L kw277L kw276L (by decide) rfl (by decide +kernel) (t_L_pass 0 (((yx Y) (iv + 1).toNatClampNeg)) 36 hx) e1 (fun v hv o e => by simp at hv; subst hv; cases e) rfl ⟨by decide, by decide⟩ hb ?_
  refine kl_norm (st' := [.inl kx]) rfl ?_
  refine kl_istore (L' := [(5, .inl kx), (0, .inr (.inr (some 0))), (1, .inr (.inr (some 1))), (2, .inr (.inr (some 2))), (3, .inr (.inr (some 3))), (4, .inl iv)]) hC dL_law_203 (by decide) rfl ?_
  refine kl_aloadn hC 3 dL_law_205 rfl rfl ?_
  refine kl_aloadn hC 1 dL_law_206 rfl rfl ?_
  refine kl_iload hC 5 dL_law_207 rfl ?_
  refine kl_iconst (v := 1) hC dL_law_209 (by decide) ?_
  refine kl_iadd hC dL_law_210 ?_
  refine kl_sld hC hi1 dL_law_211 ?_
  refine kl_invM (as := [.inl (((yx Y) (iv + 1).toNatClampNeg))]) (rest := []) hC dL_law_212 kw1081L ky_X10_pass ky2_X10_pass rfl hk1 (t_X10_pass 0 (((yx Y) (iv + 1).toNatClampNeg)) hm) e2 rfl (fun v hv o e => by simp at hv; subst hv; cases e) rfl (Nat.le_of_ble_eq_true rfl) ⟨by decide, by decide⟩ hb2 (fun o h => by cases h) ?_
  refine kl_norm (st' := [.inl bv]) rfl ?_
  refine kl_istore (L' := [(6, .inl bv), (5, .inl kx), (0, .inr (.inr (some 0))), (1, .inr (.inr (some 1))), (2, .inr (.inr (some 2))), (3, .inr (.inr (some 3))), (4, .inl iv)]) hC dL_law_215 (by decide) rfl ?_
  refine kl_aloadn hC 4 dL_law_217 rfl rfl ?_
  refine kl_invM (as := []) (rest := []) hC dL_law_218 kw1077L ky_X10_thrown ky2_X10_thrown rfl hk2 (t_X10_thrown 0 hm1) e3 rfl (fun v hv => by cases hv) rfl (Nat.le_of_ble_eq_true rfl) ⟨by decide, by decide⟩ hb2 (fun o h => by cases h) ?_
  refine kl_norm (st' := [.inl kx]) rfl ?_
  refine kl_iload hC 1 dL_law_221 rfl ?_
  refine kl_icmp_eq (tgt := 228) hC dL_law_223 (by decide) (fun _ => ?_) (fun q => absurd rfl q)
  refine kl_iload hC 1 dL_law_228 rfl ?_
  refine kl_if_ne (tgt := 245) hC dL_law_230 (by decide) (fun q => ?_) (fun q => ?_)
  · refine kl_aloadn hC 5 dL_law_233 rfl rfl ?_
    refine kl_iconst (v := 0) hC dL_law_234 (by decide) ?_
    refine kl_lald hC hk3 dL_law_235 ?_
    refine kl_iload hC 0 dL_law_236 rfl ?_
    refine kl_i2l hC dL_law_238 ?_
    refine kl_lcmp hC dL_law_239 ?_
    refine kl_if_eq (tgt := 245) hC dL_law_240 (by decide) (fun _ => ?_) (fun q2 => absurd (kcmp_eq (e4 q)) q2)
    refine kl_goto (tgt := 2146) hC dL_law_245 (by decide) ?_
    exact kl_sub [2, 3, 4, 5, 6] rfl kk
  · refine kl_goto (tgt := 2146) hC dL_law_245 (by decide) ?_
    exact kl_sub [2, 3, 4, 5, 6] rfl kk
set_option maxHeartbeats 4000000 in
set_option maxRecDepth 100000 in
theorem lw_case_1 {Y : KY} (hC : kCL Y) {cells slots : Nat} {hx hm : KH} {iv : Int32}  (hk0 : kd hx 0 = 10) (hk1 : kd hm 0 = 11) {bv : Int32} {hx1 hm1 : KH} (e1 : f_X9_now 0 hx = some (.inr bv, hx1)) (e2 : f_X10_now 0 hm = some (.inr bv, hm1)) (hb : cells + 0 ≤ 601024 ∧ slots + 0 ≤ 7293034) (hb2 : cells + 0 + 0 ≤ 601024 ∧ slots + 0 + 0 ≤ 7293034)
    (kk : kJL Y (cells + 0) (slots + 0) [(0, .inr (.inr (some 0))), (1, .inr (.inr (some 1))), (2, .inr (.inr (some 2))), (3, .inr (.inr (some 3))), (4, .inl iv)] [] 2146 hx1 hm1) : kJL Y cells slots [(0, .inr (.inr (some 0))), (1, .inr (.inr (some 1))), (2, .inr (.inr (some 2))), (3, .inr (.inr (some 3))), (4, .inl iv)] [] 248 hx hm := by
  refine kl_aloadn hC 1 dL_law_248 rfl rfl ?_
  refine kl_invX (as := []) (rest := []) hC dL_law_249 kw227L ky_X9_now ky2_X9_now rfl hk0 (t_X9_now 0 hx) e1 rfl (fun v hv => by cases hv) rfl (Nat.le_of_ble_eq_true rfl) ⟨by decide, by decide⟩ hb (fun o h => by cases h) ?_
  refine kl_norm (st' := [.inl bv]) rfl ?_
  refine kl_aloadn hC 2 dL_law_252 rfl rfl ?_
  refine kl_invM (as := []) (rest := [.inl bv]) hC dL_law_253 kw1093L ky_X10_now ky2_X10_now rfl hk1 (t_X10_now 0 hm) e2 rfl (fun v hv => by cases hv) rfl (Nat.le_of_ble_eq_true rfl) ⟨by decide, by decide⟩ hb2 (fun o h => by cases h) ?_
  refine kl_norm (st' := [.inl bv, .inl bv]) rfl ?_
  refine kl_icmp_eq (tgt := 2146) hC dL_law_256 (by decide) (fun _ => ?_) (fun q => absurd rfl q)
  exact kl_sub [0, 1, 2, 3, 4] rfl kk
set_option maxHeartbeats 4000000 in
set_option maxRecDepth 100000 in
theorem lw_case_2 {Y : KY} (hC : kCL Y) {cells slots : Nat} {hx hm : KH} {iv : Int32} (hi1 : vp_in (iv + 1) (yL Y)) (hi2 : vp_in (iv + 2) (yL Y)) (hi3 : vp_in (iv + 3) (yL Y)) (hk0 : kd hx 0 = 10) (hk1 : kd hm 0 = 11) {kx : Int32} {bv : Int32} {hx1 hm1 : KH} (e1 : f_L_road 0 (((yx Y) (iv + 1).toNatClampNeg)) (((yx Y) (iv + 2).toNatClampNeg)) (((yx Y) (iv + 3).toNatClampNeg)) 36 hx = some (.inr kx, hx1)) (e2 : f_X10_road 0 (((yx Y) (iv + 1).toNatClampNeg)) (((yx Y) (iv + 2).toNatClampNeg)) (((yx Y) (iv + 3).toNatClampNeg)) hm = some (.inr bv, hm1)) (e3 : f_X10_thrown 0 hm1 = some (.inr kx, hm1)) (e4 : kx = 0 → kL hx1 36 0 = bv.toInt64) (hk2 : kd hm1 0 = 11) (hk3 : kd hx1 36 = 22 ∧ ¬ ((0 : Int32) < 0 ∨ kn hx1 36 ≤ (0 : Int32).toNatClampNeg)) (hb : cells + 3 ≤ 601024 ∧ slots + 18 ≤ 7293034) (hb2 : cells + 3 + 0 ≤ 601024 ∧ slots + 18 + 0 ≤ 7293034)
    (kk : kJL Y (cells + 3) (slots + 18) [(0, .inr (.inr (some 0))), (1, .inr (.inr (some 1))), (2, .inr (.inr (some 2))), (3, .inr (.inr (some 3))), (4, .inl iv)] [] 2146 hx1 hm1) : kJL Y cells slots [(0, .inr (.inr (some 0))), (1, .inr (.inr (some 1))), (2, .inr (.inr (some 2))), (3, .inr (.inr (some 3))), (4, .inl iv)] [] 261 hx hm := by
  refine kl_aloadn hC 1 dL_law_261 rfl rfl ?_
  refine kl_aloadn hC 0 dL_law_262 rfl rfl ?_
  refine kl_iload hC 4 dL_law_263 rfl ?_
  refine kl_iconst (v := 1) hC dL_law_265 (by decide) ?_
  refine kl_iadd hC dL_law_266 ?_
  refine kl_sld hC hi1 dL_law_267 ?_
  refine kl_aloadn hC 0 dL_law_268 rfl rfl ?_
  refine kl_iload hC 4 dL_law_269 rfl ?_
  refine kl_iconst (v := 2) hC dL_law_271 (by decide) ?_
  refine kl_iadd hC dL_law_272 ?_
  refine kl_sld hC hi2 dL_law_273 ?_
  refine kl_aloadn hC 0 dL_law_274 rfl rfl ?_
  refine kl_iload hC 4 dL_law_275 rfl ?_
  refine kl_iconst (v := 3) hC dL_law_277 (by decide) ?_
  refine kl_iadd hC dL_law_278 ?_
  refine kl_sld hC hi3 dL_law_279 ?_
  refine kl_aloadn hC 3 dL_law_280 rfl rfl ?_
  refine kl_wrap (N := 5) (as := [.inl (((yx Y) (iv + 1).toNatClampNeg)), .inl (((yx Y) (iv + 2).toNatClampNeg)), .inl (((yx Y) (iv + 3).toNatClampNeg))]) hC dL_law_281 kw373L kw49L kw375L kw374L (by decide) rfl (by decide +kernel) (t_L_road 0 (((yx Y) (iv + 1).toNatClampNeg)) (((yx Y) (iv + 2).toNatClampNeg)) (((yx Y) (iv + 3).toNatClampNeg)) 36 hx) e1 (fun v hv o e => by simp at hv; rcases hv with rfl | rfl | rfl <;> cases e) rfl ⟨by decide, by decide⟩ hb ?_
  refine kl_norm (st' := [.inl kx]) rfl ?_
  refine kl_istore (L' := [(5, .inl kx), (0, .inr (.inr (some 0))), (1, .inr (.inr (some 1))), (2, .inr (.inr (some 2))), (3, .inr (.inr (some 3))), (4, .inl iv)]) hC dL_law_284 (by decide) rfl ?_
  refine kl_aloadn hC 3 dL_law_286 rfl rfl ?_
  refine kl_aloadn hC 1 dL_law_287 rfl rfl ?_
  refine kl_iload hC 5 dL_law_288 rfl ?_
  refine kl_iconst (v := 1) hC dL_law_290 (by decide) ?_
  refine kl_iadd hC dL_law_291 ?_
  refine kl_sld hC hi1 dL_law_292 ?_
  refine kl_aloadn hC 1 dL_law_293 rfl rfl ?_
  refine kl_iload hC 5 dL_law_294 rfl ?_
  refine kl_iconst (v := 2) hC dL_law_296 (by decide) ?_
  refine kl_iadd hC dL_law_297 ?_
  refine kl_sld hC hi2 dL_law_298 ?_
  refine kl_aloadn hC 1 dL_law_299 rfl rfl ?_
  refine kl_iload hC 5 dL_law_300 rfl ?_
  refine kl_iconst (v := 3) hC dL_law_302 (by decide) ?_
  refine kl_iadd hC dL_law_303 ?_
  refine kl_sld hC hi3 dL_law_304 ?_
  refine kl_invM (as := [.inl (((yx Y) (iv + 1).toNatClampNeg)), .inl (((yx Y) (iv + 2).toNatClampNeg)), .inl (((yx Y) (iv + 3).toNatClampNeg))]) (rest := []) hC dL_law_305 kw1097L ky_X10_road ky2_X10_road rfl hk1 (t_X10_road 0 (((yx Y) (iv + 1).toNatClampNeg)) (((yx Y) (iv + 2).toNatClampNeg)) (((yx Y) (iv + 3).toNatClampNeg)) hm) e2 rfl (fun v hv o e => by simp at hv; rcases hv with rfl | rfl | rfl <;> cases e) rfl (Nat.le_of_ble_eq_true rfl) ⟨by decide, by decide⟩ hb2 (fun o h => by cases h) ?_
  refine kl_norm (st' := [.inl bv]) rfl ?_
  refine kl_istore (L' := [(6, .inl bv), (5, .inl kx), (0, .inr (.inr (some 0))), (1, .inr (.inr (some 1))), (2, .inr (.inr (some 2))), (3, .inr (.inr (some 3))), (4, .inl iv)]) hC dL_law_308 (by decide) rfl ?_
  refine kl_aloadn hC 4 dL_law_310 rfl rfl ?_
  refine kl_invM (as := []) (rest := []) hC dL_law_311 kw1077L ky_X10_thrown ky2_X10_thrown rfl hk2 (t_X10_thrown 0 hm1) e3 rfl (fun v hv => by cases hv) rfl (Nat.le_of_ble_eq_true rfl) ⟨by decide, by decide⟩ hb2 (fun o h => by cases h) ?_
  refine kl_norm (st' := [.inl kx]) rfl ?_
  refine kl_iload hC 1 dL_law_314 rfl ?_
  refine kl_icmp_eq (tgt := 321) hC dL_law_316 (by decide) (fun _ => ?_) (fun q => absurd rfl q)
  refine kl_iload hC 1 dL_law_321 rfl ?_
  refine kl_if_ne (tgt := 338) hC dL_law_323 (by decide) (fun q => ?_) (fun q => ?_)
  · refine kl_aloadn hC 5 dL_law_326 rfl rfl ?_
    refine kl_iconst (v := 0) hC dL_law_327 (by decide) ?_
    refine kl_lald hC hk3 dL_law_328 ?_
    refine kl_iload hC 0 dL_law_329 rfl ?_
    refine kl_i2l hC dL_law_331 ?_
    refine kl_lcmp hC dL_law_332 ?_
    refine kl_if_eq (tgt := 338) hC dL_law_333 (by decide) (fun _ => ?_) (fun q2 => absurd (kcmp_eq (e4 q)) q2)
    refine kl_goto (tgt := 2146) hC dL_law_338 (by decide) ?_
    exact kl_sub [2, 3, 4, 5, 6] rfl kk
  · refine kl_goto (tgt := 2146) hC dL_law_338 (by decide) ?_
    exact kl_sub [2, 3, 4, 5, 6] rfl kk
set_option maxHeartbeats 4000000 in
set_option maxRecDepth 100000 in
theorem lw_case_3 {Y : KY} (hC : kCL Y) {cells slots : Nat} {hx hm : KH} {iv : Int32} (hi1 : vp_in (iv + 1) (yL Y)) (hi2 : vp_in (iv + 2) (yL Y)) (hk0 : kd hx 0 = 10) (hk1 : kd hm 0 = 11) {kx : Int32} {bv : Int32} {hx1 hm1 : KH} (e1 : f_L_distance 0 (((yx Y) (iv + 1).toNatClampNeg)) (((yx Y) (iv + 2).toNatClampNeg)) 36 hx = some (.inr kx, hx1)) (e2 : f_X10_distance 0 (((yx Y) (iv + 1).toNatClampNeg)) (((yx Y) (iv + 2).toNatClampNeg)) hm = some (.inr bv, hm1)) (e3 : f_X10_thrown 0 hm1 = some (.inr kx, hm1)) (e4 : kx = 0 → kL hx1 36 0 = bv.toInt64) (hk2 : kd hm1 0 = 11) (hk3 : kd hx1 36 = 22 ∧ ¬ ((0 : Int32) < 0 ∨ kn hx1 36 ≤ (0 : Int32).toNatClampNeg)) (hb : cells + 2 ≤ 601024 ∧ slots + 12 ≤ 7293034) (hb2 : cells + 2 + 0 ≤ 601024 ∧ slots + 12 + 0 ≤ 7293034)
    (kk : kJL Y (cells + 2) (slots + 12) [(0, .inr (.inr (some 0))), (1, .inr (.inr (some 1))), (2, .inr (.inr (some 2))), (3, .inr (.inr (some 3))), (4, .inl iv)] [] 2146 hx1 hm1) : kJL Y cells slots [(0, .inr (.inr (some 0))), (1, .inr (.inr (some 1))), (2, .inr (.inr (some 2))), (3, .inr (.inr (some 3))), (4, .inl iv)] [] 341 hx hm := by
  refine kl_aloadn hC 1 dL_law_341 rfl rfl ?_
  refine kl_aloadn hC 0 dL_law_342 rfl rfl ?_
  refine kl_iload hC 4 dL_law_343 rfl ?_
  refine kl_iconst (v := 1) hC dL_law_345 (by decide) ?_
  refine kl_iadd hC dL_law_346 ?_
  refine kl_sld hC hi1 dL_law_347 ?_
  refine kl_aloadn hC 0 dL_law_348 rfl rfl ?_
  refine kl_iload hC 4 dL_law_349 rfl ?_
  refine kl_iconst (v := 2) hC dL_law_351 (by decide) ?_
  refine kl_iadd hC dL_law_352 ?_
  refine kl_sld hC hi2 dL_law_353 ?_
  refine kl_aloadn hC 3 dL_law_354 rfl rfl ?_
  refine kl_wrap (N := 4) (as := [.inl (((yx Y) (iv + 1).toNatClampNeg)), .inl (((yx Y) (iv + 2).toNatClampNeg))]) hC dL_law_355 kw426L kw49L kw428L kw427L (by decide) rfl (by decide +kernel) (t_L_distance 0 (((yx Y) (iv + 1).toNatClampNeg)) (((yx Y) (iv + 2).toNatClampNeg)) 36 hx) e1 (fun v hv o e => by simp at hv; rcases hv with rfl | rfl <;> cases e) rfl ⟨by decide, by decide⟩ hb ?_
  refine kl_norm (st' := [.inl kx]) rfl ?_
  refine kl_istore (L' := [(5, .inl kx), (0, .inr (.inr (some 0))), (1, .inr (.inr (some 1))), (2, .inr (.inr (some 2))), (3, .inr (.inr (some 3))), (4, .inl iv)]) hC dL_law_358 (by decide) rfl ?_
  refine kl_aloadn hC 3 dL_law_360 rfl rfl ?_
  refine kl_aloadn hC 1 dL_law_361 rfl rfl ?_
  refine kl_iload hC 5 dL_law_362 rfl ?_
  refine kl_iconst (v := 1) hC dL_law_364 (by decide) ?_
  refine kl_iadd hC dL_law_365 ?_
  refine kl_sld hC hi1 dL_law_366 ?_
  refine kl_aloadn hC 1 dL_law_367 rfl rfl ?_
  refine kl_iload hC 5 dL_law_368 rfl ?_
  refine kl_iconst (v := 2) hC dL_law_370 (by decide) ?_
  refine kl_iadd hC dL_law_371 ?_
  refine kl_sld hC hi2 dL_law_372 ?_
  refine kl_invM (as := [.inl (((yx Y) (iv + 1).toNatClampNeg)), .inl (((yx Y) (iv + 2).toNatClampNeg))]) (rest := []) hC dL_law_373 kw1104L ky_X10_distance ky2_X10_distance rfl hk1 (t_X10_distance 0 (((yx Y) (iv + 1).toNatClampNeg)) (((yx Y) (iv + 2).toNatClampNeg)) hm) e2 rfl (fun v hv o e => by simp at hv; rcases hv with rfl | rfl <;> cases e) rfl (Nat.le_of_ble_eq_true rfl) ⟨by decide, by decide⟩ hb2 (fun o h => by cases h) ?_
  refine kl_norm (st' := [.inl bv]) rfl ?_
  refine kl_istore (L' := [(6, .inl bv), (5, .inl kx), (0, .inr (.inr (some 0))), (1, .inr (.inr (some 1))), (2, .inr (.inr (some 2))), (3, .inr (.inr (some 3))), (4, .inl iv)]) hC dL_law_376 (by decide) rfl ?_
  refine kl_aloadn hC 4 dL_law_378 rfl rfl ?_
  refine kl_invM (as := []) (rest := []) hC dL_law_379 kw1077L ky_X10_thrown ky2_X10_thrown rfl hk2 (t_X10_thrown 0 hm1) e3 rfl (fun v hv => by cases hv) rfl (Nat.le_of_ble_eq_true rfl) ⟨by decide, by decide⟩ hb2 (fun o h => by cases h) ?_
  refine kl_norm (st' := [.inl kx]) rfl ?_
  refine kl_iload hC 1 dL_law_382 rfl ?_
  refine kl_icmp_eq (tgt := 389) hC dL_law_384 (by decide) (fun _ => ?_) (fun q => absurd rfl q)
  refine kl_iload hC 1 dL_law_389 rfl ?_
  refine kl_if_ne (tgt := 406) hC dL_law_391 (by decide) (fun q => ?_) (fun q => ?_)
  · refine kl_aloadn hC 5 dL_law_394 rfl rfl ?_
    refine kl_iconst (v := 0) hC dL_law_395 (by decide) ?_
    refine kl_lald hC hk3 dL_law_396 ?_
    refine kl_iload hC 0 dL_law_397 rfl ?_
    refine kl_i2l hC dL_law_399 ?_
    refine kl_lcmp hC dL_law_400 ?_
    refine kl_if_eq (tgt := 406) hC dL_law_401 (by decide) (fun _ => ?_) (fun q2 => absurd (kcmp_eq (e4 q)) q2)
    refine kl_goto (tgt := 2146) hC dL_law_406 (by decide) ?_
    exact kl_sub [2, 3, 4, 5, 6] rfl kk
  · refine kl_goto (tgt := 2146) hC dL_law_406 (by decide) ?_
    exact kl_sub [2, 3, 4, 5, 6] rfl kk
set_option maxHeartbeats 4000000 in
set_option maxRecDepth 100000 in
theorem lw_case_4 {Y : KY} (hC : kCL Y) {cells slots : Nat} {hx hm : KH} {iv : Int32} (hi1 : vp_in (iv + 1) (yL Y)) (hk0 : kd hx 0 = 10) (hk1 : kd hm 0 = 11) {kx : Int32} {bv : Int32} {hx1 hm1 : KH} (e1 : f_L_setPause 0 (((yx Y) (iv + 1).toNatClampNeg)) 36 hx = some (.inr kx, hx1)) (e2 : f_X10_setPause 0 (((yx Y) (iv + 1).toNatClampNeg)) hm = some (.inr bv, hm1)) (e3 : f_X10_thrown 0 hm1 = some (.inr kx, hm1)) (e4 : kx = 0 → kL hx1 36 0 = bv.toInt64) (hk2 : kd hm1 0 = 11) (hk3 : kd hx1 36 = 22 ∧ ¬ ((0 : Int32) < 0 ∨ kn hx1 36 ≤ (0 : Int32).toNatClampNeg)) (hb : cells + 1 ≤ 601024 ∧ slots + 6 ≤ 7293034) (hb2 : cells + 1 + 0 ≤ 601024 ∧ slots + 6 + 0 ≤ 7293034)
    (kk : kJL Y (cells + 1) (slots + 6) [(0, .inr (.inr (some 0))), (1, .inr (.inr (some 1))), (2, .inr (.inr (some 2))), (3, .inr (.inr (some 3))), (4, .inl iv)] [] 2146 hx1 hm1) : kJL Y cells slots [(0, .inr (.inr (some 0))), (1, .inr (.inr (some 1))), (2, .inr (.inr (some 2))), (3, .inr (.inr (some 3))), (4, .inl iv)] [] 409 hx hm := by
  refine kl_aloadn hC 1 dL_law_409 rfl rfl ?_
  refine kl_aloadn hC 0 dL_law_410 rfl rfl ?_
  refine kl_iload hC 4 dL_law_411 rfl ?_
  refine kl_iconst (v := 1) hC dL_law_413 (by decide) ?_
  refine kl_iadd hC dL_law_414 ?_
  refine kl_sld hC hi1 dL_law_415 ?_
  refine kl_aloadn hC 3 dL_law_416 rfl rfl ?_
  refine kl_wrap (N := 3) (as := [.inl (((yx Y) (iv + 1).toNatClampNeg))]) hC dL_law_417 kw434L kw49L kw436L kw435L (by decide) rfl (by decide +kernel) (t_L_setPause 0 (((yx Y) (iv + 1).toNatClampNeg)) 36 hx) e1 (fun v hv o e => by simp at hv; subst hv; cases e) rfl ⟨by decide, by decide⟩ hb ?_
  refine kl_norm (st' := [.inl kx]) rfl ?_
  refine kl_istore (L' := [(5, .inl kx), (0, .inr (.inr (some 0))), (1, .inr (.inr (some 1))), (2, .inr (.inr (some 2))), (3, .inr (.inr (some 3))), (4, .inl iv)]) hC dL_law_420 (by decide) rfl ?_
  refine kl_aloadn hC 3 dL_law_422 rfl rfl ?_
  refine kl_aloadn hC 1 dL_law_423 rfl rfl ?_
  refine kl_iload hC 5 dL_law_424 rfl ?_
  refine kl_iconst (v := 1) hC dL_law_426 (by decide) ?_
  refine kl_iadd hC dL_law_427 ?_
  refine kl_sld hC hi1 dL_law_428 ?_
  refine kl_invM (as := [.inl (((yx Y) (iv + 1).toNatClampNeg))]) (rest := []) hC dL_law_429 kw1108L ky_X10_setPause ky2_X10_setPause rfl hk1 (t_X10_setPause 0 (((yx Y) (iv + 1).toNatClampNeg)) hm) e2 rfl (fun v hv o e => by simp at hv; subst hv; cases e) rfl (Nat.le_of_ble_eq_true rfl) ⟨by decide, by decide⟩ hb2 (fun o h => by cases h) ?_
  refine kl_norm (st' := [.inl bv]) rfl ?_
  refine kl_istore (L' := [(6, .inl bv), (5, .inl kx), (0, .inr (.inr (some 0))), (1, .inr (.inr (some 1))), (2, .inr (.inr (some 2))), (3, .inr (.inr (some 3))), (4, .inl iv)]) hC dL_law_432 (by decide) rfl ?_
  refine kl_aloadn hC 4 dL_law_434 rfl rfl ?_
  refine kl_invM (as := []) (rest := []) hC dL_law_435 kw1077L ky_X10_thrown ky2_X10_thrown rfl hk2 (t_X10_thrown 0 hm1) e3 rfl (fun v hv => by cases hv) rfl (Nat.le_of_ble_eq_true rfl) ⟨by decide, by decide⟩ hb2 (fun o h => by cases h) ?_
  refine kl_norm (st' := [.inl kx]) rfl ?_
  refine kl_iload hC 1 dL_law_438 rfl ?_
  refine kl_icmp_eq (tgt := 445) hC dL_law_440 (by decide) (fun _ => ?_) (fun q => absurd rfl q)
  refine kl_iload hC 1 dL_law_445 rfl ?_
  refine kl_if_ne (tgt := 462) hC dL_law_447 (by decide) (fun q => ?_) (fun q => ?_)
  · refine kl_aloadn hC 5 dL_law_450 rfl rfl ?_
    refine kl_iconst (v := 0) hC dL_law_451 (by decide) ?_
    refine kl_lald hC hk3 dL_law_452 ?_
    refine kl_iload hC 0 dL_law_453 rfl ?_
    refine kl_i2l hC dL_law_455 ?_
    refine kl_lcmp hC dL_law_456 ?_
    refine kl_if_eq (tgt := 462) hC dL_law_457 (by decide) (fun _ => ?_) (fun q2 => absurd (kcmp_eq (e4 q)) q2)
    refine kl_goto (tgt := 2146) hC dL_law_462 (by decide) ?_
    exact kl_sub [2, 3, 4, 5, 6] rfl kk
  · refine kl_goto (tgt := 2146) hC dL_law_462 (by decide) ?_
    exact kl_sub [2, 3, 4, 5, 6] rfl kk
set_option maxHeartbeats 4000000 in
set_option maxRecDepth 100000 in
theorem lw_case_5 {Y : KY} (hC : kCL Y) {cells slots : Nat} {hx hm : KH} {iv : Int32} (hi1 : vp_in (iv + 1) (yL Y)) (hi2 : vp_in (iv + 2) (yL Y)) (hk0 : kd hx 0 = 10) (hk1 : kd hm 0 = 11) {kx : Int32} {bv : Int32} {hx1 hm1 : KH} (e1 : f_L_setRate 0 (((yx Y) (iv + 1).toNatClampNeg)) (((yx Y) (iv + 2).toNatClampNeg)) 36 hx = some (.inr kx, hx1)) (e2 : f_X10_setRate 0 (((yx Y) (iv + 1).toNatClampNeg)) (((yx Y) (iv + 2).toNatClampNeg)) hm = some (.inr bv, hm1)) (e3 : f_X10_thrown 0 hm1 = some (.inr kx, hm1)) (e4 : kx = 0 → kL hx1 36 0 = bv.toInt64) (hk2 : kd hm1 0 = 11) (hk3 : kd hx1 36 = 22 ∧ ¬ ((0 : Int32) < 0 ∨ kn hx1 36 ≤ (0 : Int32).toNatClampNeg)) (hb : cells + 2 ≤ 601024 ∧ slots + 12 ≤ 7293034) (hb2 : cells + 2 + 0 ≤ 601024 ∧ slots + 12 + 0 ≤ 7293034)
    (kk : kJL Y (cells + 2) (slots + 12) [(0, .inr (.inr (some 0))), (1, .inr (.inr (some 1))), (2, .inr (.inr (some 2))), (3, .inr (.inr (some 3))), (4, .inl iv)] [] 2146 hx1 hm1) : kJL Y cells slots [(0, .inr (.inr (some 0))), (1, .inr (.inr (some 1))), (2, .inr (.inr (some 2))), (3, .inr (.inr (some 3))), (4, .inl iv)] [] 465 hx hm := by
  refine kl_aloadn hC 1 dL_law_465 rfl rfl ?_
  refine kl_aloadn hC 0 dL_law_466 rfl rfl ?_
  refine kl_iload hC 4 dL_law_467 rfl ?_
  refine kl_iconst (v := 1) hC dL_law_469 (by decide) ?_
  refine kl_iadd hC dL_law_470 ?_
  refine kl_sld hC hi1 dL_law_471 ?_
  refine kl_aloadn hC 0 dL_law_472 rfl rfl ?_
  refine kl_iload hC 4 dL_law_473 rfl ?_
  refine kl_iconst (v := 2) hC dL_law_475 (by decide) ?_
  refine kl_iadd hC dL_law_476 ?_
  refine kl_sld hC hi2 dL_law_477 ?_
  refine kl_aloadn hC 3 dL_law_478 rfl rfl ?_
  refine kl_wrap (N := 4) (as := [.inl (((yx Y) (iv + 1).toNatClampNeg)), .inl (((yx Y) (iv + 2).toNatClampNeg))]) hC dL_law_479 kw442L kw49L kw444L kw443L (by decide) rfl (by decide +kernel) (t_L_setRate 0 (((yx Y) (iv + 1).toNatClampNeg)) (((yx Y) (iv + 2).toNatClampNeg)) 36 hx) e1 (fun v hv o e => by simp at hv; rcases hv with rfl | rfl <;> cases e) rfl ⟨by decide, by decide⟩ hb ?_
  refine kl_norm (st' := [.inl kx]) rfl ?_
  refine kl_istore (L' := [(5, .inl kx), (0, .inr (.inr (some 0))), (1, .inr (.inr (some 1))), (2, .inr (.inr (some 2))), (3, .inr (.inr (some 3))), (4, .inl iv)]) hC dL_law_482 (by decide) rfl ?_
  refine kl_aloadn hC 3 dL_law_484 rfl rfl ?_
  refine kl_aloadn hC 1 dL_law_485 rfl rfl ?_
  refine kl_iload hC 5 dL_law_486 rfl ?_
  refine kl_iconst (v := 1) hC dL_law_488 (by decide) ?_
  refine kl_iadd hC dL_law_489 ?_
  refine kl_sld hC hi1 dL_law_490 ?_
  refine kl_aloadn hC 1 dL_law_491 rfl rfl ?_
  refine kl_iload hC 5 dL_law_492 rfl ?_
  refine kl_iconst (v := 2) hC dL_law_494 (by decide) ?_
  refine kl_iadd hC dL_law_495 ?_
  refine kl_sld hC hi2 dL_law_496 ?_
  refine kl_invM (as := [.inl (((yx Y) (iv + 1).toNatClampNeg)), .inl (((yx Y) (iv + 2).toNatClampNeg))]) (rest := []) hC dL_law_497 kw1112L ky_X10_setRate ky2_X10_setRate rfl hk1 (t_X10_setRate 0 (((yx Y) (iv + 1).toNatClampNeg)) (((yx Y) (iv + 2).toNatClampNeg)) hm) e2 rfl (fun v hv o e => by simp at hv; rcases hv with rfl | rfl <;> cases e) rfl (Nat.le_of_ble_eq_true rfl) ⟨by decide, by decide⟩ hb2 (fun o h => by cases h) ?_
  refine kl_norm (st' := [.inl bv]) rfl ?_
  refine kl_istore (L' := [(6, .inl bv), (5, .inl kx), (0, .inr (.inr (some 0))), (1, .inr (.inr (some 1))), (2, .inr (.inr (some 2))), (3, .inr (.inr (some 3))), (4, .inl iv)]) hC dL_law_500 (by decide) rfl ?_
  refine kl_aloadn hC 4 dL_law_502 rfl rfl ?_
  refine kl_invM (as := []) (rest := []) hC dL_law_503 kw1077L ky_X10_thrown ky2_X10_thrown rfl hk2 (t_X10_thrown 0 hm1) e3 rfl (fun v hv => by cases hv) rfl (Nat.le_of_ble_eq_true rfl) ⟨by decide, by decide⟩ hb2 (fun o h => by cases h) ?_
  refine kl_norm (st' := [.inl kx]) rfl ?_
  refine kl_iload hC 1 dL_law_506 rfl ?_
  refine kl_icmp_eq (tgt := 513) hC dL_law_508 (by decide) (fun _ => ?_) (fun q => absurd rfl q)
  refine kl_iload hC 1 dL_law_513 rfl ?_
  refine kl_if_ne (tgt := 530) hC dL_law_515 (by decide) (fun q => ?_) (fun q => ?_)
  · refine kl_aloadn hC 5 dL_law_518 rfl rfl ?_
    refine kl_iconst (v := 0) hC dL_law_519 (by decide) ?_
    refine kl_lald hC hk3 dL_law_520 ?_
    refine kl_iload hC 0 dL_law_521 rfl ?_
    refine kl_i2l hC dL_law_523 ?_
    refine kl_lcmp hC dL_law_524 ?_
    refine kl_if_eq (tgt := 530) hC dL_law_525 (by decide) (fun _ => ?_) (fun q2 => absurd (kcmp_eq (e4 q)) q2)
    refine kl_goto (tgt := 2146) hC dL_law_530 (by decide) ?_
    exact kl_sub [2, 3, 4, 5, 6] rfl kk
  · refine kl_goto (tgt := 2146) hC dL_law_530 (by decide) ?_
    exact kl_sub [2, 3, 4, 5, 6] rfl kk
set_option maxHeartbeats 4000000 in
set_option maxRecDepth 100000 in
theorem lw_case_6 {Y : KY} (hC : kCL Y) {cells slots : Nat} {hx hm : KH} {iv : Int32} (hi1 : vp_in (iv + 1) (yL Y)) (hk0 : kd hx 0 = 10) (hk1 : kd hm 0 = 11) {kx : Int32} {bv : Int32} {hx1 hm1 : KH} (e1 : f_L_spell 0 (((yx Y) (iv + 1).toNatClampNeg)) 36 hx = some (.inr kx, hx1)) (e2 : f_X10_spell 0 (((yx Y) (iv + 1).toNatClampNeg)) hm = some (.inr bv, hm1)) (e3 : f_X10_thrown 0 hm1 = some (.inr kx, hm1)) (e4 : kx = 0 → kL hx1 36 0 = bv.toInt64) (hk2 : kd hm1 0 = 11) (hk3 : kd hx1 36 = 22 ∧ ¬ ((0 : Int32) < 0 ∨ kn hx1 36 ≤ (0 : Int32).toNatClampNeg)) (hb : cells + 2 ≤ 601024 ∧ slots + 12 ≤ 7293034) (hb2 : cells + 2 + 0 ≤ 601024 ∧ slots + 12 + 0 ≤ 7293034)
    (kk : kJL Y (cells + 2) (slots + 12) [(0, .inr (.inr (some 0))), (1, .inr (.inr (some 1))), (2, .inr (.inr (some 2))), (3, .inr (.inr (some 3))), (4, .inl iv)] [] 2146 hx1 hm1) : kJL Y cells slots [(0, .inr (.inr (some 0))), (1, .inr (.inr (some 1))), (2, .inr (.inr (some 2))), (3, .inr (.inr (some 3))), (4, .inl iv)] [] 533 hx hm := by
  refine kl_aloadn hC 1 dL_law_533 rfl rfl ?_
  refine kl_aloadn hC 0 dL_law_534 rfl rfl ?_
  refine kl_iload hC 4 dL_law_535 rfl ?_
  refine kl_iconst (v := 1) hC dL_law_537 (by decide) ?_
  refine kl_iadd hC dL_law_538 ?_
  refine kl_sld hC hi1 dL_law_539 ?_
  refine kl_aloadn hC 3 dL_law_540 rfl rfl ?_
  refine kl_wrap (N := 3) (as := [.inl (((yx Y) (iv + 1).toNatClampNeg))]) hC dL_law_541 kw454L kw49L kw456L kw455L (by decide) rfl (by decide +kernel) (t_L_spell 0 (((yx Y) (iv + 1).toNatClampNeg)) 36 hx) e1 (fun v hv o e => by simp at hv; subst hv; cases e) rfl ⟨by decide, by decide⟩ hb ?_
  refine kl_norm (st' := [.inl kx]) rfl ?_
  refine kl_istore (L' := [(5, .inl kx), (0, .inr (.inr (some 0))), (1, .inr (.inr (some 1))), (2, .inr (.inr (some 2))), (3, .inr (.inr (some 3))), (4, .inl iv)]) hC dL_law_544 (by decide) rfl ?_
  refine kl_aloadn hC 3 dL_law_546 rfl rfl ?_
  refine kl_aloadn hC 1 dL_law_547 rfl rfl ?_
  refine kl_iload hC 5 dL_law_548 rfl ?_
  refine kl_iconst (v := 1) hC dL_law_550 (by decide) ?_
  refine kl_iadd hC dL_law_551 ?_
  refine kl_sld hC hi1 dL_law_552 ?_
  refine kl_invM (as := [.inl (((yx Y) (iv + 1).toNatClampNeg))]) (rest := []) hC dL_law_553 kw1116L ky_X10_spell ky2_X10_spell rfl hk1 (t_X10_spell 0 (((yx Y) (iv + 1).toNatClampNeg)) hm) e2 rfl (fun v hv o e => by simp at hv; subst hv; cases e) rfl (Nat.le_of_ble_eq_true rfl) ⟨by decide, by decide⟩ hb2 (fun o h => by cases h) ?_
  refine kl_norm (st' := [.inl bv]) rfl ?_
  refine kl_istore (L' := [(6, .inl bv), (5, .inl kx), (0, .inr (.inr (some 0))), (1, .inr (.inr (some 1))), (2, .inr (.inr (some 2))), (3, .inr (.inr (some 3))), (4, .inl iv)]) hC dL_law_556 (by decide) rfl ?_
  refine kl_aloadn hC 4 dL_law_558 rfl rfl ?_
  refine kl_invM (as := []) (rest := []) hC dL_law_559 kw1077L ky_X10_thrown ky2_X10_thrown rfl hk2 (t_X10_thrown 0 hm1) e3 rfl (fun v hv => by cases hv) rfl (Nat.le_of_ble_eq_true rfl) ⟨by decide, by decide⟩ hb2 (fun o h => by cases h) ?_
  refine kl_norm (st' := [.inl kx]) rfl ?_
  refine kl_iload hC 1 dL_law_562 rfl ?_
  refine kl_icmp_eq (tgt := 569) hC dL_law_564 (by decide) (fun _ => ?_) (fun q => absurd rfl q)
  refine kl_iload hC 1 dL_law_569 rfl ?_
  refine kl_if_ne (tgt := 586) hC dL_law_571 (by decide) (fun q => ?_) (fun q => ?_)
  · refine kl_aloadn hC 5 dL_law_574 rfl rfl ?_
    refine kl_iconst (v := 0) hC dL_law_575 (by decide) ?_
    refine kl_lald hC hk3 dL_law_576 ?_
    refine kl_iload hC 0 dL_law_577 rfl ?_
    refine kl_i2l hC dL_law_579 ?_
    refine kl_lcmp hC dL_law_580 ?_
    refine kl_if_eq (tgt := 586) hC dL_law_581 (by decide) (fun _ => ?_) (fun q2 => absurd (kcmp_eq (e4 q)) q2)
    refine kl_goto (tgt := 2146) hC dL_law_586 (by decide) ?_
    exact kl_sub [2, 3, 4, 5, 6] rfl kk
  · refine kl_goto (tgt := 2146) hC dL_law_586 (by decide) ?_
    exact kl_sub [2, 3, 4, 5, 6] rfl kk
set_option maxHeartbeats 4000000 in
set_option maxRecDepth 100000 in
theorem lw_case_7 {Y : KY} (hC : kCL Y) {cells slots : Nat} {hx hm : KH} {iv : Int32} (hi1 : vp_in (iv + 1) (yL Y)) (hi2 : vp_in (iv + 2) (yL Y)) (hk0 : kd hx 0 = 10) (hk1 : kd hm 0 = 11) {kx : Int32} {bv : Int32} {hx1 hm1 : KH} (e1 : f_L_insert 0 (((yx Y) (iv + 1).toNatClampNeg)) (((yx Y) (iv + 2).toNatClampNeg)) 36 hx = some (.inr kx, hx1)) (e2 : f_X10_insert 0 (((yx Y) (iv + 1).toNatClampNeg)) (((yx Y) (iv + 2).toNatClampNeg)) hm = some (.inr bv, hm1)) (e3 : f_X10_thrown 0 hm1 = some (.inr kx, hm1)) (e4 : kx = 0 → kL hx1 36 0 = bv.toInt64) (hk2 : kd hm1 0 = 11) (hk3 : kd hx1 36 = 22 ∧ ¬ ((0 : Int32) < 0 ∨ kn hx1 36 ≤ (0 : Int32).toNatClampNeg)) (hb : cells + 2 ≤ 601024 ∧ slots + 12 ≤ 7293034) (hb2 : cells + 2 + 0 ≤ 601024 ∧ slots + 12 + 0 ≤ 7293034)
    (kk : kJL Y (cells + 2) (slots + 12) [(0, .inr (.inr (some 0))), (1, .inr (.inr (some 1))), (2, .inr (.inr (some 2))), (3, .inr (.inr (some 3))), (4, .inl iv)] [] 2146 hx1 hm1) : kJL Y cells slots [(0, .inr (.inr (some 0))), (1, .inr (.inr (some 1))), (2, .inr (.inr (some 2))), (3, .inr (.inr (some 3))), (4, .inl iv)] [] 589 hx hm := by
  refine kl_aloadn hC 1 dL_law_589 rfl rfl ?_
  refine kl_aloadn hC 0 dL_law_590 rfl rfl ?_
  refine kl_iload hC 4 dL_law_591 rfl ?_
  refine kl_iconst (v := 1) hC dL_law_593 (by decide) ?_
  refine kl_iadd hC dL_law_594 ?_
  refine kl_sld hC hi1 dL_law_595 ?_
  refine kl_aloadn hC 0 dL_law_596 rfl rfl ?_
  refine kl_iload hC 4 dL_law_597 rfl ?_
  refine kl_iconst (v := 2) hC dL_law_599 (by decide) ?_
  refine kl_iadd hC dL_law_600 ?_
  refine kl_sld hC hi2 dL_law_601 ?_
  refine kl_aloadn hC 3 dL_law_602 rfl rfl ?_
  refine kl_wrap (N := 4) (as := [.inl (((yx Y) (iv + 1).toNatClampNeg)), .inl (((yx Y) (iv + 2).toNatClampNeg))]) hC dL_law_603 kw484L kw49L kw486L kw485L (by decide) rfl (by decide +kernel) (t_L_insert 0 (((yx Y) (iv + 1).toNatClampNeg)) (((yx Y) (iv + 2).toNatClampNeg)) 36 hx) e1 (fun v hv o e => by simp at hv; rcases hv with rfl | rfl <;> cases e) rfl ⟨by decide, by decide⟩ hb ?_
  refine kl_norm (st' := [.inl kx]) rfl ?_
  refine kl_istore (L' := [(5, .inl kx), (0, .inr (.inr (some 0))), (1, .inr (.inr (some 1))), (2, .inr (.inr (some 2))), (3, .inr (.inr (some 3))), (4, .inl iv)]) hC dL_law_606 (by decide) rfl ?_
  refine kl_aloadn hC 3 dL_law_608 rfl rfl ?_
  refine kl_aloadn hC 1 dL_law_609 rfl rfl ?_
  refine kl_iload hC 5 dL_law_610 rfl ?_
  refine kl_iconst (v := 1) hC dL_law_612 (by decide) ?_
  refine kl_iadd hC dL_law_613 ?_
  refine kl_sld hC hi1 dL_law_614 ?_
  refine kl_aloadn hC 1 dL_law_615 rfl rfl ?_
  refine kl_iload hC 5 dL_law_616 rfl ?_
  refine kl_iconst (v := 2) hC dL_law_618 (by decide) ?_
  refine kl_iadd hC dL_law_619 ?_
  refine kl_sld hC hi2 dL_law_620 ?_
  refine kl_invM (as := [.inl (((yx Y) (iv + 1).toNatClampNeg)), .inl (((yx Y) (iv + 2).toNatClampNeg))]) (rest := []) hC dL_law_621 kw1134L ky_X10_insert ky2_X10_insert rfl hk1 (t_X10_insert 0 (((yx Y) (iv + 1).toNatClampNeg)) (((yx Y) (iv + 2).toNatClampNeg)) hm) e2 rfl (fun v hv o e => by simp at hv; rcases hv with rfl | rfl <;> cases e) rfl (Nat.le_of_ble_eq_true rfl) ⟨by decide, by decide⟩ hb2 (fun o h => by cases h) ?_
  refine kl_norm (st' := [.inl bv]) rfl ?_
  refine kl_istore (L' := [(6, .inl bv), (5, .inl kx), (0, .inr (.inr (some 0))), (1, .inr (.inr (some 1))), (2, .inr (.inr (some 2))), (3, .inr (.inr (some 3))), (4, .inl iv)]) hC dL_law_624 (by decide) rfl ?_
  refine kl_aloadn hC 4 dL_law_626 rfl rfl ?_
  refine kl_invM (as := []) (rest := []) hC dL_law_627 kw1077L ky_X10_thrown ky2_X10_thrown rfl hk2 (t_X10_thrown 0 hm1) e3 rfl (fun v hv => by cases hv) rfl (Nat.le_of_ble_eq_true rfl) ⟨by decide, by decide⟩ hb2 (fun o h => by cases h) ?_
  refine kl_norm (st' := [.inl kx]) rfl ?_
  refine kl_iload hC 1 dL_law_630 rfl ?_
  refine kl_icmp_eq (tgt := 637) hC dL_law_632 (by decide) (fun _ => ?_) (fun q => absurd rfl q)
  refine kl_iload hC 1 dL_law_637 rfl ?_
  refine kl_if_ne (tgt := 654) hC dL_law_639 (by decide) (fun q => ?_) (fun q => ?_)
  · refine kl_aloadn hC 5 dL_law_642 rfl rfl ?_
    refine kl_iconst (v := 0) hC dL_law_643 (by decide) ?_
    refine kl_lald hC hk3 dL_law_644 ?_
    refine kl_iload hC 0 dL_law_645 rfl ?_
    refine kl_i2l hC dL_law_647 ?_
    refine kl_lcmp hC dL_law_648 ?_
    refine kl_if_eq (tgt := 654) hC dL_law_649 (by decide) (fun _ => ?_) (fun q2 => absurd (kcmp_eq (e4 q)) q2)
    refine kl_goto (tgt := 2146) hC dL_law_654 (by decide) ?_
    exact kl_sub [2, 3, 4, 5, 6] rfl kk
  · refine kl_goto (tgt := 2146) hC dL_law_654 (by decide) ?_
    exact kl_sub [2, 3, 4, 5, 6] rfl kk
set_option maxHeartbeats 4000000 in
set_option maxRecDepth 100000 in
theorem lw_case_8 {Y : KY} (hC : kCL Y) {cells slots : Nat} {hx hm : KH} {iv : Int32}  (hk0 : kd hx 0 = 10) (hk1 : kd hm 0 = 11) {bv : Int32} {hx1 hm1 : KH} (e1 : f_X9_mirror 0 hx = some (.inr bv, hx1)) (e2 : f_X10_mirror 0 hm = some (.inr bv, hm1)) (hb : cells + 0 ≤ 601024 ∧ slots + 0 ≤ 7293034) (hb2 : cells + 0 + 0 ≤ 601024 ∧ slots + 0 + 0 ≤ 7293034)
    (kk : kJL Y (cells + 0) (slots + 0) [(0, .inr (.inr (some 0))), (1, .inr (.inr (some 1))), (2, .inr (.inr (some 2))), (3, .inr (.inr (some 3))), (4, .inl iv)] [] 2146 hx1 hm1) : kJL Y cells slots [(0, .inr (.inr (some 0))), (1, .inr (.inr (some 1))), (2, .inr (.inr (some 2))), (3, .inr (.inr (some 3))), (4, .inl iv)] [] 657 hx hm := by
  refine kl_aloadn hC 1 dL_law_657 rfl rfl ?_
  refine kl_invX (as := []) (rest := []) hC dL_law_658 kw231L ky_X9_mirror ky2_X9_mirror rfl hk0 (t_X9_mirror 0 hx) e1 rfl (fun v hv => by cases hv) rfl (Nat.le_of_ble_eq_true rfl) ⟨by decide, by decide⟩ hb (fun o h => by cases h) ?_
  refine kl_norm (st' := [.inl bv]) rfl ?_
  refine kl_aloadn hC 2 dL_law_661 rfl rfl ?_
  refine kl_invM (as := []) (rest := [.inl bv]) hC dL_law_662 kw1138L ky_X10_mirror ky2_X10_mirror rfl hk1 (t_X10_mirror 0 hm) e2 rfl (fun v hv => by cases hv) rfl (Nat.le_of_ble_eq_true rfl) ⟨by decide, by decide⟩ hb2 (fun o h => by cases h) ?_
  refine kl_norm (st' := [.inl bv, .inl bv]) rfl ?_
  refine kl_icmp_eq (tgt := 2146) hC dL_law_665 (by decide) (fun _ => ?_) (fun q => absurd rfl q)
  exact kl_sub [0, 1, 2, 3, 4] rfl kk
set_option maxHeartbeats 4000000 in
set_option maxRecDepth 100000 in
theorem lw_case_9 {Y : KY} (hC : kCL Y) {cells slots : Nat} {hx hm : KH} {iv : Int32}  (hk0 : kd hx 0 = 10) (hk1 : kd hm 0 = 11) {bv : Int32} {hx1 hm1 : KH} (e1 : f_X9_clearSpelled 0 hx = some (.inr bv, hx1)) (e2 : f_X10_clearSpelled 0 hm = some (.inr bv, hm1)) (hb : cells + 0 ≤ 601024 ∧ slots + 0 ≤ 7293034) (hb2 : cells + 0 + 0 ≤ 601024 ∧ slots + 0 + 0 ≤ 7293034)
    (kk : kJL Y (cells + 0) (slots + 0) [(0, .inr (.inr (some 0))), (1, .inr (.inr (some 1))), (2, .inr (.inr (some 2))), (3, .inr (.inr (some 3))), (4, .inl iv)] [] 2146 hx1 hm1) : kJL Y cells slots [(0, .inr (.inr (some 0))), (1, .inr (.inr (some 1))), (2, .inr (.inr (some 2))), (3, .inr (.inr (some 3))), (4, .inl iv)] [] 670 hx hm := by
  refine kl_aloadn hC 1 dL_law_670 rfl rfl ?_
  refine kl_invX (as := []) (rest := []) hC dL_law_671 kw239L ky_X9_clearSpelled ky2_X9_clearSpelled rfl hk0 (t_X9_clearSpelled 0 hx) e1 rfl (fun v hv => by cases hv) rfl (Nat.le_of_ble_eq_true rfl) ⟨by decide, by decide⟩ hb (fun o h => by cases h) ?_
  refine kl_norm (st' := [.inl bv]) rfl ?_
  refine kl_aloadn hC 2 dL_law_674 rfl rfl ?_
  refine kl_invM (as := []) (rest := [.inl bv]) hC dL_law_675 kw1142L ky_X10_clearSpelled ky2_X10_clearSpelled rfl hk1 (t_X10_clearSpelled 0 hm) e2 rfl (fun v hv => by cases hv) rfl (Nat.le_of_ble_eq_true rfl) ⟨by decide, by decide⟩ hb2 (fun o h => by cases h) ?_
  refine kl_norm (st' := [.inl bv, .inl bv]) rfl ?_
  refine kl_icmp_eq (tgt := 2146) hC dL_law_678 (by decide) (fun _ => ?_) (fun q => absurd rfl q)
  exact kl_sub [0, 1, 2, 3, 4] rfl kk
set_option maxHeartbeats 4000000 in
set_option maxRecDepth 100000 in
theorem lw_case_10 {Y : KY} (hC : kCL Y) {cells slots : Nat} {hx hm : KH} {iv : Int32} (hi1 : vp_in (iv + 1) (yL Y)) (hk0 : kd hx 0 = 10) (hk1 : kd hm 0 = 11) {kx : Int32} {bv : Int32} {hx1 hm1 : KH} (e1 : f_L_charAt 0 (((yx Y) (iv + 1).toNatClampNeg)) 36 hx = some (.inr kx, hx1)) (e2 : f_X10_charAt 0 (((yx Y) (iv + 1).toNatClampNeg)) hm = some (.inr bv, hm1)) (e3 : f_X10_thrown 0 hm1 = some (.inr kx, hm1)) (e4 : kx = 0 → kL hx1 36 0 = bv.toInt64) (hk2 : kd hm1 0 = 11) (hk3 : kd hx1 36 = 22 ∧ ¬ ((0 : Int32) < 0 ∨ kn hx1 36 ≤ (0 : Int32).toNatClampNeg)) (hb : cells + 1 ≤ 601024 ∧ slots + 6 ≤ 7293034) (hb2 : cells + 1 + 0 ≤ 601024 ∧ slots + 6 + 0 ≤ 7293034)
    (kk : kJL Y (cells + 1) (slots + 6) [(0, .inr (.inr (some 0))), (1, .inr (.inr (some 1))), (2, .inr (.inr (some 2))), (3, .inr (.inr (some 3))), (4, .inl iv)] [] 2146 hx1 hm1) : kJL Y cells slots [(0, .inr (.inr (some 0))), (1, .inr (.inr (some 1))), (2, .inr (.inr (some 2))), (3, .inr (.inr (some 3))), (4, .inl iv)] [] 683 hx hm := by
  refine kl_aloadn hC 1 dL_law_683 rfl rfl ?_
  refine kl_aloadn hC 0 dL_law_684 rfl rfl ?_
  refine kl_iload hC 4 dL_law_685 rfl ?_
  refine kl_iconst (v := 1) hC dL_law_687 (by decide) ?_
  refine kl_iadd hC dL_law_688 ?_
  refine kl_sld hC hi1 dL_law_689 ?_
  refine kl_aloadn hC 3 dL_law_690 rfl rfl ?_
  refine kl_wrap (N := 3) (as := [.inl (((yx Y) (iv + 1).toNatClampNeg))]) hC dL_law_691 kw492L kw49L kw494L kw493L (by decide) rfl (by decide +kernel) (t_L_charAt 0 (((yx Y) (iv + 1).toNatClampNeg)) 36 hx) e1 (fun v hv o e => by simp at hv; subst hv; cases e) rfl ⟨by decide, by decide⟩ hb ?_
  refine kl_norm (st' := [.inl kx]) rfl ?_
  refine kl_istore (L' := [(5, .inl kx), (0, .inr (.inr (some 0))), (1, .inr (.inr (some 1))), (2, .inr (.inr (some 2))), (3, .inr (.inr (some 3))), (4, .inl iv)]) hC dL_law_694 (by decide) rfl ?_
  refine kl_aloadn hC 3 dL_law_696 rfl rfl ?_
  refine kl_aloadn hC 1 dL_law_697 rfl rfl ?_
  refine kl_iload hC 5 dL_law_698 rfl ?_
  refine kl_iconst (v := 1) hC dL_law_700 (by decide) ?_
  refine kl_iadd hC dL_law_701 ?_
  refine kl_sld hC hi1 dL_law_702 ?_
  refine kl_invM (as := [.inl (((yx Y) (iv + 1).toNatClampNeg))]) (rest := []) hC dL_law_703 kw1146L ky_X10_charAt ky2_X10_charAt rfl hk1 (t_X10_charAt 0 (((yx Y) (iv + 1).toNatClampNeg)) hm) e2 rfl (fun v hv o e => by simp at hv; subst hv; cases e) rfl (Nat.le_of_ble_eq_true rfl) ⟨by decide, by decide⟩ hb2 (fun o h => by cases h) ?_
  refine kl_norm (st' := [.inl bv]) rfl ?_
  refine kl_istore (L' := [(6, .inl bv), (5, .inl kx), (0, .inr (.inr (some 0))), (1, .inr (.inr (some 1))), (2, .inr (.inr (some 2))), (3, .inr (.inr (some 3))), (4, .inl iv)]) hC dL_law_706 (by decide) rfl ?_
  refine kl_aloadn hC 4 dL_law_708 rfl rfl ?_
  refine kl_invM (as := []) (rest := []) hC dL_law_709 kw1077L ky_X10_thrown ky2_X10_thrown rfl hk2 (t_X10_thrown 0 hm1) e3 rfl (fun v hv => by cases hv) rfl (Nat.le_of_ble_eq_true rfl) ⟨by decide, by decide⟩ hb2 (fun o h => by cases h) ?_
  refine kl_norm (st' := [.inl kx]) rfl ?_
  refine kl_iload hC 1 dL_law_712 rfl ?_
  refine kl_icmp_eq (tgt := 719) hC dL_law_714 (by decide) (fun _ => ?_) (fun q => absurd rfl q)
  refine kl_iload hC 1 dL_law_719 rfl ?_
  refine kl_if_ne (tgt := 736) hC dL_law_721 (by decide) (fun q => ?_) (fun q => ?_)
  · refine kl_aloadn hC 5 dL_law_724 rfl rfl ?_
    refine kl_iconst (v := 0) hC dL_law_725 (by decide) ?_
    refine kl_lald hC hk3 dL_law_726 ?_
    refine kl_iload hC 0 dL_law_727 rfl ?_
    refine kl_i2l hC dL_law_729 ?_
    refine kl_lcmp hC dL_law_730 ?_
    refine kl_if_eq (tgt := 736) hC dL_law_731 (by decide) (fun _ => ?_) (fun q2 => absurd (kcmp_eq (e4 q)) q2)
    refine kl_goto (tgt := 2146) hC dL_law_736 (by decide) ?_
    exact kl_sub [2, 3, 4, 5, 6] rfl kk
  · refine kl_goto (tgt := 2146) hC dL_law_736 (by decide) ?_
    exact kl_sub [2, 3, 4, 5, 6] rfl kk
set_option maxHeartbeats 4000000 in
set_option maxRecDepth 100000 in
theorem lw_case_11 {Y : KY} (hC : kCL Y) {cells slots : Nat} {hx hm : KH} {iv : Int32} (hi1 : vp_in (iv + 1) (yL Y)) (hi2 : vp_in (iv + 2) (yL Y)) (hk0 : kd hx 0 = 10) (hk1 : kd hm 0 = 11) {kx : Int32} {bv : Int32} {hx1 hm1 : KH} (e1 : f_L_alike 0 (((yx Y) (iv + 1).toNatClampNeg)) (((yx Y) (iv + 2).toNatClampNeg)) 36 hx = some (.inr kx, hx1)) (e2 : f_X10_alike 0 (((yx Y) (iv + 1).toNatClampNeg)) (((yx Y) (iv + 2).toNatClampNeg)) hm = some (.inr bv, hm1)) (e3 : f_X10_thrown 0 hm1 = some (.inr kx, hm1)) (e4a : kx = 0 → bv = 0 → kL hx1 36 0 = 0) (e4b : kx = 0 → ¬ bv = 0 → kL hx1 36 0 = 1) (hk2 : kd hm1 0 = 11) (hk3 : kd hx1 36 = 22 ∧ ¬ ((0 : Int32) < 0 ∨ kn hx1 36 ≤ (0 : Int32).toNatClampNeg)) (hb : cells + 3 ≤ 601024 ∧ slots + 18 ≤ 7293034) (hb2 : cells + 3 + 0 ≤ 601024 ∧ slots + 18 + 0 ≤ 7293034)
    (kk : kJL Y (cells + 3) (slots + 18) [(0, .inr (.inr (some 0))), (1, .inr (.inr (some 1))), (2, .inr (.inr (some 2))), (3, .inr (.inr (some 3))), (4, .inl iv)] [] 2146 hx1 hm1) : kJL Y cells slots [(0, .inr (.inr (some 0))), (1, .inr (.inr (some 1))), (2, .inr (.inr (some 2))), (3, .inr (.inr (some 3))), (4, .inl iv)] [] 739 hx hm := by
  refine kl_aloadn hC 1 dL_law_739 rfl rfl ?_
  refine kl_aloadn hC 0 dL_law_740 rfl rfl ?_
  refine kl_iload hC 4 dL_law_741 rfl ?_
  refine kl_iconst (v := 1) hC dL_law_743 (by decide) ?_
  refine kl_iadd hC dL_law_744 ?_
  refine kl_sld hC hi1 dL_law_745 ?_
  refine kl_aloadn hC 0 dL_law_746 rfl rfl ?_
  refine kl_iload hC 4 dL_law_747 rfl ?_
  refine kl_iconst (v := 2) hC dL_law_749 (by decide) ?_
  refine kl_iadd hC dL_law_750 ?_
  refine kl_sld hC hi2 dL_law_751 ?_
  refine kl_aloadn hC 3 dL_law_752 rfl rfl ?_
  refine kl_wrap (N := 4) (as := [.inl (((yx Y) (iv + 1).toNatClampNeg)), .inl (((yx Y) (iv + 2).toNatClampNeg))]) hC dL_law_753 kw525L kw49L kw527L kw526L (by decide) rfl (by decide +kernel) (t_L_alike 0 (((yx Y) (iv + 1).toNatClampNeg)) (((yx Y) (iv + 2).toNatClampNeg)) 36 hx) e1 (fun v hv o e => by simp at hv; rcases hv with rfl | rfl <;> cases e) rfl ⟨by decide, by decide⟩ hb ?_
  refine kl_norm (st' := [.inl kx]) rfl ?_
  refine kl_istore (L' := [(5, .inl kx), (0, .inr (.inr (some 0))), (1, .inr (.inr (some 1))), (2, .inr (.inr (some 2))), (3, .inr (.inr (some 3))), (4, .inl iv)]) hC dL_law_756 (by decide) rfl ?_
  refine kl_aloadn hC 3 dL_law_758 rfl rfl ?_
  refine kl_aloadn hC 1 dL_law_759 rfl rfl ?_
  refine kl_iload hC 5 dL_law_760 rfl ?_
  refine kl_iconst (v := 1) hC dL_law_762 (by decide) ?_
  refine kl_iadd hC dL_law_763 ?_
  refine kl_sld hC hi1 dL_law_764 ?_
  refine kl_aloadn hC 1 dL_law_765 rfl rfl ?_
  refine kl_iload hC 5 dL_law_766 rfl ?_
  refine kl_iconst (v := 2) hC dL_law_768 (by decide) ?_
  refine kl_iadd hC dL_law_769 ?_
  refine kl_sld hC hi2 dL_law_770 ?_
  refine kl_invM (as := [.inl (((yx Y) (iv + 1).toNatClampNeg)), .inl (((yx Y) (iv + 2).toNatClampNeg))]) (rest := []) hC dL_law_771 kw1152L ky_X10_alike ky2_X10_alike rfl hk1 (t_X10_alike 0 (((yx Y) (iv + 1).toNatClampNeg)) (((yx Y) (iv + 2).toNatClampNeg)) hm) e2 rfl (fun v hv o e => by simp at hv; rcases hv with rfl | rfl <;> cases e) rfl (Nat.le_of_ble_eq_true rfl) ⟨by decide, by decide⟩ hb2 (fun o h => by cases h) ?_
  refine kl_norm (st' := [.inl bv]) rfl ?_
  refine kl_istore (L' := [(6, .inl bv), (5, .inl kx), (0, .inr (.inr (some 0))), (1, .inr (.inr (some 1))), (2, .inr (.inr (some 2))), (3, .inr (.inr (some 3))), (4, .inl iv)]) hC dL_law_774 (by decide) rfl ?_
  refine kl_aloadn hC 4 dL_law_776 rfl rfl ?_
  refine kl_invM (as := []) (rest := []) hC dL_law_777 kw1077L ky_X10_thrown ky2_X10_thrown rfl hk2 (t_X10_thrown 0 hm1) e3 rfl (fun v hv => by cases hv) rfl (Nat.le_of_ble_eq_true rfl) ⟨by decide, by decide⟩ hb2 (fun o h => by cases h) ?_
  refine kl_norm (st' := [.inl kx]) rfl ?_
  refine kl_iload hC 1 dL_law_780 rfl ?_
  refine kl_icmp_eq (tgt := 787) hC dL_law_782 (by decide) (fun _ => ?_) (fun q => absurd rfl q)
  refine kl_iload hC 1 dL_law_787 rfl ?_
  refine kl_if_ne (tgt := 811) hC dL_law_789 (by decide) (fun q => ?_) (fun q => ?_)
  · refine kl_aloadn hC 5 dL_law_792 rfl rfl ?_
    refine kl_iconst (v := 0) hC dL_law_793 (by decide) ?_
    refine kl_lald hC hk3 dL_law_794 ?_
    refine kl_iload hC 0 dL_law_795 rfl ?_
    refine kl_if_eq (tgt := 804) hC dL_law_797 (by decide) (fun qz => ?_) (fun qz => ?_)
    · refine kl_lconst (v := 0) hC dL_law_804 (by decide) ?_
      refine kl_lcmp hC dL_law_805 ?_
      refine kl_if_eq (tgt := 811) hC dL_law_806 (by decide) (fun _ => ?_) (fun q2 => absurd (kcmp_eq (e4a q qz)) q2)
      refine kl_goto (tgt := 2146) hC dL_law_811 (by decide) ?_
      exact kl_sub [2, 3, 4, 5, 6] rfl kk
    · refine kl_lconst (v := 1) hC dL_law_800 (by decide) ?_
      refine kl_goto (tgt := 805) hC dL_law_801 (by decide) ?_
      refine kl_lcmp hC dL_law_805 ?_
      refine kl_if_eq (tgt := 811) hC dL_law_806 (by decide) (fun _ => ?_) (fun q2 => absurd (kcmp_eq (e4b q qz)) q2)
      refine kl_goto (tgt := 2146) hC dL_law_811 (by decide) ?_
      exact kl_sub [2, 3, 4, 5, 6] rfl kk
  · refine kl_goto (tgt := 2146) hC dL_law_811 (by decide) ?_
    exact kl_sub [2, 3, 4, 5, 6] rfl kk
set_option maxHeartbeats 4000000 in
set_option maxRecDepth 100000 in
theorem lw_case_12 {Y : KY} (hC : kCL Y) {cells slots : Nat} {hx hm : KH} {iv : Int32} (hi1 : vp_in (iv + 1) (yL Y)) (hi2 : vp_in (iv + 2) (yL Y)) (hk0 : kd hx 0 = 10) (hk1 : kd hm 0 = 11) {kx : Int32} {bv : Int32} {hx1 hm1 : KH} (e1 : f_L_register 0 (((yx Y) (iv + 1).toNatClampNeg)) (((yx Y) (iv + 2).toNatClampNeg)) 36 hx = some (.inr kx, hx1)) (e2 : f_X10_register 0 (((yx Y) (iv + 1).toNatClampNeg)) (((yx Y) (iv + 2).toNatClampNeg)) hm = some (.inr bv, hm1)) (e3 : f_X10_thrown 0 hm1 = some (.inr kx, hm1)) (e4 : kx = 0 → kL hx1 36 0 = bv.toInt64) (hk2 : kd hm1 0 = 11) (hk3 : kd hx1 36 = 22 ∧ ¬ ((0 : Int32) < 0 ∨ kn hx1 36 ≤ (0 : Int32).toNatClampNeg)) (hb : cells + 9 ≤ 601024 ∧ slots + 151 ≤ 7293034) (hb2 : cells + 9 + 0 ≤ 601024 ∧ slots + 151 + 0 ≤ 7293034)
    (kk : kJL Y (cells + 9) (slots + 151) [(0, .inr (.inr (some 0))), (1, .inr (.inr (some 1))), (2, .inr (.inr (some 2))), (3, .inr (.inr (some 3))), (4, .inl iv)] [] 2146 hx1 hm1) : kJL Y cells slots [(0, .inr (.inr (some 0))), (1, .inr (.inr (some 1))), (2, .inr (.inr (some 2))), (3, .inr (.inr (some 3))), (4, .inl iv)] [] 814 hx hm := by
  refine kl_aloadn hC 1 dL_law_814 rfl rfl ?_
  refine kl_aloadn hC 0 dL_law_815 rfl rfl ?_
  refine kl_iload hC 4 dL_law_816 rfl ?_
  refine kl_iconst (v := 1) hC dL_law_818 (by decide) ?_
  refine kl_iadd hC dL_law_819 ?_
  refine kl_sld hC hi1 dL_law_820 ?_
  refine kl_aloadn hC 0 dL_law_821 rfl rfl ?_
  refine kl_iload hC 4 dL_law_822 rfl ?_
  refine kl_iconst (v := 2) hC dL_law_824 (by decide) ?_
  refine kl_iadd hC dL_law_825 ?_
  refine kl_sld hC hi2 dL_law_826 ?_
  refine kl_aloadn hC 3 dL_law_827 rfl rfl ?_
  refine kl_wrap (N := 4) (as := [.inl (((yx Y) (iv + 1).toNatClampNeg)), .inl (((yx Y) (iv + 2).toNatClampNeg))]) hC dL_law_828 kw585L kw49L kw587L kw586L (by decide) rfl (by decide +kernel) (t_L_register 0 (((yx Y) (iv + 1).toNatClampNeg)) (((yx Y) (iv + 2).toNatClampNeg)) 36 hx) e1 (fun v hv o e => by simp at hv; rcases hv with rfl | rfl <;> cases e) rfl ⟨by decide, by decide⟩ hb ?_
  refine kl_norm (st' := [.inl kx]) rfl ?_
  refine kl_istore (L' := [(5, .inl kx), (0, .inr (.inr (some 0))), (1, .inr (.inr (some 1))), (2, .inr (.inr (some 2))), (3, .inr (.inr (some 3))), (4, .inl iv)]) hC dL_law_831 (by decide) rfl ?_
  refine kl_aloadn hC 3 dL_law_833 rfl rfl ?_
  refine kl_aloadn hC 1 dL_law_834 rfl rfl ?_
  refine kl_iload hC 5 dL_law_835 rfl ?_
  refine kl_iconst (v := 1) hC dL_law_837 (by decide) ?_
  refine kl_iadd hC dL_law_838 ?_
  refine kl_sld hC hi1 dL_law_839 ?_
  refine kl_aloadn hC 1 dL_law_840 rfl rfl ?_
  refine kl_iload hC 5 dL_law_841 rfl ?_
  refine kl_iconst (v := 2) hC dL_law_843 (by decide) ?_
  refine kl_iadd hC dL_law_844 ?_
  refine kl_sld hC hi2 dL_law_845 ?_
  refine kl_invM (as := [.inl (((yx Y) (iv + 1).toNatClampNeg)), .inl (((yx Y) (iv + 2).toNatClampNeg))]) (rest := []) hC dL_law_846 kw1156L ky_X10_register ky2_X10_register rfl hk1 (t_X10_register 0 (((yx Y) (iv + 1).toNatClampNeg)) (((yx Y) (iv + 2).toNatClampNeg)) hm) e2 rfl (fun v hv o e => by simp at hv; rcases hv with rfl | rfl <;> cases e) rfl (Nat.le_of_ble_eq_true rfl) ⟨by decide, by decide⟩ hb2 (fun o h => by cases h) ?_
  refine kl_norm (st' := [.inl bv]) rfl ?_
  refine kl_istore (L' := [(6, .inl bv), (5, .inl kx), (0, .inr (.inr (some 0))), (1, .inr (.inr (some 1))), (2, .inr (.inr (some 2))), (3, .inr (.inr (some 3))), (4, .inl iv)]) hC dL_law_849 (by decide) rfl ?_
  refine kl_aloadn hC 4 dL_law_851 rfl rfl ?_
  refine kl_invM (as := []) (rest := []) hC dL_law_852 kw1077L ky_X10_thrown ky2_X10_thrown rfl hk2 (t_X10_thrown 0 hm1) e3 rfl (fun v hv => by cases hv) rfl (Nat.le_of_ble_eq_true rfl) ⟨by decide, by decide⟩ hb2 (fun o h => by cases h) ?_
  refine kl_norm (st' := [.inl kx]) rfl ?_
  refine kl_iload hC 1 dL_law_855 rfl ?_
  refine kl_icmp_eq (tgt := 862) hC dL_law_857 (by decide) (fun _ => ?_) (fun q => absurd rfl q)
  refine kl_iload hC 1 dL_law_862 rfl ?_
  refine kl_if_ne (tgt := 879) hC dL_law_864 (by decide) (fun q => ?_) (fun q => ?_)
  · refine kl_aloadn hC 5 dL_law_867 rfl rfl ?_
    refine kl_iconst (v := 0) hC dL_law_868 (by decide) ?_
    refine kl_lald hC hk3 dL_law_869 ?_
    refine kl_iload hC 0 dL_law_870 rfl ?_
    refine kl_i2l hC dL_law_872 ?_
    refine kl_lcmp hC dL_law_873 ?_
    refine kl_if_eq (tgt := 879) hC dL_law_874 (by decide) (fun _ => ?_) (fun q2 => absurd (kcmp_eq (e4 q)) q2)
    refine kl_goto (tgt := 2146) hC dL_law_879 (by decide) ?_
    exact kl_sub [2, 3, 4, 5, 6] rfl kk
  · refine kl_goto (tgt := 2146) hC dL_law_879 (by decide) ?_
    exact kl_sub [2, 3, 4, 5, 6] rfl kk
set_option maxHeartbeats 4000000 in
set_option maxRecDepth 100000 in
theorem lw_case_13 {Y : KY} (hC : kCL Y) {cells slots : Nat} {hx hm : KH} {iv : Int32} (hi1 : vp_in (iv + 1) (yL Y)) (hi2 : vp_in (iv + 2) (yL Y)) (hk0 : kd hx 0 = 10) (hk1 : kd hm 0 = 11) {kx : Int32} {bv : Int32} {hx1 hm1 : KH} (e1 : f_L_sell 0 (((yx Y) (iv + 1).toNatClampNeg)) (((yx Y) (iv + 2).toNatClampNeg)) 36 hx = some (.inr kx, hx1)) (e2 : f_X10_sell 0 (((yx Y) (iv + 1).toNatClampNeg)) (((yx Y) (iv + 2).toNatClampNeg)) hm = some (.inr bv, hm1)) (e3 : f_X10_thrown 0 hm1 = some (.inr kx, hm1)) (e4 : kx = 0 → kL hx1 36 0 = bv.toInt64) (hk2 : kd hm1 0 = 11) (hk3 : kd hx1 36 = 22 ∧ ¬ ((0 : Int32) < 0 ∨ kn hx1 36 ≤ (0 : Int32).toNatClampNeg)) (hb : cells + 3 ≤ 601024 ∧ slots + 15 ≤ 7293034) (hb2 : cells + 3 + 0 ≤ 601024 ∧ slots + 15 + 0 ≤ 7293034)
    (kk : kJL Y (cells + 3) (slots + 15) [(0, .inr (.inr (some 0))), (1, .inr (.inr (some 1))), (2, .inr (.inr (some 2))), (3, .inr (.inr (some 3))), (4, .inl iv)] [] 2146 hx1 hm1) : kJL Y cells slots [(0, .inr (.inr (some 0))), (1, .inr (.inr (some 1))), (2, .inr (.inr (some 2))), (3, .inr (.inr (some 3))), (4, .inl iv)] [] 882 hx hm := by
  refine kl_aloadn hC 1 dL_law_882 rfl rfl ?_
  refine kl_aloadn hC 0 dL_law_883 rfl rfl ?_
  refine kl_iload hC 4 dL_law_884 rfl ?_
  refine kl_iconst (v := 1) hC dL_law_886 (by decide) ?_
  refine kl_iadd hC dL_law_887 ?_
  refine kl_sld hC hi1 dL_law_888 ?_
  refine kl_aloadn hC 0 dL_law_889 rfl rfl ?_
  refine kl_iload hC 4 dL_law_890 rfl ?_
  refine kl_iconst (v := 2) hC dL_law_892 (by decide) ?_
  refine kl_iadd hC dL_law_893 ?_
  refine kl_sld hC hi2 dL_law_894 ?_
  refine kl_aloadn hC 3 dL_law_895 rfl rfl ?_
  refine kl_wrap (N := 4) (as := [.inl (((yx Y) (iv + 1).toNatClampNeg)), .inl (((yx Y) (iv + 2).toNatClampNeg))]) hC dL_law_896 kw674L kw49L kw676L kw675L (by decide) rfl (by decide +kernel) (t_L_sell 0 (((yx Y) (iv + 1).toNatClampNeg)) (((yx Y) (iv + 2).toNatClampNeg)) 36 hx) e1 (fun v hv o e => by simp at hv; rcases hv with rfl | rfl <;> cases e) rfl ⟨by decide, by decide⟩ hb ?_
  refine kl_norm (st' := [.inl kx]) rfl ?_
  refine kl_istore (L' := [(5, .inl kx), (0, .inr (.inr (some 0))), (1, .inr (.inr (some 1))), (2, .inr (.inr (some 2))), (3, .inr (.inr (some 3))), (4, .inl iv)]) hC dL_law_899 (by decide) rfl ?_
  refine kl_aloadn hC 3 dL_law_901 rfl rfl ?_
  refine kl_aloadn hC 1 dL_law_902 rfl rfl ?_
  refine kl_iload hC 5 dL_law_903 rfl ?_
  refine kl_iconst (v := 1) hC dL_law_905 (by decide) ?_
  refine kl_iadd hC dL_law_906 ?_
  refine kl_sld hC hi1 dL_law_907 ?_
  refine kl_aloadn hC 1 dL_law_908 rfl rfl ?_
  refine kl_iload hC 5 dL_law_909 rfl ?_
  refine kl_iconst (v := 2) hC dL_law_911 (by decide) ?_
  refine kl_iadd hC dL_law_912 ?_
  refine kl_sld hC hi2 dL_law_913 ?_
  refine kl_invM (as := [.inl (((yx Y) (iv + 1).toNatClampNeg)), .inl (((yx Y) (iv + 2).toNatClampNeg))]) (rest := []) hC dL_law_914 kw1175L ky_X10_sell ky2_X10_sell rfl hk1 (t_X10_sell 0 (((yx Y) (iv + 1).toNatClampNeg)) (((yx Y) (iv + 2).toNatClampNeg)) hm) e2 rfl (fun v hv o e => by simp at hv; rcases hv with rfl | rfl <;> cases e) rfl (Nat.le_of_ble_eq_true rfl) ⟨by decide, by decide⟩ hb2 (fun o h => by cases h) ?_
  refine kl_norm (st' := [.inl bv]) rfl ?_
  refine kl_istore (L' := [(6, .inl bv), (5, .inl kx), (0, .inr (.inr (some 0))), (1, .inr (.inr (some 1))), (2, .inr (.inr (some 2))), (3, .inr (.inr (some 3))), (4, .inl iv)]) hC dL_law_917 (by decide) rfl ?_
  refine kl_aloadn hC 4 dL_law_919 rfl rfl ?_
  refine kl_invM (as := []) (rest := []) hC dL_law_920 kw1077L ky_X10_thrown ky2_X10_thrown rfl hk2 (t_X10_thrown 0 hm1) e3 rfl (fun v hv => by cases hv) rfl (Nat.le_of_ble_eq_true rfl) ⟨by decide, by decide⟩ hb2 (fun o h => by cases h) ?_
  refine kl_norm (st' := [.inl kx]) rfl ?_
  refine kl_iload hC 1 dL_law_923 rfl ?_
  refine kl_icmp_eq (tgt := 930) hC dL_law_925 (by decide) (fun _ => ?_) (fun q => absurd rfl q)
  refine kl_iload hC 1 dL_law_930 rfl ?_
  refine kl_if_ne (tgt := 947) hC dL_law_932 (by decide) (fun q => ?_) (fun q => ?_)
  · refine kl_aloadn hC 5 dL_law_935 rfl rfl ?_
    refine kl_iconst (v := 0) hC dL_law_936 (by decide) ?_
    refine kl_lald hC hk3 dL_law_937 ?_
    refine kl_iload hC 0 dL_law_938 rfl ?_
    refine kl_i2l hC dL_law_940 ?_
    refine kl_lcmp hC dL_law_941 ?_
    refine kl_if_eq (tgt := 947) hC dL_law_942 (by decide) (fun _ => ?_) (fun q2 => absurd (kcmp_eq (e4 q)) q2)
    refine kl_goto (tgt := 2146) hC dL_law_947 (by decide) ?_
    exact kl_sub [2, 3, 4, 5, 6] rfl kk
  · refine kl_goto (tgt := 2146) hC dL_law_947 (by decide) ?_
    exact kl_sub [2, 3, 4, 5, 6] rfl kk
set_option maxHeartbeats 4000000 in
set_option maxRecDepth 100000 in
theorem lw_case_14 {Y : KY} (hC : kCL Y) {cells slots : Nat} {hx hm : KH} {iv : Int32}  (hk0 : kd hx 0 = 10) (hk1 : kd hm 0 = 11) {bv : Int32} {hx1 hm1 : KH} (e1 : f_X9_plates 0 hx = some (.inr bv, hx1)) (e2 : f_X10_plates 0 hm = some (.inr bv, hm1)) (hb : cells + 0 ≤ 601024 ∧ slots + 0 ≤ 7293034) (hb2 : cells + 0 + 0 ≤ 601024 ∧ slots + 0 + 0 ≤ 7293034)
    (kk : kJL Y (cells + 0) (slots + 0) [(0, .inr (.inr (some 0))), (1, .inr (.inr (some 1))), (2, .inr (.inr (some 2))), (3, .inr (.inr (some 3))), (4, .inl iv)] [] 2146 hx1 hm1) : kJL Y cells slots [(0, .inr (.inr (some 0))), (1, .inr (.inr (some 1))), (2, .inr (.inr (some 2))), (3, .inr (.inr (some 3))), (4, .inl iv)] [] 950 hx hm := by
  refine kl_aloadn hC 1 dL_law_950 rfl rfl ?_
  refine kl_invX (as := []) (rest := []) hC dL_law_951 kw243L ky_X9_plates ky2_X9_plates rfl hk0 (t_X9_plates 0 hx) e1 rfl (fun v hv => by cases hv) rfl (Nat.le_of_ble_eq_true rfl) ⟨by decide, by decide⟩ hb (fun o h => by cases h) ?_
  refine kl_norm (st' := [.inl bv]) rfl ?_
  refine kl_aloadn hC 2 dL_law_954 rfl rfl ?_
  refine kl_invM (as := []) (rest := [.inl bv]) hC dL_law_955 kw1187L ky_X10_plates ky2_X10_plates rfl hk1 (t_X10_plates 0 hm) e2 rfl (fun v hv => by cases hv) rfl (Nat.le_of_ble_eq_true rfl) ⟨by decide, by decide⟩ hb2 (fun o h => by cases h) ?_
  refine kl_norm (st' := [.inl bv, .inl bv]) rfl ?_
  refine kl_icmp_eq (tgt := 2146) hC dL_law_958 (by decide) (fun _ => ?_) (fun q => absurd rfl q)
  exact kl_sub [0, 1, 2, 3, 4] rfl kk
set_option maxHeartbeats 4000000 in
set_option maxRecDepth 100000 in
theorem lw_case_15 {Y : KY} (hC : kCL Y) {cells slots : Nat} {hx hm : KH} {iv : Int32} (hi1 : vp_in (iv + 1) (yL Y)) (hk0 : kd hx 0 = 10) (hk1 : kd hm 0 = 11) {kx : Int32} {bv : Int32} {hx1 hm1 : KH} (e1 : f_L_plateAt 0 (((yx Y) (iv + 1).toNatClampNeg)) 36 hx = some (.inr kx, hx1)) (e2 : f_X10_plateAt 0 (((yx Y) (iv + 1).toNatClampNeg)) hm = some (.inr bv, hm1)) (e3 : f_X10_thrown 0 hm1 = some (.inr kx, hm1)) (e4 : kx = 0 → kL hx1 36 0 = bv.toInt64) (hk2 : kd hm1 0 = 11) (hk3 : kd hx1 36 = 22 ∧ ¬ ((0 : Int32) < 0 ∨ kn hx1 36 ≤ (0 : Int32).toNatClampNeg)) (hb : cells + 1 ≤ 601024 ∧ slots + 6 ≤ 7293034) (hb2 : cells + 1 + 0 ≤ 601024 ∧ slots + 6 + 0 ≤ 7293034)
    (kk : kJL Y (cells + 1) (slots + 6) [(0, .inr (.inr (some 0))), (1, .inr (.inr (some 1))), (2, .inr (.inr (some 2))), (3, .inr (.inr (some 3))), (4, .inl iv)] [] 2146 hx1 hm1) : kJL Y cells slots [(0, .inr (.inr (some 0))), (1, .inr (.inr (some 1))), (2, .inr (.inr (some 2))), (3, .inr (.inr (some 3))), (4, .inl iv)] [] 963 hx hm := by
  refine kl_aloadn hC 1 dL_law_963 rfl rfl ?_
  refine kl_aloadn hC 0 dL_law_964 rfl rfl ?_
  refine kl_iload hC 4 dL_law_965 rfl ?_
  refine kl_iconst (v := 1) hC dL_law_967 (by decide) ?_
  refine kl_iadd hC dL_law_968 ?_
  refine kl_sld hC hi1 dL_law_969 ?_
  refine kl_aloadn hC 3 dL_law_970 rfl rfl ?_
  refine kl_wrap (N := 3) (as := [.inl (((yx Y) (iv + 1).toNatClampNeg))]) hC dL_law_971 kw692L kw49L kw694L kw693L (by decide) rfl (by decide +kernel) (t_L_plateAt 0 (((yx Y) (iv + 1).toNatClampNeg)) 36 hx) e1 (fun v hv o e => by simp at hv; subst hv; cases e) rfl ⟨by decide, by decide⟩ hb ?_
  refine kl_norm (st' := [.inl kx]) rfl ?_
  refine kl_istore (L' := [(5, .inl kx), (0, .inr (.inr (some 0))), (1, .inr (.inr (some 1))), (2, .inr (.inr (some 2))), (3, .inr (.inr (some 3))), (4, .inl iv)]) hC dL_law_974 (by decide) rfl ?_
  refine kl_aloadn hC 3 dL_law_976 rfl rfl ?_
  refine kl_aloadn hC 1 dL_law_977 rfl rfl ?_
  refine kl_iload hC 5 dL_law_978 rfl ?_
  refine kl_iconst (v := 1) hC dL_law_980 (by decide) ?_
  refine kl_iadd hC dL_law_981 ?_
  refine kl_sld hC hi1 dL_law_982 ?_
  refine kl_invM (as := [.inl (((yx Y) (iv + 1).toNatClampNeg))]) (rest := []) hC dL_law_983 kw1191L ky_X10_plateAt ky2_X10_plateAt rfl hk1 (t_X10_plateAt 0 (((yx Y) (iv + 1).toNatClampNeg)) hm) e2 rfl (fun v hv o e => by simp at hv; subst hv; cases e) rfl (Nat.le_of_ble_eq_true rfl) ⟨by decide, by decide⟩ hb2 (fun o h => by cases h) ?_
  refine kl_norm (st' := [.inl bv]) rfl ?_
  refine kl_istore (L' := [(6, .inl bv), (5, .inl kx), (0, .inr (.inr (some 0))), (1, .inr (.inr (some 1))), (2, .inr (.inr (some 2))), (3, .inr (.inr (some 3))), (4, .inl iv)]) hC dL_law_986 (by decide) rfl ?_
  refine kl_aloadn hC 4 dL_law_988 rfl rfl ?_
  refine kl_invM (as := []) (rest := []) hC dL_law_989 kw1077L ky_X10_thrown ky2_X10_thrown rfl hk2 (t_X10_thrown 0 hm1) e3 rfl (fun v hv => by cases hv) rfl (Nat.le_of_ble_eq_true rfl) ⟨by decide, by decide⟩ hb2 (fun o h => by cases h) ?_
  refine kl_norm (st' := [.inl kx]) rfl ?_
  refine kl_iload hC 1 dL_law_992 rfl ?_
  refine kl_icmp_eq (tgt := 999) hC dL_law_994 (by decide) (fun _ => ?_) (fun q => absurd rfl q)
  refine kl_iload hC 1 dL_law_999 rfl ?_
  refine kl_if_ne (tgt := 1016) hC dL_law_1001 (by decide) (fun q => ?_) (fun q => ?_)
  · refine kl_aloadn hC 5 dL_law_1004 rfl rfl ?_
    refine kl_iconst (v := 0) hC dL_law_1005 (by decide) ?_
    refine kl_lald hC hk3 dL_law_1006 ?_
    refine kl_iload hC 0 dL_law_1007 rfl ?_
    refine kl_i2l hC dL_law_1009 ?_
    refine kl_lcmp hC dL_law_1010 ?_
    refine kl_if_eq (tgt := 1016) hC dL_law_1011 (by decide) (fun _ => ?_) (fun q2 => absurd (kcmp_eq (e4 q)) q2)
    refine kl_goto (tgt := 2146) hC dL_law_1016 (by decide) ?_
    exact kl_sub [2, 3, 4, 5, 6] rfl kk
  · refine kl_goto (tgt := 2146) hC dL_law_1016 (by decide) ?_
    exact kl_sub [2, 3, 4, 5, 6] rfl kk
set_option maxHeartbeats 4000000 in
set_option maxRecDepth 100000 in
theorem lw_case_16 {Y : KY} (hC : kCL Y) {cells slots : Nat} {hx hm : KH} {iv : Int32} (hi1 : vp_in (iv + 1) (yL Y)) (hi2 : vp_in (iv + 2) (yL Y)) (hk0 : kd hx 0 = 10) (hk1 : kd hm 0 = 11) {kx : Int32} {bv : Int32} {hx1 hm1 : KH} (e1 : f_L_holder 0 (((yx Y) (iv + 1).toNatClampNeg)) (((yx Y) (iv + 2).toNatClampNeg)) 36 hx = some (.inr kx, hx1)) (e2 : f_X10_holder 0 (((yx Y) (iv + 1).toNatClampNeg)) (((yx Y) (iv + 2).toNatClampNeg)) hm = some (.inr bv, hm1)) (e3 : f_X10_thrown 0 hm1 = some (.inr kx, hm1)) (e4 : kx = 0 → kL hx1 36 0 = bv.toInt64) (hk2 : kd hm1 0 = 11) (hk3 : kd hx1 36 = 22 ∧ ¬ ((0 : Int32) < 0 ∨ kn hx1 36 ≤ (0 : Int32).toNatClampNeg)) (hb : cells + 2 ≤ 601024 ∧ slots + 12 ≤ 7293034) (hb2 : cells + 2 + 0 ≤ 601024 ∧ slots + 12 + 0 ≤ 7293034)
    (kk : kJL Y (cells + 2) (slots + 12) [(0, .inr (.inr (some 0))), (1, .inr (.inr (some 1))), (2, .inr (.inr (some 2))), (3, .inr (.inr (some 3))), (4, .inl iv)] [] 2146 hx1 hm1) : kJL Y cells slots [(0, .inr (.inr (some 0))), (1, .inr (.inr (some 1))), (2, .inr (.inr (some 2))), (3, .inr (.inr (some 3))), (4, .inl iv)] [] 1019 hx hm := by
  refine kl_aloadn hC 1 dL_law_1019 rfl rfl ?_
  refine kl_aloadn hC 0 dL_law_1020 rfl rfl ?_
  refine kl_iload hC 4 dL_law_1021 rfl ?_
  refine kl_iconst (v := 1) hC dL_law_1023 (by decide) ?_
  refine kl_iadd hC dL_law_1024 ?_
  refine kl_sld hC hi1 dL_law_1025 ?_
  refine kl_aloadn hC 0 dL_law_1026 rfl rfl ?_
  refine kl_iload hC 4 dL_law_1027 rfl ?_
  refine kl_iconst (v := 2) hC dL_law_1029 (by decide) ?_
  refine kl_iadd hC dL_law_1030 ?_
  refine kl_sld hC hi2 dL_law_1031 ?_
  refine kl_aloadn hC 3 dL_law_1032 rfl rfl ?_
  refine kl_wrap (N := 4) (as := [.inl (((yx Y) (iv + 1).toNatClampNeg)), .inl (((yx Y) (iv + 2).toNatClampNeg))]) hC dL_law_1033 kw700L kw49L kw702L kw701L (by decide) rfl (by decide +kernel) (t_L_holder 0 (((yx Y) (iv + 1).toNatClampNeg)) (((yx Y) (iv + 2).toNatClampNeg)) 36 hx) e1 (fun v hv o e => by simp at hv; rcases hv with rfl | rfl <;> cases e) rfl ⟨by decide, by decide⟩ hb ?_
  refine kl_norm (st' := [.inl kx]) rfl ?_
  refine kl_istore (L' := [(5, .inl kx), (0, .inr (.inr (some 0))), (1, .inr (.inr (some 1))), (2, .inr (.inr (some 2))), (3, .inr (.inr (some 3))), (4, .inl iv)]) hC dL_law_1036 (by decide) rfl ?_
  refine kl_aloadn hC 3 dL_law_1038 rfl rfl ?_
  refine kl_aloadn hC 1 dL_law_1039 rfl rfl ?_
  refine kl_iload hC 5 dL_law_1040 rfl ?_
  refine kl_iconst (v := 1) hC dL_law_1042 (by decide) ?_
  refine kl_iadd hC dL_law_1043 ?_
  refine kl_sld hC hi1 dL_law_1044 ?_
  refine kl_aloadn hC 1 dL_law_1045 rfl rfl ?_
  refine kl_iload hC 5 dL_law_1046 rfl ?_
  refine kl_iconst (v := 2) hC dL_law_1048 (by decide) ?_
  refine kl_iadd hC dL_law_1049 ?_
  refine kl_sld hC hi2 dL_law_1050 ?_
  refine kl_invM (as := [.inl (((yx Y) (iv + 1).toNatClampNeg)), .inl (((yx Y) (iv + 2).toNatClampNeg))]) (rest := []) hC dL_law_1051 kw1203L ky_X10_holder ky2_X10_holder rfl hk1 (t_X10_holder 0 (((yx Y) (iv + 1).toNatClampNeg)) (((yx Y) (iv + 2).toNatClampNeg)) hm) e2 rfl (fun v hv o e => by simp at hv; rcases hv with rfl | rfl <;> cases e) rfl (Nat.le_of_ble_eq_true rfl) ⟨by decide, by decide⟩ hb2 (fun o h => by cases h) ?_
  refine kl_norm (st' := [.inl bv]) rfl ?_
  refine kl_istore (L' := [(6, .inl bv), (5, .inl kx), (0, .inr (.inr (some 0))), (1, .inr (.inr (some 1))), (2, .inr (.inr (some 2))), (3, .inr (.inr (some 3))), (4, .inl iv)]) hC dL_law_1054 (by decide) rfl ?_
  refine kl_aloadn hC 4 dL_law_1056 rfl rfl ?_
  refine kl_invM (as := []) (rest := []) hC dL_law_1057 kw1077L ky_X10_thrown ky2_X10_thrown rfl hk2 (t_X10_thrown 0 hm1) e3 rfl (fun v hv => by cases hv) rfl (Nat.le_of_ble_eq_true rfl) ⟨by decide, by decide⟩ hb2 (fun o h => by cases h) ?_
  refine kl_norm (st' := [.inl kx]) rfl ?_
  refine kl_iload hC 1 dL_law_1060 rfl ?_
  refine kl_icmp_eq (tgt := 1067) hC dL_law_1062 (by decide) (fun _ => ?_) (fun q => absurd rfl q)
  refine kl_iload hC 1 dL_law_1067 rfl ?_
  refine kl_if_ne (tgt := 1084) hC dL_law_1069 (by decide) (fun q => ?_) (fun q => ?_)
  · refine kl_aloadn hC 5 dL_law_1072 rfl rfl ?_
    refine kl_iconst (v := 0) hC dL_law_1073 (by decide) ?_
    refine kl_lald hC hk3 dL_law_1074 ?_
    refine kl_iload hC 0 dL_law_1075 rfl ?_
    refine kl_i2l hC dL_law_1077 ?_
    refine kl_lcmp hC dL_law_1078 ?_
    refine kl_if_eq (tgt := 1084) hC dL_law_1079 (by decide) (fun _ => ?_) (fun q2 => absurd (kcmp_eq (e4 q)) q2)
    refine kl_goto (tgt := 2146) hC dL_law_1084 (by decide) ?_
    exact kl_sub [2, 3, 4, 5, 6] rfl kk
  · refine kl_goto (tgt := 2146) hC dL_law_1084 (by decide) ?_
    exact kl_sub [2, 3, 4, 5, 6] rfl kk
set_option maxHeartbeats 4000000 in
set_option maxRecDepth 100000 in
theorem lw_case_17 {Y : KY} (hC : kCL Y) {cells slots : Nat} {hx hm : KH} {iv : Int32} (hi1 : vp_in (iv + 1) (yL Y)) (hi2 : vp_in (iv + 2) (yL Y)) (hk0 : kd hx 0 = 10) (hk1 : kd hm 0 = 11) {kx : Int32} {bv : Int32} {hx1 hm1 : KH} (e1 : f_L_read 0 (((yx Y) (iv + 1).toNatClampNeg)) (((yx Y) (iv + 2).toNatClampNeg)) 36 hx = some (.inr kx, hx1)) (e2 : f_X10_read 0 (((yx Y) (iv + 1).toNatClampNeg)) (((yx Y) (iv + 2).toNatClampNeg)) hm = some (.inr bv, hm1)) (e3 : f_X10_thrown 0 hm1 = some (.inr kx, hm1)) (e4 : kx = 0 → kL hx1 36 0 = bv.toInt64) (hk2 : kd hm1 0 = 11) (hk3 : kd hx1 36 = 22 ∧ ¬ ((0 : Int32) < 0 ∨ kn hx1 36 ≤ (0 : Int32).toNatClampNeg)) (hb : cells + 5 ≤ 601024 ∧ slots + 26 ≤ 7293034) (hb2 : cells + 5 + 0 ≤ 601024 ∧ slots + 26 + 0 ≤ 7293034)
    (kk : kJL Y (cells + 5) (slots + 26) [(0, .inr (.inr (some 0))), (1, .inr (.inr (some 1))), (2, .inr (.inr (some 2))), (3, .inr (.inr (some 3))), (4, .inl iv)] [] 2146 hx1 hm1) : kJL Y cells slots [(0, .inr (.inr (some 0))), (1, .inr (.inr (some 1))), (2, .inr (.inr (some 2))), (3, .inr (.inr (some 3))), (4, .inl iv)] [] 1087 hx hm := by
  refine kl_aloadn hC 1 dL_law_1087 rfl rfl ?_
  refine kl_aloadn hC 0 dL_law_1088 rfl rfl ?_
  refine kl_iload hC 4 dL_law_1089 rfl ?_
  refine kl_iconst (v := 1) hC dL_law_1091 (by decide) ?_
  refine kl_iadd hC dL_law_1092 ?_
  refine kl_sld hC hi1 dL_law_1093 ?_
  refine kl_aloadn hC 0 dL_law_1094 rfl rfl ?_
  refine kl_iload hC 4 dL_law_1095 rfl ?_
  refine kl_iconst (v := 2) hC dL_law_1097 (by decide) ?_
  refine kl_iadd hC dL_law_1098 ?_
  refine kl_sld hC hi2 dL_law_1099 ?_
  refine kl_aloadn hC 3 dL_law_1100 rfl rfl ?_
  refine kl_wrap (N := 4) (as := [.inl (((yx Y) (iv + 1).toNatClampNeg)), .inl (((yx Y) (iv + 2).toNatClampNeg))]) hC dL_law_1101 kw712L kw49L kw714L kw713L (by decide) rfl (by decide +kernel) (t_L_read 0 (((yx Y) (iv + 1).toNatClampNeg)) (((yx Y) (iv + 2).toNatClampNeg)) 36 hx) e1 (fun v hv o e => by simp at hv; rcases hv with rfl | rfl <;> cases e) rfl ⟨by decide, by decide⟩ hb ?_
  refine kl_norm (st' := [.inl kx]) rfl ?_
  refine kl_istore (L' := [(5, .inl kx), (0, .inr (.inr (some 0))), (1, .inr (.inr (some 1))), (2, .inr (.inr (some 2))), (3, .inr (.inr (some 3))), (4, .inl iv)]) hC dL_law_1104 (by decide) rfl ?_
  refine kl_aloadn hC 3 dL_law_1106 rfl rfl ?_
  refine kl_aloadn hC 1 dL_law_1107 rfl rfl ?_
  refine kl_iload hC 5 dL_law_1108 rfl ?_
  refine kl_iconst (v := 1) hC dL_law_1110 (by decide) ?_
  refine kl_iadd hC dL_law_1111 ?_
  refine kl_sld hC hi1 dL_law_1112 ?_
  refine kl_aloadn hC 1 dL_law_1113 rfl rfl ?_
  refine kl_iload hC 5 dL_law_1114 rfl ?_
  refine kl_iconst (v := 2) hC dL_law_1116 (by decide) ?_
  refine kl_iadd hC dL_law_1117 ?_
  refine kl_sld hC hi2 dL_law_1118 ?_
  refine kl_invM (as := [.inl (((yx Y) (iv + 1).toNatClampNeg)), .inl (((yx Y) (iv + 2).toNatClampNeg))]) (rest := []) hC dL_law_1119 kw1207L ky_X10_read ky2_X10_read rfl hk1 (t_X10_read 0 (((yx Y) (iv + 1).toNatClampNeg)) (((yx Y) (iv + 2).toNatClampNeg)) hm) e2 rfl (fun v hv o e => by simp at hv; rcases hv with rfl | rfl <;> cases e) rfl (Nat.le_of_ble_eq_true rfl) ⟨by decide, by decide⟩ hb2 (fun o h => by cases h) ?_
  refine kl_norm (st' := [.inl bv]) rfl ?_
  refine kl_istore (L' := [(6, .inl bv), (5, .inl kx), (0, .inr (.inr (some 0))), (1, .inr (.inr (some 1))), (2, .inr (.inr (some 2))), (3, .inr (.inr (some 3))), (4, .inl iv)]) hC dL_law_1122 (by decide) rfl ?_
  refine kl_aloadn hC 4 dL_law_1124 rfl rfl ?_
  refine kl_invM (as := []) (rest := []) hC dL_law_1125 kw1077L ky_X10_thrown ky2_X10_thrown rfl hk2 (t_X10_thrown 0 hm1) e3 rfl (fun v hv => by cases hv) rfl (Nat.le_of_ble_eq_true rfl) ⟨by decide, by decide⟩ hb2 (fun o h => by cases h) ?_
  refine kl_norm (st' := [.inl kx]) rfl ?_
  refine kl_iload hC 1 dL_law_1128 rfl ?_
  refine kl_icmp_eq (tgt := 1135) hC dL_law_1130 (by decide) (fun _ => ?_) (fun q => absurd rfl q)
  refine kl_iload hC 1 dL_law_1135 rfl ?_
  refine kl_if_ne (tgt := 1152) hC dL_law_1137 (by decide) (fun q => ?_) (fun q => ?_)
  · refine kl_aloadn hC 5 dL_law_1140 rfl rfl ?_
    refine kl_iconst (v := 0) hC dL_law_1141 (by decide) ?_
    refine kl_lald hC hk3 dL_law_1142 ?_
    refine kl_iload hC 0 dL_law_1143 rfl ?_
    refine kl_i2l hC dL_law_1145 ?_
    refine kl_lcmp hC dL_law_1146 ?_
    refine kl_if_eq (tgt := 1152) hC dL_law_1147 (by decide) (fun _ => ?_) (fun q2 => absurd (kcmp_eq (e4 q)) q2)
    refine kl_goto (tgt := 2146) hC dL_law_1152 (by decide) ?_
    exact kl_sub [2, 3, 4, 5, 6] rfl kk
  · refine kl_goto (tgt := 2146) hC dL_law_1152 (by decide) ?_
    exact kl_sub [2, 3, 4, 5, 6] rfl kk
set_option maxHeartbeats 4000000 in
set_option maxRecDepth 100000 in
theorem lw_case_18 {Y : KY} (hC : kCL Y) {cells slots : Nat} {hx hm : KH} {iv : Int32} (hi1 : vp_in (iv + 1) (yL Y)) (hi2 : vp_in (iv + 2) (yL Y)) (hk0 : kd hx 0 = 10) (hk1 : kd hm 0 = 11) {kx : Int32} {bv : Int32} {hx1 hm1 : KH} (e1 : f_L_correct 0 (((yx Y) (iv + 1).toNatClampNeg)) (((yx Y) (iv + 2).toNatClampNeg)) 36 hx = some (.inr kx, hx1)) (e2 : f_X10_correct 0 (((yx Y) (iv + 1).toNatClampNeg)) (((yx Y) (iv + 2).toNatClampNeg)) hm = some (.inr bv, hm1)) (e3 : f_X10_thrown 0 hm1 = some (.inr kx, hm1)) (e4 : kx = 0 → kL hx1 36 0 = bv.toInt64) (hk2 : kd hm1 0 = 11) (hk3 : kd hx1 36 = 22 ∧ ¬ ((0 : Int32) < 0 ∨ kn hx1 36 ≤ (0 : Int32).toNatClampNeg)) (hb : cells + 2 ≤ 601024 ∧ slots + 12 ≤ 7293034) (hb2 : cells + 2 + 0 ≤ 601024 ∧ slots + 12 + 0 ≤ 7293034)
    (kk : kJL Y (cells + 2) (slots + 12) [(0, .inr (.inr (some 0))), (1, .inr (.inr (some 1))), (2, .inr (.inr (some 2))), (3, .inr (.inr (some 3))), (4, .inl iv)] [] 2146 hx1 hm1) : kJL Y cells slots [(0, .inr (.inr (some 0))), (1, .inr (.inr (some 1))), (2, .inr (.inr (some 2))), (3, .inr (.inr (some 3))), (4, .inl iv)] [] 1155 hx hm := by
  refine kl_aloadn hC 1 dL_law_1155 rfl rfl ?_
  refine kl_aloadn hC 0 dL_law_1156 rfl rfl ?_
  refine kl_iload hC 4 dL_law_1157 rfl ?_
  refine kl_iconst (v := 1) hC dL_law_1159 (by decide) ?_
  refine kl_iadd hC dL_law_1160 ?_
  refine kl_sld hC hi1 dL_law_1161 ?_
  refine kl_aloadn hC 0 dL_law_1162 rfl rfl ?_
  refine kl_iload hC 4 dL_law_1163 rfl ?_
  refine kl_iconst (v := 2) hC dL_law_1165 (by decide) ?_
  refine kl_iadd hC dL_law_1166 ?_
  refine kl_sld hC hi2 dL_law_1167 ?_
  refine kl_aloadn hC 3 dL_law_1168 rfl rfl ?_
  refine kl_wrap (N := 4) (as := [.inl (((yx Y) (iv + 1).toNatClampNeg)), .inl (((yx Y) (iv + 2).toNatClampNeg))]) hC dL_law_1169 kw757L kw49L kw759L kw758L (by decide) rfl (by decide +kernel) (t_L_correct 0 (((yx Y) (iv + 1).toNatClampNeg)) (((yx Y) (iv + 2).toNatClampNeg)) 36 hx) e1 (fun v hv o e => by simp at hv; rcases hv with rfl | rfl <;> cases e) rfl ⟨by decide, by decide⟩ hb ?_
  refine kl_norm (st' := [.inl kx]) rfl ?_
  refine kl_istore (L' := [(5, .inl kx), (0, .inr (.inr (some 0))), (1, .inr (.inr (some 1))), (2, .inr (.inr (some 2))), (3, .inr (.inr (some 3))), (4, .inl iv)]) hC dL_law_1172 (by decide) rfl ?_
  refine kl_aloadn hC 3 dL_law_1174 rfl rfl ?_
  refine kl_aloadn hC 1 dL_law_1175 rfl rfl ?_
  refine kl_iload hC 5 dL_law_1176 rfl ?_
  refine kl_iconst (v := 1) hC dL_law_1178 (by decide) ?_
  refine kl_iadd hC dL_law_1179 ?_
  refine kl_sld hC hi1 dL_law_1180 ?_
  refine kl_aloadn hC 1 dL_law_1181 rfl rfl ?_
  refine kl_iload hC 5 dL_law_1182 rfl ?_
  refine kl_iconst (v := 2) hC dL_law_1184 (by decide) ?_
  refine kl_iadd hC dL_law_1185 ?_
  refine kl_sld hC hi2 dL_law_1186 ?_
  refine kl_invM (as := [.inl (((yx Y) (iv + 1).toNatClampNeg)), .inl (((yx Y) (iv + 2).toNatClampNeg))]) (rest := []) hC dL_law_1187 kw1211L ky_X10_correct ky2_X10_correct rfl hk1 (t_X10_correct 0 (((yx Y) (iv + 1).toNatClampNeg)) (((yx Y) (iv + 2).toNatClampNeg)) hm) e2 rfl (fun v hv o e => by simp at hv; rcases hv with rfl | rfl <;> cases e) rfl (Nat.le_of_ble_eq_true rfl) ⟨by decide, by decide⟩ hb2 (fun o h => by cases h) ?_
  refine kl_norm (st' := [.inl bv]) rfl ?_
  refine kl_istore (L' := [(6, .inl bv), (5, .inl kx), (0, .inr (.inr (some 0))), (1, .inr (.inr (some 1))), (2, .inr (.inr (some 2))), (3, .inr (.inr (some 3))), (4, .inl iv)]) hC dL_law_1190 (by decide) rfl ?_
  refine kl_aloadn hC 4 dL_law_1192 rfl rfl ?_
  refine kl_invM (as := []) (rest := []) hC dL_law_1193 kw1077L ky_X10_thrown ky2_X10_thrown rfl hk2 (t_X10_thrown 0 hm1) e3 rfl (fun v hv => by cases hv) rfl (Nat.le_of_ble_eq_true rfl) ⟨by decide, by decide⟩ hb2 (fun o h => by cases h) ?_
  refine kl_norm (st' := [.inl kx]) rfl ?_
  refine kl_iload hC 1 dL_law_1196 rfl ?_
  refine kl_icmp_eq (tgt := 1203) hC dL_law_1198 (by decide) (fun _ => ?_) (fun q => absurd rfl q)
  refine kl_iload hC 1 dL_law_1203 rfl ?_
  refine kl_if_ne (tgt := 1220) hC dL_law_1205 (by decide) (fun q => ?_) (fun q => ?_)
  · refine kl_aloadn hC 5 dL_law_1208 rfl rfl ?_
    refine kl_iconst (v := 0) hC dL_law_1209 (by decide) ?_
    refine kl_lald hC hk3 dL_law_1210 ?_
    refine kl_iload hC 0 dL_law_1211 rfl ?_
    refine kl_i2l hC dL_law_1213 ?_
    refine kl_lcmp hC dL_law_1214 ?_
    refine kl_if_eq (tgt := 1220) hC dL_law_1215 (by decide) (fun _ => ?_) (fun q2 => absurd (kcmp_eq (e4 q)) q2)
    refine kl_goto (tgt := 2146) hC dL_law_1220 (by decide) ?_
    exact kl_sub [2, 3, 4, 5, 6] rfl kk
  · refine kl_goto (tgt := 2146) hC dL_law_1220 (by decide) ?_
    exact kl_sub [2, 3, 4, 5, 6] rfl kk
set_option maxHeartbeats 4000000 in
set_option maxRecDepth 100000 in
theorem lw_case_19 {Y : KY} (hC : kCL Y) {cells slots : Nat} {hx hm : KH} {iv : Int32} (hi1 : vp_in (iv + 1) (yL Y)) (hk0 : kd hx 0 = 10) (hk1 : kd hm 0 = 11) {kx : Int32} {bv : Int32} {hx1 hm1 : KH} (e1 : f_L_uncorrect 0 (((yx Y) (iv + 1).toNatClampNeg)) 36 hx = some (.inr kx, hx1)) (e2 : f_X10_uncorrect 0 (((yx Y) (iv + 1).toNatClampNeg)) hm = some (.inr bv, hm1)) (e3 : f_X10_thrown 0 hm1 = some (.inr kx, hm1)) (e4 : kx = 0 → kL hx1 36 0 = bv.toInt64) (hk2 : kd hm1 0 = 11) (hk3 : kd hx1 36 = 22 ∧ ¬ ((0 : Int32) < 0 ∨ kn hx1 36 ≤ (0 : Int32).toNatClampNeg)) (hb : cells + 2 ≤ 601024 ∧ slots + 12 ≤ 7293034) (hb2 : cells + 2 + 0 ≤ 601024 ∧ slots + 12 + 0 ≤ 7293034)
    (kk : kJL Y (cells + 2) (slots + 12) [(0, .inr (.inr (some 0))), (1, .inr (.inr (some 1))), (2, .inr (.inr (some 2))), (3, .inr (.inr (some 3))), (4, .inl iv)] [] 2146 hx1 hm1) : kJL Y cells slots [(0, .inr (.inr (some 0))), (1, .inr (.inr (some 1))), (2, .inr (.inr (some 2))), (3, .inr (.inr (some 3))), (4, .inl iv)] [] 1223 hx hm := by
  refine kl_aloadn hC 1 dL_law_1223 rfl rfl ?_
  refine kl_aloadn hC 0 dL_law_1224 rfl rfl ?_
  refine kl_iload hC 4 dL_law_1225 rfl ?_
  refine kl_iconst (v := 1) hC dL_law_1227 (by decide) ?_
  refine kl_iadd hC dL_law_1228 ?_
  refine kl_sld hC hi1 dL_law_1229 ?_
  refine kl_aloadn hC 3 dL_law_1230 rfl rfl ?_
  refine kl_wrap (N := 3) (as := [.inl (((yx Y) (iv + 1).toNatClampNeg))]) hC dL_law_1231 kw769L kw49L kw771L kw770L (by decide) rfl (by decide +kernel) (t_L_uncorrect 0 (((yx Y) (iv + 1).toNatClampNeg)) 36 hx) e1 (fun v hv o e => by simp at hv; subst hv; cases e) rfl ⟨by decide, by decide⟩ hb ?_
  refine kl_norm (st' := [.inl kx]) rfl ?_
  refine kl_istore (L' := [(5, .inl kx), (0, .inr (.inr (some 0))), (1, .inr (.inr (some 1))), (2, .inr (.inr (some 2))), (3, .inr (.inr (some 3))), (4, .inl iv)]) hC dL_law_1234 (by decide) rfl ?_
  refine kl_aloadn hC 3 dL_law_1236 rfl rfl ?_
  refine kl_aloadn hC 1 dL_law_1237 rfl rfl ?_
  refine kl_iload hC 5 dL_law_1238 rfl ?_
  refine kl_iconst (v := 1) hC dL_law_1240 (by decide) ?_
  refine kl_iadd hC dL_law_1241 ?_
  refine kl_sld hC hi1 dL_law_1242 ?_
  refine kl_invM (as := [.inl (((yx Y) (iv + 1).toNatClampNeg))]) (rest := []) hC dL_law_1243 kw1227L ky_X10_uncorrect ky2_X10_uncorrect rfl hk1 (t_X10_uncorrect 0 (((yx Y) (iv + 1).toNatClampNeg)) hm) e2 rfl (fun v hv o e => by simp at hv; subst hv; cases e) rfl (Nat.le_of_ble_eq_true rfl) ⟨by decide, by decide⟩ hb2 (fun o h => by cases h) ?_
  refine kl_norm (st' := [.inl bv]) rfl ?_
  refine kl_istore (L' := [(6, .inl bv), (5, .inl kx), (0, .inr (.inr (some 0))), (1, .inr (.inr (some 1))), (2, .inr (.inr (some 2))), (3, .inr (.inr (some 3))), (4, .inl iv)]) hC dL_law_1246 (by decide) rfl ?_
  refine kl_aloadn hC 4 dL_law_1248 rfl rfl ?_
  refine kl_invM (as := []) (rest := []) hC dL_law_1249 kw1077L ky_X10_thrown ky2_X10_thrown rfl hk2 (t_X10_thrown 0 hm1) e3 rfl (fun v hv => by cases hv) rfl (Nat.le_of_ble_eq_true rfl) ⟨by decide, by decide⟩ hb2 (fun o h => by cases h) ?_
  refine kl_norm (st' := [.inl kx]) rfl ?_
  refine kl_iload hC 1 dL_law_1252 rfl ?_
  refine kl_icmp_eq (tgt := 1259) hC dL_law_1254 (by decide) (fun _ => ?_) (fun q => absurd rfl q)
  refine kl_iload hC 1 dL_law_1259 rfl ?_
  refine kl_if_ne (tgt := 1276) hC dL_law_1261 (by decide) (fun q => ?_) (fun q => ?_)
  · refine kl_aloadn hC 5 dL_law_1264 rfl rfl ?_
    refine kl_iconst (v := 0) hC dL_law_1265 (by decide) ?_
    refine kl_lald hC hk3 dL_law_1266 ?_
    refine kl_iload hC 0 dL_law_1267 rfl ?_
    refine kl_i2l hC dL_law_1269 ?_
    refine kl_lcmp hC dL_law_1270 ?_
    refine kl_if_eq (tgt := 1276) hC dL_law_1271 (by decide) (fun _ => ?_) (fun q2 => absurd (kcmp_eq (e4 q)) q2)
    refine kl_goto (tgt := 2146) hC dL_law_1276 (by decide) ?_
    exact kl_sub [2, 3, 4, 5, 6] rfl kk
  · refine kl_goto (tgt := 2146) hC dL_law_1276 (by decide) ?_
    exact kl_sub [2, 3, 4, 5, 6] rfl kk
set_option maxHeartbeats 4000000 in
set_option maxRecDepth 100000 in
theorem lw_case_20 {Y : KY} (hC : kCL Y) {cells slots : Nat} {hx hm : KH} {iv : Int32} (hi1 : vp_in (iv + 1) (yL Y)) (hk0 : kd hx 0 = 10) (hk1 : kd hm 0 = 11) {kx : Int32} {bv : Int32} {hx1 hm1 : KH} (e1 : f_L_plateOf 0 (((yx Y) (iv + 1).toNatClampNeg)) 36 hx = some (.inr kx, hx1)) (e2 : f_X10_plateOf 0 (((yx Y) (iv + 1).toNatClampNeg)) hm = some (.inr bv, hm1)) (e3 : f_X10_thrown 0 hm1 = some (.inr kx, hm1)) (e4 : kx = 0 → kL hx1 36 0 = bv.toInt64) (hk2 : kd hm1 0 = 11) (hk3 : kd hx1 36 = 22 ∧ ¬ ((0 : Int32) < 0 ∨ kn hx1 36 ≤ (0 : Int32).toNatClampNeg)) (hb : cells + 1 ≤ 601024 ∧ slots + 6 ≤ 7293034) (hb2 : cells + 1 + 0 ≤ 601024 ∧ slots + 6 + 0 ≤ 7293034)
    (kk : kJL Y (cells + 1) (slots + 6) [(0, .inr (.inr (some 0))), (1, .inr (.inr (some 1))), (2, .inr (.inr (some 2))), (3, .inr (.inr (some 3))), (4, .inl iv)] [] 2146 hx1 hm1) : kJL Y cells slots [(0, .inr (.inr (some 0))), (1, .inr (.inr (some 1))), (2, .inr (.inr (some 2))), (3, .inr (.inr (some 3))), (4, .inl iv)] [] 1279 hx hm := by
  refine kl_aloadn hC 1 dL_law_1279 rfl rfl ?_
  refine kl_aloadn hC 0 dL_law_1280 rfl rfl ?_
  refine kl_iload hC 4 dL_law_1281 rfl ?_
  refine kl_iconst (v := 1) hC dL_law_1283 (by decide) ?_
  refine kl_iadd hC dL_law_1284 ?_
  refine kl_sld hC hi1 dL_law_1285 ?_
  refine kl_aloadn hC 3 dL_law_1286 rfl rfl ?_
  refine kl_wrap (N := 3) (as := [.inl (((yx Y) (iv + 1).toNatClampNeg))]) hC dL_law_1287 kw777L kw49L kw779L kw778L (by decide) rfl (by decide +kernel) (t_L_plateOf 0 (((yx Y) (iv + 1).toNatClampNeg)) 36 hx) e1 (fun v hv o e => by simp at hv; subst hv; cases e) rfl ⟨by decide, by decide⟩ hb ?_
  refine kl_norm (st' := [.inl kx]) rfl ?_
  refine kl_istore (L' := [(5, .inl kx), (0, .inr (.inr (some 0))), (1, .inr (.inr (some 1))), (2, .inr (.inr (some 2))), (3, .inr (.inr (some 3))), (4, .inl iv)]) hC dL_law_1290 (by decide) rfl ?_
  refine kl_aloadn hC 3 dL_law_1292 rfl rfl ?_
  refine kl_aloadn hC 1 dL_law_1293 rfl rfl ?_
  refine kl_iload hC 5 dL_law_1294 rfl ?_
  refine kl_iconst (v := 1) hC dL_law_1296 (by decide) ?_
  refine kl_iadd hC dL_law_1297 ?_
  refine kl_sld hC hi1 dL_law_1298 ?_
  refine kl_invM (as := [.inl (((yx Y) (iv + 1).toNatClampNeg))]) (rest := []) hC dL_law_1299 kw1231L ky_X10_plateOf ky2_X10_plateOf rfl hk1 (t_X10_plateOf 0 (((yx Y) (iv + 1).toNatClampNeg)) hm) e2 rfl (fun v hv o e => by simp at hv; subst hv; cases e) rfl (Nat.le_of_ble_eq_true rfl) ⟨by decide, by decide⟩ hb2 (fun o h => by cases h) ?_
  refine kl_norm (st' := [.inl bv]) rfl ?_
  refine kl_istore (L' := [(6, .inl bv), (5, .inl kx), (0, .inr (.inr (some 0))), (1, .inr (.inr (some 1))), (2, .inr (.inr (some 2))), (3, .inr (.inr (some 3))), (4, .inl iv)]) hC dL_law_1302 (by decide) rfl ?_
  refine kl_aloadn hC 4 dL_law_1304 rfl rfl ?_
  refine kl_invM (as := []) (rest := []) hC dL_law_1305 kw1077L ky_X10_thrown ky2_X10_thrown rfl hk2 (t_X10_thrown 0 hm1) e3 rfl (fun v hv => by cases hv) rfl (Nat.le_of_ble_eq_true rfl) ⟨by decide, by decide⟩ hb2 (fun o h => by cases h) ?_
  refine kl_norm (st' := [.inl kx]) rfl ?_
  refine kl_iload hC 1 dL_law_1308 rfl ?_
  refine kl_icmp_eq (tgt := 1315) hC dL_law_1310 (by decide) (fun _ => ?_) (fun q => absurd rfl q)
  refine kl_iload hC 1 dL_law_1315 rfl ?_
  refine kl_if_ne (tgt := 1332) hC dL_law_1317 (by decide) (fun q => ?_) (fun q => ?_)
  · refine kl_aloadn hC 5 dL_law_1320 rfl rfl ?_
    refine kl_iconst (v := 0) hC dL_law_1321 (by decide) ?_
    refine kl_lald hC hk3 dL_law_1322 ?_
    refine kl_iload hC 0 dL_law_1323 rfl ?_
    refine kl_i2l hC dL_law_1325 ?_
    refine kl_lcmp hC dL_law_1326 ?_
    refine kl_if_eq (tgt := 1332) hC dL_law_1327 (by decide) (fun _ => ?_) (fun q2 => absurd (kcmp_eq (e4 q)) q2)
    refine kl_goto (tgt := 2146) hC dL_law_1332 (by decide) ?_
    exact kl_sub [2, 3, 4, 5, 6] rfl kk
  · refine kl_goto (tgt := 2146) hC dL_law_1332 (by decide) ?_
    exact kl_sub [2, 3, 4, 5, 6] rfl kk
set_option maxHeartbeats 4000000 in
set_option maxRecDepth 100000 in
theorem lw_case_21 {Y : KY} (hC : kCL Y) {cells slots : Nat} {hx hm : KH} {iv : Int32} (hi1 : vp_in (iv + 1) (yL Y)) (hi2 : vp_in (iv + 2) (yL Y)) (hk0 : kd hx 0 = 10) (hk1 : kd hm 0 = 11) {kx : Int32} {bv : Int32} {hx1 hm1 : KH} (e1 : f_L_cost 0 (((yx Y) (iv + 1).toNatClampNeg)) (((yx Y) (iv + 2).toNatClampNeg)) 36 hx = some (.inr kx, hx1)) (e2 : f_X10_cost 0 (((yx Y) (iv + 1).toNatClampNeg)) (((yx Y) (iv + 2).toNatClampNeg)) hm = some (.inr bv, hm1)) (e3 : f_X10_thrown 0 hm1 = some (.inr kx, hm1)) (e4 : kx = 0 → kL hx1 36 0 = bv.toInt64) (hk2 : kd hm1 0 = 11) (hk3 : kd hx1 36 = 22 ∧ ¬ ((0 : Int32) < 0 ∨ kn hx1 36 ≤ (0 : Int32).toNatClampNeg)) (hb : cells + 2 ≤ 601024 ∧ slots + 12 ≤ 7293034) (hb2 : cells + 2 + 0 ≤ 601024 ∧ slots + 12 + 0 ≤ 7293034)
    (kk : kJL Y (cells + 2) (slots + 12) [(0, .inr (.inr (some 0))), (1, .inr (.inr (some 1))), (2, .inr (.inr (some 2))), (3, .inr (.inr (some 3))), (4, .inl iv)] [] 2146 hx1 hm1) : kJL Y cells slots [(0, .inr (.inr (some 0))), (1, .inr (.inr (some 1))), (2, .inr (.inr (some 2))), (3, .inr (.inr (some 3))), (4, .inl iv)] [] 1335 hx hm := by
  refine kl_aloadn hC 1 dL_law_1335 rfl rfl ?_
  refine kl_aloadn hC 0 dL_law_1336 rfl rfl ?_
  refine kl_iload hC 4 dL_law_1337 rfl ?_
  refine kl_iconst (v := 1) hC dL_law_1339 (by decide) ?_
  refine kl_iadd hC dL_law_1340 ?_
  refine kl_sld hC hi1 dL_law_1341 ?_
  refine kl_aloadn hC 0 dL_law_1342 rfl rfl ?_
  refine kl_iload hC 4 dL_law_1343 rfl ?_
  refine kl_iconst (v := 2) hC dL_law_1345 (by decide) ?_
  refine kl_iadd hC dL_law_1346 ?_
  refine kl_sld hC hi2 dL_law_1347 ?_
  refine kl_aloadn hC 3 dL_law_1348 rfl rfl ?_
  refine kl_wrap (N := 4) (as := [.inl (((yx Y) (iv + 1).toNatClampNeg)), .inl (((yx Y) (iv + 2).toNatClampNeg))]) hC dL_law_1349 kw784L kw49L kw786L kw785L (by decide) rfl (by decide +kernel) (t_L_cost 0 (((yx Y) (iv + 1).toNatClampNeg)) (((yx Y) (iv + 2).toNatClampNeg)) 36 hx) e1 (fun v hv o e => by simp at hv; rcases hv with rfl | rfl <;> cases e) rfl ⟨by decide, by decide⟩ hb ?_
  refine kl_norm (st' := [.inl kx]) rfl ?_
  refine kl_istore (L' := [(5, .inl kx), (0, .inr (.inr (some 0))), (1, .inr (.inr (some 1))), (2, .inr (.inr (some 2))), (3, .inr (.inr (some 3))), (4, .inl iv)]) hC dL_law_1352 (by decide) rfl ?_
  refine kl_aloadn hC 3 dL_law_1354 rfl rfl ?_
  refine kl_aloadn hC 1 dL_law_1355 rfl rfl ?_
  refine kl_iload hC 5 dL_law_1356 rfl ?_
  refine kl_iconst (v := 1) hC dL_law_1358 (by decide) ?_
  refine kl_iadd hC dL_law_1359 ?_
  refine kl_sld hC hi1 dL_law_1360 ?_
  refine kl_aloadn hC 1 dL_law_1361 rfl rfl ?_
  refine kl_iload hC 5 dL_law_1362 rfl ?_
  refine kl_iconst (v := 2) hC dL_law_1364 (by decide) ?_
  refine kl_iadd hC dL_law_1365 ?_
  refine kl_sld hC hi2 dL_law_1366 ?_
  refine kl_invM (as := [.inl (((yx Y) (iv + 1).toNatClampNeg)), .inl (((yx Y) (iv + 2).toNatClampNeg))]) (rest := []) hC dL_law_1367 kw1235L ky_X10_cost ky2_X10_cost rfl hk1 (t_X10_cost 0 (((yx Y) (iv + 1).toNatClampNeg)) (((yx Y) (iv + 2).toNatClampNeg)) hm) e2 rfl (fun v hv o e => by simp at hv; rcases hv with rfl | rfl <;> cases e) rfl (Nat.le_of_ble_eq_true rfl) ⟨by decide, by decide⟩ hb2 (fun o h => by cases h) ?_
  refine kl_norm (st' := [.inl bv]) rfl ?_
  refine kl_istore (L' := [(6, .inl bv), (5, .inl kx), (0, .inr (.inr (some 0))), (1, .inr (.inr (some 1))), (2, .inr (.inr (some 2))), (3, .inr (.inr (some 3))), (4, .inl iv)]) hC dL_law_1370 (by decide) rfl ?_
  refine kl_aloadn hC 4 dL_law_1372 rfl rfl ?_
  refine kl_invM (as := []) (rest := []) hC dL_law_1373 kw1077L ky_X10_thrown ky2_X10_thrown rfl hk2 (t_X10_thrown 0 hm1) e3 rfl (fun v hv => by cases hv) rfl (Nat.le_of_ble_eq_true rfl) ⟨by decide, by decide⟩ hb2 (fun o h => by cases h) ?_
  refine kl_norm (st' := [.inl kx]) rfl ?_
  refine kl_iload hC 1 dL_law_1376 rfl ?_
  refine kl_icmp_eq (tgt := 1383) hC dL_law_1378 (by decide) (fun _ => ?_) (fun q => absurd rfl q)
  refine kl_iload hC 1 dL_law_1383 rfl ?_
  refine kl_if_ne (tgt := 1400) hC dL_law_1385 (by decide) (fun q => ?_) (fun q => ?_)
  · refine kl_aloadn hC 5 dL_law_1388 rfl rfl ?_
    refine kl_iconst (v := 0) hC dL_law_1389 (by decide) ?_
    refine kl_lald hC hk3 dL_law_1390 ?_
    refine kl_iload hC 0 dL_law_1391 rfl ?_
    refine kl_i2l hC dL_law_1393 ?_
    refine kl_lcmp hC dL_law_1394 ?_
    refine kl_if_eq (tgt := 1400) hC dL_law_1395 (by decide) (fun _ => ?_) (fun q2 => absurd (kcmp_eq (e4 q)) q2)
    refine kl_goto (tgt := 2146) hC dL_law_1400 (by decide) ?_
    exact kl_sub [2, 3, 4, 5, 6] rfl kk
  · refine kl_goto (tgt := 2146) hC dL_law_1400 (by decide) ?_
    exact kl_sub [2, 3, 4, 5, 6] rfl kk
set_option maxHeartbeats 4000000 in
set_option maxRecDepth 100000 in
theorem lw_case_22 {Y : KY} (hC : kCL Y) {cells slots : Nat} {hx hm : KH} {iv : Int32} (hi1 : vp_in (iv + 1) (yL Y)) (hk0 : kd hx 0 = 10) (hk1 : kd hm 0 = 11) {kx : Int32} {bv : Int32} {hx1 hm1 : KH} (e1 : f_L_trips 0 (((yx Y) (iv + 1).toNatClampNeg)) 36 hx = some (.inr kx, hx1)) (e2 : f_X10_trips 0 (((yx Y) (iv + 1).toNatClampNeg)) hm = some (.inr bv, hm1)) (e3 : f_X10_thrown 0 hm1 = some (.inr kx, hm1)) (e4 : kx = 0 → kL hx1 36 0 = bv.toInt64) (hk2 : kd hm1 0 = 11) (hk3 : kd hx1 36 = 22 ∧ ¬ ((0 : Int32) < 0 ∨ kn hx1 36 ≤ (0 : Int32).toNatClampNeg)) (hb : cells + 1 ≤ 601024 ∧ slots + 6 ≤ 7293034) (hb2 : cells + 1 + 0 ≤ 601024 ∧ slots + 6 + 0 ≤ 7293034)
    (kk : kJL Y (cells + 1) (slots + 6) [(0, .inr (.inr (some 0))), (1, .inr (.inr (some 1))), (2, .inr (.inr (some 2))), (3, .inr (.inr (some 3))), (4, .inl iv)] [] 2146 hx1 hm1) : kJL Y cells slots [(0, .inr (.inr (some 0))), (1, .inr (.inr (some 1))), (2, .inr (.inr (some 2))), (3, .inr (.inr (some 3))), (4, .inl iv)] [] 1403 hx hm := by
  refine kl_aloadn hC 1 dL_law_1403 rfl rfl ?_
  refine kl_aloadn hC 0 dL_law_1404 rfl rfl ?_
  refine kl_iload hC 4 dL_law_1405 rfl ?_
  refine kl_iconst (v := 1) hC dL_law_1407 (by decide) ?_
  refine kl_iadd hC dL_law_1408 ?_
  refine kl_sld hC hi1 dL_law_1409 ?_
  refine kl_aloadn hC 3 dL_law_1410 rfl rfl ?_
  refine kl_wrap (N := 3) (as := [.inl (((yx Y) (iv + 1).toNatClampNeg))]) hC dL_law_1411 kw791L kw49L kw793L kw792L (by decide) rfl (by decide +kernel) (t_L_trips 0 (((yx Y) (iv + 1).toNatClampNeg)) 36 hx) e1 (fun v hv o e => by simp at hv; subst hv; cases e) rfl ⟨by decide, by decide⟩ hb ?_
  refine kl_norm (st' := [.inl kx]) rfl ?_
  refine kl_istore (L' := [(5, .inl kx), (0, .inr (.inr (some 0))), (1, .inr (.inr (some 1))), (2, .inr (.inr (some 2))), (3, .inr (.inr (some 3))), (4, .inl iv)]) hC dL_law_1414 (by decide) rfl ?_
  refine kl_aloadn hC 3 dL_law_1416 rfl rfl ?_
  refine kl_aloadn hC 1 dL_law_1417 rfl rfl ?_
  refine kl_iload hC 5 dL_law_1418 rfl ?_
  refine kl_iconst (v := 1) hC dL_law_1420 (by decide) ?_
  refine kl_iadd hC dL_law_1421 ?_
  refine kl_sld hC hi1 dL_law_1422 ?_
  refine kl_invM (as := [.inl (((yx Y) (iv + 1).toNatClampNeg))]) (rest := []) hC dL_law_1423 kw1239L ky_X10_trips ky2_X10_trips rfl hk1 (t_X10_trips 0 (((yx Y) (iv + 1).toNatClampNeg)) hm) e2 rfl (fun v hv o e => by simp at hv; subst hv; cases e) rfl (Nat.le_of_ble_eq_true rfl) ⟨by decide, by decide⟩ hb2 (fun o h => by cases h) ?_
  refine kl_norm (st' := [.inl bv]) rfl ?_
  refine kl_istore (L' := [(6, .inl bv), (5, .inl kx), (0, .inr (.inr (some 0))), (1, .inr (.inr (some 1))), (2, .inr (.inr (some 2))), (3, .inr (.inr (some 3))), (4, .inl iv)]) hC dL_law_1426 (by decide) rfl ?_
  refine kl_aloadn hC 4 dL_law_1428 rfl rfl ?_
  refine kl_invM (as := []) (rest := []) hC dL_law_1429 kw1077L ky_X10_thrown ky2_X10_thrown rfl hk2 (t_X10_thrown 0 hm1) e3 rfl (fun v hv => by cases hv) rfl (Nat.le_of_ble_eq_true rfl) ⟨by decide, by decide⟩ hb2 (fun o h => by cases h) ?_
  refine kl_norm (st' := [.inl kx]) rfl ?_
  refine kl_iload hC 1 dL_law_1432 rfl ?_
  refine kl_icmp_eq (tgt := 1439) hC dL_law_1434 (by decide) (fun _ => ?_) (fun q => absurd rfl q)
  refine kl_iload hC 1 dL_law_1439 rfl ?_
  refine kl_if_ne (tgt := 1456) hC dL_law_1441 (by decide) (fun q => ?_) (fun q => ?_)
  · refine kl_aloadn hC 5 dL_law_1444 rfl rfl ?_
    refine kl_iconst (v := 0) hC dL_law_1445 (by decide) ?_
    refine kl_lald hC hk3 dL_law_1446 ?_
    refine kl_iload hC 0 dL_law_1447 rfl ?_
    refine kl_i2l hC dL_law_1449 ?_
    refine kl_lcmp hC dL_law_1450 ?_
    refine kl_if_eq (tgt := 1456) hC dL_law_1451 (by decide) (fun _ => ?_) (fun q2 => absurd (kcmp_eq (e4 q)) q2)
    refine kl_goto (tgt := 2146) hC dL_law_1456 (by decide) ?_
    exact kl_sub [2, 3, 4, 5, 6] rfl kk
  · refine kl_goto (tgt := 2146) hC dL_law_1456 (by decide) ?_
    exact kl_sub [2, 3, 4, 5, 6] rfl kk
set_option maxHeartbeats 4000000 in
set_option maxRecDepth 100000 in
theorem lw_case_23 {Y : KY} (hC : kCL Y) {cells slots : Nat} {hx hm : KH} {iv : Int32} (hi1 : vp_in (iv + 1) (yL Y)) (hk0 : kd hx 0 = 10) (hk1 : kd hm 0 = 11) {kx : Int32} {bv : Int32} {hx1 hm1 : KH} (e1 : f_L_tripsAnew 0 (((yx Y) (iv + 1).toNatClampNeg)) 36 hx = some (.inr kx, hx1)) (e2 : f_X10_tripsAnew 0 (((yx Y) (iv + 1).toNatClampNeg)) hm = some (.inr bv, hm1)) (e3 : f_X10_thrown 0 hm1 = some (.inr kx, hm1)) (e4 : kx = 0 → kL hx1 36 0 = bv.toInt64) (hk2 : kd hm1 0 = 11) (hk3 : kd hx1 36 = 22 ∧ ¬ ((0 : Int32) < 0 ∨ kn hx1 36 ≤ (0 : Int32).toNatClampNeg)) (hb : cells + 1 ≤ 601024 ∧ slots + 6 ≤ 7293034) (hb2 : cells + 1 + 0 ≤ 601024 ∧ slots + 6 + 0 ≤ 7293034)
    (kk : kJL Y (cells + 1) (slots + 6) [(0, .inr (.inr (some 0))), (1, .inr (.inr (some 1))), (2, .inr (.inr (some 2))), (3, .inr (.inr (some 3))), (4, .inl iv)] [] 2146 hx1 hm1) : kJL Y cells slots [(0, .inr (.inr (some 0))), (1, .inr (.inr (some 1))), (2, .inr (.inr (some 2))), (3, .inr (.inr (some 3))), (4, .inl iv)] [] 1459 hx hm := by
  refine kl_aloadn hC 1 dL_law_1459 rfl rfl ?_
  refine kl_aloadn hC 0 dL_law_1460 rfl rfl ?_
  refine kl_iload hC 4 dL_law_1461 rfl ?_
  refine kl_iconst (v := 1) hC dL_law_1463 (by decide) ?_
  refine kl_iadd hC dL_law_1464 ?_
  refine kl_sld hC hi1 dL_law_1465 ?_
  refine kl_aloadn hC 3 dL_law_1466 rfl rfl ?_
  refine kl_wrap (N := 3) (as := [.inl (((yx Y) (iv + 1).toNatClampNeg))]) hC dL_law_1467 kw806L kw49L kw808L kw807L (by decide) rfl (by decide +kernel) (t_L_tripsAnew 0 (((yx Y) (iv + 1).toNatClampNeg)) 36 hx) e1 (fun v hv o e => by simp at hv; subst hv; cases e) rfl ⟨by decide, by decide⟩ hb ?_
  refine kl_norm (st' := [.inl kx]) rfl ?_
  refine kl_istore (L' := [(5, .inl kx), (0, .inr (.inr (some 0))), (1, .inr (.inr (some 1))), (2, .inr (.inr (some 2))), (3, .inr (.inr (some 3))), (4, .inl iv)]) hC dL_law_1470 (by decide) rfl ?_
  refine kl_aloadn hC 3 dL_law_1472 rfl rfl ?_
  refine kl_aloadn hC 1 dL_law_1473 rfl rfl ?_
  refine kl_iload hC 5 dL_law_1474 rfl ?_
  refine kl_iconst (v := 1) hC dL_law_1476 (by decide) ?_
  refine kl_iadd hC dL_law_1477 ?_
  refine kl_sld hC hi1 dL_law_1478 ?_
  refine kl_invM (as := [.inl (((yx Y) (iv + 1).toNatClampNeg))]) (rest := []) hC dL_law_1479 kw1263L ky_X10_tripsAnew ky2_X10_tripsAnew rfl hk1 (t_X10_tripsAnew 0 (((yx Y) (iv + 1).toNatClampNeg)) hm) e2 rfl (fun v hv o e => by simp at hv; subst hv; cases e) rfl (Nat.le_of_ble_eq_true rfl) ⟨by decide, by decide⟩ hb2 (fun o h => by cases h) ?_
  refine kl_norm (st' := [.inl bv]) rfl ?_
  refine kl_istore (L' := [(6, .inl bv), (5, .inl kx), (0, .inr (.inr (some 0))), (1, .inr (.inr (some 1))), (2, .inr (.inr (some 2))), (3, .inr (.inr (some 3))), (4, .inl iv)]) hC dL_law_1482 (by decide) rfl ?_
  refine kl_aloadn hC 4 dL_law_1484 rfl rfl ?_
  refine kl_invM (as := []) (rest := []) hC dL_law_1485 kw1077L ky_X10_thrown ky2_X10_thrown rfl hk2 (t_X10_thrown 0 hm1) e3 rfl (fun v hv => by cases hv) rfl (Nat.le_of_ble_eq_true rfl) ⟨by decide, by decide⟩ hb2 (fun o h => by cases h) ?_
  refine kl_norm (st' := [.inl kx]) rfl ?_
  refine kl_iload hC 1 dL_law_1488 rfl ?_
  refine kl_icmp_eq (tgt := 1495) hC dL_law_1490 (by decide) (fun _ => ?_) (fun q => absurd rfl q)
  refine kl_iload hC 1 dL_law_1495 rfl ?_
  refine kl_if_ne (tgt := 1512) hC dL_law_1497 (by decide) (fun q => ?_) (fun q => ?_)
  · refine kl_aloadn hC 5 dL_law_1500 rfl rfl ?_
    refine kl_iconst (v := 0) hC dL_law_1501 (by decide) ?_
    refine kl_lald hC hk3 dL_law_1502 ?_
    refine kl_iload hC 0 dL_law_1503 rfl ?_
    refine kl_i2l hC dL_law_1505 ?_
    refine kl_lcmp hC dL_law_1506 ?_
    refine kl_if_eq (tgt := 1512) hC dL_law_1507 (by decide) (fun _ => ?_) (fun q2 => absurd (kcmp_eq (e4 q)) q2)
    refine kl_goto (tgt := 2146) hC dL_law_1512 (by decide) ?_
    exact kl_sub [2, 3, 4, 5, 6] rfl kk
  · refine kl_goto (tgt := 2146) hC dL_law_1512 (by decide) ?_
    exact kl_sub [2, 3, 4, 5, 6] rfl kk
set_option maxHeartbeats 4000000 in
set_option maxRecDepth 100000 in
theorem lw_case_24 {Y : KY} (hC : kCL Y) {cells slots : Nat} {hx hm : KH} {iv : Int32} (hi1 : vp_in (iv + 1) (yL Y)) (hk0 : kd hx 0 = 10) (hk1 : kd hm 0 = 11) {kx : Int32} {bv : Int32} {hx1 hm1 : KH} (e1 : f_L_tripOf 0 (((yx Y) (iv + 1).toNatClampNeg)) 36 hx = some (.inr kx, hx1)) (e2 : f_X10_tripOf 0 (((yx Y) (iv + 1).toNatClampNeg)) hm = some (.inr bv, hm1)) (e3 : f_X10_thrown 0 hm1 = some (.inr kx, hm1)) (e4 : kx = 0 → kL hx1 36 0 = bv.toInt64) (hk2 : kd hm1 0 = 11) (hk3 : kd hx1 36 = 22 ∧ ¬ ((0 : Int32) < 0 ∨ kn hx1 36 ≤ (0 : Int32).toNatClampNeg)) (hb : cells + 1 ≤ 601024 ∧ slots + 6 ≤ 7293034) (hb2 : cells + 1 + 0 ≤ 601024 ∧ slots + 6 + 0 ≤ 7293034)
    (kk : kJL Y (cells + 1) (slots + 6) [(0, .inr (.inr (some 0))), (1, .inr (.inr (some 1))), (2, .inr (.inr (some 2))), (3, .inr (.inr (some 3))), (4, .inl iv)] [] 2146 hx1 hm1) : kJL Y cells slots [(0, .inr (.inr (some 0))), (1, .inr (.inr (some 1))), (2, .inr (.inr (some 2))), (3, .inr (.inr (some 3))), (4, .inl iv)] [] 1515 hx hm := by
  refine kl_aloadn hC 1 dL_law_1515 rfl rfl ?_
  refine kl_aloadn hC 0 dL_law_1516 rfl rfl ?_
  refine kl_iload hC 4 dL_law_1517 rfl ?_
  refine kl_iconst (v := 1) hC dL_law_1519 (by decide) ?_
  refine kl_iadd hC dL_law_1520 ?_
  refine kl_sld hC hi1 dL_law_1521 ?_
  refine kl_aloadn hC 3 dL_law_1522 rfl rfl ?_
  refine kl_wrap (N := 3) (as := [.inl (((yx Y) (iv + 1).toNatClampNeg))]) hC dL_law_1523 kw818L kw49L kw820L kw819L (by decide) rfl (by decide +kernel) (t_L_tripOf 0 (((yx Y) (iv + 1).toNatClampNeg)) 36 hx) e1 (fun v hv o e => by simp at hv; subst hv; cases e) rfl ⟨by decide, by decide⟩ hb ?_
  refine kl_norm (st' := [.inl kx]) rfl ?_
  refine kl_istore (L' := [(5, .inl kx), (0, .inr (.inr (some 0))), (1, .inr (.inr (some 1))), (2, .inr (.inr (some 2))), (3, .inr (.inr (some 3))), (4, .inl iv)]) hC dL_law_1526 (by decide) rfl ?_
  refine kl_aloadn hC 3 dL_law_1528 rfl rfl ?_
  refine kl_aloadn hC 1 dL_law_1529 rfl rfl ?_
  refine kl_iload hC 5 dL_law_1530 rfl ?_
  refine kl_iconst (v := 1) hC dL_law_1532 (by decide) ?_
  refine kl_iadd hC dL_law_1533 ?_
  refine kl_sld hC hi1 dL_law_1534 ?_
  refine kl_invM (as := [.inl (((yx Y) (iv + 1).toNatClampNeg))]) (rest := []) hC dL_law_1535 kw1267L ky_X10_tripOf ky2_X10_tripOf rfl hk1 (t_X10_tripOf 0 (((yx Y) (iv + 1).toNatClampNeg)) hm) e2 rfl (fun v hv o e => by simp at hv; subst hv; cases e) rfl (Nat.le_of_ble_eq_true rfl) ⟨by decide, by decide⟩ hb2 (fun o h => by cases h) ?_
  refine kl_norm (st' := [.inl bv]) rfl ?_
  refine kl_istore (L' := [(6, .inl bv), (5, .inl kx), (0, .inr (.inr (some 0))), (1, .inr (.inr (some 1))), (2, .inr (.inr (some 2))), (3, .inr (.inr (some 3))), (4, .inl iv)]) hC dL_law_1538 (by decide) rfl ?_
  refine kl_aloadn hC 4 dL_law_1540 rfl rfl ?_
  refine kl_invM (as := []) (rest := []) hC dL_law_1541 kw1077L ky_X10_thrown ky2_X10_thrown rfl hk2 (t_X10_thrown 0 hm1) e3 rfl (fun v hv => by cases hv) rfl (Nat.le_of_ble_eq_true rfl) ⟨by decide, by decide⟩ hb2 (fun o h => by cases h) ?_
  refine kl_norm (st' := [.inl kx]) rfl ?_
  refine kl_iload hC 1 dL_law_1544 rfl ?_
  refine kl_icmp_eq (tgt := 1551) hC dL_law_1546 (by decide) (fun _ => ?_) (fun q => absurd rfl q)
  refine kl_iload hC 1 dL_law_1551 rfl ?_
  refine kl_if_ne (tgt := 1568) hC dL_law_1553 (by decide) (fun q => ?_) (fun q => ?_)
  · refine kl_aloadn hC 5 dL_law_1556 rfl rfl ?_
    refine kl_iconst (v := 0) hC dL_law_1557 (by decide) ?_
    refine kl_lald hC hk3 dL_law_1558 ?_
    refine kl_iload hC 0 dL_law_1559 rfl ?_
    refine kl_i2l hC dL_law_1561 ?_
    refine kl_lcmp hC dL_law_1562 ?_
    refine kl_if_eq (tgt := 1568) hC dL_law_1563 (by decide) (fun _ => ?_) (fun q2 => absurd (kcmp_eq (e4 q)) q2)
    refine kl_goto (tgt := 2146) hC dL_law_1568 (by decide) ?_
    exact kl_sub [2, 3, 4, 5, 6] rfl kk
  · refine kl_goto (tgt := 2146) hC dL_law_1568 (by decide) ?_
    exact kl_sub [2, 3, 4, 5, 6] rfl kk
set_option maxHeartbeats 4000000 in
set_option maxRecDepth 100000 in
theorem lw_case_25 {Y : KY} (hC : kCL Y) {cells slots : Nat} {hx hm : KH} {iv : Int32} (hi1 : vp_in (iv + 1) (yL Y)) (hi2 : vp_in (iv + 2) (yL Y)) (hk0 : kd hx 0 = 10) (hk1 : kd hm 0 = 11) {kx : Int32} {bv : Int32} {hx1 hm1 : KH} (e1 : f_L_toll 0 (((yx Y) (iv + 1).toNatClampNeg)) (((yx Y) (iv + 2).toNatClampNeg)) 36 hx = some (.inr kx, hx1)) (e2 : f_X10_toll 0 (((yx Y) (iv + 1).toNatClampNeg)) (((yx Y) (iv + 2).toNatClampNeg)) hm = some (.inr bv, hm1)) (e3 : f_X10_thrown 0 hm1 = some (.inr kx, hm1)) (e4 : kx = 0 → kL hx1 36 0 = bv.toInt64) (hk2 : kd hm1 0 = 11) (hk3 : kd hx1 36 = 22 ∧ ¬ ((0 : Int32) < 0 ∨ kn hx1 36 ≤ (0 : Int32).toNatClampNeg)) (hb : cells + 2 ≤ 601024 ∧ slots + 12 ≤ 7293034) (hb2 : cells + 2 + 0 ≤ 601024 ∧ slots + 12 + 0 ≤ 7293034)
    (kk : kJL Y (cells + 2) (slots + 12) [(0, .inr (.inr (some 0))), (1, .inr (.inr (some 1))), (2, .inr (.inr (some 2))), (3, .inr (.inr (some 3))), (4, .inl iv)] [] 2146 hx1 hm1) : kJL Y cells slots [(0, .inr (.inr (some 0))), (1, .inr (.inr (some 1))), (2, .inr (.inr (some 2))), (3, .inr (.inr (some 3))), (4, .inl iv)] [] 1571 hx hm := by
  refine kl_aloadn hC 1 dL_law_1571 rfl rfl ?_
  refine kl_aloadn hC 0 dL_law_1572 rfl rfl ?_
  refine kl_iload hC 4 dL_law_1573 rfl ?_
  refine kl_iconst (v := 1) hC dL_law_1575 (by decide) ?_
  refine kl_iadd hC dL_law_1576 ?_
  refine kl_sld hC hi1 dL_law_1577 ?_
  refine kl_aloadn hC 0 dL_law_1578 rfl rfl ?_
  refine kl_iload hC 4 dL_law_1579 rfl ?_
  refine kl_iconst (v := 2) hC dL_law_1581 (by decide) ?_
  refine kl_iadd hC dL_law_1582 ?_
  refine kl_sld hC hi2 dL_law_1583 ?_
  refine kl_aloadn hC 3 dL_law_1584 rfl rfl ?_
  refine kl_wrap (N := 4) (as := [.inl (((yx Y) (iv + 1).toNatClampNeg)), .inl (((yx Y) (iv + 2).toNatClampNeg))]) hC dL_law_1585 kw829L kw49L kw831L kw830L (by decide) rfl (by decide +kernel) (t_L_toll 0 (((yx Y) (iv + 1).toNatClampNeg)) (((yx Y) (iv + 2).toNatClampNeg)) 36 hx) e1 (fun v hv o e => by simp at hv; rcases hv with rfl | rfl <;> cases e) rfl ⟨by decide, by decide⟩ hb ?_
  refine kl_norm (st' := [.inl kx]) rfl ?_
  refine kl_istore (L' := [(5, .inl kx), (0, .inr (.inr (some 0))), (1, .inr (.inr (some 1))), (2, .inr (.inr (some 2))), (3, .inr (.inr (some 3))), (4, .inl iv)]) hC dL_law_1588 (by decide) rfl ?_
  refine kl_aloadn hC 3 dL_law_1590 rfl rfl ?_
  refine kl_aloadn hC 1 dL_law_1591 rfl rfl ?_
  refine kl_iload hC 5 dL_law_1592 rfl ?_
  refine kl_iconst (v := 1) hC dL_law_1594 (by decide) ?_
  refine kl_iadd hC dL_law_1595 ?_
  refine kl_sld hC hi1 dL_law_1596 ?_
  refine kl_aloadn hC 1 dL_law_1597 rfl rfl ?_
  refine kl_iload hC 5 dL_law_1598 rfl ?_
  refine kl_iconst (v := 2) hC dL_law_1600 (by decide) ?_
  refine kl_iadd hC dL_law_1601 ?_
  refine kl_sld hC hi2 dL_law_1602 ?_
  refine kl_invM (as := [.inl (((yx Y) (iv + 1).toNatClampNeg)), .inl (((yx Y) (iv + 2).toNatClampNeg))]) (rest := []) hC dL_law_1603 kw1271L ky_X10_toll ky2_X10_toll rfl hk1 (t_X10_toll 0 (((yx Y) (iv + 1).toNatClampNeg)) (((yx Y) (iv + 2).toNatClampNeg)) hm) e2 rfl (fun v hv o e => by simp at hv; rcases hv with rfl | rfl <;> cases e) rfl (Nat.le_of_ble_eq_true rfl) ⟨by decide, by decide⟩ hb2 (fun o h => by cases h) ?_
  refine kl_norm (st' := [.inl bv]) rfl ?_
  refine kl_istore (L' := [(6, .inl bv), (5, .inl kx), (0, .inr (.inr (some 0))), (1, .inr (.inr (some 1))), (2, .inr (.inr (some 2))), (3, .inr (.inr (some 3))), (4, .inl iv)]) hC dL_law_1606 (by decide) rfl ?_
  refine kl_aloadn hC 4 dL_law_1608 rfl rfl ?_
  refine kl_invM (as := []) (rest := []) hC dL_law_1609 kw1077L ky_X10_thrown ky2_X10_thrown rfl hk2 (t_X10_thrown 0 hm1) e3 rfl (fun v hv => by cases hv) rfl (Nat.le_of_ble_eq_true rfl) ⟨by decide, by decide⟩ hb2 (fun o h => by cases h) ?_
  refine kl_norm (st' := [.inl kx]) rfl ?_
  refine kl_iload hC 1 dL_law_1612 rfl ?_
  refine kl_icmp_eq (tgt := 1619) hC dL_law_1614 (by decide) (fun _ => ?_) (fun q => absurd rfl q)
  refine kl_iload hC 1 dL_law_1619 rfl ?_
  refine kl_if_ne (tgt := 1636) hC dL_law_1621 (by decide) (fun q => ?_) (fun q => ?_)
  · refine kl_aloadn hC 5 dL_law_1624 rfl rfl ?_
    refine kl_iconst (v := 0) hC dL_law_1625 (by decide) ?_
    refine kl_lald hC hk3 dL_law_1626 ?_
    refine kl_iload hC 0 dL_law_1627 rfl ?_
    refine kl_i2l hC dL_law_1629 ?_
    refine kl_lcmp hC dL_law_1630 ?_
    refine kl_if_eq (tgt := 1636) hC dL_law_1631 (by decide) (fun _ => ?_) (fun q2 => absurd (kcmp_eq (e4 q)) q2)
    refine kl_goto (tgt := 2146) hC dL_law_1636 (by decide) ?_
    exact kl_sub [2, 3, 4, 5, 6] rfl kk
  · refine kl_goto (tgt := 2146) hC dL_law_1636 (by decide) ?_
    exact kl_sub [2, 3, 4, 5, 6] rfl kk
set_option maxHeartbeats 4000000 in
set_option maxRecDepth 100000 in
theorem lw_case_26 {Y : KY} (hC : kCL Y) {cells slots : Nat} {hx hm : KH} {iv : Int32} (hi1 : vp_in (iv + 1) (yL Y)) (hi2 : vp_in (iv + 2) (yL Y)) (hk0 : kd hx 0 = 10) (hk1 : kd hm 0 = 11) {kx : Int32} {bv : Int32} {hx1 hm1 : KH} (e1 : f_L_driverOf 0 (((yx Y) (iv + 1).toNatClampNeg)) (((yx Y) (iv + 2).toNatClampNeg)) 36 hx = some (.inr kx, hx1)) (e2 : f_X10_driverOf 0 (((yx Y) (iv + 1).toNatClampNeg)) (((yx Y) (iv + 2).toNatClampNeg)) hm = some (.inr bv, hm1)) (e3 : f_X10_thrown 0 hm1 = some (.inr kx, hm1)) (e4 : kx = 0 → kL hx1 36 0 = bv.toInt64) (hk2 : kd hm1 0 = 11) (hk3 : kd hx1 36 = 22 ∧ ¬ ((0 : Int32) < 0 ∨ kn hx1 36 ≤ (0 : Int32).toNatClampNeg)) (hb : cells + 2 ≤ 601024 ∧ slots + 12 ≤ 7293034) (hb2 : cells + 2 + 0 ≤ 601024 ∧ slots + 12 + 0 ≤ 7293034)
    (kk : kJL Y (cells + 2) (slots + 12) [(0, .inr (.inr (some 0))), (1, .inr (.inr (some 1))), (2, .inr (.inr (some 2))), (3, .inr (.inr (some 3))), (4, .inl iv)] [] 2146 hx1 hm1) : kJL Y cells slots [(0, .inr (.inr (some 0))), (1, .inr (.inr (some 1))), (2, .inr (.inr (some 2))), (3, .inr (.inr (some 3))), (4, .inl iv)] [] 1639 hx hm := by
  refine kl_aloadn hC 1 dL_law_1639 rfl rfl ?_
  refine kl_aloadn hC 0 dL_law_1640 rfl rfl ?_
  refine kl_iload hC 4 dL_law_1641 rfl ?_
  refine kl_iconst (v := 1) hC dL_law_1643 (by decide) ?_
  refine kl_iadd hC dL_law_1644 ?_
  refine kl_sld hC hi1 dL_law_1645 ?_
  refine kl_aloadn hC 0 dL_law_1646 rfl rfl ?_
  refine kl_iload hC 4 dL_law_1647 rfl ?_
  refine kl_iconst (v := 2) hC dL_law_1649 (by decide) ?_
  refine kl_iadd hC dL_law_1650 ?_
  refine kl_sld hC hi2 dL_law_1651 ?_
  refine kl_aloadn hC 3 dL_law_1652 rfl rfl ?_
  refine kl_wrap (N := 4) (as := [.inl (((yx Y) (iv + 1).toNatClampNeg)), .inl (((yx Y) (iv + 2).toNatClampNeg))]) hC dL_law_1653 kw844L kw49L kw846L kw845L (by decide) rfl (by decide +kernel) (t_L_driverOf 0 (((yx Y) (iv + 1).toNatClampNeg)) (((yx Y) (iv + 2).toNatClampNeg)) 36 hx) e1 (fun v hv o e => by simp at hv; rcases hv with rfl | rfl <;> cases e) rfl ⟨by decide, by decide⟩ hb ?_
  refine kl_norm (st' := [.inl kx]) rfl ?_
  refine kl_istore (L' := [(5, .inl kx), (0, .inr (.inr (some 0))), (1, .inr (.inr (some 1))), (2, .inr (.inr (some 2))), (3, .inr (.inr (some 3))), (4, .inl iv)]) hC dL_law_1656 (by decide) rfl ?_
  refine kl_aloadn hC 3 dL_law_1658 rfl rfl ?_
  refine kl_aloadn hC 1 dL_law_1659 rfl rfl ?_
  refine kl_iload hC 5 dL_law_1660 rfl ?_
  refine kl_iconst (v := 1) hC dL_law_1662 (by decide) ?_
  refine kl_iadd hC dL_law_1663 ?_
  refine kl_sld hC hi1 dL_law_1664 ?_
  refine kl_aloadn hC 1 dL_law_1665 rfl rfl ?_
  refine kl_iload hC 5 dL_law_1666 rfl ?_
  refine kl_iconst (v := 2) hC dL_law_1668 (by decide) ?_
  refine kl_iadd hC dL_law_1669 ?_
  refine kl_sld hC hi2 dL_law_1670 ?_
  refine kl_invM (as := [.inl (((yx Y) (iv + 1).toNatClampNeg)), .inl (((yx Y) (iv + 2).toNatClampNeg))]) (rest := []) hC dL_law_1671 kw1287L ky_X10_driverOf ky2_X10_driverOf rfl hk1 (t_X10_driverOf 0 (((yx Y) (iv + 1).toNatClampNeg)) (((yx Y) (iv + 2).toNatClampNeg)) hm) e2 rfl (fun v hv o e => by simp at hv; rcases hv with rfl | rfl <;> cases e) rfl (Nat.le_of_ble_eq_true rfl) ⟨by decide, by decide⟩ hb2 (fun o h => by cases h) ?_
  refine kl_norm (st' := [.inl bv]) rfl ?_
  refine kl_istore (L' := [(6, .inl bv), (5, .inl kx), (0, .inr (.inr (some 0))), (1, .inr (.inr (some 1))), (2, .inr (.inr (some 2))), (3, .inr (.inr (some 3))), (4, .inl iv)]) hC dL_law_1674 (by decide) rfl ?_
  refine kl_aloadn hC 4 dL_law_1676 rfl rfl ?_
  refine kl_invM (as := []) (rest := []) hC dL_law_1677 kw1077L ky_X10_thrown ky2_X10_thrown rfl hk2 (t_X10_thrown 0 hm1) e3 rfl (fun v hv => by cases hv) rfl (Nat.le_of_ble_eq_true rfl) ⟨by decide, by decide⟩ hb2 (fun o h => by cases h) ?_
  refine kl_norm (st' := [.inl kx]) rfl ?_
  refine kl_iload hC 1 dL_law_1680 rfl ?_
  refine kl_icmp_eq (tgt := 1687) hC dL_law_1682 (by decide) (fun _ => ?_) (fun q => absurd rfl q)
  refine kl_iload hC 1 dL_law_1687 rfl ?_
  refine kl_if_ne (tgt := 1704) hC dL_law_1689 (by decide) (fun q => ?_) (fun q => ?_)
  · refine kl_aloadn hC 5 dL_law_1692 rfl rfl ?_
    refine kl_iconst (v := 0) hC dL_law_1693 (by decide) ?_
    refine kl_lald hC hk3 dL_law_1694 ?_
    refine kl_iload hC 0 dL_law_1695 rfl ?_
    refine kl_i2l hC dL_law_1697 ?_
    refine kl_lcmp hC dL_law_1698 ?_
    refine kl_if_eq (tgt := 1704) hC dL_law_1699 (by decide) (fun _ => ?_) (fun q2 => absurd (kcmp_eq (e4 q)) q2)
    refine kl_goto (tgt := 2146) hC dL_law_1704 (by decide) ?_
    exact kl_sub [2, 3, 4, 5, 6] rfl kk
  · refine kl_goto (tgt := 2146) hC dL_law_1704 (by decide) ?_
    exact kl_sub [2, 3, 4, 5, 6] rfl kk
set_option maxHeartbeats 4000000 in
set_option maxRecDepth 100000 in
theorem lw_case_27 {Y : KY} (hC : kCL Y) {cells slots : Nat} {hx hm : KH} {iv : Int32} (hi1 : vp_in (iv + 1) (yL Y)) (hk0 : kd hx 0 = 10) (hk1 : kd hm 0 = 11) {kx : Int32} {bv : Int32} {hx1 hm1 : KH} (e1 : f_L_due 0 (((yx Y) (iv + 1).toNatClampNeg)) 36 hx = some (.inr kx, hx1)) (e2 : f_X10_due 0 (((yx Y) (iv + 1).toNatClampNeg)) hm = some (.inr bv, hm1)) (e3 : f_X10_thrown 0 hm1 = some (.inr kx, hm1)) (e4 : kx = 0 → kL hx1 36 0 = bv.toInt64) (hk2 : kd hm1 0 = 11) (hk3 : kd hx1 36 = 22 ∧ ¬ ((0 : Int32) < 0 ∨ kn hx1 36 ≤ (0 : Int32).toNatClampNeg)) (hb : cells + 1 ≤ 601024 ∧ slots + 6 ≤ 7293034) (hb2 : cells + 1 + 0 ≤ 601024 ∧ slots + 6 + 0 ≤ 7293034)
    (kk : kJL Y (cells + 1) (slots + 6) [(0, .inr (.inr (some 0))), (1, .inr (.inr (some 1))), (2, .inr (.inr (some 2))), (3, .inr (.inr (some 3))), (4, .inl iv)] [] 2146 hx1 hm1) : kJL Y cells slots [(0, .inr (.inr (some 0))), (1, .inr (.inr (some 1))), (2, .inr (.inr (some 2))), (3, .inr (.inr (some 3))), (4, .inl iv)] [] 1707 hx hm := by
  refine kl_aloadn hC 1 dL_law_1707 rfl rfl ?_
  refine kl_aloadn hC 0 dL_law_1708 rfl rfl ?_
  refine kl_iload hC 4 dL_law_1709 rfl ?_
  refine kl_iconst (v := 1) hC dL_law_1711 (by decide) ?_
  refine kl_iadd hC dL_law_1712 ?_
  refine kl_sld hC hi1 dL_law_1713 ?_
  refine kl_aloadn hC 3 dL_law_1714 rfl rfl ?_
  refine kl_wrap (N := 3) (as := [.inl (((yx Y) (iv + 1).toNatClampNeg))]) hC dL_law_1715 kw851L kw49L kw853L kw852L (by decide) rfl (by decide +kernel) (t_L_due 0 (((yx Y) (iv + 1).toNatClampNeg)) 36 hx) e1 (fun v hv o e => by simp at hv; subst hv; cases e) rfl ⟨by decide, by decide⟩ hb ?_
  refine kl_norm (st' := [.inl kx]) rfl ?_
  refine kl_istore (L' := [(5, .inl kx), (0, .inr (.inr (some 0))), (1, .inr (.inr (some 1))), (2, .inr (.inr (some 2))), (3, .inr (.inr (some 3))), (4, .inl iv)]) hC dL_law_1718 (by decide) rfl ?_
  refine kl_aloadn hC 3 dL_law_1720 rfl rfl ?_
  refine kl_aloadn hC 1 dL_law_1721 rfl rfl ?_
  refine kl_iload hC 5 dL_law_1722 rfl ?_
  refine kl_iconst (v := 1) hC dL_law_1724 (by decide) ?_
  refine kl_iadd hC dL_law_1725 ?_
  refine kl_sld hC hi1 dL_law_1726 ?_
  refine kl_invM (as := [.inl (((yx Y) (iv + 1).toNatClampNeg))]) (rest := []) hC dL_law_1727 kw1291L ky_X10_due ky2_X10_due rfl hk1 (t_X10_due 0 (((yx Y) (iv + 1).toNatClampNeg)) hm) e2 rfl (fun v hv o e => by simp at hv; subst hv; cases e) rfl (Nat.le_of_ble_eq_true rfl) ⟨by decide, by decide⟩ hb2 (fun o h => by cases h) ?_
  refine kl_norm (st' := [.inl bv]) rfl ?_
  refine kl_istore (L' := [(6, .inl bv), (5, .inl kx), (0, .inr (.inr (some 0))), (1, .inr (.inr (some 1))), (2, .inr (.inr (some 2))), (3, .inr (.inr (some 3))), (4, .inl iv)]) hC dL_law_1730 (by decide) rfl ?_
  refine kl_aloadn hC 4 dL_law_1732 rfl rfl ?_
  refine kl_invM (as := []) (rest := []) hC dL_law_1733 kw1077L ky_X10_thrown ky2_X10_thrown rfl hk2 (t_X10_thrown 0 hm1) e3 rfl (fun v hv => by cases hv) rfl (Nat.le_of_ble_eq_true rfl) ⟨by decide, by decide⟩ hb2 (fun o h => by cases h) ?_
  refine kl_norm (st' := [.inl kx]) rfl ?_
  refine kl_iload hC 1 dL_law_1736 rfl ?_
  refine kl_icmp_eq (tgt := 1743) hC dL_law_1738 (by decide) (fun _ => ?_) (fun q => absurd rfl q)
  refine kl_iload hC 1 dL_law_1743 rfl ?_
  refine kl_if_ne (tgt := 1760) hC dL_law_1745 (by decide) (fun q => ?_) (fun q => ?_)
  · refine kl_aloadn hC 5 dL_law_1748 rfl rfl ?_
    refine kl_iconst (v := 0) hC dL_law_1749 (by decide) ?_
    refine kl_lald hC hk3 dL_law_1750 ?_
    refine kl_iload hC 0 dL_law_1751 rfl ?_
    refine kl_i2l hC dL_law_1753 ?_
    refine kl_lcmp hC dL_law_1754 ?_
    refine kl_if_eq (tgt := 1760) hC dL_law_1755 (by decide) (fun _ => ?_) (fun q2 => absurd (kcmp_eq (e4 q)) q2)
    refine kl_goto (tgt := 2146) hC dL_law_1760 (by decide) ?_
    exact kl_sub [2, 3, 4, 5, 6] rfl kk
  · refine kl_goto (tgt := 2146) hC dL_law_1760 (by decide) ?_
    exact kl_sub [2, 3, 4, 5, 6] rfl kk
set_option maxHeartbeats 4000000 in
set_option maxRecDepth 100000 in
theorem lw_case_28 {Y : KY} (hC : kCL Y) {cells slots : Nat} {hx hm : KH} {iv : Int32} (hi1 : vp_in (iv + 1) (yL Y)) (hk0 : kd hx 0 = 10) (hk1 : kd hm 0 = 11) {kx : Int32} {bv : Int32} {hx1 hm1 : KH} (e1 : f_L_dueAnew 0 (((yx Y) (iv + 1).toNatClampNeg)) 36 hx = some (.inr kx, hx1)) (e2 : f_X10_dueAnew 0 (((yx Y) (iv + 1).toNatClampNeg)) hm = some (.inr bv, hm1)) (e3 : f_X10_thrown 0 hm1 = some (.inr kx, hm1)) (e4 : kx = 0 → kL hx1 36 0 = bv.toInt64) (hk2 : kd hm1 0 = 11) (hk3 : kd hx1 36 = 22 ∧ ¬ ((0 : Int32) < 0 ∨ kn hx1 36 ≤ (0 : Int32).toNatClampNeg)) (hb : cells + 1 ≤ 601024 ∧ slots + 6 ≤ 7293034) (hb2 : cells + 1 + 0 ≤ 601024 ∧ slots + 6 + 0 ≤ 7293034)
    (kk : kJL Y (cells + 1) (slots + 6) [(0, .inr (.inr (some 0))), (1, .inr (.inr (some 1))), (2, .inr (.inr (some 2))), (3, .inr (.inr (some 3))), (4, .inl iv)] [] 2146 hx1 hm1) : kJL Y cells slots [(0, .inr (.inr (some 0))), (1, .inr (.inr (some 1))), (2, .inr (.inr (some 2))), (3, .inr (.inr (some 3))), (4, .inl iv)] [] 1763 hx hm := by
  refine kl_aloadn hC 1 dL_law_1763 rfl rfl ?_
  refine kl_aloadn hC 0 dL_law_1764 rfl rfl ?_
  refine kl_iload hC 4 dL_law_1765 rfl ?_
  refine kl_iconst (v := 1) hC dL_law_1767 (by decide) ?_
  refine kl_iadd hC dL_law_1768 ?_
  refine kl_sld hC hi1 dL_law_1769 ?_
  refine kl_aloadn hC 3 dL_law_1770 rfl rfl ?_
  refine kl_wrap (N := 3) (as := [.inl (((yx Y) (iv + 1).toNatClampNeg))]) hC dL_law_1771 kw858L kw49L kw860L kw859L (by decide) rfl (by decide +kernel) (t_L_dueAnew 0 (((yx Y) (iv + 1).toNatClampNeg)) 36 hx) e1 (fun v hv o e => by simp at hv; subst hv; cases e) rfl ⟨by decide, by decide⟩ hb ?_
  refine kl_norm (st' := [.inl kx]) rfl ?_
  refine kl_istore (L' := [(5, .inl kx), (0, .inr (.inr (some 0))), (1, .inr (.inr (some 1))), (2, .inr (.inr (some 2))), (3, .inr (.inr (some 3))), (4, .inl iv)]) hC dL_law_1774 (by decide) rfl ?_
  refine kl_aloadn hC 3 dL_law_1776 rfl rfl ?_
  refine kl_aloadn hC 1 dL_law_1777 rfl rfl ?_
  refine kl_iload hC 5 dL_law_1778 rfl ?_
  refine kl_iconst (v := 1) hC dL_law_1780 (by decide) ?_
  refine kl_iadd hC dL_law_1781 ?_
  refine kl_sld hC hi1 dL_law_1782 ?_
  refine kl_invM (as := [.inl (((yx Y) (iv + 1).toNatClampNeg))]) (rest := []) hC dL_law_1783 kw1299L ky_X10_dueAnew ky2_X10_dueAnew rfl hk1 (t_X10_dueAnew 0 (((yx Y) (iv + 1).toNatClampNeg)) hm) e2 rfl (fun v hv o e => by simp at hv; subst hv; cases e) rfl (Nat.le_of_ble_eq_true rfl) ⟨by decide, by decide⟩ hb2 (fun o h => by cases h) ?_
  refine kl_norm (st' := [.inl bv]) rfl ?_
  refine kl_istore (L' := [(6, .inl bv), (5, .inl kx), (0, .inr (.inr (some 0))), (1, .inr (.inr (some 1))), (2, .inr (.inr (some 2))), (3, .inr (.inr (some 3))), (4, .inl iv)]) hC dL_law_1786 (by decide) rfl ?_
  refine kl_aloadn hC 4 dL_law_1788 rfl rfl ?_
  refine kl_invM (as := []) (rest := []) hC dL_law_1789 kw1077L ky_X10_thrown ky2_X10_thrown rfl hk2 (t_X10_thrown 0 hm1) e3 rfl (fun v hv => by cases hv) rfl (Nat.le_of_ble_eq_true rfl) ⟨by decide, by decide⟩ hb2 (fun o h => by cases h) ?_
  refine kl_norm (st' := [.inl kx]) rfl ?_
  refine kl_iload hC 1 dL_law_1792 rfl ?_
  refine kl_icmp_eq (tgt := 1799) hC dL_law_1794 (by decide) (fun _ => ?_) (fun q => absurd rfl q)
  refine kl_iload hC 1 dL_law_1799 rfl ?_
  refine kl_if_ne (tgt := 1816) hC dL_law_1801 (by decide) (fun q => ?_) (fun q => ?_)
  · refine kl_aloadn hC 5 dL_law_1804 rfl rfl ?_
    refine kl_iconst (v := 0) hC dL_law_1805 (by decide) ?_
    refine kl_lald hC hk3 dL_law_1806 ?_
    refine kl_iload hC 0 dL_law_1807 rfl ?_
    refine kl_i2l hC dL_law_1809 ?_
    refine kl_lcmp hC dL_law_1810 ?_
    refine kl_if_eq (tgt := 1816) hC dL_law_1811 (by decide) (fun _ => ?_) (fun q2 => absurd (kcmp_eq (e4 q)) q2)
    refine kl_goto (tgt := 2146) hC dL_law_1816 (by decide) ?_
    exact kl_sub [2, 3, 4, 5, 6] rfl kk
  · refine kl_goto (tgt := 2146) hC dL_law_1816 (by decide) ?_
    exact kl_sub [2, 3, 4, 5, 6] rfl kk
set_option maxHeartbeats 4000000 in
set_option maxRecDepth 100000 in
theorem lw_case_29 {Y : KY} (hC : kCL Y) {cells slots : Nat} {hx hm : KH} {iv : Int32}  (hk0 : kd hx 0 = 10) (hk1 : kd hm 0 = 11) {bv : Int32} {hx1 hm1 : KH} (e1 : f_X9_settle 0 hx = some (.inr bv, hx1)) (e2 : f_X10_settle 0 hm = some (.inr bv, hm1)) (hb : cells + 0 ≤ 601024 ∧ slots + 0 ≤ 7293034) (hb2 : cells + 0 + 0 ≤ 601024 ∧ slots + 0 + 0 ≤ 7293034)
    (kk : kJL Y (cells + 0) (slots + 0) [(0, .inr (.inr (some 0))), (1, .inr (.inr (some 1))), (2, .inr (.inr (some 2))), (3, .inr (.inr (some 3))), (4, .inl iv)] [] 2146 hx1 hm1) : kJL Y cells slots [(0, .inr (.inr (some 0))), (1, .inr (.inr (some 1))), (2, .inr (.inr (some 2))), (3, .inr (.inr (some 3))), (4, .inl iv)] [] 1819 hx hm := by
  refine kl_aloadn hC 1 dL_law_1819 rfl rfl ?_
  refine kl_invX (as := []) (rest := []) hC dL_law_1820 kw247L ky_X9_settle ky2_X9_settle rfl hk0 (t_X9_settle 0 hx) e1 rfl (fun v hv => by cases hv) rfl (Nat.le_of_ble_eq_true rfl) ⟨by decide, by decide⟩ hb (fun o h => by cases h) ?_
  refine kl_norm (st' := [.inl bv]) rfl ?_
  refine kl_aloadn hC 2 dL_law_1823 rfl rfl ?_
  refine kl_invM (as := []) (rest := [.inl bv]) hC dL_law_1824 kw1303L ky_X10_settle ky2_X10_settle rfl hk1 (t_X10_settle 0 hm) e2 rfl (fun v hv => by cases hv) rfl (Nat.le_of_ble_eq_true rfl) ⟨by decide, by decide⟩ hb2 (fun o h => by cases h) ?_
  refine kl_norm (st' := [.inl bv, .inl bv]) rfl ?_
  refine kl_icmp_eq (tgt := 2146) hC dL_law_1827 (by decide) (fun _ => ?_) (fun q => absurd rfl q)
  exact kl_sub [0, 1, 2, 3, 4] rfl kk
set_option maxHeartbeats 4000000 in
set_option maxRecDepth 100000 in
theorem lw_case_30 {Y : KY} (hC : kCL Y) {cells slots : Nat} {hx hm : KH} {iv : Int32} (hi1 : vp_in (iv + 1) (yL Y)) (hk0 : kd hx 0 = 10) (hk1 : kd hm 0 = 11) {kx : Int32} {bv : Int64} {hx1 hm1 : KH} (e1 : f_L_billed 0 (((yx Y) (iv + 1).toNatClampNeg)) 36 hx = some (.inr kx, hx1)) (e2 : f_X10_billed 0 (((yx Y) (iv + 1).toNatClampNeg)) hm = some (.inr bv, hm1)) (e3 : f_X10_thrown 0 hm1 = some (.inr kx, hm1)) (e4 : kx = 0 → kL hx1 36 0 = bv) (hk2 : kd hm1 0 = 11) (hk3 : kd hx1 36 = 22 ∧ ¬ ((0 : Int32) < 0 ∨ kn hx1 36 ≤ (0 : Int32).toNatClampNeg)) (hb : cells + 1 ≤ 601024 ∧ slots + 6 ≤ 7293034) (hb2 : cells + 1 + 0 ≤ 601024 ∧ slots + 6 + 0 ≤ 7293034)
    (kk : kJL Y (cells + 1) (slots + 6) [(0, .inr (.inr (some 0))), (1, .inr (.inr (some 1))), (2, .inr (.inr (some 2))), (3, .inr (.inr (some 3))), (4, .inl iv)] [] 2146 hx1 hm1) : kJL Y cells slots [(0, .inr (.inr (some 0))), (1, .inr (.inr (some 1))), (2, .inr (.inr (some 2))), (3, .inr (.inr (some 3))), (4, .inl iv)] [] 1832 hx hm := by
  refine kl_aloadn hC 1 dL_law_1832 rfl rfl ?_
  refine kl_aloadn hC 0 dL_law_1833 rfl rfl ?_
  refine kl_iload hC 4 dL_law_1834 rfl ?_
  refine kl_iconst (v := 1) hC dL_law_1836 (by decide) ?_
  refine kl_iadd hC dL_law_1837 ?_
  refine kl_sld hC hi1 dL_law_1838 ?_
  refine kl_aloadn hC 3 dL_law_1839 rfl rfl ?_
  refine kl_wrap (N := 3) (as := [.inl (((yx Y) (iv + 1).toNatClampNeg))]) hC dL_law_1840 kw865L kw49L kw867L kw866L (by decide) rfl (by decide +kernel) (t_L_billed 0 (((yx Y) (iv + 1).toNatClampNeg)) 36 hx) e1 (fun v hv o e => by simp at hv; subst hv; cases e) rfl ⟨by decide, by decide⟩ hb ?_
  refine kl_norm (st' := [.inl kx]) rfl ?_
  refine kl_istore (L' := [(5, .inl kx), (0, .inr (.inr (some 0))), (1, .inr (.inr (some 1))), (2, .inr (.inr (some 2))), (3, .inr (.inr (some 3))), (4, .inl iv)]) hC dL_law_1843 (by decide) rfl ?_
  refine kl_aloadn hC 3 dL_law_1845 rfl rfl ?_
  refine kl_aloadn hC 1 dL_law_1846 rfl rfl ?_
  refine kl_iload hC 5 dL_law_1847 rfl ?_
  refine kl_iconst (v := 1) hC dL_law_1849 (by decide) ?_
  refine kl_iadd hC dL_law_1850 ?_
  refine kl_sld hC hi1 dL_law_1851 ?_
  refine kl_invM (as := [.inl (((yx Y) (iv + 1).toNatClampNeg))]) (rest := []) hC dL_law_1852 kw1307L ky_X10_billed ky2_X10_billed rfl hk1 (t_X10_billed 0 (((yx Y) (iv + 1).toNatClampNeg)) hm) e2 rfl (fun v hv o e => by simp at hv; subst hv; cases e) rfl (Nat.le_of_ble_eq_true rfl) ⟨by decide, by decide⟩ hb2 (fun o h => by cases h) ?_
  refine kl_norm (st' := [.inr (.inl (bv))]) rfl ?_
  refine kl_lstore (L' := [(6, .inr (.inl (bv))), (5, .inl kx), (0, .inr (.inr (some 0))), (1, .inr (.inr (some 1))), (2, .inr (.inr (some 2))), (3, .inr (.inr (some 3))), (4, .inl iv)]) hC dL_law_1855 (by decide) rfl ?_
  refine kl_aloadn hC 4 dL_law_1857 rfl rfl ?_
  refine kl_invM (as := []) (rest := []) hC dL_law_1858 kw1077L ky_X10_thrown ky2_X10_thrown rfl hk2 (t_X10_thrown 0 hm1) e3 rfl (fun v hv => by cases hv) rfl (Nat.le_of_ble_eq_true rfl) ⟨by decide, by decide⟩ hb2 (fun o h => by cases h) ?_
  refine kl_norm (st' := [.inl kx]) rfl ?_
  refine kl_iload hC 1 dL_law_1861 rfl ?_
  refine kl_icmp_eq (tgt := 1868) hC dL_law_1863 (by decide) (fun _ => ?_) (fun q => absurd rfl q)
  refine kl_iload hC 1 dL_law_1868 rfl ?_
  refine kl_if_ne (tgt := 1884) hC dL_law_1870 (by decide) (fun q => ?_) (fun q => ?_)
  · refine kl_aloadn hC 5 dL_law_1873 rfl rfl ?_
    refine kl_iconst (v := 0) hC dL_law_1874 (by decide) ?_
    refine kl_lald hC hk3 dL_law_1875 ?_
    refine kl_lload hC 0 dL_law_1876 rfl ?_
    refine kl_lcmp hC dL_law_1878 ?_
    refine kl_if_eq (tgt := 1884) hC dL_law_1879 (by decide) (fun _ => ?_) (fun q2 => absurd (kcmp_eq (e4 q)) q2)
    refine kl_goto (tgt := 2146) hC dL_law_1884 (by decide) ?_
    exact kl_sub [2, 3, 4, 5, 6] rfl kk
  · refine kl_goto (tgt := 2146) hC dL_law_1884 (by decide) ?_
    exact kl_sub [2, 3, 4, 5, 6] rfl kk
set_option maxHeartbeats 4000000 in
set_option maxRecDepth 100000 in
theorem lw_case_31 {Y : KY} (hC : kCL Y) {cells slots : Nat} {hx hm : KH} {iv : Int32} (hi1 : vp_in (iv + 1) (yL Y)) (hk0 : kd hx 0 = 10) (hk1 : kd hm 0 = 11) {kx : Int32} {bv : Int64} {hx1 hm1 : KH} (e1 : f_L_paidBack 0 (((yx Y) (iv + 1).toNatClampNeg)) 36 hx = some (.inr kx, hx1)) (e2 : f_X10_paidBack 0 (((yx Y) (iv + 1).toNatClampNeg)) hm = some (.inr bv, hm1)) (e3 : f_X10_thrown 0 hm1 = some (.inr kx, hm1)) (e4 : kx = 0 → kL hx1 36 0 = bv) (hk2 : kd hm1 0 = 11) (hk3 : kd hx1 36 = 22 ∧ ¬ ((0 : Int32) < 0 ∨ kn hx1 36 ≤ (0 : Int32).toNatClampNeg)) (hb : cells + 1 ≤ 601024 ∧ slots + 6 ≤ 7293034) (hb2 : cells + 1 + 0 ≤ 601024 ∧ slots + 6 + 0 ≤ 7293034)
    (kk : kJL Y (cells + 1) (slots + 6) [(0, .inr (.inr (some 0))), (1, .inr (.inr (some 1))), (2, .inr (.inr (some 2))), (3, .inr (.inr (some 3))), (4, .inl iv)] [] 2146 hx1 hm1) : kJL Y cells slots [(0, .inr (.inr (some 0))), (1, .inr (.inr (some 1))), (2, .inr (.inr (some 2))), (3, .inr (.inr (some 3))), (4, .inl iv)] [] 1887 hx hm := by
  refine kl_aloadn hC 1 dL_law_1887 rfl rfl ?_
  refine kl_aloadn hC 0 dL_law_1888 rfl rfl ?_
  refine kl_iload hC 4 dL_law_1889 rfl ?_
  refine kl_iconst (v := 1) hC dL_law_1891 (by decide) ?_
  refine kl_iadd hC dL_law_1892 ?_
  refine kl_sld hC hi1 dL_law_1893 ?_
  refine kl_aloadn hC 3 dL_law_1894 rfl rfl ?_
  refine kl_wrap (N := 3) (as := [.inl (((yx Y) (iv + 1).toNatClampNeg))]) hC dL_law_1895 kw872L kw49L kw874L kw873L (by decide) rfl (by decide +kernel) (t_L_paidBack 0 (((yx Y) (iv + 1).toNatClampNeg)) 36 hx) e1 (fun v hv o e => by simp at hv; subst hv; cases e) rfl ⟨by decide, by decide⟩ hb ?_
  refine kl_norm (st' := [.inl kx]) rfl ?_
  refine kl_istore (L' := [(5, .inl kx), (0, .inr (.inr (some 0))), (1, .inr (.inr (some 1))), (2, .inr (.inr (some 2))), (3, .inr (.inr (some 3))), (4, .inl iv)]) hC dL_law_1898 (by decide) rfl ?_
  refine kl_aloadn hC 3 dL_law_1900 rfl rfl ?_
  refine kl_aloadn hC 1 dL_law_1901 rfl rfl ?_
  refine kl_iload hC 5 dL_law_1902 rfl ?_
  refine kl_iconst (v := 1) hC dL_law_1904 (by decide) ?_
  refine kl_iadd hC dL_law_1905 ?_
  refine kl_sld hC hi1 dL_law_1906 ?_
  refine kl_invM (as := [.inl (((yx Y) (iv + 1).toNatClampNeg))]) (rest := []) hC dL_law_1907 kw1311L ky_X10_paidBack ky2_X10_paidBack rfl hk1 (t_X10_paidBack 0 (((yx Y) (iv + 1).toNatClampNeg)) hm) e2 rfl (fun v hv o e => by simp at hv; subst hv; cases e) rfl (Nat.le_of_ble_eq_true rfl) ⟨by decide, by decide⟩ hb2 (fun o h => by cases h) ?_
  refine kl_norm (st' := [.inr (.inl (bv))]) rfl ?_
  refine kl_lstore (L' := [(6, .inr (.inl (bv))), (5, .inl kx), (0, .inr (.inr (some 0))), (1, .inr (.inr (some 1))), (2, .inr (.inr (some 2))), (3, .inr (.inr (some 3))), (4, .inl iv)]) hC dL_law_1910 (by decide) rfl ?_
  refine kl_aloadn hC 4 dL_law_1912 rfl rfl ?_
  refine kl_invM (as := []) (rest := []) hC dL_law_1913 kw1077L ky_X10_thrown ky2_X10_thrown rfl hk2 (t_X10_thrown 0 hm1) e3 rfl (fun v hv => by cases hv) rfl (Nat.le_of_ble_eq_true rfl) ⟨by decide, by decide⟩ hb2 (fun o h => by cases h) ?_
  refine kl_norm (st' := [.inl kx]) rfl ?_
  refine kl_iload hC 1 dL_law_1916 rfl ?_
  refine kl_icmp_eq (tgt := 1923) hC dL_law_1918 (by decide) (fun _ => ?_) (fun q => absurd rfl q)
  refine kl_iload hC 1 dL_law_1923 rfl ?_
  refine kl_if_ne (tgt := 1939) hC dL_law_1925 (by decide) (fun q => ?_) (fun q => ?_)
  · refine kl_aloadn hC 5 dL_law_1928 rfl rfl ?_
    refine kl_iconst (v := 0) hC dL_law_1929 (by decide) ?_
    refine kl_lald hC hk3 dL_law_1930 ?_
    refine kl_lload hC 0 dL_law_1931 rfl ?_
    refine kl_lcmp hC dL_law_1933 ?_
    refine kl_if_eq (tgt := 1939) hC dL_law_1934 (by decide) (fun _ => ?_) (fun q2 => absurd (kcmp_eq (e4 q)) q2)
    refine kl_goto (tgt := 2146) hC dL_law_1939 (by decide) ?_
    exact kl_sub [2, 3, 4, 5, 6] rfl kk
  · refine kl_goto (tgt := 2146) hC dL_law_1939 (by decide) ?_
    exact kl_sub [2, 3, 4, 5, 6] rfl kk
set_option maxHeartbeats 4000000 in
set_option maxRecDepth 100000 in
theorem lw_case_32 {Y : KY} (hC : kCL Y) {cells slots : Nat} {hx hm : KH} {iv : Int32} (hi1 : vp_in (iv + 1) (yL Y)) (hi2 : vp_in (iv + 2) (yL Y)) (hi3 : vp_in (iv + 3) (yL Y)) (hk0 : kd hx 0 = 10) (hk1 : kd hm 0 = 11) {kx : Int32} {bv : Int32} {hx1 hm1 : KH} (e1 : f_L_warrant 0 (((yx Y) (iv + 1).toNatClampNeg)) (((yx Y) (iv + 2).toNatClampNeg)) (((yx Y) (iv + 3).toNatClampNeg)) 36 hx = some (.inr kx, hx1)) (e2 : f_X10_warrant 0 (((yx Y) (iv + 1).toNatClampNeg)) (((yx Y) (iv + 2).toNatClampNeg)) (((yx Y) (iv + 3).toNatClampNeg)) hm = some (.inr bv, hm1)) (e3 : f_X10_thrown 0 hm1 = some (.inr kx, hm1)) (e4 : kx = 0 → kL hx1 36 0 = bv.toInt64) (hk2 : kd hm1 0 = 11) (hk3 : kd hx1 36 = 22 ∧ ¬ ((0 : Int32) < 0 ∨ kn hx1 36 ≤ (0 : Int32).toNatClampNeg)) (hb : cells + 2 ≤ 601024 ∧ slots + 12 ≤ 7293034) (hb2 : cells + 2 + 0 ≤ 601024 ∧ slots + 12 + 0 ≤ 7293034)
    (kk : kJL Y (cells + 2) (slots + 12) [(0, .inr (.inr (some 0))), (1, .inr (.inr (some 1))), (2, .inr (.inr (some 2))), (3, .inr (.inr (some 3))), (4, .inl iv)] [] 2146 hx1 hm1) : kJL Y cells slots [(0, .inr (.inr (some 0))), (1, .inr (.inr (some 1))), (2, .inr (.inr (some 2))), (3, .inr (.inr (some 3))), (4, .inl iv)] [] 1942 hx hm := by
  refine kl_aloadn hC 1 dL_law_1942 rfl rfl ?_
  refine kl_aloadn hC 0 dL_law_1943 rfl rfl ?_
  refine kl_iload hC 4 dL_law_1944 rfl ?_
  refine kl_iconst (v := 1) hC dL_law_1946 (by decide) ?_
  refine kl_iadd hC dL_law_1947 ?_
  refine kl_sld hC hi1 dL_law_1948 ?_
  refine kl_aloadn hC 0 dL_law_1949 rfl rfl ?_
  refine kl_iload hC 4 dL_law_1950 rfl ?_
  refine kl_iconst (v := 2) hC dL_law_1952 (by decide) ?_
  refine kl_iadd hC dL_law_1953 ?_
  refine kl_sld hC hi2 dL_law_1954 ?_
  refine kl_aloadn hC 0 dL_law_1955 rfl rfl ?_
  refine kl_iload hC 4 dL_law_1956 rfl ?_
  refine kl_iconst (v := 3) hC dL_law_1958 (by decide) ?_
  refine kl_iadd hC dL_law_1959 ?_
  refine kl_sld hC hi3 dL_law_1960 ?_
  refine kl_aloadn hC 3 dL_law_1961 rfl rfl ?_
  refine kl_wrap (N := 5) (as := [.inl (((yx Y) (iv + 1).toNatClampNeg)), .inl (((yx Y) (iv + 2).toNatClampNeg)), .inl (((yx Y) (iv + 3).toNatClampNeg))]) hC dL_law_1962 kw879L kw49L kw881L kw880L (by decide) rfl (by decide +kernel) (t_L_warrant 0 (((yx Y) (iv + 1).toNatClampNeg)) (((yx Y) (iv + 2).toNatClampNeg)) (((yx Y) (iv + 3).toNatClampNeg)) 36 hx) e1 (fun v hv o e => by simp at hv; rcases hv with rfl | rfl | rfl <;> cases e) rfl ⟨by decide, by decide⟩ hb ?_
  refine kl_norm (st' := [.inl kx]) rfl ?_
  refine kl_istore (L' := [(5, .inl kx), (0, .inr (.inr (some 0))), (1, .inr (.inr (some 1))), (2, .inr (.inr (some 2))), (3, .inr (.inr (some 3))), (4, .inl iv)]) hC dL_law_1965 (by decide) rfl ?_
  refine kl_aloadn hC 3 dL_law_1967 rfl rfl ?_
  refine kl_aloadn hC 1 dL_law_1968 rfl rfl ?_
  refine kl_iload hC 5 dL_law_1969 rfl ?_
  refine kl_iconst (v := 1) hC dL_law_1971 (by decide) ?_
  refine kl_iadd hC dL_law_1972 ?_
  refine kl_sld hC hi1 dL_law_1973 ?_
  refine kl_aloadn hC 1 dL_law_1974 rfl rfl ?_
  refine kl_iload hC 5 dL_law_1975 rfl ?_
  refine kl_iconst (v := 2) hC dL_law_1977 (by decide) ?_
  refine kl_iadd hC dL_law_1978 ?_
  refine kl_sld hC hi2 dL_law_1979 ?_
  refine kl_aloadn hC 1 dL_law_1980 rfl rfl ?_
  refine kl_iload hC 5 dL_law_1981 rfl ?_
  refine kl_iconst (v := 3) hC dL_law_1983 (by decide) ?_
  refine kl_iadd hC dL_law_1984 ?_
  refine kl_sld hC hi3 dL_law_1985 ?_
  refine kl_invM (as := [.inl (((yx Y) (iv + 1).toNatClampNeg)), .inl (((yx Y) (iv + 2).toNatClampNeg)), .inl (((yx Y) (iv + 3).toNatClampNeg))]) (rest := []) hC dL_law_1986 kw1315L ky_X10_warrant ky2_X10_warrant rfl hk1 (t_X10_warrant 0 (((yx Y) (iv + 1).toNatClampNeg)) (((yx Y) (iv + 2).toNatClampNeg)) (((yx Y) (iv + 3).toNatClampNeg)) hm) e2 rfl (fun v hv o e => by simp at hv; rcases hv with rfl | rfl | rfl <;> cases e) rfl (Nat.le_of_ble_eq_true rfl) ⟨by decide, by decide⟩ hb2 (fun o h => by cases h) ?_
  refine kl_norm (st' := [.inl bv]) rfl ?_
  refine kl_istore (L' := [(6, .inl bv), (5, .inl kx), (0, .inr (.inr (some 0))), (1, .inr (.inr (some 1))), (2, .inr (.inr (some 2))), (3, .inr (.inr (some 3))), (4, .inl iv)]) hC dL_law_1989 (by decide) rfl ?_
  refine kl_aloadn hC 4 dL_law_1991 rfl rfl ?_
  refine kl_invM (as := []) (rest := []) hC dL_law_1992 kw1077L ky_X10_thrown ky2_X10_thrown rfl hk2 (t_X10_thrown 0 hm1) e3 rfl (fun v hv => by cases hv) rfl (Nat.le_of_ble_eq_true rfl) ⟨by decide, by decide⟩ hb2 (fun o h => by cases h) ?_
  refine kl_norm (st' := [.inl kx]) rfl ?_
  refine kl_iload hC 1 dL_law_1995 rfl ?_
  refine kl_icmp_eq (tgt := 2002) hC dL_law_1997 (by decide) (fun _ => ?_) (fun q => absurd rfl q)
  refine kl_iload hC 1 dL_law_2002 rfl ?_
  refine kl_if_ne (tgt := 2019) hC dL_law_2004 (by decide) (fun q => ?_) (fun q => ?_)
  · refine kl_aloadn hC 5 dL_law_2007 rfl rfl ?_
    refine kl_iconst (v := 0) hC dL_law_2008 (by decide) ?_
    refine kl_lald hC hk3 dL_law_2009 ?_
    refine kl_iload hC 0 dL_law_2010 rfl ?_
    refine kl_i2l hC dL_law_2012 ?_
    refine kl_lcmp hC dL_law_2013 ?_
    refine kl_if_eq (tgt := 2019) hC dL_law_2014 (by decide) (fun _ => ?_) (fun q2 => absurd (kcmp_eq (e4 q)) q2)
    refine kl_goto (tgt := 2146) hC dL_law_2019 (by decide) ?_
    exact kl_sub [2, 3, 4, 5, 6] rfl kk
  · refine kl_goto (tgt := 2146) hC dL_law_2019 (by decide) ?_
    exact kl_sub [2, 3, 4, 5, 6] rfl kk
set_option maxHeartbeats 4000000 in
set_option maxRecDepth 100000 in
theorem lw_case_33 {Y : KY} (hC : kCL Y) {cells slots : Nat} {hx hm : KH} {iv : Int32} (hi1 : vp_in (iv + 1) (yL Y)) (hi2 : vp_in (iv + 2) (yL Y)) (hk0 : kd hx 0 = 10) (hk1 : kd hm 0 = 11) {kx : Int32} {bv : Int32} {hx1 hm1 : KH} (e1 : f_L_ask 0 (((yx Y) (iv + 1).toNatClampNeg)) (((yx Y) (iv + 2).toNatClampNeg)) 36 hx = some (.inr kx, hx1)) (e2 : f_X10_ask 0 (((yx Y) (iv + 1).toNatClampNeg)) (((yx Y) (iv + 2).toNatClampNeg)) hm = some (.inr bv, hm1)) (e3 : f_X10_thrown 0 hm1 = some (.inr kx, hm1)) (e4 : kx = 0 → kL hx1 36 0 = bv.toInt64) (hk2 : kd hm1 0 = 11) (hk3 : kd hx1 36 = 22 ∧ ¬ ((0 : Int32) < 0 ∨ kn hx1 36 ≤ (0 : Int32).toNatClampNeg)) (hb : cells + 2 ≤ 601024 ∧ slots + 12 ≤ 7293034) (hb2 : cells + 2 + 0 ≤ 601024 ∧ slots + 12 + 0 ≤ 7293034)
    (kk : kJL Y (cells + 2) (slots + 12) [(0, .inr (.inr (some 0))), (1, .inr (.inr (some 1))), (2, .inr (.inr (some 2))), (3, .inr (.inr (some 3))), (4, .inl iv)] [] 2146 hx1 hm1) : kJL Y cells slots [(0, .inr (.inr (some 0))), (1, .inr (.inr (some 1))), (2, .inr (.inr (some 2))), (3, .inr (.inr (some 3))), (4, .inl iv)] [] 2022 hx hm := by
  refine kl_aloadn hC 1 dL_law_2022 rfl rfl ?_
  refine kl_aloadn hC 0 dL_law_2023 rfl rfl ?_
  refine kl_iload hC 4 dL_law_2024 rfl ?_
  refine kl_iconst (v := 1) hC dL_law_2026 (by decide) ?_
  refine kl_iadd hC dL_law_2027 ?_
  refine kl_sld hC hi1 dL_law_2028 ?_
  refine kl_aloadn hC 0 dL_law_2029 rfl rfl ?_
  refine kl_iload hC 4 dL_law_2030 rfl ?_
  refine kl_iconst (v := 2) hC dL_law_2032 (by decide) ?_
  refine kl_iadd hC dL_law_2033 ?_
  refine kl_sld hC hi2 dL_law_2034 ?_
  refine kl_aloadn hC 3 dL_law_2035 rfl rfl ?_
  refine kl_wrap (N := 4) (as := [.inl (((yx Y) (iv + 1).toNatClampNeg)), .inl (((yx Y) (iv + 2).toNatClampNeg))]) hC dL_law_2036 kw907L kw49L kw909L kw908L (by decide) rfl (by decide +kernel) (t_L_ask 0 (((yx Y) (iv + 1).toNatClampNeg)) (((yx Y) (iv + 2).toNatClampNeg)) 36 hx) e1 (fun v hv o e => by simp at hv; rcases hv with rfl | rfl <;> cases e) rfl ⟨by decide, by decide⟩ hb ?_
  refine kl_norm (st' := [.inl kx]) rfl ?_
  refine kl_istore (L' := [(5, .inl kx), (0, .inr (.inr (some 0))), (1, .inr (.inr (some 1))), (2, .inr (.inr (some 2))), (3, .inr (.inr (some 3))), (4, .inl iv)]) hC dL_law_2039 (by decide) rfl ?_
  refine kl_aloadn hC 3 dL_law_2041 rfl rfl ?_
  refine kl_aloadn hC 1 dL_law_2042 rfl rfl ?_
  refine kl_iload hC 5 dL_law_2043 rfl ?_
  refine kl_iconst (v := 1) hC dL_law_2045 (by decide) ?_
  refine kl_iadd hC dL_law_2046 ?_
  refine kl_sld hC hi1 dL_law_2047 ?_
  refine kl_aloadn hC 1 dL_law_2048 rfl rfl ?_
  refine kl_iload hC 5 dL_law_2049 rfl ?_
  refine kl_iconst (v := 2) hC dL_law_2051 (by decide) ?_
  refine kl_iadd hC dL_law_2052 ?_
  refine kl_sld hC hi2 dL_law_2053 ?_
  refine kl_invM (as := [.inl (((yx Y) (iv + 1).toNatClampNeg)), .inl (((yx Y) (iv + 2).toNatClampNeg))]) (rest := []) hC dL_law_2054 kw1319L ky_X10_ask ky2_X10_ask rfl hk1 (t_X10_ask 0 (((yx Y) (iv + 1).toNatClampNeg)) (((yx Y) (iv + 2).toNatClampNeg)) hm) e2 rfl (fun v hv o e => by simp at hv; rcases hv with rfl | rfl <;> cases e) rfl (Nat.le_of_ble_eq_true rfl) ⟨by decide, by decide⟩ hb2 (fun o h => by cases h) ?_
  refine kl_norm (st' := [.inl bv]) rfl ?_
  refine kl_istore (L' := [(6, .inl bv), (5, .inl kx), (0, .inr (.inr (some 0))), (1, .inr (.inr (some 1))), (2, .inr (.inr (some 2))), (3, .inr (.inr (some 3))), (4, .inl iv)]) hC dL_law_2057 (by decide) rfl ?_
  refine kl_aloadn hC 4 dL_law_2059 rfl rfl ?_
  refine kl_invM (as := []) (rest := []) hC dL_law_2060 kw1077L ky_X10_thrown ky2_X10_thrown rfl hk2 (t_X10_thrown 0 hm1) e3 rfl (fun v hv => by cases hv) rfl (Nat.le_of_ble_eq_true rfl) ⟨by decide, by decide⟩ hb2 (fun o h => by cases h) ?_
  refine kl_norm (st' := [.inl kx]) rfl ?_
  refine kl_iload hC 1 dL_law_2063 rfl ?_
  refine kl_icmp_eq (tgt := 2070) hC dL_law_2065 (by decide) (fun _ => ?_) (fun q => absurd rfl q)
  refine kl_iload hC 1 dL_law_2070 rfl ?_
  refine kl_if_ne (tgt := 2087) hC dL_law_2072 (by decide) (fun q => ?_) (fun q => ?_)
  · refine kl_aloadn hC 5 dL_law_2075 rfl rfl ?_
    refine kl_iconst (v := 0) hC dL_law_2076 (by decide) ?_
    refine kl_lald hC hk3 dL_law_2077 ?_
    refine kl_iload hC 0 dL_law_2078 rfl ?_
    refine kl_i2l hC dL_law_2080 ?_
    refine kl_lcmp hC dL_law_2081 ?_
    refine kl_if_eq (tgt := 2087) hC dL_law_2082 (by decide) (fun _ => ?_) (fun q2 => absurd (kcmp_eq (e4 q)) q2)
    refine kl_goto (tgt := 2146) hC dL_law_2087 (by decide) ?_
    exact kl_sub [2, 3, 4, 5, 6] rfl kk
  · refine kl_goto (tgt := 2146) hC dL_law_2087 (by decide) ?_
    exact kl_sub [2, 3, 4, 5, 6] rfl kk
set_option maxHeartbeats 4000000 in
set_option maxRecDepth 100000 in
theorem lw_case_34 {Y : KY} (hC : kCL Y) {cells slots : Nat} {hx hm : KH} {iv : Int32} (hi1 : vp_in (iv + 1) (yL Y)) (hk0 : kd hx 0 = 10) (hk1 : kd hm 0 = 11) {kx : Int32} {bv : Int32} {hx1 hm1 : KH} (e1 : f_L_stale 0 (((yx Y) (iv + 1).toNatClampNeg)) 36 hx = some (.inr kx, hx1)) (e2 : f_X10_stale 0 (((yx Y) (iv + 1).toNatClampNeg)) hm = some (.inr bv, hm1)) (e3 : f_X10_thrown 0 hm1 = some (.inr kx, hm1)) (e4 : kx = 0 → kL hx1 36 0 = bv.toInt64) (hk2 : kd hm1 0 = 11) (hk3 : kd hx1 36 = 22 ∧ ¬ ((0 : Int32) < 0 ∨ kn hx1 36 ≤ (0 : Int32).toNatClampNeg)) (hb : cells + 1 ≤ 601024 ∧ slots + 6 ≤ 7293034) (hb2 : cells + 1 + 0 ≤ 601024 ∧ slots + 6 + 0 ≤ 7293034)
    (kk : kJL Y (cells + 1) (slots + 6) [(0, .inr (.inr (some 0))), (1, .inr (.inr (some 1))), (2, .inr (.inr (some 2))), (3, .inr (.inr (some 3))), (4, .inl iv)] [] 2146 hx1 hm1) : kJL Y cells slots [(0, .inr (.inr (some 0))), (1, .inr (.inr (some 1))), (2, .inr (.inr (some 2))), (3, .inr (.inr (some 3))), (4, .inl iv)] [] 2090 hx hm := by
  refine kl_aloadn hC 1 dL_law_2090 rfl rfl ?_
  refine kl_aloadn hC 0 dL_law_2091 rfl rfl ?_
  refine kl_iload hC 4 dL_law_2092 rfl ?_
  refine kl_iconst (v := 1) hC dL_law_2094 (by decide) ?_
  refine kl_iadd hC dL_law_2095 ?_
  refine kl_sld hC hi1 dL_law_2096 ?_
  refine kl_aloadn hC 3 dL_law_2097 rfl rfl ?_
  refine kl_wrap (N := 3) (as := [.inl (((yx Y) (iv + 1).toNatClampNeg))]) hC dL_law_2098 kw947L kw49L kw949L kw948L (by decide) rfl (by decide +kernel) (t_L_stale 0 (((yx Y) (iv + 1).toNatClampNeg)) 36 hx) e1 (fun v hv o e => by simp at hv; subst hv; cases e) rfl ⟨by decide, by decide⟩ hb ?_
  refine kl_norm (st' := [.inl kx]) rfl ?_
  refine kl_istore (L' := [(5, .inl kx), (0, .inr (.inr (some 0))), (1, .inr (.inr (some 1))), (2, .inr (.inr (some 2))), (3, .inr (.inr (some 3))), (4, .inl iv)]) hC dL_law_2101 (by decide) rfl ?_
  refine kl_aloadn hC 3 dL_law_2103 rfl rfl ?_
  refine kl_aloadn hC 1 dL_law_2104 rfl rfl ?_
  refine kl_iload hC 5 dL_law_2105 rfl ?_
  refine kl_iconst (v := 1) hC dL_law_2107 (by decide) ?_
  refine kl_iadd hC dL_law_2108 ?_
  refine kl_sld hC hi1 dL_law_2109 ?_
  refine kl_invM (as := [.inl (((yx Y) (iv + 1).toNatClampNeg))]) (rest := []) hC dL_law_2110 kw1332L ky_X10_stale ky2_X10_stale rfl hk1 (t_X10_stale 0 (((yx Y) (iv + 1).toNatClampNeg)) hm) e2 rfl (fun v hv o e => by simp at hv; subst hv; cases e) rfl (Nat.le_of_ble_eq_true rfl) ⟨by decide, by decide⟩ hb2 (fun o h => by cases h) ?_
  refine kl_norm (st' := [.inl bv]) rfl ?_
  refine kl_istore (L' := [(6, .inl bv), (5, .inl kx), (0, .inr (.inr (some 0))), (1, .inr (.inr (some 1))), (2, .inr (.inr (some 2))), (3, .inr (.inr (some 3))), (4, .inl iv)]) hC dL_law_2113 (by decide) rfl ?_
  refine kl_aloadn hC 4 dL_law_2115 rfl rfl ?_
  refine kl_invM (as := []) (rest := []) hC dL_law_2116 kw1077L ky_X10_thrown ky2_X10_thrown rfl hk2 (t_X10_thrown 0 hm1) e3 rfl (fun v hv => by cases hv) rfl (Nat.le_of_ble_eq_true rfl) ⟨by decide, by decide⟩ hb2 (fun o h => by cases h) ?_
  refine kl_norm (st' := [.inl kx]) rfl ?_
  refine kl_iload hC 1 dL_law_2119 rfl ?_
  refine kl_icmp_eq (tgt := 2126) hC dL_law_2121 (by decide) (fun _ => ?_) (fun q => absurd rfl q)
  refine kl_iload hC 1 dL_law_2126 rfl ?_
  refine kl_if_ne (tgt := 2143) hC dL_law_2128 (by decide) (fun q => ?_) (fun q => ?_)
  · refine kl_aloadn hC 5 dL_law_2131 rfl rfl ?_
    refine kl_iconst (v := 0) hC dL_law_2132 (by decide) ?_
    refine kl_lald hC hk3 dL_law_2133 ?_
    refine kl_iload hC 0 dL_law_2134 rfl ?_
    refine kl_i2l hC dL_law_2136 ?_
    refine kl_lcmp hC dL_law_2137 ?_
    refine kl_if_eq (tgt := 2143) hC dL_law_2138 (by decide) (fun _ => ?_) (fun q2 => absurd (kcmp_eq (e4 q)) q2)
    refine kl_goto (tgt := 2146) hC dL_law_2143 (by decide) ?_
    exact kl_sub [2, 3, 4, 5, 6] rfl kk
  · refine kl_goto (tgt := 2146) hC dL_law_2143 (by decide) ?_
    exact kl_sub [2, 3, 4, 5, 6] rfl kk
