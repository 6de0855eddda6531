/-! THE LAW: its loop, over an invariant between the two sides. -/
theorem ck_X7_back : CkB yX7_back cX7_back 2 (some .int) 1 := ⟨mem_TB 875 (by decide +kernel) (by decide +kernel), mem_TB 97 (by decide +kernel) (by decide +kernel), by decide +kernel, by decide⟩
theorem ck_X7_byteAt : CkB yX7_byteAt cX7_byteAt 3 (some .int) 2 := ⟨mem_TB 766 (by decide +kernel) (by decide +kernel), mem_TB 97 (by decide +kernel) (by decide +kernel), by decide +kernel, by decide⟩
theorem ck_X7_check : CkB yX7_check cX7_check 7 (some .int) 3 := ⟨mem_TB 771 (by decide +kernel) (by decide +kernel), mem_TB 97 (by decide +kernel) (by decide +kernel), by decide +kernel, by decide⟩
theorem ck_X7_clear : CkB yX7_clear cX7_clear 2 (some .int) 0 := ⟨mem_TB 346 (by decide +kernel) (by decide +kernel), mem_TB 97 (by decide +kernel) (by decide +kernel), by decide +kernel, by decide⟩
theorem ck_X7_count : CkB yX7_count cX7_count 2 (some .int) 1 := ⟨mem_TB 840 (by decide +kernel) (by decide +kernel), mem_TB 97 (by decide +kernel) (by decide +kernel), by decide +kernel, by decide⟩
theorem ck_X7_digest : CkB yX7_digest cX7_digest 6 (some .long) 0 := ⟨mem_TB 859 (by decide +kernel) (by decide +kernel), mem_TB 97 (by decide +kernel) (by decide +kernel), by decide +kernel, by decide⟩
theorem ck_X7_find : CkB yX7_find cX7_find 5 (some .int) 2 := ⟨mem_TB 708 (by decide +kernel) (by decide +kernel), mem_TB 97 (by decide +kernel) (by decide +kernel), by decide +kernel, by decide⟩
theorem ck_X7_keep : CkB yX7_keep cX7_keep 2 (some .int) 1 := ⟨mem_TB 865 (by decide +kernel) (by decide +kernel), mem_TB 97 (by decide +kernel) (by decide +kernel), by decide +kernel, by decide⟩
theorem ck_X7_letter : CkB yX7_letter cX7_letter 6 (some .int) 2 := ⟨mem_TB 736 (by decide +kernel) (by decide +kernel), mem_TB 97 (by decide +kernel) (by decide +kernel), by decide +kernel, by decide⟩
theorem ck_X7_load : CkB yX7_load cX7_load 4 (some .int) 3 := ⟨mem_TB 703 (by decide +kernel) (by decide +kernel), mem_TB 97 (by decide +kernel) (by decide +kernel), by decide +kernel, by decide⟩
theorem ck_X7_page : CkB yX7_page cX7_page 4 (some .int) 2 := ⟨mem_TB 756 (by decide +kernel) (by decide +kernel), mem_TB 97 (by decide +kernel) (by decide +kernel), by decide +kernel, by decide⟩
theorem ck_X7_path : CkB yX7_path cX7_path 4 (some .int) 3 := ⟨mem_TB 731 (by decide +kernel) (by decide +kernel), mem_TB 97 (by decide +kernel) (by decide +kernel), by decide +kernel, by decide⟩
theorem ck_X7_put : CkB yX7_put cX7_put 4 (some .int) 3 := ⟨mem_TB 691 (by decide +kernel) (by decide +kernel), mem_TB 97 (by decide +kernel) (by decide +kernel), by decide +kernel, by decide⟩
theorem ck_X7_rank : CkB yX7_rank cX7_rank 7 (some .int) 3 := ⟨mem_TB 717 (by decide +kernel) (by decide +kernel), mem_TB 97 (by decide +kernel) (by decide +kernel), by decide +kernel, by decide⟩
theorem ck_X7_run : CkB yX7_run cX7_run 5 (some .int) 0 := ⟨mem_TB 350 (by decide +kernel) (by decide +kernel), mem_TB 97 (by decide +kernel) (by decide +kernel), by decide +kernel, by decide⟩
theorem ck_X7_take : CkB yX7_take cX7_take 3 (some .int) 2 := ⟨mem_TB 699 (by decide +kernel) (by decide +kernel), mem_TB 97 (by decide +kernel) (by decide +kernel), by decide +kernel, by decide⟩
theorem ck_X7_times : CkB yX7_times cX7_times 2 (some .int) 1 := ⟨mem_TB 884 (by decide +kernel) (by decide +kernel), mem_TB 97 (by decide +kernel) (by decide +kernel), by decide +kernel, by decide⟩
theorem ck_X7_type : CkB yX7_type cX7_type 2 (some .int) 1 := ⟨mem_TB 332 (by decide +kernel) (by decide +kernel), mem_TB 97 (by decide +kernel) (by decide +kernel), by decide +kernel, by decide⟩
theorem ck_X7_value : CkB yX7_value cX7_value 3 (some .int) 1 := ⟨mem_TB 752 (by decide +kernel) (by decide +kernel), mem_TB 97 (by decide +kernel) (by decide +kernel), by decide +kernel, by decide⟩
theorem ck_X8_back : CkB yX8_back cX8_back 3 (some .int) 1 := ⟨mem_TB 1282 (by decide +kernel) (by decide +kernel), mem_TB 107 (by decide +kernel) (by decide +kernel), by decide +kernel, by decide⟩
theorem ck_X8_byteAt : CkB yX8_byteAt cX8_byteAt 3 (some .int) 2 := ⟨mem_TB 1192 (by decide +kernel) (by decide +kernel), mem_TB 107 (by decide +kernel) (by decide +kernel), by decide +kernel, by decide⟩
theorem ck_X8_check : CkB yX8_check cX8_check 5 (some .int) 3 := ⟨mem_TB 1196 (by decide +kernel) (by decide +kernel), mem_TB 107 (by decide +kernel) (by decide +kernel), by decide +kernel, by decide⟩
theorem ck_X8_clear : CkB yX8_clear cX8_clear 2 (some .int) 0 := ⟨mem_TB 1290 (by decide +kernel) (by decide +kernel), mem_TB 107 (by decide +kernel) (by decide +kernel), by decide +kernel, by decide⟩
theorem ck_X8_count : CkB yX8_count cX8_count 2 (some .int) 1 := ⟨mem_TB 1256 (by decide +kernel) (by decide +kernel), mem_TB 107 (by decide +kernel) (by decide +kernel), by decide +kernel, by decide⟩
theorem ck_X8_digest : CkB yX8_digest cX8_digest 4 (some .long) 0 := ⟨mem_TB 1272 (by decide +kernel) (by decide +kernel), mem_TB 107 (by decide +kernel) (by decide +kernel), by decide +kernel, by decide⟩
theorem ck_X8_find : CkB yX8_find cX8_find 3 (some .int) 2 := ⟨mem_TB 1141 (by decide +kernel) (by decide +kernel), mem_TB 107 (by decide +kernel) (by decide +kernel), by decide +kernel, by decide⟩
theorem ck_X8_keep : CkB yX8_keep cX8_keep 3 (some .int) 1 := ⟨mem_TB 1278 (by decide +kernel) (by decide +kernel), mem_TB 107 (by decide +kernel) (by decide +kernel), by decide +kernel, by decide⟩
theorem ck_X8_letter : CkB yX8_letter cX8_letter 4 (some .int) 2 := ⟨mem_TB 1169 (by decide +kernel) (by decide +kernel), mem_TB 107 (by decide +kernel) (by decide +kernel), by decide +kernel, by decide⟩
theorem ck_X8_load : CkB yX8_load cX8_load 4 (some .int) 3 := ⟨mem_TB 1126 (by decide +kernel) (by decide +kernel), mem_TB 107 (by decide +kernel) (by decide +kernel), by decide +kernel, by decide⟩
theorem ck_X8_page : CkB yX8_page cX8_page 3 (some .int) 2 := ⟨mem_TB 1185 (by decide +kernel) (by decide +kernel), mem_TB 107 (by decide +kernel) (by decide +kernel), by decide +kernel, by decide⟩
theorem ck_X8_path : CkB yX8_path cX8_path 4 (some .int) 3 := ⟨mem_TB 1165 (by decide +kernel) (by decide +kernel), mem_TB 107 (by decide +kernel) (by decide +kernel), by decide +kernel, by decide⟩
theorem ck_X8_put : CkB yX8_put cX8_put 4 (some .int) 3 := ⟨mem_TB 1000 (by decide +kernel) (by decide +kernel), mem_TB 107 (by decide +kernel) (by decide +kernel), by decide +kernel, by decide⟩
theorem ck_X8_rank : CkB yX8_rank cX8_rank 9 (some .int) 3 := ⟨mem_TB 1149 (by decide +kernel) (by decide +kernel), mem_TB 107 (by decide +kernel) (by decide +kernel), by decide +kernel, by decide⟩
theorem ck_X8_run : CkB yX8_run cX8_run 2 (some .int) 0 := ⟨mem_TB 1298 (by decide +kernel) (by decide +kernel), mem_TB 107 (by decide +kernel) (by decide +kernel), by decide +kernel, by decide⟩
theorem ck_X8_take : CkB yX8_take cX8_take 3 (some .int) 2 := ⟨mem_TB 1106 (by decide +kernel) (by decide +kernel), mem_TB 107 (by decide +kernel) (by decide +kernel), by decide +kernel, by decide⟩
theorem ck_X8_times : CkB yX8_times cX8_times 2 (some .int) 1 := ⟨mem_TB 1294 (by decide +kernel) (by decide +kernel), mem_TB 107 (by decide +kernel) (by decide +kernel), by decide +kernel, by decide⟩
theorem ck_X8_type : CkB yX8_type cX8_type 2 (some .int) 1 := ⟨mem_TB 1286 (by decide +kernel) (by decide +kernel), mem_TB 107 (by decide +kernel) (by decide +kernel), by decide +kernel, by decide⟩
theorem ck_X8_value : CkB yX8_value cX8_value 3 (some .int) 1 := ⟨mem_TB 1181 (by decide +kernel) (by decide +kernel), mem_TB 107 (by decide +kernel) (by decide +kernel), by decide +kernel, by decide⟩
theorem im_X7_back : Cond.instanceMethod yX7_back ∈ TB := mem_TB 873 (by decide +kernel) (by decide +kernel)
theorem im_X7_byteAt : Cond.instanceMethod yX7_byteAt ∈ TB := mem_TB 764 (by decide +kernel) (by decide +kernel)
theorem im_X7_check : Cond.instanceMethod yX7_check ∈ TB := mem_TB 769 (by decide +kernel) (by decide +kernel)
theorem im_X7_clear : Cond.instanceMethod yX7_clear ∈ TB := mem_TB 344 (by decide +kernel) (by decide +kernel)
theorem im_X7_count : Cond.instanceMethod yX7_count ∈ TB := mem_TB 838 (by decide +kernel) (by decide +kernel)
theorem im_X7_digest : Cond.instanceMethod yX7_digest ∈ TB := mem_TB 857 (by decide +kernel) (by decide +kernel)
theorem im_X7_find : Cond.instanceMethod yX7_find ∈ TB := mem_TB 706 (by decide +kernel) (by decide +kernel)
theorem im_X7_keep : Cond.instanceMethod yX7_keep ∈ TB := mem_TB 863 (by decide +kernel) (by decide +kernel)
theorem im_X7_letter : Cond.instanceMethod yX7_letter ∈ TB := mem_TB 734 (by decide +kernel) (by decide +kernel)
theorem im_X7_load : Cond.instanceMethod yX7_load ∈ TB := mem_TB 701 (by decide +kernel) (by decide +kernel)
theorem im_X7_page : Cond.instanceMethod yX7_page ∈ TB := mem_TB 754 (by decide +kernel) (by decide +kernel)
theorem im_X7_path : Cond.instanceMethod yX7_path ∈ TB := mem_TB 729 (by decide +kernel) (by decide +kernel)
theorem im_X7_put : Cond.instanceMethod yX7_put ∈ TB := mem_TB 689 (by decide +kernel) (by decide +kernel)
theorem im_X7_rank : Cond.instanceMethod yX7_rank ∈ TB := mem_TB 715 (by decide +kernel) (by decide +kernel)
theorem im_X7_run : Cond.instanceMethod yX7_run ∈ TB := mem_TB 348 (by decide +kernel) (by decide +kernel)
theorem im_X7_take : Cond.instanceMethod yX7_take ∈ TB := mem_TB 697 (by decide +kernel) (by decide +kernel)
theorem im_X7_times : Cond.instanceMethod yX7_times ∈ TB := mem_TB 882 (by decide +kernel) (by decide +kernel)
theorem im_X7_type : Cond.instanceMethod yX7_type ∈ TB := mem_TB 330 (by decide +kernel) (by decide +kernel)
theorem im_X7_value : Cond.instanceMethod yX7_value ∈ TB := mem_TB 750 (by decide +kernel) (by decide +kernel)
theorem im_X8_back : Cond.instanceMethod yX8_back ∈ TB := mem_TB 1280 (by decide +kernel) (by decide +kernel)
theorem im_X8_byteAt : Cond.instanceMethod yX8_byteAt ∈ TB := mem_TB 1190 (by decide +kernel) (by decide +kernel)
theorem im_X8_check : Cond.instanceMethod yX8_check ∈ TB := mem_TB 1194 (by decide +kernel) (by decide +kernel)
theorem im_X8_clear : Cond.instanceMethod yX8_clear ∈ TB := mem_TB 1288 (by decide +kernel) (by decide +kernel)
theorem im_X8_count : Cond.instanceMethod yX8_count ∈ TB := mem_TB 1254 (by decide +kernel) (by decide +kernel)
theorem im_X8_digest : Cond.instanceMethod yX8_digest ∈ TB := mem_TB 1270 (by decide +kernel) (by decide +kernel)
theorem im_X8_find : Cond.instanceMethod yX8_find ∈ TB := mem_TB 1139 (by decide +kernel) (by decide +kernel)
theorem im_X8_keep : Cond.instanceMethod yX8_keep ∈ TB := mem_TB 1276 (by decide +kernel) (by decide +kernel)
theorem im_X8_letter : Cond.instanceMethod yX8_letter ∈ TB := mem_TB 1167 (by decide +kernel) (by decide +kernel)
theorem im_X8_load : Cond.instanceMethod yX8_load ∈ TB := mem_TB 1124 (by decide +kernel) (by decide +kernel)
theorem im_X8_page : Cond.instanceMethod yX8_page ∈ TB := mem_TB 1183 (by decide +kernel) (by decide +kernel)
theorem im_X8_path : Cond.instanceMethod yX8_path ∈ TB := mem_TB 1163 (by decide +kernel) (by decide +kernel)
theorem im_X8_put : Cond.instanceMethod yX8_put ∈ TB := mem_TB 998 (by decide +kernel) (by decide +kernel)
theorem im_X8_rank : Cond.instanceMethod yX8_rank ∈ TB := mem_TB 1147 (by decide +kernel) (by decide +kernel)
theorem im_X8_run : Cond.instanceMethod yX8_run ∈ TB := mem_TB 1296 (by decide +kernel) (by decide +kernel)
theorem im_X8_take : Cond.instanceMethod yX8_take ∈ TB := mem_TB 1104 (by decide +kernel) (by decide +kernel)
theorem im_X8_times : Cond.instanceMethod yX8_times ∈ TB := mem_TB 1292 (by decide +kernel) (by decide +kernel)
theorem im_X8_type : Cond.instanceMethod yX8_type ∈ TB := mem_TB 1284 (by decide +kernel) (by decide +kernel)
theorem im_X8_value : Cond.instanceMethod yX8_value ∈ TB := mem_TB 1179 (by decide +kernel) (by decide +kernel)
theorem ml_RL_13 : Cond.methodLink RL 13 yX7_type ∈ TB := mem_TB 329 (by decide +kernel) (by decide +kernel)
theorem ml_RL_17 : Cond.methodLink RL 17 yX8_type ∈ TB := mem_TB 1283 (by decide +kernel) (by decide +kernel)
theorem ml_RL_18 : Cond.methodLink RL 18 yX7_clear ∈ TB := mem_TB 343 (by decide +kernel) (by decide +kernel)
theorem ml_RL_22 : Cond.methodLink RL 22 yX8_clear ∈ TB := mem_TB 1287 (by decide +kernel) (by decide +kernel)
theorem ml_RL_23 : Cond.methodLink RL 23 yX7_run ∈ TB := mem_TB 347 (by decide +kernel) (by decide +kernel)
theorem ml_RL_26 : Cond.methodLink RL 26 yX8_run ∈ TB := mem_TB 1295 (by decide +kernel) (by decide +kernel)
theorem ml_RL_27 : Cond.methodLink RL 27 yX7_put ∈ TB := mem_TB 688 (by decide +kernel) (by decide +kernel)
theorem ml_RL_31 : Cond.methodLink RL 31 yX8_put ∈ TB := mem_TB 997 (by decide +kernel) (by decide +kernel)
theorem ml_RL_32 : Cond.methodLink RL 32 yX7_take ∈ TB := mem_TB 696 (by decide +kernel) (by decide +kernel)
theorem ml_RL_36 : Cond.methodLink RL 36 yX8_take ∈ TB := mem_TB 1103 (by decide +kernel) (by decide +kernel)
theorem ml_RL_37 : Cond.methodLink RL 37 yX7_load ∈ TB := mem_TB 700 (by decide +kernel) (by decide +kernel)
theorem ml_RL_40 : Cond.methodLink RL 40 yX8_load ∈ TB := mem_TB 1123 (by decide +kernel) (by decide +kernel)
theorem ml_RL_41 : Cond.methodLink RL 41 yX7_find ∈ TB := mem_TB 705 (by decide +kernel) (by decide +kernel)
theorem ml_RL_44 : Cond.methodLink RL 44 yX8_find ∈ TB := mem_TB 1138 (by decide +kernel) (by decide +kernel)
theorem ml_RL_45 : Cond.methodLink RL 45 yX7_rank ∈ TB := mem_TB 714 (by decide +kernel) (by decide +kernel)
theorem ml_RL_48 : Cond.methodLink RL 48 yX8_rank ∈ TB := mem_TB 1146 (by decide +kernel) (by decide +kernel)
theorem ml_RL_49 : Cond.methodLink RL 49 yX7_path ∈ TB := mem_TB 728 (by decide +kernel) (by decide +kernel)
theorem ml_RL_52 : Cond.methodLink RL 52 yX8_path ∈ TB := mem_TB 1162 (by decide +kernel) (by decide +kernel)
theorem ml_RL_53 : Cond.methodLink RL 53 yX7_letter ∈ TB := mem_TB 733 (by decide +kernel) (by decide +kernel)
theorem ml_RL_56 : Cond.methodLink RL 56 yX8_letter ∈ TB := mem_TB 1166 (by decide +kernel) (by decide +kernel)
theorem ml_RL_57 : Cond.methodLink RL 57 yX7_value ∈ TB := mem_TB 749 (by decide +kernel) (by decide +kernel)
theorem ml_RL_60 : Cond.methodLink RL 60 yX8_value ∈ TB := mem_TB 1178 (by decide +kernel) (by decide +kernel)
theorem ml_RL_61 : Cond.methodLink RL 61 yX7_page ∈ TB := mem_TB 753 (by decide +kernel) (by decide +kernel)
theorem ml_RL_64 : Cond.methodLink RL 64 yX8_page ∈ TB := mem_TB 1182 (by decide +kernel) (by decide +kernel)
theorem ml_RL_65 : Cond.methodLink RL 65 yX7_byteAt ∈ TB := mem_TB 763 (by decide +kernel) (by decide +kernel)
theorem ml_RL_68 : Cond.methodLink RL 68 yX8_byteAt ∈ TB := mem_TB 1189 (by decide +kernel) (by decide +kernel)
theorem ml_RL_69 : Cond.methodLink RL 69 yX7_check ∈ TB := mem_TB 768 (by decide +kernel) (by decide +kernel)
theorem ml_RL_72 : Cond.methodLink RL 72 yX8_check ∈ TB := mem_TB 1193 (by decide +kernel) (by decide +kernel)
theorem ml_RL_73 : Cond.methodLink RL 73 yX7_count ∈ TB := mem_TB 837 (by decide +kernel) (by decide +kernel)
theorem ml_RL_76 : Cond.methodLink RL 76 yX8_count ∈ TB := mem_TB 1253 (by decide +kernel) (by decide +kernel)
theorem ml_RL_77 : Cond.methodLink RL 77 yX7_digest ∈ TB := mem_TB 856 (by decide +kernel) (by decide +kernel)
theorem ml_RL_81 : Cond.methodLink RL 81 yX8_digest ∈ TB := mem_TB 1269 (by decide +kernel) (by decide +kernel)
theorem ml_RL_82 : Cond.methodLink RL 82 yX7_keep ∈ TB := mem_TB 862 (by decide +kernel) (by decide +kernel)
theorem ml_RL_85 : Cond.methodLink RL 85 yX8_keep ∈ TB := mem_TB 1275 (by decide +kernel) (by decide +kernel)
theorem ml_RL_86 : Cond.methodLink RL 86 yX7_back ∈ TB := mem_TB 872 (by decide +kernel) (by decide +kernel)
theorem ml_RL_89 : Cond.methodLink RL 89 yX8_back ∈ TB := mem_TB 1279 (by decide +kernel) (by decide +kernel)
theorem ml_RL_90 : Cond.methodLink RL 90 yX7_times ∈ TB := mem_TB 881 (by decide +kernel) (by decide +kernel)
theorem ml_RL_93 : Cond.methodLink RL 93 yX8_times ∈ TB := mem_TB 1291 (by decide +kernel) (by decide +kernel)
theorem sl_X7_back : Cond.selects (yX7_back).cls yX7_back yX7_back ∈ TB := mem_TB 874 (by decide +kernel) (by decide +kernel)
theorem sl_X7_byteAt : Cond.selects (yX7_byteAt).cls yX7_byteAt yX7_byteAt ∈ TB := mem_TB 765 (by decide +kernel) (by decide +kernel)
theorem sl_X7_check : Cond.selects (yX7_check).cls yX7_check yX7_check ∈ TB := mem_TB 770 (by decide +kernel) (by decide +kernel)
theorem sl_X7_clear : Cond.selects (yX7_clear).cls yX7_clear yX7_clear ∈ TB := mem_TB 345 (by decide +kernel) (by decide +kernel)
theorem sl_X7_count : Cond.selects (yX7_count).cls yX7_count yX7_count ∈ TB := mem_TB 839 (by decide +kernel) (by decide +kernel)
theorem sl_X7_digest : Cond.selects (yX7_digest).cls yX7_digest yX7_digest ∈ TB := mem_TB 858 (by decide +kernel) (by decide +kernel)
theorem sl_X7_find : Cond.selects (yX7_find).cls yX7_find yX7_find ∈ TB := mem_TB 707 (by decide +kernel) (by decide +kernel)
theorem sl_X7_keep : Cond.selects (yX7_keep).cls yX7_keep yX7_keep ∈ TB := mem_TB 864 (by decide +kernel) (by decide +kernel)
theorem sl_X7_letter : Cond.selects (yX7_letter).cls yX7_letter yX7_letter ∈ TB := mem_TB 735 (by decide +kernel) (by decide +kernel)
theorem sl_X7_load : Cond.selects (yX7_load).cls yX7_load yX7_load ∈ TB := mem_TB 702 (by decide +kernel) (by decide +kernel)
theorem sl_X7_page : Cond.selects (yX7_page).cls yX7_page yX7_page ∈ TB := mem_TB 755 (by decide +kernel) (by decide +kernel)
theorem sl_X7_path : Cond.selects (yX7_path).cls yX7_path yX7_path ∈ TB := mem_TB 730 (by decide +kernel) (by decide +kernel)
theorem sl_X7_put : Cond.selects (yX7_put).cls yX7_put yX7_put ∈ TB := mem_TB 690 (by decide +kernel) (by decide +kernel)
theorem sl_X7_rank : Cond.selects (yX7_rank).cls yX7_rank yX7_rank ∈ TB := mem_TB 716 (by decide +kernel) (by decide +kernel)
theorem sl_X7_run : Cond.selects (yX7_run).cls yX7_run yX7_run ∈ TB := mem_TB 349 (by decide +kernel) (by decide +kernel)
theorem sl_X7_take : Cond.selects (yX7_take).cls yX7_take yX7_take ∈ TB := mem_TB 698 (by decide +kernel) (by decide +kernel)
theorem sl_X7_times : Cond.selects (yX7_times).cls yX7_times yX7_times ∈ TB := mem_TB 883 (by decide +kernel) (by decide +kernel)
theorem sl_X7_type : Cond.selects (yX7_type).cls yX7_type yX7_type ∈ TB := mem_TB 331 (by decide +kernel) (by decide +kernel)
theorem sl_X7_value : Cond.selects (yX7_value).cls yX7_value yX7_value ∈ TB := mem_TB 751 (by decide +kernel) (by decide +kernel)
theorem sl_X8_back : Cond.selects (yX8_back).cls yX8_back yX8_back ∈ TB := mem_TB 1281 (by decide +kernel) (by decide +kernel)
theorem sl_X8_byteAt : Cond.selects (yX8_byteAt).cls yX8_byteAt yX8_byteAt ∈ TB := mem_TB 1191 (by decide +kernel) (by decide +kernel)
theorem sl_X8_check : Cond.selects (yX8_check).cls yX8_check yX8_check ∈ TB := mem_TB 1195 (by decide +kernel) (by decide +kernel)
theorem sl_X8_clear : Cond.selects (yX8_clear).cls yX8_clear yX8_clear ∈ TB := mem_TB 1289 (by decide +kernel) (by decide +kernel)
theorem sl_X8_count : Cond.selects (yX8_count).cls yX8_count yX8_count ∈ TB := mem_TB 1255 (by decide +kernel) (by decide +kernel)
theorem sl_X8_digest : Cond.selects (yX8_digest).cls yX8_digest yX8_digest ∈ TB := mem_TB 1271 (by decide +kernel) (by decide +kernel)
theorem sl_X8_find : Cond.selects (yX8_find).cls yX8_find yX8_find ∈ TB := mem_TB 1140 (by decide +kernel) (by decide +kernel)
theorem sl_X8_keep : Cond.selects (yX8_keep).cls yX8_keep yX8_keep ∈ TB := mem_TB 1277 (by decide +kernel) (by decide +kernel)
theorem sl_X8_letter : Cond.selects (yX8_letter).cls yX8_letter yX8_letter ∈ TB := mem_TB 1168 (by decide +kernel) (by decide +kernel)
theorem sl_X8_load : Cond.selects (yX8_load).cls yX8_load yX8_load ∈ TB := mem_TB 1125 (by decide +kernel) (by decide +kernel)
theorem sl_X8_page : Cond.selects (yX8_page).cls yX8_page yX8_page ∈ TB := mem_TB 1184 (by decide +kernel) (by decide +kernel)
theorem sl_X8_path : Cond.selects (yX8_path).cls yX8_path yX8_path ∈ TB := mem_TB 1164 (by decide +kernel) (by decide +kernel)
theorem sl_X8_put : Cond.selects (yX8_put).cls yX8_put yX8_put ∈ TB := mem_TB 999 (by decide +kernel) (by decide +kernel)
theorem sl_X8_rank : Cond.selects (yX8_rank).cls yX8_rank yX8_rank ∈ TB := mem_TB 1148 (by decide +kernel) (by decide +kernel)
theorem sl_X8_run : Cond.selects (yX8_run).cls yX8_run yX8_run ∈ TB := mem_TB 1297 (by decide +kernel) (by decide +kernel)
theorem sl_X8_take : Cond.selects (yX8_take).cls yX8_take yX8_take ∈ TB := mem_TB 1105 (by decide +kernel) (by decide +kernel)
theorem sl_X8_times : Cond.selects (yX8_times).cls yX8_times yX8_times ∈ TB := mem_TB 1293 (by decide +kernel) (by decide +kernel)
theorem sl_X8_type : Cond.selects (yX8_type).cls yX8_type yX8_type ∈ TB := mem_TB 1285 (by decide +kernel) (by decide +kernel)
theorem sl_X8_value : Cond.selects (yX8_value).cls yX8_value yX8_value ∈ TB := mem_TB 1180 (by decide +kernel) (by decide +kernel)
theorem sx_r (x : Int32) : R32 x.toInt := ⟨by have := Int32.le_toInt x; omega, by have := Int32.toInt_lt x; omega⟩
section LW
variable {K : KT} {g : GT} {cc : ByteArray} {own : String} {d : Nat} {M : Mem} {pc : Nat} {lv : List (Option Value)} {st : List Value}
theorem r_scr (hK : Kok K g cc own d) {b L q : Nat} {xs : Nat → Int32} {i : Int} (hX : va_X b L xs (kS K) (kS K).heap) (hbl : b < (kS K).heap.size) (hbA : ¬ gS g b) (hL : L < 2147483648) (hq : q < L) (hi : i = (q : Int)) (hd : decode cc pc = .ok (.iaload, 1)) (k : Wn K g M (pc + 1) lv (.int (I (xs q).toInt) :: st)) : Wn K g M pc lv (.int (I i) :: .ref b :: st) := by
  intro H locs ls hP hS hl
  subst hi
  obtain ⟨h1, h2⟩ := I_nat (a := (q : Int)) (n := L) (by omega) (by omega) hL
  refine va_sld hK.x hK.b hX hbl hbA hS h1 hd ?_
  rw [h2, show ((q : Int)).toNat = q by omega]
  have e : I (xs q).toInt = xs q := by unfold I; exact Int32.ofInt_toInt _
  have := k H locs ls hP hS hl
  rw [e] at this
  exact this
theorem r_scrlen (hK : Kok K g cc own d) {b L : Nat} {xs : Nat → Int32} (hX : va_X b L xs (kS K) (kS K).heap) (hbl : b < (kS K).heap.size) (hbA : ¬ gS g b) (hd : decode cc pc = .ok (.arraylength, 1)) (k : Wn K g M (pc + 1) lv (.int (I L) :: st)) : Wn K g M pc lv (.ref b :: st) :=
  fun H locs ls hP hS hl => va_slen hK.x hK.b hX hbl hbA hS hd (k H locs ls hP hS hl)
theorem r_icmp_same (hK : Kok K g cc own d) {z : Int} {off : Int} {t : Nat} (hd : decode cc pc = .ok (.if_icmp .eq off, 3)) (ht : (pc : Int) + off = (t : Int)) (kt : Wn K g M t lv st) : Wn K g M pc lv (.int (I z) :: .int (I z) :: st) :=
  fun H locs ls hP hS hl => lv_icmp_eq hK.x hK.b hd ht (fun _ => kt H locs ls hP hS hl) (fun c => absurd rfl c)
theorem r_lcmp_same (hK : Kok K g cc own d) {z : Int} (hd : decode cc pc = .ok (.lcmp, 1)) (k : Wn K g M (pc + 1) lv (.int (I 0) :: st)) : Wn K g M pc lv (.long (LL z) :: .long (LL z) :: st) := by
  intro H locs ls hP hS hl
  refine W.lcmp hK.x hK.b hd ?_
  have e : lg_cmp (LL z) (LL z) = I 0 := by
    unfold lg_cmp
    rw [if_neg (by exact Int64.lt_irrefl), if_pos rfl]
    decide
  rw [e]
  exact k H locs ls hP hS hl
theorem r_iand31 (hK : Kok K g cc own d) {x : Int32} (hd : decode cc pc = .ok (.iand, 1)) (k : ∀ j : Nat, j < 32 → Wn K g M (pc + 1) lv (.int (I j) :: st)) : Wn K g M pc lv (.int (I 31) :: .int x :: st) := by
  intro H locs ls hP hS hl
  obtain ⟨j, hj, e⟩ := pk_andE x (m := I 31) 5 (by decide)
  refine lv_iand hK.x hK.b hd ?_
  rw [e]
  exact k j hj H locs ls hP hS hl
end LW
set_option maxRecDepth 100000 in
set_option maxHeartbeats 4000000 in
theorem law_loop {K : KT} {g : GT} {b L : Nat} {xs : Nat → Int32} {Inv : Mem → Mem → Prop} (hOk : LawOk Inv) (hK : Kok K g code RL 1000) (hN : kN K = 4) (hL : L ≤ 2048) (hX : va_X b L xs (kS K) (kS K).heap) (hbl : b < (kS K).heap.size) (hbA : ¬ gS g b)
    (hex : ∀ (C X : Mem) (lv : List (Option Value)), Wn K g (mrg C X) 688 lv []) :
    ∀ (n j : Nat) (C X : Mem), Inv C X → 4 * j ≤ L + 4 → L + 1 ≤ 4 * j + n → Wn K g (mrg C X) 18 [some (.ref b), some (.ref (gA g 0)), some (.ref (gA g 95)), some (.int (I (4 * (j : Int))))] [] := by
  intro n
  induction n with
  | zero =>
    intro j C X hI hj4 hn
    refine r_iload_n hK dL_law_18 rfl ?_
    refine r_aload_n hK dL_law_19 rfl ?_
    refine r_scrlen hK hX hbl hbA dL_law_20 ?_
    refine r_iconst hK dL_law_21 ?_
    refine r_isub hK dL_law_22 ?_
    refine r_icmp_gt (A := True) (B := False) hK dL_law_23 (t := 688) (by decide) ⟨⟨⟨by omega, by omega⟩, by omega, by omega⟩, fun _ => trivial, fun h => by omega⟩ (fun _ => hex _ _ _) (fun h => h.elim)
  | succ n ih =>
    intro j C X hI hj4 hn
    refine r_iload_n hK dL_law_18 rfl ?_
    refine r_aload_n hK dL_law_19 rfl ?_
    refine r_scrlen hK hX hbl hbA dL_law_20 ?_
    refine r_iconst hK dL_law_21 ?_
    refine r_isub hK dL_law_22 ?_
    by_cases hj : 4 * j + 4 ≤ L
    · refine r_icmp_gt (A := False) (B := True) hK dL_law_23 (t := 688) (by decide) ⟨⟨⟨by omega, by omega⟩, by omega, by omega⟩, fun h => by omega, fun _ => trivial⟩ (fun h => h.elim) (fun _ => ?_)
      refine r_aload_n hK dL_law_26 rfl ?_
      refine r_iload_n hK dL_law_27 rfl ?_
      refine r_scr (q := 4 * j) hK hX hbl hbA (by omega) (by omega) (by omega) dL_law_28 ?_
      refine r_bipush hK dL_law_29 (by decide) ?_
      refine r_iand31 hK dL_law_31 (fun o ho => ?_)
      have hend : ∀ C X : Mem, Inv C X → Wn K g (mrg C X) 682 [some (.ref b), some (.ref (gA g 0)), some (.ref (gA g 95)), some (.int (I (4 * (j : Int))))] [] := by
        intro C X hI
        refine r_iinc hK dL_law_682 (by rw [hN]; decide) rfl rfl (lv' := [some (.ref b), some (.ref (gA g 0)), some (.ref (gA g 95)), some (.int (I (4 * (j : Int) + 4)))]) rfl ?_
        refine r_goto hK dL_law_685 (t := 18) (by decide) ?_
        have := ih (j + 1) C X hI (by omega) (by omega)
        rw [show (4 * ((j + 1 : Nat) : Int)) = 4 * (j : Int) + 4 by omega] at this
        exact this
      have hro : R32 (o : Int) := ⟨by omega, by omega⟩
      by_cases h0 : (o : Int) = 0
      · refine r_tabIn hK dL_law_32 hro h0 (by decide) (by decide) rfl (t := 124) (by decide) ?_
        obtain ⟨C1, X1, z1, e1, e2, hI⟩ := (hOk C X hI ((xs (4 * j + 1)).toInt) ((xs (4 * j + 2)).toInt) ((xs (4 * j + 3)).toInt) (sx_r _) (sx_r _) (sx_r _)).1
        refine r_aload_n hK dL_law_124 rfl ?_
        refine r_aload_n hK dL_law_125 rfl ?_
        refine r_iload_n hK dL_law_126 rfl ?_
        refine r_iconst hK dL_law_127 ?_
        refine r_iadd hK dL_law_128 ?_
        refine r_scr (q := 4 * j + 1) hK hX hbl hbA (by omega) (by omega) (by omega) dL_law_129 ?_
        refine r_callV hK ck_X7_type im_X7_type sl_X7_type ml_RL_13 (by decide) (c_X7_type (l := kL K) (g := g) (X := X) (Q := fun C' z => C1 = C' ∧ z1 = z) ((xs (4 * j + 1)).toInt) C ⟨C1, z1, e1, rfl, rfl⟩) cls_7 (k := 0) (by omega) rfl (As := [.int (I (((xs (4 * j + 1)).toInt)))]) (st := []) rfl (Nat.le_of_ble_eq_true rfl) dL_law_130 (kkI (fun M' z h => ?_))
        obtain ⟨rfl, rfl⟩ := h
        refine r_aload_n hK dL_law_133 rfl ?_
        refine r_aload_n hK dL_law_134 rfl ?_
        refine r_iload_n hK dL_law_135 rfl ?_
        refine r_iconst hK dL_law_136 ?_
        refine r_iadd hK dL_law_137 ?_
        refine r_scr (q := 4 * j + 1) hK hX hbl hbA (by omega) (by omega) (by omega) dL_law_138 ?_
        refine r_callV hK ck_X8_type im_X8_type sl_X8_type ml_RL_17 (by decide) (c_X8_type (l := kL K) (g := g) (Y := C1) (Q := fun X' z => X1 = X' ∧ z1 = z) ((xs (4 * j + 1)).toInt) X ⟨X1, z1, e2, rfl, rfl⟩) cls_8 (k := 95) (by omega) rfl (As := [.int (I (((xs (4 * j + 1)).toInt)))]) (st := [.int (I z1)]) rfl (Nat.le_of_ble_eq_true rfl) dL_law_139 (kkI (fun M' z h => ?_))
        obtain ⟨rfl, rfl⟩ := h
        refine r_icmp_same hK dL_law_142 (t := 682) (by decide) ?_
        exact hend _ _ hI
      by_cases h1 : (o : Int) = 1
      · refine r_tabIn hK dL_law_32 hro h1 (by decide) (by decide) rfl (t := 147) (by decide) ?_
        obtain ⟨C1, X1, z1, e1, e2, hI⟩ := (hOk C X hI ((xs (4 * j + 1)).toInt) ((xs (4 * j + 2)).toInt) ((xs (4 * j + 3)).toInt) (sx_r _) (sx_r _) (sx_r _)).2.1
        refine r_aload_n hK dL_law_147 rfl ?_
        refine r_callV hK ck_X7_clear im_X7_clear sl_X7_clear ml_RL_18 (by decide) (c_X7_clear (l := kL K) (g := g) (X := X) (Q := fun C' z => C1 = C' ∧ z1 = z) C ⟨C1, z1, e1, rfl, rfl⟩) cls_7 (k := 0) (by omega) rfl (As := []) (st := []) rfl (Nat.le_of_ble_eq_true rfl) dL_law_148 (kkI (fun M' z h => ?_))
        obtain ⟨rfl, rfl⟩ := h
        refine r_aload_n hK dL_law_151 rfl ?_
        refine r_callV hK ck_X8_clear im_X8_clear sl_X8_clear ml_RL_22 (by decide) (c_X8_clear (l := kL K) (g := g) (Y := C1) (Q := fun X' z => X1 = X' ∧ z1 = z) X ⟨X1, z1, e2, rfl, rfl⟩) cls_8 (k := 95) (by omega) rfl (As := []) (st := [.int (I z1)]) rfl (Nat.le_of_ble_eq_true rfl) dL_law_152 (kkI (fun M' z h => ?_))
        obtain ⟨rfl, rfl⟩ := h
        refine r_icmp_same hK dL_law_155 (t := 682) (by decide) ?_
        exact hend _ _ hI
      by_cases h2 : (o : Int) = 2
      · refine r_tabIn hK dL_law_32 hro h2 (by decide) (by decide) rfl (t := 160) (by decide) ?_
        obtain ⟨C1, X1, z1, e1, e2, hI⟩ := (hOk C X hI ((xs (4 * j + 1)).toInt) ((xs (4 * j + 2)).toInt) ((xs (4 * j + 3)).toInt) (sx_r _) (sx_r _) (sx_r _)).2.2.1
        refine r_aload_n hK dL_law_160 rfl ?_
        refine r_callV hK ck_X7_run im_X7_run sl_X7_run ml_RL_23 (by decide) (c_X7_run (l := kL K) (g := g) (X := X) (Q := fun C' z => C1 = C' ∧ z1 = z) C ⟨C1, z1, e1, rfl, rfl⟩) cls_7 (k := 0) (by omega) rfl (As := []) (st := []) rfl (Nat.le_of_ble_eq_true rfl) dL_law_161 (kkI (fun M' z h => ?_))
        obtain ⟨rfl, rfl⟩ := h
        refine r_aload_n hK dL_law_164 rfl ?_
        refine r_callV hK ck_X8_run im_X8_run sl_X8_run ml_RL_26 (by decide) (c_X8_run (l := kL K) (g := g) (Y := C1) (Q := fun X' z => X1 = X' ∧ z1 = z) X ⟨X1, z1, e2, rfl, rfl⟩) cls_8 (k := 95) (by omega) rfl (As := []) (st := [.int (I z1)]) rfl (Nat.le_of_ble_eq_true rfl) dL_law_165 (kkI (fun M' z h => ?_))
        obtain ⟨rfl, rfl⟩ := h
        refine r_icmp_same hK dL_law_168 (t := 682) (by decide) ?_
        exact hend _ _ hI
      by_cases h3 : (o : Int) = 3
      · refine r_tabIn hK dL_law_32 hro h3 (by decide) (by decide) rfl (t := 173) (by decide) ?_
        obtain ⟨C1, X1, z1, e1, e2, hI⟩ := (hOk C X hI ((xs (4 * j + 1)).toInt) ((xs (4 * j + 2)).toInt) ((xs (4 * j + 3)).toInt) (sx_r _) (sx_r _) (sx_r _)).2.2.2.1
        refine r_aload_n hK dL_law_173 rfl ?_
        refine r_aload_n hK dL_law_174 rfl ?_
        refine r_iload_n hK dL_law_175 rfl ?_
        refine r_iconst hK dL_law_176 ?_
        refine r_iadd hK dL_law_177 ?_
        refine r_scr (q := 4 * j + 1) hK hX hbl hbA (by omega) (by omega) (by omega) dL_law_178 ?_
        refine r_aload_n hK dL_law_179 rfl ?_
        refine r_iload_n hK dL_law_180 rfl ?_
        refine r_iconst hK dL_law_181 ?_
        refine r_iadd hK dL_law_182 ?_
        refine r_scr (q := 4 * j + 2) hK hX hbl hbA (by omega) (by omega) (by omega) dL_law_183 ?_
        refine r_aload_n hK dL_law_184 rfl ?_
        refine r_iload_n hK dL_law_185 rfl ?_
        refine r_iconst hK dL_law_186 ?_
        refine r_iadd hK dL_law_187 ?_
        refine r_scr (q := 4 * j + 3) hK hX hbl hbA (by omega) (by omega) (by omega) dL_law_188 ?_
        refine r_callV hK ck_X7_put im_X7_put sl_X7_put ml_RL_27 (by decide) (c_X7_put (l := kL K) (g := g) (X := X) (Q := fun C' z => C1 = C' ∧ z1 = z) ((xs (4 * j + 1)).toInt) ((xs (4 * j + 2)).toInt) ((xs (4 * j + 3)).toInt) C ⟨C1, z1, e1, rfl, rfl⟩) cls_7 (k := 0) (by omega) rfl (As := [.int (I (((xs (4 * j + 1)).toInt))), .int (I (((xs (4 * j + 2)).toInt))), .int (I (((xs (4 * j + 3)).toInt)))]) (st := []) rfl (Nat.le_of_ble_eq_true rfl) dL_law_189 (kkI (fun M' z h => ?_))
        obtain ⟨rfl, rfl⟩ := h
        refine r_aload_n hK dL_law_192 rfl ?_
        refine r_aload_n hK dL_law_193 rfl ?_
        refine r_iload_n hK dL_law_194 rfl ?_
        refine r_iconst hK dL_law_195 ?_
        refine r_iadd hK dL_law_196 ?_
        refine r_scr (q := 4 * j + 1) hK hX hbl hbA (by omega) (by omega) (by omega) dL_law_197 ?_
        refine r_aload_n hK dL_law_198 rfl ?_
        refine r_iload_n hK dL_law_199 rfl ?_
        refine r_iconst hK dL_law_200 ?_
        refine r_iadd hK dL_law_201 ?_
        refine r_scr (q := 4 * j + 2) hK hX hbl hbA (by omega) (by omega) (by omega) dL_law_202 ?_
        refine r_aload_n hK dL_law_203 rfl ?_
        refine r_iload_n hK dL_law_204 rfl ?_
        refine r_iconst hK dL_law_205 ?_
        refine r_iadd hK dL_law_206 ?_
        refine r_scr (q := 4 * j + 3) hK hX hbl hbA (by omega) (by omega) (by omega) dL_law_207 ?_
        refine r_callV hK ck_X8_put im_X8_put sl_X8_put ml_RL_31 (by decide) (c_X8_put (l := kL K) (g := g) (Y := C1) (Q := fun X' z => X1 = X' ∧ z1 = z) ((xs (4 * j + 1)).toInt) ((xs (4 * j + 2)).toInt) ((xs (4 * j + 3)).toInt) X ⟨X1, z1, e2, rfl, rfl⟩) cls_8 (k := 95) (by omega) rfl (As := [.int (I (((xs (4 * j + 1)).toInt))), .int (I (((xs (4 * j + 2)).toInt))), .int (I (((xs (4 * j + 3)).toInt)))]) (st := [.int (I z1)]) rfl (Nat.le_of_ble_eq_true rfl) dL_law_208 (kkI (fun M' z h => ?_))
        obtain ⟨rfl, rfl⟩ := h
        refine r_icmp_same hK dL_law_211 (t := 682) (by decide) ?_
        exact hend _ _ hI
      by_cases h4 : (o : Int) = 4
      · refine r_tabIn hK dL_law_32 hro h4 (by decide) (by decide) rfl (t := 216) (by decide) ?_
        obtain ⟨C1, X1, z1, e1, e2, hI⟩ := (hOk C X hI ((xs (4 * j + 1)).toInt) ((xs (4 * j + 2)).toInt) ((xs (4 * j + 3)).toInt) (sx_r _) (sx_r _) (sx_r _)).2.2.2.2.1
        refine r_aload_n hK dL_law_216 rfl ?_
        refine r_aload_n hK dL_law_217 rfl ?_
        refine r_iload_n hK dL_law_218 rfl ?_
        refine r_iconst hK dL_law_219 ?_
        refine r_iadd hK dL_law_220 ?_
        refine r_scr (q := 4 * j + 1) hK hX hbl hbA (by omega) (by omega) (by omega) dL_law_221 ?_
        refine r_aload_n hK dL_law_222 rfl ?_
        refine r_iload_n hK dL_law_223 rfl ?_
        refine r_iconst hK dL_law_224 ?_
        refine r_iadd hK dL_law_225 ?_
        refine r_scr (q := 4 * j + 2) hK hX hbl hbA (by omega) (by omega) (by omega) dL_law_226 ?_
        refine r_callV hK ck_X7_take im_X7_take sl_X7_take ml_RL_32 (by decide) (c_X7_take (l := kL K) (g := g) (X := X) (Q := fun C' z => C1 = C' ∧ z1 = z) ((xs (4 * j + 1)).toInt) ((xs (4 * j + 2)).toInt) C ⟨C1, z1, e1, rfl, rfl⟩) cls_7 (k := 0) (by omega) rfl (As := [.int (I (((xs (4 * j + 1)).toInt))), .int (I (((xs (4 * j + 2)).toInt)))]) (st := []) rfl (Nat.le_of_ble_eq_true rfl) dL_law_227 (kkI (fun M' z h => ?_))
        obtain ⟨rfl, rfl⟩ := h
        refine r_aload_n hK dL_law_230 rfl ?_
        refine r_aload_n hK dL_law_231 rfl ?_
        refine r_iload_n hK dL_law_232 rfl ?_
        refine r_iconst hK dL_law_233 ?_
        refine r_iadd hK dL_law_234 ?_
        refine r_scr (q := 4 * j + 1) hK hX hbl hbA (by omega) (by omega) (by omega) dL_law_235 ?_
        refine r_aload_n hK dL_law_236 rfl ?_
        refine r_iload_n hK dL_law_237 rfl ?_
        refine r_iconst hK dL_law_238 ?_
        refine r_iadd hK dL_law_239 ?_
        refine r_scr (q := 4 * j + 2) hK hX hbl hbA (by omega) (by omega) (by omega) dL_law_240 ?_
        refine r_callV hK ck_X8_take im_X8_take sl_X8_take ml_RL_36 (by decide) (c_X8_take (l := kL K) (g := g) (Y := C1) (Q := fun X' z => X1 = X' ∧ z1 = z) ((xs (4 * j + 1)).toInt) ((xs (4 * j + 2)).toInt) X ⟨X1, z1, e2, rfl, rfl⟩) cls_8 (k := 95) (by omega) rfl (As := [.int (I (((xs (4 * j + 1)).toInt))), .int (I (((xs (4 * j + 2)).toInt)))]) (st := [.int (I z1)]) rfl (Nat.le_of_ble_eq_true rfl) dL_law_241 (kkI (fun M' z h => ?_))
        obtain ⟨rfl, rfl⟩ := h
        refine r_icmp_same hK dL_law_244 (t := 682) (by decide) ?_
        exact hend _ _ hI
      by_cases h5 : (o : Int) = 5
      · refine r_tabIn hK dL_law_32 hro h5 (by decide) (by decide) rfl (t := 249) (by decide) ?_
        obtain ⟨C1, X1, z1, e1, e2, hI⟩ := (hOk C X hI ((xs (4 * j + 1)).toInt) ((xs (4 * j + 2)).toInt) ((xs (4 * j + 3)).toInt) (sx_r _) (sx_r _) (sx_r _)).2.2.2.2.2.1
        refine r_aload_n hK dL_law_249 rfl ?_
        refine r_aload_n hK dL_law_250 rfl ?_
        refine r_iload_n hK dL_law_251 rfl ?_
        refine r_iconst hK dL_law_252 ?_
        refine r_iadd hK dL_law_253 ?_
        refine r_scr (q := 4 * j + 1) hK hX hbl hbA (by omega) (by omega) (by omega) dL_law_254 ?_
        refine r_aload_n hK dL_law_255 rfl ?_
        refine r_iload_n hK dL_law_256 rfl ?_
        refine r_iconst hK dL_law_257 ?_
        refine r_iadd hK dL_law_258 ?_
        refine r_scr (q := 4 * j + 2) hK hX hbl hbA (by omega) (by omega) (by omega) dL_law_259 ?_
        refine r_aload_n hK dL_law_260 rfl ?_
        refine r_iload_n hK dL_law_261 rfl ?_
        refine r_iconst hK dL_law_262 ?_
        refine r_iadd hK dL_law_263 ?_
        refine r_scr (q := 4 * j + 3) hK hX hbl hbA (by omega) (by omega) (by omega) dL_law_264 ?_
        refine r_callV hK ck_X7_load im_X7_load sl_X7_load ml_RL_37 (by decide) (c_X7_load (l := kL K) (g := g) (X := X) (Q := fun C' z => C1 = C' ∧ z1 = z) ((xs (4 * j + 1)).toInt) ((xs (4 * j + 2)).toInt) ((xs (4 * j + 3)).toInt) C ⟨C1, z1, e1, rfl, rfl⟩) cls_7 (k := 0) (by omega) rfl (As := [.int (I (((xs (4 * j + 1)).toInt))), .int (I (((xs (4 * j + 2)).toInt))), .int (I (((xs (4 * j + 3)).toInt)))]) (st := []) rfl (Nat.le_of_ble_eq_true rfl) dL_law_265 (kkI (fun M' z h => ?_))
        obtain ⟨rfl, rfl⟩ := h
        refine r_aload_n hK dL_law_268 rfl ?_
        refine r_aload_n hK dL_law_269 rfl ?_
        refine r_iload_n hK dL_law_270 rfl ?_
        refine r_iconst hK dL_law_271 ?_
        refine r_iadd hK dL_law_272 ?_
        refine r_scr (q := 4 * j + 1) hK hX hbl hbA (by omega) (by omega) (by omega) dL_law_273 ?_
        refine r_aload_n hK dL_law_274 rfl ?_
        refine r_iload_n hK dL_law_275 rfl ?_
        refine r_iconst hK dL_law_276 ?_
        refine r_iadd hK dL_law_277 ?_
        refine r_scr (q := 4 * j + 2) hK hX hbl hbA (by omega) (by omega) (by omega) dL_law_278 ?_
        refine r_aload_n hK dL_law_279 rfl ?_
        refine r_iload_n hK dL_law_280 rfl ?_
        refine r_iconst hK dL_law_281 ?_
        refine r_iadd hK dL_law_282 ?_
        refine r_scr (q := 4 * j + 3) hK hX hbl hbA (by omega) (by omega) (by omega) dL_law_283 ?_
        refine r_callV hK ck_X8_load im_X8_load sl_X8_load ml_RL_40 (by decide) (c_X8_load (l := kL K) (g := g) (Y := C1) (Q := fun X' z => X1 = X' ∧ z1 = z) ((xs (4 * j + 1)).toInt) ((xs (4 * j + 2)).toInt) ((xs (4 * j + 3)).toInt) X ⟨X1, z1, e2, rfl, rfl⟩) cls_8 (k := 95) (by omega) rfl (As := [.int (I (((xs (4 * j + 1)).toInt))), .int (I (((xs (4 * j + 2)).toInt))), .int (I (((xs (4 * j + 3)).toInt)))]) (st := [.int (I z1)]) rfl (Nat.le_of_ble_eq_true rfl) dL_law_284 (kkI (fun M' z h => ?_))
        obtain ⟨rfl, rfl⟩ := h
        refine r_icmp_same hK dL_law_287 (t := 682) (by decide) ?_
        exact hend _ _ hI
      by_cases h6 : (o : Int) = 6
      · refine r_tabIn hK dL_law_32 hro h6 (by decide) (by decide) rfl (t := 292) (by decide) ?_
        obtain ⟨C1, X1, z1, e1, e2, hI⟩ := (hOk C X hI ((xs (4 * j + 1)).toInt) ((xs (4 * j + 2)).toInt) ((xs (4 * j + 3)).toInt) (sx_r _) (sx_r _) (sx_r _)).2.2.2.2.2.2.1
        refine r_aload_n hK dL_law_292 rfl ?_
        refine r_aload_n hK dL_law_293 rfl ?_
        refine r_iload_n hK dL_law_294 rfl ?_
        refine r_iconst hK dL_law_295 ?_
        refine r_iadd hK dL_law_296 ?_
        refine r_scr (q := 4 * j + 1) hK hX hbl hbA (by omega) (by omega) (by omega) dL_law_297 ?_
        refine r_aload_n hK dL_law_298 rfl ?_
        refine r_iload_n hK dL_law_299 rfl ?_
        refine r_iconst hK dL_law_300 ?_
        refine r_iadd hK dL_law_301 ?_
        refine r_scr (q := 4 * j + 2) hK hX hbl hbA (by omega) (by omega) (by omega) dL_law_302 ?_
        refine r_callV hK ck_X7_find im_X7_find sl_X7_find ml_RL_41 (by decide) (c_X7_find (l := kL K) (g := g) (X := X) (Q := fun C' z => C1 = C' ∧ z1 = z) ((xs (4 * j + 1)).toInt) ((xs (4 * j + 2)).toInt) C ⟨C1, z1, e1, rfl, rfl⟩) cls_7 (k := 0) (by omega) rfl (As := [.int (I (((xs (4 * j + 1)).toInt))), .int (I (((xs (4 * j + 2)).toInt)))]) (st := []) rfl (Nat.le_of_ble_eq_true rfl) dL_law_303 (kkI (fun M' z h => ?_))
        obtain ⟨rfl, rfl⟩ := h
        refine r_aload_n hK dL_law_306 rfl ?_
        refine r_aload_n hK dL_law_307 rfl ?_
        refine r_iload_n hK dL_law_308 rfl ?_
        refine r_iconst hK dL_law_309 ?_
        refine r_iadd hK dL_law_310 ?_
        refine r_scr (q := 4 * j + 1) hK hX hbl hbA (by omega) (by omega) (by omega) dL_law_311 ?_
        refine r_aload_n hK dL_law_312 rfl ?_
        refine r_iload_n hK dL_law_313 rfl ?_
        refine r_iconst hK dL_law_314 ?_
        refine r_iadd hK dL_law_315 ?_
        refine r_scr (q := 4 * j + 2) hK hX hbl hbA (by omega) (by omega) (by omega) dL_law_316 ?_
        refine r_callV hK ck_X8_find im_X8_find sl_X8_find ml_RL_44 (by decide) (c_X8_find (l := kL K) (g := g) (Y := C1) (Q := fun X' z => X1 = X' ∧ z1 = z) ((xs (4 * j + 1)).toInt) ((xs (4 * j + 2)).toInt) X ⟨X1, z1, e2, rfl, rfl⟩) cls_8 (k := 95) (by omega) rfl (As := [.int (I (((xs (4 * j + 1)).toInt))), .int (I (((xs (4 * j + 2)).toInt)))]) (st := [.int (I z1)]) rfl (Nat.le_of_ble_eq_true rfl) dL_law_317 (kkI (fun M' z h => ?_))
        obtain ⟨rfl, rfl⟩ := h
        refine r_icmp_same hK dL_law_320 (t := 682) (by decide) ?_
        exact hend _ _ hI
      by_cases h7 : (o : Int) = 7
      · refine r_tabIn hK dL_law_32 hro h7 (by decide) (by decide) rfl (t := 325) (by decide) ?_
        obtain ⟨C1, X1, z1, e1, e2, hI⟩ := (hOk C X hI ((xs (4 * j + 1)).toInt) ((xs (4 * j + 2)).toInt) ((xs (4 * j + 3)).toInt) (sx_r _) (sx_r _) (sx_r _)).2.2.2.2.2.2.2.1
        refine r_aload_n hK dL_law_325 rfl ?_
        refine r_aload_n hK dL_law_326 rfl ?_
        refine r_iload_n hK dL_law_327 rfl ?_
        refine r_iconst hK dL_law_328 ?_
        refine r_iadd hK dL_law_329 ?_
        refine r_scr (q := 4 * j + 1) hK hX hbl hbA (by omega) (by omega) (by omega) dL_law_330 ?_
        refine r_aload_n hK dL_law_331 rfl ?_
        refine r_iload_n hK dL_law_332 rfl ?_
        refine r_iconst hK dL_law_333 ?_
        refine r_iadd hK dL_law_334 ?_
        refine r_scr (q := 4 * j + 2) hK hX hbl hbA (by omega) (by omega) (by omega) dL_law_335 ?_
        refine r_aload_n hK dL_law_336 rfl ?_
        refine r_iload_n hK dL_law_337 rfl ?_
        refine r_iconst hK dL_law_338 ?_
        refine r_iadd hK dL_law_339 ?_
        refine r_scr (q := 4 * j + 3) hK hX hbl hbA (by omega) (by omega) (by omega) dL_law_340 ?_
        refine r_callV hK ck_X7_rank im_X7_rank sl_X7_rank ml_RL_45 (by decide) (c_X7_rank (l := kL K) (g := g) (X := X) (Q := fun C' z => C1 = C' ∧ z1 = z) ((xs (4 * j + 1)).toInt) ((xs (4 * j + 2)).toInt) ((xs (4 * j + 3)).toInt) C ⟨C1, z1, e1, rfl, rfl⟩) cls_7 (k := 0) (by omega) rfl (As := [.int (I (((xs (4 * j + 1)).toInt))), .int (I (((xs (4 * j + 2)).toInt))), .int (I (((xs (4 * j + 3)).toInt)))]) (st := []) rfl (Nat.le_of_ble_eq_true rfl) dL_law_341 (kkI (fun M' z h => ?_))
        obtain ⟨rfl, rfl⟩ := h
        refine r_aload_n hK dL_law_344 rfl ?_
        refine r_aload_n hK dL_law_345 rfl ?_
        refine r_iload_n hK dL_law_346 rfl ?_
        refine r_iconst hK dL_law_347 ?_
        refine r_iadd hK dL_law_348 ?_
        refine r_scr (q := 4 * j + 1) hK hX hbl hbA (by omega) (by omega) (by omega) dL_law_349 ?_
        refine r_aload_n hK dL_law_350 rfl ?_
        refine r_iload_n hK dL_law_351 rfl ?_
        refine r_iconst hK dL_law_352 ?_
        refine r_iadd hK dL_law_353 ?_
        refine r_scr (q := 4 * j + 2) hK hX hbl hbA (by omega) (by omega) (by omega) dL_law_354 ?_
        refine r_aload_n hK dL_law_355 rfl ?_
        refine r_iload_n hK dL_law_356 rfl ?_
        refine r_iconst hK dL_law_357 ?_
        refine r_iadd hK dL_law_358 ?_
        refine r_scr (q := 4 * j + 3) hK hX hbl hbA (by omega) (by omega) (by omega) dL_law_359 ?_
        refine r_callV hK ck_X8_rank im_X8_rank sl_X8_rank ml_RL_48 (by decide) (c_X8_rank (l := kL K) (g := g) (Y := C1) (Q := fun X' z => X1 = X' ∧ z1 = z) ((xs (4 * j + 1)).toInt) ((xs (4 * j + 2)).toInt) ((xs (4 * j + 3)).toInt) X ⟨X1, z1, e2, rfl, rfl⟩) cls_8 (k := 95) (by omega) rfl (As := [.int (I (((xs (4 * j + 1)).toInt))), .int (I (((xs (4 * j + 2)).toInt))), .int (I (((xs (4 * j + 3)).toInt)))]) (st := [.int (I z1)]) rfl (Nat.le_of_ble_eq_true rfl) dL_law_360 (kkI (fun M' z h => ?_))
        obtain ⟨rfl, rfl⟩ := h
        refine r_icmp_same hK dL_law_363 (t := 682) (by decide) ?_
        exact hend _ _ hI
      by_cases h8 : (o : Int) = 8
      · refine r_tabIn hK dL_law_32 hro h8 (by decide) (by decide) rfl (t := 368) (by decide) ?_
        obtain ⟨C1, X1, z1, e1, e2, hI⟩ := (hOk C X hI ((xs (4 * j + 1)).toInt) ((xs (4 * j + 2)).toInt) ((xs (4 * j + 3)).toInt) (sx_r _) (sx_r _) (sx_r _)).2.2.2.2.2.2.2.2.1
        refine r_aload_n hK dL_law_368 rfl ?_
        refine r_aload_n hK dL_law_369 rfl ?_
        refine r_iload_n hK dL_law_370 rfl ?_
        refine r_iconst hK dL_law_371 ?_
        refine r_iadd hK dL_law_372 ?_
        refine r_scr (q := 4 * j + 1) hK hX hbl hbA (by omega) (by omega) (by omega) dL_law_373 ?_
        refine r_aload_n hK dL_law_374 rfl ?_
        refine r_iload_n hK dL_law_375 rfl ?_
        refine r_iconst hK dL_law_376 ?_
        refine r_iadd hK dL_law_377 ?_
        refine r_scr (q := 4 * j + 2) hK hX hbl hbA (by omega) (by omega) (by omega) dL_law_378 ?_
        refine r_aload_n hK dL_law_379 rfl ?_
        refine r_iload_n hK dL_law_380 rfl ?_
        refine r_iconst hK dL_law_381 ?_
        refine r_iadd hK dL_law_382 ?_
        refine r_scr (q := 4 * j + 3) hK hX hbl hbA (by omega) (by omega) (by omega) dL_law_383 ?_
        refine r_callV hK ck_X7_path im_X7_path sl_X7_path ml_RL_49 (by decide) (c_X7_path (l := kL K) (g := g) (X := X) (Q := fun C' z => C1 = C' ∧ z1 = z) ((xs (4 * j + 1)).toInt) ((xs (4 * j + 2)).toInt) ((xs (4 * j + 3)).toInt) C ⟨C1, z1, e1, rfl, rfl⟩) cls_7 (k := 0) (by omega) rfl (As := [.int (I (((xs (4 * j + 1)).toInt))), .int (I (((xs (4 * j + 2)).toInt))), .int (I (((xs (4 * j + 3)).toInt)))]) (st := []) rfl (Nat.le_of_ble_eq_true rfl) dL_law_384 (kkI (fun M' z h => ?_))
        obtain ⟨rfl, rfl⟩ := h
        refine r_aload_n hK dL_law_387 rfl ?_
        refine r_aload_n hK dL_law_388 rfl ?_
        refine r_iload_n hK dL_law_389 rfl ?_
        refine r_iconst hK dL_law_390 ?_
        refine r_iadd hK dL_law_391 ?_
        refine r_scr (q := 4 * j + 1) hK hX hbl hbA (by omega) (by omega) (by omega) dL_law_392 ?_
        refine r_aload_n hK dL_law_393 rfl ?_
        refine r_iload_n hK dL_law_394 rfl ?_
        refine r_iconst hK dL_law_395 ?_
        refine r_iadd hK dL_law_396 ?_
        refine r_scr (q := 4 * j + 2) hK hX hbl hbA (by omega) (by omega) (by omega) dL_law_397 ?_
        refine r_aload_n hK dL_law_398 rfl ?_
        refine r_iload_n hK dL_law_399 rfl ?_
        refine r_iconst hK dL_law_400 ?_
        refine r_iadd hK dL_law_401 ?_
        refine r_scr (q := 4 * j + 3) hK hX hbl hbA (by omega) (by omega) (by omega) dL_law_402 ?_
        refine r_callV hK ck_X8_path im_X8_path sl_X8_path ml_RL_52 (by decide) (c_X8_path (l := kL K) (g := g) (Y := C1) (Q := fun X' z => X1 = X' ∧ z1 = z) ((xs (4 * j + 1)).toInt) ((xs (4 * j + 2)).toInt) ((xs (4 * j + 3)).toInt) X ⟨X1, z1, e2, rfl, rfl⟩) cls_8 (k := 95) (by omega) rfl (As := [.int (I (((xs (4 * j + 1)).toInt))), .int (I (((xs (4 * j + 2)).toInt))), .int (I (((xs (4 * j + 3)).toInt)))]) (st := [.int (I z1)]) rfl (Nat.le_of_ble_eq_true rfl) dL_law_403 (kkI (fun M' z h => ?_))
        obtain ⟨rfl, rfl⟩ := h
        refine r_icmp_same hK dL_law_406 (t := 682) (by decide) ?_
        exact hend _ _ hI
      by_cases h9 : (o : Int) = 9
      · refine r_tabIn hK dL_law_32 hro h9 (by decide) (by decide) rfl (t := 411) (by decide) ?_
        obtain ⟨C1, X1, z1, e1, e2, hI⟩ := (hOk C X hI ((xs (4 * j + 1)).toInt) ((xs (4 * j + 2)).toInt) ((xs (4 * j + 3)).toInt) (sx_r _) (sx_r _) (sx_r _)).2.2.2.2.2.2.2.2.2.1
        refine r_aload_n hK dL_law_411 rfl ?_
        refine r_aload_n hK dL_law_412 rfl ?_
        refine r_iload_n hK dL_law_413 rfl ?_
        refine r_iconst hK dL_law_414 ?_
        refine r_iadd hK dL_law_415 ?_
        refine r_scr (q := 4 * j + 1) hK hX hbl hbA (by omega) (by omega) (by omega) dL_law_416 ?_
        refine r_aload_n hK dL_law_417 rfl ?_
        refine r_iload_n hK dL_law_418 rfl ?_
        refine r_iconst hK dL_law_419 ?_
        refine r_iadd hK dL_law_420 ?_
        refine r_scr (q := 4 * j + 2) hK hX hbl hbA (by omega) (by omega) (by omega) dL_law_421 ?_
        refine r_callV hK ck_X7_letter im_X7_letter sl_X7_letter ml_RL_53 (by decide) (c_X7_letter (l := kL K) (g := g) (X := X) (Q := fun C' z => C1 = C' ∧ z1 = z) ((xs (4 * j + 1)).toInt) ((xs (4 * j + 2)).toInt) C ⟨C1, z1, e1, rfl, rfl⟩) cls_7 (k := 0) (by omega) rfl (As := [.int (I (((xs (4 * j + 1)).toInt))), .int (I (((xs (4 * j + 2)).toInt)))]) (st := []) rfl (Nat.le_of_ble_eq_true rfl) dL_law_422 (kkI (fun M' z h => ?_))
        obtain ⟨rfl, rfl⟩ := h
        refine r_aload_n hK dL_law_425 rfl ?_
        refine r_aload_n hK dL_law_426 rfl ?_
        refine r_iload_n hK dL_law_427 rfl ?_
        refine r_iconst hK dL_law_428 ?_
        refine r_iadd hK dL_law_429 ?_
        refine r_scr (q := 4 * j + 1) hK hX hbl hbA (by omega) (by omega) (by omega) dL_law_430 ?_
        refine r_aload_n hK dL_law_431 rfl ?_
        refine r_iload_n hK dL_law_432 rfl ?_
        refine r_iconst hK dL_law_433 ?_
        refine r_iadd hK dL_law_434 ?_
        refine r_scr (q := 4 * j + 2) hK hX hbl hbA (by omega) (by omega) (by omega) dL_law_435 ?_
        refine r_callV hK ck_X8_letter im_X8_letter sl_X8_letter ml_RL_56 (by decide) (c_X8_letter (l := kL K) (g := g) (Y := C1) (Q := fun X' z => X1 = X' ∧ z1 = z) ((xs (4 * j + 1)).toInt) ((xs (4 * j + 2)).toInt) X ⟨X1, z1, e2, rfl, rfl⟩) cls_8 (k := 95) (by omega) rfl (As := [.int (I (((xs (4 * j + 1)).toInt))), .int (I (((xs (4 * j + 2)).toInt)))]) (st := [.int (I z1)]) rfl (Nat.le_of_ble_eq_true rfl) dL_law_436 (kkI (fun M' z h => ?_))
        obtain ⟨rfl, rfl⟩ := h
        refine r_icmp_same hK dL_law_439 (t := 682) (by decide) ?_
        exact hend _ _ hI
      by_cases h10 : (o : Int) = 10
      · refine r_tabIn hK dL_law_32 hro h10 (by decide) (by decide) rfl (t := 444) (by decide) ?_
        obtain ⟨C1, X1, z1, e1, e2, hI⟩ := (hOk C X hI ((xs (4 * j + 1)).toInt) ((xs (4 * j + 2)).toInt) ((xs (4 * j + 3)).toInt) (sx_r _) (sx_r _) (sx_r _)).2.2.2.2.2.2.2.2.2.2.1
        refine r_aload_n hK dL_law_444 rfl ?_
        refine r_aload_n hK dL_law_445 rfl ?_
        refine r_iload_n hK dL_law_446 rfl ?_
        refine r_iconst hK dL_law_447 ?_
        refine r_iadd hK dL_law_448 ?_
        refine r_scr (q := 4 * j + 1) hK hX hbl hbA (by omega) (by omega) (by omega) dL_law_449 ?_
        refine r_callV hK ck_X7_value im_X7_value sl_X7_value ml_RL_57 (by decide) (c_X7_value (l := kL K) (g := g) (X := X) (Q := fun C' z => C1 = C' ∧ z1 = z) ((xs (4 * j + 1)).toInt) C ⟨C1, z1, e1, rfl, rfl⟩) cls_7 (k := 0) (by omega) rfl (As := [.int (I (((xs (4 * j + 1)).toInt)))]) (st := []) rfl (Nat.le_of_ble_eq_true rfl) dL_law_450 (kkI (fun M' z h => ?_))
        obtain ⟨rfl, rfl⟩ := h
        refine r_aload_n hK dL_law_453 rfl ?_
        refine r_aload_n hK dL_law_454 rfl ?_
        refine r_iload_n hK dL_law_455 rfl ?_
        refine r_iconst hK dL_law_456 ?_
        refine r_iadd hK dL_law_457 ?_
        refine r_scr (q := 4 * j + 1) hK hX hbl hbA (by omega) (by omega) (by omega) dL_law_458 ?_
        refine r_callV hK ck_X8_value im_X8_value sl_X8_value ml_RL_60 (by decide) (c_X8_value (l := kL K) (g := g) (Y := C1) (Q := fun X' z => X1 = X' ∧ z1 = z) ((xs (4 * j + 1)).toInt) X ⟨X1, z1, e2, rfl, rfl⟩) cls_8 (k := 95) (by omega) rfl (As := [.int (I (((xs (4 * j + 1)).toInt)))]) (st := [.int (I z1)]) rfl (Nat.le_of_ble_eq_true rfl) dL_law_459 (kkI (fun M' z h => ?_))
        obtain ⟨rfl, rfl⟩ := h
        refine r_icmp_same hK dL_law_462 (t := 682) (by decide) ?_
        exact hend _ _ hI
      by_cases h11 : (o : Int) = 11
      · refine r_tabIn hK dL_law_32 hro h11 (by decide) (by decide) rfl (t := 467) (by decide) ?_
        obtain ⟨C1, X1, z1, e1, e2, hI⟩ := (hOk C X hI ((xs (4 * j + 1)).toInt) ((xs (4 * j + 2)).toInt) ((xs (4 * j + 3)).toInt) (sx_r _) (sx_r _) (sx_r _)).2.2.2.2.2.2.2.2.2.2.2.1
        refine r_aload_n hK dL_law_467 rfl ?_
        refine r_aload_n hK dL_law_468 rfl ?_
        refine r_iload_n hK dL_law_469 rfl ?_
        refine r_iconst hK dL_law_470 ?_
        refine r_iadd hK dL_law_471 ?_
        refine r_scr (q := 4 * j + 1) hK hX hbl hbA (by omega) (by omega) (by omega) dL_law_472 ?_
        refine r_aload_n hK dL_law_473 rfl ?_
        refine r_iload_n hK dL_law_474 rfl ?_
        refine r_iconst hK dL_law_475 ?_
        refine r_iadd hK dL_law_476 ?_
        refine r_scr (q := 4 * j + 2) hK hX hbl hbA (by omega) (by omega) (by omega) dL_law_477 ?_
        refine r_callV hK ck_X7_page im_X7_page sl_X7_page ml_RL_61 (by decide) (c_X7_page (l := kL K) (g := g) (X := X) (Q := fun C' z => C1 = C' ∧ z1 = z) ((xs (4 * j + 1)).toInt) ((xs (4 * j + 2)).toInt) C ⟨C1, z1, e1, rfl, rfl⟩) cls_7 (k := 0) (by omega) rfl (As := [.int (I (((xs (4 * j + 1)).toInt))), .int (I (((xs (4 * j + 2)).toInt)))]) (st := []) rfl (Nat.le_of_ble_eq_true rfl) dL_law_478 (kkI (fun M' z h => ?_))
        obtain ⟨rfl, rfl⟩ := h
        refine r_aload_n hK dL_law_481 rfl ?_
        refine r_aload_n hK dL_law_482 rfl ?_
        refine r_iload_n hK dL_law_483 rfl ?_
        refine r_iconst hK dL_law_484 ?_
        refine r_iadd hK dL_law_485 ?_
        refine r_scr (q := 4 * j + 1) hK hX hbl hbA (by omega) (by omega) (by omega) dL_law_486 ?_
        refine r_aload_n hK dL_law_487 rfl ?_
        refine r_iload_n hK dL_law_488 rfl ?_
        refine r_iconst hK dL_law_489 ?_
        refine r_iadd hK dL_law_490 ?_
        refine r_scr (q := 4 * j + 2) hK hX hbl hbA (by omega) (by omega) (by omega) dL_law_491 ?_
        refine r_callV hK ck_X8_page im_X8_page sl_X8_page ml_RL_64 (by decide) (c_X8_page (l := kL K) (g := g) (Y := C1) (Q := fun X' z => X1 = X' ∧ z1 = z) ((xs (4 * j + 1)).toInt) ((xs (4 * j + 2)).toInt) X ⟨X1, z1, e2, rfl, rfl⟩) cls_8 (k := 95) (by omega) rfl (As := [.int (I (((xs (4 * j + 1)).toInt))), .int (I (((xs (4 * j + 2)).toInt)))]) (st := [.int (I z1)]) rfl (Nat.le_of_ble_eq_true rfl) dL_law_492 (kkI (fun M' z h => ?_))
        obtain ⟨rfl, rfl⟩ := h
        refine r_icmp_same hK dL_law_495 (t := 682) (by decide) ?_
        exact hend _ _ hI
      by_cases h12 : (o : Int) = 12
      · refine r_tabIn hK dL_law_32 hro h12 (by decide) (by decide) rfl (t := 500) (by decide) ?_
        obtain ⟨C1, X1, z1, e1, e2, hI⟩ := (hOk C X hI ((xs (4 * j + 1)).toInt) ((xs (4 * j + 2)).toInt) ((xs (4 * j + 3)).toInt) (sx_r _) (sx_r _) (sx_r _)).2.2.2.2.2.2.2.2.2.2.2.2.1
        refine r_aload_n hK dL_law_500 rfl ?_
        refine r_aload_n hK dL_law_501 rfl ?_
        refine r_iload_n hK dL_law_502 rfl ?_
        refine r_iconst hK dL_law_503 ?_
        refine r_iadd hK dL_law_504 ?_
        refine r_scr (q := 4 * j + 1) hK hX hbl hbA (by omega) (by omega) (by omega) dL_law_505 ?_
        refine r_aload_n hK dL_law_506 rfl ?_
        refine r_iload_n hK dL_law_507 rfl ?_
        refine r_iconst hK dL_law_508 ?_
        refine r_iadd hK dL_law_509 ?_
        refine r_scr (q := 4 * j + 2) hK hX hbl hbA (by omega) (by omega) (by omega) dL_law_510 ?_
        refine r_callV hK ck_X7_byteAt im_X7_byteAt sl_X7_byteAt ml_RL_65 (by decide) (c_X7_byteAt (l := kL K) (g := g) (X := X) (Q := fun C' z => C1 = C' ∧ z1 = z) ((xs (4 * j + 1)).toInt) ((xs (4 * j + 2)).toInt) C ⟨C1, z1, e1, rfl, rfl⟩) cls_7 (k := 0) (by omega) rfl (As := [.int (I (((xs (4 * j + 1)).toInt))), .int (I (((xs (4 * j + 2)).toInt)))]) (st := []) rfl (Nat.le_of_ble_eq_true rfl) dL_law_511 (kkI (fun M' z h => ?_))
        obtain ⟨rfl, rfl⟩ := h
        refine r_aload_n hK dL_law_514 rfl ?_
        refine r_aload_n hK dL_law_515 rfl ?_
        refine r_iload_n hK dL_law_516 rfl ?_
        refine r_iconst hK dL_law_517 ?_
        refine r_iadd hK dL_law_518 ?_
        refine r_scr (q := 4 * j + 1) hK hX hbl hbA (by omega) (by omega) (by omega) dL_law_519 ?_
        refine r_aload_n hK dL_law_520 rfl ?_
        refine r_iload_n hK dL_law_521 rfl ?_
        refine r_iconst hK dL_law_522 ?_
        refine r_iadd hK dL_law_523 ?_
        refine r_scr (q := 4 * j + 2) hK hX hbl hbA (by omega) (by omega) (by omega) dL_law_524 ?_
        refine r_callV hK ck_X8_byteAt im_X8_byteAt sl_X8_byteAt ml_RL_68 (by decide) (c_X8_byteAt (l := kL K) (g := g) (Y := C1) (Q := fun X' z => X1 = X' ∧ z1 = z) ((xs (4 * j + 1)).toInt) ((xs (4 * j + 2)).toInt) X ⟨X1, z1, e2, rfl, rfl⟩) cls_8 (k := 95) (by omega) rfl (As := [.int (I (((xs (4 * j + 1)).toInt))), .int (I (((xs (4 * j + 2)).toInt)))]) (st := [.int (I z1)]) rfl (Nat.le_of_ble_eq_true rfl) dL_law_525 (kkI (fun M' z h => ?_))
        obtain ⟨rfl, rfl⟩ := h
        refine r_icmp_same hK dL_law_528 (t := 682) (by decide) ?_
        exact hend _ _ hI
      by_cases h13 : (o : Int) = 13
      · refine r_tabIn hK dL_law_32 hro h13 (by decide) (by decide) rfl (t := 533) (by decide) ?_
        obtain ⟨C1, X1, z1, e1, e2, hI⟩ := (hOk C X hI ((xs (4 * j + 1)).toInt) ((xs (4 * j + 2)).toInt) ((xs (4 * j + 3)).toInt) (sx_r _) (sx_r _) (sx_r _)).2.2.2.2.2.2.2.2.2.2.2.2.2.1
        refine r_aload_n hK dL_law_533 rfl ?_
        refine r_aload_n hK dL_law_534 rfl ?_
        refine r_iload_n hK dL_law_535 rfl ?_
        refine r_iconst hK dL_law_536 ?_
        refine r_iadd hK dL_law_537 ?_
        refine r_scr (q := 4 * j + 1) hK hX hbl hbA (by omega) (by omega) (by omega) dL_law_538 ?_
        refine r_aload_n hK dL_law_539 rfl ?_
        refine r_iload_n hK dL_law_540 rfl ?_
        refine r_iconst hK dL_law_541 ?_
        refine r_iadd hK dL_law_542 ?_
        refine r_scr (q := 4 * j + 2) hK hX hbl hbA (by omega) (by omega) (by omega) dL_law_543 ?_
        refine r_aload_n hK dL_law_544 rfl ?_
        refine r_iload_n hK dL_law_545 rfl ?_
        refine r_iconst hK dL_law_546 ?_
        refine r_iadd hK dL_law_547 ?_
        refine r_scr (q := 4 * j + 3) hK hX hbl hbA (by omega) (by omega) (by omega) dL_law_548 ?_
        refine r_callV hK ck_X7_check im_X7_check sl_X7_check ml_RL_69 (by decide) (c_X7_check (l := kL K) (g := g) (X := X) (Q := fun C' z => C1 = C' ∧ z1 = z) ((xs (4 * j + 1)).toInt) ((xs (4 * j + 2)).toInt) ((xs (4 * j + 3)).toInt) C ⟨C1, z1, e1, rfl, rfl⟩) cls_7 (k := 0) (by omega) rfl (As := [.int (I (((xs (4 * j + 1)).toInt))), .int (I (((xs (4 * j + 2)).toInt))), .int (I (((xs (4 * j + 3)).toInt)))]) (st := []) rfl (Nat.le_of_ble_eq_true rfl) dL_law_549 (kkI (fun M' z h => ?_))
        obtain ⟨rfl, rfl⟩ := h
        refine r_aload_n hK dL_law_552 rfl ?_
        refine r_aload_n hK dL_law_553 rfl ?_
        refine r_iload_n hK dL_law_554 rfl ?_
        refine r_iconst hK dL_law_555 ?_
        refine r_iadd hK dL_law_556 ?_
        refine r_scr (q := 4 * j + 1) hK hX hbl hbA (by omega) (by omega) (by omega) dL_law_557 ?_
        refine r_aload_n hK dL_law_558 rfl ?_
        refine r_iload_n hK dL_law_559 rfl ?_
        refine r_iconst hK dL_law_560 ?_
        refine r_iadd hK dL_law_561 ?_
        refine r_scr (q := 4 * j + 2) hK hX hbl hbA (by omega) (by omega) (by omega) dL_law_562 ?_
        refine r_aload_n hK dL_law_563 rfl ?_
        refine r_iload_n hK dL_law_564 rfl ?_
        refine r_iconst hK dL_law_565 ?_
        refine r_iadd hK dL_law_566 ?_
        refine r_scr (q := 4 * j + 3) hK hX hbl hbA (by omega) (by omega) (by omega) dL_law_567 ?_
        refine r_callV hK ck_X8_check im_X8_check sl_X8_check ml_RL_72 (by decide) (c_X8_check (l := kL K) (g := g) (Y := C1) (Q := fun X' z => X1 = X' ∧ z1 = z) ((xs (4 * j + 1)).toInt) ((xs (4 * j + 2)).toInt) ((xs (4 * j + 3)).toInt) X ⟨X1, z1, e2, rfl, rfl⟩) cls_8 (k := 95) (by omega) rfl (As := [.int (I (((xs (4 * j + 1)).toInt))), .int (I (((xs (4 * j + 2)).toInt))), .int (I (((xs (4 * j + 3)).toInt)))]) (st := [.int (I z1)]) rfl (Nat.le_of_ble_eq_true rfl) dL_law_568 (kkI (fun M' z h => ?_))
        obtain ⟨rfl, rfl⟩ := h
        refine r_icmp_same hK dL_law_571 (t := 682) (by decide) ?_
        exact hend _ _ hI
      by_cases h14 : (o : Int) = 14
      · refine r_tabIn hK dL_law_32 hro h14 (by decide) (by decide) rfl (t := 576) (by decide) ?_
        obtain ⟨C1, X1, z1, e1, e2, hI⟩ := (hOk C X hI ((xs (4 * j + 1)).toInt) ((xs (4 * j + 2)).toInt) ((xs (4 * j + 3)).toInt) (sx_r _) (sx_r _) (sx_r _)).2.2.2.2.2.2.2.2.2.2.2.2.2.2.1
        refine r_aload_n hK dL_law_576 rfl ?_
        refine r_aload_n hK dL_law_577 rfl ?_
        refine r_iload_n hK dL_law_578 rfl ?_
        refine r_iconst hK dL_law_579 ?_
        refine r_iadd hK dL_law_580 ?_
        refine r_scr (q := 4 * j + 1) hK hX hbl hbA (by omega) (by omega) (by omega) dL_law_581 ?_
        refine r_callV hK ck_X7_count im_X7_count sl_X7_count ml_RL_73 (by decide) (c_X7_count (l := kL K) (g := g) (X := X) (Q := fun C' z => C1 = C' ∧ z1 = z) ((xs (4 * j + 1)).toInt) C ⟨C1, z1, e1, rfl, rfl⟩) cls_7 (k := 0) (by omega) rfl (As := [.int (I (((xs (4 * j + 1)).toInt)))]) (st := []) rfl (Nat.le_of_ble_eq_true rfl) dL_law_582 (kkI (fun M' z h => ?_))
        obtain ⟨rfl, rfl⟩ := h
        refine r_aload_n hK dL_law_585 rfl ?_
        refine r_aload_n hK dL_law_586 rfl ?_
        refine r_iload_n hK dL_law_587 rfl ?_
        refine r_iconst hK dL_law_588 ?_
        refine r_iadd hK dL_law_589 ?_
        refine r_scr (q := 4 * j + 1) hK hX hbl hbA (by omega) (by omega) (by omega) dL_law_590 ?_
        refine r_callV hK ck_X8_count im_X8_count sl_X8_count ml_RL_76 (by decide) (c_X8_count (l := kL K) (g := g) (Y := C1) (Q := fun X' z => X1 = X' ∧ z1 = z) ((xs (4 * j + 1)).toInt) X ⟨X1, z1, e2, rfl, rfl⟩) cls_8 (k := 95) (by omega) rfl (As := [.int (I (((xs (4 * j + 1)).toInt)))]) (st := [.int (I z1)]) rfl (Nat.le_of_ble_eq_true rfl) dL_law_591 (kkI (fun M' z h => ?_))
        obtain ⟨rfl, rfl⟩ := h
        refine r_icmp_same hK dL_law_594 (t := 682) (by decide) ?_
        exact hend _ _ hI
      by_cases h15 : (o : Int) = 15
      · refine r_tabIn hK dL_law_32 hro h15 (by decide) (by decide) rfl (t := 599) (by decide) ?_
        obtain ⟨C1, X1, z1, e1, e2, hI⟩ := (hOk C X hI ((xs (4 * j + 1)).toInt) ((xs (4 * j + 2)).toInt) ((xs (4 * j + 3)).toInt) (sx_r _) (sx_r _) (sx_r _)).2.2.2.2.2.2.2.2.2.2.2.2.2.2.2.1
        refine r_aload_n hK dL_law_599 rfl ?_
        refine r_callV hK ck_X7_digest im_X7_digest sl_X7_digest ml_RL_77 (by decide) (c_X7_digest (l := kL K) (g := g) (X := X) (Q := fun C' z => C1 = C' ∧ z1 = z) C ⟨C1, z1, e1, rfl, rfl⟩) cls_7 (k := 0) (by omega) rfl (As := []) (st := []) rfl (Nat.le_of_ble_eq_true rfl) dL_law_600 (kkL (fun M' z h => ?_))
        obtain ⟨rfl, rfl⟩ := h
        refine r_aload_n hK dL_law_603 rfl ?_
        refine r_callV hK ck_X8_digest im_X8_digest sl_X8_digest ml_RL_81 (by decide) (c_X8_digest (l := kL K) (g := g) (Y := C1) (Q := fun X' z => X1 = X' ∧ z1 = z) X ⟨X1, z1, e2, rfl, rfl⟩) cls_8 (k := 95) (by omega) rfl (As := []) (st := [.long (LL z1)]) rfl (Nat.le_of_ble_eq_true rfl) dL_law_604 (kkL (fun M' z h => ?_))
        obtain ⟨rfl, rfl⟩ := h
        refine r_lcmp_same hK dL_law_607 ?_
        refine r_if_eq (A := True) (B := False) hK dL_law_608 (t := 682) (by decide) ⟨⟨by decide, by decide⟩, fun _ => trivial, fun h => h rfl⟩ (fun _ => ?_) (fun h => h.elim)
        exact hend _ _ hI
      by_cases h16 : (o : Int) = 16
      · refine r_tabIn hK dL_law_32 hro h16 (by decide) (by decide) rfl (t := 613) (by decide) ?_
        obtain ⟨C1, X1, z1, e1, e2, hI⟩ := (hOk C X hI ((xs (4 * j + 1)).toInt) ((xs (4 * j + 2)).toInt) ((xs (4 * j + 3)).toInt) (sx_r _) (sx_r _) (sx_r _)).2.2.2.2.2.2.2.2.2.2.2.2.2.2.2.2.1
        refine r_aload_n hK dL_law_613 rfl ?_
        refine r_aload_n hK dL_law_614 rfl ?_
        refine r_iload_n hK dL_law_615 rfl ?_
        refine r_iconst hK dL_law_616 ?_
        refine r_iadd hK dL_law_617 ?_
        refine r_scr (q := 4 * j + 1) hK hX hbl hbA (by omega) (by omega) (by omega) dL_law_618 ?_
        refine r_callV hK ck_X7_keep im_X7_keep sl_X7_keep ml_RL_82 (by decide) (c_X7_keep (l := kL K) (g := g) (X := X) (Q := fun C' z => C1 = C' ∧ z1 = z) ((xs (4 * j + 1)).toInt) C ⟨C1, z1, e1, rfl, rfl⟩) cls_7 (k := 0) (by omega) rfl (As := [.int (I (((xs (4 * j + 1)).toInt)))]) (st := []) rfl (Nat.le_of_ble_eq_true rfl) dL_law_619 (kkI (fun M' z h => ?_))
        obtain ⟨rfl, rfl⟩ := h
        refine r_aload_n hK dL_law_622 rfl ?_
        refine r_aload_n hK dL_law_623 rfl ?_
        refine r_iload_n hK dL_law_624 rfl ?_
        refine r_iconst hK dL_law_625 ?_
        refine r_iadd hK dL_law_626 ?_
        refine r_scr (q := 4 * j + 1) hK hX hbl hbA (by omega) (by omega) (by omega) dL_law_627 ?_
        refine r_callV hK ck_X8_keep im_X8_keep sl_X8_keep ml_RL_85 (by decide) (c_X8_keep (l := kL K) (g := g) (Y := C1) (Q := fun X' z => X1 = X' ∧ z1 = z) ((xs (4 * j + 1)).toInt) X ⟨X1, z1, e2, rfl, rfl⟩) cls_8 (k := 95) (by omega) rfl (As := [.int (I (((xs (4 * j + 1)).toInt)))]) (st := [.int (I z1)]) rfl (Nat.le_of_ble_eq_true rfl) dL_law_628 (kkI (fun M' z h => ?_))
        obtain ⟨rfl, rfl⟩ := h
        refine r_icmp_same hK dL_law_631 (t := 682) (by decide) ?_
        exact hend _ _ hI
      by_cases h17 : (o : Int) = 17
      · refine r_tabIn hK dL_law_32 hro h17 (by decide) (by decide) rfl (t := 636) (by decide) ?_
        obtain ⟨C1, X1, z1, e1, e2, hI⟩ := (hOk C X hI ((xs (4 * j + 1)).toInt) ((xs (4 * j + 2)).toInt) ((xs (4 * j + 3)).toInt) (sx_r _) (sx_r _) (sx_r _)).2.2.2.2.2.2.2.2.2.2.2.2.2.2.2.2.2.1
        refine r_aload_n hK dL_law_636 rfl ?_
        refine r_aload_n hK dL_law_637 rfl ?_
        refine r_iload_n hK dL_law_638 rfl ?_
        refine r_iconst hK dL_law_639 ?_
        refine r_iadd hK dL_law_640 ?_
        refine r_scr (q := 4 * j + 1) hK hX hbl hbA (by omega) (by omega) (by omega) dL_law_641 ?_
        refine r_callV hK ck_X7_back im_X7_back sl_X7_back ml_RL_86 (by decide) (c_X7_back (l := kL K) (g := g) (X := X) (Q := fun C' z => C1 = C' ∧ z1 = z) ((xs (4 * j + 1)).toInt) C ⟨C1, z1, e1, rfl, rfl⟩) cls_7 (k := 0) (by omega) rfl (As := [.int (I (((xs (4 * j + 1)).toInt)))]) (st := []) rfl (Nat.le_of_ble_eq_true rfl) dL_law_642 (kkI (fun M' z h => ?_))
        obtain ⟨rfl, rfl⟩ := h
        refine r_aload_n hK dL_law_645 rfl ?_
        refine r_aload_n hK dL_law_646 rfl ?_
        refine r_iload_n hK dL_law_647 rfl ?_
        refine r_iconst hK dL_law_648 ?_
        refine r_iadd hK dL_law_649 ?_
        refine r_scr (q := 4 * j + 1) hK hX hbl hbA (by omega) (by omega) (by omega) dL_law_650 ?_
        refine r_callV hK ck_X8_back im_X8_back sl_X8_back ml_RL_89 (by decide) (c_X8_back (l := kL K) (g := g) (Y := C1) (Q := fun X' z => X1 = X' ∧ z1 = z) ((xs (4 * j + 1)).toInt) X ⟨X1, z1, e2, rfl, rfl⟩) cls_8 (k := 95) (by omega) rfl (As := [.int (I (((xs (4 * j + 1)).toInt)))]) (st := [.int (I z1)]) rfl (Nat.le_of_ble_eq_true rfl) dL_law_651 (kkI (fun M' z h => ?_))
        obtain ⟨rfl, rfl⟩ := h
        refine r_icmp_same hK dL_law_654 (t := 682) (by decide) ?_
        exact hend _ _ hI
      by_cases h18 : (o : Int) = 18
      · refine r_tabIn hK dL_law_32 hro h18 (by decide) (by decide) rfl (t := 659) (by decide) ?_
        obtain ⟨C1, X1, z1, e1, e2, hI⟩ := (hOk C X hI ((xs (4 * j + 1)).toInt) ((xs (4 * j + 2)).toInt) ((xs (4 * j + 3)).toInt) (sx_r _) (sx_r _) (sx_r _)).2.2.2.2.2.2.2.2.2.2.2.2.2.2.2.2.2.2
        refine r_aload_n hK dL_law_659 rfl ?_
        refine r_aload_n hK dL_law_660 rfl ?_
        refine r_iload_n hK dL_law_661 rfl ?_
        refine r_iconst hK dL_law_662 ?_
        refine r_iadd hK dL_law_663 ?_
        refine r_scr (q := 4 * j + 1) hK hX hbl hbA (by omega) (by omega) (by omega) dL_law_664 ?_
        refine r_callV hK ck_X7_times im_X7_times sl_X7_times ml_RL_90 (by decide) (c_X7_times (l := kL K) (g := g) (X := X) (Q := fun C' z => C1 = C' ∧ z1 = z) ((xs (4 * j + 1)).toInt) C ⟨C1, z1, e1, rfl, rfl⟩) cls_7 (k := 0) (by omega) rfl (As := [.int (I (((xs (4 * j + 1)).toInt)))]) (st := []) rfl (Nat.le_of_ble_eq_true rfl) dL_law_665 (kkI (fun M' z h => ?_))
        obtain ⟨rfl, rfl⟩ := h
        refine r_aload_n hK dL_law_668 rfl ?_
        refine r_aload_n hK dL_law_669 rfl ?_
        refine r_iload_n hK dL_law_670 rfl ?_
        refine r_iconst hK dL_law_671 ?_
        refine r_iadd hK dL_law_672 ?_
        refine r_scr (q := 4 * j + 1) hK hX hbl hbA (by omega) (by omega) (by omega) dL_law_673 ?_
        refine r_callV hK ck_X8_times im_X8_times sl_X8_times ml_RL_93 (by decide) (c_X8_times (l := kL K) (g := g) (Y := C1) (Q := fun X' z => X1 = X' ∧ z1 = z) ((xs (4 * j + 1)).toInt) X ⟨X1, z1, e2, rfl, rfl⟩) cls_8 (k := 95) (by omega) rfl (As := [.int (I (((xs (4 * j + 1)).toInt)))]) (st := [.int (I z1)]) rfl (Nat.le_of_ble_eq_true rfl) dL_law_674 (kkI (fun M' z h => ?_))
        obtain ⟨rfl, rfl⟩ := h
        refine r_icmp_same hK dL_law_677 (t := 682) (by decide) ?_
        exact hend _ _ hI
      refine r_tabOut hK dL_law_32 hro (by omega) (t := 682) (by decide) ?_
      exact hend C X hI
    · refine r_icmp_gt (A := True) (B := False) hK dL_law_23 (t := 688) (by decide) ⟨⟨⟨by omega, by omega⟩, by omega, by omega⟩, fun _ => trivial, fun h => by omega⟩ (fun _ => hex _ _ _) (fun h => h.elim)
