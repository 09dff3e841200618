/-! the law's links, and its cases: the class's call, the reference's call, the same answer -/
set_option maxRecDepth 100000 in
theorem lnL_13 : am_lnV RL 13 yX6_feed cX6_feed 2 (some .int) 1 6 := ⟨am_in 353 rfl rfl, am_in 95 (by decide +kernel) rfl, am_in 351 (by decide +kernel) rfl, am_in 352 (by decide +kernel) rfl, Or.inl (am_in 350 (by decide +kernel) rfl), ⟨by decide +kernel, by decide +kernel, by decide +kernel⟩, ⟨TX6, 15, rfl⟩, by decide⟩
set_option maxRecDepth 100000 in
theorem lnL_17 : am_lnV RL 17 yX7_feed cX7_feed 2 (some .int) 1 7 := ⟨am_in 887 rfl rfl, am_in 103 (by decide +kernel) rfl, am_in 885 (by decide +kernel) rfl, am_in 886 (by decide +kernel) rfl, Or.inl (am_in 884 (by decide +kernel) rfl), ⟨by decide +kernel, by decide +kernel, by decide +kernel⟩, ⟨TX7, 46, rfl⟩, by decide⟩
set_option maxRecDepth 100000 in
theorem lnL_18 : am_lnV RL 18 yX6_land cX6_land 3 (some .int) 0 6 := ⟨am_in 363 rfl rfl, am_in 95 (by decide +kernel) rfl, am_in 361 (by decide +kernel) rfl, am_in 362 (by decide +kernel) rfl, Or.inl (am_in 360 (by decide +kernel) rfl), ⟨by decide +kernel, by decide +kernel, by decide +kernel⟩, ⟨TX6, 15, rfl⟩, by decide⟩
set_option maxRecDepth 100000 in
theorem lnL_22 : am_lnV RL 22 yX7_land cX7_land 2 (some .int) 0 7 := ⟨am_in 897 rfl rfl, am_in 103 (by decide +kernel) rfl, am_in 895 (by decide +kernel) rfl, am_in 896 (by decide +kernel) rfl, Or.inl (am_in 894 (by decide +kernel) rfl), ⟨by decide +kernel, by decide +kernel, by decide +kernel⟩, ⟨TX7, 46, rfl⟩, by decide⟩
set_option maxRecDepth 100000 in
theorem lnL_23 : am_lnV RL 23 yX6_fault cX6_fault 1 (some .int) 0 6 := ⟨am_in 429 rfl rfl, am_in 95 (by decide +kernel) rfl, am_in 427 (by decide +kernel) rfl, am_in 428 (by decide +kernel) rfl, Or.inl (am_in 426 (by decide +kernel) rfl), ⟨by decide +kernel, by decide +kernel, by decide +kernel⟩, ⟨TX6, 15, rfl⟩, by decide⟩
set_option maxRecDepth 100000 in
theorem lnL_26 : am_lnV RL 26 yX7_fault cX7_fault 1 (some .int) 0 7 := ⟨am_in 939 rfl rfl, am_in 103 (by decide +kernel) rfl, am_in 937 (by decide +kernel) rfl, am_in 938 (by decide +kernel) rfl, Or.inl (am_in 936 (by decide +kernel) rfl), ⟨by decide +kernel, by decide +kernel, by decide +kernel⟩, ⟨TX7, 46, rfl⟩, by decide⟩
set_option maxRecDepth 100000 in
theorem lnL_27 : am_lnV RL 27 yX6_told cX6_told 2 (some .int) 1 6 := ⟨am_in 433 rfl rfl, am_in 95 (by decide +kernel) rfl, am_in 431 (by decide +kernel) rfl, am_in 432 (by decide +kernel) rfl, Or.inl (am_in 430 (by decide +kernel) rfl), ⟨by decide +kernel, by decide +kernel, by decide +kernel⟩, ⟨TX6, 15, rfl⟩, by decide⟩
set_option maxRecDepth 100000 in
theorem lnL_30 : am_lnV RL 30 yX7_told cX7_told 2 (some .int) 1 7 := ⟨am_in 943 rfl rfl, am_in 103 (by decide +kernel) rfl, am_in 941 (by decide +kernel) rfl, am_in 942 (by decide +kernel) rfl, Or.inl (am_in 940 (by decide +kernel) rfl), ⟨by decide +kernel, by decide +kernel, by decide +kernel⟩, ⟨TX7, 46, rfl⟩, by decide⟩
set_option maxRecDepth 100000 in
theorem lnL_31 : am_lnV RL 31 yX6_barn cX6_barn 3 (some .int) 2 6 := ⟨am_in 448 rfl rfl, am_in 95 (by decide +kernel) rfl, am_in 446 (by decide +kernel) rfl, am_in 447 (by decide +kernel) rfl, Or.inl (am_in 445 (by decide +kernel) rfl), ⟨by decide +kernel, by decide +kernel, by decide +kernel⟩, ⟨TX6, 15, rfl⟩, by decide⟩
set_option maxRecDepth 100000 in
theorem lnL_35 : am_lnV RL 35 yX7_barn cX7_barn 3 (some .int) 2 7 := ⟨am_in 951 rfl rfl, am_in 103 (by decide +kernel) rfl, am_in 949 (by decide +kernel) rfl, am_in 950 (by decide +kernel) rfl, Or.inl (am_in 948 (by decide +kernel) rfl), ⟨by decide +kernel, by decide +kernel, by decide +kernel⟩, ⟨TX7, 46, rfl⟩, by decide⟩
set_option maxRecDepth 100000 in
theorem lnL_36 : am_lnV RL 36 yX6_year cX6_year 4 (some .int) 1 6 := ⟨am_in 461 rfl rfl, am_in 95 (by decide +kernel) rfl, am_in 459 (by decide +kernel) rfl, am_in 460 (by decide +kernel) rfl, Or.inl (am_in 458 (by decide +kernel) rfl), ⟨by decide +kernel, by decide +kernel, by decide +kernel⟩, ⟨TX6, 15, rfl⟩, by decide⟩
set_option maxRecDepth 100000 in
theorem lnL_39 : am_lnV RL 39 yX7_year cX7_year 4 (some .int) 1 7 := ⟨am_in 960 rfl rfl, am_in 103 (by decide +kernel) rfl, am_in 958 (by decide +kernel) rfl, am_in 959 (by decide +kernel) rfl, Or.inl (am_in 957 (by decide +kernel) rfl), ⟨by decide +kernel, by decide +kernel, by decide +kernel⟩, ⟨TX7, 46, rfl⟩, by decide⟩
set_option maxRecDepth 100000 in
theorem lnL_40 : am_lnV RL 40 yX6_open cX6_open 4 (some .int) 2 6 := ⟨am_in 505 rfl rfl, am_in 95 (by decide +kernel) rfl, am_in 503 (by decide +kernel) rfl, am_in 504 (by decide +kernel) rfl, Or.inl (am_in 502 (by decide +kernel) rfl), ⟨by decide +kernel, by decide +kernel, by decide +kernel⟩, ⟨TX6, 15, rfl⟩, by decide⟩
set_option maxRecDepth 100000 in
theorem lnL_44 : am_lnV RL 44 yX7_open cX7_open 4 (some .int) 2 7 := ⟨am_in 1004 rfl rfl, am_in 103 (by decide +kernel) rfl, am_in 1002 (by decide +kernel) rfl, am_in 1003 (by decide +kernel) rfl, Or.inl (am_in 1001 (by decide +kernel) rfl), ⟨by decide +kernel, by decide +kernel, by decide +kernel⟩, ⟨TX7, 46, rfl⟩, by decide⟩
set_option maxRecDepth 100000 in
theorem lnL_45 : am_lnV RL 45 yX6_move cX6_move 4 (some .int) 3 6 := ⟨am_in 509 rfl rfl, am_in 95 (by decide +kernel) rfl, am_in 507 (by decide +kernel) rfl, am_in 508 (by decide +kernel) rfl, Or.inl (am_in 506 (by decide +kernel) rfl), ⟨by decide +kernel, by decide +kernel, by decide +kernel⟩, ⟨TX6, 15, rfl⟩, by decide⟩
set_option maxRecDepth 100000 in
theorem lnL_49 : am_lnV RL 49 yX7_move cX7_move 4 (some .int) 3 7 := ⟨am_in 1008 rfl rfl, am_in 103 (by decide +kernel) rfl, am_in 1006 (by decide +kernel) rfl, am_in 1007 (by decide +kernel) rfl, Or.inl (am_in 1005 (by decide +kernel) rfl), ⟨by decide +kernel, by decide +kernel, by decide +kernel⟩, ⟨TX7, 46, rfl⟩, by decide⟩
set_option maxRecDepth 100000 in
theorem lnL_50 : am_lnV RL 50 yX6_mud cX6_mud 3 (some .int) 2 6 := ⟨am_in 521 rfl rfl, am_in 95 (by decide +kernel) rfl, am_in 519 (by decide +kernel) rfl, am_in 520 (by decide +kernel) rfl, Or.inl (am_in 518 (by decide +kernel) rfl), ⟨by decide +kernel, by decide +kernel, by decide +kernel⟩, ⟨TX6, 15, rfl⟩, by decide⟩
set_option maxRecDepth 100000 in
theorem lnL_53 : am_lnV RL 53 yX7_mud cX7_mud 3 (some .int) 2 7 := ⟨am_in 1021 rfl rfl, am_in 103 (by decide +kernel) rfl, am_in 1019 (by decide +kernel) rfl, am_in 1020 (by decide +kernel) rfl, Or.inl (am_in 1018 (by decide +kernel) rfl), ⟨by decide +kernel, by decide +kernel, by decide +kernel⟩, ⟨TX7, 46, rfl⟩, by decide⟩
set_option maxRecDepth 100000 in
theorem lnL_54 : am_lnV RL 54 yX6_ring cX6_ring 3 (some .int) 2 6 := ⟨am_in 529 rfl rfl, am_in 95 (by decide +kernel) rfl, am_in 527 (by decide +kernel) rfl, am_in 528 (by decide +kernel) rfl, Or.inl (am_in 526 (by decide +kernel) rfl), ⟨by decide +kernel, by decide +kernel, by decide +kernel⟩, ⟨TX6, 15, rfl⟩, by decide⟩
set_option maxRecDepth 100000 in
theorem lnL_57 : am_lnV RL 57 yX7_ring cX7_ring 3 (some .int) 2 7 := ⟨am_in 1026 rfl rfl, am_in 103 (by decide +kernel) rfl, am_in 1024 (by decide +kernel) rfl, am_in 1025 (by decide +kernel) rfl, Or.inl (am_in 1023 (by decide +kernel) rfl), ⟨by decide +kernel, by decide +kernel, by decide +kernel⟩, ⟨TX7, 46, rfl⟩, by decide⟩
set_option maxRecDepth 100000 in
theorem lnL_58 : am_lnV RL 58 yX6_drift cX6_drift 4 (some .int) 1 6 := ⟨am_in 533 rfl rfl, am_in 95 (by decide +kernel) rfl, am_in 531 (by decide +kernel) rfl, am_in 532 (by decide +kernel) rfl, Or.inl (am_in 530 (by decide +kernel) rfl), ⟨by decide +kernel, by decide +kernel, by decide +kernel⟩, ⟨TX6, 15, rfl⟩, by decide⟩
set_option maxRecDepth 100000 in
theorem lnL_61 : am_lnV RL 61 yX7_drift cX7_drift 4 (some .int) 1 7 := ⟨am_in 1030 rfl rfl, am_in 103 (by decide +kernel) rfl, am_in 1028 (by decide +kernel) rfl, am_in 1029 (by decide +kernel) rfl, Or.inl (am_in 1027 (by decide +kernel) rfl), ⟨by decide +kernel, by decide +kernel, by decide +kernel⟩, ⟨TX7, 46, rfl⟩, by decide⟩
set_option maxRecDepth 100000 in
theorem lnL_62 : am_lnV RL 62 yX6_undo cX6_undo 1 (some .int) 0 6 := ⟨am_in 544 rfl rfl, am_in 95 (by decide +kernel) rfl, am_in 542 (by decide +kernel) rfl, am_in 543 (by decide +kernel) rfl, Or.inl (am_in 541 (by decide +kernel) rfl), ⟨by decide +kernel, by decide +kernel, by decide +kernel⟩, ⟨TX6, 15, rfl⟩, by decide⟩
set_option maxRecDepth 100000 in
theorem lnL_65 : am_lnV RL 65 yX7_undo cX7_undo 2 (some .int) 0 7 := ⟨am_in 1042 rfl rfl, am_in 103 (by decide +kernel) rfl, am_in 1040 (by decide +kernel) rfl, am_in 1041 (by decide +kernel) rfl, Or.inl (am_in 1039 (by decide +kernel) rfl), ⟨by decide +kernel, by decide +kernel, by decide +kernel⟩, ⟨TX7, 46, rfl⟩, by decide⟩
set_option maxRecDepth 100000 in
theorem lnL_66 : am_lnV RL 66 yX6_count cX6_count 5 (some .int) 3 6 := ⟨am_in 556 rfl rfl, am_in 95 (by decide +kernel) rfl, am_in 554 (by decide +kernel) rfl, am_in 555 (by decide +kernel) rfl, Or.inl (am_in 553 (by decide +kernel) rfl), ⟨by decide +kernel, by decide +kernel, by decide +kernel⟩, ⟨TX6, 15, rfl⟩, by decide⟩
set_option maxRecDepth 100000 in
theorem lnL_69 : am_lnV RL 69 yX7_count cX7_count 5 (some .int) 3 7 := ⟨am_in 1046 rfl rfl, am_in 103 (by decide +kernel) rfl, am_in 1044 (by decide +kernel) rfl, am_in 1045 (by decide +kernel) rfl, Or.inl (am_in 1043 (by decide +kernel) rfl), ⟨by decide +kernel, by decide +kernel, by decide +kernel⟩, ⟨TX7, 46, rfl⟩, by decide⟩
set_option maxRecDepth 100000 in
theorem lnL_70 : am_lnV RL 70 yX6_leave cX6_leave 9 (some .int) 3 6 := ⟨am_in 588 rfl rfl, am_in 95 (by decide +kernel) rfl, am_in 586 (by decide +kernel) rfl, am_in 587 (by decide +kernel) rfl, Or.inl (am_in 585 (by decide +kernel) rfl), ⟨by decide +kernel, by decide +kernel, by decide +kernel⟩, ⟨TX6, 15, rfl⟩, by decide⟩
set_option maxRecDepth 100000 in
theorem lnL_73 : am_lnV RL 73 yX7_leave cX7_leave 8 (some .int) 3 7 := ⟨am_in 1068 rfl rfl, am_in 103 (by decide +kernel) rfl, am_in 1066 (by decide +kernel) rfl, am_in 1067 (by decide +kernel) rfl, Or.inl (am_in 1065 (by decide +kernel) rfl), ⟨by decide +kernel, by decide +kernel, by decide +kernel⟩, ⟨TX7, 46, rfl⟩, by decide⟩
set_option maxRecDepth 100000 in
theorem lnL_74 : am_lnV RL 74 yX6_counters cX6_counters 6 (some .int) 1 6 := ⟨am_in 606 rfl rfl, am_in 95 (by decide +kernel) rfl, am_in 604 (by decide +kernel) rfl, am_in 605 (by decide +kernel) rfl, Or.inl (am_in 603 (by decide +kernel) rfl), ⟨by decide +kernel, by decide +kernel, by decide +kernel⟩, ⟨TX6, 15, rfl⟩, by decide⟩
set_option maxRecDepth 100000 in
theorem lnL_77 : am_lnV RL 77 yX7_counters cX7_counters 6 (some .int) 1 7 := ⟨am_in 1079 rfl rfl, am_in 103 (by decide +kernel) rfl, am_in 1077 (by decide +kernel) rfl, am_in 1078 (by decide +kernel) rfl, Or.inl (am_in 1076 (by decide +kernel) rfl), ⟨by decide +kernel, by decide +kernel, by decide +kernel⟩, ⟨TX7, 46, rfl⟩, by decide⟩
set_option maxRecDepth 100000 in
theorem lnL_78 : am_lnV RL 78 yX6_game cX6_game 7 (some .int) 3 6 := ⟨am_in 610 rfl rfl, am_in 95 (by decide +kernel) rfl, am_in 608 (by decide +kernel) rfl, am_in 609 (by decide +kernel) rfl, Or.inl (am_in 607 (by decide +kernel) rfl), ⟨by decide +kernel, by decide +kernel, by decide +kernel⟩, ⟨TX6, 15, rfl⟩, by decide⟩
set_option maxRecDepth 100000 in
theorem lnL_81 : am_lnV RL 81 yX7_game cX7_game 6 (some .int) 3 7 := ⟨am_in 1083 rfl rfl, am_in 103 (by decide +kernel) rfl, am_in 1081 (by decide +kernel) rfl, am_in 1082 (by decide +kernel) rfl, Or.inl (am_in 1080 (by decide +kernel) rfl), ⟨by decide +kernel, by decide +kernel, by decide +kernel⟩, ⟨TX7, 46, rfl⟩, by decide⟩
set_option maxRecDepth 100000 in
theorem lnL_82 : am_lnV RL 82 yX6_leastMud cX6_leastMud 4 (some .int) 2 6 := ⟨am_in 638 rfl rfl, am_in 95 (by decide +kernel) rfl, am_in 636 (by decide +kernel) rfl, am_in 637 (by decide +kernel) rfl, Or.inl (am_in 635 (by decide +kernel) rfl), ⟨by decide +kernel, by decide +kernel, by decide +kernel⟩, ⟨TX6, 15, rfl⟩, by decide⟩
set_option maxRecDepth 100000 in
theorem lnL_85 : am_lnV RL 85 yX7_leastMud cX7_leastMud 4 (some .int) 2 7 := ⟨am_in 1106 rfl rfl, am_in 103 (by decide +kernel) rfl, am_in 1104 (by decide +kernel) rfl, am_in 1105 (by decide +kernel) rfl, Or.inl (am_in 1103 (by decide +kernel) rfl), ⟨by decide +kernel, by decide +kernel, by decide +kernel⟩, ⟨TX7, 46, rfl⟩, by decide⟩
set_option maxRecDepth 100000 in
theorem lnL_86 : am_lnV RL 86 yX6_votes cX6_votes 2 (some .int) 1 6 := ⟨am_in 659 rfl rfl, am_in 95 (by decide +kernel) rfl, am_in 657 (by decide +kernel) rfl, am_in 658 (by decide +kernel) rfl, Or.inl (am_in 656 (by decide +kernel) rfl), ⟨by decide +kernel, by decide +kernel, by decide +kernel⟩, ⟨TX6, 15, rfl⟩, by decide⟩
set_option maxRecDepth 100000 in
theorem lnL_89 : am_lnV RL 89 yX7_votes cX7_votes 4 (some .int) 1 7 := ⟨am_in 1129 rfl rfl, am_in 103 (by decide +kernel) rfl, am_in 1127 (by decide +kernel) rfl, am_in 1128 (by decide +kernel) rfl, Or.inl (am_in 1126 (by decide +kernel) rfl), ⟨by decide +kernel, by decide +kernel, by decide +kernel⟩, ⟨TX7, 46, rfl⟩, by decide⟩
set_option maxRecDepth 100000 in
theorem lnL_90 : am_lnV RL 90 yX6_elected cX6_elected 3 (some .int) 0 6 := ⟨am_in 667 rfl rfl, am_in 95 (by decide +kernel) rfl, am_in 665 (by decide +kernel) rfl, am_in 666 (by decide +kernel) rfl, Or.inl (am_in 664 (by decide +kernel) rfl), ⟨by decide +kernel, by decide +kernel, by decide +kernel⟩, ⟨TX6, 15, rfl⟩, by decide⟩
set_option maxRecDepth 100000 in
theorem lnL_93 : am_lnV RL 93 yX7_elected cX7_elected 4 (some .int) 0 7 := ⟨am_in 1133 rfl rfl, am_in 103 (by decide +kernel) rfl, am_in 1131 (by decide +kernel) rfl, am_in 1132 (by decide +kernel) rfl, Or.inl (am_in 1130 (by decide +kernel) rfl), ⟨by decide +kernel, by decide +kernel, by decide +kernel⟩, ⟨TX7, 46, rfl⟩, by decide⟩
set_option maxRecDepth 100000 in
theorem lnL_94 : am_lnV RL 94 yX6_spring cX6_spring 6 (some .int) 2 6 := ⟨am_in 671 rfl rfl, am_in 95 (by decide +kernel) rfl, am_in 669 (by decide +kernel) rfl, am_in 670 (by decide +kernel) rfl, Or.inl (am_in 668 (by decide +kernel) rfl), ⟨by decide +kernel, by decide +kernel, by decide +kernel⟩, ⟨TX6, 15, rfl⟩, by decide⟩
set_option maxRecDepth 100000 in
theorem lnL_97 : am_lnV RL 97 yX7_spring cX7_spring 6 (some .int) 2 7 := ⟨am_in 1138 rfl rfl, am_in 103 (by decide +kernel) rfl, am_in 1136 (by decide +kernel) rfl, am_in 1137 (by decide +kernel) rfl, Or.inl (am_in 1135 (by decide +kernel) rfl), ⟨by decide +kernel, by decide +kernel, by decide +kernel⟩, ⟨TX7, 46, rfl⟩, by decide⟩
set_option maxRecDepth 100000 in
theorem lnL_98 : am_lnV RL 98 yX6_see cX6_see 3 (some .int) 2 6 := ⟨am_in 677 rfl rfl, am_in 95 (by decide +kernel) rfl, am_in 675 (by decide +kernel) rfl, am_in 676 (by decide +kernel) rfl, Or.inl (am_in 674 (by decide +kernel) rfl), ⟨by decide +kernel, by decide +kernel, by decide +kernel⟩, ⟨TX6, 15, rfl⟩, by decide⟩
set_option maxRecDepth 100000 in
theorem lnL_101 : am_lnV RL 101 yX7_see cX7_see 3 (some .int) 2 7 := ⟨am_in 1145 rfl rfl, am_in 103 (by decide +kernel) rfl, am_in 1143 (by decide +kernel) rfl, am_in 1144 (by decide +kernel) rfl, Or.inl (am_in 1142 (by decide +kernel) rfl), ⟨by decide +kernel, by decide +kernel, by decide +kernel⟩, ⟨TX7, 46, rfl⟩, by decide⟩
set_option maxRecDepth 100000 in
theorem lnL_102 : am_lnV RL 102 yX6_moved cX6_moved 6 (some .int) 1 6 := ⟨am_in 686 rfl rfl, am_in 95 (by decide +kernel) rfl, am_in 684 (by decide +kernel) rfl, am_in 685 (by decide +kernel) rfl, Or.inl (am_in 683 (by decide +kernel) rfl), ⟨by decide +kernel, by decide +kernel, by decide +kernel⟩, ⟨TX6, 15, rfl⟩, by decide⟩
set_option maxRecDepth 100000 in
theorem lnL_105 : am_lnV RL 105 yX7_moved cX7_moved 5 (some .int) 1 7 := ⟨am_in 1149 rfl rfl, am_in 103 (by decide +kernel) rfl, am_in 1147 (by decide +kernel) rfl, am_in 1148 (by decide +kernel) rfl, Or.inl (am_in 1146 (by decide +kernel) rfl), ⟨by decide +kernel, by decide +kernel, by decide +kernel⟩, ⟨TX7, 46, rfl⟩, by decide⟩
set_option maxRecDepth 100000 in
theorem lnL_106 : am_lnV RL 106 yX6_rough cX6_rough 3 (some .int) 2 6 := ⟨am_in 694 rfl rfl, am_in 95 (by decide +kernel) rfl, am_in 692 (by decide +kernel) rfl, am_in 693 (by decide +kernel) rfl, Or.inl (am_in 691 (by decide +kernel) rfl), ⟨by decide +kernel, by decide +kernel, by decide +kernel⟩, ⟨TX6, 15, rfl⟩, by decide⟩
set_option maxRecDepth 100000 in
theorem lnL_109 : am_lnV RL 109 yX7_rough cX7_rough 3 (some .int) 2 7 := ⟨am_in 1157 rfl rfl, am_in 103 (by decide +kernel) rfl, am_in 1155 (by decide +kernel) rfl, am_in 1156 (by decide +kernel) rfl, Or.inl (am_in 1154 (by decide +kernel) rfl), ⟨by decide +kernel, by decide +kernel, by decide +kernel⟩, ⟨TX7, 46, rfl⟩, by decide⟩
set_option maxRecDepth 100000 in
theorem lnL_110 : am_lnV RL 110 yX6_span cX6_span 5 (some .int) 2 6 := ⟨am_in 698 rfl rfl, am_in 95 (by decide +kernel) rfl, am_in 696 (by decide +kernel) rfl, am_in 697 (by decide +kernel) rfl, Or.inl (am_in 695 (by decide +kernel) rfl), ⟨by decide +kernel, by decide +kernel, by decide +kernel⟩, ⟨TX6, 15, rfl⟩, by decide⟩
set_option maxRecDepth 100000 in
theorem lnL_113 : am_lnV RL 113 yX7_span cX7_span 3 (some .int) 2 7 := ⟨am_in 1162 rfl rfl, am_in 103 (by decide +kernel) rfl, am_in 1160 (by decide +kernel) rfl, am_in 1161 (by decide +kernel) rfl, Or.inl (am_in 1159 (by decide +kernel) rfl), ⟨by decide +kernel, by decide +kernel, by decide +kernel⟩, ⟨TX7, 46, rfl⟩, by decide⟩
set_option maxRecDepth 100000 in
theorem lnL_114 : am_lnV RL 114 yX6_uncounted cX6_uncounted 3 (some .int) 0 6 := ⟨am_in 711 rfl rfl, am_in 95 (by decide +kernel) rfl, am_in 709 (by decide +kernel) rfl, am_in 710 (by decide +kernel) rfl, Or.inl (am_in 708 (by decide +kernel) rfl), ⟨by decide +kernel, by decide +kernel, by decide +kernel⟩, ⟨TX6, 15, rfl⟩, by decide⟩
set_option maxRecDepth 100000 in
theorem lnL_117 : am_lnV RL 117 yX7_uncounted cX7_uncounted 3 (some .int) 0 7 := ⟨am_in 1174 rfl rfl, am_in 103 (by decide +kernel) rfl, am_in 1172 (by decide +kernel) rfl, am_in 1173 (by decide +kernel) rfl, Or.inl (am_in 1171 (by decide +kernel) rfl), ⟨by decide +kernel, by decide +kernel, by decide +kernel⟩, ⟨TX7, 46, rfl⟩, by decide⟩
set_option maxRecDepth 100000 in
theorem lnL_118 : am_lnV RL 118 yX6_write cX6_write 3 (some .int) 2 6 := ⟨am_in 715 rfl rfl, am_in 95 (by decide +kernel) rfl, am_in 713 (by decide +kernel) rfl, am_in 714 (by decide +kernel) rfl, Or.inl (am_in 712 (by decide +kernel) rfl), ⟨by decide +kernel, by decide +kernel, by decide +kernel⟩, ⟨TX6, 15, rfl⟩, by decide⟩
set_option maxRecDepth 100000 in
theorem lnL_121 : am_lnV RL 121 yX7_write cX7_write 3 (some .int) 2 7 := ⟨am_in 1178 rfl rfl, am_in 103 (by decide +kernel) rfl, am_in 1176 (by decide +kernel) rfl, am_in 1177 (by decide +kernel) rfl, Or.inl (am_in 1175 (by decide +kernel) rfl), ⟨by decide +kernel, by decide +kernel, by decide +kernel⟩, ⟨TX7, 46, rfl⟩, by decide⟩
set_option maxRecDepth 100000 in
theorem lnL_122 : am_lnV RL 122 yX6_tear cX6_tear 2 (some .int) 0 6 := ⟨am_in 719 rfl rfl, am_in 95 (by decide +kernel) rfl, am_in 717 (by decide +kernel) rfl, am_in 718 (by decide +kernel) rfl, Or.inl (am_in 716 (by decide +kernel) rfl), ⟨by decide +kernel, by decide +kernel, by decide +kernel⟩, ⟨TX6, 15, rfl⟩, by decide⟩
set_option maxRecDepth 100000 in
theorem lnL_125 : am_lnV RL 125 yX7_tear cX7_tear 2 (some .int) 0 7 := ⟨am_in 1182 rfl rfl, am_in 103 (by decide +kernel) rfl, am_in 1180 (by decide +kernel) rfl, am_in 1181 (by decide +kernel) rfl, Or.inl (am_in 1179 (by decide +kernel) rfl), ⟨by decide +kernel, by decide +kernel, by decide +kernel⟩, ⟨TX7, 46, rfl⟩, by decide⟩
set_option maxRecDepth 100000 in
theorem lnL_126 : am_lnV RL 126 yX6_judge cX6_judge 2 (some .int) 0 6 := ⟨am_in 723 rfl rfl, am_in 95 (by decide +kernel) rfl, am_in 721 (by decide +kernel) rfl, am_in 722 (by decide +kernel) rfl, Or.inl (am_in 720 (by decide +kernel) rfl), ⟨by decide +kernel, by decide +kernel, by decide +kernel⟩, ⟨TX6, 15, rfl⟩, by decide⟩
set_option maxRecDepth 100000 in
theorem lnL_129 : am_lnV RL 129 yX7_judge cX7_judge 2 (some .int) 0 7 := ⟨am_in 1186 rfl rfl, am_in 103 (by decide +kernel) rfl, am_in 1184 (by decide +kernel) rfl, am_in 1185 (by decide +kernel) rfl, Or.inl (am_in 1183 (by decide +kernel) rfl), ⟨by decide +kernel, by decide +kernel, by decide +kernel⟩, ⟨TX7, 46, rfl⟩, by decide⟩
set_option maxRecDepth 100000 in
theorem lnL_130 : am_lnV RL 130 yX6_seed cX6_seed 3 (some .int) 1 6 := ⟨am_in 727 rfl rfl, am_in 95 (by decide +kernel) rfl, am_in 725 (by decide +kernel) rfl, am_in 726 (by decide +kernel) rfl, Or.inl (am_in 724 (by decide +kernel) rfl), ⟨by decide +kernel, by decide +kernel, by decide +kernel⟩, ⟨TX6, 15, rfl⟩, by decide⟩
set_option maxRecDepth 100000 in
theorem lnL_133 : am_lnV RL 133 yX7_seed cX7_seed 3 (some .int) 1 7 := ⟨am_in 1190 rfl rfl, am_in 103 (by decide +kernel) rfl, am_in 1188 (by decide +kernel) rfl, am_in 1189 (by decide +kernel) rfl, Or.inl (am_in 1187 (by decide +kernel) rfl), ⟨by decide +kernel, by decide +kernel, by decide +kernel⟩, ⟨TX7, 46, rfl⟩, by decide⟩
set_option maxRecDepth 100000 in
theorem lnL_134 : am_lnV RL 134 yX6_keep cX6_keep 2 (some .int) 1 6 := ⟨am_in 731 rfl rfl, am_in 95 (by decide +kernel) rfl, am_in 729 (by decide +kernel) rfl, am_in 730 (by decide +kernel) rfl, Or.inl (am_in 728 (by decide +kernel) rfl), ⟨by decide +kernel, by decide +kernel, by decide +kernel⟩, ⟨TX6, 15, rfl⟩, by decide⟩
set_option maxRecDepth 100000 in
theorem lnL_137 : am_lnV RL 137 yX7_keep cX7_keep 3 (some .int) 1 7 := ⟨am_in 1194 rfl rfl, am_in 103 (by decide +kernel) rfl, am_in 1192 (by decide +kernel) rfl, am_in 1193 (by decide +kernel) rfl, Or.inl (am_in 1191 (by decide +kernel) rfl), ⟨by decide +kernel, by decide +kernel, by decide +kernel⟩, ⟨TX7, 46, rfl⟩, by decide⟩
set_option maxRecDepth 100000 in
theorem lnL_138 : am_lnV RL 138 yX6_goBack cX6_goBack 2 (some .int) 1 6 := ⟨am_in 736 rfl rfl, am_in 95 (by decide +kernel) rfl, am_in 734 (by decide +kernel) rfl, am_in 735 (by decide +kernel) rfl, Or.inl (am_in 733 (by decide +kernel) rfl), ⟨by decide +kernel, by decide +kernel, by decide +kernel⟩, ⟨TX6, 15, rfl⟩, by decide⟩
set_option maxRecDepth 100000 in
theorem lnL_141 : am_lnV RL 141 yX7_goBack cX7_goBack 3 (some .int) 1 7 := ⟨am_in 1198 rfl rfl, am_in 103 (by decide +kernel) rfl, am_in 1196 (by decide +kernel) rfl, am_in 1197 (by decide +kernel) rfl, Or.inl (am_in 1195 (by decide +kernel) rfl), ⟨by decide +kernel, by decide +kernel, by decide +kernel⟩, ⟨TX7, 46, rfl⟩, by decide⟩
abbrev lA (s : State) : Nat → Prop := fun q => s.heap.size ≤ q
def lw_B (p : Program) (s : State) (m : MethodId) (c : Code) (b : Nat) (cI cZ : ClassId) (D : va_G) (L : Nat) (xs : Nat → Int32) (x3 : Int32) : Prop := lw_Fix p s m c b cI cZ D ∧ va_X b L xs s s.heap ∧ b < s.heap.size ∧ vp_in (x3 + 1) L ∧ vp_in (x3 + 2) L ∧ vp_in (x3 + 3) L
section LWK
variable {p : Program} {l : Launch} {e : Env} {s : State} {m : MethodId} {below : List Frame} {meth : Method} {c : Code} {Q : State → Prop} {b : Nat} {cI cZ : ClassId} {D : va_G} {L : Nat} {xs : Nat → Int32} {x3 : Int32} {x0 m0 : Nat} {H : Heap} {locs : List Loc} {ls : Array Slot} {S : sw_A}
def lw_K (p : Program) (l : Launch) (e : Env) (s : State) (m : MethodId) (below : List Frame) (meth : Method) (c : Code) (Q : State → Prop) (b : Nat) (cI cZ : ClassId) (D : va_G) (x0 m0 : Nat) (ls : Array Slot) : Prop := ∀ (S' : sw_A) (H' : Heap) (locs' : List Loc), okA S' → lw_W cI cZ D (lA s) x0 m0 S' S' H' → va_S (lA s) s.heap H' locs' → W p l e room_1 s m #[Value.ref b] below meth c H' locs' 71 2246 Q (F0 m 1011 ls [])
set_option maxHeartbeats 1000000 in
set_option maxRecDepth 100000 in
theorem lw_c0 (B : lw_B p s m c b cI cZ D L xs x3) (hl : lv_has ls 4 [(0, .ref b), (1, .ref x0), (2, .ref m0), (3, .int x3)]) (hA : okA S) (hW : lw_W cI cZ D (lA s) x0 m0 S S H) (hS : va_S (lA s) s.heap H locs) (K : lw_K p l e s m below meth c Q b cI cZ D x0 m0 ls) : W p l e room_1 s m #[Value.ref b] below meth c H locs 71 2246 Q (F0 m 172 ls []) := by
  obtain ⟨F, hX, hbl, h1, h2, h3⟩ := B
  have hx := F.1
  have hb := F.2.1
  have hbA : ¬ lA s b := Nat.not_le.mpr hbl
  refine lv_aload_n hx hb dL_law_172 rfl (lv_at hl 1 rfl) ?_
  refine lv_aload_n hx hb dL_law_173 rfl (lv_at hl 0 rfl) ?_
  refine lv_iload_n hx hb dL_law_174 rfl (lv_at hl 3 rfl) ?_
  refine lv_iconst (v := 1) hx hb dL_law_175 (by decide) ?_
  refine lv_iadd hx hb dL_law_176 ?_
  refine va_sld hx hb hX hbl hbA hS h1 dL_law_177 ?_
  refine lw_stepC (t := [.int (xs (x3 + 1).toNatClampNeg)]) (rest := []) (by decide) (Or.inl (ct_cfeed l S hA (xs (x3 + 1).toNatClampNeg))) (fun _ h => h) F lnL_13 dL_law_178 (fun _ => rfl) rfl hW hS hl.1 (Nat.le_of_ble_eq_true rfl) (Nat.le_of_ble_eq_true rfl) (Nat.le_of_ble_eq_true rfl) (fun H locs hW hS => ?_)
  refine lv_aload_n hx hb dL_law_181 rfl (lv_at hl 2 rfl) ?_
  refine lv_aload_n hx hb dL_law_182 rfl (lv_at hl 0 rfl) ?_
  refine lv_iload_n hx hb dL_law_183 rfl (lv_at hl 3 rfl) ?_
  refine lv_iconst (v := 1) hx hb dL_law_184 (by decide) ?_
  refine lv_iadd hx hb dL_law_185 ?_
  refine va_sld hx hb hX hbl hbA hS h1 dL_law_186 ?_
  refine lw_stepM (t := [.int (xs (x3 + 1).toNatClampNeg)]) (rest := [.int (st_feed S (xs (x3 + 1).toNatClampNeg)).1]) (by decide) (ct_mfeed l S hA (xs (x3 + 1).toNatClampNeg)) (fun _ h => h) F lnL_17 dL_law_187 (fun _ => rfl) rfl hW hS hl.1 (Nat.le_of_ble_eq_true rfl) (Nat.le_of_ble_eq_true rfl) (Nat.le_of_ble_eq_true rfl) (fun H locs hW hS => ?_)
  refine lv_icmp_eq (tgt := 1011) hx hb dL_law_190 (by decide) (fun _ => ?_) (fun h => absurd rfl h)
  exact K _ H locs (okA_feed hA) hW hS
set_option maxHeartbeats 1000000 in
set_option maxRecDepth 100000 in
theorem lw_c1 (B : lw_B p s m c b cI cZ D L xs x3) (hl : lv_has ls 4 [(0, .ref b), (1, .ref x0), (2, .ref m0), (3, .int x3)]) (hA : okA S) (hW : lw_W cI cZ D (lA s) x0 m0 S S H) (hS : va_S (lA s) s.heap H locs) (K : lw_K p l e s m below meth c Q b cI cZ D x0 m0 ls) : W p l e room_1 s m #[Value.ref b] below meth c H locs 71 2246 Q (F0 m 195 ls []) := by
  obtain ⟨F, hX, hbl, h1, h2, h3⟩ := B
  have hx := F.1
  have hb := F.2.1
  have hbA : ¬ lA s b := Nat.not_le.mpr hbl
  refine lv_aload_n hx hb dL_law_195 rfl (lv_at hl 1 rfl) ?_
  refine lw_stepC (t := []) (rest := []) (by decide) (Or.inr (ct_cland l S hA )) (fun _ h => h) F lnL_18 dL_law_196 (fun _ => rfl) rfl hW hS hl.1 (Nat.le_of_ble_eq_true rfl) (Nat.le_of_ble_eq_true rfl) (Nat.le_of_ble_eq_true rfl) (fun H locs hW hS => ?_)
  refine lv_aload_n hx hb dL_law_199 rfl (lv_at hl 2 rfl) ?_
  refine lw_stepM (t := []) (rest := [.int (st_land S).1]) (by decide) (ct_mland l S hA ) (fun _ h => h) F lnL_22 dL_law_200 (fun _ => rfl) rfl hW hS hl.1 (Nat.le_of_ble_eq_true rfl) (Nat.le_of_ble_eq_true rfl) (Nat.le_of_ble_eq_true rfl) (fun H locs hW hS => ?_)
  refine lv_icmp_eq (tgt := 1011) hx hb dL_law_203 (by decide) (fun _ => ?_) (fun h => absurd rfl h)
  exact K _ H locs (okA_land hA) hW hS
set_option maxHeartbeats 1000000 in
set_option maxRecDepth 100000 in
theorem lw_c2 (B : lw_B p s m c b cI cZ D L xs x3) (hl : lv_has ls 4 [(0, .ref b), (1, .ref x0), (2, .ref m0), (3, .int x3)]) (hA : okA S) (hW : lw_W cI cZ D (lA s) x0 m0 S S H) (hS : va_S (lA s) s.heap H locs) (K : lw_K p l e s m below meth c Q b cI cZ D x0 m0 ls) : W p l e room_1 s m #[Value.ref b] below meth c H locs 71 2246 Q (F0 m 208 ls []) := by
  obtain ⟨F, hX, hbl, h1, h2, h3⟩ := B
  have hx := F.1
  have hb := F.2.1
  have hbA : ¬ lA s b := Nat.not_le.mpr hbl
  refine lv_aload_n hx hb dL_law_208 rfl (lv_at hl 1 rfl) ?_
  refine lw_stepC (t := []) (rest := []) (by decide) (Or.inl (ct_cfault l S )) (fun _ h => h) F lnL_23 dL_law_209 (fun _ => rfl) rfl hW hS hl.1 (Nat.le_of_ble_eq_true rfl) (Nat.le_of_ble_eq_true rfl) (Nat.le_of_ble_eq_true rfl) (fun H locs hW hS => ?_)
  refine lv_aload_n hx hb dL_law_212 rfl (lv_at hl 2 rfl) ?_
  refine lw_stepM (t := []) (rest := [.int (st_fault S).1]) (by decide) (ct_mfault l S ) (fun _ h => h) F lnL_26 dL_law_213 (fun _ => rfl) rfl hW hS hl.1 (Nat.le_of_ble_eq_true rfl) (Nat.le_of_ble_eq_true rfl) (Nat.le_of_ble_eq_true rfl) (fun H locs hW hS => ?_)
  refine lv_icmp_eq (tgt := 1011) hx hb dL_law_216 (by decide) (fun _ => ?_) (fun h => absurd rfl h)
  exact K _ H locs hA hW hS
set_option maxHeartbeats 1000000 in
set_option maxRecDepth 100000 in
theorem lw_c3 (B : lw_B p s m c b cI cZ D L xs x3) (hl : lv_has ls 4 [(0, .ref b), (1, .ref x0), (2, .ref m0), (3, .int x3)]) (hA : okA S) (hW : lw_W cI cZ D (lA s) x0 m0 S S H) (hS : va_S (lA s) s.heap H locs) (K : lw_K p l e s m below meth c Q b cI cZ D x0 m0 ls) : W p l e room_1 s m #[Value.ref b] below meth c H locs 71 2246 Q (F0 m 221 ls []) := by
  obtain ⟨F, hX, hbl, h1, h2, h3⟩ := B
  have hx := F.1
  have hb := F.2.1
  have hbA : ¬ lA s b := Nat.not_le.mpr hbl
  refine lv_aload_n hx hb dL_law_221 rfl (lv_at hl 1 rfl) ?_
  refine lv_aload_n hx hb dL_law_222 rfl (lv_at hl 0 rfl) ?_
  refine lv_iload_n hx hb dL_law_223 rfl (lv_at hl 3 rfl) ?_
  refine lv_iconst (v := 1) hx hb dL_law_224 (by decide) ?_
  refine lv_iadd hx hb dL_law_225 ?_
  refine va_sld hx hb hX hbl hbA hS h1 dL_law_226 ?_
  refine lw_stepC (t := [.int (xs (x3 + 1).toNatClampNeg)]) (rest := []) (by decide) (Or.inl (ct_ctold l S hA (xs (x3 + 1).toNatClampNeg))) (fun _ h => h) F lnL_27 dL_law_227 (fun _ => rfl) rfl hW hS hl.1 (Nat.le_of_ble_eq_true rfl) (Nat.le_of_ble_eq_true rfl) (Nat.le_of_ble_eq_true rfl) (fun H locs hW hS => ?_)
  refine lv_aload_n hx hb dL_law_230 rfl (lv_at hl 2 rfl) ?_
  refine lv_aload_n hx hb dL_law_231 rfl (lv_at hl 0 rfl) ?_
  refine lv_iload_n hx hb dL_law_232 rfl (lv_at hl 3 rfl) ?_
  refine lv_iconst (v := 1) hx hb dL_law_233 (by decide) ?_
  refine lv_iadd hx hb dL_law_234 ?_
  refine va_sld hx hb hX hbl hbA hS h1 dL_law_235 ?_
  refine lw_stepM (t := [.int (xs (x3 + 1).toNatClampNeg)]) (rest := [.int (st_told S (xs (x3 + 1).toNatClampNeg)).1]) (by decide) (ct_mtold l S hA (xs (x3 + 1).toNatClampNeg)) (fun _ h => h) F lnL_30 dL_law_236 (fun _ => rfl) rfl hW hS hl.1 (Nat.le_of_ble_eq_true rfl) (Nat.le_of_ble_eq_true rfl) (Nat.le_of_ble_eq_true rfl) (fun H locs hW hS => ?_)
  refine lv_icmp_eq (tgt := 1011) hx hb dL_law_239 (by decide) (fun _ => ?_) (fun h => absurd rfl h)
  exact K _ H locs (by rw [st_told_2]; exact hA) hW hS
set_option maxHeartbeats 1000000 in
set_option maxRecDepth 100000 in
theorem lw_c4 (B : lw_B p s m c b cI cZ D L xs x3) (hl : lv_has ls 4 [(0, .ref b), (1, .ref x0), (2, .ref m0), (3, .int x3)]) (hA : okA S) (hW : lw_W cI cZ D (lA s) x0 m0 S S H) (hS : va_S (lA s) s.heap H locs) (K : lw_K p l e s m below meth c Q b cI cZ D x0 m0 ls) : W p l e room_1 s m #[Value.ref b] below meth c H locs 71 2246 Q (F0 m 244 ls []) := by
  obtain ⟨F, hX, hbl, h1, h2, h3⟩ := B
  have hx := F.1
  have hb := F.2.1
  have hbA : ¬ lA s b := Nat.not_le.mpr hbl
  refine lv_aload_n hx hb dL_law_244 rfl (lv_at hl 1 rfl) ?_
  refine lv_aload_n hx hb dL_law_245 rfl (lv_at hl 0 rfl) ?_
  refine lv_iload_n hx hb dL_law_246 rfl (lv_at hl 3 rfl) ?_
  refine lv_iconst (v := 1) hx hb dL_law_247 (by decide) ?_
  refine lv_iadd hx hb dL_law_248 ?_
  refine va_sld hx hb hX hbl hbA hS h1 dL_law_249 ?_
  refine lv_aload_n hx hb dL_law_250 rfl (lv_at hl 0 rfl) ?_
  refine lv_iload_n hx hb dL_law_251 rfl (lv_at hl 3 rfl) ?_
  refine lv_iconst (v := 2) hx hb dL_law_252 (by decide) ?_
  refine lv_iadd hx hb dL_law_253 ?_
  refine va_sld hx hb hX hbl hbA hS h2 dL_law_254 ?_
  refine lw_stepC (t := [.int (xs (x3 + 1).toNatClampNeg), .int (xs (x3 + 2).toNatClampNeg)]) (rest := []) (by decide) (Or.inl (ct_cbarn l S hA (xs (x3 + 1).toNatClampNeg) (xs (x3 + 2).toNatClampNeg))) (fun _ h => h) F lnL_31 dL_law_255 (fun _ => rfl) rfl hW hS hl.1 (Nat.le_of_ble_eq_true rfl) (Nat.le_of_ble_eq_true rfl) (Nat.le_of_ble_eq_true rfl) (fun H locs hW hS => ?_)
  refine lv_aload_n hx hb dL_law_258 rfl (lv_at hl 2 rfl) ?_
  refine lv_aload_n hx hb dL_law_259 rfl (lv_at hl 0 rfl) ?_
  refine lv_iload_n hx hb dL_law_260 rfl (lv_at hl 3 rfl) ?_
  refine lv_iconst (v := 1) hx hb dL_law_261 (by decide) ?_
  refine lv_iadd hx hb dL_law_262 ?_
  refine va_sld hx hb hX hbl hbA hS h1 dL_law_263 ?_
  refine lv_aload_n hx hb dL_law_264 rfl (lv_at hl 0 rfl) ?_
  refine lv_iload_n hx hb dL_law_265 rfl (lv_at hl 3 rfl) ?_
  refine lv_iconst (v := 2) hx hb dL_law_266 (by decide) ?_
  refine lv_iadd hx hb dL_law_267 ?_
  refine va_sld hx hb hX hbl hbA hS h2 dL_law_268 ?_
  refine lw_stepM (t := [.int (xs (x3 + 1).toNatClampNeg), .int (xs (x3 + 2).toNatClampNeg)]) (rest := [.int (st_barn S (xs (x3 + 1).toNatClampNeg) (xs (x3 + 2).toNatClampNeg)).1]) (by decide) (ct_mbarn l S hA (xs (x3 + 1).toNatClampNeg) (xs (x3 + 2).toNatClampNeg)) (fun _ h => h) F lnL_35 dL_law_269 (fun _ => rfl) rfl hW hS hl.1 (Nat.le_of_ble_eq_true rfl) (Nat.le_of_ble_eq_true rfl) (Nat.le_of_ble_eq_true rfl) (fun H locs hW hS => ?_)
  refine lv_icmp_eq (tgt := 1011) hx hb dL_law_272 (by decide) (fun _ => ?_) (fun h => absurd rfl h)
  exact K _ H locs (by rw [st_barn_2]; exact hA) hW hS
set_option maxHeartbeats 1000000 in
set_option maxRecDepth 100000 in
theorem lw_c5 (B : lw_B p s m c b cI cZ D L xs x3) (hl : lv_has ls 4 [(0, .ref b), (1, .ref x0), (2, .ref m0), (3, .int x3)]) (hA : okA S) (hW : lw_W cI cZ D (lA s) x0 m0 S S H) (hS : va_S (lA s) s.heap H locs) (K : lw_K p l e s m below meth c Q b cI cZ D x0 m0 ls) : W p l e room_1 s m #[Value.ref b] below meth c H locs 71 2246 Q (F0 m 277 ls []) := by
  obtain ⟨F, hX, hbl, h1, h2, h3⟩ := B
  have hx := F.1
  have hb := F.2.1
  have hbA : ¬ lA s b := Nat.not_le.mpr hbl
  refine lv_aload_n hx hb dL_law_277 rfl (lv_at hl 1 rfl) ?_
  refine lv_aload_n hx hb dL_law_278 rfl (lv_at hl 0 rfl) ?_
  refine lv_iload_n hx hb dL_law_279 rfl (lv_at hl 3 rfl) ?_
  refine lv_iconst (v := 1) hx hb dL_law_280 (by decide) ?_
  refine lv_iadd hx hb dL_law_281 ?_
  refine va_sld hx hb hX hbl hbA hS h1 dL_law_282 ?_
  refine lw_stepC (t := [.int (xs (x3 + 1).toNatClampNeg)]) (rest := []) (by decide) (Or.inl (ct_cyear l S hA (xs (x3 + 1).toNatClampNeg))) (fun _ h => h) F lnL_36 dL_law_283 (fun _ => rfl) rfl hW hS hl.1 (Nat.le_of_ble_eq_true rfl) (Nat.le_of_ble_eq_true rfl) (Nat.le_of_ble_eq_true rfl) (fun H locs hW hS => ?_)
  refine lv_aload_n hx hb dL_law_286 rfl (lv_at hl 2 rfl) ?_
  refine lv_aload_n hx hb dL_law_287 rfl (lv_at hl 0 rfl) ?_
  refine lv_iload_n hx hb dL_law_288 rfl (lv_at hl 3 rfl) ?_
  refine lv_iconst (v := 1) hx hb dL_law_289 (by decide) ?_
  refine lv_iadd hx hb dL_law_290 ?_
  refine va_sld hx hb hX hbl hbA hS h1 dL_law_291 ?_
  refine lw_stepM (t := [.int (xs (x3 + 1).toNatClampNeg)]) (rest := [.int (st_year S (xs (x3 + 1).toNatClampNeg)).1]) (by decide) (ct_myear l S hA (xs (x3 + 1).toNatClampNeg)) (fun _ h => h) F lnL_39 dL_law_292 (fun _ => rfl) rfl hW hS hl.1 (Nat.le_of_ble_eq_true rfl) (Nat.le_of_ble_eq_true rfl) (Nat.le_of_ble_eq_true rfl) (fun H locs hW hS => ?_)
  refine lv_icmp_eq (tgt := 1011) hx hb dL_law_295 (by decide) (fun _ => ?_) (fun h => absurd rfl h)
  exact K _ H locs (okA_year hA) hW hS
set_option maxHeartbeats 1000000 in
set_option maxRecDepth 100000 in
theorem lw_c6 (B : lw_B p s m c b cI cZ D L xs x3) (hl : lv_has ls 4 [(0, .ref b), (1, .ref x0), (2, .ref m0), (3, .int x3)]) (hA : okA S) (hW : lw_W cI cZ D (lA s) x0 m0 S S H) (hS : va_S (lA s) s.heap H locs) (K : lw_K p l e s m below meth c Q b cI cZ D x0 m0 ls) : W p l e room_1 s m #[Value.ref b] below meth c H locs 71 2246 Q (F0 m 300 ls []) := by
  obtain ⟨F, hX, hbl, h1, h2, h3⟩ := B
  have hx := F.1
  have hb := F.2.1
  have hbA : ¬ lA s b := Nat.not_le.mpr hbl
  by_cases h0 : xs (x3 + 2).toNatClampNeg = 0
  · refine lv_aload_n hx hb dL_law_300 rfl (lv_at hl 1 rfl) ?_
    refine lv_aload_n hx hb dL_law_301 rfl (lv_at hl 0 rfl) ?_
    refine lv_iload_n hx hb dL_law_302 rfl (lv_at hl 3 rfl) ?_
    refine lv_iconst (v := 1) hx hb dL_law_303 (by decide) ?_
    refine lv_iadd hx hb dL_law_304 ?_
    refine va_sld hx hb hX hbl hbA hS h1 dL_law_305 ?_
    refine lv_aload_n hx hb dL_law_306 rfl (lv_at hl 0 rfl) ?_
    refine lv_iload_n hx hb dL_law_307 rfl (lv_at hl 3 rfl) ?_
    refine lv_iconst (v := 2) hx hb dL_law_308 (by decide) ?_
    refine lv_iadd hx hb dL_law_309 ?_
    refine va_sld hx hb hX hbl hbA hS h2 dL_law_310 ?_
    refine lv_if_eq (tgt := 318) hx hb dL_law_311 (by decide) (fun _ => ?_) (fun h => absurd h0 h)
    refine lv_iconst (v := 0) hx hb dL_law_318 (by decide) ?_
    refine lw_stepC (t := [.int (xs (x3 + 1).toNatClampNeg), .int (sw_b2 false)]) (rest := []) (by decide) (Or.inl (ct_copen l S hA (xs (x3 + 1).toNatClampNeg) false)) (fun _ h => h) F lnL_40 dL_law_319 (fun _ => rfl) rfl hW hS hl.1 (Nat.le_of_ble_eq_true rfl) (Nat.le_of_ble_eq_true rfl) (Nat.le_of_ble_eq_true rfl) (fun H locs hW hS => ?_)
    refine lv_aload_n hx hb dL_law_322 rfl (lv_at hl 2 rfl) ?_
    refine lv_aload_n hx hb dL_law_323 rfl (lv_at hl 0 rfl) ?_
    refine lv_iload_n hx hb dL_law_324 rfl (lv_at hl 3 rfl) ?_
    refine lv_iconst (v := 1) hx hb dL_law_325 (by decide) ?_
    refine lv_iadd hx hb dL_law_326 ?_
    refine va_sld hx hb hX hbl hbA hS h1 dL_law_327 ?_
    refine lv_aload_n hx hb dL_law_328 rfl (lv_at hl 0 rfl) ?_
    refine lv_iload_n hx hb dL_law_329 rfl (lv_at hl 3 rfl) ?_
    refine lv_iconst (v := 2) hx hb dL_law_330 (by decide) ?_
    refine lv_iadd hx hb dL_law_331 ?_
    refine va_sld hx hb hX hbl hbA hS h2 dL_law_332 ?_
    refine lv_if_eq (tgt := 340) hx hb dL_law_333 (by decide) (fun _ => ?_) (fun h => absurd h0 h)
    refine lv_iconst (v := 0) hx hb dL_law_340 (by decide) ?_
    refine lw_stepM (t := [.int (xs (x3 + 1).toNatClampNeg), .int (sw_b2 false)]) (rest := [.int (st_open S (xs (x3 + 1).toNatClampNeg) false).1]) (by decide) (ct_mopen l S hA (xs (x3 + 1).toNatClampNeg) false) (fun _ h => h) F lnL_44 dL_law_341 (fun _ => rfl) rfl hW hS hl.1 (Nat.le_of_ble_eq_true rfl) (Nat.le_of_ble_eq_true rfl) (Nat.le_of_ble_eq_true rfl) (fun H locs hW hS => ?_)
    refine lv_icmp_eq (tgt := 1011) hx hb dL_law_344 (by decide) (fun _ => ?_) (fun h => absurd rfl h)
    exact K _ H locs (okA_open hA) hW hS
  · refine lv_aload_n hx hb dL_law_300 rfl (lv_at hl 1 rfl) ?_
    refine lv_aload_n hx hb dL_law_301 rfl (lv_at hl 0 rfl) ?_
    refine lv_iload_n hx hb dL_law_302 rfl (lv_at hl 3 rfl) ?_
    refine lv_iconst (v := 1) hx hb dL_law_303 (by decide) ?_
    refine lv_iadd hx hb dL_law_304 ?_
    refine va_sld hx hb hX hbl hbA hS h1 dL_law_305 ?_
    refine lv_aload_n hx hb dL_law_306 rfl (lv_at hl 0 rfl) ?_
    refine lv_iload_n hx hb dL_law_307 rfl (lv_at hl 3 rfl) ?_
    refine lv_iconst (v := 2) hx hb dL_law_308 (by decide) ?_
    refine lv_iadd hx hb dL_law_309 ?_
    refine va_sld hx hb hX hbl hbA hS h2 dL_law_310 ?_
    refine lv_if_eq (tgt := 318) hx hb dL_law_311 (by decide) (fun h => absurd h h0) (fun _ => ?_)
    refine lv_iconst (v := 1) hx hb dL_law_314 (by decide) ?_
    refine lv_goto (tgt := 319) hx hb dL_law_315 (by decide) ?_
    refine lw_stepC (t := [.int (xs (x3 + 1).toNatClampNeg), .int (sw_b2 true)]) (rest := []) (by decide) (Or.inl (ct_copen l S hA (xs (x3 + 1).toNatClampNeg) true)) (fun _ h => h) F lnL_40 dL_law_319 (fun _ => rfl) rfl hW hS hl.1 (Nat.le_of_ble_eq_true rfl) (Nat.le_of_ble_eq_true rfl) (Nat.le_of_ble_eq_true rfl) (fun H locs hW hS => ?_)
    refine lv_aload_n hx hb dL_law_322 rfl (lv_at hl 2 rfl) ?_
    refine lv_aload_n hx hb dL_law_323 rfl (lv_at hl 0 rfl) ?_
    refine lv_iload_n hx hb dL_law_324 rfl (lv_at hl 3 rfl) ?_
    refine lv_iconst (v := 1) hx hb dL_law_325 (by decide) ?_
    refine lv_iadd hx hb dL_law_326 ?_
    refine va_sld hx hb hX hbl hbA hS h1 dL_law_327 ?_
    refine lv_aload_n hx hb dL_law_328 rfl (lv_at hl 0 rfl) ?_
    refine lv_iload_n hx hb dL_law_329 rfl (lv_at hl 3 rfl) ?_
    refine lv_iconst (v := 2) hx hb dL_law_330 (by decide) ?_
    refine lv_iadd hx hb dL_law_331 ?_
    refine va_sld hx hb hX hbl hbA hS h2 dL_law_332 ?_
    refine lv_if_eq (tgt := 340) hx hb dL_law_333 (by decide) (fun h => absurd h h0) (fun _ => ?_)
    refine lv_iconst (v := 1) hx hb dL_law_336 (by decide) ?_
    refine lv_goto (tgt := 341) hx hb dL_law_337 (by decide) ?_
    refine lw_stepM (t := [.int (xs (x3 + 1).toNatClampNeg), .int (sw_b2 true)]) (rest := [.int (st_open S (xs (x3 + 1).toNatClampNeg) true).1]) (by decide) (ct_mopen l S hA (xs (x3 + 1).toNatClampNeg) true) (fun _ h => h) F lnL_44 dL_law_341 (fun _ => rfl) rfl hW hS hl.1 (Nat.le_of_ble_eq_true rfl) (Nat.le_of_ble_eq_true rfl) (Nat.le_of_ble_eq_true rfl) (fun H locs hW hS => ?_)
    refine lv_icmp_eq (tgt := 1011) hx hb dL_law_344 (by decide) (fun _ => ?_) (fun h => absurd rfl h)
    exact K _ H locs (okA_open hA) hW hS
set_option maxHeartbeats 1000000 in
set_option maxRecDepth 100000 in
theorem lw_c7 (B : lw_B p s m c b cI cZ D L xs x3) (hl : lv_has ls 4 [(0, .ref b), (1, .ref x0), (2, .ref m0), (3, .int x3)]) (hA : okA S) (hW : lw_W cI cZ D (lA s) x0 m0 S S H) (hS : va_S (lA s) s.heap H locs) (K : lw_K p l e s m below meth c Q b cI cZ D x0 m0 ls) : W p l e room_1 s m #[Value.ref b] below meth c H locs 71 2246 Q (F0 m 349 ls []) := by
  obtain ⟨F, hX, hbl, h1, h2, h3⟩ := B
  have hx := F.1
  have hb := F.2.1
  have hbA : ¬ lA s b := Nat.not_le.mpr hbl
  refine lv_aload_n hx hb dL_law_349 rfl (lv_at hl 1 rfl) ?_
  refine lv_aload_n hx hb dL_law_350 rfl (lv_at hl 0 rfl) ?_
  refine lv_iload_n hx hb dL_law_351 rfl (lv_at hl 3 rfl) ?_
  refine lv_iconst (v := 1) hx hb dL_law_352 (by decide) ?_
  refine lv_iadd hx hb dL_law_353 ?_
  refine va_sld hx hb hX hbl hbA hS h1 dL_law_354 ?_
  refine lv_aload_n hx hb dL_law_355 rfl (lv_at hl 0 rfl) ?_
  refine lv_iload_n hx hb dL_law_356 rfl (lv_at hl 3 rfl) ?_
  refine lv_iconst (v := 2) hx hb dL_law_357 (by decide) ?_
  refine lv_iadd hx hb dL_law_358 ?_
  refine va_sld hx hb hX hbl hbA hS h2 dL_law_359 ?_
  refine lv_aload_n hx hb dL_law_360 rfl (lv_at hl 0 rfl) ?_
  refine lv_iload_n hx hb dL_law_361 rfl (lv_at hl 3 rfl) ?_
  refine lv_iconst (v := 3) hx hb dL_law_362 (by decide) ?_
  refine lv_iadd hx hb dL_law_363 ?_
  refine va_sld hx hb hX hbl hbA hS h3 dL_law_364 ?_
  refine lw_stepC (t := [.int (xs (x3 + 1).toNatClampNeg), .int (xs (x3 + 2).toNatClampNeg), .int (xs (x3 + 3).toNatClampNeg)]) (rest := []) (by decide) (Or.inl (ct_cmove l S hA (xs (x3 + 1).toNatClampNeg) (xs (x3 + 2).toNatClampNeg) (xs (x3 + 3).toNatClampNeg))) (fun _ h => h) F lnL_45 dL_law_365 (fun _ => rfl) rfl hW hS hl.1 (Nat.le_of_ble_eq_true rfl) (Nat.le_of_ble_eq_true rfl) (Nat.le_of_ble_eq_true rfl) (fun H locs hW hS => ?_)
  refine lv_aload_n hx hb dL_law_368 rfl (lv_at hl 2 rfl) ?_
  refine lv_aload_n hx hb dL_law_369 rfl (lv_at hl 0 rfl) ?_
  refine lv_iload_n hx hb dL_law_370 rfl (lv_at hl 3 rfl) ?_
  refine lv_iconst (v := 1) hx hb dL_law_371 (by decide) ?_
  refine lv_iadd hx hb dL_law_372 ?_
  refine va_sld hx hb hX hbl hbA hS h1 dL_law_373 ?_
  refine lv_aload_n hx hb dL_law_374 rfl (lv_at hl 0 rfl) ?_
  refine lv_iload_n hx hb dL_law_375 rfl (lv_at hl 3 rfl) ?_
  refine lv_iconst (v := 2) hx hb dL_law_376 (by decide) ?_
  refine lv_iadd hx hb dL_law_377 ?_
  refine va_sld hx hb hX hbl hbA hS h2 dL_law_378 ?_
  refine lv_aload_n hx hb dL_law_379 rfl (lv_at hl 0 rfl) ?_
  refine lv_iload_n hx hb dL_law_380 rfl (lv_at hl 3 rfl) ?_
  refine lv_iconst (v := 3) hx hb dL_law_381 (by decide) ?_
  refine lv_iadd hx hb dL_law_382 ?_
  refine va_sld hx hb hX hbl hbA hS h3 dL_law_383 ?_
  refine lw_stepM (t := [.int (xs (x3 + 1).toNatClampNeg), .int (xs (x3 + 2).toNatClampNeg), .int (xs (x3 + 3).toNatClampNeg)]) (rest := [.int (st_move S (xs (x3 + 1).toNatClampNeg) (xs (x3 + 2).toNatClampNeg) (xs (x3 + 3).toNatClampNeg)).1]) (by decide) (ct_mmove l S hA (xs (x3 + 1).toNatClampNeg) (xs (x3 + 2).toNatClampNeg) (xs (x3 + 3).toNatClampNeg)) (fun _ h => h) F lnL_49 dL_law_384 (fun _ => rfl) rfl hW hS hl.1 (Nat.le_of_ble_eq_true rfl) (Nat.le_of_ble_eq_true rfl) (Nat.le_of_ble_eq_true rfl) (fun H locs hW hS => ?_)
  refine lv_icmp_eq (tgt := 1011) hx hb dL_law_387 (by decide) (fun _ => ?_) (fun h => absurd rfl h)
  exact K _ H locs (okA_move hA) hW hS
set_option maxHeartbeats 1000000 in
set_option maxRecDepth 100000 in
theorem lw_c8 (B : lw_B p s m c b cI cZ D L xs x3) (hl : lv_has ls 4 [(0, .ref b), (1, .ref x0), (2, .ref m0), (3, .int x3)]) (hA : okA S) (hW : lw_W cI cZ D (lA s) x0 m0 S S H) (hS : va_S (lA s) s.heap H locs) (K : lw_K p l e s m below meth c Q b cI cZ D x0 m0 ls) : W p l e room_1 s m #[Value.ref b] below meth c H locs 71 2246 Q (F0 m 392 ls []) := by
  obtain ⟨F, hX, hbl, h1, h2, h3⟩ := B
  have hx := F.1
  have hb := F.2.1
  have hbA : ¬ lA s b := Nat.not_le.mpr hbl
  refine lv_aload_n hx hb dL_law_392 rfl (lv_at hl 1 rfl) ?_
  refine lv_aload_n hx hb dL_law_393 rfl (lv_at hl 0 rfl) ?_
  refine lv_iload_n hx hb dL_law_394 rfl (lv_at hl 3 rfl) ?_
  refine lv_iconst (v := 1) hx hb dL_law_395 (by decide) ?_
  refine lv_iadd hx hb dL_law_396 ?_
  refine va_sld hx hb hX hbl hbA hS h1 dL_law_397 ?_
  refine lv_aload_n hx hb dL_law_398 rfl (lv_at hl 0 rfl) ?_
  refine lv_iload_n hx hb dL_law_399 rfl (lv_at hl 3 rfl) ?_
  refine lv_iconst (v := 2) hx hb dL_law_400 (by decide) ?_
  refine lv_iadd hx hb dL_law_401 ?_
  refine va_sld hx hb hX hbl hbA hS h2 dL_law_402 ?_
  refine lw_stepC (t := [.int (xs (x3 + 1).toNatClampNeg), .int (xs (x3 + 2).toNatClampNeg)]) (rest := []) (by decide) (Or.inl (ct_cmud l S hA (xs (x3 + 1).toNatClampNeg) (xs (x3 + 2).toNatClampNeg))) (fun _ h => h) F lnL_50 dL_law_403 (fun _ => rfl) rfl hW hS hl.1 (Nat.le_of_ble_eq_true rfl) (Nat.le_of_ble_eq_true rfl) (Nat.le_of_ble_eq_true rfl) (fun H locs hW hS => ?_)
  refine lv_aload_n hx hb dL_law_406 rfl (lv_at hl 2 rfl) ?_
  refine lv_aload_n hx hb dL_law_407 rfl (lv_at hl 0 rfl) ?_
  refine lv_iload_n hx hb dL_law_408 rfl (lv_at hl 3 rfl) ?_
  refine lv_iconst (v := 1) hx hb dL_law_409 (by decide) ?_
  refine lv_iadd hx hb dL_law_410 ?_
  refine va_sld hx hb hX hbl hbA hS h1 dL_law_411 ?_
  refine lv_aload_n hx hb dL_law_412 rfl (lv_at hl 0 rfl) ?_
  refine lv_iload_n hx hb dL_law_413 rfl (lv_at hl 3 rfl) ?_
  refine lv_iconst (v := 2) hx hb dL_law_414 (by decide) ?_
  refine lv_iadd hx hb dL_law_415 ?_
  refine va_sld hx hb hX hbl hbA hS h2 dL_law_416 ?_
  refine lw_stepM (t := [.int (xs (x3 + 1).toNatClampNeg), .int (xs (x3 + 2).toNatClampNeg)]) (rest := [.int (st_mud S (xs (x3 + 1).toNatClampNeg) (xs (x3 + 2).toNatClampNeg)).1]) (by decide) (ct_mmud l S hA (xs (x3 + 1).toNatClampNeg) (xs (x3 + 2).toNatClampNeg)) (fun _ h => h) F lnL_53 dL_law_417 (fun _ => rfl) rfl hW hS hl.1 (Nat.le_of_ble_eq_true rfl) (Nat.le_of_ble_eq_true rfl) (Nat.le_of_ble_eq_true rfl) (fun H locs hW hS => ?_)
  refine lv_icmp_eq (tgt := 1011) hx hb dL_law_420 (by decide) (fun _ => ?_) (fun h => absurd rfl h)
  exact K _ H locs (okA_mud hA) hW hS
set_option maxHeartbeats 1000000 in
set_option maxRecDepth 100000 in
theorem lw_c9 (B : lw_B p s m c b cI cZ D L xs x3) (hl : lv_has ls 4 [(0, .ref b), (1, .ref x0), (2, .ref m0), (3, .int x3)]) (hA : okA S) (hW : lw_W cI cZ D (lA s) x0 m0 S S H) (hS : va_S (lA s) s.heap H locs) (K : lw_K p l e s m below meth c Q b cI cZ D x0 m0 ls) : W p l e room_1 s m #[Value.ref b] below meth c H locs 71 2246 Q (F0 m 425 ls []) := by
  obtain ⟨F, hX, hbl, h1, h2, h3⟩ := B
  have hx := F.1
  have hb := F.2.1
  have hbA : ¬ lA s b := Nat.not_le.mpr hbl
  refine lv_aload_n hx hb dL_law_425 rfl (lv_at hl 1 rfl) ?_
  refine lv_aload_n hx hb dL_law_426 rfl (lv_at hl 0 rfl) ?_
  refine lv_iload_n hx hb dL_law_427 rfl (lv_at hl 3 rfl) ?_
  refine lv_iconst (v := 1) hx hb dL_law_428 (by decide) ?_
  refine lv_iadd hx hb dL_law_429 ?_
  refine va_sld hx hb hX hbl hbA hS h1 dL_law_430 ?_
  refine lv_aload_n hx hb dL_law_431 rfl (lv_at hl 0 rfl) ?_
  refine lv_iload_n hx hb dL_law_432 rfl (lv_at hl 3 rfl) ?_
  refine lv_iconst (v := 2) hx hb dL_law_433 (by decide) ?_
  refine lv_iadd hx hb dL_law_434 ?_
  refine va_sld hx hb hX hbl hbA hS h2 dL_law_435 ?_
  refine lw_stepC (t := [.int (xs (x3 + 1).toNatClampNeg), .int (xs (x3 + 2).toNatClampNeg)]) (rest := []) (by decide) (Or.inl (ct_cring l S hA (xs (x3 + 1).toNatClampNeg) (xs (x3 + 2).toNatClampNeg))) (fun _ h => h) F lnL_54 dL_law_436 (fun _ => rfl) rfl hW hS hl.1 (Nat.le_of_ble_eq_true rfl) (Nat.le_of_ble_eq_true rfl) (Nat.le_of_ble_eq_true rfl) (fun H locs hW hS => ?_)
  refine lv_aload_n hx hb dL_law_439 rfl (lv_at hl 2 rfl) ?_
  refine lv_aload_n hx hb dL_law_440 rfl (lv_at hl 0 rfl) ?_
  refine lv_iload_n hx hb dL_law_441 rfl (lv_at hl 3 rfl) ?_
  refine lv_iconst (v := 1) hx hb dL_law_442 (by decide) ?_
  refine lv_iadd hx hb dL_law_443 ?_
  refine va_sld hx hb hX hbl hbA hS h1 dL_law_444 ?_
  refine lv_aload_n hx hb dL_law_445 rfl (lv_at hl 0 rfl) ?_
  refine lv_iload_n hx hb dL_law_446 rfl (lv_at hl 3 rfl) ?_
  refine lv_iconst (v := 2) hx hb dL_law_447 (by decide) ?_
  refine lv_iadd hx hb dL_law_448 ?_
  refine va_sld hx hb hX hbl hbA hS h2 dL_law_449 ?_
  refine lw_stepM (t := [.int (xs (x3 + 1).toNatClampNeg), .int (xs (x3 + 2).toNatClampNeg)]) (rest := [.int (st_ring S (xs (x3 + 1).toNatClampNeg) (xs (x3 + 2).toNatClampNeg)).1]) (by decide) (ct_mring l S hA (xs (x3 + 1).toNatClampNeg) (xs (x3 + 2).toNatClampNeg)) (fun _ h => h) F lnL_57 dL_law_450 (fun _ => rfl) rfl hW hS hl.1 (Nat.le_of_ble_eq_true rfl) (Nat.le_of_ble_eq_true rfl) (Nat.le_of_ble_eq_true rfl) (fun H locs hW hS => ?_)
  refine lv_icmp_eq (tgt := 1011) hx hb dL_law_453 (by decide) (fun _ => ?_) (fun h => absurd rfl h)
  exact K _ H locs (okA_ring hA) hW hS
set_option maxHeartbeats 1000000 in
set_option maxRecDepth 100000 in
theorem lw_c10 (B : lw_B p s m c b cI cZ D L xs x3) (hl : lv_has ls 4 [(0, .ref b), (1, .ref x0), (2, .ref m0), (3, .int x3)]) (hA : okA S) (hW : lw_W cI cZ D (lA s) x0 m0 S S H) (hS : va_S (lA s) s.heap H locs) (K : lw_K p l e s m below meth c Q b cI cZ D x0 m0 ls) : W p l e room_1 s m #[Value.ref b] below meth c H locs 71 2246 Q (F0 m 458 ls []) := by
  obtain ⟨F, hX, hbl, h1, h2, h3⟩ := B
  have hx := F.1
  have hb := F.2.1
  have hbA : ¬ lA s b := Nat.not_le.mpr hbl
  refine lv_aload_n hx hb dL_law_458 rfl (lv_at hl 1 rfl) ?_
  refine lv_aload_n hx hb dL_law_459 rfl (lv_at hl 0 rfl) ?_
  refine lv_iload_n hx hb dL_law_460 rfl (lv_at hl 3 rfl) ?_
  refine lv_iconst (v := 1) hx hb dL_law_461 (by decide) ?_
  refine lv_iadd hx hb dL_law_462 ?_
  refine va_sld hx hb hX hbl hbA hS h1 dL_law_463 ?_
  refine lw_stepC (t := [.int (xs (x3 + 1).toNatClampNeg)]) (rest := []) (by decide) (Or.inl (ct_cdrift l S hA (xs (x3 + 1).toNatClampNeg))) (fun _ h => h) F lnL_58 dL_law_464 (fun _ => rfl) rfl hW hS hl.1 (Nat.le_of_ble_eq_true rfl) (Nat.le_of_ble_eq_true rfl) (Nat.le_of_ble_eq_true rfl) (fun H locs hW hS => ?_)
  refine lv_aload_n hx hb dL_law_467 rfl (lv_at hl 2 rfl) ?_
  refine lv_aload_n hx hb dL_law_468 rfl (lv_at hl 0 rfl) ?_
  refine lv_iload_n hx hb dL_law_469 rfl (lv_at hl 3 rfl) ?_
  refine lv_iconst (v := 1) hx hb dL_law_470 (by decide) ?_
  refine lv_iadd hx hb dL_law_471 ?_
  refine va_sld hx hb hX hbl hbA hS h1 dL_law_472 ?_
  refine lw_stepM (t := [.int (xs (x3 + 1).toNatClampNeg)]) (rest := [.int (st_drift S (xs (x3 + 1).toNatClampNeg)).1]) (by decide) (ct_mdrift l S hA (xs (x3 + 1).toNatClampNeg)) (fun _ h => h) F lnL_61 dL_law_473 (fun _ => rfl) rfl hW hS hl.1 (Nat.le_of_ble_eq_true rfl) (Nat.le_of_ble_eq_true rfl) (Nat.le_of_ble_eq_true rfl) (fun H locs hW hS => ?_)
  refine lv_icmp_eq (tgt := 1011) hx hb dL_law_476 (by decide) (fun _ => ?_) (fun h => absurd rfl h)
  exact K _ H locs (okA_drift hA) hW hS
set_option maxHeartbeats 1000000 in
set_option maxRecDepth 100000 in
theorem lw_c11 (B : lw_B p s m c b cI cZ D L xs x3) (hl : lv_has ls 4 [(0, .ref b), (1, .ref x0), (2, .ref m0), (3, .int x3)]) (hA : okA S) (hW : lw_W cI cZ D (lA s) x0 m0 S S H) (hS : va_S (lA s) s.heap H locs) (K : lw_K p l e s m below meth c Q b cI cZ D x0 m0 ls) : W p l e room_1 s m #[Value.ref b] below meth c H locs 71 2246 Q (F0 m 481 ls []) := by
  obtain ⟨F, hX, hbl, h1, h2, h3⟩ := B
  have hx := F.1
  have hb := F.2.1
  have hbA : ¬ lA s b := Nat.not_le.mpr hbl
  refine lv_aload_n hx hb dL_law_481 rfl (lv_at hl 1 rfl) ?_
  refine lw_stepC (t := []) (rest := []) (by decide) (Or.inl (ct_cundo l S hA )) (fun _ h => h) F lnL_62 dL_law_482 (fun _ => rfl) rfl hW hS hl.1 (Nat.le_of_ble_eq_true rfl) (Nat.le_of_ble_eq_true rfl) (Nat.le_of_ble_eq_true rfl) (fun H locs hW hS => ?_)
  refine lv_aload_n hx hb dL_law_485 rfl (lv_at hl 2 rfl) ?_
  refine lw_stepM (t := []) (rest := [.int (st_undo S).1]) (by decide) (ct_mundo l S hA ) (fun _ h => h) F lnL_65 dL_law_486 (fun _ => rfl) rfl hW hS hl.1 (Nat.le_of_ble_eq_true rfl) (Nat.le_of_ble_eq_true rfl) (Nat.le_of_ble_eq_true rfl) (fun H locs hW hS => ?_)
  refine lv_icmp_eq (tgt := 1011) hx hb dL_law_489 (by decide) (fun _ => ?_) (fun h => absurd rfl h)
  exact K _ H locs (okA_undo hA) hW hS
set_option maxHeartbeats 1000000 in
set_option maxRecDepth 100000 in
theorem lw_c12 (B : lw_B p s m c b cI cZ D L xs x3) (hl : lv_has ls 4 [(0, .ref b), (1, .ref x0), (2, .ref m0), (3, .int x3)]) (hA : okA S) (hW : lw_W cI cZ D (lA s) x0 m0 S S H) (hS : va_S (lA s) s.heap H locs) (K : lw_K p l e s m below meth c Q b cI cZ D x0 m0 ls) : W p l e room_1 s m #[Value.ref b] below meth c H locs 71 2246 Q (F0 m 494 ls []) := by
  obtain ⟨F, hX, hbl, h1, h2, h3⟩ := B
  have hx := F.1
  have hb := F.2.1
  have hbA : ¬ lA s b := Nat.not_le.mpr hbl
  refine lv_aload_n hx hb dL_law_494 rfl (lv_at hl 1 rfl) ?_
  refine lv_aload_n hx hb dL_law_495 rfl (lv_at hl 0 rfl) ?_
  refine lv_iload_n hx hb dL_law_496 rfl (lv_at hl 3 rfl) ?_
  refine lv_iconst (v := 1) hx hb dL_law_497 (by decide) ?_
  refine lv_iadd hx hb dL_law_498 ?_
  refine va_sld hx hb hX hbl hbA hS h1 dL_law_499 ?_
  refine lv_aload_n hx hb dL_law_500 rfl (lv_at hl 0 rfl) ?_
  refine lv_iload_n hx hb dL_law_501 rfl (lv_at hl 3 rfl) ?_
  refine lv_iconst (v := 2) hx hb dL_law_502 (by decide) ?_
  refine lv_iadd hx hb dL_law_503 ?_
  refine va_sld hx hb hX hbl hbA hS h2 dL_law_504 ?_
  refine lv_aload_n hx hb dL_law_505 rfl (lv_at hl 0 rfl) ?_
  refine lv_iload_n hx hb dL_law_506 rfl (lv_at hl 3 rfl) ?_
  refine lv_iconst (v := 3) hx hb dL_law_507 (by decide) ?_
  refine lv_iadd hx hb dL_law_508 ?_
  refine va_sld hx hb hX hbl hbA hS h3 dL_law_509 ?_
  refine lw_stepC (t := [.int (xs (x3 + 1).toNatClampNeg), .int (xs (x3 + 2).toNatClampNeg), .int (xs (x3 + 3).toNatClampNeg)]) (rest := []) (by decide) (Or.inl (ct_ccount l S hA (xs (x3 + 1).toNatClampNeg) (xs (x3 + 2).toNatClampNeg) (xs (x3 + 3).toNatClampNeg))) (fun _ h => h) F lnL_66 dL_law_510 (fun _ => rfl) rfl hW hS hl.1 (Nat.le_of_ble_eq_true rfl) (Nat.le_of_ble_eq_true rfl) (Nat.le_of_ble_eq_true rfl) (fun H locs hW hS => ?_)
  refine lv_aload_n hx hb dL_law_513 rfl (lv_at hl 2 rfl) ?_
  refine lv_aload_n hx hb dL_law_514 rfl (lv_at hl 0 rfl) ?_
  refine lv_iload_n hx hb dL_law_515 rfl (lv_at hl 3 rfl) ?_
  refine lv_iconst (v := 1) hx hb dL_law_516 (by decide) ?_
  refine lv_iadd hx hb dL_law_517 ?_
  refine va_sld hx hb hX hbl hbA hS h1 dL_law_518 ?_
  refine lv_aload_n hx hb dL_law_519 rfl (lv_at hl 0 rfl) ?_
  refine lv_iload_n hx hb dL_law_520 rfl (lv_at hl 3 rfl) ?_
  refine lv_iconst (v := 2) hx hb dL_law_521 (by decide) ?_
  refine lv_iadd hx hb dL_law_522 ?_
  refine va_sld hx hb hX hbl hbA hS h2 dL_law_523 ?_
  refine lv_aload_n hx hb dL_law_524 rfl (lv_at hl 0 rfl) ?_
  refine lv_iload_n hx hb dL_law_525 rfl (lv_at hl 3 rfl) ?_
  refine lv_iconst (v := 3) hx hb dL_law_526 (by decide) ?_
  refine lv_iadd hx hb dL_law_527 ?_
  refine va_sld hx hb hX hbl hbA hS h3 dL_law_528 ?_
  refine lw_stepM (t := [.int (xs (x3 + 1).toNatClampNeg), .int (xs (x3 + 2).toNatClampNeg), .int (xs (x3 + 3).toNatClampNeg)]) (rest := [.int (st_count S (xs (x3 + 1).toNatClampNeg) (xs (x3 + 2).toNatClampNeg) (xs (x3 + 3).toNatClampNeg)).1]) (by decide) (ct_mcount l S hA (xs (x3 + 1).toNatClampNeg) (xs (x3 + 2).toNatClampNeg) (xs (x3 + 3).toNatClampNeg)) (fun _ h => h) F lnL_69 dL_law_529 (fun _ => rfl) rfl hW hS hl.1 (Nat.le_of_ble_eq_true rfl) (Nat.le_of_ble_eq_true rfl) (Nat.le_of_ble_eq_true rfl) (fun H locs hW hS => ?_)
  refine lv_icmp_eq (tgt := 1011) hx hb dL_law_532 (by decide) (fun _ => ?_) (fun h => absurd rfl h)
  exact K _ H locs (by rw [st_count_2]; exact hA) hW hS
set_option maxHeartbeats 1000000 in
set_option maxRecDepth 100000 in
theorem lw_c13 (B : lw_B p s m c b cI cZ D L xs x3) (hl : lv_has ls 4 [(0, .ref b), (1, .ref x0), (2, .ref m0), (3, .int x3)]) (hA : okA S) (hW : lw_W cI cZ D (lA s) x0 m0 S S H) (hS : va_S (lA s) s.heap H locs) (K : lw_K p l e s m below meth c Q b cI cZ D x0 m0 ls) : W p l e room_1 s m #[Value.ref b] below meth c H locs 71 2246 Q (F0 m 537 ls []) := by
  obtain ⟨F, hX, hbl, h1, h2, h3⟩ := B
  have hx := F.1
  have hb := F.2.1
  have hbA : ¬ lA s b := Nat.not_le.mpr hbl
  refine lv_aload_n hx hb dL_law_537 rfl (lv_at hl 1 rfl) ?_
  refine lv_aload_n hx hb dL_law_538 rfl (lv_at hl 0 rfl) ?_
  refine lv_iload_n hx hb dL_law_539 rfl (lv_at hl 3 rfl) ?_
  refine lv_iconst (v := 1) hx hb dL_law_540 (by decide) ?_
  refine lv_iadd hx hb dL_law_541 ?_
  refine va_sld hx hb hX hbl hbA hS h1 dL_law_542 ?_
  refine lv_aload_n hx hb dL_law_543 rfl (lv_at hl 0 rfl) ?_
  refine lv_iload_n hx hb dL_law_544 rfl (lv_at hl 3 rfl) ?_
  refine lv_iconst (v := 2) hx hb dL_law_545 (by decide) ?_
  refine lv_iadd hx hb dL_law_546 ?_
  refine va_sld hx hb hX hbl hbA hS h2 dL_law_547 ?_
  refine lv_aload_n hx hb dL_law_548 rfl (lv_at hl 0 rfl) ?_
  refine lv_iload_n hx hb dL_law_549 rfl (lv_at hl 3 rfl) ?_
  refine lv_iconst (v := 3) hx hb dL_law_550 (by decide) ?_
  refine lv_iadd hx hb dL_law_551 ?_
  refine va_sld hx hb hX hbl hbA hS h3 dL_law_552 ?_
  refine lw_stepC (t := [.int (xs (x3 + 1).toNatClampNeg), .int (xs (x3 + 2).toNatClampNeg), .int (xs (x3 + 3).toNatClampNeg)]) (rest := []) (by decide) (Or.inl (ct_cleave l S hA (xs (x3 + 1).toNatClampNeg) (xs (x3 + 2).toNatClampNeg) (xs (x3 + 3).toNatClampNeg))) (fun _ h => h) F lnL_70 dL_law_553 (fun _ => rfl) rfl hW hS hl.1 (Nat.le_of_ble_eq_true rfl) (Nat.le_of_ble_eq_true rfl) (Nat.le_of_ble_eq_true rfl) (fun H locs hW hS => ?_)
  refine lv_aload_n hx hb dL_law_556 rfl (lv_at hl 2 rfl) ?_
  refine lv_aload_n hx hb dL_law_557 rfl (lv_at hl 0 rfl) ?_
  refine lv_iload_n hx hb dL_law_558 rfl (lv_at hl 3 rfl) ?_
  refine lv_iconst (v := 1) hx hb dL_law_559 (by decide) ?_
  refine lv_iadd hx hb dL_law_560 ?_
  refine va_sld hx hb hX hbl hbA hS h1 dL_law_561 ?_
  refine lv_aload_n hx hb dL_law_562 rfl (lv_at hl 0 rfl) ?_
  refine lv_iload_n hx hb dL_law_563 rfl (lv_at hl 3 rfl) ?_
  refine lv_iconst (v := 2) hx hb dL_law_564 (by decide) ?_
  refine lv_iadd hx hb dL_law_565 ?_
  refine va_sld hx hb hX hbl hbA hS h2 dL_law_566 ?_
  refine lv_aload_n hx hb dL_law_567 rfl (lv_at hl 0 rfl) ?_
  refine lv_iload_n hx hb dL_law_568 rfl (lv_at hl 3 rfl) ?_
  refine lv_iconst (v := 3) hx hb dL_law_569 (by decide) ?_
  refine lv_iadd hx hb dL_law_570 ?_
  refine va_sld hx hb hX hbl hbA hS h3 dL_law_571 ?_
  refine lw_stepM (t := [.int (xs (x3 + 1).toNatClampNeg), .int (xs (x3 + 2).toNatClampNeg), .int (xs (x3 + 3).toNatClampNeg)]) (rest := [.int (st_leave S (xs (x3 + 1).toNatClampNeg) (xs (x3 + 2).toNatClampNeg) (xs (x3 + 3).toNatClampNeg)).1]) (by decide) (ct_mleave l S hA (xs (x3 + 1).toNatClampNeg) (xs (x3 + 2).toNatClampNeg) (xs (x3 + 3).toNatClampNeg)) (fun _ h => h) F lnL_73 dL_law_572 (fun _ => rfl) rfl hW hS hl.1 (Nat.le_of_ble_eq_true rfl) (Nat.le_of_ble_eq_true rfl) (Nat.le_of_ble_eq_true rfl) (fun H locs hW hS => ?_)
  refine lv_icmp_eq (tgt := 1011) hx hb dL_law_575 (by decide) (fun _ => ?_) (fun h => absurd rfl h)
  exact K _ H locs (by rw [st_leave_2]; exact hA) hW hS
set_option maxHeartbeats 1000000 in
set_option maxRecDepth 100000 in
theorem lw_c14 (B : lw_B p s m c b cI cZ D L xs x3) (hl : lv_has ls 4 [(0, .ref b), (1, .ref x0), (2, .ref m0), (3, .int x3)]) (hA : okA S) (hW : lw_W cI cZ D (lA s) x0 m0 S S H) (hS : va_S (lA s) s.heap H locs) (K : lw_K p l e s m below meth c Q b cI cZ D x0 m0 ls) : W p l e room_1 s m #[Value.ref b] below meth c H locs 71 2246 Q (F0 m 580 ls []) := by
  obtain ⟨F, hX, hbl, h1, h2, h3⟩ := B
  have hx := F.1
  have hb := F.2.1
  have hbA : ¬ lA s b := Nat.not_le.mpr hbl
  refine lv_aload_n hx hb dL_law_580 rfl (lv_at hl 1 rfl) ?_
  refine lv_aload_n hx hb dL_law_581 rfl (lv_at hl 0 rfl) ?_
  refine lv_iload_n hx hb dL_law_582 rfl (lv_at hl 3 rfl) ?_
  refine lv_iconst (v := 1) hx hb dL_law_583 (by decide) ?_
  refine lv_iadd hx hb dL_law_584 ?_
  refine va_sld hx hb hX hbl hbA hS h1 dL_law_585 ?_
  refine lw_stepC (t := [.int (xs (x3 + 1).toNatClampNeg)]) (rest := []) (by decide) (Or.inl (ct_ccounters l S hA (xs (x3 + 1).toNatClampNeg))) (fun _ h => h) F lnL_74 dL_law_586 (fun _ => rfl) rfl hW hS hl.1 (Nat.le_of_ble_eq_true rfl) (Nat.le_of_ble_eq_true rfl) (Nat.le_of_ble_eq_true rfl) (fun H locs hW hS => ?_)
  refine lv_aload_n hx hb dL_law_589 rfl (lv_at hl 2 rfl) ?_
  refine lv_aload_n hx hb dL_law_590 rfl (lv_at hl 0 rfl) ?_
  refine lv_iload_n hx hb dL_law_591 rfl (lv_at hl 3 rfl) ?_
  refine lv_iconst (v := 1) hx hb dL_law_592 (by decide) ?_
  refine lv_iadd hx hb dL_law_593 ?_
  refine va_sld hx hb hX hbl hbA hS h1 dL_law_594 ?_
  refine lw_stepM (t := [.int (xs (x3 + 1).toNatClampNeg)]) (rest := [.int (st_counters S (xs (x3 + 1).toNatClampNeg)).1]) (by decide) (ct_mcounters l S hA (xs (x3 + 1).toNatClampNeg)) (fun _ h => h) F lnL_77 dL_law_595 (fun _ => rfl) rfl hW hS hl.1 (Nat.le_of_ble_eq_true rfl) (Nat.le_of_ble_eq_true rfl) (Nat.le_of_ble_eq_true rfl) (fun H locs hW hS => ?_)
  refine lv_icmp_eq (tgt := 1011) hx hb dL_law_598 (by decide) (fun _ => ?_) (fun h => absurd rfl h)
  exact K _ H locs (by rw [st_counters_2]; exact hA) hW hS
set_option maxHeartbeats 1000000 in
set_option maxRecDepth 100000 in
theorem lw_c15 (B : lw_B p s m c b cI cZ D L xs x3) (hl : lv_has ls 4 [(0, .ref b), (1, .ref x0), (2, .ref m0), (3, .int x3)]) (hA : okA S) (hW : lw_W cI cZ D (lA s) x0 m0 S S H) (hS : va_S (lA s) s.heap H locs) (K : lw_K p l e s m below meth c Q b cI cZ D x0 m0 ls) : W p l e room_1 s m #[Value.ref b] below meth c H locs 71 2246 Q (F0 m 603 ls []) := by
  obtain ⟨F, hX, hbl, h1, h2, h3⟩ := B
  have hx := F.1
  have hb := F.2.1
  have hbA : ¬ lA s b := Nat.not_le.mpr hbl
  refine lv_aload_n hx hb dL_law_603 rfl (lv_at hl 1 rfl) ?_
  refine lv_aload_n hx hb dL_law_604 rfl (lv_at hl 0 rfl) ?_
  refine lv_iload_n hx hb dL_law_605 rfl (lv_at hl 3 rfl) ?_
  refine lv_iconst (v := 1) hx hb dL_law_606 (by decide) ?_
  refine lv_iadd hx hb dL_law_607 ?_
  refine va_sld hx hb hX hbl hbA hS h1 dL_law_608 ?_
  refine lv_aload_n hx hb dL_law_609 rfl (lv_at hl 0 rfl) ?_
  refine lv_iload_n hx hb dL_law_610 rfl (lv_at hl 3 rfl) ?_
  refine lv_iconst (v := 2) hx hb dL_law_611 (by decide) ?_
  refine lv_iadd hx hb dL_law_612 ?_
  refine va_sld hx hb hX hbl hbA hS h2 dL_law_613 ?_
  refine lv_aload_n hx hb dL_law_614 rfl (lv_at hl 0 rfl) ?_
  refine lv_iload_n hx hb dL_law_615 rfl (lv_at hl 3 rfl) ?_
  refine lv_iconst (v := 3) hx hb dL_law_616 (by decide) ?_
  refine lv_iadd hx hb dL_law_617 ?_
  refine va_sld hx hb hX hbl hbA hS h3 dL_law_618 ?_
  refine lw_stepC (t := [.int (xs (x3 + 1).toNatClampNeg), .int (xs (x3 + 2).toNatClampNeg), .int (xs (x3 + 3).toNatClampNeg)]) (rest := []) (by decide) (Or.inl (ct_cgame l S hA (xs (x3 + 1).toNatClampNeg) (xs (x3 + 2).toNatClampNeg) (xs (x3 + 3).toNatClampNeg))) (fun _ h => h) F lnL_78 dL_law_619 (fun _ => rfl) rfl hW hS hl.1 (Nat.le_of_ble_eq_true rfl) (Nat.le_of_ble_eq_true rfl) (Nat.le_of_ble_eq_true rfl) (fun H locs hW hS => ?_)
  refine lv_aload_n hx hb dL_law_622 rfl (lv_at hl 2 rfl) ?_
  refine lv_aload_n hx hb dL_law_623 rfl (lv_at hl 0 rfl) ?_
  refine lv_iload_n hx hb dL_law_624 rfl (lv_at hl 3 rfl) ?_
  refine lv_iconst (v := 1) hx hb dL_law_625 (by decide) ?_
  refine lv_iadd hx hb dL_law_626 ?_
  refine va_sld hx hb hX hbl hbA hS h1 dL_law_627 ?_
  refine lv_aload_n hx hb dL_law_628 rfl (lv_at hl 0 rfl) ?_
  refine lv_iload_n hx hb dL_law_629 rfl (lv_at hl 3 rfl) ?_
  refine lv_iconst (v := 2) hx hb dL_law_630 (by decide) ?_
  refine lv_iadd hx hb dL_law_631 ?_
  refine va_sld hx hb hX hbl hbA hS h2 dL_law_632 ?_
  refine lv_aload_n hx hb dL_law_633 rfl (lv_at hl 0 rfl) ?_
  refine lv_iload_n hx hb dL_law_634 rfl (lv_at hl 3 rfl) ?_
  refine lv_iconst (v := 3) hx hb dL_law_635 (by decide) ?_
  refine lv_iadd hx hb dL_law_636 ?_
  refine va_sld hx hb hX hbl hbA hS h3 dL_law_637 ?_
  refine lw_stepM (t := [.int (xs (x3 + 1).toNatClampNeg), .int (xs (x3 + 2).toNatClampNeg), .int (xs (x3 + 3).toNatClampNeg)]) (rest := [.int (st_game S (xs (x3 + 1).toNatClampNeg) (xs (x3 + 2).toNatClampNeg) (xs (x3 + 3).toNatClampNeg)).1]) (by decide) (ct_mgame l S hA (xs (x3 + 1).toNatClampNeg) (xs (x3 + 2).toNatClampNeg) (xs (x3 + 3).toNatClampNeg)) (fun _ h => h) F lnL_81 dL_law_638 (fun _ => rfl) rfl hW hS hl.1 (Nat.le_of_ble_eq_true rfl) (Nat.le_of_ble_eq_true rfl) (Nat.le_of_ble_eq_true rfl) (fun H locs hW hS => ?_)
  refine lv_icmp_eq (tgt := 1011) hx hb dL_law_641 (by decide) (fun _ => ?_) (fun h => absurd rfl h)
  exact K _ H locs (by rw [st_game_2]; exact hA) hW hS
set_option maxHeartbeats 1000000 in
set_option maxRecDepth 100000 in
theorem lw_c16 (B : lw_B p s m c b cI cZ D L xs x3) (hl : lv_has ls 4 [(0, .ref b), (1, .ref x0), (2, .ref m0), (3, .int x3)]) (hA : okA S) (hW : lw_W cI cZ D (lA s) x0 m0 S S H) (hS : va_S (lA s) s.heap H locs) (K : lw_K p l e s m below meth c Q b cI cZ D x0 m0 ls) : W p l e room_1 s m #[Value.ref b] below meth c H locs 71 2246 Q (F0 m 646 ls []) := by
  obtain ⟨F, hX, hbl, h1, h2, h3⟩ := B
  have hx := F.1
  have hb := F.2.1
  have hbA : ¬ lA s b := Nat.not_le.mpr hbl
  refine lv_aload_n hx hb dL_law_646 rfl (lv_at hl 1 rfl) ?_
  refine lv_aload_n hx hb dL_law_647 rfl (lv_at hl 0 rfl) ?_
  refine lv_iload_n hx hb dL_law_648 rfl (lv_at hl 3 rfl) ?_
  refine lv_iconst (v := 1) hx hb dL_law_649 (by decide) ?_
  refine lv_iadd hx hb dL_law_650 ?_
  refine va_sld hx hb hX hbl hbA hS h1 dL_law_651 ?_
  refine lv_aload_n hx hb dL_law_652 rfl (lv_at hl 0 rfl) ?_
  refine lv_iload_n hx hb dL_law_653 rfl (lv_at hl 3 rfl) ?_
  refine lv_iconst (v := 2) hx hb dL_law_654 (by decide) ?_
  refine lv_iadd hx hb dL_law_655 ?_
  refine va_sld hx hb hX hbl hbA hS h2 dL_law_656 ?_
  refine lw_stepC (t := [.int (xs (x3 + 1).toNatClampNeg), .int (xs (x3 + 2).toNatClampNeg)]) (rest := []) (by decide) (Or.inl (ct_cleastMud l S hA (xs (x3 + 1).toNatClampNeg) (xs (x3 + 2).toNatClampNeg))) (fun _ h => h) F lnL_82 dL_law_657 (fun _ => rfl) rfl hW hS hl.1 (Nat.le_of_ble_eq_true rfl) (Nat.le_of_ble_eq_true rfl) (Nat.le_of_ble_eq_true rfl) (fun H locs hW hS => ?_)
  refine lv_aload_n hx hb dL_law_660 rfl (lv_at hl 2 rfl) ?_
  refine lv_aload_n hx hb dL_law_661 rfl (lv_at hl 0 rfl) ?_
  refine lv_iload_n hx hb dL_law_662 rfl (lv_at hl 3 rfl) ?_
  refine lv_iconst (v := 1) hx hb dL_law_663 (by decide) ?_
  refine lv_iadd hx hb dL_law_664 ?_
  refine va_sld hx hb hX hbl hbA hS h1 dL_law_665 ?_
  refine lv_aload_n hx hb dL_law_666 rfl (lv_at hl 0 rfl) ?_
  refine lv_iload_n hx hb dL_law_667 rfl (lv_at hl 3 rfl) ?_
  refine lv_iconst (v := 2) hx hb dL_law_668 (by decide) ?_
  refine lv_iadd hx hb dL_law_669 ?_
  refine va_sld hx hb hX hbl hbA hS h2 dL_law_670 ?_
  refine lw_stepM (t := [.int (xs (x3 + 1).toNatClampNeg), .int (xs (x3 + 2).toNatClampNeg)]) (rest := [.int (st_leastMud S (xs (x3 + 1).toNatClampNeg) (xs (x3 + 2).toNatClampNeg)).1]) (by decide) (ct_mleastMud l S hA (xs (x3 + 1).toNatClampNeg) (xs (x3 + 2).toNatClampNeg)) (fun _ h => h) F lnL_85 dL_law_671 (fun _ => rfl) rfl hW hS hl.1 (Nat.le_of_ble_eq_true rfl) (Nat.le_of_ble_eq_true rfl) (Nat.le_of_ble_eq_true rfl) (fun H locs hW hS => ?_)
  refine lv_icmp_eq (tgt := 1011) hx hb dL_law_674 (by decide) (fun _ => ?_) (fun h => absurd rfl h)
  exact K _ H locs (by rw [st_leastMud_2]; exact hA) hW hS
set_option maxHeartbeats 1000000 in
set_option maxRecDepth 100000 in
theorem lw_c17 (B : lw_B p s m c b cI cZ D L xs x3) (hl : lv_has ls 4 [(0, .ref b), (1, .ref x0), (2, .ref m0), (3, .int x3)]) (hA : okA S) (hW : lw_W cI cZ D (lA s) x0 m0 S S H) (hS : va_S (lA s) s.heap H locs) (K : lw_K p l e s m below meth c Q b cI cZ D x0 m0 ls) : W p l e room_1 s m #[Value.ref b] below meth c H locs 71 2246 Q (F0 m 679 ls []) := by
  obtain ⟨F, hX, hbl, h1, h2, h3⟩ := B
  have hx := F.1
  have hb := F.2.1
  have hbA : ¬ lA s b := Nat.not_le.mpr hbl
  refine lv_aload_n hx hb dL_law_679 rfl (lv_at hl 1 rfl) ?_
  refine lv_aload_n hx hb dL_law_680 rfl (lv_at hl 0 rfl) ?_
  refine lv_iload_n hx hb dL_law_681 rfl (lv_at hl 3 rfl) ?_
  refine lv_iconst (v := 1) hx hb dL_law_682 (by decide) ?_
  refine lv_iadd hx hb dL_law_683 ?_
  refine va_sld hx hb hX hbl hbA hS h1 dL_law_684 ?_
  refine lw_stepC (t := [.int (xs (x3 + 1).toNatClampNeg)]) (rest := []) (by decide) (Or.inl (ct_cvotes l S hA (xs (x3 + 1).toNatClampNeg))) (fun _ h => h) F lnL_86 dL_law_685 (fun _ => rfl) rfl hW hS hl.1 (Nat.le_of_ble_eq_true rfl) (Nat.le_of_ble_eq_true rfl) (Nat.le_of_ble_eq_true rfl) (fun H locs hW hS => ?_)
  refine lv_aload_n hx hb dL_law_688 rfl (lv_at hl 2 rfl) ?_
  refine lv_aload_n hx hb dL_law_689 rfl (lv_at hl 0 rfl) ?_
  refine lv_iload_n hx hb dL_law_690 rfl (lv_at hl 3 rfl) ?_
  refine lv_iconst (v := 1) hx hb dL_law_691 (by decide) ?_
  refine lv_iadd hx hb dL_law_692 ?_
  refine va_sld hx hb hX hbl hbA hS h1 dL_law_693 ?_
  refine lw_stepM (t := [.int (xs (x3 + 1).toNatClampNeg)]) (rest := [.int (st_votes S (xs (x3 + 1).toNatClampNeg)).1]) (by decide) (ct_mvotes l S hA (xs (x3 + 1).toNatClampNeg)) (fun _ h => h) F lnL_89 dL_law_694 (fun _ => rfl) rfl hW hS hl.1 (Nat.le_of_ble_eq_true rfl) (Nat.le_of_ble_eq_true rfl) (Nat.le_of_ble_eq_true rfl) (fun H locs hW hS => ?_)
  refine lv_icmp_eq (tgt := 1011) hx hb dL_law_697 (by decide) (fun _ => ?_) (fun h => absurd rfl h)
  exact K _ H locs (by rw [st_votes_2]; exact hA) hW hS
set_option maxHeartbeats 1000000 in
set_option maxRecDepth 100000 in
theorem lw_c18 (B : lw_B p s m c b cI cZ D L xs x3) (hl : lv_has ls 4 [(0, .ref b), (1, .ref x0), (2, .ref m0), (3, .int x3)]) (hA : okA S) (hW : lw_W cI cZ D (lA s) x0 m0 S S H) (hS : va_S (lA s) s.heap H locs) (K : lw_K p l e s m below meth c Q b cI cZ D x0 m0 ls) : W p l e room_1 s m #[Value.ref b] below meth c H locs 71 2246 Q (F0 m 702 ls []) := by
  obtain ⟨F, hX, hbl, h1, h2, h3⟩ := B
  have hx := F.1
  have hb := F.2.1
  have hbA : ¬ lA s b := Nat.not_le.mpr hbl
  refine lv_aload_n hx hb dL_law_702 rfl (lv_at hl 1 rfl) ?_
  refine lw_stepC (t := []) (rest := []) (by decide) (Or.inl (ct_celected l S hA )) (fun _ h => h) F lnL_90 dL_law_703 (fun _ => rfl) rfl hW hS hl.1 (Nat.le_of_ble_eq_true rfl) (Nat.le_of_ble_eq_true rfl) (Nat.le_of_ble_eq_true rfl) (fun H locs hW hS => ?_)
  refine lv_aload_n hx hb dL_law_706 rfl (lv_at hl 2 rfl) ?_
  refine lw_stepM (t := []) (rest := [.int (st_elected S).1]) (by decide) (ct_melected l S hA ) (fun _ h => h) F lnL_93 dL_law_707 (fun _ => rfl) rfl hW hS hl.1 (Nat.le_of_ble_eq_true rfl) (Nat.le_of_ble_eq_true rfl) (Nat.le_of_ble_eq_true rfl) (fun H locs hW hS => ?_)
  refine lv_icmp_eq (tgt := 1011) hx hb dL_law_710 (by decide) (fun _ => ?_) (fun h => absurd rfl h)
  exact K _ H locs (by rw [st_elected_2]; exact hA) hW hS
set_option maxHeartbeats 1000000 in
set_option maxRecDepth 100000 in
theorem lw_c19 (B : lw_B p s m c b cI cZ D L xs x3) (hl : lv_has ls 4 [(0, .ref b), (1, .ref x0), (2, .ref m0), (3, .int x3)]) (hA : okA S) (hW : lw_W cI cZ D (lA s) x0 m0 S S H) (hS : va_S (lA s) s.heap H locs) (K : lw_K p l e s m below meth c Q b cI cZ D x0 m0 ls) : W p l e room_1 s m #[Value.ref b] below meth c H locs 71 2246 Q (F0 m 715 ls []) := by
  obtain ⟨F, hX, hbl, h1, h2, h3⟩ := B
  have hx := F.1
  have hb := F.2.1
  have hbA : ¬ lA s b := Nat.not_le.mpr hbl
  refine lv_aload_n hx hb dL_law_715 rfl (lv_at hl 1 rfl) ?_
  refine lv_aload_n hx hb dL_law_716 rfl (lv_at hl 0 rfl) ?_
  refine lv_iload_n hx hb dL_law_717 rfl (lv_at hl 3 rfl) ?_
  refine lv_iconst (v := 1) hx hb dL_law_718 (by decide) ?_
  refine lv_iadd hx hb dL_law_719 ?_
  refine va_sld hx hb hX hbl hbA hS h1 dL_law_720 ?_
  refine lv_aload_n hx hb dL_law_721 rfl (lv_at hl 0 rfl) ?_
  refine lv_iload_n hx hb dL_law_722 rfl (lv_at hl 3 rfl) ?_
  refine lv_iconst (v := 2) hx hb dL_law_723 (by decide) ?_
  refine lv_iadd hx hb dL_law_724 ?_
  refine va_sld hx hb hX hbl hbA hS h2 dL_law_725 ?_
  refine lw_stepC (t := [.int (xs (x3 + 1).toNatClampNeg), .int (xs (x3 + 2).toNatClampNeg)]) (rest := []) (by decide) (Or.inl (ct_cspring l S (xs (x3 + 1).toNatClampNeg) (xs (x3 + 2).toNatClampNeg))) (fun _ h => h) F lnL_94 dL_law_726 (fun _ => rfl) rfl hW hS hl.1 (Nat.le_of_ble_eq_true rfl) (Nat.le_of_ble_eq_true rfl) (Nat.le_of_ble_eq_true rfl) (fun H locs hW hS => ?_)
  refine lv_aload_n hx hb dL_law_729 rfl (lv_at hl 2 rfl) ?_
  refine lv_aload_n hx hb dL_law_730 rfl (lv_at hl 0 rfl) ?_
  refine lv_iload_n hx hb dL_law_731 rfl (lv_at hl 3 rfl) ?_
  refine lv_iconst (v := 1) hx hb dL_law_732 (by decide) ?_
  refine lv_iadd hx hb dL_law_733 ?_
  refine va_sld hx hb hX hbl hbA hS h1 dL_law_734 ?_
  refine lv_aload_n hx hb dL_law_735 rfl (lv_at hl 0 rfl) ?_
  refine lv_iload_n hx hb dL_law_736 rfl (lv_at hl 3 rfl) ?_
  refine lv_iconst (v := 2) hx hb dL_law_737 (by decide) ?_
  refine lv_iadd hx hb dL_law_738 ?_
  refine va_sld hx hb hX hbl hbA hS h2 dL_law_739 ?_
  refine lw_stepM (t := [.int (xs (x3 + 1).toNatClampNeg), .int (xs (x3 + 2).toNatClampNeg)]) (rest := [.int (st_spring S (xs (x3 + 1).toNatClampNeg) (xs (x3 + 2).toNatClampNeg)).1]) (by decide) (ct_mspring l S (xs (x3 + 1).toNatClampNeg) (xs (x3 + 2).toNatClampNeg)) (fun _ h => h) F lnL_97 dL_law_740 (fun _ => rfl) rfl hW hS hl.1 (Nat.le_of_ble_eq_true rfl) (Nat.le_of_ble_eq_true rfl) (Nat.le_of_ble_eq_true rfl) (fun H locs hW hS => ?_)
  refine lv_icmp_eq (tgt := 1011) hx hb dL_law_743 (by decide) (fun _ => ?_) (fun h => absurd rfl h)
  exact K _ H locs (by rw [st_spring_2]; exact hA) hW hS
set_option maxHeartbeats 1000000 in
set_option maxRecDepth 100000 in
theorem lw_c20 (B : lw_B p s m c b cI cZ D L xs x3) (hl : lv_has ls 4 [(0, .ref b), (1, .ref x0), (2, .ref m0), (3, .int x3)]) (hA : okA S) (hW : lw_W cI cZ D (lA s) x0 m0 S S H) (hS : va_S (lA s) s.heap H locs) (K : lw_K p l e s m below meth c Q b cI cZ D x0 m0 ls) : W p l e room_1 s m #[Value.ref b] below meth c H locs 71 2246 Q (F0 m 748 ls []) := by
  obtain ⟨F, hX, hbl, h1, h2, h3⟩ := B
  have hx := F.1
  have hb := F.2.1
  have hbA : ¬ lA s b := Nat.not_le.mpr hbl
  refine lv_aload_n hx hb dL_law_748 rfl (lv_at hl 1 rfl) ?_
  refine lv_aload_n hx hb dL_law_749 rfl (lv_at hl 0 rfl) ?_
  refine lv_iload_n hx hb dL_law_750 rfl (lv_at hl 3 rfl) ?_
  refine lv_iconst (v := 1) hx hb dL_law_751 (by decide) ?_
  refine lv_iadd hx hb dL_law_752 ?_
  refine va_sld hx hb hX hbl hbA hS h1 dL_law_753 ?_
  refine lv_aload_n hx hb dL_law_754 rfl (lv_at hl 0 rfl) ?_
  refine lv_iload_n hx hb dL_law_755 rfl (lv_at hl 3 rfl) ?_
  refine lv_iconst (v := 2) hx hb dL_law_756 (by decide) ?_
  refine lv_iadd hx hb dL_law_757 ?_
  refine va_sld hx hb hX hbl hbA hS h2 dL_law_758 ?_
  refine lw_stepC (t := [.int (xs (x3 + 1).toNatClampNeg), .int (xs (x3 + 2).toNatClampNeg)]) (rest := []) (by decide) (Or.inl (ct_csee l S hA (xs (x3 + 1).toNatClampNeg) (xs (x3 + 2).toNatClampNeg))) (fun _ h => h) F lnL_98 dL_law_759 (fun _ => rfl) rfl hW hS hl.1 (Nat.le_of_ble_eq_true rfl) (Nat.le_of_ble_eq_true rfl) (Nat.le_of_ble_eq_true rfl) (fun H locs hW hS => ?_)
  refine lv_aload_n hx hb dL_law_762 rfl (lv_at hl 2 rfl) ?_
  refine lv_aload_n hx hb dL_law_763 rfl (lv_at hl 0 rfl) ?_
  refine lv_iload_n hx hb dL_law_764 rfl (lv_at hl 3 rfl) ?_
  refine lv_iconst (v := 1) hx hb dL_law_765 (by decide) ?_
  refine lv_iadd hx hb dL_law_766 ?_
  refine va_sld hx hb hX hbl hbA hS h1 dL_law_767 ?_
  refine lv_aload_n hx hb dL_law_768 rfl (lv_at hl 0 rfl) ?_
  refine lv_iload_n hx hb dL_law_769 rfl (lv_at hl 3 rfl) ?_
  refine lv_iconst (v := 2) hx hb dL_law_770 (by decide) ?_
  refine lv_iadd hx hb dL_law_771 ?_
  refine va_sld hx hb hX hbl hbA hS h2 dL_law_772 ?_
  refine lw_stepM (t := [.int (xs (x3 + 1).toNatClampNeg), .int (xs (x3 + 2).toNatClampNeg)]) (rest := [.int (st_see S (xs (x3 + 1).toNatClampNeg) (xs (x3 + 2).toNatClampNeg)).1]) (by decide) (ct_msee l S hA (xs (x3 + 1).toNatClampNeg) (xs (x3 + 2).toNatClampNeg)) (fun _ h => h) F lnL_101 dL_law_773 (fun _ => rfl) rfl hW hS hl.1 (Nat.le_of_ble_eq_true rfl) (Nat.le_of_ble_eq_true rfl) (Nat.le_of_ble_eq_true rfl) (fun H locs hW hS => ?_)
  refine lv_icmp_eq (tgt := 1011) hx hb dL_law_776 (by decide) (fun _ => ?_) (fun h => absurd rfl h)
  exact K _ H locs (okA_see hA) hW hS
set_option maxHeartbeats 1000000 in
set_option maxRecDepth 100000 in
theorem lw_c21 (B : lw_B p s m c b cI cZ D L xs x3) (hl : lv_has ls 4 [(0, .ref b), (1, .ref x0), (2, .ref m0), (3, .int x3)]) (hA : okA S) (hW : lw_W cI cZ D (lA s) x0 m0 S S H) (hS : va_S (lA s) s.heap H locs) (K : lw_K p l e s m below meth c Q b cI cZ D x0 m0 ls) : W p l e room_1 s m #[Value.ref b] below meth c H locs 71 2246 Q (F0 m 781 ls []) := by
  obtain ⟨F, hX, hbl, h1, h2, h3⟩ := B
  have hx := F.1
  have hb := F.2.1
  have hbA : ¬ lA s b := Nat.not_le.mpr hbl
  refine lv_aload_n hx hb dL_law_781 rfl (lv_at hl 1 rfl) ?_
  refine lv_aload_n hx hb dL_law_782 rfl (lv_at hl 0 rfl) ?_
  refine lv_iload_n hx hb dL_law_783 rfl (lv_at hl 3 rfl) ?_
  refine lv_iconst (v := 1) hx hb dL_law_784 (by decide) ?_
  refine lv_iadd hx hb dL_law_785 ?_
  refine va_sld hx hb hX hbl hbA hS h1 dL_law_786 ?_
  refine lw_stepC (t := [.int (xs (x3 + 1).toNatClampNeg)]) (rest := []) (by decide) (Or.inl (ct_cmoved l S hA (xs (x3 + 1).toNatClampNeg))) (fun _ h => h) F lnL_102 dL_law_787 (fun _ => rfl) rfl hW hS hl.1 (Nat.le_of_ble_eq_true rfl) (Nat.le_of_ble_eq_true rfl) (Nat.le_of_ble_eq_true rfl) (fun H locs hW hS => ?_)
  refine lv_aload_n hx hb dL_law_790 rfl (lv_at hl 2 rfl) ?_
  refine lv_aload_n hx hb dL_law_791 rfl (lv_at hl 0 rfl) ?_
  refine lv_iload_n hx hb dL_law_792 rfl (lv_at hl 3 rfl) ?_
  refine lv_iconst (v := 1) hx hb dL_law_793 (by decide) ?_
  refine lv_iadd hx hb dL_law_794 ?_
  refine va_sld hx hb hX hbl hbA hS h1 dL_law_795 ?_
  refine lw_stepM (t := [.int (xs (x3 + 1).toNatClampNeg)]) (rest := [.int (st_moved S (xs (x3 + 1).toNatClampNeg)).1]) (by decide) (ct_mmoved l S hA (xs (x3 + 1).toNatClampNeg)) (fun _ h => h) F lnL_105 dL_law_796 (fun _ => rfl) rfl hW hS hl.1 (Nat.le_of_ble_eq_true rfl) (Nat.le_of_ble_eq_true rfl) (Nat.le_of_ble_eq_true rfl) (fun H locs hW hS => ?_)
  refine lv_icmp_eq (tgt := 1011) hx hb dL_law_799 (by decide) (fun _ => ?_) (fun h => absurd rfl h)
  exact K _ H locs hA hW hS
set_option maxHeartbeats 1000000 in
set_option maxRecDepth 100000 in
theorem lw_c22 (B : lw_B p s m c b cI cZ D L xs x3) (hl : lv_has ls 4 [(0, .ref b), (1, .ref x0), (2, .ref m0), (3, .int x3)]) (hA : okA S) (hW : lw_W cI cZ D (lA s) x0 m0 S S H) (hS : va_S (lA s) s.heap H locs) (K : lw_K p l e s m below meth c Q b cI cZ D x0 m0 ls) : W p l e room_1 s m #[Value.ref b] below meth c H locs 71 2246 Q (F0 m 804 ls []) := by
  obtain ⟨F, hX, hbl, h1, h2, h3⟩ := B
  have hx := F.1
  have hb := F.2.1
  have hbA : ¬ lA s b := Nat.not_le.mpr hbl
  refine lv_aload_n hx hb dL_law_804 rfl (lv_at hl 1 rfl) ?_
  refine lv_aload_n hx hb dL_law_805 rfl (lv_at hl 0 rfl) ?_
  refine lv_iload_n hx hb dL_law_806 rfl (lv_at hl 3 rfl) ?_
  refine lv_iconst (v := 1) hx hb dL_law_807 (by decide) ?_
  refine lv_iadd hx hb dL_law_808 ?_
  refine va_sld hx hb hX hbl hbA hS h1 dL_law_809 ?_
  refine lv_aload_n hx hb dL_law_810 rfl (lv_at hl 0 rfl) ?_
  refine lv_iload_n hx hb dL_law_811 rfl (lv_at hl 3 rfl) ?_
  refine lv_iconst (v := 2) hx hb dL_law_812 (by decide) ?_
  refine lv_iadd hx hb dL_law_813 ?_
  refine va_sld hx hb hX hbl hbA hS h2 dL_law_814 ?_
  refine lw_stepC (t := [.int (xs (x3 + 1).toNatClampNeg), .int (xs (x3 + 2).toNatClampNeg)]) (rest := []) (by decide) (Or.inl (ct_crough l S hA (xs (x3 + 1).toNatClampNeg) (xs (x3 + 2).toNatClampNeg))) (fun _ h => h) F lnL_106 dL_law_815 (fun _ => rfl) rfl hW hS hl.1 (Nat.le_of_ble_eq_true rfl) (Nat.le_of_ble_eq_true rfl) (Nat.le_of_ble_eq_true rfl) (fun H locs hW hS => ?_)
  refine lv_aload_n hx hb dL_law_818 rfl (lv_at hl 2 rfl) ?_
  refine lv_aload_n hx hb dL_law_819 rfl (lv_at hl 0 rfl) ?_
  refine lv_iload_n hx hb dL_law_820 rfl (lv_at hl 3 rfl) ?_
  refine lv_iconst (v := 1) hx hb dL_law_821 (by decide) ?_
  refine lv_iadd hx hb dL_law_822 ?_
  refine va_sld hx hb hX hbl hbA hS h1 dL_law_823 ?_
  refine lv_aload_n hx hb dL_law_824 rfl (lv_at hl 0 rfl) ?_
  refine lv_iload_n hx hb dL_law_825 rfl (lv_at hl 3 rfl) ?_
  refine lv_iconst (v := 2) hx hb dL_law_826 (by decide) ?_
  refine lv_iadd hx hb dL_law_827 ?_
  refine va_sld hx hb hX hbl hbA hS h2 dL_law_828 ?_
  refine lw_stepM (t := [.int (xs (x3 + 1).toNatClampNeg), .int (xs (x3 + 2).toNatClampNeg)]) (rest := [.int (st_rough S (xs (x3 + 1).toNatClampNeg) (xs (x3 + 2).toNatClampNeg)).1]) (by decide) (ct_mrough l S hA (xs (x3 + 1).toNatClampNeg) (xs (x3 + 2).toNatClampNeg)) (fun _ h => h) F lnL_109 dL_law_829 (fun _ => rfl) rfl hW hS hl.1 (Nat.le_of_ble_eq_true rfl) (Nat.le_of_ble_eq_true rfl) (Nat.le_of_ble_eq_true rfl) (fun H locs hW hS => ?_)
  refine lv_icmp_eq (tgt := 1011) hx hb dL_law_832 (by decide) (fun _ => ?_) (fun h => absurd rfl h)
  exact K _ H locs (okA_rough hA) hW hS
set_option maxHeartbeats 1000000 in
set_option maxRecDepth 100000 in
theorem lw_c23 (B : lw_B p s m c b cI cZ D L xs x3) (hl : lv_has ls 4 [(0, .ref b), (1, .ref x0), (2, .ref m0), (3, .int x3)]) (hA : okA S) (hW : lw_W cI cZ D (lA s) x0 m0 S S H) (hS : va_S (lA s) s.heap H locs) (K : lw_K p l e s m below meth c Q b cI cZ D x0 m0 ls) : W p l e room_1 s m #[Value.ref b] below meth c H locs 71 2246 Q (F0 m 837 ls []) := by
  obtain ⟨F, hX, hbl, h1, h2, h3⟩ := B
  have hx := F.1
  have hb := F.2.1
  have hbA : ¬ lA s b := Nat.not_le.mpr hbl
  refine lv_aload_n hx hb dL_law_837 rfl (lv_at hl 1 rfl) ?_
  refine lv_aload_n hx hb dL_law_838 rfl (lv_at hl 0 rfl) ?_
  refine lv_iload_n hx hb dL_law_839 rfl (lv_at hl 3 rfl) ?_
  refine lv_iconst (v := 1) hx hb dL_law_840 (by decide) ?_
  refine lv_iadd hx hb dL_law_841 ?_
  refine va_sld hx hb hX hbl hbA hS h1 dL_law_842 ?_
  refine lv_aload_n hx hb dL_law_843 rfl (lv_at hl 0 rfl) ?_
  refine lv_iload_n hx hb dL_law_844 rfl (lv_at hl 3 rfl) ?_
  refine lv_iconst (v := 2) hx hb dL_law_845 (by decide) ?_
  refine lv_iadd hx hb dL_law_846 ?_
  refine va_sld hx hb hX hbl hbA hS h2 dL_law_847 ?_
  refine lw_stepC (t := [.int (xs (x3 + 1).toNatClampNeg), .int (xs (x3 + 2).toNatClampNeg)]) (rest := []) (by decide) (Or.inl (ct_cspan l S hA (xs (x3 + 1).toNatClampNeg) (xs (x3 + 2).toNatClampNeg))) (fun _ h => h) F lnL_110 dL_law_848 (fun _ => rfl) rfl hW hS hl.1 (Nat.le_of_ble_eq_true rfl) (Nat.le_of_ble_eq_true rfl) (Nat.le_of_ble_eq_true rfl) (fun H locs hW hS => ?_)
  refine lv_aload_n hx hb dL_law_851 rfl (lv_at hl 2 rfl) ?_
  refine lv_aload_n hx hb dL_law_852 rfl (lv_at hl 0 rfl) ?_
  refine lv_iload_n hx hb dL_law_853 rfl (lv_at hl 3 rfl) ?_
  refine lv_iconst (v := 1) hx hb dL_law_854 (by decide) ?_
  refine lv_iadd hx hb dL_law_855 ?_
  refine va_sld hx hb hX hbl hbA hS h1 dL_law_856 ?_
  refine lv_aload_n hx hb dL_law_857 rfl (lv_at hl 0 rfl) ?_
  refine lv_iload_n hx hb dL_law_858 rfl (lv_at hl 3 rfl) ?_
  refine lv_iconst (v := 2) hx hb dL_law_859 (by decide) ?_
  refine lv_iadd hx hb dL_law_860 ?_
  refine va_sld hx hb hX hbl hbA hS h2 dL_law_861 ?_
  refine lw_stepM (t := [.int (xs (x3 + 1).toNatClampNeg), .int (xs (x3 + 2).toNatClampNeg)]) (rest := [.int (st_span S (xs (x3 + 1).toNatClampNeg) (xs (x3 + 2).toNatClampNeg)).1]) (by decide) (ct_mspan l S hA (xs (x3 + 1).toNatClampNeg) (xs (x3 + 2).toNatClampNeg)) (fun _ h => h) F lnL_113 dL_law_862 (fun _ => rfl) rfl hW hS hl.1 (Nat.le_of_ble_eq_true rfl) (Nat.le_of_ble_eq_true rfl) (Nat.le_of_ble_eq_true rfl) (fun H locs hW hS => ?_)
  refine lv_icmp_eq (tgt := 1011) hx hb dL_law_865 (by decide) (fun _ => ?_) (fun h => absurd rfl h)
  exact K _ H locs (by rw [st_span_2]; exact hA) hW hS
set_option maxHeartbeats 1000000 in
set_option maxRecDepth 100000 in
theorem lw_c24 (B : lw_B p s m c b cI cZ D L xs x3) (hl : lv_has ls 4 [(0, .ref b), (1, .ref x0), (2, .ref m0), (3, .int x3)]) (hA : okA S) (hW : lw_W cI cZ D (lA s) x0 m0 S S H) (hS : va_S (lA s) s.heap H locs) (K : lw_K p l e s m below meth c Q b cI cZ D x0 m0 ls) : W p l e room_1 s m #[Value.ref b] below meth c H locs 71 2246 Q (F0 m 870 ls []) := by
  obtain ⟨F, hX, hbl, h1, h2, h3⟩ := B
  have hx := F.1
  have hb := F.2.1
  have hbA : ¬ lA s b := Nat.not_le.mpr hbl
  refine lv_aload_n hx hb dL_law_870 rfl (lv_at hl 1 rfl) ?_
  refine lw_stepC (t := []) (rest := []) (by decide) (Or.inl (ct_cuncounted l S hA )) (fun _ h => h) F lnL_114 dL_law_871 (fun _ => rfl) rfl hW hS hl.1 (Nat.le_of_ble_eq_true rfl) (Nat.le_of_ble_eq_true rfl) (Nat.le_of_ble_eq_true rfl) (fun H locs hW hS => ?_)
  refine lv_aload_n hx hb dL_law_874 rfl (lv_at hl 2 rfl) ?_
  refine lw_stepM (t := []) (rest := [.int (st_uncounted S).1]) (by decide) (ct_muncounted l S hA ) (fun _ h => h) F lnL_117 dL_law_875 (fun _ => rfl) rfl hW hS hl.1 (Nat.le_of_ble_eq_true rfl) (Nat.le_of_ble_eq_true rfl) (Nat.le_of_ble_eq_true rfl) (fun H locs hW hS => ?_)
  refine lv_icmp_eq (tgt := 1011) hx hb dL_law_878 (by decide) (fun _ => ?_) (fun h => absurd rfl h)
  exact K _ H locs hA hW hS
set_option maxHeartbeats 1000000 in
set_option maxRecDepth 100000 in
theorem lw_c25 (B : lw_B p s m c b cI cZ D L xs x3) (hl : lv_has ls 4 [(0, .ref b), (1, .ref x0), (2, .ref m0), (3, .int x3)]) (hA : okA S) (hW : lw_W cI cZ D (lA s) x0 m0 S S H) (hS : va_S (lA s) s.heap H locs) (K : lw_K p l e s m below meth c Q b cI cZ D x0 m0 ls) : W p l e room_1 s m #[Value.ref b] below meth c H locs 71 2246 Q (F0 m 883 ls []) := by
  obtain ⟨F, hX, hbl, h1, h2, h3⟩ := B
  have hx := F.1
  have hb := F.2.1
  have hbA : ¬ lA s b := Nat.not_le.mpr hbl
  refine lv_aload_n hx hb dL_law_883 rfl (lv_at hl 1 rfl) ?_
  refine lv_aload_n hx hb dL_law_884 rfl (lv_at hl 0 rfl) ?_
  refine lv_iload_n hx hb dL_law_885 rfl (lv_at hl 3 rfl) ?_
  refine lv_iconst (v := 1) hx hb dL_law_886 (by decide) ?_
  refine lv_iadd hx hb dL_law_887 ?_
  refine va_sld hx hb hX hbl hbA hS h1 dL_law_888 ?_
  refine lv_aload_n hx hb dL_law_889 rfl (lv_at hl 0 rfl) ?_
  refine lv_iload_n hx hb dL_law_890 rfl (lv_at hl 3 rfl) ?_
  refine lv_iconst (v := 2) hx hb dL_law_891 (by decide) ?_
  refine lv_iadd hx hb dL_law_892 ?_
  refine va_sld hx hb hX hbl hbA hS h2 dL_law_893 ?_
  refine lw_stepC (t := [.int (xs (x3 + 1).toNatClampNeg), .int (xs (x3 + 2).toNatClampNeg)]) (rest := []) (by decide) (Or.inl (ct_cwrite l S hA (xs (x3 + 1).toNatClampNeg) (xs (x3 + 2).toNatClampNeg))) (fun _ h => h) F lnL_118 dL_law_894 (fun _ => rfl) rfl hW hS hl.1 (Nat.le_of_ble_eq_true rfl) (Nat.le_of_ble_eq_true rfl) (Nat.le_of_ble_eq_true rfl) (fun H locs hW hS => ?_)
  refine lv_aload_n hx hb dL_law_897 rfl (lv_at hl 2 rfl) ?_
  refine lv_aload_n hx hb dL_law_898 rfl (lv_at hl 0 rfl) ?_
  refine lv_iload_n hx hb dL_law_899 rfl (lv_at hl 3 rfl) ?_
  refine lv_iconst (v := 1) hx hb dL_law_900 (by decide) ?_
  refine lv_iadd hx hb dL_law_901 ?_
  refine va_sld hx hb hX hbl hbA hS h1 dL_law_902 ?_
  refine lv_aload_n hx hb dL_law_903 rfl (lv_at hl 0 rfl) ?_
  refine lv_iload_n hx hb dL_law_904 rfl (lv_at hl 3 rfl) ?_
  refine lv_iconst (v := 2) hx hb dL_law_905 (by decide) ?_
  refine lv_iadd hx hb dL_law_906 ?_
  refine va_sld hx hb hX hbl hbA hS h2 dL_law_907 ?_
  refine lw_stepM (t := [.int (xs (x3 + 1).toNatClampNeg), .int (xs (x3 + 2).toNatClampNeg)]) (rest := [.int (st_write S (xs (x3 + 1).toNatClampNeg) (xs (x3 + 2).toNatClampNeg)).1]) (by decide) (ct_mwrite l S hA (xs (x3 + 1).toNatClampNeg) (xs (x3 + 2).toNatClampNeg)) (fun _ h => h) F lnL_121 dL_law_908 (fun _ => rfl) rfl hW hS hl.1 (Nat.le_of_ble_eq_true rfl) (Nat.le_of_ble_eq_true rfl) (Nat.le_of_ble_eq_true rfl) (fun H locs hW hS => ?_)
  refine lv_icmp_eq (tgt := 1011) hx hb dL_law_911 (by decide) (fun _ => ?_) (fun h => absurd rfl h)
  exact K _ H locs (okA_write hA) hW hS
set_option maxHeartbeats 1000000 in
set_option maxRecDepth 100000 in
theorem lw_c26 (B : lw_B p s m c b cI cZ D L xs x3) (hl : lv_has ls 4 [(0, .ref b), (1, .ref x0), (2, .ref m0), (3, .int x3)]) (hA : okA S) (hW : lw_W cI cZ D (lA s) x0 m0 S S H) (hS : va_S (lA s) s.heap H locs) (K : lw_K p l e s m below meth c Q b cI cZ D x0 m0 ls) : W p l e room_1 s m #[Value.ref b] below meth c H locs 71 2246 Q (F0 m 916 ls []) := by
  obtain ⟨F, hX, hbl, h1, h2, h3⟩ := B
  have hx := F.1
  have hb := F.2.1
  have hbA : ¬ lA s b := Nat.not_le.mpr hbl
  refine lv_aload_n hx hb dL_law_916 rfl (lv_at hl 1 rfl) ?_
  refine lw_stepC (t := []) (rest := []) (by decide) (Or.inl (ct_ctear l S hA )) (fun _ h => h) F lnL_122 dL_law_917 (fun _ => rfl) rfl hW hS hl.1 (Nat.le_of_ble_eq_true rfl) (Nat.le_of_ble_eq_true rfl) (Nat.le_of_ble_eq_true rfl) (fun H locs hW hS => ?_)
  refine lv_aload_n hx hb dL_law_920 rfl (lv_at hl 2 rfl) ?_
  refine lw_stepM (t := []) (rest := [.int (st_tear S).1]) (by decide) (ct_mtear l S hA ) (fun _ h => h) F lnL_125 dL_law_921 (fun _ => rfl) rfl hW hS hl.1 (Nat.le_of_ble_eq_true rfl) (Nat.le_of_ble_eq_true rfl) (Nat.le_of_ble_eq_true rfl) (fun H locs hW hS => ?_)
  refine lv_icmp_eq (tgt := 1011) hx hb dL_law_924 (by decide) (fun _ => ?_) (fun h => absurd rfl h)
  exact K _ H locs (okA_tear hA) hW hS
set_option maxHeartbeats 1000000 in
set_option maxRecDepth 100000 in
theorem lw_c27 (B : lw_B p s m c b cI cZ D L xs x3) (hl : lv_has ls 4 [(0, .ref b), (1, .ref x0), (2, .ref m0), (3, .int x3)]) (hA : okA S) (hW : lw_W cI cZ D (lA s) x0 m0 S S H) (hS : va_S (lA s) s.heap H locs) (K : lw_K p l e s m below meth c Q b cI cZ D x0 m0 ls) : W p l e room_1 s m #[Value.ref b] below meth c H locs 71 2246 Q (F0 m 929 ls []) := by
  obtain ⟨F, hX, hbl, h1, h2, h3⟩ := B
  have hx := F.1
  have hb := F.2.1
  have hbA : ¬ lA s b := Nat.not_le.mpr hbl
  refine lv_aload_n hx hb dL_law_929 rfl (lv_at hl 1 rfl) ?_
  refine lw_stepC (t := []) (rest := []) (by decide) (Or.inl (ct_cjudge l S hA )) (fun _ h => h) F lnL_126 dL_law_930 (fun _ => rfl) rfl hW hS hl.1 (Nat.le_of_ble_eq_true rfl) (Nat.le_of_ble_eq_true rfl) (Nat.le_of_ble_eq_true rfl) (fun H locs hW hS => ?_)
  refine lv_aload_n hx hb dL_law_933 rfl (lv_at hl 2 rfl) ?_
  refine lw_stepM (t := []) (rest := [.int (st_judge S).1]) (by decide) (ct_mjudge l S hA ) (fun _ h => h) F lnL_129 dL_law_934 (fun _ => rfl) rfl hW hS hl.1 (Nat.le_of_ble_eq_true rfl) (Nat.le_of_ble_eq_true rfl) (Nat.le_of_ble_eq_true rfl) (fun H locs hW hS => ?_)
  refine lv_icmp_eq (tgt := 1011) hx hb dL_law_937 (by decide) (fun _ => ?_) (fun h => absurd rfl h)
  exact K _ H locs (by rw [st_judge_2]; exact hA) hW hS
set_option maxHeartbeats 1000000 in
set_option maxRecDepth 100000 in
theorem lw_c28 (B : lw_B p s m c b cI cZ D L xs x3) (hl : lv_has ls 4 [(0, .ref b), (1, .ref x0), (2, .ref m0), (3, .int x3)]) (hA : okA S) (hW : lw_W cI cZ D (lA s) x0 m0 S S H) (hS : va_S (lA s) s.heap H locs) (K : lw_K p l e s m below meth c Q b cI cZ D x0 m0 ls) : W p l e room_1 s m #[Value.ref b] below meth c H locs 71 2246 Q (F0 m 942 ls []) := by
  obtain ⟨F, hX, hbl, h1, h2, h3⟩ := B
  have hx := F.1
  have hb := F.2.1
  have hbA : ¬ lA s b := Nat.not_le.mpr hbl
  refine lv_aload_n hx hb dL_law_942 rfl (lv_at hl 1 rfl) ?_
  refine lv_aload_n hx hb dL_law_943 rfl (lv_at hl 0 rfl) ?_
  refine lv_iload_n hx hb dL_law_944 rfl (lv_at hl 3 rfl) ?_
  refine lv_iconst (v := 1) hx hb dL_law_945 (by decide) ?_
  refine lv_iadd hx hb dL_law_946 ?_
  refine va_sld hx hb hX hbl hbA hS h1 dL_law_947 ?_
  refine lw_stepC (t := [.int (xs (x3 + 1).toNatClampNeg)]) (rest := []) (by decide) (Or.inl (ct_cseed l S hA (xs (x3 + 1).toNatClampNeg))) (fun _ h => h) F lnL_130 dL_law_948 (fun _ => rfl) rfl hW hS hl.1 (Nat.le_of_ble_eq_true rfl) (Nat.le_of_ble_eq_true rfl) (Nat.le_of_ble_eq_true rfl) (fun H locs hW hS => ?_)
  refine lv_aload_n hx hb dL_law_951 rfl (lv_at hl 2 rfl) ?_
  refine lv_aload_n hx hb dL_law_952 rfl (lv_at hl 0 rfl) ?_
  refine lv_iload_n hx hb dL_law_953 rfl (lv_at hl 3 rfl) ?_
  refine lv_iconst (v := 1) hx hb dL_law_954 (by decide) ?_
  refine lv_iadd hx hb dL_law_955 ?_
  refine va_sld hx hb hX hbl hbA hS h1 dL_law_956 ?_
  refine lw_stepM (t := [.int (xs (x3 + 1).toNatClampNeg)]) (rest := [.int (st_seed S (xs (x3 + 1).toNatClampNeg)).1]) (by decide) (ct_mseed l S hA (xs (x3 + 1).toNatClampNeg)) (fun _ h => h) F lnL_133 dL_law_957 (fun _ => rfl) rfl hW hS hl.1 (Nat.le_of_ble_eq_true rfl) (Nat.le_of_ble_eq_true rfl) (Nat.le_of_ble_eq_true rfl) (fun H locs hW hS => ?_)
  refine lv_icmp_eq (tgt := 1011) hx hb dL_law_960 (by decide) (fun _ => ?_) (fun h => absurd rfl h)
  exact K _ H locs (okA_seed hA) hW hS
set_option maxHeartbeats 1000000 in
set_option maxRecDepth 100000 in
theorem lw_c29 (B : lw_B p s m c b cI cZ D L xs x3) (hl : lv_has ls 4 [(0, .ref b), (1, .ref x0), (2, .ref m0), (3, .int x3)]) (hA : okA S) (hW : lw_W cI cZ D (lA s) x0 m0 S S H) (hS : va_S (lA s) s.heap H locs) (K : lw_K p l e s m below meth c Q b cI cZ D x0 m0 ls) : W p l e room_1 s m #[Value.ref b] below meth c H locs 71 2246 Q (F0 m 965 ls []) := by
  obtain ⟨F, hX, hbl, h1, h2, h3⟩ := B
  have hx := F.1
  have hb := F.2.1
  have hbA : ¬ lA s b := Nat.not_le.mpr hbl
  refine lv_aload_n hx hb dL_law_965 rfl (lv_at hl 1 rfl) ?_
  refine lv_aload_n hx hb dL_law_966 rfl (lv_at hl 0 rfl) ?_
  refine lv_iload_n hx hb dL_law_967 rfl (lv_at hl 3 rfl) ?_
  refine lv_iconst (v := 1) hx hb dL_law_968 (by decide) ?_
  refine lv_iadd hx hb dL_law_969 ?_
  refine va_sld hx hb hX hbl hbA hS h1 dL_law_970 ?_
  refine lw_stepC (t := [.int (xs (x3 + 1).toNatClampNeg)]) (rest := []) (by decide) (Or.inl (ct_ckeep l S hA (xs (x3 + 1).toNatClampNeg))) (fun _ h => h) F lnL_134 dL_law_971 (fun _ => rfl) rfl hW hS hl.1 (Nat.le_of_ble_eq_true rfl) (Nat.le_of_ble_eq_true rfl) (Nat.le_of_ble_eq_true rfl) (fun H locs hW hS => ?_)
  refine lv_aload_n hx hb dL_law_974 rfl (lv_at hl 2 rfl) ?_
  refine lv_aload_n hx hb dL_law_975 rfl (lv_at hl 0 rfl) ?_
  refine lv_iload_n hx hb dL_law_976 rfl (lv_at hl 3 rfl) ?_
  refine lv_iconst (v := 1) hx hb dL_law_977 (by decide) ?_
  refine lv_iadd hx hb dL_law_978 ?_
  refine va_sld hx hb hX hbl hbA hS h1 dL_law_979 ?_
  refine lw_stepM (t := [.int (xs (x3 + 1).toNatClampNeg)]) (rest := [.int (st_keep S (xs (x3 + 1).toNatClampNeg)).1]) (by decide) (ct_mkeep l S hA (xs (x3 + 1).toNatClampNeg)) (fun _ h => h) F lnL_137 dL_law_980 (fun _ => rfl) rfl hW hS hl.1 (Nat.le_of_ble_eq_true rfl) (Nat.le_of_ble_eq_true rfl) (Nat.le_of_ble_eq_true rfl) (fun H locs hW hS => ?_)
  refine lv_icmp_eq (tgt := 1011) hx hb dL_law_983 (by decide) (fun _ => ?_) (fun h => absurd rfl h)
  exact K _ H locs (okA_keep hA) hW hS
set_option maxHeartbeats 1000000 in
set_option maxRecDepth 100000 in
theorem lw_c30 (B : lw_B p s m c b cI cZ D L xs x3) (hl : lv_has ls 4 [(0, .ref b), (1, .ref x0), (2, .ref m0), (3, .int x3)]) (hA : okA S) (hW : lw_W cI cZ D (lA s) x0 m0 S S H) (hS : va_S (lA s) s.heap H locs) (K : lw_K p l e s m below meth c Q b cI cZ D x0 m0 ls) : W p l e room_1 s m #[Value.ref b] below meth c H locs 71 2246 Q (F0 m 988 ls []) := by
  obtain ⟨F, hX, hbl, h1, h2, h3⟩ := B
  have hx := F.1
  have hb := F.2.1
  have hbA : ¬ lA s b := Nat.not_le.mpr hbl
  refine lv_aload_n hx hb dL_law_988 rfl (lv_at hl 1 rfl) ?_
  refine lv_aload_n hx hb dL_law_989 rfl (lv_at hl 0 rfl) ?_
  refine lv_iload_n hx hb dL_law_990 rfl (lv_at hl 3 rfl) ?_
  refine lv_iconst (v := 1) hx hb dL_law_991 (by decide) ?_
  refine lv_iadd hx hb dL_law_992 ?_
  refine va_sld hx hb hX hbl hbA hS h1 dL_law_993 ?_
  refine lw_stepC (t := [.int (xs (x3 + 1).toNatClampNeg)]) (rest := []) (by decide) (Or.inl (ct_cgoBack l S hA (xs (x3 + 1).toNatClampNeg))) (fun _ h => h) F lnL_138 dL_law_994 (fun _ => rfl) rfl hW hS hl.1 (Nat.le_of_ble_eq_true rfl) (Nat.le_of_ble_eq_true rfl) (Nat.le_of_ble_eq_true rfl) (fun H locs hW hS => ?_)
  refine lv_aload_n hx hb dL_law_997 rfl (lv_at hl 2 rfl) ?_
  refine lv_aload_n hx hb dL_law_998 rfl (lv_at hl 0 rfl) ?_
  refine lv_iload_n hx hb dL_law_999 rfl (lv_at hl 3 rfl) ?_
  refine lv_iconst (v := 1) hx hb dL_law_1000 (by decide) ?_
  refine lv_iadd hx hb dL_law_1001 ?_
  refine va_sld hx hb hX hbl hbA hS h1 dL_law_1002 ?_
  refine lw_stepM (t := [.int (xs (x3 + 1).toNatClampNeg)]) (rest := [.int (st_goBack S (xs (x3 + 1).toNatClampNeg)).1]) (by decide) (ct_mgoBack l S hA (xs (x3 + 1).toNatClampNeg)) (fun _ h => h) F lnL_141 dL_law_1003 (fun _ => rfl) rfl hW hS hl.1 (Nat.le_of_ble_eq_true rfl) (Nat.le_of_ble_eq_true rfl) (Nat.le_of_ble_eq_true rfl) (fun H locs hW hS => ?_)
  refine lv_icmp_eq (tgt := 1011) hx hb dL_law_1006 (by decide) (fun _ => ?_) (fun h => absurd rfl h)
  exact K _ H locs (okA_goBack hA) hW hS
end LWK
