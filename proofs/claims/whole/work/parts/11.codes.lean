abbrev qcP (m : Nat) : Prop := Cond.code (qYm m).1 (qYm m).2.1 (qYm m).2.2.1 (qYm m).2.2.2 ∈ qTs
set_option maxRecDepth 100000 in
theorem cw_0 : qcP 0 := qTs_mem (i := 230) (w := .code yX0_init cX0_init 1 none) rfl rfl
set_option maxRecDepth 100000 in
theorem cw_1 : qcP 1 := qTs_mem (i := 546) (w := .code yX0_setRing cX0_setRing 3 none) rfl rfl
set_option maxRecDepth 100000 in
theorem cw_2 : qcP 2 := qTs_mem (i := 957) (w := .code yX0_reduce cX0_reduce 2 (some .int)) rfl rfl
set_option maxRecDepth 100000 in
theorem cw_3 : qcP 3 := qTs_mem (i := 632) (w := .code yX0_inverseOf cX0_inverseOf 5 (some .int)) rfl rfl
set_option maxRecDepth 100000 in
theorem cw_4 : qcP 4 := qTs_mem (i := 680) (w := .code yX0_isRoot cX0_isRoot 6 (some .boolean)) rfl rfl
set_option maxRecDepth 100000 in
theorem cw_5 : qcP 5 := qTs_mem (i := 602) (w := .code yX0_setNumber cX0_setNumber 3 none) rfl rfl
set_option maxRecDepth 100000 in
theorem cw_6 : qcP 6 := qTs_mem (i := 607) (w := .code yX0_setX cX0_setX 2 none) rfl rfl
set_option maxRecDepth 100000 in
theorem cw_7 : qcP 7 := qTs_mem (i := 692) (w := .code yX0_addTimes cX0_addTimes 5 none) rfl rfl
set_option maxRecDepth 100000 in
theorem cw_8 : qcP 8 := qTs_mem (i := 728) (w := .code yX0_match cX0_match 4 none) rfl rfl
set_option maxRecDepth 100000 in
theorem cw_9 : qcP 9 := qTs_mem (i := 651) (w := .code yX0_multiply cX0_multiply 11 none) rfl rfl
set_option maxRecDepth 100000 in
theorem cw_10 : qcP 10 := qTs_mem (i := 688) (w := .code yX0_raise cX0_raise 4 none) rfl rfl
set_option maxRecDepth 100000 in
theorem cw_11 : qcP 11 := qTs_mem (i := 645) (w := .code yX0_invert cX0_invert 6 none) rfl rfl
set_option maxRecDepth 100000 in
theorem cw_12 : qcP 12 := qTs_mem (i := 712) (w := .code yX0_divide cX0_divide 4 (some .int)) rfl rfl
set_option maxRecDepth 100000 in
theorem cw_13 : qcP 13 := qTs_mem (i := 621) (w := .code yX0_derive cX0_derive 3 (some .int)) rfl rfl
set_option maxRecDepth 100000 in
theorem cw_14 : qcP 14 := qTs_mem (i := 625) (w := .code yX0_integrate cX0_integrate 4 (some .int)) rfl rfl
set_option maxRecDepth 100000 in
theorem cw_15 : qcP 15 := qTs_mem (i := 636) (w := .code yX0_logarithm cX0_logarithm 2 (some .int)) rfl rfl
set_option maxRecDepth 100000 in
theorem cw_16 : qcP 16 := qTs_mem (i := 663) (w := .code yX0_exponential cX0_exponential 5 (some .int)) rfl rfl
set_option maxRecDepth 100000 in
theorem cw_17 : qcP 17 := qTs_mem (i := 672) (w := .code yX0_revert cX0_revert 7 (some .int)) rfl rfl
set_option maxRecDepth 100000 in
theorem cw_18 : qcP 18 := qTs_mem (i := 676) (w := .code yX0_root cX0_root 5 (some .int)) rfl rfl
set_option maxRecDepth 100000 in
theorem cw_19 : qcP 19 := qTs_mem (i := 696) (w := .code yX0_scale cX0_scale 4 none) rfl rfl
set_option maxRecDepth 100000 in
theorem cw_20 : qcP 20 := qTs_mem (i := 700) (w := .code yX0_lift cX0_lift 1 none) rfl rfl
set_option maxRecDepth 100000 in
theorem cw_21 : qcP 21 := qTs_mem (i := 720) (w := .code yX0_compose cX0_compose 7 (some .int)) rfl rfl
set_option maxRecDepth 100000 in
theorem cw_22 : qcP 22 := qTs_mem (i := 724) (w := .code yX0_lastNotZero cX0_lastNotZero 3 (some .int)) rfl rfl
set_option maxRecDepth 100000 in
theorem cw_23 : qcP 23 := qTs_mem (i := 884) (w := .code yX0_valueAt cX0_valueAt 6 (some .int)) rfl rfl
set_option maxRecDepth 100000 in
theorem cw_24 : qcP 24 := qTs_mem (i := 945) (w := .code yX0_powerToOne cX0_powerToOne 4 (some .int)) rfl rfl
set_option maxRecDepth 100000 in
theorem cw_25 : qcP 25 := qTs_mem (i := 949) (w := .code yX0_isOne cX0_isOne 2 (some .boolean)) rfl rfl
set_option maxRecDepth 100000 in
theorem cw_26 : qcP 26 := qTs_mem (i := 910) (w := .code yX0_cubicLength cX0_cubicLength 3 (some .int)) rfl rfl
set_option maxRecDepth 100000 in
theorem cw_27 : qcP 27 := qTs_mem (i := 906) (w := .code yX0_startsAt cX0_startsAt 7 (some .boolean)) rfl rfl
set_option maxRecDepth 100000 in
theorem cw_28 : qcP 28 := qTs_mem (i := 914) (w := .code yX0_cubicRoot cX0_cubicRoot 4 (some (.object "SeriesDesk$Series"))) rfl rfl
set_option maxRecDepth 100000 in
theorem cw_29 : qcP 29 := qTs_mem (i := 174) (w := .code yX1_init cX1_init 2 none) rfl rfl
set_option maxRecDepth 100000 in
theorem cw_30 : qcP 30 := qTs_mem (i := 474) (w := .code yX1_clear cX1_clear 1 none) rfl rfl
set_option maxRecDepth 100000 in
theorem cw_31 : qcP 31 := qTs_mem (i := 482) (w := .code yX1_open cX1_open 2 (some .boolean)) rfl rfl
set_option maxRecDepth 100000 in
theorem cw_32 : qcP 32 := qTs_mem (i := 534) (w := .code yX1_close cX1_close 1 (some .boolean)) rfl rfl
set_option maxRecDepth 100000 in
theorem cw_33 : qcP 33 := qTs_mem (i := 510) (w := .code yX1_add cX1_add 3 (some .boolean)) rfl rfl
set_option maxRecDepth 100000 in
theorem cw_34 : qcP 34 := qTs_mem (i := 590) (w := .code yX1_operationAt cX1_operationAt 2 (some .int)) rfl rfl
set_option maxRecDepth 100000 in
theorem cw_35 : qcP 35 := qTs_mem (i := 594) (w := .code yX1_argumentAt cX1_argumentAt 2 (some .int)) rfl rfl
set_option maxRecDepth 100000 in
theorem cw_36 : qcP 36 := qTs_mem (i := 565) (w := .code yX1_shortCopy cX1_shortCopy 2 (some (.object "SeriesDesk$Code"))) rfl rfl
set_option maxRecDepth 100000 in
theorem cw_37 : qcP 37 := qTs_mem (i := 349) (w := .code yX2_init cX2_init 1 none) rfl rfl
set_option maxRecDepth 100000 in
theorem cw_38 : qcP 38 := qTs_mem (i := 557) (w := .code yX2_clear cX2_clear 1 none) rfl rfl
set_option maxRecDepth 100000 in
theorem cw_39 : qcP 39 := qTs_mem (i := 740) (w := .code yX2_keep cX2_keep 2 none) rfl rfl
set_option maxRecDepth 100000 in
theorem cw_40 : qcP 40 := qTs_mem (i := 860) (w := .code yX2_restore cX2_restore 3 (some .int)) rfl rfl
set_option maxRecDepth 100000 in
theorem cw_41 : qcP 41 := qTs_mem (i := 292) (w := .code yX3_init cX3_init 3 none) rfl rfl
set_option maxRecDepth 100000 in
theorem cw_42 : qcP 42 := qTs_mem (i := 750) (w := .code yX3_result cX3_result 1 (some (.object "SeriesDesk$Series"))) rfl rfl
set_option maxRecDepth 100000 in
theorem cw_43 : qcP 43 := qTs_mem (i := 586) (w := .code yX3_work cX3_work 8 (some .int)) rfl rfl
set_option maxRecDepth 100000 in
theorem cw_44 : qcP 44 := qTs_mem (i := 598) (w := .code yX3_push cX3_push 5 (some .int)) rfl rfl
set_option maxRecDepth 100000 in
theorem cw_45 : qcP 45 := qTs_mem (i := 617) (w := .code yX3_ofOne cX3_ofOne 4 (some .int)) rfl rfl
set_option maxRecDepth 100000 in
theorem cw_46 : qcP 46 := qTs_mem (i := 706) (w := .code yX3_ofTwo cX3_ofTwo 4 (some .int)) rfl rfl
set_option maxRecDepth 100000 in
theorem cw_47 : qcP 47 := qTs_mem (i := 200) (w := .code yX4_init cX4_init 3 none) rfl rfl
set_option maxRecDepth 100000 in
theorem cw_48 : qcP 48 := qTs_mem (i := 442) (w := .code yX4_faultAs cX4_faultAs 3 (some .int)) rfl rfl
set_option maxRecDepth 100000 in
theorem cw_49 : qcP 49 := qTs_mem (i := 446) (w := .code yX4_readRing cX4_readRing 4 (some .boolean)) rfl rfl
set_option maxRecDepth 100000 in
theorem cw_50 : qcP 50 := qTs_mem (i := 458) (w := .code yX4_readPrime cX4_readPrime 2 (some .boolean)) rfl rfl
set_option maxRecDepth 100000 in
theorem cw_51 : qcP 51 := qTs_mem (i := 470) (w := .code yX4_readSteps cX4_readSteps 3 (some .boolean)) rfl rfl
set_option maxRecDepth 100000 in
theorem cw_52 : qcP 52 := qTs_mem (i := 478) (w := .code yX4_readStep cX4_readStep 2 (some .boolean)) rfl rfl
set_option maxRecDepth 100000 in
theorem cw_53 : qcP 53 := qTs_mem (i := 486) (w := .code yX4_readExpression cX4_readExpression 4 (some .boolean)) rfl rfl
set_option maxRecDepth 100000 in
theorem cw_54 : qcP 54 := qTs_mem (i := 490) (w := .code yX4_readTerm cX4_readTerm 4 (some .boolean)) rfl rfl
set_option maxRecDepth 100000 in
theorem cw_55 : qcP 55 := qTs_mem (i := 494) (w := .code yX4_readPower cX4_readPower 2 (some .boolean)) rfl rfl
set_option maxRecDepth 100000 in
theorem cw_56 : qcP 56 := qTs_mem (i := 498) (w := .code yX4_readAtom cX4_readAtom 3 (some .boolean)) rfl rfl
set_option maxRecDepth 100000 in
theorem cw_57 : qcP 57 := qTs_mem (i := 514) (w := .code yX4_readFunction cX4_readFunction 3 (some .boolean)) rfl rfl
set_option maxRecDepth 100000 in
theorem cw_58 : qcP 58 := qTs_mem (i := 518) (w := .code yX4_readOfOne cX4_readOfOne 3 (some .boolean)) rfl rfl
set_option maxRecDepth 100000 in
theorem cw_59 : qcP 59 := qTs_mem (i := 522) (w := .code yX4_readRoot cX4_readRoot 3 (some .boolean)) rfl rfl
set_option maxRecDepth 100000 in
theorem cw_60 : qcP 60 := qTs_mem (i := 526) (w := .code yX4_readShortened cX4_readShortened 3 (some .boolean)) rfl rfl
set_option maxRecDepth 100000 in
theorem cw_61 : qcP 61 := qTs_mem (i := 530) (w := .code yX4_readMatched cX4_readMatched 3 (some .boolean)) rfl rfl
set_option maxRecDepth 100000 in
theorem cw_62 : qcP 62 := qTs_mem (i := 502) (w := .code yX4_readBracket cX4_readBracket 2 (some .boolean)) rfl rfl
set_option maxRecDepth 100000 in
theorem cw_63 : qcP 63 := qTs_mem (i := 506) (w := .code yX4_readOpening cX4_readOpening 2 (some .boolean)) rfl rfl
set_option maxRecDepth 100000 in
theorem cw_64 : qcP 64 := qTs_mem (i := 450) (w := .code yX4_readSign cX4_readSign 2 (some .boolean)) rfl rfl
set_option maxRecDepth 100000 in
theorem cw_65 : qcP 65 := qTs_mem (i := 462) (w := .code yX4_readNumber cX4_readNumber 4 (some .boolean)) rfl rfl
set_option maxRecDepth 100000 in
theorem cw_66 : qcP 66 := qTs_mem (i := 466) (w := .code yX4_digitAt cX4_digitAt 2 (some .boolean)) rfl rfl
set_option maxRecDepth 100000 in
theorem cw_67 : qcP 67 := qTs_mem (i := 454) (w := .code yX4_next cX4_next 1 (some .int)) rfl rfl
set_option maxRecDepth 100000 in
theorem cw_68 : qcP 68 := qTs_mem (i := 310) (w := .code yX5_init cX5_init 1 none) rfl rfl
set_option maxRecDepth 100000 in
theorem cw_69 : qcP 69 := qTs_mem (i := 926) (w := .code yX5_find cX5_find 12 (some .int)) rfl rfl
set_option maxRecDepth 100000 in
theorem cw_70 : qcP 70 := qTs_mem (i := 931) (w := .code yX5_missedAt cX5_missedAt 6 (some .int)) rfl rfl
set_option maxRecDepth 100000 in
theorem cw_71 : qcP 71 := qTs_mem (i := 937) (w := .code yX5_factor cX5_factor 3 (some .int)) rfl rfl
set_option maxRecDepth 100000 in
theorem cw_72 : qcP 72 := qTs_mem (i := 236) (w := .code yX6_init cX6_init 1 none) rfl rfl
set_option maxRecDepth 100000 in
theorem cw_73 : qcP 73 := qTs_mem (i := 655) (w := .code yX6_first cX6_first 2 (some .int)) rfl rfl
set_option maxRecDepth 100000 in
theorem cw_74 : qcP 74 := qTs_mem (i := 640) (w := .code yX6_copy cX6_copy 2 none) rfl rfl
set_option maxRecDepth 100000 in
theorem cw_75 : qcP 75 := qTs_mem (i := 667) (w := .code yX6_shorten cX6_shorten 2 none) rfl rfl
set_option maxRecDepth 100000 in
theorem cw_76 : qcP 76 := qTs_mem (i := 684) (w := .code yX6_widen cX6_widen 4 none) rfl rfl
set_option maxRecDepth 100000 in
theorem cw_77 : qcP 77 := qTs_mem (i := 716) (w := .code yX6_withoutFirst cX6_withoutFirst 2 none) rfl rfl
set_option maxRecDepth 100000 in
theorem cw_78 : qcP 78 := qTs_mem (i := 328) (w := .code yX7_init cX7_init 1 none) rfl rfl
set_option maxRecDepth 100000 in
theorem cw_79 : qcP 79 := qTs_mem (i := 550) (w := .code yX7_clear cX7_clear 1 none) rfl rfl
set_option maxRecDepth 100000 in
theorem cw_80 : qcP 80 := qTs_mem (i := 745) (w := .code yX7_copy cX7_copy 2 none) rfl rfl
set_option maxRecDepth 100000 in
theorem cw_81 : qcP 81 := qTs_mem (i := 787) (w := .code yX7_cell cX7_cell 4 (some .int)) rfl rfl
set_option maxRecDepth 100000 in
theorem cw_82 : qcP 82 := qTs_mem (i := 612) (w := .code yX7_load cX7_load 3 none) rfl rfl
set_option maxRecDepth 100000 in
theorem cw_83 : qcP 83 := qTs_mem (i := 754) (w := .code yX7_store cX7_store 3 none) rfl rfl
set_option maxRecDepth 100000 in
theorem cw_84 : qcP 84 := qTs_mem (i := 803) (w := .code yX7_exchange cX7_exchange 6 none) rfl rfl
set_option maxRecDepth 100000 in
theorem cw_85 : qcP 85 := qTs_mem (i := 758) (w := .code yX7_note cX7_note 3 none) rfl rfl
set_option maxRecDepth 100000 in
theorem cw_86 : qcP 86 := qTs_mem (i := 868) (w := .code yX7_noted cX7_noted 4 (some .int)) rfl rfl
set_option maxRecDepth 100000 in
theorem cw_87 : qcP 87 := qTs_mem (i := 783) (w := .code yX7_firstNotZero cX7_firstNotZero 3 (some .int)) rfl rfl
set_option maxRecDepth 100000 in
theorem cw_88 : qcP 88 := qTs_mem (i := 838) (w := .code yX7_filled cX7_filled 1 (some .int)) rfl rfl
set_option maxRecDepth 100000 in
theorem cw_89 : qcP 89 := qTs_mem (i := 842) (w := .code yX7_filledBits cX7_filledBits 3 (some .int)) rfl rfl
set_option maxRecDepth 100000 in
theorem cw_90 : qcP 90 := qTs_mem (i := 974) (w := .code yX7_longest cX7_longest 3 (some .int)) rfl rfl
set_option maxRecDepth 100000 in
theorem cw_91 : qcP 91 := qTs_mem (i := 978) (w := .code yX7_deepest cX7_deepest 4 (some .int)) rfl rfl
set_option maxRecDepth 100000 in
theorem cw_92 : qcP 92 := qTs_mem (i := 983) (w := .code yX7_knownInAll cX7_knownInAll 3 (some .int)) rfl rfl
set_option maxRecDepth 100000 in
theorem cw_93 : qcP 93 := qTs_mem (i := 987) (w := .code yX7_notZeroInAll cX7_notZeroInAll 4 (some .int)) rfl rfl
set_option maxRecDepth 100000 in
theorem cw_94 : qcP 94 := qTs_mem (i := 991) (w := .code yX7_greatest cX7_greatest 4 (some .int)) rfl rfl
set_option maxRecDepth 100000 in
theorem cw_95 : qcP 95 := qTs_mem (i := 996) (w := .code yX7_zeroFirstBits cX7_zeroFirstBits 3 (some .int)) rfl rfl
set_option maxRecDepth 100000 in
theorem cw_96 : qcP 96 := qTs_mem (i := 157) (w := .code yX8_init cX8_init 1 none) rfl rfl
set_option maxRecDepth 100000 in
theorem cw_97 : qcP 97 := qTs_mem (i := 430) (w := .code yX8_take cX8_take 4 none) rfl rfl
set_option maxRecDepth 100000 in
theorem cw_98 : qcP 98 := qTs_mem (i := 149) (w := .code yX9_init cX9_init 1 none) rfl rfl
set_option maxRecDepth 100000 in
theorem cw_99 : qcP 99 := qTs_mem (i := 423) (w := .code yX9_feed cX9_feed 7 (some .int)) rfl rfl
set_option maxRecDepth 100000 in
theorem cw_100 : qcP 100 := qTs_mem (i := 434) (w := .code yX9_end cX9_end 2 (some .boolean)) rfl rfl
set_option maxRecDepth 100000 in
theorem cw_101 : qcP 101 := qTs_mem (i := 438) (w := .code yX9_fault cX9_fault 2 (some .int)) rfl rfl
set_option maxRecDepth 100000 in
theorem cw_102 : qcP 102 := qTs_mem (i := 538) (w := .code yX9_text cX9_text 2 (some .int)) rfl rfl
set_option maxRecDepth 100000 in
theorem cw_103 : qcP 103 := qTs_mem (i := 574) (w := .code yX9_rule cX9_rule 2 (some .int)) rfl rfl
set_option maxRecDepth 100000 in
theorem cw_104 : qcP 104 := qTs_mem (i := 578) (w := .code yX9_step cX9_step 2 (some .int)) rfl rfl
set_option maxRecDepth 100000 in
theorem cw_105 : qcP 105 := qTs_mem (i := 762) (w := .code yX9_would cX9_would 3 (some .int)) rfl rfl
set_option maxRecDepth 100000 in
theorem cw_106 : qcP 106 := qTs_mem (i := 767) (w := .code yX9_why cX9_why 1 (some .int)) rfl rfl
set_option maxRecDepth 100000 in
theorem cw_107 : qcP 107 := qTs_mem (i := 771) (w := .code yX9_known cX9_known 2 (some .int)) rfl rfl
set_option maxRecDepth 100000 in
theorem cw_108 : qcP 108 := qTs_mem (i := 1016) (w := .code yX9_coefficient cX9_coefficient 3 (some .int)) rfl rfl
set_option maxRecDepth 100000 in
theorem cw_109 : qcP 109 := qTs_mem (i := 775) (w := .code yX9_order cX9_order 2 (some .int)) rfl rfl
set_option maxRecDepth 100000 in
theorem cw_110 : qcP 110 := qTs_mem (i := 791) (w := .code yX9_cut cX9_cut 4 (some .int)) rfl rfl
set_option maxRecDepth 100000 in
theorem cw_111 : qcP 111 := qTs_mem (i := 795) (w := .code yX9_drop cX9_drop 3 (some .int)) rfl rfl
set_option maxRecDepth 100000 in
theorem cw_112 : qcP 112 := qTs_mem (i := 799) (w := .code yX9_swap cX9_swap 3 (some .int)) rfl rfl
set_option maxRecDepth 100000 in
theorem cw_113 : qcP 113 := qTs_mem (i := 807) (w := .code yX9_perform cX9_perform 4 (some .int)) rfl rfl
set_option maxRecDepth 100000 in
theorem cw_114 : qcP 114 := qTs_mem (i := 820) (w := .code yX9_years cX9_years 5 (some .int)) rfl rfl
set_option maxRecDepth 100000 in
theorem cw_115 : qcP 115 := qTs_mem (i := 852) (w := .code yX9_status cX9_status 2 (some .int)) rfl rfl
set_option maxRecDepth 100000 in
theorem cw_116 : qcP 116 := qTs_mem (i := 856) (w := .code yX9_undo cX9_undo 1 (some .int)) rfl rfl
set_option maxRecDepth 100000 in
theorem cw_117 : qcP 117 := qTs_mem (i := 864) (w := .code yX9_log cX9_log 3 (some .int)) rfl rfl
set_option maxRecDepth 100000 in
theorem cw_118 : qcP 118 := qTs_mem (i := 873) (w := .code yX9_alike cX9_alike 5 (some .int)) rfl rfl
set_option maxRecDepth 100000 in
theorem cw_119 : qcP 119 := qTs_mem (i := 879) (w := .code yX9_value cX9_value 3 (some .int)) rfl rfl
set_option maxRecDepth 100000 in
theorem cw_120 : qcP 120 := qTs_mem (i := 888) (w := .code yX9_newton cX9_newton 5 (some .int)) rfl rfl
set_option maxRecDepth 100000 in
theorem cw_121 : qcP 121 := qTs_mem (i := 893) (w := .code yX9_solve cX9_solve 8 (some .int)) rfl rfl
set_option maxRecDepth 100000 in
theorem cw_122 : qcP 122 := qTs_mem (i := 918) (w := .code yX9_starts cX9_starts 9 (some .int)) rfl rfl
set_option maxRecDepth 100000 in
theorem cw_123 : qcP 123 := qTs_mem (i := 922) (w := .code yX9_recur cX9_recur 5 (some .int)) rfl rfl
set_option maxRecDepth 100000 in
theorem cw_124 : qcP 124 := qTs_mem (i := 941) (w := .code yX9_one cX9_one 2 (some .int)) rfl rfl
set_option maxRecDepth 100000 in
theorem cw_125 : qcP 125 := qTs_mem (i := 953) (w := .code yX9_sums cX9_sums 5 (some .int)) rfl rfl
set_option maxRecDepth 100000 in
theorem cw_126 : qcP 126 := qTs_mem (i := 961) (w := .code yX9_run cX9_run 5 (some .int)) rfl rfl
set_option maxRecDepth 100000 in
theorem cw_127 : qcP 127 := qTs_mem (i := 965) (w := .code yX9_target cX9_target 4 (some .int)) rfl rfl
set_option maxRecDepth 100000 in
theorem cw_128 : qcP 128 := qTs_mem (i := 969) (w := .code yX9_most cX9_most 2 (some .int)) rfl rfl
set_option maxRecDepth 100000 in
theorem cw_129 : qcP 129 := qTs_mem (i := 1000) (w := .code yX9_image cX9_image 1 (some .int)) rfl rfl
set_option maxRecDepth 100000 in
theorem cw_130 : qcP 130 := qTs_mem (i := 1004) (w := .code yX9_back cX9_back 1 (some .int)) rfl rfl
set_option maxRecDepth 100000 in
theorem cw_131 : qcP 131 := qTs_mem (i := 1008) (w := .code yX9_count cX9_count 2 (some .int)) rfl rfl
set_option maxRecDepth 100000 in
theorem cw_132 : qcP 132 := qTs_mem (i := 426) (w := .code yX9_bytesIn cX9_bytesIn 3 (some .int)) rfl rfl
set_option maxRecDepth 100000 in
theorem cw_133 : qcP 133 := qTs_mem (i := 542) (w := .code yX9_takeRing cX9_takeRing 1 (some .int)) rfl rfl
set_option maxRecDepth 100000 in
theorem cw_134 : qcP 134 := qTs_mem (i := 561) (w := .code yX9_takeScript cX9_takeScript 1 (some .int)) rfl rfl
set_option maxRecDepth 100000 in
theorem cw_135 : qcP 135 := qTs_mem (i := 779) (w := .code yX9_lengthOf cX9_lengthOf 2 (some .int)) rfl rfl
set_option maxRecDepth 100000 in
theorem cw_136 : qcP 136 := qTs_mem (i := 811) (w := .code yX9_scriptOf cX9_scriptOf 2 (some (.object "SeriesDesk$Code"))) rfl rfl
set_option maxRecDepth 100000 in
theorem cw_137 : qcP 137 := qTs_mem (i := 732) (w := .code yX9_refuse cX9_refuse 2 (some .int)) rfl rfl
set_option maxRecDepth 100000 in
theorem cw_138 : qcP 138 := qTs_mem (i := 582) (w := .code yX9_tapeReason cX9_tapeReason 1 (some .int)) rfl rfl
set_option maxRecDepth 100000 in
theorem cw_139 : qcP 139 := qTs_mem (i := 736) (w := .code yX9_settle cX9_settle 2 (some .int)) rfl rfl
set_option maxRecDepth 100000 in
theorem cw_140 : qcP 140 := qTs_mem (i := 815) (w := .code yX9_rehearse cX9_rehearse 4 (some .int)) rfl rfl
set_option maxRecDepth 100000 in
theorem cw_141 : qcP 141 := qTs_mem (i := 829) (w := .code yX9_draw cX9_draw 2 (some .int)) rfl rfl
set_option maxRecDepth 100000 in
theorem cw_142 : qcP 142 := qTs_mem (i := 824) (w := .code yX9_draftYear cX9_draftYear 2 none) rfl rfl
set_option maxRecDepth 100000 in
theorem cw_143 : qcP 143 := qTs_mem (i := 897) (w := .code yX9_gather cX9_gather 5 (some .boolean)) rfl rfl
set_option maxRecDepth 100000 in
theorem cw_144 : qcP 144 := qTs_mem (i := 901) (w := .code yX9_gatherOne cX9_gatherOne 3 (some .boolean)) rfl rfl
set_option maxRecDepth 100000 in
theorem cw_145 : qcP 145 := qTs_mem (i := 1087) (w := .code yX10_init cX10_init 1 none) rfl rfl
set_option maxRecDepth 100000 in
theorem cw_146 : qcP 146 := qTs_mem (i := 1186) (w := .code yX10_thrown cX10_thrown 1 (some .int)) rfl rfl
set_option maxRecDepth 100000 in
theorem cw_147 : qcP 147 := qTs_mem (i := 1209) (w := .code yX10_isIn cX10_isIn 6 (some .boolean)) rfl rfl
set_option maxRecDepth 100000 in
theorem cw_148 : qcP 148 := qTs_mem (i := 1284) (w := .code yX10_has cX10_has 2 (some .boolean)) rfl rfl
set_option maxRecDepth 100000 in
theorem cw_149 : qcP 149 := qTs_mem (i := 1193) (w := .code yX10_bytesOf cX10_bytesOf 3 (some .int)) rfl rfl
set_option maxRecDepth 100000 in
theorem cw_150 : qcP 150 := qTs_mem (i := 1197) (w := .code yX10_brings cX10_brings 4 none) rfl rfl
set_option maxRecDepth 100000 in
theorem cw_151 : qcP 151 := qTs_mem (i := 1190) (w := .code yX10_feed cX10_feed 6 (some .int)) rfl rfl
set_option maxRecDepth 100000 in
theorem cw_152 : qcP 152 := qTs_mem (i := 1201) (w := .code yX10_end cX10_end 2 (some .boolean)) rfl rfl
set_option maxRecDepth 100000 in
theorem cw_153 : qcP 153 := qTs_mem (i := 1225) (w := .code yX10_here cX10_here 1 (some .int)) rfl rfl
set_option maxRecDepth 100000 in
theorem cw_154 : qcP 154 := qTs_mem (i := 1221) (w := .code yX10_look cX10_look 1 (some .int)) rfl rfl
set_option maxRecDepth 100000 in
theorem cw_155 : qcP 155 := qTs_mem (i := 1229) (w := .code yX10_fails cX10_fails 1 none) rfl rfl
set_option maxRecDepth 100000 in
theorem cw_156 : qcP 156 := qTs_mem (i := 1292) (w := .code yX10_isDigit cX10_isDigit 1 (some .boolean)) rfl rfl
set_option maxRecDepth 100000 in
theorem cw_157 : qcP 157 := qTs_mem (i := 1233) (w := .code yX10_spotOf cX10_spotOf 3 (some .int)) rfl rfl
set_option maxRecDepth 100000 in
theorem cw_158 : qcP 158 := qTs_mem (i := 1295) (w := .code yX10_isPrime cX10_isPrime 2 (some .boolean)) rfl rfl
set_option maxRecDepth 100000 in
theorem cw_159 : qcP 159 := qTs_mem (i := 1288) (w := .code yX10_number cX10_number 7 (some .int)) rfl rfl
set_option maxRecDepth 100000 in
theorem cw_160 : qcP 160 := qTs_mem (i := 1217) (w := .code yX10_sign cX10_sign 2 none) rfl rfl
set_option maxRecDepth 100000 in
theorem cw_161 : qcP 161 := qTs_mem (i := 1213) (w := .code yX10_readRing cX10_readRing 3 none) rfl rfl
set_option maxRecDepth 100000 in
theorem cw_162 : qcP 162 := qTs_mem (i := 1333) (w := .code yX10_says cX10_says 4 none) rfl rfl
set_option maxRecDepth 100000 in
theorem cw_163 : qcP 163 := qTs_mem (i := 1324) (w := .code yX10_opens cX10_opens 1 none) rfl rfl
set_option maxRecDepth 100000 in
theorem cw_164 : qcP 164 := qTs_mem (i := 1328) (w := .code yX10_shuts cX10_shuts 1 none) rfl rfl
set_option maxRecDepth 100000 in
theorem cw_165 : qcP 165 := qTs_mem (i := 1308) (w := .code yX10_expression cX10_expression 2 none) rfl rfl
set_option maxRecDepth 100000 in
theorem cw_166 : qcP 166 := qTs_mem (i := 1312) (w := .code yX10_term cX10_term 2 none) rfl rfl
set_option maxRecDepth 100000 in
theorem cw_167 : qcP 167 := qTs_mem (i := 1316) (w := .code yX10_power cX10_power 1 none) rfl rfl
set_option maxRecDepth 100000 in
theorem cw_168 : qcP 168 := qTs_mem (i := 1320) (w := .code yX10_atom cX10_atom 4 none) rfl rfl
set_option maxRecDepth 100000 in
theorem cw_169 : qcP 169 := qTs_mem (i := 1337) (w := .code yX10_made cX10_made 3 none) rfl rfl
set_option maxRecDepth 100000 in
theorem cw_170 : qcP 170 := qTs_mem (i := 1342) (w := .code yX10_placed cX10_placed 2 none) rfl rfl
set_option maxRecDepth 100000 in
theorem cw_171 : qcP 171 := qTs_mem (i := 1303) (w := .code yX10_readStep cX10_readStep 3 none) rfl rfl
set_option maxRecDepth 100000 in
theorem cw_172 : qcP 172 := qTs_mem (i := 1299) (w := .code yX10_readScript cX10_readScript 3 none) rfl rfl
set_option maxRecDepth 100000 in
theorem cw_173 : qcP 173 := qTs_mem (i := 1346) (w := .code yX10_readOne cX10_readOne 1 none) rfl rfl
set_option maxRecDepth 100000 in
theorem cw_174 : qcP 174 := qTs_mem (i := 1205) (w := .code yX10_fault cX10_fault 2 (some .int)) rfl rfl
set_option maxRecDepth 100000 in
theorem cw_175 : qcP 175 := qTs_mem (i := 1355) (w := .code yX10_copyStep cX10_copyStep 4 none) rfl rfl
set_option maxRecDepth 100000 in
theorem cw_176 : qcP 176 := qTs_mem (i := 1350) (w := .code yX10_text cX10_text 3 (some .int)) rfl rfl
set_option maxRecDepth 100000 in
theorem cw_177 : qcP 177 := qTs_mem (i := 1507) (w := .code yX10_copyRow cX10_copyRow 5 none) rfl rfl
set_option maxRecDepth 100000 in
theorem cw_178 : qcP 178 := qTs_mem (i := 1377) (w := .code yX10_by cX10_by 5 (some .int)) rfl rfl
set_option maxRecDepth 100000 in
theorem cw_179 : qcP 179 := qTs_mem (i := 1436) (w := .code yX10_inverse cX10_inverse 4 (some .int)) rfl rfl
set_option maxRecDepth 100000 in
theorem cw_180 : qcP 180 := qTs_mem (i := 1405) (w := .code yX10_long0 cX10_long0 2 (some .int)) rfl rfl
set_option maxRecDepth 100000 in
theorem cw_181 : qcP 181 := qTs_mem (i := 1385) (w := .code yX10_longs cX10_longs 3 none) rfl rfl
set_option maxRecDepth 100000 in
theorem cw_182 : qcP 182 := qTs_mem (i := 1409) (w := .code yX10_c cX10_c 3 (some .int)) rfl rfl
set_option maxRecDepth 100000 in
theorem cw_183 : qcP 183 := qTs_mem (i := 1389) (w := .code yX10_sets cX10_sets 4 none) rfl rfl
set_option maxRecDepth 100000 in
theorem cw_184 : qcP 184 := qTs_mem (i := 1420) (w := .code yX10_copies cX10_copies 4 none) rfl rfl
set_option maxRecDepth 100000 in
theorem cw_185 : qcP 185 := qTs_mem (i := 1401) (w := .code yX10_orderOf cX10_orderOf 3 (some .int)) rfl rfl
set_option maxRecDepth 100000 in
theorem cw_186 : qcP 186 := qTs_mem (i := 1412) (w := .code yX10_least cX10_least 2 (some .int)) rfl rfl
set_option maxRecDepth 100000 in
theorem cw_187 : qcP 187 := qTs_mem (i := 1381) (w := .code yX10_numbers cX10_numbers 4 none) rfl rfl
set_option maxRecDepth 100000 in
theorem cw_188 : qcP 188 := qTs_mem (i := 1416) (w := .code yX10_placeOf cX10_placeOf 7 (some .long)) rfl rfl
set_option maxRecDepth 100000 in
theorem cw_189 : qcP 189 := qTs_mem (i := 1397) (w := .code yX10_multiplies cX10_multiplies 6 none) rfl rfl
set_option maxRecDepth 100000 in
theorem cw_190 : qcP 190 := qTs_mem (i := 1432) (w := .code yX10_inverts cX10_inverts 6 none) rfl rfl
set_option maxRecDepth 100000 in
theorem cw_191 : qcP 191 := qTs_mem (i := 1428) (w := .code yX10_shifts cX10_shifts 5 none) rfl rfl
set_option maxRecDepth 100000 in
theorem cw_192 : qcP 192 := qTs_mem (i := 1484) (w := .code yX10_cuts cX10_cuts 6 none) rfl rfl
set_option maxRecDepth 100000 in
theorem cw_193 : qcP 193 := qTs_mem (i := 1444) (w := .code yX10_blanks cX10_blanks 4 none) rfl rfl
set_option maxRecDepth 100000 in
theorem cw_194 : qcP 194 := qTs_mem (i := 1496) (w := .code yX10_raises cX10_raises 6 none) rfl rfl
set_option maxRecDepth 100000 in
theorem cw_195 : qcP 195 := qTs_mem (i := 1424) (w := .code yX10_divides cX10_divides 3 (some .int)) rfl rfl
set_option maxRecDepth 100000 in
theorem cw_196 : qcP 196 := qTs_mem (i := 1456) (w := .code yX10_powers cX10_powers 4 (some .int)) rfl rfl
set_option maxRecDepth 100000 in
theorem cw_197 : qcP 197 := qTs_mem (i := 1460) (w := .code yX10_derives cX10_derives 4 (some .int)) rfl rfl
set_option maxRecDepth 100000 in
theorem cw_198 : qcP 198 := qTs_mem (i := 1464) (w := .code yX10_integrates cX10_integrates 4 (some .int)) rfl rfl
set_option maxRecDepth 100000 in
theorem cw_199 : qcP 199 := qTs_mem (i := 1468) (w := .code yX10_logarithm cX10_logarithm 3 (some .int)) rfl rfl
set_option maxRecDepth 100000 in
theorem cw_200 : qcP 200 := qTs_mem (i := 1472) (w := .code yX10_exponential cX10_exponential 7 (some .int)) rfl rfl
set_option maxRecDepth 100000 in
theorem cw_201 : qcP 201 := qTs_mem (i := 1480) (w := .code yX10_within cX10_within 7 (some .int)) rfl rfl
set_option maxRecDepth 100000 in
theorem cw_202 : qcP 202 := qTs_mem (i := 1476) (w := .code yX10_reverses cX10_reverses 5 (some .int)) rfl rfl
set_option maxRecDepth 100000 in
theorem cw_203 : qcP 203 := qTs_mem (i := 1492) (w := .code yX10_raised cX10_raised 5 (some .int)) rfl rfl
set_option maxRecDepth 100000 in
theorem cw_204 : qcP 204 := qTs_mem (i := 1488) (w := .code yX10_roots cX10_roots 6 (some .int)) rfl rfl
set_option maxRecDepth 100000 in
theorem cw_205 : qcP 205 := qTs_mem (i := 1440) (w := .code yX10_composes cX10_composes 6 (some .int)) rfl rfl
set_option maxRecDepth 100000 in
theorem cw_206 : qcP 206 := qTs_mem (i := 1448) (w := .code yX10_joins cX10_joins 7 (some .int)) rfl rfl
set_option maxRecDepth 100000 in
theorem cw_207 : qcP 207 := qTs_mem (i := 1393) (w := .code yX10_pairs cX10_pairs 3 (some .int)) rfl rfl
set_option maxRecDepth 100000 in
theorem cw_208 : qcP 208 := qTs_mem (i := 1452) (w := .code yX10_alone cX10_alone 4 (some .int)) rfl rfl
set_option maxRecDepth 100000 in
theorem cw_209 : qcP 209 := qTs_mem (i := 1373) (w := .code yX10_pushes cX10_pushes 6 (some .int)) rfl rfl
set_option maxRecDepth 100000 in
theorem cw_210 : qcP 210 := qTs_mem (i := 1367) (w := .code yX10_works cX10_works 8 (some .int)) rfl rfl
set_option maxRecDepth 100000 in
theorem cw_211 : qcP 211 := qTs_mem (i := 1519) (w := .code yX10_remember cX10_remember 1 none) rfl rfl
set_option maxRecDepth 100000 in
theorem cw_212 : qcP 212 := qTs_mem (i := 1515) (w := .code yX10_notes cX10_notes 5 none) rfl rfl
set_option maxRecDepth 100000 in
theorem cw_213 : qcP 213 := qTs_mem (i := 1500) (w := .code yX10_refuses cX10_refuses 2 (some .int)) rfl rfl
set_option maxRecDepth 100000 in
theorem cw_214 : qcP 214 := qTs_mem (i := 1540) (w := .code yX10_isRegister cX10_isRegister 2 (some .boolean)) rfl rfl
set_option maxRecDepth 100000 in
theorem cw_215 : qcP 215 := qTs_mem (i := 1549) (w := .code yX10_isFull cX10_isFull 2 (some .boolean)) rfl rfl
set_option maxRecDepth 100000 in
theorem cw_216 : qcP 216 := qTs_mem (i := 1511) (w := .code yX10_does cX10_does 5 (some .int)) rfl rfl
set_option maxRecDepth 100000 in
theorem cw_217 : qcP 217 := qTs_mem (i := 1504) (w := .code yX10_tries cX10_tries 3 (some .int)) rfl rfl
set_option maxRecDepth 100000 in
theorem cw_218 : qcP 218 := qTs_mem (i := 1363) (w := .code yX10_reason cX10_reason 1 (some .int)) rfl rfl
set_option maxRecDepth 100000 in
theorem cw_219 : qcP 219 := qTs_mem (i := 1359) (w := .code yX10_step cX10_step 2 (some .int)) rfl rfl
set_option maxRecDepth 100000 in
theorem cw_220 : qcP 220 := qTs_mem (i := 1523) (w := .code yX10_would cX10_would 2 (some .int)) rfl rfl
set_option maxRecDepth 100000 in
theorem cw_221 : qcP 221 := qTs_mem (i := 1528) (w := .code yX10_why cX10_why 1 (some .int)) rfl rfl
set_option maxRecDepth 100000 in
theorem cw_222 : qcP 222 := qTs_mem (i := 1532) (w := .code yX10_rule cX10_rule 2 (some .int)) rfl rfl
set_option maxRecDepth 100000 in
theorem cw_223 : qcP 223 := qTs_mem (i := 1536) (w := .code yX10_known cX10_known 2 (some .int)) rfl rfl
set_option maxRecDepth 100000 in
theorem cw_224 : qcP 224 := qTs_mem (i := 1545) (w := .code yX10_coefficient cX10_coefficient 3 (some .int)) rfl rfl
set_option maxRecDepth 100000 in
theorem cw_225 : qcP 225 := qTs_mem (i := 1557) (w := .code yX10_loads cX10_loads 4 none) rfl rfl
set_option maxRecDepth 100000 in
theorem cw_226 : qcP 226 := qTs_mem (i := 1553) (w := .code yX10_order cX10_order 2 (some .int)) rfl rfl
set_option maxRecDepth 100000 in
theorem cw_227 : qcP 227 := qTs_mem (i := 1561) (w := .code yX10_cut cX10_cut 5 (some .int)) rfl rfl
set_option maxRecDepth 100000 in
theorem cw_228 : qcP 228 := qTs_mem (i := 1565) (w := .code yX10_drop cX10_drop 4 (some .int)) rfl rfl
set_option maxRecDepth 100000 in
theorem cw_229 : qcP 229 := qTs_mem (i := 1569) (w := .code yX10_swap cX10_swap 5 (some .int)) rfl rfl
set_option maxRecDepth 100000 in
theorem cw_230 : qcP 230 := qTs_mem (i := 1577) (w := .code yX10_isScript cX10_isScript 2 (some .boolean)) rfl rfl
set_option maxRecDepth 100000 in
theorem cw_231 : qcP 231 := qTs_mem (i := 1581) (w := .code yX10_goes cX10_goes 3 (some .int)) rfl rfl
set_option maxRecDepth 100000 in
theorem cw_232 : qcP 232 := qTs_mem (i := 1573) (w := .code yX10_perform cX10_perform 3 (some .int)) rfl rfl
set_option maxRecDepth 100000 in
theorem cw_233 : qcP 233 := qTs_mem (i := 1585) (w := .code yX10_run cX10_run 4 (some .int)) rfl rfl
set_option maxRecDepth 100000 in
theorem cw_234 : qcP 234 := qTs_mem (i := 1589) (w := .code yX10_target cX10_target 3 (some .int)) rfl rfl
set_option maxRecDepth 100000 in
theorem cw_235 : qcP 235 := qTs_mem (i := 1602) (w := .code yX10_draw cX10_draw 2 (some .int)) rfl rfl
set_option maxRecDepth 100000 in
theorem cw_236 : qcP 236 := qTs_mem (i := 1598) (w := .code yX10_drawn cX10_drawn 2 none) rfl rfl
set_option maxRecDepth 100000 in
theorem cw_237 : qcP 237 := qTs_mem (i := 1608) (w := .code yX10_many cX10_many 3 (some .int)) rfl rfl
set_option maxRecDepth 100000 in
theorem cw_238 : qcP 238 := qTs_mem (i := 1593) (w := .code yX10_years cX10_years 6 (some .int)) rfl rfl
set_option maxRecDepth 100000 in
theorem cw_239 : qcP 239 := qTs_mem (i := 1612) (w := .code yX10_status cX10_status 2 (some .int)) rfl rfl
set_option maxRecDepth 100000 in
theorem cw_240 : qcP 240 := qTs_mem (i := 1617) (w := .code yX10_undo cX10_undo 1 (some .int)) rfl rfl
set_option maxRecDepth 100000 in
theorem cw_241 : qcP 241 := qTs_mem (i := 1621) (w := .code yX10_log cX10_log 3 (some .int)) rfl rfl
set_option maxRecDepth 100000 in
theorem cw_242 : qcP 242 := qTs_mem (i := 1625) (w := .code yX10_image cX10_image 1 (some .int)) rfl rfl
set_option maxRecDepth 100000 in
theorem cw_243 : qcP 243 := qTs_mem (i := 1629) (w := .code yX10_back cX10_back 1 (some .int)) rfl rfl
set_option maxRecDepth 100000 in
theorem cw_244 : qcP 244 := qTs_mem (i := 1633) (w := .code yX10_alike cX10_alike 5 (some .int)) rfl rfl
set_option maxRecDepth 100000 in
theorem cw_245 : qcP 245 := qTs_mem (i := 1637) (w := .code yX10_value cX10_value 5 (some .int)) rfl rfl
set_option maxRecDepth 100000 in
theorem cw_246 : qcP 246 := qTs_mem (i := 1642) (w := .code yX10_newton cX10_newton 5 (some .int)) rfl rfl
set_option maxRecDepth 100000 in
theorem cw_247 : qcP 247 := qTs_mem (i := 1651) (w := .code yX10_laysFour cX10_laysFour 5 (some .boolean)) rfl rfl
set_option maxRecDepth 100000 in
theorem cw_248 : qcP 248 := qTs_mem (i := 1655) (w := .code yX10_laysOne cX10_laysOne 3 (some .boolean)) rfl rfl
set_option maxRecDepth 100000 in
theorem cw_249 : qcP 249 := qTs_mem (i := 1663) (w := .code yX10_slopeAt cX10_slopeAt 2 (some .int)) rfl rfl
set_option maxRecDepth 100000 in
theorem cw_250 : qcP 250 := qTs_mem (i := 1659) (w := .code yX10_isStart cX10_isStart 4 (some .boolean)) rfl rfl
set_option maxRecDepth 100000 in
theorem cw_251 : qcP 251 := qTs_mem (i := 1667) (w := .code yX10_missing cX10_missing 2 (some .int)) rfl rfl
set_option maxRecDepth 100000 in
theorem cw_252 : qcP 252 := qTs_mem (i := 1647) (w := .code yX10_solve cX10_solve 10 (some .int)) rfl rfl
set_option maxRecDepth 100000 in
theorem cw_253 : qcP 253 := qTs_mem (i := 1671) (w := .code yX10_starts cX10_starts 9 (some .int)) rfl rfl
set_option maxRecDepth 100000 in
theorem cw_254 : qcP 254 := qTs_mem (i := 1683) (w := .code yX10_grid cX10_grid 3 (some .int)) rfl rfl
set_option maxRecDepth 100000 in
theorem cw_255 : qcP 255 := qTs_mem (i := 1691) (w := .code yX10_clears cX10_clears 7 none) rfl rfl
set_option maxRecDepth 100000 in
theorem cw_256 : qcP 256 := qTs_mem (i := 1687) (w := .code yX10_changes cX10_changes 6 none) rfl rfl
set_option maxRecDepth 100000 in
theorem cw_257 : qcP 257 := qTs_mem (i := 1679) (w := .code yX10_brings_ cX10_brings_ 8 (some .boolean)) rfl rfl
set_option maxRecDepth 100000 in
theorem cw_258 : qcP 258 := qTs_mem (i := 1675) (w := .code yX10_recur cX10_recur 5 (some .int)) rfl rfl
set_option maxRecDepth 100000 in
theorem cw_259 : qcP 259 := qTs_mem (i := 1695) (w := .code yX10_one cX10_one 6 (some .int)) rfl rfl
set_option maxRecDepth 100000 in
theorem cw_260 : qcP 260 := qTs_mem (i := 1699) (w := .code yX10_sums cX10_sums 5 (some .int)) rfl rfl
set_option maxRecDepth 100000 in
theorem cw_261 : qcP 261 := qTs_mem (i := 1711) (w := .code yX10_bestOf cX10_bestOf 6 (some .int)) rfl rfl
set_option maxRecDepth 100000 in
theorem cw_262 : qcP 262 := qTs_mem (i := 1715) (w := .code yX10_coefficients cX10_coefficients 5 (some .int)) rfl rfl
set_option maxRecDepth 100000 in
theorem cw_263 : qcP 263 := qTs_mem (i := 1719) (w := .code yX10_greatest cX10_greatest 4 (some .int)) rfl rfl
set_option maxRecDepth 100000 in
theorem cw_264 : qcP 264 := qTs_mem (i := 1707) (w := .code yX10_those cX10_those 4 (some .int)) rfl rfl
set_option maxRecDepth 100000 in
theorem cw_265 : qcP 265 := qTs_mem (i := 1703) (w := .code yX10_most cX10_most 2 (some .int)) rfl rfl
set_option maxRecDepth 100000 in
theorem cw_266 : qcP 266 := qTs_mem (i := 1723) (w := .code yX10_count cX10_count 2 (some .int)) rfl rfl
set_option maxRecDepth 100000 in
theorem cw_267 : qcP 267 := qTs_mem (i := 845) (w := .code yJ6_bitCount_0f7a4 cJ6_bitCount_0f7a4 1 (some .int)) rfl rfl
set_option maxRecDepth 100000 in
theorem cw_268 : qcP 268 := qTs_mem (i := 553) (w := .code yJ7_fill_53178 cJ7_fill_53178 4 none) rfl rfl
theorem qcode_16 : ∀ m, m < 16 → qcP m := lt_s (i := 15) (lt_s (i := 14) (lt_s (i := 13) (lt_s (i := 12) (lt_s (i := 11) (lt_s (i := 10) (lt_s (i := 9) (lt_s (i := 8) (lt_s (i := 7) (lt_s (i := 6) (lt_s (i := 5) (lt_s (i := 4) (lt_s (i := 3) (lt_s (i := 2) (lt_s (i := 1) (lt_s (i := 0) (lt_0) cw_0) cw_1) cw_2) cw_3) cw_4) cw_5) cw_6) cw_7) cw_8) cw_9) cw_10) cw_11) cw_12) cw_13) cw_14) cw_15
theorem qcode_32 : ∀ m, m < 32 → qcP m := lt_s (i := 31) (lt_s (i := 30) (lt_s (i := 29) (lt_s (i := 28) (lt_s (i := 27) (lt_s (i := 26) (lt_s (i := 25) (lt_s (i := 24) (lt_s (i := 23) (lt_s (i := 22) (lt_s (i := 21) (lt_s (i := 20) (lt_s (i := 19) (lt_s (i := 18) (lt_s (i := 17) (lt_s (i := 16) (qcode_16) cw_16) cw_17) cw_18) cw_19) cw_20) cw_21) cw_22) cw_23) cw_24) cw_25) cw_26) cw_27) cw_28) cw_29) cw_30) cw_31
theorem qcode_48 : ∀ m, m < 48 → qcP m := lt_s (i := 47) (lt_s (i := 46) (lt_s (i := 45) (lt_s (i := 44) (lt_s (i := 43) (lt_s (i := 42) (lt_s (i := 41) (lt_s (i := 40) (lt_s (i := 39) (lt_s (i := 38) (lt_s (i := 37) (lt_s (i := 36) (lt_s (i := 35) (lt_s (i := 34) (lt_s (i := 33) (lt_s (i := 32) (qcode_32) cw_32) cw_33) cw_34) cw_35) cw_36) cw_37) cw_38) cw_39) cw_40) cw_41) cw_42) cw_43) cw_44) cw_45) cw_46) cw_47
theorem qcode_64 : ∀ m, m < 64 → qcP m := lt_s (i := 63) (lt_s (i := 62) (lt_s (i := 61) (lt_s (i := 60) (lt_s (i := 59) (lt_s (i := 58) (lt_s (i := 57) (lt_s (i := 56) (lt_s (i := 55) (lt_s (i := 54) (lt_s (i := 53) (lt_s (i := 52) (lt_s (i := 51) (lt_s (i := 50) (lt_s (i := 49) (lt_s (i := 48) (qcode_48) cw_48) cw_49) cw_50) cw_51) cw_52) cw_53) cw_54) cw_55) cw_56) cw_57) cw_58) cw_59) cw_60) cw_61) cw_62) cw_63
theorem qcode_80 : ∀ m, m < 80 → qcP m := lt_s (i := 79) (lt_s (i := 78) (lt_s (i := 77) (lt_s (i := 76) (lt_s (i := 75) (lt_s (i := 74) (lt_s (i := 73) (lt_s (i := 72) (lt_s (i := 71) (lt_s (i := 70) (lt_s (i := 69) (lt_s (i := 68) (lt_s (i := 67) (lt_s (i := 66) (lt_s (i := 65) (lt_s (i := 64) (qcode_64) cw_64) cw_65) cw_66) cw_67) cw_68) cw_69) cw_70) cw_71) cw_72) cw_73) cw_74) cw_75) cw_76) cw_77) cw_78) cw_79
theorem qcode_96 : ∀ m, m < 96 → qcP m := lt_s (i := 95) (lt_s (i := 94) (lt_s (i := 93) (lt_s (i := 92) (lt_s (i := 91) (lt_s (i := 90) (lt_s (i := 89) (lt_s (i := 88) (lt_s (i := 87) (lt_s (i := 86) (lt_s (i := 85) (lt_s (i := 84) (lt_s (i := 83) (lt_s (i := 82) (lt_s (i := 81) (lt_s (i := 80) (qcode_80) cw_80) cw_81) cw_82) cw_83) cw_84) cw_85) cw_86) cw_87) cw_88) cw_89) cw_90) cw_91) cw_92) cw_93) cw_94) cw_95
theorem qcode_112 : ∀ m, m < 112 → qcP m := lt_s (i := 111) (lt_s (i := 110) (lt_s (i := 109) (lt_s (i := 108) (lt_s (i := 107) (lt_s (i := 106) (lt_s (i := 105) (lt_s (i := 104) (lt_s (i := 103) (lt_s (i := 102) (lt_s (i := 101) (lt_s (i := 100) (lt_s (i := 99) (lt_s (i := 98) (lt_s (i := 97) (lt_s (i := 96) (qcode_96) cw_96) cw_97) cw_98) cw_99) cw_100) cw_101) cw_102) cw_103) cw_104) cw_105) cw_106) cw_107) cw_108) cw_109) cw_110) cw_111
theorem qcode_128 : ∀ m, m < 128 → qcP m := lt_s (i := 127) (lt_s (i := 126) (lt_s (i := 125) (lt_s (i := 124) (lt_s (i := 123) (lt_s (i := 122) (lt_s (i := 121) (lt_s (i := 120) (lt_s (i := 119) (lt_s (i := 118) (lt_s (i := 117) (lt_s (i := 116) (lt_s (i := 115) (lt_s (i := 114) (lt_s (i := 113) (lt_s (i := 112) (qcode_112) cw_112) cw_113) cw_114) cw_115) cw_116) cw_117) cw_118) cw_119) cw_120) cw_121) cw_122) cw_123) cw_124) cw_125) cw_126) cw_127
theorem qcode_144 : ∀ m, m < 144 → qcP m := lt_s (i := 143) (lt_s (i := 142) (lt_s (i := 141) (lt_s (i := 140) (lt_s (i := 139) (lt_s (i := 138) (lt_s (i := 137) (lt_s (i := 136) (lt_s (i := 135) (lt_s (i := 134) (lt_s (i := 133) (lt_s (i := 132) (lt_s (i := 131) (lt_s (i := 130) (lt_s (i := 129) (lt_s (i := 128) (qcode_128) cw_128) cw_129) cw_130) cw_131) cw_132) cw_133) cw_134) cw_135) cw_136) cw_137) cw_138) cw_139) cw_140) cw_141) cw_142) cw_143
theorem qcode_160 : ∀ m, m < 160 → qcP m := lt_s (i := 159) (lt_s (i := 158) (lt_s (i := 157) (lt_s (i := 156) (lt_s (i := 155) (lt_s (i := 154) (lt_s (i := 153) (lt_s (i := 152) (lt_s (i := 151) (lt_s (i := 150) (lt_s (i := 149) (lt_s (i := 148) (lt_s (i := 147) (lt_s (i := 146) (lt_s (i := 145) (lt_s (i := 144) (qcode_144) cw_144) cw_145) cw_146) cw_147) cw_148) cw_149) cw_150) cw_151) cw_152) cw_153) cw_154) cw_155) cw_156) cw_157) cw_158) cw_159
theorem qcode_176 : ∀ m, m < 176 → qcP m := lt_s (i := 175) (lt_s (i := 174) (lt_s (i := 173) (lt_s (i := 172) (lt_s (i := 171) (lt_s (i := 170) (lt_s (i := 169) (lt_s (i := 168) (lt_s (i := 167) (lt_s (i := 166) (lt_s (i := 165) (lt_s (i := 164) (lt_s (i := 163) (lt_s (i := 162) (lt_s (i := 161) (lt_s (i := 160) (qcode_160) cw_160) cw_161) cw_162) cw_163) cw_164) cw_165) cw_166) cw_167) cw_168) cw_169) cw_170) cw_171) cw_172) cw_173) cw_174) cw_175
theorem qcode_192 : ∀ m, m < 192 → qcP m := lt_s (i := 191) (lt_s (i := 190) (lt_s (i := 189) (lt_s (i := 188) (lt_s (i := 187) (lt_s (i := 186) (lt_s (i := 185) (lt_s (i := 184) (lt_s (i := 183) (lt_s (i := 182) (lt_s (i := 181) (lt_s (i := 180) (lt_s (i := 179) (lt_s (i := 178) (lt_s (i := 177) (lt_s (i := 176) (qcode_176) cw_176) cw_177) cw_178) cw_179) cw_180) cw_181) cw_182) cw_183) cw_184) cw_185) cw_186) cw_187) cw_188) cw_189) cw_190) cw_191
theorem qcode_208 : ∀ m, m < 208 → qcP m := lt_s (i := 207) (lt_s (i := 206) (lt_s (i := 205) (lt_s (i := 204) (lt_s (i := 203) (lt_s (i := 202) (lt_s (i := 201) (lt_s (i := 200) (lt_s (i := 199) (lt_s (i := 198) (lt_s (i := 197) (lt_s (i := 196) (lt_s (i := 195) (lt_s (i := 194) (lt_s (i := 193) (lt_s (i := 192) (qcode_192) cw_192) cw_193) cw_194) cw_195) cw_196) cw_197) cw_198) cw_199) cw_200) cw_201) cw_202) cw_203) cw_204) cw_205) cw_206) cw_207
theorem qcode_224 : ∀ m, m < 224 → qcP m := lt_s (i := 223) (lt_s (i := 222) (lt_s (i := 221) (lt_s (i := 220) (lt_s (i := 219) (lt_s (i := 218) (lt_s (i := 217) (lt_s (i := 216) (lt_s (i := 215) (lt_s (i := 214) (lt_s (i := 213) (lt_s (i := 212) (lt_s (i := 211) (lt_s (i := 210) (lt_s (i := 209) (lt_s (i := 208) (qcode_208) cw_208) cw_209) cw_210) cw_211) cw_212) cw_213) cw_214) cw_215) cw_216) cw_217) cw_218) cw_219) cw_220) cw_221) cw_222) cw_223
theorem qcode_240 : ∀ m, m < 240 → qcP m := lt_s (i := 239) (lt_s (i := 238) (lt_s (i := 237) (lt_s (i := 236) (lt_s (i := 235) (lt_s (i := 234) (lt_s (i := 233) (lt_s (i := 232) (lt_s (i := 231) (lt_s (i := 230) (lt_s (i := 229) (lt_s (i := 228) (lt_s (i := 227) (lt_s (i := 226) (lt_s (i := 225) (lt_s (i := 224) (qcode_224) cw_224) cw_225) cw_226) cw_227) cw_228) cw_229) cw_230) cw_231) cw_232) cw_233) cw_234) cw_235) cw_236) cw_237) cw_238) cw_239
theorem qcode_256 : ∀ m, m < 256 → qcP m := lt_s (i := 255) (lt_s (i := 254) (lt_s (i := 253) (lt_s (i := 252) (lt_s (i := 251) (lt_s (i := 250) (lt_s (i := 249) (lt_s (i := 248) (lt_s (i := 247) (lt_s (i := 246) (lt_s (i := 245) (lt_s (i := 244) (lt_s (i := 243) (lt_s (i := 242) (lt_s (i := 241) (lt_s (i := 240) (qcode_240) cw_240) cw_241) cw_242) cw_243) cw_244) cw_245) cw_246) cw_247) cw_248) cw_249) cw_250) cw_251) cw_252) cw_253) cw_254) cw_255
theorem qcode_269 : ∀ m, m < 269 → qcP m := lt_s (i := 268) (lt_s (i := 267) (lt_s (i := 266) (lt_s (i := 265) (lt_s (i := 264) (lt_s (i := 263) (lt_s (i := 262) (lt_s (i := 261) (lt_s (i := 260) (lt_s (i := 259) (lt_s (i := 258) (lt_s (i := 257) (lt_s (i := 256) (qcode_256) cw_256) cw_257) cw_258) cw_259) cw_260) cw_261) cw_262) cw_263) cw_264) cw_265) cw_266) cw_267) cw_268
