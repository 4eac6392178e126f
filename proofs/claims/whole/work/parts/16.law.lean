theorem lk_L_13 : LinkV RL 13 yX10_lies cX10_lies 4 (some .long) 2 9 := mkLV _ (tG_mem 333 (by decide +kernel) rfl) (tG_mem 334 (by decide +kernel) rfl) (tG_mem 335 (by decide +kernel) rfl) (tG_mem 63 (by decide +kernel) rfl) (tG_mem 336 (by decide +kernel) rfl) ⟨by decide +kernel, by decide +kernel, by decide +kernel⟩ rfl rfl
theorem lk_L_17 : LinkV RL 17 yX11_lies cX11_lies 5 (some .long) 2 10 := mkLV _ (tG_mem 1013 (by decide +kernel) rfl) (tG_mem 1014 (by decide +kernel) rfl) (tG_mem 1015 (by decide +kernel) rfl) (tG_mem 74 (by decide +kernel) rfl) (tG_mem 1016 (by decide +kernel) rfl) ⟨by decide +kernel, by decide +kernel, by decide +kernel⟩ rfl rfl
theorem lk_L_18 : LinkV RL 18 yX10_within cX10_within 3 (some .long) 2 9 := mkLV _ (tG_mem 338 (by decide +kernel) rfl) (tG_mem 339 (by decide +kernel) rfl) (tG_mem 340 (by decide +kernel) rfl) (tG_mem 63 (by decide +kernel) rfl) (tG_mem 341 (by decide +kernel) rfl) ⟨by decide +kernel, by decide +kernel, by decide +kernel⟩ rfl rfl
theorem lk_L_21 : LinkV RL 21 yX11_within cX11_within 3 (some .long) 2 10 := mkLV _ (tG_mem 1022 (by decide +kernel) rfl) (tG_mem 1023 (by decide +kernel) rfl) (tG_mem 1024 (by decide +kernel) rfl) (tG_mem 74 (by decide +kernel) rfl) (tG_mem 1025 (by decide +kernel) rfl) ⟨by decide +kernel, by decide +kernel, by decide +kernel⟩ rfl rfl
theorem lk_L_22 : LinkV RL 22 yX10_likeness cX10_likeness 5 (some .long) 4 9 := mkLV _ (tG_mem 349 (by decide +kernel) rfl) (tG_mem 350 (by decide +kernel) rfl) (tG_mem 351 (by decide +kernel) rfl) (tG_mem 63 (by decide +kernel) rfl) (tG_mem 352 (by decide +kernel) rfl) ⟨by decide +kernel, by decide +kernel, by decide +kernel⟩ rfl rfl
theorem lk_L_26 : LinkV RL 26 yX11_likeness cX11_likeness 5 (some .long) 4 10 := mkLV _ (tG_mem 1033 (by decide +kernel) rfl) (tG_mem 1034 (by decide +kernel) rfl) (tG_mem 1035 (by decide +kernel) rfl) (tG_mem 74 (by decide +kernel) rfl) (tG_mem 1036 (by decide +kernel) rfl) ⟨by decide +kernel, by decide +kernel, by decide +kernel⟩ rfl rfl
theorem lk_L_27 : LinkV RL 27 yX10_holds cX10_holds 6 (some .long) 4 9 := mkLV _ (tG_mem 442 (by decide +kernel) rfl) (tG_mem 443 (by decide +kernel) rfl) (tG_mem 444 (by decide +kernel) rfl) (tG_mem 63 (by decide +kernel) rfl) (tG_mem 445 (by decide +kernel) rfl) ⟨by decide +kernel, by decide +kernel, by decide +kernel⟩ rfl rfl
theorem lk_L_30 : LinkV RL 30 yX11_holds cX11_holds 5 (some .long) 4 10 := mkLV _ (tG_mem 1041 (by decide +kernel) rfl) (tG_mem 1042 (by decide +kernel) rfl) (tG_mem 1043 (by decide +kernel) rfl) (tG_mem 74 (by decide +kernel) rfl) (tG_mem 1044 (by decide +kernel) rfl) ⟨by decide +kernel, by decide +kernel, by decide +kernel⟩ rfl rfl
theorem lk_L_31 : LinkV RL 31 yX10_doubt cX10_doubt 5 (some .long) 3 9 := mkLV _ (tG_mem 453 (by decide +kernel) rfl) (tG_mem 454 (by decide +kernel) rfl) (tG_mem 455 (by decide +kernel) rfl) (tG_mem 63 (by decide +kernel) rfl) (tG_mem 456 (by decide +kernel) rfl) ⟨by decide +kernel, by decide +kernel, by decide +kernel⟩ rfl rfl
theorem lk_L_35 : LinkV RL 35 yX11_doubt cX11_doubt 4 (some .long) 3 10 := mkLV _ (tG_mem 1050 (by decide +kernel) rfl) (tG_mem 1051 (by decide +kernel) rfl) (tG_mem 1052 (by decide +kernel) rfl) (tG_mem 74 (by decide +kernel) rfl) (tG_mem 1053 (by decide +kernel) rfl) ⟨by decide +kernel, by decide +kernel, by decide +kernel⟩ rfl rfl
theorem lk_L_36 : LinkV RL 36 yX10_drop cX10_drop 6 (some .long) 2 9 := mkLV _ (tG_mem 458 (by decide +kernel) rfl) (tG_mem 459 (by decide +kernel) rfl) (tG_mem 460 (by decide +kernel) rfl) (tG_mem 63 (by decide +kernel) rfl) (tG_mem 461 (by decide +kernel) rfl) ⟨by decide +kernel, by decide +kernel, by decide +kernel⟩ rfl rfl
theorem lk_L_39 : LinkV RL 39 yX11_drop cX11_drop 4 (some .long) 2 10 := mkLV _ (tG_mem 1056 (by decide +kernel) rfl) (tG_mem 1057 (by decide +kernel) rfl) (tG_mem 1058 (by decide +kernel) rfl) (tG_mem 74 (by decide +kernel) rfl) (tG_mem 1059 (by decide +kernel) rfl) ⟨by decide +kernel, by decide +kernel, by decide +kernel⟩ rfl rfl
theorem lk_L_40 : LinkV RL 40 yX10_forget cX10_forget 1 (some .long) 0 9 := mkLV _ (tG_mem 464 (by decide +kernel) rfl) (tG_mem 465 (by decide +kernel) rfl) (tG_mem 466 (by decide +kernel) rfl) (tG_mem 63 (by decide +kernel) rfl) (tG_mem 467 (by decide +kernel) rfl) ⟨by decide +kernel, by decide +kernel, by decide +kernel⟩ rfl rfl
theorem lk_L_44 : LinkV RL 44 yX11_forget cX11_forget 1 (some .long) 0 10 := mkLV _ (tG_mem 1065 (by decide +kernel) rfl) (tG_mem 1066 (by decide +kernel) rfl) (tG_mem 1067 (by decide +kernel) rfl) (tG_mem 74 (by decide +kernel) rfl) (tG_mem 1068 (by decide +kernel) rfl) ⟨by decide +kernel, by decide +kernel, by decide +kernel⟩ rfl rfl
theorem lk_L_45 : LinkV RL 45 yX10_told cX10_told 4 (some .long) 2 9 := mkLV _ (tG_mem 468 (by decide +kernel) rfl) (tG_mem 469 (by decide +kernel) rfl) (tG_mem 470 (by decide +kernel) rfl) (tG_mem 63 (by decide +kernel) rfl) (tG_mem 471 (by decide +kernel) rfl) ⟨by decide +kernel, by decide +kernel, by decide +kernel⟩ rfl rfl
theorem lk_L_48 : LinkV RL 48 yX11_told cX11_told 3 (some .long) 2 10 := mkLV _ (tG_mem 1069 (by decide +kernel) rfl) (tG_mem 1070 (by decide +kernel) rfl) (tG_mem 1071 (by decide +kernel) rfl) (tG_mem 74 (by decide +kernel) rfl) (tG_mem 1072 (by decide +kernel) rfl) ⟨by decide +kernel, by decide +kernel, by decide +kernel⟩ rfl rfl
theorem lk_L_49 : LinkV RL 49 yX10_isOf cX10_isOf 4 (some .long) 2 9 := mkLV _ (tG_mem 472 (by decide +kernel) rfl) (tG_mem 473 (by decide +kernel) rfl) (tG_mem 474 (by decide +kernel) rfl) (tG_mem 63 (by decide +kernel) rfl) (tG_mem 475 (by decide +kernel) rfl) ⟨by decide +kernel, by decide +kernel, by decide +kernel⟩ rfl rfl
theorem lk_L_52 : LinkV RL 52 yX11_isOf cX11_isOf 3 (some .long) 2 10 := mkLV _ (tG_mem 1074 (by decide +kernel) rfl) (tG_mem 1075 (by decide +kernel) rfl) (tG_mem 1076 (by decide +kernel) rfl) (tG_mem 74 (by decide +kernel) rfl) (tG_mem 1077 (by decide +kernel) rfl) ⟨by decide +kernel, by decide +kernel, by decide +kernel⟩ rfl rfl
theorem lk_L_53 : LinkV RL 53 yX10_end cX10_end 5 (some .long) 3 9 := mkLV _ (tG_mem 476 (by decide +kernel) rfl) (tG_mem 477 (by decide +kernel) rfl) (tG_mem 478 (by decide +kernel) rfl) (tG_mem 63 (by decide +kernel) rfl) (tG_mem 479 (by decide +kernel) rfl) ⟨by decide +kernel, by decide +kernel, by decide +kernel⟩ rfl rfl
theorem lk_L_56 : LinkV RL 56 yX11_end cX11_end 4 (some .long) 3 10 := mkLV _ (tG_mem 1082 (by decide +kernel) rfl) (tG_mem 1083 (by decide +kernel) rfl) (tG_mem 1084 (by decide +kernel) rfl) (tG_mem 74 (by decide +kernel) rfl) (tG_mem 1085 (by decide +kernel) rfl) ⟨by decide +kernel, by decide +kernel, by decide +kernel⟩ rfl rfl
theorem lk_L_57 : LinkV RL 57 yX10_counts cX10_counts 5 (some .long) 3 9 := mkLV _ (tG_mem 487 (by decide +kernel) rfl) (tG_mem 488 (by decide +kernel) rfl) (tG_mem 489 (by decide +kernel) rfl) (tG_mem 63 (by decide +kernel) rfl) (tG_mem 490 (by decide +kernel) rfl) ⟨by decide +kernel, by decide +kernel, by decide +kernel⟩ rfl rfl
theorem lk_L_60 : LinkV RL 60 yX11_counts cX11_counts 4 (some .long) 3 10 := mkLV _ (tG_mem 1098 (by decide +kernel) rfl) (tG_mem 1099 (by decide +kernel) rfl) (tG_mem 1100 (by decide +kernel) rfl) (tG_mem 74 (by decide +kernel) rfl) (tG_mem 1101 (by decide +kernel) rfl) ⟨by decide +kernel, by decide +kernel, by decide +kernel⟩ rfl rfl
theorem lk_L_61 : LinkV RL 61 yX10_ways cX10_ways 3 (some .long) 2 9 := mkLV _ (tG_mem 495 (by decide +kernel) rfl) (tG_mem 496 (by decide +kernel) rfl) (tG_mem 497 (by decide +kernel) rfl) (tG_mem 63 (by decide +kernel) rfl) (tG_mem 498 (by decide +kernel) rfl) ⟨by decide +kernel, by decide +kernel, by decide +kernel⟩ rfl rfl
theorem lk_L_64 : LinkV RL 64 yX11_ways cX11_ways 3 (some .long) 2 10 := mkLV _ (tG_mem 1109 (by decide +kernel) rfl) (tG_mem 1110 (by decide +kernel) rfl) (tG_mem 1111 (by decide +kernel) rfl) (tG_mem 74 (by decide +kernel) rfl) (tG_mem 1112 (by decide +kernel) rfl) ⟨by decide +kernel, by decide +kernel, by decide +kernel⟩ rfl rfl
theorem lk_L_65 : LinkV RL 65 yX10_way cX10_way 5 (some .long) 4 9 := mkLV _ (tG_mem 603 (by decide +kernel) rfl) (tG_mem 604 (by decide +kernel) rfl) (tG_mem 605 (by decide +kernel) rfl) (tG_mem 63 (by decide +kernel) rfl) (tG_mem 606 (by decide +kernel) rfl) ⟨by decide +kernel, by decide +kernel, by decide +kernel⟩ rfl rfl
theorem lk_L_68 : LinkV RL 68 yX11_way cX11_way 5 (some .long) 4 10 := mkLV _ (tG_mem 1164 (by decide +kernel) rfl) (tG_mem 1165 (by decide +kernel) rfl) (tG_mem 1166 (by decide +kernel) rfl) (tG_mem 74 (by decide +kernel) rfl) (tG_mem 1167 (by decide +kernel) rfl) ⟨by decide +kernel, by decide +kernel, by decide +kernel⟩ rfl rfl
theorem lk_L_69 : LinkV RL 69 yX10_factor cX10_factor 5 (some .long) 4 9 := mkLV _ (tG_mem 612 (by decide +kernel) rfl) (tG_mem 613 (by decide +kernel) rfl) (tG_mem 614 (by decide +kernel) rfl) (tG_mem 63 (by decide +kernel) rfl) (tG_mem 615 (by decide +kernel) rfl) ⟨by decide +kernel, by decide +kernel, by decide +kernel⟩ rfl rfl
theorem lk_L_72 : LinkV RL 72 yX11_factor cX11_factor 7 (some .long) 4 10 := mkLV _ (tG_mem 1169 (by decide +kernel) rfl) (tG_mem 1170 (by decide +kernel) rfl) (tG_mem 1171 (by decide +kernel) rfl) (tG_mem 74 (by decide +kernel) rfl) (tG_mem 1172 (by decide +kernel) rfl) ⟨by decide +kernel, by decide +kernel, by decide +kernel⟩ rfl rfl
theorem lk_L_73 : LinkV RL 73 yX10_span cX10_span 5 (some .long) 4 9 := mkLV _ (tG_mem 618 (by decide +kernel) rfl) (tG_mem 619 (by decide +kernel) rfl) (tG_mem 620 (by decide +kernel) rfl) (tG_mem 63 (by decide +kernel) rfl) (tG_mem 621 (by decide +kernel) rfl) ⟨by decide +kernel, by decide +kernel, by decide +kernel⟩ rfl rfl
theorem lk_L_76 : LinkV RL 76 yX11_span cX11_span 5 (some .long) 4 10 := mkLV _ (tG_mem 1185 (by decide +kernel) rfl) (tG_mem 1186 (by decide +kernel) rfl) (tG_mem 1187 (by decide +kernel) rfl) (tG_mem 74 (by decide +kernel) rfl) (tG_mem 1188 (by decide +kernel) rfl) ⟨by decide +kernel, by decide +kernel, by decide +kernel⟩ rfl rfl
theorem lk_L_77 : LinkV RL 77 yX10_quarrel cX10_quarrel 3 (some .long) 2 9 := mkLV _ (tG_mem 622 (by decide +kernel) rfl) (tG_mem 623 (by decide +kernel) rfl) (tG_mem 624 (by decide +kernel) rfl) (tG_mem 63 (by decide +kernel) rfl) (tG_mem 625 (by decide +kernel) rfl) ⟨by decide +kernel, by decide +kernel, by decide +kernel⟩ rfl rfl
theorem lk_L_80 : LinkV RL 80 yX11_quarrel cX11_quarrel 3 (some .long) 2 10 := mkLV _ (tG_mem 1189 (by decide +kernel) rfl) (tG_mem 1190 (by decide +kernel) rfl) (tG_mem 1191 (by decide +kernel) rfl) (tG_mem 74 (by decide +kernel) rfl) (tG_mem 1192 (by decide +kernel) rfl) ⟨by decide +kernel, by decide +kernel, by decide +kernel⟩ rfl rfl
theorem lk_L_81 : LinkV RL 81 yX10_cure cX10_cure 2 (some .long) 1 9 := mkLV _ (tG_mem 635 (by decide +kernel) rfl) (tG_mem 636 (by decide +kernel) rfl) (tG_mem 637 (by decide +kernel) rfl) (tG_mem 63 (by decide +kernel) rfl) (tG_mem 638 (by decide +kernel) rfl) ⟨by decide +kernel, by decide +kernel, by decide +kernel⟩ rfl rfl
theorem lk_L_85 : LinkV RL 85 yX11_cure cX11_cure 2 (some .long) 1 10 := mkLV _ (tG_mem 1217 (by decide +kernel) rfl) (tG_mem 1218 (by decide +kernel) rfl) (tG_mem 1219 (by decide +kernel) rfl) (tG_mem 74 (by decide +kernel) rfl) (tG_mem 1220 (by decide +kernel) rfl) ⟨by decide +kernel, by decide +kernel, by decide +kernel⟩ rfl rfl
theorem lk_L_86 : LinkV RL 86 yX10_heal cX10_heal 6 (some .long) 1 9 := mkLV _ (tG_mem 675 (by decide +kernel) rfl) (tG_mem 676 (by decide +kernel) rfl) (tG_mem 677 (by decide +kernel) rfl) (tG_mem 63 (by decide +kernel) rfl) (tG_mem 678 (by decide +kernel) rfl) ⟨by decide +kernel, by decide +kernel, by decide +kernel⟩ rfl rfl
theorem lk_L_89 : LinkV RL 89 yX11_heal cX11_heal 7 (some .long) 1 10 := mkLV _ (tG_mem 1225 (by decide +kernel) rfl) (tG_mem 1226 (by decide +kernel) rfl) (tG_mem 1227 (by decide +kernel) rfl) (tG_mem 74 (by decide +kernel) rfl) (tG_mem 1228 (by decide +kernel) rfl) ⟨by decide +kernel, by decide +kernel, by decide +kernel⟩ rfl rfl
theorem lk_L_90 : LinkV RL 90 yX10_custom cX10_custom 4 (some .long) 2 9 := mkLV _ (tG_mem 685 (by decide +kernel) rfl) (tG_mem 686 (by decide +kernel) rfl) (tG_mem 687 (by decide +kernel) rfl) (tG_mem 63 (by decide +kernel) rfl) (tG_mem 688 (by decide +kernel) rfl) ⟨by decide +kernel, by decide +kernel, by decide +kernel⟩ rfl rfl
theorem lk_L_93 : LinkV RL 93 yX11_custom cX11_custom 4 (some .long) 2 10 := mkLV _ (tG_mem 1229 (by decide +kernel) rfl) (tG_mem 1230 (by decide +kernel) rfl) (tG_mem 1231 (by decide +kernel) rfl) (tG_mem 74 (by decide +kernel) rfl) (tG_mem 1232 (by decide +kernel) rfl) ⟨by decide +kernel, by decide +kernel, by decide +kernel⟩ rfl rfl
theorem lk_L_94 : LinkV RL 94 yX10_step cX10_step 6 (some .long) 3 9 := mkLV _ (tG_mem 698 (by decide +kernel) rfl) (tG_mem 699 (by decide +kernel) rfl) (tG_mem 700 (by decide +kernel) rfl) (tG_mem 63 (by decide +kernel) rfl) (tG_mem 701 (by decide +kernel) rfl) ⟨by decide +kernel, by decide +kernel, by decide +kernel⟩ rfl rfl
theorem lk_L_97 : LinkV RL 97 yX11_step cX11_step 6 (some .long) 3 10 := mkLV _ (tG_mem 1238 (by decide +kernel) rfl) (tG_mem 1239 (by decide +kernel) rfl) (tG_mem 1240 (by decide +kernel) rfl) (tG_mem 74 (by decide +kernel) rfl) (tG_mem 1241 (by decide +kernel) rfl) ⟨by decide +kernel, by decide +kernel, by decide +kernel⟩ rfl rfl
theorem lk_L_98 : LinkV RL 98 yX10_copy cX10_copy 7 (some .long) 3 9 := mkLV _ (tG_mem 704 (by decide +kernel) rfl) (tG_mem 705 (by decide +kernel) rfl) (tG_mem 706 (by decide +kernel) rfl) (tG_mem 63 (by decide +kernel) rfl) (tG_mem 707 (by decide +kernel) rfl) ⟨by decide +kernel, by decide +kernel, by decide +kernel⟩ rfl rfl
theorem lk_L_101 : LinkV RL 101 yX11_copy cX11_copy 5 (some .long) 3 10 := mkLV _ (tG_mem 1244 (by decide +kernel) rfl) (tG_mem 1245 (by decide +kernel) rfl) (tG_mem 1246 (by decide +kernel) rfl) (tG_mem 74 (by decide +kernel) rfl) (tG_mem 1247 (by decide +kernel) rfl) ⟨by decide +kernel, by decide +kernel, by decide +kernel⟩ rfl rfl
theorem wd_1323 : Cond.constantLong RL 102 4294967295 ∈ tG := (tG_mem 1323 (by decide +kernel) rfl)
theorem lk_L_104 : LinkV RL 104 yX10_part cX10_part 6 (some .long) 3 9 := mkLV _ (tG_mem 708 (by decide +kernel) rfl) (tG_mem 709 (by decide +kernel) rfl) (tG_mem 710 (by decide +kernel) rfl) (tG_mem 63 (by decide +kernel) rfl) (tG_mem 711 (by decide +kernel) rfl) ⟨by decide +kernel, by decide +kernel, by decide +kernel⟩ rfl rfl
theorem lk_L_108 : LinkV RL 108 yX11_part cX11_part 9 (some .long) 3 10 := mkLV _ (tG_mem 1248 (by decide +kernel) rfl) (tG_mem 1249 (by decide +kernel) rfl) (tG_mem 1250 (by decide +kernel) rfl) (tG_mem 74 (by decide +kernel) rfl) (tG_mem 1251 (by decide +kernel) rfl) ⟨by decide +kernel, by decide +kernel, by decide +kernel⟩ rfl rfl
theorem lk_L_109 : LinkV RL 109 yX10_whole cX10_whole 5 (some .long) 2 9 := mkLV _ (tG_mem 725 (by decide +kernel) rfl) (tG_mem 726 (by decide +kernel) rfl) (tG_mem 727 (by decide +kernel) rfl) (tG_mem 63 (by decide +kernel) rfl) (tG_mem 728 (by decide +kernel) rfl) ⟨by decide +kernel, by decide +kernel, by decide +kernel⟩ rfl rfl
theorem lk_L_113 : LinkV RL 113 yX11_whole cX11_whole 11 (some .long) 2 10 := mkLV _ (tG_mem 1253 (by decide +kernel) rfl) (tG_mem 1254 (by decide +kernel) rfl) (tG_mem 1255 (by decide +kernel) rfl) (tG_mem 74 (by decide +kernel) rfl) (tG_mem 1256 (by decide +kernel) rfl) ⟨by decide +kernel, by decide +kernel, by decide +kernel⟩ rfl rfl
theorem lk_L_114 : LinkV RL 114 yX10_line cX10_line 5 (some .long) 4 9 := mkLV _ (tG_mem 735 (by decide +kernel) rfl) (tG_mem 736 (by decide +kernel) rfl) (tG_mem 737 (by decide +kernel) rfl) (tG_mem 63 (by decide +kernel) rfl) (tG_mem 738 (by decide +kernel) rfl) ⟨by decide +kernel, by decide +kernel, by decide +kernel⟩ rfl rfl
theorem lk_L_117 : LinkV RL 117 yX11_line cX11_line 5 (some .long) 4 10 := mkLV _ (tG_mem 1258 (by decide +kernel) rfl) (tG_mem 1259 (by decide +kernel) rfl) (tG_mem 1260 (by decide +kernel) rfl) (tG_mem 74 (by decide +kernel) rfl) (tG_mem 1261 (by decide +kernel) rfl) ⟨by decide +kernel, by decide +kernel, by decide +kernel⟩ rfl rfl
theorem lk_L_118 : LinkV RL 118 yX10_amend cX10_amend 5 (some .long) 2 9 := mkLV _ (tG_mem 779 (by decide +kernel) rfl) (tG_mem 780 (by decide +kernel) rfl) (tG_mem 781 (by decide +kernel) rfl) (tG_mem 63 (by decide +kernel) rfl) (tG_mem 782 (by decide +kernel) rfl) ⟨by decide +kernel, by decide +kernel, by decide +kernel⟩ rfl rfl
theorem lk_L_121 : LinkV RL 121 yX11_amend cX11_amend 5 (some .long) 2 10 := mkLV _ (tG_mem 1265 (by decide +kernel) rfl) (tG_mem 1266 (by decide +kernel) rfl) (tG_mem 1267 (by decide +kernel) rfl) (tG_mem 74 (by decide +kernel) rfl) (tG_mem 1268 (by decide +kernel) rfl) ⟨by decide +kernel, by decide +kernel, by decide +kernel⟩ rfl rfl
theorem lk_L_122 : LinkV RL 122 yX10_clear cX10_clear 3 (some .long) 0 9 := mkLV _ (tG_mem 787 (by decide +kernel) rfl) (tG_mem 788 (by decide +kernel) rfl) (tG_mem 789 (by decide +kernel) rfl) (tG_mem 63 (by decide +kernel) rfl) (tG_mem 790 (by decide +kernel) rfl) ⟨by decide +kernel, by decide +kernel, by decide +kernel⟩ rfl rfl
theorem lk_L_125 : LinkV RL 125 yX11_clear cX11_clear 3 (some .long) 0 10 := mkLV _ (tG_mem 1269 (by decide +kernel) rfl) (tG_mem 1270 (by decide +kernel) rfl) (tG_mem 1271 (by decide +kernel) rfl) (tG_mem 74 (by decide +kernel) rfl) (tG_mem 1272 (by decide +kernel) rfl) ⟨by decide +kernel, by decide +kernel, by decide +kernel⟩ rfl rfl
theorem lk_L_126 : LinkV RL 126 yX10_total cX10_total 4 (some .long) 3 9 := mkLV _ (tG_mem 791 (by decide +kernel) rfl) (tG_mem 792 (by decide +kernel) rfl) (tG_mem 793 (by decide +kernel) rfl) (tG_mem 63 (by decide +kernel) rfl) (tG_mem 794 (by decide +kernel) rfl) ⟨by decide +kernel, by decide +kernel, by decide +kernel⟩ rfl rfl
theorem lk_L_129 : LinkV RL 129 yX11_total cX11_total 6 (some .long) 3 10 := mkLV _ (tG_mem 1273 (by decide +kernel) rfl) (tG_mem 1274 (by decide +kernel) rfl) (tG_mem 1275 (by decide +kernel) rfl) (tG_mem 74 (by decide +kernel) rfl) (tG_mem 1276 (by decide +kernel) rfl) ⟨by decide +kernel, by decide +kernel, by decide +kernel⟩ rfl rfl
theorem lk_L_130 : LinkV RL 130 yX10_slip cX10_slip 5 (some .long) 2 9 := mkLV _ (tG_mem 811 (by decide +kernel) rfl) (tG_mem 812 (by decide +kernel) rfl) (tG_mem 813 (by decide +kernel) rfl) (tG_mem 63 (by decide +kernel) rfl) (tG_mem 814 (by decide +kernel) rfl) ⟨by decide +kernel, by decide +kernel, by decide +kernel⟩ rfl rfl
theorem lk_L_133 : LinkV RL 133 yX11_slip cX11_slip 10 (some .long) 2 10 := mkLV _ (tG_mem 1309 (by decide +kernel) rfl) (tG_mem 1310 (by decide +kernel) rfl) (tG_mem 1311 (by decide +kernel) rfl) (tG_mem 74 (by decide +kernel) rfl) (tG_mem 1312 (by decide +kernel) rfl) ⟨by decide +kernel, by decide +kernel, by decide +kernel⟩ rfl rfl
theorem lk_L_134 : LinkV RL 134 yX10_count cX10_count 2 (some .long) 1 9 := mkLV _ (tG_mem 850 (by decide +kernel) rfl) (tG_mem 851 (by decide +kernel) rfl) (tG_mem 852 (by decide +kernel) rfl) (tG_mem 63 (by decide +kernel) rfl) (tG_mem 853 (by decide +kernel) rfl) ⟨by decide +kernel, by decide +kernel, by decide +kernel⟩ rfl rfl
theorem lk_L_137 : LinkV RL 137 yX11_count cX11_count 6 (some .long) 1 10 := mkLV _ (tG_mem 1319 (by decide +kernel) rfl) (tG_mem 1320 (by decide +kernel) rfl) (tG_mem 1321 (by decide +kernel) rfl) (tG_mem 74 (by decide +kernel) rfl) (tG_mem 1322 (by decide +kernel) rfl) ⟨by decide +kernel, by decide +kernel, by decide +kernel⟩ rfl rfl
theorem wd_80 : Cond.classLink RL 7 RX10 ∈ tG := (tG_mem 80 (by decide +kernel) rfl)
theorem wd_81 : Cond.instantiable RX10 14 ∈ tG := (tG_mem 81 (by decide +kernel) rfl)
theorem wd_63 : Cond.initialized RX10 ∈ tG := (tG_mem 63 (by decide +kernel) rfl)
theorem li_L_9 : LinkI RL 9 yX10_init cX10_init 2 0 := mkLI (tG_mem 82 (by decide +kernel) rfl) (tG_mem 83 (by decide +kernel) rfl) (tG_mem 63 (by decide +kernel) rfl) (tG_mem 84 (by decide +kernel) rfl) ⟨by decide +kernel, by decide +kernel, by decide +kernel⟩ rfl
theorem wd_867 : Cond.classLink RL 10 RX11 ∈ tG := (tG_mem 867 (by decide +kernel) rfl)
theorem wd_868 : Cond.instantiable RX11 46 ∈ tG := (tG_mem 868 (by decide +kernel) rfl)
theorem wd_74 : Cond.initialized RX11 ∈ tG := (tG_mem 74 (by decide +kernel) rfl)
theorem li_L_12 : LinkI RL 12 yX11_init cX11_init 2 0 := mkLI (tG_mem 869 (by decide +kernel) rfl) (tG_mem 870 (by decide +kernel) rfl) (tG_mem 74 (by decide +kernel) rfl) (tG_mem 871 (by decide +kernel) rfl) ⟨by decide +kernel, by decide +kernel, by decide +kernel⟩ rfl
/-! THE CLAIM OUT OF ONE WALK OF THE LAW'S BODY. Your part is whole_start (and what it stands on); all else here is the same for every law, but numbers. -/
def R_law : String := "OldReckonerLaw"
def lw_P (b : Addr) (xs : List Int32) (args : Array Value) (s : State) : Prop := args = #[.ref b] ∧ s.IntsAt b xs ∧ xs.length ≤ 320 ∧ (Jvm.Cond.and given_1 narrow_1).before args s = true
def lw_Q (_ : Array Value) (s : State) (o : Outcome) (t : State) : Prop := o = .returned (some (.int 1)) ∧ Framed s o t [] 600000 7302250
def lw_Z (below : List Frame) (a : Array Value) (s : State) : State → Prop := fun t => ∃ o, t.status = .running ∧ Ended t below o ∧ lw_Q a s o t
/-- the law's own end, with 1 on the stack, nothing written that was there before, its room as the claim has it -/
theorem lw_ret {p : Program} {l : Launch} {e : Env} {s : State} {m : MethodId} {below : List Frame} {meth : Method} {c : Code} {b : Nat} (hx : p.tables.exec = Jvm.exec) (hb : c.code = code) (hr : meth.sig.returnType = ret) (hlocks : meth.locks = false) {pc : Nat} {H : Heap} {ls : Array Slot} (hdg : decode code pc = .ok (.ireturn, 1)) : W p l e room_1 s m #[Value.ref b] below meth c H [] 600000 7302250 (lw_Z below #[Value.ref b] s) (F0 m pc ls [.int 1]) := by
  intro T hT X
  obtain ⟨fs, hret, hrun, hended, hW, hframe⟩ := X.leave (v := some (.int 1)) (hlocks := hlocks) (fun h => by rw [hr] at h; cases h)
  have hmeth' : T.vm.method? m = some meth := X.method'
  refine ⟨T.setFrames fs, ?_, .returned (some (.int 1)), hrun, hended, rfl, ⟨_, rfl⟩, hW, hframe⟩
  jvm_step X.here [X.here.top, hx, hb, hdg, hmeth', hr, ret, narrow_b1]
  (try refine ⟨rfl, ?_⟩); (try refine ⟨rfl, ?_⟩)
  first | (intro acts; rw [hret _ acts rfl rfl rfl]) | rw [hret _ _ rfl rfl rfl]
  exact Steps.refl _
/-- what holds at the law's entry: the machine, the code, the tables' words (any of lw_tbl by 'hts w (by decide +kernel)'), the script of L ints xs at the cell b, what the Statement gives of the start (any of its parts by flat_of_before) -/
def lw_At (p : Program) (s : State) (m : MethodId) (meth : Method) (c : Code) (b L : Nat) (xs : Nat → Int32) : Prop :=
  p.tables.exec = Jvm.exec ∧ c.code = code ∧ meth.sig.returnType = ret ∧ c.maxLocals = 4 ∧ s.vm.findClass R_law = some m.cls ∧ (∀ w ∈ lw_tbl, w.before #[Value.ref b] s = true) ∧ va_X b L xs s s.heap ∧ b < s.heap.size ∧ meth.locks = false ∧ (Jvm.Cond.and given_1 narrow_1).before #[Value.ref b] s = true
section LAW
variable {p : Program} {l : Launch} {e : Env} {s : State} {m : MethodId} {below : List Frame} {meth : Method} {c0 : Code} {b N : Nat} {xs : Nat → Int32} {D : Dx} {nm : String} {G : Wd} {cells slots pc : Nat} {L : List (Nat × Value)} {st : List Value} {Q : State → Prop}
theorem v_sld (F : Fx (p, l, e, room_1, s, m, #[Value.ref b], below, meth, c0) D cL_law 4 RL ret nm) (hX : va_X b N xs s s.heap) (hbl : b < s.heap.size) (hbA : ¬ Ab D b) {i : Int32} (hin : vp_in i N) (hd : decode cL_law pc = .ok (.iaload, 1)) (kk : V (p, l, e, room_1, s, m, #[Value.ref b], below, meth, c0) D 4 Q G cells slots (pc + 1) L (.int (xs i.toNatClampNeg) :: st)) : V (p, l, e, room_1, s, m, #[Value.ref b], below, meth, c0) D 4 Q G cells slots pc L (.int i :: .ref b :: st) := fun ls H locs hl hH hS => va_sld F.1 F.2.1 hX hbl hbA hS hin hd (kk ls H locs hl hH hS)
theorem v_slen (F : Fx (p, l, e, room_1, s, m, #[Value.ref b], below, meth, c0) D cL_law 4 RL ret nm) (hX : va_X b N xs s s.heap) (hbl : b < s.heap.size) (hbA : ¬ Ab D b) (hd : decode cL_law pc = .ok (.arraylength, 1)) (kk : V (p, l, e, room_1, s, m, #[Value.ref b], below, meth, c0) D 4 Q G cells slots (pc + 1) L (.int (nI N) :: st)) : V (p, l, e, room_1, s, m, #[Value.ref b], below, meth, c0) D 4 Q G cells slots pc L (.ref b :: st) := fun ls H locs hl hH hS => va_slen F.1 F.2.1 hX hbl hbA hS hd (kk ls H locs hl hH hS)
theorem v_lawret (F : Fx (p, l, e, room_1, s, m, #[Value.ref b], below, meth, c0) D cL_law 4 RL ret nm) (hB : dB D = s.heap.size) (hc : cells ≤ 600000) (hs : slots ≤ 7302250) (hd : decode cL_law pc = .ok (.ireturn, 1)) : V (p, l, e, room_1, s, m, #[Value.ref b], below, meth, c0) D 4 (lw_Z below #[Value.ref b] s) G cells slots pc L [.int 1] := fun ls H locs hl hH hS =>
  va_forget (fun q hq => by have h := hS.2.2 q hq; unfold Ab at h; rw [hB] at h; exact h) (W.widen hc hs (lw_ret F.1 F.2.1 F.2.2.2.2.2.2.1 F.2.2.2.2.2.2.2.1 hd))
end LAW
set_option maxRecDepth 100000 in
def wpL_law_18 (N : Nat) (xs : Nat → Int32) : Nat → Nat → Nat → Int32 → Wd → Prop
  | 0, _, _, _, _ => False
  | n + 1, v1, v2, v3, G => if ((nI N) - 5) < v3 then (True) else (vp_in v3 N ∧ if ((xs (v3).toNatClampNeg) &&& 31) = 0 then (vp_in (v3 + 1) N ∧ vp_in (v3 + 2) N ∧ gK G v1 = 10 ∧ wpX10_lies v1 (xs ((v3 + 1)).toNatClampNeg) (xs ((v3 + 2)).toNatClampNeg) G (fun r5 G6 => vp_in (v3 + 1) N ∧ vp_in (v3 + 2) N ∧ gK G6 v2 = 11 ∧ wpX11_lies v2 (xs ((v3 + 1)).toNatClampNeg) (xs ((v3 + 2)).toNatClampNeg) G6 (fun r10 G11 => if r5 = r10 then (∀ x12 : Int32, x12 = v3 + 5 → wpL_law_18 N xs n v1 v2 x12 G11) else (False)))) else (if ((xs (v3).toNatClampNeg) &&& 31) = 1 then (vp_in (v3 + 1) N ∧ vp_in (v3 + 2) N ∧ gK G v1 = 10 ∧ wpX10_within v1 (xs ((v3 + 1)).toNatClampNeg) (xs ((v3 + 2)).toNatClampNeg) G (fun r16 G17 => vp_in (v3 + 1) N ∧ vp_in (v3 + 2) N ∧ gK G17 v2 = 11 ∧ wpX11_within v2 (xs ((v3 + 1)).toNatClampNeg) (xs ((v3 + 2)).toNatClampNeg) G17 (fun r21 G22 => if r16 = r21 then (∀ x23 : Int32, x23 = v3 + 5 → wpL_law_18 N xs n v1 v2 x23 G22) else (False)))) else (if ((xs (v3).toNatClampNeg) &&& 31) = 2 then (vp_in (v3 + 1) N ∧ vp_in (v3 + 2) N ∧ vp_in (v3 + 3) N ∧ vp_in (v3 + 4) N ∧ gK G v1 = 10 ∧ wpX10_likeness v1 (xs ((v3 + 1)).toNatClampNeg) (xs ((v3 + 2)).toNatClampNeg) (xs ((v3 + 3)).toNatClampNeg) (xs ((v3 + 4)).toNatClampNeg) G (fun r29 G30 => vp_in (v3 + 1) N ∧ vp_in (v3 + 2) N ∧ vp_in (v3 + 3) N ∧ vp_in (v3 + 4) N ∧ gK G30 v2 = 11 ∧ wpX11_likeness v2 (xs ((v3 + 1)).toNatClampNeg) (xs ((v3 + 2)).toNatClampNeg) (xs ((v3 + 3)).toNatClampNeg) (xs ((v3 + 4)).toNatClampNeg) G30 (fun r36 G37 => if r29 = r36 then (∀ x38 : Int32, x38 = v3 + 5 → wpL_law_18 N xs n v1 v2 x38 G37) else (False)))) else (if ((xs (v3).toNatClampNeg) &&& 31) = 3 then (vp_in (v3 + 1) N ∧ vp_in (v3 + 2) N ∧ vp_in (v3 + 3) N ∧ vp_in (v3 + 4) N ∧ gK G v1 = 10 ∧ wpX10_holds v1 (xs ((v3 + 1)).toNatClampNeg) (xs ((v3 + 2)).toNatClampNeg) (xs ((v3 + 3)).toNatClampNeg) (xs ((v3 + 4)).toNatClampNeg) G (fun r44 G45 => vp_in (v3 + 1) N ∧ vp_in (v3 + 2) N ∧ vp_in (v3 + 3) N ∧ vp_in (v3 + 4) N ∧ gK G45 v2 = 11 ∧ wpX11_holds v2 (xs ((v3 + 1)).toNatClampNeg) (xs ((v3 + 2)).toNatClampNeg) (xs ((v3 + 3)).toNatClampNeg) (xs ((v3 + 4)).toNatClampNeg) G45 (fun r51 G52 => if r44 = r51 then (∀ x53 : Int32, x53 = v3 + 5 → wpL_law_18 N xs n v1 v2 x53 G52) else (False)))) else (if ((xs (v3).toNatClampNeg) &&& 31) = 4 then (vp_in (v3 + 1) N ∧ vp_in (v3 + 2) N ∧ vp_in (v3 + 3) N ∧ gK G v1 = 10 ∧ wpX10_doubt v1 (xs ((v3 + 1)).toNatClampNeg) (xs ((v3 + 2)).toNatClampNeg) (xs ((v3 + 3)).toNatClampNeg) G (fun r58 G59 => vp_in (v3 + 1) N ∧ vp_in (v3 + 2) N ∧ vp_in (v3 + 3) N ∧ gK G59 v2 = 11 ∧ wpX11_doubt v2 (xs ((v3 + 1)).toNatClampNeg) (xs ((v3 + 2)).toNatClampNeg) (xs ((v3 + 3)).toNatClampNeg) G59 (fun r64 G65 => if r58 = r64 then (∀ x66 : Int32, x66 = v3 + 5 → wpL_law_18 N xs n v1 v2 x66 G65) else (False)))) else (if ((xs (v3).toNatClampNeg) &&& 31) = 5 then (vp_in (v3 + 1) N ∧ vp_in (v3 + 2) N ∧ gK G v1 = 10 ∧ wpX10_drop v1 (xs ((v3 + 1)).toNatClampNeg) (xs ((v3 + 2)).toNatClampNeg) G (fun r70 G71 => vp_in (v3 + 1) N ∧ vp_in (v3 + 2) N ∧ gK G71 v2 = 11 ∧ wpX11_drop v2 (xs ((v3 + 1)).toNatClampNeg) (xs ((v3 + 2)).toNatClampNeg) G71 (fun r75 G76 => if r70 = r75 then (∀ x77 : Int32, x77 = v3 + 5 → wpL_law_18 N xs n v1 v2 x77 G76) else (False)))) else (if ((xs (v3).toNatClampNeg) &&& 31) = 6 then (gK G v1 = 10 ∧ wpX10_forget v1 G (fun r79 G80 => gK G80 v2 = 11 ∧ wpX11_forget v2 G80 (fun r82 G83 => if r79 = r82 then (∀ x84 : Int32, x84 = v3 + 5 → wpL_law_18 N xs n v1 v2 x84 G83) else (False)))) else (if ((xs (v3).toNatClampNeg) &&& 31) = 7 then (vp_in (v3 + 1) N ∧ vp_in (v3 + 2) N ∧ gK G v1 = 10 ∧ wpX10_told v1 (xs ((v3 + 1)).toNatClampNeg) (xs ((v3 + 2)).toNatClampNeg) G (fun r88 G89 => vp_in (v3 + 1) N ∧ vp_in (v3 + 2) N ∧ gK G89 v2 = 11 ∧ wpX11_told v2 (xs ((v3 + 1)).toNatClampNeg) (xs ((v3 + 2)).toNatClampNeg) G89 (fun r93 G94 => if r88 = r93 then (∀ x95 : Int32, x95 = v3 + 5 → wpL_law_18 N xs n v1 v2 x95 G94) else (False)))) else (if ((xs (v3).toNatClampNeg) &&& 31) = 8 then (vp_in (v3 + 1) N ∧ vp_in (v3 + 2) N ∧ gK G v1 = 10 ∧ wpX10_isOf v1 (xs ((v3 + 1)).toNatClampNeg) (xs ((v3 + 2)).toNatClampNeg) G (fun r99 G100 => vp_in (v3 + 1) N ∧ vp_in (v3 + 2) N ∧ gK G100 v2 = 11 ∧ wpX11_isOf v2 (xs ((v3 + 1)).toNatClampNeg) (xs ((v3 + 2)).toNatClampNeg) G100 (fun r104 G105 => if r99 = r104 then (∀ x106 : Int32, x106 = v3 + 5 → wpL_law_18 N xs n v1 v2 x106 G105) else (False)))) else (if ((xs (v3).toNatClampNeg) &&& 31) = 9 then (vp_in (v3 + 1) N ∧ vp_in (v3 + 2) N ∧ vp_in (v3 + 3) N ∧ gK G v1 = 10 ∧ wpX10_end v1 (xs ((v3 + 1)).toNatClampNeg) (xs ((v3 + 2)).toNatClampNeg) (xs ((v3 + 3)).toNatClampNeg) G (fun r111 G112 => vp_in (v3 + 1) N ∧ vp_in (v3 + 2) N ∧ vp_in (v3 + 3) N ∧ gK G112 v2 = 11 ∧ wpX11_end v2 (xs ((v3 + 1)).toNatClampNeg) (xs ((v3 + 2)).toNatClampNeg) (xs ((v3 + 3)).toNatClampNeg) G112 (fun r117 G118 => if r111 = r117 then (∀ x119 : Int32, x119 = v3 + 5 → wpL_law_18 N xs n v1 v2 x119 G118) else (False)))) else (if ((xs (v3).toNatClampNeg) &&& 31) = 10 then (vp_in (v3 + 1) N ∧ vp_in (v3 + 2) N ∧ vp_in (v3 + 3) N ∧ gK G v1 = 10 ∧ wpX10_counts v1 (xs ((v3 + 1)).toNatClampNeg) (xs ((v3 + 2)).toNatClampNeg) (xs ((v3 + 3)).toNatClampNeg) G (fun r124 G125 => vp_in (v3 + 1) N ∧ vp_in (v3 + 2) N ∧ vp_in (v3 + 3) N ∧ gK G125 v2 = 11 ∧ wpX11_counts v2 (xs ((v3 + 1)).toNatClampNeg) (xs ((v3 + 2)).toNatClampNeg) (xs ((v3 + 3)).toNatClampNeg) G125 (fun r130 G131 => if r124 = r130 then (∀ x132 : Int32, x132 = v3 + 5 → wpL_law_18 N xs n v1 v2 x132 G131) else (False)))) else (if ((xs (v3).toNatClampNeg) &&& 31) = 11 then (vp_in (v3 + 1) N ∧ vp_in (v3 + 2) N ∧ gK G v1 = 10 ∧ wpX10_ways v1 (xs ((v3 + 1)).toNatClampNeg) (xs ((v3 + 2)).toNatClampNeg) G (fun r136 G137 => vp_in (v3 + 1) N ∧ vp_in (v3 + 2) N ∧ gK G137 v2 = 11 ∧ wpX11_ways v2 (xs ((v3 + 1)).toNatClampNeg) (xs ((v3 + 2)).toNatClampNeg) G137 (fun r141 G142 => if r136 = r141 then (∀ x143 : Int32, x143 = v3 + 5 → wpL_law_18 N xs n v1 v2 x143 G142) else (False)))) else (if ((xs (v3).toNatClampNeg) &&& 31) = 12 then (vp_in (v3 + 1) N ∧ vp_in (v3 + 2) N ∧ vp_in (v3 + 3) N ∧ vp_in (v3 + 4) N ∧ gK G v1 = 10 ∧ wpX10_way v1 (xs ((v3 + 1)).toNatClampNeg) (xs ((v3 + 2)).toNatClampNeg) (xs ((v3 + 3)).toNatClampNeg) (xs ((v3 + 4)).toNatClampNeg) G (fun r149 G150 => vp_in (v3 + 1) N ∧ vp_in (v3 + 2) N ∧ vp_in (v3 + 3) N ∧ vp_in (v3 + 4) N ∧ gK G150 v2 = 11 ∧ wpX11_way v2 (xs ((v3 + 1)).toNatClampNeg) (xs ((v3 + 2)).toNatClampNeg) (xs ((v3 + 3)).toNatClampNeg) (xs ((v3 + 4)).toNatClampNeg) G150 (fun r156 G157 => if r149 = r156 then (∀ x158 : Int32, x158 = v3 + 5 → wpL_law_18 N xs n v1 v2 x158 G157) else (False)))) else (if ((xs (v3).toNatClampNeg) &&& 31) = 13 then (vp_in (v3 + 1) N ∧ vp_in (v3 + 2) N ∧ vp_in (v3 + 3) N ∧ vp_in (v3 + 4) N ∧ gK G v1 = 10 ∧ wpX10_factor v1 (xs ((v3 + 1)).toNatClampNeg) (xs ((v3 + 2)).toNatClampNeg) (xs ((v3 + 3)).toNatClampNeg) (xs ((v3 + 4)).toNatClampNeg) G (fun r164 G165 => vp_in (v3 + 1) N ∧ vp_in (v3 + 2) N ∧ vp_in (v3 + 3) N ∧ vp_in (v3 + 4) N ∧ gK G165 v2 = 11 ∧ wpX11_factor v2 (xs ((v3 + 1)).toNatClampNeg) (xs ((v3 + 2)).toNatClampNeg) (xs ((v3 + 3)).toNatClampNeg) (xs ((v3 + 4)).toNatClampNeg) G165 (fun r171 G172 => if r164 = r171 then (∀ x173 : Int32, x173 = v3 + 5 → wpL_law_18 N xs n v1 v2 x173 G172) else (False)))) else (if ((xs (v3).toNatClampNeg) &&& 31) = 14 then (vp_in (v3 + 1) N ∧ vp_in (v3 + 2) N ∧ vp_in (v3 + 3) N ∧ vp_in (v3 + 4) N ∧ gK G v1 = 10 ∧ wpX10_span v1 (xs ((v3 + 1)).toNatClampNeg) (xs ((v3 + 2)).toNatClampNeg) (xs ((v3 + 3)).toNatClampNeg) (xs ((v3 + 4)).toNatClampNeg) G (fun r179 G180 => vp_in (v3 + 1) N ∧ vp_in (v3 + 2) N ∧ vp_in (v3 + 3) N ∧ vp_in (v3 + 4) N ∧ gK G180 v2 = 11 ∧ wpX11_span v2 (xs ((v3 + 1)).toNatClampNeg) (xs ((v3 + 2)).toNatClampNeg) (xs ((v3 + 3)).toNatClampNeg) (xs ((v3 + 4)).toNatClampNeg) G180 (fun r186 G187 => if r179 = r186 then (∀ x188 : Int32, x188 = v3 + 5 → wpL_law_18 N xs n v1 v2 x188 G187) else (False)))) else (if ((xs (v3).toNatClampNeg) &&& 31) = 15 then (vp_in (v3 + 1) N ∧ vp_in (v3 + 2) N ∧ gK G v1 = 10 ∧ wpX10_quarrel v1 (xs ((v3 + 1)).toNatClampNeg) (xs ((v3 + 2)).toNatClampNeg) G (fun r192 G193 => vp_in (v3 + 1) N ∧ vp_in (v3 + 2) N ∧ gK G193 v2 = 11 ∧ wpX11_quarrel v2 (xs ((v3 + 1)).toNatClampNeg) (xs ((v3 + 2)).toNatClampNeg) G193 (fun r197 G198 => if r192 = r197 then (∀ x199 : Int32, x199 = v3 + 5 → wpL_law_18 N xs n v1 v2 x199 G198) else (False)))) else (if ((xs (v3).toNatClampNeg) &&& 31) = 16 then (vp_in (v3 + 1) N ∧ gK G v1 = 10 ∧ wpX10_cure v1 (xs ((v3 + 1)).toNatClampNeg) G (fun r202 G203 => vp_in (v3 + 1) N ∧ gK G203 v2 = 11 ∧ wpX11_cure v2 (xs ((v3 + 1)).toNatClampNeg) G203 (fun r206 G207 => if r202 = r206 then (∀ x208 : Int32, x208 = v3 + 5 → wpL_law_18 N xs n v1 v2 x208 G207) else (False)))) else (if ((xs (v3).toNatClampNeg) &&& 31) = 17 then (vp_in (v3 + 1) N ∧ gK G v1 = 10 ∧ wpX10_heal v1 (xs ((v3 + 1)).toNatClampNeg) G (fun r211 G212 => vp_in (v3 + 1) N ∧ gK G212 v2 = 11 ∧ wpX11_heal v2 (xs ((v3 + 1)).toNatClampNeg) G212 (fun r215 G216 => if r211 = r215 then (∀ x217 : Int32, x217 = v3 + 5 → wpL_law_18 N xs n v1 v2 x217 G216) else (False)))) else (if ((xs (v3).toNatClampNeg) &&& 31) = 18 then (vp_in (v3 + 1) N ∧ vp_in (v3 + 2) N ∧ gK G v1 = 10 ∧ wpX10_custom v1 (xs ((v3 + 1)).toNatClampNeg) (xs ((v3 + 2)).toNatClampNeg) G (fun r221 G222 => vp_in (v3 + 1) N ∧ vp_in (v3 + 2) N ∧ gK G222 v2 = 11 ∧ wpX11_custom v2 (xs ((v3 + 1)).toNatClampNeg) (xs ((v3 + 2)).toNatClampNeg) G222 (fun r226 G227 => if r221 = r226 then (∀ x228 : Int32, x228 = v3 + 5 → wpL_law_18 N xs n v1 v2 x228 G227) else (False)))) else (if ((xs (v3).toNatClampNeg) &&& 31) = 19 then (vp_in (v3 + 1) N ∧ vp_in (v3 + 2) N ∧ vp_in (v3 + 3) N ∧ gK G v1 = 10 ∧ wpX10_step v1 (xs ((v3 + 1)).toNatClampNeg) (xs ((v3 + 2)).toNatClampNeg) (xs ((v3 + 3)).toNatClampNeg) G (fun r233 G234 => vp_in (v3 + 1) N ∧ vp_in (v3 + 2) N ∧ vp_in (v3 + 3) N ∧ gK G234 v2 = 11 ∧ wpX11_step v2 (xs ((v3 + 1)).toNatClampNeg) (xs ((v3 + 2)).toNatClampNeg) (xs ((v3 + 3)).toNatClampNeg) G234 (fun r239 G240 => if r233 = r239 then (∀ x241 : Int32, x241 = v3 + 5 → wpL_law_18 N xs n v1 v2 x241 G240) else (False)))) else (if ((xs (v3).toNatClampNeg) &&& 31) = 20 then (vp_in (v3 + 1) N ∧ vp_in (v3 + 2) N ∧ vp_in (v3 + 3) N ∧ gK G v1 = 10 ∧ wpX10_copy v1 (xs ((v3 + 1)).toNatClampNeg) (xs ((v3 + 2)).toNatClampNeg) (xs ((v3 + 3)).toNatClampNeg) G (fun r246 G247 => vp_in (v3 + 1) N ∧ vp_in (v3 + 2) N ∧ vp_in (v3 + 3) N ∧ gK G247 v2 = 11 ∧ wpX11_copy v2 (xs ((v3 + 1)).toNatClampNeg) (xs ((v3 + 2)).toNatClampNeg) (xs ((v3 + 3)).toNatClampNeg) G247 (fun r252 G253 => if r246 = r252 then (∀ x254 : Int32, x254 = v3 + 5 → wpL_law_18 N xs n v1 v2 x254 G253) else (False)))) else (if ((xs (v3).toNatClampNeg) &&& 31) = 21 then (vp_in (v3 + 1) N ∧ vp_in (v3 + 2) N ∧ vp_in (v3 + 3) N ∧ vp_in (v3 + 4) N ∧ gK G v1 = 10 ∧ wpX10_part v1 (xs ((v3 + 1)).toNatClampNeg) ((((xs ((v3 + 2)).toNatClampNeg).toInt64) <<< (((32 : Int32)).toInt64 &&& 63)) ||| (((xs ((v3 + 3)).toNatClampNeg).toInt64) &&& 4294967295)) (xs ((v3 + 4)).toNatClampNeg) G (fun r260 G261 => vp_in (v3 + 1) N ∧ vp_in (v3 + 2) N ∧ vp_in (v3 + 3) N ∧ vp_in (v3 + 4) N ∧ gK G261 v2 = 11 ∧ wpX11_part v2 (xs ((v3 + 1)).toNatClampNeg) ((((xs ((v3 + 2)).toNatClampNeg).toInt64) <<< (((32 : Int32)).toInt64 &&& 63)) ||| (((xs ((v3 + 3)).toNatClampNeg).toInt64) &&& 4294967295)) (xs ((v3 + 4)).toNatClampNeg) G261 (fun r267 G268 => if r260 = r267 then (∀ x269 : Int32, x269 = v3 + 5 → wpL_law_18 N xs n v1 v2 x269 G268) else (False)))) else (if ((xs (v3).toNatClampNeg) &&& 31) = 22 then (vp_in (v3 + 1) N ∧ vp_in (v3 + 2) N ∧ vp_in (v3 + 3) N ∧ gK G v1 = 10 ∧ wpX10_whole v1 (xs ((v3 + 1)).toNatClampNeg) ((((xs ((v3 + 2)).toNatClampNeg).toInt64) <<< (((32 : Int32)).toInt64 &&& 63)) ||| (((xs ((v3 + 3)).toNatClampNeg).toInt64) &&& 4294967295)) G (fun r274 G275 => vp_in (v3 + 1) N ∧ vp_in (v3 + 2) N ∧ vp_in (v3 + 3) N ∧ gK G275 v2 = 11 ∧ wpX11_whole v2 (xs ((v3 + 1)).toNatClampNeg) ((((xs ((v3 + 2)).toNatClampNeg).toInt64) <<< (((32 : Int32)).toInt64 &&& 63)) ||| (((xs ((v3 + 3)).toNatClampNeg).toInt64) &&& 4294967295)) G275 (fun r280 G281 => if r274 = r280 then (∀ x282 : Int32, x282 = v3 + 5 → wpL_law_18 N xs n v1 v2 x282 G281) else (False)))) else (if ((xs (v3).toNatClampNeg) &&& 31) = 23 then (vp_in (v3 + 1) N ∧ vp_in (v3 + 2) N ∧ vp_in (v3 + 3) N ∧ vp_in (v3 + 4) N ∧ gK G v1 = 10 ∧ wpX10_line v1 (xs ((v3 + 1)).toNatClampNeg) (xs ((v3 + 2)).toNatClampNeg) (xs ((v3 + 3)).toNatClampNeg) (xs ((v3 + 4)).toNatClampNeg) G (fun r288 G289 => vp_in (v3 + 1) N ∧ vp_in (v3 + 2) N ∧ vp_in (v3 + 3) N ∧ vp_in (v3 + 4) N ∧ gK G289 v2 = 11 ∧ wpX11_line v2 (xs ((v3 + 1)).toNatClampNeg) (xs ((v3 + 2)).toNatClampNeg) (xs ((v3 + 3)).toNatClampNeg) (xs ((v3 + 4)).toNatClampNeg) G289 (fun r295 G296 => if r288 = r295 then (∀ x297 : Int32, x297 = v3 + 5 → wpL_law_18 N xs n v1 v2 x297 G296) else (False)))) else (if ((xs (v3).toNatClampNeg) &&& 31) = 24 then (vp_in (v3 + 1) N ∧ vp_in (v3 + 2) N ∧ gK G v1 = 10 ∧ wpX10_amend v1 (xs ((v3 + 1)).toNatClampNeg) (xs ((v3 + 2)).toNatClampNeg) G (fun r301 G302 => vp_in (v3 + 1) N ∧ vp_in (v3 + 2) N ∧ gK G302 v2 = 11 ∧ wpX11_amend v2 (xs ((v3 + 1)).toNatClampNeg) (xs ((v3 + 2)).toNatClampNeg) G302 (fun r306 G307 => if r301 = r306 then (∀ x308 : Int32, x308 = v3 + 5 → wpL_law_18 N xs n v1 v2 x308 G307) else (False)))) else (if ((xs (v3).toNatClampNeg) &&& 31) = 25 then (gK G v1 = 10 ∧ wpX10_clear v1 G (fun r310 G311 => gK G311 v2 = 11 ∧ wpX11_clear v2 G311 (fun r313 G314 => if r310 = r313 then (∀ x315 : Int32, x315 = v3 + 5 → wpL_law_18 N xs n v1 v2 x315 G314) else (False)))) else (if ((xs (v3).toNatClampNeg) &&& 31) = 26 then (vp_in (v3 + 1) N ∧ vp_in (v3 + 2) N ∧ vp_in (v3 + 3) N ∧ gK G v1 = 10 ∧ wpX10_total v1 (xs ((v3 + 1)).toNatClampNeg) (xs ((v3 + 2)).toNatClampNeg) (xs ((v3 + 3)).toNatClampNeg) G (fun r320 G321 => vp_in (v3 + 1) N ∧ vp_in (v3 + 2) N ∧ vp_in (v3 + 3) N ∧ gK G321 v2 = 11 ∧ wpX11_total v2 (xs ((v3 + 1)).toNatClampNeg) (xs ((v3 + 2)).toNatClampNeg) (xs ((v3 + 3)).toNatClampNeg) G321 (fun r326 G327 => if r320 = r326 then (∀ x328 : Int32, x328 = v3 + 5 → wpL_law_18 N xs n v1 v2 x328 G327) else (False)))) else (if ((xs (v3).toNatClampNeg) &&& 31) = 27 then (vp_in (v3 + 1) N ∧ vp_in (v3 + 2) N ∧ gK G v1 = 10 ∧ wpX10_slip v1 (xs ((v3 + 1)).toNatClampNeg) (xs ((v3 + 2)).toNatClampNeg) G (fun r332 G333 => vp_in (v3 + 1) N ∧ vp_in (v3 + 2) N ∧ gK G333 v2 = 11 ∧ wpX11_slip v2 (xs ((v3 + 1)).toNatClampNeg) (xs ((v3 + 2)).toNatClampNeg) G333 (fun r337 G338 => if r332 = r337 then (∀ x339 : Int32, x339 = v3 + 5 → wpL_law_18 N xs n v1 v2 x339 G338) else (False)))) else (if ((xs (v3).toNatClampNeg) &&& 31) = 28 then (vp_in (v3 + 1) N ∧ gK G v1 = 10 ∧ wpX10_count v1 (xs ((v3 + 1)).toNatClampNeg) G (fun r342 G343 => vp_in (v3 + 1) N ∧ gK G343 v2 = 11 ∧ wpX11_count v2 (xs ((v3 + 1)).toNatClampNeg) G343 (fun r346 G347 => if r342 = r346 then (∀ x348 : Int32, x348 = v3 + 5 → wpL_law_18 N xs n v1 v2 x348 G347) else (False)))) else (∀ x349 : Int32, x349 = v3 + 5 → wpL_law_18 N xs n v1 v2 x349 G))))))))))))))))))))))))))))))
set_option maxRecDepth 100000 in
def wpL_law (N : Nat) (xs : Nat → Int32) (G : Wd) : Prop := ∀ (z351 : Nat) (G350 : Wd), z351 = gZ G → G350 = nC G 10 0 → wpX10_init z351 G350 (fun G353 => ∀ (z355 : Nat) (G354 : Wd), z355 = gZ G353 → G354 = nC G353 11 0 → wpX11_init z355 G354 (fun G357 => ∃ m, m ≤ 1000 ∧ wpL_law_18 N xs m z351 z355 0 G357))
set_option maxHeartbeats 40000000 in
set_option maxRecDepth 100000 in
theorem sbL_law_18 {p : Program} {l : Launch} {e : Env} {s : State} {m : MethodId} {below : List Frame} {meth : Method} {c0 : Code} {b N : Nat} {xs : Nat → Int32} {D : Dx} {nm : String} (F : Fx (p, l, e, room_1, s, m, #[Value.ref b], below, meth, c0) D cL_law 4 RL ret nm) (hB : dB D = s.heap.size) (hX : va_X b N xs s s.heap) (hbl : b < s.heap.size) : ∀ (n : Nat) (v1 v2 : Nat) (v3 : Int32) (G : Wd) (c t : Nat), c + 100 * n ≤ 600000 → t + 1000 * n ≤ 7302250 → wpL_law_18 N xs n v1 v2 v3 G → V (p, l, e, room_1, s, m, #[Value.ref b], below, meth, c0) D 4 (lw_Z below #[Value.ref b] s) G c t 18 [(0, .ref b), (1, .ref v1), (2, .ref v2), (3, .int v3)] [] := by
  intro n
  induction n with
  | zero => intro v1 v2 v3 G c t hc ht hw; exact hw.elim
  | succ n ih =>
    intro v1 v2 v3 G c t hc ht hw
    simp only [wpL_law_18] at hw
    refine v_iload_n F dL_law_18 rfl 3 rfl ?_
    refine v_aload_n F dL_law_19 rfl 0 rfl ?_
    refine v_slen F hX hbl (by unfold Ab; omega) dL_law_20 ?_
    refine v_iconst (v := 5) F dL_law_21 (by decide) ?_
    refine v_isub F dL_law_22 ?_
    refine v_icmp_gt (tgt := 1336) F dL_law_23 (by decide) (fun h => ?_) (fun h => ?_)
    · rw [if_pos h] at hw
      refine v_iconst (v := 1) F dL_law_1336 (by decide) ?_
      exact v_lawret F hB (by omega) (by omega) dL_law_1337
    · rw [if_neg h] at hw
      refine v_aload_n F dL_law_26 rfl 0 rfl ?_
      refine v_iload_n F dL_law_27 rfl 3 rfl ?_
      obtain ⟨hi1, hw⟩ := hw
      refine v_sld F hX hbl (by unfold Ab; omega) hi1 dL_law_28 ?_
      refine v_bipush (v := 31) F dL_law_29 (by decide) ?_
      refine v_iand F dL_law_31 ?_
      by_cases hc0 : ((xs (v3).toNatClampNeg) &&& 31) = 0
      · rw [if_pos hc0] at hw
        refine v_tableInE (c := 0) (tgt := 164) F hc0 dL_law_32 (by decide) (by decide) rfl (by decide) ?_
        refine v_aload_n F dL_law_164 rfl 1 rfl ?_
        refine v_aload_n F dL_law_165 rfl 0 rfl ?_
        refine v_iload_n F dL_law_166 rfl 3 rfl ?_
        refine v_iconst (v := 1) F dL_law_167 (by decide) ?_
        refine v_iadd F dL_law_168 ?_
        obtain ⟨hi2, hw⟩ := hw
        refine v_sld F hX hbl (by unfold Ab; omega) hi2 dL_law_169 ?_
        refine v_aload_n F dL_law_170 rfl 0 rfl ?_
        refine v_iload_n F dL_law_171 rfl 3 rfl ?_
        refine v_iconst (v := 2) F dL_law_172 (by decide) ?_
        refine v_iadd F dL_law_173 ?_
        obtain ⟨hi3, hw⟩ := hw
        refine v_sld F hX hbl (by unfold Ab; omega) hi3 dL_law_174 ?_
        obtain ⟨kd4, hw⟩ := hw
        refine v_calll (r_V F lk_L_13 kd4 (sX10_lies hw) (mkRm2 (R := room_1) rfl rfl rfl (Nat.le_of_ble_eq_true rfl) (Nat.le_of_ble_eq_true rfl) (by show _ ≤ 600000; omega) (by show _ ≤ 7302250; omega)) rfl rfl (Nat.le_of_ble_eq_true rfl) dL_law_175) (fun r5 G6 hw => ?_)
        refine v_aload_n F dL_law_178 rfl 2 rfl ?_
        refine v_aload_n F dL_law_179 rfl 0 rfl ?_
        refine v_iload_n F dL_law_180 rfl 3 rfl ?_
        refine v_iconst (v := 1) F dL_law_181 (by decide) ?_
        refine v_iadd F dL_law_182 ?_
        obtain ⟨hi7, hw⟩ := hw
        refine v_sld F hX hbl (by unfold Ab; omega) hi7 dL_law_183 ?_
        refine v_aload_n F dL_law_184 rfl 0 rfl ?_
        refine v_iload_n F dL_law_185 rfl 3 rfl ?_
        refine v_iconst (v := 2) F dL_law_186 (by decide) ?_
        refine v_iadd F dL_law_187 ?_
        obtain ⟨hi8, hw⟩ := hw
        refine v_sld F hX hbl (by unfold Ab; omega) hi8 dL_law_188 ?_
        obtain ⟨kd9, hw⟩ := hw
        refine v_calll (r_V F lk_L_17 kd9 (sX11_lies hw) (mkRm2 (R := room_1) rfl rfl rfl (Nat.le_of_ble_eq_true rfl) (Nat.le_of_ble_eq_true rfl) (by show _ ≤ 600000; omega) (by show _ ≤ 7302250; omega)) rfl rfl (Nat.le_of_ble_eq_true rfl) dL_law_189) (fun r10 G11 hw => ?_)
        refine v_lcmp F dL_law_192 ?_
        refine v_lif_eq (tgt := 1330) F dL_law_193 (by decide) (fun h => ?_) (fun h => ?_)
        · rw [if_pos h] at hw
          refine v_iincN (c := 5) F dL_law_1330 3 rfl (by decide) (by decide) (fun x12 hx12 => ?_)
          refine v_cast (L' := [(3, .int x12), (0, .ref b), (1, .ref v1), (2, .ref v2)]) rfl rfl ?_
          have hw := hw x12 hx12
          refine v_goto (tgt := 18) F dL_law_1333 (by decide) ?_
          exact v_loc [1, 2, 3, 0] rfl (ih _ _ _ _ _ _ (by omega) (by omega) hw)
        · rw [if_neg h] at hw
          refine v_iconst (v := 0) F dL_law_196 (by decide) ?_
          exact hw.elim
      rw [if_neg hc0] at hw
      by_cases hc1 : ((xs (v3).toNatClampNeg) &&& 31) = 1
      · rw [if_pos hc1] at hw
        refine v_tableInE (c := 1) (tgt := 198) F hc1 dL_law_32 (by decide) (by decide) rfl (by decide) ?_
        refine v_aload_n F dL_law_198 rfl 1 rfl ?_
        refine v_aload_n F dL_law_199 rfl 0 rfl ?_
        refine v_iload_n F dL_law_200 rfl 3 rfl ?_
        refine v_iconst (v := 1) F dL_law_201 (by decide) ?_
        refine v_iadd F dL_law_202 ?_
        obtain ⟨hi13, hw⟩ := hw
        refine v_sld F hX hbl (by unfold Ab; omega) hi13 dL_law_203 ?_
        refine v_aload_n F dL_law_204 rfl 0 rfl ?_
        refine v_iload_n F dL_law_205 rfl 3 rfl ?_
        refine v_iconst (v := 2) F dL_law_206 (by decide) ?_
        refine v_iadd F dL_law_207 ?_
        obtain ⟨hi14, hw⟩ := hw
        refine v_sld F hX hbl (by unfold Ab; omega) hi14 dL_law_208 ?_
        obtain ⟨kd15, hw⟩ := hw
        refine v_calll (r_V F lk_L_18 kd15 (sX10_within hw) (mkRm2 (R := room_1) rfl rfl rfl (Nat.le_of_ble_eq_true rfl) (Nat.le_of_ble_eq_true rfl) (by show _ ≤ 600000; omega) (by show _ ≤ 7302250; omega)) rfl rfl (Nat.le_of_ble_eq_true rfl) dL_law_209) (fun r16 G17 hw => ?_)
        refine v_aload_n F dL_law_212 rfl 2 rfl ?_
        refine v_aload_n F dL_law_213 rfl 0 rfl ?_
        refine v_iload_n F dL_law_214 rfl 3 rfl ?_
        refine v_iconst (v := 1) F dL_law_215 (by decide) ?_
        refine v_iadd F dL_law_216 ?_
        obtain ⟨hi18, hw⟩ := hw
        refine v_sld F hX hbl (by unfold Ab; omega) hi18 dL_law_217 ?_
        refine v_aload_n F dL_law_218 rfl 0 rfl ?_
        refine v_iload_n F dL_law_219 rfl 3 rfl ?_
        refine v_iconst (v := 2) F dL_law_220 (by decide) ?_
        refine v_iadd F dL_law_221 ?_
        obtain ⟨hi19, hw⟩ := hw
        refine v_sld F hX hbl (by unfold Ab; omega) hi19 dL_law_222 ?_
        obtain ⟨kd20, hw⟩ := hw
        refine v_calll (r_V F lk_L_21 kd20 (sX11_within hw) (mkRm2 (R := room_1) rfl rfl rfl (Nat.le_of_ble_eq_true rfl) (Nat.le_of_ble_eq_true rfl) (by show _ ≤ 600000; omega) (by show _ ≤ 7302250; omega)) rfl rfl (Nat.le_of_ble_eq_true rfl) dL_law_223) (fun r21 G22 hw => ?_)
        refine v_lcmp F dL_law_226 ?_
        refine v_lif_eq (tgt := 1330) F dL_law_227 (by decide) (fun h => ?_) (fun h => ?_)
        · rw [if_pos h] at hw
          refine v_iincN (c := 5) F dL_law_1330 3 rfl (by decide) (by decide) (fun x23 hx23 => ?_)
          refine v_cast (L' := [(3, .int x23), (0, .ref b), (1, .ref v1), (2, .ref v2)]) rfl rfl ?_
          have hw := hw x23 hx23
          refine v_goto (tgt := 18) F dL_law_1333 (by decide) ?_
          exact v_loc [1, 2, 3, 0] rfl (ih _ _ _ _ _ _ (by omega) (by omega) hw)
        · rw [if_neg h] at hw
          refine v_iconst (v := 0) F dL_law_230 (by decide) ?_
          exact hw.elim
      rw [if_neg hc1] at hw
      by_cases hc2 : ((xs (v3).toNatClampNeg) &&& 31) = 2
      · rw [if_pos hc2] at hw
        refine v_tableInE (c := 2) (tgt := 232) F hc2 dL_law_32 (by decide) (by decide) rfl (by decide) ?_
        refine v_aload_n F dL_law_232 rfl 1 rfl ?_
        refine v_aload_n F dL_law_233 rfl 0 rfl ?_
        refine v_iload_n F dL_law_234 rfl 3 rfl ?_
        refine v_iconst (v := 1) F dL_law_235 (by decide) ?_
        refine v_iadd F dL_law_236 ?_
        obtain ⟨hi24, hw⟩ := hw
        refine v_sld F hX hbl (by unfold Ab; omega) hi24 dL_law_237 ?_
        refine v_aload_n F dL_law_238 rfl 0 rfl ?_
        refine v_iload_n F dL_law_239 rfl 3 rfl ?_
        refine v_iconst (v := 2) F dL_law_240 (by decide) ?_
        refine v_iadd F dL_law_241 ?_
        obtain ⟨hi25, hw⟩ := hw
        refine v_sld F hX hbl (by unfold Ab; omega) hi25 dL_law_242 ?_
        refine v_aload_n F dL_law_243 rfl 0 rfl ?_
        refine v_iload_n F dL_law_244 rfl 3 rfl ?_
        refine v_iconst (v := 3) F dL_law_245 (by decide) ?_
        refine v_iadd F dL_law_246 ?_
        obtain ⟨hi26, hw⟩ := hw
        refine v_sld F hX hbl (by unfold Ab; omega) hi26 dL_law_247 ?_
        refine v_aload_n F dL_law_248 rfl 0 rfl ?_
        refine v_iload_n F dL_law_249 rfl 3 rfl ?_
        refine v_iconst (v := 4) F dL_law_250 (by decide) ?_
        refine v_iadd F dL_law_251 ?_
        obtain ⟨hi27, hw⟩ := hw
        refine v_sld F hX hbl (by unfold Ab; omega) hi27 dL_law_252 ?_
        obtain ⟨kd28, hw⟩ := hw
        refine v_calll (r_V F lk_L_22 kd28 (sX10_likeness hw) (mkRm2 (R := room_1) rfl rfl rfl (Nat.le_of_ble_eq_true rfl) (Nat.le_of_ble_eq_true rfl) (by show _ ≤ 600000; omega) (by show _ ≤ 7302250; omega)) rfl rfl (Nat.le_of_ble_eq_true rfl) dL_law_253) (fun r29 G30 hw => ?_)
        refine v_aload_n F dL_law_256 rfl 2 rfl ?_
        refine v_aload_n F dL_law_257 rfl 0 rfl ?_
        refine v_iload_n F dL_law_258 rfl 3 rfl ?_
        refine v_iconst (v := 1) F dL_law_259 (by decide) ?_
        refine v_iadd F dL_law_260 ?_
        obtain ⟨hi31, hw⟩ := hw
        refine v_sld F hX hbl (by unfold Ab; omega) hi31 dL_law_261 ?_
        refine v_aload_n F dL_law_262 rfl 0 rfl ?_
        refine v_iload_n F dL_law_263 rfl 3 rfl ?_
        refine v_iconst (v := 2) F dL_law_264 (by decide) ?_
        refine v_iadd F dL_law_265 ?_
        obtain ⟨hi32, hw⟩ := hw
        refine v_sld F hX hbl (by unfold Ab; omega) hi32 dL_law_266 ?_
        refine v_aload_n F dL_law_267 rfl 0 rfl ?_
        refine v_iload_n F dL_law_268 rfl 3 rfl ?_
        refine v_iconst (v := 3) F dL_law_269 (by decide) ?_
        refine v_iadd F dL_law_270 ?_
        obtain ⟨hi33, hw⟩ := hw
        refine v_sld F hX hbl (by unfold Ab; omega) hi33 dL_law_271 ?_
        refine v_aload_n F dL_law_272 rfl 0 rfl ?_
        refine v_iload_n F dL_law_273 rfl 3 rfl ?_
        refine v_iconst (v := 4) F dL_law_274 (by decide) ?_
        refine v_iadd F dL_law_275 ?_
        obtain ⟨hi34, hw⟩ := hw
        refine v_sld F hX hbl (by unfold Ab; omega) hi34 dL_law_276 ?_
        obtain ⟨kd35, hw⟩ := hw
        refine v_calll (r_V F lk_L_26 kd35 (sX11_likeness hw) (mkRm2 (R := room_1) rfl rfl rfl (Nat.le_of_ble_eq_true rfl) (Nat.le_of_ble_eq_true rfl) (by show _ ≤ 600000; omega) (by show _ ≤ 7302250; omega)) rfl rfl (Nat.le_of_ble_eq_true rfl) dL_law_277) (fun r36 G37 hw => ?_)
        refine v_lcmp F dL_law_280 ?_
        refine v_lif_eq (tgt := 1330) F dL_law_281 (by decide) (fun h => ?_) (fun h => ?_)
        · rw [if_pos h] at hw
          refine v_iincN (c := 5) F dL_law_1330 3 rfl (by decide) (by decide) (fun x38 hx38 => ?_)
          refine v_cast (L' := [(3, .int x38), (0, .ref b), (1, .ref v1), (2, .ref v2)]) rfl rfl ?_
          have hw := hw x38 hx38
          refine v_goto (tgt := 18) F dL_law_1333 (by decide) ?_
          exact v_loc [1, 2, 3, 0] rfl (ih _ _ _ _ _ _ (by omega) (by omega) hw)
        · rw [if_neg h] at hw
          refine v_iconst (v := 0) F dL_law_284 (by decide) ?_
          exact hw.elim
      rw [if_neg hc2] at hw
      by_cases hc3 : ((xs (v3).toNatClampNeg) &&& 31) = 3
      · rw [if_pos hc3] at hw
        refine v_tableInE (c := 3) (tgt := 286) F hc3 dL_law_32 (by decide) (by decide) rfl (by decide) ?_
        refine v_aload_n F dL_law_286 rfl 1 rfl ?_
        refine v_aload_n F dL_law_287 rfl 0 rfl ?_
        refine v_iload_n F dL_law_288 rfl 3 rfl ?_
        refine v_iconst (v := 1) F dL_law_289 (by decide) ?_
        refine v_iadd F dL_law_290 ?_
        obtain ⟨hi39, hw⟩ := hw
        refine v_sld F hX hbl (by unfold Ab; omega) hi39 dL_law_291 ?_
        refine v_aload_n F dL_law_292 rfl 0 rfl ?_
        refine v_iload_n F dL_law_293 rfl 3 rfl ?_
        refine v_iconst (v := 2) F dL_law_294 (by decide) ?_
        refine v_iadd F dL_law_295 ?_
        obtain ⟨hi40, hw⟩ := hw
        refine v_sld F hX hbl (by unfold Ab; omega) hi40 dL_law_296 ?_
        refine v_aload_n F dL_law_297 rfl 0 rfl ?_
        refine v_iload_n F dL_law_298 rfl 3 rfl ?_
        refine v_iconst (v := 3) F dL_law_299 (by decide) ?_
        refine v_iadd F dL_law_300 ?_
        obtain ⟨hi41, hw⟩ := hw
        refine v_sld F hX hbl (by unfold Ab; omega) hi41 dL_law_301 ?_
        refine v_aload_n F dL_law_302 rfl 0 rfl ?_
        refine v_iload_n F dL_law_303 rfl 3 rfl ?_
        refine v_iconst (v := 4) F dL_law_304 (by decide) ?_
        refine v_iadd F dL_law_305 ?_
        obtain ⟨hi42, hw⟩ := hw
        refine v_sld F hX hbl (by unfold Ab; omega) hi42 dL_law_306 ?_
        obtain ⟨kd43, hw⟩ := hw
        refine v_calll (r_V F lk_L_27 kd43 (sX10_holds hw) (mkRm2 (R := room_1) rfl rfl rfl (Nat.le_of_ble_eq_true rfl) (Nat.le_of_ble_eq_true rfl) (by show _ ≤ 600000; omega) (by show _ ≤ 7302250; omega)) rfl rfl (Nat.le_of_ble_eq_true rfl) dL_law_307) (fun r44 G45 hw => ?_)
        refine v_aload_n F dL_law_310 rfl 2 rfl ?_
        refine v_aload_n F dL_law_311 rfl 0 rfl ?_
        refine v_iload_n F dL_law_312 rfl 3 rfl ?_
        refine v_iconst (v := 1) F dL_law_313 (by decide) ?_
        refine v_iadd F dL_law_314 ?_
        obtain ⟨hi46, hw⟩ := hw
        refine v_sld F hX hbl (by unfold Ab; omega) hi46 dL_law_315 ?_
        refine v_aload_n F dL_law_316 rfl 0 rfl ?_
        refine v_iload_n F dL_law_317 rfl 3 rfl ?_
        refine v_iconst (v := 2) F dL_law_318 (by decide) ?_
        refine v_iadd F dL_law_319 ?_
        obtain ⟨hi47, hw⟩ := hw
        refine v_sld F hX hbl (by unfold Ab; omega) hi47 dL_law_320 ?_
        refine v_aload_n F dL_law_321 rfl 0 rfl ?_
        refine v_iload_n F dL_law_322 rfl 3 rfl ?_
        refine v_iconst (v := 3) F dL_law_323 (by decide) ?_
        refine v_iadd F dL_law_324 ?_
        obtain ⟨hi48, hw⟩ := hw
        refine v_sld F hX hbl (by unfold Ab; omega) hi48 dL_law_325 ?_
        refine v_aload_n F dL_law_326 rfl 0 rfl ?_
        refine v_iload_n F dL_law_327 rfl 3 rfl ?_
        refine v_iconst (v := 4) F dL_law_328 (by decide) ?_
        refine v_iadd F dL_law_329 ?_
        obtain ⟨hi49, hw⟩ := hw
        refine v_sld F hX hbl (by unfold Ab; omega) hi49 dL_law_330 ?_
        obtain ⟨kd50, hw⟩ := hw
        refine v_calll (r_V F lk_L_30 kd50 (sX11_holds hw) (mkRm2 (R := room_1) rfl rfl rfl (Nat.le_of_ble_eq_true rfl) (Nat.le_of_ble_eq_true rfl) (by show _ ≤ 600000; omega) (by show _ ≤ 7302250; omega)) rfl rfl (Nat.le_of_ble_eq_true rfl) dL_law_331) (fun r51 G52 hw => ?_)
        refine v_lcmp F dL_law_334 ?_
        refine v_lif_eq (tgt := 1330) F dL_law_335 (by decide) (fun h => ?_) (fun h => ?_)
        · rw [if_pos h] at hw
          refine v_iincN (c := 5) F dL_law_1330 3 rfl (by decide) (by decide) (fun x53 hx53 => ?_)
          refine v_cast (L' := [(3, .int x53), (0, .ref b), (1, .ref v1), (2, .ref v2)]) rfl rfl ?_
          have hw := hw x53 hx53
          refine v_goto (tgt := 18) F dL_law_1333 (by decide) ?_
          exact v_loc [1, 2, 3, 0] rfl (ih _ _ _ _ _ _ (by omega) (by omega) hw)
        · rw [if_neg h] at hw
          refine v_iconst (v := 0) F dL_law_338 (by decide) ?_
          exact hw.elim
      rw [if_neg hc3] at hw
      by_cases hc4 : ((xs (v3).toNatClampNeg) &&& 31) = 4
      · rw [if_pos hc4] at hw
        refine v_tableInE (c := 4) (tgt := 340) F hc4 dL_law_32 (by decide) (by decide) rfl (by decide) ?_
        refine v_aload_n F dL_law_340 rfl 1 rfl ?_
        refine v_aload_n F dL_law_341 rfl 0 rfl ?_
        refine v_iload_n F dL_law_342 rfl 3 rfl ?_
        refine v_iconst (v := 1) F dL_law_343 (by decide) ?_
        refine v_iadd F dL_law_344 ?_
        obtain ⟨hi54, hw⟩ := hw
        refine v_sld F hX hbl (by unfold Ab; omega) hi54 dL_law_345 ?_
        refine v_aload_n F dL_law_346 rfl 0 rfl ?_
        refine v_iload_n F dL_law_347 rfl 3 rfl ?_
        refine v_iconst (v := 2) F dL_law_348 (by decide) ?_
        refine v_iadd F dL_law_349 ?_
        obtain ⟨hi55, hw⟩ := hw
        refine v_sld F hX hbl (by unfold Ab; omega) hi55 dL_law_350 ?_
        refine v_aload_n F dL_law_351 rfl 0 rfl ?_
        refine v_iload_n F dL_law_352 rfl 3 rfl ?_
        refine v_iconst (v := 3) F dL_law_353 (by decide) ?_
        refine v_iadd F dL_law_354 ?_
        obtain ⟨hi56, hw⟩ := hw
        refine v_sld F hX hbl (by unfold Ab; omega) hi56 dL_law_355 ?_
        obtain ⟨kd57, hw⟩ := hw
        refine v_calll (r_V F lk_L_31 kd57 (sX10_doubt hw) (mkRm2 (R := room_1) rfl rfl rfl (Nat.le_of_ble_eq_true rfl) (Nat.le_of_ble_eq_true rfl) (by show _ ≤ 600000; omega) (by show _ ≤ 7302250; omega)) rfl rfl (Nat.le_of_ble_eq_true rfl) dL_law_356) (fun r58 G59 hw => ?_)
        refine v_aload_n F dL_law_359 rfl 2 rfl ?_
        refine v_aload_n F dL_law_360 rfl 0 rfl ?_
        refine v_iload_n F dL_law_361 rfl 3 rfl ?_
        refine v_iconst (v := 1) F dL_law_362 (by decide) ?_
        refine v_iadd F dL_law_363 ?_
        obtain ⟨hi60, hw⟩ := hw
        refine v_sld F hX hbl (by unfold Ab; omega) hi60 dL_law_364 ?_
        refine v_aload_n F dL_law_365 rfl 0 rfl ?_
        refine v_iload_n F dL_law_366 rfl 3 rfl ?_
        refine v_iconst (v := 2) F dL_law_367 (by decide) ?_
        refine v_iadd F dL_law_368 ?_
        obtain ⟨hi61, hw⟩ := hw
        refine v_sld F hX hbl (by unfold Ab; omega) hi61 dL_law_369 ?_
        refine v_aload_n F dL_law_370 rfl 0 rfl ?_
        refine v_iload_n F dL_law_371 rfl 3 rfl ?_
        refine v_iconst (v := 3) F dL_law_372 (by decide) ?_
        refine v_iadd F dL_law_373 ?_
        obtain ⟨hi62, hw⟩ := hw
        refine v_sld F hX hbl (by unfold Ab; omega) hi62 dL_law_374 ?_
        obtain ⟨kd63, hw⟩ := hw
        refine v_calll (r_V F lk_L_35 kd63 (sX11_doubt hw) (mkRm2 (R := room_1) rfl rfl rfl (Nat.le_of_ble_eq_true rfl) (Nat.le_of_ble_eq_true rfl) (by show _ ≤ 600000; omega) (by show _ ≤ 7302250; omega)) rfl rfl (Nat.le_of_ble_eq_true rfl) dL_law_375) (fun r64 G65 hw => ?_)
        refine v_lcmp F dL_law_378 ?_
        refine v_lif_eq (tgt := 1330) F dL_law_379 (by decide) (fun h => ?_) (fun h => ?_)
        · rw [if_pos h] at hw
          refine v_iincN (c := 5) F dL_law_1330 3 rfl (by decide) (by decide) (fun x66 hx66 => ?_)
          refine v_cast (L' := [(3, .int x66), (0, .ref b), (1, .ref v1), (2, .ref v2)]) rfl rfl ?_
          have hw := hw x66 hx66
          refine v_goto (tgt := 18) F dL_law_1333 (by decide) ?_
          exact v_loc [1, 2, 3, 0] rfl (ih _ _ _ _ _ _ (by omega) (by omega) hw)
        · rw [if_neg h] at hw
          refine v_iconst (v := 0) F dL_law_382 (by decide) ?_
          exact hw.elim
      rw [if_neg hc4] at hw
      by_cases hc5 : ((xs (v3).toNatClampNeg) &&& 31) = 5
      · rw [if_pos hc5] at hw
        refine v_tableInE (c := 5) (tgt := 384) F hc5 dL_law_32 (by decide) (by decide) rfl (by decide) ?_
        refine v_aload_n F dL_law_384 rfl 1 rfl ?_
        refine v_aload_n F dL_law_385 rfl 0 rfl ?_
        refine v_iload_n F dL_law_386 rfl 3 rfl ?_
        refine v_iconst (v := 1) F dL_law_387 (by decide) ?_
        refine v_iadd F dL_law_388 ?_
        obtain ⟨hi67, hw⟩ := hw
        refine v_sld F hX hbl (by unfold Ab; omega) hi67 dL_law_389 ?_
        refine v_aload_n F dL_law_390 rfl 0 rfl ?_
        refine v_iload_n F dL_law_391 rfl 3 rfl ?_
        refine v_iconst (v := 2) F dL_law_392 (by decide) ?_
        refine v_iadd F dL_law_393 ?_
        obtain ⟨hi68, hw⟩ := hw
        refine v_sld F hX hbl (by unfold Ab; omega) hi68 dL_law_394 ?_
        obtain ⟨kd69, hw⟩ := hw
        refine v_calll (r_V F lk_L_36 kd69 (sX10_drop hw) (mkRm2 (R := room_1) rfl rfl rfl (Nat.le_of_ble_eq_true rfl) (Nat.le_of_ble_eq_true rfl) (by show _ ≤ 600000; omega) (by show _ ≤ 7302250; omega)) rfl rfl (Nat.le_of_ble_eq_true rfl) dL_law_395) (fun r70 G71 hw => ?_)
        refine v_aload_n F dL_law_398 rfl 2 rfl ?_
        refine v_aload_n F dL_law_399 rfl 0 rfl ?_
        refine v_iload_n F dL_law_400 rfl 3 rfl ?_
        refine v_iconst (v := 1) F dL_law_401 (by decide) ?_
        refine v_iadd F dL_law_402 ?_
        obtain ⟨hi72, hw⟩ := hw
        refine v_sld F hX hbl (by unfold Ab; omega) hi72 dL_law_403 ?_
        refine v_aload_n F dL_law_404 rfl 0 rfl ?_
        refine v_iload_n F dL_law_405 rfl 3 rfl ?_
        refine v_iconst (v := 2) F dL_law_406 (by decide) ?_
        refine v_iadd F dL_law_407 ?_
        obtain ⟨hi73, hw⟩ := hw
        refine v_sld F hX hbl (by unfold Ab; omega) hi73 dL_law_408 ?_
        obtain ⟨kd74, hw⟩ := hw
        refine v_calll (r_V F lk_L_39 kd74 (sX11_drop hw) (mkRm2 (R := room_1) rfl rfl rfl (Nat.le_of_ble_eq_true rfl) (Nat.le_of_ble_eq_true rfl) (by show _ ≤ 600000; omega) (by show _ ≤ 7302250; omega)) rfl rfl (Nat.le_of_ble_eq_true rfl) dL_law_409) (fun r75 G76 hw => ?_)
        refine v_lcmp F dL_law_412 ?_
        refine v_lif_eq (tgt := 1330) F dL_law_413 (by decide) (fun h => ?_) (fun h => ?_)
        · rw [if_pos h] at hw
          refine v_iincN (c := 5) F dL_law_1330 3 rfl (by decide) (by decide) (fun x77 hx77 => ?_)
          refine v_cast (L' := [(3, .int x77), (0, .ref b), (1, .ref v1), (2, .ref v2)]) rfl rfl ?_
          have hw := hw x77 hx77
          refine v_goto (tgt := 18) F dL_law_1333 (by decide) ?_
          exact v_loc [1, 2, 3, 0] rfl (ih _ _ _ _ _ _ (by omega) (by omega) hw)
        · rw [if_neg h] at hw
          refine v_iconst (v := 0) F dL_law_416 (by decide) ?_
          exact hw.elim
      rw [if_neg hc5] at hw
      by_cases hc6 : ((xs (v3).toNatClampNeg) &&& 31) = 6
      · rw [if_pos hc6] at hw
        refine v_tableInE (c := 6) (tgt := 418) F hc6 dL_law_32 (by decide) (by decide) rfl (by decide) ?_
        refine v_aload_n F dL_law_418 rfl 1 rfl ?_
        obtain ⟨kd78, hw⟩ := hw
        refine v_calll (r_V F lk_L_40 kd78 (sX10_forget hw) (mkRm2 (R := room_1) rfl rfl rfl (Nat.le_of_ble_eq_true rfl) (Nat.le_of_ble_eq_true rfl) (by show _ ≤ 600000; omega) (by show _ ≤ 7302250; omega)) rfl rfl (Nat.le_of_ble_eq_true rfl) dL_law_419) (fun r79 G80 hw => ?_)
        refine v_aload_n F dL_law_422 rfl 2 rfl ?_
        obtain ⟨kd81, hw⟩ := hw
        refine v_calll (r_V F lk_L_44 kd81 (sX11_forget hw) (mkRm2 (R := room_1) rfl rfl rfl (Nat.le_of_ble_eq_true rfl) (Nat.le_of_ble_eq_true rfl) (by show _ ≤ 600000; omega) (by show _ ≤ 7302250; omega)) rfl rfl (Nat.le_of_ble_eq_true rfl) dL_law_423) (fun r82 G83 hw => ?_)
        refine v_lcmp F dL_law_426 ?_
        refine v_lif_eq (tgt := 1330) F dL_law_427 (by decide) (fun h => ?_) (fun h => ?_)
        · rw [if_pos h] at hw
          refine v_iincN (c := 5) F dL_law_1330 3 rfl (by decide) (by decide) (fun x84 hx84 => ?_)
          refine v_cast (L' := [(3, .int x84), (0, .ref b), (1, .ref v1), (2, .ref v2)]) rfl rfl ?_
          have hw := hw x84 hx84
          refine v_goto (tgt := 18) F dL_law_1333 (by decide) ?_
          exact v_loc [1, 2, 3, 0] rfl (ih _ _ _ _ _ _ (by omega) (by omega) hw)
        · rw [if_neg h] at hw
          refine v_iconst (v := 0) F dL_law_430 (by decide) ?_
          exact hw.elim
      rw [if_neg hc6] at hw
      by_cases hc7 : ((xs (v3).toNatClampNeg) &&& 31) = 7
      · rw [if_pos hc7] at hw
        refine v_tableInE (c := 7) (tgt := 432) F hc7 dL_law_32 (by decide) (by decide) rfl (by decide) ?_
        refine v_aload_n F dL_law_432 rfl 1 rfl ?_
        refine v_aload_n F dL_law_433 rfl 0 rfl ?_
        refine v_iload_n F dL_law_434 rfl 3 rfl ?_
        refine v_iconst (v := 1) F dL_law_435 (by decide) ?_
        refine v_iadd F dL_law_436 ?_
        obtain ⟨hi85, hw⟩ := hw
        refine v_sld F hX hbl (by unfold Ab; omega) hi85 dL_law_437 ?_
        refine v_aload_n F dL_law_438 rfl 0 rfl ?_
        refine v_iload_n F dL_law_439 rfl 3 rfl ?_
        refine v_iconst (v := 2) F dL_law_440 (by decide) ?_
        refine v_iadd F dL_law_441 ?_
        obtain ⟨hi86, hw⟩ := hw
        refine v_sld F hX hbl (by unfold Ab; omega) hi86 dL_law_442 ?_
        obtain ⟨kd87, hw⟩ := hw
        refine v_calll (r_V F lk_L_45 kd87 (sX10_told hw) (mkRm2 (R := room_1) rfl rfl rfl (Nat.le_of_ble_eq_true rfl) (Nat.le_of_ble_eq_true rfl) (by show _ ≤ 600000; omega) (by show _ ≤ 7302250; omega)) rfl rfl (Nat.le_of_ble_eq_true rfl) dL_law_443) (fun r88 G89 hw => ?_)
        refine v_aload_n F dL_law_446 rfl 2 rfl ?_
        refine v_aload_n F dL_law_447 rfl 0 rfl ?_
        refine v_iload_n F dL_law_448 rfl 3 rfl ?_
        refine v_iconst (v := 1) F dL_law_449 (by decide) ?_
        refine v_iadd F dL_law_450 ?_
        obtain ⟨hi90, hw⟩ := hw
        refine v_sld F hX hbl (by unfold Ab; omega) hi90 dL_law_451 ?_
        refine v_aload_n F dL_law_452 rfl 0 rfl ?_
        refine v_iload_n F dL_law_453 rfl 3 rfl ?_
        refine v_iconst (v := 2) F dL_law_454 (by decide) ?_
        refine v_iadd F dL_law_455 ?_
        obtain ⟨hi91, hw⟩ := hw
        refine v_sld F hX hbl (by unfold Ab; omega) hi91 dL_law_456 ?_
        obtain ⟨kd92, hw⟩ := hw
        refine v_calll (r_V F lk_L_48 kd92 (sX11_told hw) (mkRm2 (R := room_1) rfl rfl rfl (Nat.le_of_ble_eq_true rfl) (Nat.le_of_ble_eq_true rfl) (by show _ ≤ 600000; omega) (by show _ ≤ 7302250; omega)) rfl rfl (Nat.le_of_ble_eq_true rfl) dL_law_457) (fun r93 G94 hw => ?_)
        refine v_lcmp F dL_law_460 ?_
        refine v_lif_eq (tgt := 1330) F dL_law_461 (by decide) (fun h => ?_) (fun h => ?_)
        · rw [if_pos h] at hw
          refine v_iincN (c := 5) F dL_law_1330 3 rfl (by decide) (by decide) (fun x95 hx95 => ?_)
          refine v_cast (L' := [(3, .int x95), (0, .ref b), (1, .ref v1), (2, .ref v2)]) rfl rfl ?_
          have hw := hw x95 hx95
          refine v_goto (tgt := 18) F dL_law_1333 (by decide) ?_
          exact v_loc [1, 2, 3, 0] rfl (ih _ _ _ _ _ _ (by omega) (by omega) hw)
        · rw [if_neg h] at hw
          refine v_iconst (v := 0) F dL_law_464 (by decide) ?_
          exact hw.elim
      rw [if_neg hc7] at hw
      by_cases hc8 : ((xs (v3).toNatClampNeg) &&& 31) = 8
      · rw [if_pos hc8] at hw
        refine v_tableInE (c := 8) (tgt := 466) F hc8 dL_law_32 (by decide) (by decide) rfl (by decide) ?_
        refine v_aload_n F dL_law_466 rfl 1 rfl ?_
        refine v_aload_n F dL_law_467 rfl 0 rfl ?_
        refine v_iload_n F dL_law_468 rfl 3 rfl ?_
        refine v_iconst (v := 1) F dL_law_469 (by decide) ?_
        refine v_iadd F dL_law_470 ?_
        obtain ⟨hi96, hw⟩ := hw
        refine v_sld F hX hbl (by unfold Ab; omega) hi96 dL_law_471 ?_
        refine v_aload_n F dL_law_472 rfl 0 rfl ?_
        refine v_iload_n F dL_law_473 rfl 3 rfl ?_
        refine v_iconst (v := 2) F dL_law_474 (by decide) ?_
        refine v_iadd F dL_law_475 ?_
        obtain ⟨hi97, hw⟩ := hw
        refine v_sld F hX hbl (by unfold Ab; omega) hi97 dL_law_476 ?_
        obtain ⟨kd98, hw⟩ := hw
        refine v_calll (r_V F lk_L_49 kd98 (sX10_isOf hw) (mkRm2 (R := room_1) rfl rfl rfl (Nat.le_of_ble_eq_true rfl) (Nat.le_of_ble_eq_true rfl) (by show _ ≤ 600000; omega) (by show _ ≤ 7302250; omega)) rfl rfl (Nat.le_of_ble_eq_true rfl) dL_law_477) (fun r99 G100 hw => ?_)
        refine v_aload_n F dL_law_480 rfl 2 rfl ?_
        refine v_aload_n F dL_law_481 rfl 0 rfl ?_
        refine v_iload_n F dL_law_482 rfl 3 rfl ?_
        refine v_iconst (v := 1) F dL_law_483 (by decide) ?_
        refine v_iadd F dL_law_484 ?_
        obtain ⟨hi101, hw⟩ := hw
        refine v_sld F hX hbl (by unfold Ab; omega) hi101 dL_law_485 ?_
        refine v_aload_n F dL_law_486 rfl 0 rfl ?_
        refine v_iload_n F dL_law_487 rfl 3 rfl ?_
        refine v_iconst (v := 2) F dL_law_488 (by decide) ?_
        refine v_iadd F dL_law_489 ?_
        obtain ⟨hi102, hw⟩ := hw
        refine v_sld F hX hbl (by unfold Ab; omega) hi102 dL_law_490 ?_
        obtain ⟨kd103, hw⟩ := hw
        refine v_calll (r_V F lk_L_52 kd103 (sX11_isOf hw) (mkRm2 (R := room_1) rfl rfl rfl (Nat.le_of_ble_eq_true rfl) (Nat.le_of_ble_eq_true rfl) (by show _ ≤ 600000; omega) (by show _ ≤ 7302250; omega)) rfl rfl (Nat.le_of_ble_eq_true rfl) dL_law_491) (fun r104 G105 hw => ?_)
        refine v_lcmp F dL_law_494 ?_
        refine v_lif_eq (tgt := 1330) F dL_law_495 (by decide) (fun h => ?_) (fun h => ?_)
        · rw [if_pos h] at hw
          refine v_iincN (c := 5) F dL_law_1330 3 rfl (by decide) (by decide) (fun x106 hx106 => ?_)
          refine v_cast (L' := [(3, .int x106), (0, .ref b), (1, .ref v1), (2, .ref v2)]) rfl rfl ?_
          have hw := hw x106 hx106
          refine v_goto (tgt := 18) F dL_law_1333 (by decide) ?_
          exact v_loc [1, 2, 3, 0] rfl (ih _ _ _ _ _ _ (by omega) (by omega) hw)
        · rw [if_neg h] at hw
          refine v_iconst (v := 0) F dL_law_498 (by decide) ?_
          exact hw.elim
      rw [if_neg hc8] at hw
      by_cases hc9 : ((xs (v3).toNatClampNeg) &&& 31) = 9
      · rw [if_pos hc9] at hw
        refine v_tableInE (c := 9) (tgt := 500) F hc9 dL_law_32 (by decide) (by decide) rfl (by decide) ?_
        refine v_aload_n F dL_law_500 rfl 1 rfl ?_
        refine v_aload_n F dL_law_501 rfl 0 rfl ?_
        refine v_iload_n F dL_law_502 rfl 3 rfl ?_
        refine v_iconst (v := 1) F dL_law_503 (by decide) ?_
        refine v_iadd F dL_law_504 ?_
        obtain ⟨hi107, hw⟩ := hw
        refine v_sld F hX hbl (by unfold Ab; omega) hi107 dL_law_505 ?_
        refine v_aload_n F dL_law_506 rfl 0 rfl ?_
        refine v_iload_n F dL_law_507 rfl 3 rfl ?_
        refine v_iconst (v := 2) F dL_law_508 (by decide) ?_
        refine v_iadd F dL_law_509 ?_
        obtain ⟨hi108, hw⟩ := hw
        refine v_sld F hX hbl (by unfold Ab; omega) hi108 dL_law_510 ?_
        refine v_aload_n F dL_law_511 rfl 0 rfl ?_
        refine v_iload_n F dL_law_512 rfl 3 rfl ?_
        refine v_iconst (v := 3) F dL_law_513 (by decide) ?_
        refine v_iadd F dL_law_514 ?_
        obtain ⟨hi109, hw⟩ := hw
        refine v_sld F hX hbl (by unfold Ab; omega) hi109 dL_law_515 ?_
        obtain ⟨kd110, hw⟩ := hw
        refine v_calll (r_V F lk_L_53 kd110 (sX10_end hw) (mkRm2 (R := room_1) rfl rfl rfl (Nat.le_of_ble_eq_true rfl) (Nat.le_of_ble_eq_true rfl) (by show _ ≤ 600000; omega) (by show _ ≤ 7302250; omega)) rfl rfl (Nat.le_of_ble_eq_true rfl) dL_law_516) (fun r111 G112 hw => ?_)
        refine v_aload_n F dL_law_519 rfl 2 rfl ?_
        refine v_aload_n F dL_law_520 rfl 0 rfl ?_
        refine v_iload_n F dL_law_521 rfl 3 rfl ?_
        refine v_iconst (v := 1) F dL_law_522 (by decide) ?_
        refine v_iadd F dL_law_523 ?_
        obtain ⟨hi113, hw⟩ := hw
        refine v_sld F hX hbl (by unfold Ab; omega) hi113 dL_law_524 ?_
        refine v_aload_n F dL_law_525 rfl 0 rfl ?_
        refine v_iload_n F dL_law_526 rfl 3 rfl ?_
        refine v_iconst (v := 2) F dL_law_527 (by decide) ?_
        refine v_iadd F dL_law_528 ?_
        obtain ⟨hi114, hw⟩ := hw
        refine v_sld F hX hbl (by unfold Ab; omega) hi114 dL_law_529 ?_
        refine v_aload_n F dL_law_530 rfl 0 rfl ?_
        refine v_iload_n F dL_law_531 rfl 3 rfl ?_
        refine v_iconst (v := 3) F dL_law_532 (by decide) ?_
        refine v_iadd F dL_law_533 ?_
        obtain ⟨hi115, hw⟩ := hw
        refine v_sld F hX hbl (by unfold Ab; omega) hi115 dL_law_534 ?_
        obtain ⟨kd116, hw⟩ := hw
        refine v_calll (r_V F lk_L_56 kd116 (sX11_end hw) (mkRm2 (R := room_1) rfl rfl rfl (Nat.le_of_ble_eq_true rfl) (Nat.le_of_ble_eq_true rfl) (by show _ ≤ 600000; omega) (by show _ ≤ 7302250; omega)) rfl rfl (Nat.le_of_ble_eq_true rfl) dL_law_535) (fun r117 G118 hw => ?_)
        refine v_lcmp F dL_law_538 ?_
        refine v_lif_eq (tgt := 1330) F dL_law_539 (by decide) (fun h => ?_) (fun h => ?_)
        · rw [if_pos h] at hw
          refine v_iincN (c := 5) F dL_law_1330 3 rfl (by decide) (by decide) (fun x119 hx119 => ?_)
          refine v_cast (L' := [(3, .int x119), (0, .ref b), (1, .ref v1), (2, .ref v2)]) rfl rfl ?_
          have hw := hw x119 hx119
          refine v_goto (tgt := 18) F dL_law_1333 (by decide) ?_
          exact v_loc [1, 2, 3, 0] rfl (ih _ _ _ _ _ _ (by omega) (by omega) hw)
        · rw [if_neg h] at hw
          refine v_iconst (v := 0) F dL_law_542 (by decide) ?_
          exact hw.elim
      rw [if_neg hc9] at hw
      by_cases hc10 : ((xs (v3).toNatClampNeg) &&& 31) = 10
      · rw [if_pos hc10] at hw
        refine v_tableInE (c := 10) (tgt := 544) F hc10 dL_law_32 (by decide) (by decide) rfl (by decide) ?_
        refine v_aload_n F dL_law_544 rfl 1 rfl ?_
        refine v_aload_n F dL_law_545 rfl 0 rfl ?_
        refine v_iload_n F dL_law_546 rfl 3 rfl ?_
        refine v_iconst (v := 1) F dL_law_547 (by decide) ?_
        refine v_iadd F dL_law_548 ?_
        obtain ⟨hi120, hw⟩ := hw
        refine v_sld F hX hbl (by unfold Ab; omega) hi120 dL_law_549 ?_
        refine v_aload_n F dL_law_550 rfl 0 rfl ?_
        refine v_iload_n F dL_law_551 rfl 3 rfl ?_
        refine v_iconst (v := 2) F dL_law_552 (by decide) ?_
        refine v_iadd F dL_law_553 ?_
        obtain ⟨hi121, hw⟩ := hw
        refine v_sld F hX hbl (by unfold Ab; omega) hi121 dL_law_554 ?_
        refine v_aload_n F dL_law_555 rfl 0 rfl ?_
        refine v_iload_n F dL_law_556 rfl 3 rfl ?_
        refine v_iconst (v := 3) F dL_law_557 (by decide) ?_
        refine v_iadd F dL_law_558 ?_
        obtain ⟨hi122, hw⟩ := hw
        refine v_sld F hX hbl (by unfold Ab; omega) hi122 dL_law_559 ?_
        obtain ⟨kd123, hw⟩ := hw
        refine v_calll (r_V F lk_L_57 kd123 (sX10_counts hw) (mkRm2 (R := room_1) rfl rfl rfl (Nat.le_of_ble_eq_true rfl) (Nat.le_of_ble_eq_true rfl) (by show _ ≤ 600000; omega) (by show _ ≤ 7302250; omega)) rfl rfl (Nat.le_of_ble_eq_true rfl) dL_law_560) (fun r124 G125 hw => ?_)
        refine v_aload_n F dL_law_563 rfl 2 rfl ?_
        refine v_aload_n F dL_law_564 rfl 0 rfl ?_
        refine v_iload_n F dL_law_565 rfl 3 rfl ?_
        refine v_iconst (v := 1) F dL_law_566 (by decide) ?_
        refine v_iadd F dL_law_567 ?_
        obtain ⟨hi126, hw⟩ := hw
        refine v_sld F hX hbl (by unfold Ab; omega) hi126 dL_law_568 ?_
        refine v_aload_n F dL_law_569 rfl 0 rfl ?_
        refine v_iload_n F dL_law_570 rfl 3 rfl ?_
        refine v_iconst (v := 2) F dL_law_571 (by decide) ?_
        refine v_iadd F dL_law_572 ?_
        obtain ⟨hi127, hw⟩ := hw
        refine v_sld F hX hbl (by unfold Ab; omega) hi127 dL_law_573 ?_
        refine v_aload_n F dL_law_574 rfl 0 rfl ?_
        refine v_iload_n F dL_law_575 rfl 3 rfl ?_
        refine v_iconst (v := 3) F dL_law_576 (by decide) ?_
        refine v_iadd F dL_law_577 ?_
        obtain ⟨hi128, hw⟩ := hw
        refine v_sld F hX hbl (by unfold Ab; omega) hi128 dL_law_578 ?_
        obtain ⟨kd129, hw⟩ := hw
        refine v_calll (r_V F lk_L_60 kd129 (sX11_counts hw) (mkRm2 (R := room_1) rfl rfl rfl (Nat.le_of_ble_eq_true rfl) (Nat.le_of_ble_eq_true rfl) (by show _ ≤ 600000; omega) (by show _ ≤ 7302250; omega)) rfl rfl (Nat.le_of_ble_eq_true rfl) dL_law_579) (fun r130 G131 hw => ?_)
        refine v_lcmp F dL_law_582 ?_
        refine v_lif_eq (tgt := 1330) F dL_law_583 (by decide) (fun h => ?_) (fun h => ?_)
        · rw [if_pos h] at hw
          refine v_iincN (c := 5) F dL_law_1330 3 rfl (by decide) (by decide) (fun x132 hx132 => ?_)
          refine v_cast (L' := [(3, .int x132), (0, .ref b), (1, .ref v1), (2, .ref v2)]) rfl rfl ?_
          have hw := hw x132 hx132
          refine v_goto (tgt := 18) F dL_law_1333 (by decide) ?_
          exact v_loc [1, 2, 3, 0] rfl (ih _ _ _ _ _ _ (by omega) (by omega) hw)
        · rw [if_neg h] at hw
          refine v_iconst (v := 0) F dL_law_586 (by decide) ?_
          exact hw.elim
      rw [if_neg hc10] at hw
      by_cases hc11 : ((xs (v3).toNatClampNeg) &&& 31) = 11
      · rw [if_pos hc11] at hw
        refine v_tableInE (c := 11) (tgt := 588) F hc11 dL_law_32 (by decide) (by decide) rfl (by decide) ?_
        refine v_aload_n F dL_law_588 rfl 1 rfl ?_
        refine v_aload_n F dL_law_589 rfl 0 rfl ?_
        refine v_iload_n F dL_law_590 rfl 3 rfl ?_
        refine v_iconst (v := 1) F dL_law_591 (by decide) ?_
        refine v_iadd F dL_law_592 ?_
        obtain ⟨hi133, hw⟩ := hw
        refine v_sld F hX hbl (by unfold Ab; omega) hi133 dL_law_593 ?_
        refine v_aload_n F dL_law_594 rfl 0 rfl ?_
        refine v_iload_n F dL_law_595 rfl 3 rfl ?_
        refine v_iconst (v := 2) F dL_law_596 (by decide) ?_
        refine v_iadd F dL_law_597 ?_
        obtain ⟨hi134, hw⟩ := hw
        refine v_sld F hX hbl (by unfold Ab; omega) hi134 dL_law_598 ?_
        obtain ⟨kd135, hw⟩ := hw
        refine v_calll (r_V F lk_L_61 kd135 (sX10_ways hw) (mkRm2 (R := room_1) rfl rfl rfl (Nat.le_of_ble_eq_true rfl) (Nat.le_of_ble_eq_true rfl) (by show _ ≤ 600000; omega) (by show _ ≤ 7302250; omega)) rfl rfl (Nat.le_of_ble_eq_true rfl) dL_law_599) (fun r136 G137 hw => ?_)
        refine v_aload_n F dL_law_602 rfl 2 rfl ?_
        refine v_aload_n F dL_law_603 rfl 0 rfl ?_
        refine v_iload_n F dL_law_604 rfl 3 rfl ?_
        refine v_iconst (v := 1) F dL_law_605 (by decide) ?_
        refine v_iadd F dL_law_606 ?_
        obtain ⟨hi138, hw⟩ := hw
        refine v_sld F hX hbl (by unfold Ab; omega) hi138 dL_law_607 ?_
        refine v_aload_n F dL_law_608 rfl 0 rfl ?_
        refine v_iload_n F dL_law_609 rfl 3 rfl ?_
        refine v_iconst (v := 2) F dL_law_610 (by decide) ?_
        refine v_iadd F dL_law_611 ?_
        obtain ⟨hi139, hw⟩ := hw
        refine v_sld F hX hbl (by unfold Ab; omega) hi139 dL_law_612 ?_
        obtain ⟨kd140, hw⟩ := hw
        refine v_calll (r_V F lk_L_64 kd140 (sX11_ways hw) (mkRm2 (R := room_1) rfl rfl rfl (Nat.le_of_ble_eq_true rfl) (Nat.le_of_ble_eq_true rfl) (by show _ ≤ 600000; omega) (by show _ ≤ 7302250; omega)) rfl rfl (Nat.le_of_ble_eq_true rfl) dL_law_613) (fun r141 G142 hw => ?_)
        refine v_lcmp F dL_law_616 ?_
        refine v_lif_eq (tgt := 1330) F dL_law_617 (by decide) (fun h => ?_) (fun h => ?_)
        · rw [if_pos h] at hw
          refine v_iincN (c := 5) F dL_law_1330 3 rfl (by decide) (by decide) (fun x143 hx143 => ?_)
          refine v_cast (L' := [(3, .int x143), (0, .ref b), (1, .ref v1), (2, .ref v2)]) rfl rfl ?_
          have hw := hw x143 hx143
          refine v_goto (tgt := 18) F dL_law_1333 (by decide) ?_
          exact v_loc [1, 2, 3, 0] rfl (ih _ _ _ _ _ _ (by omega) (by omega) hw)
        · rw [if_neg h] at hw
          refine v_iconst (v := 0) F dL_law_620 (by decide) ?_
          exact hw.elim
      rw [if_neg hc11] at hw
      by_cases hc12 : ((xs (v3).toNatClampNeg) &&& 31) = 12
      · rw [if_pos hc12] at hw
        refine v_tableInE (c := 12) (tgt := 622) F hc12 dL_law_32 (by decide) (by decide) rfl (by decide) ?_
        refine v_aload_n F dL_law_622 rfl 1 rfl ?_
        refine v_aload_n F dL_law_623 rfl 0 rfl ?_
        refine v_iload_n F dL_law_624 rfl 3 rfl ?_
        refine v_iconst (v := 1) F dL_law_625 (by decide) ?_
        refine v_iadd F dL_law_626 ?_
        obtain ⟨hi144, hw⟩ := hw
        refine v_sld F hX hbl (by unfold Ab; omega) hi144 dL_law_627 ?_
        refine v_aload_n F dL_law_628 rfl 0 rfl ?_
        refine v_iload_n F dL_law_629 rfl 3 rfl ?_
        refine v_iconst (v := 2) F dL_law_630 (by decide) ?_
        refine v_iadd F dL_law_631 ?_
        obtain ⟨hi145, hw⟩ := hw
        refine v_sld F hX hbl (by unfold Ab; omega) hi145 dL_law_632 ?_
        refine v_aload_n F dL_law_633 rfl 0 rfl ?_
        refine v_iload_n F dL_law_634 rfl 3 rfl ?_
        refine v_iconst (v := 3) F dL_law_635 (by decide) ?_
        refine v_iadd F dL_law_636 ?_
        obtain ⟨hi146, hw⟩ := hw
        refine v_sld F hX hbl (by unfold Ab; omega) hi146 dL_law_637 ?_
        refine v_aload_n F dL_law_638 rfl 0 rfl ?_
        refine v_iload_n F dL_law_639 rfl 3 rfl ?_
        refine v_iconst (v := 4) F dL_law_640 (by decide) ?_
        refine v_iadd F dL_law_641 ?_
        obtain ⟨hi147, hw⟩ := hw
        refine v_sld F hX hbl (by unfold Ab; omega) hi147 dL_law_642 ?_
        obtain ⟨kd148, hw⟩ := hw
        refine v_calll (r_V F lk_L_65 kd148 (sX10_way hw) (mkRm2 (R := room_1) rfl rfl rfl (Nat.le_of_ble_eq_true rfl) (Nat.le_of_ble_eq_true rfl) (by show _ ≤ 600000; omega) (by show _ ≤ 7302250; omega)) rfl rfl (Nat.le_of_ble_eq_true rfl) dL_law_643) (fun r149 G150 hw => ?_)
        refine v_aload_n F dL_law_646 rfl 2 rfl ?_
        refine v_aload_n F dL_law_647 rfl 0 rfl ?_
        refine v_iload_n F dL_law_648 rfl 3 rfl ?_
        refine v_iconst (v := 1) F dL_law_649 (by decide) ?_
        refine v_iadd F dL_law_650 ?_
        obtain ⟨hi151, hw⟩ := hw
        refine v_sld F hX hbl (by unfold Ab; omega) hi151 dL_law_651 ?_
        refine v_aload_n F dL_law_652 rfl 0 rfl ?_
        refine v_iload_n F dL_law_653 rfl 3 rfl ?_
        refine v_iconst (v := 2) F dL_law_654 (by decide) ?_
        refine v_iadd F dL_law_655 ?_
        obtain ⟨hi152, hw⟩ := hw
        refine v_sld F hX hbl (by unfold Ab; omega) hi152 dL_law_656 ?_
        refine v_aload_n F dL_law_657 rfl 0 rfl ?_
        refine v_iload_n F dL_law_658 rfl 3 rfl ?_
        refine v_iconst (v := 3) F dL_law_659 (by decide) ?_
        refine v_iadd F dL_law_660 ?_
        obtain ⟨hi153, hw⟩ := hw
        refine v_sld F hX hbl (by unfold Ab; omega) hi153 dL_law_661 ?_
        refine v_aload_n F dL_law_662 rfl 0 rfl ?_
        refine v_iload_n F dL_law_663 rfl 3 rfl ?_
        refine v_iconst (v := 4) F dL_law_664 (by decide) ?_
        refine v_iadd F dL_law_665 ?_
        obtain ⟨hi154, hw⟩ := hw
        refine v_sld F hX hbl (by unfold Ab; omega) hi154 dL_law_666 ?_
        obtain ⟨kd155, hw⟩ := hw
        refine v_calll (r_V F lk_L_68 kd155 (sX11_way hw) (mkRm2 (R := room_1) rfl rfl rfl (Nat.le_of_ble_eq_true rfl) (Nat.le_of_ble_eq_true rfl) (by show _ ≤ 600000; omega) (by show _ ≤ 7302250; omega)) rfl rfl (Nat.le_of_ble_eq_true rfl) dL_law_667) (fun r156 G157 hw => ?_)
        refine v_lcmp F dL_law_670 ?_
        refine v_lif_eq (tgt := 1330) F dL_law_671 (by decide) (fun h => ?_) (fun h => ?_)
        · rw [if_pos h] at hw
          refine v_iincN (c := 5) F dL_law_1330 3 rfl (by decide) (by decide) (fun x158 hx158 => ?_)
          refine v_cast (L' := [(3, .int x158), (0, .ref b), (1, .ref v1), (2, .ref v2)]) rfl rfl ?_
          have hw := hw x158 hx158
          refine v_goto (tgt := 18) F dL_law_1333 (by decide) ?_
          exact v_loc [1, 2, 3, 0] rfl (ih _ _ _ _ _ _ (by omega) (by omega) hw)
        · rw [if_neg h] at hw
          refine v_iconst (v := 0) F dL_law_674 (by decide) ?_
          exact hw.elim
      rw [if_neg hc12] at hw
      by_cases hc13 : ((xs (v3).toNatClampNeg) &&& 31) = 13
      · rw [if_pos hc13] at hw
        refine v_tableInE (c := 13) (tgt := 676) F hc13 dL_law_32 (by decide) (by decide) rfl (by decide) ?_
        refine v_aload_n F dL_law_676 rfl 1 rfl ?_
        refine v_aload_n F dL_law_677 rfl 0 rfl ?_
        refine v_iload_n F dL_law_678 rfl 3 rfl ?_
        refine v_iconst (v := 1) F dL_law_679 (by decide) ?_
        refine v_iadd F dL_law_680 ?_
        obtain ⟨hi159, hw⟩ := hw
        refine v_sld F hX hbl (by unfold Ab; omega) hi159 dL_law_681 ?_
        refine v_aload_n F dL_law_682 rfl 0 rfl ?_
        refine v_iload_n F dL_law_683 rfl 3 rfl ?_
        refine v_iconst (v := 2) F dL_law_684 (by decide) ?_
        refine v_iadd F dL_law_685 ?_
        obtain ⟨hi160, hw⟩ := hw
        refine v_sld F hX hbl (by unfold Ab; omega) hi160 dL_law_686 ?_
        refine v_aload_n F dL_law_687 rfl 0 rfl ?_
        refine v_iload_n F dL_law_688 rfl 3 rfl ?_
        refine v_iconst (v := 3) F dL_law_689 (by decide) ?_
        refine v_iadd F dL_law_690 ?_
        obtain ⟨hi161, hw⟩ := hw
        refine v_sld F hX hbl (by unfold Ab; omega) hi161 dL_law_691 ?_
        refine v_aload_n F dL_law_692 rfl 0 rfl ?_
        refine v_iload_n F dL_law_693 rfl 3 rfl ?_
        refine v_iconst (v := 4) F dL_law_694 (by decide) ?_
        refine v_iadd F dL_law_695 ?_
        obtain ⟨hi162, hw⟩ := hw
        refine v_sld F hX hbl (by unfold Ab; omega) hi162 dL_law_696 ?_
        obtain ⟨kd163, hw⟩ := hw
        refine v_calll (r_V F lk_L_69 kd163 (sX10_factor hw) (mkRm2 (R := room_1) rfl rfl rfl (Nat.le_of_ble_eq_true rfl) (Nat.le_of_ble_eq_true rfl) (by show _ ≤ 600000; omega) (by show _ ≤ 7302250; omega)) rfl rfl (Nat.le_of_ble_eq_true rfl) dL_law_697) (fun r164 G165 hw => ?_)
        refine v_aload_n F dL_law_700 rfl 2 rfl ?_
        refine v_aload_n F dL_law_701 rfl 0 rfl ?_
        refine v_iload_n F dL_law_702 rfl 3 rfl ?_
        refine v_iconst (v := 1) F dL_law_703 (by decide) ?_
        refine v_iadd F dL_law_704 ?_
        obtain ⟨hi166, hw⟩ := hw
        refine v_sld F hX hbl (by unfold Ab; omega) hi166 dL_law_705 ?_
        refine v_aload_n F dL_law_706 rfl 0 rfl ?_
        refine v_iload_n F dL_law_707 rfl 3 rfl ?_
        refine v_iconst (v := 2) F dL_law_708 (by decide) ?_
        refine v_iadd F dL_law_709 ?_
        obtain ⟨hi167, hw⟩ := hw
        refine v_sld F hX hbl (by unfold Ab; omega) hi167 dL_law_710 ?_
        refine v_aload_n F dL_law_711 rfl 0 rfl ?_
        refine v_iload_n F dL_law_712 rfl 3 rfl ?_
        refine v_iconst (v := 3) F dL_law_713 (by decide) ?_
        refine v_iadd F dL_law_714 ?_
        obtain ⟨hi168, hw⟩ := hw
        refine v_sld F hX hbl (by unfold Ab; omega) hi168 dL_law_715 ?_
        refine v_aload_n F dL_law_716 rfl 0 rfl ?_
        refine v_iload_n F dL_law_717 rfl 3 rfl ?_
        refine v_iconst (v := 4) F dL_law_718 (by decide) ?_
        refine v_iadd F dL_law_719 ?_
        obtain ⟨hi169, hw⟩ := hw
        refine v_sld F hX hbl (by unfold Ab; omega) hi169 dL_law_720 ?_
        obtain ⟨kd170, hw⟩ := hw
        refine v_calll (r_V F lk_L_72 kd170 (sX11_factor hw) (mkRm2 (R := room_1) rfl rfl rfl (Nat.le_of_ble_eq_true rfl) (Nat.le_of_ble_eq_true rfl) (by show _ ≤ 600000; omega) (by show _ ≤ 7302250; omega)) rfl rfl (Nat.le_of_ble_eq_true rfl) dL_law_721) (fun r171 G172 hw => ?_)
        refine v_lcmp F dL_law_724 ?_
        refine v_lif_eq (tgt := 1330) F dL_law_725 (by decide) (fun h => ?_) (fun h => ?_)
        · rw [if_pos h] at hw
          refine v_iincN (c := 5) F dL_law_1330 3 rfl (by decide) (by decide) (fun x173 hx173 => ?_)
          refine v_cast (L' := [(3, .int x173), (0, .ref b), (1, .ref v1), (2, .ref v2)]) rfl rfl ?_
          have hw := hw x173 hx173
          refine v_goto (tgt := 18) F dL_law_1333 (by decide) ?_
          exact v_loc [1, 2, 3, 0] rfl (ih _ _ _ _ _ _ (by omega) (by omega) hw)
        · rw [if_neg h] at hw
          refine v_iconst (v := 0) F dL_law_728 (by decide) ?_
          exact hw.elim
      rw [if_neg hc13] at hw
      by_cases hc14 : ((xs (v3).toNatClampNeg) &&& 31) = 14
      · rw [if_pos hc14] at hw
        refine v_tableInE (c := 14) (tgt := 730) F hc14 dL_law_32 (by decide) (by decide) rfl (by decide) ?_
        refine v_aload_n F dL_law_730 rfl 1 rfl ?_
        refine v_aload_n F dL_law_731 rfl 0 rfl ?_
        refine v_iload_n F dL_law_732 rfl 3 rfl ?_
        refine v_iconst (v := 1) F dL_law_733 (by decide) ?_
        refine v_iadd F dL_law_734 ?_
        obtain ⟨hi174, hw⟩ := hw
        refine v_sld F hX hbl (by unfold Ab; omega) hi174 dL_law_735 ?_
        refine v_aload_n F dL_law_736 rfl 0 rfl ?_
        refine v_iload_n F dL_law_737 rfl 3 rfl ?_
        refine v_iconst (v := 2) F dL_law_738 (by decide) ?_
        refine v_iadd F dL_law_739 ?_
        obtain ⟨hi175, hw⟩ := hw
        refine v_sld F hX hbl (by unfold Ab; omega) hi175 dL_law_740 ?_
        refine v_aload_n F dL_law_741 rfl 0 rfl ?_
        refine v_iload_n F dL_law_742 rfl 3 rfl ?_
        refine v_iconst (v := 3) F dL_law_743 (by decide) ?_
        refine v_iadd F dL_law_744 ?_
        obtain ⟨hi176, hw⟩ := hw
        refine v_sld F hX hbl (by unfold Ab; omega) hi176 dL_law_745 ?_
        refine v_aload_n F dL_law_746 rfl 0 rfl ?_
        refine v_iload_n F dL_law_747 rfl 3 rfl ?_
        refine v_iconst (v := 4) F dL_law_748 (by decide) ?_
        refine v_iadd F dL_law_749 ?_
        obtain ⟨hi177, hw⟩ := hw
        refine v_sld F hX hbl (by unfold Ab; omega) hi177 dL_law_750 ?_
        obtain ⟨kd178, hw⟩ := hw
        refine v_calll (r_V F lk_L_73 kd178 (sX10_span hw) (mkRm2 (R := room_1) rfl rfl rfl (Nat.le_of_ble_eq_true rfl) (Nat.le_of_ble_eq_true rfl) (by show _ ≤ 600000; omega) (by show _ ≤ 7302250; omega)) rfl rfl (Nat.le_of_ble_eq_true rfl) dL_law_751) (fun r179 G180 hw => ?_)
        refine v_aload_n F dL_law_754 rfl 2 rfl ?_
        refine v_aload_n F dL_law_755 rfl 0 rfl ?_
        refine v_iload_n F dL_law_756 rfl 3 rfl ?_
        refine v_iconst (v := 1) F dL_law_757 (by decide) ?_
        refine v_iadd F dL_law_758 ?_
        obtain ⟨hi181, hw⟩ := hw
        refine v_sld F hX hbl (by unfold Ab; omega) hi181 dL_law_759 ?_
        refine v_aload_n F dL_law_760 rfl 0 rfl ?_
        refine v_iload_n F dL_law_761 rfl 3 rfl ?_
        refine v_iconst (v := 2) F dL_law_762 (by decide) ?_
        refine v_iadd F dL_law_763 ?_
        obtain ⟨hi182, hw⟩ := hw
        refine v_sld F hX hbl (by unfold Ab; omega) hi182 dL_law_764 ?_
        refine v_aload_n F dL_law_765 rfl 0 rfl ?_
        refine v_iload_n F dL_law_766 rfl 3 rfl ?_
        refine v_iconst (v := 3) F dL_law_767 (by decide) ?_
        refine v_iadd F dL_law_768 ?_
        obtain ⟨hi183, hw⟩ := hw
        refine v_sld F hX hbl (by unfold Ab; omega) hi183 dL_law_769 ?_
        refine v_aload_n F dL_law_770 rfl 0 rfl ?_
        refine v_iload_n F dL_law_771 rfl 3 rfl ?_
        refine v_iconst (v := 4) F dL_law_772 (by decide) ?_
        refine v_iadd F dL_law_773 ?_
        obtain ⟨hi184, hw⟩ := hw
        refine v_sld F hX hbl (by unfold Ab; omega) hi184 dL_law_774 ?_
        obtain ⟨kd185, hw⟩ := hw
        refine v_calll (r_V F lk_L_76 kd185 (sX11_span hw) (mkRm2 (R := room_1) rfl rfl rfl (Nat.le_of_ble_eq_true rfl) (Nat.le_of_ble_eq_true rfl) (by show _ ≤ 600000; omega) (by show _ ≤ 7302250; omega)) rfl rfl (Nat.le_of_ble_eq_true rfl) dL_law_775) (fun r186 G187 hw => ?_)
        refine v_lcmp F dL_law_778 ?_
        refine v_lif_eq (tgt := 1330) F dL_law_779 (by decide) (fun h => ?_) (fun h => ?_)
        · rw [if_pos h] at hw
          refine v_iincN (c := 5) F dL_law_1330 3 rfl (by decide) (by decide) (fun x188 hx188 => ?_)
          refine v_cast (L' := [(3, .int x188), (0, .ref b), (1, .ref v1), (2, .ref v2)]) rfl rfl ?_
          have hw := hw x188 hx188
          refine v_goto (tgt := 18) F dL_law_1333 (by decide) ?_
          exact v_loc [1, 2, 3, 0] rfl (ih _ _ _ _ _ _ (by omega) (by omega) hw)
        · rw [if_neg h] at hw
          refine v_iconst (v := 0) F dL_law_782 (by decide) ?_
          exact hw.elim
      rw [if_neg hc14] at hw
      by_cases hc15 : ((xs (v3).toNatClampNeg) &&& 31) = 15
      · rw [if_pos hc15] at hw
        refine v_tableInE (c := 15) (tgt := 784) F hc15 dL_law_32 (by decide) (by decide) rfl (by decide) ?_
        refine v_aload_n F dL_law_784 rfl 1 rfl ?_
        refine v_aload_n F dL_law_785 rfl 0 rfl ?_
        refine v_iload_n F dL_law_786 rfl 3 rfl ?_
        refine v_iconst (v := 1) F dL_law_787 (by decide) ?_
        refine v_iadd F dL_law_788 ?_
        obtain ⟨hi189, hw⟩ := hw
        refine v_sld F hX hbl (by unfold Ab; omega) hi189 dL_law_789 ?_
        refine v_aload_n F dL_law_790 rfl 0 rfl ?_
        refine v_iload_n F dL_law_791 rfl 3 rfl ?_
        refine v_iconst (v := 2) F dL_law_792 (by decide) ?_
        refine v_iadd F dL_law_793 ?_
        obtain ⟨hi190, hw⟩ := hw
        refine v_sld F hX hbl (by unfold Ab; omega) hi190 dL_law_794 ?_
        obtain ⟨kd191, hw⟩ := hw
        refine v_calll (r_V F lk_L_77 kd191 (sX10_quarrel hw) (mkRm2 (R := room_1) rfl rfl rfl (Nat.le_of_ble_eq_true rfl) (Nat.le_of_ble_eq_true rfl) (by show _ ≤ 600000; omega) (by show _ ≤ 7302250; omega)) rfl rfl (Nat.le_of_ble_eq_true rfl) dL_law_795) (fun r192 G193 hw => ?_)
        refine v_aload_n F dL_law_798 rfl 2 rfl ?_
        refine v_aload_n F dL_law_799 rfl 0 rfl ?_
        refine v_iload_n F dL_law_800 rfl 3 rfl ?_
        refine v_iconst (v := 1) F dL_law_801 (by decide) ?_
        refine v_iadd F dL_law_802 ?_
        obtain ⟨hi194, hw⟩ := hw
        refine v_sld F hX hbl (by unfold Ab; omega) hi194 dL_law_803 ?_
        refine v_aload_n F dL_law_804 rfl 0 rfl ?_
        refine v_iload_n F dL_law_805 rfl 3 rfl ?_
        refine v_iconst (v := 2) F dL_law_806 (by decide) ?_
        refine v_iadd F dL_law_807 ?_
        obtain ⟨hi195, hw⟩ := hw
        refine v_sld F hX hbl (by unfold Ab; omega) hi195 dL_law_808 ?_
        obtain ⟨kd196, hw⟩ := hw
        refine v_calll (r_V F lk_L_80 kd196 (sX11_quarrel hw) (mkRm2 (R := room_1) rfl rfl rfl (Nat.le_of_ble_eq_true rfl) (Nat.le_of_ble_eq_true rfl) (by show _ ≤ 600000; omega) (by show _ ≤ 7302250; omega)) rfl rfl (Nat.le_of_ble_eq_true rfl) dL_law_809) (fun r197 G198 hw => ?_)
        refine v_lcmp F dL_law_812 ?_
        refine v_lif_eq (tgt := 1330) F dL_law_813 (by decide) (fun h => ?_) (fun h => ?_)
        · rw [if_pos h] at hw
          refine v_iincN (c := 5) F dL_law_1330 3 rfl (by decide) (by decide) (fun x199 hx199 => ?_)
          refine v_cast (L' := [(3, .int x199), (0, .ref b), (1, .ref v1), (2, .ref v2)]) rfl rfl ?_
          have hw := hw x199 hx199
          refine v_goto (tgt := 18) F dL_law_1333 (by decide) ?_
          exact v_loc [1, 2, 3, 0] rfl (ih _ _ _ _ _ _ (by omega) (by omega) hw)
        · rw [if_neg h] at hw
          refine v_iconst (v := 0) F dL_law_816 (by decide) ?_
          exact hw.elim
      rw [if_neg hc15] at hw
      by_cases hc16 : ((xs (v3).toNatClampNeg) &&& 31) = 16
      · rw [if_pos hc16] at hw
        refine v_tableInE (c := 16) (tgt := 818) F hc16 dL_law_32 (by decide) (by decide) rfl (by decide) ?_
        refine v_aload_n F dL_law_818 rfl 1 rfl ?_
        refine v_aload_n F dL_law_819 rfl 0 rfl ?_
        refine v_iload_n F dL_law_820 rfl 3 rfl ?_
        refine v_iconst (v := 1) F dL_law_821 (by decide) ?_
        refine v_iadd F dL_law_822 ?_
        obtain ⟨hi200, hw⟩ := hw
        refine v_sld F hX hbl (by unfold Ab; omega) hi200 dL_law_823 ?_
        obtain ⟨kd201, hw⟩ := hw
        refine v_calll (r_V F lk_L_81 kd201 (sX10_cure hw) (mkRm2 (R := room_1) rfl rfl rfl (Nat.le_of_ble_eq_true rfl) (Nat.le_of_ble_eq_true rfl) (by show _ ≤ 600000; omega) (by show _ ≤ 7302250; omega)) rfl rfl (Nat.le_of_ble_eq_true rfl) dL_law_824) (fun r202 G203 hw => ?_)
        refine v_aload_n F dL_law_827 rfl 2 rfl ?_
        refine v_aload_n F dL_law_828 rfl 0 rfl ?_
        refine v_iload_n F dL_law_829 rfl 3 rfl ?_
        refine v_iconst (v := 1) F dL_law_830 (by decide) ?_
        refine v_iadd F dL_law_831 ?_
        obtain ⟨hi204, hw⟩ := hw
        refine v_sld F hX hbl (by unfold Ab; omega) hi204 dL_law_832 ?_
        obtain ⟨kd205, hw⟩ := hw
        refine v_calll (r_V F lk_L_85 kd205 (sX11_cure hw) (mkRm2 (R := room_1) rfl rfl rfl (Nat.le_of_ble_eq_true rfl) (Nat.le_of_ble_eq_true rfl) (by show _ ≤ 600000; omega) (by show _ ≤ 7302250; omega)) rfl rfl (Nat.le_of_ble_eq_true rfl) dL_law_833) (fun r206 G207 hw => ?_)
        refine v_lcmp F dL_law_836 ?_
        refine v_lif_eq (tgt := 1330) F dL_law_837 (by decide) (fun h => ?_) (fun h => ?_)
        · rw [if_pos h] at hw
          refine v_iincN (c := 5) F dL_law_1330 3 rfl (by decide) (by decide) (fun x208 hx208 => ?_)
          refine v_cast (L' := [(3, .int x208), (0, .ref b), (1, .ref v1), (2, .ref v2)]) rfl rfl ?_
          have hw := hw x208 hx208
          refine v_goto (tgt := 18) F dL_law_1333 (by decide) ?_
          exact v_loc [1, 2, 3, 0] rfl (ih _ _ _ _ _ _ (by omega) (by omega) hw)
        · rw [if_neg h] at hw
          refine v_iconst (v := 0) F dL_law_840 (by decide) ?_
          exact hw.elim
      rw [if_neg hc16] at hw
      by_cases hc17 : ((xs (v3).toNatClampNeg) &&& 31) = 17
      · rw [if_pos hc17] at hw
        refine v_tableInE (c := 17) (tgt := 842) F hc17 dL_law_32 (by decide) (by decide) rfl (by decide) ?_
        refine v_aload_n F dL_law_842 rfl 1 rfl ?_
        refine v_aload_n F dL_law_843 rfl 0 rfl ?_
        refine v_iload_n F dL_law_844 rfl 3 rfl ?_
        refine v_iconst (v := 1) F dL_law_845 (by decide) ?_
        refine v_iadd F dL_law_846 ?_
        obtain ⟨hi209, hw⟩ := hw
        refine v_sld F hX hbl (by unfold Ab; omega) hi209 dL_law_847 ?_
        obtain ⟨kd210, hw⟩ := hw
        refine v_calll (r_V F lk_L_86 kd210 (sX10_heal hw) (mkRm2 (R := room_1) rfl rfl rfl (Nat.le_of_ble_eq_true rfl) (Nat.le_of_ble_eq_true rfl) (by show _ ≤ 600000; omega) (by show _ ≤ 7302250; omega)) rfl rfl (Nat.le_of_ble_eq_true rfl) dL_law_848) (fun r211 G212 hw => ?_)
        refine v_aload_n F dL_law_851 rfl 2 rfl ?_
        refine v_aload_n F dL_law_852 rfl 0 rfl ?_
        refine v_iload_n F dL_law_853 rfl 3 rfl ?_
        refine v_iconst (v := 1) F dL_law_854 (by decide) ?_
        refine v_iadd F dL_law_855 ?_
        obtain ⟨hi213, hw⟩ := hw
        refine v_sld F hX hbl (by unfold Ab; omega) hi213 dL_law_856 ?_
        obtain ⟨kd214, hw⟩ := hw
        refine v_calll (r_V F lk_L_89 kd214 (sX11_heal hw) (mkRm2 (R := room_1) rfl rfl rfl (Nat.le_of_ble_eq_true rfl) (Nat.le_of_ble_eq_true rfl) (by show _ ≤ 600000; omega) (by show _ ≤ 7302250; omega)) rfl rfl (Nat.le_of_ble_eq_true rfl) dL_law_857) (fun r215 G216 hw => ?_)
        refine v_lcmp F dL_law_860 ?_
        refine v_lif_eq (tgt := 1330) F dL_law_861 (by decide) (fun h => ?_) (fun h => ?_)
        · rw [if_pos h] at hw
          refine v_iincN (c := 5) F dL_law_1330 3 rfl (by decide) (by decide) (fun x217 hx217 => ?_)
          refine v_cast (L' := [(3, .int x217), (0, .ref b), (1, .ref v1), (2, .ref v2)]) rfl rfl ?_
          have hw := hw x217 hx217
          refine v_goto (tgt := 18) F dL_law_1333 (by decide) ?_
          exact v_loc [1, 2, 3, 0] rfl (ih _ _ _ _ _ _ (by omega) (by omega) hw)
        · rw [if_neg h] at hw
          refine v_iconst (v := 0) F dL_law_864 (by decide) ?_
          exact hw.elim
      rw [if_neg hc17] at hw
      by_cases hc18 : ((xs (v3).toNatClampNeg) &&& 31) = 18
      · rw [if_pos hc18] at hw
        refine v_tableInE (c := 18) (tgt := 866) F hc18 dL_law_32 (by decide) (by decide) rfl (by decide) ?_
        refine v_aload_n F dL_law_866 rfl 1 rfl ?_
        refine v_aload_n F dL_law_867 rfl 0 rfl ?_
        refine v_iload_n F dL_law_868 rfl 3 rfl ?_
        refine v_iconst (v := 1) F dL_law_869 (by decide) ?_
        refine v_iadd F dL_law_870 ?_
        obtain ⟨hi218, hw⟩ := hw
        refine v_sld F hX hbl (by unfold Ab; omega) hi218 dL_law_871 ?_
        refine v_aload_n F dL_law_872 rfl 0 rfl ?_
        refine v_iload_n F dL_law_873 rfl 3 rfl ?_
        refine v_iconst (v := 2) F dL_law_874 (by decide) ?_
        refine v_iadd F dL_law_875 ?_
        obtain ⟨hi219, hw⟩ := hw
        refine v_sld F hX hbl (by unfold Ab; omega) hi219 dL_law_876 ?_
        obtain ⟨kd220, hw⟩ := hw
        refine v_calll (r_V F lk_L_90 kd220 (sX10_custom hw) (mkRm2 (R := room_1) rfl rfl rfl (Nat.le_of_ble_eq_true rfl) (Nat.le_of_ble_eq_true rfl) (by show _ ≤ 600000; omega) (by show _ ≤ 7302250; omega)) rfl rfl (Nat.le_of_ble_eq_true rfl) dL_law_877) (fun r221 G222 hw => ?_)
        refine v_aload_n F dL_law_880 rfl 2 rfl ?_
        refine v_aload_n F dL_law_881 rfl 0 rfl ?_
        refine v_iload_n F dL_law_882 rfl 3 rfl ?_
        refine v_iconst (v := 1) F dL_law_883 (by decide) ?_
        refine v_iadd F dL_law_884 ?_
        obtain ⟨hi223, hw⟩ := hw
        refine v_sld F hX hbl (by unfold Ab; omega) hi223 dL_law_885 ?_
        refine v_aload_n F dL_law_886 rfl 0 rfl ?_
        refine v_iload_n F dL_law_887 rfl 3 rfl ?_
        refine v_iconst (v := 2) F dL_law_888 (by decide) ?_
        refine v_iadd F dL_law_889 ?_
        obtain ⟨hi224, hw⟩ := hw
        refine v_sld F hX hbl (by unfold Ab; omega) hi224 dL_law_890 ?_
        obtain ⟨kd225, hw⟩ := hw
        refine v_calll (r_V F lk_L_93 kd225 (sX11_custom hw) (mkRm2 (R := room_1) rfl rfl rfl (Nat.le_of_ble_eq_true rfl) (Nat.le_of_ble_eq_true rfl) (by show _ ≤ 600000; omega) (by show _ ≤ 7302250; omega)) rfl rfl (Nat.le_of_ble_eq_true rfl) dL_law_891) (fun r226 G227 hw => ?_)
        refine v_lcmp F dL_law_894 ?_
        refine v_lif_eq (tgt := 1330) F dL_law_895 (by decide) (fun h => ?_) (fun h => ?_)
        · rw [if_pos h] at hw
          refine v_iincN (c := 5) F dL_law_1330 3 rfl (by decide) (by decide) (fun x228 hx228 => ?_)
          refine v_cast (L' := [(3, .int x228), (0, .ref b), (1, .ref v1), (2, .ref v2)]) rfl rfl ?_
          have hw := hw x228 hx228
          refine v_goto (tgt := 18) F dL_law_1333 (by decide) ?_
          exact v_loc [1, 2, 3, 0] rfl (ih _ _ _ _ _ _ (by omega) (by omega) hw)
        · rw [if_neg h] at hw
          refine v_iconst (v := 0) F dL_law_898 (by decide) ?_
          exact hw.elim
      rw [if_neg hc18] at hw
      by_cases hc19 : ((xs (v3).toNatClampNeg) &&& 31) = 19
      · rw [if_pos hc19] at hw
        refine v_tableInE (c := 19) (tgt := 900) F hc19 dL_law_32 (by decide) (by decide) rfl (by decide) ?_
        refine v_aload_n F dL_law_900 rfl 1 rfl ?_
        refine v_aload_n F dL_law_901 rfl 0 rfl ?_
        refine v_iload_n F dL_law_902 rfl 3 rfl ?_
        refine v_iconst (v := 1) F dL_law_903 (by decide) ?_
        refine v_iadd F dL_law_904 ?_
        obtain ⟨hi229, hw⟩ := hw
        refine v_sld F hX hbl (by unfold Ab; omega) hi229 dL_law_905 ?_
        refine v_aload_n F dL_law_906 rfl 0 rfl ?_
        refine v_iload_n F dL_law_907 rfl 3 rfl ?_
        refine v_iconst (v := 2) F dL_law_908 (by decide) ?_
        refine v_iadd F dL_law_909 ?_
        obtain ⟨hi230, hw⟩ := hw
        refine v_sld F hX hbl (by unfold Ab; omega) hi230 dL_law_910 ?_
        refine v_aload_n F dL_law_911 rfl 0 rfl ?_
        refine v_iload_n F dL_law_912 rfl 3 rfl ?_
        refine v_iconst (v := 3) F dL_law_913 (by decide) ?_
        refine v_iadd F dL_law_914 ?_
        obtain ⟨hi231, hw⟩ := hw
        refine v_sld F hX hbl (by unfold Ab; omega) hi231 dL_law_915 ?_
        obtain ⟨kd232, hw⟩ := hw
        refine v_calll (r_V F lk_L_94 kd232 (sX10_step hw) (mkRm2 (R := room_1) rfl rfl rfl (Nat.le_of_ble_eq_true rfl) (Nat.le_of_ble_eq_true rfl) (by show _ ≤ 600000; omega) (by show _ ≤ 7302250; omega)) rfl rfl (Nat.le_of_ble_eq_true rfl) dL_law_916) (fun r233 G234 hw => ?_)
        refine v_aload_n F dL_law_919 rfl 2 rfl ?_
        refine v_aload_n F dL_law_920 rfl 0 rfl ?_
        refine v_iload_n F dL_law_921 rfl 3 rfl ?_
        refine v_iconst (v := 1) F dL_law_922 (by decide) ?_
        refine v_iadd F dL_law_923 ?_
        obtain ⟨hi235, hw⟩ := hw
        refine v_sld F hX hbl (by unfold Ab; omega) hi235 dL_law_924 ?_
        refine v_aload_n F dL_law_925 rfl 0 rfl ?_
        refine v_iload_n F dL_law_926 rfl 3 rfl ?_
        refine v_iconst (v := 2) F dL_law_927 (by decide) ?_
        refine v_iadd F dL_law_928 ?_
        obtain ⟨hi236, hw⟩ := hw
        refine v_sld F hX hbl (by unfold Ab; omega) hi236 dL_law_929 ?_
        refine v_aload_n F dL_law_930 rfl 0 rfl ?_
        refine v_iload_n F dL_law_931 rfl 3 rfl ?_
        refine v_iconst (v := 3) F dL_law_932 (by decide) ?_
        refine v_iadd F dL_law_933 ?_
        obtain ⟨hi237, hw⟩ := hw
        refine v_sld F hX hbl (by unfold Ab; omega) hi237 dL_law_934 ?_
        obtain ⟨kd238, hw⟩ := hw
        refine v_calll (r_V F lk_L_97 kd238 (sX11_step hw) (mkRm2 (R := room_1) rfl rfl rfl (Nat.le_of_ble_eq_true rfl) (Nat.le_of_ble_eq_true rfl) (by show _ ≤ 600000; omega) (by show _ ≤ 7302250; omega)) rfl rfl (Nat.le_of_ble_eq_true rfl) dL_law_935) (fun r239 G240 hw => ?_)
        refine v_lcmp F dL_law_938 ?_
        refine v_lif_eq (tgt := 1330) F dL_law_939 (by decide) (fun h => ?_) (fun h => ?_)
        · rw [if_pos h] at hw
          refine v_iincN (c := 5) F dL_law_1330 3 rfl (by decide) (by decide) (fun x241 hx241 => ?_)
          refine v_cast (L' := [(3, .int x241), (0, .ref b), (1, .ref v1), (2, .ref v2)]) rfl rfl ?_
          have hw := hw x241 hx241
          refine v_goto (tgt := 18) F dL_law_1333 (by decide) ?_
          exact v_loc [1, 2, 3, 0] rfl (ih _ _ _ _ _ _ (by omega) (by omega) hw)
        · rw [if_neg h] at hw
          refine v_iconst (v := 0) F dL_law_942 (by decide) ?_
          exact hw.elim
      rw [if_neg hc19] at hw
      by_cases hc20 : ((xs (v3).toNatClampNeg) &&& 31) = 20
      · rw [if_pos hc20] at hw
        refine v_tableInE (c := 20) (tgt := 944) F hc20 dL_law_32 (by decide) (by decide) rfl (by decide) ?_
        refine v_aload_n F dL_law_944 rfl 1 rfl ?_
        refine v_aload_n F dL_law_945 rfl 0 rfl ?_
        refine v_iload_n F dL_law_946 rfl 3 rfl ?_
        refine v_iconst (v := 1) F dL_law_947 (by decide) ?_
        refine v_iadd F dL_law_948 ?_
        obtain ⟨hi242, hw⟩ := hw
        refine v_sld F hX hbl (by unfold Ab; omega) hi242 dL_law_949 ?_
        refine v_aload_n F dL_law_950 rfl 0 rfl ?_
        refine v_iload_n F dL_law_951 rfl 3 rfl ?_
        refine v_iconst (v := 2) F dL_law_952 (by decide) ?_
        refine v_iadd F dL_law_953 ?_
        obtain ⟨hi243, hw⟩ := hw
        refine v_sld F hX hbl (by unfold Ab; omega) hi243 dL_law_954 ?_
        refine v_aload_n F dL_law_955 rfl 0 rfl ?_
        refine v_iload_n F dL_law_956 rfl 3 rfl ?_
        refine v_iconst (v := 3) F dL_law_957 (by decide) ?_
        refine v_iadd F dL_law_958 ?_
        obtain ⟨hi244, hw⟩ := hw
        refine v_sld F hX hbl (by unfold Ab; omega) hi244 dL_law_959 ?_
        obtain ⟨kd245, hw⟩ := hw
        refine v_calll (r_V F lk_L_98 kd245 (sX10_copy hw) (mkRm2 (R := room_1) rfl rfl rfl (Nat.le_of_ble_eq_true rfl) (Nat.le_of_ble_eq_true rfl) (by show _ ≤ 600000; omega) (by show _ ≤ 7302250; omega)) rfl rfl (Nat.le_of_ble_eq_true rfl) dL_law_960) (fun r246 G247 hw => ?_)
        refine v_aload_n F dL_law_963 rfl 2 rfl ?_
        refine v_aload_n F dL_law_964 rfl 0 rfl ?_
        refine v_iload_n F dL_law_965 rfl 3 rfl ?_
        refine v_iconst (v := 1) F dL_law_966 (by decide) ?_
        refine v_iadd F dL_law_967 ?_
        obtain ⟨hi248, hw⟩ := hw
        refine v_sld F hX hbl (by unfold Ab; omega) hi248 dL_law_968 ?_
        refine v_aload_n F dL_law_969 rfl 0 rfl ?_
        refine v_iload_n F dL_law_970 rfl 3 rfl ?_
        refine v_iconst (v := 2) F dL_law_971 (by decide) ?_
        refine v_iadd F dL_law_972 ?_
        obtain ⟨hi249, hw⟩ := hw
        refine v_sld F hX hbl (by unfold Ab; omega) hi249 dL_law_973 ?_
        refine v_aload_n F dL_law_974 rfl 0 rfl ?_
        refine v_iload_n F dL_law_975 rfl 3 rfl ?_
        refine v_iconst (v := 3) F dL_law_976 (by decide) ?_
        refine v_iadd F dL_law_977 ?_
        obtain ⟨hi250, hw⟩ := hw
        refine v_sld F hX hbl (by unfold Ab; omega) hi250 dL_law_978 ?_
        obtain ⟨kd251, hw⟩ := hw
        refine v_calll (r_V F lk_L_101 kd251 (sX11_copy hw) (mkRm2 (R := room_1) rfl rfl rfl (Nat.le_of_ble_eq_true rfl) (Nat.le_of_ble_eq_true rfl) (by show _ ≤ 600000; omega) (by show _ ≤ 7302250; omega)) rfl rfl (Nat.le_of_ble_eq_true rfl) dL_law_979) (fun r252 G253 hw => ?_)
        refine v_lcmp F dL_law_982 ?_
        refine v_lif_eq (tgt := 1330) F dL_law_983 (by decide) (fun h => ?_) (fun h => ?_)
        · rw [if_pos h] at hw
          refine v_iincN (c := 5) F dL_law_1330 3 rfl (by decide) (by decide) (fun x254 hx254 => ?_)
          refine v_cast (L' := [(3, .int x254), (0, .ref b), (1, .ref v1), (2, .ref v2)]) rfl rfl ?_
          have hw := hw x254 hx254
          refine v_goto (tgt := 18) F dL_law_1333 (by decide) ?_
          exact v_loc [1, 2, 3, 0] rfl (ih _ _ _ _ _ _ (by omega) (by omega) hw)
        · rw [if_neg h] at hw
          refine v_iconst (v := 0) F dL_law_986 (by decide) ?_
          exact hw.elim
      rw [if_neg hc20] at hw
      by_cases hc21 : ((xs (v3).toNatClampNeg) &&& 31) = 21
      · rw [if_pos hc21] at hw
        refine v_tableInE (c := 21) (tgt := 988) F hc21 dL_law_32 (by decide) (by decide) rfl (by decide) ?_
        refine v_aload_n F dL_law_988 rfl 1 rfl ?_
        refine v_aload_n F dL_law_989 rfl 0 rfl ?_
        refine v_iload_n F dL_law_990 rfl 3 rfl ?_
        refine v_iconst (v := 1) F dL_law_991 (by decide) ?_
        refine v_iadd F dL_law_992 ?_
        obtain ⟨hi255, hw⟩ := hw
        refine v_sld F hX hbl (by unfold Ab; omega) hi255 dL_law_993 ?_
        refine v_aload_n F dL_law_994 rfl 0 rfl ?_
        refine v_iload_n F dL_law_995 rfl 3 rfl ?_
        refine v_iconst (v := 2) F dL_law_996 (by decide) ?_
        refine v_iadd F dL_law_997 ?_
        obtain ⟨hi256, hw⟩ := hw
        refine v_sld F hX hbl (by unfold Ab; omega) hi256 dL_law_998 ?_
        refine v_i2l F dL_law_999 ?_
        refine v_bipush (v := 32) F dL_law_1000 (by decide) ?_
        refine v_lshl F dL_law_1002 ?_
        refine v_aload_n F dL_law_1003 rfl 0 rfl ?_
        refine v_iload_n F dL_law_1004 rfl 3 rfl ?_
        refine v_iconst (v := 3) F dL_law_1005 (by decide) ?_
        refine v_iadd F dL_law_1006 ?_
        obtain ⟨hi257, hw⟩ := hw
        refine v_sld F hX hbl (by unfold Ab; omega) hi257 dL_law_1007 ?_
        refine v_i2l F dL_law_1008 ?_
        refine v_ldc2 (v := 4294967295) F wd_1323 dL_law_1009 ?_
        refine v_land F dL_law_1012 ?_
        refine v_lor F dL_law_1013 ?_
        refine v_aload_n F dL_law_1014 rfl 0 rfl ?_
        refine v_iload_n F dL_law_1015 rfl 3 rfl ?_
        refine v_iconst (v := 4) F dL_law_1016 (by decide) ?_
        refine v_iadd F dL_law_1017 ?_
        obtain ⟨hi258, hw⟩ := hw
        refine v_sld F hX hbl (by unfold Ab; omega) hi258 dL_law_1018 ?_
        obtain ⟨kd259, hw⟩ := hw
        refine v_calll (r_V F lk_L_104 kd259 (sX10_part hw) (mkRm2 (R := room_1) rfl rfl rfl (Nat.le_of_ble_eq_true rfl) (Nat.le_of_ble_eq_true rfl) (by show _ ≤ 600000; omega) (by show _ ≤ 7302250; omega)) rfl rfl (Nat.le_of_ble_eq_true rfl) dL_law_1019) (fun r260 G261 hw => ?_)
        refine v_aload_n F dL_law_1022 rfl 2 rfl ?_
        refine v_aload_n F dL_law_1023 rfl 0 rfl ?_
        refine v_iload_n F dL_law_1024 rfl 3 rfl ?_
        refine v_iconst (v := 1) F dL_law_1025 (by decide) ?_
        refine v_iadd F dL_law_1026 ?_
        obtain ⟨hi262, hw⟩ := hw
        refine v_sld F hX hbl (by unfold Ab; omega) hi262 dL_law_1027 ?_
        refine v_aload_n F dL_law_1028 rfl 0 rfl ?_
        refine v_iload_n F dL_law_1029 rfl 3 rfl ?_
        refine v_iconst (v := 2) F dL_law_1030 (by decide) ?_
        refine v_iadd F dL_law_1031 ?_
        obtain ⟨hi263, hw⟩ := hw
        refine v_sld F hX hbl (by unfold Ab; omega) hi263 dL_law_1032 ?_
        refine v_i2l F dL_law_1033 ?_
        refine v_bipush (v := 32) F dL_law_1034 (by decide) ?_
        refine v_lshl F dL_law_1036 ?_
        refine v_aload_n F dL_law_1037 rfl 0 rfl ?_
        refine v_iload_n F dL_law_1038 rfl 3 rfl ?_
        refine v_iconst (v := 3) F dL_law_1039 (by decide) ?_
        refine v_iadd F dL_law_1040 ?_
        obtain ⟨hi264, hw⟩ := hw
        refine v_sld F hX hbl (by unfold Ab; omega) hi264 dL_law_1041 ?_
        refine v_i2l F dL_law_1042 ?_
        refine v_ldc2 (v := 4294967295) F wd_1323 dL_law_1043 ?_
        refine v_land F dL_law_1046 ?_
        refine v_lor F dL_law_1047 ?_
        refine v_aload_n F dL_law_1048 rfl 0 rfl ?_
        refine v_iload_n F dL_law_1049 rfl 3 rfl ?_
        refine v_iconst (v := 4) F dL_law_1050 (by decide) ?_
        refine v_iadd F dL_law_1051 ?_
        obtain ⟨hi265, hw⟩ := hw
        refine v_sld F hX hbl (by unfold Ab; omega) hi265 dL_law_1052 ?_
        obtain ⟨kd266, hw⟩ := hw
        refine v_calll (r_V F lk_L_108 kd266 (sX11_part hw) (mkRm2 (R := room_1) rfl rfl rfl (Nat.le_of_ble_eq_true rfl) (Nat.le_of_ble_eq_true rfl) (by show _ ≤ 600000; omega) (by show _ ≤ 7302250; omega)) rfl rfl (Nat.le_of_ble_eq_true rfl) dL_law_1053) (fun r267 G268 hw => ?_)
        refine v_lcmp F dL_law_1056 ?_
        refine v_lif_eq (tgt := 1330) F dL_law_1057 (by decide) (fun h => ?_) (fun h => ?_)
        · rw [if_pos h] at hw
          refine v_iincN (c := 5) F dL_law_1330 3 rfl (by decide) (by decide) (fun x269 hx269 => ?_)
          refine v_cast (L' := [(3, .int x269), (0, .ref b), (1, .ref v1), (2, .ref v2)]) rfl rfl ?_
          have hw := hw x269 hx269
          refine v_goto (tgt := 18) F dL_law_1333 (by decide) ?_
          exact v_loc [1, 2, 3, 0] rfl (ih _ _ _ _ _ _ (by omega) (by omega) hw)
        · rw [if_neg h] at hw
          refine v_iconst (v := 0) F dL_law_1060 (by decide) ?_
          exact hw.elim
      rw [if_neg hc21] at hw
      by_cases hc22 : ((xs (v3).toNatClampNeg) &&& 31) = 22
      · rw [if_pos hc22] at hw
        refine v_tableInE (c := 22) (tgt := 1062) F hc22 dL_law_32 (by decide) (by decide) rfl (by decide) ?_
        refine v_aload_n F dL_law_1062 rfl 1 rfl ?_
        refine v_aload_n F dL_law_1063 rfl 0 rfl ?_
        refine v_iload_n F dL_law_1064 rfl 3 rfl ?_
        refine v_iconst (v := 1) F dL_law_1065 (by decide) ?_
        refine v_iadd F dL_law_1066 ?_
        obtain ⟨hi270, hw⟩ := hw
        refine v_sld F hX hbl (by unfold Ab; omega) hi270 dL_law_1067 ?_
        refine v_aload_n F dL_law_1068 rfl 0 rfl ?_
        refine v_iload_n F dL_law_1069 rfl 3 rfl ?_
        refine v_iconst (v := 2) F dL_law_1070 (by decide) ?_
        refine v_iadd F dL_law_1071 ?_
        obtain ⟨hi271, hw⟩ := hw
        refine v_sld F hX hbl (by unfold Ab; omega) hi271 dL_law_1072 ?_
        refine v_i2l F dL_law_1073 ?_
        refine v_bipush (v := 32) F dL_law_1074 (by decide) ?_
        refine v_lshl F dL_law_1076 ?_
        refine v_aload_n F dL_law_1077 rfl 0 rfl ?_
        refine v_iload_n F dL_law_1078 rfl 3 rfl ?_
        refine v_iconst (v := 3) F dL_law_1079 (by decide) ?_
        refine v_iadd F dL_law_1080 ?_
        obtain ⟨hi272, hw⟩ := hw
        refine v_sld F hX hbl (by unfold Ab; omega) hi272 dL_law_1081 ?_
        refine v_i2l F dL_law_1082 ?_
        refine v_ldc2 (v := 4294967295) F wd_1323 dL_law_1083 ?_
        refine v_land F dL_law_1086 ?_
        refine v_lor F dL_law_1087 ?_
        obtain ⟨kd273, hw⟩ := hw
        refine v_calll (r_V F lk_L_109 kd273 (sX10_whole hw) (mkRm2 (R := room_1) rfl rfl rfl (Nat.le_of_ble_eq_true rfl) (Nat.le_of_ble_eq_true rfl) (by show _ ≤ 600000; omega) (by show _ ≤ 7302250; omega)) rfl rfl (Nat.le_of_ble_eq_true rfl) dL_law_1088) (fun r274 G275 hw => ?_)
        refine v_aload_n F dL_law_1091 rfl 2 rfl ?_
        refine v_aload_n F dL_law_1092 rfl 0 rfl ?_
        refine v_iload_n F dL_law_1093 rfl 3 rfl ?_
        refine v_iconst (v := 1) F dL_law_1094 (by decide) ?_
        refine v_iadd F dL_law_1095 ?_
        obtain ⟨hi276, hw⟩ := hw
        refine v_sld F hX hbl (by unfold Ab; omega) hi276 dL_law_1096 ?_
        refine v_aload_n F dL_law_1097 rfl 0 rfl ?_
        refine v_iload_n F dL_law_1098 rfl 3 rfl ?_
        refine v_iconst (v := 2) F dL_law_1099 (by decide) ?_
        refine v_iadd F dL_law_1100 ?_
        obtain ⟨hi277, hw⟩ := hw
        refine v_sld F hX hbl (by unfold Ab; omega) hi277 dL_law_1101 ?_
        refine v_i2l F dL_law_1102 ?_
        refine v_bipush (v := 32) F dL_law_1103 (by decide) ?_
        refine v_lshl F dL_law_1105 ?_
        refine v_aload_n F dL_law_1106 rfl 0 rfl ?_
        refine v_iload_n F dL_law_1107 rfl 3 rfl ?_
        refine v_iconst (v := 3) F dL_law_1108 (by decide) ?_
        refine v_iadd F dL_law_1109 ?_
        obtain ⟨hi278, hw⟩ := hw
        refine v_sld F hX hbl (by unfold Ab; omega) hi278 dL_law_1110 ?_
        refine v_i2l F dL_law_1111 ?_
        refine v_ldc2 (v := 4294967295) F wd_1323 dL_law_1112 ?_
        refine v_land F dL_law_1115 ?_
        refine v_lor F dL_law_1116 ?_
        obtain ⟨kd279, hw⟩ := hw
        refine v_calll (r_V F lk_L_113 kd279 (sX11_whole hw) (mkRm2 (R := room_1) rfl rfl rfl (Nat.le_of_ble_eq_true rfl) (Nat.le_of_ble_eq_true rfl) (by show _ ≤ 600000; omega) (by show _ ≤ 7302250; omega)) rfl rfl (Nat.le_of_ble_eq_true rfl) dL_law_1117) (fun r280 G281 hw => ?_)
        refine v_lcmp F dL_law_1120 ?_
        refine v_lif_eq (tgt := 1330) F dL_law_1121 (by decide) (fun h => ?_) (fun h => ?_)
        · rw [if_pos h] at hw
          refine v_iincN (c := 5) F dL_law_1330 3 rfl (by decide) (by decide) (fun x282 hx282 => ?_)
          refine v_cast (L' := [(3, .int x282), (0, .ref b), (1, .ref v1), (2, .ref v2)]) rfl rfl ?_
          have hw := hw x282 hx282
          refine v_goto (tgt := 18) F dL_law_1333 (by decide) ?_
          exact v_loc [1, 2, 3, 0] rfl (ih _ _ _ _ _ _ (by omega) (by omega) hw)
        · rw [if_neg h] at hw
          refine v_iconst (v := 0) F dL_law_1124 (by decide) ?_
          exact hw.elim
      rw [if_neg hc22] at hw
      by_cases hc23 : ((xs (v3).toNatClampNeg) &&& 31) = 23
      · rw [if_pos hc23] at hw
        refine v_tableInE (c := 23) (tgt := 1126) F hc23 dL_law_32 (by decide) (by decide) rfl (by decide) ?_
        refine v_aload_n F dL_law_1126 rfl 1 rfl ?_
        refine v_aload_n F dL_law_1127 rfl 0 rfl ?_
        refine v_iload_n F dL_law_1128 rfl 3 rfl ?_
        refine v_iconst (v := 1) F dL_law_1129 (by decide) ?_
        refine v_iadd F dL_law_1130 ?_
        obtain ⟨hi283, hw⟩ := hw
        refine v_sld F hX hbl (by unfold Ab; omega) hi283 dL_law_1131 ?_
        refine v_aload_n F dL_law_1132 rfl 0 rfl ?_
        refine v_iload_n F dL_law_1133 rfl 3 rfl ?_
        refine v_iconst (v := 2) F dL_law_1134 (by decide) ?_
        refine v_iadd F dL_law_1135 ?_
        obtain ⟨hi284, hw⟩ := hw
        refine v_sld F hX hbl (by unfold Ab; omega) hi284 dL_law_1136 ?_
        refine v_aload_n F dL_law_1137 rfl 0 rfl ?_
        refine v_iload_n F dL_law_1138 rfl 3 rfl ?_
        refine v_iconst (v := 3) F dL_law_1139 (by decide) ?_
        refine v_iadd F dL_law_1140 ?_
        obtain ⟨hi285, hw⟩ := hw
        refine v_sld F hX hbl (by unfold Ab; omega) hi285 dL_law_1141 ?_
        refine v_aload_n F dL_law_1142 rfl 0 rfl ?_
        refine v_iload_n F dL_law_1143 rfl 3 rfl ?_
        refine v_iconst (v := 4) F dL_law_1144 (by decide) ?_
        refine v_iadd F dL_law_1145 ?_
        obtain ⟨hi286, hw⟩ := hw
        refine v_sld F hX hbl (by unfold Ab; omega) hi286 dL_law_1146 ?_
        obtain ⟨kd287, hw⟩ := hw
        refine v_calll (r_V F lk_L_114 kd287 (sX10_line hw) (mkRm2 (R := room_1) rfl rfl rfl (Nat.le_of_ble_eq_true rfl) (Nat.le_of_ble_eq_true rfl) (by show _ ≤ 600000; omega) (by show _ ≤ 7302250; omega)) rfl rfl (Nat.le_of_ble_eq_true rfl) dL_law_1147) (fun r288 G289 hw => ?_)
        refine v_aload_n F dL_law_1150 rfl 2 rfl ?_
        refine v_aload_n F dL_law_1151 rfl 0 rfl ?_
        refine v_iload_n F dL_law_1152 rfl 3 rfl ?_
        refine v_iconst (v := 1) F dL_law_1153 (by decide) ?_
        refine v_iadd F dL_law_1154 ?_
        obtain ⟨hi290, hw⟩ := hw
        refine v_sld F hX hbl (by unfold Ab; omega) hi290 dL_law_1155 ?_
        refine v_aload_n F dL_law_1156 rfl 0 rfl ?_
        refine v_iload_n F dL_law_1157 rfl 3 rfl ?_
        refine v_iconst (v := 2) F dL_law_1158 (by decide) ?_
        refine v_iadd F dL_law_1159 ?_
        obtain ⟨hi291, hw⟩ := hw
        refine v_sld F hX hbl (by unfold Ab; omega) hi291 dL_law_1160 ?_
        refine v_aload_n F dL_law_1161 rfl 0 rfl ?_
        refine v_iload_n F dL_law_1162 rfl 3 rfl ?_
        refine v_iconst (v := 3) F dL_law_1163 (by decide) ?_
        refine v_iadd F dL_law_1164 ?_
        obtain ⟨hi292, hw⟩ := hw
        refine v_sld F hX hbl (by unfold Ab; omega) hi292 dL_law_1165 ?_
        refine v_aload_n F dL_law_1166 rfl 0 rfl ?_
        refine v_iload_n F dL_law_1167 rfl 3 rfl ?_
        refine v_iconst (v := 4) F dL_law_1168 (by decide) ?_
        refine v_iadd F dL_law_1169 ?_
        obtain ⟨hi293, hw⟩ := hw
        refine v_sld F hX hbl (by unfold Ab; omega) hi293 dL_law_1170 ?_
        obtain ⟨kd294, hw⟩ := hw
        refine v_calll (r_V F lk_L_117 kd294 (sX11_line hw) (mkRm2 (R := room_1) rfl rfl rfl (Nat.le_of_ble_eq_true rfl) (Nat.le_of_ble_eq_true rfl) (by show _ ≤ 600000; omega) (by show _ ≤ 7302250; omega)) rfl rfl (Nat.le_of_ble_eq_true rfl) dL_law_1171) (fun r295 G296 hw => ?_)
        refine v_lcmp F dL_law_1174 ?_
        refine v_lif_eq (tgt := 1330) F dL_law_1175 (by decide) (fun h => ?_) (fun h => ?_)
        · rw [if_pos h] at hw
          refine v_iincN (c := 5) F dL_law_1330 3 rfl (by decide) (by decide) (fun x297 hx297 => ?_)
          refine v_cast (L' := [(3, .int x297), (0, .ref b), (1, .ref v1), (2, .ref v2)]) rfl rfl ?_
          have hw := hw x297 hx297
          refine v_goto (tgt := 18) F dL_law_1333 (by decide) ?_
          exact v_loc [1, 2, 3, 0] rfl (ih _ _ _ _ _ _ (by omega) (by omega) hw)
        · rw [if_neg h] at hw
          refine v_iconst (v := 0) F dL_law_1178 (by decide) ?_
          exact hw.elim
      rw [if_neg hc23] at hw
      by_cases hc24 : ((xs (v3).toNatClampNeg) &&& 31) = 24
      · rw [if_pos hc24] at hw
        refine v_tableInE (c := 24) (tgt := 1180) F hc24 dL_law_32 (by decide) (by decide) rfl (by decide) ?_
        refine v_aload_n F dL_law_1180 rfl 1 rfl ?_
        refine v_aload_n F dL_law_1181 rfl 0 rfl ?_
        refine v_iload_n F dL_law_1182 rfl 3 rfl ?_
        refine v_iconst (v := 1) F dL_law_1183 (by decide) ?_
        refine v_iadd F dL_law_1184 ?_
        obtain ⟨hi298, hw⟩ := hw
        refine v_sld F hX hbl (by unfold Ab; omega) hi298 dL_law_1185 ?_
        refine v_aload_n F dL_law_1186 rfl 0 rfl ?_
        refine v_iload_n F dL_law_1187 rfl 3 rfl ?_
        refine v_iconst (v := 2) F dL_law_1188 (by decide) ?_
        refine v_iadd F dL_law_1189 ?_
        obtain ⟨hi299, hw⟩ := hw
        refine v_sld F hX hbl (by unfold Ab; omega) hi299 dL_law_1190 ?_
        obtain ⟨kd300, hw⟩ := hw
        refine v_calll (r_V F lk_L_118 kd300 (sX10_amend hw) (mkRm2 (R := room_1) rfl rfl rfl (Nat.le_of_ble_eq_true rfl) (Nat.le_of_ble_eq_true rfl) (by show _ ≤ 600000; omega) (by show _ ≤ 7302250; omega)) rfl rfl (Nat.le_of_ble_eq_true rfl) dL_law_1191) (fun r301 G302 hw => ?_)
        refine v_aload_n F dL_law_1194 rfl 2 rfl ?_
        refine v_aload_n F dL_law_1195 rfl 0 rfl ?_
        refine v_iload_n F dL_law_1196 rfl 3 rfl ?_
        refine v_iconst (v := 1) F dL_law_1197 (by decide) ?_
        refine v_iadd F dL_law_1198 ?_
        obtain ⟨hi303, hw⟩ := hw
        refine v_sld F hX hbl (by unfold Ab; omega) hi303 dL_law_1199 ?_
        refine v_aload_n F dL_law_1200 rfl 0 rfl ?_
        refine v_iload_n F dL_law_1201 rfl 3 rfl ?_
        refine v_iconst (v := 2) F dL_law_1202 (by decide) ?_
        refine v_iadd F dL_law_1203 ?_
        obtain ⟨hi304, hw⟩ := hw
        refine v_sld F hX hbl (by unfold Ab; omega) hi304 dL_law_1204 ?_
        obtain ⟨kd305, hw⟩ := hw
        refine v_calll (r_V F lk_L_121 kd305 (sX11_amend hw) (mkRm2 (R := room_1) rfl rfl rfl (Nat.le_of_ble_eq_true rfl) (Nat.le_of_ble_eq_true rfl) (by show _ ≤ 600000; omega) (by show _ ≤ 7302250; omega)) rfl rfl (Nat.le_of_ble_eq_true rfl) dL_law_1205) (fun r306 G307 hw => ?_)
        refine v_lcmp F dL_law_1208 ?_
        refine v_lif_eq (tgt := 1330) F dL_law_1209 (by decide) (fun h => ?_) (fun h => ?_)
        · rw [if_pos h] at hw
          refine v_iincN (c := 5) F dL_law_1330 3 rfl (by decide) (by decide) (fun x308 hx308 => ?_)
          refine v_cast (L' := [(3, .int x308), (0, .ref b), (1, .ref v1), (2, .ref v2)]) rfl rfl ?_
          have hw := hw x308 hx308
          refine v_goto (tgt := 18) F dL_law_1333 (by decide) ?_
          exact v_loc [1, 2, 3, 0] rfl (ih _ _ _ _ _ _ (by omega) (by omega) hw)
        · rw [if_neg h] at hw
          refine v_iconst (v := 0) F dL_law_1212 (by decide) ?_
          exact hw.elim
      rw [if_neg hc24] at hw
      by_cases hc25 : ((xs (v3).toNatClampNeg) &&& 31) = 25
      · rw [if_pos hc25] at hw
        refine v_tableInE (c := 25) (tgt := 1214) F hc25 dL_law_32 (by decide) (by decide) rfl (by decide) ?_
        refine v_aload_n F dL_law_1214 rfl 1 rfl ?_
        obtain ⟨kd309, hw⟩ := hw
        refine v_calll (r_V F lk_L_122 kd309 (sX10_clear hw) (mkRm2 (R := room_1) rfl rfl rfl (Nat.le_of_ble_eq_true rfl) (Nat.le_of_ble_eq_true rfl) (by show _ ≤ 600000; omega) (by show _ ≤ 7302250; omega)) rfl rfl (Nat.le_of_ble_eq_true rfl) dL_law_1215) (fun r310 G311 hw => ?_)
        refine v_aload_n F dL_law_1218 rfl 2 rfl ?_
        obtain ⟨kd312, hw⟩ := hw
        refine v_calll (r_V F lk_L_125 kd312 (sX11_clear hw) (mkRm2 (R := room_1) rfl rfl rfl (Nat.le_of_ble_eq_true rfl) (Nat.le_of_ble_eq_true rfl) (by show _ ≤ 600000; omega) (by show _ ≤ 7302250; omega)) rfl rfl (Nat.le_of_ble_eq_true rfl) dL_law_1219) (fun r313 G314 hw => ?_)
        refine v_lcmp F dL_law_1222 ?_
        refine v_lif_eq (tgt := 1330) F dL_law_1223 (by decide) (fun h => ?_) (fun h => ?_)
        · rw [if_pos h] at hw
          refine v_iincN (c := 5) F dL_law_1330 3 rfl (by decide) (by decide) (fun x315 hx315 => ?_)
          refine v_cast (L' := [(3, .int x315), (0, .ref b), (1, .ref v1), (2, .ref v2)]) rfl rfl ?_
          have hw := hw x315 hx315
          refine v_goto (tgt := 18) F dL_law_1333 (by decide) ?_
          exact v_loc [1, 2, 3, 0] rfl (ih _ _ _ _ _ _ (by omega) (by omega) hw)
        · rw [if_neg h] at hw
          refine v_iconst (v := 0) F dL_law_1226 (by decide) ?_
          exact hw.elim
      rw [if_neg hc25] at hw
      by_cases hc26 : ((xs (v3).toNatClampNeg) &&& 31) = 26
      · rw [if_pos hc26] at hw
        refine v_tableInE (c := 26) (tgt := 1228) F hc26 dL_law_32 (by decide) (by decide) rfl (by decide) ?_
        refine v_aload_n F dL_law_1228 rfl 1 rfl ?_
        refine v_aload_n F dL_law_1229 rfl 0 rfl ?_
        refine v_iload_n F dL_law_1230 rfl 3 rfl ?_
        refine v_iconst (v := 1) F dL_law_1231 (by decide) ?_
        refine v_iadd F dL_law_1232 ?_
        obtain ⟨hi316, hw⟩ := hw
        refine v_sld F hX hbl (by unfold Ab; omega) hi316 dL_law_1233 ?_
        refine v_aload_n F dL_law_1234 rfl 0 rfl ?_
        refine v_iload_n F dL_law_1235 rfl 3 rfl ?_
        refine v_iconst (v := 2) F dL_law_1236 (by decide) ?_
        refine v_iadd F dL_law_1237 ?_
        obtain ⟨hi317, hw⟩ := hw
        refine v_sld F hX hbl (by unfold Ab; omega) hi317 dL_law_1238 ?_
        refine v_aload_n F dL_law_1239 rfl 0 rfl ?_
        refine v_iload_n F dL_law_1240 rfl 3 rfl ?_
        refine v_iconst (v := 3) F dL_law_1241 (by decide) ?_
        refine v_iadd F dL_law_1242 ?_
        obtain ⟨hi318, hw⟩ := hw
        refine v_sld F hX hbl (by unfold Ab; omega) hi318 dL_law_1243 ?_
        obtain ⟨kd319, hw⟩ := hw
        refine v_calll (r_V F lk_L_126 kd319 (sX10_total hw) (mkRm2 (R := room_1) rfl rfl rfl (Nat.le_of_ble_eq_true rfl) (Nat.le_of_ble_eq_true rfl) (by show _ ≤ 600000; omega) (by show _ ≤ 7302250; omega)) rfl rfl (Nat.le_of_ble_eq_true rfl) dL_law_1244) (fun r320 G321 hw => ?_)
        refine v_aload_n F dL_law_1247 rfl 2 rfl ?_
        refine v_aload_n F dL_law_1248 rfl 0 rfl ?_
        refine v_iload_n F dL_law_1249 rfl 3 rfl ?_
        refine v_iconst (v := 1) F dL_law_1250 (by decide) ?_
        refine v_iadd F dL_law_1251 ?_
        obtain ⟨hi322, hw⟩ := hw
        refine v_sld F hX hbl (by unfold Ab; omega) hi322 dL_law_1252 ?_
        refine v_aload_n F dL_law_1253 rfl 0 rfl ?_
        refine v_iload_n F dL_law_1254 rfl 3 rfl ?_
        refine v_iconst (v := 2) F dL_law_1255 (by decide) ?_
        refine v_iadd F dL_law_1256 ?_
        obtain ⟨hi323, hw⟩ := hw
        refine v_sld F hX hbl (by unfold Ab; omega) hi323 dL_law_1257 ?_
        refine v_aload_n F dL_law_1258 rfl 0 rfl ?_
        refine v_iload_n F dL_law_1259 rfl 3 rfl ?_
        refine v_iconst (v := 3) F dL_law_1260 (by decide) ?_
        refine v_iadd F dL_law_1261 ?_
        obtain ⟨hi324, hw⟩ := hw
        refine v_sld F hX hbl (by unfold Ab; omega) hi324 dL_law_1262 ?_
        obtain ⟨kd325, hw⟩ := hw
        refine v_calll (r_V F lk_L_129 kd325 (sX11_total hw) (mkRm2 (R := room_1) rfl rfl rfl (Nat.le_of_ble_eq_true rfl) (Nat.le_of_ble_eq_true rfl) (by show _ ≤ 600000; omega) (by show _ ≤ 7302250; omega)) rfl rfl (Nat.le_of_ble_eq_true rfl) dL_law_1263) (fun r326 G327 hw => ?_)
        refine v_lcmp F dL_law_1266 ?_
        refine v_lif_eq (tgt := 1330) F dL_law_1267 (by decide) (fun h => ?_) (fun h => ?_)
        · rw [if_pos h] at hw
          refine v_iincN (c := 5) F dL_law_1330 3 rfl (by decide) (by decide) (fun x328 hx328 => ?_)
          refine v_cast (L' := [(3, .int x328), (0, .ref b), (1, .ref v1), (2, .ref v2)]) rfl rfl ?_
          have hw := hw x328 hx328
          refine v_goto (tgt := 18) F dL_law_1333 (by decide) ?_
          exact v_loc [1, 2, 3, 0] rfl (ih _ _ _ _ _ _ (by omega) (by omega) hw)
        · rw [if_neg h] at hw
          refine v_iconst (v := 0) F dL_law_1270 (by decide) ?_
          exact hw.elim
      rw [if_neg hc26] at hw
      by_cases hc27 : ((xs (v3).toNatClampNeg) &&& 31) = 27
      · rw [if_pos hc27] at hw
        refine v_tableInE (c := 27) (tgt := 1272) F hc27 dL_law_32 (by decide) (by decide) rfl (by decide) ?_
        refine v_aload_n F dL_law_1272 rfl 1 rfl ?_
        refine v_aload_n F dL_law_1273 rfl 0 rfl ?_
        refine v_iload_n F dL_law_1274 rfl 3 rfl ?_
        refine v_iconst (v := 1) F dL_law_1275 (by decide) ?_
        refine v_iadd F dL_law_1276 ?_
        obtain ⟨hi329, hw⟩ := hw
        refine v_sld F hX hbl (by unfold Ab; omega) hi329 dL_law_1277 ?_
        refine v_aload_n F dL_law_1278 rfl 0 rfl ?_
        refine v_iload_n F dL_law_1279 rfl 3 rfl ?_
        refine v_iconst (v := 2) F dL_law_1280 (by decide) ?_
        refine v_iadd F dL_law_1281 ?_
        obtain ⟨hi330, hw⟩ := hw
        refine v_sld F hX hbl (by unfold Ab; omega) hi330 dL_law_1282 ?_
        obtain ⟨kd331, hw⟩ := hw
        refine v_calll (r_V F lk_L_130 kd331 (sX10_slip hw) (mkRm2 (R := room_1) rfl rfl rfl (Nat.le_of_ble_eq_true rfl) (Nat.le_of_ble_eq_true rfl) (by show _ ≤ 600000; omega) (by show _ ≤ 7302250; omega)) rfl rfl (Nat.le_of_ble_eq_true rfl) dL_law_1283) (fun r332 G333 hw => ?_)
        refine v_aload_n F dL_law_1286 rfl 2 rfl ?_
        refine v_aload_n F dL_law_1287 rfl 0 rfl ?_
        refine v_iload_n F dL_law_1288 rfl 3 rfl ?_
        refine v_iconst (v := 1) F dL_law_1289 (by decide) ?_
        refine v_iadd F dL_law_1290 ?_
        obtain ⟨hi334, hw⟩ := hw
        refine v_sld F hX hbl (by unfold Ab; omega) hi334 dL_law_1291 ?_
        refine v_aload_n F dL_law_1292 rfl 0 rfl ?_
        refine v_iload_n F dL_law_1293 rfl 3 rfl ?_
        refine v_iconst (v := 2) F dL_law_1294 (by decide) ?_
        refine v_iadd F dL_law_1295 ?_
        obtain ⟨hi335, hw⟩ := hw
        refine v_sld F hX hbl (by unfold Ab; omega) hi335 dL_law_1296 ?_
        obtain ⟨kd336, hw⟩ := hw
        refine v_calll (r_V F lk_L_133 kd336 (sX11_slip hw) (mkRm2 (R := room_1) rfl rfl rfl (Nat.le_of_ble_eq_true rfl) (Nat.le_of_ble_eq_true rfl) (by show _ ≤ 600000; omega) (by show _ ≤ 7302250; omega)) rfl rfl (Nat.le_of_ble_eq_true rfl) dL_law_1297) (fun r337 G338 hw => ?_)
        refine v_lcmp F dL_law_1300 ?_
        refine v_lif_eq (tgt := 1330) F dL_law_1301 (by decide) (fun h => ?_) (fun h => ?_)
        · rw [if_pos h] at hw
          refine v_iincN (c := 5) F dL_law_1330 3 rfl (by decide) (by decide) (fun x339 hx339 => ?_)
          refine v_cast (L' := [(3, .int x339), (0, .ref b), (1, .ref v1), (2, .ref v2)]) rfl rfl ?_
          have hw := hw x339 hx339
          refine v_goto (tgt := 18) F dL_law_1333 (by decide) ?_
          exact v_loc [1, 2, 3, 0] rfl (ih _ _ _ _ _ _ (by omega) (by omega) hw)
        · rw [if_neg h] at hw
          refine v_iconst (v := 0) F dL_law_1304 (by decide) ?_
          exact hw.elim
      rw [if_neg hc27] at hw
      by_cases hc28 : ((xs (v3).toNatClampNeg) &&& 31) = 28
      · rw [if_pos hc28] at hw
        refine v_tableInE (c := 28) (tgt := 1306) F hc28 dL_law_32 (by decide) (by decide) rfl (by decide) ?_
        refine v_aload_n F dL_law_1306 rfl 1 rfl ?_
        refine v_aload_n F dL_law_1307 rfl 0 rfl ?_
        refine v_iload_n F dL_law_1308 rfl 3 rfl ?_
        refine v_iconst (v := 1) F dL_law_1309 (by decide) ?_
        refine v_iadd F dL_law_1310 ?_
        obtain ⟨hi340, hw⟩ := hw
        refine v_sld F hX hbl (by unfold Ab; omega) hi340 dL_law_1311 ?_
        obtain ⟨kd341, hw⟩ := hw
        refine v_calll (r_V F lk_L_134 kd341 (sX10_count hw) (mkRm2 (R := room_1) rfl rfl rfl (Nat.le_of_ble_eq_true rfl) (Nat.le_of_ble_eq_true rfl) (by show _ ≤ 600000; omega) (by show _ ≤ 7302250; omega)) rfl rfl (Nat.le_of_ble_eq_true rfl) dL_law_1312) (fun r342 G343 hw => ?_)
        refine v_aload_n F dL_law_1315 rfl 2 rfl ?_
        refine v_aload_n F dL_law_1316 rfl 0 rfl ?_
        refine v_iload_n F dL_law_1317 rfl 3 rfl ?_
        refine v_iconst (v := 1) F dL_law_1318 (by decide) ?_
        refine v_iadd F dL_law_1319 ?_
        obtain ⟨hi344, hw⟩ := hw
        refine v_sld F hX hbl (by unfold Ab; omega) hi344 dL_law_1320 ?_
        obtain ⟨kd345, hw⟩ := hw
        refine v_calll (r_V F lk_L_137 kd345 (sX11_count hw) (mkRm2 (R := room_1) rfl rfl rfl (Nat.le_of_ble_eq_true rfl) (Nat.le_of_ble_eq_true rfl) (by show _ ≤ 600000; omega) (by show _ ≤ 7302250; omega)) rfl rfl (Nat.le_of_ble_eq_true rfl) dL_law_1321) (fun r346 G347 hw => ?_)
        refine v_lcmp F dL_law_1324 ?_
        refine v_lif_eq (tgt := 1330) F dL_law_1325 (by decide) (fun h => ?_) (fun h => ?_)
        · rw [if_pos h] at hw
          refine v_iincN (c := 5) F dL_law_1330 3 rfl (by decide) (by decide) (fun x348 hx348 => ?_)
          refine v_cast (L' := [(3, .int x348), (0, .ref b), (1, .ref v1), (2, .ref v2)]) rfl rfl ?_
          have hw := hw x348 hx348
          refine v_goto (tgt := 18) F dL_law_1333 (by decide) ?_
          exact v_loc [1, 2, 3, 0] rfl (ih _ _ _ _ _ _ (by omega) (by omega) hw)
        · rw [if_neg h] at hw
          refine v_iconst (v := 0) F dL_law_1328 (by decide) ?_
          exact hw.elim
      rw [if_neg hc28] at hw
      refine v_tableOut (tgt := 1330) F dL_law_32 (sw_out 29 (by decide) (fun k hk => ?_)) (by decide) ?_
      · match k, hk with
        | 0, _ => exact hc0
        | 1, _ => exact hc1
        | 2, _ => exact hc2
        | 3, _ => exact hc3
        | 4, _ => exact hc4
        | 5, _ => exact hc5
        | 6, _ => exact hc6
        | 7, _ => exact hc7
        | 8, _ => exact hc8
        | 9, _ => exact hc9
        | 10, _ => exact hc10
        | 11, _ => exact hc11
        | 12, _ => exact hc12
        | 13, _ => exact hc13
        | 14, _ => exact hc14
        | 15, _ => exact hc15
        | 16, _ => exact hc16
        | 17, _ => exact hc17
        | 18, _ => exact hc18
        | 19, _ => exact hc19
        | 20, _ => exact hc20
        | 21, _ => exact hc21
        | 22, _ => exact hc22
        | 23, _ => exact hc23
        | 24, _ => exact hc24
        | 25, _ => exact hc25
        | 26, _ => exact hc26
        | 27, _ => exact hc27
        | 28, _ => exact hc28
        | k + 29, hk => exact absurd hk (by omega)
      · refine v_iincN (c := 5) F dL_law_1330 3 rfl (by decide) (by decide) (fun x349 hx349 => ?_)
        refine v_cast (L' := [(3, .int x349), (0, .ref b), (1, .ref v1), (2, .ref v2)]) rfl rfl ?_
        have hw := hw x349 hx349
        refine v_goto (tgt := 18) F dL_law_1333 (by decide) ?_
        exact v_loc [1, 2, 3, 0] rfl (ih _ _ _ _ _ _ (by omega) (by omega) hw)
set_option maxHeartbeats 40000000 in
set_option maxRecDepth 100000 in
theorem sL_law {p : Program} {l : Launch} {e : Env} {s : State} {m : MethodId} {below : List Frame} {meth : Method} {c0 : Code} {b N : Nat} {xs : Nat → Int32} {D : Dx} {nm : String} (F : Fx (p, l, e, room_1, s, m, #[Value.ref b], below, meth, c0) D cL_law 4 RL ret nm) (hB : dB D = s.heap.size) (hX : va_X b N xs s s.heap) (hbl : b < s.heap.size) {G : Wd} (hw : wpL_law N xs G) : V (p, l, e, room_1, s, m, #[Value.ref b], below, meth, c0) D 4 (lw_Z below #[Value.ref b] s) G 0 0 0 [(0, .ref b)] [] := by
  unfold wpL_law at hw
  refine v_new (ci := 9) (n := 14) F rfl rfl wd_80 wd_81 wd_63 (Nat.le_of_ble_eq_true rfl) (Nat.le_of_ble_eq_true rfl) dL_law_0 ?_
  generalize hz351 : gZ G = z351
  refine v_nmG (fun G350 hG350 => ?_)
  have hw := hw z351 G350 hz351.symm hG350
  refine v_dup F dL_law_3 rfl ?_
  refine v_callv (r_I F li_L_9 (sX10_init hw) (mkRm2 (R := room_1) rfl rfl rfl (Nat.le_of_ble_eq_true rfl) (Nat.le_of_ble_eq_true rfl) (by show _ ≤ 600000; omega) (by show _ ≤ 7302250; omega)) rfl rfl (Nat.le_of_ble_eq_true rfl) dL_law_4) (fun G353 hw => ?_)
  refine v_astore_n (L' := [(1, .ref z351), (0, .ref b)]) F dL_law_7 rfl (by decide) rfl ?_
  refine v_new (ci := 10) (n := 46) F rfl rfl wd_867 wd_868 wd_74 (Nat.le_of_ble_eq_true rfl) (Nat.le_of_ble_eq_true rfl) dL_law_8 ?_
  generalize hz355 : gZ G353 = z355
  refine v_nmG (fun G354 hG354 => ?_)
  have hw := hw z355 G354 hz355.symm hG354
  refine v_dup F dL_law_11 rfl ?_
  refine v_callv (r_I F li_L_12 (sX11_init hw) (mkRm2 (R := room_1) rfl rfl rfl (Nat.le_of_ble_eq_true rfl) (Nat.le_of_ble_eq_true rfl) (by show _ ≤ 600000; omega) (by show _ ≤ 7302250; omega)) rfl rfl (Nat.le_of_ble_eq_true rfl) dL_law_12) (fun G357 hw => ?_)
  refine v_astore_n (L' := [(2, .ref z355), (1, .ref z351), (0, .ref b)]) F dL_law_15 rfl (by decide) rfl ?_
  refine v_iconst (v := 0) F dL_law_16 (by decide) ?_
  refine v_istore_n (L' := [(3, .int 0), (2, .ref z355), (1, .ref z351), (0, .ref b)]) F dL_law_17 rfl (by decide) rfl ?_
  obtain ⟨m, hm, hw⟩ := hw
  exact v_loc [3, 2, 1, 0] rfl (sbL_law_18 F hB hX hbl m _ _ _ _ _ _ (by omega) (by omega) hw)
