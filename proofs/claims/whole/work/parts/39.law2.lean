/-! the cases of the law (written by wip/whole/law.py) -/
theorem ll_21 : ML RL 21 y_Tt_feed prog_1_method_2_code 6 (some .int) 5 := ⟨gw_in 733 (by decide +kernel) rfl, gw_in 112 (by decide +kernel) rfl, gw_in 736 (by decide +kernel) rfl, ⟨by decide +kernel, by decide +kernel, by decide +kernel⟩⟩
theorem lv__Tt_feed : MV y_Tt_feed := ⟨gw_in 734 (by decide +kernel) rfl, gw_in 735 (by decide +kernel) rfl⟩
theorem ll_25 : ML RL 25 y_Md_feed prog_14_method_3_code 8 (some .int) 5 := ⟨gw_in 1785 (by decide +kernel) rfl, gw_in 131 (by decide +kernel) rfl, gw_in 1788 (by decide +kernel) rfl, ⟨by decide +kernel, by decide +kernel, by decide +kernel⟩⟩
theorem lv__Md_feed : MV y_Md_feed := ⟨gw_in 1786 (by decide +kernel) rfl, gw_in 1787 (by decide +kernel) rfl⟩
theorem ll_26 : ML RL 26 y_Tt_text prog_1_method_4_code 3 (some .int) 1 := ⟨gw_in 741 (by decide +kernel) rfl, gw_in 112 (by decide +kernel) rfl, gw_in 744 (by decide +kernel) rfl, ⟨by decide +kernel, by decide +kernel, by decide +kernel⟩⟩
theorem lv__Tt_text : MV y_Tt_text := ⟨gw_in 742 (by decide +kernel) rfl, gw_in 743 (by decide +kernel) rfl⟩
theorem ll_30 : ML RL 30 y_Md_text prog_14_method_29_code 2 (some .int) 1 := ⟨gw_in 1789 (by decide +kernel) rfl, gw_in 131 (by decide +kernel) rfl, gw_in 1792 (by decide +kernel) rfl, ⟨by decide +kernel, by decide +kernel, by decide +kernel⟩⟩
theorem lv__Md_text : MV y_Md_text := ⟨gw_in 1790 (by decide +kernel) rfl, gw_in 1791 (by decide +kernel) rfl⟩
theorem ll_31 : ML RL 31 y_Tt_fault prog_1_method_5_code 2 (some .int) 1 := ⟨gw_in 916 (by decide +kernel) rfl, gw_in 112 (by decide +kernel) rfl, gw_in 919 (by decide +kernel) rfl, ⟨by decide +kernel, by decide +kernel, by decide +kernel⟩⟩
theorem lv__Tt_fault : MV y_Tt_fault := ⟨gw_in 917 (by decide +kernel) rfl, gw_in 918 (by decide +kernel) rfl⟩
theorem ll_34 : ML RL 34 y_Md_fault prog_14_method_30_code 2 (some .int) 1 := ⟨gw_in 1911 (by decide +kernel) rfl, gw_in 131 (by decide +kernel) rfl, gw_in 1914 (by decide +kernel) rfl, ⟨by decide +kernel, by decide +kernel, by decide +kernel⟩⟩
theorem lv__Md_fault : MV y_Md_fault := ⟨gw_in 1912 (by decide +kernel) rfl, gw_in 1913 (by decide +kernel) rfl⟩
theorem ll_35 : ML RL 35 y_Tt_named prog_1_method_6_code 3 (some .int) 2 := ⟨gw_in 920 (by decide +kernel) rfl, gw_in 112 (by decide +kernel) rfl, gw_in 923 (by decide +kernel) rfl, ⟨by decide +kernel, by decide +kernel, by decide +kernel⟩⟩
theorem lv__Tt_named : MV y_Tt_named := ⟨gw_in 921 (by decide +kernel) rfl, gw_in 922 (by decide +kernel) rfl⟩
theorem ll_38 : ML RL 38 y_Md_named prog_14_method_31_code 3 (some .int) 2 := ⟨gw_in 1915 (by decide +kernel) rfl, gw_in 131 (by decide +kernel) rfl, gw_in 1918 (by decide +kernel) rfl, ⟨by decide +kernel, by decide +kernel, by decide +kernel⟩⟩
theorem lv__Md_named : MV y_Md_named := ⟨gw_in 1916 (by decide +kernel) rfl, gw_in 1917 (by decide +kernel) rfl⟩
theorem ll_49 : ML RL 49 y_Tt_trough prog_1_method_9_code 3 (some .int) 2 := ⟨gw_in 925 (by decide +kernel) rfl, gw_in 112 (by decide +kernel) rfl, gw_in 928 (by decide +kernel) rfl, ⟨by decide +kernel, by decide +kernel, by decide +kernel⟩⟩
theorem lv__Tt_trough : MV y_Tt_trough := ⟨gw_in 926 (by decide +kernel) rfl, gw_in 927 (by decide +kernel) rfl⟩
theorem ll_52 : ML RL 52 y_Md_trough prog_14_method_70_code 5 (some .int) 2 := ⟨gw_in 1931 (by decide +kernel) rfl, gw_in 131 (by decide +kernel) rfl, gw_in 1934 (by decide +kernel) rfl, ⟨by decide +kernel, by decide +kernel, by decide +kernel⟩⟩
theorem lv__Md_trough : MV y_Md_trough := ⟨gw_in 1932 (by decide +kernel) rfl, gw_in 1933 (by decide +kernel) rfl⟩
theorem ll_53 : ML RL 53 y_Tt_law prog_1_method_11_code 3 (some .long) 2 := ⟨gw_in 941 (by decide +kernel) rfl, gw_in 112 (by decide +kernel) rfl, gw_in 944 (by decide +kernel) rfl, ⟨by decide +kernel, by decide +kernel, by decide +kernel⟩⟩
theorem lv__Tt_law : MV y_Tt_law := ⟨gw_in 942 (by decide +kernel) rfl, gw_in 943 (by decide +kernel) rfl⟩
theorem ll_57 : ML RL 57 y_Md_law prog_14_method_71_code 5 (some .long) 2 := ⟨gw_in 1939 (by decide +kernel) rfl, gw_in 131 (by decide +kernel) rfl, gw_in 1942 (by decide +kernel) rfl, ⟨by decide +kernel, by decide +kernel, by decide +kernel⟩⟩
theorem lv__Md_law : MV y_Md_law := ⟨gw_in 1940 (by decide +kernel) rfl, gw_in 1941 (by decide +kernel) rfl⟩
theorem ll_58 : ML RL 58 y_Tt_send prog_1_method_12_code 3 (some .int) 2 := ⟨gw_in 984 (by decide +kernel) rfl, gw_in 112 (by decide +kernel) rfl, gw_in 987 (by decide +kernel) rfl, ⟨by decide +kernel, by decide +kernel, by decide +kernel⟩⟩
theorem lv__Tt_send : MV y_Tt_send := ⟨gw_in 985 (by decide +kernel) rfl, gw_in 986 (by decide +kernel) rfl⟩
theorem ll_61 : ML RL 61 y_Md_send prog_14_method_72_code 3 (some .int) 2 := ⟨gw_in 1984 (by decide +kernel) rfl, gw_in 131 (by decide +kernel) rfl, gw_in 1987 (by decide +kernel) rfl, ⟨by decide +kernel, by decide +kernel, by decide +kernel⟩⟩
theorem lv__Md_send : MV y_Md_send := ⟨gw_in 1985 (by decide +kernel) rfl, gw_in 1986 (by decide +kernel) rfl⟩
theorem ll_62 : ML RL 62 y_Tt_fill prog_1_method_13_code 3 (some .int) 2 := ⟨gw_in 1001 (by decide +kernel) rfl, gw_in 112 (by decide +kernel) rfl, gw_in 1004 (by decide +kernel) rfl, ⟨by decide +kernel, by decide +kernel, by decide +kernel⟩⟩
theorem lv__Tt_fill : MV y_Tt_fill := ⟨gw_in 1002 (by decide +kernel) rfl, gw_in 1003 (by decide +kernel) rfl⟩
theorem ll_65 : ML RL 65 y_Md_fill prog_14_method_73_code 3 (some .int) 2 := ⟨gw_in 1996 (by decide +kernel) rfl, gw_in 131 (by decide +kernel) rfl, gw_in 1999 (by decide +kernel) rfl, ⟨by decide +kernel, by decide +kernel, by decide +kernel⟩⟩
theorem lv__Md_fill : MV y_Md_fill := ⟨gw_in 1997 (by decide +kernel) rfl, gw_in 1998 (by decide +kernel) rfl⟩
theorem ll_66 : ML RL 66 y_Tt_lead prog_1_method_14_code 3 (some .boolean) 2 := ⟨gw_in 1009 (by decide +kernel) rfl, gw_in 112 (by decide +kernel) rfl, gw_in 1012 (by decide +kernel) rfl, ⟨by decide +kernel, by decide +kernel, by decide +kernel⟩⟩
theorem lv__Tt_lead : MV y_Tt_lead := ⟨gw_in 1010 (by decide +kernel) rfl, gw_in 1011 (by decide +kernel) rfl⟩
theorem ll_70 : ML RL 70 y_Md_lead prog_14_method_74_code 3 (some .boolean) 2 := ⟨gw_in 2000 (by decide +kernel) rfl, gw_in 131 (by decide +kernel) rfl, gw_in 2003 (by decide +kernel) rfl, ⟨by decide +kernel, by decide +kernel, by decide +kernel⟩⟩
theorem lv__Md_lead : MV y_Md_lead := ⟨gw_in 2001 (by decide +kernel) rfl, gw_in 2002 (by decide +kernel) rfl⟩
theorem ll_71 : ML RL 71 y_Tt_go prog_1_method_15_code 2 (some .int) 1 := ⟨gw_in 1013 (by decide +kernel) rfl, gw_in 112 (by decide +kernel) rfl, gw_in 1016 (by decide +kernel) rfl, ⟨by decide +kernel, by decide +kernel, by decide +kernel⟩⟩
theorem lv__Tt_go : MV y_Tt_go := ⟨gw_in 1014 (by decide +kernel) rfl, gw_in 1015 (by decide +kernel) rfl⟩
theorem ll_74 : ML RL 74 y_Md_go prog_14_method_75_code 3 (some .int) 1 := ⟨gw_in 2004 (by decide +kernel) rfl, gw_in 131 (by decide +kernel) rfl, gw_in 2007 (by decide +kernel) rfl, ⟨by decide +kernel, by decide +kernel, by decide +kernel⟩⟩
theorem lv__Md_go : MV y_Md_go := ⟨gw_in 2005 (by decide +kernel) rfl, gw_in 2006 (by decide +kernel) rfl⟩
theorem ll_75 : ML RL 75 y_Tt_ahead prog_1_method_16_code 6 (some .int) 3 := ⟨gw_in 1093 (by decide +kernel) rfl, gw_in 112 (by decide +kernel) rfl, gw_in 1096 (by decide +kernel) rfl, ⟨by decide +kernel, by decide +kernel, by decide +kernel⟩⟩
theorem lv__Tt_ahead : MV y_Tt_ahead := ⟨gw_in 1094 (by decide +kernel) rfl, gw_in 1095 (by decide +kernel) rfl⟩
theorem ll_79 : ML RL 79 y_Md_ahead prog_14_method_76_code 4 (some .int) 3 := ⟨gw_in 2045 (by decide +kernel) rfl, gw_in 131 (by decide +kernel) rfl, gw_in 2048 (by decide +kernel) rfl, ⟨by decide +kernel, by decide +kernel, by decide +kernel⟩⟩
theorem lv__Md_ahead : MV y_Md_ahead := ⟨gw_in 2046 (by decide +kernel) rfl, gw_in 2047 (by decide +kernel) rfl⟩
theorem ll_80 : ML RL 80 y_Tt_falls prog_1_method_17_code 2 (some .int) 1 := ⟨gw_in 1117 (by decide +kernel) rfl, gw_in 112 (by decide +kernel) rfl, gw_in 1120 (by decide +kernel) rfl, ⟨by decide +kernel, by decide +kernel, by decide +kernel⟩⟩
theorem lv__Tt_falls : MV y_Tt_falls := ⟨gw_in 1118 (by decide +kernel) rfl, gw_in 1119 (by decide +kernel) rfl⟩
theorem ll_83 : ML RL 83 y_Md_falls prog_14_method_77_code 3 (some .int) 1 := ⟨gw_in 2061 (by decide +kernel) rfl, gw_in 131 (by decide +kernel) rfl, gw_in 2064 (by decide +kernel) rfl, ⟨by decide +kernel, by decide +kernel, by decide +kernel⟩⟩
theorem lv__Md_falls : MV y_Md_falls := ⟨gw_in 2062 (by decide +kernel) rfl, gw_in 2063 (by decide +kernel) rfl⟩
theorem ll_84 : ML RL 84 y_Tt_nextFight prog_1_method_18_code 2 (some .int) 1 := ⟨gw_in 1126 (by decide +kernel) rfl, gw_in 112 (by decide +kernel) rfl, gw_in 1129 (by decide +kernel) rfl, ⟨by decide +kernel, by decide +kernel, by decide +kernel⟩⟩
theorem lv__Tt_nextFight : MV y_Tt_nextFight := ⟨gw_in 1127 (by decide +kernel) rfl, gw_in 1128 (by decide +kernel) rfl⟩
theorem ll_87 : ML RL 87 y_Md_nextFight prog_14_method_78_code 3 (some .int) 1 := ⟨gw_in 2065 (by decide +kernel) rfl, gw_in 131 (by decide +kernel) rfl, gw_in 2068 (by decide +kernel) rfl, ⟨by decide +kernel, by decide +kernel, by decide +kernel⟩⟩
theorem lv__Md_nextFight : MV y_Md_nextFight := ⟨gw_in 2066 (by decide +kernel) rfl, gw_in 2067 (by decide +kernel) rfl⟩
theorem ll_88 : ML RL 88 y_Tt_sendIn prog_1_method_19_code 4 (some .int) 3 := ⟨gw_in 1134 (by decide +kernel) rfl, gw_in 112 (by decide +kernel) rfl, gw_in 1137 (by decide +kernel) rfl, ⟨by decide +kernel, by decide +kernel, by decide +kernel⟩⟩
theorem lv__Tt_sendIn : MV y_Tt_sendIn := ⟨gw_in 1135 (by decide +kernel) rfl, gw_in 1136 (by decide +kernel) rfl⟩
theorem ll_91 : ML RL 91 y_Md_sendIn prog_14_method_80_code 8 (some .int) 3 := ⟨gw_in 2077 (by decide +kernel) rfl, gw_in 131 (by decide +kernel) rfl, gw_in 2080 (by decide +kernel) rfl, ⟨by decide +kernel, by decide +kernel, by decide +kernel⟩⟩
theorem lv__Md_sendIn : MV y_Md_sendIn := ⟨gw_in 2078 (by decide +kernel) rfl, gw_in 2079 (by decide +kernel) rfl⟩
theorem ll_92 : ML RL 92 y_Tt_pump prog_1_method_20_code 4 (some .int) 1 := ⟨gw_in 1143 (by decide +kernel) rfl, gw_in 112 (by decide +kernel) rfl, gw_in 1146 (by decide +kernel) rfl, ⟨by decide +kernel, by decide +kernel, by decide +kernel⟩⟩
theorem lv__Tt_pump : MV y_Tt_pump := ⟨gw_in 1144 (by decide +kernel) rfl, gw_in 1145 (by decide +kernel) rfl⟩
theorem ll_95 : ML RL 95 y_Md_pump prog_14_method_82_code 5 (some .int) 1 := ⟨gw_in 2081 (by decide +kernel) rfl, gw_in 131 (by decide +kernel) rfl, gw_in 2084 (by decide +kernel) rfl, ⟨by decide +kernel, by decide +kernel, by decide +kernel⟩⟩
theorem lv__Md_pump : MV y_Md_pump := ⟨gw_in 2082 (by decide +kernel) rfl, gw_in 2083 (by decide +kernel) rfl⟩
theorem ll_96 : ML RL 96 y_Tt_stops prog_1_method_21_code 3 (some .int) 2 := ⟨gw_in 1160 (by decide +kernel) rfl, gw_in 112 (by decide +kernel) rfl, gw_in 1163 (by decide +kernel) rfl, ⟨by decide +kernel, by decide +kernel, by decide +kernel⟩⟩
theorem lv__Tt_stops : MV y_Tt_stops := ⟨gw_in 1161 (by decide +kernel) rfl, gw_in 1162 (by decide +kernel) rfl⟩
theorem ll_99 : ML RL 99 y_Md_stops prog_14_method_84_code 7 (some .int) 2 := ⟨gw_in 2091 (by decide +kernel) rfl, gw_in 131 (by decide +kernel) rfl, gw_in 2094 (by decide +kernel) rfl, ⟨by decide +kernel, by decide +kernel, by decide +kernel⟩⟩
theorem lv__Md_stops : MV y_Md_stops := ⟨gw_in 2092 (by decide +kernel) rfl, gw_in 2093 (by decide +kernel) rfl⟩
theorem ll_100 : ML RL 100 y_Tt_reach prog_1_method_22_code 2 (some .int) 1 := ⟨gw_in 1185 (by decide +kernel) rfl, gw_in 112 (by decide +kernel) rfl, gw_in 1188 (by decide +kernel) rfl, ⟨by decide +kernel, by decide +kernel, by decide +kernel⟩⟩
theorem lv__Tt_reach : MV y_Tt_reach := ⟨gw_in 1186 (by decide +kernel) rfl, gw_in 1187 (by decide +kernel) rfl⟩
theorem ll_103 : ML RL 103 y_Md_reach prog_14_method_85_code 4 (some .int) 1 := ⟨gw_in 2099 (by decide +kernel) rfl, gw_in 131 (by decide +kernel) rfl, gw_in 2102 (by decide +kernel) rfl, ⟨by decide +kernel, by decide +kernel, by decide +kernel⟩⟩
theorem lv__Md_reach : MV y_Md_reach := ⟨gw_in 2100 (by decide +kernel) rfl, gw_in 2101 (by decide +kernel) rfl⟩
theorem ll_104 : ML RL 104 y_Tt_cover prog_1_method_23_code 4 (some .int) 1 := ⟨gw_in 1193 (by decide +kernel) rfl, gw_in 112 (by decide +kernel) rfl, gw_in 1196 (by decide +kernel) rfl, ⟨by decide +kernel, by decide +kernel, by decide +kernel⟩⟩
theorem lv__Tt_cover : MV y_Tt_cover := ⟨gw_in 1194 (by decide +kernel) rfl, gw_in 1195 (by decide +kernel) rfl⟩
theorem ll_107 : ML RL 107 y_Md_cover prog_14_method_87_code 4 (some .int) 1 := ⟨gw_in 2103 (by decide +kernel) rfl, gw_in 131 (by decide +kernel) rfl, gw_in 2106 (by decide +kernel) rfl, ⟨by decide +kernel, by decide +kernel, by decide +kernel⟩⟩
theorem lv__Md_cover : MV y_Md_cover := ⟨gw_in 2104 (by decide +kernel) rfl, gw_in 2105 (by decide +kernel) rfl⟩
theorem ll_108 : ML RL 108 y_Tt_round prog_1_method_24_code 2 (some .int) 1 := ⟨gw_in 1202 (by decide +kernel) rfl, gw_in 112 (by decide +kernel) rfl, gw_in 1205 (by decide +kernel) rfl, ⟨by decide +kernel, by decide +kernel, by decide +kernel⟩⟩
theorem lv__Tt_round : MV y_Tt_round := ⟨gw_in 1203 (by decide +kernel) rfl, gw_in 1204 (by decide +kernel) rfl⟩
theorem ll_111 : ML RL 111 y_Md_round prog_14_method_88_code 6 (some .int) 1 := ⟨gw_in 2111 (by decide +kernel) rfl, gw_in 131 (by decide +kernel) rfl, gw_in 2114 (by decide +kernel) rfl, ⟨by decide +kernel, by decide +kernel, by decide +kernel⟩⟩
theorem lv__Md_round : MV y_Md_round := ⟨gw_in 2112 (by decide +kernel) rfl, gw_in 2113 (by decide +kernel) rfl⟩
theorem ll_112 : ML RL 112 y_Tt_rests prog_1_method_25_code 3 (some .int) 2 := ⟨gw_in 1211 (by decide +kernel) rfl, gw_in 112 (by decide +kernel) rfl, gw_in 1214 (by decide +kernel) rfl, ⟨by decide +kernel, by decide +kernel, by decide +kernel⟩⟩
theorem lv__Tt_rests : MV y_Tt_rests := ⟨gw_in 1212 (by decide +kernel) rfl, gw_in 1213 (by decide +kernel) rfl⟩
theorem ll_115 : ML RL 115 y_Md_rests prog_14_method_96_code 3 (some .int) 2 := ⟨gw_in 2131 (by decide +kernel) rfl, gw_in 131 (by decide +kernel) rfl, gw_in 2134 (by decide +kernel) rfl, ⟨by decide +kernel, by decide +kernel, by decide +kernel⟩⟩
theorem lv__Md_rests : MV y_Md_rests := ⟨gw_in 2132 (by decide +kernel) rfl, gw_in 2133 (by decide +kernel) rfl⟩
theorem ll_116 : ML RL 116 y_Tt_rest prog_1_method_26_code 4 (some .int) 3 := ⟨gw_in 1231 (by decide +kernel) rfl, gw_in 112 (by decide +kernel) rfl, gw_in 1234 (by decide +kernel) rfl, ⟨by decide +kernel, by decide +kernel, by decide +kernel⟩⟩
theorem lv__Tt_rest : MV y_Tt_rest := ⟨gw_in 1232 (by decide +kernel) rfl, gw_in 1233 (by decide +kernel) rfl⟩
theorem ll_119 : ML RL 119 y_Md_rest prog_14_method_97_code 4 (some .int) 3 := ⟨gw_in 2143 (by decide +kernel) rfl, gw_in 131 (by decide +kernel) rfl, gw_in 2146 (by decide +kernel) rfl, ⟨by decide +kernel, by decide +kernel, by decide +kernel⟩⟩
theorem lv__Md_rest : MV y_Md_rest := ⟨gw_in 2144 (by decide +kernel) rfl, gw_in 2145 (by decide +kernel) rfl⟩
theorem ll_120 : ML RL 120 y_Tt_staysDry prog_1_method_28_code 9 (some .long) 2 := ⟨gw_in 1239 (by decide +kernel) rfl, gw_in 112 (by decide +kernel) rfl, gw_in 1242 (by decide +kernel) rfl, ⟨by decide +kernel, by decide +kernel, by decide +kernel⟩⟩
theorem lv__Tt_staysDry : MV y_Tt_staysDry := ⟨gw_in 1240 (by decide +kernel) rfl, gw_in 1241 (by decide +kernel) rfl⟩
theorem ll_123 : ML RL 123 y_Md_staysDry prog_14_method_98_code 13 (some .long) 2 := ⟨gw_in 2147 (by decide +kernel) rfl, gw_in 131 (by decide +kernel) rfl, gw_in 2150 (by decide +kernel) rfl, ⟨by decide +kernel, by decide +kernel, by decide +kernel⟩⟩
theorem lv__Md_staysDry : MV y_Md_staysDry := ⟨gw_in 2148 (by decide +kernel) rfl, gw_in 2149 (by decide +kernel) rfl⟩
theorem ll_124 : ML RL 124 y_Tt_peace prog_1_method_30_code 4 (some .int) 2 := ⟨gw_in 1247 (by decide +kernel) rfl, gw_in 112 (by decide +kernel) rfl, gw_in 1250 (by decide +kernel) rfl, ⟨by decide +kernel, by decide +kernel, by decide +kernel⟩⟩
theorem lv__Tt_peace : MV y_Tt_peace := ⟨gw_in 1248 (by decide +kernel) rfl, gw_in 1249 (by decide +kernel) rfl⟩
theorem ll_127 : ML RL 127 y_Md_peace prog_14_method_99_code 3 (some .int) 2 := ⟨gw_in 2153 (by decide +kernel) rfl, gw_in 131 (by decide +kernel) rfl, gw_in 2156 (by decide +kernel) rfl, ⟨by decide +kernel, by decide +kernel, by decide +kernel⟩⟩
theorem lv__Md_peace : MV y_Md_peace := ⟨gw_in 2154 (by decide +kernel) rfl, gw_in 2155 (by decide +kernel) rfl⟩
theorem ll_128 : ML RL 128 y_Tt_thirstiest prog_1_method_31_code 4 (some .int) 0 := ⟨gw_in 1252 (by decide +kernel) rfl, gw_in 112 (by decide +kernel) rfl, gw_in 1255 (by decide +kernel) rfl, ⟨by decide +kernel, by decide +kernel, by decide +kernel⟩⟩
theorem lv__Tt_thirstiest : MV y_Tt_thirstiest := ⟨gw_in 1253 (by decide +kernel) rfl, gw_in 1254 (by decide +kernel) rfl⟩
theorem ll_131 : ML RL 131 y_Md_thirstiest prog_14_method_100_code 3 (some .int) 0 := ⟨gw_in 2157 (by decide +kernel) rfl, gw_in 131 (by decide +kernel) rfl, gw_in 2160 (by decide +kernel) rfl, ⟨by decide +kernel, by decide +kernel, by decide +kernel⟩⟩
theorem lv__Md_thirstiest : MV y_Md_thirstiest := ⟨gw_in 2158 (by decide +kernel) rfl, gw_in 2159 (by decide +kernel) rfl⟩
theorem ll_132 : ML RL 132 y_Tt_driest prog_1_method_32_code 4 (some .int) 0 := ⟨gw_in 1256 (by decide +kernel) rfl, gw_in 112 (by decide +kernel) rfl, gw_in 1259 (by decide +kernel) rfl, ⟨by decide +kernel, by decide +kernel, by decide +kernel⟩⟩
theorem lv__Tt_driest : MV y_Tt_driest := ⟨gw_in 1257 (by decide +kernel) rfl, gw_in 1258 (by decide +kernel) rfl⟩
theorem ll_135 : ML RL 135 y_Md_driest prog_14_method_101_code 3 (some .int) 0 := ⟨gw_in 2161 (by decide +kernel) rfl, gw_in 131 (by decide +kernel) rfl, gw_in 2164 (by decide +kernel) rfl, ⟨by decide +kernel, by decide +kernel, by decide +kernel⟩⟩
theorem lv__Md_driest : MV y_Md_driest := ⟨gw_in 2162 (by decide +kernel) rfl, gw_in 2163 (by decide +kernel) rfl⟩
theorem ll_136 : ML RL 136 y_Tt_nearest prog_1_method_33_code 6 (some .int) 1 := ⟨gw_in 1260 (by decide +kernel) rfl, gw_in 112 (by decide +kernel) rfl, gw_in 1263 (by decide +kernel) rfl, ⟨by decide +kernel, by decide +kernel, by decide +kernel⟩⟩
theorem lv__Tt_nearest : MV y_Tt_nearest := ⟨gw_in 1261 (by decide +kernel) rfl, gw_in 1262 (by decide +kernel) rfl⟩
theorem ll_139 : ML RL 139 y_Md_nearest prog_14_method_102_code 4 (some .int) 1 := ⟨gw_in 2165 (by decide +kernel) rfl, gw_in 131 (by decide +kernel) rfl, gw_in 2168 (by decide +kernel) rfl, ⟨by decide +kernel, by decide +kernel, by decide +kernel⟩⟩
theorem lv__Md_nearest : MV y_Md_nearest := ⟨gw_in 2166 (by decide +kernel) rfl, gw_in 2167 (by decide +kernel) rfl⟩
theorem ll_140 : ML RL 140 y_Tt_meet prog_1_method_34_code 3 (some .int) 2 := ⟨gw_in 1264 (by decide +kernel) rfl, gw_in 112 (by decide +kernel) rfl, gw_in 1267 (by decide +kernel) rfl, ⟨by decide +kernel, by decide +kernel, by decide +kernel⟩⟩
theorem lv__Tt_meet : MV y_Tt_meet := ⟨gw_in 1265 (by decide +kernel) rfl, gw_in 1266 (by decide +kernel) rfl⟩
theorem ll_143 : ML RL 143 y_Md_meet prog_14_method_79_code 4 (some .int) 2 := ⟨gw_in 2069 (by decide +kernel) rfl, gw_in 131 (by decide +kernel) rfl, gw_in 2072 (by decide +kernel) rfl, ⟨by decide +kernel, by decide +kernel, by decide +kernel⟩⟩
theorem lv__Md_meet : MV y_Md_meet := ⟨gw_in 2070 (by decide +kernel) rfl, gw_in 2071 (by decide +kernel) rfl⟩
theorem ll_144 : ML RL 144 y_Tt_gather prog_1_method_35_code 2 (some .int) 1 := ⟨gw_in 1272 (by decide +kernel) rfl, gw_in 112 (by decide +kernel) rfl, gw_in 1275 (by decide +kernel) rfl, ⟨by decide +kernel, by decide +kernel, by decide +kernel⟩⟩
theorem lv__Tt_gather : MV y_Tt_gather := ⟨gw_in 1273 (by decide +kernel) rfl, gw_in 1274 (by decide +kernel) rfl⟩
theorem ll_147 : ML RL 147 y_Md_gather prog_14_method_89_code 8 (some .int) 1 := ⟨gw_in 2115 (by decide +kernel) rfl, gw_in 131 (by decide +kernel) rfl, gw_in 2118 (by decide +kernel) rfl, ⟨by decide +kernel, by decide +kernel, by decide +kernel⟩⟩
theorem lv__Md_gather : MV y_Md_gather := ⟨gw_in 2116 (by decide +kernel) rfl, gw_in 2117 (by decide +kernel) rfl⟩
theorem ll_148 : ML RL 148 y_Tt_sides prog_1_method_36_code 3 (some .int) 0 := ⟨gw_in 1286 (by decide +kernel) rfl, gw_in 112 (by decide +kernel) rfl, gw_in 1289 (by decide +kernel) rfl, ⟨by decide +kernel, by decide +kernel, by decide +kernel⟩⟩
theorem lv__Tt_sides : MV y_Tt_sides := ⟨gw_in 1287 (by decide +kernel) rfl, gw_in 1288 (by decide +kernel) rfl⟩
theorem ll_151 : ML RL 151 y_Md_sides prog_14_method_90_code 3 (some .int) 0 := ⟨gw_in 2119 (by decide +kernel) rfl, gw_in 131 (by decide +kernel) rfl, gw_in 2122 (by decide +kernel) rfl, ⟨by decide +kernel, by decide +kernel, by decide +kernel⟩⟩
theorem lv__Md_sides : MV y_Md_sides := ⟨gw_in 2120 (by decide +kernel) rfl, gw_in 2121 (by decide +kernel) rfl⟩
theorem ll_152 : ML RL 152 y_Tt_enemies prog_1_method_37_code 4 (some .int) 1 := ⟨gw_in 1290 (by decide +kernel) rfl, gw_in 112 (by decide +kernel) rfl, gw_in 1293 (by decide +kernel) rfl, ⟨by decide +kernel, by decide +kernel, by decide +kernel⟩⟩
theorem lv__Tt_enemies : MV y_Tt_enemies := ⟨gw_in 1291 (by decide +kernel) rfl, gw_in 1292 (by decide +kernel) rfl⟩
theorem ll_155 : ML RL 155 y_Md_enemies prog_14_method_91_code 4 (some .int) 1 := ⟨gw_in 2123 (by decide +kernel) rfl, gw_in 131 (by decide +kernel) rfl, gw_in 2126 (by decide +kernel) rfl, ⟨by decide +kernel, by decide +kernel, by decide +kernel⟩⟩
theorem lv__Md_enemies : MV y_Md_enemies := ⟨gw_in 2124 (by decide +kernel) rfl, gw_in 2125 (by decide +kernel) rfl⟩
theorem ll_156 : ML RL 156 y_Tt_runsDry prog_1_method_38_code 2 (some .int) 1 := ⟨gw_in 1295 (by decide +kernel) rfl, gw_in 112 (by decide +kernel) rfl, gw_in 1298 (by decide +kernel) rfl, ⟨by decide +kernel, by decide +kernel, by decide +kernel⟩⟩
theorem lv__Tt_runsDry : MV y_Tt_runsDry := ⟨gw_in 1296 (by decide +kernel) rfl, gw_in 1297 (by decide +kernel) rfl⟩
theorem ll_159 : ML RL 159 y_Md_runsDry prog_14_method_92_code 3 (some .int) 1 := ⟨gw_in 2127 (by decide +kernel) rfl, gw_in 131 (by decide +kernel) rfl, gw_in 2130 (by decide +kernel) rfl, ⟨by decide +kernel, by decide +kernel, by decide +kernel⟩⟩
theorem lv__Md_runsDry : MV y_Md_runsDry := ⟨gw_in 2128 (by decide +kernel) rfl, gw_in 2129 (by decide +kernel) rfl⟩
theorem ll_160 : ML RL 160 y_Tt_see prog_1_method_39_code 6 (some .int) 4 := ⟨gw_in 1303 (by decide +kernel) rfl, gw_in 112 (by decide +kernel) rfl, gw_in 1306 (by decide +kernel) rfl, ⟨by decide +kernel, by decide +kernel, by decide +kernel⟩⟩
theorem lv__Tt_see : MV y_Tt_see := ⟨gw_in 1304 (by decide +kernel) rfl, gw_in 1305 (by decide +kernel) rfl⟩
theorem ll_164 : ML RL 164 y_Md_see prog_14_method_104_code 5 (some .int) 4 := ⟨gw_in 2169 (by decide +kernel) rfl, gw_in 131 (by decide +kernel) rfl, gw_in 2172 (by decide +kernel) rfl, ⟨by decide +kernel, by decide +kernel, by decide +kernel⟩⟩
theorem lv__Md_see : MV y_Md_see := ⟨gw_in 2170 (by decide +kernel) rfl, gw_in 2171 (by decide +kernel) rfl⟩
theorem ll_165 : ML RL 165 y_Tt_strike prog_1_method_40_code 2 (some .int) 1 := ⟨gw_in 1311 (by decide +kernel) rfl, gw_in 112 (by decide +kernel) rfl, gw_in 1314 (by decide +kernel) rfl, ⟨by decide +kernel, by decide +kernel, by decide +kernel⟩⟩
theorem lv__Tt_strike : MV y_Tt_strike := ⟨gw_in 1312 (by decide +kernel) rfl, gw_in 1313 (by decide +kernel) rfl⟩
theorem ll_168 : ML RL 168 y_Md_strike prog_14_method_105_code 2 (some .int) 1 := ⟨gw_in 2177 (by decide +kernel) rfl, gw_in 131 (by decide +kernel) rfl, gw_in 2180 (by decide +kernel) rfl, ⟨by decide +kernel, by decide +kernel, by decide +kernel⟩⟩
theorem lv__Md_strike : MV y_Md_strike := ⟨gw_in 2178 (by decide +kernel) rfl, gw_in 2179 (by decide +kernel) rfl⟩
theorem ll_169 : ML RL 169 y_Tt_known prog_1_method_41_code 2 (some .boolean) 1 := ⟨gw_in 1319 (by decide +kernel) rfl, gw_in 112 (by decide +kernel) rfl, gw_in 1322 (by decide +kernel) rfl, ⟨by decide +kernel, by decide +kernel, by decide +kernel⟩⟩
theorem lv__Tt_known : MV y_Tt_known := ⟨gw_in 1320 (by decide +kernel) rfl, gw_in 1321 (by decide +kernel) rfl⟩
theorem ll_173 : ML RL 173 y_Md_known prog_14_method_106_code 2 (some .boolean) 1 := ⟨gw_in 2181 (by decide +kernel) rfl, gw_in 131 (by decide +kernel) rfl, gw_in 2184 (by decide +kernel) rfl, ⟨by decide +kernel, by decide +kernel, by decide +kernel⟩⟩
theorem lv__Md_known : MV y_Md_known := ⟨gw_in 2182 (by decide +kernel) rfl, gw_in 2183 (by decide +kernel) rfl⟩
theorem ll_174 : ML RL 174 y_Tt_thirsts prog_1_method_42_code 4 (some .int) 1 := ⟨gw_in 1327 (by decide +kernel) rfl, gw_in 112 (by decide +kernel) rfl, gw_in 1330 (by decide +kernel) rfl, ⟨by decide +kernel, by decide +kernel, by decide +kernel⟩⟩
theorem lv__Tt_thirsts : MV y_Tt_thirsts := ⟨gw_in 1328 (by decide +kernel) rfl, gw_in 1329 (by decide +kernel) rfl⟩
theorem ll_177 : ML RL 177 y_Md_thirsts prog_14_method_110_code 4 (some .int) 1 := ⟨gw_in 2185 (by decide +kernel) rfl, gw_in 131 (by decide +kernel) rfl, gw_in 2188 (by decide +kernel) rfl, ⟨by decide +kernel, by decide +kernel, by decide +kernel⟩⟩
theorem lv__Md_thirsts : MV y_Md_thirsts := ⟨gw_in 2186 (by decide +kernel) rfl, gw_in 2187 (by decide +kernel) rfl⟩
theorem ll_178 : ML RL 178 y_Tt_chance prog_1_method_43_code 6 (some .int) 4 := ⟨gw_in 1357 (by decide +kernel) rfl, gw_in 112 (by decide +kernel) rfl, gw_in 1360 (by decide +kernel) rfl, ⟨by decide +kernel, by decide +kernel, by decide +kernel⟩⟩
theorem lv__Tt_chance : MV y_Tt_chance := ⟨gw_in 1358 (by decide +kernel) rfl, gw_in 1359 (by decide +kernel) rfl⟩
theorem ll_182 : ML RL 182 y_Md_chance prog_14_method_111_code 9 (some .int) 4 := ⟨gw_in 2201 (by decide +kernel) rfl, gw_in 131 (by decide +kernel) rfl, gw_in 2204 (by decide +kernel) rfl, ⟨by decide +kernel, by decide +kernel, by decide +kernel⟩⟩
theorem lv__Md_chance : MV y_Md_chance := ⟨gw_in 2202 (by decide +kernel) rfl, gw_in 2203 (by decide +kernel) rfl⟩
theorem ll_183 : ML RL 183 y_Tt_tried prog_1_method_44_code 5 (some .int) 3 := ⟨gw_in 1366 (by decide +kernel) rfl, gw_in 112 (by decide +kernel) rfl, gw_in 1369 (by decide +kernel) rfl, ⟨by decide +kernel, by decide +kernel, by decide +kernel⟩⟩
theorem lv__Tt_tried : MV y_Tt_tried := ⟨gw_in 1367 (by decide +kernel) rfl, gw_in 1368 (by decide +kernel) rfl⟩
theorem ll_186 : ML RL 186 y_Md_tried prog_14_method_112_code 5 (some .int) 3 := ⟨gw_in 2205 (by decide +kernel) rfl, gw_in 131 (by decide +kernel) rfl, gw_in 2208 (by decide +kernel) rfl, ⟨by decide +kernel, by decide +kernel, by decide +kernel⟩⟩
theorem lv__Md_tried : MV y_Md_tried := ⟨gw_in 2206 (by decide +kernel) rfl, gw_in 2207 (by decide +kernel) rfl⟩
theorem ll_187 : ML RL 187 y_Tt_undo prog_1_method_45_code 1 (some .int) 0 := ⟨gw_in 1387 (by decide +kernel) rfl, gw_in 112 (by decide +kernel) rfl, gw_in 1390 (by decide +kernel) rfl, ⟨by decide +kernel, by decide +kernel, by decide +kernel⟩⟩
theorem lv__Tt_undo : MV y_Tt_undo := ⟨gw_in 1388 (by decide +kernel) rfl, gw_in 1389 (by decide +kernel) rfl⟩
theorem ll_190 : ML RL 190 y_Md_undo prog_14_method_116_code 1 (some .int) 0 := ⟨gw_in 2209 (by decide +kernel) rfl, gw_in 131 (by decide +kernel) rfl, gw_in 2212 (by decide +kernel) rfl, ⟨by decide +kernel, by decide +kernel, by decide +kernel⟩⟩
theorem lv__Md_undo : MV y_Md_undo := ⟨gw_in 2210 (by decide +kernel) rfl, gw_in 2211 (by decide +kernel) rfl⟩
theorem ll_191 : ML RL 191 y_Tt_keep prog_1_method_46_code 1 (some .int) 0 := ⟨gw_in 1395 (by decide +kernel) rfl, gw_in 112 (by decide +kernel) rfl, gw_in 1398 (by decide +kernel) rfl, ⟨by decide +kernel, by decide +kernel, by decide +kernel⟩⟩
theorem lv__Tt_keep : MV y_Tt_keep := ⟨gw_in 1396 (by decide +kernel) rfl, gw_in 1397 (by decide +kernel) rfl⟩
theorem ll_194 : ML RL 194 y_Md_keep prog_14_method_117_code 2 (some .int) 0 := ⟨gw_in 2217 (by decide +kernel) rfl, gw_in 131 (by decide +kernel) rfl, gw_in 2220 (by decide +kernel) rfl, ⟨by decide +kernel, by decide +kernel, by decide +kernel⟩⟩
theorem lv__Md_keep : MV y_Md_keep := ⟨gw_in 2218 (by decide +kernel) rfl, gw_in 2219 (by decide +kernel) rfl⟩
theorem ll_195 : ML RL 195 y_Tt_back prog_1_method_47_code 1 (some .int) 0 := ⟨gw_in 1400 (by decide +kernel) rfl, gw_in 112 (by decide +kernel) rfl, gw_in 1403 (by decide +kernel) rfl, ⟨by decide +kernel, by decide +kernel, by decide +kernel⟩⟩
theorem lv__Tt_back : MV y_Tt_back := ⟨gw_in 1401 (by decide +kernel) rfl, gw_in 1402 (by decide +kernel) rfl⟩
theorem ll_198 : ML RL 198 y_Md_back prog_14_method_118_code 2 (some .int) 0 := ⟨gw_in 2221 (by decide +kernel) rfl, gw_in 131 (by decide +kernel) rfl, gw_in 2224 (by decide +kernel) rfl, ⟨by decide +kernel, by decide +kernel, by decide +kernel⟩⟩
theorem lv__Md_back : MV y_Md_back := ⟨gw_in 2222 (by decide +kernel) rfl, gw_in 2223 (by decide +kernel) rfl⟩
theorem ll_199 : ML RL 199 y_Tt_count prog_1_method_48_code 2 (some .int) 1 := ⟨gw_in 1404 (by decide +kernel) rfl, gw_in 112 (by decide +kernel) rfl, gw_in 1407 (by decide +kernel) rfl, ⟨by decide +kernel, by decide +kernel, by decide +kernel⟩⟩
theorem lv__Tt_count : MV y_Tt_count := ⟨gw_in 1405 (by decide +kernel) rfl, gw_in 1406 (by decide +kernel) rfl⟩
theorem ll_202 : ML RL 202 y_Md_count prog_14_method_119_code 4 (some .int) 1 := ⟨gw_in 2225 (by decide +kernel) rfl, gw_in 131 (by decide +kernel) rfl, gw_in 2228 (by decide +kernel) rfl, ⟨by decide +kernel, by decide +kernel, by decide +kernel⟩⟩
theorem lv__Md_count : MV y_Md_count := ⟨gw_in 2226 (by decide +kernel) rfl, gw_in 2227 (by decide +kernel) rfl⟩
theorem ll_44 : ML RL 44 y_Md_horse prog_14_method_69_code 3 (some .int) 2 := ⟨gw_in 1919 (by decide +kernel) rfl, gw_in 131 (by decide +kernel) rfl, gw_in 1922 (by decide +kernel) rfl, ⟨by decide +kernel, by decide +kernel, by decide +kernel⟩⟩
theorem lv__Md_horse : MV y_Md_horse := ⟨gw_in 1920 (by decide +kernel) rfl, gw_in 1921 (by decide +kernel) rfl⟩
theorem ll_45 : ML RL 45 y_Md_thrown prog_14_method_2_code 1 (some .int) 0 := ⟨gw_in 1781 (by decide +kernel) rfl, gw_in 131 (by decide +kernel) rfl, gw_in 1784 (by decide +kernel) rfl, ⟨by decide +kernel, by decide +kernel, by decide +kernel⟩⟩
theorem lv__Md_thrown : MV y_Md_thrown := ⟨gw_in 1782 (by decide +kernel) rfl, gw_in 1783 (by decide +kernel) rfl⟩
def LL (z b : Nat) (x4 : Int32) : List (Nat × Value) := [(4, .int x4), (3, .ref (z + 139)), (2, .ref (rz (z + 93) 0)), (1, .ref (rz z 0)), (0, .ref b)]
section LC
variable {E : En} {g : Gl} {z k w b L : Nat} {xs : Nat → Int32} {x4 : Int32} {hC hR : Hp} {fo : Nat → Int64} {Rel : Hp → Hp → Prop}
set_option maxRecDepth 8000 in
set_option maxHeartbeats 2000000 in
theorem lc_feed (X : CLw E g z b L xs) (hw : k + 2 ≤ 1166 ∧ w + 16 ≤ 12582) (hsp : SP_feed Rel) (hr0 : Rel hC hR) {a1 : Int32} (i1 : vp_in (x4 + (1 : Int32)) L) (e1 : a1 = xs (x4 + (1 : Int32)).toNatClampNeg) {a2 : Int32} (i2 : vp_in (x4 + (2 : Int32)) L) (e2 : a2 = xs (x4 + (2 : Int32)).toNatClampNeg) {a3 : Int32} (i3 : vp_in (x4 + (3 : Int32)) L) (e3 : a3 = xs (x4 + (3 : Int32)).toNatClampNeg) {a4 : Int32} (i4 : vp_in (x4 + (4 : Int32)) L) (e4 : a4 = xs (x4 + (4 : Int32)).toNatClampNeg) {a5 : Int32} (i5 : vp_in (x4 + (5 : Int32)) L) (e5 : a5 = xs (x4 + (5 : Int32)).toNatClampNeg)
    (kk : ∀ (hC2 hR2 : Hp) (fo2 : Nat → Int64), Rel hC2 hR2 → VL E g z (k + 2) (w + 16) 1611 (LL z b x4) [] hC2 hR2 fo2) : VL E g z k w 224 (LL z b x4) [] hC hR fo := by
  change VL E g z k w 224 [(4, .int x4), (3, .ref (z + 139)), (2, .ref (rz (z + 93) 0)), (1, .ref (rz z 0)), (0, .ref b)] [] hC hR fo
  obtain ⟨r, r', er, er2, ev, hrel⟩ := hsp hC hR a1 a2 a3 a4 a5 hr0
  refine l_aload_n (pc := 224) (i := 1) X (by decide +kernel) 3 rfl ?_
  refine l_aload_n (pc := 225) (i := 0) X (by decide +kernel) 4 rfl ?_
  refine l_iload (pc := 226) (i := 4) X (by decide +kernel) 0 rfl ?_
  refine l_iconst (pc := 228) (n0 := 1) X (by decide +kernel) ic_1 ?_
  refine l_iadd (pc := 229) X (by decide +kernel) ?_
  refine l_sld (pc := 230) X i1 e1 (by decide +kernel) ?_
  refine l_aload_n (pc := 231) (i := 0) X (by decide +kernel) 4 rfl ?_
  refine l_iload (pc := 232) (i := 4) X (by decide +kernel) 0 rfl ?_
  refine l_iconst (pc := 234) (n0 := 2) X (by decide +kernel) ic_2 ?_
  refine l_iadd (pc := 235) X (by decide +kernel) ?_
  refine l_sld (pc := 236) X i2 e2 (by decide +kernel) ?_
  refine l_aload_n (pc := 237) (i := 0) X (by decide +kernel) 4 rfl ?_
  refine l_iload (pc := 238) (i := 4) X (by decide +kernel) 0 rfl ?_
  refine l_iconst (pc := 240) (n0 := 3) X (by decide +kernel) ic_3 ?_
  refine l_iadd (pc := 241) X (by decide +kernel) ?_
  refine l_sld (pc := 242) X i3 e3 (by decide +kernel) ?_
  refine l_aload_n (pc := 243) (i := 0) X (by decide +kernel) 4 rfl ?_
  refine l_iload (pc := 244) (i := 4) X (by decide +kernel) 0 rfl ?_
  refine l_iconst (pc := 246) (n0 := 4) X (by decide +kernel) ic_4 ?_
  refine l_iadd (pc := 247) X (by decide +kernel) ?_
  refine l_sld (pc := 248) X i4 e4 (by decide +kernel) ?_
  refine l_aload_n (pc := 249) (i := 0) X (by decide +kernel) 4 rfl ?_
  refine l_iload (pc := 250) (i := 4) X (by decide +kernel) 0 rfl ?_
  refine l_iconst (pc := 252) (n0 := 5) X (by decide +kernel) ic_5 ?_
  refine l_iadd (pc := 253) X (by decide +kernel) ?_
  refine l_sld (pc := 254) X i5 e5 (by decide +kernel) ?_
  refine l_callC (pc := 255) (As := [.int a1, .int a2, .int a3, .int a4, .int a5]) (rest := []) X (mt_Tt_feed okC_93_101 (inj_rz _ _) (show kd TC 0 = 0 from rfl) er) ll_21 lv__Tt_feed rfl ⟨Nat.le_of_ble_eq_true rfl, Nat.le_of_ble_eq_true rfl⟩ ⟨by omega, by omega⟩ rfl rfl (Nat.le_of_ble_eq_true rfl) (by decide +kernel) ?_
  change VL E g z k w 258 [(4, .int x4), (3, .ref (z + 139)), (2, .ref (rz (z + 93) 0)), (1, .ref (rz z 0)), (0, .ref b)] [.int r.1] (r.2) hR fo
  refine l_aload_n (pc := 258) (i := 2) X (by decide +kernel) 2 rfl ?_
  refine l_aload_n (pc := 259) (i := 0) X (by decide +kernel) 4 rfl ?_
  refine l_iload (pc := 260) (i := 4) X (by decide +kernel) 0 rfl ?_
  refine l_iconst (pc := 262) (n0 := 1) X (by decide +kernel) ic_1 ?_
  refine l_iadd (pc := 263) X (by decide +kernel) ?_
  refine l_sld (pc := 264) X i1 e1 (by decide +kernel) ?_
  refine l_aload_n (pc := 265) (i := 0) X (by decide +kernel) 4 rfl ?_
  refine l_iload (pc := 266) (i := 4) X (by decide +kernel) 0 rfl ?_
  refine l_iconst (pc := 268) (n0 := 2) X (by decide +kernel) ic_2 ?_
  refine l_iadd (pc := 269) X (by decide +kernel) ?_
  refine l_sld (pc := 270) X i2 e2 (by decide +kernel) ?_
  refine l_aload_n (pc := 271) (i := 0) X (by decide +kernel) 4 rfl ?_
  refine l_iload (pc := 272) (i := 4) X (by decide +kernel) 0 rfl ?_
  refine l_iconst (pc := 274) (n0 := 3) X (by decide +kernel) ic_3 ?_
  refine l_iadd (pc := 275) X (by decide +kernel) ?_
  refine l_sld (pc := 276) X i3 e3 (by decide +kernel) ?_
  refine l_aload_n (pc := 277) (i := 0) X (by decide +kernel) 4 rfl ?_
  refine l_iload (pc := 278) (i := 4) X (by decide +kernel) 0 rfl ?_
  refine l_iconst (pc := 280) (n0 := 4) X (by decide +kernel) ic_4 ?_
  refine l_iadd (pc := 281) X (by decide +kernel) ?_
  refine l_sld (pc := 282) X i4 e4 (by decide +kernel) ?_
  refine l_aload_n (pc := 283) (i := 0) X (by decide +kernel) 4 rfl ?_
  refine l_iload (pc := 284) (i := 4) X (by decide +kernel) 0 rfl ?_
  refine l_iconst (pc := 286) (n0 := 5) X (by decide +kernel) ic_5 ?_
  refine l_iadd (pc := 287) X (by decide +kernel) ?_
  refine l_sld (pc := 288) X i5 e5 (by decide +kernel) ?_
  refine l_callR (pc := 289) (As := [.int a1, .int a2, .int a3, .int a4, .int a5]) (rest := [.int r.1]) X (mt_Md_feed okR_46_45 (inj_rz _ _) (show kd TR 0 = 12 from rfl) er2) ll_25 lv__Md_feed rfl ⟨Nat.le_of_ble_eq_true rfl, Nat.le_of_ble_eq_true rfl⟩ ⟨by omega, by omega⟩ rfl rfl (Nat.le_of_ble_eq_true rfl) (by decide +kernel) ?_
  change VL E g z k w 292 [(4, .int x4), (3, .ref (z + 139)), (2, .ref (rz (z + 93) 0)), (1, .ref (rz z 0)), (0, .ref b)] [.int r'.1, .int r.1] (r.2) (r'.2) fo
  refine l_icmp_eq (pc := 292) (off := 1319) (tgt := 1611) X (by decide +kernel) (by decide) (fun _ => ?_) (fun q => absurd ev q)
  exact l_widen (by omega) (by omega) (kk _ _ _ hrel)
set_option maxRecDepth 8000 in
set_option maxHeartbeats 2000000 in
theorem lc_text (X : CLw E g z b L xs) (hw : k + 2 ≤ 1166 ∧ w + 16 ≤ 12582) (hsp : SP_text Rel) (hr0 : Rel hC hR) {a1 : Int32} (i1 : vp_in (x4 + (1 : Int32)) L) (e1 : a1 = xs (x4 + (1 : Int32)).toNatClampNeg)
    (kk : ∀ (hC2 hR2 : Hp) (fo2 : Nat → Int64), Rel hC2 hR2 → VL E g z (k + 2) (w + 16) 1611 (LL z b x4) [] hC2 hR2 fo2) : VL E g z k w 297 (LL z b x4) [] hC hR fo := by
  change VL E g z k w 297 [(4, .int x4), (3, .ref (z + 139)), (2, .ref (rz (z + 93) 0)), (1, .ref (rz z 0)), (0, .ref b)] [] hC hR fo
  obtain ⟨r, r', er, er2, ev, hrel⟩ := hsp hC hR a1 hr0
  refine l_aload_n (pc := 297) (i := 1) X (by decide +kernel) 3 rfl ?_
  refine l_aload_n (pc := 298) (i := 0) X (by decide +kernel) 4 rfl ?_
  refine l_iload (pc := 299) (i := 4) X (by decide +kernel) 0 rfl ?_
  refine l_iconst (pc := 301) (n0 := 1) X (by decide +kernel) ic_1 ?_
  refine l_iadd (pc := 302) X (by decide +kernel) ?_
  refine l_sld (pc := 303) X i1 e1 (by decide +kernel) ?_
  refine l_callC (pc := 304) (As := [.int a1]) (rest := []) X (mt_Tt_text okC_93_101 (inj_rz _ _) (show kd TC 0 = 0 from rfl) er) ll_26 lv__Tt_text rfl ⟨Nat.le_of_ble_eq_true rfl, Nat.le_of_ble_eq_true rfl⟩ ⟨by omega, by omega⟩ rfl rfl (Nat.le_of_ble_eq_true rfl) (by decide +kernel) ?_
  change VL E g z k w 307 [(4, .int x4), (3, .ref (z + 139)), (2, .ref (rz (z + 93) 0)), (1, .ref (rz z 0)), (0, .ref b)] [.int r.1] (r.2) hR fo
  refine l_aload_n (pc := 307) (i := 2) X (by decide +kernel) 2 rfl ?_
  refine l_aload_n (pc := 308) (i := 0) X (by decide +kernel) 4 rfl ?_
  refine l_iload (pc := 309) (i := 4) X (by decide +kernel) 0 rfl ?_
  refine l_iconst (pc := 311) (n0 := 1) X (by decide +kernel) ic_1 ?_
  refine l_iadd (pc := 312) X (by decide +kernel) ?_
  refine l_sld (pc := 313) X i1 e1 (by decide +kernel) ?_
  refine l_callR (pc := 314) (As := [.int a1]) (rest := [.int r.1]) X (mt_Md_text okR_46_45 (inj_rz _ _) (show kd TR 0 = 12 from rfl) er2) ll_30 lv__Md_text rfl ⟨Nat.le_of_ble_eq_true rfl, Nat.le_of_ble_eq_true rfl⟩ ⟨by omega, by omega⟩ rfl rfl (Nat.le_of_ble_eq_true rfl) (by decide +kernel) ?_
  change VL E g z k w 317 [(4, .int x4), (3, .ref (z + 139)), (2, .ref (rz (z + 93) 0)), (1, .ref (rz z 0)), (0, .ref b)] [.int r'.1, .int r.1] (r.2) (r'.2) fo
  refine l_icmp_eq (pc := 317) (off := 1294) (tgt := 1611) X (by decide +kernel) (by decide) (fun _ => ?_) (fun q => absurd ev q)
  exact l_widen (by omega) (by omega) (kk _ _ _ hrel)
set_option maxRecDepth 8000 in
set_option maxHeartbeats 2000000 in
theorem lc_fault (X : CLw E g z b L xs) (hw : k + 2 ≤ 1166 ∧ w + 16 ≤ 12582) (hsp : SP_fault Rel) (hr0 : Rel hC hR) {a1 : Int32} (i1 : vp_in (x4 + (1 : Int32)) L) (e1 : a1 = xs (x4 + (1 : Int32)).toNatClampNeg)
    (kk : ∀ (hC2 hR2 : Hp) (fo2 : Nat → Int64), Rel hC2 hR2 → VL E g z (k + 2) (w + 16) 1611 (LL z b x4) [] hC2 hR2 fo2) : VL E g z k w 322 (LL z b x4) [] hC hR fo := by
  change VL E g z k w 322 [(4, .int x4), (3, .ref (z + 139)), (2, .ref (rz (z + 93) 0)), (1, .ref (rz z 0)), (0, .ref b)] [] hC hR fo
  obtain ⟨r, r', er, er2, ev, hrel⟩ := hsp hC hR a1 hr0
  refine l_aload_n (pc := 322) (i := 1) X (by decide +kernel) 3 rfl ?_
  refine l_aload_n (pc := 323) (i := 0) X (by decide +kernel) 4 rfl ?_
  refine l_iload (pc := 324) (i := 4) X (by decide +kernel) 0 rfl ?_
  refine l_iconst (pc := 326) (n0 := 1) X (by decide +kernel) ic_1 ?_
  refine l_iadd (pc := 327) X (by decide +kernel) ?_
  refine l_sld (pc := 328) X i1 e1 (by decide +kernel) ?_
  refine l_callC (pc := 329) (As := [.int a1]) (rest := []) X (mt_Tt_fault okC_93_101 (inj_rz _ _) (show kd TC 0 = 0 from rfl) er) ll_31 lv__Tt_fault rfl ⟨Nat.le_of_ble_eq_true rfl, Nat.le_of_ble_eq_true rfl⟩ ⟨by omega, by omega⟩ rfl rfl (Nat.le_of_ble_eq_true rfl) (by decide +kernel) ?_
  change VL E g z k w 332 [(4, .int x4), (3, .ref (z + 139)), (2, .ref (rz (z + 93) 0)), (1, .ref (rz z 0)), (0, .ref b)] [.int r] hC hR fo
  refine l_aload_n (pc := 332) (i := 2) X (by decide +kernel) 2 rfl ?_
  refine l_aload_n (pc := 333) (i := 0) X (by decide +kernel) 4 rfl ?_
  refine l_iload (pc := 334) (i := 4) X (by decide +kernel) 0 rfl ?_
  refine l_iconst (pc := 336) (n0 := 1) X (by decide +kernel) ic_1 ?_
  refine l_iadd (pc := 337) X (by decide +kernel) ?_
  refine l_sld (pc := 338) X i1 e1 (by decide +kernel) ?_
  refine l_callR (pc := 339) (As := [.int a1]) (rest := [.int r]) X (mt_Md_fault okR_46_45 (inj_rz _ _) (show kd TR 0 = 12 from rfl) er2) ll_34 lv__Md_fault rfl ⟨Nat.le_of_ble_eq_true rfl, Nat.le_of_ble_eq_true rfl⟩ ⟨by omega, by omega⟩ rfl rfl (Nat.le_of_ble_eq_true rfl) (by decide +kernel) ?_
  change VL E g z k w 342 [(4, .int x4), (3, .ref (z + 139)), (2, .ref (rz (z + 93) 0)), (1, .ref (rz z 0)), (0, .ref b)] [.int r'.1, .int r] hC (r'.2) fo
  refine l_icmp_eq (pc := 342) (off := 1269) (tgt := 1611) X (by decide +kernel) (by decide) (fun _ => ?_) (fun q => absurd ev q)
  exact l_widen (by omega) (by omega) (kk _ _ _ hrel)
set_option maxRecDepth 8000 in
set_option maxHeartbeats 2000000 in
theorem lc_named (X : CLw E g z b L xs) (hw : k + 2 ≤ 1166 ∧ w + 16 ≤ 12582) (hsp : SP_named Rel) (hr0 : Rel hC hR) {a1 : Int32} (i1 : vp_in (x4 + (1 : Int32)) L) (e1 : a1 = xs (x4 + (1 : Int32)).toNatClampNeg) {a2 : Int32} (i2 : vp_in (x4 + (2 : Int32)) L) (e2 : a2 = xs (x4 + (2 : Int32)).toNatClampNeg)
    (kk : ∀ (hC2 hR2 : Hp) (fo2 : Nat → Int64), Rel hC2 hR2 → VL E g z (k + 2) (w + 16) 1611 (LL z b x4) [] hC2 hR2 fo2) : VL E g z k w 347 (LL z b x4) [] hC hR fo := by
  change VL E g z k w 347 [(4, .int x4), (3, .ref (z + 139)), (2, .ref (rz (z + 93) 0)), (1, .ref (rz z 0)), (0, .ref b)] [] hC hR fo
  obtain ⟨r, r', er, er2, ev, hrel⟩ := hsp hC hR a1 a2 hr0
  refine l_aload_n (pc := 347) (i := 1) X (by decide +kernel) 3 rfl ?_
  refine l_aload_n (pc := 348) (i := 0) X (by decide +kernel) 4 rfl ?_
  refine l_iload (pc := 349) (i := 4) X (by decide +kernel) 0 rfl ?_
  refine l_iconst (pc := 351) (n0 := 1) X (by decide +kernel) ic_1 ?_
  refine l_iadd (pc := 352) X (by decide +kernel) ?_
  refine l_sld (pc := 353) X i1 e1 (by decide +kernel) ?_
  refine l_aload_n (pc := 354) (i := 0) X (by decide +kernel) 4 rfl ?_
  refine l_iload (pc := 355) (i := 4) X (by decide +kernel) 0 rfl ?_
  refine l_iconst (pc := 357) (n0 := 2) X (by decide +kernel) ic_2 ?_
  refine l_iadd (pc := 358) X (by decide +kernel) ?_
  refine l_sld (pc := 359) X i2 e2 (by decide +kernel) ?_
  refine l_callC (pc := 360) (As := [.int a1, .int a2]) (rest := []) X (mt_Tt_named okC_93_101 (inj_rz _ _) (show kd TC 0 = 0 from rfl) er) ll_35 lv__Tt_named rfl ⟨Nat.le_of_ble_eq_true rfl, Nat.le_of_ble_eq_true rfl⟩ ⟨by omega, by omega⟩ rfl rfl (Nat.le_of_ble_eq_true rfl) (by decide +kernel) ?_
  change VL E g z k w 363 [(4, .int x4), (3, .ref (z + 139)), (2, .ref (rz (z + 93) 0)), (1, .ref (rz z 0)), (0, .ref b)] [.int r] hC hR fo
  refine l_aload_n (pc := 363) (i := 2) X (by decide +kernel) 2 rfl ?_
  refine l_aload_n (pc := 364) (i := 0) X (by decide +kernel) 4 rfl ?_
  refine l_iload (pc := 365) (i := 4) X (by decide +kernel) 0 rfl ?_
  refine l_iconst (pc := 367) (n0 := 1) X (by decide +kernel) ic_1 ?_
  refine l_iadd (pc := 368) X (by decide +kernel) ?_
  refine l_sld (pc := 369) X i1 e1 (by decide +kernel) ?_
  refine l_aload_n (pc := 370) (i := 0) X (by decide +kernel) 4 rfl ?_
  refine l_iload (pc := 371) (i := 4) X (by decide +kernel) 0 rfl ?_
  refine l_iconst (pc := 373) (n0 := 2) X (by decide +kernel) ic_2 ?_
  refine l_iadd (pc := 374) X (by decide +kernel) ?_
  refine l_sld (pc := 375) X i2 e2 (by decide +kernel) ?_
  refine l_callR (pc := 376) (As := [.int a1, .int a2]) (rest := [.int r]) X (mt_Md_named okR_46_45 (inj_rz _ _) (show kd TR 0 = 12 from rfl) er2) ll_38 lv__Md_named rfl ⟨Nat.le_of_ble_eq_true rfl, Nat.le_of_ble_eq_true rfl⟩ ⟨by omega, by omega⟩ rfl rfl (Nat.le_of_ble_eq_true rfl) (by decide +kernel) ?_
  change VL E g z k w 379 [(4, .int x4), (3, .ref (z + 139)), (2, .ref (rz (z + 93) 0)), (1, .ref (rz z 0)), (0, .ref b)] [.int r'.1, .int r] hC (r'.2) fo
  refine l_icmp_eq (pc := 379) (off := 1232) (tgt := 1611) X (by decide +kernel) (by decide) (fun _ => ?_) (fun q => absurd ev q)
  exact l_widen (by omega) (by omega) (kk _ _ _ hrel)
set_option maxRecDepth 8000 in
set_option maxHeartbeats 2000000 in
theorem lc_trough (X : CLw E g z b L xs) (hw : k + 2 ≤ 1166 ∧ w + 16 ≤ 12582) (hsp : SP_trough Rel) (hr0 : Rel hC hR) {a1 : Int32} (i1 : vp_in (x4 + (1 : Int32)) L) (e1 : a1 = xs (x4 + (1 : Int32)).toNatClampNeg) {a2 : Int32} (i2 : vp_in (x4 + (2 : Int32)) L) (e2 : a2 = xs (x4 + (2 : Int32)).toNatClampNeg)
    (kk : ∀ (hC2 hR2 : Hp) (fo2 : Nat → Int64), Rel hC2 hR2 → VL E g z (k + 2) (w + 16) 1611 (LL z b x4) [] hC2 hR2 fo2) : VL E g z k w 452 (LL z b x4) [] hC hR fo := by
  change VL E g z k w 452 [(4, .int x4), (3, .ref (z + 139)), (2, .ref (rz (z + 93) 0)), (1, .ref (rz z 0)), (0, .ref b)] [] hC hR fo
  obtain ⟨r, r', er, er2, ev, hrel⟩ := hsp hC hR a1 a2 hr0
  refine l_aload_n (pc := 452) (i := 1) X (by decide +kernel) 3 rfl ?_
  refine l_aload_n (pc := 453) (i := 0) X (by decide +kernel) 4 rfl ?_
  refine l_iload (pc := 454) (i := 4) X (by decide +kernel) 0 rfl ?_
  refine l_iconst (pc := 456) (n0 := 1) X (by decide +kernel) ic_1 ?_
  refine l_iadd (pc := 457) X (by decide +kernel) ?_
  refine l_sld (pc := 458) X i1 e1 (by decide +kernel) ?_
  refine l_aload_n (pc := 459) (i := 0) X (by decide +kernel) 4 rfl ?_
  refine l_iload (pc := 460) (i := 4) X (by decide +kernel) 0 rfl ?_
  refine l_iconst (pc := 462) (n0 := 2) X (by decide +kernel) ic_2 ?_
  refine l_iadd (pc := 463) X (by decide +kernel) ?_
  refine l_sld (pc := 464) X i2 e2 (by decide +kernel) ?_
  refine l_callC (pc := 465) (As := [.int a1, .int a2]) (rest := []) X (mt_Tt_trough okC_93_101 (inj_rz _ _) (show kd TC 0 = 0 from rfl) er) ll_49 lv__Tt_trough rfl ⟨Nat.le_of_ble_eq_true rfl, Nat.le_of_ble_eq_true rfl⟩ ⟨by omega, by omega⟩ rfl rfl (Nat.le_of_ble_eq_true rfl) (by decide +kernel) ?_
  change VL E g z k w 468 [(4, .int x4), (3, .ref (z + 139)), (2, .ref (rz (z + 93) 0)), (1, .ref (rz z 0)), (0, .ref b)] [.int r] hC hR fo
  refine l_aload_n (pc := 468) (i := 2) X (by decide +kernel) 2 rfl ?_
  refine l_aload_n (pc := 469) (i := 0) X (by decide +kernel) 4 rfl ?_
  refine l_iload (pc := 470) (i := 4) X (by decide +kernel) 0 rfl ?_
  refine l_iconst (pc := 472) (n0 := 1) X (by decide +kernel) ic_1 ?_
  refine l_iadd (pc := 473) X (by decide +kernel) ?_
  refine l_sld (pc := 474) X i1 e1 (by decide +kernel) ?_
  refine l_aload_n (pc := 475) (i := 0) X (by decide +kernel) 4 rfl ?_
  refine l_iload (pc := 476) (i := 4) X (by decide +kernel) 0 rfl ?_
  refine l_iconst (pc := 478) (n0 := 2) X (by decide +kernel) ic_2 ?_
  refine l_iadd (pc := 479) X (by decide +kernel) ?_
  refine l_sld (pc := 480) X i2 e2 (by decide +kernel) ?_
  refine l_callR (pc := 481) (As := [.int a1, .int a2]) (rest := [.int r]) X (mt_Md_trough okR_46_45 (inj_rz _ _) (show kd TR 0 = 12 from rfl) er2) ll_52 lv__Md_trough rfl ⟨Nat.le_of_ble_eq_true rfl, Nat.le_of_ble_eq_true rfl⟩ ⟨by omega, by omega⟩ rfl rfl (Nat.le_of_ble_eq_true rfl) (by decide +kernel) ?_
  change VL E g z k w 484 [(4, .int x4), (3, .ref (z + 139)), (2, .ref (rz (z + 93) 0)), (1, .ref (rz z 0)), (0, .ref b)] [.int r'.1, .int r] hC (r'.2) fo
  refine l_icmp_eq (pc := 484) (off := 1127) (tgt := 1611) X (by decide +kernel) (by decide) (fun _ => ?_) (fun q => absurd ev q)
  exact l_widen (by omega) (by omega) (kk _ _ _ hrel)
set_option maxRecDepth 8000 in
set_option maxHeartbeats 2000000 in
theorem lc_law (X : CLw E g z b L xs) (hw : k + 2 ≤ 1166 ∧ w + 16 ≤ 12582) (hsp : SP_law Rel) (hr0 : Rel hC hR) {a1 : Int32} (i1 : vp_in (x4 + (1 : Int32)) L) (e1 : a1 = xs (x4 + (1 : Int32)).toNatClampNeg) {a2 : Int32} (i2 : vp_in (x4 + (2 : Int32)) L) (e2 : a2 = xs (x4 + (2 : Int32)).toNatClampNeg)
    (kk : ∀ (hC2 hR2 : Hp) (fo2 : Nat → Int64), Rel hC2 hR2 → VL E g z (k + 2) (w + 16) 1611 (LL z b x4) [] hC2 hR2 fo2) : VL E g z k w 489 (LL z b x4) [] hC hR fo := by
  change VL E g z k w 489 [(4, .int x4), (3, .ref (z + 139)), (2, .ref (rz (z + 93) 0)), (1, .ref (rz z 0)), (0, .ref b)] [] hC hR fo
  obtain ⟨r, r', er, er2, ev, hrel⟩ := hsp hC hR a1 a2 hr0
  refine l_aload_n (pc := 489) (i := 1) X (by decide +kernel) 3 rfl ?_
  refine l_aload_n (pc := 490) (i := 0) X (by decide +kernel) 4 rfl ?_
  refine l_iload (pc := 491) (i := 4) X (by decide +kernel) 0 rfl ?_
  refine l_iconst (pc := 493) (n0 := 1) X (by decide +kernel) ic_1 ?_
  refine l_iadd (pc := 494) X (by decide +kernel) ?_
  refine l_sld (pc := 495) X i1 e1 (by decide +kernel) ?_
  refine l_aload_n (pc := 496) (i := 0) X (by decide +kernel) 4 rfl ?_
  refine l_iload (pc := 497) (i := 4) X (by decide +kernel) 0 rfl ?_
  refine l_iconst (pc := 499) (n0 := 2) X (by decide +kernel) ic_2 ?_
  refine l_iadd (pc := 500) X (by decide +kernel) ?_
  refine l_sld (pc := 501) X i2 e2 (by decide +kernel) ?_
  refine l_callC (pc := 502) (As := [.int a1, .int a2]) (rest := []) X (mt_Tt_law okC_93_101 (inj_rz _ _) (show kd TC 0 = 0 from rfl) er) ll_53 lv__Tt_law rfl ⟨Nat.le_of_ble_eq_true rfl, Nat.le_of_ble_eq_true rfl⟩ ⟨by omega, by omega⟩ rfl rfl (Nat.le_of_ble_eq_true rfl) (by decide +kernel) ?_
  change VL E g z k w 505 [(4, .int x4), (3, .ref (z + 139)), (2, .ref (rz (z + 93) 0)), (1, .ref (rz z 0)), (0, .ref b)] [.long r.1] (r.2) hR fo
  refine l_aload_n (pc := 505) (i := 2) X (by decide +kernel) 2 rfl ?_
  refine l_aload_n (pc := 506) (i := 0) X (by decide +kernel) 4 rfl ?_
  refine l_iload (pc := 507) (i := 4) X (by decide +kernel) 0 rfl ?_
  refine l_iconst (pc := 509) (n0 := 1) X (by decide +kernel) ic_1 ?_
  refine l_iadd (pc := 510) X (by decide +kernel) ?_
  refine l_sld (pc := 511) X i1 e1 (by decide +kernel) ?_
  refine l_aload_n (pc := 512) (i := 0) X (by decide +kernel) 4 rfl ?_
  refine l_iload (pc := 513) (i := 4) X (by decide +kernel) 0 rfl ?_
  refine l_iconst (pc := 515) (n0 := 2) X (by decide +kernel) ic_2 ?_
  refine l_iadd (pc := 516) X (by decide +kernel) ?_
  refine l_sld (pc := 517) X i2 e2 (by decide +kernel) ?_
  refine l_callR (pc := 518) (As := [.int a1, .int a2]) (rest := [.long r.1]) X (mt_Md_law okR_46_45 (inj_rz _ _) (show kd TR 0 = 12 from rfl) er2) ll_57 lv__Md_law rfl ⟨Nat.le_of_ble_eq_true rfl, Nat.le_of_ble_eq_true rfl⟩ ⟨by omega, by omega⟩ rfl rfl (Nat.le_of_ble_eq_true rfl) (by decide +kernel) ?_
  change VL E g z k w 521 [(4, .int x4), (3, .ref (z + 139)), (2, .ref (rz (z + 93) 0)), (1, .ref (rz z 0)), (0, .ref b)] [.long r'.1, .long r.1] (r.2) (r'.2) fo
  refine l_lcmp (pc := 521) X (by decide +kernel) ?_
  refine l_if_eq (pc := 522) (off := 1089) (tgt := 1611) X (by decide +kernel) (by decide) (fun _ => ?_) (fun q => absurd (by rw [ev]; exact lcmp_rf _) q)
  exact l_widen (by omega) (by omega) (kk _ _ _ hrel)
set_option maxRecDepth 8000 in
set_option maxHeartbeats 2000000 in
theorem lc_send (X : CLw E g z b L xs) (hw : k + 2 ≤ 1166 ∧ w + 16 ≤ 12582) (hsp : SP_send Rel) (hr0 : Rel hC hR) {a1 : Int32} (i1 : vp_in (x4 + (1 : Int32)) L) (e1 : a1 = xs (x4 + (1 : Int32)).toNatClampNeg) {a2 : Int32} (i2 : vp_in (x4 + (2 : Int32)) L) (e2 : a2 = xs (x4 + (2 : Int32)).toNatClampNeg)
    (kk : ∀ (hC2 hR2 : Hp) (fo2 : Nat → Int64), Rel hC2 hR2 → VL E g z (k + 2) (w + 16) 1611 (LL z b x4) [] hC2 hR2 fo2) : VL E g z k w 527 (LL z b x4) [] hC hR fo := by
  change VL E g z k w 527 [(4, .int x4), (3, .ref (z + 139)), (2, .ref (rz (z + 93) 0)), (1, .ref (rz z 0)), (0, .ref b)] [] hC hR fo
  obtain ⟨r, r', er, er2, ev, hrel⟩ := hsp hC hR a1 a2 hr0
  refine l_aload_n (pc := 527) (i := 1) X (by decide +kernel) 3 rfl ?_
  refine l_aload_n (pc := 528) (i := 0) X (by decide +kernel) 4 rfl ?_
  refine l_iload (pc := 529) (i := 4) X (by decide +kernel) 0 rfl ?_
  refine l_iconst (pc := 531) (n0 := 1) X (by decide +kernel) ic_1 ?_
  refine l_iadd (pc := 532) X (by decide +kernel) ?_
  refine l_sld (pc := 533) X i1 e1 (by decide +kernel) ?_
  refine l_aload_n (pc := 534) (i := 0) X (by decide +kernel) 4 rfl ?_
  refine l_iload (pc := 535) (i := 4) X (by decide +kernel) 0 rfl ?_
  refine l_iconst (pc := 537) (n0 := 2) X (by decide +kernel) ic_2 ?_
  refine l_iadd (pc := 538) X (by decide +kernel) ?_
  refine l_sld (pc := 539) X i2 e2 (by decide +kernel) ?_
  refine l_callC (pc := 540) (As := [.int a1, .int a2]) (rest := []) X (mt_Tt_send okC_93_101 (inj_rz _ _) (show kd TC 0 = 0 from rfl) er) ll_58 lv__Tt_send rfl ⟨Nat.le_of_ble_eq_true rfl, Nat.le_of_ble_eq_true rfl⟩ ⟨by omega, by omega⟩ rfl rfl (Nat.le_of_ble_eq_true rfl) (by decide +kernel) ?_
  change VL E g z k w 543 [(4, .int x4), (3, .ref (z + 139)), (2, .ref (rz (z + 93) 0)), (1, .ref (rz z 0)), (0, .ref b)] [.int r.1] (r.2) hR fo
  refine l_aload_n (pc := 543) (i := 2) X (by decide +kernel) 2 rfl ?_
  refine l_aload_n (pc := 544) (i := 0) X (by decide +kernel) 4 rfl ?_
  refine l_iload (pc := 545) (i := 4) X (by decide +kernel) 0 rfl ?_
  refine l_iconst (pc := 547) (n0 := 1) X (by decide +kernel) ic_1 ?_
  refine l_iadd (pc := 548) X (by decide +kernel) ?_
  refine l_sld (pc := 549) X i1 e1 (by decide +kernel) ?_
  refine l_aload_n (pc := 550) (i := 0) X (by decide +kernel) 4 rfl ?_
  refine l_iload (pc := 551) (i := 4) X (by decide +kernel) 0 rfl ?_
  refine l_iconst (pc := 553) (n0 := 2) X (by decide +kernel) ic_2 ?_
  refine l_iadd (pc := 554) X (by decide +kernel) ?_
  refine l_sld (pc := 555) X i2 e2 (by decide +kernel) ?_
  refine l_callR (pc := 556) (As := [.int a1, .int a2]) (rest := [.int r.1]) X (mt_Md_send okR_46_45 (inj_rz _ _) (show kd TR 0 = 12 from rfl) er2) ll_61 lv__Md_send rfl ⟨Nat.le_of_ble_eq_true rfl, Nat.le_of_ble_eq_true rfl⟩ ⟨by omega, by omega⟩ rfl rfl (Nat.le_of_ble_eq_true rfl) (by decide +kernel) ?_
  change VL E g z k w 559 [(4, .int x4), (3, .ref (z + 139)), (2, .ref (rz (z + 93) 0)), (1, .ref (rz z 0)), (0, .ref b)] [.int r'.1, .int r.1] (r.2) (r'.2) fo
  refine l_icmp_eq (pc := 559) (off := 1052) (tgt := 1611) X (by decide +kernel) (by decide) (fun _ => ?_) (fun q => absurd ev q)
  exact l_widen (by omega) (by omega) (kk _ _ _ hrel)
set_option maxRecDepth 8000 in
set_option maxHeartbeats 2000000 in
theorem lc_fill (X : CLw E g z b L xs) (hw : k + 2 ≤ 1166 ∧ w + 16 ≤ 12582) (hsp : SP_fill Rel) (hr0 : Rel hC hR) {a1 : Int32} (i1 : vp_in (x4 + (1 : Int32)) L) (e1 : a1 = xs (x4 + (1 : Int32)).toNatClampNeg) {a2 : Int32} (i2 : vp_in (x4 + (2 : Int32)) L) (e2 : a2 = xs (x4 + (2 : Int32)).toNatClampNeg)
    (kk : ∀ (hC2 hR2 : Hp) (fo2 : Nat → Int64), Rel hC2 hR2 → VL E g z (k + 2) (w + 16) 1611 (LL z b x4) [] hC2 hR2 fo2) : VL E g z k w 564 (LL z b x4) [] hC hR fo := by
  change VL E g z k w 564 [(4, .int x4), (3, .ref (z + 139)), (2, .ref (rz (z + 93) 0)), (1, .ref (rz z 0)), (0, .ref b)] [] hC hR fo
  obtain ⟨r, r', er, er2, ev, hrel⟩ := hsp hC hR a1 a2 hr0
  refine l_aload_n (pc := 564) (i := 1) X (by decide +kernel) 3 rfl ?_
  refine l_aload_n (pc := 565) (i := 0) X (by decide +kernel) 4 rfl ?_
  refine l_iload (pc := 566) (i := 4) X (by decide +kernel) 0 rfl ?_
  refine l_iconst (pc := 568) (n0 := 1) X (by decide +kernel) ic_1 ?_
  refine l_iadd (pc := 569) X (by decide +kernel) ?_
  refine l_sld (pc := 570) X i1 e1 (by decide +kernel) ?_
  refine l_aload_n (pc := 571) (i := 0) X (by decide +kernel) 4 rfl ?_
  refine l_iload (pc := 572) (i := 4) X (by decide +kernel) 0 rfl ?_
  refine l_iconst (pc := 574) (n0 := 2) X (by decide +kernel) ic_2 ?_
  refine l_iadd (pc := 575) X (by decide +kernel) ?_
  refine l_sld (pc := 576) X i2 e2 (by decide +kernel) ?_
  refine l_callC (pc := 577) (As := [.int a1, .int a2]) (rest := []) X (mt_Tt_fill okC_93_101 (inj_rz _ _) (show kd TC 0 = 0 from rfl) er) ll_62 lv__Tt_fill rfl ⟨Nat.le_of_ble_eq_true rfl, Nat.le_of_ble_eq_true rfl⟩ ⟨by omega, by omega⟩ rfl rfl (Nat.le_of_ble_eq_true rfl) (by decide +kernel) ?_
  change VL E g z k w 580 [(4, .int x4), (3, .ref (z + 139)), (2, .ref (rz (z + 93) 0)), (1, .ref (rz z 0)), (0, .ref b)] [.int r.1] (r.2) hR fo
  refine l_aload_n (pc := 580) (i := 2) X (by decide +kernel) 2 rfl ?_
  refine l_aload_n (pc := 581) (i := 0) X (by decide +kernel) 4 rfl ?_
  refine l_iload (pc := 582) (i := 4) X (by decide +kernel) 0 rfl ?_
  refine l_iconst (pc := 584) (n0 := 1) X (by decide +kernel) ic_1 ?_
  refine l_iadd (pc := 585) X (by decide +kernel) ?_
  refine l_sld (pc := 586) X i1 e1 (by decide +kernel) ?_
  refine l_aload_n (pc := 587) (i := 0) X (by decide +kernel) 4 rfl ?_
  refine l_iload (pc := 588) (i := 4) X (by decide +kernel) 0 rfl ?_
  refine l_iconst (pc := 590) (n0 := 2) X (by decide +kernel) ic_2 ?_
  refine l_iadd (pc := 591) X (by decide +kernel) ?_
  refine l_sld (pc := 592) X i2 e2 (by decide +kernel) ?_
  refine l_callR (pc := 593) (As := [.int a1, .int a2]) (rest := [.int r.1]) X (mt_Md_fill okR_46_45 (inj_rz _ _) (show kd TR 0 = 12 from rfl) er2) ll_65 lv__Md_fill rfl ⟨Nat.le_of_ble_eq_true rfl, Nat.le_of_ble_eq_true rfl⟩ ⟨by omega, by omega⟩ rfl rfl (Nat.le_of_ble_eq_true rfl) (by decide +kernel) ?_
  change VL E g z k w 596 [(4, .int x4), (3, .ref (z + 139)), (2, .ref (rz (z + 93) 0)), (1, .ref (rz z 0)), (0, .ref b)] [.int r'.1, .int r.1] (r.2) (r'.2) fo
  refine l_icmp_eq (pc := 596) (off := 1015) (tgt := 1611) X (by decide +kernel) (by decide) (fun _ => ?_) (fun q => absurd ev q)
  exact l_widen (by omega) (by omega) (kk _ _ _ hrel)
set_option maxRecDepth 8000 in
set_option maxHeartbeats 2000000 in
theorem lc_lead (X : CLw E g z b L xs) (hw : k + 2 ≤ 1166 ∧ w + 16 ≤ 12582) (hsp : SP_lead Rel) (hr0 : Rel hC hR) {a1 : Int32} (i1 : vp_in (x4 + (1 : Int32)) L) (e1 : a1 = xs (x4 + (1 : Int32)).toNatClampNeg) {a2 : Int32} (i2 : vp_in (x4 + (2 : Int32)) L) (e2 : a2 = xs (x4 + (2 : Int32)).toNatClampNeg)
    (kk : ∀ (hC2 hR2 : Hp) (fo2 : Nat → Int64), Rel hC2 hR2 → VL E g z (k + 2) (w + 16) 1611 (LL z b x4) [] hC2 hR2 fo2) : VL E g z k w 601 (LL z b x4) [] hC hR fo := by
  change VL E g z k w 601 [(4, .int x4), (3, .ref (z + 139)), (2, .ref (rz (z + 93) 0)), (1, .ref (rz z 0)), (0, .ref b)] [] hC hR fo
  obtain ⟨r, r', er, er2, ev, hrel⟩ := hsp hC hR a1 a2 hr0
  refine l_aload_n (pc := 601) (i := 1) X (by decide +kernel) 3 rfl ?_
  refine l_aload_n (pc := 602) (i := 0) X (by decide +kernel) 4 rfl ?_
  refine l_iload (pc := 603) (i := 4) X (by decide +kernel) 0 rfl ?_
  refine l_iconst (pc := 605) (n0 := 1) X (by decide +kernel) ic_1 ?_
  refine l_iadd (pc := 606) X (by decide +kernel) ?_
  refine l_sld (pc := 607) X i1 e1 (by decide +kernel) ?_
  refine l_aload_n (pc := 608) (i := 0) X (by decide +kernel) 4 rfl ?_
  refine l_iload (pc := 609) (i := 4) X (by decide +kernel) 0 rfl ?_
  refine l_iconst (pc := 611) (n0 := 2) X (by decide +kernel) ic_2 ?_
  refine l_iadd (pc := 612) X (by decide +kernel) ?_
  refine l_sld (pc := 613) X i2 e2 (by decide +kernel) ?_
  refine l_callC (pc := 614) (As := [.int a1, .int a2]) (rest := []) X (mt_Tt_lead okC_93_101 (inj_rz _ _) (show kd TC 0 = 0 from rfl) er) ll_66 lv__Tt_lead rfl ⟨Nat.le_of_ble_eq_true rfl, Nat.le_of_ble_eq_true rfl⟩ ⟨by omega, by omega⟩ rfl rfl (Nat.le_of_ble_eq_true rfl) (by decide +kernel) ?_
  change VL E g z k w 617 [(4, .int x4), (3, .ref (z + 139)), (2, .ref (rz (z + 93) 0)), (1, .ref (rz z 0)), (0, .ref b)] [.int r.1] (r.2) hR fo
  refine l_aload_n (pc := 617) (i := 2) X (by decide +kernel) 2 rfl ?_
  refine l_aload_n (pc := 618) (i := 0) X (by decide +kernel) 4 rfl ?_
  refine l_iload (pc := 619) (i := 4) X (by decide +kernel) 0 rfl ?_
  refine l_iconst (pc := 621) (n0 := 1) X (by decide +kernel) ic_1 ?_
  refine l_iadd (pc := 622) X (by decide +kernel) ?_
  refine l_sld (pc := 623) X i1 e1 (by decide +kernel) ?_
  refine l_aload_n (pc := 624) (i := 0) X (by decide +kernel) 4 rfl ?_
  refine l_iload (pc := 625) (i := 4) X (by decide +kernel) 0 rfl ?_
  refine l_iconst (pc := 627) (n0 := 2) X (by decide +kernel) ic_2 ?_
  refine l_iadd (pc := 628) X (by decide +kernel) ?_
  refine l_sld (pc := 629) X i2 e2 (by decide +kernel) ?_
  refine l_callR (pc := 630) (As := [.int a1, .int a2]) (rest := [.int r.1]) X (mt_Md_lead okR_46_45 (inj_rz _ _) (show kd TR 0 = 12 from rfl) er2) ll_70 lv__Md_lead rfl ⟨Nat.le_of_ble_eq_true rfl, Nat.le_of_ble_eq_true rfl⟩ ⟨by omega, by omega⟩ rfl rfl (Nat.le_of_ble_eq_true rfl) (by decide +kernel) ?_
  change VL E g z k w 633 [(4, .int x4), (3, .ref (z + 139)), (2, .ref (rz (z + 93) 0)), (1, .ref (rz z 0)), (0, .ref b)] [.int r'.1, .int r.1] (r.2) (r'.2) fo
  refine l_icmp_eq (pc := 633) (off := 978) (tgt := 1611) X (by decide +kernel) (by decide) (fun _ => ?_) (fun q => absurd ev q)
  exact l_widen (by omega) (by omega) (kk _ _ _ hrel)
set_option maxRecDepth 8000 in
set_option maxHeartbeats 2000000 in
theorem lc_go (X : CLw E g z b L xs) (hw : k + 2 ≤ 1166 ∧ w + 16 ≤ 12582) (hsp : SP_go Rel) (hr0 : Rel hC hR) {a1 : Int32} (i1 : vp_in (x4 + (1 : Int32)) L) (e1 : a1 = xs (x4 + (1 : Int32)).toNatClampNeg)
    (kk : ∀ (hC2 hR2 : Hp) (fo2 : Nat → Int64), Rel hC2 hR2 → VL E g z (k + 2) (w + 16) 1611 (LL z b x4) [] hC2 hR2 fo2) : VL E g z k w 638 (LL z b x4) [] hC hR fo := by
  change VL E g z k w 638 [(4, .int x4), (3, .ref (z + 139)), (2, .ref (rz (z + 93) 0)), (1, .ref (rz z 0)), (0, .ref b)] [] hC hR fo
  obtain ⟨r, r', er, er2, ev, hrel⟩ := hsp hC hR a1 hr0
  refine l_aload_n (pc := 638) (i := 1) X (by decide +kernel) 3 rfl ?_
  refine l_aload_n (pc := 639) (i := 0) X (by decide +kernel) 4 rfl ?_
  refine l_iload (pc := 640) (i := 4) X (by decide +kernel) 0 rfl ?_
  refine l_iconst (pc := 642) (n0 := 1) X (by decide +kernel) ic_1 ?_
  refine l_iadd (pc := 643) X (by decide +kernel) ?_
  refine l_sld (pc := 644) X i1 e1 (by decide +kernel) ?_
  refine l_callC (pc := 645) (As := [.int a1]) (rest := []) X (mt_Tt_go okC_93_101 (inj_rz _ _) (show kd TC 0 = 0 from rfl) er) ll_71 lv__Tt_go rfl ⟨Nat.le_of_ble_eq_true rfl, Nat.le_of_ble_eq_true rfl⟩ ⟨by omega, by omega⟩ rfl rfl (Nat.le_of_ble_eq_true rfl) (by decide +kernel) ?_
  change VL E g z k w 648 [(4, .int x4), (3, .ref (z + 139)), (2, .ref (rz (z + 93) 0)), (1, .ref (rz z 0)), (0, .ref b)] [.int r.1] (r.2) hR fo
  refine l_aload_n (pc := 648) (i := 2) X (by decide +kernel) 2 rfl ?_
  refine l_aload_n (pc := 649) (i := 0) X (by decide +kernel) 4 rfl ?_
  refine l_iload (pc := 650) (i := 4) X (by decide +kernel) 0 rfl ?_
  refine l_iconst (pc := 652) (n0 := 1) X (by decide +kernel) ic_1 ?_
  refine l_iadd (pc := 653) X (by decide +kernel) ?_
  refine l_sld (pc := 654) X i1 e1 (by decide +kernel) ?_
  refine l_callR (pc := 655) (As := [.int a1]) (rest := [.int r.1]) X (mt_Md_go okR_46_45 (inj_rz _ _) (show kd TR 0 = 12 from rfl) er2) ll_74 lv__Md_go rfl ⟨Nat.le_of_ble_eq_true rfl, Nat.le_of_ble_eq_true rfl⟩ ⟨by omega, by omega⟩ rfl rfl (Nat.le_of_ble_eq_true rfl) (by decide +kernel) ?_
  change VL E g z k w 658 [(4, .int x4), (3, .ref (z + 139)), (2, .ref (rz (z + 93) 0)), (1, .ref (rz z 0)), (0, .ref b)] [.int r'.1, .int r.1] (r.2) (r'.2) fo
  refine l_icmp_eq (pc := 658) (off := 953) (tgt := 1611) X (by decide +kernel) (by decide) (fun _ => ?_) (fun q => absurd ev q)
  exact l_widen (by omega) (by omega) (kk _ _ _ hrel)
set_option maxRecDepth 8000 in
set_option maxHeartbeats 2000000 in
theorem lc_ahead (X : CLw E g z b L xs) (hw : k + 2 ≤ 1166 ∧ w + 16 ≤ 12582) (hsp : SP_ahead Rel) (hr0 : Rel hC hR) {a1 : Int32} (i1 : vp_in (x4 + (1 : Int32)) L) (e1 : a1 = xs (x4 + (1 : Int32)).toNatClampNeg) {a2 : Int32} (i2 : vp_in (x4 + (2 : Int32)) L) (e2 : a2 = xs (x4 + (2 : Int32)).toNatClampNeg) {a3 : Int32} (i3 : vp_in (x4 + (3 : Int32)) L) (e3 : a3 = xs (x4 + (3 : Int32)).toNatClampNeg)
    (kk : ∀ (hC2 hR2 : Hp) (fo2 : Nat → Int64), Rel hC2 hR2 → VL E g z (k + 2) (w + 16) 1611 (LL z b x4) [] hC2 hR2 fo2) : VL E g z k w 663 (LL z b x4) [] hC hR fo := by
  change VL E g z k w 663 [(4, .int x4), (3, .ref (z + 139)), (2, .ref (rz (z + 93) 0)), (1, .ref (rz z 0)), (0, .ref b)] [] hC hR fo
  obtain ⟨r, r', er, er2, ev, hrel⟩ := hsp hC hR a1 a2 a3 hr0
  refine l_aload_n (pc := 663) (i := 1) X (by decide +kernel) 3 rfl ?_
  refine l_aload_n (pc := 664) (i := 0) X (by decide +kernel) 4 rfl ?_
  refine l_iload (pc := 665) (i := 4) X (by decide +kernel) 0 rfl ?_
  refine l_iconst (pc := 667) (n0 := 1) X (by decide +kernel) ic_1 ?_
  refine l_iadd (pc := 668) X (by decide +kernel) ?_
  refine l_sld (pc := 669) X i1 e1 (by decide +kernel) ?_
  refine l_aload_n (pc := 670) (i := 0) X (by decide +kernel) 4 rfl ?_
  refine l_iload (pc := 671) (i := 4) X (by decide +kernel) 0 rfl ?_
  refine l_iconst (pc := 673) (n0 := 2) X (by decide +kernel) ic_2 ?_
  refine l_iadd (pc := 674) X (by decide +kernel) ?_
  refine l_sld (pc := 675) X i2 e2 (by decide +kernel) ?_
  refine l_aload_n (pc := 676) (i := 0) X (by decide +kernel) 4 rfl ?_
  refine l_iload (pc := 677) (i := 4) X (by decide +kernel) 0 rfl ?_
  refine l_iconst (pc := 679) (n0 := 3) X (by decide +kernel) ic_3 ?_
  refine l_iadd (pc := 680) X (by decide +kernel) ?_
  refine l_sld (pc := 681) X i3 e3 (by decide +kernel) ?_
  refine l_callC (pc := 682) (As := [.int a1, .int a2, .int a3]) (rest := []) X (mt_Tt_ahead okC_93_101 (inj_rz _ _) (show kd TC 0 = 0 from rfl) er) ll_75 lv__Tt_ahead rfl ⟨Nat.le_of_ble_eq_true rfl, Nat.le_of_ble_eq_true rfl⟩ ⟨by omega, by omega⟩ rfl rfl (Nat.le_of_ble_eq_true rfl) (by decide +kernel) ?_
  change VL E g z k w 685 [(4, .int x4), (3, .ref (z + 139)), (2, .ref (rz (z + 93) 0)), (1, .ref (rz z 0)), (0, .ref b)] [.int r.1] (r.2) hR fo
  refine l_aload_n (pc := 685) (i := 2) X (by decide +kernel) 2 rfl ?_
  refine l_aload_n (pc := 686) (i := 0) X (by decide +kernel) 4 rfl ?_
  refine l_iload (pc := 687) (i := 4) X (by decide +kernel) 0 rfl ?_
  refine l_iconst (pc := 689) (n0 := 1) X (by decide +kernel) ic_1 ?_
  refine l_iadd (pc := 690) X (by decide +kernel) ?_
  refine l_sld (pc := 691) X i1 e1 (by decide +kernel) ?_
  refine l_aload_n (pc := 692) (i := 0) X (by decide +kernel) 4 rfl ?_
  refine l_iload (pc := 693) (i := 4) X (by decide +kernel) 0 rfl ?_
  refine l_iconst (pc := 695) (n0 := 2) X (by decide +kernel) ic_2 ?_
  refine l_iadd (pc := 696) X (by decide +kernel) ?_
  refine l_sld (pc := 697) X i2 e2 (by decide +kernel) ?_
  refine l_aload_n (pc := 698) (i := 0) X (by decide +kernel) 4 rfl ?_
  refine l_iload (pc := 699) (i := 4) X (by decide +kernel) 0 rfl ?_
  refine l_iconst (pc := 701) (n0 := 3) X (by decide +kernel) ic_3 ?_
  refine l_iadd (pc := 702) X (by decide +kernel) ?_
  refine l_sld (pc := 703) X i3 e3 (by decide +kernel) ?_
  refine l_callR (pc := 704) (As := [.int a1, .int a2, .int a3]) (rest := [.int r.1]) X (mt_Md_ahead okR_46_45 (inj_rz _ _) (show kd TR 0 = 12 from rfl) er2) ll_79 lv__Md_ahead rfl ⟨Nat.le_of_ble_eq_true rfl, Nat.le_of_ble_eq_true rfl⟩ ⟨by omega, by omega⟩ rfl rfl (Nat.le_of_ble_eq_true rfl) (by decide +kernel) ?_
  change VL E g z k w 707 [(4, .int x4), (3, .ref (z + 139)), (2, .ref (rz (z + 93) 0)), (1, .ref (rz z 0)), (0, .ref b)] [.int r'.1, .int r.1] (r.2) (r'.2) fo
  refine l_icmp_eq (pc := 707) (off := 904) (tgt := 1611) X (by decide +kernel) (by decide) (fun _ => ?_) (fun q => absurd ev q)
  exact l_widen (by omega) (by omega) (kk _ _ _ hrel)
set_option maxRecDepth 8000 in
set_option maxHeartbeats 2000000 in
theorem lc_falls (X : CLw E g z b L xs) (hw : k + 2 ≤ 1166 ∧ w + 16 ≤ 12582) (hsp : SP_falls Rel) (hr0 : Rel hC hR) {a1 : Int32} (i1 : vp_in (x4 + (1 : Int32)) L) (e1 : a1 = xs (x4 + (1 : Int32)).toNatClampNeg)
    (kk : ∀ (hC2 hR2 : Hp) (fo2 : Nat → Int64), Rel hC2 hR2 → VL E g z (k + 2) (w + 16) 1611 (LL z b x4) [] hC2 hR2 fo2) : VL E g z k w 712 (LL z b x4) [] hC hR fo := by
  change VL E g z k w 712 [(4, .int x4), (3, .ref (z + 139)), (2, .ref (rz (z + 93) 0)), (1, .ref (rz z 0)), (0, .ref b)] [] hC hR fo
  obtain ⟨r, r', er, er2, ev, hrel⟩ := hsp hC hR a1 hr0
  refine l_aload_n (pc := 712) (i := 1) X (by decide +kernel) 3 rfl ?_
  refine l_aload_n (pc := 713) (i := 0) X (by decide +kernel) 4 rfl ?_
  refine l_iload (pc := 714) (i := 4) X (by decide +kernel) 0 rfl ?_
  refine l_iconst (pc := 716) (n0 := 1) X (by decide +kernel) ic_1 ?_
  refine l_iadd (pc := 717) X (by decide +kernel) ?_
  refine l_sld (pc := 718) X i1 e1 (by decide +kernel) ?_
  refine l_callC (pc := 719) (As := [.int a1]) (rest := []) X (mt_Tt_falls okC_93_101 (inj_rz _ _) (show kd TC 0 = 0 from rfl) er) ll_80 lv__Tt_falls rfl ⟨Nat.le_of_ble_eq_true rfl, Nat.le_of_ble_eq_true rfl⟩ ⟨by omega, by omega⟩ rfl rfl (Nat.le_of_ble_eq_true rfl) (by decide +kernel) ?_
  change VL E g z k w 722 [(4, .int x4), (3, .ref (z + 139)), (2, .ref (rz (z + 93) 0)), (1, .ref (rz z 0)), (0, .ref b)] [.int r.1] (r.2) hR fo
  refine l_aload_n (pc := 722) (i := 2) X (by decide +kernel) 2 rfl ?_
  refine l_aload_n (pc := 723) (i := 0) X (by decide +kernel) 4 rfl ?_
  refine l_iload (pc := 724) (i := 4) X (by decide +kernel) 0 rfl ?_
  refine l_iconst (pc := 726) (n0 := 1) X (by decide +kernel) ic_1 ?_
  refine l_iadd (pc := 727) X (by decide +kernel) ?_
  refine l_sld (pc := 728) X i1 e1 (by decide +kernel) ?_
  refine l_callR (pc := 729) (As := [.int a1]) (rest := [.int r.1]) X (mt_Md_falls okR_46_45 (inj_rz _ _) (show kd TR 0 = 12 from rfl) er2) ll_83 lv__Md_falls rfl ⟨Nat.le_of_ble_eq_true rfl, Nat.le_of_ble_eq_true rfl⟩ ⟨by omega, by omega⟩ rfl rfl (Nat.le_of_ble_eq_true rfl) (by decide +kernel) ?_
  change VL E g z k w 732 [(4, .int x4), (3, .ref (z + 139)), (2, .ref (rz (z + 93) 0)), (1, .ref (rz z 0)), (0, .ref b)] [.int r'.1, .int r.1] (r.2) (r'.2) fo
  refine l_icmp_eq (pc := 732) (off := 879) (tgt := 1611) X (by decide +kernel) (by decide) (fun _ => ?_) (fun q => absurd ev q)
  exact l_widen (by omega) (by omega) (kk _ _ _ hrel)
set_option maxRecDepth 8000 in
set_option maxHeartbeats 2000000 in
theorem lc_nextFight (X : CLw E g z b L xs) (hw : k + 2 ≤ 1166 ∧ w + 16 ≤ 12582) (hsp : SP_nextFight Rel) (hr0 : Rel hC hR) {a1 : Int32} (i1 : vp_in (x4 + (1 : Int32)) L) (e1 : a1 = xs (x4 + (1 : Int32)).toNatClampNeg)
    (kk : ∀ (hC2 hR2 : Hp) (fo2 : Nat → Int64), Rel hC2 hR2 → VL E g z (k + 2) (w + 16) 1611 (LL z b x4) [] hC2 hR2 fo2) : VL E g z k w 737 (LL z b x4) [] hC hR fo := by
  change VL E g z k w 737 [(4, .int x4), (3, .ref (z + 139)), (2, .ref (rz (z + 93) 0)), (1, .ref (rz z 0)), (0, .ref b)] [] hC hR fo
  obtain ⟨r, r', er, er2, ev, hrel⟩ := hsp hC hR a1 hr0
  refine l_aload_n (pc := 737) (i := 1) X (by decide +kernel) 3 rfl ?_
  refine l_aload_n (pc := 738) (i := 0) X (by decide +kernel) 4 rfl ?_
  refine l_iload (pc := 739) (i := 4) X (by decide +kernel) 0 rfl ?_
  refine l_iconst (pc := 741) (n0 := 1) X (by decide +kernel) ic_1 ?_
  refine l_iadd (pc := 742) X (by decide +kernel) ?_
  refine l_sld (pc := 743) X i1 e1 (by decide +kernel) ?_
  refine l_callC (pc := 744) (As := [.int a1]) (rest := []) X (mt_Tt_nextFight okC_93_101 (inj_rz _ _) (show kd TC 0 = 0 from rfl) er) ll_84 lv__Tt_nextFight rfl ⟨Nat.le_of_ble_eq_true rfl, Nat.le_of_ble_eq_true rfl⟩ ⟨by omega, by omega⟩ rfl rfl (Nat.le_of_ble_eq_true rfl) (by decide +kernel) ?_
  change VL E g z k w 747 [(4, .int x4), (3, .ref (z + 139)), (2, .ref (rz (z + 93) 0)), (1, .ref (rz z 0)), (0, .ref b)] [.int r.1] (r.2) hR fo
  refine l_aload_n (pc := 747) (i := 2) X (by decide +kernel) 2 rfl ?_
  refine l_aload_n (pc := 748) (i := 0) X (by decide +kernel) 4 rfl ?_
  refine l_iload (pc := 749) (i := 4) X (by decide +kernel) 0 rfl ?_
  refine l_iconst (pc := 751) (n0 := 1) X (by decide +kernel) ic_1 ?_
  refine l_iadd (pc := 752) X (by decide +kernel) ?_
  refine l_sld (pc := 753) X i1 e1 (by decide +kernel) ?_
  refine l_callR (pc := 754) (As := [.int a1]) (rest := [.int r.1]) X (mt_Md_nextFight okR_46_45 (inj_rz _ _) (show kd TR 0 = 12 from rfl) er2) ll_87 lv__Md_nextFight rfl ⟨Nat.le_of_ble_eq_true rfl, Nat.le_of_ble_eq_true rfl⟩ ⟨by omega, by omega⟩ rfl rfl (Nat.le_of_ble_eq_true rfl) (by decide +kernel) ?_
  change VL E g z k w 757 [(4, .int x4), (3, .ref (z + 139)), (2, .ref (rz (z + 93) 0)), (1, .ref (rz z 0)), (0, .ref b)] [.int r'.1, .int r.1] (r.2) (r'.2) fo
  refine l_icmp_eq (pc := 757) (off := 854) (tgt := 1611) X (by decide +kernel) (by decide) (fun _ => ?_) (fun q => absurd ev q)
  exact l_widen (by omega) (by omega) (kk _ _ _ hrel)
set_option maxRecDepth 8000 in
set_option maxHeartbeats 2000000 in
theorem lc_sendIn (X : CLw E g z b L xs) (hw : k + 2 ≤ 1166 ∧ w + 16 ≤ 12582) (hsp : SP_sendIn Rel) (hr0 : Rel hC hR) {a1 : Int32} (i1 : vp_in (x4 + (1 : Int32)) L) (e1 : a1 = xs (x4 + (1 : Int32)).toNatClampNeg) {a2 : Int32} (i2 : vp_in (x4 + (2 : Int32)) L) (e2 : a2 = xs (x4 + (2 : Int32)).toNatClampNeg) {a3 : Int32} (i3 : vp_in (x4 + (3 : Int32)) L) (e3 : a3 = xs (x4 + (3 : Int32)).toNatClampNeg)
    (kk : ∀ (hC2 hR2 : Hp) (fo2 : Nat → Int64), Rel hC2 hR2 → VL E g z (k + 2) (w + 16) 1611 (LL z b x4) [] hC2 hR2 fo2) : VL E g z k w 762 (LL z b x4) [] hC hR fo := by
  change VL E g z k w 762 [(4, .int x4), (3, .ref (z + 139)), (2, .ref (rz (z + 93) 0)), (1, .ref (rz z 0)), (0, .ref b)] [] hC hR fo
  obtain ⟨r, r', er, er2, ev, hrel⟩ := hsp hC hR a1 a2 a3 hr0
  refine l_aload_n (pc := 762) (i := 1) X (by decide +kernel) 3 rfl ?_
  refine l_aload_n (pc := 763) (i := 0) X (by decide +kernel) 4 rfl ?_
  refine l_iload (pc := 764) (i := 4) X (by decide +kernel) 0 rfl ?_
  refine l_iconst (pc := 766) (n0 := 1) X (by decide +kernel) ic_1 ?_
  refine l_iadd (pc := 767) X (by decide +kernel) ?_
  refine l_sld (pc := 768) X i1 e1 (by decide +kernel) ?_
  refine l_aload_n (pc := 769) (i := 0) X (by decide +kernel) 4 rfl ?_
  refine l_iload (pc := 770) (i := 4) X (by decide +kernel) 0 rfl ?_
  refine l_iconst (pc := 772) (n0 := 2) X (by decide +kernel) ic_2 ?_
  refine l_iadd (pc := 773) X (by decide +kernel) ?_
  refine l_sld (pc := 774) X i2 e2 (by decide +kernel) ?_
  refine l_aload_n (pc := 775) (i := 0) X (by decide +kernel) 4 rfl ?_
  refine l_iload (pc := 776) (i := 4) X (by decide +kernel) 0 rfl ?_
  refine l_iconst (pc := 778) (n0 := 3) X (by decide +kernel) ic_3 ?_
  refine l_iadd (pc := 779) X (by decide +kernel) ?_
  refine l_sld (pc := 780) X i3 e3 (by decide +kernel) ?_
  refine l_callC (pc := 781) (As := [.int a1, .int a2, .int a3]) (rest := []) X (mt_Tt_sendIn okC_93_101 (inj_rz _ _) (show kd TC 0 = 0 from rfl) er) ll_88 lv__Tt_sendIn rfl ⟨Nat.le_of_ble_eq_true rfl, Nat.le_of_ble_eq_true rfl⟩ ⟨by omega, by omega⟩ rfl rfl (Nat.le_of_ble_eq_true rfl) (by decide +kernel) ?_
  change VL E g z k w 784 [(4, .int x4), (3, .ref (z + 139)), (2, .ref (rz (z + 93) 0)), (1, .ref (rz z 0)), (0, .ref b)] [.int r.1] (r.2) hR fo
  refine l_aload_n (pc := 784) (i := 2) X (by decide +kernel) 2 rfl ?_
  refine l_aload_n (pc := 785) (i := 0) X (by decide +kernel) 4 rfl ?_
  refine l_iload (pc := 786) (i := 4) X (by decide +kernel) 0 rfl ?_
  refine l_iconst (pc := 788) (n0 := 1) X (by decide +kernel) ic_1 ?_
  refine l_iadd (pc := 789) X (by decide +kernel) ?_
  refine l_sld (pc := 790) X i1 e1 (by decide +kernel) ?_
  refine l_aload_n (pc := 791) (i := 0) X (by decide +kernel) 4 rfl ?_
  refine l_iload (pc := 792) (i := 4) X (by decide +kernel) 0 rfl ?_
  refine l_iconst (pc := 794) (n0 := 2) X (by decide +kernel) ic_2 ?_
  refine l_iadd (pc := 795) X (by decide +kernel) ?_
  refine l_sld (pc := 796) X i2 e2 (by decide +kernel) ?_
  refine l_aload_n (pc := 797) (i := 0) X (by decide +kernel) 4 rfl ?_
  refine l_iload (pc := 798) (i := 4) X (by decide +kernel) 0 rfl ?_
  refine l_iconst (pc := 800) (n0 := 3) X (by decide +kernel) ic_3 ?_
  refine l_iadd (pc := 801) X (by decide +kernel) ?_
  refine l_sld (pc := 802) X i3 e3 (by decide +kernel) ?_
  refine l_callR (pc := 803) (As := [.int a1, .int a2, .int a3]) (rest := [.int r.1]) X (mt_Md_sendIn okR_46_45 (inj_rz _ _) (show kd TR 0 = 12 from rfl) er2) ll_91 lv__Md_sendIn rfl ⟨Nat.le_of_ble_eq_true rfl, Nat.le_of_ble_eq_true rfl⟩ ⟨by omega, by omega⟩ rfl rfl (Nat.le_of_ble_eq_true rfl) (by decide +kernel) ?_
  change VL E g z k w 806 [(4, .int x4), (3, .ref (z + 139)), (2, .ref (rz (z + 93) 0)), (1, .ref (rz z 0)), (0, .ref b)] [.int r'.1, .int r.1] (r.2) (r'.2) fo
  refine l_icmp_eq (pc := 806) (off := 805) (tgt := 1611) X (by decide +kernel) (by decide) (fun _ => ?_) (fun q => absurd ev q)
  exact l_widen (by omega) (by omega) (kk _ _ _ hrel)
set_option maxRecDepth 8000 in
set_option maxHeartbeats 2000000 in
theorem lc_pump (X : CLw E g z b L xs) (hw : k + 2 ≤ 1166 ∧ w + 16 ≤ 12582) (hsp : SP_pump Rel) (hr0 : Rel hC hR) {a1 : Int32} (i1 : vp_in (x4 + (1 : Int32)) L) (e1 : a1 = xs (x4 + (1 : Int32)).toNatClampNeg)
    (kk : ∀ (hC2 hR2 : Hp) (fo2 : Nat → Int64), Rel hC2 hR2 → VL E g z (k + 2) (w + 16) 1611 (LL z b x4) [] hC2 hR2 fo2) : VL E g z k w 811 (LL z b x4) [] hC hR fo := by
  change VL E g z k w 811 [(4, .int x4), (3, .ref (z + 139)), (2, .ref (rz (z + 93) 0)), (1, .ref (rz z 0)), (0, .ref b)] [] hC hR fo
  obtain ⟨r, r', er, er2, ev, hrel⟩ := hsp hC hR a1 hr0
  refine l_aload_n (pc := 811) (i := 1) X (by decide +kernel) 3 rfl ?_
  refine l_aload_n (pc := 812) (i := 0) X (by decide +kernel) 4 rfl ?_
  refine l_iload (pc := 813) (i := 4) X (by decide +kernel) 0 rfl ?_
  refine l_iconst (pc := 815) (n0 := 1) X (by decide +kernel) ic_1 ?_
  refine l_iadd (pc := 816) X (by decide +kernel) ?_
  refine l_sld (pc := 817) X i1 e1 (by decide +kernel) ?_
  refine l_callC (pc := 818) (As := [.int a1]) (rest := []) X (mt_Tt_pump okC_93_101 (inj_rz _ _) (show kd TC 0 = 0 from rfl) er) ll_92 lv__Tt_pump rfl ⟨Nat.le_of_ble_eq_true rfl, Nat.le_of_ble_eq_true rfl⟩ ⟨by omega, by omega⟩ rfl rfl (Nat.le_of_ble_eq_true rfl) (by decide +kernel) ?_
  change VL E g z k w 821 [(4, .int x4), (3, .ref (z + 139)), (2, .ref (rz (z + 93) 0)), (1, .ref (rz z 0)), (0, .ref b)] [.int r.1] (r.2) hR fo
  refine l_aload_n (pc := 821) (i := 2) X (by decide +kernel) 2 rfl ?_
  refine l_aload_n (pc := 822) (i := 0) X (by decide +kernel) 4 rfl ?_
  refine l_iload (pc := 823) (i := 4) X (by decide +kernel) 0 rfl ?_
  refine l_iconst (pc := 825) (n0 := 1) X (by decide +kernel) ic_1 ?_
  refine l_iadd (pc := 826) X (by decide +kernel) ?_
  refine l_sld (pc := 827) X i1 e1 (by decide +kernel) ?_
  refine l_callR (pc := 828) (As := [.int a1]) (rest := [.int r.1]) X (mt_Md_pump okR_46_45 (inj_rz _ _) (show kd TR 0 = 12 from rfl) er2) ll_95 lv__Md_pump rfl ⟨Nat.le_of_ble_eq_true rfl, Nat.le_of_ble_eq_true rfl⟩ ⟨by omega, by omega⟩ rfl rfl (Nat.le_of_ble_eq_true rfl) (by decide +kernel) ?_
  change VL E g z k w 831 [(4, .int x4), (3, .ref (z + 139)), (2, .ref (rz (z + 93) 0)), (1, .ref (rz z 0)), (0, .ref b)] [.int r'.1, .int r.1] (r.2) (r'.2) fo
  refine l_icmp_eq (pc := 831) (off := 780) (tgt := 1611) X (by decide +kernel) (by decide) (fun _ => ?_) (fun q => absurd ev q)
  exact l_widen (by omega) (by omega) (kk _ _ _ hrel)
set_option maxRecDepth 8000 in
set_option maxHeartbeats 2000000 in
theorem lc_stops (X : CLw E g z b L xs) (hw : k + 2 ≤ 1166 ∧ w + 16 ≤ 12582) (hsp : SP_stops Rel) (hr0 : Rel hC hR) {a1 : Int32} (i1 : vp_in (x4 + (1 : Int32)) L) (e1 : a1 = xs (x4 + (1 : Int32)).toNatClampNeg) {a2 : Int32} (i2 : vp_in (x4 + (2 : Int32)) L) (e2 : a2 = xs (x4 + (2 : Int32)).toNatClampNeg)
    (kk : ∀ (hC2 hR2 : Hp) (fo2 : Nat → Int64), Rel hC2 hR2 → VL E g z (k + 2) (w + 16) 1611 (LL z b x4) [] hC2 hR2 fo2) : VL E g z k w 836 (LL z b x4) [] hC hR fo := by
  change VL E g z k w 836 [(4, .int x4), (3, .ref (z + 139)), (2, .ref (rz (z + 93) 0)), (1, .ref (rz z 0)), (0, .ref b)] [] hC hR fo
  obtain ⟨r, r', er, er2, ev, hrel⟩ := hsp hC hR a1 a2 hr0
  refine l_aload_n (pc := 836) (i := 1) X (by decide +kernel) 3 rfl ?_
  refine l_aload_n (pc := 837) (i := 0) X (by decide +kernel) 4 rfl ?_
  refine l_iload (pc := 838) (i := 4) X (by decide +kernel) 0 rfl ?_
  refine l_iconst (pc := 840) (n0 := 1) X (by decide +kernel) ic_1 ?_
  refine l_iadd (pc := 841) X (by decide +kernel) ?_
  refine l_sld (pc := 842) X i1 e1 (by decide +kernel) ?_
  refine l_aload_n (pc := 843) (i := 0) X (by decide +kernel) 4 rfl ?_
  refine l_iload (pc := 844) (i := 4) X (by decide +kernel) 0 rfl ?_
  refine l_iconst (pc := 846) (n0 := 2) X (by decide +kernel) ic_2 ?_
  refine l_iadd (pc := 847) X (by decide +kernel) ?_
  refine l_sld (pc := 848) X i2 e2 (by decide +kernel) ?_
  refine l_callC (pc := 849) (As := [.int a1, .int a2]) (rest := []) X (mt_Tt_stops okC_93_101 (inj_rz _ _) (show kd TC 0 = 0 from rfl) er) ll_96 lv__Tt_stops rfl ⟨Nat.le_of_ble_eq_true rfl, Nat.le_of_ble_eq_true rfl⟩ ⟨by omega, by omega⟩ rfl rfl (Nat.le_of_ble_eq_true rfl) (by decide +kernel) ?_
  change VL E g z k w 852 [(4, .int x4), (3, .ref (z + 139)), (2, .ref (rz (z + 93) 0)), (1, .ref (rz z 0)), (0, .ref b)] [.int r.1] (r.2) hR fo
  refine l_aload_n (pc := 852) (i := 2) X (by decide +kernel) 2 rfl ?_
  refine l_aload_n (pc := 853) (i := 0) X (by decide +kernel) 4 rfl ?_
  refine l_iload (pc := 854) (i := 4) X (by decide +kernel) 0 rfl ?_
  refine l_iconst (pc := 856) (n0 := 1) X (by decide +kernel) ic_1 ?_
  refine l_iadd (pc := 857) X (by decide +kernel) ?_
  refine l_sld (pc := 858) X i1 e1 (by decide +kernel) ?_
  refine l_aload_n (pc := 859) (i := 0) X (by decide +kernel) 4 rfl ?_
  refine l_iload (pc := 860) (i := 4) X (by decide +kernel) 0 rfl ?_
  refine l_iconst (pc := 862) (n0 := 2) X (by decide +kernel) ic_2 ?_
  refine l_iadd (pc := 863) X (by decide +kernel) ?_
  refine l_sld (pc := 864) X i2 e2 (by decide +kernel) ?_
  refine l_callR (pc := 865) (As := [.int a1, .int a2]) (rest := [.int r.1]) X (mt_Md_stops okR_46_45 (inj_rz _ _) (show kd TR 0 = 12 from rfl) er2) ll_99 lv__Md_stops rfl ⟨Nat.le_of_ble_eq_true rfl, Nat.le_of_ble_eq_true rfl⟩ ⟨by omega, by omega⟩ rfl rfl (Nat.le_of_ble_eq_true rfl) (by decide +kernel) ?_
  change VL E g z k w 868 [(4, .int x4), (3, .ref (z + 139)), (2, .ref (rz (z + 93) 0)), (1, .ref (rz z 0)), (0, .ref b)] [.int r'.1, .int r.1] (r.2) (r'.2) fo
  refine l_icmp_eq (pc := 868) (off := 743) (tgt := 1611) X (by decide +kernel) (by decide) (fun _ => ?_) (fun q => absurd ev q)
  exact l_widen (by omega) (by omega) (kk _ _ _ hrel)
set_option maxRecDepth 8000 in
set_option maxHeartbeats 2000000 in
theorem lc_reach (X : CLw E g z b L xs) (hw : k + 2 ≤ 1166 ∧ w + 16 ≤ 12582) (hsp : SP_reach Rel) (hr0 : Rel hC hR) {a1 : Int32} (i1 : vp_in (x4 + (1 : Int32)) L) (e1 : a1 = xs (x4 + (1 : Int32)).toNatClampNeg)
    (kk : ∀ (hC2 hR2 : Hp) (fo2 : Nat → Int64), Rel hC2 hR2 → VL E g z (k + 2) (w + 16) 1611 (LL z b x4) [] hC2 hR2 fo2) : VL E g z k w 873 (LL z b x4) [] hC hR fo := by
  change VL E g z k w 873 [(4, .int x4), (3, .ref (z + 139)), (2, .ref (rz (z + 93) 0)), (1, .ref (rz z 0)), (0, .ref b)] [] hC hR fo
  obtain ⟨r, r', er, er2, ev, hrel⟩ := hsp hC hR a1 hr0
  refine l_aload_n (pc := 873) (i := 1) X (by decide +kernel) 3 rfl ?_
  refine l_aload_n (pc := 874) (i := 0) X (by decide +kernel) 4 rfl ?_
  refine l_iload (pc := 875) (i := 4) X (by decide +kernel) 0 rfl ?_
  refine l_iconst (pc := 877) (n0 := 1) X (by decide +kernel) ic_1 ?_
  refine l_iadd (pc := 878) X (by decide +kernel) ?_
  refine l_sld (pc := 879) X i1 e1 (by decide +kernel) ?_
  refine l_callC (pc := 880) (As := [.int a1]) (rest := []) X (mt_Tt_reach okC_93_101 (inj_rz _ _) (show kd TC 0 = 0 from rfl) er) ll_100 lv__Tt_reach rfl ⟨Nat.le_of_ble_eq_true rfl, Nat.le_of_ble_eq_true rfl⟩ ⟨by omega, by omega⟩ rfl rfl (Nat.le_of_ble_eq_true rfl) (by decide +kernel) ?_
  change VL E g z k w 883 [(4, .int x4), (3, .ref (z + 139)), (2, .ref (rz (z + 93) 0)), (1, .ref (rz z 0)), (0, .ref b)] [.int r] hC hR fo
  refine l_aload_n (pc := 883) (i := 2) X (by decide +kernel) 2 rfl ?_
  refine l_aload_n (pc := 884) (i := 0) X (by decide +kernel) 4 rfl ?_
  refine l_iload (pc := 885) (i := 4) X (by decide +kernel) 0 rfl ?_
  refine l_iconst (pc := 887) (n0 := 1) X (by decide +kernel) ic_1 ?_
  refine l_iadd (pc := 888) X (by decide +kernel) ?_
  refine l_sld (pc := 889) X i1 e1 (by decide +kernel) ?_
  refine l_callR (pc := 890) (As := [.int a1]) (rest := [.int r]) X (mt_Md_reach okR_46_45 (inj_rz _ _) (show kd TR 0 = 12 from rfl) er2) ll_103 lv__Md_reach rfl ⟨Nat.le_of_ble_eq_true rfl, Nat.le_of_ble_eq_true rfl⟩ ⟨by omega, by omega⟩ rfl rfl (Nat.le_of_ble_eq_true rfl) (by decide +kernel) ?_
  change VL E g z k w 893 [(4, .int x4), (3, .ref (z + 139)), (2, .ref (rz (z + 93) 0)), (1, .ref (rz z 0)), (0, .ref b)] [.int r'.1, .int r] hC (r'.2) fo
  refine l_icmp_eq (pc := 893) (off := 718) (tgt := 1611) X (by decide +kernel) (by decide) (fun _ => ?_) (fun q => absurd ev q)
  exact l_widen (by omega) (by omega) (kk _ _ _ hrel)
set_option maxRecDepth 8000 in
set_option maxHeartbeats 2000000 in
theorem lc_cover (X : CLw E g z b L xs) (hw : k + 2 ≤ 1166 ∧ w + 16 ≤ 12582) (hsp : SP_cover Rel) (hr0 : Rel hC hR) {a1 : Int32} (i1 : vp_in (x4 + (1 : Int32)) L) (e1 : a1 = xs (x4 + (1 : Int32)).toNatClampNeg)
    (kk : ∀ (hC2 hR2 : Hp) (fo2 : Nat → Int64), Rel hC2 hR2 → VL E g z (k + 2) (w + 16) 1611 (LL z b x4) [] hC2 hR2 fo2) : VL E g z k w 898 (LL z b x4) [] hC hR fo := by
  change VL E g z k w 898 [(4, .int x4), (3, .ref (z + 139)), (2, .ref (rz (z + 93) 0)), (1, .ref (rz z 0)), (0, .ref b)] [] hC hR fo
  obtain ⟨r, r', er, er2, ev, hrel⟩ := hsp hC hR a1 hr0
  refine l_aload_n (pc := 898) (i := 1) X (by decide +kernel) 3 rfl ?_
  refine l_aload_n (pc := 899) (i := 0) X (by decide +kernel) 4 rfl ?_
  refine l_iload (pc := 900) (i := 4) X (by decide +kernel) 0 rfl ?_
  refine l_iconst (pc := 902) (n0 := 1) X (by decide +kernel) ic_1 ?_
  refine l_iadd (pc := 903) X (by decide +kernel) ?_
  refine l_sld (pc := 904) X i1 e1 (by decide +kernel) ?_
  refine l_callC (pc := 905) (As := [.int a1]) (rest := []) X (mt_Tt_cover okC_93_101 (inj_rz _ _) (show kd TC 0 = 0 from rfl) er) ll_104 lv__Tt_cover rfl ⟨Nat.le_of_ble_eq_true rfl, Nat.le_of_ble_eq_true rfl⟩ ⟨by omega, by omega⟩ rfl rfl (Nat.le_of_ble_eq_true rfl) (by decide +kernel) ?_
  change VL E g z k w 908 [(4, .int x4), (3, .ref (z + 139)), (2, .ref (rz (z + 93) 0)), (1, .ref (rz z 0)), (0, .ref b)] [.int r] hC hR fo
  refine l_aload_n (pc := 908) (i := 2) X (by decide +kernel) 2 rfl ?_
  refine l_aload_n (pc := 909) (i := 0) X (by decide +kernel) 4 rfl ?_
  refine l_iload (pc := 910) (i := 4) X (by decide +kernel) 0 rfl ?_
  refine l_iconst (pc := 912) (n0 := 1) X (by decide +kernel) ic_1 ?_
  refine l_iadd (pc := 913) X (by decide +kernel) ?_
  refine l_sld (pc := 914) X i1 e1 (by decide +kernel) ?_
  refine l_callR (pc := 915) (As := [.int a1]) (rest := [.int r]) X (mt_Md_cover okR_46_45 (inj_rz _ _) (show kd TR 0 = 12 from rfl) er2) ll_107 lv__Md_cover rfl ⟨Nat.le_of_ble_eq_true rfl, Nat.le_of_ble_eq_true rfl⟩ ⟨by omega, by omega⟩ rfl rfl (Nat.le_of_ble_eq_true rfl) (by decide +kernel) ?_
  change VL E g z k w 918 [(4, .int x4), (3, .ref (z + 139)), (2, .ref (rz (z + 93) 0)), (1, .ref (rz z 0)), (0, .ref b)] [.int r'.1, .int r] hC (r'.2) fo
  refine l_icmp_eq (pc := 918) (off := 693) (tgt := 1611) X (by decide +kernel) (by decide) (fun _ => ?_) (fun q => absurd ev q)
  exact l_widen (by omega) (by omega) (kk _ _ _ hrel)
set_option maxRecDepth 8000 in
set_option maxHeartbeats 2000000 in
theorem lc_round (X : CLw E g z b L xs) (hw : k + 2 ≤ 1166 ∧ w + 16 ≤ 12582) (hsp : SP_round Rel) (hr0 : Rel hC hR) {a1 : Int32} (i1 : vp_in (x4 + (1 : Int32)) L) (e1 : a1 = xs (x4 + (1 : Int32)).toNatClampNeg)
    (kk : ∀ (hC2 hR2 : Hp) (fo2 : Nat → Int64), Rel hC2 hR2 → VL E g z (k + 2) (w + 16) 1611 (LL z b x4) [] hC2 hR2 fo2) : VL E g z k w 923 (LL z b x4) [] hC hR fo := by
  change VL E g z k w 923 [(4, .int x4), (3, .ref (z + 139)), (2, .ref (rz (z + 93) 0)), (1, .ref (rz z 0)), (0, .ref b)] [] hC hR fo
  obtain ⟨r, r', er, er2, ev, hrel⟩ := hsp hC hR a1 hr0
  refine l_aload_n (pc := 923) (i := 1) X (by decide +kernel) 3 rfl ?_
  refine l_aload_n (pc := 924) (i := 0) X (by decide +kernel) 4 rfl ?_
  refine l_iload (pc := 925) (i := 4) X (by decide +kernel) 0 rfl ?_
  refine l_iconst (pc := 927) (n0 := 1) X (by decide +kernel) ic_1 ?_
  refine l_iadd (pc := 928) X (by decide +kernel) ?_
  refine l_sld (pc := 929) X i1 e1 (by decide +kernel) ?_
  refine l_callC (pc := 930) (As := [.int a1]) (rest := []) X (mt_Tt_round okC_93_101 (inj_rz _ _) (show kd TC 0 = 0 from rfl) er) ll_108 lv__Tt_round rfl ⟨Nat.le_of_ble_eq_true rfl, Nat.le_of_ble_eq_true rfl⟩ ⟨by omega, by omega⟩ rfl rfl (Nat.le_of_ble_eq_true rfl) (by decide +kernel) ?_
  change VL E g z k w 933 [(4, .int x4), (3, .ref (z + 139)), (2, .ref (rz (z + 93) 0)), (1, .ref (rz z 0)), (0, .ref b)] [.int r] hC hR fo
  refine l_aload_n (pc := 933) (i := 2) X (by decide +kernel) 2 rfl ?_
  refine l_aload_n (pc := 934) (i := 0) X (by decide +kernel) 4 rfl ?_
  refine l_iload (pc := 935) (i := 4) X (by decide +kernel) 0 rfl ?_
  refine l_iconst (pc := 937) (n0 := 1) X (by decide +kernel) ic_1 ?_
  refine l_iadd (pc := 938) X (by decide +kernel) ?_
  refine l_sld (pc := 939) X i1 e1 (by decide +kernel) ?_
  refine l_callR (pc := 940) (As := [.int a1]) (rest := [.int r]) X (mt_Md_round okR_46_45 (inj_rz _ _) (show kd TR 0 = 12 from rfl) er2) ll_111 lv__Md_round rfl ⟨Nat.le_of_ble_eq_true rfl, Nat.le_of_ble_eq_true rfl⟩ ⟨by omega, by omega⟩ rfl rfl (Nat.le_of_ble_eq_true rfl) (by decide +kernel) ?_
  change VL E g z k w 943 [(4, .int x4), (3, .ref (z + 139)), (2, .ref (rz (z + 93) 0)), (1, .ref (rz z 0)), (0, .ref b)] [.int r'.1, .int r] hC (r'.2) fo
  refine l_icmp_eq (pc := 943) (off := 668) (tgt := 1611) X (by decide +kernel) (by decide) (fun _ => ?_) (fun q => absurd ev q)
  exact l_widen (by omega) (by omega) (kk _ _ _ hrel)
set_option maxRecDepth 8000 in
set_option maxHeartbeats 2000000 in
theorem lc_rests (X : CLw E g z b L xs) (hw : k + 2 ≤ 1166 ∧ w + 16 ≤ 12582) (hsp : SP_rests Rel) (hr0 : Rel hC hR) {a1 : Int32} (i1 : vp_in (x4 + (1 : Int32)) L) (e1 : a1 = xs (x4 + (1 : Int32)).toNatClampNeg) {a2 : Int32} (i2 : vp_in (x4 + (2 : Int32)) L) (e2 : a2 = xs (x4 + (2 : Int32)).toNatClampNeg)
    (kk : ∀ (hC2 hR2 : Hp) (fo2 : Nat → Int64), Rel hC2 hR2 → VL E g z (k + 2) (w + 16) 1611 (LL z b x4) [] hC2 hR2 fo2) : VL E g z k w 948 (LL z b x4) [] hC hR fo := by
  change VL E g z k w 948 [(4, .int x4), (3, .ref (z + 139)), (2, .ref (rz (z + 93) 0)), (1, .ref (rz z 0)), (0, .ref b)] [] hC hR fo
  obtain ⟨r, r', er, er2, ev, hrel⟩ := hsp hC hR a1 a2 hr0
  refine l_aload_n (pc := 948) (i := 1) X (by decide +kernel) 3 rfl ?_
  refine l_aload_n (pc := 949) (i := 0) X (by decide +kernel) 4 rfl ?_
  refine l_iload (pc := 950) (i := 4) X (by decide +kernel) 0 rfl ?_
  refine l_iconst (pc := 952) (n0 := 1) X (by decide +kernel) ic_1 ?_
  refine l_iadd (pc := 953) X (by decide +kernel) ?_
  refine l_sld (pc := 954) X i1 e1 (by decide +kernel) ?_
  refine l_aload_n (pc := 955) (i := 0) X (by decide +kernel) 4 rfl ?_
  refine l_iload (pc := 956) (i := 4) X (by decide +kernel) 0 rfl ?_
  refine l_iconst (pc := 958) (n0 := 2) X (by decide +kernel) ic_2 ?_
  refine l_iadd (pc := 959) X (by decide +kernel) ?_
  refine l_sld (pc := 960) X i2 e2 (by decide +kernel) ?_
  refine l_callC (pc := 961) (As := [.int a1, .int a2]) (rest := []) X (mt_Tt_rests okC_93_101 (inj_rz _ _) (show kd TC 0 = 0 from rfl) er) ll_112 lv__Tt_rests rfl ⟨Nat.le_of_ble_eq_true rfl, Nat.le_of_ble_eq_true rfl⟩ ⟨by omega, by omega⟩ rfl rfl (Nat.le_of_ble_eq_true rfl) (by decide +kernel) ?_
  change VL E g z k w 964 [(4, .int x4), (3, .ref (z + 139)), (2, .ref (rz (z + 93) 0)), (1, .ref (rz z 0)), (0, .ref b)] [.int r] hC hR fo
  refine l_aload_n (pc := 964) (i := 2) X (by decide +kernel) 2 rfl ?_
  refine l_aload_n (pc := 965) (i := 0) X (by decide +kernel) 4 rfl ?_
  refine l_iload (pc := 966) (i := 4) X (by decide +kernel) 0 rfl ?_
  refine l_iconst (pc := 968) (n0 := 1) X (by decide +kernel) ic_1 ?_
  refine l_iadd (pc := 969) X (by decide +kernel) ?_
  refine l_sld (pc := 970) X i1 e1 (by decide +kernel) ?_
  refine l_aload_n (pc := 971) (i := 0) X (by decide +kernel) 4 rfl ?_
  refine l_iload (pc := 972) (i := 4) X (by decide +kernel) 0 rfl ?_
  refine l_iconst (pc := 974) (n0 := 2) X (by decide +kernel) ic_2 ?_
  refine l_iadd (pc := 975) X (by decide +kernel) ?_
  refine l_sld (pc := 976) X i2 e2 (by decide +kernel) ?_
  refine l_callR (pc := 977) (As := [.int a1, .int a2]) (rest := [.int r]) X (mt_Md_rests okR_46_45 (inj_rz _ _) (show kd TR 0 = 12 from rfl) er2) ll_115 lv__Md_rests rfl ⟨Nat.le_of_ble_eq_true rfl, Nat.le_of_ble_eq_true rfl⟩ ⟨by omega, by omega⟩ rfl rfl (Nat.le_of_ble_eq_true rfl) (by decide +kernel) ?_
  change VL E g z k w 980 [(4, .int x4), (3, .ref (z + 139)), (2, .ref (rz (z + 93) 0)), (1, .ref (rz z 0)), (0, .ref b)] [.int r'.1, .int r] hC (r'.2) fo
  refine l_icmp_eq (pc := 980) (off := 631) (tgt := 1611) X (by decide +kernel) (by decide) (fun _ => ?_) (fun q => absurd ev q)
  exact l_widen (by omega) (by omega) (kk _ _ _ hrel)
set_option maxRecDepth 8000 in
set_option maxHeartbeats 2000000 in
theorem lc_rest (X : CLw E g z b L xs) (hw : k + 2 ≤ 1166 ∧ w + 16 ≤ 12582) (hsp : SP_rest Rel) (hr0 : Rel hC hR) {a1 : Int32} (i1 : vp_in (x4 + (1 : Int32)) L) (e1 : a1 = xs (x4 + (1 : Int32)).toNatClampNeg) {a2 : Int32} (i2 : vp_in (x4 + (2 : Int32)) L) (e2 : a2 = xs (x4 + (2 : Int32)).toNatClampNeg) {a3 : Int32} (i3 : vp_in (x4 + (3 : Int32)) L) (e3 : a3 = xs (x4 + (3 : Int32)).toNatClampNeg)
    (kk : ∀ (hC2 hR2 : Hp) (fo2 : Nat → Int64), Rel hC2 hR2 → VL E g z (k + 2) (w + 16) 1611 (LL z b x4) [] hC2 hR2 fo2) : VL E g z k w 985 (LL z b x4) [] hC hR fo := by
  change VL E g z k w 985 [(4, .int x4), (3, .ref (z + 139)), (2, .ref (rz (z + 93) 0)), (1, .ref (rz z 0)), (0, .ref b)] [] hC hR fo
  obtain ⟨r, r', er, er2, ev, hrel⟩ := hsp hC hR a1 a2 a3 hr0
  refine l_aload_n (pc := 985) (i := 1) X (by decide +kernel) 3 rfl ?_
  refine l_aload_n (pc := 986) (i := 0) X (by decide +kernel) 4 rfl ?_
  refine l_iload (pc := 987) (i := 4) X (by decide +kernel) 0 rfl ?_
  refine l_iconst (pc := 989) (n0 := 1) X (by decide +kernel) ic_1 ?_
  refine l_iadd (pc := 990) X (by decide +kernel) ?_
  refine l_sld (pc := 991) X i1 e1 (by decide +kernel) ?_
  refine l_aload_n (pc := 992) (i := 0) X (by decide +kernel) 4 rfl ?_
  refine l_iload (pc := 993) (i := 4) X (by decide +kernel) 0 rfl ?_
  refine l_iconst (pc := 995) (n0 := 2) X (by decide +kernel) ic_2 ?_
  refine l_iadd (pc := 996) X (by decide +kernel) ?_
  refine l_sld (pc := 997) X i2 e2 (by decide +kernel) ?_
  refine l_aload_n (pc := 998) (i := 0) X (by decide +kernel) 4 rfl ?_
  refine l_iload (pc := 999) (i := 4) X (by decide +kernel) 0 rfl ?_
  refine l_iconst (pc := 1001) (n0 := 3) X (by decide +kernel) ic_3 ?_
  refine l_iadd (pc := 1002) X (by decide +kernel) ?_
  refine l_sld (pc := 1003) X i3 e3 (by decide +kernel) ?_
  refine l_callC (pc := 1004) (As := [.int a1, .int a2, .int a3]) (rest := []) X (mt_Tt_rest okC_93_101 (inj_rz _ _) (show kd TC 0 = 0 from rfl) er) ll_116 lv__Tt_rest rfl ⟨Nat.le_of_ble_eq_true rfl, Nat.le_of_ble_eq_true rfl⟩ ⟨by omega, by omega⟩ rfl rfl (Nat.le_of_ble_eq_true rfl) (by decide +kernel) ?_
  change VL E g z k w 1007 [(4, .int x4), (3, .ref (z + 139)), (2, .ref (rz (z + 93) 0)), (1, .ref (rz z 0)), (0, .ref b)] [.int r] hC hR fo
  refine l_aload_n (pc := 1007) (i := 2) X (by decide +kernel) 2 rfl ?_
  refine l_aload_n (pc := 1008) (i := 0) X (by decide +kernel) 4 rfl ?_
  refine l_iload (pc := 1009) (i := 4) X (by decide +kernel) 0 rfl ?_
  refine l_iconst (pc := 1011) (n0 := 1) X (by decide +kernel) ic_1 ?_
  refine l_iadd (pc := 1012) X (by decide +kernel) ?_
  refine l_sld (pc := 1013) X i1 e1 (by decide +kernel) ?_
  refine l_aload_n (pc := 1014) (i := 0) X (by decide +kernel) 4 rfl ?_
  refine l_iload (pc := 1015) (i := 4) X (by decide +kernel) 0 rfl ?_
  refine l_iconst (pc := 1017) (n0 := 2) X (by decide +kernel) ic_2 ?_
  refine l_iadd (pc := 1018) X (by decide +kernel) ?_
  refine l_sld (pc := 1019) X i2 e2 (by decide +kernel) ?_
  refine l_aload_n (pc := 1020) (i := 0) X (by decide +kernel) 4 rfl ?_
  refine l_iload (pc := 1021) (i := 4) X (by decide +kernel) 0 rfl ?_
  refine l_iconst (pc := 1023) (n0 := 3) X (by decide +kernel) ic_3 ?_
  refine l_iadd (pc := 1024) X (by decide +kernel) ?_
  refine l_sld (pc := 1025) X i3 e3 (by decide +kernel) ?_
  refine l_callR (pc := 1026) (As := [.int a1, .int a2, .int a3]) (rest := [.int r]) X (mt_Md_rest okR_46_45 (inj_rz _ _) (show kd TR 0 = 12 from rfl) er2) ll_119 lv__Md_rest rfl ⟨Nat.le_of_ble_eq_true rfl, Nat.le_of_ble_eq_true rfl⟩ ⟨by omega, by omega⟩ rfl rfl (Nat.le_of_ble_eq_true rfl) (by decide +kernel) ?_
  change VL E g z k w 1029 [(4, .int x4), (3, .ref (z + 139)), (2, .ref (rz (z + 93) 0)), (1, .ref (rz z 0)), (0, .ref b)] [.int r'.1, .int r] hC (r'.2) fo
  refine l_icmp_eq (pc := 1029) (off := 582) (tgt := 1611) X (by decide +kernel) (by decide) (fun _ => ?_) (fun q => absurd ev q)
  exact l_widen (by omega) (by omega) (kk _ _ _ hrel)
set_option maxRecDepth 8000 in
set_option maxHeartbeats 2000000 in
theorem lc_staysDry (X : CLw E g z b L xs) (hw : k + 2 ≤ 1166 ∧ w + 16 ≤ 12582) (hsp : SP_staysDry Rel) (hr0 : Rel hC hR) {a1 : Int32} (i1 : vp_in (x4 + (1 : Int32)) L) (e1 : a1 = xs (x4 + (1 : Int32)).toNatClampNeg) {a2 : Int32} (i2 : vp_in (x4 + (2 : Int32)) L) (e2 : a2 = xs (x4 + (2 : Int32)).toNatClampNeg)
    (kk : ∀ (hC2 hR2 : Hp) (fo2 : Nat → Int64), Rel hC2 hR2 → VL E g z (k + 2) (w + 16) 1611 (LL z b x4) [] hC2 hR2 fo2) : VL E g z k w 1034 (LL z b x4) [] hC hR fo := by
  change VL E g z k w 1034 [(4, .int x4), (3, .ref (z + 139)), (2, .ref (rz (z + 93) 0)), (1, .ref (rz z 0)), (0, .ref b)] [] hC hR fo
  obtain ⟨r, r', er, er2, ev, hrel⟩ := hsp hC hR a1 a2 hr0
  refine l_aload_n (pc := 1034) (i := 1) X (by decide +kernel) 3 rfl ?_
  refine l_aload_n (pc := 1035) (i := 0) X (by decide +kernel) 4 rfl ?_
  refine l_iload (pc := 1036) (i := 4) X (by decide +kernel) 0 rfl ?_
  refine l_iconst (pc := 1038) (n0 := 1) X (by decide +kernel) ic_1 ?_
  refine l_iadd (pc := 1039) X (by decide +kernel) ?_
  refine l_sld (pc := 1040) X i1 e1 (by decide +kernel) ?_
  refine l_aload_n (pc := 1041) (i := 0) X (by decide +kernel) 4 rfl ?_
  refine l_iload (pc := 1042) (i := 4) X (by decide +kernel) 0 rfl ?_
  refine l_iconst (pc := 1044) (n0 := 2) X (by decide +kernel) ic_2 ?_
  refine l_iadd (pc := 1045) X (by decide +kernel) ?_
  refine l_sld (pc := 1046) X i2 e2 (by decide +kernel) ?_
  refine l_callC (pc := 1047) (As := [.int a1, .int a2]) (rest := []) X (mt_Tt_staysDry okC_93_101 (inj_rz _ _) (show kd TC 0 = 0 from rfl) er) ll_120 lv__Tt_staysDry rfl ⟨Nat.le_of_ble_eq_true rfl, Nat.le_of_ble_eq_true rfl⟩ ⟨by omega, by omega⟩ rfl rfl (Nat.le_of_ble_eq_true rfl) (by decide +kernel) ?_
  change VL E g z k w 1050 [(4, .int x4), (3, .ref (z + 139)), (2, .ref (rz (z + 93) 0)), (1, .ref (rz z 0)), (0, .ref b)] [.long r] hC hR fo
  refine l_aload_n (pc := 1050) (i := 2) X (by decide +kernel) 2 rfl ?_
  refine l_aload_n (pc := 1051) (i := 0) X (by decide +kernel) 4 rfl ?_
  refine l_iload (pc := 1052) (i := 4) X (by decide +kernel) 0 rfl ?_
  refine l_iconst (pc := 1054) (n0 := 1) X (by decide +kernel) ic_1 ?_
  refine l_iadd (pc := 1055) X (by decide +kernel) ?_
  refine l_sld (pc := 1056) X i1 e1 (by decide +kernel) ?_
  refine l_aload_n (pc := 1057) (i := 0) X (by decide +kernel) 4 rfl ?_
  refine l_iload (pc := 1058) (i := 4) X (by decide +kernel) 0 rfl ?_
  refine l_iconst (pc := 1060) (n0 := 2) X (by decide +kernel) ic_2 ?_
  refine l_iadd (pc := 1061) X (by decide +kernel) ?_
  refine l_sld (pc := 1062) X i2 e2 (by decide +kernel) ?_
  refine l_callR (pc := 1063) (As := [.int a1, .int a2]) (rest := [.long r]) X (mt_Md_staysDry okR_46_45 (inj_rz _ _) (show kd TR 0 = 12 from rfl) er2) ll_123 lv__Md_staysDry rfl ⟨Nat.le_of_ble_eq_true rfl, Nat.le_of_ble_eq_true rfl⟩ ⟨by omega, by omega⟩ rfl rfl (Nat.le_of_ble_eq_true rfl) (by decide +kernel) ?_
  change VL E g z k w 1066 [(4, .int x4), (3, .ref (z + 139)), (2, .ref (rz (z + 93) 0)), (1, .ref (rz z 0)), (0, .ref b)] [.long r'.1, .long r] hC (r'.2) fo
  refine l_lcmp (pc := 1066) X (by decide +kernel) ?_
  refine l_if_eq (pc := 1067) (off := 544) (tgt := 1611) X (by decide +kernel) (by decide) (fun _ => ?_) (fun q => absurd (by rw [ev]; exact lcmp_rf _) q)
  exact l_widen (by omega) (by omega) (kk _ _ _ hrel)
set_option maxRecDepth 8000 in
set_option maxHeartbeats 2000000 in
theorem lc_peace (X : CLw E g z b L xs) (hw : k + 2 ≤ 1166 ∧ w + 16 ≤ 12582) (hsp : SP_peace Rel) (hr0 : Rel hC hR) {a1 : Int32} (i1 : vp_in (x4 + (1 : Int32)) L) (e1 : a1 = xs (x4 + (1 : Int32)).toNatClampNeg) {a2 : Int32} (i2 : vp_in (x4 + (2 : Int32)) L) (e2 : a2 = xs (x4 + (2 : Int32)).toNatClampNeg)
    (kk : ∀ (hC2 hR2 : Hp) (fo2 : Nat → Int64), Rel hC2 hR2 → VL E g z (k + 2) (w + 16) 1611 (LL z b x4) [] hC2 hR2 fo2) : VL E g z k w 1072 (LL z b x4) [] hC hR fo := by
  change VL E g z k w 1072 [(4, .int x4), (3, .ref (z + 139)), (2, .ref (rz (z + 93) 0)), (1, .ref (rz z 0)), (0, .ref b)] [] hC hR fo
  obtain ⟨r, r', er, er2, ev, hrel⟩ := hsp hC hR a1 a2 hr0
  refine l_aload_n (pc := 1072) (i := 1) X (by decide +kernel) 3 rfl ?_
  refine l_aload_n (pc := 1073) (i := 0) X (by decide +kernel) 4 rfl ?_
  refine l_iload (pc := 1074) (i := 4) X (by decide +kernel) 0 rfl ?_
  refine l_iconst (pc := 1076) (n0 := 1) X (by decide +kernel) ic_1 ?_
  refine l_iadd (pc := 1077) X (by decide +kernel) ?_
  refine l_sld (pc := 1078) X i1 e1 (by decide +kernel) ?_
  refine l_aload_n (pc := 1079) (i := 0) X (by decide +kernel) 4 rfl ?_
  refine l_iload (pc := 1080) (i := 4) X (by decide +kernel) 0 rfl ?_
  refine l_iconst (pc := 1082) (n0 := 2) X (by decide +kernel) ic_2 ?_
  refine l_iadd (pc := 1083) X (by decide +kernel) ?_
  refine l_sld (pc := 1084) X i2 e2 (by decide +kernel) ?_
  refine l_callC (pc := 1085) (As := [.int a1, .int a2]) (rest := []) X (mt_Tt_peace okC_93_101 (inj_rz _ _) (show kd TC 0 = 0 from rfl) er) ll_124 lv__Tt_peace rfl ⟨Nat.le_of_ble_eq_true rfl, Nat.le_of_ble_eq_true rfl⟩ ⟨by omega, by omega⟩ rfl rfl (Nat.le_of_ble_eq_true rfl) (by decide +kernel) ?_
  change VL E g z k w 1088 [(4, .int x4), (3, .ref (z + 139)), (2, .ref (rz (z + 93) 0)), (1, .ref (rz z 0)), (0, .ref b)] [.int r] hC hR fo
  refine l_aload_n (pc := 1088) (i := 2) X (by decide +kernel) 2 rfl ?_
  refine l_aload_n (pc := 1089) (i := 0) X (by decide +kernel) 4 rfl ?_
  refine l_iload (pc := 1090) (i := 4) X (by decide +kernel) 0 rfl ?_
  refine l_iconst (pc := 1092) (n0 := 1) X (by decide +kernel) ic_1 ?_
  refine l_iadd (pc := 1093) X (by decide +kernel) ?_
  refine l_sld (pc := 1094) X i1 e1 (by decide +kernel) ?_
  refine l_aload_n (pc := 1095) (i := 0) X (by decide +kernel) 4 rfl ?_
  refine l_iload (pc := 1096) (i := 4) X (by decide +kernel) 0 rfl ?_
  refine l_iconst (pc := 1098) (n0 := 2) X (by decide +kernel) ic_2 ?_
  refine l_iadd (pc := 1099) X (by decide +kernel) ?_
  refine l_sld (pc := 1100) X i2 e2 (by decide +kernel) ?_
  refine l_callR (pc := 1101) (As := [.int a1, .int a2]) (rest := [.int r]) X (mt_Md_peace okR_46_45 (inj_rz _ _) (show kd TR 0 = 12 from rfl) er2) ll_127 lv__Md_peace rfl ⟨Nat.le_of_ble_eq_true rfl, Nat.le_of_ble_eq_true rfl⟩ ⟨by omega, by omega⟩ rfl rfl (Nat.le_of_ble_eq_true rfl) (by decide +kernel) ?_
  change VL E g z k w 1104 [(4, .int x4), (3, .ref (z + 139)), (2, .ref (rz (z + 93) 0)), (1, .ref (rz z 0)), (0, .ref b)] [.int r'.1, .int r] hC (r'.2) fo
  refine l_icmp_eq (pc := 1104) (off := 507) (tgt := 1611) X (by decide +kernel) (by decide) (fun _ => ?_) (fun q => absurd ev q)
  exact l_widen (by omega) (by omega) (kk _ _ _ hrel)
set_option maxRecDepth 8000 in
set_option maxHeartbeats 2000000 in
theorem lc_thirstiest (X : CLw E g z b L xs) (hw : k + 2 ≤ 1166 ∧ w + 16 ≤ 12582) (hsp : SP_thirstiest Rel) (hr0 : Rel hC hR)
    (kk : ∀ (hC2 hR2 : Hp) (fo2 : Nat → Int64), Rel hC2 hR2 → VL E g z (k + 2) (w + 16) 1611 (LL z b x4) [] hC2 hR2 fo2) : VL E g z k w 1109 (LL z b x4) [] hC hR fo := by
  change VL E g z k w 1109 [(4, .int x4), (3, .ref (z + 139)), (2, .ref (rz (z + 93) 0)), (1, .ref (rz z 0)), (0, .ref b)] [] hC hR fo
  obtain ⟨r, r', er, er2, ev, hrel⟩ := hsp hC hR hr0
  refine l_aload_n (pc := 1109) (i := 1) X (by decide +kernel) 3 rfl ?_
  refine l_callC (pc := 1110) (As := []) (rest := []) X (mt_Tt_thirstiest okC_93_101 (inj_rz _ _) (show kd TC 0 = 0 from rfl) er) ll_128 lv__Tt_thirstiest rfl ⟨Nat.le_of_ble_eq_true rfl, Nat.le_of_ble_eq_true rfl⟩ ⟨by omega, by omega⟩ rfl rfl (Nat.le_of_ble_eq_true rfl) (by decide +kernel) ?_
  change VL E g z k w 1113 [(4, .int x4), (3, .ref (z + 139)), (2, .ref (rz (z + 93) 0)), (1, .ref (rz z 0)), (0, .ref b)] [.int r] hC hR fo
  refine l_aload_n (pc := 1113) (i := 2) X (by decide +kernel) 2 rfl ?_
  refine l_callR (pc := 1114) (As := []) (rest := [.int r]) X (mt_Md_thirstiest okR_46_45 (inj_rz _ _) (show kd TR 0 = 12 from rfl) er2) ll_131 lv__Md_thirstiest rfl ⟨Nat.le_of_ble_eq_true rfl, Nat.le_of_ble_eq_true rfl⟩ ⟨by omega, by omega⟩ rfl rfl (Nat.le_of_ble_eq_true rfl) (by decide +kernel) ?_
  change VL E g z k w 1117 [(4, .int x4), (3, .ref (z + 139)), (2, .ref (rz (z + 93) 0)), (1, .ref (rz z 0)), (0, .ref b)] [.int r'.1, .int r] hC (r'.2) fo
  refine l_icmp_eq (pc := 1117) (off := 494) (tgt := 1611) X (by decide +kernel) (by decide) (fun _ => ?_) (fun q => absurd ev q)
  exact l_widen (by omega) (by omega) (kk _ _ _ hrel)
set_option maxRecDepth 8000 in
set_option maxHeartbeats 2000000 in
theorem lc_driest (X : CLw E g z b L xs) (hw : k + 2 ≤ 1166 ∧ w + 16 ≤ 12582) (hsp : SP_driest Rel) (hr0 : Rel hC hR)
    (kk : ∀ (hC2 hR2 : Hp) (fo2 : Nat → Int64), Rel hC2 hR2 → VL E g z (k + 2) (w + 16) 1611 (LL z b x4) [] hC2 hR2 fo2) : VL E g z k w 1122 (LL z b x4) [] hC hR fo := by
  change VL E g z k w 1122 [(4, .int x4), (3, .ref (z + 139)), (2, .ref (rz (z + 93) 0)), (1, .ref (rz z 0)), (0, .ref b)] [] hC hR fo
  obtain ⟨r, r', er, er2, ev, hrel⟩ := hsp hC hR hr0
  refine l_aload_n (pc := 1122) (i := 1) X (by decide +kernel) 3 rfl ?_
  refine l_callC (pc := 1123) (As := []) (rest := []) X (mt_Tt_driest okC_93_101 (inj_rz _ _) (show kd TC 0 = 0 from rfl) er) ll_132 lv__Tt_driest rfl ⟨Nat.le_of_ble_eq_true rfl, Nat.le_of_ble_eq_true rfl⟩ ⟨by omega, by omega⟩ rfl rfl (Nat.le_of_ble_eq_true rfl) (by decide +kernel) ?_
  change VL E g z k w 1126 [(4, .int x4), (3, .ref (z + 139)), (2, .ref (rz (z + 93) 0)), (1, .ref (rz z 0)), (0, .ref b)] [.int r] hC hR fo
  refine l_aload_n (pc := 1126) (i := 2) X (by decide +kernel) 2 rfl ?_
  refine l_callR (pc := 1127) (As := []) (rest := [.int r]) X (mt_Md_driest okR_46_45 (inj_rz _ _) (show kd TR 0 = 12 from rfl) er2) ll_135 lv__Md_driest rfl ⟨Nat.le_of_ble_eq_true rfl, Nat.le_of_ble_eq_true rfl⟩ ⟨by omega, by omega⟩ rfl rfl (Nat.le_of_ble_eq_true rfl) (by decide +kernel) ?_
  change VL E g z k w 1130 [(4, .int x4), (3, .ref (z + 139)), (2, .ref (rz (z + 93) 0)), (1, .ref (rz z 0)), (0, .ref b)] [.int r'.1, .int r] hC (r'.2) fo
  refine l_icmp_eq (pc := 1130) (off := 481) (tgt := 1611) X (by decide +kernel) (by decide) (fun _ => ?_) (fun q => absurd ev q)
  exact l_widen (by omega) (by omega) (kk _ _ _ hrel)
set_option maxRecDepth 8000 in
set_option maxHeartbeats 2000000 in
theorem lc_nearest (X : CLw E g z b L xs) (hw : k + 2 ≤ 1166 ∧ w + 16 ≤ 12582) (hsp : SP_nearest Rel) (hr0 : Rel hC hR) {a1 : Int32} (i1 : vp_in (x4 + (1 : Int32)) L) (e1 : a1 = xs (x4 + (1 : Int32)).toNatClampNeg)
    (kk : ∀ (hC2 hR2 : Hp) (fo2 : Nat → Int64), Rel hC2 hR2 → VL E g z (k + 2) (w + 16) 1611 (LL z b x4) [] hC2 hR2 fo2) : VL E g z k w 1135 (LL z b x4) [] hC hR fo := by
  change VL E g z k w 1135 [(4, .int x4), (3, .ref (z + 139)), (2, .ref (rz (z + 93) 0)), (1, .ref (rz z 0)), (0, .ref b)] [] hC hR fo
  obtain ⟨r, r', er, er2, ev, hrel⟩ := hsp hC hR a1 hr0
  refine l_aload_n (pc := 1135) (i := 1) X (by decide +kernel) 3 rfl ?_
  refine l_aload_n (pc := 1136) (i := 0) X (by decide +kernel) 4 rfl ?_
  refine l_iload (pc := 1137) (i := 4) X (by decide +kernel) 0 rfl ?_
  refine l_iconst (pc := 1139) (n0 := 1) X (by decide +kernel) ic_1 ?_
  refine l_iadd (pc := 1140) X (by decide +kernel) ?_
  refine l_sld (pc := 1141) X i1 e1 (by decide +kernel) ?_
  refine l_callC (pc := 1142) (As := [.int a1]) (rest := []) X (mt_Tt_nearest okC_93_101 (inj_rz _ _) (show kd TC 0 = 0 from rfl) er) ll_136 lv__Tt_nearest rfl ⟨Nat.le_of_ble_eq_true rfl, Nat.le_of_ble_eq_true rfl⟩ ⟨by omega, by omega⟩ rfl rfl (Nat.le_of_ble_eq_true rfl) (by decide +kernel) ?_
  change VL E g z k w 1145 [(4, .int x4), (3, .ref (z + 139)), (2, .ref (rz (z + 93) 0)), (1, .ref (rz z 0)), (0, .ref b)] [.int r] hC hR fo
  refine l_aload_n (pc := 1145) (i := 2) X (by decide +kernel) 2 rfl ?_
  refine l_aload_n (pc := 1146) (i := 0) X (by decide +kernel) 4 rfl ?_
  refine l_iload (pc := 1147) (i := 4) X (by decide +kernel) 0 rfl ?_
  refine l_iconst (pc := 1149) (n0 := 1) X (by decide +kernel) ic_1 ?_
  refine l_iadd (pc := 1150) X (by decide +kernel) ?_
  refine l_sld (pc := 1151) X i1 e1 (by decide +kernel) ?_
  refine l_callR (pc := 1152) (As := [.int a1]) (rest := [.int r]) X (mt_Md_nearest okR_46_45 (inj_rz _ _) (show kd TR 0 = 12 from rfl) er2) ll_139 lv__Md_nearest rfl ⟨Nat.le_of_ble_eq_true rfl, Nat.le_of_ble_eq_true rfl⟩ ⟨by omega, by omega⟩ rfl rfl (Nat.le_of_ble_eq_true rfl) (by decide +kernel) ?_
  change VL E g z k w 1155 [(4, .int x4), (3, .ref (z + 139)), (2, .ref (rz (z + 93) 0)), (1, .ref (rz z 0)), (0, .ref b)] [.int r'.1, .int r] hC (r'.2) fo
  refine l_icmp_eq (pc := 1155) (off := 456) (tgt := 1611) X (by decide +kernel) (by decide) (fun _ => ?_) (fun q => absurd ev q)
  exact l_widen (by omega) (by omega) (kk _ _ _ hrel)
set_option maxRecDepth 8000 in
set_option maxHeartbeats 2000000 in
theorem lc_meet (X : CLw E g z b L xs) (hw : k + 2 ≤ 1166 ∧ w + 16 ≤ 12582) (hsp : SP_meet Rel) (hr0 : Rel hC hR) {a1 : Int32} (i1 : vp_in (x4 + (1 : Int32)) L) (e1 : a1 = xs (x4 + (1 : Int32)).toNatClampNeg) {a2 : Int32} (i2 : vp_in (x4 + (2 : Int32)) L) (e2 : a2 = xs (x4 + (2 : Int32)).toNatClampNeg)
    (kk : ∀ (hC2 hR2 : Hp) (fo2 : Nat → Int64), Rel hC2 hR2 → VL E g z (k + 2) (w + 16) 1611 (LL z b x4) [] hC2 hR2 fo2) : VL E g z k w 1160 (LL z b x4) [] hC hR fo := by
  change VL E g z k w 1160 [(4, .int x4), (3, .ref (z + 139)), (2, .ref (rz (z + 93) 0)), (1, .ref (rz z 0)), (0, .ref b)] [] hC hR fo
  obtain ⟨r, r', er, er2, ev, hrel⟩ := hsp hC hR a1 a2 hr0
  refine l_aload_n (pc := 1160) (i := 1) X (by decide +kernel) 3 rfl ?_
  refine l_aload_n (pc := 1161) (i := 0) X (by decide +kernel) 4 rfl ?_
  refine l_iload (pc := 1162) (i := 4) X (by decide +kernel) 0 rfl ?_
  refine l_iconst (pc := 1164) (n0 := 1) X (by decide +kernel) ic_1 ?_
  refine l_iadd (pc := 1165) X (by decide +kernel) ?_
  refine l_sld (pc := 1166) X i1 e1 (by decide +kernel) ?_
  refine l_aload_n (pc := 1167) (i := 0) X (by decide +kernel) 4 rfl ?_
  refine l_iload (pc := 1168) (i := 4) X (by decide +kernel) 0 rfl ?_
  refine l_iconst (pc := 1170) (n0 := 2) X (by decide +kernel) ic_2 ?_
  refine l_iadd (pc := 1171) X (by decide +kernel) ?_
  refine l_sld (pc := 1172) X i2 e2 (by decide +kernel) ?_
  refine l_callC (pc := 1173) (As := [.int a1, .int a2]) (rest := []) X (mt_Tt_meet okC_93_101 (inj_rz _ _) (show kd TC 0 = 0 from rfl) er) ll_140 lv__Tt_meet rfl ⟨Nat.le_of_ble_eq_true rfl, Nat.le_of_ble_eq_true rfl⟩ ⟨by omega, by omega⟩ rfl rfl (Nat.le_of_ble_eq_true rfl) (by decide +kernel) ?_
  change VL E g z k w 1176 [(4, .int x4), (3, .ref (z + 139)), (2, .ref (rz (z + 93) 0)), (1, .ref (rz z 0)), (0, .ref b)] [.int r.1] (r.2) hR fo
  refine l_aload_n (pc := 1176) (i := 2) X (by decide +kernel) 2 rfl ?_
  refine l_aload_n (pc := 1177) (i := 0) X (by decide +kernel) 4 rfl ?_
  refine l_iload (pc := 1178) (i := 4) X (by decide +kernel) 0 rfl ?_
  refine l_iconst (pc := 1180) (n0 := 1) X (by decide +kernel) ic_1 ?_
  refine l_iadd (pc := 1181) X (by decide +kernel) ?_
  refine l_sld (pc := 1182) X i1 e1 (by decide +kernel) ?_
  refine l_aload_n (pc := 1183) (i := 0) X (by decide +kernel) 4 rfl ?_
  refine l_iload (pc := 1184) (i := 4) X (by decide +kernel) 0 rfl ?_
  refine l_iconst (pc := 1186) (n0 := 2) X (by decide +kernel) ic_2 ?_
  refine l_iadd (pc := 1187) X (by decide +kernel) ?_
  refine l_sld (pc := 1188) X i2 e2 (by decide +kernel) ?_
  refine l_callR (pc := 1189) (As := [.int a1, .int a2]) (rest := [.int r.1]) X (mt_Md_meet okR_46_45 (inj_rz _ _) (show kd TR 0 = 12 from rfl) er2) ll_143 lv__Md_meet rfl ⟨Nat.le_of_ble_eq_true rfl, Nat.le_of_ble_eq_true rfl⟩ ⟨by omega, by omega⟩ rfl rfl (Nat.le_of_ble_eq_true rfl) (by decide +kernel) ?_
  change VL E g z k w 1192 [(4, .int x4), (3, .ref (z + 139)), (2, .ref (rz (z + 93) 0)), (1, .ref (rz z 0)), (0, .ref b)] [.int r'.1, .int r.1] (r.2) (r'.2) fo
  refine l_icmp_eq (pc := 1192) (off := 419) (tgt := 1611) X (by decide +kernel) (by decide) (fun _ => ?_) (fun q => absurd ev q)
  exact l_widen (by omega) (by omega) (kk _ _ _ hrel)
set_option maxRecDepth 8000 in
set_option maxHeartbeats 2000000 in
theorem lc_gather (X : CLw E g z b L xs) (hw : k + 2 ≤ 1166 ∧ w + 16 ≤ 12582) (hsp : SP_gather Rel) (hr0 : Rel hC hR) {a1 : Int32} (i1 : vp_in (x4 + (1 : Int32)) L) (e1 : a1 = xs (x4 + (1 : Int32)).toNatClampNeg)
    (kk : ∀ (hC2 hR2 : Hp) (fo2 : Nat → Int64), Rel hC2 hR2 → VL E g z (k + 2) (w + 16) 1611 (LL z b x4) [] hC2 hR2 fo2) : VL E g z k w 1197 (LL z b x4) [] hC hR fo := by
  change VL E g z k w 1197 [(4, .int x4), (3, .ref (z + 139)), (2, .ref (rz (z + 93) 0)), (1, .ref (rz z 0)), (0, .ref b)] [] hC hR fo
  obtain ⟨r, r', er, er2, ev, hrel⟩ := hsp hC hR a1 hr0
  refine l_aload_n (pc := 1197) (i := 1) X (by decide +kernel) 3 rfl ?_
  refine l_aload_n (pc := 1198) (i := 0) X (by decide +kernel) 4 rfl ?_
  refine l_iload (pc := 1199) (i := 4) X (by decide +kernel) 0 rfl ?_
  refine l_iconst (pc := 1201) (n0 := 1) X (by decide +kernel) ic_1 ?_
  refine l_iadd (pc := 1202) X (by decide +kernel) ?_
  refine l_sld (pc := 1203) X i1 e1 (by decide +kernel) ?_
  refine l_callC (pc := 1204) (As := [.int a1]) (rest := []) X (mt_Tt_gather okC_93_101 (inj_rz _ _) (show kd TC 0 = 0 from rfl) er) ll_144 lv__Tt_gather rfl ⟨Nat.le_of_ble_eq_true rfl, Nat.le_of_ble_eq_true rfl⟩ ⟨by omega, by omega⟩ rfl rfl (Nat.le_of_ble_eq_true rfl) (by decide +kernel) ?_
  change VL E g z k w 1207 [(4, .int x4), (3, .ref (z + 139)), (2, .ref (rz (z + 93) 0)), (1, .ref (rz z 0)), (0, .ref b)] [.int r] hC hR fo
  refine l_aload_n (pc := 1207) (i := 2) X (by decide +kernel) 2 rfl ?_
  refine l_aload_n (pc := 1208) (i := 0) X (by decide +kernel) 4 rfl ?_
  refine l_iload (pc := 1209) (i := 4) X (by decide +kernel) 0 rfl ?_
  refine l_iconst (pc := 1211) (n0 := 1) X (by decide +kernel) ic_1 ?_
  refine l_iadd (pc := 1212) X (by decide +kernel) ?_
  refine l_sld (pc := 1213) X i1 e1 (by decide +kernel) ?_
  refine l_callR (pc := 1214) (As := [.int a1]) (rest := [.int r]) X (mt_Md_gather okR_46_45 (inj_rz _ _) (show kd TR 0 = 12 from rfl) er2) ll_147 lv__Md_gather rfl ⟨Nat.le_of_ble_eq_true rfl, Nat.le_of_ble_eq_true rfl⟩ ⟨by omega, by omega⟩ rfl rfl (Nat.le_of_ble_eq_true rfl) (by decide +kernel) ?_
  change VL E g z k w 1217 [(4, .int x4), (3, .ref (z + 139)), (2, .ref (rz (z + 93) 0)), (1, .ref (rz z 0)), (0, .ref b)] [.int r'.1, .int r] hC (r'.2) fo
  refine l_icmp_eq (pc := 1217) (off := 394) (tgt := 1611) X (by decide +kernel) (by decide) (fun _ => ?_) (fun q => absurd ev q)
  exact l_widen (by omega) (by omega) (kk _ _ _ hrel)
set_option maxRecDepth 8000 in
set_option maxHeartbeats 2000000 in
theorem lc_sides (X : CLw E g z b L xs) (hw : k + 2 ≤ 1166 ∧ w + 16 ≤ 12582) (hsp : SP_sides Rel) (hr0 : Rel hC hR)
    (kk : ∀ (hC2 hR2 : Hp) (fo2 : Nat → Int64), Rel hC2 hR2 → VL E g z (k + 2) (w + 16) 1611 (LL z b x4) [] hC2 hR2 fo2) : VL E g z k w 1222 (LL z b x4) [] hC hR fo := by
  change VL E g z k w 1222 [(4, .int x4), (3, .ref (z + 139)), (2, .ref (rz (z + 93) 0)), (1, .ref (rz z 0)), (0, .ref b)] [] hC hR fo
  obtain ⟨r, r', er, er2, ev, hrel⟩ := hsp hC hR hr0
  refine l_aload_n (pc := 1222) (i := 1) X (by decide +kernel) 3 rfl ?_
  refine l_callC (pc := 1223) (As := []) (rest := []) X (mt_Tt_sides okC_93_101 (inj_rz _ _) (show kd TC 0 = 0 from rfl) er) ll_148 lv__Tt_sides rfl ⟨Nat.le_of_ble_eq_true rfl, Nat.le_of_ble_eq_true rfl⟩ ⟨by omega, by omega⟩ rfl rfl (Nat.le_of_ble_eq_true rfl) (by decide +kernel) ?_
  change VL E g z k w 1226 [(4, .int x4), (3, .ref (z + 139)), (2, .ref (rz (z + 93) 0)), (1, .ref (rz z 0)), (0, .ref b)] [.int r] hC hR fo
  refine l_aload_n (pc := 1226) (i := 2) X (by decide +kernel) 2 rfl ?_
  refine l_callR (pc := 1227) (As := []) (rest := [.int r]) X (mt_Md_sides okR_46_45 (inj_rz _ _) (show kd TR 0 = 12 from rfl) er2) ll_151 lv__Md_sides rfl ⟨Nat.le_of_ble_eq_true rfl, Nat.le_of_ble_eq_true rfl⟩ ⟨by omega, by omega⟩ rfl rfl (Nat.le_of_ble_eq_true rfl) (by decide +kernel) ?_
  change VL E g z k w 1230 [(4, .int x4), (3, .ref (z + 139)), (2, .ref (rz (z + 93) 0)), (1, .ref (rz z 0)), (0, .ref b)] [.int r'.1, .int r] hC (r'.2) fo
  refine l_icmp_eq (pc := 1230) (off := 381) (tgt := 1611) X (by decide +kernel) (by decide) (fun _ => ?_) (fun q => absurd ev q)
  exact l_widen (by omega) (by omega) (kk _ _ _ hrel)
set_option maxRecDepth 8000 in
set_option maxHeartbeats 2000000 in
theorem lc_enemies (X : CLw E g z b L xs) (hw : k + 2 ≤ 1166 ∧ w + 16 ≤ 12582) (hsp : SP_enemies Rel) (hr0 : Rel hC hR) {a1 : Int32} (i1 : vp_in (x4 + (1 : Int32)) L) (e1 : a1 = xs (x4 + (1 : Int32)).toNatClampNeg)
    (kk : ∀ (hC2 hR2 : Hp) (fo2 : Nat → Int64), Rel hC2 hR2 → VL E g z (k + 2) (w + 16) 1611 (LL z b x4) [] hC2 hR2 fo2) : VL E g z k w 1235 (LL z b x4) [] hC hR fo := by
  change VL E g z k w 1235 [(4, .int x4), (3, .ref (z + 139)), (2, .ref (rz (z + 93) 0)), (1, .ref (rz z 0)), (0, .ref b)] [] hC hR fo
  obtain ⟨r, r', er, er2, ev, hrel⟩ := hsp hC hR a1 hr0
  refine l_aload_n (pc := 1235) (i := 1) X (by decide +kernel) 3 rfl ?_
  refine l_aload_n (pc := 1236) (i := 0) X (by decide +kernel) 4 rfl ?_
  refine l_iload (pc := 1237) (i := 4) X (by decide +kernel) 0 rfl ?_
  refine l_iconst (pc := 1239) (n0 := 1) X (by decide +kernel) ic_1 ?_
  refine l_iadd (pc := 1240) X (by decide +kernel) ?_
  refine l_sld (pc := 1241) X i1 e1 (by decide +kernel) ?_
  refine l_callC (pc := 1242) (As := [.int a1]) (rest := []) X (mt_Tt_enemies okC_93_101 (inj_rz _ _) (show kd TC 0 = 0 from rfl) er) ll_152 lv__Tt_enemies rfl ⟨Nat.le_of_ble_eq_true rfl, Nat.le_of_ble_eq_true rfl⟩ ⟨by omega, by omega⟩ rfl rfl (Nat.le_of_ble_eq_true rfl) (by decide +kernel) ?_
  change VL E g z k w 1245 [(4, .int x4), (3, .ref (z + 139)), (2, .ref (rz (z + 93) 0)), (1, .ref (rz z 0)), (0, .ref b)] [.int r] hC hR fo
  refine l_aload_n (pc := 1245) (i := 2) X (by decide +kernel) 2 rfl ?_
  refine l_aload_n (pc := 1246) (i := 0) X (by decide +kernel) 4 rfl ?_
  refine l_iload (pc := 1247) (i := 4) X (by decide +kernel) 0 rfl ?_
  refine l_iconst (pc := 1249) (n0 := 1) X (by decide +kernel) ic_1 ?_
  refine l_iadd (pc := 1250) X (by decide +kernel) ?_
  refine l_sld (pc := 1251) X i1 e1 (by decide +kernel) ?_
  refine l_callR (pc := 1252) (As := [.int a1]) (rest := [.int r]) X (mt_Md_enemies okR_46_45 (inj_rz _ _) (show kd TR 0 = 12 from rfl) er2) ll_155 lv__Md_enemies rfl ⟨Nat.le_of_ble_eq_true rfl, Nat.le_of_ble_eq_true rfl⟩ ⟨by omega, by omega⟩ rfl rfl (Nat.le_of_ble_eq_true rfl) (by decide +kernel) ?_
  change VL E g z k w 1255 [(4, .int x4), (3, .ref (z + 139)), (2, .ref (rz (z + 93) 0)), (1, .ref (rz z 0)), (0, .ref b)] [.int r'.1, .int r] hC (r'.2) fo
  refine l_icmp_eq (pc := 1255) (off := 356) (tgt := 1611) X (by decide +kernel) (by decide) (fun _ => ?_) (fun q => absurd ev q)
  exact l_widen (by omega) (by omega) (kk _ _ _ hrel)
set_option maxRecDepth 8000 in
set_option maxHeartbeats 2000000 in
theorem lc_runsDry (X : CLw E g z b L xs) (hw : k + 2 ≤ 1166 ∧ w + 16 ≤ 12582) (hsp : SP_runsDry Rel) (hr0 : Rel hC hR) {a1 : Int32} (i1 : vp_in (x4 + (1 : Int32)) L) (e1 : a1 = xs (x4 + (1 : Int32)).toNatClampNeg)
    (kk : ∀ (hC2 hR2 : Hp) (fo2 : Nat → Int64), Rel hC2 hR2 → VL E g z (k + 2) (w + 16) 1611 (LL z b x4) [] hC2 hR2 fo2) : VL E g z k w 1260 (LL z b x4) [] hC hR fo := by
  change VL E g z k w 1260 [(4, .int x4), (3, .ref (z + 139)), (2, .ref (rz (z + 93) 0)), (1, .ref (rz z 0)), (0, .ref b)] [] hC hR fo
  obtain ⟨r, r', er, er2, ev, hrel⟩ := hsp hC hR a1 hr0
  refine l_aload_n (pc := 1260) (i := 1) X (by decide +kernel) 3 rfl ?_
  refine l_aload_n (pc := 1261) (i := 0) X (by decide +kernel) 4 rfl ?_
  refine l_iload (pc := 1262) (i := 4) X (by decide +kernel) 0 rfl ?_
  refine l_iconst (pc := 1264) (n0 := 1) X (by decide +kernel) ic_1 ?_
  refine l_iadd (pc := 1265) X (by decide +kernel) ?_
  refine l_sld (pc := 1266) X i1 e1 (by decide +kernel) ?_
  refine l_callC (pc := 1267) (As := [.int a1]) (rest := []) X (mt_Tt_runsDry okC_93_101 (inj_rz _ _) (show kd TC 0 = 0 from rfl) er) ll_156 lv__Tt_runsDry rfl ⟨Nat.le_of_ble_eq_true rfl, Nat.le_of_ble_eq_true rfl⟩ ⟨by omega, by omega⟩ rfl rfl (Nat.le_of_ble_eq_true rfl) (by decide +kernel) ?_
  change VL E g z k w 1270 [(4, .int x4), (3, .ref (z + 139)), (2, .ref (rz (z + 93) 0)), (1, .ref (rz z 0)), (0, .ref b)] [.int r.1] (r.2) hR fo
  refine l_aload_n (pc := 1270) (i := 2) X (by decide +kernel) 2 rfl ?_
  refine l_aload_n (pc := 1271) (i := 0) X (by decide +kernel) 4 rfl ?_
  refine l_iload (pc := 1272) (i := 4) X (by decide +kernel) 0 rfl ?_
  refine l_iconst (pc := 1274) (n0 := 1) X (by decide +kernel) ic_1 ?_
  refine l_iadd (pc := 1275) X (by decide +kernel) ?_
  refine l_sld (pc := 1276) X i1 e1 (by decide +kernel) ?_
  refine l_callR (pc := 1277) (As := [.int a1]) (rest := [.int r.1]) X (mt_Md_runsDry okR_46_45 (inj_rz _ _) (show kd TR 0 = 12 from rfl) er2) ll_159 lv__Md_runsDry rfl ⟨Nat.le_of_ble_eq_true rfl, Nat.le_of_ble_eq_true rfl⟩ ⟨by omega, by omega⟩ rfl rfl (Nat.le_of_ble_eq_true rfl) (by decide +kernel) ?_
  change VL E g z k w 1280 [(4, .int x4), (3, .ref (z + 139)), (2, .ref (rz (z + 93) 0)), (1, .ref (rz z 0)), (0, .ref b)] [.int r'.1, .int r.1] (r.2) (r'.2) fo
  refine l_icmp_eq (pc := 1280) (off := 331) (tgt := 1611) X (by decide +kernel) (by decide) (fun _ => ?_) (fun q => absurd ev q)
  exact l_widen (by omega) (by omega) (kk _ _ _ hrel)
set_option maxRecDepth 8000 in
set_option maxHeartbeats 2000000 in
theorem lc_see (X : CLw E g z b L xs) (hw : k + 2 ≤ 1166 ∧ w + 16 ≤ 12582) (hsp : SP_see Rel) (hr0 : Rel hC hR) {a1 : Int32} (i1 : vp_in (x4 + (1 : Int32)) L) (e1 : a1 = xs (x4 + (1 : Int32)).toNatClampNeg) {a2 : Int32} (i2 : vp_in (x4 + (2 : Int32)) L) (e2 : a2 = xs (x4 + (2 : Int32)).toNatClampNeg) {a3 : Int32} (i3 : vp_in (x4 + (3 : Int32)) L) (e3 : a3 = xs (x4 + (3 : Int32)).toNatClampNeg) {a4 : Int32} (i4 : vp_in (x4 + (4 : Int32)) L) (e4 : a4 = xs (x4 + (4 : Int32)).toNatClampNeg)
    (kk : ∀ (hC2 hR2 : Hp) (fo2 : Nat → Int64), Rel hC2 hR2 → VL E g z (k + 2) (w + 16) 1611 (LL z b x4) [] hC2 hR2 fo2) : VL E g z k w 1285 (LL z b x4) [] hC hR fo := by
  change VL E g z k w 1285 [(4, .int x4), (3, .ref (z + 139)), (2, .ref (rz (z + 93) 0)), (1, .ref (rz z 0)), (0, .ref b)] [] hC hR fo
  by_cases q4 : a4 = (0 : Int32)
  · obtain ⟨r, r', er, er2, ev, hrel⟩ := hsp hC hR a1 a2 a3 (0 : Int32) hr0 rfl
    refine l_aload_n (pc := 1285) (i := 1) X (by decide +kernel) 3 rfl ?_
    refine l_aload_n (pc := 1286) (i := 0) X (by decide +kernel) 4 rfl ?_
    refine l_iload (pc := 1287) (i := 4) X (by decide +kernel) 0 rfl ?_
    refine l_iconst (pc := 1289) (n0 := 1) X (by decide +kernel) ic_1 ?_
    refine l_iadd (pc := 1290) X (by decide +kernel) ?_
    refine l_sld (pc := 1291) X i1 e1 (by decide +kernel) ?_
    refine l_aload_n (pc := 1292) (i := 0) X (by decide +kernel) 4 rfl ?_
    refine l_iload (pc := 1293) (i := 4) X (by decide +kernel) 0 rfl ?_
    refine l_iconst (pc := 1295) (n0 := 2) X (by decide +kernel) ic_2 ?_
    refine l_iadd (pc := 1296) X (by decide +kernel) ?_
    refine l_sld (pc := 1297) X i2 e2 (by decide +kernel) ?_
    refine l_aload_n (pc := 1298) (i := 0) X (by decide +kernel) 4 rfl ?_
    refine l_iload (pc := 1299) (i := 4) X (by decide +kernel) 0 rfl ?_
    refine l_iconst (pc := 1301) (n0 := 3) X (by decide +kernel) ic_3 ?_
    refine l_iadd (pc := 1302) X (by decide +kernel) ?_
    refine l_sld (pc := 1303) X i3 e3 (by decide +kernel) ?_
    refine l_aload_n (pc := 1304) (i := 0) X (by decide +kernel) 4 rfl ?_
    refine l_iload (pc := 1305) (i := 4) X (by decide +kernel) 0 rfl ?_
    refine l_iconst (pc := 1307) (n0 := 4) X (by decide +kernel) ic_4 ?_
    refine l_iadd (pc := 1308) X (by decide +kernel) ?_
    refine l_sld (pc := 1309) X i4 e4 (by decide +kernel) ?_
    refine l_if_eq (pc := 1310) (off := 7) (tgt := 1317) X (by decide +kernel) (by decide) (fun _ => ?_) (fun q => absurd q4 q)
    refine l_iconst (pc := 1317) (n0 := 0) X (by decide +kernel) ic_0 ?_
    refine l_callC (pc := 1318) (As := [.int a1, .int a2, .int a3, .int (0 : Int32)]) (rest := []) X (mt_Tt_see okC_93_101 (inj_rz _ _) (show kd TC 0 = 0 from rfl) er) ll_160 lv__Tt_see rfl ⟨Nat.le_of_ble_eq_true rfl, Nat.le_of_ble_eq_true rfl⟩ ⟨by omega, by omega⟩ rfl rfl (Nat.le_of_ble_eq_true rfl) (by decide +kernel) ?_
    change VL E g z k w 1321 [(4, .int x4), (3, .ref (z + 139)), (2, .ref (rz (z + 93) 0)), (1, .ref (rz z 0)), (0, .ref b)] [.int r.1] (r.2) hR fo
    refine l_aload_n (pc := 1321) (i := 2) X (by decide +kernel) 2 rfl ?_
    refine l_aload_n (pc := 1322) (i := 0) X (by decide +kernel) 4 rfl ?_
    refine l_iload (pc := 1323) (i := 4) X (by decide +kernel) 0 rfl ?_
    refine l_iconst (pc := 1325) (n0 := 1) X (by decide +kernel) ic_1 ?_
    refine l_iadd (pc := 1326) X (by decide +kernel) ?_
    refine l_sld (pc := 1327) X i1 e1 (by decide +kernel) ?_
    refine l_aload_n (pc := 1328) (i := 0) X (by decide +kernel) 4 rfl ?_
    refine l_iload (pc := 1329) (i := 4) X (by decide +kernel) 0 rfl ?_
    refine l_iconst (pc := 1331) (n0 := 2) X (by decide +kernel) ic_2 ?_
    refine l_iadd (pc := 1332) X (by decide +kernel) ?_
    refine l_sld (pc := 1333) X i2 e2 (by decide +kernel) ?_
    refine l_aload_n (pc := 1334) (i := 0) X (by decide +kernel) 4 rfl ?_
    refine l_iload (pc := 1335) (i := 4) X (by decide +kernel) 0 rfl ?_
    refine l_iconst (pc := 1337) (n0 := 3) X (by decide +kernel) ic_3 ?_
    refine l_iadd (pc := 1338) X (by decide +kernel) ?_
    refine l_sld (pc := 1339) X i3 e3 (by decide +kernel) ?_
    refine l_aload_n (pc := 1340) (i := 0) X (by decide +kernel) 4 rfl ?_
    refine l_iload (pc := 1341) (i := 4) X (by decide +kernel) 0 rfl ?_
    refine l_iconst (pc := 1343) (n0 := 4) X (by decide +kernel) ic_4 ?_
    refine l_iadd (pc := 1344) X (by decide +kernel) ?_
    refine l_sld (pc := 1345) X i4 e4 (by decide +kernel) ?_
    refine l_if_eq (pc := 1346) (off := 7) (tgt := 1353) X (by decide +kernel) (by decide) (fun _ => ?_) (fun q => absurd q4 q)
    refine l_iconst (pc := 1353) (n0 := 0) X (by decide +kernel) ic_0 ?_
    refine l_callR (pc := 1354) (As := [.int a1, .int a2, .int a3, .int (0 : Int32)]) (rest := [.int r.1]) X (mt_Md_see okR_46_45 (inj_rz _ _) (show kd TR 0 = 12 from rfl) er2) ll_164 lv__Md_see rfl ⟨Nat.le_of_ble_eq_true rfl, Nat.le_of_ble_eq_true rfl⟩ ⟨by omega, by omega⟩ rfl rfl (Nat.le_of_ble_eq_true rfl) (by decide +kernel) ?_
    change VL E g z k w 1357 [(4, .int x4), (3, .ref (z + 139)), (2, .ref (rz (z + 93) 0)), (1, .ref (rz z 0)), (0, .ref b)] [.int r'.1, .int r.1] (r.2) (r'.2) fo
    refine l_icmp_eq (pc := 1357) (off := 254) (tgt := 1611) X (by decide +kernel) (by decide) (fun _ => ?_) (fun q => absurd ev q)
    exact l_widen (by omega) (by omega) (kk _ _ _ hrel)
  · obtain ⟨r, r', er, er2, ev, hrel⟩ := hsp hC hR a1 a2 a3 (1 : Int32) hr0 rfl
    refine l_aload_n (pc := 1285) (i := 1) X (by decide +kernel) 3 rfl ?_
    refine l_aload_n (pc := 1286) (i := 0) X (by decide +kernel) 4 rfl ?_
    refine l_iload (pc := 1287) (i := 4) X (by decide +kernel) 0 rfl ?_
    refine l_iconst (pc := 1289) (n0 := 1) X (by decide +kernel) ic_1 ?_
    refine l_iadd (pc := 1290) X (by decide +kernel) ?_
    refine l_sld (pc := 1291) X i1 e1 (by decide +kernel) ?_
    refine l_aload_n (pc := 1292) (i := 0) X (by decide +kernel) 4 rfl ?_
    refine l_iload (pc := 1293) (i := 4) X (by decide +kernel) 0 rfl ?_
    refine l_iconst (pc := 1295) (n0 := 2) X (by decide +kernel) ic_2 ?_
    refine l_iadd (pc := 1296) X (by decide +kernel) ?_
    refine l_sld (pc := 1297) X i2 e2 (by decide +kernel) ?_
    refine l_aload_n (pc := 1298) (i := 0) X (by decide +kernel) 4 rfl ?_
    refine l_iload (pc := 1299) (i := 4) X (by decide +kernel) 0 rfl ?_
    refine l_iconst (pc := 1301) (n0 := 3) X (by decide +kernel) ic_3 ?_
    refine l_iadd (pc := 1302) X (by decide +kernel) ?_
    refine l_sld (pc := 1303) X i3 e3 (by decide +kernel) ?_
    refine l_aload_n (pc := 1304) (i := 0) X (by decide +kernel) 4 rfl ?_
    refine l_iload (pc := 1305) (i := 4) X (by decide +kernel) 0 rfl ?_
    refine l_iconst (pc := 1307) (n0 := 4) X (by decide +kernel) ic_4 ?_
    refine l_iadd (pc := 1308) X (by decide +kernel) ?_
    refine l_sld (pc := 1309) X i4 e4 (by decide +kernel) ?_
    refine l_if_eq (pc := 1310) (off := 7) (tgt := 1317) X (by decide +kernel) (by decide) (fun q => absurd q q4) (fun _ => ?_)
    refine l_iconst (pc := 1313) (n0 := 1) X (by decide +kernel) ic_1 ?_
    refine l_goto (pc := 1314) (off := 4) (tgt := 1318) X (by decide +kernel) (by decide) ?_
    refine l_callC (pc := 1318) (As := [.int a1, .int a2, .int a3, .int (1 : Int32)]) (rest := []) X (mt_Tt_see okC_93_101 (inj_rz _ _) (show kd TC 0 = 0 from rfl) er) ll_160 lv__Tt_see rfl ⟨Nat.le_of_ble_eq_true rfl, Nat.le_of_ble_eq_true rfl⟩ ⟨by omega, by omega⟩ rfl rfl (Nat.le_of_ble_eq_true rfl) (by decide +kernel) ?_
    change VL E g z k w 1321 [(4, .int x4), (3, .ref (z + 139)), (2, .ref (rz (z + 93) 0)), (1, .ref (rz z 0)), (0, .ref b)] [.int r.1] (r.2) hR fo
    refine l_aload_n (pc := 1321) (i := 2) X (by decide +kernel) 2 rfl ?_
    refine l_aload_n (pc := 1322) (i := 0) X (by decide +kernel) 4 rfl ?_
    refine l_iload (pc := 1323) (i := 4) X (by decide +kernel) 0 rfl ?_
    refine l_iconst (pc := 1325) (n0 := 1) X (by decide +kernel) ic_1 ?_
    refine l_iadd (pc := 1326) X (by decide +kernel) ?_
    refine l_sld (pc := 1327) X i1 e1 (by decide +kernel) ?_
    refine l_aload_n (pc := 1328) (i := 0) X (by decide +kernel) 4 rfl ?_
    refine l_iload (pc := 1329) (i := 4) X (by decide +kernel) 0 rfl ?_
    refine l_iconst (pc := 1331) (n0 := 2) X (by decide +kernel) ic_2 ?_
    refine l_iadd (pc := 1332) X (by decide +kernel) ?_
    refine l_sld (pc := 1333) X i2 e2 (by decide +kernel) ?_
    refine l_aload_n (pc := 1334) (i := 0) X (by decide +kernel) 4 rfl ?_
    refine l_iload (pc := 1335) (i := 4) X (by decide +kernel) 0 rfl ?_
    refine l_iconst (pc := 1337) (n0 := 3) X (by decide +kernel) ic_3 ?_
    refine l_iadd (pc := 1338) X (by decide +kernel) ?_
    refine l_sld (pc := 1339) X i3 e3 (by decide +kernel) ?_
    refine l_aload_n (pc := 1340) (i := 0) X (by decide +kernel) 4 rfl ?_
    refine l_iload (pc := 1341) (i := 4) X (by decide +kernel) 0 rfl ?_
    refine l_iconst (pc := 1343) (n0 := 4) X (by decide +kernel) ic_4 ?_
    refine l_iadd (pc := 1344) X (by decide +kernel) ?_
    refine l_sld (pc := 1345) X i4 e4 (by decide +kernel) ?_
    refine l_if_eq (pc := 1346) (off := 7) (tgt := 1353) X (by decide +kernel) (by decide) (fun q => absurd q q4) (fun _ => ?_)
    refine l_iconst (pc := 1349) (n0 := 1) X (by decide +kernel) ic_1 ?_
    refine l_goto (pc := 1350) (off := 4) (tgt := 1354) X (by decide +kernel) (by decide) ?_
    refine l_callR (pc := 1354) (As := [.int a1, .int a2, .int a3, .int (1 : Int32)]) (rest := [.int r.1]) X (mt_Md_see okR_46_45 (inj_rz _ _) (show kd TR 0 = 12 from rfl) er2) ll_164 lv__Md_see rfl ⟨Nat.le_of_ble_eq_true rfl, Nat.le_of_ble_eq_true rfl⟩ ⟨by omega, by omega⟩ rfl rfl (Nat.le_of_ble_eq_true rfl) (by decide +kernel) ?_
    change VL E g z k w 1357 [(4, .int x4), (3, .ref (z + 139)), (2, .ref (rz (z + 93) 0)), (1, .ref (rz z 0)), (0, .ref b)] [.int r'.1, .int r.1] (r.2) (r'.2) fo
    refine l_icmp_eq (pc := 1357) (off := 254) (tgt := 1611) X (by decide +kernel) (by decide) (fun _ => ?_) (fun q => absurd ev q)
    exact l_widen (by omega) (by omega) (kk _ _ _ hrel)
set_option maxRecDepth 8000 in
set_option maxHeartbeats 2000000 in
theorem lc_strike (X : CLw E g z b L xs) (hw : k + 2 ≤ 1166 ∧ w + 16 ≤ 12582) (hsp : SP_strike Rel) (hr0 : Rel hC hR) {a1 : Int32} (i1 : vp_in (x4 + (1 : Int32)) L) (e1 : a1 = xs (x4 + (1 : Int32)).toNatClampNeg)
    (kk : ∀ (hC2 hR2 : Hp) (fo2 : Nat → Int64), Rel hC2 hR2 → VL E g z (k + 2) (w + 16) 1611 (LL z b x4) [] hC2 hR2 fo2) : VL E g z k w 1362 (LL z b x4) [] hC hR fo := by
  change VL E g z k w 1362 [(4, .int x4), (3, .ref (z + 139)), (2, .ref (rz (z + 93) 0)), (1, .ref (rz z 0)), (0, .ref b)] [] hC hR fo
  obtain ⟨r, r', er, er2, ev, hrel⟩ := hsp hC hR a1 hr0
  refine l_aload_n (pc := 1362) (i := 1) X (by decide +kernel) 3 rfl ?_
  refine l_aload_n (pc := 1363) (i := 0) X (by decide +kernel) 4 rfl ?_
  refine l_iload (pc := 1364) (i := 4) X (by decide +kernel) 0 rfl ?_
  refine l_iconst (pc := 1366) (n0 := 1) X (by decide +kernel) ic_1 ?_
  refine l_iadd (pc := 1367) X (by decide +kernel) ?_
  refine l_sld (pc := 1368) X i1 e1 (by decide +kernel) ?_
  refine l_callC (pc := 1369) (As := [.int a1]) (rest := []) X (mt_Tt_strike okC_93_101 (inj_rz _ _) (show kd TC 0 = 0 from rfl) er) ll_165 lv__Tt_strike rfl ⟨Nat.le_of_ble_eq_true rfl, Nat.le_of_ble_eq_true rfl⟩ ⟨by omega, by omega⟩ rfl rfl (Nat.le_of_ble_eq_true rfl) (by decide +kernel) ?_
  change VL E g z k w 1372 [(4, .int x4), (3, .ref (z + 139)), (2, .ref (rz (z + 93) 0)), (1, .ref (rz z 0)), (0, .ref b)] [.int r.1] (r.2) hR fo
  refine l_aload_n (pc := 1372) (i := 2) X (by decide +kernel) 2 rfl ?_
  refine l_aload_n (pc := 1373) (i := 0) X (by decide +kernel) 4 rfl ?_
  refine l_iload (pc := 1374) (i := 4) X (by decide +kernel) 0 rfl ?_
  refine l_iconst (pc := 1376) (n0 := 1) X (by decide +kernel) ic_1 ?_
  refine l_iadd (pc := 1377) X (by decide +kernel) ?_
  refine l_sld (pc := 1378) X i1 e1 (by decide +kernel) ?_
  refine l_callR (pc := 1379) (As := [.int a1]) (rest := [.int r.1]) X (mt_Md_strike okR_46_45 (inj_rz _ _) (show kd TR 0 = 12 from rfl) er2) ll_168 lv__Md_strike rfl ⟨Nat.le_of_ble_eq_true rfl, Nat.le_of_ble_eq_true rfl⟩ ⟨by omega, by omega⟩ rfl rfl (Nat.le_of_ble_eq_true rfl) (by decide +kernel) ?_
  change VL E g z k w 1382 [(4, .int x4), (3, .ref (z + 139)), (2, .ref (rz (z + 93) 0)), (1, .ref (rz z 0)), (0, .ref b)] [.int r'.1, .int r.1] (r.2) (r'.2) fo
  refine l_icmp_eq (pc := 1382) (off := 229) (tgt := 1611) X (by decide +kernel) (by decide) (fun _ => ?_) (fun q => absurd ev q)
  exact l_widen (by omega) (by omega) (kk _ _ _ hrel)
set_option maxRecDepth 8000 in
set_option maxHeartbeats 2000000 in
theorem lc_known (X : CLw E g z b L xs) (hw : k + 2 ≤ 1166 ∧ w + 16 ≤ 12582) (hsp : SP_known Rel) (hr0 : Rel hC hR) {a1 : Int32} (i1 : vp_in (x4 + (1 : Int32)) L) (e1 : a1 = xs (x4 + (1 : Int32)).toNatClampNeg)
    (kk : ∀ (hC2 hR2 : Hp) (fo2 : Nat → Int64), Rel hC2 hR2 → VL E g z (k + 2) (w + 16) 1611 (LL z b x4) [] hC2 hR2 fo2) : VL E g z k w 1387 (LL z b x4) [] hC hR fo := by
  change VL E g z k w 1387 [(4, .int x4), (3, .ref (z + 139)), (2, .ref (rz (z + 93) 0)), (1, .ref (rz z 0)), (0, .ref b)] [] hC hR fo
  obtain ⟨r, r', er, er2, ev, hrel⟩ := hsp hC hR a1 hr0
  refine l_aload_n (pc := 1387) (i := 1) X (by decide +kernel) 3 rfl ?_
  refine l_aload_n (pc := 1388) (i := 0) X (by decide +kernel) 4 rfl ?_
  refine l_iload (pc := 1389) (i := 4) X (by decide +kernel) 0 rfl ?_
  refine l_iconst (pc := 1391) (n0 := 1) X (by decide +kernel) ic_1 ?_
  refine l_iadd (pc := 1392) X (by decide +kernel) ?_
  refine l_sld (pc := 1393) X i1 e1 (by decide +kernel) ?_
  refine l_callC (pc := 1394) (As := [.int a1]) (rest := []) X (mt_Tt_known okC_93_101 (inj_rz _ _) (show kd TC 0 = 0 from rfl) er) ll_169 lv__Tt_known rfl ⟨Nat.le_of_ble_eq_true rfl, Nat.le_of_ble_eq_true rfl⟩ ⟨by omega, by omega⟩ rfl rfl (Nat.le_of_ble_eq_true rfl) (by decide +kernel) ?_
  change VL E g z k w 1397 [(4, .int x4), (3, .ref (z + 139)), (2, .ref (rz (z + 93) 0)), (1, .ref (rz z 0)), (0, .ref b)] [.int r.1] (r.2) hR fo
  refine l_aload_n (pc := 1397) (i := 2) X (by decide +kernel) 2 rfl ?_
  refine l_aload_n (pc := 1398) (i := 0) X (by decide +kernel) 4 rfl ?_
  refine l_iload (pc := 1399) (i := 4) X (by decide +kernel) 0 rfl ?_
  refine l_iconst (pc := 1401) (n0 := 1) X (by decide +kernel) ic_1 ?_
  refine l_iadd (pc := 1402) X (by decide +kernel) ?_
  refine l_sld (pc := 1403) X i1 e1 (by decide +kernel) ?_
  refine l_callR (pc := 1404) (As := [.int a1]) (rest := [.int r.1]) X (mt_Md_known okR_46_45 (inj_rz _ _) (show kd TR 0 = 12 from rfl) er2) ll_173 lv__Md_known rfl ⟨Nat.le_of_ble_eq_true rfl, Nat.le_of_ble_eq_true rfl⟩ ⟨by omega, by omega⟩ rfl rfl (Nat.le_of_ble_eq_true rfl) (by decide +kernel) ?_
  change VL E g z k w 1407 [(4, .int x4), (3, .ref (z + 139)), (2, .ref (rz (z + 93) 0)), (1, .ref (rz z 0)), (0, .ref b)] [.int r'.1, .int r.1] (r.2) (r'.2) fo
  refine l_icmp_eq (pc := 1407) (off := 204) (tgt := 1611) X (by decide +kernel) (by decide) (fun _ => ?_) (fun q => absurd ev q)
  exact l_widen (by omega) (by omega) (kk _ _ _ hrel)
set_option maxRecDepth 8000 in
set_option maxHeartbeats 2000000 in
theorem lc_thirsts (X : CLw E g z b L xs) (hw : k + 2 ≤ 1166 ∧ w + 16 ≤ 12582) (hsp : SP_thirsts Rel) (hr0 : Rel hC hR) {a1 : Int32} (i1 : vp_in (x4 + (1 : Int32)) L) (e1 : a1 = xs (x4 + (1 : Int32)).toNatClampNeg)
    (kk : ∀ (hC2 hR2 : Hp) (fo2 : Nat → Int64), Rel hC2 hR2 → VL E g z (k + 2) (w + 16) 1611 (LL z b x4) [] hC2 hR2 fo2) : VL E g z k w 1412 (LL z b x4) [] hC hR fo := by
  change VL E g z k w 1412 [(4, .int x4), (3, .ref (z + 139)), (2, .ref (rz (z + 93) 0)), (1, .ref (rz z 0)), (0, .ref b)] [] hC hR fo
  obtain ⟨r, r', er, er2, ev, hrel⟩ := hsp hC hR a1 hr0
  refine l_aload_n (pc := 1412) (i := 1) X (by decide +kernel) 3 rfl ?_
  refine l_aload_n (pc := 1413) (i := 0) X (by decide +kernel) 4 rfl ?_
  refine l_iload (pc := 1414) (i := 4) X (by decide +kernel) 0 rfl ?_
  refine l_iconst (pc := 1416) (n0 := 1) X (by decide +kernel) ic_1 ?_
  refine l_iadd (pc := 1417) X (by decide +kernel) ?_
  refine l_sld (pc := 1418) X i1 e1 (by decide +kernel) ?_
  refine l_callC (pc := 1419) (As := [.int a1]) (rest := []) X (mt_Tt_thirsts okC_93_101 (inj_rz _ _) (show kd TC 0 = 0 from rfl) er) ll_174 lv__Tt_thirsts rfl ⟨Nat.le_of_ble_eq_true rfl, Nat.le_of_ble_eq_true rfl⟩ ⟨by omega, by omega⟩ rfl rfl (Nat.le_of_ble_eq_true rfl) (by decide +kernel) ?_
  change VL E g z k w 1422 [(4, .int x4), (3, .ref (z + 139)), (2, .ref (rz (z + 93) 0)), (1, .ref (rz z 0)), (0, .ref b)] [.int r.1] (r.2) hR fo
  refine l_aload_n (pc := 1422) (i := 2) X (by decide +kernel) 2 rfl ?_
  refine l_aload_n (pc := 1423) (i := 0) X (by decide +kernel) 4 rfl ?_
  refine l_iload (pc := 1424) (i := 4) X (by decide +kernel) 0 rfl ?_
  refine l_iconst (pc := 1426) (n0 := 1) X (by decide +kernel) ic_1 ?_
  refine l_iadd (pc := 1427) X (by decide +kernel) ?_
  refine l_sld (pc := 1428) X i1 e1 (by decide +kernel) ?_
  refine l_callR (pc := 1429) (As := [.int a1]) (rest := [.int r.1]) X (mt_Md_thirsts okR_46_45 (inj_rz _ _) (show kd TR 0 = 12 from rfl) er2) ll_177 lv__Md_thirsts rfl ⟨Nat.le_of_ble_eq_true rfl, Nat.le_of_ble_eq_true rfl⟩ ⟨by omega, by omega⟩ rfl rfl (Nat.le_of_ble_eq_true rfl) (by decide +kernel) ?_
  change VL E g z k w 1432 [(4, .int x4), (3, .ref (z + 139)), (2, .ref (rz (z + 93) 0)), (1, .ref (rz z 0)), (0, .ref b)] [.int r'.1, .int r.1] (r.2) (r'.2) fo
  refine l_icmp_eq (pc := 1432) (off := 179) (tgt := 1611) X (by decide +kernel) (by decide) (fun _ => ?_) (fun q => absurd ev q)
  exact l_widen (by omega) (by omega) (kk _ _ _ hrel)
set_option maxRecDepth 8000 in
set_option maxHeartbeats 2000000 in
theorem lc_chance (X : CLw E g z b L xs) (hw : k + 2 ≤ 1166 ∧ w + 16 ≤ 12582) (hsp : SP_chance Rel) (hr0 : Rel hC hR) {a1 : Int32} (i1 : vp_in (x4 + (1 : Int32)) L) (e1 : a1 = xs (x4 + (1 : Int32)).toNatClampNeg) {a2 : Int32} (i2 : vp_in (x4 + (2 : Int32)) L) (e2 : a2 = xs (x4 + (2 : Int32)).toNatClampNeg) {a3 : Int32} (i3 : vp_in (x4 + (3 : Int32)) L) (e3 : a3 = xs (x4 + (3 : Int32)).toNatClampNeg) {a4 : Int32} (i4 : vp_in (x4 + (4 : Int32)) L) (e4 : a4 = xs (x4 + (4 : Int32)).toNatClampNeg)
    (kk : ∀ (hC2 hR2 : Hp) (fo2 : Nat → Int64), Rel hC2 hR2 → VL E g z (k + 2) (w + 16) 1611 (LL z b x4) [] hC2 hR2 fo2) : VL E g z k w 1437 (LL z b x4) [] hC hR fo := by
  change VL E g z k w 1437 [(4, .int x4), (3, .ref (z + 139)), (2, .ref (rz (z + 93) 0)), (1, .ref (rz z 0)), (0, .ref b)] [] hC hR fo
  obtain ⟨r, r', er, er2, ev, hrel⟩ := hsp hC hR a1 a2 a3 a4 hr0
  refine l_aload_n (pc := 1437) (i := 1) X (by decide +kernel) 3 rfl ?_
  refine l_aload_n (pc := 1438) (i := 0) X (by decide +kernel) 4 rfl ?_
  refine l_iload (pc := 1439) (i := 4) X (by decide +kernel) 0 rfl ?_
  refine l_iconst (pc := 1441) (n0 := 1) X (by decide +kernel) ic_1 ?_
  refine l_iadd (pc := 1442) X (by decide +kernel) ?_
  refine l_sld (pc := 1443) X i1 e1 (by decide +kernel) ?_
  refine l_aload_n (pc := 1444) (i := 0) X (by decide +kernel) 4 rfl ?_
  refine l_iload (pc := 1445) (i := 4) X (by decide +kernel) 0 rfl ?_
  refine l_iconst (pc := 1447) (n0 := 2) X (by decide +kernel) ic_2 ?_
  refine l_iadd (pc := 1448) X (by decide +kernel) ?_
  refine l_sld (pc := 1449) X i2 e2 (by decide +kernel) ?_
  refine l_aload_n (pc := 1450) (i := 0) X (by decide +kernel) 4 rfl ?_
  refine l_iload (pc := 1451) (i := 4) X (by decide +kernel) 0 rfl ?_
  refine l_iconst (pc := 1453) (n0 := 3) X (by decide +kernel) ic_3 ?_
  refine l_iadd (pc := 1454) X (by decide +kernel) ?_
  refine l_sld (pc := 1455) X i3 e3 (by decide +kernel) ?_
  refine l_aload_n (pc := 1456) (i := 0) X (by decide +kernel) 4 rfl ?_
  refine l_iload (pc := 1457) (i := 4) X (by decide +kernel) 0 rfl ?_
  refine l_iconst (pc := 1459) (n0 := 4) X (by decide +kernel) ic_4 ?_
  refine l_iadd (pc := 1460) X (by decide +kernel) ?_
  refine l_sld (pc := 1461) X i4 e4 (by decide +kernel) ?_
  refine l_callC (pc := 1462) (As := [.int a1, .int a2, .int a3, .int a4]) (rest := []) X (mt_Tt_chance okC_93_101 (inj_rz _ _) (show kd TC 0 = 0 from rfl) er) ll_178 lv__Tt_chance rfl ⟨Nat.le_of_ble_eq_true rfl, Nat.le_of_ble_eq_true rfl⟩ ⟨by omega, by omega⟩ rfl rfl (Nat.le_of_ble_eq_true rfl) (by decide +kernel) ?_
  change VL E g z k w 1465 [(4, .int x4), (3, .ref (z + 139)), (2, .ref (rz (z + 93) 0)), (1, .ref (rz z 0)), (0, .ref b)] [.int r.1] (r.2) hR fo
  refine l_aload_n (pc := 1465) (i := 2) X (by decide +kernel) 2 rfl ?_
  refine l_aload_n (pc := 1466) (i := 0) X (by decide +kernel) 4 rfl ?_
  refine l_iload (pc := 1467) (i := 4) X (by decide +kernel) 0 rfl ?_
  refine l_iconst (pc := 1469) (n0 := 1) X (by decide +kernel) ic_1 ?_
  refine l_iadd (pc := 1470) X (by decide +kernel) ?_
  refine l_sld (pc := 1471) X i1 e1 (by decide +kernel) ?_
  refine l_aload_n (pc := 1472) (i := 0) X (by decide +kernel) 4 rfl ?_
  refine l_iload (pc := 1473) (i := 4) X (by decide +kernel) 0 rfl ?_
  refine l_iconst (pc := 1475) (n0 := 2) X (by decide +kernel) ic_2 ?_
  refine l_iadd (pc := 1476) X (by decide +kernel) ?_
  refine l_sld (pc := 1477) X i2 e2 (by decide +kernel) ?_
  refine l_aload_n (pc := 1478) (i := 0) X (by decide +kernel) 4 rfl ?_
  refine l_iload (pc := 1479) (i := 4) X (by decide +kernel) 0 rfl ?_
  refine l_iconst (pc := 1481) (n0 := 3) X (by decide +kernel) ic_3 ?_
  refine l_iadd (pc := 1482) X (by decide +kernel) ?_
  refine l_sld (pc := 1483) X i3 e3 (by decide +kernel) ?_
  refine l_aload_n (pc := 1484) (i := 0) X (by decide +kernel) 4 rfl ?_
  refine l_iload (pc := 1485) (i := 4) X (by decide +kernel) 0 rfl ?_
  refine l_iconst (pc := 1487) (n0 := 4) X (by decide +kernel) ic_4 ?_
  refine l_iadd (pc := 1488) X (by decide +kernel) ?_
  refine l_sld (pc := 1489) X i4 e4 (by decide +kernel) ?_
  refine l_callR (pc := 1490) (As := [.int a1, .int a2, .int a3, .int a4]) (rest := [.int r.1]) X (mt_Md_chance okR_46_45 (inj_rz _ _) (show kd TR 0 = 12 from rfl) er2) ll_182 lv__Md_chance rfl ⟨Nat.le_of_ble_eq_true rfl, Nat.le_of_ble_eq_true rfl⟩ ⟨by omega, by omega⟩ rfl rfl (Nat.le_of_ble_eq_true rfl) (by decide +kernel) ?_
  change VL E g z k w 1493 [(4, .int x4), (3, .ref (z + 139)), (2, .ref (rz (z + 93) 0)), (1, .ref (rz z 0)), (0, .ref b)] [.int r'.1, .int r.1] (r.2) (r'.2) fo
  refine l_icmp_eq (pc := 1493) (off := 118) (tgt := 1611) X (by decide +kernel) (by decide) (fun _ => ?_) (fun q => absurd ev q)
  exact l_widen (by omega) (by omega) (kk _ _ _ hrel)
set_option maxRecDepth 8000 in
set_option maxHeartbeats 2000000 in
theorem lc_tried (X : CLw E g z b L xs) (hw : k + 2 ≤ 1166 ∧ w + 16 ≤ 12582) (hsp : SP_tried Rel) (hr0 : Rel hC hR) {a1 : Int32} (i1 : vp_in (x4 + (1 : Int32)) L) (e1 : a1 = xs (x4 + (1 : Int32)).toNatClampNeg) {a2 : Int32} (i2 : vp_in (x4 + (2 : Int32)) L) (e2 : a2 = xs (x4 + (2 : Int32)).toNatClampNeg) {a3 : Int32} (i3 : vp_in (x4 + (3 : Int32)) L) (e3 : a3 = xs (x4 + (3 : Int32)).toNatClampNeg)
    (kk : ∀ (hC2 hR2 : Hp) (fo2 : Nat → Int64), Rel hC2 hR2 → VL E g z (k + 2) (w + 16) 1611 (LL z b x4) [] hC2 hR2 fo2) : VL E g z k w 1498 (LL z b x4) [] hC hR fo := by
  change VL E g z k w 1498 [(4, .int x4), (3, .ref (z + 139)), (2, .ref (rz (z + 93) 0)), (1, .ref (rz z 0)), (0, .ref b)] [] hC hR fo
  obtain ⟨r, r', er, er2, ev, hrel⟩ := hsp hC hR a1 a2 a3 hr0
  refine l_aload_n (pc := 1498) (i := 1) X (by decide +kernel) 3 rfl ?_
  refine l_aload_n (pc := 1499) (i := 0) X (by decide +kernel) 4 rfl ?_
  refine l_iload (pc := 1500) (i := 4) X (by decide +kernel) 0 rfl ?_
  refine l_iconst (pc := 1502) (n0 := 1) X (by decide +kernel) ic_1 ?_
  refine l_iadd (pc := 1503) X (by decide +kernel) ?_
  refine l_sld (pc := 1504) X i1 e1 (by decide +kernel) ?_
  refine l_aload_n (pc := 1505) (i := 0) X (by decide +kernel) 4 rfl ?_
  refine l_iload (pc := 1506) (i := 4) X (by decide +kernel) 0 rfl ?_
  refine l_iconst (pc := 1508) (n0 := 2) X (by decide +kernel) ic_2 ?_
  refine l_iadd (pc := 1509) X (by decide +kernel) ?_
  refine l_sld (pc := 1510) X i2 e2 (by decide +kernel) ?_
  refine l_aload_n (pc := 1511) (i := 0) X (by decide +kernel) 4 rfl ?_
  refine l_iload (pc := 1512) (i := 4) X (by decide +kernel) 0 rfl ?_
  refine l_iconst (pc := 1514) (n0 := 3) X (by decide +kernel) ic_3 ?_
  refine l_iadd (pc := 1515) X (by decide +kernel) ?_
  refine l_sld (pc := 1516) X i3 e3 (by decide +kernel) ?_
  refine l_callC (pc := 1517) (As := [.int a1, .int a2, .int a3]) (rest := []) X (mt_Tt_tried okC_93_101 (inj_rz _ _) (show kd TC 0 = 0 from rfl) er) ll_183 lv__Tt_tried rfl ⟨Nat.le_of_ble_eq_true rfl, Nat.le_of_ble_eq_true rfl⟩ ⟨by omega, by omega⟩ rfl rfl (Nat.le_of_ble_eq_true rfl) (by decide +kernel) ?_
  change VL E g z k w 1520 [(4, .int x4), (3, .ref (z + 139)), (2, .ref (rz (z + 93) 0)), (1, .ref (rz z 0)), (0, .ref b)] [.int r.1] (r.2) hR fo
  refine l_aload_n (pc := 1520) (i := 2) X (by decide +kernel) 2 rfl ?_
  refine l_aload_n (pc := 1521) (i := 0) X (by decide +kernel) 4 rfl ?_
  refine l_iload (pc := 1522) (i := 4) X (by decide +kernel) 0 rfl ?_
  refine l_iconst (pc := 1524) (n0 := 1) X (by decide +kernel) ic_1 ?_
  refine l_iadd (pc := 1525) X (by decide +kernel) ?_
  refine l_sld (pc := 1526) X i1 e1 (by decide +kernel) ?_
  refine l_aload_n (pc := 1527) (i := 0) X (by decide +kernel) 4 rfl ?_
  refine l_iload (pc := 1528) (i := 4) X (by decide +kernel) 0 rfl ?_
  refine l_iconst (pc := 1530) (n0 := 2) X (by decide +kernel) ic_2 ?_
  refine l_iadd (pc := 1531) X (by decide +kernel) ?_
  refine l_sld (pc := 1532) X i2 e2 (by decide +kernel) ?_
  refine l_aload_n (pc := 1533) (i := 0) X (by decide +kernel) 4 rfl ?_
  refine l_iload (pc := 1534) (i := 4) X (by decide +kernel) 0 rfl ?_
  refine l_iconst (pc := 1536) (n0 := 3) X (by decide +kernel) ic_3 ?_
  refine l_iadd (pc := 1537) X (by decide +kernel) ?_
  refine l_sld (pc := 1538) X i3 e3 (by decide +kernel) ?_
  refine l_callR (pc := 1539) (As := [.int a1, .int a2, .int a3]) (rest := [.int r.1]) X (mt_Md_tried okR_46_45 (inj_rz _ _) (show kd TR 0 = 12 from rfl) er2) ll_186 lv__Md_tried rfl ⟨Nat.le_of_ble_eq_true rfl, Nat.le_of_ble_eq_true rfl⟩ ⟨by omega, by omega⟩ rfl rfl (Nat.le_of_ble_eq_true rfl) (by decide +kernel) ?_
  change VL E g z k w 1542 [(4, .int x4), (3, .ref (z + 139)), (2, .ref (rz (z + 93) 0)), (1, .ref (rz z 0)), (0, .ref b)] [.int r'.1, .int r.1] (r.2) (r'.2) fo
  refine l_icmp_eq (pc := 1542) (off := 69) (tgt := 1611) X (by decide +kernel) (by decide) (fun _ => ?_) (fun q => absurd ev q)
  exact l_widen (by omega) (by omega) (kk _ _ _ hrel)
set_option maxRecDepth 8000 in
set_option maxHeartbeats 2000000 in
theorem lc_undo (X : CLw E g z b L xs) (hw : k + 2 ≤ 1166 ∧ w + 16 ≤ 12582) (hsp : SP_undo Rel) (hr0 : Rel hC hR)
    (kk : ∀ (hC2 hR2 : Hp) (fo2 : Nat → Int64), Rel hC2 hR2 → VL E g z (k + 2) (w + 16) 1611 (LL z b x4) [] hC2 hR2 fo2) : VL E g z k w 1547 (LL z b x4) [] hC hR fo := by
  change VL E g z k w 1547 [(4, .int x4), (3, .ref (z + 139)), (2, .ref (rz (z + 93) 0)), (1, .ref (rz z 0)), (0, .ref b)] [] hC hR fo
  obtain ⟨r, r', er, er2, ev, hrel⟩ := hsp hC hR hr0
  refine l_aload_n (pc := 1547) (i := 1) X (by decide +kernel) 3 rfl ?_
  refine l_callC (pc := 1548) (As := []) (rest := []) X (mt_Tt_undo okC_93_101 (inj_rz _ _) (show kd TC 0 = 0 from rfl) er) ll_187 lv__Tt_undo rfl ⟨Nat.le_of_ble_eq_true rfl, Nat.le_of_ble_eq_true rfl⟩ ⟨by omega, by omega⟩ rfl rfl (Nat.le_of_ble_eq_true rfl) (by decide +kernel) ?_
  change VL E g z k w 1551 [(4, .int x4), (3, .ref (z + 139)), (2, .ref (rz (z + 93) 0)), (1, .ref (rz z 0)), (0, .ref b)] [.int r.1] (r.2) hR fo
  refine l_aload_n (pc := 1551) (i := 2) X (by decide +kernel) 2 rfl ?_
  refine l_callR (pc := 1552) (As := []) (rest := [.int r.1]) X (mt_Md_undo okR_46_45 (inj_rz _ _) (show kd TR 0 = 12 from rfl) er2) ll_190 lv__Md_undo rfl ⟨Nat.le_of_ble_eq_true rfl, Nat.le_of_ble_eq_true rfl⟩ ⟨by omega, by omega⟩ rfl rfl (Nat.le_of_ble_eq_true rfl) (by decide +kernel) ?_
  change VL E g z k w 1555 [(4, .int x4), (3, .ref (z + 139)), (2, .ref (rz (z + 93) 0)), (1, .ref (rz z 0)), (0, .ref b)] [.int r'.1, .int r.1] (r.2) (r'.2) fo
  refine l_icmp_eq (pc := 1555) (off := 56) (tgt := 1611) X (by decide +kernel) (by decide) (fun _ => ?_) (fun q => absurd ev q)
  exact l_widen (by omega) (by omega) (kk _ _ _ hrel)
set_option maxRecDepth 8000 in
set_option maxHeartbeats 2000000 in
theorem lc_keep (X : CLw E g z b L xs) (hw : k + 2 ≤ 1166 ∧ w + 16 ≤ 12582) (hsp : SP_keep Rel) (hr0 : Rel hC hR)
    (kk : ∀ (hC2 hR2 : Hp) (fo2 : Nat → Int64), Rel hC2 hR2 → VL E g z (k + 2) (w + 16) 1611 (LL z b x4) [] hC2 hR2 fo2) : VL E g z k w 1560 (LL z b x4) [] hC hR fo := by
  change VL E g z k w 1560 [(4, .int x4), (3, .ref (z + 139)), (2, .ref (rz (z + 93) 0)), (1, .ref (rz z 0)), (0, .ref b)] [] hC hR fo
  obtain ⟨r, r', er, er2, ev, hrel⟩ := hsp hC hR hr0
  refine l_aload_n (pc := 1560) (i := 1) X (by decide +kernel) 3 rfl ?_
  refine l_callC (pc := 1561) (As := []) (rest := []) X (mt_Tt_keep okC_93_101 (inj_rz _ _) (show kd TC 0 = 0 from rfl) er) ll_191 lv__Tt_keep rfl ⟨Nat.le_of_ble_eq_true rfl, Nat.le_of_ble_eq_true rfl⟩ ⟨by omega, by omega⟩ rfl rfl (Nat.le_of_ble_eq_true rfl) (by decide +kernel) ?_
  change VL E g z k w 1564 [(4, .int x4), (3, .ref (z + 139)), (2, .ref (rz (z + 93) 0)), (1, .ref (rz z 0)), (0, .ref b)] [.int r.1] (r.2) hR fo
  refine l_aload_n (pc := 1564) (i := 2) X (by decide +kernel) 2 rfl ?_
  refine l_callR (pc := 1565) (As := []) (rest := [.int r.1]) X (mt_Md_keep okR_46_45 (inj_rz _ _) (show kd TR 0 = 12 from rfl) er2) ll_194 lv__Md_keep rfl ⟨Nat.le_of_ble_eq_true rfl, Nat.le_of_ble_eq_true rfl⟩ ⟨by omega, by omega⟩ rfl rfl (Nat.le_of_ble_eq_true rfl) (by decide +kernel) ?_
  change VL E g z k w 1568 [(4, .int x4), (3, .ref (z + 139)), (2, .ref (rz (z + 93) 0)), (1, .ref (rz z 0)), (0, .ref b)] [.int r'.1, .int r.1] (r.2) (r'.2) fo
  refine l_icmp_eq (pc := 1568) (off := 43) (tgt := 1611) X (by decide +kernel) (by decide) (fun _ => ?_) (fun q => absurd ev q)
  exact l_widen (by omega) (by omega) (kk _ _ _ hrel)
set_option maxRecDepth 8000 in
set_option maxHeartbeats 2000000 in
theorem lc_back (X : CLw E g z b L xs) (hw : k + 2 ≤ 1166 ∧ w + 16 ≤ 12582) (hsp : SP_back Rel) (hr0 : Rel hC hR)
    (kk : ∀ (hC2 hR2 : Hp) (fo2 : Nat → Int64), Rel hC2 hR2 → VL E g z (k + 2) (w + 16) 1611 (LL z b x4) [] hC2 hR2 fo2) : VL E g z k w 1573 (LL z b x4) [] hC hR fo := by
  change VL E g z k w 1573 [(4, .int x4), (3, .ref (z + 139)), (2, .ref (rz (z + 93) 0)), (1, .ref (rz z 0)), (0, .ref b)] [] hC hR fo
  obtain ⟨r, r', er, er2, ev, hrel⟩ := hsp hC hR hr0
  refine l_aload_n (pc := 1573) (i := 1) X (by decide +kernel) 3 rfl ?_
  refine l_callC (pc := 1574) (As := []) (rest := []) X (mt_Tt_back okC_93_101 (inj_rz _ _) (show kd TC 0 = 0 from rfl) er) ll_195 lv__Tt_back rfl ⟨Nat.le_of_ble_eq_true rfl, Nat.le_of_ble_eq_true rfl⟩ ⟨by omega, by omega⟩ rfl rfl (Nat.le_of_ble_eq_true rfl) (by decide +kernel) ?_
  change VL E g z k w 1577 [(4, .int x4), (3, .ref (z + 139)), (2, .ref (rz (z + 93) 0)), (1, .ref (rz z 0)), (0, .ref b)] [.int r.1] (r.2) hR fo
  refine l_aload_n (pc := 1577) (i := 2) X (by decide +kernel) 2 rfl ?_
  refine l_callR (pc := 1578) (As := []) (rest := [.int r.1]) X (mt_Md_back okR_46_45 (inj_rz _ _) (show kd TR 0 = 12 from rfl) er2) ll_198 lv__Md_back rfl ⟨Nat.le_of_ble_eq_true rfl, Nat.le_of_ble_eq_true rfl⟩ ⟨by omega, by omega⟩ rfl rfl (Nat.le_of_ble_eq_true rfl) (by decide +kernel) ?_
  change VL E g z k w 1581 [(4, .int x4), (3, .ref (z + 139)), (2, .ref (rz (z + 93) 0)), (1, .ref (rz z 0)), (0, .ref b)] [.int r'.1, .int r.1] (r.2) (r'.2) fo
  refine l_icmp_eq (pc := 1581) (off := 30) (tgt := 1611) X (by decide +kernel) (by decide) (fun _ => ?_) (fun q => absurd ev q)
  exact l_widen (by omega) (by omega) (kk _ _ _ hrel)
set_option maxRecDepth 8000 in
set_option maxHeartbeats 2000000 in
theorem lc_count (X : CLw E g z b L xs) (hw : k + 2 ≤ 1166 ∧ w + 16 ≤ 12582) (hsp : SP_count Rel) (hr0 : Rel hC hR) {a1 : Int32} (i1 : vp_in (x4 + (1 : Int32)) L) (e1 : a1 = xs (x4 + (1 : Int32)).toNatClampNeg)
    (kk : ∀ (hC2 hR2 : Hp) (fo2 : Nat → Int64), Rel hC2 hR2 → VL E g z (k + 2) (w + 16) 1611 (LL z b x4) [] hC2 hR2 fo2) : VL E g z k w 1586 (LL z b x4) [] hC hR fo := by
  change VL E g z k w 1586 [(4, .int x4), (3, .ref (z + 139)), (2, .ref (rz (z + 93) 0)), (1, .ref (rz z 0)), (0, .ref b)] [] hC hR fo
  obtain ⟨r, r', er, er2, ev, hrel⟩ := hsp hC hR a1 hr0
  refine l_aload_n (pc := 1586) (i := 1) X (by decide +kernel) 3 rfl ?_
  refine l_aload_n (pc := 1587) (i := 0) X (by decide +kernel) 4 rfl ?_
  refine l_iload (pc := 1588) (i := 4) X (by decide +kernel) 0 rfl ?_
  refine l_iconst (pc := 1590) (n0 := 1) X (by decide +kernel) ic_1 ?_
  refine l_iadd (pc := 1591) X (by decide +kernel) ?_
  refine l_sld (pc := 1592) X i1 e1 (by decide +kernel) ?_
  refine l_callC (pc := 1593) (As := [.int a1]) (rest := []) X (mt_Tt_count okC_93_101 (inj_rz _ _) (show kd TC 0 = 0 from rfl) er) ll_199 lv__Tt_count rfl ⟨Nat.le_of_ble_eq_true rfl, Nat.le_of_ble_eq_true rfl⟩ ⟨by omega, by omega⟩ rfl rfl (Nat.le_of_ble_eq_true rfl) (by decide +kernel) ?_
  change VL E g z k w 1596 [(4, .int x4), (3, .ref (z + 139)), (2, .ref (rz (z + 93) 0)), (1, .ref (rz z 0)), (0, .ref b)] [.int r] hC hR fo
  refine l_aload_n (pc := 1596) (i := 2) X (by decide +kernel) 2 rfl ?_
  refine l_aload_n (pc := 1597) (i := 0) X (by decide +kernel) 4 rfl ?_
  refine l_iload (pc := 1598) (i := 4) X (by decide +kernel) 0 rfl ?_
  refine l_iconst (pc := 1600) (n0 := 1) X (by decide +kernel) ic_1 ?_
  refine l_iadd (pc := 1601) X (by decide +kernel) ?_
  refine l_sld (pc := 1602) X i1 e1 (by decide +kernel) ?_
  refine l_callR (pc := 1603) (As := [.int a1]) (rest := [.int r]) X (mt_Md_count okR_46_45 (inj_rz _ _) (show kd TR 0 = 12 from rfl) er2) ll_202 lv__Md_count rfl ⟨Nat.le_of_ble_eq_true rfl, Nat.le_of_ble_eq_true rfl⟩ ⟨by omega, by omega⟩ rfl rfl (Nat.le_of_ble_eq_true rfl) (by decide +kernel) ?_
  change VL E g z k w 1606 [(4, .int x4), (3, .ref (z + 139)), (2, .ref (rz (z + 93) 0)), (1, .ref (rz z 0)), (0, .ref b)] [.int r'.1, .int r] hC (r'.2) fo
  refine l_icmp_eq (pc := 1606) (off := 5) (tgt := 1611) X (by decide +kernel) (by decide) (fun _ => ?_) (fun q => absurd ev q)
  exact l_widen (by omega) (by omega) (kk _ _ _ hrel)
set_option maxRecDepth 8000 in
set_option maxHeartbeats 2000000 in
theorem lc_horse (X : CLw E g z b L xs) (hw : k + 2 ≤ 1166 ∧ w + 16 ≤ 12582) (hsp : SP_horse Rel) (hr0 : Rel hC hR) {a1 : Int32} (i1 : vp_in (x4 + (1 : Int32)) L) (e1 : a1 = xs (x4 + (1 : Int32)).toNatClampNeg) {a2 : Int32} (i2 : vp_in (x4 + (2 : Int32)) L) (e2 : a2 = xs (x4 + (2 : Int32)).toNatClampNeg)
    (kk : ∀ (hC2 hR2 : Hp) (fo2 : Nat → Int64), Rel hC2 hR2 → VL E g z (k + 2) (w + 16) 1611 (LL z b x4) [] hC2 hR2 fo2) : VL E g z k w 384 (LL z b x4) [] hC hR fo := by
  change VL E g z k w 384 [(4, .int x4), (3, .ref (z + 139)), (2, .ref (rz (z + 93) 0)), (1, .ref (rz z 0)), (0, .ref b)] [] hC hR fo
  obtain ⟨r, r', er, er2, et, ev, hrel⟩ := hsp hC hR a1 a2 hr0
  refine l_aload_n (pc := 384) (i := 1) X (by decide +kernel) 3 rfl ?_
  refine l_aload_n (pc := 385) (i := 0) X (by decide +kernel) 4 rfl ?_
  refine l_iload (pc := 386) (i := 4) X (by decide +kernel) 0 rfl ?_
  refine l_iconst (pc := 388) (n0 := 1) X (by decide +kernel) ic_1 ?_
  refine l_iadd (pc := 389) X (by decide +kernel) ?_
  refine l_sld (pc := 390) X i1 e1 (by decide +kernel) ?_
  refine l_aload_n (pc := 391) (i := 0) X (by decide +kernel) 4 rfl ?_
  refine l_iload (pc := 392) (i := 4) X (by decide +kernel) 0 rfl ?_
  refine l_iconst (pc := 394) (n0 := 2) X (by decide +kernel) ic_2 ?_
  refine l_iadd (pc := 395) X (by decide +kernel) ?_
  refine l_sld (pc := 396) X i2 e2 (by decide +kernel) ?_
  refine l_aload_n (pc := 397) (i := 3) X (by decide +kernel) 1 rfl ?_
  refine l_horse (pc := 398) (rest := []) X er ⟨by omega, by omega⟩ (Nat.le_of_ble_eq_true rfl) (by decide +kernel) ?_
  refine l_istore (pc := 401) (i := 5) (lv' := [(5, .int r.1), (4, .int x4), (3, .ref (z + 139)), (2, .ref (rz (z + 93) 0)), (1, .ref (rz z 0)), (0, .ref b)]) X (by decide +kernel) (by decide) rfl ?_
  refine l_aload_n (pc := 403) (i := 2) X (by decide +kernel) 3 rfl ?_
  refine l_aload_n (pc := 404) (i := 0) X (by decide +kernel) 5 rfl ?_
  refine l_iload (pc := 405) (i := 4) X (by decide +kernel) 1 rfl ?_
  refine l_iconst (pc := 407) (n0 := 1) X (by decide +kernel) ic_1 ?_
  refine l_iadd (pc := 408) X (by decide +kernel) ?_
  refine l_sld (pc := 409) X i1 e1 (by decide +kernel) ?_
  refine l_aload_n (pc := 410) (i := 0) X (by decide +kernel) 5 rfl ?_
  refine l_iload (pc := 411) (i := 4) X (by decide +kernel) 1 rfl ?_
  refine l_iconst (pc := 413) (n0 := 2) X (by decide +kernel) ic_2 ?_
  refine l_iadd (pc := 414) X (by decide +kernel) ?_
  refine l_sld (pc := 415) X i2 e2 (by decide +kernel) ?_
  refine l_callR (pc := 416) (As := [.int a1, .int a2]) (rest := []) X (mt_Md_horse okR_46_45 (inj_rz _ _) (show kd TR 0 = 12 from rfl) er2) ll_44 lv__Md_horse rfl ⟨Nat.le_of_ble_eq_true rfl, Nat.le_of_ble_eq_true rfl⟩ ⟨by omega, by omega⟩ rfl rfl (Nat.le_of_ble_eq_true rfl) (by decide +kernel) ?_
  change VL E g z (k + 1) (w + 6) 419 [(5, .int r.1), (4, .int x4), (3, .ref (z + 139)), (2, .ref (rz (z + 93) 0)), (1, .ref (rz z 0)), (0, .ref b)] [.int r'.1] hC r'.2 (foOf r fo)
  refine l_istore (pc := 419) (i := 6) (lv' := [(6, .int r'.1), (5, .int r.1), (4, .int x4), (3, .ref (z + 139)), (2, .ref (rz (z + 93) 0)), (1, .ref (rz z 0)), (0, .ref b)]) X (by decide +kernel) (by decide) rfl ?_
  refine l_aload_n (pc := 421) (i := 2) X (by decide +kernel) 4 rfl ?_
  refine l_callR (pc := 422) (As := []) (rest := []) X (mt_Md_thrown okR_46_45 (inj_rz _ _) (show kd TR 0 = 12 from rfl) et) ll_45 lv__Md_thrown rfl ⟨Nat.le_of_ble_eq_true rfl, Nat.le_of_ble_eq_true rfl⟩ ⟨by omega, by omega⟩ rfl rfl (Nat.le_of_ble_eq_true rfl) (by decide +kernel) ?_
  change VL E g z (k + 1) (w + 6) 425 [(6, .int r'.1), (5, .int r.1), (4, .int x4), (3, .ref (z + 139)), (2, .ref (rz (z + 93) 0)), (1, .ref (rz z 0)), (0, .ref b)] [.int r.1] hC r'.2 (foOf r fo)
  refine l_iload (pc := 425) (i := 5) X (by decide +kernel) 1 rfl ?_
  refine l_icmp_eq (pc := 427) (off := 5) (tgt := 432) X (by decide +kernel) (by decide) (fun _ => ?_) (fun q => absurd rfl q)
  refine l_iload (pc := 432) (i := 5) X (by decide +kernel) 1 rfl ?_
  refine l_if_ne (pc := 434) (off := 15) (tgt := 449) X (by decide +kernel) (by decide) (fun q0 => ?_) (fun q0 => ?_)
  · refine l_goto (pc := 449) (off := 1162) (tgt := 1611) X (by decide +kernel) (by decide) ?_
    refine l_sub [2, 3, 4, 5, 6] rfl ?_
    exact l_widen (by omega) (by omega) (kk _ _ _ hrel)
  · refine l_aload_n (pc := 437) (i := 3) X (by decide +kernel) 3 rfl ?_
    refine l_iconst (pc := 438) (n0 := 0) X (by decide +kernel) ic_0 ?_
    refine l_out (pc := 439) X rfl (by decide +kernel) ?_
    refine l_iload (pc := 440) (i := 6) X (by decide +kernel) 0 rfl ?_
    refine l_i2l (pc := 442) X (by decide +kernel) ?_
    refine l_lcmp (pc := 443) X (by decide +kernel) ?_
    refine l_if_eq (pc := 444) (off := 5) (tgt := 449) X (by decide +kernel) (by decide) (fun _ => ?_) (fun q => absurd (by unfold foOf; rw [if_pos q0]; show lg_cmp (vp_updL fo 0 r.2.toInt64 0) _ = 0; rw [show vp_updL fo 0 r.2.toInt64 0 = r.2.toInt64 from if_pos rfl, ev q0]; exact lcmp_rf _) q)
    refine l_goto (pc := 449) (off := 1162) (tgt := 1611) X (by decide +kernel) (by decide) ?_
    refine l_sub [2, 3, 4, 5, 6] rfl ?_
    exact l_widen (by omega) (by omega) (kk _ _ _ hrel)
end LC
