theorem mvL_100 : pm_LV RL 100 yX12_longAt cX12_longAt 3 (some .int) 2 12 := ⟨⟨lw_gm 1298 (by decide +kernel) (by decide +kernel), lw_gm 81 (by decide +kernel) (by decide +kernel), lw_gm 1301 (by decide +kernel) (by decide +kernel), by decide +kernel, by decide⟩, ⟨lw_gm 1299 (by decide +kernel) (by decide +kernel), lw_gm 1300 (by decide +kernel) (by decide +kernel)⟩, _, _, rfl⟩
theorem mvL_101 : pm_LV RL 101 yX11_firstShort cX11_firstShort 3 (some .int) 1 11 := ⟨⟨lw_gm 740 (by decide +kernel) (by decide +kernel), lw_gm 69 (by decide +kernel) (by decide +kernel), lw_gm 743 (by decide +kernel) (by decide +kernel), by decide +kernel, by decide⟩, ⟨lw_gm 741 (by decide +kernel) (by decide +kernel), lw_gm 742 (by decide +kernel) (by decide +kernel)⟩, _, _, rfl⟩
theorem mvL_104 : pm_LV RL 104 yX12_firstShort cX12_firstShort 3 (some .int) 1 12 := ⟨⟨lw_gm 1310 (by decide +kernel) (by decide +kernel), lw_gm 81 (by decide +kernel) (by decide +kernel), lw_gm 1313 (by decide +kernel) (by decide +kernel), by decide +kernel, by decide⟩, ⟨lw_gm 1311 (by decide +kernel) (by decide +kernel), lw_gm 1312 (by decide +kernel) (by decide +kernel)⟩, _, _, rfl⟩
theorem mvL_105 : pm_LV RL 105 yX11_planeWhen cX11_planeWhen 7 (some .int) 2 11 := ⟨⟨lw_gm 744 (by decide +kernel) (by decide +kernel), lw_gm 69 (by decide +kernel) (by decide +kernel), lw_gm 747 (by decide +kernel) (by decide +kernel), by decide +kernel, by decide⟩, ⟨lw_gm 745 (by decide +kernel) (by decide +kernel), lw_gm 746 (by decide +kernel) (by decide +kernel)⟩, _, _, rfl⟩
theorem mvL_108 : pm_LV RL 108 yX12_planeWhen cX12_planeWhen 7 (some .int) 2 12 := ⟨⟨lw_gm 1315 (by decide +kernel) (by decide +kernel), lw_gm 81 (by decide +kernel) (by decide +kernel), lw_gm 1318 (by decide +kernel) (by decide +kernel), by decide +kernel, by decide⟩, ⟨lw_gm 1316 (by decide +kernel) (by decide +kernel), lw_gm 1317 (by decide +kernel) (by decide +kernel)⟩, _, _, rfl⟩
theorem mvL_109 : pm_LV RL 109 yX11_had cX11_had 2 (some .int) 1 11 := ⟨⟨lw_gm 748 (by decide +kernel) (by decide +kernel), lw_gm 69 (by decide +kernel) (by decide +kernel), lw_gm 751 (by decide +kernel) (by decide +kernel), by decide +kernel, by decide⟩, ⟨lw_gm 749 (by decide +kernel) (by decide +kernel), lw_gm 750 (by decide +kernel) (by decide +kernel)⟩, _, _, rfl⟩
theorem mvL_112 : pm_LV RL 112 yX12_had cX12_had 2 (some .int) 1 12 := ⟨⟨lw_gm 1319 (by decide +kernel) (by decide +kernel), lw_gm 81 (by decide +kernel) (by decide +kernel), lw_gm 1322 (by decide +kernel) (by decide +kernel), by decide +kernel, by decide⟩, ⟨lw_gm 1320 (by decide +kernel) (by decide +kernel), lw_gm 1321 (by decide +kernel) (by decide +kernel)⟩, _, _, rfl⟩
theorem mvL_113 : pm_LV RL 113 yX11_parts cX11_parts 4 (some .int) 1 11 := ⟨⟨lw_gm 772 (by decide +kernel) (by decide +kernel), lw_gm 69 (by decide +kernel) (by decide +kernel), lw_gm 775 (by decide +kernel) (by decide +kernel), by decide +kernel, by decide⟩, ⟨lw_gm 773 (by decide +kernel) (by decide +kernel), lw_gm 774 (by decide +kernel) (by decide +kernel)⟩, _, _, rfl⟩
theorem mvL_116 : pm_LV RL 116 yX12_parts cX12_parts 4 (some .int) 1 12 := ⟨⟨lw_gm 1332 (by decide +kernel) (by decide +kernel), lw_gm 81 (by decide +kernel) (by decide +kernel), lw_gm 1335 (by decide +kernel) (by decide +kernel), by decide +kernel, by decide⟩, ⟨lw_gm 1333 (by decide +kernel) (by decide +kernel), lw_gm 1334 (by decide +kernel) (by decide +kernel)⟩, _, _, rfl⟩
theorem mvL_117 : pm_LV RL 117 yX11_fold cX11_fold 2 (some .int) 1 11 := ⟨⟨lw_gm 776 (by decide +kernel) (by decide +kernel), lw_gm 69 (by decide +kernel) (by decide +kernel), lw_gm 779 (by decide +kernel) (by decide +kernel), by decide +kernel, by decide⟩, ⟨lw_gm 777 (by decide +kernel) (by decide +kernel), lw_gm 778 (by decide +kernel) (by decide +kernel)⟩, _, _, rfl⟩
theorem mvL_120 : pm_LV RL 120 yX12_fold cX12_fold 2 (some .int) 1 12 := ⟨⟨lw_gm 1336 (by decide +kernel) (by decide +kernel), lw_gm 81 (by decide +kernel) (by decide +kernel), lw_gm 1339 (by decide +kernel) (by decide +kernel), by decide +kernel, by decide⟩, ⟨lw_gm 1337 (by decide +kernel) (by decide +kernel), lw_gm 1338 (by decide +kernel) (by decide +kernel)⟩, _, _, rfl⟩
theorem mvL_121 : pm_LV RL 121 yX11_posts cX11_posts 2 (some .int) 1 11 := ⟨⟨lw_gm 780 (by decide +kernel) (by decide +kernel), lw_gm 69 (by decide +kernel) (by decide +kernel), lw_gm 783 (by decide +kernel) (by decide +kernel), by decide +kernel, by decide⟩, ⟨lw_gm 781 (by decide +kernel) (by decide +kernel), lw_gm 782 (by decide +kernel) (by decide +kernel)⟩, _, _, rfl⟩
theorem mvL_124 : pm_LV RL 124 yX12_posts cX12_posts 5 (some .int) 1 12 := ⟨⟨lw_gm 1340 (by decide +kernel) (by decide +kernel), lw_gm 81 (by decide +kernel) (by decide +kernel), lw_gm 1343 (by decide +kernel) (by decide +kernel), by decide +kernel, by decide⟩, ⟨lw_gm 1341 (by decide +kernel) (by decide +kernel), lw_gm 1342 (by decide +kernel) (by decide +kernel)⟩, _, _, rfl⟩
theorem mvL_125 : pm_LV RL 125 yX11_toShorten cX11_toShorten 5 (some .int) 2 11 := ⟨⟨lw_gm 807 (by decide +kernel) (by decide +kernel), lw_gm 69 (by decide +kernel) (by decide +kernel), lw_gm 810 (by decide +kernel) (by decide +kernel), by decide +kernel, by decide⟩, ⟨lw_gm 808 (by decide +kernel) (by decide +kernel), lw_gm 809 (by decide +kernel) (by decide +kernel)⟩, _, _, rfl⟩
theorem mvL_128 : pm_LV RL 128 yX12_toShorten cX12_toShorten 4 (some .int) 2 12 := ⟨⟨lw_gm 1355 (by decide +kernel) (by decide +kernel), lw_gm 81 (by decide +kernel) (by decide +kernel), lw_gm 1358 (by decide +kernel) (by decide +kernel), by decide +kernel, by decide⟩, ⟨lw_gm 1356 (by decide +kernel) (by decide +kernel), lw_gm 1357 (by decide +kernel) (by decide +kernel)⟩, _, _, rfl⟩
theorem mvL_129 : pm_LV RL 129 yX11_wasWarped cX11_wasWarped 8 (some .int) 3 11 := ⟨⟨lw_gm 812 (by decide +kernel) (by decide +kernel), lw_gm 69 (by decide +kernel) (by decide +kernel), lw_gm 815 (by decide +kernel) (by decide +kernel), by decide +kernel, by decide⟩, ⟨lw_gm 813 (by decide +kernel) (by decide +kernel), lw_gm 814 (by decide +kernel) (by decide +kernel)⟩, _, _, rfl⟩
theorem mvL_13 : pm_LV RL 13 yX11_feed cX11_feed 2 (some .int) 1 11 := ⟨⟨lw_gm 438 (by decide +kernel) (by decide +kernel), lw_gm 69 (by decide +kernel) (by decide +kernel), lw_gm 441 (by decide +kernel) (by decide +kernel), by decide +kernel, by decide⟩, ⟨lw_gm 439 (by decide +kernel) (by decide +kernel), lw_gm 440 (by decide +kernel) (by decide +kernel)⟩, _, _, rfl⟩
theorem mvL_133 : pm_LV RL 133 yX12_wasWarped cX12_wasWarped 10 (some .int) 3 12 := ⟨⟨lw_gm 1359 (by decide +kernel) (by decide +kernel), lw_gm 81 (by decide +kernel) (by decide +kernel), lw_gm 1362 (by decide +kernel) (by decide +kernel), by decide +kernel, by decide⟩, ⟨lw_gm 1360 (by decide +kernel) (by decide +kernel), lw_gm 1361 (by decide +kernel) (by decide +kernel)⟩, _, _, rfl⟩
theorem mvL_134 : pm_LV RL 134 yX11_alike cX11_alike 2 (some .int) 1 11 := ⟨⟨lw_gm 822 (by decide +kernel) (by decide +kernel), lw_gm 69 (by decide +kernel) (by decide +kernel), lw_gm 825 (by decide +kernel) (by decide +kernel), by decide +kernel, by decide⟩, ⟨lw_gm 823 (by decide +kernel) (by decide +kernel), lw_gm 824 (by decide +kernel) (by decide +kernel)⟩, _, _, rfl⟩
theorem mvL_137 : pm_LV RL 137 yX12_alike cX12_alike 5 (some .int) 1 12 := ⟨⟨lw_gm 1364 (by decide +kernel) (by decide +kernel), lw_gm 81 (by decide +kernel) (by decide +kernel), lw_gm 1367 (by decide +kernel) (by decide +kernel), by decide +kernel, by decide⟩, ⟨lw_gm 1365 (by decide +kernel) (by decide +kernel), lw_gm 1366 (by decide +kernel) (by decide +kernel)⟩, _, _, rfl⟩
theorem mvL_138 : pm_LV RL 138 yX11_hands cX11_hands 2 (some .int) 1 11 := ⟨⟨lw_gm 830 (by decide +kernel) (by decide +kernel), lw_gm 69 (by decide +kernel) (by decide +kernel), lw_gm 833 (by decide +kernel) (by decide +kernel), by decide +kernel, by decide⟩, ⟨lw_gm 831 (by decide +kernel) (by decide +kernel), lw_gm 832 (by decide +kernel) (by decide +kernel)⟩, _, _, rfl⟩
theorem mvL_141 : pm_LV RL 141 yX12_hands cX12_hands 2 (some .int) 1 12 := ⟨⟨lw_gm 1368 (by decide +kernel) (by decide +kernel), lw_gm 81 (by decide +kernel) (by decide +kernel), lw_gm 1371 (by decide +kernel) (by decide +kernel), by decide +kernel, by decide⟩, ⟨lw_gm 1369 (by decide +kernel) (by decide +kernel), lw_gm 1370 (by decide +kernel) (by decide +kernel)⟩, _, _, rfl⟩
theorem mvL_142 : pm_LV RL 142 yX11_tens cX11_tens 5 (some .int) 3 11 := ⟨⟨lw_gm 851 (by decide +kernel) (by decide +kernel), lw_gm 69 (by decide +kernel) (by decide +kernel), lw_gm 854 (by decide +kernel) (by decide +kernel), by decide +kernel, by decide⟩, ⟨lw_gm 852 (by decide +kernel) (by decide +kernel), lw_gm 853 (by decide +kernel) (by decide +kernel)⟩, _, _, rfl⟩
theorem mvL_145 : pm_LV RL 145 yX12_tens cX12_tens 5 (some .int) 3 12 := ⟨⟨lw_gm 1385 (by decide +kernel) (by decide +kernel), lw_gm 81 (by decide +kernel) (by decide +kernel), lw_gm 1388 (by decide +kernel) (by decide +kernel), by decide +kernel, by decide⟩, ⟨lw_gm 1386 (by decide +kernel) (by decide +kernel), lw_gm 1387 (by decide +kernel) (by decide +kernel)⟩, _, _, rfl⟩
theorem mvL_146 : pm_LV RL 146 yX11_lean cX11_lean 5 (some .int) 3 11 := ⟨⟨lw_gm 855 (by decide +kernel) (by decide +kernel), lw_gm 69 (by decide +kernel) (by decide +kernel), lw_gm 858 (by decide +kernel) (by decide +kernel), by decide +kernel, by decide⟩, ⟨lw_gm 856 (by decide +kernel) (by decide +kernel), lw_gm 857 (by decide +kernel) (by decide +kernel)⟩, _, _, rfl⟩
theorem mvL_149 : pm_LV RL 149 yX12_lean cX12_lean 4 (some .int) 3 12 := ⟨⟨lw_gm 1389 (by decide +kernel) (by decide +kernel), lw_gm 81 (by decide +kernel) (by decide +kernel), lw_gm 1392 (by decide +kernel) (by decide +kernel), by decide +kernel, by decide⟩, ⟨lw_gm 1390 (by decide +kernel) (by decide +kernel), lw_gm 1391 (by decide +kernel) (by decide +kernel)⟩, _, _, rfl⟩
theorem mvL_150 : pm_LV RL 150 yX11_foundBy cX11_foundBy 6 (some .int) 2 11 := ⟨⟨lw_gm 859 (by decide +kernel) (by decide +kernel), lw_gm 69 (by decide +kernel) (by decide +kernel), lw_gm 862 (by decide +kernel) (by decide +kernel), by decide +kernel, by decide⟩, ⟨lw_gm 860 (by decide +kernel) (by decide +kernel), lw_gm 861 (by decide +kernel) (by decide +kernel)⟩, _, _, rfl⟩
theorem mvL_153 : pm_LV RL 153 yX12_foundBy cX12_foundBy 6 (some .int) 2 12 := ⟨⟨lw_gm 1393 (by decide +kernel) (by decide +kernel), lw_gm 81 (by decide +kernel) (by decide +kernel), lw_gm 1396 (by decide +kernel) (by decide +kernel), by decide +kernel, by decide⟩, ⟨lw_gm 1394 (by decide +kernel) (by decide +kernel), lw_gm 1395 (by decide +kernel) (by decide +kernel)⟩, _, _, rfl⟩
theorem mvL_154 : pm_LV RL 154 yX11_see cX11_see 3 (some .int) 2 11 := ⟨⟨lw_gm 865 (by decide +kernel) (by decide +kernel), lw_gm 69 (by decide +kernel) (by decide +kernel), lw_gm 868 (by decide +kernel) (by decide +kernel), by decide +kernel, by decide⟩, ⟨lw_gm 866 (by decide +kernel) (by decide +kernel), lw_gm 867 (by decide +kernel) (by decide +kernel)⟩, _, _, rfl⟩
theorem mvL_157 : pm_LV RL 157 yX12_see cX12_see 3 (some .int) 2 12 := ⟨⟨lw_gm 1399 (by decide +kernel) (by decide +kernel), lw_gm 81 (by decide +kernel) (by decide +kernel), lw_gm 1402 (by decide +kernel) (by decide +kernel), by decide +kernel, by decide⟩, ⟨lw_gm 1400 (by decide +kernel) (by decide +kernel), lw_gm 1401 (by decide +kernel) (by decide +kernel)⟩, _, _, rfl⟩
theorem mvL_158 : pm_LV RL 158 yX11_rods cX11_rods 4 (some .int) 1 11 := ⟨⟨lw_gm 873 (by decide +kernel) (by decide +kernel), lw_gm 69 (by decide +kernel) (by decide +kernel), lw_gm 876 (by decide +kernel) (by decide +kernel), by decide +kernel, by decide⟩, ⟨lw_gm 874 (by decide +kernel) (by decide +kernel), lw_gm 875 (by decide +kernel) (by decide +kernel)⟩, _, _, rfl⟩
theorem mvL_161 : pm_LV RL 161 yX12_rods cX12_rods 7 (some .int) 1 12 := ⟨⟨lw_gm 1404 (by decide +kernel) (by decide +kernel), lw_gm 81 (by decide +kernel) (by decide +kernel), lw_gm 1407 (by decide +kernel) (by decide +kernel), by decide +kernel, by decide⟩, ⟨lw_gm 1405 (by decide +kernel) (by decide +kernel), lw_gm 1406 (by decide +kernel) (by decide +kernel)⟩, _, _, rfl⟩
theorem mvL_162 : pm_LV RL 162 yX11_door cX11_door 1 (some .int) 0 11 := ⟨⟨lw_gm 887 (by decide +kernel) (by decide +kernel), lw_gm 69 (by decide +kernel) (by decide +kernel), lw_gm 890 (by decide +kernel) (by decide +kernel), by decide +kernel, by decide⟩, ⟨lw_gm 888 (by decide +kernel) (by decide +kernel), lw_gm 889 (by decide +kernel) (by decide +kernel)⟩, _, _, rfl⟩
theorem mvL_165 : pm_LV RL 165 yX12_door cX12_door 5 (some .int) 0 12 := ⟨⟨lw_gm 1413 (by decide +kernel) (by decide +kernel), lw_gm 81 (by decide +kernel) (by decide +kernel), lw_gm 1416 (by decide +kernel) (by decide +kernel), by decide +kernel, by decide⟩, ⟨lw_gm 1414 (by decide +kernel) (by decide +kernel), lw_gm 1415 (by decide +kernel) (by decide +kernel)⟩, _, _, rfl⟩
theorem mvL_166 : pm_LV RL 166 yX11_write cX11_write 3 (some .int) 2 11 := ⟨⟨lw_gm 901 (by decide +kernel) (by decide +kernel), lw_gm 69 (by decide +kernel) (by decide +kernel), lw_gm 904 (by decide +kernel) (by decide +kernel), by decide +kernel, by decide⟩, ⟨lw_gm 902 (by decide +kernel) (by decide +kernel), lw_gm 903 (by decide +kernel) (by decide +kernel)⟩, _, _, rfl⟩
theorem mvL_169 : pm_LV RL 169 yX12_write cX12_write 3 (some .int) 2 12 := ⟨⟨lw_gm 1422 (by decide +kernel) (by decide +kernel), lw_gm 81 (by decide +kernel) (by decide +kernel), lw_gm 1425 (by decide +kernel) (by decide +kernel), by decide +kernel, by decide⟩, ⟨lw_gm 1423 (by decide +kernel) (by decide +kernel), lw_gm 1424 (by decide +kernel) (by decide +kernel)⟩, _, _, rfl⟩
theorem mvL_17 : pm_LV RL 17 yX12_feed cX12_feed 2 (some .int) 1 12 := ⟨⟨lw_gm 1070 (by decide +kernel) (by decide +kernel), lw_gm 81 (by decide +kernel) (by decide +kernel), lw_gm 1073 (by decide +kernel) (by decide +kernel), by decide +kernel, by decide⟩, ⟨lw_gm 1071 (by decide +kernel) (by decide +kernel), lw_gm 1072 (by decide +kernel) (by decide +kernel)⟩, _, _, rfl⟩
theorem mvL_170 : pm_LV RL 170 yX11_tear cX11_tear 2 (some .int) 0 11 := ⟨⟨lw_gm 909 (by decide +kernel) (by decide +kernel), lw_gm 69 (by decide +kernel) (by decide +kernel), lw_gm 912 (by decide +kernel) (by decide +kernel), by decide +kernel, by decide⟩, ⟨lw_gm 910 (by decide +kernel) (by decide +kernel), lw_gm 911 (by decide +kernel) (by decide +kernel)⟩, _, _, rfl⟩
theorem mvL_173 : pm_LV RL 173 yX12_tear cX12_tear 2 (some .int) 0 12 := ⟨⟨lw_gm 1426 (by decide +kernel) (by decide +kernel), lw_gm 81 (by decide +kernel) (by decide +kernel), lw_gm 1429 (by decide +kernel) (by decide +kernel), by decide +kernel, by decide⟩, ⟨lw_gm 1427 (by decide +kernel) (by decide +kernel), lw_gm 1428 (by decide +kernel) (by decide +kernel)⟩, _, _, rfl⟩
theorem mvL_174 : pm_LV RL 174 yX11_judge cX11_judge 1 (some .int) 0 11 := ⟨⟨lw_gm 913 (by decide +kernel) (by decide +kernel), lw_gm 69 (by decide +kernel) (by decide +kernel), lw_gm 916 (by decide +kernel) (by decide +kernel), by decide +kernel, by decide⟩, ⟨lw_gm 914 (by decide +kernel) (by decide +kernel), lw_gm 915 (by decide +kernel) (by decide +kernel)⟩, _, _, rfl⟩
theorem mvL_177 : pm_LV RL 177 yX12_judge cX12_judge 2 (some .int) 0 12 := ⟨⟨lw_gm 1430 (by decide +kernel) (by decide +kernel), lw_gm 81 (by decide +kernel) (by decide +kernel), lw_gm 1433 (by decide +kernel) (by decide +kernel), by decide +kernel, by decide⟩, ⟨lw_gm 1431 (by decide +kernel) (by decide +kernel), lw_gm 1432 (by decide +kernel) (by decide +kernel)⟩, _, _, rfl⟩
theorem mvL_178 : pm_LV RL 178 yX11_seed cX11_seed 3 (some .int) 1 11 := ⟨⟨lw_gm 921 (by decide +kernel) (by decide +kernel), lw_gm 69 (by decide +kernel) (by decide +kernel), lw_gm 924 (by decide +kernel) (by decide +kernel), by decide +kernel, by decide⟩, ⟨lw_gm 922 (by decide +kernel) (by decide +kernel), lw_gm 923 (by decide +kernel) (by decide +kernel)⟩, _, _, rfl⟩
theorem mvL_18 : pm_LV RL 18 yX11_realm cX11_realm 3 (some .int) 0 11 := ⟨⟨lw_gm 447 (by decide +kernel) (by decide +kernel), lw_gm 69 (by decide +kernel) (by decide +kernel), lw_gm 450 (by decide +kernel) (by decide +kernel), by decide +kernel, by decide⟩, ⟨lw_gm 448 (by decide +kernel) (by decide +kernel), lw_gm 449 (by decide +kernel) (by decide +kernel)⟩, _, _, rfl⟩
theorem mvL_181 : pm_LV RL 181 yX12_seed cX12_seed 3 (some .int) 1 12 := ⟨⟨lw_gm 1434 (by decide +kernel) (by decide +kernel), lw_gm 81 (by decide +kernel) (by decide +kernel), lw_gm 1437 (by decide +kernel) (by decide +kernel), by decide +kernel, by decide⟩, ⟨lw_gm 1435 (by decide +kernel) (by decide +kernel), lw_gm 1436 (by decide +kernel) (by decide +kernel)⟩, _, _, rfl⟩
theorem mvL_182 : pm_LV RL 182 yX11_keep cX11_keep 2 (some .int) 1 11 := ⟨⟨lw_gm 925 (by decide +kernel) (by decide +kernel), lw_gm 69 (by decide +kernel) (by decide +kernel), lw_gm 928 (by decide +kernel) (by decide +kernel), by decide +kernel, by decide⟩, ⟨lw_gm 926 (by decide +kernel) (by decide +kernel), lw_gm 927 (by decide +kernel) (by decide +kernel)⟩, _, _, rfl⟩
theorem mvL_185 : pm_LV RL 185 yX12_keep cX12_keep 3 (some .int) 1 12 := ⟨⟨lw_gm 1438 (by decide +kernel) (by decide +kernel), lw_gm 81 (by decide +kernel) (by decide +kernel), lw_gm 1441 (by decide +kernel) (by decide +kernel), by decide +kernel, by decide⟩, ⟨lw_gm 1439 (by decide +kernel) (by decide +kernel), lw_gm 1440 (by decide +kernel) (by decide +kernel)⟩, _, _, rfl⟩
theorem mvL_186 : pm_LV RL 186 yX11_goBack cX11_goBack 2 (some .int) 1 11 := ⟨⟨lw_gm 930 (by decide +kernel) (by decide +kernel), lw_gm 69 (by decide +kernel) (by decide +kernel), lw_gm 933 (by decide +kernel) (by decide +kernel), by decide +kernel, by decide⟩, ⟨lw_gm 931 (by decide +kernel) (by decide +kernel), lw_gm 932 (by decide +kernel) (by decide +kernel)⟩, _, _, rfl⟩
theorem mvL_189 : pm_LV RL 189 yX12_goBack cX12_goBack 3 (some .int) 1 12 := ⟨⟨lw_gm 1442 (by decide +kernel) (by decide +kernel), lw_gm 81 (by decide +kernel) (by decide +kernel), lw_gm 1445 (by decide +kernel) (by decide +kernel), by decide +kernel, by decide⟩, ⟨lw_gm 1443 (by decide +kernel) (by decide +kernel), lw_gm 1444 (by decide +kernel) (by decide +kernel)⟩, _, _, rfl⟩
theorem mvL_22 : pm_LV RL 22 yX12_realm cX12_realm 2 (some .int) 0 12 := ⟨⟨lw_gm 1080 (by decide +kernel) (by decide +kernel), lw_gm 81 (by decide +kernel) (by decide +kernel), lw_gm 1083 (by decide +kernel) (by decide +kernel), by decide +kernel, by decide⟩, ⟨lw_gm 1081 (by decide +kernel) (by decide +kernel), lw_gm 1082 (by decide +kernel) (by decide +kernel)⟩, _, _, rfl⟩
theorem mvL_23 : pm_LV RL 23 yX11_fault cX11_fault 1 (some .int) 0 11 := ⟨⟨lw_gm 530 (by decide +kernel) (by decide +kernel), lw_gm 69 (by decide +kernel) (by decide +kernel), lw_gm 533 (by decide +kernel) (by decide +kernel), by decide +kernel, by decide⟩, ⟨lw_gm 531 (by decide +kernel) (by decide +kernel), lw_gm 532 (by decide +kernel) (by decide +kernel)⟩, _, _, rfl⟩
theorem mvL_26 : pm_LV RL 26 yX12_fault cX12_fault 1 (some .int) 0 12 := ⟨⟨lw_gm 1141 (by decide +kernel) (by decide +kernel), lw_gm 81 (by decide +kernel) (by decide +kernel), lw_gm 1144 (by decide +kernel) (by decide +kernel), by decide +kernel, by decide⟩, ⟨lw_gm 1142 (by decide +kernel) (by decide +kernel), lw_gm 1143 (by decide +kernel) (by decide +kernel)⟩, _, _, rfl⟩
theorem mvL_27 : pm_LV RL 27 yX11_told cX11_told 2 (some .int) 1 11 := ⟨⟨lw_gm 534 (by decide +kernel) (by decide +kernel), lw_gm 69 (by decide +kernel) (by decide +kernel), lw_gm 537 (by decide +kernel) (by decide +kernel), by decide +kernel, by decide⟩, ⟨lw_gm 535 (by decide +kernel) (by decide +kernel), lw_gm 536 (by decide +kernel) (by decide +kernel)⟩, _, _, rfl⟩
theorem mvL_30 : pm_LV RL 30 yX12_told cX12_told 2 (some .int) 1 12 := ⟨⟨lw_gm 1145 (by decide +kernel) (by decide +kernel), lw_gm 81 (by decide +kernel) (by decide +kernel), lw_gm 1148 (by decide +kernel) (by decide +kernel), by decide +kernel, by decide⟩, ⟨lw_gm 1146 (by decide +kernel) (by decide +kernel), lw_gm 1147 (by decide +kernel) (by decide +kernel)⟩, _, _, rfl⟩
theorem mvL_31 : pm_LV RL 31 yX11_warped cX11_warped 1 (some .int) 0 11 := ⟨⟨lw_gm 542 (by decide +kernel) (by decide +kernel), lw_gm 69 (by decide +kernel) (by decide +kernel), lw_gm 545 (by decide +kernel) (by decide +kernel), by decide +kernel, by decide⟩, ⟨lw_gm 543 (by decide +kernel) (by decide +kernel), lw_gm 544 (by decide +kernel) (by decide +kernel)⟩, _, _, rfl⟩
theorem mvL_34 : pm_LV RL 34 yX12_warped cX12_warped 1 (some .int) 0 12 := ⟨⟨lw_gm 1153 (by decide +kernel) (by decide +kernel), lw_gm 81 (by decide +kernel) (by decide +kernel), lw_gm 1156 (by decide +kernel) (by decide +kernel), by decide +kernel, by decide⟩, ⟨lw_gm 1154 (by decide +kernel) (by decide +kernel), lw_gm 1155 (by decide +kernel) (by decide +kernel)⟩, _, _, rfl⟩
theorem mvL_35 : pm_LV RL 35 yX11_nick cX11_nick 2 (some .int) 1 11 := ⟨⟨lw_gm 551 (by decide +kernel) (by decide +kernel), lw_gm 69 (by decide +kernel) (by decide +kernel), lw_gm 554 (by decide +kernel) (by decide +kernel), by decide +kernel, by decide⟩, ⟨lw_gm 552 (by decide +kernel) (by decide +kernel), lw_gm 553 (by decide +kernel) (by decide +kernel)⟩, _, _, rfl⟩
theorem mvL_38 : pm_LV RL 38 yX12_nick cX12_nick 2 (some .int) 1 12 := ⟨⟨lw_gm 1162 (by decide +kernel) (by decide +kernel), lw_gm 81 (by decide +kernel) (by decide +kernel), lw_gm 1165 (by decide +kernel) (by decide +kernel), by decide +kernel, by decide⟩, ⟨lw_gm 1163 (by decide +kernel) (by decide +kernel), lw_gm 1164 (by decide +kernel) (by decide +kernel)⟩, _, _, rfl⟩
theorem mvL_39 : pm_LV RL 39 yX11_office cX11_office 3 (some .int) 2 11 := ⟨⟨lw_gm 555 (by decide +kernel) (by decide +kernel), lw_gm 69 (by decide +kernel) (by decide +kernel), lw_gm 558 (by decide +kernel) (by decide +kernel), by decide +kernel, by decide⟩, ⟨lw_gm 556 (by decide +kernel) (by decide +kernel), lw_gm 557 (by decide +kernel) (by decide +kernel)⟩, _, _, rfl⟩
theorem mvL_43 : pm_LV RL 43 yX12_office cX12_office 3 (some .int) 2 12 := ⟨⟨lw_gm 1166 (by decide +kernel) (by decide +kernel), lw_gm 81 (by decide +kernel) (by decide +kernel), lw_gm 1169 (by decide +kernel) (by decide +kernel), by decide +kernel, by decide⟩, ⟨lw_gm 1167 (by decide +kernel) (by decide +kernel), lw_gm 1168 (by decide +kernel) (by decide +kernel)⟩, _, _, rfl⟩
theorem mvL_44 : pm_LV RL 44 yX11_person cX11_person 3 (some .int) 2 11 := ⟨⟨lw_gm 576 (by decide +kernel) (by decide +kernel), lw_gm 69 (by decide +kernel) (by decide +kernel), lw_gm 579 (by decide +kernel) (by decide +kernel), by decide +kernel, by decide⟩, ⟨lw_gm 577 (by decide +kernel) (by decide +kernel), lw_gm 578 (by decide +kernel) (by decide +kernel)⟩, _, _, rfl⟩
theorem mvL_47 : pm_LV RL 47 yX12_person cX12_person 3 (some .int) 2 12 := ⟨⟨lw_gm 1187 (by decide +kernel) (by decide +kernel), lw_gm 81 (by decide +kernel) (by decide +kernel), lw_gm 1190 (by decide +kernel) (by decide +kernel), by decide +kernel, by decide⟩, ⟨lw_gm 1188 (by decide +kernel) (by decide +kernel), lw_gm 1189 (by decide +kernel) (by decide +kernel)⟩, _, _, rfl⟩
theorem mvL_48 : pm_LV RL 48 yX11_thing cX11_thing 3 (some .int) 2 11 := ⟨⟨lw_gm 585 (by decide +kernel) (by decide +kernel), lw_gm 69 (by decide +kernel) (by decide +kernel), lw_gm 588 (by decide +kernel) (by decide +kernel), by decide +kernel, by decide⟩, ⟨lw_gm 586 (by decide +kernel) (by decide +kernel), lw_gm 587 (by decide +kernel) (by decide +kernel)⟩, _, _, rfl⟩
theorem mvL_51 : pm_LV RL 51 yX12_thing cX12_thing 3 (some .int) 2 12 := ⟨⟨lw_gm 1195 (by decide +kernel) (by decide +kernel), lw_gm 81 (by decide +kernel) (by decide +kernel), lw_gm 1198 (by decide +kernel) (by decide +kernel), by decide +kernel, by decide⟩, ⟨lw_gm 1196 (by decide +kernel) (by decide +kernel), lw_gm 1197 (by decide +kernel) (by decide +kernel)⟩, _, _, rfl⟩
theorem mvL_52 : pm_LV RL 52 yX11_hand cX11_hand 2 (some .int) 1 11 := ⟨⟨lw_gm 589 (by decide +kernel) (by decide +kernel), lw_gm 69 (by decide +kernel) (by decide +kernel), lw_gm 592 (by decide +kernel) (by decide +kernel), by decide +kernel, by decide⟩, ⟨lw_gm 590 (by decide +kernel) (by decide +kernel), lw_gm 591 (by decide +kernel) (by decide +kernel)⟩, _, _, rfl⟩
theorem mvL_55 : pm_LV RL 55 yX12_hand cX12_hand 2 (some .int) 1 12 := ⟨⟨lw_gm 1199 (by decide +kernel) (by decide +kernel), lw_gm 81 (by decide +kernel) (by decide +kernel), lw_gm 1202 (by decide +kernel) (by decide +kernel), by decide +kernel, by decide⟩, ⟨lw_gm 1200 (by decide +kernel) (by decide +kernel), lw_gm 1201 (by decide +kernel) (by decide +kernel)⟩, _, _, rfl⟩
theorem mvL_56 : pm_LV RL 56 yX11_year cX11_year 4 (some .int) 1 11 := ⟨⟨lw_gm 593 (by decide +kernel) (by decide +kernel), lw_gm 69 (by decide +kernel) (by decide +kernel), lw_gm 596 (by decide +kernel) (by decide +kernel), by decide +kernel, by decide⟩, ⟨lw_gm 594 (by decide +kernel) (by decide +kernel), lw_gm 595 (by decide +kernel) (by decide +kernel)⟩, _, _, rfl⟩
theorem mvL_59 : pm_LV RL 59 yX12_year cX12_year 4 (some .int) 1 12 := ⟨⟨lw_gm 1203 (by decide +kernel) (by decide +kernel), lw_gm 81 (by decide +kernel) (by decide +kernel), lw_gm 1206 (by decide +kernel) (by decide +kernel), by decide +kernel, by decide⟩, ⟨lw_gm 1204 (by decide +kernel) (by decide +kernel), lw_gm 1205 (by decide +kernel) (by decide +kernel)⟩, _, _, rfl⟩
theorem mvL_60 : pm_LV RL 60 yX11_make cX11_make 3 (some .int) 2 11 := ⟨⟨lw_gm 636 (by decide +kernel) (by decide +kernel), lw_gm 69 (by decide +kernel) (by decide +kernel), lw_gm 639 (by decide +kernel) (by decide +kernel), by decide +kernel, by decide⟩, ⟨lw_gm 637 (by decide +kernel) (by decide +kernel), lw_gm 638 (by decide +kernel) (by decide +kernel)⟩, _, _, rfl⟩
theorem mvL_63 : pm_LV RL 63 yX12_make cX12_make 3 (some .int) 2 12 := ⟨⟨lw_gm 1227 (by decide +kernel) (by decide +kernel), lw_gm 81 (by decide +kernel) (by decide +kernel), lw_gm 1230 (by decide +kernel) (by decide +kernel), by decide +kernel, by decide⟩, ⟨lw_gm 1228 (by decide +kernel) (by decide +kernel), lw_gm 1229 (by decide +kernel) (by decide +kernel)⟩, _, _, rfl⟩
theorem mvL_64 : pm_LV RL 64 yX11_warp cX11_warp 3 (some .int) 1 11 := ⟨⟨lw_gm 659 (by decide +kernel) (by decide +kernel), lw_gm 69 (by decide +kernel) (by decide +kernel), lw_gm 662 (by decide +kernel) (by decide +kernel), by decide +kernel, by decide⟩, ⟨lw_gm 660 (by decide +kernel) (by decide +kernel), lw_gm 661 (by decide +kernel) (by decide +kernel)⟩, _, _, rfl⟩
theorem mvL_67 : pm_LV RL 67 yX12_warp cX12_warp 3 (some .int) 1 12 := ⟨⟨lw_gm 1244 (by decide +kernel) (by decide +kernel), lw_gm 81 (by decide +kernel) (by decide +kernel), lw_gm 1247 (by decide +kernel) (by decide +kernel), by decide +kernel, by decide⟩, ⟨lw_gm 1245 (by decide +kernel) (by decide +kernel), lw_gm 1246 (by decide +kernel) (by decide +kernel)⟩, _, _, rfl⟩
theorem mvL_68 : pm_LV RL 68 yX11_plane cX11_plane 1 (some .int) 0 11 := ⟨⟨lw_gm 663 (by decide +kernel) (by decide +kernel), lw_gm 69 (by decide +kernel) (by decide +kernel), lw_gm 666 (by decide +kernel) (by decide +kernel), by decide +kernel, by decide⟩, ⟨lw_gm 664 (by decide +kernel) (by decide +kernel), lw_gm 665 (by decide +kernel) (by decide +kernel)⟩, _, _, rfl⟩
theorem mvL_71 : pm_LV RL 71 yX12_plane cX12_plane 1 (some .int) 0 12 := ⟨⟨lw_gm 1250 (by decide +kernel) (by decide +kernel), lw_gm 81 (by decide +kernel) (by decide +kernel), lw_gm 1253 (by decide +kernel) (by decide +kernel), by decide +kernel, by decide⟩, ⟨lw_gm 1251 (by decide +kernel) (by decide +kernel), lw_gm 1252 (by decide +kernel) (by decide +kernel)⟩, _, _, rfl⟩
theorem mvL_72 : pm_LV RL 72 yX11_lose cX11_lose 3 (some .int) 1 11 := ⟨⟨lw_gm 674 (by decide +kernel) (by decide +kernel), lw_gm 69 (by decide +kernel) (by decide +kernel), lw_gm 677 (by decide +kernel) (by decide +kernel), by decide +kernel, by decide⟩, ⟨lw_gm 675 (by decide +kernel) (by decide +kernel), lw_gm 676 (by decide +kernel) (by decide +kernel)⟩, _, _, rfl⟩
theorem mvL_76 : pm_LV RL 76 yX12_lose cX12_lose 3 (some .int) 1 12 := ⟨⟨lw_gm 1260 (by decide +kernel) (by decide +kernel), lw_gm 81 (by decide +kernel) (by decide +kernel), lw_gm 1263 (by decide +kernel) (by decide +kernel), by decide +kernel, by decide⟩, ⟨lw_gm 1261 (by decide +kernel) (by decide +kernel), lw_gm 1262 (by decide +kernel) (by decide +kernel)⟩, _, _, rfl⟩
theorem mvL_77 : pm_LV RL 77 yX11_hold cX11_hold 2 (some .int) 1 11 := ⟨⟨lw_gm 678 (by decide +kernel) (by decide +kernel), lw_gm 69 (by decide +kernel) (by decide +kernel), lw_gm 681 (by decide +kernel) (by decide +kernel), by decide +kernel, by decide⟩, ⟨lw_gm 679 (by decide +kernel) (by decide +kernel), lw_gm 680 (by decide +kernel) (by decide +kernel)⟩, _, _, rfl⟩
theorem mvL_80 : pm_LV RL 80 yX12_hold cX12_hold 2 (some .int) 1 12 := ⟨⟨lw_gm 1264 (by decide +kernel) (by decide +kernel), lw_gm 81 (by decide +kernel) (by decide +kernel), lw_gm 1267 (by decide +kernel) (by decide +kernel), by decide +kernel, by decide⟩, ⟨lw_gm 1265 (by decide +kernel) (by decide +kernel), lw_gm 1266 (by decide +kernel) (by decide +kernel)⟩, _, _, rfl⟩
theorem mvL_81 : pm_LV RL 81 yX11_drop cX11_drop 2 (some .int) 0 11 := ⟨⟨lw_gm 687 (by decide +kernel) (by decide +kernel), lw_gm 69 (by decide +kernel) (by decide +kernel), lw_gm 690 (by decide +kernel) (by decide +kernel), by decide +kernel, by decide⟩, ⟨lw_gm 688 (by decide +kernel) (by decide +kernel), lw_gm 689 (by decide +kernel) (by decide +kernel)⟩, _, _, rfl⟩
theorem mvL_84 : pm_LV RL 84 yX12_drop cX12_drop 3 (some .int) 0 12 := ⟨⟨lw_gm 1269 (by decide +kernel) (by decide +kernel), lw_gm 81 (by decide +kernel) (by decide +kernel), lw_gm 1272 (by decide +kernel) (by decide +kernel), by decide +kernel, by decide⟩, ⟨lw_gm 1270 (by decide +kernel) (by decide +kernel), lw_gm 1271 (by decide +kernel) (by decide +kernel)⟩, _, _, rfl⟩
theorem mvL_85 : pm_LV RL 85 yX11_shorten cX11_shorten 3 (some .int) 2 11 := ⟨⟨lw_gm 691 (by decide +kernel) (by decide +kernel), lw_gm 69 (by decide +kernel) (by decide +kernel), lw_gm 694 (by decide +kernel) (by decide +kernel), by decide +kernel, by decide⟩, ⟨lw_gm 692 (by decide +kernel) (by decide +kernel), lw_gm 693 (by decide +kernel) (by decide +kernel)⟩, _, _, rfl⟩
theorem mvL_88 : pm_LV RL 88 yX12_shorten cX12_shorten 3 (some .int) 2 12 := ⟨⟨lw_gm 1273 (by decide +kernel) (by decide +kernel), lw_gm 81 (by decide +kernel) (by decide +kernel), lw_gm 1276 (by decide +kernel) (by decide +kernel), by decide +kernel, by decide⟩, ⟨lw_gm 1274 (by decide +kernel) (by decide +kernel), lw_gm 1275 (by decide +kernel) (by decide +kernel)⟩, _, _, rfl⟩
theorem mvL_89 : pm_LV RL 89 yX11_drift cX11_drift 4 (some .int) 1 11 := ⟨⟨lw_gm 695 (by decide +kernel) (by decide +kernel), lw_gm 69 (by decide +kernel) (by decide +kernel), lw_gm 698 (by decide +kernel) (by decide +kernel), by decide +kernel, by decide⟩, ⟨lw_gm 696 (by decide +kernel) (by decide +kernel), lw_gm 697 (by decide +kernel) (by decide +kernel)⟩, _, _, rfl⟩
theorem mvL_92 : pm_LV RL 92 yX12_drift cX12_drift 4 (some .int) 1 12 := ⟨⟨lw_gm 1278 (by decide +kernel) (by decide +kernel), lw_gm 81 (by decide +kernel) (by decide +kernel), lw_gm 1281 (by decide +kernel) (by decide +kernel), by decide +kernel, by decide⟩, ⟨lw_gm 1279 (by decide +kernel) (by decide +kernel), lw_gm 1280 (by decide +kernel) (by decide +kernel)⟩, _, _, rfl⟩
theorem mvL_93 : pm_LV RL 93 yX11_undo cX11_undo 1 (some .int) 0 11 := ⟨⟨lw_gm 719 (by decide +kernel) (by decide +kernel), lw_gm 69 (by decide +kernel) (by decide +kernel), lw_gm 722 (by decide +kernel) (by decide +kernel), by decide +kernel, by decide⟩, ⟨lw_gm 720 (by decide +kernel) (by decide +kernel), lw_gm 721 (by decide +kernel) (by decide +kernel)⟩, _, _, rfl⟩
theorem mvL_96 : pm_LV RL 96 yX12_undo cX12_undo 2 (some .int) 0 12 := ⟨⟨lw_gm 1294 (by decide +kernel) (by decide +kernel), lw_gm 81 (by decide +kernel) (by decide +kernel), lw_gm 1297 (by decide +kernel) (by decide +kernel), by decide +kernel, by decide⟩, ⟨lw_gm 1295 (by decide +kernel) (by decide +kernel), lw_gm 1296 (by decide +kernel) (by decide +kernel)⟩, _, _, rfl⟩
theorem mvL_97 : pm_LV RL 97 yX11_longAt cX11_longAt 5 (some .int) 2 11 := ⟨⟨lw_gm 727 (by decide +kernel) (by decide +kernel), lw_gm 69 (by decide +kernel) (by decide +kernel), lw_gm 730 (by decide +kernel) (by decide +kernel), by decide +kernel, by decide⟩, ⟨lw_gm 728 (by decide +kernel) (by decide +kernel), lw_gm 729 (by decide +kernel) (by decide +kernel)⟩, _, _, rfl⟩
theorem cnL_7 : Cond.classLink RL 7 RX11 ∈ lw_good ∧ Cond.instantiable RX11 17 ∈ lw_good ∧ Cond.initialized RX11 ∈ lw_good := ⟨lw_gm 85 (by decide +kernel) (by decide +kernel), lw_gm 86 (by decide +kernel) (by decide +kernel), lw_gm 69 (by decide +kernel) (by decide +kernel)⟩
theorem cnL_10 : Cond.classLink RL 10 RX12 ∈ lw_good ∧ Cond.instantiable RX12 43 ∈ lw_good ∧ Cond.initialized RX12 ∈ lw_good := ⟨lw_gm 934 (by decide +kernel) (by decide +kernel), lw_gm 935 (by decide +kernel) (by decide +kernel), lw_gm 81 (by decide +kernel) (by decide +kernel)⟩
theorem miL_9 : pm_LI RL 9 yX11_init cX11_init 2 := ⟨⟨lw_gm 87 (by decide +kernel) (by decide +kernel), lw_gm 69 (by decide +kernel) (by decide +kernel), lw_gm 89 (by decide +kernel) (by decide +kernel), by decide +kernel, by decide⟩, lw_gm 88 (by decide +kernel) (by decide +kernel), rfl⟩
theorem miL_12 : pm_LI RL 12 yX12_init cX12_init 1 := ⟨⟨lw_gm 936 (by decide +kernel) (by decide +kernel), lw_gm 81 (by decide +kernel) (by decide +kernel), lw_gm 938 (by decide +kernel) (by decide +kernel), by decide +kernel, by decide⟩, lw_gm 937 (by decide +kernel) (by decide +kernel), rfl⟩
section LWI
variable {l : Launch} {L : Nat} {xs : Nat → Int32} {pc i : Nat} {st : Nat → Nat → List Value} {σC σR : pm_H}
theorem lw_ifz0 {x : Int32} {off : Int} (tgt : Nat) (hz : x = 0) (hd : decode cL_law pc = .ok (.ifCond .eq off, 3)) (ht : (pc : Int) + off = (tgt : Int)) (k : lw_G l L xs tgt i st σC σR) : lw_G l L xs pc i (fun b B => .int x :: st b B) σC σR :=
  lw_go (fun _ _ _ _ _ _ _ _ _ _ _ _ _ _ _ hx hb _ _ _ _ w => lv_if_eq hx hb hd ht (fun _ => w) (fun h => absurd hz h)) k
theorem lw_ifz1 {x : Int32} {off : Int} {pc2 : Nat} (hz : ¬ x = 0) (hp : pc + 3 = pc2) {tgt : Nat} (hd : decode cL_law pc = .ok (.ifCond .eq off, 3)) (k : lw_G l L xs pc2 i st σC σR) (ht : (pc : Int) + off = (tgt : Int)) : lw_G l L xs pc i (fun b B => .int x :: st b B) σC σR := by
  subst hp
  exact lw_go (fun _ _ _ _ _ _ _ _ _ _ _ _ _ _ _ hx hb _ _ _ _ w => lv_if_eq hx hb hd ht (fun h => absurd h hz) (fun _ => w)) k
theorem lw_ic {n : Int} {pc2 : Nat} (v : Int32) (hv : Int32.ofInt n = v) (hp : pc + 1 = pc2) (hd : decode cL_law pc = .ok (.iconst n, 1)) (k : lw_G l L xs pc2 i (fun b B => .int v :: st b B) σC σR) : lw_G l L xs pc i st σC σR := by
  subst hp
  exact lw_go (fun _ _ _ _ _ _ _ _ _ _ _ _ _ _ _ hx hb _ _ _ _ w => lv_iconst hx hb hd hv w) k
theorem lw_gt {off : Int} (tgt : Nat) (hd : decode cL_law pc = .ok (.goto off, 3)) (ht : (pc : Int) + off = (tgt : Int)) (k : lw_G l L xs tgt i st σC σR) : lw_G l L xs pc i st σC σR :=
  lw_go (fun _ _ _ _ _ _ _ _ _ _ _ _ _ _ _ hx hb _ _ _ _ w => lv_goto hx hb hd ht w) k
end LWI
/-! what the two sides must do, call by call -/
def pu_0 (Rel : pm_H → pm_H → Prop) (f g : pm_S → Nat → pm_H → Option (Int32 × pm_H)) : Prop := ∀ c r, Rel c r → ∃ v c' r', f lw_SC 1 c = some (v, c') ∧ g lw_SR 1 r = some (v, r') ∧ Rel c' r'
def pu_1 (Rel : pm_H → pm_H → Prop) (f g : pm_S → Nat → Int32 → pm_H → Option (Int32 × pm_H)) : Prop := ∀ c r, Rel c r → ∀ a, ∃ v c' r', f lw_SC 1 a c = some (v, c') ∧ g lw_SR 1 a r = some (v, r') ∧ Rel c' r'
def pu_2 (Rel : pm_H → pm_H → Prop) (f g : pm_S → Nat → Int32 → Int32 → pm_H → Option (Int32 × pm_H)) : Prop := ∀ c r, Rel c r → ∀ a a2, ∃ v c' r', f lw_SC 1 a a2 c = some (v, c') ∧ g lw_SR 1 a a2 r = some (v, r') ∧ Rel c' r'
def pu_3 (Rel : pm_H → pm_H → Prop) (f g : pm_S → Nat → Int32 → Int32 → Int32 → pm_H → Option (Int32 × pm_H)) : Prop := ∀ c r, Rel c r → ∀ a a2 a3, ∃ v c' r', f lw_SC 1 a a2 a3 c = some (v, c') ∧ g lw_SR 1 a a2 a3 r = some (v, r') ∧ Rel c' r'
def pu_z (Rel : pm_H → pm_H → Prop) (f g : pm_S → Nat → Int32 → pm_H → Option (Int32 × pm_H)) : Prop := ∀ c r, Rel c r → ∀ a, (a = 0 ∨ a = 1) → ∃ v c' r', f lw_SC 1 a c = some (v, c') ∧ g lw_SR 1 a r = some (v, r') ∧ Rel c' r'
def pu_All (Rel : pm_H → pm_H → Prop) : Prop := Rel lw_C0 lw_R0 ∧ pu_1 Rel fX11_feed fX12_feed ∧ pu_0 Rel fX11_realm fX12_realm ∧ pu_0 Rel fX11_fault fX12_fault ∧ pu_1 Rel fX11_told fX12_told ∧ pu_0 Rel fX11_warped fX12_warped ∧ pu_1 Rel fX11_nick fX12_nick ∧ pu_2 Rel fX11_office fX12_office ∧ pu_2 Rel fX11_person fX12_person ∧ pu_2 Rel fX11_thing fX12_thing ∧ pu_1 Rel fX11_hand fX12_hand ∧ pu_1 Rel fX11_year fX12_year ∧ pu_2 Rel fX11_make fX12_make ∧ pu_1 Rel fX11_warp fX12_warp ∧ pu_0 Rel fX11_plane fX12_plane ∧ pu_z Rel fX11_lose fX12_lose ∧ pu_1 Rel fX11_hold fX12_hold ∧ pu_0 Rel fX11_drop fX12_drop ∧ pu_2 Rel fX11_shorten fX12_shorten ∧ pu_1 Rel fX11_drift fX12_drift ∧ pu_0 Rel fX11_undo fX12_undo ∧ pu_2 Rel fX11_longAt fX12_longAt ∧ pu_1 Rel fX11_firstShort fX12_firstShort ∧ pu_2 Rel fX11_planeWhen fX12_planeWhen ∧ pu_1 Rel fX11_had fX12_had ∧ pu_1 Rel fX11_parts fX12_parts ∧ pu_1 Rel fX11_fold fX12_fold ∧ pu_1 Rel fX11_posts fX12_posts ∧ pu_2 Rel fX11_toShorten fX12_toShorten ∧ pu_3 Rel fX11_wasWarped fX12_wasWarped ∧ pu_1 Rel fX11_alike fX12_alike ∧ pu_1 Rel fX11_hands fX12_hands ∧ pu_3 Rel fX11_tens fX12_tens ∧ pu_3 Rel fX11_lean fX12_lean ∧ pu_2 Rel fX11_foundBy fX12_foundBy ∧ pu_2 Rel fX11_see fX12_see ∧ pu_1 Rel fX11_rods fX12_rods ∧ pu_0 Rel fX11_door fX12_door ∧ pu_2 Rel fX11_write fX12_write ∧ pu_0 Rel fX11_tear fX12_tear ∧ pu_0 Rel fX11_judge fX12_judge ∧ pu_1 Rel fX11_seed fX12_seed ∧ pu_1 Rel fX11_keep fX12_keep ∧ pu_1 Rel fX11_goBack fX12_goBack
theorem lw_case_feed (l : Launch) {L : Nat} {xs : Nat → Int32} {i : Nat} {σC σR : pm_H} {Rel : pm_H → pm_H → Prop} (hL : L ≤ 2048) (hi : i + 4 ≤ L) (hR : pu_1 Rel fX11_feed fX12_feed) (hrel : Rel σC σR) (K : ∀ c r, Rel c r → lw_G l L xs 1305 i (fun _ _ => []) c r) : lw_G l L xs 220 i (fun _ _ => []) σC σR := by
  obtain ⟨v, c1, r1, hc, hr, hrel⟩ := hR σC σR hrel (xs (i + 1))
  refine lw_al1 (pc := 220) dL_law_220 ?_
  refine lw_arg (k := 1) (pc := 221) (pc2 := 226) (by omega) hL rfl dL_law_221 dL_law_222 dL_law_223 dL_law_224 dL_law_225 ?_
  refine lw_cC (pc := 226) (pc2 := 229) (as := [.int (xs (i + 1))]) (st := (fun b B => [])) (u := (v, c1)) mvL_13 (KX11_feed l lw_is1 hc) (by decide) (by decide) (fun _ => rfl) rfl rfl (fun _ _ => Nat.le_of_ble_eq_true rfl) rfl dL_law_226 ?_
  refine lw_al2 (pc := 229) dL_law_229 ?_
  refine lw_arg (k := 1) (pc := 230) (pc2 := 235) (by omega) hL rfl dL_law_230 dL_law_231 dL_law_232 dL_law_233 dL_law_234 ?_
  refine lw_cR (pc := 235) (pc2 := 238) (as := [.int (xs (i + 1))]) (st := (fun b B => .int v :: [])) (u := (v, r1)) mvL_17 (KX12_feed l lw_is2 hr) (by decide) (by decide) (fun _ => rfl) rfl rfl (fun _ _ => Nat.le_of_ble_eq_true rfl) rfl dL_law_235 ?_
  refine lw_eq (pc := 238) (x := v) (st := fun _ _ => []) 1305 dL_law_238 (by decide) ?_
  exact K c1 r1 hrel
theorem lw_case_realm (l : Launch) {L : Nat} {xs : Nat → Int32} {i : Nat} {σC σR : pm_H} {Rel : pm_H → pm_H → Prop} (hL : L ≤ 2048) (hi : i + 4 ≤ L) (hR : pu_0 Rel fX11_realm fX12_realm) (hrel : Rel σC σR) (K : ∀ c r, Rel c r → lw_G l L xs 1305 i (fun _ _ => []) c r) : lw_G l L xs 243 i (fun _ _ => []) σC σR := by
  obtain ⟨v, c1, r1, hc, hr, hrel⟩ := hR σC σR hrel 
  refine lw_al1 (pc := 243) dL_law_243 ?_
  refine lw_cC (pc := 244) (pc2 := 247) (as := []) (st := (fun b B => [])) (u := (v, c1)) mvL_18 (KX11_realm l lw_is1 hc) (by decide) (by decide) (fun _ => rfl) rfl rfl (fun _ _ => Nat.le_of_ble_eq_true rfl) rfl dL_law_244 ?_
  refine lw_al2 (pc := 247) dL_law_247 ?_
  refine lw_cR (pc := 248) (pc2 := 251) (as := []) (st := (fun b B => .int v :: [])) (u := (v, r1)) mvL_22 (KX12_realm l lw_is2 hr) (by decide) (by decide) (fun _ => rfl) rfl rfl (fun _ _ => Nat.le_of_ble_eq_true rfl) rfl dL_law_248 ?_
  refine lw_eq (pc := 251) (x := v) (st := fun _ _ => []) 1305 dL_law_251 (by decide) ?_
  exact K c1 r1 hrel
theorem lw_case_fault (l : Launch) {L : Nat} {xs : Nat → Int32} {i : Nat} {σC σR : pm_H} {Rel : pm_H → pm_H → Prop} (hL : L ≤ 2048) (hi : i + 4 ≤ L) (hR : pu_0 Rel fX11_fault fX12_fault) (hrel : Rel σC σR) (K : ∀ c r, Rel c r → lw_G l L xs 1305 i (fun _ _ => []) c r) : lw_G l L xs 256 i (fun _ _ => []) σC σR := by
  obtain ⟨v, c1, r1, hc, hr, hrel⟩ := hR σC σR hrel 
  refine lw_al1 (pc := 256) dL_law_256 ?_
  refine lw_cC (pc := 257) (pc2 := 260) (as := []) (st := (fun b B => [])) (u := (v, c1)) mvL_23 (KX11_fault l lw_is1 hc) (by decide) (by decide) (fun _ => rfl) rfl rfl (fun _ _ => Nat.le_of_ble_eq_true rfl) rfl dL_law_257 ?_
  refine lw_al2 (pc := 260) dL_law_260 ?_
  refine lw_cR (pc := 261) (pc2 := 264) (as := []) (st := (fun b B => .int v :: [])) (u := (v, r1)) mvL_26 (KX12_fault l lw_is2 hr) (by decide) (by decide) (fun _ => rfl) rfl rfl (fun _ _ => Nat.le_of_ble_eq_true rfl) rfl dL_law_261 ?_
  refine lw_eq (pc := 264) (x := v) (st := fun _ _ => []) 1305 dL_law_264 (by decide) ?_
  exact K c1 r1 hrel
theorem lw_case_told (l : Launch) {L : Nat} {xs : Nat → Int32} {i : Nat} {σC σR : pm_H} {Rel : pm_H → pm_H → Prop} (hL : L ≤ 2048) (hi : i + 4 ≤ L) (hR : pu_1 Rel fX11_told fX12_told) (hrel : Rel σC σR) (K : ∀ c r, Rel c r → lw_G l L xs 1305 i (fun _ _ => []) c r) : lw_G l L xs 269 i (fun _ _ => []) σC σR := by
  obtain ⟨v, c1, r1, hc, hr, hrel⟩ := hR σC σR hrel (xs (i + 1))
  refine lw_al1 (pc := 269) dL_law_269 ?_
  refine lw_arg (k := 1) (pc := 270) (pc2 := 275) (by omega) hL rfl dL_law_270 dL_law_271 dL_law_272 dL_law_273 dL_law_274 ?_
  refine lw_cC (pc := 275) (pc2 := 278) (as := [.int (xs (i + 1))]) (st := (fun b B => [])) (u := (v, c1)) mvL_27 (KX11_told l lw_is1 hc) (by decide) (by decide) (fun _ => rfl) rfl rfl (fun _ _ => Nat.le_of_ble_eq_true rfl) rfl dL_law_275 ?_
  refine lw_al2 (pc := 278) dL_law_278 ?_
  refine lw_arg (k := 1) (pc := 279) (pc2 := 284) (by omega) hL rfl dL_law_279 dL_law_280 dL_law_281 dL_law_282 dL_law_283 ?_
  refine lw_cR (pc := 284) (pc2 := 287) (as := [.int (xs (i + 1))]) (st := (fun b B => .int v :: [])) (u := (v, r1)) mvL_30 (KX12_told l lw_is2 hr) (by decide) (by decide) (fun _ => rfl) rfl rfl (fun _ _ => Nat.le_of_ble_eq_true rfl) rfl dL_law_284 ?_
  refine lw_eq (pc := 287) (x := v) (st := fun _ _ => []) 1305 dL_law_287 (by decide) ?_
  exact K c1 r1 hrel
theorem lw_case_warped (l : Launch) {L : Nat} {xs : Nat → Int32} {i : Nat} {σC σR : pm_H} {Rel : pm_H → pm_H → Prop} (hL : L ≤ 2048) (hi : i + 4 ≤ L) (hR : pu_0 Rel fX11_warped fX12_warped) (hrel : Rel σC σR) (K : ∀ c r, Rel c r → lw_G l L xs 1305 i (fun _ _ => []) c r) : lw_G l L xs 292 i (fun _ _ => []) σC σR := by
  obtain ⟨v, c1, r1, hc, hr, hrel⟩ := hR σC σR hrel 
  refine lw_al1 (pc := 292) dL_law_292 ?_
  refine lw_cC (pc := 293) (pc2 := 296) (as := []) (st := (fun b B => [])) (u := (v, c1)) mvL_31 (KX11_warped l lw_is1 hc) (by decide) (by decide) (fun _ => rfl) rfl rfl (fun _ _ => Nat.le_of_ble_eq_true rfl) rfl dL_law_293 ?_
  refine lw_al2 (pc := 296) dL_law_296 ?_
  refine lw_cR (pc := 297) (pc2 := 300) (as := []) (st := (fun b B => .int v :: [])) (u := (v, r1)) mvL_34 (KX12_warped l lw_is2 hr) (by decide) (by decide) (fun _ => rfl) rfl rfl (fun _ _ => Nat.le_of_ble_eq_true rfl) rfl dL_law_297 ?_
  refine lw_eq (pc := 300) (x := v) (st := fun _ _ => []) 1305 dL_law_300 (by decide) ?_
  exact K c1 r1 hrel
theorem lw_case_nick (l : Launch) {L : Nat} {xs : Nat → Int32} {i : Nat} {σC σR : pm_H} {Rel : pm_H → pm_H → Prop} (hL : L ≤ 2048) (hi : i + 4 ≤ L) (hR : pu_1 Rel fX11_nick fX12_nick) (hrel : Rel σC σR) (K : ∀ c r, Rel c r → lw_G l L xs 1305 i (fun _ _ => []) c r) : lw_G l L xs 305 i (fun _ _ => []) σC σR := by
  obtain ⟨v, c1, r1, hc, hr, hrel⟩ := hR σC σR hrel (xs (i + 1))
  refine lw_al1 (pc := 305) dL_law_305 ?_
  refine lw_arg (k := 1) (pc := 306) (pc2 := 311) (by omega) hL rfl dL_law_306 dL_law_307 dL_law_308 dL_law_309 dL_law_310 ?_
  refine lw_cC (pc := 311) (pc2 := 314) (as := [.int (xs (i + 1))]) (st := (fun b B => [])) (u := (v, c1)) mvL_35 (KX11_nick l lw_is1 hc) (by decide) (by decide) (fun _ => rfl) rfl rfl (fun _ _ => Nat.le_of_ble_eq_true rfl) rfl dL_law_311 ?_
  refine lw_al2 (pc := 314) dL_law_314 ?_
  refine lw_arg (k := 1) (pc := 315) (pc2 := 320) (by omega) hL rfl dL_law_315 dL_law_316 dL_law_317 dL_law_318 dL_law_319 ?_
  refine lw_cR (pc := 320) (pc2 := 323) (as := [.int (xs (i + 1))]) (st := (fun b B => .int v :: [])) (u := (v, r1)) mvL_38 (KX12_nick l lw_is2 hr) (by decide) (by decide) (fun _ => rfl) rfl rfl (fun _ _ => Nat.le_of_ble_eq_true rfl) rfl dL_law_320 ?_
  refine lw_eq (pc := 323) (x := v) (st := fun _ _ => []) 1305 dL_law_323 (by decide) ?_
  exact K c1 r1 hrel
theorem lw_case_office (l : Launch) {L : Nat} {xs : Nat → Int32} {i : Nat} {σC σR : pm_H} {Rel : pm_H → pm_H → Prop} (hL : L ≤ 2048) (hi : i + 4 ≤ L) (hR : pu_2 Rel fX11_office fX12_office) (hrel : Rel σC σR) (K : ∀ c r, Rel c r → lw_G l L xs 1305 i (fun _ _ => []) c r) : lw_G l L xs 328 i (fun _ _ => []) σC σR := by
  obtain ⟨v, c1, r1, hc, hr, hrel⟩ := hR σC σR hrel (xs (i + 1)) (xs (i + 2))
  refine lw_al1 (pc := 328) dL_law_328 ?_
  refine lw_arg (k := 1) (pc := 329) (pc2 := 334) (by omega) hL rfl dL_law_329 dL_law_330 dL_law_331 dL_law_332 dL_law_333 ?_
  refine lw_arg (k := 2) (pc := 334) (pc2 := 339) (by omega) hL rfl dL_law_334 dL_law_335 dL_law_336 dL_law_337 dL_law_338 ?_
  refine lw_cC (pc := 339) (pc2 := 342) (as := [.int (xs (i + 1)), .int (xs (i + 2))]) (st := (fun b B => [])) (u := (v, c1)) mvL_39 (KX11_office l lw_is1 hc) (by decide) (by decide) (fun _ => rfl) rfl rfl (fun _ _ => Nat.le_of_ble_eq_true rfl) rfl dL_law_339 ?_
  refine lw_al2 (pc := 342) dL_law_342 ?_
  refine lw_arg (k := 1) (pc := 343) (pc2 := 348) (by omega) hL rfl dL_law_343 dL_law_344 dL_law_345 dL_law_346 dL_law_347 ?_
  refine lw_arg (k := 2) (pc := 348) (pc2 := 353) (by omega) hL rfl dL_law_348 dL_law_349 dL_law_350 dL_law_351 dL_law_352 ?_
  refine lw_cR (pc := 353) (pc2 := 356) (as := [.int (xs (i + 1)), .int (xs (i + 2))]) (st := (fun b B => .int v :: [])) (u := (v, r1)) mvL_43 (KX12_office l lw_is2 hr) (by decide) (by decide) (fun _ => rfl) rfl rfl (fun _ _ => Nat.le_of_ble_eq_true rfl) rfl dL_law_353 ?_
  refine lw_eq (pc := 356) (x := v) (st := fun _ _ => []) 1305 dL_law_356 (by decide) ?_
  exact K c1 r1 hrel
theorem lw_case_person (l : Launch) {L : Nat} {xs : Nat → Int32} {i : Nat} {σC σR : pm_H} {Rel : pm_H → pm_H → Prop} (hL : L ≤ 2048) (hi : i + 4 ≤ L) (hR : pu_2 Rel fX11_person fX12_person) (hrel : Rel σC σR) (K : ∀ c r, Rel c r → lw_G l L xs 1305 i (fun _ _ => []) c r) : lw_G l L xs 361 i (fun _ _ => []) σC σR := by
  obtain ⟨v, c1, r1, hc, hr, hrel⟩ := hR σC σR hrel (xs (i + 1)) (xs (i + 2))
  refine lw_al1 (pc := 361) dL_law_361 ?_
  refine lw_arg (k := 1) (pc := 362) (pc2 := 367) (by omega) hL rfl dL_law_362 dL_law_363 dL_law_364 dL_law_365 dL_law_366 ?_
  refine lw_arg (k := 2) (pc := 367) (pc2 := 372) (by omega) hL rfl dL_law_367 dL_law_368 dL_law_369 dL_law_370 dL_law_371 ?_
  refine lw_cC (pc := 372) (pc2 := 375) (as := [.int (xs (i + 1)), .int (xs (i + 2))]) (st := (fun b B => [])) (u := (v, c1)) mvL_44 (KX11_person l lw_is1 hc) (by decide) (by decide) (fun _ => rfl) rfl rfl (fun _ _ => Nat.le_of_ble_eq_true rfl) rfl dL_law_372 ?_
  refine lw_al2 (pc := 375) dL_law_375 ?_
  refine lw_arg (k := 1) (pc := 376) (pc2 := 381) (by omega) hL rfl dL_law_376 dL_law_377 dL_law_378 dL_law_379 dL_law_380 ?_
  refine lw_arg (k := 2) (pc := 381) (pc2 := 386) (by omega) hL rfl dL_law_381 dL_law_382 dL_law_383 dL_law_384 dL_law_385 ?_
  refine lw_cR (pc := 386) (pc2 := 389) (as := [.int (xs (i + 1)), .int (xs (i + 2))]) (st := (fun b B => .int v :: [])) (u := (v, r1)) mvL_47 (KX12_person l lw_is2 hr) (by decide) (by decide) (fun _ => rfl) rfl rfl (fun _ _ => Nat.le_of_ble_eq_true rfl) rfl dL_law_386 ?_
  refine lw_eq (pc := 389) (x := v) (st := fun _ _ => []) 1305 dL_law_389 (by decide) ?_
  exact K c1 r1 hrel
theorem lw_case_thing (l : Launch) {L : Nat} {xs : Nat → Int32} {i : Nat} {σC σR : pm_H} {Rel : pm_H → pm_H → Prop} (hL : L ≤ 2048) (hi : i + 4 ≤ L) (hR : pu_2 Rel fX11_thing fX12_thing) (hrel : Rel σC σR) (K : ∀ c r, Rel c r → lw_G l L xs 1305 i (fun _ _ => []) c r) : lw_G l L xs 394 i (fun _ _ => []) σC σR := by
  obtain ⟨v, c1, r1, hc, hr, hrel⟩ := hR σC σR hrel (xs (i + 1)) (xs (i + 2))
  refine lw_al1 (pc := 394) dL_law_394 ?_
  refine lw_arg (k := 1) (pc := 395) (pc2 := 400) (by omega) hL rfl dL_law_395 dL_law_396 dL_law_397 dL_law_398 dL_law_399 ?_
  refine lw_arg (k := 2) (pc := 400) (pc2 := 405) (by omega) hL rfl dL_law_400 dL_law_401 dL_law_402 dL_law_403 dL_law_404 ?_
  refine lw_cC (pc := 405) (pc2 := 408) (as := [.int (xs (i + 1)), .int (xs (i + 2))]) (st := (fun b B => [])) (u := (v, c1)) mvL_48 (KX11_thing l lw_is1 hc) (by decide) (by decide) (fun _ => rfl) rfl rfl (fun _ _ => Nat.le_of_ble_eq_true rfl) rfl dL_law_405 ?_
  refine lw_al2 (pc := 408) dL_law_408 ?_
  refine lw_arg (k := 1) (pc := 409) (pc2 := 414) (by omega) hL rfl dL_law_409 dL_law_410 dL_law_411 dL_law_412 dL_law_413 ?_
  refine lw_arg (k := 2) (pc := 414) (pc2 := 419) (by omega) hL rfl dL_law_414 dL_law_415 dL_law_416 dL_law_417 dL_law_418 ?_
  refine lw_cR (pc := 419) (pc2 := 422) (as := [.int (xs (i + 1)), .int (xs (i + 2))]) (st := (fun b B => .int v :: [])) (u := (v, r1)) mvL_51 (KX12_thing l lw_is2 hr) (by decide) (by decide) (fun _ => rfl) rfl rfl (fun _ _ => Nat.le_of_ble_eq_true rfl) rfl dL_law_419 ?_
  refine lw_eq (pc := 422) (x := v) (st := fun _ _ => []) 1305 dL_law_422 (by decide) ?_
  exact K c1 r1 hrel
theorem lw_case_hand (l : Launch) {L : Nat} {xs : Nat → Int32} {i : Nat} {σC σR : pm_H} {Rel : pm_H → pm_H → Prop} (hL : L ≤ 2048) (hi : i + 4 ≤ L) (hR : pu_1 Rel fX11_hand fX12_hand) (hrel : Rel σC σR) (K : ∀ c r, Rel c r → lw_G l L xs 1305 i (fun _ _ => []) c r) : lw_G l L xs 427 i (fun _ _ => []) σC σR := by
  obtain ⟨v, c1, r1, hc, hr, hrel⟩ := hR σC σR hrel (xs (i + 1))
  refine lw_al1 (pc := 427) dL_law_427 ?_
  refine lw_arg (k := 1) (pc := 428) (pc2 := 433) (by omega) hL rfl dL_law_428 dL_law_429 dL_law_430 dL_law_431 dL_law_432 ?_
  refine lw_cC (pc := 433) (pc2 := 436) (as := [.int (xs (i + 1))]) (st := (fun b B => [])) (u := (v, c1)) mvL_52 (KX11_hand l lw_is1 hc) (by decide) (by decide) (fun _ => rfl) rfl rfl (fun _ _ => Nat.le_of_ble_eq_true rfl) rfl dL_law_433 ?_
  refine lw_al2 (pc := 436) dL_law_436 ?_
  refine lw_arg (k := 1) (pc := 437) (pc2 := 442) (by omega) hL rfl dL_law_437 dL_law_438 dL_law_439 dL_law_440 dL_law_441 ?_
  refine lw_cR (pc := 442) (pc2 := 445) (as := [.int (xs (i + 1))]) (st := (fun b B => .int v :: [])) (u := (v, r1)) mvL_55 (KX12_hand l lw_is2 hr) (by decide) (by decide) (fun _ => rfl) rfl rfl (fun _ _ => Nat.le_of_ble_eq_true rfl) rfl dL_law_442 ?_
  refine lw_eq (pc := 445) (x := v) (st := fun _ _ => []) 1305 dL_law_445 (by decide) ?_
  exact K c1 r1 hrel
theorem lw_case_year (l : Launch) {L : Nat} {xs : Nat → Int32} {i : Nat} {σC σR : pm_H} {Rel : pm_H → pm_H → Prop} (hL : L ≤ 2048) (hi : i + 4 ≤ L) (hR : pu_1 Rel fX11_year fX12_year) (hrel : Rel σC σR) (K : ∀ c r, Rel c r → lw_G l L xs 1305 i (fun _ _ => []) c r) : lw_G l L xs 450 i (fun _ _ => []) σC σR := by
  obtain ⟨v, c1, r1, hc, hr, hrel⟩ := hR σC σR hrel (xs (i + 1))
  refine lw_al1 (pc := 450) dL_law_450 ?_
  refine lw_arg (k := 1) (pc := 451) (pc2 := 456) (by omega) hL rfl dL_law_451 dL_law_452 dL_law_453 dL_law_454 dL_law_455 ?_
  refine lw_cC (pc := 456) (pc2 := 459) (as := [.int (xs (i + 1))]) (st := (fun b B => [])) (u := (v, c1)) mvL_56 (KX11_year l lw_is1 hc) (by decide) (by decide) (fun _ => rfl) rfl rfl (fun _ _ => Nat.le_of_ble_eq_true rfl) rfl dL_law_456 ?_
  refine lw_al2 (pc := 459) dL_law_459 ?_
  refine lw_arg (k := 1) (pc := 460) (pc2 := 465) (by omega) hL rfl dL_law_460 dL_law_461 dL_law_462 dL_law_463 dL_law_464 ?_
  refine lw_cR (pc := 465) (pc2 := 468) (as := [.int (xs (i + 1))]) (st := (fun b B => .int v :: [])) (u := (v, r1)) mvL_59 (KX12_year l lw_is2 hr) (by decide) (by decide) (fun _ => rfl) rfl rfl (fun _ _ => Nat.le_of_ble_eq_true rfl) rfl dL_law_465 ?_
  refine lw_eq (pc := 468) (x := v) (st := fun _ _ => []) 1305 dL_law_468 (by decide) ?_
  exact K c1 r1 hrel
theorem lw_case_make (l : Launch) {L : Nat} {xs : Nat → Int32} {i : Nat} {σC σR : pm_H} {Rel : pm_H → pm_H → Prop} (hL : L ≤ 2048) (hi : i + 4 ≤ L) (hR : pu_2 Rel fX11_make fX12_make) (hrel : Rel σC σR) (K : ∀ c r, Rel c r → lw_G l L xs 1305 i (fun _ _ => []) c r) : lw_G l L xs 473 i (fun _ _ => []) σC σR := by
  obtain ⟨v, c1, r1, hc, hr, hrel⟩ := hR σC σR hrel (xs (i + 1)) (xs (i + 2))
  refine lw_al1 (pc := 473) dL_law_473 ?_
  refine lw_arg (k := 1) (pc := 474) (pc2 := 479) (by omega) hL rfl dL_law_474 dL_law_475 dL_law_476 dL_law_477 dL_law_478 ?_
  refine lw_arg (k := 2) (pc := 479) (pc2 := 484) (by omega) hL rfl dL_law_479 dL_law_480 dL_law_481 dL_law_482 dL_law_483 ?_
  refine lw_cC (pc := 484) (pc2 := 487) (as := [.int (xs (i + 1)), .int (xs (i + 2))]) (st := (fun b B => [])) (u := (v, c1)) mvL_60 (KX11_make l lw_is1 hc) (by decide) (by decide) (fun _ => rfl) rfl rfl (fun _ _ => Nat.le_of_ble_eq_true rfl) rfl dL_law_484 ?_
  refine lw_al2 (pc := 487) dL_law_487 ?_
  refine lw_arg (k := 1) (pc := 488) (pc2 := 493) (by omega) hL rfl dL_law_488 dL_law_489 dL_law_490 dL_law_491 dL_law_492 ?_
  refine lw_arg (k := 2) (pc := 493) (pc2 := 498) (by omega) hL rfl dL_law_493 dL_law_494 dL_law_495 dL_law_496 dL_law_497 ?_
  refine lw_cR (pc := 498) (pc2 := 501) (as := [.int (xs (i + 1)), .int (xs (i + 2))]) (st := (fun b B => .int v :: [])) (u := (v, r1)) mvL_63 (KX12_make l lw_is2 hr) (by decide) (by decide) (fun _ => rfl) rfl rfl (fun _ _ => Nat.le_of_ble_eq_true rfl) rfl dL_law_498 ?_
  refine lw_eq (pc := 501) (x := v) (st := fun _ _ => []) 1305 dL_law_501 (by decide) ?_
  exact K c1 r1 hrel
theorem lw_case_warp (l : Launch) {L : Nat} {xs : Nat → Int32} {i : Nat} {σC σR : pm_H} {Rel : pm_H → pm_H → Prop} (hL : L ≤ 2048) (hi : i + 4 ≤ L) (hR : pu_1 Rel fX11_warp fX12_warp) (hrel : Rel σC σR) (K : ∀ c r, Rel c r → lw_G l L xs 1305 i (fun _ _ => []) c r) : lw_G l L xs 506 i (fun _ _ => []) σC σR := by
  obtain ⟨v, c1, r1, hc, hr, hrel⟩ := hR σC σR hrel (xs (i + 1))
  refine lw_al1 (pc := 506) dL_law_506 ?_
  refine lw_arg (k := 1) (pc := 507) (pc2 := 512) (by omega) hL rfl dL_law_507 dL_law_508 dL_law_509 dL_law_510 dL_law_511 ?_
  refine lw_cC (pc := 512) (pc2 := 515) (as := [.int (xs (i + 1))]) (st := (fun b B => [])) (u := (v, c1)) mvL_64 (KX11_warp l lw_is1 hc) (by decide) (by decide) (fun _ => rfl) rfl rfl (fun _ _ => Nat.le_of_ble_eq_true rfl) rfl dL_law_512 ?_
  refine lw_al2 (pc := 515) dL_law_515 ?_
  refine lw_arg (k := 1) (pc := 516) (pc2 := 521) (by omega) hL rfl dL_law_516 dL_law_517 dL_law_518 dL_law_519 dL_law_520 ?_
  refine lw_cR (pc := 521) (pc2 := 524) (as := [.int (xs (i + 1))]) (st := (fun b B => .int v :: [])) (u := (v, r1)) mvL_67 (KX12_warp l lw_is2 hr) (by decide) (by decide) (fun _ => rfl) rfl rfl (fun _ _ => Nat.le_of_ble_eq_true rfl) rfl dL_law_521 ?_
  refine lw_eq (pc := 524) (x := v) (st := fun _ _ => []) 1305 dL_law_524 (by decide) ?_
  exact K c1 r1 hrel
theorem lw_case_plane (l : Launch) {L : Nat} {xs : Nat → Int32} {i : Nat} {σC σR : pm_H} {Rel : pm_H → pm_H → Prop} (hL : L ≤ 2048) (hi : i + 4 ≤ L) (hR : pu_0 Rel fX11_plane fX12_plane) (hrel : Rel σC σR) (K : ∀ c r, Rel c r → lw_G l L xs 1305 i (fun _ _ => []) c r) : lw_G l L xs 529 i (fun _ _ => []) σC σR := by
  obtain ⟨v, c1, r1, hc, hr, hrel⟩ := hR σC σR hrel 
  refine lw_al1 (pc := 529) dL_law_529 ?_
  refine lw_cC (pc := 530) (pc2 := 533) (as := []) (st := (fun b B => [])) (u := (v, c1)) mvL_68 (KX11_plane l lw_is1 hc) (by decide) (by decide) (fun _ => rfl) rfl rfl (fun _ _ => Nat.le_of_ble_eq_true rfl) rfl dL_law_530 ?_
  refine lw_al2 (pc := 533) dL_law_533 ?_
  refine lw_cR (pc := 534) (pc2 := 537) (as := []) (st := (fun b B => .int v :: [])) (u := (v, r1)) mvL_71 (KX12_plane l lw_is2 hr) (by decide) (by decide) (fun _ => rfl) rfl rfl (fun _ _ => Nat.le_of_ble_eq_true rfl) rfl dL_law_534 ?_
  refine lw_eq (pc := 537) (x := v) (st := fun _ _ => []) 1305 dL_law_537 (by decide) ?_
  exact K c1 r1 hrel
theorem lw_case_lose (l : Launch) {L : Nat} {xs : Nat → Int32} {i : Nat} {σC σR : pm_H} {Rel : pm_H → pm_H → Prop} (hL : L ≤ 2048) (hi : i + 4 ≤ L) (hR : pu_z Rel fX11_lose fX12_lose) (hrel : Rel σC σR) (K : ∀ c r, Rel c r → lw_G l L xs 1305 i (fun _ _ => []) c r) : lw_G l L xs 542 i (fun _ _ => []) σC σR := by
  by_cases hz0 : xs (i + 1) = 0
  · obtain ⟨v, c1, r1, hc, hr, hrel⟩ := hR σC σR hrel (0 : Int32) (Or.inl rfl)
    refine lw_al1 (pc := 542) dL_law_542 ?_
    refine lw_arg (k := 1) (pc := 543) (pc2 := 548) (by omega) hL rfl dL_law_543 dL_law_544 dL_law_545 dL_law_546 dL_law_547 ?_
    refine lw_ifz0 (pc := 548) 555 hz0 dL_law_548 (by decide) ?_
    refine lw_ic (pc := 555) (pc2 := 556) (0 : Int32) (by decide) rfl dL_law_555 ?_
    refine lw_cC (pc := 556) (pc2 := 559) (as := [.int (0 : Int32)]) (st := (fun b B => [])) (u := (v, c1)) mvL_72 (KX11_lose l lw_is1 hc) (by decide) (by decide) (fun _ => rfl) rfl rfl (fun _ _ => Nat.le_of_ble_eq_true rfl) rfl dL_law_556 ?_
    refine lw_al2 (pc := 559) dL_law_559 ?_
    refine lw_arg (k := 1) (pc := 560) (pc2 := 565) (by omega) hL rfl dL_law_560 dL_law_561 dL_law_562 dL_law_563 dL_law_564 ?_
    refine lw_ifz0 (pc := 565) 572 hz0 dL_law_565 (by decide) ?_
    refine lw_ic (pc := 572) (pc2 := 573) (0 : Int32) (by decide) rfl dL_law_572 ?_
    refine lw_cR (pc := 573) (pc2 := 576) (as := [.int (0 : Int32)]) (st := (fun b B => .int v :: [])) (u := (v, r1)) mvL_76 (KX12_lose l lw_is2 hr) (by decide) (by decide) (fun _ => rfl) rfl rfl (fun _ _ => Nat.le_of_ble_eq_true rfl) rfl dL_law_573 ?_
    refine lw_eq (pc := 576) (x := v) (st := fun _ _ => []) 1305 dL_law_576 (by decide) ?_
    exact K c1 r1 hrel
  · obtain ⟨v, c1, r1, hc, hr, hrel⟩ := hR σC σR hrel (1 : Int32) (Or.inr rfl)
    refine lw_al1 (pc := 542) dL_law_542 ?_
    refine lw_arg (k := 1) (pc := 543) (pc2 := 548) (by omega) hL rfl dL_law_543 dL_law_544 dL_law_545 dL_law_546 dL_law_547 ?_
    refine lw_ifz1 (pc := 548) (pc2 := 551) (tgt := 555) hz0 rfl dL_law_548 ?_ (by decide)
    refine lw_ic (pc := 551) (pc2 := 552) (1 : Int32) (by decide) rfl dL_law_551 ?_
    refine lw_gt (pc := 552) 556 dL_law_552 (by decide) ?_
    refine lw_cC (pc := 556) (pc2 := 559) (as := [.int (1 : Int32)]) (st := (fun b B => [])) (u := (v, c1)) mvL_72 (KX11_lose l lw_is1 hc) (by decide) (by decide) (fun _ => rfl) rfl rfl (fun _ _ => Nat.le_of_ble_eq_true rfl) rfl dL_law_556 ?_
    refine lw_al2 (pc := 559) dL_law_559 ?_
    refine lw_arg (k := 1) (pc := 560) (pc2 := 565) (by omega) hL rfl dL_law_560 dL_law_561 dL_law_562 dL_law_563 dL_law_564 ?_
    refine lw_ifz1 (pc := 565) (pc2 := 568) (tgt := 572) hz0 rfl dL_law_565 ?_ (by decide)
    refine lw_ic (pc := 568) (pc2 := 569) (1 : Int32) (by decide) rfl dL_law_568 ?_
    refine lw_gt (pc := 569) 573 dL_law_569 (by decide) ?_
    refine lw_cR (pc := 573) (pc2 := 576) (as := [.int (1 : Int32)]) (st := (fun b B => .int v :: [])) (u := (v, r1)) mvL_76 (KX12_lose l lw_is2 hr) (by decide) (by decide) (fun _ => rfl) rfl rfl (fun _ _ => Nat.le_of_ble_eq_true rfl) rfl dL_law_573 ?_
    refine lw_eq (pc := 576) (x := v) (st := fun _ _ => []) 1305 dL_law_576 (by decide) ?_
    exact K c1 r1 hrel
theorem lw_case_hold (l : Launch) {L : Nat} {xs : Nat → Int32} {i : Nat} {σC σR : pm_H} {Rel : pm_H → pm_H → Prop} (hL : L ≤ 2048) (hi : i + 4 ≤ L) (hR : pu_1 Rel fX11_hold fX12_hold) (hrel : Rel σC σR) (K : ∀ c r, Rel c r → lw_G l L xs 1305 i (fun _ _ => []) c r) : lw_G l L xs 581 i (fun _ _ => []) σC σR := by
  obtain ⟨v, c1, r1, hc, hr, hrel⟩ := hR σC σR hrel (xs (i + 1))
  refine lw_al1 (pc := 581) dL_law_581 ?_
  refine lw_arg (k := 1) (pc := 582) (pc2 := 587) (by omega) hL rfl dL_law_582 dL_law_583 dL_law_584 dL_law_585 dL_law_586 ?_
  refine lw_cC (pc := 587) (pc2 := 590) (as := [.int (xs (i + 1))]) (st := (fun b B => [])) (u := (v, c1)) mvL_77 (KX11_hold l lw_is1 hc) (by decide) (by decide) (fun _ => rfl) rfl rfl (fun _ _ => Nat.le_of_ble_eq_true rfl) rfl dL_law_587 ?_
  refine lw_al2 (pc := 590) dL_law_590 ?_
  refine lw_arg (k := 1) (pc := 591) (pc2 := 596) (by omega) hL rfl dL_law_591 dL_law_592 dL_law_593 dL_law_594 dL_law_595 ?_
  refine lw_cR (pc := 596) (pc2 := 599) (as := [.int (xs (i + 1))]) (st := (fun b B => .int v :: [])) (u := (v, r1)) mvL_80 (KX12_hold l lw_is2 hr) (by decide) (by decide) (fun _ => rfl) rfl rfl (fun _ _ => Nat.le_of_ble_eq_true rfl) rfl dL_law_596 ?_
  refine lw_eq (pc := 599) (x := v) (st := fun _ _ => []) 1305 dL_law_599 (by decide) ?_
  exact K c1 r1 hrel
theorem lw_case_drop (l : Launch) {L : Nat} {xs : Nat → Int32} {i : Nat} {σC σR : pm_H} {Rel : pm_H → pm_H → Prop} (hL : L ≤ 2048) (hi : i + 4 ≤ L) (hR : pu_0 Rel fX11_drop fX12_drop) (hrel : Rel σC σR) (K : ∀ c r, Rel c r → lw_G l L xs 1305 i (fun _ _ => []) c r) : lw_G l L xs 604 i (fun _ _ => []) σC σR := by
  obtain ⟨v, c1, r1, hc, hr, hrel⟩ := hR σC σR hrel 
  refine lw_al1 (pc := 604) dL_law_604 ?_
  refine lw_cC (pc := 605) (pc2 := 608) (as := []) (st := (fun b B => [])) (u := (v, c1)) mvL_81 (KX11_drop l lw_is1 hc) (by decide) (by decide) (fun _ => rfl) rfl rfl (fun _ _ => Nat.le_of_ble_eq_true rfl) rfl dL_law_605 ?_
  refine lw_al2 (pc := 608) dL_law_608 ?_
  refine lw_cR (pc := 609) (pc2 := 612) (as := []) (st := (fun b B => .int v :: [])) (u := (v, r1)) mvL_84 (KX12_drop l lw_is2 hr) (by decide) (by decide) (fun _ => rfl) rfl rfl (fun _ _ => Nat.le_of_ble_eq_true rfl) rfl dL_law_609 ?_
  refine lw_eq (pc := 612) (x := v) (st := fun _ _ => []) 1305 dL_law_612 (by decide) ?_
  exact K c1 r1 hrel
theorem lw_case_shorten (l : Launch) {L : Nat} {xs : Nat → Int32} {i : Nat} {σC σR : pm_H} {Rel : pm_H → pm_H → Prop} (hL : L ≤ 2048) (hi : i + 4 ≤ L) (hR : pu_2 Rel fX11_shorten fX12_shorten) (hrel : Rel σC σR) (K : ∀ c r, Rel c r → lw_G l L xs 1305 i (fun _ _ => []) c r) : lw_G l L xs 617 i (fun _ _ => []) σC σR := by
  obtain ⟨v, c1, r1, hc, hr, hrel⟩ := hR σC σR hrel (xs (i + 1)) (xs (i + 2))
  refine lw_al1 (pc := 617) dL_law_617 ?_
  refine lw_arg (k := 1) (pc := 618) (pc2 := 623) (by omega) hL rfl dL_law_618 dL_law_619 dL_law_620 dL_law_621 dL_law_622 ?_
  refine lw_arg (k := 2) (pc := 623) (pc2 := 628) (by omega) hL rfl dL_law_623 dL_law_624 dL_law_625 dL_law_626 dL_law_627 ?_
  refine lw_cC (pc := 628) (pc2 := 631) (as := [.int (xs (i + 1)), .int (xs (i + 2))]) (st := (fun b B => [])) (u := (v, c1)) mvL_85 (KX11_shorten l lw_is1 hc) (by decide) (by decide) (fun _ => rfl) rfl rfl (fun _ _ => Nat.le_of_ble_eq_true rfl) rfl dL_law_628 ?_
  refine lw_al2 (pc := 631) dL_law_631 ?_
  refine lw_arg (k := 1) (pc := 632) (pc2 := 637) (by omega) hL rfl dL_law_632 dL_law_633 dL_law_634 dL_law_635 dL_law_636 ?_
  refine lw_arg (k := 2) (pc := 637) (pc2 := 642) (by omega) hL rfl dL_law_637 dL_law_638 dL_law_639 dL_law_640 dL_law_641 ?_
  refine lw_cR (pc := 642) (pc2 := 645) (as := [.int (xs (i + 1)), .int (xs (i + 2))]) (st := (fun b B => .int v :: [])) (u := (v, r1)) mvL_88 (KX12_shorten l lw_is2 hr) (by decide) (by decide) (fun _ => rfl) rfl rfl (fun _ _ => Nat.le_of_ble_eq_true rfl) rfl dL_law_642 ?_
  refine lw_eq (pc := 645) (x := v) (st := fun _ _ => []) 1305 dL_law_645 (by decide) ?_
  exact K c1 r1 hrel
theorem lw_case_drift (l : Launch) {L : Nat} {xs : Nat → Int32} {i : Nat} {σC σR : pm_H} {Rel : pm_H → pm_H → Prop} (hL : L ≤ 2048) (hi : i + 4 ≤ L) (hR : pu_1 Rel fX11_drift fX12_drift) (hrel : Rel σC σR) (K : ∀ c r, Rel c r → lw_G l L xs 1305 i (fun _ _ => []) c r) : lw_G l L xs 650 i (fun _ _ => []) σC σR := by
  obtain ⟨v, c1, r1, hc, hr, hrel⟩ := hR σC σR hrel (xs (i + 1))
  refine lw_al1 (pc := 650) dL_law_650 ?_
  refine lw_arg (k := 1) (pc := 651) (pc2 := 656) (by omega) hL rfl dL_law_651 dL_law_652 dL_law_653 dL_law_654 dL_law_655 ?_
  refine lw_cC (pc := 656) (pc2 := 659) (as := [.int (xs (i + 1))]) (st := (fun b B => [])) (u := (v, c1)) mvL_89 (KX11_drift l lw_is1 hc) (by decide) (by decide) (fun _ => rfl) rfl rfl (fun _ _ => Nat.le_of_ble_eq_true rfl) rfl dL_law_656 ?_
  refine lw_al2 (pc := 659) dL_law_659 ?_
  refine lw_arg (k := 1) (pc := 660) (pc2 := 665) (by omega) hL rfl dL_law_660 dL_law_661 dL_law_662 dL_law_663 dL_law_664 ?_
  refine lw_cR (pc := 665) (pc2 := 668) (as := [.int (xs (i + 1))]) (st := (fun b B => .int v :: [])) (u := (v, r1)) mvL_92 (KX12_drift l lw_is2 hr) (by decide) (by decide) (fun _ => rfl) rfl rfl (fun _ _ => Nat.le_of_ble_eq_true rfl) rfl dL_law_665 ?_
  refine lw_eq (pc := 668) (x := v) (st := fun _ _ => []) 1305 dL_law_668 (by decide) ?_
  exact K c1 r1 hrel
theorem lw_case_undo (l : Launch) {L : Nat} {xs : Nat → Int32} {i : Nat} {σC σR : pm_H} {Rel : pm_H → pm_H → Prop} (hL : L ≤ 2048) (hi : i + 4 ≤ L) (hR : pu_0 Rel fX11_undo fX12_undo) (hrel : Rel σC σR) (K : ∀ c r, Rel c r → lw_G l L xs 1305 i (fun _ _ => []) c r) : lw_G l L xs 673 i (fun _ _ => []) σC σR := by
  obtain ⟨v, c1, r1, hc, hr, hrel⟩ := hR σC σR hrel 
  refine lw_al1 (pc := 673) dL_law_673 ?_
  refine lw_cC (pc := 674) (pc2 := 677) (as := []) (st := (fun b B => [])) (u := (v, c1)) mvL_93 (KX11_undo l lw_is1 hc) (by decide) (by decide) (fun _ => rfl) rfl rfl (fun _ _ => Nat.le_of_ble_eq_true rfl) rfl dL_law_674 ?_
  refine lw_al2 (pc := 677) dL_law_677 ?_
  refine lw_cR (pc := 678) (pc2 := 681) (as := []) (st := (fun b B => .int v :: [])) (u := (v, r1)) mvL_96 (KX12_undo l lw_is2 hr) (by decide) (by decide) (fun _ => rfl) rfl rfl (fun _ _ => Nat.le_of_ble_eq_true rfl) rfl dL_law_678 ?_
  refine lw_eq (pc := 681) (x := v) (st := fun _ _ => []) 1305 dL_law_681 (by decide) ?_
  exact K c1 r1 hrel
theorem lw_case_longAt (l : Launch) {L : Nat} {xs : Nat → Int32} {i : Nat} {σC σR : pm_H} {Rel : pm_H → pm_H → Prop} (hL : L ≤ 2048) (hi : i + 4 ≤ L) (hR : pu_2 Rel fX11_longAt fX12_longAt) (hrel : Rel σC σR) (K : ∀ c r, Rel c r → lw_G l L xs 1305 i (fun _ _ => []) c r) : lw_G l L xs 686 i (fun _ _ => []) σC σR := by
  obtain ⟨v, c1, r1, hc, hr, hrel⟩ := hR σC σR hrel (xs (i + 1)) (xs (i + 2))
  refine lw_al1 (pc := 686) dL_law_686 ?_
  refine lw_arg (k := 1) (pc := 687) (pc2 := 692) (by omega) hL rfl dL_law_687 dL_law_688 dL_law_689 dL_law_690 dL_law_691 ?_
  refine lw_arg (k := 2) (pc := 692) (pc2 := 697) (by omega) hL rfl dL_law_692 dL_law_693 dL_law_694 dL_law_695 dL_law_696 ?_
  refine lw_cC (pc := 697) (pc2 := 700) (as := [.int (xs (i + 1)), .int (xs (i + 2))]) (st := (fun b B => [])) (u := (v, c1)) mvL_97 (KX11_longAt l lw_is1 hc) (by decide) (by decide) (fun _ => rfl) rfl rfl (fun _ _ => Nat.le_of_ble_eq_true rfl) rfl dL_law_697 ?_
  refine lw_al2 (pc := 700) dL_law_700 ?_
  refine lw_arg (k := 1) (pc := 701) (pc2 := 706) (by omega) hL rfl dL_law_701 dL_law_702 dL_law_703 dL_law_704 dL_law_705 ?_
  refine lw_arg (k := 2) (pc := 706) (pc2 := 711) (by omega) hL rfl dL_law_706 dL_law_707 dL_law_708 dL_law_709 dL_law_710 ?_
  refine lw_cR (pc := 711) (pc2 := 714) (as := [.int (xs (i + 1)), .int (xs (i + 2))]) (st := (fun b B => .int v :: [])) (u := (v, r1)) mvL_100 (KX12_longAt l lw_is2 hr) (by decide) (by decide) (fun _ => rfl) rfl rfl (fun _ _ => Nat.le_of_ble_eq_true rfl) rfl dL_law_711 ?_
  refine lw_eq (pc := 714) (x := v) (st := fun _ _ => []) 1305 dL_law_714 (by decide) ?_
  exact K c1 r1 hrel
theorem lw_case_firstShort (l : Launch) {L : Nat} {xs : Nat → Int32} {i : Nat} {σC σR : pm_H} {Rel : pm_H → pm_H → Prop} (hL : L ≤ 2048) (hi : i + 4 ≤ L) (hR : pu_1 Rel fX11_firstShort fX12_firstShort) (hrel : Rel σC σR) (K : ∀ c r, Rel c r → lw_G l L xs 1305 i (fun _ _ => []) c r) : lw_G l L xs 719 i (fun _ _ => []) σC σR := by
  obtain ⟨v, c1, r1, hc, hr, hrel⟩ := hR σC σR hrel (xs (i + 1))
  refine lw_al1 (pc := 719) dL_law_719 ?_
  refine lw_arg (k := 1) (pc := 720) (pc2 := 725) (by omega) hL rfl dL_law_720 dL_law_721 dL_law_722 dL_law_723 dL_law_724 ?_
  refine lw_cC (pc := 725) (pc2 := 728) (as := [.int (xs (i + 1))]) (st := (fun b B => [])) (u := (v, c1)) mvL_101 (KX11_firstShort l lw_is1 hc) (by decide) (by decide) (fun _ => rfl) rfl rfl (fun _ _ => Nat.le_of_ble_eq_true rfl) rfl dL_law_725 ?_
  refine lw_al2 (pc := 728) dL_law_728 ?_
  refine lw_arg (k := 1) (pc := 729) (pc2 := 734) (by omega) hL rfl dL_law_729 dL_law_730 dL_law_731 dL_law_732 dL_law_733 ?_
  refine lw_cR (pc := 734) (pc2 := 737) (as := [.int (xs (i + 1))]) (st := (fun b B => .int v :: [])) (u := (v, r1)) mvL_104 (KX12_firstShort l lw_is2 hr) (by decide) (by decide) (fun _ => rfl) rfl rfl (fun _ _ => Nat.le_of_ble_eq_true rfl) rfl dL_law_734 ?_
  refine lw_eq (pc := 737) (x := v) (st := fun _ _ => []) 1305 dL_law_737 (by decide) ?_
  exact K c1 r1 hrel
theorem lw_case_planeWhen (l : Launch) {L : Nat} {xs : Nat → Int32} {i : Nat} {σC σR : pm_H} {Rel : pm_H → pm_H → Prop} (hL : L ≤ 2048) (hi : i + 4 ≤ L) (hR : pu_2 Rel fX11_planeWhen fX12_planeWhen) (hrel : Rel σC σR) (K : ∀ c r, Rel c r → lw_G l L xs 1305 i (fun _ _ => []) c r) : lw_G l L xs 742 i (fun _ _ => []) σC σR := by
  obtain ⟨v, c1, r1, hc, hr, hrel⟩ := hR σC σR hrel (xs (i + 1)) (xs (i + 2))
  refine lw_al1 (pc := 742) dL_law_742 ?_
  refine lw_arg (k := 1) (pc := 743) (pc2 := 748) (by omega) hL rfl dL_law_743 dL_law_744 dL_law_745 dL_law_746 dL_law_747 ?_
  refine lw_arg (k := 2) (pc := 748) (pc2 := 753) (by omega) hL rfl dL_law_748 dL_law_749 dL_law_750 dL_law_751 dL_law_752 ?_
  refine lw_cC (pc := 753) (pc2 := 756) (as := [.int (xs (i + 1)), .int (xs (i + 2))]) (st := (fun b B => [])) (u := (v, c1)) mvL_105 (KX11_planeWhen l lw_is1 hc) (by decide) (by decide) (fun _ => rfl) rfl rfl (fun _ _ => Nat.le_of_ble_eq_true rfl) rfl dL_law_753 ?_
  refine lw_al2 (pc := 756) dL_law_756 ?_
  refine lw_arg (k := 1) (pc := 757) (pc2 := 762) (by omega) hL rfl dL_law_757 dL_law_758 dL_law_759 dL_law_760 dL_law_761 ?_
  refine lw_arg (k := 2) (pc := 762) (pc2 := 767) (by omega) hL rfl dL_law_762 dL_law_763 dL_law_764 dL_law_765 dL_law_766 ?_
  refine lw_cR (pc := 767) (pc2 := 770) (as := [.int (xs (i + 1)), .int (xs (i + 2))]) (st := (fun b B => .int v :: [])) (u := (v, r1)) mvL_108 (KX12_planeWhen l lw_is2 hr) (by decide) (by decide) (fun _ => rfl) rfl rfl (fun _ _ => Nat.le_of_ble_eq_true rfl) rfl dL_law_767 ?_
  refine lw_eq (pc := 770) (x := v) (st := fun _ _ => []) 1305 dL_law_770 (by decide) ?_
  exact K c1 r1 hrel
theorem lw_case_had (l : Launch) {L : Nat} {xs : Nat → Int32} {i : Nat} {σC σR : pm_H} {Rel : pm_H → pm_H → Prop} (hL : L ≤ 2048) (hi : i + 4 ≤ L) (hR : pu_1 Rel fX11_had fX12_had) (hrel : Rel σC σR) (K : ∀ c r, Rel c r → lw_G l L xs 1305 i (fun _ _ => []) c r) : lw_G l L xs 775 i (fun _ _ => []) σC σR := by
  obtain ⟨v, c1, r1, hc, hr, hrel⟩ := hR σC σR hrel (xs (i + 1))
  refine lw_al1 (pc := 775) dL_law_775 ?_
  refine lw_arg (k := 1) (pc := 776) (pc2 := 781) (by omega) hL rfl dL_law_776 dL_law_777 dL_law_778 dL_law_779 dL_law_780 ?_
  refine lw_cC (pc := 781) (pc2 := 784) (as := [.int (xs (i + 1))]) (st := (fun b B => [])) (u := (v, c1)) mvL_109 (KX11_had l lw_is1 hc) (by decide) (by decide) (fun _ => rfl) rfl rfl (fun _ _ => Nat.le_of_ble_eq_true rfl) rfl dL_law_781 ?_
  refine lw_al2 (pc := 784) dL_law_784 ?_
  refine lw_arg (k := 1) (pc := 785) (pc2 := 790) (by omega) hL rfl dL_law_785 dL_law_786 dL_law_787 dL_law_788 dL_law_789 ?_
  refine lw_cR (pc := 790) (pc2 := 793) (as := [.int (xs (i + 1))]) (st := (fun b B => .int v :: [])) (u := (v, r1)) mvL_112 (KX12_had l lw_is2 hr) (by decide) (by decide) (fun _ => rfl) rfl rfl (fun _ _ => Nat.le_of_ble_eq_true rfl) rfl dL_law_790 ?_
  refine lw_eq (pc := 793) (x := v) (st := fun _ _ => []) 1305 dL_law_793 (by decide) ?_
  exact K c1 r1 hrel
theorem lw_case_parts (l : Launch) {L : Nat} {xs : Nat → Int32} {i : Nat} {σC σR : pm_H} {Rel : pm_H → pm_H → Prop} (hL : L ≤ 2048) (hi : i + 4 ≤ L) (hR : pu_1 Rel fX11_parts fX12_parts) (hrel : Rel σC σR) (K : ∀ c r, Rel c r → lw_G l L xs 1305 i (fun _ _ => []) c r) : lw_G l L xs 798 i (fun _ _ => []) σC σR := by
  obtain ⟨v, c1, r1, hc, hr, hrel⟩ := hR σC σR hrel (xs (i + 1))
  refine lw_al1 (pc := 798) dL_law_798 ?_
  refine lw_arg (k := 1) (pc := 799) (pc2 := 804) (by omega) hL rfl dL_law_799 dL_law_800 dL_law_801 dL_law_802 dL_law_803 ?_
  refine lw_cC (pc := 804) (pc2 := 807) (as := [.int (xs (i + 1))]) (st := (fun b B => [])) (u := (v, c1)) mvL_113 (KX11_parts l lw_is1 hc) (by decide) (by decide) (fun _ => rfl) rfl rfl (fun _ _ => Nat.le_of_ble_eq_true rfl) rfl dL_law_804 ?_
  refine lw_al2 (pc := 807) dL_law_807 ?_
  refine lw_arg (k := 1) (pc := 808) (pc2 := 813) (by omega) hL rfl dL_law_808 dL_law_809 dL_law_810 dL_law_811 dL_law_812 ?_
  refine lw_cR (pc := 813) (pc2 := 816) (as := [.int (xs (i + 1))]) (st := (fun b B => .int v :: [])) (u := (v, r1)) mvL_116 (KX12_parts l lw_is2 hr) (by decide) (by decide) (fun _ => rfl) rfl rfl (fun _ _ => Nat.le_of_ble_eq_true rfl) rfl dL_law_813 ?_
  refine lw_eq (pc := 816) (x := v) (st := fun _ _ => []) 1305 dL_law_816 (by decide) ?_
  exact K c1 r1 hrel
theorem lw_case_fold (l : Launch) {L : Nat} {xs : Nat → Int32} {i : Nat} {σC σR : pm_H} {Rel : pm_H → pm_H → Prop} (hL : L ≤ 2048) (hi : i + 4 ≤ L) (hR : pu_1 Rel fX11_fold fX12_fold) (hrel : Rel σC σR) (K : ∀ c r, Rel c r → lw_G l L xs 1305 i (fun _ _ => []) c r) : lw_G l L xs 821 i (fun _ _ => []) σC σR := by
  obtain ⟨v, c1, r1, hc, hr, hrel⟩ := hR σC σR hrel (xs (i + 1))
  refine lw_al1 (pc := 821) dL_law_821 ?_
  refine lw_arg (k := 1) (pc := 822) (pc2 := 827) (by omega) hL rfl dL_law_822 dL_law_823 dL_law_824 dL_law_825 dL_law_826 ?_
  refine lw_cC (pc := 827) (pc2 := 830) (as := [.int (xs (i + 1))]) (st := (fun b B => [])) (u := (v, c1)) mvL_117 (KX11_fold l lw_is1 hc) (by decide) (by decide) (fun _ => rfl) rfl rfl (fun _ _ => Nat.le_of_ble_eq_true rfl) rfl dL_law_827 ?_
  refine lw_al2 (pc := 830) dL_law_830 ?_
  refine lw_arg (k := 1) (pc := 831) (pc2 := 836) (by omega) hL rfl dL_law_831 dL_law_832 dL_law_833 dL_law_834 dL_law_835 ?_
  refine lw_cR (pc := 836) (pc2 := 839) (as := [.int (xs (i + 1))]) (st := (fun b B => .int v :: [])) (u := (v, r1)) mvL_120 (KX12_fold l lw_is2 hr) (by decide) (by decide) (fun _ => rfl) rfl rfl (fun _ _ => Nat.le_of_ble_eq_true rfl) rfl dL_law_836 ?_
  refine lw_eq (pc := 839) (x := v) (st := fun _ _ => []) 1305 dL_law_839 (by decide) ?_
  exact K c1 r1 hrel
theorem lw_case_posts (l : Launch) {L : Nat} {xs : Nat → Int32} {i : Nat} {σC σR : pm_H} {Rel : pm_H → pm_H → Prop} (hL : L ≤ 2048) (hi : i + 4 ≤ L) (hR : pu_1 Rel fX11_posts fX12_posts) (hrel : Rel σC σR) (K : ∀ c r, Rel c r → lw_G l L xs 1305 i (fun _ _ => []) c r) : lw_G l L xs 844 i (fun _ _ => []) σC σR := by
  obtain ⟨v, c1, r1, hc, hr, hrel⟩ := hR σC σR hrel (xs (i + 1))
  refine lw_al1 (pc := 844) dL_law_844 ?_
  refine lw_arg (k := 1) (pc := 845) (pc2 := 850) (by omega) hL rfl dL_law_845 dL_law_846 dL_law_847 dL_law_848 dL_law_849 ?_
  refine lw_cC (pc := 850) (pc2 := 853) (as := [.int (xs (i + 1))]) (st := (fun b B => [])) (u := (v, c1)) mvL_121 (KX11_posts l lw_is1 hc) (by decide) (by decide) (fun _ => rfl) rfl rfl (fun _ _ => Nat.le_of_ble_eq_true rfl) rfl dL_law_850 ?_
  refine lw_al2 (pc := 853) dL_law_853 ?_
  refine lw_arg (k := 1) (pc := 854) (pc2 := 859) (by omega) hL rfl dL_law_854 dL_law_855 dL_law_856 dL_law_857 dL_law_858 ?_
  refine lw_cR (pc := 859) (pc2 := 862) (as := [.int (xs (i + 1))]) (st := (fun b B => .int v :: [])) (u := (v, r1)) mvL_124 (KX12_posts l lw_is2 hr) (by decide) (by decide) (fun _ => rfl) rfl rfl (fun _ _ => Nat.le_of_ble_eq_true rfl) rfl dL_law_859 ?_
  refine lw_eq (pc := 862) (x := v) (st := fun _ _ => []) 1305 dL_law_862 (by decide) ?_
  exact K c1 r1 hrel
theorem lw_case_toShorten (l : Launch) {L : Nat} {xs : Nat → Int32} {i : Nat} {σC σR : pm_H} {Rel : pm_H → pm_H → Prop} (hL : L ≤ 2048) (hi : i + 4 ≤ L) (hR : pu_2 Rel fX11_toShorten fX12_toShorten) (hrel : Rel σC σR) (K : ∀ c r, Rel c r → lw_G l L xs 1305 i (fun _ _ => []) c r) : lw_G l L xs 867 i (fun _ _ => []) σC σR := by
  obtain ⟨v, c1, r1, hc, hr, hrel⟩ := hR σC σR hrel (xs (i + 1)) (xs (i + 2))
  refine lw_al1 (pc := 867) dL_law_867 ?_
  refine lw_arg (k := 1) (pc := 868) (pc2 := 873) (by omega) hL rfl dL_law_868 dL_law_869 dL_law_870 dL_law_871 dL_law_872 ?_
  refine lw_arg (k := 2) (pc := 873) (pc2 := 878) (by omega) hL rfl dL_law_873 dL_law_874 dL_law_875 dL_law_876 dL_law_877 ?_
  refine lw_cC (pc := 878) (pc2 := 881) (as := [.int (xs (i + 1)), .int (xs (i + 2))]) (st := (fun b B => [])) (u := (v, c1)) mvL_125 (KX11_toShorten l lw_is1 hc) (by decide) (by decide) (fun _ => rfl) rfl rfl (fun _ _ => Nat.le_of_ble_eq_true rfl) rfl dL_law_878 ?_
  refine lw_al2 (pc := 881) dL_law_881 ?_
  refine lw_arg (k := 1) (pc := 882) (pc2 := 887) (by omega) hL rfl dL_law_882 dL_law_883 dL_law_884 dL_law_885 dL_law_886 ?_
  refine lw_arg (k := 2) (pc := 887) (pc2 := 892) (by omega) hL rfl dL_law_887 dL_law_888 dL_law_889 dL_law_890 dL_law_891 ?_
  refine lw_cR (pc := 892) (pc2 := 895) (as := [.int (xs (i + 1)), .int (xs (i + 2))]) (st := (fun b B => .int v :: [])) (u := (v, r1)) mvL_128 (KX12_toShorten l lw_is2 hr) (by decide) (by decide) (fun _ => rfl) rfl rfl (fun _ _ => Nat.le_of_ble_eq_true rfl) rfl dL_law_892 ?_
  refine lw_eq (pc := 895) (x := v) (st := fun _ _ => []) 1305 dL_law_895 (by decide) ?_
  exact K c1 r1 hrel
theorem lw_case_wasWarped (l : Launch) {L : Nat} {xs : Nat → Int32} {i : Nat} {σC σR : pm_H} {Rel : pm_H → pm_H → Prop} (hL : L ≤ 2048) (hi : i + 4 ≤ L) (hR : pu_3 Rel fX11_wasWarped fX12_wasWarped) (hrel : Rel σC σR) (K : ∀ c r, Rel c r → lw_G l L xs 1305 i (fun _ _ => []) c r) : lw_G l L xs 900 i (fun _ _ => []) σC σR := by
  obtain ⟨v, c1, r1, hc, hr, hrel⟩ := hR σC σR hrel (xs (i + 1)) (xs (i + 2)) (xs (i + 3))
  refine lw_al1 (pc := 900) dL_law_900 ?_
  refine lw_arg (k := 1) (pc := 901) (pc2 := 906) (by omega) hL rfl dL_law_901 dL_law_902 dL_law_903 dL_law_904 dL_law_905 ?_
  refine lw_arg (k := 2) (pc := 906) (pc2 := 911) (by omega) hL rfl dL_law_906 dL_law_907 dL_law_908 dL_law_909 dL_law_910 ?_
  refine lw_arg (k := 3) (pc := 911) (pc2 := 916) (by omega) hL rfl dL_law_911 dL_law_912 dL_law_913 dL_law_914 dL_law_915 ?_
  refine lw_cC (pc := 916) (pc2 := 919) (as := [.int (xs (i + 1)), .int (xs (i + 2)), .int (xs (i + 3))]) (st := (fun b B => [])) (u := (v, c1)) mvL_129 (KX11_wasWarped l lw_is1 hc) (by decide) (by decide) (fun _ => rfl) rfl rfl (fun _ _ => Nat.le_of_ble_eq_true rfl) rfl dL_law_916 ?_
  refine lw_al2 (pc := 919) dL_law_919 ?_
  refine lw_arg (k := 1) (pc := 920) (pc2 := 925) (by omega) hL rfl dL_law_920 dL_law_921 dL_law_922 dL_law_923 dL_law_924 ?_
  refine lw_arg (k := 2) (pc := 925) (pc2 := 930) (by omega) hL rfl dL_law_925 dL_law_926 dL_law_927 dL_law_928 dL_law_929 ?_
  refine lw_arg (k := 3) (pc := 930) (pc2 := 935) (by omega) hL rfl dL_law_930 dL_law_931 dL_law_932 dL_law_933 dL_law_934 ?_
  refine lw_cR (pc := 935) (pc2 := 938) (as := [.int (xs (i + 1)), .int (xs (i + 2)), .int (xs (i + 3))]) (st := (fun b B => .int v :: [])) (u := (v, r1)) mvL_133 (KX12_wasWarped l lw_is2 hr) (by decide) (by decide) (fun _ => rfl) rfl rfl (fun _ _ => Nat.le_of_ble_eq_true rfl) rfl dL_law_935 ?_
  refine lw_eq (pc := 938) (x := v) (st := fun _ _ => []) 1305 dL_law_938 (by decide) ?_
  exact K c1 r1 hrel
theorem lw_case_alike (l : Launch) {L : Nat} {xs : Nat → Int32} {i : Nat} {σC σR : pm_H} {Rel : pm_H → pm_H → Prop} (hL : L ≤ 2048) (hi : i + 4 ≤ L) (hR : pu_1 Rel fX11_alike fX12_alike) (hrel : Rel σC σR) (K : ∀ c r, Rel c r → lw_G l L xs 1305 i (fun _ _ => []) c r) : lw_G l L xs 943 i (fun _ _ => []) σC σR := by
  obtain ⟨v, c1, r1, hc, hr, hrel⟩ := hR σC σR hrel (xs (i + 1))
  refine lw_al1 (pc := 943) dL_law_943 ?_
  refine lw_arg (k := 1) (pc := 944) (pc2 := 949) (by omega) hL rfl dL_law_944 dL_law_945 dL_law_946 dL_law_947 dL_law_948 ?_
  refine lw_cC (pc := 949) (pc2 := 952) (as := [.int (xs (i + 1))]) (st := (fun b B => [])) (u := (v, c1)) mvL_134 (KX11_alike l lw_is1 hc) (by decide) (by decide) (fun _ => rfl) rfl rfl (fun _ _ => Nat.le_of_ble_eq_true rfl) rfl dL_law_949 ?_
  refine lw_al2 (pc := 952) dL_law_952 ?_
  refine lw_arg (k := 1) (pc := 953) (pc2 := 958) (by omega) hL rfl dL_law_953 dL_law_954 dL_law_955 dL_law_956 dL_law_957 ?_
  refine lw_cR (pc := 958) (pc2 := 961) (as := [.int (xs (i + 1))]) (st := (fun b B => .int v :: [])) (u := (v, r1)) mvL_137 (KX12_alike l lw_is2 hr) (by decide) (by decide) (fun _ => rfl) rfl rfl (fun _ _ => Nat.le_of_ble_eq_true rfl) rfl dL_law_958 ?_
  refine lw_eq (pc := 961) (x := v) (st := fun _ _ => []) 1305 dL_law_961 (by decide) ?_
  exact K c1 r1 hrel
theorem lw_case_hands (l : Launch) {L : Nat} {xs : Nat → Int32} {i : Nat} {σC σR : pm_H} {Rel : pm_H → pm_H → Prop} (hL : L ≤ 2048) (hi : i + 4 ≤ L) (hR : pu_1 Rel fX11_hands fX12_hands) (hrel : Rel σC σR) (K : ∀ c r, Rel c r → lw_G l L xs 1305 i (fun _ _ => []) c r) : lw_G l L xs 966 i (fun _ _ => []) σC σR := by
  obtain ⟨v, c1, r1, hc, hr, hrel⟩ := hR σC σR hrel (xs (i + 1))
  refine lw_al1 (pc := 966) dL_law_966 ?_
  refine lw_arg (k := 1) (pc := 967) (pc2 := 972) (by omega) hL rfl dL_law_967 dL_law_968 dL_law_969 dL_law_970 dL_law_971 ?_
  refine lw_cC (pc := 972) (pc2 := 975) (as := [.int (xs (i + 1))]) (st := (fun b B => [])) (u := (v, c1)) mvL_138 (KX11_hands l lw_is1 hc) (by decide) (by decide) (fun _ => rfl) rfl rfl (fun _ _ => Nat.le_of_ble_eq_true rfl) rfl dL_law_972 ?_
  refine lw_al2 (pc := 975) dL_law_975 ?_
  refine lw_arg (k := 1) (pc := 976) (pc2 := 981) (by omega) hL rfl dL_law_976 dL_law_977 dL_law_978 dL_law_979 dL_law_980 ?_
  refine lw_cR (pc := 981) (pc2 := 984) (as := [.int (xs (i + 1))]) (st := (fun b B => .int v :: [])) (u := (v, r1)) mvL_141 (KX12_hands l lw_is2 hr) (by decide) (by decide) (fun _ => rfl) rfl rfl (fun _ _ => Nat.le_of_ble_eq_true rfl) rfl dL_law_981 ?_
  refine lw_eq (pc := 984) (x := v) (st := fun _ _ => []) 1305 dL_law_984 (by decide) ?_
  exact K c1 r1 hrel
theorem lw_case_tens (l : Launch) {L : Nat} {xs : Nat → Int32} {i : Nat} {σC σR : pm_H} {Rel : pm_H → pm_H → Prop} (hL : L ≤ 2048) (hi : i + 4 ≤ L) (hR : pu_3 Rel fX11_tens fX12_tens) (hrel : Rel σC σR) (K : ∀ c r, Rel c r → lw_G l L xs 1305 i (fun _ _ => []) c r) : lw_G l L xs 989 i (fun _ _ => []) σC σR := by
  obtain ⟨v, c1, r1, hc, hr, hrel⟩ := hR σC σR hrel (xs (i + 1)) (xs (i + 2)) (xs (i + 3))
  refine lw_al1 (pc := 989) dL_law_989 ?_
  refine lw_arg (k := 1) (pc := 990) (pc2 := 995) (by omega) hL rfl dL_law_990 dL_law_991 dL_law_992 dL_law_993 dL_law_994 ?_
  refine lw_arg (k := 2) (pc := 995) (pc2 := 1000) (by omega) hL rfl dL_law_995 dL_law_996 dL_law_997 dL_law_998 dL_law_999 ?_
  refine lw_arg (k := 3) (pc := 1000) (pc2 := 1005) (by omega) hL rfl dL_law_1000 dL_law_1001 dL_law_1002 dL_law_1003 dL_law_1004 ?_
  refine lw_cC (pc := 1005) (pc2 := 1008) (as := [.int (xs (i + 1)), .int (xs (i + 2)), .int (xs (i + 3))]) (st := (fun b B => [])) (u := (v, c1)) mvL_142 (KX11_tens l lw_is1 hc) (by decide) (by decide) (fun _ => rfl) rfl rfl (fun _ _ => Nat.le_of_ble_eq_true rfl) rfl dL_law_1005 ?_
  refine lw_al2 (pc := 1008) dL_law_1008 ?_
  refine lw_arg (k := 1) (pc := 1009) (pc2 := 1014) (by omega) hL rfl dL_law_1009 dL_law_1010 dL_law_1011 dL_law_1012 dL_law_1013 ?_
  refine lw_arg (k := 2) (pc := 1014) (pc2 := 1019) (by omega) hL rfl dL_law_1014 dL_law_1015 dL_law_1016 dL_law_1017 dL_law_1018 ?_
  refine lw_arg (k := 3) (pc := 1019) (pc2 := 1024) (by omega) hL rfl dL_law_1019 dL_law_1020 dL_law_1021 dL_law_1022 dL_law_1023 ?_
  refine lw_cR (pc := 1024) (pc2 := 1027) (as := [.int (xs (i + 1)), .int (xs (i + 2)), .int (xs (i + 3))]) (st := (fun b B => .int v :: [])) (u := (v, r1)) mvL_145 (KX12_tens l lw_is2 hr) (by decide) (by decide) (fun _ => rfl) rfl rfl (fun _ _ => Nat.le_of_ble_eq_true rfl) rfl dL_law_1024 ?_
  refine lw_eq (pc := 1027) (x := v) (st := fun _ _ => []) 1305 dL_law_1027 (by decide) ?_
  exact K c1 r1 hrel
theorem lw_case_lean (l : Launch) {L : Nat} {xs : Nat → Int32} {i : Nat} {σC σR : pm_H} {Rel : pm_H → pm_H → Prop} (hL : L ≤ 2048) (hi : i + 4 ≤ L) (hR : pu_3 Rel fX11_lean fX12_lean) (hrel : Rel σC σR) (K : ∀ c r, Rel c r → lw_G l L xs 1305 i (fun _ _ => []) c r) : lw_G l L xs 1032 i (fun _ _ => []) σC σR := by
  obtain ⟨v, c1, r1, hc, hr, hrel⟩ := hR σC σR hrel (xs (i + 1)) (xs (i + 2)) (xs (i + 3))
  refine lw_al1 (pc := 1032) dL_law_1032 ?_
  refine lw_arg (k := 1) (pc := 1033) (pc2 := 1038) (by omega) hL rfl dL_law_1033 dL_law_1034 dL_law_1035 dL_law_1036 dL_law_1037 ?_
  refine lw_arg (k := 2) (pc := 1038) (pc2 := 1043) (by omega) hL rfl dL_law_1038 dL_law_1039 dL_law_1040 dL_law_1041 dL_law_1042 ?_
  refine lw_arg (k := 3) (pc := 1043) (pc2 := 1048) (by omega) hL rfl dL_law_1043 dL_law_1044 dL_law_1045 dL_law_1046 dL_law_1047 ?_
  refine lw_cC (pc := 1048) (pc2 := 1051) (as := [.int (xs (i + 1)), .int (xs (i + 2)), .int (xs (i + 3))]) (st := (fun b B => [])) (u := (v, c1)) mvL_146 (KX11_lean l lw_is1 hc) (by decide) (by decide) (fun _ => rfl) rfl rfl (fun _ _ => Nat.le_of_ble_eq_true rfl) rfl dL_law_1048 ?_
  refine lw_al2 (pc := 1051) dL_law_1051 ?_
  refine lw_arg (k := 1) (pc := 1052) (pc2 := 1057) (by omega) hL rfl dL_law_1052 dL_law_1053 dL_law_1054 dL_law_1055 dL_law_1056 ?_
  refine lw_arg (k := 2) (pc := 1057) (pc2 := 1062) (by omega) hL rfl dL_law_1057 dL_law_1058 dL_law_1059 dL_law_1060 dL_law_1061 ?_
  refine lw_arg (k := 3) (pc := 1062) (pc2 := 1067) (by omega) hL rfl dL_law_1062 dL_law_1063 dL_law_1064 dL_law_1065 dL_law_1066 ?_
  refine lw_cR (pc := 1067) (pc2 := 1070) (as := [.int (xs (i + 1)), .int (xs (i + 2)), .int (xs (i + 3))]) (st := (fun b B => .int v :: [])) (u := (v, r1)) mvL_149 (KX12_lean l lw_is2 hr) (by decide) (by decide) (fun _ => rfl) rfl rfl (fun _ _ => Nat.le_of_ble_eq_true rfl) rfl dL_law_1067 ?_
  refine lw_eq (pc := 1070) (x := v) (st := fun _ _ => []) 1305 dL_law_1070 (by decide) ?_
  exact K c1 r1 hrel
theorem lw_case_foundBy (l : Launch) {L : Nat} {xs : Nat → Int32} {i : Nat} {σC σR : pm_H} {Rel : pm_H → pm_H → Prop} (hL : L ≤ 2048) (hi : i + 4 ≤ L) (hR : pu_2 Rel fX11_foundBy fX12_foundBy) (hrel : Rel σC σR) (K : ∀ c r, Rel c r → lw_G l L xs 1305 i (fun _ _ => []) c r) : lw_G l L xs 1075 i (fun _ _ => []) σC σR := by
  obtain ⟨v, c1, r1, hc, hr, hrel⟩ := hR σC σR hrel (xs (i + 1)) (xs (i + 2))
  refine lw_al1 (pc := 1075) dL_law_1075 ?_
  refine lw_arg (k := 1) (pc := 1076) (pc2 := 1081) (by omega) hL rfl dL_law_1076 dL_law_1077 dL_law_1078 dL_law_1079 dL_law_1080 ?_
  refine lw_arg (k := 2) (pc := 1081) (pc2 := 1086) (by omega) hL rfl dL_law_1081 dL_law_1082 dL_law_1083 dL_law_1084 dL_law_1085 ?_
  refine lw_cC (pc := 1086) (pc2 := 1089) (as := [.int (xs (i + 1)), .int (xs (i + 2))]) (st := (fun b B => [])) (u := (v, c1)) mvL_150 (KX11_foundBy l lw_is1 hc) (by decide) (by decide) (fun _ => rfl) rfl rfl (fun _ _ => Nat.le_of_ble_eq_true rfl) rfl dL_law_1086 ?_
  refine lw_al2 (pc := 1089) dL_law_1089 ?_
  refine lw_arg (k := 1) (pc := 1090) (pc2 := 1095) (by omega) hL rfl dL_law_1090 dL_law_1091 dL_law_1092 dL_law_1093 dL_law_1094 ?_
  refine lw_arg (k := 2) (pc := 1095) (pc2 := 1100) (by omega) hL rfl dL_law_1095 dL_law_1096 dL_law_1097 dL_law_1098 dL_law_1099 ?_
  refine lw_cR (pc := 1100) (pc2 := 1103) (as := [.int (xs (i + 1)), .int (xs (i + 2))]) (st := (fun b B => .int v :: [])) (u := (v, r1)) mvL_153 (KX12_foundBy l lw_is2 hr) (by decide) (by decide) (fun _ => rfl) rfl rfl (fun _ _ => Nat.le_of_ble_eq_true rfl) rfl dL_law_1100 ?_
  refine lw_eq (pc := 1103) (x := v) (st := fun _ _ => []) 1305 dL_law_1103 (by decide) ?_
  exact K c1 r1 hrel
theorem lw_case_see (l : Launch) {L : Nat} {xs : Nat → Int32} {i : Nat} {σC σR : pm_H} {Rel : pm_H → pm_H → Prop} (hL : L ≤ 2048) (hi : i + 4 ≤ L) (hR : pu_2 Rel fX11_see fX12_see) (hrel : Rel σC σR) (K : ∀ c r, Rel c r → lw_G l L xs 1305 i (fun _ _ => []) c r) : lw_G l L xs 1108 i (fun _ _ => []) σC σR := by
  obtain ⟨v, c1, r1, hc, hr, hrel⟩ := hR σC σR hrel (xs (i + 1)) (xs (i + 2))
  refine lw_al1 (pc := 1108) dL_law_1108 ?_
  refine lw_arg (k := 1) (pc := 1109) (pc2 := 1114) (by omega) hL rfl dL_law_1109 dL_law_1110 dL_law_1111 dL_law_1112 dL_law_1113 ?_
  refine lw_arg (k := 2) (pc := 1114) (pc2 := 1119) (by omega) hL rfl dL_law_1114 dL_law_1115 dL_law_1116 dL_law_1117 dL_law_1118 ?_
  refine lw_cC (pc := 1119) (pc2 := 1122) (as := [.int (xs (i + 1)), .int (xs (i + 2))]) (st := (fun b B => [])) (u := (v, c1)) mvL_154 (KX11_see l lw_is1 hc) (by decide) (by decide) (fun _ => rfl) rfl rfl (fun _ _ => Nat.le_of_ble_eq_true rfl) rfl dL_law_1119 ?_
  refine lw_al2 (pc := 1122) dL_law_1122 ?_
  refine lw_arg (k := 1) (pc := 1123) (pc2 := 1128) (by omega) hL rfl dL_law_1123 dL_law_1124 dL_law_1125 dL_law_1126 dL_law_1127 ?_
  refine lw_arg (k := 2) (pc := 1128) (pc2 := 1133) (by omega) hL rfl dL_law_1128 dL_law_1129 dL_law_1130 dL_law_1131 dL_law_1132 ?_
  refine lw_cR (pc := 1133) (pc2 := 1136) (as := [.int (xs (i + 1)), .int (xs (i + 2))]) (st := (fun b B => .int v :: [])) (u := (v, r1)) mvL_157 (KX12_see l lw_is2 hr) (by decide) (by decide) (fun _ => rfl) rfl rfl (fun _ _ => Nat.le_of_ble_eq_true rfl) rfl dL_law_1133 ?_
  refine lw_eq (pc := 1136) (x := v) (st := fun _ _ => []) 1305 dL_law_1136 (by decide) ?_
  exact K c1 r1 hrel
theorem lw_case_rods (l : Launch) {L : Nat} {xs : Nat → Int32} {i : Nat} {σC σR : pm_H} {Rel : pm_H → pm_H → Prop} (hL : L ≤ 2048) (hi : i + 4 ≤ L) (hR : pu_1 Rel fX11_rods fX12_rods) (hrel : Rel σC σR) (K : ∀ c r, Rel c r → lw_G l L xs 1305 i (fun _ _ => []) c r) : lw_G l L xs 1141 i (fun _ _ => []) σC σR := by
  obtain ⟨v, c1, r1, hc, hr, hrel⟩ := hR σC σR hrel (xs (i + 1))
  refine lw_al1 (pc := 1141) dL_law_1141 ?_
  refine lw_arg (k := 1) (pc := 1142) (pc2 := 1147) (by omega) hL rfl dL_law_1142 dL_law_1143 dL_law_1144 dL_law_1145 dL_law_1146 ?_
  refine lw_cC (pc := 1147) (pc2 := 1150) (as := [.int (xs (i + 1))]) (st := (fun b B => [])) (u := (v, c1)) mvL_158 (KX11_rods l lw_is1 hc) (by decide) (by decide) (fun _ => rfl) rfl rfl (fun _ _ => Nat.le_of_ble_eq_true rfl) rfl dL_law_1147 ?_
  refine lw_al2 (pc := 1150) dL_law_1150 ?_
  refine lw_arg (k := 1) (pc := 1151) (pc2 := 1156) (by omega) hL rfl dL_law_1151 dL_law_1152 dL_law_1153 dL_law_1154 dL_law_1155 ?_
  refine lw_cR (pc := 1156) (pc2 := 1159) (as := [.int (xs (i + 1))]) (st := (fun b B => .int v :: [])) (u := (v, r1)) mvL_161 (KX12_rods l lw_is2 hr) (by decide) (by decide) (fun _ => rfl) rfl rfl (fun _ _ => Nat.le_of_ble_eq_true rfl) rfl dL_law_1156 ?_
  refine lw_eq (pc := 1159) (x := v) (st := fun _ _ => []) 1305 dL_law_1159 (by decide) ?_
  exact K c1 r1 hrel
theorem lw_case_door (l : Launch) {L : Nat} {xs : Nat → Int32} {i : Nat} {σC σR : pm_H} {Rel : pm_H → pm_H → Prop} (hL : L ≤ 2048) (hi : i + 4 ≤ L) (hR : pu_0 Rel fX11_door fX12_door) (hrel : Rel σC σR) (K : ∀ c r, Rel c r → lw_G l L xs 1305 i (fun _ _ => []) c r) : lw_G l L xs 1164 i (fun _ _ => []) σC σR := by
  obtain ⟨v, c1, r1, hc, hr, hrel⟩ := hR σC σR hrel 
  refine lw_al1 (pc := 1164) dL_law_1164 ?_
  refine lw_cC (pc := 1165) (pc2 := 1168) (as := []) (st := (fun b B => [])) (u := (v, c1)) mvL_162 (KX11_door l lw_is1 hc) (by decide) (by decide) (fun _ => rfl) rfl rfl (fun _ _ => Nat.le_of_ble_eq_true rfl) rfl dL_law_1165 ?_
  refine lw_al2 (pc := 1168) dL_law_1168 ?_
  refine lw_cR (pc := 1169) (pc2 := 1172) (as := []) (st := (fun b B => .int v :: [])) (u := (v, r1)) mvL_165 (KX12_door l lw_is2 hr) (by decide) (by decide) (fun _ => rfl) rfl rfl (fun _ _ => Nat.le_of_ble_eq_true rfl) rfl dL_law_1169 ?_
  refine lw_eq (pc := 1172) (x := v) (st := fun _ _ => []) 1305 dL_law_1172 (by decide) ?_
  exact K c1 r1 hrel
theorem lw_case_write (l : Launch) {L : Nat} {xs : Nat → Int32} {i : Nat} {σC σR : pm_H} {Rel : pm_H → pm_H → Prop} (hL : L ≤ 2048) (hi : i + 4 ≤ L) (hR : pu_2 Rel fX11_write fX12_write) (hrel : Rel σC σR) (K : ∀ c r, Rel c r → lw_G l L xs 1305 i (fun _ _ => []) c r) : lw_G l L xs 1177 i (fun _ _ => []) σC σR := by
  obtain ⟨v, c1, r1, hc, hr, hrel⟩ := hR σC σR hrel (xs (i + 1)) (xs (i + 2))
  refine lw_al1 (pc := 1177) dL_law_1177 ?_
  refine lw_arg (k := 1) (pc := 1178) (pc2 := 1183) (by omega) hL rfl dL_law_1178 dL_law_1179 dL_law_1180 dL_law_1181 dL_law_1182 ?_
  refine lw_arg (k := 2) (pc := 1183) (pc2 := 1188) (by omega) hL rfl dL_law_1183 dL_law_1184 dL_law_1185 dL_law_1186 dL_law_1187 ?_
  refine lw_cC (pc := 1188) (pc2 := 1191) (as := [.int (xs (i + 1)), .int (xs (i + 2))]) (st := (fun b B => [])) (u := (v, c1)) mvL_166 (KX11_write l lw_is1 hc) (by decide) (by decide) (fun _ => rfl) rfl rfl (fun _ _ => Nat.le_of_ble_eq_true rfl) rfl dL_law_1188 ?_
  refine lw_al2 (pc := 1191) dL_law_1191 ?_
  refine lw_arg (k := 1) (pc := 1192) (pc2 := 1197) (by omega) hL rfl dL_law_1192 dL_law_1193 dL_law_1194 dL_law_1195 dL_law_1196 ?_
  refine lw_arg (k := 2) (pc := 1197) (pc2 := 1202) (by omega) hL rfl dL_law_1197 dL_law_1198 dL_law_1199 dL_law_1200 dL_law_1201 ?_
  refine lw_cR (pc := 1202) (pc2 := 1205) (as := [.int (xs (i + 1)), .int (xs (i + 2))]) (st := (fun b B => .int v :: [])) (u := (v, r1)) mvL_169 (KX12_write l lw_is2 hr) (by decide) (by decide) (fun _ => rfl) rfl rfl (fun _ _ => Nat.le_of_ble_eq_true rfl) rfl dL_law_1202 ?_
  refine lw_eq (pc := 1205) (x := v) (st := fun _ _ => []) 1305 dL_law_1205 (by decide) ?_
  exact K c1 r1 hrel
theorem lw_case_tear (l : Launch) {L : Nat} {xs : Nat → Int32} {i : Nat} {σC σR : pm_H} {Rel : pm_H → pm_H → Prop} (hL : L ≤ 2048) (hi : i + 4 ≤ L) (hR : pu_0 Rel fX11_tear fX12_tear) (hrel : Rel σC σR) (K : ∀ c r, Rel c r → lw_G l L xs 1305 i (fun _ _ => []) c r) : lw_G l L xs 1210 i (fun _ _ => []) σC σR := by
  obtain ⟨v, c1, r1, hc, hr, hrel⟩ := hR σC σR hrel 
  refine lw_al1 (pc := 1210) dL_law_1210 ?_
  refine lw_cC (pc := 1211) (pc2 := 1214) (as := []) (st := (fun b B => [])) (u := (v, c1)) mvL_170 (KX11_tear l lw_is1 hc) (by decide) (by decide) (fun _ => rfl) rfl rfl (fun _ _ => Nat.le_of_ble_eq_true rfl) rfl dL_law_1211 ?_
  refine lw_al2 (pc := 1214) dL_law_1214 ?_
  refine lw_cR (pc := 1215) (pc2 := 1218) (as := []) (st := (fun b B => .int v :: [])) (u := (v, r1)) mvL_173 (KX12_tear l lw_is2 hr) (by decide) (by decide) (fun _ => rfl) rfl rfl (fun _ _ => Nat.le_of_ble_eq_true rfl) rfl dL_law_1215 ?_
  refine lw_eq (pc := 1218) (x := v) (st := fun _ _ => []) 1305 dL_law_1218 (by decide) ?_
  exact K c1 r1 hrel
theorem lw_case_judge (l : Launch) {L : Nat} {xs : Nat → Int32} {i : Nat} {σC σR : pm_H} {Rel : pm_H → pm_H → Prop} (hL : L ≤ 2048) (hi : i + 4 ≤ L) (hR : pu_0 Rel fX11_judge fX12_judge) (hrel : Rel σC σR) (K : ∀ c r, Rel c r → lw_G l L xs 1305 i (fun _ _ => []) c r) : lw_G l L xs 1223 i (fun _ _ => []) σC σR := by
  obtain ⟨v, c1, r1, hc, hr, hrel⟩ := hR σC σR hrel 
  refine lw_al1 (pc := 1223) dL_law_1223 ?_
  refine lw_cC (pc := 1224) (pc2 := 1227) (as := []) (st := (fun b B => [])) (u := (v, c1)) mvL_174 (KX11_judge l lw_is1 hc) (by decide) (by decide) (fun _ => rfl) rfl rfl (fun _ _ => Nat.le_of_ble_eq_true rfl) rfl dL_law_1224 ?_
  refine lw_al2 (pc := 1227) dL_law_1227 ?_
  refine lw_cR (pc := 1228) (pc2 := 1231) (as := []) (st := (fun b B => .int v :: [])) (u := (v, r1)) mvL_177 (KX12_judge l lw_is2 hr) (by decide) (by decide) (fun _ => rfl) rfl rfl (fun _ _ => Nat.le_of_ble_eq_true rfl) rfl dL_law_1228 ?_
  refine lw_eq (pc := 1231) (x := v) (st := fun _ _ => []) 1305 dL_law_1231 (by decide) ?_
  exact K c1 r1 hrel
theorem lw_case_seed (l : Launch) {L : Nat} {xs : Nat → Int32} {i : Nat} {σC σR : pm_H} {Rel : pm_H → pm_H → Prop} (hL : L ≤ 2048) (hi : i + 4 ≤ L) (hR : pu_1 Rel fX11_seed fX12_seed) (hrel : Rel σC σR) (K : ∀ c r, Rel c r → lw_G l L xs 1305 i (fun _ _ => []) c r) : lw_G l L xs 1236 i (fun _ _ => []) σC σR := by
  obtain ⟨v, c1, r1, hc, hr, hrel⟩ := hR σC σR hrel (xs (i + 1))
  refine lw_al1 (pc := 1236) dL_law_1236 ?_
  refine lw_arg (k := 1) (pc := 1237) (pc2 := 1242) (by omega) hL rfl dL_law_1237 dL_law_1238 dL_law_1239 dL_law_1240 dL_law_1241 ?_
  refine lw_cC (pc := 1242) (pc2 := 1245) (as := [.int (xs (i + 1))]) (st := (fun b B => [])) (u := (v, c1)) mvL_178 (KX11_seed l lw_is1 hc) (by decide) (by decide) (fun _ => rfl) rfl rfl (fun _ _ => Nat.le_of_ble_eq_true rfl) rfl dL_law_1242 ?_
  refine lw_al2 (pc := 1245) dL_law_1245 ?_
  refine lw_arg (k := 1) (pc := 1246) (pc2 := 1251) (by omega) hL rfl dL_law_1246 dL_law_1247 dL_law_1248 dL_law_1249 dL_law_1250 ?_
  refine lw_cR (pc := 1251) (pc2 := 1254) (as := [.int (xs (i + 1))]) (st := (fun b B => .int v :: [])) (u := (v, r1)) mvL_181 (KX12_seed l lw_is2 hr) (by decide) (by decide) (fun _ => rfl) rfl rfl (fun _ _ => Nat.le_of_ble_eq_true rfl) rfl dL_law_1251 ?_
  refine lw_eq (pc := 1254) (x := v) (st := fun _ _ => []) 1305 dL_law_1254 (by decide) ?_
  exact K c1 r1 hrel
theorem lw_case_keep (l : Launch) {L : Nat} {xs : Nat → Int32} {i : Nat} {σC σR : pm_H} {Rel : pm_H → pm_H → Prop} (hL : L ≤ 2048) (hi : i + 4 ≤ L) (hR : pu_1 Rel fX11_keep fX12_keep) (hrel : Rel σC σR) (K : ∀ c r, Rel c r → lw_G l L xs 1305 i (fun _ _ => []) c r) : lw_G l L xs 1259 i (fun _ _ => []) σC σR := by
  obtain ⟨v, c1, r1, hc, hr, hrel⟩ := hR σC σR hrel (xs (i + 1))
  refine lw_al1 (pc := 1259) dL_law_1259 ?_
  refine lw_arg (k := 1) (pc := 1260) (pc2 := 1265) (by omega) hL rfl dL_law_1260 dL_law_1261 dL_law_1262 dL_law_1263 dL_law_1264 ?_
  refine lw_cC (pc := 1265) (pc2 := 1268) (as := [.int (xs (i + 1))]) (st := (fun b B => [])) (u := (v, c1)) mvL_182 (KX11_keep l lw_is1 hc) (by decide) (by decide) (fun _ => rfl) rfl rfl (fun _ _ => Nat.le_of_ble_eq_true rfl) rfl dL_law_1265 ?_
  refine lw_al2 (pc := 1268) dL_law_1268 ?_
  refine lw_arg (k := 1) (pc := 1269) (pc2 := 1274) (by omega) hL rfl dL_law_1269 dL_law_1270 dL_law_1271 dL_law_1272 dL_law_1273 ?_
  refine lw_cR (pc := 1274) (pc2 := 1277) (as := [.int (xs (i + 1))]) (st := (fun b B => .int v :: [])) (u := (v, r1)) mvL_185 (KX12_keep l lw_is2 hr) (by decide) (by decide) (fun _ => rfl) rfl rfl (fun _ _ => Nat.le_of_ble_eq_true rfl) rfl dL_law_1274 ?_
  refine lw_eq (pc := 1277) (x := v) (st := fun _ _ => []) 1305 dL_law_1277 (by decide) ?_
  exact K c1 r1 hrel
theorem lw_case_goBack (l : Launch) {L : Nat} {xs : Nat → Int32} {i : Nat} {σC σR : pm_H} {Rel : pm_H → pm_H → Prop} (hL : L ≤ 2048) (hi : i + 4 ≤ L) (hR : pu_1 Rel fX11_goBack fX12_goBack) (hrel : Rel σC σR) (K : ∀ c r, Rel c r → lw_G l L xs 1305 i (fun _ _ => []) c r) : lw_G l L xs 1282 i (fun _ _ => []) σC σR := by
  obtain ⟨v, c1, r1, hc, hr, hrel⟩ := hR σC σR hrel (xs (i + 1))
  refine lw_al1 (pc := 1282) dL_law_1282 ?_
  refine lw_arg (k := 1) (pc := 1283) (pc2 := 1288) (by omega) hL rfl dL_law_1283 dL_law_1284 dL_law_1285 dL_law_1286 dL_law_1287 ?_
  refine lw_cC (pc := 1288) (pc2 := 1291) (as := [.int (xs (i + 1))]) (st := (fun b B => [])) (u := (v, c1)) mvL_186 (KX11_goBack l lw_is1 hc) (by decide) (by decide) (fun _ => rfl) rfl rfl (fun _ _ => Nat.le_of_ble_eq_true rfl) rfl dL_law_1288 ?_
  refine lw_al2 (pc := 1291) dL_law_1291 ?_
  refine lw_arg (k := 1) (pc := 1292) (pc2 := 1297) (by omega) hL rfl dL_law_1292 dL_law_1293 dL_law_1294 dL_law_1295 dL_law_1296 ?_
  refine lw_cR (pc := 1297) (pc2 := 1300) (as := [.int (xs (i + 1))]) (st := (fun b B => .int v :: [])) (u := (v, r1)) mvL_189 (KX12_goBack l lw_is2 hr) (by decide) (by decide) (fun _ => rfl) rfl rfl (fun _ _ => Nat.le_of_ble_eq_true rfl) rfl dL_law_1297 ?_
  refine lw_eq (pc := 1300) (x := v) (st := fun _ _ => []) 1305 dL_law_1300 (by decide) ?_
  exact K c1 r1 hrel
set_option maxHeartbeats 4000000 in
theorem lw_loop (l : Launch) {L : Nat} {xs : Nat → Int32} {Rel : pm_H → pm_H → Prop} (hL : L ≤ 2048) (hR : pu_All Rel) : ∀ (n i : Nat) (σC σR : pm_H), L + 8 ≤ i + n → i ≤ L + 4 → Rel σC σR → lw_G l L xs 18 i (fun _ _ => []) σC σR := by
  intro n
  induction n with
  | zero => intro i σC σR h1 h2; omega
  | succ n ih =>
    intro i σC σR h1 h2 hrel
    refine lw_head hL h2 (fun hle => ?_)
    have K : ∀ c r, Rel c r → lw_G l L xs 1305 i (fun _ _ => []) c r := fun c r h => lw_next (ih (i + 4) c r (by omega) (by omega) h)
    obtain ⟨-, q0, q1, q2, q3, q4, q5, q6, q7, q8, q9, q10, q11, q12, q13, q14, q15, q16, q17, q18, q19, q20, q21, q22, q23, q24, q25, q26, q27, q28, q29, q30, q31, q32, q33, q34, q35, q36, q37, q38, q39, q40, q41, q42⟩ := hR
    by_cases hc0 : (xs i &&& 63) = (0 : Int32)
    · exact lw_tin (pc := 32) (off := 188) (st := fun _ _ => []) 220 hc0 dL_law_32 (by decide) (by decide) (lw_case_feed l hL hle q0 hrel K)
    by_cases hc1 : (xs i &&& 63) = (1 : Int32)
    · exact lw_tin (pc := 32) (off := 211) (st := fun _ _ => []) 243 hc1 dL_law_32 (by decide) (by decide) (lw_case_realm l hL hle q1 hrel K)
    by_cases hc2 : (xs i &&& 63) = (2 : Int32)
    · exact lw_tin (pc := 32) (off := 224) (st := fun _ _ => []) 256 hc2 dL_law_32 (by decide) (by decide) (lw_case_fault l hL hle q2 hrel K)
    by_cases hc3 : (xs i &&& 63) = (3 : Int32)
    · exact lw_tin (pc := 32) (off := 237) (st := fun _ _ => []) 269 hc3 dL_law_32 (by decide) (by decide) (lw_case_told l hL hle q3 hrel K)
    by_cases hc4 : (xs i &&& 63) = (4 : Int32)
    · exact lw_tin (pc := 32) (off := 260) (st := fun _ _ => []) 292 hc4 dL_law_32 (by decide) (by decide) (lw_case_warped l hL hle q4 hrel K)
    by_cases hc5 : (xs i &&& 63) = (5 : Int32)
    · exact lw_tin (pc := 32) (off := 273) (st := fun _ _ => []) 305 hc5 dL_law_32 (by decide) (by decide) (lw_case_nick l hL hle q5 hrel K)
    by_cases hc6 : (xs i &&& 63) = (6 : Int32)
    · exact lw_tin (pc := 32) (off := 296) (st := fun _ _ => []) 328 hc6 dL_law_32 (by decide) (by decide) (lw_case_office l hL hle q6 hrel K)
    by_cases hc7 : (xs i &&& 63) = (7 : Int32)
    · exact lw_tin (pc := 32) (off := 329) (st := fun _ _ => []) 361 hc7 dL_law_32 (by decide) (by decide) (lw_case_person l hL hle q7 hrel K)
    by_cases hc8 : (xs i &&& 63) = (8 : Int32)
    · exact lw_tin (pc := 32) (off := 362) (st := fun _ _ => []) 394 hc8 dL_law_32 (by decide) (by decide) (lw_case_thing l hL hle q8 hrel K)
    by_cases hc9 : (xs i &&& 63) = (9 : Int32)
    · exact lw_tin (pc := 32) (off := 395) (st := fun _ _ => []) 427 hc9 dL_law_32 (by decide) (by decide) (lw_case_hand l hL hle q9 hrel K)
    by_cases hc10 : (xs i &&& 63) = (10 : Int32)
    · exact lw_tin (pc := 32) (off := 418) (st := fun _ _ => []) 450 hc10 dL_law_32 (by decide) (by decide) (lw_case_year l hL hle q10 hrel K)
    by_cases hc11 : (xs i &&& 63) = (11 : Int32)
    · exact lw_tin (pc := 32) (off := 441) (st := fun _ _ => []) 473 hc11 dL_law_32 (by decide) (by decide) (lw_case_make l hL hle q11 hrel K)
    by_cases hc12 : (xs i &&& 63) = (12 : Int32)
    · exact lw_tin (pc := 32) (off := 474) (st := fun _ _ => []) 506 hc12 dL_law_32 (by decide) (by decide) (lw_case_warp l hL hle q12 hrel K)
    by_cases hc13 : (xs i &&& 63) = (13 : Int32)
    · exact lw_tin (pc := 32) (off := 497) (st := fun _ _ => []) 529 hc13 dL_law_32 (by decide) (by decide) (lw_case_plane l hL hle q13 hrel K)
    by_cases hc14 : (xs i &&& 63) = (14 : Int32)
    · exact lw_tin (pc := 32) (off := 510) (st := fun _ _ => []) 542 hc14 dL_law_32 (by decide) (by decide) (lw_case_lose l hL hle q14 hrel K)
    by_cases hc15 : (xs i &&& 63) = (15 : Int32)
    · exact lw_tin (pc := 32) (off := 549) (st := fun _ _ => []) 581 hc15 dL_law_32 (by decide) (by decide) (lw_case_hold l hL hle q15 hrel K)
    by_cases hc16 : (xs i &&& 63) = (16 : Int32)
    · exact lw_tin (pc := 32) (off := 572) (st := fun _ _ => []) 604 hc16 dL_law_32 (by decide) (by decide) (lw_case_drop l hL hle q16 hrel K)
    by_cases hc17 : (xs i &&& 63) = (17 : Int32)
    · exact lw_tin (pc := 32) (off := 585) (st := fun _ _ => []) 617 hc17 dL_law_32 (by decide) (by decide) (lw_case_shorten l hL hle q17 hrel K)
    by_cases hc18 : (xs i &&& 63) = (18 : Int32)
    · exact lw_tin (pc := 32) (off := 618) (st := fun _ _ => []) 650 hc18 dL_law_32 (by decide) (by decide) (lw_case_drift l hL hle q18 hrel K)
    by_cases hc19 : (xs i &&& 63) = (19 : Int32)
    · exact lw_tin (pc := 32) (off := 641) (st := fun _ _ => []) 673 hc19 dL_law_32 (by decide) (by decide) (lw_case_undo l hL hle q19 hrel K)
    by_cases hc20 : (xs i &&& 63) = (20 : Int32)
    · exact lw_tin (pc := 32) (off := 654) (st := fun _ _ => []) 686 hc20 dL_law_32 (by decide) (by decide) (lw_case_longAt l hL hle q20 hrel K)
    by_cases hc21 : (xs i &&& 63) = (21 : Int32)
    · exact lw_tin (pc := 32) (off := 687) (st := fun _ _ => []) 719 hc21 dL_law_32 (by decide) (by decide) (lw_case_firstShort l hL hle q21 hrel K)
    by_cases hc22 : (xs i &&& 63) = (22 : Int32)
    · exact lw_tin (pc := 32) (off := 710) (st := fun _ _ => []) 742 hc22 dL_law_32 (by decide) (by decide) (lw_case_planeWhen l hL hle q22 hrel K)
    by_cases hc23 : (xs i &&& 63) = (23 : Int32)
    · exact lw_tin (pc := 32) (off := 743) (st := fun _ _ => []) 775 hc23 dL_law_32 (by decide) (by decide) (lw_case_had l hL hle q23 hrel K)
    by_cases hc24 : (xs i &&& 63) = (24 : Int32)
    · exact lw_tin (pc := 32) (off := 766) (st := fun _ _ => []) 798 hc24 dL_law_32 (by decide) (by decide) (lw_case_parts l hL hle q24 hrel K)
    by_cases hc25 : (xs i &&& 63) = (25 : Int32)
    · exact lw_tin (pc := 32) (off := 789) (st := fun _ _ => []) 821 hc25 dL_law_32 (by decide) (by decide) (lw_case_fold l hL hle q25 hrel K)
    by_cases hc26 : (xs i &&& 63) = (26 : Int32)
    · exact lw_tin (pc := 32) (off := 812) (st := fun _ _ => []) 844 hc26 dL_law_32 (by decide) (by decide) (lw_case_posts l hL hle q26 hrel K)
    by_cases hc27 : (xs i &&& 63) = (27 : Int32)
    · exact lw_tin (pc := 32) (off := 835) (st := fun _ _ => []) 867 hc27 dL_law_32 (by decide) (by decide) (lw_case_toShorten l hL hle q27 hrel K)
    by_cases hc28 : (xs i &&& 63) = (28 : Int32)
    · exact lw_tin (pc := 32) (off := 868) (st := fun _ _ => []) 900 hc28 dL_law_32 (by decide) (by decide) (lw_case_wasWarped l hL hle q28 hrel K)
    by_cases hc29 : (xs i &&& 63) = (29 : Int32)
    · exact lw_tin (pc := 32) (off := 911) (st := fun _ _ => []) 943 hc29 dL_law_32 (by decide) (by decide) (lw_case_alike l hL hle q29 hrel K)
    by_cases hc30 : (xs i &&& 63) = (30 : Int32)
    · exact lw_tin (pc := 32) (off := 934) (st := fun _ _ => []) 966 hc30 dL_law_32 (by decide) (by decide) (lw_case_hands l hL hle q30 hrel K)
    by_cases hc31 : (xs i &&& 63) = (31 : Int32)
    · exact lw_tin (pc := 32) (off := 957) (st := fun _ _ => []) 989 hc31 dL_law_32 (by decide) (by decide) (lw_case_tens l hL hle q31 hrel K)
    by_cases hc32 : (xs i &&& 63) = (32 : Int32)
    · exact lw_tin (pc := 32) (off := 1000) (st := fun _ _ => []) 1032 hc32 dL_law_32 (by decide) (by decide) (lw_case_lean l hL hle q32 hrel K)
    by_cases hc33 : (xs i &&& 63) = (33 : Int32)
    · exact lw_tin (pc := 32) (off := 1043) (st := fun _ _ => []) 1075 hc33 dL_law_32 (by decide) (by decide) (lw_case_foundBy l hL hle q33 hrel K)
    by_cases hc34 : (xs i &&& 63) = (34 : Int32)
    · exact lw_tin (pc := 32) (off := 1076) (st := fun _ _ => []) 1108 hc34 dL_law_32 (by decide) (by decide) (lw_case_see l hL hle q34 hrel K)
    by_cases hc35 : (xs i &&& 63) = (35 : Int32)
    · exact lw_tin (pc := 32) (off := 1109) (st := fun _ _ => []) 1141 hc35 dL_law_32 (by decide) (by decide) (lw_case_rods l hL hle q35 hrel K)
    by_cases hc36 : (xs i &&& 63) = (36 : Int32)
    · exact lw_tin (pc := 32) (off := 1132) (st := fun _ _ => []) 1164 hc36 dL_law_32 (by decide) (by decide) (lw_case_door l hL hle q36 hrel K)
    by_cases hc37 : (xs i &&& 63) = (37 : Int32)
    · exact lw_tin (pc := 32) (off := 1145) (st := fun _ _ => []) 1177 hc37 dL_law_32 (by decide) (by decide) (lw_case_write l hL hle q37 hrel K)
    by_cases hc38 : (xs i &&& 63) = (38 : Int32)
    · exact lw_tin (pc := 32) (off := 1178) (st := fun _ _ => []) 1210 hc38 dL_law_32 (by decide) (by decide) (lw_case_tear l hL hle q38 hrel K)
    by_cases hc39 : (xs i &&& 63) = (39 : Int32)
    · exact lw_tin (pc := 32) (off := 1191) (st := fun _ _ => []) 1223 hc39 dL_law_32 (by decide) (by decide) (lw_case_judge l hL hle q39 hrel K)
    by_cases hc40 : (xs i &&& 63) = (40 : Int32)
    · exact lw_tin (pc := 32) (off := 1204) (st := fun _ _ => []) 1236 hc40 dL_law_32 (by decide) (by decide) (lw_case_seed l hL hle q40 hrel K)
    by_cases hc41 : (xs i &&& 63) = (41 : Int32)
    · exact lw_tin (pc := 32) (off := 1227) (st := fun _ _ => []) 1259 hc41 dL_law_32 (by decide) (by decide) (lw_case_keep l hL hle q41 hrel K)
    by_cases hc42 : (xs i &&& 63) = (42 : Int32)
    · exact lw_tin (pc := 32) (off := 1250) (st := fun _ _ => []) 1282 hc42 dL_law_32 (by decide) (by decide) (lw_case_goBack l hL hle q42 hrel K)
    have w0 : ¬ (xs i &&& 63).toInt = 0 := lv_neT hc0 (by decide)
    have w1 : ¬ (xs i &&& 63).toInt = 1 := lv_neT hc1 (by decide)
    have w2 : ¬ (xs i &&& 63).toInt = 2 := lv_neT hc2 (by decide)
    have w3 : ¬ (xs i &&& 63).toInt = 3 := lv_neT hc3 (by decide)
    have w4 : ¬ (xs i &&& 63).toInt = 4 := lv_neT hc4 (by decide)
    have w5 : ¬ (xs i &&& 63).toInt = 5 := lv_neT hc5 (by decide)
    have w6 : ¬ (xs i &&& 63).toInt = 6 := lv_neT hc6 (by decide)
    have w7 : ¬ (xs i &&& 63).toInt = 7 := lv_neT hc7 (by decide)
    have w8 : ¬ (xs i &&& 63).toInt = 8 := lv_neT hc8 (by decide)
    have w9 : ¬ (xs i &&& 63).toInt = 9 := lv_neT hc9 (by decide)
    have w10 : ¬ (xs i &&& 63).toInt = 10 := lv_neT hc10 (by decide)
    have w11 : ¬ (xs i &&& 63).toInt = 11 := lv_neT hc11 (by decide)
    have w12 : ¬ (xs i &&& 63).toInt = 12 := lv_neT hc12 (by decide)
    have w13 : ¬ (xs i &&& 63).toInt = 13 := lv_neT hc13 (by decide)
    have w14 : ¬ (xs i &&& 63).toInt = 14 := lv_neT hc14 (by decide)
    have w15 : ¬ (xs i &&& 63).toInt = 15 := lv_neT hc15 (by decide)
    have w16 : ¬ (xs i &&& 63).toInt = 16 := lv_neT hc16 (by decide)
    have w17 : ¬ (xs i &&& 63).toInt = 17 := lv_neT hc17 (by decide)
    have w18 : ¬ (xs i &&& 63).toInt = 18 := lv_neT hc18 (by decide)
    have w19 : ¬ (xs i &&& 63).toInt = 19 := lv_neT hc19 (by decide)
    have w20 : ¬ (xs i &&& 63).toInt = 20 := lv_neT hc20 (by decide)
    have w21 : ¬ (xs i &&& 63).toInt = 21 := lv_neT hc21 (by decide)
    have w22 : ¬ (xs i &&& 63).toInt = 22 := lv_neT hc22 (by decide)
    have w23 : ¬ (xs i &&& 63).toInt = 23 := lv_neT hc23 (by decide)
    have w24 : ¬ (xs i &&& 63).toInt = 24 := lv_neT hc24 (by decide)
    have w25 : ¬ (xs i &&& 63).toInt = 25 := lv_neT hc25 (by decide)
    have w26 : ¬ (xs i &&& 63).toInt = 26 := lv_neT hc26 (by decide)
    have w27 : ¬ (xs i &&& 63).toInt = 27 := lv_neT hc27 (by decide)
    have w28 : ¬ (xs i &&& 63).toInt = 28 := lv_neT hc28 (by decide)
    have w29 : ¬ (xs i &&& 63).toInt = 29 := lv_neT hc29 (by decide)
    have w30 : ¬ (xs i &&& 63).toInt = 30 := lv_neT hc30 (by decide)
    have w31 : ¬ (xs i &&& 63).toInt = 31 := lv_neT hc31 (by decide)
    have w32 : ¬ (xs i &&& 63).toInt = 32 := lv_neT hc32 (by decide)
    have w33 : ¬ (xs i &&& 63).toInt = 33 := lv_neT hc33 (by decide)
    have w34 : ¬ (xs i &&& 63).toInt = 34 := lv_neT hc34 (by decide)
    have w35 : ¬ (xs i &&& 63).toInt = 35 := lv_neT hc35 (by decide)
    have w36 : ¬ (xs i &&& 63).toInt = 36 := lv_neT hc36 (by decide)
    have w37 : ¬ (xs i &&& 63).toInt = 37 := lv_neT hc37 (by decide)
    have w38 : ¬ (xs i &&& 63).toInt = 38 := lv_neT hc38 (by decide)
    have w39 : ¬ (xs i &&& 63).toInt = 39 := lv_neT hc39 (by decide)
    have w40 : ¬ (xs i &&& 63).toInt = 40 := lv_neT hc40 (by decide)
    have w41 : ¬ (xs i &&& 63).toInt = 41 := lv_neT hc41 (by decide)
    have w42 : ¬ (xs i &&& 63).toInt = 42 := lv_neT hc42 (by decide)
    exact lw_tout (pc := 32) (st := fun _ _ => []) 1305 dL_law_32 (by omega) (by decide) (K σC σR hrel)
/-! the law's beginning: both objects are made -/
theorem lw_born {s : State} {args : Array Value} {D : va_G} {aC : Nat → ClassId} {B ci N : Nat} {C : String} {T : u_T} {ty : Nat → FieldType} {H H1 : Heap} {kC : Class} (hts : ∀ w ∈ lw_good, w.before args s = true) (hK : va_K D vwCl (pm_tys aC) s) (hC : pm_CL ci C T N ty) (hdv : ∀ j, j < N → defaultValue (ty j) = if (pm_ft ci j).isSome then .null else .int 0) (hkC : s.vm.classes[D.1 ci]? = some kC) (e1 : H1[B + 1]? = some (blank (D.1 ci) kC)) (o1 : ∀ q, q < B + 1 → H1[q]? = H[q]?) (hz : H.size = B + 1) : va_P D vwCl (pm_ws aC B [(ci + 3, N)] lw_z) H1 := by
  have h0 : va_P D vwCl (pm_ws aC B [] lw_z) H := fun k q h => by simp [pm_ws] at h
  refine pm_push (S := []) h0 (by rw [hz]; exact o1) ?_
  refine ⟨_, hC.1, (u_born ty hts hC.2.1 (hK.1 ci _ hC.1) hkC e1 hC.2.2.1).to ?_⟩
  intro j hj
  rw [hdv j hj]
  show _ = ((List.range (pm_fn ci)).map (pm_fv B lw_z 1 ci)).getD j .null
  have hj' : j < pm_fn ci := by rw [hC.2.2.2.2]; exact hj
  rw [List.getD_eq_getElem?_getD, pm_fs_get hj']
  simp only [pm_fv, lw_z, Option.getD_some]
  rfl
theorem lw_ctor {p : Program} {l : Launch} {e : Env} {s : State} {m : MethodId} {below : List Frame} {meth : Method} {c : Code} {b L : Nat} {xs : Nat → Int32} {D : va_G} {aC : Nat → ClassId} {B1 : Nat} {S1 S2 : pm_S} {σ1 σ2 : pm_H} {H : Heap} {ls : Array Slot} {locs : List Loc} {cells slots pc idx d' nL' : Nat} {y' : MethodName} {cc' : ByteArray} {rest : List Value} {Q : State → Prop} {lv : List (Nat × Value)}
    (hA : lw_At p s m meth c b L xs) (hK : va_K D vwCl (pm_tys aC) s) (hB : s.heap.size ≤ B1 + 1) (hP : va_P D vwCl (pm_ws aC B1 S1 σ1) H) (hz : H.size = B1 + S1.length + 1) (hS : va_S (fun q => s.heap.size ≤ q) s.heap H locs) (hl : lv_has ls 4 lv)
    (hL : pm_LI RL idx y' cc' nL') (hM : pm_M l y' cc' nL' none true d' [.ref 1] S1 σ1 (none, S2, σ2)) (hd' : d' ≤ 8) (hl' : 8 + (nL' + 11) + 38 * d' ≤ 320) (h8 : (rest.map fun v => v.category).sum ≤ 8) (hc : cells + (S2.length - S1.length) ≤ 600000 ∧ slots + (pm_tot S2 - pm_tot S1) ≤ 7302250) (hd : decode cL_law pc = .ok (.invokespecial idx, 3))
    (kk : ∀ (H1 : Heap) (locs1 : List Loc), va_P D vwCl (pm_ws aC B1 S2 σ2) H1 → va_S (fun q => s.heap.size ≤ q) s.heap H1 locs1 → (∀ q, q < H.size → ¬ pm_A true B1 S1.length q → H1[q]? = H[q]?) → W p l e room_1 s m #[Value.ref b] below meth c H1 locs1 (cells + (S2.length - S1.length)) (slots + (pm_tot S2 - pm_tot S1)) Q (F0 m (pc + 3) ls rest)) :
    W p l e room_1 s m #[Value.ref b] below meth c H locs cells slots Q (F0 m pc ls (.ref (B1 + 1) :: rest)) := by
  obtain ⟨hx, hb, hr, hml, hown, hts, hX, hbl, hlocks, hgv⟩ := hA
  have htg : ∀ w ∈ lw_good, w.before #[Value.ref b] s = true := fun w h => hts w (List.mem_filter.mp h).1
  have hN : ∀ w ∈ pm_nest, va_Nw w s := lw_nest hts
  obtain ⟨hL1, hL2, hL3⟩ := hL
  have cw : CallB room_1 s #[Value.ref b] RL idx y' cc' nL' none (.code y' cc' nL' none :: lw_good) (pm_rm d' (S2.length - S1.length) (pm_tot S2 - pm_tot S1)) (S2.length - S1.length) (pm_tot S2 - pm_tot S1) 0 ∧ y'.name = "<init>" ∧ (Cond.instanceMethod y').before #[Value.ref b] s = true := by
    refine ⟨callB_of 0 htg (pm_goodIn hL1.2.2.1) rfl rfl rfl (htg _ hL1.2.1) (htg _ hL1.1) hL1.2.2.2.1 ⟨?_, hl'⟩, hL3, htg _ hL2⟩
    show d' + 1 ≤ 9
    omega
  have hM' : Met l y' (.code y' cc' nL' none :: lw_good) (pm_rm d' (S2.length - S1.length) (pm_tot S2 - pm_tot S1)) (va_Pc [.ref (B1 + 1)] (pm_P D aC B1 true S1 σ1)) (pm_Q D aC B1 (none, S2, σ2) true S1.length) (S2.length - S1.length) (pm_tot S2 - pm_tot S1) (pm_A true B1 S1.length) := hM D aC B1
  have run := va_runI (locs := locs) (cells := cells) (slots := slots) (below := below) (meth := meth) (p := p) (e := e) (R := room_1) (As := []) (rest := rest) (b := B1 + 1) (H := H) (g := F0 m pc ls (.ref (B1 + 1) :: rest)) (cc := cL_law) (nL := 4) (Ts := lw_good) (own := RL) ⟨hx, hb, hml, hown, htg⟩ hM' cw ⟨pm_blind, pm_pre hK hP (fun z => by cases z) (fun _ => hz) hN⟩ rfl rfl hl.1 rfl (lv_room h8) hd hc
  intro T0 hT0 X0
  obtain ⟨v, st₀, t, T', L1, h0, X', hL', e1, e2, ⟨hv, hP1, -, hz2, hk⟩, st1⟩ := run T0 hT0 X0
  rw [h0] at hz2 hk
  have hAm : ∀ q, pm_A true B1 S1.length q → s.heap.size ≤ q := fun q hq => by have := hq.1; omega
  have hS2 : va_S (fun q => s.heap.size ≤ q) s.heap T'.heap (locs ++ L1) := by
    refine ⟨Nat.le_trans hS.1 (by rw [e1]; exact hz2), fun q g1 g2 => ?_, fun q hq => ?_⟩
    · rw [e1, hk q (Nat.lt_of_lt_of_le g1 hS.1) (fun z => g2 (hAm q z))]
      exact hS.2.1 q g1 g2
    · rcases List.mem_append.mp hq with h | h
      · exact hS.2.2 q h
      · exact hAm _ (hL' q h)
  have hv' : v = none := Outcome.returned.inj hv
  subst hv'
  obtain ⟨t2, a1, b1⟩ := kk T'.heap (locs ++ L1) (by rw [e1]; exact hP1) hS2 (fun q g1 g2 => by rw [e1]; exact hk q g1 g2) T' rfl X'
  exact ⟨t2, st1 t2 a1, b1⟩
set_option maxHeartbeats 4000000 in
set_option maxRecDepth 100000 in
theorem whole_of {Rel : pm_H → pm_H → Prop} (hR : pu_All Rel) {p : Program} {e : Env} {s : State} {m : MethodId} {below : List Frame} {meth : Method} {c : Code} (l : Launch) {b L : Nat} {xs : Nat → Int32} (hL : L ≤ 2048) (C0 : lw_At p s m meth c b L xs) : W p l e room_1 s m #[Value.ref b] below meth c s.heap [] 0 0 (lw_Z below #[Value.ref b] s) (entryFrame m ([Value.ref b] : List Value).toArray 4) := by
  obtain ⟨hx, hb, hr, hml, hown, hts, hX, hbl, hlocks, hgv⟩ := id C0
  have htg : ∀ w ∈ lw_good, w.before #[Value.ref b] s = true := fun w h => hts w (List.mem_filter.mp h).1
  have hN : ∀ w ∈ pm_nest, va_Nw w s := lw_nest hts
  obtain ⟨D, aC, hK⟩ := lw_K htg (hN _ (by decide))
  obtain ⟨B, hB⟩ : ∃ B, s.heap.size = B + 1 := ⟨s.heap.size - 1, by omega⟩
  have hl := lv_entry ([.ref b]) (n := 4) (Nat.le_of_ble_eq_true rfl)
  rw [lg_entry_eq]
  generalize (lg_sl ([.ref b]) ++ List.replicate (4 - (lg_sl ([.ref b])).length) Slot.unset).toArray = ls at hl ⊢
  have hl : lv_has ls 4 [(0, .ref b)] := hl
  have hS : va_S (fun q : Nat => s.heap.size ≤ q) s.heap s.heap [] := va_S.rf
  have lenC := lw_SC_len
  have lenR := lw_SR_len
  have tt := lw_tot
  have t17 : 17 ≤ pm_tot lw_SC := (pm_lex (xX11_init (S := [(14, 17)]))).2
  have t43 : 43 ≤ pm_tot lw_SR := (pm_lex (xX12_init (S := [(15, 43)]))).2
  refine W.newcK hx hb hown (htg _ cnL_7.1) (htg _ cnL_7.2.1) (htg _ cnL_7.2.2) rfl dL_law_0 (by decide) (by decide) (hK.1 11 _ rfl).2.1 hB (fun H1 kC hkC e1 z1 o1 => ?_)
  have hPC1 : va_P D vwCl (pm_ws aC B [(14, 17)] lw_z) H1 := lw_born htg hK pm_cl11 (by decide +kernel) hkC e1 o1 hB
  have hS1 : va_S (fun q : Nat => s.heap.size ≤ q) s.heap H1 [] := pm_S_push hS hB z1 o1
  refine W.eq (g2 := F0 m 3 ls [.ref (B + 1)]) rfl ?_
  refine lv_dup hx hb dL_law_3 rfl ?_
  refine lw_ctor (B1 := B) (S1 := [(14, 17)]) (S2 := lw_SC) (σ2 := lw_C0) C0 hK (by omega) hPC1 (by rw [z1]; rfl) hS1 hl miL_9 (KX11_init l ⟨17, rfl⟩ (lw_z_Z _) rfl).1 (by decide) (by decide) (Nat.le_of_ble_eq_true rfl) ⟨by show 0 + 1 + (lw_SC.length - 1) ≤ 600000; omega, by show 0 + 17 + (pm_tot lw_SC - 17) ≤ 7302250; omega⟩ dL_law_4 (fun H2 locs2 hPC2 hS2 _ => ?_)
  refine W.widen (k := 228) (n := pm_tot lw_SC) (by show 0 + 1 + (lw_SC.length - 1) ≤ 228; omega) (by show 0 + 17 + (pm_tot lw_SC - 17) ≤ pm_tot lw_SC; omega) ?_
  refine lv_astore_n (lv' := [(1, .ref (B + 1)), (0, .ref b)]) hx hb dL_law_7 rfl hl (by decide) rfl (fun ls hl => ?_)
  refine pm_Wz (fun hz0 => ?_)
  have hz2 : H2.size = B + 228 + 1 := by
    obtain ⟨t, ht⟩ : ∃ t, lw_SC[227]? = some t := ⟨lw_SC[227], List.getElem?_eq_getElem (by omega)⟩
    have h7 := (hPC2 227 (B + (227 + 1), pm_e aC B lw_C0 (227 + 1) t) (by rw [pm_ws_at, ht]; rfl)).lt
    simp only at h7
    omega
  refine W.newcK hx hb hown (htg _ cnL_10.1) (htg _ cnL_10.2.1) (htg _ cnL_10.2.2) rfl dL_law_8 (by decide) (by show pm_tot lw_SC + 43 ≤ 7302250; omega) (hK.1 12 _ rfl).2.1 hz2 (fun H3 kC3 hkC3 e3 z3 o3 => ?_)
  have hPR3 : va_P D vwCl (pm_ws aC (B + 228) [(15, 43)] lw_z) H3 := lw_born htg hK pm_cl12 (by decide +kernel) hkC3 e3 o3 hz2
  have hPC3 : va_P D vwCl (pm_ws aC B lw_SC lw_C0) H3 := lw_keep (A := fun q => ¬ q < B + 228 + 1) hPC2 (fun q g1 g2 z => z (by omega)) (fun q _ g2 => o3 q (by simpa using g2))
  have hS3 : va_S (fun q : Nat => s.heap.size ≤ q) s.heap H3 locs2 := pm_S_push hS2 hz2 z3 o3
  refine W.eq (g2 := F0 m 11 ls [.ref (B + 228 + 1)]) rfl ?_
  refine lv_dup hx hb dL_law_11 rfl ?_
  refine lw_ctor (B1 := B + 228) (S1 := [(15, 43)]) (S2 := lw_SR) (σ2 := lw_R0) C0 hK (by omega) hPR3 (by rw [z3]; rfl) hS3 hl miL_12 (KX12_init l ⟨43, rfl⟩ (lw_z_Z _) rfl).1 (by decide) (by decide) (Nat.le_of_ble_eq_true rfl) ⟨by show 228 + 1 + (lw_SR.length - 1) ≤ 600000; omega, by show pm_tot lw_SC + 43 + (pm_tot lw_SR - 43) ≤ 7302250; omega⟩ dL_law_12 (fun H4 locs4 hPR4 hS4 hk4 => ?_)
  have hPC4 : va_P D vwCl (pm_ws aC B lw_SC lw_C0) H4 := lw_keep hPC3 (fun q g1 g2 z => by have := z.1; omega) hk4
  refine W.widen (k := 251) (n := pm_tot lw_SC + pm_tot lw_SR) (by show 228 + 1 + (lw_SR.length - 1) ≤ 251; omega) (by show pm_tot lw_SC + 43 + (pm_tot lw_SR - 43) ≤ pm_tot lw_SC + pm_tot lw_SR; omega) ?_
  refine lv_astore_n (lv' := [(2, .ref (B + 228 + 1)), (1, .ref (B + 1)), (0, .ref b)]) hx hb dL_law_15 rfl hl (by decide) rfl (fun ls hl => ?_)
  refine lv_iconst (v := nI 0) hx hb dL_law_16 (by decide) ?_
  refine lv_istore_n (lv' := [(3, .int (nI 0)), (2, .ref (B + 228 + 1)), (1, .ref (B + 1)), (0, .ref b)]) hx hb dL_law_17 rfl hl (by decide) rfl (fun ls hl => ?_)
  exact lw_loop l hL hR (L + 8) 0 lw_C0 lw_R0 (by omega) (by omega) hR.1 p e s m below meth c b D aC B H4 ls locs4 C0 hK hB hPC4 hPR4 lw_TC lw_TR hS4 (lv_sub hl [3, 2, 1, 0] rfl)
